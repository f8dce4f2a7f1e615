section
variable {p : Program} {l : Launch} {e : Env} {R : Room} {s : State} {mt : MethodId} {args : Array Value} {below : List Frame} {meth : Method} {c : Code} {g : zG} {Q : State → Prop} {u u2 : Nat × Nat} {nL : Nat} {t : zT} {m : zM} {pc p1 p2 : Nat} {lv lv2 : List (Nat × Value)} {st rest : List Value} {cc : ByteArray} {own : String} {h b L k j w : Nat} {xs : Nat → Int32}
theorem law_c15 (C : zC p room_1 s mt #[Value.ref b] meth c g code 7 RL 16) (S : SCR s g b L xs k) (i : Inv t m w) (hj : j < 512) (next : ∀ t' m' w', Inv t' m' w' → zW p l e room_1 s mt #[Value.ref b] below meth c g Q (cu (j + 1), su (j + 1) w') 7 t' m' 1496 (lwl k) []) : zW p l e room_1 s mt #[Value.ref b] below meth c g Q (cu j, su j w) 7 t m 655 (lwl k) [] := by
  have hm := i.max
  have bd := cu_b hj (w := w) hm
  obtain ⟨P, H, hP⟩ := st_proof (x := (xs (nI k + 1).toNatClampNeg)) i
  have K := lk1 i.lay
  have K2 := lk75 i.lay
  refine z_aload_n (pc := 655) C (dL_law_p2 66 rfl) rfl 3 rfl ?_
  refine z_aload_nS (pc := 656) C (dL_law_p2 67 rfl) rfl 4 rfl ?_
  refine z_iload (pc := 657) C (dL_law_p2 68 rfl) 0 rfl ?_
  refine z_iconst (pc := 659) (v := 1) C (dL_law_p2 69 rfl) (by decide) ?_
  refine z_iadd (pc := 660) C (dL_law_p2 70 rfl) ?_
  refine z_sld (pc := 661) C S (sc_in S.2.2.2.2.1 S.2.2.2.2.2 (by decide) rfl) (dL_law_p2 71 rfl) ?_
  refine zc_Vi (pc := 662) (rest := []) C YX9_proof wl_L_83 (kX9_proof H) (by decide) K rfl (by decide) (dL_law_p2 72 rfl) rfl bd.2.1 bd.2.2.1 (Nat.le_of_ble_eq_true rfl) rfl (fun r m1 H => ?_)
  refine z_aload_n (pc := 665) C (dL_law_p2 73 rfl) rfl 2 rfl ?_
  refine z_aload_nS (pc := 666) C (dL_law_p2 74 rfl) rfl 4 rfl ?_
  refine z_iload (pc := 667) C (dL_law_p2 75 rfl) 0 rfl ?_
  refine z_iconst (pc := 669) (v := 1) C (dL_law_p2 76 rfl) (by decide) ?_
  refine z_iadd (pc := 670) C (dL_law_p2 77 rfl) ?_
  refine z_sld (pc := 671) C S (sc_in S.2.2.2.2.1 S.2.2.2.2.2 (by decide) rfl) (dL_law_p2 78 rfl) ?_
  refine zc_Vi (pc := 672) (rest := [.int r]) C YX12_proof wl_L_86 (kX12_proof H) (by decide) K2 rfl (by decide) (dL_law_p2 79 rfl) rfl bd.2.1 bd.2.2.1 (Nat.le_of_ble_eq_true rfl) rfl (fun r2 m2 H => ?_)
  obtain ⟨e, w', i', hw⟩ := hP r r2 m2 H
  exact z_icmp_eq (pc := 675) (tgt := 1496) C (dL_law_p2 80 rfl) (by decide) (fun _ => z_widen (u2 := (cu (j + 1), su (j + 1) w')) (by show cu j ≤ cu (j + 1); unfold cu; omega) (by show su j w ≤ su (j + 1) w'; unfold su; omega) (next t m2 w' i')) (fun h => absurd e h)
theorem law_c16 (C : zC p room_1 s mt #[Value.ref b] meth c g code 7 RL 16) (S : SCR s g b L xs k) (i : Inv t m w) (hj : j < 512) (next : ∀ t' m' w', Inv t' m' w' → zW p l e room_1 s mt #[Value.ref b] below meth c g Q (cu (j + 1), su (j + 1) w') 7 t' m' 1496 (lwl k) []) : zW p l e room_1 s mt #[Value.ref b] below meth c g Q (cu j, su j w) 7 t m 680 (lwl k) [] := by
  have hm := i.max
  have bd := cu_b hj (w := w) hm
  obtain ⟨P, H, hP⟩ := st_proofBy (x := (xs (nI k + 1).toNatClampNeg)) i
  have K := lk1 i.lay
  have K2 := lk75 i.lay
  refine z_aload_n (pc := 680) C (dL_law_p2 83 rfl) rfl 3 rfl ?_
  refine z_aload_nS (pc := 681) C (dL_law_p2 84 rfl) rfl 4 rfl ?_
  refine z_iload (pc := 682) C (dL_law_p2 85 rfl) 0 rfl ?_
  refine z_iconst (pc := 684) (v := 1) C (dL_law_p2 86 rfl) (by decide) ?_
  refine z_iadd (pc := 685) C (dL_law_p2 87 rfl) ?_
  refine z_sld (pc := 686) C S (sc_in S.2.2.2.2.1 S.2.2.2.2.2 (by decide) rfl) (dL_law_p2 88 rfl) ?_
  refine zc_Vi (pc := 687) (rest := []) C YX9_proofBy wl_L_87 (kX9_proofBy H) (by decide) K rfl (by decide) (dL_law_p2 89 rfl) rfl bd.2.1 bd.2.2.1 (Nat.le_of_ble_eq_true rfl) rfl (fun r m1 H => ?_)
  refine z_aload_n (pc := 690) C (dL_law_p2 90 rfl) rfl 2 rfl ?_
  refine z_aload_nS (pc := 691) C (dL_law_p2 91 rfl) rfl 4 rfl ?_
  refine z_iload (pc := 692) C (dL_law_p2 92 rfl) 0 rfl ?_
  refine z_iconst (pc := 694) (v := 1) C (dL_law_p2 93 rfl) (by decide) ?_
  refine z_iadd (pc := 695) C (dL_law_p2 94 rfl) ?_
  refine z_sld (pc := 696) C S (sc_in S.2.2.2.2.1 S.2.2.2.2.2 (by decide) rfl) (dL_law_p2 95 rfl) ?_
  refine zc_Vi (pc := 697) (rest := [.int r]) C YX12_proofBy wl_L_90 (kX12_proofBy H) (by decide) K2 rfl (by decide) (dL_law_p2 96 rfl) rfl bd.2.1 bd.2.2.1 (Nat.le_of_ble_eq_true rfl) rfl (fun r2 m2 H => ?_)
  obtain ⟨e, w', i', hw⟩ := hP r r2 m2 H
  exact z_icmp_eq (pc := 700) (tgt := 1496) C (dL_law_p2 97 rfl) (by decide) (fun _ => z_widen (u2 := (cu (j + 1), su (j + 1) w')) (by show cu j ≤ cu (j + 1); unfold cu; omega) (by show su j w ≤ su (j + 1) w'; unfold su; omega) (next t m2 w' i')) (fun h => absurd e h)
theorem law_c17 (C : zC p room_1 s mt #[Value.ref b] meth c g code 7 RL 16) (S : SCR s g b L xs k) (i : Inv t m w) (hj : j < 512) (next : ∀ t' m' w', Inv t' m' w' → zW p l e room_1 s mt #[Value.ref b] below meth c g Q (cu (j + 1), su (j + 1) w') 7 t' m' 1496 (lwl k) []) : zW p l e room_1 s mt #[Value.ref b] below meth c g Q (cu j, su j w) 7 t m 705 (lwl k) [] := by
  have hm := i.max
  have bd := cu_b hj (w := w) hm
  obtain ⟨c1, c2, P, h1, h2, h3, H, hP⟩ := st_worst  i
  have K := lk1 i.lay
  have K2 := lk75 i.lay
  refine z_aload_n (pc := 705) C (dL_law_p2 100 rfl) rfl 3 rfl ?_
  refine za_Vi (pc := 706) (rest := []) C YX9_worst wl_L_91 (kX9_worst H) (by decide) K rfl (by decide) (dL_law_p2 101 rfl) rfl (Nat.le_trans (Nat.add_le_add_left h1 _) bd.1) (by have := bd.2.2; show su j w + c1.2 ≤ 7293033; omega) (Nat.le_of_ble_eq_true rfl) rfl (fun r t1 m1 H => ?_)
  refine z_aload_n (pc := 709) C (dL_law_p2 102 rfl) rfl 2 rfl ?_
  refine za_Vi (pc := 710) (rest := [.int r]) C YX12_worst wl_L_94 (kX12_worst H) (by decide) H.1 rfl (by decide) (dL_law_p2 103 rfl) rfl (by have := bd.2.2.2.2.2; show cu j + c1.1 + c2.1 ≤ 601024; omega) (by have := bd.2.2.2.2.1; show su j w + c1.2 + c2.2 ≤ 7293033; omega) (Nat.le_of_ble_eq_true rfl) rfl (fun r2 t2 m2 H => ?_)
  obtain ⟨e, w', i', hw⟩ := hP r r2 t2 m2 H
  exact z_icmp_eq (pc := 713) (tgt := 1496) C (dL_law_p2 104 rfl) (by decide) (fun _ => z_widen (u2 := (cu (j + 1), su (j + 1) w')) (by show cu j + c1.1 + c2.1 ≤ cu (j + 1); unfold cu; omega) (by show su j w + c1.2 + c2.2 ≤ su (j + 1) w'; unfold su; omega) (next t2 m2 w' i')) (fun h => absurd e h)
theorem law_c18 (C : zC p room_1 s mt #[Value.ref b] meth c g code 7 RL 16) (S : SCR s g b L xs k) (i : Inv t m w) (hj : j < 512) (next : ∀ t' m' w', Inv t' m' w' → zW p l e room_1 s mt #[Value.ref b] below meth c g Q (cu (j + 1), su (j + 1) w') 7 t' m' 1496 (lwl k) []) : zW p l e room_1 s mt #[Value.ref b] below meth c g Q (cu j, su j w) 7 t m 718 (lwl k) [] := by
  have hm := i.max
  have bd := cu_b hj (w := w) hm
  obtain ⟨c1, c2, P, h1, h2, h3, H, hP⟩ := st_first  i
  have K := lk1 i.lay
  have K2 := lk75 i.lay
  refine z_aload_n (pc := 718) C (dL_law_p2 107 rfl) rfl 3 rfl ?_
  refine za_Vi (pc := 719) (rest := []) C YX9_first wl_L_95 (kX9_first H) (by decide) K rfl (by decide) (dL_law_p2 108 rfl) rfl (Nat.le_trans (Nat.add_le_add_left h1 _) bd.1) (by have := bd.2.2; show su j w + c1.2 ≤ 7293033; omega) (Nat.le_of_ble_eq_true rfl) rfl (fun r t1 m1 H => ?_)
  refine z_aload_n (pc := 722) C (dL_law_p2 109 rfl) rfl 2 rfl ?_
  refine za_Vi (pc := 723) (rest := [.int r]) C YX12_first wl_L_98 (kX12_first H) (by decide) H.1 rfl (by decide) (dL_law_p2 110 rfl) rfl (by have := bd.2.2.2.2.2; show cu j + c1.1 + c2.1 ≤ 601024; omega) (by have := bd.2.2.2.2.1; show su j w + c1.2 + c2.2 ≤ 7293033; omega) (Nat.le_of_ble_eq_true rfl) rfl (fun r2 t2 m2 H => ?_)
  obtain ⟨e, w', i', hw⟩ := hP r r2 t2 m2 H
  exact z_icmp_eq (pc := 726) (tgt := 1496) C (dL_law_p2 111 rfl) (by decide) (fun _ => z_widen (u2 := (cu (j + 1), su (j + 1) w')) (by show cu j + c1.1 + c2.1 ≤ cu (j + 1); unfold cu; omega) (by show su j w + c1.2 + c2.2 ≤ su (j + 1) w'; unfold su; omega) (next t2 m2 w' i')) (fun h => absurd e h)
theorem law_c19 (C : zC p room_1 s mt #[Value.ref b] meth c g code 7 RL 16) (S : SCR s g b L xs k) (i : Inv t m w) (hj : j < 512) (next : ∀ t' m' w', Inv t' m' w' → zW p l e room_1 s mt #[Value.ref b] below meth c g Q (cu (j + 1), su (j + 1) w') 7 t' m' 1496 (lwl k) []) : zW p l e room_1 s mt #[Value.ref b] below meth c g Q (cu j, su j w) 7 t m 731 (lwl k) [] := by
  have hm := i.max
  have bd := cu_b hj (w := w) hm
  obtain ⟨c1, c2, P, h1, h2, h3, H, hP⟩ := st_mean (x := (bo (xs (nI k + 1).toNatClampNeg))) i
  have K := lk1 i.lay
  have K2 := lk75 i.lay
  refine z_aload_n (pc := 731) C (dL_law_p2 114 rfl) rfl 3 rfl ?_
  refine z_aload_nS (pc := 732) C (dL_law_p2 115 rfl) rfl 4 rfl ?_
  refine z_iload (pc := 733) C (dL_law_p2 116 rfl) 0 rfl ?_
  refine z_iconst (pc := 735) (v := 1) C (dL_law_p2 117 rfl) (by decide) ?_
  refine z_iadd (pc := 736) C (dL_law_p2 118 rfl) ?_
  refine z_sld (pc := 737) C S (sc_in S.2.2.2.2.1 S.2.2.2.2.2 (by decide) rfl) (dL_law_p2 119 rfl) ?_
  refine z_bool (pc := 738) (p1 := 745) (p2 := 746) C (dL_law_p3 0 rfl) (by decide) (dL_law_p3 1 rfl) (dL_law_p3 2 rfl) (by decide) (dL_law_p3 3 rfl) rfl ?_
  refine za_Vi (pc := 746) (rest := []) C YX9_mean wl_L_99 (kX9_mean H) (by decide) K rfl (by decide) (dL_law_p3 4 rfl) rfl (Nat.le_trans (Nat.add_le_add_left h1 _) bd.1) (by have := bd.2.2; show su j w + c1.2 ≤ 7293033; omega) (Nat.le_of_ble_eq_true rfl) rfl (fun r t1 m1 H => ?_)
  refine z_aload_n (pc := 749) C (dL_law_p3 5 rfl) rfl 2 rfl ?_
  refine z_aload_nS (pc := 750) C (dL_law_p3 6 rfl) rfl 4 rfl ?_
  refine z_iload (pc := 751) C (dL_law_p3 7 rfl) 0 rfl ?_
  refine z_iconst (pc := 753) (v := 1) C (dL_law_p3 8 rfl) (by decide) ?_
  refine z_iadd (pc := 754) C (dL_law_p3 9 rfl) ?_
  refine z_sld (pc := 755) C S (sc_in S.2.2.2.2.1 S.2.2.2.2.2 (by decide) rfl) (dL_law_p3 10 rfl) ?_
  refine z_bool (pc := 756) (p1 := 763) (p2 := 764) C (dL_law_p3 11 rfl) (by decide) (dL_law_p3 12 rfl) (dL_law_p3 13 rfl) (by decide) (dL_law_p3 14 rfl) rfl ?_
  refine za_Vi (pc := 764) (rest := [.int r]) C YX12_mean wl_L_103 (kX12_mean H) (by decide) H.1 rfl (by decide) (dL_law_p3 15 rfl) rfl (by have := bd.2.2.2.2.2; show cu j + c1.1 + c2.1 ≤ 601024; omega) (by have := bd.2.2.2.2.1; show su j w + c1.2 + c2.2 ≤ 7293033; omega) (Nat.le_of_ble_eq_true rfl) rfl (fun r2 t2 m2 H => ?_)
  obtain ⟨e, w', i', hw⟩ := hP r r2 t2 m2 H
  exact z_icmp_eq (pc := 767) (tgt := 1496) C (dL_law_p3 16 rfl) (by decide) (fun _ => z_widen (u2 := (cu (j + 1), su (j + 1) w')) (by show cu j + c1.1 + c2.1 ≤ cu (j + 1); unfold cu; omega) (by show su j w + c1.2 + c2.2 ≤ su (j + 1) w'; unfold su; omega) (next t2 m2 w' i')) (fun h => absurd e h)
theorem law_c20 (C : zC p room_1 s mt #[Value.ref b] meth c g code 7 RL 16) (S : SCR s g b L xs k) (i : Inv t m w) (hj : j < 512) (next : ∀ t' m' w', Inv t' m' w' → zW p l e room_1 s mt #[Value.ref b] below meth c g Q (cu (j + 1), su (j + 1) w') 7 t' m' 1496 (lwl k) []) : zW p l e room_1 s mt #[Value.ref b] below meth c g Q (cu j, su j w) 7 t m 772 (lwl k) [] := by
  have hm := i.max
  have bd := cu_b hj (w := w) hm
  obtain ⟨c1, c2, P, h1, h2, h3, H, hP⟩ := st_meanFirst  i
  have K := lk1 i.lay
  have K2 := lk75 i.lay
  refine z_aload_n (pc := 772) C (dL_law_p3 19 rfl) rfl 3 rfl ?_
  refine za_Vi (pc := 773) (rest := []) C YX9_meanFirst wl_L_104 (kX9_meanFirst H) (by decide) K rfl (by decide) (dL_law_p3 20 rfl) rfl (Nat.le_trans (Nat.add_le_add_left h1 _) bd.1) (by have := bd.2.2; show su j w + c1.2 ≤ 7293033; omega) (Nat.le_of_ble_eq_true rfl) rfl (fun r t1 m1 H => ?_)
  refine z_aload_n (pc := 776) C (dL_law_p3 21 rfl) rfl 2 rfl ?_
  refine za_Vi (pc := 777) (rest := [.int r]) C YX12_meanFirst wl_L_107 (kX12_meanFirst H) (by decide) H.1 rfl (by decide) (dL_law_p3 22 rfl) rfl (by have := bd.2.2.2.2.2; show cu j + c1.1 + c2.1 ≤ 601024; omega) (by have := bd.2.2.2.2.1; show su j w + c1.2 + c2.2 ≤ 7293033; omega) (Nat.le_of_ble_eq_true rfl) rfl (fun r2 t2 m2 H => ?_)
  obtain ⟨e, w', i', hw⟩ := hP r r2 t2 m2 H
  exact z_icmp_eq (pc := 780) (tgt := 1496) C (dL_law_p3 23 rfl) (by decide) (fun _ => z_widen (u2 := (cu (j + 1), su (j + 1) w')) (by show cu j + c1.1 + c2.1 ≤ cu (j + 1); unfold cu; omega) (by show su j w + c1.2 + c2.2 ≤ su (j + 1) w'; unfold su; omega) (next t2 m2 w' i')) (fun h => absurd e h)
theorem law_c21 (C : zC p room_1 s mt #[Value.ref b] meth c g code 7 RL 16) (S : SCR s g b L xs k) (i : Inv t m w) (hj : j < 512) (next : ∀ t' m' w', Inv t' m' w' → zW p l e room_1 s mt #[Value.ref b] below meth c g Q (cu (j + 1), su (j + 1) w') 7 t' m' 1496 (lwl k) []) : zW p l e room_1 s mt #[Value.ref b] below meth c g Q (cu j, su j w) 7 t m 785 (lwl k) [] := by
  have hm := i.max
  have bd := cu_b hj (w := w) hm
  obtain ⟨P, H, hP⟩ := st_left (x := (xs (nI k + 1).toNatClampNeg)) (x2 := (xs (nI k + 2).toNatClampNeg)) i
  have K := lk1 i.lay
  have K2 := lk75 i.lay
  refine z_aload_n (pc := 785) C (dL_law_p3 26 rfl) rfl 3 rfl ?_
  refine z_aload_nS (pc := 786) C (dL_law_p3 27 rfl) rfl 4 rfl ?_
  refine z_iload (pc := 787) C (dL_law_p3 28 rfl) 0 rfl ?_
  refine z_iconst (pc := 789) (v := 1) C (dL_law_p3 29 rfl) (by decide) ?_
  refine z_iadd (pc := 790) C (dL_law_p3 30 rfl) ?_
  refine z_sld (pc := 791) C S (sc_in S.2.2.2.2.1 S.2.2.2.2.2 (by decide) rfl) (dL_law_p3 31 rfl) ?_
  refine z_aload_nS (pc := 792) C (dL_law_p3 32 rfl) rfl 4 rfl ?_
  refine z_iload (pc := 793) C (dL_law_p3 33 rfl) 0 rfl ?_
  refine z_iconst (pc := 795) (v := 2) C (dL_law_p3 34 rfl) (by decide) ?_
  refine z_iadd (pc := 796) C (dL_law_p3 35 rfl) ?_
  refine z_sld (pc := 797) C S (sc_in S.2.2.2.2.1 S.2.2.2.2.2 (by decide) rfl) (dL_law_p3 36 rfl) ?_
  refine zc_Vi (pc := 798) (rest := []) C YX9_left wl_L_108 (kX9_left H) (by decide) K rfl (by decide) (dL_law_p3 37 rfl) rfl bd.2.1 bd.2.2.1 (Nat.le_of_ble_eq_true rfl) rfl (fun r m1 H => ?_)
  refine z_aload_n (pc := 801) C (dL_law_p3 38 rfl) rfl 2 rfl ?_
  refine z_aload_nS (pc := 802) C (dL_law_p3 39 rfl) rfl 4 rfl ?_
  refine z_iload (pc := 803) C (dL_law_p3 40 rfl) 0 rfl ?_
  refine z_iconst (pc := 805) (v := 1) C (dL_law_p3 41 rfl) (by decide) ?_
  refine z_iadd (pc := 806) C (dL_law_p3 42 rfl) ?_
  refine z_sld (pc := 807) C S (sc_in S.2.2.2.2.1 S.2.2.2.2.2 (by decide) rfl) (dL_law_p3 43 rfl) ?_
  refine z_aload_nS (pc := 808) C (dL_law_p3 44 rfl) rfl 4 rfl ?_
  refine z_iload (pc := 809) C (dL_law_p3 45 rfl) 0 rfl ?_
  refine z_iconst (pc := 811) (v := 2) C (dL_law_p3 46 rfl) (by decide) ?_
  refine z_iadd (pc := 812) C (dL_law_p3 47 rfl) ?_
  refine z_sld (pc := 813) C S (sc_in S.2.2.2.2.1 S.2.2.2.2.2 (by decide) rfl) (dL_law_p3 48 rfl) ?_
  refine zc_Vi (pc := 814) (rest := [.int r]) C YX12_left wl_L_112 (kX12_left H) (by decide) K2 rfl (by decide) (dL_law_p3 49 rfl) rfl bd.2.1 bd.2.2.1 (Nat.le_of_ble_eq_true rfl) rfl (fun r2 m2 H => ?_)
  obtain ⟨e, w', i', hw⟩ := hP r r2 m2 H
  exact z_icmp_eq (pc := 817) (tgt := 1496) C (dL_law_p3 50 rfl) (by decide) (fun _ => z_widen (u2 := (cu (j + 1), su (j + 1) w')) (by show cu j ≤ cu (j + 1); unfold cu; omega) (by show su j w ≤ su (j + 1) w'; unfold su; omega) (next t m2 w' i')) (fun h => absurd e h)
theorem law_c22 (C : zC p room_1 s mt #[Value.ref b] meth c g code 7 RL 16) (S : SCR s g b L xs k) (i : Inv t m w) (hj : j < 512) (next : ∀ t' m' w', Inv t' m' w' → zW p l e room_1 s mt #[Value.ref b] below meth c g Q (cu (j + 1), su (j + 1) w') 7 t' m' 1496 (lwl k) []) : zW p l e room_1 s mt #[Value.ref b] below meth c g Q (cu j, su j w) 7 t m 822 (lwl k) [] := by
  have hm := i.max
  have bd := cu_b hj (w := w) hm
  obtain ⟨P, H, hP⟩ := st_listen  i
  have K := lk1 i.lay
  have K2 := lk75 i.lay
  refine z_aload_n (pc := 822) C (dL_law_p3 53 rfl) rfl 3 rfl ?_
  refine zc_Vi (pc := 823) (rest := []) C YX9_listen wl_L_113 (kX9_listen H) (by decide) K rfl (by decide) (dL_law_p3 54 rfl) rfl bd.2.1 bd.2.2.1 (Nat.le_of_ble_eq_true rfl) rfl (fun r m1 H => ?_)
  refine z_aload_n (pc := 826) C (dL_law_p3 55 rfl) rfl 2 rfl ?_
  refine zc_Vi (pc := 827) (rest := [.int r]) C YX12_listen wl_L_116 (kX12_listen H) (by decide) K2 rfl (by decide) (dL_law_p3 56 rfl) rfl bd.2.1 bd.2.2.1 (Nat.le_of_ble_eq_true rfl) rfl (fun r2 m2 H => ?_)
  obtain ⟨e, w', i', hw⟩ := hP r r2 m2 H
  exact z_icmp_eq (pc := 830) (tgt := 1496) C (dL_law_p3 57 rfl) (by decide) (fun _ => z_widen (u2 := (cu (j + 1), su (j + 1) w')) (by show cu j ≤ cu (j + 1); unfold cu; omega) (by show su j w ≤ su (j + 1) w'; unfold su; omega) (next t m2 w' i')) (fun h => absurd e h)
theorem law_c23 (C : zC p room_1 s mt #[Value.ref b] meth c g code 7 RL 16) (S : SCR s g b L xs k) (i : Inv t m w) (hj : j < 512) (next : ∀ t' m' w', Inv t' m' w' → zW p l e room_1 s mt #[Value.ref b] below meth c g Q (cu (j + 1), su (j + 1) w') 7 t' m' 1496 (lwl k) []) : zW p l e room_1 s mt #[Value.ref b] below meth c g Q (cu j, su j w) 7 t m 835 (lwl k) [] := by
  have hm := i.max
  have bd := cu_b hj (w := w) hm
  obtain ⟨P, H, hP⟩ := st_believes (x := (xs (nI k + 1).toNatClampNeg)) (x2 := (xs (nI k + 2).toNatClampNeg)) i
  have K := lk1 i.lay
  have K2 := lk75 i.lay
  refine z_aload_n (pc := 835) C (dL_law_p3 60 rfl) rfl 3 rfl ?_
  refine z_aload_nS (pc := 836) C (dL_law_p3 61 rfl) rfl 4 rfl ?_
  refine z_iload (pc := 837) C (dL_law_p3 62 rfl) 0 rfl ?_
  refine z_iconst (pc := 839) (v := 1) C (dL_law_p3 63 rfl) (by decide) ?_
  refine z_iadd (pc := 840) C (dL_law_p3 64 rfl) ?_
  refine z_sld (pc := 841) C S (sc_in S.2.2.2.2.1 S.2.2.2.2.2 (by decide) rfl) (dL_law_p3 65 rfl) ?_
  refine z_aload_nS (pc := 842) C (dL_law_p3 66 rfl) rfl 4 rfl ?_
  refine z_iload (pc := 843) C (dL_law_p3 67 rfl) 0 rfl ?_
  refine z_iconst (pc := 845) (v := 2) C (dL_law_p3 68 rfl) (by decide) ?_
  refine z_iadd (pc := 846) C (dL_law_p3 69 rfl) ?_
  refine z_sld (pc := 847) C S (sc_in S.2.2.2.2.1 S.2.2.2.2.2 (by decide) rfl) (dL_law_p3 70 rfl) ?_
  refine zc_Vi (pc := 848) (rest := []) C YX9_believes wl_L_117 (kX9_believes H) (by decide) K rfl (by decide) (dL_law_p3 71 rfl) rfl bd.2.1 bd.2.2.1 (Nat.le_of_ble_eq_true rfl) rfl (fun r m1 H => ?_)
  refine z_aload_n (pc := 851) C (dL_law_p3 72 rfl) rfl 2 rfl ?_
  refine z_aload_nS (pc := 852) C (dL_law_p3 73 rfl) rfl 4 rfl ?_
  refine z_iload (pc := 853) C (dL_law_p3 74 rfl) 0 rfl ?_
  refine z_iconst (pc := 855) (v := 1) C (dL_law_p3 75 rfl) (by decide) ?_
  refine z_iadd (pc := 856) C (dL_law_p3 76 rfl) ?_
  refine z_sld (pc := 857) C S (sc_in S.2.2.2.2.1 S.2.2.2.2.2 (by decide) rfl) (dL_law_p3 77 rfl) ?_
  refine z_aload_nS (pc := 858) C (dL_law_p3 78 rfl) rfl 4 rfl ?_
  refine z_iload (pc := 859) C (dL_law_p3 79 rfl) 0 rfl ?_
  refine z_iconst (pc := 861) (v := 2) C (dL_law_p3 80 rfl) (by decide) ?_
  refine z_iadd (pc := 862) C (dL_law_p3 81 rfl) ?_
  refine z_sld (pc := 863) C S (sc_in S.2.2.2.2.1 S.2.2.2.2.2 (by decide) rfl) (dL_law_p3 82 rfl) ?_
  refine zc_Vi (pc := 864) (rest := [.int r]) C YX12_believes wl_L_120 (kX12_believes H) (by decide) K2 rfl (by decide) (dL_law_p3 83 rfl) rfl bd.2.1 bd.2.2.1 (Nat.le_of_ble_eq_true rfl) rfl (fun r2 m2 H => ?_)
  obtain ⟨e, w', i', hw⟩ := hP r r2 m2 H
  exact z_icmp_eq (pc := 867) (tgt := 1496) C (dL_law_p3 84 rfl) (by decide) (fun _ => z_widen (u2 := (cu (j + 1), su (j + 1) w')) (by show cu j ≤ cu (j + 1); unfold cu; omega) (by show su j w ≤ su (j + 1) w'; unfold su; omega) (next t m2 w' i')) (fun h => absurd e h)
theorem law_c24 (C : zC p room_1 s mt #[Value.ref b] meth c g code 7 RL 16) (S : SCR s g b L xs k) (i : Inv t m w) (hj : j < 512) (next : ∀ t' m' w', Inv t' m' w' → zW p l e room_1 s mt #[Value.ref b] below meth c g Q (cu (j + 1), su (j + 1) w') 7 t' m' 1496 (lwl k) []) : zW p l e room_1 s mt #[Value.ref b] below meth c g Q (cu j, su j w) 7 t m 872 (lwl k) [] := by
  have hm := i.max
  have bd := cu_b hj (w := w) hm
  obtain ⟨P, H, hP⟩ := st_knows (x := (xs (nI k + 1).toNatClampNeg)) i
  have K := lk1 i.lay
  have K2 := lk75 i.lay
  refine z_aload_n (pc := 872) C (dL_law_p3 87 rfl) rfl 3 rfl ?_
  refine z_aload_nS (pc := 873) C (dL_law_p3 88 rfl) rfl 4 rfl ?_
  refine z_iload (pc := 874) C (dL_law_p3 89 rfl) 0 rfl ?_
  refine z_iconst (pc := 876) (v := 1) C (dL_law_p3 90 rfl) (by decide) ?_
  refine z_iadd (pc := 877) C (dL_law_p3 91 rfl) ?_
  refine z_sld (pc := 878) C S (sc_in S.2.2.2.2.1 S.2.2.2.2.2 (by decide) rfl) (dL_law_p3 92 rfl) ?_
  refine zc_Vi (pc := 879) (rest := []) C YX9_knows wl_L_121 (kX9_knows H) (by decide) K rfl (by decide) (dL_law_p3 93 rfl) rfl bd.2.1 bd.2.2.1 (Nat.le_of_ble_eq_true rfl) rfl (fun r m1 H => ?_)
  refine z_aload_n (pc := 882) C (dL_law_p3 94 rfl) rfl 2 rfl ?_
  refine z_aload_nS (pc := 883) C (dL_law_p3 95 rfl) rfl 4 rfl ?_
  refine z_iload (pc := 884) C (dL_law_p3 96 rfl) 0 rfl ?_
  refine z_iconst (pc := 886) (v := 1) C (dL_law_p3 97 rfl) (by decide) ?_
  refine z_iadd (pc := 887) C (dL_law_p3 98 rfl) ?_
  refine z_sld (pc := 888) C S (sc_in S.2.2.2.2.1 S.2.2.2.2.2 (by decide) rfl) (dL_law_p3 99 rfl) ?_
  refine zc_Vi (pc := 889) (rest := [.int r]) C YX12_knows wl_L_124 (kX12_knows H) (by decide) K2 rfl (by decide) (dL_law_p3 100 rfl) rfl bd.2.1 bd.2.2.1 (Nat.le_of_ble_eq_true rfl) rfl (fun r2 m2 H => ?_)
  obtain ⟨e, w', i', hw⟩ := hP r r2 m2 H
  exact z_icmp_eq (pc := 892) (tgt := 1496) C (dL_law_p3 101 rfl) (by decide) (fun _ => z_widen (u2 := (cu (j + 1), su (j + 1) w')) (by show cu j ≤ cu (j + 1); unfold cu; omega) (by show su j w ≤ su (j + 1) w'; unfold su; omega) (next t m2 w' i')) (fun h => absurd e h)
theorem law_c25 (C : zC p room_1 s mt #[Value.ref b] meth c g code 7 RL 16) (S : SCR s g b L xs k) (i : Inv t m w) (hj : j < 512) (next : ∀ t' m' w', Inv t' m' w' → zW p l e room_1 s mt #[Value.ref b] below meth c g Q (cu (j + 1), su (j + 1) w') 7 t' m' 1496 (lwl k) []) : zW p l e room_1 s mt #[Value.ref b] below meth c g Q (cu j, su j w) 7 t m 897 (lwl k) [] := by
  have hm := i.max
  have bd := cu_b hj (w := w) hm
  obtain ⟨P, H, hP⟩ := st_share (x := (xs (nI k + 1).toNatClampNeg)) i
  have K := lk1 i.lay
  have K2 := lk75 i.lay
  refine z_aload_n (pc := 897) C (dL_law_p3 104 rfl) rfl 3 rfl ?_
  refine z_aload_nS (pc := 898) C (dL_law_p3 105 rfl) rfl 4 rfl ?_
  refine z_iload (pc := 899) C (dL_law_p3 106 rfl) 0 rfl ?_
  refine z_iconst (pc := 901) (v := 1) C (dL_law_p3 107 rfl) (by decide) ?_
  refine z_iadd (pc := 902) C (dL_law_p3 108 rfl) ?_
  refine z_sld (pc := 903) C S (sc_in S.2.2.2.2.1 S.2.2.2.2.2 (by decide) rfl) (dL_law_p3 109 rfl) ?_
  refine zc_Vi (pc := 904) (rest := []) C YX9_share wl_L_125 (kX9_share H) (by decide) K rfl (by decide) (dL_law_p3 110 rfl) rfl bd.2.1 bd.2.2.1 (Nat.le_of_ble_eq_true rfl) rfl (fun r m1 H => ?_)
  refine z_aload_n (pc := 907) C (dL_law_p3 111 rfl) rfl 2 rfl ?_
  refine z_aload_nS (pc := 908) C (dL_law_p3 112 rfl) rfl 4 rfl ?_
  refine z_iload (pc := 909) C (dL_law_p3 113 rfl) 0 rfl ?_
  refine z_iconst (pc := 911) (v := 1) C (dL_law_p3 114 rfl) (by decide) ?_
  refine z_iadd (pc := 912) C (dL_law_p3 115 rfl) ?_
  refine z_sld (pc := 913) C S (sc_in S.2.2.2.2.1 S.2.2.2.2.2 (by decide) rfl) (dL_law_p3 116 rfl) ?_
  refine zc_Vi (pc := 914) (rest := [.int r]) C YX12_share wl_L_128 (kX12_share H) (by decide) K2 rfl (by decide) (dL_law_p3 117 rfl) rfl bd.2.1 bd.2.2.1 (Nat.le_of_ble_eq_true rfl) rfl (fun r2 m2 H => ?_)
  obtain ⟨e, w', i', hw⟩ := hP r r2 m2 H
  exact z_icmp_eq (pc := 917) (tgt := 1496) C (dL_law_p3 118 rfl) (by decide) (fun _ => z_widen (u2 := (cu (j + 1), su (j + 1) w')) (by show cu j ≤ cu (j + 1); unfold cu; omega) (by show su j w ≤ su (j + 1) w'; unfold su; omega) (next t m2 w' i')) (fun h => absurd e h)
theorem law_c26 (C : zC p room_1 s mt #[Value.ref b] meth c g code 7 RL 16) (S : SCR s g b L xs k) (i : Inv t m w) (hj : j < 512) (next : ∀ t' m' w', Inv t' m' w' → zW p l e room_1 s mt #[Value.ref b] below meth c g Q (cu (j + 1), su (j + 1) w') 7 t' m' 1496 (lwl k) []) : zW p l e room_1 s mt #[Value.ref b] below meth c g Q (cu j, su j w) 7 t m 922 (lwl k) [] := by
  have hm := i.max
  have bd := cu_b hj (w := w) hm
  obtain ⟨P, H, hP⟩ := st_passes (x := (xs (nI k + 1).toNatClampNeg)) (x2 := (xs (nI k + 2).toNatClampNeg)) (x3 := (bo (xs (nI k + 3).toNatClampNeg))) i
  have K := lk1 i.lay
  have K2 := lk75 i.lay
  refine z_aload_n (pc := 922) C (dL_law_p4 1 rfl) rfl 3 rfl ?_
  refine z_aload_nS (pc := 923) C (dL_law_p4 2 rfl) rfl 4 rfl ?_
  refine z_iload (pc := 924) C (dL_law_p4 3 rfl) 0 rfl ?_
  refine z_iconst (pc := 926) (v := 1) C (dL_law_p4 4 rfl) (by decide) ?_
  refine z_iadd (pc := 927) C (dL_law_p4 5 rfl) ?_
  refine z_sld (pc := 928) C S (sc_in S.2.2.2.2.1 S.2.2.2.2.2 (by decide) rfl) (dL_law_p4 6 rfl) ?_
  refine z_aload_nS (pc := 929) C (dL_law_p4 7 rfl) rfl 4 rfl ?_
  refine z_iload (pc := 930) C (dL_law_p4 8 rfl) 0 rfl ?_
  refine z_iconst (pc := 932) (v := 2) C (dL_law_p4 9 rfl) (by decide) ?_
  refine z_iadd (pc := 933) C (dL_law_p4 10 rfl) ?_
  refine z_sld (pc := 934) C S (sc_in S.2.2.2.2.1 S.2.2.2.2.2 (by decide) rfl) (dL_law_p4 11 rfl) ?_
  refine z_aload_nS (pc := 935) C (dL_law_p4 12 rfl) rfl 4 rfl ?_
  refine z_iload (pc := 936) C (dL_law_p4 13 rfl) 0 rfl ?_
  refine z_iconst (pc := 938) (v := 3) C (dL_law_p4 14 rfl) (by decide) ?_
  refine z_iadd (pc := 939) C (dL_law_p4 15 rfl) ?_
  refine z_sld (pc := 940) C S (sc_in S.2.2.2.2.1 S.2.2.2.2.2 (by decide) rfl) (dL_law_p4 16 rfl) ?_
  refine z_bool (pc := 941) (p1 := 948) (p2 := 949) C (dL_law_p4 17 rfl) (by decide) (dL_law_p4 18 rfl) (dL_law_p4 19 rfl) (by decide) (dL_law_p4 20 rfl) rfl ?_
  refine zc_Vi (pc := 949) (rest := []) C YX9_passes wl_L_129 (kX9_passes H) (by decide) K rfl (by decide) (dL_law_p4 21 rfl) rfl bd.2.1 bd.2.2.1 (Nat.le_of_ble_eq_true rfl) rfl (fun r m1 H => ?_)
  refine z_aload_n (pc := 952) C (dL_law_p4 22 rfl) rfl 2 rfl ?_
  refine z_aload_nS (pc := 953) C (dL_law_p4 23 rfl) rfl 4 rfl ?_
  refine z_iload (pc := 954) C (dL_law_p4 24 rfl) 0 rfl ?_
  refine z_iconst (pc := 956) (v := 1) C (dL_law_p4 25 rfl) (by decide) ?_
  refine z_iadd (pc := 957) C (dL_law_p4 26 rfl) ?_
  refine z_sld (pc := 958) C S (sc_in S.2.2.2.2.1 S.2.2.2.2.2 (by decide) rfl) (dL_law_p4 27 rfl) ?_
  refine z_aload_nS (pc := 959) C (dL_law_p4 28 rfl) rfl 4 rfl ?_
  refine z_iload (pc := 960) C (dL_law_p4 29 rfl) 0 rfl ?_
  refine z_iconst (pc := 962) (v := 2) C (dL_law_p4 30 rfl) (by decide) ?_
  refine z_iadd (pc := 963) C (dL_law_p4 31 rfl) ?_
  refine z_sld (pc := 964) C S (sc_in S.2.2.2.2.1 S.2.2.2.2.2 (by decide) rfl) (dL_law_p4 32 rfl) ?_
  refine z_aload_nS (pc := 965) C (dL_law_p4 33 rfl) rfl 4 rfl ?_
  refine z_iload (pc := 966) C (dL_law_p4 34 rfl) 0 rfl ?_
  refine z_iconst (pc := 968) (v := 3) C (dL_law_p4 35 rfl) (by decide) ?_
  refine z_iadd (pc := 969) C (dL_law_p4 36 rfl) ?_
  refine z_sld (pc := 970) C S (sc_in S.2.2.2.2.1 S.2.2.2.2.2 (by decide) rfl) (dL_law_p4 37 rfl) ?_
  refine z_bool (pc := 971) (p1 := 978) (p2 := 979) C (dL_law_p4 38 rfl) (by decide) (dL_law_p4 39 rfl) (dL_law_p4 40 rfl) (by decide) (dL_law_p4 41 rfl) rfl ?_
  refine zc_Vi (pc := 979) (rest := [.int r]) C YX12_passes wl_L_132 (kX12_passes H) (by decide) K2 rfl (by decide) (dL_law_p4 42 rfl) rfl bd.2.1 bd.2.2.1 (Nat.le_of_ble_eq_true rfl) rfl (fun r2 m2 H => ?_)
  obtain ⟨e, w', i', hw⟩ := hP r r2 m2 H
  exact z_icmp_eq (pc := 982) (tgt := 1496) C (dL_law_p4 43 rfl) (by decide) (fun _ => z_widen (u2 := (cu (j + 1), su (j + 1) w')) (by show cu j ≤ cu (j + 1); unfold cu; omega) (by show su j w ≤ su (j + 1) w'; unfold su; omega) (next t m2 w' i')) (fun h => absurd e h)
theorem law_c27 (C : zC p room_1 s mt #[Value.ref b] meth c g code 7 RL 16) (S : SCR s g b L xs k) (i : Inv t m w) (hj : j < 512) (next : ∀ t' m' w', Inv t' m' w' → zW p l e room_1 s mt #[Value.ref b] below meth c g Q (cu (j + 1), su (j + 1) w') 7 t' m' 1496 (lwl k) []) : zW p l e room_1 s mt #[Value.ref b] below meth c g Q (cu j, su j w) 7 t m 987 (lwl k) [] := by
  have hm := i.max
  have bd := cu_b hj (w := w) hm
  obtain ⟨P, H, hP⟩ := st_agree (x := (xs (nI k + 1).toNatClampNeg)) (x2 := (xs (nI k + 2).toNatClampNeg)) (x3 := (bo (xs (nI k + 3).toNatClampNeg))) i
  have K := lk1 i.lay
  have K2 := lk75 i.lay
  refine z_aload_n (pc := 987) C (dL_law_p4 46 rfl) rfl 3 rfl ?_
  refine z_aload_nS (pc := 988) C (dL_law_p4 47 rfl) rfl 4 rfl ?_
  refine z_iload (pc := 989) C (dL_law_p4 48 rfl) 0 rfl ?_
  refine z_iconst (pc := 991) (v := 1) C (dL_law_p4 49 rfl) (by decide) ?_
  refine z_iadd (pc := 992) C (dL_law_p4 50 rfl) ?_
  refine z_sld (pc := 993) C S (sc_in S.2.2.2.2.1 S.2.2.2.2.2 (by decide) rfl) (dL_law_p4 51 rfl) ?_
  refine z_aload_nS (pc := 994) C (dL_law_p4 52 rfl) rfl 4 rfl ?_
  refine z_iload (pc := 995) C (dL_law_p4 53 rfl) 0 rfl ?_
  refine z_iconst (pc := 997) (v := 2) C (dL_law_p4 54 rfl) (by decide) ?_
  refine z_iadd (pc := 998) C (dL_law_p4 55 rfl) ?_
  refine z_sld (pc := 999) C S (sc_in S.2.2.2.2.1 S.2.2.2.2.2 (by decide) rfl) (dL_law_p4 56 rfl) ?_
  refine z_aload_nS (pc := 1000) C (dL_law_p4 57 rfl) rfl 4 rfl ?_
  refine z_iload (pc := 1001) C (dL_law_p4 58 rfl) 0 rfl ?_
  refine z_iconst (pc := 1003) (v := 3) C (dL_law_p4 59 rfl) (by decide) ?_
  refine z_iadd (pc := 1004) C (dL_law_p4 60 rfl) ?_
  refine z_sld (pc := 1005) C S (sc_in S.2.2.2.2.1 S.2.2.2.2.2 (by decide) rfl) (dL_law_p4 61 rfl) ?_
  refine z_bool (pc := 1006) (p1 := 1013) (p2 := 1014) C (dL_law_p4 62 rfl) (by decide) (dL_law_p4 63 rfl) (dL_law_p4 64 rfl) (by decide) (dL_law_p4 65 rfl) rfl ?_
  refine zc_Vi (pc := 1014) (rest := []) C YX9_agree wl_L_133 (kX9_agree H) (by decide) K rfl (by decide) (dL_law_p4 66 rfl) rfl bd.2.1 bd.2.2.1 (Nat.le_of_ble_eq_true rfl) rfl (fun r m1 H => ?_)
  refine z_aload_n (pc := 1017) C (dL_law_p4 67 rfl) rfl 2 rfl ?_
  refine z_aload_nS (pc := 1018) C (dL_law_p4 68 rfl) rfl 4 rfl ?_
  refine z_iload (pc := 1019) C (dL_law_p4 69 rfl) 0 rfl ?_
  refine z_iconst (pc := 1021) (v := 1) C (dL_law_p4 70 rfl) (by decide) ?_
  refine z_iadd (pc := 1022) C (dL_law_p4 71 rfl) ?_
  refine z_sld (pc := 1023) C S (sc_in S.2.2.2.2.1 S.2.2.2.2.2 (by decide) rfl) (dL_law_p4 72 rfl) ?_
  refine z_aload_nS (pc := 1024) C (dL_law_p4 73 rfl) rfl 4 rfl ?_
  refine z_iload (pc := 1025) C (dL_law_p4 74 rfl) 0 rfl ?_
  refine z_iconst (pc := 1027) (v := 2) C (dL_law_p4 75 rfl) (by decide) ?_
  refine z_iadd (pc := 1028) C (dL_law_p4 76 rfl) ?_
  refine z_sld (pc := 1029) C S (sc_in S.2.2.2.2.1 S.2.2.2.2.2 (by decide) rfl) (dL_law_p4 77 rfl) ?_
  refine z_aload_nS (pc := 1030) C (dL_law_p4 78 rfl) rfl 4 rfl ?_
  refine z_iload (pc := 1031) C (dL_law_p4 79 rfl) 0 rfl ?_
  refine z_iconst (pc := 1033) (v := 3) C (dL_law_p4 80 rfl) (by decide) ?_
  refine z_iadd (pc := 1034) C (dL_law_p4 81 rfl) ?_
  refine z_sld (pc := 1035) C S (sc_in S.2.2.2.2.1 S.2.2.2.2.2 (by decide) rfl) (dL_law_p4 82 rfl) ?_
  refine z_bool (pc := 1036) (p1 := 1043) (p2 := 1044) C (dL_law_p4 83 rfl) (by decide) (dL_law_p4 84 rfl) (dL_law_p4 85 rfl) (by decide) (dL_law_p4 86 rfl) rfl ?_
  refine zc_Vi (pc := 1044) (rest := [.int r]) C YX12_agree wl_L_136 (kX12_agree H) (by decide) K2 rfl (by decide) (dL_law_p4 87 rfl) rfl bd.2.1 bd.2.2.1 (Nat.le_of_ble_eq_true rfl) rfl (fun r2 m2 H => ?_)
  obtain ⟨e, w', i', hw⟩ := hP r r2 m2 H
  exact z_icmp_eq (pc := 1047) (tgt := 1496) C (dL_law_p4 88 rfl) (by decide) (fun _ => z_widen (u2 := (cu (j + 1), su (j + 1) w')) (by show cu j ≤ cu (j + 1); unfold cu; omega) (by show su j w ≤ su (j + 1) w'; unfold su; omega) (next t m2 w' i')) (fun h => absurd e h)
theorem law_c28 (C : zC p room_1 s mt #[Value.ref b] meth c g code 7 RL 16) (S : SCR s g b L xs k) (i : Inv t m w) (hj : j < 512) (next : ∀ t' m' w', Inv t' m' w' → zW p l e room_1 s mt #[Value.ref b] below meth c g Q (cu (j + 1), su (j + 1) w') 7 t' m' 1496 (lwl k) []) : zW p l e room_1 s mt #[Value.ref b] below meth c g Q (cu j, su j w) 7 t m 1052 (lwl k) [] := by
  have hm := i.max
  have bd := cu_b hj (w := w) hm
  obtain ⟨P, H, hP⟩ := st_home (x := (xs (nI k + 1).toNatClampNeg)) i
  have K := lk1 i.lay
  have K2 := lk75 i.lay
  refine z_aload_n (pc := 1052) C (dL_law_p4 91 rfl) rfl 3 rfl ?_
  refine z_aload_nS (pc := 1053) C (dL_law_p4 92 rfl) rfl 4 rfl ?_
  refine z_iload (pc := 1054) C (dL_law_p4 93 rfl) 0 rfl ?_
  refine z_iconst (pc := 1056) (v := 1) C (dL_law_p4 94 rfl) (by decide) ?_
  refine z_iadd (pc := 1057) C (dL_law_p4 95 rfl) ?_
  refine z_sld (pc := 1058) C S (sc_in S.2.2.2.2.1 S.2.2.2.2.2 (by decide) rfl) (dL_law_p4 96 rfl) ?_
  refine zc_Vi (pc := 1059) (rest := []) C YX9_home wl_L_137 (kX9_home H) (by decide) K rfl (by decide) (dL_law_p4 97 rfl) rfl bd.2.1 bd.2.2.1 (Nat.le_of_ble_eq_true rfl) rfl (fun r m1 H => ?_)
  refine z_aload_n (pc := 1062) C (dL_law_p4 98 rfl) rfl 2 rfl ?_
  refine z_aload_nS (pc := 1063) C (dL_law_p4 99 rfl) rfl 4 rfl ?_
  refine z_iload (pc := 1064) C (dL_law_p4 100 rfl) 0 rfl ?_
  refine z_iconst (pc := 1066) (v := 1) C (dL_law_p4 101 rfl) (by decide) ?_
  refine z_iadd (pc := 1067) C (dL_law_p4 102 rfl) ?_
  refine z_sld (pc := 1068) C S (sc_in S.2.2.2.2.1 S.2.2.2.2.2 (by decide) rfl) (dL_law_p4 103 rfl) ?_
  refine zc_Vi (pc := 1069) (rest := [.int r]) C YX12_home wl_L_140 (kX12_home H) (by decide) K2 rfl (by decide) (dL_law_p4 104 rfl) rfl bd.2.1 bd.2.2.1 (Nat.le_of_ble_eq_true rfl) rfl (fun r2 m2 H => ?_)
  obtain ⟨e, w', i', hw⟩ := hP r r2 m2 H
  exact z_icmp_eq (pc := 1072) (tgt := 1496) C (dL_law_p4 105 rfl) (by decide) (fun _ => z_widen (u2 := (cu (j + 1), su (j + 1) w')) (by show cu j ≤ cu (j + 1); unfold cu; omega) (by show su j w ≤ su (j + 1) w'; unfold su; omega) (next t m2 w' i')) (fun h => absurd e h)
theorem law_c29 (C : zC p room_1 s mt #[Value.ref b] meth c g code 7 RL 16) (S : SCR s g b L xs k) (i : Inv t m w) (hj : j < 512) (next : ∀ t' m' w', Inv t' m' w' → zW p l e room_1 s mt #[Value.ref b] below meth c g Q (cu (j + 1), su (j + 1) w') 7 t' m' 1496 (lwl k) []) : zW p l e room_1 s mt #[Value.ref b] below meth c g Q (cu j, su j w) 7 t m 1077 (lwl k) [] := by
  have hm := i.max
  have bd := cu_b hj (w := w) hm
  obtain ⟨P, H, hP⟩ := st_bestHome  i
  have K := lk1 i.lay
  have K2 := lk75 i.lay
  refine z_aload_n (pc := 1077) C (dL_law_p4 108 rfl) rfl 3 rfl ?_
  refine zc_Vi (pc := 1078) (rest := []) C YX9_bestHome wl_L_141 (kX9_bestHome H) (by decide) K rfl (by decide) (dL_law_p4 109 rfl) rfl bd.2.1 bd.2.2.1 (Nat.le_of_ble_eq_true rfl) rfl (fun r m1 H => ?_)
  refine z_aload_n (pc := 1081) C (dL_law_p4 110 rfl) rfl 2 rfl ?_
  refine zc_Vi (pc := 1082) (rest := [.int r]) C YX12_bestHome wl_L_144 (kX12_bestHome H) (by decide) K2 rfl (by decide) (dL_law_p4 111 rfl) rfl bd.2.1 bd.2.2.1 (Nat.le_of_ble_eq_true rfl) rfl (fun r2 m2 H => ?_)
  obtain ⟨e, w', i', hw⟩ := hP r r2 m2 H
  exact z_icmp_eq (pc := 1085) (tgt := 1496) C (dL_law_p4 112 rfl) (by decide) (fun _ => z_widen (u2 := (cu (j + 1), su (j + 1) w')) (by show cu j ≤ cu (j + 1); unfold cu; omega) (by show su j w ≤ su (j + 1) w'; unfold su; omega) (next t m2 w' i')) (fun h => absurd e h)
end
