/-! the law's case 42 -/
section
variable {p : Program} {l : Launch} {e : Env} {R : Room} {s : State} {mt : MethodId} {args : Array Value} {below : List Frame} {meth : Method} {c : Code} {g : zG} {Q : State → Prop} {u : Nat × Nat} {nL : Nat} {t : zT} {m : zM} {pc : Nat} {lv lv2 : List (Nat × Value)} {st rest : List Value} {cc : ByteArray} {own : String} {h b L k j w : Nat} {xs : Nat → Int32}
theorem law_led (C : zC p room_1 s mt #[Value.ref b] meth c g code 7 RL 16) (hX : zX g s) (hl : l.stackTraces = false) : Led p l e s mt b below meth c g Q L xs := by
  intro k j w t m S i hj next
  have hm := i.max
  have bd := cu_b hj (w := w) hm
  have H := st_led2 (x := (xs (nI k + 1).toNatClampNeg)) i
  have hin : vp_in 0 (tL t 84) := by
    rw [ll84 i.lay]
    unfold vp_in
    decide
  refine z_aload_n (pc := 1402) C (dL_law_p6 89 rfl) rfl 3 rfl ?_
  refine z_aload_nS (pc := 1403) C (dL_law_p6 90 rfl) rfl 4 rfl ?_
  refine z_iload (pc := 1404) C (dL_law_p6 91 rfl) 0 rfl ?_
  refine z_iconst (pc := 1406) (v := 1) C (dL_law_p6 92 rfl) (by decide) ?_
  refine z_iadd (pc := 1407) C (dL_law_p6 93 rfl) ?_
  refine z_sld (pc := 1408) C S (sc_in S.2.2.2.2.1 S.2.2.2.2.2 (by decide) rfl) (dL_law_p6 94 rfl) ?_
  refine z_aload_n (pc := 1409) C (dL_law_p6 95 rfl) rfl 1 rfl ?_
  refine z_callL (pc := 1410) (As := [.ref 1, .int (xs (nI k + 1).toNatClampNeg), .ref 84]) (rest := []) C hX (kL_led hl (lk1 i.lay) (lk84 i.lay) hin H) (by decide) (dL_law_p6 96 rfl) rfl (by show cu j + 1 ≤ 601024; omega) (by show su j w + 6 ≤ 7293033; omega) (Nat.le_of_ble_eq_true rfl) rfl (fun v t' m' hP => ?_)
  rcases hP with ⟨r, hv, ht', hm', hA⟩ | ⟨hv, ⟨d, ht'⟩, hm', hB⟩
  · rw [hv, ht', hm']
    have K2 := lk75 i.lay
    refine z_istore (pc := 1413) (i := 5) (lv2 := (5, .int 0) :: lwl k) C (dL_law_p6 97 rfl) (by decide) rfl ?_
    refine z_aload_n (pc := 1415) C (dL_law_p6 98 rfl) rfl 3 rfl ?_
    refine z_aload_nS (pc := 1416) C (dL_law_p6 99 rfl) rfl 5 rfl ?_
    refine z_iload (pc := 1417) C (dL_law_p6 100 rfl) 1 rfl ?_
    refine z_iconst (pc := 1419) (v := 1) C (dL_law_p6 101 rfl) (by decide) ?_
    refine z_iadd (pc := 1420) C (dL_law_p6 102 rfl) ?_
    refine z_sld (pc := 1421) C S (sc_in S.2.2.2.2.1 S.2.2.2.2.2 (by decide) rfl) (dL_law_p6 103 rfl) ?_
    refine zc_Vi (pc := 1422) (rest := []) C YX12_led wl_L_200 (kX12_led hA) (by decide) K2 rfl (by decide) (dL_law_p6 104 rfl) rfl (by show cu j + 1 ≤ 601024; omega) (by show su j w + 6 ≤ 7293033; omega) (Nat.le_of_ble_eq_true rfl) rfl (fun b2 m2 H2 => ?_)
    obtain ⟨z0, zb, zj, i'⟩ := H2
    refine z_istore (pc := 1425) (i := 6) (lv2 := (6, .int b2) :: (5, .int 0) :: lwl k) C (dL_law_p6 105 rfl) (by decide) rfl ?_
    refine z_aload_n (pc := 1427) C (dL_law_p6 106 rfl) rfl 4 rfl ?_
    refine zc_Vi (pc := 1428) (rest := []) C YX12_thrown wl_L_201 (kX12_thrown (Q := fun r3 m3 => r3 = gI m2 75 0 ∧ m3 = m2) ⟨K2, rfl, rfl⟩) (by decide) K2 rfl (by decide) (dL_law_p6 107 rfl) rfl (by show cu j + 1 ≤ 601024; omega) (by show su j w + 6 ≤ 7293033; omega) (Nat.le_of_ble_eq_true rfl) rfl (fun r3 m3 H3 => ?_)
    obtain ⟨h3, h4⟩ := H3
    rw [h3, h4, z0]
    refine z_iload (pc := 1431) C (dL_law_p6 108 rfl) 1 rfl ?_
    refine z_icmp_eq (pc := 1433) (tgt := 1438) C (dL_law_p6 109 rfl) (by decide) (fun _ => ?_) (fun q => absurd rfl q)
    refine z_iload (pc := 1438) C (dL_law_p6 112 rfl) 1 rfl ?_
    refine z_if_ne (pc := 1440) (tgt := 1455) C (dL_law_p6 113 rfl) (by decide) (fun q => absurd rfl q) (fun _ => ?_)
    refine z_aload_n (pc := 1443) C (dL_law_p6 114 rfl) rfl 3 rfl ?_
    refine z_iconst (pc := 1444) (v := 0) C (dL_law_p6 115 rfl) (by decide) ?_
    refine z_laload (pc := 1445) C (lk84 i.lay) hin (dL_law_p6 116 rfl) ?_
    refine z_iload (pc := 1446) C (dL_law_p6 117 rfl) 0 rfl ?_
    refine z_i2l (pc := 1448) C (dL_law_p6 118 rfl) ?_
    refine z_lcmp (pc := 1449) C (dL_law_p6 119 rfl) ?_
    refine z_if_eq (pc := 1450) (tgt := 1455) C (dL_law_p7 0 rfl) (by decide) (fun _ => ?_) (fun q => absurd ((lg_cmp_eq _ _).mpr (zj.trans (by rw [zb]))) q)
    refine z_goto (pc := 1455) (tgt := 1496) C (dL_law_p7 3 rfl) (by decide) ?_
    refine z_sub [2, 3, 4, 5, 6] rfl ?_
    exact z_widen (u2 := (cu (j + 1), su (j + 1) w)) (by show cu j + 1 ≤ cu (j + 1); unfold cu; omega) (by show su j w + 6 ≤ su (j + 1) w; unfold su; omega) (next t m2 w i')
  · rw [hv, ht', hm']
    have K2 := lk75 (inv_xg i d).lay
    refine z_istore (pc := 1413) (i := 5) (lv2 := (5, .int 1) :: lwl k) C (dL_law_p6 97 rfl) (by decide) rfl ?_
    refine z_aload_n (pc := 1415) C (dL_law_p6 98 rfl) rfl 3 rfl ?_
    refine z_aload_nS (pc := 1416) C (dL_law_p6 99 rfl) rfl 5 rfl ?_
    refine z_iload (pc := 1417) C (dL_law_p6 100 rfl) 1 rfl ?_
    refine z_iconst (pc := 1419) (v := 1) C (dL_law_p6 101 rfl) (by decide) ?_
    refine z_iadd (pc := 1420) C (dL_law_p6 102 rfl) ?_
    refine z_sld (pc := 1421) C S (sc_in S.2.2.2.2.1 S.2.2.2.2.2 (by decide) rfl) (dL_law_p6 103 rfl) ?_
    refine zc_Vi (pc := 1422) (rest := []) C YX12_led wl_L_200 (kX12_led (hB d)) (by decide) K2 rfl (by decide) (dL_law_p6 104 rfl) rfl (by show cu j + 1 ≤ 601024; omega) (by show su j w + 6 ≤ 7293033; omega) (Nat.le_of_ble_eq_true rfl) rfl (fun b2 m2 H2 => ?_)
    obtain ⟨z0, i'⟩ := H2
    refine z_istore (pc := 1425) (i := 6) (lv2 := (6, .int b2) :: (5, .int 1) :: lwl k) C (dL_law_p6 105 rfl) (by decide) rfl ?_
    refine z_aload_n (pc := 1427) C (dL_law_p6 106 rfl) rfl 4 rfl ?_
    refine zc_Vi (pc := 1428) (rest := []) C YX12_thrown wl_L_201 (kX12_thrown (Q := fun r3 m3 => r3 = gI m2 75 0 ∧ m3 = m2) ⟨K2, rfl, rfl⟩) (by decide) K2 rfl (by decide) (dL_law_p6 107 rfl) rfl (by show cu j + 1 ≤ 601024; omega) (by show su j w + 6 ≤ 7293033; omega) (Nat.le_of_ble_eq_true rfl) rfl (fun r3 m3 H3 => ?_)
    obtain ⟨h3, h4⟩ := H3
    rw [h3, h4, z0]
    refine z_iload (pc := 1431) C (dL_law_p6 108 rfl) 1 rfl ?_
    refine z_icmp_eq (pc := 1433) (tgt := 1438) C (dL_law_p6 109 rfl) (by decide) (fun _ => ?_) (fun q => absurd rfl q)
    refine z_iload (pc := 1438) C (dL_law_p6 112 rfl) 1 rfl ?_
    refine z_if_ne (pc := 1440) (tgt := 1455) C (dL_law_p6 113 rfl) (by decide) (fun _ => ?_) (fun q => absurd q (by decide))
    refine z_goto (pc := 1455) (tgt := 1496) C (dL_law_p7 3 rfl) (by decide) ?_
    refine z_sub [2, 3, 4, 5, 6] rfl ?_
    exact z_widen (u2 := (cu (j + 1), su (j + 1) w)) (by show cu j + 1 ≤ cu (j + 1); unfold cu; omega) (by show su j w + 6 ≤ su (j + 1) w; unfold su; omega) (next (xg t d) m2 w i')
end
