/-! The law, case by case -/
def cu (j : Nat) : Nat := 84 + 40 * j
def su (j w : Nat) : Nat := 41789 + w + 200 * j
def lwl (k : Nat) : List (Nat × Value) := [(4, .int (nI k)), (3, .ref 84), (2, .ref 75), (1, .ref 1), (0, .retAddr 18)]
def bo (y : Int32) : Int32 := if y = 0 then 0 else 1
/-- the script, read at k -/
def SCR (s : State) (g : zG) (b L : Nat) (xs : Nat → Int32) (k : Nat) : Prop := va_X b L xs s s.heap ∧ b < s.heap.size ∧ g.2.1 18 = b ∧ ¬ zFar g b ∧ k + 6 ≤ L ∧ L ≤ 3072
section
variable {p : Program} {l : Launch} {e : Env} {R : Room} {s : State} {mt : MethodId} {args : Array Value} {below : List Frame} {meth : Method} {c : Code} {g : zG} {Q : State → Prop} {u u2 : Nat × Nat} {nL : Nat} {t : zT} {m : zM} {pc p1 p2 : Nat} {lv lv2 : List (Nat × Value)} {st rest : List Value} {cc : ByteArray} {own : String} {h b L k j w : Nat} {xs : Nat → Int32}
theorem cu_b (hj : j < 512) (hw : w ≤ 556877) : cu j + 3 ≤ 601024 ∧ cu j ≤ 601024 ∧ su j w ≤ 7293033 ∧ su j w ≤ 144190 + w ∧ su j w + 556877 ≤ 7293033 ∧ cu j + 15 ≤ 601024 := by
  unfold cu su
  omega
theorem z_widen (h1 : u.1 ≤ u2.1) (h2 : u.2 ≤ u2.2) (kk : zW p l e R s mt args below meth c g Q u2 nL t m pc lv st) : zW p l e R s mt args below meth c g Q u nL t m pc lv st := fun H locs cells slots ls hH hS q1 q2 hv => kk H locs cells slots ls hH hS (Nat.le_trans q1 h1) (Nat.le_trans q2 h2) hv
theorem z_bool (C : zC p R s mt args meth c g cc nL own h) {y : Int32} {off off2 : Int} (d0 : decode cc pc = .ok (.ifCond .eq off, 3)) (h0 : (pc : Int) + off = (p1 : Int)) (d1 : decode cc (pc + 3) = .ok (.iconst 1, 1)) (d2 : decode cc (pc + 3 + 1) = .ok (.goto off2, 3)) (h2 : ((pc + 3 + 1 : Nat) : Int) + off2 = (p2 : Int)) (d3 : decode cc p1 = .ok (.iconst 0, 1)) (h3 : p2 = p1 + 1) (kk : zW p l e R s mt args below meth c g Q u nL t m p2 lv (.int (bo y) :: st)) : zW p l e R s mt args below meth c g Q u nL t m pc lv (.int y :: st) := by
  refine z_if_eq C d0 h0 (fun hy => ?_) (fun hy => ?_)
  · refine z_iconst (v := 0) C d3 (by decide) ?_
    have e : bo y = 0 := if_pos hy
    rw [e, h3] at kk
    exact kk
  · refine z_iconst (v := 1) C d1 (by decide) ?_
    have e : bo y = 1 := if_neg hy
    rw [e] at kk
    exact z_goto C d2 h2 kk
theorem z_sld (C : zC p R s mt args meth c g cc nL own h) (S : SCR s g b L xs k) {i : Int32} (hin : vp_in i L) (hdg : decode cc pc = .ok (.iaload, 1)) (kk : zW p l e R s mt args below meth c g Q u nL t m (pc + 1) lv (.int (xs i.toNatClampNeg) :: st)) : zW p l e R s mt args below meth c g Q u nL t m pc lv (.int i :: .retAddr 18 :: st) := by
  intro H locs cells slots ls hH hS h1 h2 hv
  have e0 : zV g (.retAddr 18) = .ref b := by show Value.ref (g.2.1 18) = _; rw [S.2.2.1]
  show W p l e R s mt args below meth c H locs cells slots Q (F0 mt pc ls (.int i :: zV g (.retAddr 18) :: st.map (zV g)))
  rw [e0]
  exact va_sld C.1 C.2.1 S.1 S.2.1 S.2.2.2.1 hS hin hdg (kk H locs cells slots ls hH hS h1 h2 hv)
theorem z_slen (C : zC p R s mt args meth c g cc nL own h) (hX : va_X b L xs s s.heap) (hb : b < s.heap.size) (hg : g.2.1 18 = b) (hf : ¬ zFar g b) (hdg : decode cc pc = .ok (.arraylength, 1)) (kk : zW p l e R s mt args below meth c g Q u nL t m (pc + 1) lv (.int (nI L) :: st)) : zW p l e R s mt args below meth c g Q u nL t m pc lv (.retAddr 18 :: st) := by
  intro H locs cells slots ls hH hS h1 h2 hv
  have e0 : zV g (.retAddr 18) = .ref b := by show Value.ref (g.2.1 18) = _; rw [hg]
  show W p l e R s mt args below meth c H locs cells slots Q (F0 mt pc ls (zV g (.retAddr 18) :: st.map (zV g)))
  rw [e0]
  exact va_slen C.1 C.2.1 hX hb hf hS hdg (kk H locs cells slots ls hH hS h1 h2 hv)
theorem sc_in (h1 : k + 6 ≤ L) (h2 : L ≤ 3072) {n : Nat} {y : Int32} (hn : n < 6) (hy : y = nI n) : vp_in (nI k + y) L := by
  rw [hy, nI_add]
  exact vp_nI (by omega) (by omega)
theorem law_c0 (C : zC p room_1 s mt #[Value.ref b] meth c g code 7 RL 16) (S : SCR s g b L xs k) (i : Inv t m w) (hj : j < 512) (next : ∀ t' m' w', Inv t' m' w' → zW p l e room_1 s mt #[Value.ref b] below meth c g Q (cu (j + 1), su (j + 1) w') 7 t' m' 1496 (lwl k) []) : zW p l e room_1 s mt #[Value.ref b] below meth c g Q (cu j, su j w) 7 t m 236 (lwl k) [] := by
  have hm := i.max
  have bd := cu_b hj (w := w) hm
  obtain ⟨P, H, hP⟩ := st_feed (x := (xs (nI k + 1).toNatClampNeg)) (x2 := (xs (nI k + 2).toNatClampNeg)) (x3 := (xs (nI k + 3).toNatClampNeg)) (x4 := (xs (nI k + 4).toNatClampNeg)) (x5 := (xs (nI k + 5).toNatClampNeg)) i
  have K := lk1 i.lay
  have K2 := lk75 i.lay
  refine z_aload_n (pc := 236) C (dL_law_p0 25 rfl) rfl 3 rfl ?_
  refine z_aload_nS (pc := 237) C (dL_law_p0 26 rfl) rfl 4 rfl ?_
  refine z_iload (pc := 238) C (dL_law_p0 27 rfl) 0 rfl ?_
  refine z_iconst (pc := 240) (v := 1) C (dL_law_p0 28 rfl) (by decide) ?_
  refine z_iadd (pc := 241) C (dL_law_p0 29 rfl) ?_
  refine z_sld (pc := 242) C S (sc_in S.2.2.2.2.1 S.2.2.2.2.2 (by decide) rfl) (dL_law_p0 30 rfl) ?_
  refine z_aload_nS (pc := 243) C (dL_law_p0 31 rfl) rfl 4 rfl ?_
  refine z_iload (pc := 244) C (dL_law_p0 32 rfl) 0 rfl ?_
  refine z_iconst (pc := 246) (v := 2) C (dL_law_p0 33 rfl) (by decide) ?_
  refine z_iadd (pc := 247) C (dL_law_p0 34 rfl) ?_
  refine z_sld (pc := 248) C S (sc_in S.2.2.2.2.1 S.2.2.2.2.2 (by decide) rfl) (dL_law_p0 35 rfl) ?_
  refine z_aload_nS (pc := 249) C (dL_law_p0 36 rfl) rfl 4 rfl ?_
  refine z_iload (pc := 250) C (dL_law_p0 37 rfl) 0 rfl ?_
  refine z_iconst (pc := 252) (v := 3) C (dL_law_p0 38 rfl) (by decide) ?_
  refine z_iadd (pc := 253) C (dL_law_p0 39 rfl) ?_
  refine z_sld (pc := 254) C S (sc_in S.2.2.2.2.1 S.2.2.2.2.2 (by decide) rfl) (dL_law_p0 40 rfl) ?_
  refine z_aload_nS (pc := 255) C (dL_law_p0 41 rfl) rfl 4 rfl ?_
  refine z_iload (pc := 256) C (dL_law_p0 42 rfl) 0 rfl ?_
  refine z_iconst (pc := 258) (v := 4) C (dL_law_p0 43 rfl) (by decide) ?_
  refine z_iadd (pc := 259) C (dL_law_p0 44 rfl) ?_
  refine z_sld (pc := 260) C S (sc_in S.2.2.2.2.1 S.2.2.2.2.2 (by decide) rfl) (dL_law_p0 45 rfl) ?_
  refine z_aload_nS (pc := 261) C (dL_law_p0 46 rfl) rfl 4 rfl ?_
  refine z_iload (pc := 262) C (dL_law_p0 47 rfl) 0 rfl ?_
  refine z_iconst (pc := 264) (v := 5) C (dL_law_p0 48 rfl) (by decide) ?_
  refine z_iadd (pc := 265) C (dL_law_p0 49 rfl) ?_
  refine z_sld (pc := 266) C S (sc_in S.2.2.2.2.1 S.2.2.2.2.2 (by decide) rfl) (dL_law_p0 50 rfl) ?_
  refine zc_Vi (pc := 267) (rest := []) C YX9_feed wl_L_19 (kX9_feed H) (by decide) K rfl (by decide) (dL_law_p0 51 rfl) rfl bd.2.1 bd.2.2.1 (Nat.le_of_ble_eq_true rfl) rfl (fun r m1 H => ?_)
  refine z_aload_n (pc := 270) C (dL_law_p0 52 rfl) rfl 2 rfl ?_
  refine z_aload_nS (pc := 271) C (dL_law_p0 53 rfl) rfl 4 rfl ?_
  refine z_iload (pc := 272) C (dL_law_p0 54 rfl) 0 rfl ?_
  refine z_iconst (pc := 274) (v := 1) C (dL_law_p0 55 rfl) (by decide) ?_
  refine z_iadd (pc := 275) C (dL_law_p0 56 rfl) ?_
  refine z_sld (pc := 276) C S (sc_in S.2.2.2.2.1 S.2.2.2.2.2 (by decide) rfl) (dL_law_p0 57 rfl) ?_
  refine z_aload_nS (pc := 277) C (dL_law_p0 58 rfl) rfl 4 rfl ?_
  refine z_iload (pc := 278) C (dL_law_p0 59 rfl) 0 rfl ?_
  refine z_iconst (pc := 280) (v := 2) C (dL_law_p0 60 rfl) (by decide) ?_
  refine z_iadd (pc := 281) C (dL_law_p0 61 rfl) ?_
  refine z_sld (pc := 282) C S (sc_in S.2.2.2.2.1 S.2.2.2.2.2 (by decide) rfl) (dL_law_p0 62 rfl) ?_
  refine z_aload_nS (pc := 283) C (dL_law_p0 63 rfl) rfl 4 rfl ?_
  refine z_iload (pc := 284) C (dL_law_p0 64 rfl) 0 rfl ?_
  refine z_iconst (pc := 286) (v := 3) C (dL_law_p0 65 rfl) (by decide) ?_
  refine z_iadd (pc := 287) C (dL_law_p0 66 rfl) ?_
  refine z_sld (pc := 288) C S (sc_in S.2.2.2.2.1 S.2.2.2.2.2 (by decide) rfl) (dL_law_p0 67 rfl) ?_
  refine z_aload_nS (pc := 289) C (dL_law_p0 68 rfl) rfl 4 rfl ?_
  refine z_iload (pc := 290) C (dL_law_p0 69 rfl) 0 rfl ?_
  refine z_iconst (pc := 292) (v := 4) C (dL_law_p0 70 rfl) (by decide) ?_
  refine z_iadd (pc := 293) C (dL_law_p0 71 rfl) ?_
  refine z_sld (pc := 294) C S (sc_in S.2.2.2.2.1 S.2.2.2.2.2 (by decide) rfl) (dL_law_p0 72 rfl) ?_
  refine z_aload_nS (pc := 295) C (dL_law_p0 73 rfl) rfl 4 rfl ?_
  refine z_iload (pc := 296) C (dL_law_p0 74 rfl) 0 rfl ?_
  refine z_iconst (pc := 298) (v := 5) C (dL_law_p0 75 rfl) (by decide) ?_
  refine z_iadd (pc := 299) C (dL_law_p0 76 rfl) ?_
  refine z_sld (pc := 300) C S (sc_in S.2.2.2.2.1 S.2.2.2.2.2 (by decide) rfl) (dL_law_p0 77 rfl) ?_
  refine zc_Vi (pc := 301) (rest := [.int r]) C YX12_feed wl_L_23 (kX12_feed H) (by decide) K2 rfl (by decide) (dL_law_p0 78 rfl) rfl bd.2.1 bd.2.2.1 (Nat.le_of_ble_eq_true rfl) rfl (fun r2 m2 H => ?_)
  obtain ⟨e, w', i', hw⟩ := hP r r2 m2 H
  exact z_icmp_eq (pc := 304) (tgt := 1496) C (dL_law_p0 79 rfl) (by decide) (fun _ => z_widen (u2 := (cu (j + 1), su (j + 1) w')) (by show cu j ≤ cu (j + 1); unfold cu; omega) (by show su j w ≤ su (j + 1) w'; unfold su; omega) (next t m2 w' i')) (fun h => absurd e h)
theorem law_c1 (C : zC p room_1 s mt #[Value.ref b] meth c g code 7 RL 16) (S : SCR s g b L xs k) (i : Inv t m w) (hj : j < 512) (next : ∀ t' m' w', Inv t' m' w' → zW p l e room_1 s mt #[Value.ref b] below meth c g Q (cu (j + 1), su (j + 1) w') 7 t' m' 1496 (lwl k) []) : zW p l e room_1 s mt #[Value.ref b] below meth c g Q (cu j, su j w) 7 t m 309 (lwl k) [] := by
  have hm := i.max
  have bd := cu_b hj (w := w) hm
  obtain ⟨P, H, hP⟩ := st_school (x := (xs (nI k + 1).toNatClampNeg)) i
  have K := lk1 i.lay
  have K2 := lk75 i.lay
  refine z_aload_n (pc := 309) C (dL_law_p0 82 rfl) rfl 3 rfl ?_
  refine z_aload_nS (pc := 310) C (dL_law_p0 83 rfl) rfl 4 rfl ?_
  refine z_iload (pc := 311) C (dL_law_p0 84 rfl) 0 rfl ?_
  refine z_iconst (pc := 313) (v := 1) C (dL_law_p0 85 rfl) (by decide) ?_
  refine z_iadd (pc := 314) C (dL_law_p0 86 rfl) ?_
  refine z_sld (pc := 315) C S (sc_in S.2.2.2.2.1 S.2.2.2.2.2 (by decide) rfl) (dL_law_p0 87 rfl) ?_
  refine zc_Vi (pc := 316) (rest := []) C YX9_school wl_L_24 (kX9_school H) (by decide) K rfl (by decide) (dL_law_p0 88 rfl) rfl bd.2.1 bd.2.2.1 (Nat.le_of_ble_eq_true rfl) rfl (fun r m1 H => ?_)
  refine z_aload_n (pc := 319) C (dL_law_p0 89 rfl) rfl 2 rfl ?_
  refine z_aload_nS (pc := 320) C (dL_law_p0 90 rfl) rfl 4 rfl ?_
  refine z_iload (pc := 321) C (dL_law_p0 91 rfl) 0 rfl ?_
  refine z_iconst (pc := 323) (v := 1) C (dL_law_p0 92 rfl) (by decide) ?_
  refine z_iadd (pc := 324) C (dL_law_p0 93 rfl) ?_
  refine z_sld (pc := 325) C S (sc_in S.2.2.2.2.1 S.2.2.2.2.2 (by decide) rfl) (dL_law_p0 94 rfl) ?_
  refine za_Vi (pc := 326) (rest := [.int r]) C YX12_school wl_L_27 (kX12_school H) (by decide) K2 rfl (by decide) (dL_law_p0 95 rfl) rfl (by have := bd.2.2.2.2.2; show cu j + 15 ≤ 601024; omega) (by have := bd.2.2.2.2.1; show su j w + 183 ≤ 7293033; omega) (Nat.le_of_ble_eq_true rfl) rfl (fun r2 t2 m2 H => ?_)
  obtain ⟨e, w', i', hw⟩ := hP r r2 t2 m2 H
  exact z_icmp_eq (pc := 329) (tgt := 1496) C (dL_law_p0 96 rfl) (by decide) (fun _ => z_widen (u2 := (cu (j + 1), su (j + 1) w')) (by show cu j + 15 ≤ cu (j + 1); unfold cu; omega) (by show su j w + 183 ≤ su (j + 1) w'; unfold su; omega) (next t2 m2 w' i')) (fun h => absurd e h)
theorem law_c2 (C : zC p room_1 s mt #[Value.ref b] meth c g code 7 RL 16) (S : SCR s g b L xs k) (i : Inv t m w) (hj : j < 512) (next : ∀ t' m' w', Inv t' m' w' → zW p l e room_1 s mt #[Value.ref b] below meth c g Q (cu (j + 1), su (j + 1) w') 7 t' m' 1496 (lwl k) []) : zW p l e room_1 s mt #[Value.ref b] below meth c g Q (cu j, su j w) 7 t m 334 (lwl k) [] := by
  have hm := i.max
  have bd := cu_b hj (w := w) hm
  obtain ⟨P, H, hP⟩ := st_fault  i
  have K := lk1 i.lay
  have K2 := lk75 i.lay
  refine z_aload_n (pc := 334) C (dL_law_p0 99 rfl) rfl 3 rfl ?_
  refine zc_Vi (pc := 335) (rest := []) C YX9_fault wl_L_28 (kX9_fault H) (by decide) K rfl (by decide) (dL_law_p0 100 rfl) rfl bd.2.1 bd.2.2.1 (Nat.le_of_ble_eq_true rfl) rfl (fun r m1 H => ?_)
  refine z_aload_n (pc := 338) C (dL_law_p0 101 rfl) rfl 2 rfl ?_
  refine zc_Vi (pc := 339) (rest := [.int r]) C YX12_fault wl_L_32 (kX12_fault H) (by decide) K2 rfl (by decide) (dL_law_p0 102 rfl) rfl bd.2.1 bd.2.2.1 (Nat.le_of_ble_eq_true rfl) rfl (fun r2 m2 H => ?_)
  obtain ⟨e, w', i', hw⟩ := hP r r2 m2 H
  exact z_icmp_eq (pc := 342) (tgt := 1496) C (dL_law_p0 103 rfl) (by decide) (fun _ => z_widen (u2 := (cu (j + 1), su (j + 1) w')) (by show cu j ≤ cu (j + 1); unfold cu; omega) (by show su j w ≤ su (j + 1) w'; unfold su; omega) (next t m2 w' i')) (fun h => absurd e h)
theorem law_c3 (C : zC p room_1 s mt #[Value.ref b] meth c g code 7 RL 16) (S : SCR s g b L xs k) (i : Inv t m w) (hj : j < 512) (next : ∀ t' m' w', Inv t' m' w' → zW p l e room_1 s mt #[Value.ref b] below meth c g Q (cu (j + 1), su (j + 1) w') 7 t' m' 1496 (lwl k) []) : zW p l e room_1 s mt #[Value.ref b] below meth c g Q (cu j, su j w) 7 t m 347 (lwl k) [] := by
  have hm := i.max
  have bd := cu_b hj (w := w) hm
  obtain ⟨P, H, hP⟩ := st_where  i
  have K := lk1 i.lay
  have K2 := lk75 i.lay
  refine z_aload_n (pc := 347) C (dL_law_p0 106 rfl) rfl 3 rfl ?_
  refine zc_Vi (pc := 348) (rest := []) C YX9_where wl_L_33 (kX9_where H) (by decide) K rfl (by decide) (dL_law_p0 107 rfl) rfl bd.2.1 bd.2.2.1 (Nat.le_of_ble_eq_true rfl) rfl (fun r m1 H => ?_)
  refine z_aload_n (pc := 351) C (dL_law_p0 108 rfl) rfl 2 rfl ?_
  refine zc_Vi (pc := 352) (rest := [.int r]) C YX12_where wl_L_36 (kX12_where H) (by decide) K2 rfl (by decide) (dL_law_p0 109 rfl) rfl bd.2.1 bd.2.2.1 (Nat.le_of_ble_eq_true rfl) rfl (fun r2 m2 H => ?_)
  obtain ⟨e, w', i', hw⟩ := hP r r2 m2 H
  exact z_icmp_eq (pc := 355) (tgt := 1496) C (dL_law_p0 110 rfl) (by decide) (fun _ => z_widen (u2 := (cu (j + 1), su (j + 1) w')) (by show cu j ≤ cu (j + 1); unfold cu; omega) (by show su j w ≤ su (j + 1) w'; unfold su; omega) (next t m2 w' i')) (fun h => absurd e h)
theorem law_c4 (C : zC p room_1 s mt #[Value.ref b] meth c g code 7 RL 16) (S : SCR s g b L xs k) (i : Inv t m w) (hj : j < 512) (next : ∀ t' m' w', Inv t' m' w' → zW p l e room_1 s mt #[Value.ref b] below meth c g Q (cu (j + 1), su (j + 1) w') 7 t' m' 1496 (lwl k) []) : zW p l e room_1 s mt #[Value.ref b] below meth c g Q (cu j, su j w) 7 t m 360 (lwl k) [] := by
  have hm := i.max
  have bd := cu_b hj (w := w) hm
  obtain ⟨P, H, hP⟩ := st_ways  i
  have K := lk1 i.lay
  have K2 := lk75 i.lay
  refine z_aload_n (pc := 360) C (dL_law_p0 113 rfl) rfl 3 rfl ?_
  refine zc_Vi (pc := 361) (rest := []) C YX9_ways wl_L_37 (kX9_ways H) (by decide) K rfl (by decide) (dL_law_p0 114 rfl) rfl bd.2.1 bd.2.2.1 (Nat.le_of_ble_eq_true rfl) rfl (fun r m1 H => ?_)
  refine z_aload_n (pc := 364) C (dL_law_p0 115 rfl) rfl 2 rfl ?_
  refine zc_Vi (pc := 365) (rest := [.int r]) C YX12_ways wl_L_40 (kX12_ways H) (by decide) K2 rfl (by decide) (dL_law_p0 116 rfl) rfl bd.2.1 bd.2.2.1 (Nat.le_of_ble_eq_true rfl) rfl (fun r2 m2 H => ?_)
  obtain ⟨e, w', i', hw⟩ := hP r r2 m2 H
  exact z_icmp_eq (pc := 368) (tgt := 1496) C (dL_law_p0 117 rfl) (by decide) (fun _ => z_widen (u2 := (cu (j + 1), su (j + 1) w')) (by show cu j ≤ cu (j + 1); unfold cu; omega) (by show su j w ≤ su (j + 1) w'; unfold su; omega) (next t m2 w' i')) (fun h => absurd e h)
theorem law_c5 (C : zC p room_1 s mt #[Value.ref b] meth c g code 7 RL 16) (S : SCR s g b L xs k) (i : Inv t m w) (hj : j < 512) (next : ∀ t' m' w', Inv t' m' w' → zW p l e room_1 s mt #[Value.ref b] below meth c g Q (cu (j + 1), su (j + 1) w') 7 t' m' 1496 (lwl k) []) : zW p l e room_1 s mt #[Value.ref b] below meth c g Q (cu j, su j w) 7 t m 373 (lwl k) [] := by
  have hm := i.max
  have bd := cu_b hj (w := w) hm
  obtain ⟨P, H, hP⟩ := st_worlds  i
  have K := lk1 i.lay
  have K2 := lk75 i.lay
  refine z_aload_n (pc := 373) C (dL_law_p1 0 rfl) rfl 3 rfl ?_
  refine zc_Vi (pc := 374) (rest := []) C YX9_worlds wl_L_41 (kX9_worlds H) (by decide) K rfl (by decide) (dL_law_p1 1 rfl) rfl bd.2.1 bd.2.2.1 (Nat.le_of_ble_eq_true rfl) rfl (fun r m1 H => ?_)
  refine z_aload_n (pc := 377) C (dL_law_p1 2 rfl) rfl 2 rfl ?_
  refine zc_Vi (pc := 378) (rest := [.int r]) C YX12_worlds wl_L_44 (kX12_worlds H) (by decide) K2 rfl (by decide) (dL_law_p1 3 rfl) rfl bd.2.1 bd.2.2.1 (Nat.le_of_ble_eq_true rfl) rfl (fun r2 m2 H => ?_)
  obtain ⟨e, w', i', hw⟩ := hP r r2 m2 H
  exact z_icmp_eq (pc := 381) (tgt := 1496) C (dL_law_p1 4 rfl) (by decide) (fun _ => z_widen (u2 := (cu (j + 1), su (j + 1) w')) (by show cu j ≤ cu (j + 1); unfold cu; omega) (by show su j w ≤ su (j + 1) w'; unfold su; omega) (next t m2 w' i')) (fun h => absurd e h)
theorem law_c6 (C : zC p room_1 s mt #[Value.ref b] meth c g code 7 RL 16) (S : SCR s g b L xs k) (i : Inv t m w) (hj : j < 512) (next : ∀ t' m' w', Inv t' m' w' → zW p l e room_1 s mt #[Value.ref b] below meth c g Q (cu (j + 1), su (j + 1) w') 7 t' m' 1496 (lwl k) []) : zW p l e room_1 s mt #[Value.ref b] below meth c g Q (cu j, su j w) 7 t m 386 (lwl k) [] := by
  have hm := i.max
  have bd := cu_b hj (w := w) hm
  obtain ⟨P, H, hP⟩ := st_world (x := (xs (nI k + 1).toNatClampNeg)) i
  have K := lk1 i.lay
  have K2 := lk75 i.lay
  refine z_aload_n (pc := 386) C (dL_law_p1 7 rfl) rfl 3 rfl ?_
  refine z_aload_nS (pc := 387) C (dL_law_p1 8 rfl) rfl 4 rfl ?_
  refine z_iload (pc := 388) C (dL_law_p1 9 rfl) 0 rfl ?_
  refine z_iconst (pc := 390) (v := 1) C (dL_law_p1 10 rfl) (by decide) ?_
  refine z_iadd (pc := 391) C (dL_law_p1 11 rfl) ?_
  refine z_sld (pc := 392) C S (sc_in S.2.2.2.2.1 S.2.2.2.2.2 (by decide) rfl) (dL_law_p1 12 rfl) ?_
  refine zc_Vi (pc := 393) (rest := []) C YX9_world wl_L_45 (kX9_world H) (by decide) K rfl (by decide) (dL_law_p1 13 rfl) rfl bd.2.1 bd.2.2.1 (Nat.le_of_ble_eq_true rfl) rfl (fun r m1 H => ?_)
  refine z_aload_n (pc := 396) C (dL_law_p1 14 rfl) rfl 2 rfl ?_
  refine z_aload_nS (pc := 397) C (dL_law_p1 15 rfl) rfl 4 rfl ?_
  refine z_iload (pc := 398) C (dL_law_p1 16 rfl) 0 rfl ?_
  refine z_iconst (pc := 400) (v := 1) C (dL_law_p1 17 rfl) (by decide) ?_
  refine z_iadd (pc := 401) C (dL_law_p1 18 rfl) ?_
  refine z_sld (pc := 402) C S (sc_in S.2.2.2.2.1 S.2.2.2.2.2 (by decide) rfl) (dL_law_p1 19 rfl) ?_
  refine zc_Vi (pc := 403) (rest := [.int r]) C YX12_world wl_L_48 (kX12_world H) (by decide) K2 rfl (by decide) (dL_law_p1 20 rfl) rfl bd.2.1 bd.2.2.1 (Nat.le_of_ble_eq_true rfl) rfl (fun r2 m2 H => ?_)
  obtain ⟨e, w', i', hw⟩ := hP r r2 m2 H
  exact z_icmp_eq (pc := 406) (tgt := 1496) C (dL_law_p1 21 rfl) (by decide) (fun _ => z_widen (u2 := (cu (j + 1), su (j + 1) w')) (by show cu j ≤ cu (j + 1); unfold cu; omega) (by show su j w ≤ su (j + 1) w'; unfold su; omega) (next t m2 w' i')) (fun h => absurd e h)
theorem law_c7 (C : zC p room_1 s mt #[Value.ref b] meth c g code 7 RL 16) (S : SCR s g b L xs k) (i : Inv t m w) (hj : j < 512) (next : ∀ t' m' w', Inv t' m' w' → zW p l e room_1 s mt #[Value.ref b] below meth c g Q (cu (j + 1), su (j + 1) w') 7 t' m' 1496 (lwl k) []) : zW p l e room_1 s mt #[Value.ref b] below meth c g Q (cu j, su j w) 7 t m 411 (lwl k) [] := by
  have hm := i.max
  have bd := cu_b hj (w := w) hm
  obtain ⟨P, H, hP⟩ := st_lawful (x := (xs (nI k + 1).toNatClampNeg)) i
  have K := lk1 i.lay
  have K2 := lk75 i.lay
  refine z_aload_n (pc := 411) C (dL_law_p1 24 rfl) rfl 3 rfl ?_
  refine z_aload_nS (pc := 412) C (dL_law_p1 25 rfl) rfl 4 rfl ?_
  refine z_iload (pc := 413) C (dL_law_p1 26 rfl) 0 rfl ?_
  refine z_iconst (pc := 415) (v := 1) C (dL_law_p1 27 rfl) (by decide) ?_
  refine z_iadd (pc := 416) C (dL_law_p1 28 rfl) ?_
  refine z_sld (pc := 417) C S (sc_in S.2.2.2.2.1 S.2.2.2.2.2 (by decide) rfl) (dL_law_p1 29 rfl) ?_
  refine zc_Vi (pc := 418) (rest := []) C YX9_lawful wl_L_49 (kX9_lawful H) (by decide) K rfl (by decide) (dL_law_p1 30 rfl) rfl bd.2.1 bd.2.2.1 (Nat.le_of_ble_eq_true rfl) rfl (fun r m1 H => ?_)
  refine z_aload_n (pc := 421) C (dL_law_p1 31 rfl) rfl 2 rfl ?_
  refine z_aload_nS (pc := 422) C (dL_law_p1 32 rfl) rfl 4 rfl ?_
  refine z_iload (pc := 423) C (dL_law_p1 33 rfl) 0 rfl ?_
  refine z_iconst (pc := 425) (v := 1) C (dL_law_p1 34 rfl) (by decide) ?_
  refine z_iadd (pc := 426) C (dL_law_p1 35 rfl) ?_
  refine z_sld (pc := 427) C S (sc_in S.2.2.2.2.1 S.2.2.2.2.2 (by decide) rfl) (dL_law_p1 36 rfl) ?_
  refine zc_Vi (pc := 428) (rest := [.int r]) C YX12_lawful wl_L_52 (kX12_lawful H) (by decide) K2 rfl (by decide) (dL_law_p1 37 rfl) rfl bd.2.1 bd.2.2.1 (Nat.le_of_ble_eq_true rfl) rfl (fun r2 m2 H => ?_)
  obtain ⟨e, w', i', hw⟩ := hP r r2 m2 H
  exact z_icmp_eq (pc := 431) (tgt := 1496) C (dL_law_p1 38 rfl) (by decide) (fun _ => z_widen (u2 := (cu (j + 1), su (j + 1) w')) (by show cu j ≤ cu (j + 1); unfold cu; omega) (by show su j w ≤ su (j + 1) w'; unfold su; omega) (next t m2 w' i')) (fun h => absurd e h)
theorem law_c8 (C : zC p room_1 s mt #[Value.ref b] meth c g code 7 RL 16) (S : SCR s g b L xs k) (i : Inv t m w) (hj : j < 512) (next : ∀ t' m' w', Inv t' m' w' → zW p l e room_1 s mt #[Value.ref b] below meth c g Q (cu (j + 1), su (j + 1) w') 7 t' m' 1496 (lwl k) []) : zW p l e room_1 s mt #[Value.ref b] below meth c g Q (cu j, su j w) 7 t m 436 (lwl k) [] := by
  have hm := i.max
  have bd := cu_b hj (w := w) hm
  obtain ⟨P, H, hP⟩ := st_culprit  i
  have K := lk1 i.lay
  have K2 := lk75 i.lay
  refine z_aload_n (pc := 436) C (dL_law_p1 41 rfl) rfl 3 rfl ?_
  refine zc_Vi (pc := 437) (rest := []) C YX9_culprit wl_L_53 (kX9_culprit H) (by decide) K rfl (by decide) (dL_law_p1 42 rfl) rfl bd.2.1 bd.2.2.1 (Nat.le_of_ble_eq_true rfl) rfl (fun r m1 H => ?_)
  refine z_aload_n (pc := 440) C (dL_law_p1 43 rfl) rfl 2 rfl ?_
  refine zc_Vi (pc := 441) (rest := [.int r]) C YX12_culprit wl_L_56 (kX12_culprit H) (by decide) K2 rfl (by decide) (dL_law_p1 44 rfl) rfl bd.2.1 bd.2.2.1 (Nat.le_of_ble_eq_true rfl) rfl (fun r2 m2 H => ?_)
  obtain ⟨e, w', i', hw⟩ := hP r r2 m2 H
  exact z_icmp_eq (pc := 444) (tgt := 1496) C (dL_law_p1 45 rfl) (by decide) (fun _ => z_widen (u2 := (cu (j + 1), su (j + 1) w')) (by show cu j ≤ cu (j + 1); unfold cu; omega) (by show su j w ≤ su (j + 1) w'; unfold su; omega) (next t m2 w' i')) (fun h => absurd e h)
theorem law_c9 (C : zC p room_1 s mt #[Value.ref b] meth c g code 7 RL 16) (S : SCR s g b L xs k) (i : Inv t m w) (hj : j < 512) (next : ∀ t' m' w', Inv t' m' w' → zW p l e room_1 s mt #[Value.ref b] below meth c g Q (cu (j + 1), su (j + 1) w') 7 t' m' 1496 (lwl k) []) : zW p l e room_1 s mt #[Value.ref b] below meth c g Q (cu j, su j w) 7 t m 449 (lwl k) [] := by
  have hm := i.max
  have bd := cu_b hj (w := w) hm
  obtain ⟨P, H, hP⟩ := st_sure (x := (xs (nI k + 1).toNatClampNeg)) i
  have K := lk1 i.lay
  have K2 := lk75 i.lay
  refine z_aload_n (pc := 449) C (dL_law_p1 48 rfl) rfl 3 rfl ?_
  refine z_aload_nS (pc := 450) C (dL_law_p1 49 rfl) rfl 4 rfl ?_
  refine z_iload (pc := 451) C (dL_law_p1 50 rfl) 0 rfl ?_
  refine z_iconst (pc := 453) (v := 1) C (dL_law_p1 51 rfl) (by decide) ?_
  refine z_iadd (pc := 454) C (dL_law_p1 52 rfl) ?_
  refine z_sld (pc := 455) C S (sc_in S.2.2.2.2.1 S.2.2.2.2.2 (by decide) rfl) (dL_law_p1 53 rfl) ?_
  refine zc_Vi (pc := 456) (rest := []) C YX9_sure wl_L_57 (kX9_sure H) (by decide) K rfl (by decide) (dL_law_p1 54 rfl) rfl bd.2.1 bd.2.2.1 (Nat.le_of_ble_eq_true rfl) rfl (fun r m1 H => ?_)
  refine z_aload_n (pc := 459) C (dL_law_p1 55 rfl) rfl 2 rfl ?_
  refine z_aload_nS (pc := 460) C (dL_law_p1 56 rfl) rfl 4 rfl ?_
  refine z_iload (pc := 461) C (dL_law_p1 57 rfl) 0 rfl ?_
  refine z_iconst (pc := 463) (v := 1) C (dL_law_p1 58 rfl) (by decide) ?_
  refine z_iadd (pc := 464) C (dL_law_p1 59 rfl) ?_
  refine z_sld (pc := 465) C S (sc_in S.2.2.2.2.1 S.2.2.2.2.2 (by decide) rfl) (dL_law_p1 60 rfl) ?_
  refine zc_Vi (pc := 466) (rest := [.int r]) C YX12_sure wl_L_60 (kX12_sure H) (by decide) K2 rfl (by decide) (dL_law_p1 61 rfl) rfl bd.2.1 bd.2.2.1 (Nat.le_of_ble_eq_true rfl) rfl (fun r2 m2 H => ?_)
  obtain ⟨e, w', i', hw⟩ := hP r r2 m2 H
  exact z_icmp_eq (pc := 469) (tgt := 1496) C (dL_law_p1 62 rfl) (by decide) (fun _ => z_widen (u2 := (cu (j + 1), su (j + 1) w')) (by show cu j ≤ cu (j + 1); unfold cu; omega) (by show su j w ≤ su (j + 1) w'; unfold su; omega) (next t m2 w' i')) (fun h => absurd e h)
theorem law_c10 (C : zC p room_1 s mt #[Value.ref b] meth c g code 7 RL 16) (S : SCR s g b L xs k) (i : Inv t m w) (hj : j < 512) (next : ∀ t' m' w', Inv t' m' w' → zW p l e room_1 s mt #[Value.ref b] below meth c g Q (cu (j + 1), su (j + 1) w') 7 t' m' 1496 (lwl k) []) : zW p l e room_1 s mt #[Value.ref b] below meth c g Q (cu j, su j w) 7 t m 474 (lwl k) [] := by
  have hm := i.max
  have bd := cu_b hj (w := w) hm
  obtain ⟨P, H, hP⟩ := st_may (x := (xs (nI k + 1).toNatClampNeg)) i
  have K := lk1 i.lay
  have K2 := lk75 i.lay
  refine z_aload_n (pc := 474) C (dL_law_p1 65 rfl) rfl 3 rfl ?_
  refine z_aload_nS (pc := 475) C (dL_law_p1 66 rfl) rfl 4 rfl ?_
  refine z_iload (pc := 476) C (dL_law_p1 67 rfl) 0 rfl ?_
  refine z_iconst (pc := 478) (v := 1) C (dL_law_p1 68 rfl) (by decide) ?_
  refine z_iadd (pc := 479) C (dL_law_p1 69 rfl) ?_
  refine z_sld (pc := 480) C S (sc_in S.2.2.2.2.1 S.2.2.2.2.2 (by decide) rfl) (dL_law_p1 70 rfl) ?_
  refine zc_Vi (pc := 481) (rest := []) C YX9_may wl_L_61 (kX9_may H) (by decide) K rfl (by decide) (dL_law_p1 71 rfl) rfl bd.2.1 bd.2.2.1 (Nat.le_of_ble_eq_true rfl) rfl (fun r m1 H => ?_)
  refine z_aload_n (pc := 484) C (dL_law_p1 72 rfl) rfl 2 rfl ?_
  refine z_aload_nS (pc := 485) C (dL_law_p1 73 rfl) rfl 4 rfl ?_
  refine z_iload (pc := 486) C (dL_law_p1 74 rfl) 0 rfl ?_
  refine z_iconst (pc := 488) (v := 1) C (dL_law_p1 75 rfl) (by decide) ?_
  refine z_iadd (pc := 489) C (dL_law_p1 76 rfl) ?_
  refine z_sld (pc := 490) C S (sc_in S.2.2.2.2.1 S.2.2.2.2.2 (by decide) rfl) (dL_law_p1 77 rfl) ?_
  refine zc_Vi (pc := 491) (rest := [.int r]) C YX12_may wl_L_64 (kX12_may H) (by decide) K2 rfl (by decide) (dL_law_p1 78 rfl) rfl bd.2.1 bd.2.2.1 (Nat.le_of_ble_eq_true rfl) rfl (fun r2 m2 H => ?_)
  obtain ⟨e, w', i', hw⟩ := hP r r2 m2 H
  exact z_icmp_eq (pc := 494) (tgt := 1496) C (dL_law_p1 79 rfl) (by decide) (fun _ => z_widen (u2 := (cu (j + 1), su (j + 1) w')) (by show cu j ≤ cu (j + 1); unfold cu; omega) (by show su j w ≤ su (j + 1) w'; unfold su; omega) (next t m2 w' i')) (fun h => absurd e h)
theorem law_c11 (C : zC p room_1 s mt #[Value.ref b] meth c g code 7 RL 16) (S : SCR s g b L xs k) (i : Inv t m w) (hj : j < 512) (next : ∀ t' m' w', Inv t' m' w' → zW p l e room_1 s mt #[Value.ref b] below meth c g Q (cu (j + 1), su (j + 1) w') 7 t' m' 1496 (lwl k) []) : zW p l e room_1 s mt #[Value.ref b] below meth c g Q (cu j, su j w) 7 t m 499 (lwl k) [] := by
  have hm := i.max
  have bd := cu_b hj (w := w) hm
  obtain ⟨P, H, hP⟩ := st_likely (x := (xs (nI k + 1).toNatClampNeg)) (x2 := (xs (nI k + 2).toNatClampNeg)) (x3 := (bo (xs (nI k + 3).toNatClampNeg))) i
  have K := lk1 i.lay
  have K2 := lk75 i.lay
  refine z_aload_n (pc := 499) C (dL_law_p1 82 rfl) rfl 3 rfl ?_
  refine z_aload_nS (pc := 500) C (dL_law_p1 83 rfl) rfl 4 rfl ?_
  refine z_iload (pc := 501) C (dL_law_p1 84 rfl) 0 rfl ?_
  refine z_iconst (pc := 503) (v := 1) C (dL_law_p1 85 rfl) (by decide) ?_
  refine z_iadd (pc := 504) C (dL_law_p1 86 rfl) ?_
  refine z_sld (pc := 505) C S (sc_in S.2.2.2.2.1 S.2.2.2.2.2 (by decide) rfl) (dL_law_p1 87 rfl) ?_
  refine z_aload_nS (pc := 506) C (dL_law_p1 88 rfl) rfl 4 rfl ?_
  refine z_iload (pc := 507) C (dL_law_p1 89 rfl) 0 rfl ?_
  refine z_iconst (pc := 509) (v := 2) C (dL_law_p1 90 rfl) (by decide) ?_
  refine z_iadd (pc := 510) C (dL_law_p1 91 rfl) ?_
  refine z_sld (pc := 511) C S (sc_in S.2.2.2.2.1 S.2.2.2.2.2 (by decide) rfl) (dL_law_p1 92 rfl) ?_
  refine z_aload_nS (pc := 512) C (dL_law_p1 93 rfl) rfl 4 rfl ?_
  refine z_iload (pc := 513) C (dL_law_p1 94 rfl) 0 rfl ?_
  refine z_iconst (pc := 515) (v := 3) C (dL_law_p1 95 rfl) (by decide) ?_
  refine z_iadd (pc := 516) C (dL_law_p1 96 rfl) ?_
  refine z_sld (pc := 517) C S (sc_in S.2.2.2.2.1 S.2.2.2.2.2 (by decide) rfl) (dL_law_p1 97 rfl) ?_
  refine z_bool (pc := 518) (p1 := 525) (p2 := 526) C (dL_law_p1 98 rfl) (by decide) (dL_law_p1 99 rfl) (dL_law_p1 100 rfl) (by decide) (dL_law_p1 101 rfl) rfl ?_
  refine zc_Vi (pc := 526) (rest := []) C YX9_likely wl_L_65 (kX9_likely H) (by decide) K rfl (by decide) (dL_law_p1 102 rfl) rfl bd.2.1 bd.2.2.1 (Nat.le_of_ble_eq_true rfl) rfl (fun r m1 H => ?_)
  refine z_aload_n (pc := 529) C (dL_law_p1 103 rfl) rfl 2 rfl ?_
  refine z_aload_nS (pc := 530) C (dL_law_p1 104 rfl) rfl 4 rfl ?_
  refine z_iload (pc := 531) C (dL_law_p1 105 rfl) 0 rfl ?_
  refine z_iconst (pc := 533) (v := 1) C (dL_law_p1 106 rfl) (by decide) ?_
  refine z_iadd (pc := 534) C (dL_law_p1 107 rfl) ?_
  refine z_sld (pc := 535) C S (sc_in S.2.2.2.2.1 S.2.2.2.2.2 (by decide) rfl) (dL_law_p1 108 rfl) ?_
  refine z_aload_nS (pc := 536) C (dL_law_p1 109 rfl) rfl 4 rfl ?_
  refine z_iload (pc := 537) C (dL_law_p1 110 rfl) 0 rfl ?_
  refine z_iconst (pc := 539) (v := 2) C (dL_law_p1 111 rfl) (by decide) ?_
  refine z_iadd (pc := 540) C (dL_law_p1 112 rfl) ?_
  refine z_sld (pc := 541) C S (sc_in S.2.2.2.2.1 S.2.2.2.2.2 (by decide) rfl) (dL_law_p1 113 rfl) ?_
  refine z_aload_nS (pc := 542) C (dL_law_p1 114 rfl) rfl 4 rfl ?_
  refine z_iload (pc := 543) C (dL_law_p1 115 rfl) 0 rfl ?_
  refine z_iconst (pc := 545) (v := 3) C (dL_law_p1 116 rfl) (by decide) ?_
  refine z_iadd (pc := 546) C (dL_law_p1 117 rfl) ?_
  refine z_sld (pc := 547) C S (sc_in S.2.2.2.2.1 S.2.2.2.2.2 (by decide) rfl) (dL_law_p1 118 rfl) ?_
  refine z_bool (pc := 548) (p1 := 555) (p2 := 556) C (dL_law_p1 119 rfl) (by decide) (dL_law_p2 0 rfl) (dL_law_p2 1 rfl) (by decide) (dL_law_p2 2 rfl) rfl ?_
  refine zc_Vi (pc := 556) (rest := [.int r]) C YX12_likely wl_L_69 (kX12_likely H) (by decide) K2 rfl (by decide) (dL_law_p2 3 rfl) rfl bd.2.1 bd.2.2.1 (Nat.le_of_ble_eq_true rfl) rfl (fun r2 m2 H => ?_)
  obtain ⟨e, w', i', hw⟩ := hP r r2 m2 H
  exact z_icmp_eq (pc := 559) (tgt := 1496) C (dL_law_p2 4 rfl) (by decide) (fun _ => z_widen (u2 := (cu (j + 1), su (j + 1) w')) (by show cu j ≤ cu (j + 1); unfold cu; omega) (by show su j w ≤ su (j + 1) w'; unfold su; omega) (next t m2 w' i')) (fun h => absurd e h)
theorem law_c12 (C : zC p room_1 s mt #[Value.ref b] meth c g code 7 RL 16) (S : SCR s g b L xs k) (i : Inv t m w) (hj : j < 512) (next : ∀ t' m' w', Inv t' m' w' → zW p l e room_1 s mt #[Value.ref b] below meth c g Q (cu (j + 1), su (j + 1) w') 7 t' m' 1496 (lwl k) []) : zW p l e room_1 s mt #[Value.ref b] below meth c g Q (cu j, su j w) 7 t m 564 (lwl k) [] := by
  have hm := i.max
  have bd := cu_b hj (w := w) hm
  obtain ⟨P, H, hP⟩ := st_settled  i
  have K := lk1 i.lay
  have K2 := lk75 i.lay
  refine z_aload_n (pc := 564) C (dL_law_p2 7 rfl) rfl 3 rfl ?_
  refine zc_Vi (pc := 565) (rest := []) C YX9_settled wl_L_70 (kX9_settled H) (by decide) K rfl (by decide) (dL_law_p2 8 rfl) rfl bd.2.1 bd.2.2.1 (Nat.le_of_ble_eq_true rfl) rfl (fun r m1 H => ?_)
  refine z_aload_n (pc := 568) C (dL_law_p2 9 rfl) rfl 2 rfl ?_
  refine zc_Vi (pc := 569) (rest := [.int r]) C YX12_settled wl_L_73 (kX12_settled H) (by decide) K2 rfl (by decide) (dL_law_p2 10 rfl) rfl bd.2.1 bd.2.2.1 (Nat.le_of_ble_eq_true rfl) rfl (fun r2 m2 H => ?_)
  obtain ⟨e, w', i', hw⟩ := hP r r2 m2 H
  exact z_icmp_eq (pc := 572) (tgt := 1496) C (dL_law_p2 11 rfl) (by decide) (fun _ => z_widen (u2 := (cu (j + 1), su (j + 1) w')) (by show cu j ≤ cu (j + 1); unfold cu; omega) (by show su j w ≤ su (j + 1) w'; unfold su; omega) (next t m2 w' i')) (fun h => absurd e h)
theorem law_c13 (C : zC p room_1 s mt #[Value.ref b] meth c g code 7 RL 16) (S : SCR s g b L xs k) (i : Inv t m w) (hj : j < 512) (next : ∀ t' m' w', Inv t' m' w' → zW p l e room_1 s mt #[Value.ref b] below meth c g Q (cu (j + 1), su (j + 1) w') 7 t' m' 1496 (lwl k) []) : zW p l e room_1 s mt #[Value.ref b] below meth c g Q (cu j, su j w) 7 t m 577 (lwl k) [] := by
  have hm := i.max
  have bd := cu_b hj (w := w) hm
  obtain ⟨P, H, hP⟩ := st_right (x := (xs (nI k + 1).toNatClampNeg)) i
  have K := lk1 i.lay
  have K2 := lk75 i.lay
  refine z_aload_n (pc := 577) C (dL_law_p2 14 rfl) rfl 3 rfl ?_
  refine z_aload_nS (pc := 578) C (dL_law_p2 15 rfl) rfl 4 rfl ?_
  refine z_iload (pc := 579) C (dL_law_p2 16 rfl) 0 rfl ?_
  refine z_iconst (pc := 581) (v := 1) C (dL_law_p2 17 rfl) (by decide) ?_
  refine z_iadd (pc := 582) C (dL_law_p2 18 rfl) ?_
  refine z_sld (pc := 583) C S (sc_in S.2.2.2.2.1 S.2.2.2.2.2 (by decide) rfl) (dL_law_p2 19 rfl) ?_
  refine zc_Vi (pc := 584) (rest := []) C YX9_right wl_L_74 (kX9_right H) (by decide) K rfl (by decide) (dL_law_p2 20 rfl) rfl bd.2.1 bd.2.2.1 (Nat.le_of_ble_eq_true rfl) rfl (fun r m1 H => ?_)
  refine z_aload_n (pc := 587) C (dL_law_p2 21 rfl) rfl 2 rfl ?_
  refine z_aload_nS (pc := 588) C (dL_law_p2 22 rfl) rfl 4 rfl ?_
  refine z_iload (pc := 589) C (dL_law_p2 23 rfl) 0 rfl ?_
  refine z_iconst (pc := 591) (v := 1) C (dL_law_p2 24 rfl) (by decide) ?_
  refine z_iadd (pc := 592) C (dL_law_p2 25 rfl) ?_
  refine z_sld (pc := 593) C S (sc_in S.2.2.2.2.1 S.2.2.2.2.2 (by decide) rfl) (dL_law_p2 26 rfl) ?_
  refine zc_Vi (pc := 594) (rest := [.int r]) C YX12_right wl_L_77 (kX12_right H) (by decide) K2 rfl (by decide) (dL_law_p2 27 rfl) rfl bd.2.1 bd.2.2.1 (Nat.le_of_ble_eq_true rfl) rfl (fun r2 m2 H => ?_)
  obtain ⟨e, w', i', hw⟩ := hP r r2 m2 H
  exact z_icmp_eq (pc := 597) (tgt := 1496) C (dL_law_p2 28 rfl) (by decide) (fun _ => z_widen (u2 := (cu (j + 1), su (j + 1) w')) (by show cu j ≤ cu (j + 1); unfold cu; omega) (by show su j w ≤ su (j + 1) w'; unfold su; omega) (next t m2 w' i')) (fun h => absurd e h)
theorem law_c14 (C : zC p room_1 s mt #[Value.ref b] meth c g code 7 RL 16) (S : SCR s g b L xs k) (i : Inv t m w) (hj : j < 512) (next : ∀ t' m' w', Inv t' m' w' → zW p l e room_1 s mt #[Value.ref b] below meth c g Q (cu (j + 1), su (j + 1) w') 7 t' m' 1496 (lwl k) []) : zW p l e room_1 s mt #[Value.ref b] below meth c g Q (cu j, su j w) 7 t m 602 (lwl k) [] := by
  have hm := i.max
  have bd := cu_b hj (w := w) hm
  obtain ⟨P, H, hP⟩ := st_wrongs (x := (xs (nI k + 1).toNatClampNeg)) (x2 := (bo (xs (nI k + 2).toNatClampNeg))) i
  have K := lk1 i.lay
  have K2 := lk75 i.lay
  refine z_aload_n (pc := 602) C (dL_law_p2 31 rfl) rfl 3 rfl ?_
  refine z_aload_nS (pc := 603) C (dL_law_p2 32 rfl) rfl 4 rfl ?_
  refine z_iload (pc := 604) C (dL_law_p2 33 rfl) 0 rfl ?_
  refine z_iconst (pc := 606) (v := 1) C (dL_law_p2 34 rfl) (by decide) ?_
  refine z_iadd (pc := 607) C (dL_law_p2 35 rfl) ?_
  refine z_sld (pc := 608) C S (sc_in S.2.2.2.2.1 S.2.2.2.2.2 (by decide) rfl) (dL_law_p2 36 rfl) ?_
  refine z_aload_nS (pc := 609) C (dL_law_p2 37 rfl) rfl 4 rfl ?_
  refine z_iload (pc := 610) C (dL_law_p2 38 rfl) 0 rfl ?_
  refine z_iconst (pc := 612) (v := 2) C (dL_law_p2 39 rfl) (by decide) ?_
  refine z_iadd (pc := 613) C (dL_law_p2 40 rfl) ?_
  refine z_sld (pc := 614) C S (sc_in S.2.2.2.2.1 S.2.2.2.2.2 (by decide) rfl) (dL_law_p2 41 rfl) ?_
  refine z_bool (pc := 615) (p1 := 622) (p2 := 623) C (dL_law_p2 42 rfl) (by decide) (dL_law_p2 43 rfl) (dL_law_p2 44 rfl) (by decide) (dL_law_p2 45 rfl) rfl ?_
  refine zc_Vi (pc := 623) (rest := []) C YX9_wrongs wl_L_78 (kX9_wrongs H) (by decide) K rfl (by decide) (dL_law_p2 46 rfl) rfl bd.2.1 bd.2.2.1 (Nat.le_of_ble_eq_true rfl) rfl (fun r m1 H => ?_)
  refine z_aload_n (pc := 626) C (dL_law_p2 47 rfl) rfl 2 rfl ?_
  refine z_aload_nS (pc := 627) C (dL_law_p2 48 rfl) rfl 4 rfl ?_
  refine z_iload (pc := 628) C (dL_law_p2 49 rfl) 0 rfl ?_
  refine z_iconst (pc := 630) (v := 1) C (dL_law_p2 50 rfl) (by decide) ?_
  refine z_iadd (pc := 631) C (dL_law_p2 51 rfl) ?_
  refine z_sld (pc := 632) C S (sc_in S.2.2.2.2.1 S.2.2.2.2.2 (by decide) rfl) (dL_law_p2 52 rfl) ?_
  refine z_aload_nS (pc := 633) C (dL_law_p2 53 rfl) rfl 4 rfl ?_
  refine z_iload (pc := 634) C (dL_law_p2 54 rfl) 0 rfl ?_
  refine z_iconst (pc := 636) (v := 2) C (dL_law_p2 55 rfl) (by decide) ?_
  refine z_iadd (pc := 637) C (dL_law_p2 56 rfl) ?_
  refine z_sld (pc := 638) C S (sc_in S.2.2.2.2.1 S.2.2.2.2.2 (by decide) rfl) (dL_law_p2 57 rfl) ?_
  refine z_bool (pc := 639) (p1 := 646) (p2 := 647) C (dL_law_p2 58 rfl) (by decide) (dL_law_p2 59 rfl) (dL_law_p2 60 rfl) (by decide) (dL_law_p2 61 rfl) rfl ?_
  refine zc_Vi (pc := 647) (rest := [.int r]) C YX12_wrongs wl_L_82 (kX12_wrongs H) (by decide) K2 rfl (by decide) (dL_law_p2 62 rfl) rfl bd.2.1 bd.2.2.1 (Nat.le_of_ble_eq_true rfl) rfl (fun r2 m2 H => ?_)
  obtain ⟨e, w', i', hw⟩ := hP r r2 m2 H
  exact z_icmp_eq (pc := 650) (tgt := 1496) C (dL_law_p2 63 rfl) (by decide) (fun _ => z_widen (u2 := (cu (j + 1), su (j + 1) w')) (by show cu j ≤ cu (j + 1); unfold cu; omega) (by show su j w ≤ su (j + 1) w'; unfold su; omega) (next t m2 w' i')) (fun h => absurd e h)
end
