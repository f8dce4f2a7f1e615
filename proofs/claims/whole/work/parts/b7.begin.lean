/-! The law from its entry -/
section
variable {p : Program} {l : Launch} {e : Env} {R : Room} {s : State} {mt : MethodId} {args : Array Value} {below : List Frame} {meth : Method} {c : Code} {g : zG} {Q : State → Prop} {u u2 : Nat × Nat} {nL : Nat} {t : zT} {m : zM} {pc p1 p2 : Nat} {lv lv2 : List (Nat × Value)} {st rest : List Value} {cc : ByteArray} {own : String} {h b L k j w : Nat} {xs : Nat → Int32}
theorem law_begin (C : zC p room_1 s mt #[Value.ref b] meth c g code 7 RL 16) (hr : meth.sig.returnType = ret) (hg1 : g.1 + 1 = s.heap.size) (hX : va_X b L xs s s.heap) (hb : b < s.heap.size) (hgb : g.2.1 18 = b) (hL : L ≤ 3072) (H42 : Led p l e s mt b below meth c g (lw_Z below #[Value.ref b] s) L xs) : LW p l e s mt b below meth c g (lw_Z below #[Value.ref b] s) (0, 0) t0 m0 0 [(0, .retAddr 18)] [] := by
  refine z_new (pc := 0) C zc9 wc_L_8 wt_X9 wi_X9 (dL_law_p0 0 rfl) (by decide) (by decide) (fun _ => ?_)
  refine z_dup (pc := 3) C (dL_law_p0 1 rfl) rfl ?_
  refine za_Iv (pc := 4) (rest := [.ref 1]) C YX9_init wl_L_15 (by decide) (kX9_init (cap := (73, 3886)) (ini_x (Q := fcx) (fun t m f => f))) (by decide) (dL_law_p0 2 rfl) rfl (by decide) (by decide) (Nat.le_of_ble_eq_true rfl) rfl (fun t1 m1 f => ?_)
  have e75 : tN t1 = 75 := f.1
  refine z_astore_n (pc := 7) (lv2 := [(1, .ref 1), (0, .retAddr 18)]) C (dL_law_p0 3 rfl) rfl (by decide) rfl ?_
  refine z_new (pc := 8) C zc12 wc_L_16 wt_X12 wi_X12 (dL_law_p0 4 rfl) (by decide) (by decide) (fun _ => ?_)
  refine z_dup (pc := 11) C (dL_law_p0 5 rfl) rfl ?_
  refine za_Iv (pc := 12) (rest := [.ref (tN t1)]) C YX12_init wl_L_18 (by omega) (kX12_init (cap := (8, 37856)) (ini_r (Q := fun t m => t = RTn t1 ∧ m = RMn m1) e75 ⟨rfl, rfl⟩)) (by decide) (dL_law_p0 6 rfl) rfl (by decide) (by decide) (Nat.le_of_ble_eq_true rfl) rfl (fun t2 m2 hq => ?_)
  obtain ⟨rfl, rfl⟩ := hq
  rw [e75]
  refine z_astore_n (pc := 15) (lv2 := [(2, .ref 75), (1, .ref 1), (0, .retAddr 18)]) C (dL_law_p0 7 rfl) rfl (by decide) rfl ?_
  refine z_iconst (pc := 16) (v := 1) C (dL_law_p0 8 rfl) (by decide) ?_
  refine z_newaJ (pc := 17) (N := 1) C (by decide) rfl (by decide) wa_long (dL_law_p0 9 rfl) (by decide) (by decide) (fun _ => ?_)
  have e84 : tN (RTn t1) = 84 := by
    obtain ⟨n, k, l⟩ := t1
    have e : n = 75 := e75
    subst e
    rfl
  rw [e84]
  refine z_astore_n (pc := 19) (lv2 := [(3, .ref 84), (2, .ref 75), (1, .ref 1), (0, .retAddr 18)]) C (dL_law_p0 10 rfl) rfl (by decide) rfl ?_
  refine z_iconst (pc := 20) (v := 0) C (dL_law_p0 11 rfl) (by decide) ?_
  refine z_istore (pc := 21) (lv2 := lwl 0) C (dL_law_p0 12 rfl) (by decide) rfl ?_
  exact z_widen (u2 := (cu 0, su 0 0)) (Nat.le_of_ble_eq_true rfl) (Nat.le_of_ble_eq_true rfl) (law_loop C hr hg1 hX hb hgb hL H42 L 0 0 0 _ _ rfl (by omega) (Nat.zero_le _) (ini_inv f))
end
