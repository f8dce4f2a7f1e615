def wX12_needs_J13 (t : zT) (m : zM) (a_0 : Nat) (Q : zM → Prop) : Prop := (tK t a_0 = 12 ∧ (wX12_goesOn t m a_0 (fun m7 => (Q m7))))
set_option maxHeartbeats 4000000 in
set_option maxRecDepth 20000 in
theorem sX12_needs_J13 {p : Program} {l : Launch} {e : Env} {s : State} {mt : MethodId} {args : Array Value} {below : List Frame} {meth : Method} {c : Code} {g : zG} {u : Nat × Nat} {mc ms : Nat} {t : zT} {m : zM} {a_0 : Nat} {Q : zM → Prop} (C : zC p (zRm 8 mc ms) s mt args meth c g cX12_needs 2 yX12_needs.cls 8) (hr : meth.sig.returnType = none) (hm : meth.name = yX12_needs.name) (hu1 : u.1 ≤ mc) (hu2 : u.2 ≤ ms) (H : wX12_needs_J13 t m a_0 Q) : zW p l e (zRm 8 mc ms) s mt args below meth c g (MQ below (zQc g (zPv t Q)) args s mc ms (zFar g)) u 2 t m 13 [(0, .ref a_0)] [] := by
  unfold wX12_needs_J13 at H
  refine z_aload_n (pc := 13) C (dX12_needs 7 rfl) rfl 0 rfl ?_
  obtain ⟨h5, H⟩ := H
  refine zc_Vv (pc := 14) (rest := []) C YX12_goesOn wl_X12_112 (kX12_goesOn H) (by decide) h5 rfl (by decide) (dX12_needs 8 rfl) rfl hu1 hu2 (Nat.le_of_ble_eq_true rfl) rfl (fun m7 H => ?_)
  exact z_vret (pc := 17) C hr hu1 hu2 (dX12_needs 9 rfl) ⟨rfl, rfl, H⟩
def wX12_needs (t : zT) (m : zM) (a : Nat) (p1 : Nat) (Q : zM → Prop) : Prop := (tK t a = 12 ∧ (wX12_isWord t m a p1 (fun r2 m3 => ((r2 = 0 → (wX12_flaw t m3 a 1 (fun m9 => (wX12_needs_J13 t m9 a Q)))) ∧ (¬ r2 = 0 → (wX12_needs_J13 t m3 a Q))))))
set_option maxHeartbeats 4000000 in
set_option maxRecDepth 20000 in
theorem kX12_needs {l : Launch} {t : zT} {m : zM} {a : Nat} {p1 : Nat} {Q : zM → Prop} (H : wX12_needs t m a p1 Q) : zMet l yX12_needs cX12_needs 2 none 8 0 0 t m [.ref a, .retAddr p1] (zPv t Q) := by
  refine zmet (by decide +kernel) (Nat.le_of_ble_eq_true rfl) ?_
  intro p e s mt args below meth c g C hr hm
  unfold wX12_needs at H
  have hu1 : ((0, 0) : Nat × Nat).1 ≤ 0 := Nat.le_refl 0
  have hu2 : ((0, 0) : Nat × Nat).2 ≤ 0 := Nat.le_refl 0
  refine z_aload_n (pc := 0) C (dX12_needs 0 rfl) rfl 0 rfl ?_
  refine z_aload_nS (pc := 1) C (dX12_needs 1 rfl) rfl 1 rfl ?_
  obtain ⟨h1, H⟩ := H
  refine zc_Vi (pc := 2) (rest := []) C YX12_isWord wl_X12_108 (kX12_isWord H) (by decide) h1 rfl (by decide) (dX12_needs 2 rfl) rfl hu1 hu2 (Nat.le_of_ble_eq_true rfl) rfl (fun r2 m3 H => ?_)
  refine z_if_ne (pc := 5) (tgt := 13) C (dX12_needs 3 rfl) (by decide) (fun c4 => ?_) (fun c4 => ?_)
  · replace H := H.2 c4
    refine z_sub [0] rfl ?_
    exact sX12_needs_J13 C hr hm hu1 hu2 H
  · replace H := H.1 c4
    refine z_aload_n (pc := 8) C (dX12_needs 4 rfl) rfl 0 rfl ?_
    refine z_iconst (pc := 9) (v := 1) C (dX12_needs 5 rfl) (by decide) ?_
    refine zc_Vv (pc := 10) (rest := []) C YX12_flaw wl_X12_115 (kX12_flaw H) (by decide) h1 rfl (by decide) (dX12_needs 6 rfl) rfl hu1 hu2 (Nat.le_of_ble_eq_true rfl) rfl (fun m9 H => ?_)
    refine z_sub [0] rfl ?_
    exact sX12_needs_J13 C hr hm hu1 hu2 H
def wX12_needsSign_J21 (t : zT) (m : zM) (a_0 : Nat) (Q : zM → Prop) : Prop := (tK t a_0 = 12 ∧ (wX12_goesOn t m a_0 (fun m8 => (Q m8))))
set_option maxHeartbeats 4000000 in
set_option maxRecDepth 20000 in
theorem sX12_needsSign_J21 {p : Program} {l : Launch} {e : Env} {s : State} {mt : MethodId} {args : Array Value} {below : List Frame} {meth : Method} {c : Code} {g : zG} {u : Nat × Nat} {mc ms : Nat} {t : zT} {m : zM} {a_0 : Nat} {Q : zM → Prop} (C : zC p (zRm 2 mc ms) s mt args meth c g cX12_needsSign 2 yX12_needsSign.cls 2) (hr : meth.sig.returnType = none) (hm : meth.name = yX12_needsSign.name) (hu1 : u.1 ≤ mc) (hu2 : u.2 ≤ ms) (H : wX12_needsSign_J21 t m a_0 Q) : zW p l e (zRm 2 mc ms) s mt args below meth c g (MQ below (zQc g (zPv t Q)) args s mc ms (zFar g)) u 2 t m 21 [(0, .ref a_0)] [] := by
  unfold wX12_needsSign_J21 at H
  refine z_aload_n (pc := 21) C (dX12_needsSign 11 rfl) rfl 0 rfl ?_
  obtain ⟨h6, H⟩ := H
  refine zc_Vv (pc := 22) (rest := []) C YX12_goesOn wl_X12_112 (kX12_goesOn H) (by decide) h6 rfl (by decide) (dX12_needsSign 12 rfl) rfl hu1 hu2 (Nat.le_of_ble_eq_true rfl) rfl (fun m8 H => ?_)
  exact z_vret (pc := 25) C hr hu1 hu2 (dX12_needsSign 13 rfl) ⟨rfl, rfl, H⟩
def wX12_needsSign_J16 (t : zT) (m : zM) (a_0 : Nat) (Q : zM → Prop) : Prop := (tK t a_0 = 12 ∧ (wX12_flaw t m a_0 1 (fun m5 => (wX12_needsSign_J21 t m5 a_0 Q))))
set_option maxHeartbeats 4000000 in
set_option maxRecDepth 20000 in
theorem sX12_needsSign_J16 {p : Program} {l : Launch} {e : Env} {s : State} {mt : MethodId} {args : Array Value} {below : List Frame} {meth : Method} {c : Code} {g : zG} {u : Nat × Nat} {mc ms : Nat} {t : zT} {m : zM} {a_0 : Nat} {Q : zM → Prop} (C : zC p (zRm 2 mc ms) s mt args meth c g cX12_needsSign 2 yX12_needsSign.cls 2) (hr : meth.sig.returnType = none) (hm : meth.name = yX12_needsSign.name) (hu1 : u.1 ≤ mc) (hu2 : u.2 ≤ ms) (H : wX12_needsSign_J16 t m a_0 Q) : zW p l e (zRm 2 mc ms) s mt args below meth c g (MQ below (zQc g (zPv t Q)) args s mc ms (zFar g)) u 2 t m 16 [(0, .ref a_0)] [] := by
  unfold wX12_needsSign_J16 at H
  refine z_aload_n (pc := 16) C (dX12_needsSign 8 rfl) rfl 0 rfl ?_
  refine z_iconst (pc := 17) (v := 1) C (dX12_needsSign 9 rfl) (by decide) ?_
  obtain ⟨h3, H⟩ := H
  refine zc_Vv (pc := 18) (rest := []) C YX12_flaw wl_X12_115 (kX12_flaw H) (by decide) h3 rfl (by decide) (dX12_needsSign 10 rfl) rfl hu1 hu2 (Nat.le_of_ble_eq_true rfl) rfl (fun m5 H => ?_)
  refine z_sub [0] rfl ?_
  exact sX12_needsSign_J21 C hr hm hu1 hu2 H
def wX12_needsSign (t : zT) (m : zM) (a : Nat) (p1 : Int32) (Q : zM → Prop) : Prop := (tK t a = 12 ∧ (((gI m a 9) = 4 → (((gI m a 11) = p1 → (wX12_needsSign_J21 t m a Q)) ∧ (¬ (gI m a 11) = p1 → (wX12_needsSign_J16 t m a Q)))) ∧ (¬ (gI m a 9) = 4 → (wX12_needsSign_J16 t m a Q))))
set_option maxHeartbeats 4000000 in
set_option maxRecDepth 20000 in
theorem kX12_needsSign {l : Launch} {t : zT} {m : zM} {a : Nat} {p1 : Int32} {Q : zM → Prop} (H : wX12_needsSign t m a p1 Q) : zMet l yX12_needsSign cX12_needsSign 2 none 2 0 0 t m [.ref a, .int p1] (zPv t Q) := by
  refine zmet (by decide +kernel) (Nat.le_of_ble_eq_true rfl) ?_
  intro p e s mt args below meth c g C hr hm
  unfold wX12_needsSign at H
  have hu1 : ((0, 0) : Nat × Nat).1 ≤ 0 := Nat.le_refl 0
  have hu2 : ((0, 0) : Nat × Nat).2 ≤ 0 := Nat.le_refl 0
  refine z_aload_n (pc := 0) C (dX12_needsSign 0 rfl) rfl 0 rfl ?_
  obtain ⟨h1, H⟩ := H
  refine z_getI (pc := 1) C zc12 h1 9 (by decide) rfl wf_X12_69 (dX12_needsSign 1 rfl) ?_
  refine z_iconst (pc := 4) (v := 4) C (dX12_needsSign 2 rfl) (by decide) ?_
  refine z_icmp_ne (pc := 5) (tgt := 16) C (dX12_needsSign 3 rfl) (by decide) (fun c2 => ?_) (fun c2 => ?_)
  · replace H := H.2 c2
    refine z_sub [0] rfl ?_
    exact sX12_needsSign_J16 C hr hm hu1 hu2 H
  · replace H := H.1 c2
    refine z_aload_n (pc := 8) C (dX12_needsSign 4 rfl) rfl 0 rfl ?_
    refine z_getI (pc := 9) C zc12 h1 11 (by decide) rfl wf_X12_81 (dX12_needsSign 5 rfl) ?_
    refine z_iload_n (pc := 12) C (dX12_needsSign 6 rfl) rfl 1 rfl ?_
    refine z_icmp_eq (pc := 13) (tgt := 21) C (dX12_needsSign 7 rfl) (by decide) (fun c9 => ?_) (fun c9 => ?_)
    · replace H := H.1 c9
      refine z_sub [0] rfl ?_
      exact sX12_needsSign_J21 C hr hm hu1 hu2 H
    · replace H := H.2 c9
      refine z_sub [0] rfl ?_
      exact sX12_needsSign_J16 C hr hm hu1 hu2 H
def wX12_bounded_J33 (t : zT) (m : zM) (a_0 : Nat) (x_1 : Int32) (Q : Int32 → zM → Prop) : Prop := (tK t a_0 = 12 ∧ (((gI m a_0 9) = 5 → (Q x_1 m)) ∧ (¬ (gI m a_0 9) = 5 → (Q (gI m a_0 12) m))))
set_option maxHeartbeats 4000000 in
set_option maxRecDepth 20000 in
theorem sX12_bounded_J33 {p : Program} {l : Launch} {e : Env} {s : State} {mt : MethodId} {args : Array Value} {below : List Frame} {meth : Method} {c : Code} {g : zG} {u : Nat × Nat} {mc ms : Nat} {t : zT} {m : zM} {a_0 : Nat} {x_1 : Int32} {Q : Int32 → zM → Prop} (C : zC p (zRm 1 mc ms) s mt args meth c g cX12_bounded 3 yX12_bounded.cls 1) (hr : meth.sig.returnType = (some .int)) (hm : meth.name = yX12_bounded.name) (hu1 : u.1 ≤ mc) (hu2 : u.2 ≤ ms) (H : wX12_bounded_J33 t m a_0 x_1 Q) : zW p l e (zRm 1 mc ms) s mt args below meth c g (MQ below (zQc g (zPi t Q)) args s mc ms (zFar g)) u 3 t m 33 [(0, .ref a_0), (1, .int x_1)] [] := by
  unfold wX12_bounded_J33 at H
  refine z_aload_n (pc := 33) C (dX12_bounded 17 rfl) rfl 0 rfl ?_
  obtain ⟨h6, H⟩ := H
  refine z_getI (pc := 34) C zc12 h6 9 (by decide) rfl wf_X12_69 (dX12_bounded 18 rfl) ?_
  refine z_iconst (pc := 37) (v := 5) C (dX12_bounded 19 rfl) (by decide) ?_
  refine z_icmp_ne (pc := 38) (tgt := 45) C (dX12_bounded 20 rfl) (by decide) (fun c7 => ?_) (fun c7 => ?_)
  · replace H := H.2 c7
    refine z_aload_n (pc := 45) C (dX12_bounded 23 rfl) rfl 0 rfl ?_
    refine z_getI (pc := 46) C zc12 h6 12 (by decide) rfl wf_X12_95 (dX12_bounded 24 rfl) ?_
    exact z_iret (pc := 49) C hr hu1 hu2 (dX12_bounded 25 rfl) ⟨rfl, _, rfl, H⟩
  · replace H := H.1 c7
    refine z_iload_n (pc := 41) C (dX12_bounded 21 rfl) rfl 1 rfl ?_
    refine z_goto (pc := 42) (tgt := 49) C (dX12_bounded 22 rfl) (by decide) ?_
    exact z_iret (pc := 49) C hr hu1 hu2 (dX12_bounded 25 rfl) ⟨rfl, _, rfl, H⟩
def wX12_bounded (t : zT) (m : zM) (a : Nat) (p1 : Int32) (p2 : Int32) (Q : Int32 → zM → Prop) : Prop := (tK t a = 12 ∧ (((gI m a 9) = 3 → (wX12_in t m (gI m a 12) p1 p2 (fun r3 m4 => ((r3 = 0 → (wX12_flaw t m4 a 4 (fun m9 => (wX12_bounded_J33 t m9 a p1 Q)))) ∧ (¬ r3 = 0 → (wX12_bounded_J33 t m4 a p1 Q)))))) ∧ (¬ (gI m a 9) = 3 → (wX12_flaw t m a 1 (fun m11 => (wX12_bounded_J33 t m11 a p1 Q))))))
set_option maxHeartbeats 4000000 in
set_option maxRecDepth 20000 in
theorem kX12_bounded {l : Launch} {t : zT} {m : zM} {a : Nat} {p1 : Int32} {p2 : Int32} {Q : Int32 → zM → Prop} (H : wX12_bounded t m a p1 p2 Q) : zMet l yX12_bounded cX12_bounded 3 (some .int) 1 0 0 t m [.ref a, .int p1, .int p2] (zPi t Q) := by
  refine zmet (by decide +kernel) (Nat.le_of_ble_eq_true rfl) ?_
  intro p e s mt args below meth c g C hr hm
  unfold wX12_bounded at H
  have hu1 : ((0, 0) : Nat × Nat).1 ≤ 0 := Nat.le_refl 0
  have hu2 : ((0, 0) : Nat × Nat).2 ≤ 0 := Nat.le_refl 0
  refine z_aload_n (pc := 0) C (dX12_bounded 0 rfl) rfl 0 rfl ?_
  obtain ⟨h1, H⟩ := H
  refine z_getI (pc := 1) C zc12 h1 9 (by decide) rfl wf_X12_69 (dX12_bounded 1 rfl) ?_
  refine z_iconst (pc := 4) (v := 3) C (dX12_bounded 2 rfl) (by decide) ?_
  refine z_icmp_eq (pc := 5) (tgt := 16) C (dX12_bounded 3 rfl) (by decide) (fun c2 => ?_) (fun c2 => ?_)
  · replace H := H.1 c2
    refine z_aload_n (pc := 16) C (dX12_bounded 8 rfl) rfl 0 rfl ?_
    refine z_getI (pc := 17) C zc12 h1 12 (by decide) rfl wf_X12_95 (dX12_bounded 9 rfl) ?_
    refine z_iload_n (pc := 20) C (dX12_bounded 10 rfl) rfl 1 rfl ?_
    refine z_iload_n (pc := 21) C (dX12_bounded 11 rfl) rfl 2 rfl ?_
    refine zc_Si (pc := 22) (rest := []) C YX12_in wl_X12_119 (kX12_in H) (by decide) (dX12_bounded 12 rfl) rfl hu1 hu2 (Nat.le_of_ble_eq_true rfl) rfl (fun r3 m4 H => ?_)
    refine z_if_ne (pc := 25) (tgt := 33) C (dX12_bounded 13 rfl) (by decide) (fun c5 => ?_) (fun c5 => ?_)
    · replace H := H.2 c5
      refine z_sub [0, 1] rfl ?_
      exact sX12_bounded_J33 C hr hm hu1 hu2 H
    · replace H := H.1 c5
      refine z_aload_n (pc := 28) C (dX12_bounded 14 rfl) rfl 0 rfl ?_
      refine z_iconst (pc := 29) (v := 4) C (dX12_bounded 15 rfl) (by decide) ?_
      refine zc_Vv (pc := 30) (rest := []) C YX12_flaw wl_X12_115 (kX12_flaw H) (by decide) h1 rfl (by decide) (dX12_bounded 16 rfl) rfl hu1 hu2 (Nat.le_of_ble_eq_true rfl) rfl (fun m9 H => ?_)
      refine z_sub [0, 1] rfl ?_
      exact sX12_bounded_J33 C hr hm hu1 hu2 H
  · replace H := H.2 c2
    refine z_aload_n (pc := 8) C (dX12_bounded 4 rfl) rfl 0 rfl ?_
    refine z_iconst (pc := 9) (v := 1) C (dX12_bounded 5 rfl) (by decide) ?_
    refine zc_Vv (pc := 10) (rest := []) C YX12_flaw wl_X12_115 (kX12_flaw H) (by decide) h1 rfl (by decide) (dX12_bounded 6 rfl) rfl hu1 hu2 (Nat.le_of_ble_eq_true rfl) rfl (fun m11 H => ?_)
    refine z_goto (pc := 13) (tgt := 33) C (dX12_bounded 7 rfl) (by decide) ?_
    refine z_sub [0, 1] rfl ?_
    exact sX12_bounded_J33 C hr hm hu1 hu2 H
def wX12_readWhole (t : zT) (m : zM) (a : Nat) (p1 : Int32) (p2 : Int32) (Q : Int32 → zM → Prop) : Prop := (tK t a = 12 ∧ (wX12_bounded t m a p1 p2 (fun r2 m3 => (wX12_goesOn t m3 a (fun m5 => (Q r2 m5))))))
set_option maxHeartbeats 4000000 in
set_option maxRecDepth 20000 in
theorem kX12_readWhole {l : Launch} {t : zT} {m : zM} {a : Nat} {p1 : Int32} {p2 : Int32} {Q : Int32 → zM → Prop} (H : wX12_readWhole t m a p1 p2 Q) : zMet l yX12_readWhole cX12_readWhole 4 (some .int) 2 0 0 t m [.ref a, .int p1, .int p2] (zPi t Q) := by
  refine zmet (by decide +kernel) (Nat.le_of_ble_eq_true rfl) ?_
  intro p e s mt args below meth c g C hr hm
  unfold wX12_readWhole at H
  have hu1 : ((0, 0) : Nat × Nat).1 ≤ 0 := Nat.le_refl 0
  have hu2 : ((0, 0) : Nat × Nat).2 ≤ 0 := Nat.le_refl 0
  refine z_aload_n (pc := 0) C (dX12_readWhole 0 rfl) rfl 0 rfl ?_
  refine z_iload_n (pc := 1) C (dX12_readWhole 1 rfl) rfl 1 rfl ?_
  refine z_iload_n (pc := 2) C (dX12_readWhole 2 rfl) rfl 2 rfl ?_
  obtain ⟨h1, H⟩ := H
  refine zc_Vi (pc := 3) (rest := []) C YX12_bounded wl_X12_123 (kX12_bounded H) (by decide) h1 rfl (by decide) (dX12_readWhole 3 rfl) rfl hu1 hu2 (Nat.le_of_ble_eq_true rfl) rfl (fun r2 m3 H => ?_)
  refine z_istore_n (pc := 6) (i := 3) (lv2 := [(3, .int r2), (0, .ref a), (1, .int p1), (2, .int p2)]) C (dX12_readWhole 4 rfl) rfl (by decide) rfl ?_
  refine z_aload_n (pc := 7) C (dX12_readWhole 5 rfl) rfl 1 rfl ?_
  refine zc_Vv (pc := 8) (rest := []) C YX12_goesOn wl_X12_112 (kX12_goesOn H) (by decide) h1 rfl (by decide) (dX12_readWhole 6 rfl) rfl hu1 hu2 (Nat.le_of_ble_eq_true rfl) rfl (fun m5 H => ?_)
  refine z_iload_n (pc := 11) C (dX12_readWhole 7 rfl) rfl 0 rfl ?_
  exact z_iret (pc := 12) C hr hu1 hu2 (dX12_readWhole 8 rfl) ⟨rfl, _, rfl, H⟩
def wX12_isName (t : zT) (m : zM) (a : Nat) (Q : Int32 → zM → Prop) : Prop := (tK t a = 12 ∧ (((gI m a 9) = 2 → (wX12_isWord t m a 1 (fun r3 m4 => ((r3 = 0 → (wX12_isWord t m4 a 2 (fun r6 m7 => ((r6 = 0 → (wX12_isWord t m7 a 3 (fun r9 m10 => ((r9 = 0 → (wX12_isWord t m10 a 4 (fun r12 m13 => ((r12 = 0 → (wX12_isWord t m13 a 5 (fun r15 m16 => ((r15 = 0 → (wX12_isWord t m16 a 6 (fun r18 m19 => ((r18 = 0 → (wX12_isWord t m19 a 7 (fun r21 m22 => ((r21 = 0 → (Q 1 m22)) ∧ (¬ r21 = 0 → (Q 0 m22)))))) ∧ (¬ r18 = 0 → (Q 0 m19)))))) ∧ (¬ r15 = 0 → (Q 0 m16)))))) ∧ (¬ r12 = 0 → (Q 0 m13)))))) ∧ (¬ r9 = 0 → (Q 0 m10)))))) ∧ (¬ r6 = 0 → (Q 0 m7)))))) ∧ (¬ r3 = 0 → (Q 0 m4)))))) ∧ (¬ (gI m a 9) = 2 → (Q 0 m))))
set_option maxHeartbeats 4000000 in
set_option maxRecDepth 20000 in
theorem kX12_isName {l : Launch} {t : zT} {m : zM} {a : Nat} {Q : Int32 → zM → Prop} (H : wX12_isName t m a Q) : zMet l yX12_isName cX12_isName 1 (some .boolean) 8 0 0 t m [.ref a] (zPi t Q) := by
  refine zmet (by decide +kernel) (Nat.le_of_ble_eq_true rfl) ?_
  intro p e s mt args below meth c g C hr hm
  unfold wX12_isName at H
  have hu1 : ((0, 0) : Nat × Nat).1 ≤ 0 := Nat.le_refl 0
  have hu2 : ((0, 0) : Nat × Nat).2 ≤ 0 := Nat.le_refl 0
  refine z_aload_n (pc := 0) C (dX12_isName 0 rfl) rfl 0 rfl ?_
  obtain ⟨h1, H⟩ := H
  refine z_getI (pc := 1) C zc12 h1 9 (by decide) rfl wf_X12_69 (dX12_isName 1 rfl) ?_
  refine z_iconst (pc := 4) (v := 2) C (dX12_isName 2 rfl) (by decide) ?_
  refine z_icmp_ne (pc := 5) (tgt := 75) C (dX12_isName 3 rfl) (by decide) (fun c2 => ?_) (fun c2 => ?_)
  · replace H := H.2 c2
    refine z_iconst (pc := 75) (v := 0) C (dX12_isName 34 rfl) (by decide) ?_
    exact z_zret (pc := 76) C hr (by decide) hu1 hu2 (dX12_isName 35 rfl) ⟨rfl, _, rfl, H⟩
  · replace H := H.1 c2
    refine z_aload_n (pc := 8) C (dX12_isName 4 rfl) rfl 0 rfl ?_
    refine z_ldcS (pc := 9) (k := 1) C (by decide) rfl rfl (dX12_isName 5 rfl) ?_
    refine zc_Vi (pc := 11) (rest := []) C YX12_isWord wl_X12_108 (kX12_isWord H) (by decide) h1 rfl (by decide) (dX12_isName 6 rfl) rfl hu1 hu2 (Nat.le_of_ble_eq_true rfl) rfl (fun r3 m4 H => ?_)
    refine z_if_ne (pc := 14) (tgt := 75) C (dX12_isName 7 rfl) (by decide) (fun c5 => ?_) (fun c5 => ?_)
    · replace H := H.2 c5
      refine z_iconst (pc := 75) (v := 0) C (dX12_isName 34 rfl) (by decide) ?_
      exact z_zret (pc := 76) C hr (by decide) hu1 hu2 (dX12_isName 35 rfl) ⟨rfl, _, rfl, H⟩
    · replace H := H.1 c5
      refine z_aload_n (pc := 17) C (dX12_isName 8 rfl) rfl 0 rfl ?_
      refine z_ldcS (pc := 18) (k := 2) C (by decide) rfl rfl (dX12_isName 9 rfl) ?_
      refine zc_Vi (pc := 20) (rest := []) C YX12_isWord wl_X12_108 (kX12_isWord H) (by decide) h1 rfl (by decide) (dX12_isName 10 rfl) rfl hu1 hu2 (Nat.le_of_ble_eq_true rfl) rfl (fun r6 m7 H => ?_)
      refine z_if_ne (pc := 23) (tgt := 75) C (dX12_isName 11 rfl) (by decide) (fun c8 => ?_) (fun c8 => ?_)
      · replace H := H.2 c8
        refine z_iconst (pc := 75) (v := 0) C (dX12_isName 34 rfl) (by decide) ?_
        exact z_zret (pc := 76) C hr (by decide) hu1 hu2 (dX12_isName 35 rfl) ⟨rfl, _, rfl, H⟩
      · replace H := H.1 c8
        refine z_aload_n (pc := 26) C (dX12_isName 12 rfl) rfl 0 rfl ?_
        refine z_ldcS (pc := 27) (k := 3) C (by decide) rfl rfl (dX12_isName 13 rfl) ?_
        refine zc_Vi (pc := 29) (rest := []) C YX12_isWord wl_X12_108 (kX12_isWord H) (by decide) h1 rfl (by decide) (dX12_isName 14 rfl) rfl hu1 hu2 (Nat.le_of_ble_eq_true rfl) rfl (fun r9 m10 H => ?_)
        refine z_if_ne (pc := 32) (tgt := 75) C (dX12_isName 15 rfl) (by decide) (fun c11 => ?_) (fun c11 => ?_)
        · replace H := H.2 c11
          refine z_iconst (pc := 75) (v := 0) C (dX12_isName 34 rfl) (by decide) ?_
          exact z_zret (pc := 76) C hr (by decide) hu1 hu2 (dX12_isName 35 rfl) ⟨rfl, _, rfl, H⟩
        · replace H := H.1 c11
          refine z_aload_n (pc := 35) C (dX12_isName 16 rfl) rfl 0 rfl ?_
          refine z_ldcS (pc := 36) (k := 4) C (by decide) rfl rfl (dX12_isName 17 rfl) ?_
          refine zc_Vi (pc := 38) (rest := []) C YX12_isWord wl_X12_108 (kX12_isWord H) (by decide) h1 rfl (by decide) (dX12_isName 18 rfl) rfl hu1 hu2 (Nat.le_of_ble_eq_true rfl) rfl (fun r12 m13 H => ?_)
          refine z_if_ne (pc := 41) (tgt := 75) C (dX12_isName 19 rfl) (by decide) (fun c14 => ?_) (fun c14 => ?_)
          · replace H := H.2 c14
            refine z_iconst (pc := 75) (v := 0) C (dX12_isName 34 rfl) (by decide) ?_
            exact z_zret (pc := 76) C hr (by decide) hu1 hu2 (dX12_isName 35 rfl) ⟨rfl, _, rfl, H⟩
          · replace H := H.1 c14
            refine z_aload_n (pc := 44) C (dX12_isName 20 rfl) rfl 0 rfl ?_
            refine z_ldcS (pc := 45) (k := 5) C (by decide) rfl rfl (dX12_isName 21 rfl) ?_
            refine zc_Vi (pc := 47) (rest := []) C YX12_isWord wl_X12_108 (kX12_isWord H) (by decide) h1 rfl (by decide) (dX12_isName 22 rfl) rfl hu1 hu2 (Nat.le_of_ble_eq_true rfl) rfl (fun r15 m16 H => ?_)
            refine z_if_ne (pc := 50) (tgt := 75) C (dX12_isName 23 rfl) (by decide) (fun c17 => ?_) (fun c17 => ?_)
            · replace H := H.2 c17
              refine z_iconst (pc := 75) (v := 0) C (dX12_isName 34 rfl) (by decide) ?_
              exact z_zret (pc := 76) C hr (by decide) hu1 hu2 (dX12_isName 35 rfl) ⟨rfl, _, rfl, H⟩
            · replace H := H.1 c17
              refine z_aload_n (pc := 53) C (dX12_isName 24 rfl) rfl 0 rfl ?_
              refine z_ldcS (pc := 54) (k := 6) C (by decide) rfl rfl (dX12_isName 25 rfl) ?_
              refine zc_Vi (pc := 56) (rest := []) C YX12_isWord wl_X12_108 (kX12_isWord H) (by decide) h1 rfl (by decide) (dX12_isName 26 rfl) rfl hu1 hu2 (Nat.le_of_ble_eq_true rfl) rfl (fun r18 m19 H => ?_)
              refine z_if_ne (pc := 59) (tgt := 75) C (dX12_isName 27 rfl) (by decide) (fun c20 => ?_) (fun c20 => ?_)
              · replace H := H.2 c20
                refine z_iconst (pc := 75) (v := 0) C (dX12_isName 34 rfl) (by decide) ?_
                exact z_zret (pc := 76) C hr (by decide) hu1 hu2 (dX12_isName 35 rfl) ⟨rfl, _, rfl, H⟩
              · replace H := H.1 c20
                refine z_aload_n (pc := 62) C (dX12_isName 28 rfl) rfl 0 rfl ?_
                refine z_ldcS (pc := 63) (k := 7) C (by decide) rfl rfl (dX12_isName 29 rfl) ?_
                refine zc_Vi (pc := 65) (rest := []) C YX12_isWord wl_X12_108 (kX12_isWord H) (by decide) h1 rfl (by decide) (dX12_isName 30 rfl) rfl hu1 hu2 (Nat.le_of_ble_eq_true rfl) rfl (fun r21 m22 H => ?_)
                refine z_if_ne (pc := 68) (tgt := 75) C (dX12_isName 31 rfl) (by decide) (fun c23 => ?_) (fun c23 => ?_)
                · replace H := H.2 c23
                  refine z_iconst (pc := 75) (v := 0) C (dX12_isName 34 rfl) (by decide) ?_
                  exact z_zret (pc := 76) C hr (by decide) hu1 hu2 (dX12_isName 35 rfl) ⟨rfl, _, rfl, H⟩
                · replace H := H.1 c23
                  refine z_iconst (pc := 71) (v := 1) C (dX12_isName 32 rfl) (by decide) ?_
                  refine z_goto (pc := 72) (tgt := 76) C (dX12_isName 33 rfl) (by decide) ?_
                  exact z_zret (pc := 76) C hr (by decide) hu1 hu2 (dX12_isName 35 rfl) ⟨rfl, _, rfl, H⟩
def wX12_begins_J10 (t : zT) (m : zM) (a_0 : Nat) (Q : zM → Prop) : Prop := (tK t a_0 = 12 ∧ (wX12_goesOn t m a_0 (fun m4 => (Q m4))))
set_option maxHeartbeats 4000000 in
set_option maxRecDepth 20000 in
theorem sX12_begins_J10 {p : Program} {l : Launch} {e : Env} {s : State} {mt : MethodId} {args : Array Value} {below : List Frame} {meth : Method} {c : Code} {g : zG} {u : Nat × Nat} {mc ms : Nat} {t : zT} {m : zM} {a_0 : Nat} {Q : zM → Prop} (C : zC p (zRm 2 mc ms) s mt args meth c g cX12_begins 3 yX12_begins.cls 2) (hr : meth.sig.returnType = none) (hm : meth.name = yX12_begins.name) (hu1 : u.1 ≤ mc) (hu2 : u.2 ≤ ms) (H : wX12_begins_J10 t m a_0 Q) : zW p l e (zRm 2 mc ms) s mt args below meth c g (MQ below (zQc g (zPv t Q)) args s mc ms (zFar g)) u 3 t m 10 [(0, .ref a_0)] [] := by
  unfold wX12_begins_J10 at H
  refine z_aload_n (pc := 10) C (dX12_begins 6 rfl) rfl 0 rfl ?_
  obtain ⟨h2, H⟩ := H
  refine zc_Vv (pc := 11) (rest := []) C YX12_goesOn wl_X12_112 (kX12_goesOn H) (by decide) h2 rfl (by decide) (dX12_begins 7 rfl) rfl hu1 hu2 (Nat.le_of_ble_eq_true rfl) rfl (fun m4 H => ?_)
  exact z_vret (pc := 14) C hr hu1 hu2 (dX12_begins 8 rfl) ⟨rfl, rfl, H⟩
def wX12_begins (t : zT) (m : zM) (a : Nat) (p1 : Int32) (p2 : Int32) (Q : zM → Prop) : Prop := ((p1 = p2 → (tK t a = 12 ∧ (wX12_flaw t m a 5 (fun m7 => (wX12_begins_J10 t m7 a Q))))) ∧ (¬ p1 = p2 → (wX12_begins_J10 t m a Q)))
set_option maxHeartbeats 4000000 in
set_option maxRecDepth 20000 in
theorem kX12_begins {l : Launch} {t : zT} {m : zM} {a : Nat} {p1 : Int32} {p2 : Int32} {Q : zM → Prop} (H : wX12_begins t m a p1 p2 Q) : zMet l yX12_begins cX12_begins 3 none 2 0 0 t m [.ref a, .int p1, .int p2] (zPv t Q) := by
  refine zmet (by decide +kernel) (Nat.le_of_ble_eq_true rfl) ?_
  intro p e s mt args below meth c g C hr hm
  unfold wX12_begins at H
  have hu1 : ((0, 0) : Nat × Nat).1 ≤ 0 := Nat.le_refl 0
  have hu2 : ((0, 0) : Nat × Nat).2 ≤ 0 := Nat.le_refl 0
  refine z_iload_n (pc := 0) C (dX12_begins 0 rfl) rfl 1 rfl ?_
  refine z_iload_n (pc := 1) C (dX12_begins 1 rfl) rfl 2 rfl ?_
  refine z_icmp_ne (pc := 2) (tgt := 10) C (dX12_begins 2 rfl) (by decide) (fun c1 => ?_) (fun c1 => ?_)
  · replace H := H.2 c1
    refine z_sub [0] rfl ?_
    exact sX12_begins_J10 C hr hm hu1 hu2 H
  · replace H := H.1 c1
    refine z_aload_n (pc := 5) C (dX12_begins 3 rfl) rfl 0 rfl ?_
    refine z_iconst (pc := 6) (v := 5) C (dX12_begins 4 rfl) (by decide) ?_
    obtain ⟨h5, H⟩ := H
    refine zc_Vv (pc := 7) (rest := []) C YX12_flaw wl_X12_115 (kX12_flaw H) (by decide) h5 rfl (by decide) (dX12_begins 5 rfl) rfl hu1 hu2 (Nat.le_of_ble_eq_true rfl) rfl (fun m7 H => ?_)
    refine z_sub [0] rfl ?_
    exact sX12_begins_J10 C hr hm hu1 hu2 H
def wX12_readFresh_J32 (t : zT) (m : zM) (a_0 : Nat) (Q : Int64 → zM → Prop) : Prop := (tK t a_0 = 12 ∧ (∀ x11 : Int64, x11 = (gJ m a_0 15) → ((wX12_goesOn t m a_0 (fun m13 => (Q x11 m13))))))
set_option maxHeartbeats 4000000 in
set_option maxRecDepth 20000 in
theorem sX12_readFresh_J32 {p : Program} {l : Launch} {e : Env} {s : State} {mt : MethodId} {args : Array Value} {below : List Frame} {meth : Method} {c : Code} {g : zG} {u : Nat × Nat} {mc ms : Nat} {t : zT} {m : zM} {a_0 : Nat} {Q : Int64 → zM → Prop} (C : zC p (zRm 9 mc ms) s mt args meth c g cX12_readFresh 3 yX12_readFresh.cls 9) (hr : meth.sig.returnType = (some .long)) (hm : meth.name = yX12_readFresh.name) (hu1 : u.1 ≤ mc) (hu2 : u.2 ≤ ms) (H : wX12_readFresh_J32 t m a_0 Q) : zW p l e (zRm 9 mc ms) s mt args below meth c g (MQ below (zQc g (zPl t Q)) args s mc ms (zFar g)) u 3 t m 32 [(0, .ref a_0)] [] := by
  unfold wX12_readFresh_J32 at H
  refine z_aload_n (pc := 32) C (dX12_readFresh 16 rfl) rfl 0 rfl ?_
  obtain ⟨h10, H⟩ := H
  refine z_getJ (pc := 33) C zc12 h10 15 (by decide) rfl wf_X12_88 (dX12_readFresh 17 rfl) ?_
  refine z_long (fun x11 hx11 => ?_)
  replace H := H x11 hx11
  refine z_lstore_n (pc := 36) (i := 1) (lv2 := [(1, .long x11), (0, .ref a_0)]) C (dX12_readFresh 18 rfl) rfl (by decide) rfl ?_
  refine z_aload_n (pc := 37) C (dX12_readFresh 19 rfl) rfl 1 rfl ?_
  refine zc_Vv (pc := 38) (rest := []) C YX12_goesOn wl_X12_112 (kX12_goesOn H) (by decide) h10 rfl (by decide) (dX12_readFresh 20 rfl) rfl hu1 hu2 (Nat.le_of_ble_eq_true rfl) rfl (fun m13 H => ?_)
  refine z_lload_n (pc := 41) C (dX12_readFresh 21 rfl) rfl 0 rfl ?_
  exact z_lret (pc := 42) C hr hu1 hu2 (dX12_readFresh 22 rfl) ⟨rfl, _, rfl, H⟩
def wX12_readFresh_J12 (t : zT) (m : zM) (a_0 : Nat) (Q : Int64 → zM → Prop) : Prop := (tK t a_0 = 12 ∧ (tK t (gR m a_0 4) = 11 ∧ (wX11_find t m (gR m a_0 4) (gJ m a_0 15) (fun r7 m8 => ((r7 = (-1) → (wX12_readFresh_J32 t m8 a_0 Q)) ∧ (¬ r7 = (-1) → (wX12_flaw t m8 a_0 3 (fun m15 => (wX12_readFresh_J32 t m15 a_0 Q)))))))))
set_option maxHeartbeats 4000000 in
set_option maxRecDepth 20000 in
theorem sX12_readFresh_J12 {p : Program} {l : Launch} {e : Env} {s : State} {mt : MethodId} {args : Array Value} {below : List Frame} {meth : Method} {c : Code} {g : zG} {u : Nat × Nat} {mc ms : Nat} {t : zT} {m : zM} {a_0 : Nat} {Q : Int64 → zM → Prop} (C : zC p (zRm 9 mc ms) s mt args meth c g cX12_readFresh 3 yX12_readFresh.cls 9) (hr : meth.sig.returnType = (some .long)) (hm : meth.name = yX12_readFresh.name) (hu1 : u.1 ≤ mc) (hu2 : u.2 ≤ ms) (H : wX12_readFresh_J12 t m a_0 Q) : zW p l e (zRm 9 mc ms) s mt args below meth c g (MQ below (zQc g (zPl t Q)) args s mc ms (zFar g)) u 3 t m 12 [(0, .ref a_0)] [] := by
  unfold wX12_readFresh_J12 at H
  refine z_aload_n (pc := 12) C (dX12_readFresh 6 rfl) rfl 0 rfl ?_
  obtain ⟨h5, H⟩ := H
  refine z_getR (pc := 13) C zc12 h5 4 (by decide) rfl wf_X12_145 (dX12_readFresh 7 rfl) ?_
  refine z_aload_n (pc := 16) C (dX12_readFresh 8 rfl) rfl 0 rfl ?_
  refine z_getJ (pc := 17) C zc12 h5 15 (by decide) rfl wf_X12_88 (dX12_readFresh 9 rfl) ?_
  obtain ⟨h6, H⟩ := H
  refine zc_Vi (pc := 20) (rest := []) C YX11_find wl_X12_149 (kX11_find H) (by decide) h6 rfl (by decide) (dX12_readFresh 10 rfl) rfl hu1 hu2 (Nat.le_of_ble_eq_true rfl) rfl (fun r7 m8 H => ?_)
  refine z_iconst (pc := 23) (v := (-1)) C (dX12_readFresh 11 rfl) (by decide) ?_
  refine z_icmp_eq (pc := 24) (tgt := 32) C (dX12_readFresh 12 rfl) (by decide) (fun c9 => ?_) (fun c9 => ?_)
  · replace H := H.1 c9
    refine z_sub [0] rfl ?_
    exact sX12_readFresh_J32 C hr hm hu1 hu2 H
  · replace H := H.2 c9
    refine z_aload_n (pc := 27) C (dX12_readFresh 13 rfl) rfl 0 rfl ?_
    refine z_iconst (pc := 28) (v := 3) C (dX12_readFresh 14 rfl) (by decide) ?_
    refine zc_Vv (pc := 29) (rest := []) C YX12_flaw wl_X12_115 (kX12_flaw H) (by decide) h5 rfl (by decide) (dX12_readFresh 15 rfl) rfl hu1 hu2 (Nat.le_of_ble_eq_true rfl) rfl (fun m15 H => ?_)
    refine z_sub [0] rfl ?_
    exact sX12_readFresh_J32 C hr hm hu1 hu2 H
def wX12_readFresh (t : zT) (m : zM) (a : Nat) (Q : Int64 → zM → Prop) : Prop := (tK t a = 12 ∧ (wX12_isName t m a (fun r2 m3 => ((r2 = 0 → (wX12_flaw t m3 a 1 (fun m17 => (wX12_readFresh_J12 t m17 a Q)))) ∧ (¬ r2 = 0 → (wX12_readFresh_J12 t m3 a Q))))))
set_option maxHeartbeats 4000000 in
set_option maxRecDepth 20000 in
theorem kX12_readFresh {l : Launch} {t : zT} {m : zM} {a : Nat} {Q : Int64 → zM → Prop} (H : wX12_readFresh t m a Q) : zMet l yX12_readFresh cX12_readFresh 3 (some .long) 9 0 0 t m [.ref a] (zPl t Q) := by
  refine zmet (by decide +kernel) (Nat.le_of_ble_eq_true rfl) ?_
  intro p e s mt args below meth c g C hr hm
  unfold wX12_readFresh at H
  have hu1 : ((0, 0) : Nat × Nat).1 ≤ 0 := Nat.le_refl 0
  have hu2 : ((0, 0) : Nat × Nat).2 ≤ 0 := Nat.le_refl 0
  refine z_aload_n (pc := 0) C (dX12_readFresh 0 rfl) rfl 0 rfl ?_
  obtain ⟨h1, H⟩ := H
  refine zc_Vi (pc := 1) (rest := []) C YX12_isName wl_X12_141 (kX12_isName H) (by decide) h1 rfl (by decide) (dX12_readFresh 1 rfl) rfl hu1 hu2 (Nat.le_of_ble_eq_true rfl) rfl (fun r2 m3 H => ?_)
  refine z_if_ne (pc := 4) (tgt := 12) C (dX12_readFresh 2 rfl) (by decide) (fun c4 => ?_) (fun c4 => ?_)
  · replace H := H.2 c4
    refine z_sub [0] rfl ?_
    exact sX12_readFresh_J12 C hr hm hu1 hu2 H
  · replace H := H.1 c4
    refine z_aload_n (pc := 7) C (dX12_readFresh 3 rfl) rfl 0 rfl ?_
    refine z_iconst (pc := 8) (v := 1) C (dX12_readFresh 4 rfl) (by decide) ?_
    refine zc_Vv (pc := 9) (rest := []) C YX12_flaw wl_X12_115 (kX12_flaw H) (by decide) h1 rfl (by decide) (dX12_readFresh 5 rfl) rfl hu1 hu2 (Nat.le_of_ble_eq_true rfl) rfl (fun m17 H => ?_)
    refine z_sub [0] rfl ?_
    exact sX12_readFresh_J12 C hr hm hu1 hu2 H
def wX12_names (t : zT) (m : zM) (a : Nat) (p1 : Int64) (p2 : Int32) (p3 : Int32) (Q : zM → Prop) : Prop := (tK t a = 12 ∧ (tK t (gR m a 4) = 11 ∧ (tK t (gR m (gR m a 4) 21) = 15 ∧ (vp_in (gI m (gR m a 4) 8) (tL t (gR m (gR m a 4) 21)) ∧ (tK t (gR m (gR m a 4) 22) = 14 ∧ (vp_in (gI m (gR m a 4) 8) (tL t (gR m (gR m a 4) 22)) ∧ (tK t (gR m (gR m a 4) 23) = 14 ∧ (vp_in (gI (pI (pJ m (gR m (gR m a 4) 21) ((gI m (gR m a 4) 8).toNatClampNeg) p1) (gR m (gR m a 4) 22) ((gI m (gR m a 4) 8).toNatClampNeg) p2) (gR m a 4) 8) (tL t (gR m (gR m a 4) 23)) ∧ (Q (pI (pI (pI (pJ m (gR m (gR m a 4) 21) ((gI m (gR m a 4) 8).toNatClampNeg) p1) (gR m (gR m a 4) 22) ((gI m (gR m a 4) 8).toNatClampNeg) p2) (gR m (gR m a 4) 23) ((gI (pI (pJ m (gR m (gR m a 4) 21) ((gI m (gR m a 4) 8).toNatClampNeg) p1) (gR m (gR m a 4) 22) ((gI m (gR m a 4) 8).toNatClampNeg) p2) (gR m a 4) 8).toNatClampNeg) p3) (gR m a 4) 8 ((gI (pI (pI (pJ m (gR m (gR m a 4) 21) ((gI m (gR m a 4) 8).toNatClampNeg) p1) (gR m (gR m a 4) 22) ((gI m (gR m a 4) 8).toNatClampNeg) p2) (gR m (gR m a 4) 23) ((gI (pI (pJ m (gR m (gR m a 4) 21) ((gI m (gR m a 4) 8).toNatClampNeg) p1) (gR m (gR m a 4) 22) ((gI m (gR m a 4) 8).toNatClampNeg) p2) (gR m a 4) 8).toNatClampNeg) p3) (gR m a 4) 8) + (1 : Int32))))))))))))
set_option maxHeartbeats 4000000 in
set_option maxRecDepth 20000 in
theorem kX12_names {l : Launch} {t : zT} {m : zM} {a : Nat} {p1 : Int64} {p2 : Int32} {p3 : Int32} {Q : zM → Prop} (H : wX12_names t m a p1 p2 p3 Q) : zMet l yX12_names cX12_names 5 none 0 0 0 t m [.ref a, .long p1, .int p2, .int p3] (zPv t Q) := by
  refine zmet (by decide +kernel) (Nat.le_of_ble_eq_true rfl) ?_
  intro p e s mt args below meth c g C hr hm
  unfold wX12_names at H
  have hu1 : ((0, 0) : Nat × Nat).1 ≤ 0 := Nat.le_refl 0
  have hu2 : ((0, 0) : Nat × Nat).2 ≤ 0 := Nat.le_refl 0
  refine z_aload_n (pc := 0) C (dX12_names 0 rfl) rfl 0 rfl ?_
  obtain ⟨h1, H⟩ := H
  refine z_getR (pc := 1) C zc12 h1 4 (by decide) rfl wf_X12_145 (dX12_names 1 rfl) ?_
  obtain ⟨h2, H⟩ := H
  refine z_getRN (pc := 4) C zc11 h2 21 (by decide) rfl wn_X12_155 (dX12_names 2 rfl) ?_
  refine z_aload_n (pc := 7) C (dX12_names 3 rfl) rfl 0 rfl ?_
  refine z_getR (pc := 8) C zc12 h1 4 (by decide) rfl wf_X12_145 (dX12_names 4 rfl) ?_
  refine z_getIN (pc := 11) C zc11 h2 8 (by decide) rfl wn_X12_159 (dX12_names 5 rfl) ?_
  refine z_lload_n (pc := 14) C (dX12_names 6 rfl) rfl 1 rfl ?_
  obtain ⟨h3, H⟩ := H
  obtain ⟨h4, H⟩ := H
  refine z_lastore (pc := 15) C h3 h4 (dX12_names 7 rfl) ?_
  refine z_aload_n (pc := 16) C (dX12_names 8 rfl) rfl 0 rfl ?_
  refine z_getR (pc := 17) C zc12 h1 4 (by decide) rfl wf_X12_145 (dX12_names 9 rfl) ?_
  refine z_getRN (pc := 20) C zc11 h2 22 (by decide) rfl wn_X12_162 (dX12_names 10 rfl) ?_
  refine z_aload_n (pc := 23) C (dX12_names 11 rfl) rfl 0 rfl ?_
  refine z_getR (pc := 24) C zc12 h1 4 (by decide) rfl wf_X12_145 (dX12_names 12 rfl) ?_
  refine z_getIN (pc := 27) C zc11 h2 8 (by decide) rfl wn_X12_159 (dX12_names 13 rfl) ?_
  refine z_iload_n (pc := 30) C (dX12_names 14 rfl) rfl 2 rfl ?_
  obtain ⟨h5, H⟩ := H
  obtain ⟨h6, H⟩ := H
  refine z_iastore (pc := 31) C h5 h6 (dX12_names 15 rfl) ?_
  refine z_aload_n (pc := 32) C (dX12_names 16 rfl) rfl 0 rfl ?_
  refine z_getR (pc := 33) C zc12 h1 4 (by decide) rfl wf_X12_145 (dX12_names 17 rfl) ?_
  refine z_getRN (pc := 36) C zc11 h2 23 (by decide) rfl wn_X12_165 (dX12_names 18 rfl) ?_
  refine z_aload_n (pc := 39) C (dX12_names 19 rfl) rfl 0 rfl ?_
  refine z_getR (pc := 40) C zc12 h1 4 (by decide) rfl wf_X12_145 (dX12_names 20 rfl) ?_
  refine z_getIN (pc := 43) C zc11 h2 8 (by decide) rfl wn_X12_159 (dX12_names 21 rfl) ?_
  refine z_iload (pc := 46) C (dX12_names 22 rfl) 3 rfl ?_
  obtain ⟨h7, H⟩ := H
  obtain ⟨h8, H⟩ := H
  refine z_iastore (pc := 48) C h7 h8 (dX12_names 23 rfl) ?_
  refine z_aload_n (pc := 49) C (dX12_names 24 rfl) rfl 0 rfl ?_
  refine z_getR (pc := 50) C zc12 h1 4 (by decide) rfl wf_X12_145 (dX12_names 25 rfl) ?_
  refine z_dup (pc := 53) C (dX12_names 26 rfl) rfl ?_
  refine z_getIN (pc := 54) C zc11 h2 8 (by decide) rfl wn_X12_159 (dX12_names 27 rfl) ?_
  refine z_iconst (pc := 57) (v := 1) C (dX12_names 28 rfl) (by decide) ?_
  refine z_iadd (pc := 58) C (dX12_names 29 rfl) ?_
  refine z_putIN (pc := 59) C zc11 h2 8 (by decide) rfl rfl wn_X12_159 (dX12_names 30 rfl) ?_
  exact z_vret (pc := 62) C hr hu1 hu2 (dX12_names 31 rfl) ⟨rfl, rfl, H⟩
def wX12_known_J47 (t : zT) (m : zM) (a_0 : Nat) (x_2 : Int32) (Q : Int32 → zM → Prop) : Prop := (tK t a_0 = 12 ∧ (((gI m a_0 9) = 5 → (Q 0 m)) ∧ (¬ (gI m a_0 9) = 5 → (tK t (gR m a_0 4) = 11 ∧ (tK t (gR m (gR m a_0 4) 23) = 14 ∧ (vp_in x_2 (tL t (gR m (gR m a_0 4) 23)) ∧ (Q (gI m (gR m (gR m a_0 4) 23) x_2.toNatClampNeg) m)))))))
set_option maxHeartbeats 4000000 in
set_option maxRecDepth 20000 in
theorem sX12_known_J47 {p : Program} {l : Launch} {e : Env} {s : State} {mt : MethodId} {args : Array Value} {below : List Frame} {meth : Method} {c : Code} {g : zG} {u : Nat × Nat} {mc ms : Nat} {t : zT} {m : zM} {a_0 : Nat} {x_2 : Int32} {Q : Int32 → zM → Prop} (C : zC p (zRm 9 mc ms) s mt args meth c g cX12_known 3 yX12_known.cls 9) (hr : meth.sig.returnType = (some .int)) (hm : meth.name = yX12_known.name) (hu1 : u.1 ≤ mc) (hu2 : u.2 ≤ ms) (H : wX12_known_J47 t m a_0 x_2 Q) : zW p l e (zRm 9 mc ms) s mt args below meth c g (MQ below (zQc g (zPi t Q)) args s mc ms (zFar g)) u 3 t m 47 [(0, .ref a_0), (2, .int x_2)] [] := by
  unfold wX12_known_J47 at H
  refine z_aload_n (pc := 47) C (dX12_known 25 rfl) rfl 0 rfl ?_
  obtain ⟨h13, H⟩ := H
  refine z_getI (pc := 48) C zc12 h13 9 (by decide) rfl wf_X12_69 (dX12_known 26 rfl) ?_
  refine z_iconst (pc := 51) (v := 5) C (dX12_known 27 rfl) (by decide) ?_
  refine z_icmp_ne (pc := 52) (tgt := 59) C (dX12_known 28 rfl) (by decide) (fun c14 => ?_) (fun c14 => ?_)
  · replace H := H.2 c14
    refine z_aload_n (pc := 59) C (dX12_known 31 rfl) rfl 0 rfl ?_
    refine z_getR (pc := 60) C zc12 h13 4 (by decide) rfl wf_X12_145 (dX12_known 32 rfl) ?_
    obtain ⟨h15, H⟩ := H
    refine z_getRN (pc := 63) C zc11 h15 23 (by decide) rfl wn_X12_165 (dX12_known 33 rfl) ?_
    refine z_iload_n (pc := 66) C (dX12_known 34 rfl) rfl 1 rfl ?_
    obtain ⟨h16, H⟩ := H
    obtain ⟨h17, H⟩ := H
    refine z_iaload (pc := 67) C h16 h17 (dX12_known 35 rfl) ?_
    exact z_iret (pc := 68) C hr hu1 hu2 (dX12_known 36 rfl) ⟨rfl, _, rfl, H⟩
  · replace H := H.1 c14
    refine z_iconst (pc := 55) (v := 0) C (dX12_known 29 rfl) (by decide) ?_
    refine z_goto (pc := 56) (tgt := 68) C (dX12_known 30 rfl) (by decide) ?_
    exact z_iret (pc := 68) C hr hu1 hu2 (dX12_known 36 rfl) ⟨rfl, _, rfl, H⟩
def wX12_known_J42 (t : zT) (m : zM) (a_0 : Nat) (x_2 : Int32) (Q : Int32 → zM → Prop) : Prop := (tK t a_0 = 12 ∧ (wX12_flaw t m a_0 2 (fun m12 => (wX12_known_J47 t m12 a_0 x_2 Q))))
set_option maxHeartbeats 4000000 in
set_option maxRecDepth 20000 in
theorem sX12_known_J42 {p : Program} {l : Launch} {e : Env} {s : State} {mt : MethodId} {args : Array Value} {below : List Frame} {meth : Method} {c : Code} {g : zG} {u : Nat × Nat} {mc ms : Nat} {t : zT} {m : zM} {a_0 : Nat} {x_2 : Int32} {Q : Int32 → zM → Prop} (C : zC p (zRm 9 mc ms) s mt args meth c g cX12_known 3 yX12_known.cls 9) (hr : meth.sig.returnType = (some .int)) (hm : meth.name = yX12_known.name) (hu1 : u.1 ≤ mc) (hu2 : u.2 ≤ ms) (H : wX12_known_J42 t m a_0 x_2 Q) : zW p l e (zRm 9 mc ms) s mt args below meth c g (MQ below (zQc g (zPi t Q)) args s mc ms (zFar g)) u 3 t m 42 [(0, .ref a_0), (2, .int x_2)] [] := by
  unfold wX12_known_J42 at H
  refine z_aload_n (pc := 42) C (dX12_known 22 rfl) rfl 0 rfl ?_
  refine z_iconst (pc := 43) (v := 2) C (dX12_known 23 rfl) (by decide) ?_
  obtain ⟨h10, H⟩ := H
  refine zc_Vv (pc := 44) (rest := []) C YX12_flaw wl_X12_115 (kX12_flaw H) (by decide) h10 rfl (by decide) (dX12_known 24 rfl) rfl hu1 hu2 (Nat.le_of_ble_eq_true rfl) rfl (fun m12 H => ?_)
  refine z_sub [0, 1] rfl ?_
  exact sX12_known_J47 C hr hm hu1 hu2 H
def wX12_known_J12 (t : zT) (m : zM) (a_0 : Nat) (x_1 : Int32) (Q : Int32 → zM → Prop) : Prop := (tK t a_0 = 12 ∧ (tK t (gR m a_0 4) = 11 ∧ (wX11_find t m (gR m a_0 4) (gJ m a_0 15) (fun r7 m8 => ((r7 = (-1) → (wX12_known_J42 t m8 a_0 r7 Q)) ∧ (¬ r7 = (-1) → (tK t (gR m8 a_0 4) = 11 ∧ (tK t (gR m8 (gR m8 a_0 4) 22) = 14 ∧ (vp_in r7 (tL t (gR m8 (gR m8 a_0 4) 22)) ∧ (((gI m8 (gR m8 (gR m8 a_0 4) 22) r7.toNatClampNeg) = x_1 → (wX12_known_J47 t m8 a_0 r7 Q)) ∧ (¬ (gI m8 (gR m8 (gR m8 a_0 4) 22) r7.toNatClampNeg) = x_1 → (wX12_known_J42 t m8 a_0 r7 Q))))))))))))
set_option maxHeartbeats 4000000 in
set_option maxRecDepth 20000 in
theorem sX12_known_J12 {p : Program} {l : Launch} {e : Env} {s : State} {mt : MethodId} {args : Array Value} {below : List Frame} {meth : Method} {c : Code} {g : zG} {u : Nat × Nat} {mc ms : Nat} {t : zT} {m : zM} {a_0 : Nat} {x_1 : Int32} {Q : Int32 → zM → Prop} (C : zC p (zRm 9 mc ms) s mt args meth c g cX12_known 3 yX12_known.cls 9) (hr : meth.sig.returnType = (some .int)) (hm : meth.name = yX12_known.name) (hu1 : u.1 ≤ mc) (hu2 : u.2 ≤ ms) (H : wX12_known_J12 t m a_0 x_1 Q) : zW p l e (zRm 9 mc ms) s mt args below meth c g (MQ below (zQc g (zPi t Q)) args s mc ms (zFar g)) u 3 t m 12 [(0, .ref a_0), (1, .int x_1)] [] := by
  unfold wX12_known_J12 at H
  refine z_aload_n (pc := 12) C (dX12_known 6 rfl) rfl 0 rfl ?_
  obtain ⟨h5, H⟩ := H
  refine z_getR (pc := 13) C zc12 h5 4 (by decide) rfl wf_X12_145 (dX12_known 7 rfl) ?_
  refine z_aload_n (pc := 16) C (dX12_known 8 rfl) rfl 0 rfl ?_
  refine z_getJ (pc := 17) C zc12 h5 15 (by decide) rfl wf_X12_88 (dX12_known 9 rfl) ?_
  obtain ⟨h6, H⟩ := H
  refine zc_Vi (pc := 20) (rest := []) C YX11_find wl_X12_149 (kX11_find H) (by decide) h6 rfl (by decide) (dX12_known 10 rfl) rfl hu1 hu2 (Nat.le_of_ble_eq_true rfl) rfl (fun r7 m8 H => ?_)
  refine z_istore_n (pc := 23) (i := 2) (lv2 := [(2, .int r7), (0, .ref a_0), (1, .int x_1)]) C (dX12_known 11 rfl) rfl (by decide) rfl ?_
  refine z_iload_n (pc := 24) C (dX12_known 12 rfl) rfl 0 rfl ?_
  refine z_iconst (pc := 25) (v := (-1)) C (dX12_known 13 rfl) (by decide) ?_
  refine z_icmp_eq (pc := 26) (tgt := 42) C (dX12_known 14 rfl) (by decide) (fun c9 => ?_) (fun c9 => ?_)
  · replace H := H.1 c9
    refine z_sub [1, 0] rfl ?_
    exact sX12_known_J42 C hr hm hu1 hu2 H
  · replace H := H.2 c9
    refine z_aload_n (pc := 29) C (dX12_known 15 rfl) rfl 1 rfl ?_
    refine z_getR (pc := 30) C zc12 h5 4 (by decide) rfl wf_X12_145 (dX12_known 16 rfl) ?_
    obtain ⟨h18, H⟩ := H
    refine z_getRN (pc := 33) C zc11 h18 22 (by decide) rfl wn_X12_162 (dX12_known 17 rfl) ?_
    refine z_iload_n (pc := 36) C (dX12_known 18 rfl) rfl 0 rfl ?_
    obtain ⟨h19, H⟩ := H
    obtain ⟨h20, H⟩ := H
    refine z_iaload (pc := 37) C h19 h20 (dX12_known 19 rfl) ?_
    refine z_iload_n (pc := 38) C (dX12_known 20 rfl) rfl 2 rfl ?_
    refine z_icmp_eq (pc := 39) (tgt := 47) C (dX12_known 21 rfl) (by decide) (fun c21 => ?_) (fun c21 => ?_)
    · replace H := H.1 c21
      refine z_sub [1, 0] rfl ?_
      exact sX12_known_J47 C hr hm hu1 hu2 H
    · replace H := H.2 c21
      refine z_sub [1, 0] rfl ?_
      exact sX12_known_J42 C hr hm hu1 hu2 H
def wX12_known (t : zT) (m : zM) (a : Nat) (p1 : Int32) (Q : Int32 → zM → Prop) : Prop := (tK t a = 12 ∧ (wX12_isName t m a (fun r2 m3 => ((r2 = 0 → (wX12_flaw t m3 a 1 (fun m23 => (wX12_known_J12 t m23 a p1 Q)))) ∧ (¬ r2 = 0 → (wX12_known_J12 t m3 a p1 Q))))))
set_option maxHeartbeats 4000000 in
set_option maxRecDepth 20000 in
theorem kX12_known {l : Launch} {t : zT} {m : zM} {a : Nat} {p1 : Int32} {Q : Int32 → zM → Prop} (H : wX12_known t m a p1 Q) : zMet l yX12_known cX12_known 3 (some .int) 9 0 0 t m [.ref a, .int p1] (zPi t Q) := by
  refine zmet (by decide +kernel) (Nat.le_of_ble_eq_true rfl) ?_
  intro p e s mt args below meth c g C hr hm
  unfold wX12_known at H
  have hu1 : ((0, 0) : Nat × Nat).1 ≤ 0 := Nat.le_refl 0
  have hu2 : ((0, 0) : Nat × Nat).2 ≤ 0 := Nat.le_refl 0
  refine z_aload_n (pc := 0) C (dX12_known 0 rfl) rfl 0 rfl ?_
  obtain ⟨h1, H⟩ := H
  refine zc_Vi (pc := 1) (rest := []) C YX12_isName wl_X12_141 (kX12_isName H) (by decide) h1 rfl (by decide) (dX12_known 1 rfl) rfl hu1 hu2 (Nat.le_of_ble_eq_true rfl) rfl (fun r2 m3 H => ?_)
  refine z_if_ne (pc := 4) (tgt := 12) C (dX12_known 2 rfl) (by decide) (fun c4 => ?_) (fun c4 => ?_)
  · replace H := H.2 c4
    refine z_sub [0, 1] rfl ?_
    exact sX12_known_J12 C hr hm hu1 hu2 H
  · replace H := H.1 c4
    refine z_aload_n (pc := 7) C (dX12_known 3 rfl) rfl 0 rfl ?_
    refine z_iconst (pc := 8) (v := 1) C (dX12_known 4 rfl) (by decide) ?_
    refine zc_Vv (pc := 9) (rest := []) C YX12_flaw wl_X12_115 (kX12_flaw H) (by decide) h1 rfl (by decide) (dX12_known 5 rfl) rfl hu1 hu2 (Nat.le_of_ble_eq_true rfl) rfl (fun m23 H => ?_)
    refine z_sub [0, 1] rfl ?_
    exact sX12_known_J12 C hr hm hu1 hu2 H
def wX12_readKnown (t : zT) (m : zM) (a : Nat) (p1 : Int32) (Q : Int32 → zM → Prop) : Prop := (tK t a = 12 ∧ (wX12_known t m a p1 (fun r2 m3 => (wX12_goesOn t m3 a (fun m5 => (Q r2 m5))))))
set_option maxHeartbeats 4000000 in
set_option maxRecDepth 20000 in
theorem kX12_readKnown {l : Launch} {t : zT} {m : zM} {a : Nat} {p1 : Int32} {Q : Int32 → zM → Prop} (H : wX12_readKnown t m a p1 Q) : zMet l yX12_readKnown cX12_readKnown 3 (some .int) 10 0 0 t m [.ref a, .int p1] (zPi t Q) := by
  refine zmet (by decide +kernel) (Nat.le_of_ble_eq_true rfl) ?_
  intro p e s mt args below meth c g C hr hm
  unfold wX12_readKnown at H
  have hu1 : ((0, 0) : Nat × Nat).1 ≤ 0 := Nat.le_refl 0
  have hu2 : ((0, 0) : Nat × Nat).2 ≤ 0 := Nat.le_refl 0
  refine z_aload_n (pc := 0) C (dX12_readKnown 0 rfl) rfl 0 rfl ?_
  refine z_iload_n (pc := 1) C (dX12_readKnown 1 rfl) rfl 1 rfl ?_
  obtain ⟨h1, H⟩ := H
  refine zc_Vi (pc := 2) (rest := []) C YX12_known wl_X12_168 (kX12_known H) (by decide) h1 rfl (by decide) (dX12_readKnown 2 rfl) rfl hu1 hu2 (Nat.le_of_ble_eq_true rfl) rfl (fun r2 m3 H => ?_)
  refine z_istore_n (pc := 5) (i := 2) (lv2 := [(2, .int r2), (0, .ref a), (1, .int p1)]) C (dX12_readKnown 3 rfl) rfl (by decide) rfl ?_
  refine z_aload_n (pc := 6) C (dX12_readKnown 4 rfl) rfl 1 rfl ?_
  refine zc_Vv (pc := 7) (rest := []) C YX12_goesOn wl_X12_112 (kX12_goesOn H) (by decide) h1 rfl (by decide) (dX12_readKnown 5 rfl) rfl hu1 hu2 (Nat.le_of_ble_eq_true rfl) rfl (fun m5 H => ?_)
  refine z_iload_n (pc := 10) C (dX12_readKnown 6 rfl) rfl 0 rfl ?_
  exact z_iret (pc := 11) C hr hu1 hu2 (dX12_readKnown 7 rfl) ⟨rfl, _, rfl, H⟩
def wX12_readAnswer_J25 (t : zT) (m : zM) (a_0 : Nat) (s_0 : Int32) (s_1 : Int32) (s_2 : Nat) (Q : Int32 → zM → Prop) : Prop := (tK t s_2 = 12 ∧ (wX12_bounded t m s_2 s_1 s_0 (fun r7 m8 => (tK t a_0 = 12 ∧ (wX12_goesOn t m8 a_0 (fun m11 => (Q r7 m11)))))))
set_option maxHeartbeats 4000000 in
set_option maxRecDepth 20000 in
theorem sX12_readAnswer_J25 {p : Program} {l : Launch} {e : Env} {s : State} {mt : MethodId} {args : Array Value} {below : List Frame} {meth : Method} {c : Code} {g : zG} {u : Nat × Nat} {mc ms : Nat} {t : zT} {m : zM} {a_0 : Nat} {s_0 : Int32} {s_1 : Int32} {s_2 : Nat} {Q : Int32 → zM → Prop} (C : zC p (zRm 2 mc ms) s mt args meth c g cX12_readAnswer 3 yX12_readAnswer.cls 2) (hr : meth.sig.returnType = (some .int)) (hm : meth.name = yX12_readAnswer.name) (hu1 : u.1 ≤ mc) (hu2 : u.2 ≤ ms) (H : wX12_readAnswer_J25 t m a_0 s_0 s_1 s_2 Q) : zW p l e (zRm 2 mc ms) s mt args below meth c g (MQ below (zQc g (zPi t Q)) args s mc ms (zFar g)) u 3 t m 25 [(0, .ref a_0)] [.int s_0, .int s_1, .ref s_2] := by
  unfold wX12_readAnswer_J25 at H
  obtain ⟨h6, H⟩ := H
  refine zc_Vi (pc := 25) (rest := []) C YX12_bounded wl_X12_123 (kX12_bounded H) (by decide) h6 rfl (by decide) (dX12_readAnswer 15 rfl) rfl hu1 hu2 (Nat.le_of_ble_eq_true rfl) rfl (fun r7 m8 H => ?_)
  refine z_istore_n (pc := 28) (i := 2) (lv2 := [(2, .int r7), (0, .ref a_0)]) C (dX12_readAnswer 16 rfl) rfl (by decide) rfl ?_
  refine z_aload_n (pc := 29) C (dX12_readAnswer 17 rfl) rfl 1 rfl ?_
  obtain ⟨h9, H⟩ := H
  refine zc_Vv (pc := 30) (rest := []) C YX12_goesOn wl_X12_112 (kX12_goesOn H) (by decide) h9 rfl (by decide) (dX12_readAnswer 18 rfl) rfl hu1 hu2 (Nat.le_of_ble_eq_true rfl) rfl (fun m11 H => ?_)
  refine z_iload_n (pc := 33) C (dX12_readAnswer 19 rfl) rfl 0 rfl ?_
  exact z_iret (pc := 34) C hr hu1 hu2 (dX12_readAnswer 20 rfl) ⟨rfl, _, rfl, H⟩
def wX12_readAnswer (t : zT) (m : zM) (a : Nat) (p1 : Int32) (Q : Int32 → zM → Prop) : Prop := (tK t a = 12 ∧ (((gI m a 9) = 5 → (wX12_readAnswer_J25 t m a 0 0 a Q)) ∧ (¬ (gI m a 9) = 5 → (tK t (gR m a 4) = 11 ∧ (tK t (gR m (gR m a 4) 10) = 14 ∧ (vp_in p1 (tL t (gR m (gR m a 4) 10)) ∧ (wX12_readAnswer_J25 t m a ((gI m (gR m (gR m a 4) 10) p1.toNatClampNeg) - (1 : Int32)) 0 a Q)))))))
set_option maxHeartbeats 4000000 in
set_option maxRecDepth 20000 in
theorem kX12_readAnswer {l : Launch} {t : zT} {m : zM} {a : Nat} {p1 : Int32} {Q : Int32 → zM → Prop} (H : wX12_readAnswer t m a p1 Q) : zMet l yX12_readAnswer cX12_readAnswer 3 (some .int) 2 0 0 t m [.ref a, .int p1] (zPi t Q) := by
  refine zmet (by decide +kernel) (Nat.le_of_ble_eq_true rfl) ?_
  intro p e s mt args below meth c g C hr hm
  unfold wX12_readAnswer at H
  have hu1 : ((0, 0) : Nat × Nat).1 ≤ 0 := Nat.le_refl 0
  have hu2 : ((0, 0) : Nat × Nat).2 ≤ 0 := Nat.le_refl 0
  refine z_aload_n (pc := 0) C (dX12_readAnswer 0 rfl) rfl 0 rfl ?_
  refine z_iconst (pc := 1) (v := 0) C (dX12_readAnswer 1 rfl) (by decide) ?_
  refine z_aload_n (pc := 2) C (dX12_readAnswer 2 rfl) rfl 0 rfl ?_
  obtain ⟨h1, H⟩ := H
  refine z_getI (pc := 3) C zc12 h1 9 (by decide) rfl wf_X12_69 (dX12_readAnswer 3 rfl) ?_
  refine z_iconst (pc := 6) (v := 5) C (dX12_readAnswer 4 rfl) (by decide) ?_
  refine z_icmp_ne (pc := 7) (tgt := 14) C (dX12_readAnswer 5 rfl) (by decide) (fun c2 => ?_) (fun c2 => ?_)
  · replace H := H.2 c2
    refine z_aload_n (pc := 14) C (dX12_readAnswer 8 rfl) rfl 0 rfl ?_
    refine z_getR (pc := 15) C zc12 h1 4 (by decide) rfl wf_X12_145 (dX12_readAnswer 9 rfl) ?_
    obtain ⟨h3, H⟩ := H
    refine z_getRN (pc := 18) C zc11 h3 10 (by decide) rfl wn_X12_171 (dX12_readAnswer 10 rfl) ?_
    refine z_iload_n (pc := 21) C (dX12_readAnswer 11 rfl) rfl 1 rfl ?_
    obtain ⟨h4, H⟩ := H
    obtain ⟨h5, H⟩ := H
    refine z_iaload (pc := 22) C h4 h5 (dX12_readAnswer 12 rfl) ?_
    refine z_iconst (pc := 23) (v := 1) C (dX12_readAnswer 13 rfl) (by decide) ?_
    refine z_isub (pc := 24) C (dX12_readAnswer 14 rfl) ?_
    refine z_sub [0] rfl ?_
    exact sX12_readAnswer_J25 C hr hm hu1 hu2 H
  · replace H := H.1 c2
    refine z_iconst (pc := 10) (v := 0) C (dX12_readAnswer 6 rfl) (by decide) ?_
    refine z_goto (pc := 11) (tgt := 25) C (dX12_readAnswer 7 rfl) (by decide) ?_
    refine z_sub [0] rfl ?_
    exact sX12_readAnswer_J25 C hr hm hu1 hu2 H
def wX12_readThing_J52 (t : zT) (m : zM) (a_0 : Nat) (y_1 : Int64) (x_3 : Int32) (Q : zM → Prop) : Prop := (tK t a_0 = 12 ∧ (wX12_goesOn t m a_0 (fun m15 => (((gI m15 a_0 9) = 5 → (Q m15)) ∧ (¬ (gI m15 a_0 9) = 5 → (tK t (gR m15 a_0 4) = 11 ∧ (wX12_names t m15 a_0 y_1 0 (gI m15 (gR m15 a_0 4) 0) (fun m19 => (tK t (gR m19 a_0 4) = 11 ∧ (tK t (gR m19 (gR m19 a_0 4) 10) = 14 ∧ (vp_in (gI m19 (gR m19 a_0 4) 0) (tL t (gR m19 (gR m19 a_0 4) 10)) ∧ (Q (pI (pI (pI m19 (gR m19 (gR m19 a_0 4) 10) ((gI m19 (gR m19 a_0 4) 0).toNatClampNeg) x_3) (gR m19 a_0 4) 9 ((gI (pI m19 (gR m19 (gR m19 a_0 4) 10) ((gI m19 (gR m19 a_0 4) 0).toNatClampNeg) x_3) (gR m19 a_0 4) 9) * x_3)) (gR m19 a_0 4) 0 ((gI (pI (pI m19 (gR m19 (gR m19 a_0 4) 10) ((gI m19 (gR m19 a_0 4) 0).toNatClampNeg) x_3) (gR m19 a_0 4) 9 ((gI (pI m19 (gR m19 (gR m19 a_0 4) 10) ((gI m19 (gR m19 a_0 4) 0).toNatClampNeg) x_3) (gR m19 a_0 4) 9) * x_3)) (gR m19 a_0 4) 0) + (1 : Int32)))))))))))))))
set_option maxHeartbeats 4000000 in
set_option maxRecDepth 20000 in
theorem sX12_readThing_J52 {p : Program} {l : Launch} {e : Env} {s : State} {mt : MethodId} {args : Array Value} {below : List Frame} {meth : Method} {c : Code} {g : zG} {u : Nat × Nat} {mc ms : Nat} {t : zT} {m : zM} {a_0 : Nat} {y_1 : Int64} {x_3 : Int32} {Q : zM → Prop} (C : zC p (zRm 10 mc ms) s mt args meth c g cX12_readThing 4 yX12_readThing.cls 10) (hr : meth.sig.returnType = none) (hm : meth.name = yX12_readThing.name) (hu1 : u.1 ≤ mc) (hu2 : u.2 ≤ ms) (H : wX12_readThing_J52 t m a_0 y_1 x_3 Q) : zW p l e (zRm 10 mc ms) s mt args below meth c g (MQ below (zQc g (zPv t Q)) args s mc ms (zFar g)) u 4 t m 52 [(0, .ref a_0), (1, .long y_1), (3, .int x_3)] [] := by
  unfold wX12_readThing_J52 at H
  refine z_aload_n (pc := 52) C (dX12_readThing 27 rfl) rfl 0 rfl ?_
  obtain ⟨h13, H⟩ := H
  refine zc_Vv (pc := 53) (rest := []) C YX12_goesOn wl_X12_112 (kX12_goesOn H) (by decide) h13 rfl (by decide) (dX12_readThing 28 rfl) rfl hu1 hu2 (Nat.le_of_ble_eq_true rfl) rfl (fun m15 H => ?_)
  refine z_aload_n (pc := 56) C (dX12_readThing 29 rfl) rfl 0 rfl ?_
  refine z_getI (pc := 57) C zc12 h13 9 (by decide) rfl wf_X12_69 (dX12_readThing 30 rfl) ?_
  refine z_iconst (pc := 60) (v := 5) C (dX12_readThing 31 rfl) (by decide) ?_
  refine z_icmp_ne (pc := 61) (tgt := 65) C (dX12_readThing 32 rfl) (by decide) (fun c16 => ?_) (fun c16 => ?_)
  · replace H := H.2 c16
    refine z_aload_n (pc := 65) C (dX12_readThing 34 rfl) rfl 0 rfl ?_
    refine z_lload_n (pc := 66) C (dX12_readThing 35 rfl) rfl 1 rfl ?_
    refine z_iconst (pc := 67) (v := 0) C (dX12_readThing 36 rfl) (by decide) ?_
    refine z_aload_n (pc := 68) C (dX12_readThing 37 rfl) rfl 0 rfl ?_
    refine z_getR (pc := 69) C zc12 h13 4 (by decide) rfl wf_X12_145 (dX12_readThing 38 rfl) ?_
    obtain ⟨h17, H⟩ := H
    refine z_getIN (pc := 72) C zc11 h17 0 (by decide) rfl wn_X12_180 (dX12_readThing 39 rfl) ?_
    refine zc_Vv (pc := 75) (rest := []) C YX12_names wl_X12_220 (kX12_names H) (by decide) h13 rfl (by decide) (dX12_readThing 40 rfl) rfl hu1 hu2 (Nat.le_of_ble_eq_true rfl) rfl (fun m19 H => ?_)
    refine z_aload_n (pc := 78) C (dX12_readThing 41 rfl) rfl 0 rfl ?_
    refine z_getR (pc := 79) C zc12 h13 4 (by decide) rfl wf_X12_145 (dX12_readThing 42 rfl) ?_
    obtain ⟨h20, H⟩ := H
    refine z_getRN (pc := 82) C zc11 h20 10 (by decide) rfl wn_X12_171 (dX12_readThing 43 rfl) ?_
    refine z_aload_n (pc := 85) C (dX12_readThing 44 rfl) rfl 0 rfl ?_
    refine z_getR (pc := 86) C zc12 h13 4 (by decide) rfl wf_X12_145 (dX12_readThing 45 rfl) ?_
    refine z_getIN (pc := 89) C zc11 h20 0 (by decide) rfl wn_X12_180 (dX12_readThing 46 rfl) ?_
    refine z_iload_n (pc := 92) C (dX12_readThing 47 rfl) rfl 2 rfl ?_
    obtain ⟨h21, H⟩ := H
    obtain ⟨h22, H⟩ := H
    refine z_iastore (pc := 93) C h21 h22 (dX12_readThing 48 rfl) ?_
    refine z_aload_n (pc := 94) C (dX12_readThing 49 rfl) rfl 0 rfl ?_
    refine z_getR (pc := 95) C zc12 h13 4 (by decide) rfl wf_X12_145 (dX12_readThing 50 rfl) ?_
    refine z_dup (pc := 98) C (dX12_readThing 51 rfl) rfl ?_
    refine z_getIN (pc := 99) C zc11 h20 9 (by decide) rfl wn_X12_217 (dX12_readThing 52 rfl) ?_
    refine z_iload_n (pc := 102) C (dX12_readThing 53 rfl) rfl 2 rfl ?_
    refine z_imul (pc := 103) C (dX12_readThing 54 rfl) ?_
    refine z_putIN (pc := 104) C zc11 h20 9 (by decide) rfl rfl wn_X12_217 (dX12_readThing 55 rfl) ?_
    refine z_aload_n (pc := 107) C (dX12_readThing 56 rfl) rfl 0 rfl ?_
    refine z_getR (pc := 108) C zc12 h13 4 (by decide) rfl wf_X12_145 (dX12_readThing 57 rfl) ?_
    refine z_dup (pc := 111) C (dX12_readThing 58 rfl) rfl ?_
    refine z_getIN (pc := 112) C zc11 h20 0 (by decide) rfl wn_X12_180 (dX12_readThing 59 rfl) ?_
    refine z_iconst (pc := 115) (v := 1) C (dX12_readThing 60 rfl) (by decide) ?_
    refine z_iadd (pc := 116) C (dX12_readThing 61 rfl) ?_
    refine z_putIN (pc := 117) C zc11 h20 0 (by decide) rfl rfl wn_X12_180 (dX12_readThing 62 rfl) ?_
    exact z_vret (pc := 120) C hr hu1 hu2 (dX12_readThing 63 rfl) ⟨rfl, rfl, H⟩
  · replace H := H.1 c16
    exact z_vret (pc := 64) C hr hu1 hu2 (dX12_readThing 33 rfl) ⟨rfl, rfl, H⟩
def wX12_readThing (t : zT) (m : zM) (a : Nat) (Q : zM → Prop) : Prop := (tK t a = 12 ∧ (tK t (gR m a 4) = 11 ∧ (wX12_begins t m a (gI m (gR m a 4) 0) 8 (fun m4 => (wX12_readFresh t m4 a (fun r5 m6 => (wX12_needs t m6 a 8 (fun m8 => (wX12_bounded t m8 a 2 4 (fun r9 m10 => (tK t (gR m10 a 4) = 11 ∧ ((((gI m10 (gR m10 a 4) 9) * r9) ≤ 4096 → (wX12_readThing_J52 t m10 a r5 r9 Q)) ∧ (¬ ((gI m10 (gR m10 a 4) 9) * r9) ≤ 4096 → (wX12_flaw t m10 a 7 (fun m24 => (wX12_readThing_J52 t m24 a r5 r9 Q))))))))))))))))
set_option maxHeartbeats 4000000 in
set_option maxRecDepth 20000 in
theorem kX12_readThing {l : Launch} {t : zT} {m : zM} {a : Nat} {Q : zM → Prop} (H : wX12_readThing t m a Q) : zMet l yX12_readThing cX12_readThing 4 none 10 0 0 t m [.ref a] (zPv t Q) := by
  refine zmet (by decide +kernel) (Nat.le_of_ble_eq_true rfl) ?_
  intro p e s mt args below meth c g C hr hm
  unfold wX12_readThing at H
  have hu1 : ((0, 0) : Nat × Nat).1 ≤ 0 := Nat.le_refl 0
  have hu2 : ((0, 0) : Nat × Nat).2 ≤ 0 := Nat.le_refl 0
  refine z_aload_n (pc := 0) C (dX12_readThing 0 rfl) rfl 0 rfl ?_
  refine z_aload_n (pc := 1) C (dX12_readThing 1 rfl) rfl 0 rfl ?_
  obtain ⟨h1, H⟩ := H
  refine z_getR (pc := 2) C zc12 h1 4 (by decide) rfl wf_X12_145 (dX12_readThing 2 rfl) ?_
  obtain ⟨h2, H⟩ := H
  refine z_getIN (pc := 5) C zc11 h2 0 (by decide) rfl wn_X12_180 (dX12_readThing 3 rfl) ?_
  refine z_bipush (pc := 8) (v := 8) C (dX12_readThing 4 rfl) (by decide) ?_
  refine zc_Vv (pc := 10) (rest := []) C YX12_begins wl_X12_204 (kX12_begins H) (by decide) h1 rfl (by decide) (dX12_readThing 5 rfl) rfl hu1 hu2 (Nat.le_of_ble_eq_true rfl) rfl (fun m4 H => ?_)
  refine z_aload_n (pc := 13) C (dX12_readThing 6 rfl) rfl 0 rfl ?_
  refine zc_Vl (pc := 14) (rest := []) C YX12_readFresh wl_X12_208 (kX12_readFresh H) (by decide) h1 rfl (by decide) (dX12_readThing 7 rfl) rfl hu1 hu2 (Nat.le_of_ble_eq_true rfl) rfl (fun r5 m6 H => ?_)
  refine z_lstore_n (pc := 17) (i := 1) (lv2 := [(1, .long r5), (0, .ref a)]) C (dX12_readThing 8 rfl) rfl (by decide) rfl ?_
  refine z_aload_n (pc := 18) C (dX12_readThing 9 rfl) rfl 1 rfl ?_
  refine z_ldcS (pc := 19) (k := 8) C (by decide) rfl rfl (dX12_readThing 10 rfl) ?_
  refine zc_Vv (pc := 21) (rest := []) C YX12_needs wl_X12_213 (kX12_needs H) (by decide) h1 rfl (by decide) (dX12_readThing 11 rfl) rfl hu1 hu2 (Nat.le_of_ble_eq_true rfl) rfl (fun m8 H => ?_)
  refine z_aload_n (pc := 24) C (dX12_readThing 12 rfl) rfl 1 rfl ?_
  refine z_iconst (pc := 25) (v := 2) C (dX12_readThing 13 rfl) (by decide) ?_
  refine z_iconst (pc := 26) (v := 4) C (dX12_readThing 14 rfl) (by decide) ?_
  refine zc_Vi (pc := 27) (rest := []) C YX12_bounded wl_X12_123 (kX12_bounded H) (by decide) h1 rfl (by decide) (dX12_readThing 15 rfl) rfl hu1 hu2 (Nat.le_of_ble_eq_true rfl) rfl (fun r9 m10 H => ?_)
  refine z_istore_n (pc := 30) (i := 3) (lv2 := [(3, .int r9), (1, .long r5), (0, .ref a)]) C (dX12_readThing 16 rfl) rfl (by decide) rfl ?_
  refine z_aload_n (pc := 31) C (dX12_readThing 17 rfl) rfl 2 rfl ?_
  refine z_getR (pc := 32) C zc12 h1 4 (by decide) rfl wf_X12_145 (dX12_readThing 18 rfl) ?_
  obtain ⟨h11, H⟩ := H
  refine z_getIN (pc := 35) C zc11 h11 9 (by decide) rfl wn_X12_217 (dX12_readThing 19 rfl) ?_
  refine z_iload_n (pc := 38) C (dX12_readThing 20 rfl) rfl 0 rfl ?_
  refine z_imul (pc := 39) C (dX12_readThing 21 rfl) ?_
  refine z_sipush (pc := 40) (v := 4096) C (dX12_readThing 22 rfl) (by decide) ?_
  refine z_icmp_le (pc := 43) (tgt := 52) C (dX12_readThing 23 rfl) (by decide) (fun c12 => ?_) (fun c12 => ?_)
  · replace H := H.1 c12
    refine z_sub [2, 1, 0] rfl ?_
    exact sX12_readThing_J52 C hr hm hu1 hu2 H
  · replace H := H.2 c12
    refine z_aload_n (pc := 46) C (dX12_readThing 24 rfl) rfl 2 rfl ?_
    refine z_bipush (pc := 47) (v := 7) C (dX12_readThing 25 rfl) (by decide) ?_
    refine zc_Vv (pc := 49) (rest := []) C YX12_flaw wl_X12_115 (kX12_flaw H) (by decide) h1 rfl (by decide) (dX12_readThing 26 rfl) rfl hu1 hu2 (Nat.le_of_ble_eq_true rfl) rfl (fun m24 H => ?_)
    refine z_sub [2, 1, 0] rfl ?_
    exact sX12_readThing_J52 C hr hm hu1 hu2 H
def wX12_readFollows_J47 (t : zT) (m : zM) (a_0 : Nat) (x_1 : Int32) (x_2 : Int32) (x_3 : Int32) (Q : zM → Prop) : Prop := (tK t a_0 = 12 ∧ (wX12_goesOn t m a_0 (fun m16 => (wX12_readAnswer t m16 a_0 x_3 (fun r17 m18 => (((gI m18 a_0 9) = 5 → (Q m18)) ∧ (¬ (gI m18 a_0 9) = 5 → (tK t (gR m18 a_0 4) = 11 ∧ (∀ x21 : Int32, x21 = (gI m18 (gR m18 a_0 4) 1) → ((tK t (gR m18 (gR m18 a_0 4) 14) = 14 ∧ (vp_in x21 (tL t (gR m18 (gR m18 a_0 4) 14)) ∧ (tK t (gR m18 (gR m18 a_0 4) 15) = 14 ∧ (vp_in x21 (tL t (gR m18 (gR m18 a_0 4) 15)) ∧ (tK t (gR m18 (gR m18 a_0 4) 16) = 14 ∧ (vp_in x21 (tL t (gR m18 (gR m18 a_0 4) 16)) ∧ (tK t (gR m18 (gR m18 a_0 4) 17) = 14 ∧ (vp_in x21 (tL t (gR m18 (gR m18 a_0 4) 17)) ∧ (Q (pI (pI (pI (pI (pI m18 (gR m18 (gR m18 a_0 4) 14) x21.toNatClampNeg x_1) (gR m18 (gR m18 a_0 4) 15) x21.toNatClampNeg x_2) (gR m18 (gR m18 a_0 4) 16) x21.toNatClampNeg x_3) (gR m18 (gR m18 a_0 4) 17) x21.toNatClampNeg r17) (gR m18 a_0 4) 1 ((gI (pI (pI (pI (pI m18 (gR m18 (gR m18 a_0 4) 14) x21.toNatClampNeg x_1) (gR m18 (gR m18 a_0 4) 15) x21.toNatClampNeg x_2) (gR m18 (gR m18 a_0 4) 16) x21.toNatClampNeg x_3) (gR m18 (gR m18 a_0 4) 17) x21.toNatClampNeg r17) (gR m18 a_0 4) 1) + (1 : Int32))))))))))))))))))))))
set_option maxHeartbeats 4000000 in
set_option maxRecDepth 20000 in
theorem sX12_readFollows_J47 {p : Program} {l : Launch} {e : Env} {s : State} {mt : MethodId} {args : Array Value} {below : List Frame} {meth : Method} {c : Code} {g : zG} {u : Nat × Nat} {mc ms : Nat} {t : zT} {m : zM} {a_0 : Nat} {x_1 : Int32} {x_2 : Int32} {x_3 : Int32} {Q : zM → Prop} (C : zC p (zRm 11 mc ms) s mt args meth c g cX12_readFollows 6 yX12_readFollows.cls 11) (hr : meth.sig.returnType = none) (hm : meth.name = yX12_readFollows.name) (hu1 : u.1 ≤ mc) (hu2 : u.2 ≤ ms) (H : wX12_readFollows_J47 t m a_0 x_1 x_2 x_3 Q) : zW p l e (zRm 11 mc ms) s mt args below meth c g (MQ below (zQc g (zPv t Q)) args s mc ms (zFar g)) u 6 t m 47 [(0, .ref a_0), (1, .int x_1), (2, .int x_2), (3, .int x_3)] [] := by
  unfold wX12_readFollows_J47 at H
  refine z_aload_n (pc := 47) C (dX12_readFollows 27 rfl) rfl 0 rfl ?_
  obtain ⟨h14, H⟩ := H
  refine zc_Vv (pc := 48) (rest := []) C YX12_goesOn wl_X12_112 (kX12_goesOn H) (by decide) h14 rfl (by decide) (dX12_readFollows 28 rfl) rfl hu1 hu2 (Nat.le_of_ble_eq_true rfl) rfl (fun m16 H => ?_)
  refine z_aload_n (pc := 51) C (dX12_readFollows 29 rfl) rfl 0 rfl ?_
  refine z_iload_n (pc := 52) C (dX12_readFollows 30 rfl) rfl 3 rfl ?_
  refine zc_Vi (pc := 53) (rest := []) C YX12_readAnswer wl_X12_228 (kX12_readAnswer H) (by decide) h14 rfl (by decide) (dX12_readFollows 31 rfl) rfl hu1 hu2 (Nat.le_of_ble_eq_true rfl) rfl (fun r17 m18 H => ?_)
  refine z_istore (pc := 56) (i := 4) (lv2 := [(4, .int r17), (0, .ref a_0), (1, .int x_1), (2, .int x_2), (3, .int x_3)]) C (dX12_readFollows 32 rfl) (by decide) rfl ?_
  refine z_aload_n (pc := 58) C (dX12_readFollows 33 rfl) rfl 1 rfl ?_
  refine z_getI (pc := 59) C zc12 h14 9 (by decide) rfl wf_X12_69 (dX12_readFollows 34 rfl) ?_
  refine z_iconst (pc := 62) (v := 5) C (dX12_readFollows 35 rfl) (by decide) ?_
  refine z_icmp_ne (pc := 63) (tgt := 67) C (dX12_readFollows 36 rfl) (by decide) (fun c19 => ?_) (fun c19 => ?_)
  · replace H := H.2 c19
    refine z_aload_n (pc := 67) C (dX12_readFollows 38 rfl) rfl 1 rfl ?_
    refine z_getR (pc := 68) C zc12 h14 4 (by decide) rfl wf_X12_145 (dX12_readFollows 39 rfl) ?_
    obtain ⟨h20, H⟩ := H
    refine z_getIN (pc := 71) C zc11 h20 1 (by decide) rfl wn_X12_223 (dX12_readFollows 40 rfl) ?_
    refine z_int (fun x21 hx21 => ?_)
    replace H := H x21 hx21
    refine z_istore (pc := 74) (i := 5) (lv2 := [(5, .int x21), (4, .int r17), (0, .ref a_0), (1, .int x_1), (2, .int x_2), (3, .int x_3)]) C (dX12_readFollows 41 rfl) (by decide) rfl ?_
    refine z_aload_n (pc := 76) C (dX12_readFollows 42 rfl) rfl 2 rfl ?_
    refine z_getR (pc := 77) C zc12 h14 4 (by decide) rfl wf_X12_145 (dX12_readFollows 43 rfl) ?_
    refine z_getRN (pc := 80) C zc11 h20 14 (by decide) rfl wn_X12_234 (dX12_readFollows 44 rfl) ?_
    refine z_iload (pc := 83) C (dX12_readFollows 45 rfl) 0 rfl ?_
    refine z_iload_n (pc := 85) C (dX12_readFollows 46 rfl) rfl 3 rfl ?_
    obtain ⟨h22, H⟩ := H
    obtain ⟨h23, H⟩ := H
    refine z_iastore (pc := 86) C h22 h23 (dX12_readFollows 47 rfl) ?_
    refine z_aload_n (pc := 87) C (dX12_readFollows 48 rfl) rfl 2 rfl ?_
    refine z_getR (pc := 88) C zc12 h14 4 (by decide) rfl wf_X12_145 (dX12_readFollows 49 rfl) ?_
    refine z_getRN (pc := 91) C zc11 h20 15 (by decide) rfl wn_X12_237 (dX12_readFollows 50 rfl) ?_
    refine z_iload (pc := 94) C (dX12_readFollows 51 rfl) 0 rfl ?_
    refine z_iload_n (pc := 96) C (dX12_readFollows 52 rfl) rfl 4 rfl ?_
    obtain ⟨h24, H⟩ := H
    obtain ⟨h25, H⟩ := H
    refine z_iastore (pc := 97) C h24 h25 (dX12_readFollows 53 rfl) ?_
    refine z_aload_n (pc := 98) C (dX12_readFollows 54 rfl) rfl 2 rfl ?_
    refine z_getR (pc := 99) C zc12 h14 4 (by decide) rfl wf_X12_145 (dX12_readFollows 55 rfl) ?_
    refine z_getRN (pc := 102) C zc11 h20 16 (by decide) rfl wn_X12_240 (dX12_readFollows 56 rfl) ?_
    refine z_iload (pc := 105) C (dX12_readFollows 57 rfl) 0 rfl ?_
    refine z_iload_n (pc := 107) C (dX12_readFollows 58 rfl) rfl 5 rfl ?_
    obtain ⟨h26, H⟩ := H
    obtain ⟨h27, H⟩ := H
    refine z_iastore (pc := 108) C h26 h27 (dX12_readFollows 59 rfl) ?_
    refine z_aload_n (pc := 109) C (dX12_readFollows 60 rfl) rfl 2 rfl ?_
    refine z_getR (pc := 110) C zc12 h14 4 (by decide) rfl wf_X12_145 (dX12_readFollows 61 rfl) ?_
    refine z_getRN (pc := 113) C zc11 h20 17 (by decide) rfl wn_X12_243 (dX12_readFollows 62 rfl) ?_
    refine z_iload (pc := 116) C (dX12_readFollows 63 rfl) 0 rfl ?_
    refine z_iload (pc := 118) C (dX12_readFollows 64 rfl) 1 rfl ?_
    obtain ⟨h28, H⟩ := H
    obtain ⟨h29, H⟩ := H
    refine z_iastore (pc := 120) C h28 h29 (dX12_readFollows 65 rfl) ?_
    refine z_aload_n (pc := 121) C (dX12_readFollows 66 rfl) rfl 2 rfl ?_
    refine z_getR (pc := 122) C zc12 h14 4 (by decide) rfl wf_X12_145 (dX12_readFollows 67 rfl) ?_
    refine z_dup (pc := 125) C (dX12_readFollows 68 rfl) rfl ?_
    refine z_getIN (pc := 126) C zc11 h20 1 (by decide) rfl wn_X12_223 (dX12_readFollows 69 rfl) ?_
    refine z_iconst (pc := 129) (v := 1) C (dX12_readFollows 70 rfl) (by decide) ?_
    refine z_iadd (pc := 130) C (dX12_readFollows 71 rfl) ?_
    refine z_putIN (pc := 131) C zc11 h20 1 (by decide) rfl rfl wn_X12_223 (dX12_readFollows 72 rfl) ?_
    exact z_vret (pc := 134) C hr hu1 hu2 (dX12_readFollows 73 rfl) ⟨rfl, rfl, H⟩
  · replace H := H.1 c19
    exact z_vret (pc := 66) C hr hu1 hu2 (dX12_readFollows 37 rfl) ⟨rfl, rfl, H⟩
def wX12_readFollows (t : zT) (m : zM) (a : Nat) (Q : zM → Prop) : Prop := (tK t a = 12 ∧ (tK t (gR m a 4) = 11 ∧ (wX12_begins t m a (gI m (gR m a 4) 1) 6 (fun m4 => (wX12_readKnown t m4 a 0 (fun r5 m6 => (wX12_readAnswer t m6 a r5 (fun r7 m8 => (wX12_needsSign t m8 a 44 (fun m10 => (wX12_known t m10 a 0 (fun r11 m12 => ((r5 = r11 → (wX12_flaw t m12 a 3 (fun m31 => (wX12_readFollows_J47 t m31 a r5 r7 r11 Q)))) ∧ (¬ r5 = r11 → (wX12_readFollows_J47 t m12 a r5 r7 r11 Q)))))))))))))))
set_option maxHeartbeats 4000000 in
set_option maxRecDepth 20000 in
theorem kX12_readFollows {l : Launch} {t : zT} {m : zM} {a : Nat} {Q : zM → Prop} (H : wX12_readFollows t m a Q) : zMet l yX12_readFollows cX12_readFollows 6 none 11 0 0 t m [.ref a] (zPv t Q) := by
  refine zmet (by decide +kernel) (Nat.le_of_ble_eq_true rfl) ?_
  intro p e s mt args below meth c g C hr hm
  unfold wX12_readFollows at H
  have hu1 : ((0, 0) : Nat × Nat).1 ≤ 0 := Nat.le_refl 0
  have hu2 : ((0, 0) : Nat × Nat).2 ≤ 0 := Nat.le_refl 0
  refine z_aload_n (pc := 0) C (dX12_readFollows 0 rfl) rfl 0 rfl ?_
  refine z_aload_n (pc := 1) C (dX12_readFollows 1 rfl) rfl 0 rfl ?_
  obtain ⟨h1, H⟩ := H
  refine z_getR (pc := 2) C zc12 h1 4 (by decide) rfl wf_X12_145 (dX12_readFollows 2 rfl) ?_
  obtain ⟨h2, H⟩ := H
  refine z_getIN (pc := 5) C zc11 h2 1 (by decide) rfl wn_X12_223 (dX12_readFollows 3 rfl) ?_
  refine z_bipush (pc := 8) (v := 6) C (dX12_readFollows 4 rfl) (by decide) ?_
  refine zc_Vv (pc := 10) (rest := []) C YX12_begins wl_X12_204 (kX12_begins H) (by decide) h1 rfl (by decide) (dX12_readFollows 5 rfl) rfl hu1 hu2 (Nat.le_of_ble_eq_true rfl) rfl (fun m4 H => ?_)
  refine z_aload_n (pc := 13) C (dX12_readFollows 6 rfl) rfl 0 rfl ?_
  refine z_iconst (pc := 14) (v := 0) C (dX12_readFollows 7 rfl) (by decide) ?_
  refine zc_Vi (pc := 15) (rest := []) C YX12_readKnown wl_X12_225 (kX12_readKnown H) (by decide) h1 rfl (by decide) (dX12_readFollows 8 rfl) rfl hu1 hu2 (Nat.le_of_ble_eq_true rfl) rfl (fun r5 m6 H => ?_)
  refine z_istore_n (pc := 18) (i := 1) (lv2 := [(1, .int r5), (0, .ref a)]) C (dX12_readFollows 9 rfl) rfl (by decide) rfl ?_
  refine z_aload_n (pc := 19) C (dX12_readFollows 10 rfl) rfl 1 rfl ?_
  refine z_iload_n (pc := 20) C (dX12_readFollows 11 rfl) rfl 0 rfl ?_
  refine zc_Vi (pc := 21) (rest := []) C YX12_readAnswer wl_X12_228 (kX12_readAnswer H) (by decide) h1 rfl (by decide) (dX12_readFollows 12 rfl) rfl hu1 hu2 (Nat.le_of_ble_eq_true rfl) rfl (fun r7 m8 H => ?_)
  refine z_istore_n (pc := 24) (i := 2) (lv2 := [(2, .int r7), (1, .int r5), (0, .ref a)]) C (dX12_readFollows 13 rfl) rfl (by decide) rfl ?_
  refine z_aload_n (pc := 25) C (dX12_readFollows 14 rfl) rfl 2 rfl ?_
  refine z_bipush (pc := 26) (v := 44) C (dX12_readFollows 15 rfl) (by decide) ?_
  refine zc_Vv (pc := 28) (rest := []) C YX12_needsSign wl_X12_231 (kX12_needsSign H) (by decide) h1 rfl (by decide) (dX12_readFollows 16 rfl) rfl hu1 hu2 (Nat.le_of_ble_eq_true rfl) rfl (fun m10 H => ?_)
  refine z_aload_n (pc := 31) C (dX12_readFollows 17 rfl) rfl 2 rfl ?_
  refine z_iconst (pc := 32) (v := 0) C (dX12_readFollows 18 rfl) (by decide) ?_
  refine zc_Vi (pc := 33) (rest := []) C YX12_known wl_X12_168 (kX12_known H) (by decide) h1 rfl (by decide) (dX12_readFollows 19 rfl) rfl hu1 hu2 (Nat.le_of_ble_eq_true rfl) rfl (fun r11 m12 H => ?_)
  refine z_istore_n (pc := 36) (i := 3) (lv2 := [(3, .int r11), (2, .int r7), (1, .int r5), (0, .ref a)]) C (dX12_readFollows 20 rfl) rfl (by decide) rfl ?_
  refine z_iload_n (pc := 37) C (dX12_readFollows 21 rfl) rfl 2 rfl ?_
  refine z_iload_n (pc := 38) C (dX12_readFollows 22 rfl) rfl 0 rfl ?_
  refine z_icmp_ne (pc := 39) (tgt := 47) C (dX12_readFollows 23 rfl) (by decide) (fun c13 => ?_) (fun c13 => ?_)
  · replace H := H.2 c13
    refine z_sub [3, 2, 1, 0] rfl ?_
    exact sX12_readFollows_J47 C hr hm hu1 hu2 H
  · replace H := H.1 c13
    refine z_aload_n (pc := 42) C (dX12_readFollows 24 rfl) rfl 3 rfl ?_
    refine z_iconst (pc := 43) (v := 3) C (dX12_readFollows 25 rfl) (by decide) ?_
    refine zc_Vv (pc := 44) (rest := []) C YX12_flaw wl_X12_115 (kX12_flaw H) (by decide) h1 rfl (by decide) (dX12_readFollows 26 rfl) rfl hu1 hu2 (Nat.le_of_ble_eq_true rfl) rfl (fun m31 H => ?_)
    refine z_sub [3, 2, 1, 0] rfl ?_
    exact sX12_readFollows_J47 C hr hm hu1 hu2 H
def wX12_readMaster_J84 (t : zT) (m : zM) (a_0 : Nat) (y_1 : Int64) (x_3 : Int32) (Q : zM → Prop) : Prop := (tK t a_0 = 12 ∧ (((gI m a_0 9) = 5 → (Q m)) ∧ (¬ (gI m a_0 9) = 5 → (tK t (gR m a_0 4) = 11 ∧ (wX12_names t m a_0 y_1 1 (gI m (gR m a_0 4) 2) (fun m24 => (tK t (gR m24 a_0 4) = 11 ∧ (tK t (gR m24 (gR m24 a_0 4) 12) = 14 ∧ (vp_in (gI m24 (gR m24 a_0 4) 2) (tL t (gR m24 (gR m24 a_0 4) 12)) ∧ (Q (pI (pI m24 (gR m24 (gR m24 a_0 4) 12) ((gI m24 (gR m24 a_0 4) 2).toNatClampNeg) x_3) (gR m24 a_0 4) 2 ((gI (pI m24 (gR m24 (gR m24 a_0 4) 12) ((gI m24 (gR m24 a_0 4) 2).toNatClampNeg) x_3) (gR m24 a_0 4) 2) + (1 : Int32)))))))))))))
set_option maxHeartbeats 4000000 in
set_option maxRecDepth 20000 in
theorem sX12_readMaster_J84 {p : Program} {l : Launch} {e : Env} {s : State} {mt : MethodId} {args : Array Value} {below : List Frame} {meth : Method} {c : Code} {g : zG} {u : Nat × Nat} {mc ms : Nat} {t : zT} {m : zM} {a_0 : Nat} {y_1 : Int64} {x_3 : Int32} {Q : zM → Prop} (C : zC p (zRm 10 mc ms) s mt args meth c g cX12_readMaster 4 yX12_readMaster.cls 10) (hr : meth.sig.returnType = none) (hm : meth.name = yX12_readMaster.name) (hu1 : u.1 ≤ mc) (hu2 : u.2 ≤ ms) (H : wX12_readMaster_J84 t m a_0 y_1 x_3 Q) : zW p l e (zRm 10 mc ms) s mt args below meth c g (MQ below (zQc g (zPv t Q)) args s mc ms (zFar g)) u 4 t m 84 [(0, .ref a_0), (1, .long y_1), (3, .int x_3)] [] := by
  unfold wX12_readMaster_J84 at H
  refine z_aload_n (pc := 84) C (dX12_readMaster 41 rfl) rfl 0 rfl ?_
  obtain ⟨h20, H⟩ := H
  refine z_getI (pc := 85) C zc12 h20 9 (by decide) rfl wf_X12_69 (dX12_readMaster 42 rfl) ?_
  refine z_iconst (pc := 88) (v := 5) C (dX12_readMaster 43 rfl) (by decide) ?_
  refine z_icmp_ne (pc := 89) (tgt := 93) C (dX12_readMaster 44 rfl) (by decide) (fun c21 => ?_) (fun c21 => ?_)
  · replace H := H.2 c21
    refine z_aload_n (pc := 93) C (dX12_readMaster 46 rfl) rfl 0 rfl ?_
    refine z_lload_n (pc := 94) C (dX12_readMaster 47 rfl) rfl 1 rfl ?_
    refine z_iconst (pc := 95) (v := 1) C (dX12_readMaster 48 rfl) (by decide) ?_
    refine z_aload_n (pc := 96) C (dX12_readMaster 49 rfl) rfl 0 rfl ?_
    refine z_getR (pc := 97) C zc12 h20 4 (by decide) rfl wf_X12_145 (dX12_readMaster 50 rfl) ?_
    obtain ⟨h22, H⟩ := H
    refine z_getIN (pc := 100) C zc11 h22 2 (by decide) rfl wn_X12_246 (dX12_readMaster 51 rfl) ?_
    refine zc_Vv (pc := 103) (rest := []) C YX12_names wl_X12_220 (kX12_names H) (by decide) h20 rfl (by decide) (dX12_readMaster 52 rfl) rfl hu1 hu2 (Nat.le_of_ble_eq_true rfl) rfl (fun m24 H => ?_)
    refine z_aload_n (pc := 106) C (dX12_readMaster 53 rfl) rfl 0 rfl ?_
    refine z_getR (pc := 107) C zc12 h20 4 (by decide) rfl wf_X12_145 (dX12_readMaster 54 rfl) ?_
    obtain ⟨h25, H⟩ := H
    refine z_getRN (pc := 110) C zc11 h25 12 (by decide) rfl wn_X12_260 (dX12_readMaster 55 rfl) ?_
    refine z_aload_n (pc := 113) C (dX12_readMaster 56 rfl) rfl 0 rfl ?_
    refine z_getR (pc := 114) C zc12 h20 4 (by decide) rfl wf_X12_145 (dX12_readMaster 57 rfl) ?_
    refine z_getIN (pc := 117) C zc11 h25 2 (by decide) rfl wn_X12_246 (dX12_readMaster 58 rfl) ?_
    refine z_iload_n (pc := 120) C (dX12_readMaster 59 rfl) rfl 2 rfl ?_
    obtain ⟨h26, H⟩ := H
    obtain ⟨h27, H⟩ := H
    refine z_iastore (pc := 121) C h26 h27 (dX12_readMaster 60 rfl) ?_
    refine z_aload_n (pc := 122) C (dX12_readMaster 61 rfl) rfl 0 rfl ?_
    refine z_getR (pc := 123) C zc12 h20 4 (by decide) rfl wf_X12_145 (dX12_readMaster 62 rfl) ?_
    refine z_dup (pc := 126) C (dX12_readMaster 63 rfl) rfl ?_
    refine z_getIN (pc := 127) C zc11 h25 2 (by decide) rfl wn_X12_246 (dX12_readMaster 64 rfl) ?_
    refine z_iconst (pc := 130) (v := 1) C (dX12_readMaster 65 rfl) (by decide) ?_
    refine z_iadd (pc := 131) C (dX12_readMaster 66 rfl) ?_
    refine z_putIN (pc := 132) C zc11 h25 2 (by decide) rfl rfl wn_X12_246 (dX12_readMaster 67 rfl) ?_
    exact z_vret (pc := 135) C hr hu1 hu2 (dX12_readMaster 68 rfl) ⟨rfl, rfl, H⟩
  · replace H := H.1 c21
    exact z_vret (pc := 92) C hr hu1 hu2 (dX12_readMaster 45 rfl) ⟨rfl, rfl, H⟩
def wX12_readMaster_J73 (t : zT) (m : zM) (a_0 : Nat) (y_1 : Int64) (s_0 : Int32) (Q : zM → Prop) : Prop := ((s_0 = (-1) → (tK t a_0 = 12 ∧ (wX12_flaw t m a_0 1 (fun m30 => (wX12_readMaster_J84 t m30 a_0 y_1 s_0 Q))))) ∧ (¬ s_0 = (-1) → (wX12_readMaster_J84 t m a_0 y_1 s_0 Q)))
set_option maxHeartbeats 4000000 in
set_option maxRecDepth 20000 in
theorem sX12_readMaster_J73 {p : Program} {l : Launch} {e : Env} {s : State} {mt : MethodId} {args : Array Value} {below : List Frame} {meth : Method} {c : Code} {g : zG} {u : Nat × Nat} {mc ms : Nat} {t : zT} {m : zM} {a_0 : Nat} {y_1 : Int64} {s_0 : Int32} {Q : zM → Prop} (C : zC p (zRm 10 mc ms) s mt args meth c g cX12_readMaster 4 yX12_readMaster.cls 10) (hr : meth.sig.returnType = none) (hm : meth.name = yX12_readMaster.name) (hu1 : u.1 ≤ mc) (hu2 : u.2 ≤ ms) (H : wX12_readMaster_J73 t m a_0 y_1 s_0 Q) : zW p l e (zRm 10 mc ms) s mt args below meth c g (MQ below (zQc g (zPv t Q)) args s mc ms (zFar g)) u 4 t m 73 [(0, .ref a_0), (1, .long y_1)] [.int s_0] := by
  unfold wX12_readMaster_J73 at H
  refine z_istore_n (pc := 73) (i := 3) (lv2 := [(3, .int s_0), (0, .ref a_0), (1, .long y_1)]) C (dX12_readMaster 34 rfl) rfl (by decide) rfl ?_
  refine z_iload_n (pc := 74) C (dX12_readMaster 35 rfl) rfl 0 rfl ?_
  refine z_iconst (pc := 75) (v := (-1)) C (dX12_readMaster 36 rfl) (by decide) ?_
  refine z_icmp_ne (pc := 76) (tgt := 84) C (dX12_readMaster 37 rfl) (by decide) (fun c19 => ?_) (fun c19 => ?_)
  · replace H := H.2 c19
    refine z_sub [1, 2, 0] rfl ?_
    exact sX12_readMaster_J84 C hr hm hu1 hu2 H
  · replace H := H.1 c19
    refine z_aload_n (pc := 79) C (dX12_readMaster 38 rfl) rfl 1 rfl ?_
    refine z_iconst (pc := 80) (v := 1) C (dX12_readMaster 39 rfl) (by decide) ?_
    obtain ⟨h28, H⟩ := H
    refine zc_Vv (pc := 81) (rest := []) C YX12_flaw wl_X12_115 (kX12_flaw H) (by decide) h28 rfl (by decide) (dX12_readMaster 40 rfl) rfl hu1 hu2 (Nat.le_of_ble_eq_true rfl) rfl (fun m30 H => ?_)
    refine z_sub [1, 2, 0] rfl ?_
    exact sX12_readMaster_J84 C hr hm hu1 hu2 H
def wX12_readMaster (t : zT) (m : zM) (a : Nat) (Q : zM → Prop) : Prop := (tK t a = 12 ∧ (tK t (gR m a 4) = 11 ∧ (wX12_begins t m a (gI m (gR m a 4) 2) 6 (fun m4 => (wX12_readFresh t m4 a (fun r5 m6 => (wX12_eatsWord t m6 a 9 (fun r7 m8 => ((r7 = 0 → (wX12_eatsWord t m8 a 10 (fun r10 m11 => ((r10 = 0 → (wX12_eatsWord t m11 a 11 (fun r13 m14 => ((r13 = 0 → (wX12_eatsWord t m14 a 12 (fun r16 m17 => ((r16 = 0 → (wX12_readMaster_J73 t m17 a r5 (-1) Q)) ∧ (¬ r16 = 0 → (wX12_readMaster_J73 t m17 a r5 3 Q)))))) ∧ (¬ r13 = 0 → (wX12_readMaster_J73 t m14 a r5 2 Q)))))) ∧ (¬ r10 = 0 → (wX12_readMaster_J73 t m11 a r5 1 Q)))))) ∧ (¬ r7 = 0 → (wX12_readMaster_J73 t m8 a r5 0 Q)))))))))))
set_option maxHeartbeats 4000000 in
set_option maxRecDepth 20000 in
theorem kX12_readMaster {l : Launch} {t : zT} {m : zM} {a : Nat} {Q : zM → Prop} (H : wX12_readMaster t m a Q) : zMet l yX12_readMaster cX12_readMaster 4 none 10 0 0 t m [.ref a] (zPv t Q) := by
  refine zmet (by decide +kernel) (Nat.le_of_ble_eq_true rfl) ?_
  intro p e s mt args below meth c g C hr hm
  unfold wX12_readMaster at H
  have hu1 : ((0, 0) : Nat × Nat).1 ≤ 0 := Nat.le_refl 0
  have hu2 : ((0, 0) : Nat × Nat).2 ≤ 0 := Nat.le_refl 0
  refine z_aload_n (pc := 0) C (dX12_readMaster 0 rfl) rfl 0 rfl ?_
  refine z_aload_n (pc := 1) C (dX12_readMaster 1 rfl) rfl 0 rfl ?_
  obtain ⟨h1, H⟩ := H
  refine z_getR (pc := 2) C zc12 h1 4 (by decide) rfl wf_X12_145 (dX12_readMaster 2 rfl) ?_
  obtain ⟨h2, H⟩ := H
  refine z_getIN (pc := 5) C zc11 h2 2 (by decide) rfl wn_X12_246 (dX12_readMaster 3 rfl) ?_
  refine z_bipush (pc := 8) (v := 6) C (dX12_readMaster 4 rfl) (by decide) ?_
  refine zc_Vv (pc := 10) (rest := []) C YX12_begins wl_X12_204 (kX12_begins H) (by decide) h1 rfl (by decide) (dX12_readMaster 5 rfl) rfl hu1 hu2 (Nat.le_of_ble_eq_true rfl) rfl (fun m4 H => ?_)
  refine z_aload_n (pc := 13) C (dX12_readMaster 6 rfl) rfl 0 rfl ?_
  refine zc_Vl (pc := 14) (rest := []) C YX12_readFresh wl_X12_208 (kX12_readFresh H) (by decide) h1 rfl (by decide) (dX12_readMaster 7 rfl) rfl hu1 hu2 (Nat.le_of_ble_eq_true rfl) rfl (fun r5 m6 H => ?_)
  refine z_lstore_n (pc := 17) (i := 1) (lv2 := [(1, .long r5), (0, .ref a)]) C (dX12_readMaster 8 rfl) rfl (by decide) rfl ?_
  refine z_aload_n (pc := 18) C (dX12_readMaster 9 rfl) rfl 1 rfl ?_
  refine z_ldcS (pc := 19) (k := 9) C (by decide) rfl rfl (dX12_readMaster 10 rfl) ?_
  refine zc_Vi (pc := 21) (rest := []) C YX12_eatsWord wl_X12_251 (kX12_eatsWord H) (by decide) h1 rfl (by decide) (dX12_readMaster 11 rfl) rfl hu1 hu2 (Nat.le_of_ble_eq_true rfl) rfl (fun r7 m8 H => ?_)
  refine z_if_eq (pc := 24) (tgt := 31) C (dX12_readMaster 12 rfl) (by decide) (fun c9 => ?_) (fun c9 => ?_)
  · replace H := H.1 c9
    refine z_aload_n (pc := 31) C (dX12_readMaster 15 rfl) rfl 1 rfl ?_
    refine z_ldcS (pc := 32) (k := 10) C (by decide) rfl rfl (dX12_readMaster 16 rfl) ?_
    refine zc_Vi (pc := 34) (rest := []) C YX12_eatsWord wl_X12_251 (kX12_eatsWord H) (by decide) h1 rfl (by decide) (dX12_readMaster 17 rfl) rfl hu1 hu2 (Nat.le_of_ble_eq_true rfl) rfl (fun r10 m11 H => ?_)
    refine z_if_eq (pc := 37) (tgt := 44) C (dX12_readMaster 18 rfl) (by decide) (fun c12 => ?_) (fun c12 => ?_)
    · replace H := H.1 c12
      refine z_aload_n (pc := 44) C (dX12_readMaster 21 rfl) rfl 1 rfl ?_
      refine z_ldcSw (pc := 45) (k := 11) C (by decide) rfl rfl (dX12_readMaster 22 rfl) ?_
      refine zc_Vi (pc := 48) (rest := []) C YX12_eatsWord wl_X12_251 (kX12_eatsWord H) (by decide) h1 rfl (by decide) (dX12_readMaster 23 rfl) rfl hu1 hu2 (Nat.le_of_ble_eq_true rfl) rfl (fun r13 m14 H => ?_)
      refine z_if_eq (pc := 51) (tgt := 58) C (dX12_readMaster 24 rfl) (by decide) (fun c15 => ?_) (fun c15 => ?_)
      · replace H := H.1 c15
        refine z_aload_n (pc := 58) C (dX12_readMaster 27 rfl) rfl 1 rfl ?_
        refine z_ldcSw (pc := 59) (k := 12) C (by decide) rfl rfl (dX12_readMaster 28 rfl) ?_
        refine zc_Vi (pc := 62) (rest := []) C YX12_eatsWord wl_X12_251 (kX12_eatsWord H) (by decide) h1 rfl (by decide) (dX12_readMaster 29 rfl) rfl hu1 hu2 (Nat.le_of_ble_eq_true rfl) rfl (fun r16 m17 H => ?_)
        refine z_if_eq (pc := 65) (tgt := 72) C (dX12_readMaster 30 rfl) (by decide) (fun c18 => ?_) (fun c18 => ?_)
        · replace H := H.1 c18
          refine z_iconst (pc := 72) (v := (-1)) C (dX12_readMaster 33 rfl) (by decide) ?_
          refine z_sub [1, 0] rfl ?_
          exact sX12_readMaster_J73 C hr hm hu1 hu2 H
        · replace H := H.2 c18
          refine z_iconst (pc := 68) (v := 3) C (dX12_readMaster 31 rfl) (by decide) ?_
          refine z_goto (pc := 69) (tgt := 73) C (dX12_readMaster 32 rfl) (by decide) ?_
          refine z_sub [1, 0] rfl ?_
          exact sX12_readMaster_J73 C hr hm hu1 hu2 H
      · replace H := H.2 c15
        refine z_iconst (pc := 54) (v := 2) C (dX12_readMaster 25 rfl) (by decide) ?_
        refine z_goto (pc := 55) (tgt := 73) C (dX12_readMaster 26 rfl) (by decide) ?_
        refine z_sub [1, 0] rfl ?_
        exact sX12_readMaster_J73 C hr hm hu1 hu2 H
    · replace H := H.2 c12
      refine z_iconst (pc := 40) (v := 1) C (dX12_readMaster 19 rfl) (by decide) ?_
      refine z_goto (pc := 41) (tgt := 73) C (dX12_readMaster 20 rfl) (by decide) ?_
      refine z_sub [1, 0] rfl ?_
      exact sX12_readMaster_J73 C hr hm hu1 hu2 H
  · replace H := H.2 c9
    refine z_iconst (pc := 27) (v := 0) C (dX12_readMaster 13 rfl) (by decide) ?_
    refine z_goto (pc := 28) (tgt := 73) C (dX12_readMaster 14 rfl) (by decide) ?_
    refine z_sub [1, 0] rfl ?_
    exact sX12_readMaster_J73 C hr hm hu1 hu2 H
def wX12_readLaw_J95 (t : zT) (m : zM) (a_0 : Nat) (x_1 : Int32) (s_0 : Int32) (Q : zM → Prop) : Prop := (tK t a_0 = 12 ∧ (((gI m a_0 9) = 5 → (Q m)) ∧ (¬ (gI m a_0 9) = 5 → (tK t (gR m a_0 4) = 11 ∧ ((x_1 = 2 → (Q (pI (pI m (gR m a_0 4) 6 ((gI m (gR m a_0 4) 6) ||| x_1)) (gR m a_0 4) 7 s_0))) ∧ (¬ x_1 = 2 → (Q (pI m (gR m a_0 4) 6 ((gI m (gR m a_0 4) 6) ||| x_1)))))))))
set_option maxHeartbeats 4000000 in
set_option maxRecDepth 20000 in
theorem sX12_readLaw_J95 {p : Program} {l : Launch} {e : Env} {s : State} {mt : MethodId} {args : Array Value} {below : List Frame} {meth : Method} {c : Code} {g : zG} {u : Nat × Nat} {mc ms : Nat} {t : zT} {m : zM} {a_0 : Nat} {x_1 : Int32} {s_0 : Int32} {Q : zM → Prop} (C : zC p (zRm 8 mc ms) s mt args meth c g cX12_readLaw 3 yX12_readLaw.cls 8) (hr : meth.sig.returnType = none) (hm : meth.name = yX12_readLaw.name) (hu1 : u.1 ≤ mc) (hu2 : u.2 ≤ ms) (H : wX12_readLaw_J95 t m a_0 x_1 s_0 Q) : zW p l e (zRm 8 mc ms) s mt args below meth c g (MQ below (zQc g (zPv t Q)) args s mc ms (zFar g)) u 3 t m 95 [(0, .ref a_0), (1, .int x_1)] [.int s_0] := by
  unfold wX12_readLaw_J95 at H
  refine z_istore_n (pc := 95) (i := 2) (lv2 := [(2, .int s_0), (0, .ref a_0), (1, .int x_1)]) C (dX12_readLaw 47 rfl) rfl (by decide) rfl ?_
  refine z_aload_n (pc := 96) C (dX12_readLaw 48 rfl) rfl 1 rfl ?_
  obtain ⟨h21, H⟩ := H
  refine z_getI (pc := 97) C zc12 h21 9 (by decide) rfl wf_X12_69 (dX12_readLaw 49 rfl) ?_
  refine z_iconst (pc := 100) (v := 5) C (dX12_readLaw 50 rfl) (by decide) ?_
  refine z_icmp_ne (pc := 101) (tgt := 105) C (dX12_readLaw 51 rfl) (by decide) (fun c22 => ?_) (fun c22 => ?_)
  · replace H := H.2 c22
    refine z_aload_n (pc := 105) C (dX12_readLaw 53 rfl) rfl 1 rfl ?_
    refine z_getR (pc := 106) C zc12 h21 4 (by decide) rfl wf_X12_145 (dX12_readLaw 54 rfl) ?_
    refine z_dup (pc := 109) C (dX12_readLaw 55 rfl) rfl ?_
    obtain ⟨h23, H⟩ := H
    refine z_getIN (pc := 110) C zc11 h23 6 (by decide) rfl wn_X12_269 (dX12_readLaw 56 rfl) ?_
    refine z_iload_n (pc := 113) C (dX12_readLaw 57 rfl) rfl 2 rfl ?_
    refine z_ior (pc := 114) C (dX12_readLaw 58 rfl) ?_
    refine z_putIN (pc := 115) C zc11 h23 6 (by decide) rfl rfl wn_X12_269 (dX12_readLaw 59 rfl) ?_
    refine z_iload_n (pc := 118) C (dX12_readLaw 60 rfl) rfl 2 rfl ?_
    refine z_iconst (pc := 119) (v := 2) C (dX12_readLaw 61 rfl) (by decide) ?_
    refine z_icmp_ne (pc := 120) (tgt := 131) C (dX12_readLaw 62 rfl) (by decide) (fun c24 => ?_) (fun c24 => ?_)
    · replace H := H.2 c24
      exact z_vret (pc := 131) C hr hu1 hu2 (dX12_readLaw 67 rfl) ⟨rfl, rfl, H⟩
    · replace H := H.1 c24
      refine z_aload_n (pc := 123) C (dX12_readLaw 63 rfl) rfl 1 rfl ?_
      refine z_getR (pc := 124) C zc12 h21 4 (by decide) rfl wf_X12_145 (dX12_readLaw 64 rfl) ?_
      refine z_iload_n (pc := 127) C (dX12_readLaw 65 rfl) rfl 0 rfl ?_
      refine z_putIN (pc := 128) C zc11 h23 7 (by decide) rfl rfl wn_X12_275 (dX12_readLaw 66 rfl) ?_
      exact z_vret (pc := 131) C hr hu1 hu2 (dX12_readLaw 67 rfl) ⟨rfl, rfl, H⟩
  · replace H := H.1 c22
    exact z_vret (pc := 104) C hr hu1 hu2 (dX12_readLaw 52 rfl) ⟨rfl, rfl, H⟩
def wX12_readLaw_J74 (t : zT) (m : zM) (a_0 : Nat) (x_1 : Int32) (Q : zM → Prop) : Prop := (tK t a_0 = 12 ∧ (wX12_goesOn t m a_0 (fun m19 => ((x_1 = 2 → (wX12_readWhole t m19 a_0 0 8 (fun r25 m26 => (wX12_readLaw_J95 t m26 a_0 x_1 r25 Q)))) ∧ (¬ x_1 = 2 → (wX12_readLaw_J95 t m19 a_0 x_1 (-2) Q))))))
set_option maxHeartbeats 4000000 in
set_option maxRecDepth 20000 in
theorem sX12_readLaw_J74 {p : Program} {l : Launch} {e : Env} {s : State} {mt : MethodId} {args : Array Value} {below : List Frame} {meth : Method} {c : Code} {g : zG} {u : Nat × Nat} {mc ms : Nat} {t : zT} {m : zM} {a_0 : Nat} {x_1 : Int32} {Q : zM → Prop} (C : zC p (zRm 8 mc ms) s mt args meth c g cX12_readLaw 3 yX12_readLaw.cls 8) (hr : meth.sig.returnType = none) (hm : meth.name = yX12_readLaw.name) (hu1 : u.1 ≤ mc) (hu2 : u.2 ≤ ms) (H : wX12_readLaw_J74 t m a_0 x_1 Q) : zW p l e (zRm 8 mc ms) s mt args below meth c g (MQ below (zQc g (zPv t Q)) args s mc ms (zFar g)) u 3 t m 74 [(0, .ref a_0), (1, .int x_1)] [] := by
  unfold wX12_readLaw_J74 at H
  refine z_aload_n (pc := 74) C (dX12_readLaw 36 rfl) rfl 0 rfl ?_
  obtain ⟨h17, H⟩ := H
  refine zc_Vv (pc := 75) (rest := []) C YX12_goesOn wl_X12_112 (kX12_goesOn H) (by decide) h17 rfl (by decide) (dX12_readLaw 37 rfl) rfl hu1 hu2 (Nat.le_of_ble_eq_true rfl) rfl (fun m19 H => ?_)
  refine z_iload_n (pc := 78) C (dX12_readLaw 38 rfl) rfl 1 rfl ?_
  refine z_iconst (pc := 79) (v := 2) C (dX12_readLaw 39 rfl) (by decide) ?_
  refine z_icmp_ne (pc := 80) (tgt := 93) C (dX12_readLaw 40 rfl) (by decide) (fun c20 => ?_) (fun c20 => ?_)
  · replace H := H.2 c20
    refine z_bipush (pc := 93) (v := (-2)) C (dX12_readLaw 46 rfl) (by decide) ?_
    refine z_sub [0, 1] rfl ?_
    exact sX12_readLaw_J95 C hr hm hu1 hu2 H
  · replace H := H.1 c20
    refine z_aload_n (pc := 83) C (dX12_readLaw 41 rfl) rfl 0 rfl ?_
    refine z_iconst (pc := 84) (v := 0) C (dX12_readLaw 42 rfl) (by decide) ?_
    refine z_bipush (pc := 85) (v := 8) C (dX12_readLaw 43 rfl) (by decide) ?_
    refine zc_Vi (pc := 87) (rest := []) C YX12_readWhole wl_X12_272 (kX12_readWhole H) (by decide) h17 rfl (by decide) (dX12_readLaw 44 rfl) rfl hu1 hu2 (Nat.le_of_ble_eq_true rfl) rfl (fun r25 m26 H => ?_)
    refine z_goto (pc := 90) (tgt := 95) C (dX12_readLaw 45 rfl) (by decide) ?_
    refine z_sub [0, 1] rfl ?_
    exact sX12_readLaw_J95 C hr hm hu1 hu2 H
def wX12_readLaw_J57 (t : zT) (m : zM) (a_0 : Nat) (x_1 : Int32) (Q : zM → Prop) : Prop := (tK t a_0 = 12 ∧ (tK t (gR m a_0 4) = 11 ∧ ((((gI m (gR m a_0 4) 6) &&& x_1) = 0 → (wX12_readLaw_J74 t m a_0 x_1 Q)) ∧ (¬ ((gI m (gR m a_0 4) 6) &&& x_1) = 0 → (wX12_flaw t m a_0 3 (fun m28 => (wX12_readLaw_J74 t m28 a_0 x_1 Q)))))))
set_option maxHeartbeats 4000000 in
set_option maxRecDepth 20000 in
theorem sX12_readLaw_J57 {p : Program} {l : Launch} {e : Env} {s : State} {mt : MethodId} {args : Array Value} {below : List Frame} {meth : Method} {c : Code} {g : zG} {u : Nat × Nat} {mc ms : Nat} {t : zT} {m : zM} {a_0 : Nat} {x_1 : Int32} {Q : zM → Prop} (C : zC p (zRm 8 mc ms) s mt args meth c g cX12_readLaw 3 yX12_readLaw.cls 8) (hr : meth.sig.returnType = none) (hm : meth.name = yX12_readLaw.name) (hu1 : u.1 ≤ mc) (hu2 : u.2 ≤ ms) (H : wX12_readLaw_J57 t m a_0 x_1 Q) : zW p l e (zRm 8 mc ms) s mt args below meth c g (MQ below (zQc g (zPv t Q)) args s mc ms (zFar g)) u 3 t m 57 [(0, .ref a_0), (1, .int x_1)] [] := by
  unfold wX12_readLaw_J57 at H
  refine z_aload_n (pc := 57) C (dX12_readLaw 27 rfl) rfl 0 rfl ?_
  obtain ⟨h14, H⟩ := H
  refine z_getR (pc := 58) C zc12 h14 4 (by decide) rfl wf_X12_145 (dX12_readLaw 28 rfl) ?_
  obtain ⟨h15, H⟩ := H
  refine z_getIN (pc := 61) C zc11 h15 6 (by decide) rfl wn_X12_269 (dX12_readLaw 29 rfl) ?_
  refine z_iload_n (pc := 64) C (dX12_readLaw 30 rfl) rfl 1 rfl ?_
  refine z_iand (pc := 65) C (dX12_readLaw 31 rfl) ?_
  refine z_if_eq (pc := 66) (tgt := 74) C (dX12_readLaw 32 rfl) (by decide) (fun c16 => ?_) (fun c16 => ?_)
  · replace H := H.1 c16
    refine z_sub [0, 1] rfl ?_
    exact sX12_readLaw_J74 C hr hm hu1 hu2 H
  · replace H := H.2 c16
    refine z_aload_n (pc := 69) C (dX12_readLaw 33 rfl) rfl 0 rfl ?_
    refine z_iconst (pc := 70) (v := 3) C (dX12_readLaw 34 rfl) (by decide) ?_
    refine zc_Vv (pc := 71) (rest := []) C YX12_flaw wl_X12_115 (kX12_flaw H) (by decide) h14 rfl (by decide) (dX12_readLaw 35 rfl) rfl hu1 hu2 (Nat.le_of_ble_eq_true rfl) rfl (fun m28 H => ?_)
    refine z_sub [0, 1] rfl ?_
    exact sX12_readLaw_J74 C hr hm hu1 hu2 H
def wX12_readLaw_J47 (t : zT) (m : zM) (a_0 : Nat) (s_0 : Int32) (Q : zM → Prop) : Prop := ((s_0 = 0 → (tK t a_0 = 12 ∧ (wX12_flaw t m a_0 1 (fun m31 => (wX12_readLaw_J57 t m31 a_0 s_0 Q))))) ∧ (¬ s_0 = 0 → (wX12_readLaw_J57 t m a_0 s_0 Q)))
set_option maxHeartbeats 4000000 in
set_option maxRecDepth 20000 in
theorem sX12_readLaw_J47 {p : Program} {l : Launch} {e : Env} {s : State} {mt : MethodId} {args : Array Value} {below : List Frame} {meth : Method} {c : Code} {g : zG} {u : Nat × Nat} {mc ms : Nat} {t : zT} {m : zM} {a_0 : Nat} {s_0 : Int32} {Q : zM → Prop} (C : zC p (zRm 8 mc ms) s mt args meth c g cX12_readLaw 3 yX12_readLaw.cls 8) (hr : meth.sig.returnType = none) (hm : meth.name = yX12_readLaw.name) (hu1 : u.1 ≤ mc) (hu2 : u.2 ≤ ms) (H : wX12_readLaw_J47 t m a_0 s_0 Q) : zW p l e (zRm 8 mc ms) s mt args below meth c g (MQ below (zQc g (zPv t Q)) args s mc ms (zFar g)) u 3 t m 47 [(0, .ref a_0)] [.int s_0] := by
  unfold wX12_readLaw_J47 at H
  refine z_istore_n (pc := 47) (i := 1) (lv2 := [(1, .int s_0), (0, .ref a_0)]) C (dX12_readLaw 21 rfl) rfl (by decide) rfl ?_
  refine z_iload_n (pc := 48) C (dX12_readLaw 22 rfl) rfl 0 rfl ?_
  refine z_if_ne (pc := 49) (tgt := 57) C (dX12_readLaw 23 rfl) (by decide) (fun c13 => ?_) (fun c13 => ?_)
  · replace H := H.2 c13
    refine z_sub [1, 0] rfl ?_
    exact sX12_readLaw_J57 C hr hm hu1 hu2 H
  · replace H := H.1 c13
    refine z_aload_n (pc := 52) C (dX12_readLaw 24 rfl) rfl 1 rfl ?_
    refine z_iconst (pc := 53) (v := 1) C (dX12_readLaw 25 rfl) (by decide) ?_
    obtain ⟨h29, H⟩ := H
    refine zc_Vv (pc := 54) (rest := []) C YX12_flaw wl_X12_115 (kX12_flaw H) (by decide) h29 rfl (by decide) (dX12_readLaw 26 rfl) rfl hu1 hu2 (Nat.le_of_ble_eq_true rfl) rfl (fun m31 H => ?_)
    refine z_sub [1, 0] rfl ?_
    exact sX12_readLaw_J57 C hr hm hu1 hu2 H
def wX12_readLaw (t : zT) (m : zM) (a : Nat) (Q : zM → Prop) : Prop := (tK t a = 12 ∧ (wX12_goesOn t m a (fun m3 => (wX12_isWord t m3 a 13 (fun r4 m5 => ((r4 = 0 → (wX12_isWord t m5 a 14 (fun r7 m8 => ((r7 = 0 → (wX12_isWord t m8 a 15 (fun r10 m11 => ((r10 = 0 → (wX12_readLaw_J47 t m11 a 0 Q)) ∧ (¬ r10 = 0 → (wX12_readLaw_J47 t m11 a 4 Q)))))) ∧ (¬ r7 = 0 → (wX12_readLaw_J47 t m8 a 2 Q)))))) ∧ (¬ r4 = 0 → (wX12_readLaw_J47 t m5 a 1 Q))))))))
set_option maxHeartbeats 4000000 in
set_option maxRecDepth 20000 in
theorem kX12_readLaw {l : Launch} {t : zT} {m : zM} {a : Nat} {Q : zM → Prop} (H : wX12_readLaw t m a Q) : zMet l yX12_readLaw cX12_readLaw 3 none 8 0 0 t m [.ref a] (zPv t Q) := by
  refine zmet (by decide +kernel) (Nat.le_of_ble_eq_true rfl) ?_
  intro p e s mt args below meth c g C hr hm
  unfold wX12_readLaw at H
  have hu1 : ((0, 0) : Nat × Nat).1 ≤ 0 := Nat.le_refl 0
  have hu2 : ((0, 0) : Nat × Nat).2 ≤ 0 := Nat.le_refl 0
  refine z_aload_n (pc := 0) C (dX12_readLaw 0 rfl) rfl 0 rfl ?_
  obtain ⟨h1, H⟩ := H
  refine zc_Vv (pc := 1) (rest := []) C YX12_goesOn wl_X12_112 (kX12_goesOn H) (by decide) h1 rfl (by decide) (dX12_readLaw 1 rfl) rfl hu1 hu2 (Nat.le_of_ble_eq_true rfl) rfl (fun m3 H => ?_)
  refine z_aload_n (pc := 4) C (dX12_readLaw 2 rfl) rfl 0 rfl ?_
  refine z_ldcSw (pc := 5) (k := 13) C (by decide) rfl rfl (dX12_readLaw 3 rfl) ?_
  refine zc_Vi (pc := 8) (rest := []) C YX12_isWord wl_X12_108 (kX12_isWord H) (by decide) h1 rfl (by decide) (dX12_readLaw 4 rfl) rfl hu1 hu2 (Nat.le_of_ble_eq_true rfl) rfl (fun r4 m5 H => ?_)
  refine z_if_eq (pc := 11) (tgt := 18) C (dX12_readLaw 5 rfl) (by decide) (fun c6 => ?_) (fun c6 => ?_)
  · replace H := H.1 c6
    refine z_aload_n (pc := 18) C (dX12_readLaw 8 rfl) rfl 0 rfl ?_
    refine z_ldcSw (pc := 19) (k := 14) C (by decide) rfl rfl (dX12_readLaw 9 rfl) ?_
    refine zc_Vi (pc := 22) (rest := []) C YX12_isWord wl_X12_108 (kX12_isWord H) (by decide) h1 rfl (by decide) (dX12_readLaw 10 rfl) rfl hu1 hu2 (Nat.le_of_ble_eq_true rfl) rfl (fun r7 m8 H => ?_)
    refine z_if_eq (pc := 25) (tgt := 32) C (dX12_readLaw 11 rfl) (by decide) (fun c9 => ?_) (fun c9 => ?_)
    · replace H := H.1 c9
      refine z_aload_n (pc := 32) C (dX12_readLaw 14 rfl) rfl 0 rfl ?_
      refine z_ldcSw (pc := 33) (k := 15) C (by decide) rfl rfl (dX12_readLaw 15 rfl) ?_
      refine zc_Vi (pc := 36) (rest := []) C YX12_isWord wl_X12_108 (kX12_isWord H) (by decide) h1 rfl (by decide) (dX12_readLaw 16 rfl) rfl hu1 hu2 (Nat.le_of_ble_eq_true rfl) rfl (fun r10 m11 H => ?_)
      refine z_if_eq (pc := 39) (tgt := 46) C (dX12_readLaw 17 rfl) (by decide) (fun c12 => ?_) (fun c12 => ?_)
      · replace H := H.1 c12
        refine z_iconst (pc := 46) (v := 0) C (dX12_readLaw 20 rfl) (by decide) ?_
        refine z_sub [0] rfl ?_
        exact sX12_readLaw_J47 C hr hm hu1 hu2 H
      · replace H := H.2 c12
        refine z_iconst (pc := 42) (v := 4) C (dX12_readLaw 18 rfl) (by decide) ?_
        refine z_goto (pc := 43) (tgt := 47) C (dX12_readLaw 19 rfl) (by decide) ?_
        refine z_sub [0] rfl ?_
        exact sX12_readLaw_J47 C hr hm hu1 hu2 H
    · replace H := H.2 c9
      refine z_iconst (pc := 28) (v := 2) C (dX12_readLaw 12 rfl) (by decide) ?_
      refine z_goto (pc := 29) (tgt := 47) C (dX12_readLaw 13 rfl) (by decide) ?_
      refine z_sub [0] rfl ?_
      exact sX12_readLaw_J47 C hr hm hu1 hu2 H
  · replace H := H.2 c6
    refine z_iconst (pc := 14) (v := 1) C (dX12_readLaw 6 rfl) (by decide) ?_
    refine z_goto (pc := 15) (tgt := 47) C (dX12_readLaw 7 rfl) (by decide) ?_
    refine z_sub [0] rfl ?_
    exact sX12_readLaw_J47 C hr hm hu1 hu2 H
def wX12_readSays (t : zT) (m : zM) (a : Nat) (Q : zM → Prop) : Prop := (tK t a = 12 ∧ (tK t (gR m a 4) = 11 ∧ (wX12_begins t m a (gI m (gR m a 4) 3) 16 (fun m4 => (wX12_readKnown t m4 a 1 (fun r5 m6 => (wX12_readKnown t m6 a 0 (fun r7 m8 => (wX12_readAnswer t m8 a r7 (fun r9 m10 => (((gI m10 a 9) = 5 → (Q m10)) ∧ (¬ (gI m10 a 9) = 5 → (tK t (gR m10 a 4) = 11 ∧ (tK t (gR m10 (gR m10 a 4) 18) = 14 ∧ (vp_in (gI m10 (gR m10 a 4) 3) (tL t (gR m10 (gR m10 a 4) 18)) ∧ (tK t (gR m10 (gR m10 a 4) 19) = 14 ∧ (vp_in (gI (pI m10 (gR m10 (gR m10 a 4) 18) ((gI m10 (gR m10 a 4) 3).toNatClampNeg) r5) (gR m10 a 4) 3) (tL t (gR m10 (gR m10 a 4) 19)) ∧ (tK t (gR m10 (gR m10 a 4) 20) = 14 ∧ (vp_in (gI (pI (pI m10 (gR m10 (gR m10 a 4) 18) ((gI m10 (gR m10 a 4) 3).toNatClampNeg) r5) (gR m10 (gR m10 a 4) 19) ((gI (pI m10 (gR m10 (gR m10 a 4) 18) ((gI m10 (gR m10 a 4) 3).toNatClampNeg) r5) (gR m10 a 4) 3).toNatClampNeg) r7) (gR m10 a 4) 3) (tL t (gR m10 (gR m10 a 4) 20)) ∧ (Q (pI (pI (pI (pI m10 (gR m10 (gR m10 a 4) 18) ((gI m10 (gR m10 a 4) 3).toNatClampNeg) r5) (gR m10 (gR m10 a 4) 19) ((gI (pI m10 (gR m10 (gR m10 a 4) 18) ((gI m10 (gR m10 a 4) 3).toNatClampNeg) r5) (gR m10 a 4) 3).toNatClampNeg) r7) (gR m10 (gR m10 a 4) 20) ((gI (pI (pI m10 (gR m10 (gR m10 a 4) 18) ((gI m10 (gR m10 a 4) 3).toNatClampNeg) r5) (gR m10 (gR m10 a 4) 19) ((gI (pI m10 (gR m10 (gR m10 a 4) 18) ((gI m10 (gR m10 a 4) 3).toNatClampNeg) r5) (gR m10 a 4) 3).toNatClampNeg) r7) (gR m10 a 4) 3).toNatClampNeg) r9) (gR m10 a 4) 3 ((gI (pI (pI (pI m10 (gR m10 (gR m10 a 4) 18) ((gI m10 (gR m10 a 4) 3).toNatClampNeg) r5) (gR m10 (gR m10 a 4) 19) ((gI (pI m10 (gR m10 (gR m10 a 4) 18) ((gI m10 (gR m10 a 4) 3).toNatClampNeg) r5) (gR m10 a 4) 3).toNatClampNeg) r7) (gR m10 (gR m10 a 4) 20) ((gI (pI (pI m10 (gR m10 (gR m10 a 4) 18) ((gI m10 (gR m10 a 4) 3).toNatClampNeg) r5) (gR m10 (gR m10 a 4) 19) ((gI (pI m10 (gR m10 (gR m10 a 4) 18) ((gI m10 (gR m10 a 4) 3).toNatClampNeg) r5) (gR m10 a 4) 3).toNatClampNeg) r7) (gR m10 a 4) 3).toNatClampNeg) r9) (gR m10 a 4) 3) + (1 : Int32)))))))))))))))))))))))
set_option maxHeartbeats 4000000 in
set_option maxRecDepth 20000 in
theorem kX12_readSays {l : Launch} {t : zT} {m : zM} {a : Nat} {Q : zM → Prop} (H : wX12_readSays t m a Q) : zMet l yX12_readSays cX12_readSays 4 none 11 0 0 t m [.ref a] (zPv t Q) := by
  refine zmet (by decide +kernel) (Nat.le_of_ble_eq_true rfl) ?_
  intro p e s mt args below meth c g C hr hm
  unfold wX12_readSays at H
  have hu1 : ((0, 0) : Nat × Nat).1 ≤ 0 := Nat.le_refl 0
  have hu2 : ((0, 0) : Nat × Nat).2 ≤ 0 := Nat.le_refl 0
  refine z_aload_n (pc := 0) C (dX12_readSays 0 rfl) rfl 0 rfl ?_
  refine z_aload_n (pc := 1) C (dX12_readSays 1 rfl) rfl 0 rfl ?_
  obtain ⟨h1, H⟩ := H
  refine z_getR (pc := 2) C zc12 h1 4 (by decide) rfl wf_X12_145 (dX12_readSays 2 rfl) ?_
  obtain ⟨h2, H⟩ := H
  refine z_getIN (pc := 5) C zc11 h2 3 (by decide) rfl wn_X12_277 (dX12_readSays 3 rfl) ?_
  refine z_bipush (pc := 8) (v := 16) C (dX12_readSays 4 rfl) (by decide) ?_
  refine zc_Vv (pc := 10) (rest := []) C YX12_begins wl_X12_204 (kX12_begins H) (by decide) h1 rfl (by decide) (dX12_readSays 5 rfl) rfl hu1 hu2 (Nat.le_of_ble_eq_true rfl) rfl (fun m4 H => ?_)
  refine z_aload_n (pc := 13) C (dX12_readSays 6 rfl) rfl 0 rfl ?_
  refine z_iconst (pc := 14) (v := 1) C (dX12_readSays 7 rfl) (by decide) ?_
  refine zc_Vi (pc := 15) (rest := []) C YX12_readKnown wl_X12_225 (kX12_readKnown H) (by decide) h1 rfl (by decide) (dX12_readSays 8 rfl) rfl hu1 hu2 (Nat.le_of_ble_eq_true rfl) rfl (fun r5 m6 H => ?_)
  refine z_istore_n (pc := 18) (i := 1) (lv2 := [(1, .int r5), (0, .ref a)]) C (dX12_readSays 9 rfl) rfl (by decide) rfl ?_
  refine z_aload_n (pc := 19) C (dX12_readSays 10 rfl) rfl 1 rfl ?_
  refine z_iconst (pc := 20) (v := 0) C (dX12_readSays 11 rfl) (by decide) ?_
  refine zc_Vi (pc := 21) (rest := []) C YX12_readKnown wl_X12_225 (kX12_readKnown H) (by decide) h1 rfl (by decide) (dX12_readSays 12 rfl) rfl hu1 hu2 (Nat.le_of_ble_eq_true rfl) rfl (fun r7 m8 H => ?_)
  refine z_istore_n (pc := 24) (i := 2) (lv2 := [(2, .int r7), (1, .int r5), (0, .ref a)]) C (dX12_readSays 13 rfl) rfl (by decide) rfl ?_
  refine z_aload_n (pc := 25) C (dX12_readSays 14 rfl) rfl 2 rfl ?_
  refine z_iload_n (pc := 26) C (dX12_readSays 15 rfl) rfl 0 rfl ?_
  refine zc_Vi (pc := 27) (rest := []) C YX12_readAnswer wl_X12_228 (kX12_readAnswer H) (by decide) h1 rfl (by decide) (dX12_readSays 16 rfl) rfl hu1 hu2 (Nat.le_of_ble_eq_true rfl) rfl (fun r9 m10 H => ?_)
  refine z_istore_n (pc := 30) (i := 3) (lv2 := [(3, .int r9), (2, .int r7), (1, .int r5), (0, .ref a)]) C (dX12_readSays 17 rfl) rfl (by decide) rfl ?_
  refine z_aload_n (pc := 31) C (dX12_readSays 18 rfl) rfl 3 rfl ?_
  refine z_getI (pc := 32) C zc12 h1 9 (by decide) rfl wf_X12_69 (dX12_readSays 19 rfl) ?_
  refine z_iconst (pc := 35) (v := 5) C (dX12_readSays 20 rfl) (by decide) ?_
  refine z_icmp_ne (pc := 36) (tgt := 40) C (dX12_readSays 21 rfl) (by decide) (fun c11 => ?_) (fun c11 => ?_)
  · replace H := H.2 c11
    refine z_aload_n (pc := 40) C (dX12_readSays 23 rfl) rfl 3 rfl ?_
    refine z_getR (pc := 41) C zc12 h1 4 (by decide) rfl wf_X12_145 (dX12_readSays 24 rfl) ?_
    obtain ⟨h12, H⟩ := H
    refine z_getRN (pc := 44) C zc11 h12 18 (by decide) rfl wn_X12_280 (dX12_readSays 25 rfl) ?_
    refine z_aload_n (pc := 47) C (dX12_readSays 26 rfl) rfl 3 rfl ?_
    refine z_getR (pc := 48) C zc12 h1 4 (by decide) rfl wf_X12_145 (dX12_readSays 27 rfl) ?_
    refine z_getIN (pc := 51) C zc11 h12 3 (by decide) rfl wn_X12_277 (dX12_readSays 28 rfl) ?_
    refine z_iload_n (pc := 54) C (dX12_readSays 29 rfl) rfl 2 rfl ?_
    obtain ⟨h13, H⟩ := H
    obtain ⟨h14, H⟩ := H
    refine z_iastore (pc := 55) C h13 h14 (dX12_readSays 30 rfl) ?_
    refine z_aload_n (pc := 56) C (dX12_readSays 31 rfl) rfl 3 rfl ?_
    refine z_getR (pc := 57) C zc12 h1 4 (by decide) rfl wf_X12_145 (dX12_readSays 32 rfl) ?_
    refine z_getRN (pc := 60) C zc11 h12 19 (by decide) rfl wn_X12_283 (dX12_readSays 33 rfl) ?_
    refine z_aload_n (pc := 63) C (dX12_readSays 34 rfl) rfl 3 rfl ?_
    refine z_getR (pc := 64) C zc12 h1 4 (by decide) rfl wf_X12_145 (dX12_readSays 35 rfl) ?_
    refine z_getIN (pc := 67) C zc11 h12 3 (by decide) rfl wn_X12_277 (dX12_readSays 36 rfl) ?_
    refine z_iload_n (pc := 70) C (dX12_readSays 37 rfl) rfl 1 rfl ?_
    obtain ⟨h15, H⟩ := H
    obtain ⟨h16, H⟩ := H
    refine z_iastore (pc := 71) C h15 h16 (dX12_readSays 38 rfl) ?_
    refine z_aload_n (pc := 72) C (dX12_readSays 39 rfl) rfl 3 rfl ?_
    refine z_getR (pc := 73) C zc12 h1 4 (by decide) rfl wf_X12_145 (dX12_readSays 40 rfl) ?_
    refine z_getRN (pc := 76) C zc11 h12 20 (by decide) rfl wn_X12_286 (dX12_readSays 41 rfl) ?_
    refine z_aload_n (pc := 79) C (dX12_readSays 42 rfl) rfl 3 rfl ?_
    refine z_getR (pc := 80) C zc12 h1 4 (by decide) rfl wf_X12_145 (dX12_readSays 43 rfl) ?_
    refine z_getIN (pc := 83) C zc11 h12 3 (by decide) rfl wn_X12_277 (dX12_readSays 44 rfl) ?_
    refine z_iload_n (pc := 86) C (dX12_readSays 45 rfl) rfl 0 rfl ?_
    obtain ⟨h17, H⟩ := H
    obtain ⟨h18, H⟩ := H
    refine z_iastore (pc := 87) C h17 h18 (dX12_readSays 46 rfl) ?_
    refine z_aload_n (pc := 88) C (dX12_readSays 47 rfl) rfl 3 rfl ?_
    refine z_getR (pc := 89) C zc12 h1 4 (by decide) rfl wf_X12_145 (dX12_readSays 48 rfl) ?_
    refine z_dup (pc := 92) C (dX12_readSays 49 rfl) rfl ?_
    refine z_getIN (pc := 93) C zc11 h12 3 (by decide) rfl wn_X12_277 (dX12_readSays 50 rfl) ?_
    refine z_iconst (pc := 96) (v := 1) C (dX12_readSays 51 rfl) (by decide) ?_
    refine z_iadd (pc := 97) C (dX12_readSays 52 rfl) ?_
    refine z_putIN (pc := 98) C zc11 h12 3 (by decide) rfl rfl wn_X12_277 (dX12_readSays 53 rfl) ?_
    exact z_vret (pc := 101) C hr hu1 hu2 (dX12_readSays 54 rfl) ⟨rfl, rfl, H⟩
  · replace H := H.1 c11
    exact z_vret (pc := 39) C hr hu1 hu2 (dX12_readSays 22 rfl) ⟨rfl, rfl, H⟩
def wX12_readChild_J63 (t : zT) (m : zM) (a_0 : Nat) (y_1 : Int64) (x_3 : Int32) (x_5 : Int32) (Q : zM → Prop) (r29 : Int32 → Int32 → zM → Prop) : Prop := (tK t a_0 = 12 ∧ (wX12_goesOn t m a_0 (fun m19 => (∀ x20 : Int32, x20 = (x_3 ||| ((1 : Int32) <<< (x_5 &&& 31))) → ((wX12_eatsSign t m19 a_0 44 (fun r21 m22 => (r29 x20 r21 m22))))))))
set_option maxHeartbeats 4000000 in
set_option maxRecDepth 20000 in
theorem sX12_readChild_J63 {p : Program} {l : Launch} {e : Env} {s : State} {mt : MethodId} {args : Array Value} {below : List Frame} {meth : Method} {c : Code} {g : zG} {u : Nat × Nat} {mc ms : Nat} {t : zT} {m : zM} {a_0 : Nat} {y_1 : Int64} {x_3 : Int32} {x_5 : Int32} {Q : zM → Prop} {r29 : Int32 → Int32 → zM → Prop} (C : zC p (zRm 10 mc ms) s mt args meth c g cX12_readChild 6 yX12_readChild.cls 10) (hr : meth.sig.returnType = none) (hm : meth.name = yX12_readChild.name) (hu1 : u.1 ≤ mc) (hu2 : u.2 ≤ ms)
    (R29 : ∀ (v0 : Int32) (v1 : Int32) (m : zM), r29 v0 v1 m → zW p l e (zRm 10 mc ms) s mt args below meth c g (MQ below (zQc g (zPv t Q)) args s mc ms (zFar g)) u 6 t m 29 [(0, .ref a_0), (1, .long y_1), (3, .int v0), (4, .int v1)] []) (H : wX12_readChild_J63 t m a_0 y_1 x_3 x_5 Q r29) : zW p l e (zRm 10 mc ms) s mt args below meth c g (MQ below (zQc g (zPv t Q)) args s mc ms (zFar g)) u 6 t m 63 [(0, .ref a_0), (1, .long y_1), (3, .int x_3), (5, .int x_5)] [] := by
  unfold wX12_readChild_J63 at H
  refine z_aload_n (pc := 63) C (dX12_readChild 33 rfl) rfl 0 rfl ?_
  obtain ⟨h17, H⟩ := H
  refine zc_Vv (pc := 64) (rest := []) C YX12_goesOn wl_X12_112 (kX12_goesOn H) (by decide) h17 rfl (by decide) (dX12_readChild 34 rfl) rfl hu1 hu2 (Nat.le_of_ble_eq_true rfl) rfl (fun m19 H => ?_)
  refine z_iload_n (pc := 67) C (dX12_readChild 35 rfl) rfl 2 rfl ?_
  refine z_iconst (pc := 68) (v := 1) C (dX12_readChild 36 rfl) (by decide) ?_
  refine z_iload (pc := 69) C (dX12_readChild 37 rfl) 3 rfl ?_
  refine z_ishl (pc := 71) C (dX12_readChild 38 rfl) ?_
  refine z_ior (pc := 72) C (dX12_readChild 39 rfl) ?_
  refine z_int (fun x20 hx20 => ?_)
  replace H := H x20 hx20
  refine z_istore_n (pc := 73) (i := 3) (lv2 := [(3, .int x20), (0, .ref a_0), (1, .long y_1), (5, .int x_5)]) C (dX12_readChild 40 rfl) rfl (by decide) rfl ?_
  refine z_aload_n (pc := 74) C (dX12_readChild 41 rfl) rfl 1 rfl ?_
  refine z_bipush (pc := 75) (v := 44) C (dX12_readChild 42 rfl) (by decide) ?_
  refine zc_Vi (pc := 77) (rest := []) C YX12_eatsSign wl_X12_177 (kX12_eatsSign H) (by decide) h17 rfl (by decide) (dX12_readChild 43 rfl) rfl hu1 hu2 (Nat.le_of_ble_eq_true rfl) rfl (fun r21 m22 H => ?_)
  refine z_istore (pc := 80) (i := 4) (lv2 := [(4, .int r21), (3, .int x20), (0, .ref a_0), (1, .long y_1), (5, .int x_5)]) C (dX12_readChild 44 rfl) (by decide) rfl ?_
  refine z_goto (pc := 82) (tgt := 29) C (dX12_readChild 45 rfl) (by decide) ?_
  refine z_sub [2, 3, 1, 0] rfl ?_
  exact R29 x20 r21 m22 H
def wX12_readChild_L29 (t : zT) (a_0 : Nat) (y_1 : Int64) (Q : zM → Prop) (k85 : Int32 → zM → Prop) : Nat → Int32 → Int32 → zM → Prop
  | 0, _, _, _ => False
  | n + 1, x_3, x_4, m => ((x_4 = 0 → (k85 x_3 m)) ∧ (¬ x_4 = 0 → (tK t a_0 = 12 ∧ (((gI m a_0 9) = 5 → (k85 x_3 m)) ∧ (¬ (gI m a_0 9) = 5 → (wX12_known t m a_0 1 (fun r12 m13 => (wX12_has t m13 x_3 r12 (fun r14 m15 => ((r14 = 0 → (wX12_readChild_J63 t m15 a_0 y_1 x_3 r12 Q (wX12_readChild_L29 t a_0 y_1 Q k85 n))) ∧ (¬ r14 = 0 → (wX12_flaw t m15 a_0 3 (fun m24 => (wX12_readChild_J63 t m24 a_0 y_1 x_3 r12 Q (wX12_readChild_L29 t a_0 y_1 Q k85 n)))))))))))))))
set_option maxHeartbeats 4000000 in
set_option maxRecDepth 20000 in
theorem sX12_readChild_L29 {p : Program} {l : Launch} {e : Env} {s : State} {mt : MethodId} {args : Array Value} {below : List Frame} {meth : Method} {c : Code} {g : zG} {u : Nat × Nat} {mc ms : Nat} {t : zT} {a_0 : Nat} {y_1 : Int64} {Q : zM → Prop} {k85 : Int32 → zM → Prop} (C : zC p (zRm 10 mc ms) s mt args meth c g cX12_readChild 6 yX12_readChild.cls 10) (hr : meth.sig.returnType = none) (hm : meth.name = yX12_readChild.name) (hu1 : u.1 ≤ mc) (hu2 : u.2 ≤ ms)
    (K85 : ∀ (v0 : Int32) (m : zM), k85 v0 m → zW p l e (zRm 10 mc ms) s mt args below meth c g (MQ below (zQc g (zPv t Q)) args s mc ms (zFar g)) u 6 t m 85 [(0, .ref a_0), (1, .long y_1), (3, .int v0)] []) : ∀ (n : Nat) (x_3 : Int32) (x_4 : Int32) (m : zM), wX12_readChild_L29 t a_0 y_1 Q k85 n x_3 x_4 m → zW p l e (zRm 10 mc ms) s mt args below meth c g (MQ below (zQc g (zPv t Q)) args s mc ms (zFar g)) u 6 t m 29 [(0, .ref a_0), (1, .long y_1), (3, .int x_3), (4, .int x_4)] [] := by
  intro n
  induction n with
  | zero => intro x_3 x_4 m H; exact H.elim
  | succ n ih =>
    intro x_3 x_4 m H
    simp only [wX12_readChild_L29] at H
    refine z_iload (pc := 29) C (dX12_readChild 16 rfl) 3 rfl ?_
    refine z_if_eq (pc := 31) (tgt := 85) C (dX12_readChild 17 rfl) (by decide) (fun c9 => ?_) (fun c9 => ?_)
    · replace H := H.1 c9
      refine z_sub [0, 1, 2] rfl ?_
      exact K85 x_3 m H
    · replace H := H.2 c9
      refine z_aload_n (pc := 34) C (dX12_readChild 18 rfl) rfl 0 rfl ?_
      obtain ⟨h10, H⟩ := H
      refine z_getI (pc := 35) C zc12 h10 9 (by decide) rfl wf_X12_69 (dX12_readChild 19 rfl) ?_
      refine z_iconst (pc := 38) (v := 5) C (dX12_readChild 20 rfl) (by decide) ?_
      refine z_icmp_eq (pc := 39) (tgt := 85) C (dX12_readChild 21 rfl) (by decide) (fun c11 => ?_) (fun c11 => ?_)
      · replace H := H.1 c11
        refine z_sub [0, 1, 2] rfl ?_
        exact K85 x_3 m H
      · replace H := H.2 c11
        refine z_aload_n (pc := 42) C (dX12_readChild 22 rfl) rfl 0 rfl ?_
        refine z_iconst (pc := 43) (v := 1) C (dX12_readChild 23 rfl) (by decide) ?_
        refine zc_Vi (pc := 44) (rest := []) C YX12_known wl_X12_168 (kX12_known H) (by decide) h10 rfl (by decide) (dX12_readChild 24 rfl) rfl hu1 hu2 (Nat.le_of_ble_eq_true rfl) rfl (fun r12 m13 H => ?_)
        refine z_istore (pc := 47) (i := 5) (lv2 := [(5, .int r12), (0, .ref a_0), (1, .long y_1), (3, .int x_3), (4, .int x_4)]) C (dX12_readChild 25 rfl) (by decide) rfl ?_
        refine z_iload_n (pc := 49) C (dX12_readChild 26 rfl) rfl 3 rfl ?_
        refine z_iload (pc := 50) C (dX12_readChild 27 rfl) 0 rfl ?_
        refine zc_Si (pc := 52) (rest := []) C YX12_has wl_X12_294 (kX12_has H) (by decide) (dX12_readChild 28 rfl) rfl hu1 hu2 (Nat.le_of_ble_eq_true rfl) rfl (fun r14 m15 H => ?_)
        refine z_if_eq (pc := 55) (tgt := 63) C (dX12_readChild 29 rfl) (by decide) (fun c16 => ?_) (fun c16 => ?_)
        · replace H := H.1 c16
          refine z_sub [1, 2, 3, 0] rfl ?_
          exact sX12_readChild_J63 C hr hm hu1 hu2 ih H
        · replace H := H.2 c16
          refine z_aload_n (pc := 58) C (dX12_readChild 30 rfl) rfl 1 rfl ?_
          refine z_iconst (pc := 59) (v := 3) C (dX12_readChild 31 rfl) (by decide) ?_
          refine zc_Vv (pc := 60) (rest := []) C YX12_flaw wl_X12_115 (kX12_flaw H) (by decide) h10 rfl (by decide) (dX12_readChild 32 rfl) rfl hu1 hu2 (Nat.le_of_ble_eq_true rfl) rfl (fun m24 H => ?_)
          refine z_sub [1, 2, 3, 0] rfl ?_
          exact sX12_readChild_J63 C hr hm hu1 hu2 ih H
def wX12_readChild_J85 (t : zT) (m : zM) (a_0 : Nat) (y_1 : Int64) (x_3 : Int32) (Q : zM → Prop) : Prop := (tK t a_0 = 12 ∧ (((gI m a_0 9) = 5 → (Q m)) ∧ (¬ (gI m a_0 9) = 5 → (tK t (gR m a_0 4) = 11 ∧ (wX12_names t m a_0 y_1 2 (gI m (gR m a_0 4) 4) (fun m31 => (tK t (gR m31 a_0 4) = 11 ∧ (tK t (gR m31 (gR m31 a_0 4) 13) = 14 ∧ (vp_in (gI m31 (gR m31 a_0 4) 4) (tL t (gR m31 (gR m31 a_0 4) 13)) ∧ (Q (pI (pI m31 (gR m31 (gR m31 a_0 4) 13) ((gI m31 (gR m31 a_0 4) 4).toNatClampNeg) x_3) (gR m31 a_0 4) 4 ((gI (pI m31 (gR m31 (gR m31 a_0 4) 13) ((gI m31 (gR m31 a_0 4) 4).toNatClampNeg) x_3) (gR m31 a_0 4) 4) + (1 : Int32)))))))))))))
set_option maxHeartbeats 4000000 in
set_option maxRecDepth 20000 in
theorem sX12_readChild_J85 {p : Program} {l : Launch} {e : Env} {s : State} {mt : MethodId} {args : Array Value} {below : List Frame} {meth : Method} {c : Code} {g : zG} {u : Nat × Nat} {mc ms : Nat} {t : zT} {m : zM} {a_0 : Nat} {y_1 : Int64} {x_3 : Int32} {Q : zM → Prop} (C : zC p (zRm 10 mc ms) s mt args meth c g cX12_readChild 6 yX12_readChild.cls 10) (hr : meth.sig.returnType = none) (hm : meth.name = yX12_readChild.name) (hu1 : u.1 ≤ mc) (hu2 : u.2 ≤ ms) (H : wX12_readChild_J85 t m a_0 y_1 x_3 Q) : zW p l e (zRm 10 mc ms) s mt args below meth c g (MQ below (zQc g (zPv t Q)) args s mc ms (zFar g)) u 6 t m 85 [(0, .ref a_0), (1, .long y_1), (3, .int x_3)] [] := by
  unfold wX12_readChild_J85 at H
  refine z_aload_n (pc := 85) C (dX12_readChild 46 rfl) rfl 0 rfl ?_
  obtain ⟨h27, H⟩ := H
  refine z_getI (pc := 86) C zc12 h27 9 (by decide) rfl wf_X12_69 (dX12_readChild 47 rfl) ?_
  refine z_iconst (pc := 89) (v := 5) C (dX12_readChild 48 rfl) (by decide) ?_
  refine z_icmp_ne (pc := 90) (tgt := 94) C (dX12_readChild 49 rfl) (by decide) (fun c28 => ?_) (fun c28 => ?_)
  · replace H := H.2 c28
    refine z_aload_n (pc := 94) C (dX12_readChild 51 rfl) rfl 0 rfl ?_
    refine z_lload_n (pc := 95) C (dX12_readChild 52 rfl) rfl 1 rfl ?_
    refine z_iconst (pc := 96) (v := 2) C (dX12_readChild 53 rfl) (by decide) ?_
    refine z_aload_n (pc := 97) C (dX12_readChild 54 rfl) rfl 0 rfl ?_
    refine z_getR (pc := 98) C zc12 h27 4 (by decide) rfl wf_X12_145 (dX12_readChild 55 rfl) ?_
    obtain ⟨h29, H⟩ := H
    refine z_getIN (pc := 101) C zc11 h29 4 (by decide) rfl wn_X12_289 (dX12_readChild 56 rfl) ?_
    refine zc_Vv (pc := 104) (rest := []) C YX12_names wl_X12_220 (kX12_names H) (by decide) h27 rfl (by decide) (dX12_readChild 57 rfl) rfl hu1 hu2 (Nat.le_of_ble_eq_true rfl) rfl (fun m31 H => ?_)
    refine z_aload_n (pc := 107) C (dX12_readChild 58 rfl) rfl 0 rfl ?_
    refine z_getR (pc := 108) C zc12 h27 4 (by decide) rfl wf_X12_145 (dX12_readChild 59 rfl) ?_
    obtain ⟨h32, H⟩ := H
    refine z_getRN (pc := 111) C zc11 h32 13 (by decide) rfl wn_X12_298 (dX12_readChild 60 rfl) ?_
    refine z_aload_n (pc := 114) C (dX12_readChild 61 rfl) rfl 0 rfl ?_
    refine z_getR (pc := 115) C zc12 h27 4 (by decide) rfl wf_X12_145 (dX12_readChild 62 rfl) ?_
    refine z_getIN (pc := 118) C zc11 h32 4 (by decide) rfl wn_X12_289 (dX12_readChild 63 rfl) ?_
    refine z_iload_n (pc := 121) C (dX12_readChild 64 rfl) rfl 2 rfl ?_
    obtain ⟨h33, H⟩ := H
    obtain ⟨h34, H⟩ := H
    refine z_iastore (pc := 122) C h33 h34 (dX12_readChild 65 rfl) ?_
    refine z_aload_n (pc := 123) C (dX12_readChild 66 rfl) rfl 0 rfl ?_
    refine z_getR (pc := 124) C zc12 h27 4 (by decide) rfl wf_X12_145 (dX12_readChild 67 rfl) ?_
    refine z_dup (pc := 127) C (dX12_readChild 68 rfl) rfl ?_
    refine z_getIN (pc := 128) C zc11 h32 4 (by decide) rfl wn_X12_289 (dX12_readChild 69 rfl) ?_
    refine z_iconst (pc := 131) (v := 1) C (dX12_readChild 70 rfl) (by decide) ?_
    refine z_iadd (pc := 132) C (dX12_readChild 71 rfl) ?_
    refine z_putIN (pc := 133) C zc11 h32 4 (by decide) rfl rfl wn_X12_289 (dX12_readChild 72 rfl) ?_
    exact z_vret (pc := 136) C hr hu1 hu2 (dX12_readChild 73 rfl) ⟨rfl, rfl, H⟩
  · replace H := H.1 c28
    exact z_vret (pc := 93) C hr hu1 hu2 (dX12_readChild 50 rfl) ⟨rfl, rfl, H⟩
def wX12_readChild (t : zT) (m : zM) (a : Nat) (Q : zM → Prop) : Prop := (tK t a = 12 ∧ (tK t (gR m a 4) = 11 ∧ (wX12_begins t m a (gI m (gR m a 4) 4) 5 (fun m4 => (wX12_readFresh t m4 a (fun r5 m6 => (wX12_needs t m6 a 16 (fun m8 => (∃ n35, wX12_readChild_L29 t a r5 Q (fun v25 m26 => (wX12_readChild_J85 t m26 a r5 v25 Q)) n35 0 1 m8)))))))))
set_option maxHeartbeats 4000000 in
set_option maxRecDepth 20000 in
theorem kX12_readChild {l : Launch} {t : zT} {m : zM} {a : Nat} {Q : zM → Prop} (H : wX12_readChild t m a Q) : zMet l yX12_readChild cX12_readChild 6 none 10 0 0 t m [.ref a] (zPv t Q) := by
  refine zmet (by decide +kernel) (Nat.le_of_ble_eq_true rfl) ?_
  intro p e s mt args below meth c g C hr hm
  unfold wX12_readChild at H
  have hu1 : ((0, 0) : Nat × Nat).1 ≤ 0 := Nat.le_refl 0
  have hu2 : ((0, 0) : Nat × Nat).2 ≤ 0 := Nat.le_refl 0
  refine z_aload_n (pc := 0) C (dX12_readChild 0 rfl) rfl 0 rfl ?_
  refine z_aload_n (pc := 1) C (dX12_readChild 1 rfl) rfl 0 rfl ?_
  obtain ⟨h1, H⟩ := H
  refine z_getR (pc := 2) C zc12 h1 4 (by decide) rfl wf_X12_145 (dX12_readChild 2 rfl) ?_
  obtain ⟨h2, H⟩ := H
  refine z_getIN (pc := 5) C zc11 h2 4 (by decide) rfl wn_X12_289 (dX12_readChild 3 rfl) ?_
  refine z_iconst (pc := 8) (v := 5) C (dX12_readChild 4 rfl) (by decide) ?_
  refine zc_Vv (pc := 9) (rest := []) C YX12_begins wl_X12_204 (kX12_begins H) (by decide) h1 rfl (by decide) (dX12_readChild 5 rfl) rfl hu1 hu2 (Nat.le_of_ble_eq_true rfl) rfl (fun m4 H => ?_)
  refine z_aload_n (pc := 12) C (dX12_readChild 6 rfl) rfl 0 rfl ?_
  refine zc_Vl (pc := 13) (rest := []) C YX12_readFresh wl_X12_208 (kX12_readFresh H) (by decide) h1 rfl (by decide) (dX12_readChild 7 rfl) rfl hu1 hu2 (Nat.le_of_ble_eq_true rfl) rfl (fun r5 m6 H => ?_)
  refine z_lstore_n (pc := 16) (i := 1) (lv2 := [(1, .long r5), (0, .ref a)]) C (dX12_readChild 8 rfl) rfl (by decide) rfl ?_
  refine z_aload_n (pc := 17) C (dX12_readChild 9 rfl) rfl 1 rfl ?_
  refine z_ldcSw (pc := 18) (k := 16) C (by decide) rfl rfl (dX12_readChild 10 rfl) ?_
  refine zc_Vv (pc := 21) (rest := []) C YX12_needs wl_X12_213 (kX12_needs H) (by decide) h1 rfl (by decide) (dX12_readChild 11 rfl) rfl hu1 hu2 (Nat.le_of_ble_eq_true rfl) rfl (fun m8 H => ?_)
  refine z_iconst (pc := 24) (v := 0) C (dX12_readChild 12 rfl) (by decide) ?_
  refine z_istore_n (pc := 25) (i := 3) (lv2 := [(3, .int 0), (1, .long r5), (0, .ref a)]) C (dX12_readChild 13 rfl) rfl (by decide) rfl ?_
  refine z_iconst (pc := 26) (v := 1) C (dX12_readChild 14 rfl) (by decide) ?_
  refine z_istore (pc := 27) (i := 4) (lv2 := [(4, .int 1), (3, .int 0), (1, .long r5), (0, .ref a)]) C (dX12_readChild 15 rfl) (by decide) rfl ?_
  obtain ⟨n35, H⟩ := H
  refine z_sub [3, 2, 1, 0] rfl ?_
  refine sX12_readChild_L29 C hr hm hu1 hu2 (fun v25 m26 H => ?_) n35 0 1 m8 H
  refine z_sub [0, 1, 2] rfl ?_
  exact sX12_readChild_J85 C hr hm hu1 hu2 H
def wX12_readTrial_J35 (t : zT) (m : zM) (a_0 : Nat) (x_1 : Int32) (Q : zM → Prop) : Prop := (tK t a_0 = 12 ∧ (wX12_goesOn t m a_0 (fun m9 => (wX12_needs t m9 a_0 17 (fun m11 => (wX12_readWhole t m11 a_0 1 99 (fun r12 m13 => (((gI m13 a_0 9) = 5 → (Q m13)) ∧ (¬ (gI m13 a_0 9) = 5 → (tK t (gR m13 a_0 4) = 11 ∧ (tK t (gR m13 (gR m13 a_0 4) 11) = 14 ∧ (vp_in x_1 (tL t (gR m13 (gR m13 a_0 4) 11)) ∧ (Q (pI (pI m13 (gR m13 (gR m13 a_0 4) 11) x_1.toNatClampNeg r12) (gR m13 a_0 4) 5 ((gI (pI m13 (gR m13 (gR m13 a_0 4) 11) x_1.toNatClampNeg r12) (gR m13 a_0 4) 5) + (1 : Int32))))))))))))))))
set_option maxHeartbeats 4000000 in
set_option maxRecDepth 20000 in
theorem sX12_readTrial_J35 {p : Program} {l : Launch} {e : Env} {s : State} {mt : MethodId} {args : Array Value} {below : List Frame} {meth : Method} {c : Code} {g : zG} {u : Nat × Nat} {mc ms : Nat} {t : zT} {m : zM} {a_0 : Nat} {x_1 : Int32} {Q : zM → Prop} (C : zC p (zRm 10 mc ms) s mt args meth c g cX12_readTrial 3 yX12_readTrial.cls 10) (hr : meth.sig.returnType = none) (hm : meth.name = yX12_readTrial.name) (hu1 : u.1 ≤ mc) (hu2 : u.2 ≤ ms) (H : wX12_readTrial_J35 t m a_0 x_1 Q) : zW p l e (zRm 10 mc ms) s mt args below meth c g (MQ below (zQc g (zPv t Q)) args s mc ms (zFar g)) u 3 t m 35 [(0, .ref a_0), (1, .int x_1)] [] := by
  unfold wX12_readTrial_J35 at H
  refine z_aload_n (pc := 35) C (dX12_readTrial 19 rfl) rfl 0 rfl ?_
  obtain ⟨h7, H⟩ := H
  refine zc_Vv (pc := 36) (rest := []) C YX12_goesOn wl_X12_112 (kX12_goesOn H) (by decide) h7 rfl (by decide) (dX12_readTrial 20 rfl) rfl hu1 hu2 (Nat.le_of_ble_eq_true rfl) rfl (fun m9 H => ?_)
  refine z_aload_n (pc := 39) C (dX12_readTrial 21 rfl) rfl 0 rfl ?_
  refine z_ldcSw (pc := 40) (k := 17) C (by decide) rfl rfl (dX12_readTrial 22 rfl) ?_
  refine zc_Vv (pc := 43) (rest := []) C YX12_needs wl_X12_213 (kX12_needs H) (by decide) h7 rfl (by decide) (dX12_readTrial 23 rfl) rfl hu1 hu2 (Nat.le_of_ble_eq_true rfl) rfl (fun m11 H => ?_)
  refine z_aload_n (pc := 46) C (dX12_readTrial 24 rfl) rfl 0 rfl ?_
  refine z_iconst (pc := 47) (v := 1) C (dX12_readTrial 25 rfl) (by decide) ?_
  refine z_bipush (pc := 48) (v := 99) C (dX12_readTrial 26 rfl) (by decide) ?_
  refine zc_Vi (pc := 50) (rest := []) C YX12_readWhole wl_X12_272 (kX12_readWhole H) (by decide) h7 rfl (by decide) (dX12_readTrial 27 rfl) rfl hu1 hu2 (Nat.le_of_ble_eq_true rfl) rfl (fun r12 m13 H => ?_)
  refine z_istore_n (pc := 53) (i := 2) (lv2 := [(2, .int r12), (0, .ref a_0), (1, .int x_1)]) C (dX12_readTrial 28 rfl) rfl (by decide) rfl ?_
  refine z_aload_n (pc := 54) C (dX12_readTrial 29 rfl) rfl 1 rfl ?_
  refine z_getI (pc := 55) C zc12 h7 9 (by decide) rfl wf_X12_69 (dX12_readTrial 30 rfl) ?_
  refine z_iconst (pc := 58) (v := 5) C (dX12_readTrial 31 rfl) (by decide) ?_
  refine z_icmp_ne (pc := 59) (tgt := 63) C (dX12_readTrial 32 rfl) (by decide) (fun c14 => ?_) (fun c14 => ?_)
  · replace H := H.2 c14
    refine z_aload_n (pc := 63) C (dX12_readTrial 34 rfl) rfl 1 rfl ?_
    refine z_getR (pc := 64) C zc12 h7 4 (by decide) rfl wf_X12_145 (dX12_readTrial 35 rfl) ?_
    obtain ⟨h15, H⟩ := H
    refine z_getRN (pc := 67) C zc11 h15 11 (by decide) rfl wn_X12_300 (dX12_readTrial 36 rfl) ?_
    refine z_iload_n (pc := 70) C (dX12_readTrial 37 rfl) rfl 2 rfl ?_
    refine z_iload_n (pc := 71) C (dX12_readTrial 38 rfl) rfl 0 rfl ?_
    obtain ⟨h16, H⟩ := H
    obtain ⟨h17, H⟩ := H
    refine z_iastore (pc := 72) C h16 h17 (dX12_readTrial 39 rfl) ?_
    refine z_aload_n (pc := 73) C (dX12_readTrial 40 rfl) rfl 1 rfl ?_
    refine z_getR (pc := 74) C zc12 h7 4 (by decide) rfl wf_X12_145 (dX12_readTrial 41 rfl) ?_
    refine z_dup (pc := 77) C (dX12_readTrial 42 rfl) rfl ?_
    refine z_getIN (pc := 78) C zc11 h15 5 (by decide) rfl wn_X12_304 (dX12_readTrial 43 rfl) ?_
    refine z_iconst (pc := 81) (v := 1) C (dX12_readTrial 44 rfl) (by decide) ?_
    refine z_iadd (pc := 82) C (dX12_readTrial 45 rfl) ?_
    refine z_putIN (pc := 83) C zc11 h15 5 (by decide) rfl rfl wn_X12_304 (dX12_readTrial 46 rfl) ?_
    exact z_vret (pc := 86) C hr hu1 hu2 (dX12_readTrial 47 rfl) ⟨rfl, rfl, H⟩
  · replace H := H.1 c14
    exact z_vret (pc := 62) C hr hu1 hu2 (dX12_readTrial 33 rfl) ⟨rfl, rfl, H⟩
def wX12_readTrial (t : zT) (m : zM) (a : Nat) (Q : zM → Prop) : Prop := (tK t a = 12 ∧ (wX12_goesOn t m a (fun m3 => (wX12_known t m3 a 0 (fun r4 m5 => (((gI m5 a 9) = 5 → (wX12_readTrial_J35 t m5 a r4 Q)) ∧ (¬ (gI m5 a 9) = 5 → (tK t (gR m5 a 4) = 11 ∧ (tK t (gR m5 (gR m5 a 4) 11) = 14 ∧ (vp_in r4 (tL t (gR m5 (gR m5 a 4) 11)) ∧ (((gI m5 (gR m5 (gR m5 a 4) 11) r4.toNatClampNeg) ≤ 0 → (wX12_readTrial_J35 t m5 a r4 Q)) ∧ (¬ (gI m5 (gR m5 (gR m5 a 4) 11) r4.toNatClampNeg) ≤ 0 → (wX12_flaw t m5 a 3 (fun m23 => (wX12_readTrial_J35 t m23 a r4 Q)))))))))))))))
set_option maxHeartbeats 4000000 in
set_option maxRecDepth 20000 in
theorem kX12_readTrial {l : Launch} {t : zT} {m : zM} {a : Nat} {Q : zM → Prop} (H : wX12_readTrial t m a Q) : zMet l yX12_readTrial cX12_readTrial 3 none 10 0 0 t m [.ref a] (zPv t Q) := by
  refine zmet (by decide +kernel) (Nat.le_of_ble_eq_true rfl) ?_
  intro p e s mt args below meth c g C hr hm
  unfold wX12_readTrial at H
  have hu1 : ((0, 0) : Nat × Nat).1 ≤ 0 := Nat.le_refl 0
  have hu2 : ((0, 0) : Nat × Nat).2 ≤ 0 := Nat.le_refl 0
  refine z_aload_n (pc := 0) C (dX12_readTrial 0 rfl) rfl 0 rfl ?_
  obtain ⟨h1, H⟩ := H
  refine zc_Vv (pc := 1) (rest := []) C YX12_goesOn wl_X12_112 (kX12_goesOn H) (by decide) h1 rfl (by decide) (dX12_readTrial 1 rfl) rfl hu1 hu2 (Nat.le_of_ble_eq_true rfl) rfl (fun m3 H => ?_)
  refine z_aload_n (pc := 4) C (dX12_readTrial 2 rfl) rfl 0 rfl ?_
  refine z_iconst (pc := 5) (v := 0) C (dX12_readTrial 3 rfl) (by decide) ?_
  refine zc_Vi (pc := 6) (rest := []) C YX12_known wl_X12_168 (kX12_known H) (by decide) h1 rfl (by decide) (dX12_readTrial 4 rfl) rfl hu1 hu2 (Nat.le_of_ble_eq_true rfl) rfl (fun r4 m5 H => ?_)
  refine z_istore_n (pc := 9) (i := 1) (lv2 := [(1, .int r4), (0, .ref a)]) C (dX12_readTrial 5 rfl) rfl (by decide) rfl ?_
  refine z_aload_n (pc := 10) C (dX12_readTrial 6 rfl) rfl 1 rfl ?_
  refine z_getI (pc := 11) C zc12 h1 9 (by decide) rfl wf_X12_69 (dX12_readTrial 7 rfl) ?_
  refine z_iconst (pc := 14) (v := 5) C (dX12_readTrial 8 rfl) (by decide) ?_
  refine z_icmp_eq (pc := 15) (tgt := 35) C (dX12_readTrial 9 rfl) (by decide) (fun c6 => ?_) (fun c6 => ?_)
  · replace H := H.1 c6
    refine z_sub [1, 0] rfl ?_
    exact sX12_readTrial_J35 C hr hm hu1 hu2 H
  · replace H := H.2 c6
    refine z_aload_n (pc := 18) C (dX12_readTrial 10 rfl) rfl 1 rfl ?_
    refine z_getR (pc := 19) C zc12 h1 4 (by decide) rfl wf_X12_145 (dX12_readTrial 11 rfl) ?_
    obtain ⟨h18, H⟩ := H
    refine z_getRN (pc := 22) C zc11 h18 11 (by decide) rfl wn_X12_300 (dX12_readTrial 12 rfl) ?_
    refine z_iload_n (pc := 25) C (dX12_readTrial 13 rfl) rfl 0 rfl ?_
    obtain ⟨h19, H⟩ := H
    obtain ⟨h20, H⟩ := H
    refine z_iaload (pc := 26) C h19 h20 (dX12_readTrial 14 rfl) ?_
    refine z_if_le (pc := 27) (tgt := 35) C (dX12_readTrial 15 rfl) (by decide) (fun c21 => ?_) (fun c21 => ?_)
    · replace H := H.1 c21
      refine z_sub [1, 0] rfl ?_
      exact sX12_readTrial_J35 C hr hm hu1 hu2 H
    · replace H := H.2 c21
      refine z_aload_n (pc := 30) C (dX12_readTrial 16 rfl) rfl 1 rfl ?_
      refine z_iconst (pc := 31) (v := 3) C (dX12_readTrial 17 rfl) (by decide) ?_
      refine zc_Vv (pc := 32) (rest := []) C YX12_flaw wl_X12_115 (kX12_flaw H) (by decide) h1 rfl (by decide) (dX12_readTrial 18 rfl) rfl hu1 hu2 (Nat.le_of_ble_eq_true rfl) rfl (fun m23 H => ?_)
      refine z_sub [1, 0] rfl ?_
      exact sX12_readTrial_J35 C hr hm hu1 hu2 H
def wX12_readLine (t : zT) (m : zM) (a : Nat) (Q : zM → Prop) : Prop := (tK t a = 12 ∧ (wX12_isWord t m a 1 (fun r2 m3 => ((r2 = 0 → (wX12_isWord t m3 a 2 (fun r5 m6 => ((r5 = 0 → (wX12_isWord t m6 a 3 (fun r8 m9 => ((r8 = 0 → (wX12_isWord t m9 a 4 (fun r11 m12 => ((r11 = 0 → (wX12_isWord t m12 a 5 (fun r14 m15 => ((r14 = 0 → (wX12_isWord t m15 a 6 (fun r17 m18 => ((r17 = 0 → (wX12_isWord t m18 a 7 (fun r20 m21 => ((r20 = 0 → (wX12_flaw t m21 a 1 (fun m24 => (Q m24)))) ∧ (¬ r20 = 0 → (wX12_readTrial t m21 a (fun m26 => (Q m26)))))))) ∧ (¬ r17 = 0 → (wX12_readChild t m18 a (fun m28 => (Q m28)))))))) ∧ (¬ r14 = 0 → (wX12_readSays t m15 a (fun m30 => (Q m30)))))))) ∧ (¬ r11 = 0 → (wX12_readLaw t m12 a (fun m32 => (Q m32)))))))) ∧ (¬ r8 = 0 → (wX12_readMaster t m9 a (fun m34 => (Q m34)))))))) ∧ (¬ r5 = 0 → (wX12_readFollows t m6 a (fun m36 => (Q m36)))))))) ∧ (¬ r2 = 0 → (wX12_readThing t m3 a (fun m38 => (Q m38))))))))
set_option maxHeartbeats 4000000 in
set_option maxRecDepth 20000 in
theorem kX12_readLine {l : Launch} {t : zT} {m : zM} {a : Nat} {Q : zM → Prop} (H : wX12_readLine t m a Q) : zMet l yX12_readLine cX12_readLine 1 none 12 0 0 t m [.ref a] (zPv t Q) := by
  refine zmet (by decide +kernel) (Nat.le_of_ble_eq_true rfl) ?_
  intro p e s mt args below meth c g C hr hm
  unfold wX12_readLine at H
  have hu1 : ((0, 0) : Nat × Nat).1 ≤ 0 := Nat.le_refl 0
  have hu2 : ((0, 0) : Nat × Nat).2 ≤ 0 := Nat.le_refl 0
  refine z_aload_n (pc := 0) C (dX12_readLine 0 rfl) rfl 0 rfl ?_
  refine z_ldcS (pc := 1) (k := 1) C (by decide) rfl rfl (dX12_readLine 1 rfl) ?_
  obtain ⟨h1, H⟩ := H
  refine zc_Vi (pc := 3) (rest := []) C YX12_isWord wl_X12_108 (kX12_isWord H) (by decide) h1 rfl (by decide) (dX12_readLine 2 rfl) rfl hu1 hu2 (Nat.le_of_ble_eq_true rfl) rfl (fun r2 m3 H => ?_)
  refine z_if_eq (pc := 6) (tgt := 16) C (dX12_readLine 3 rfl) (by decide) (fun c4 => ?_) (fun c4 => ?_)
  · replace H := H.1 c4
    refine z_aload_n (pc := 16) C (dX12_readLine 7 rfl) rfl 0 rfl ?_
    refine z_ldcS (pc := 17) (k := 2) C (by decide) rfl rfl (dX12_readLine 8 rfl) ?_
    refine zc_Vi (pc := 19) (rest := []) C YX12_isWord wl_X12_108 (kX12_isWord H) (by decide) h1 rfl (by decide) (dX12_readLine 9 rfl) rfl hu1 hu2 (Nat.le_of_ble_eq_true rfl) rfl (fun r5 m6 H => ?_)
    refine z_if_eq (pc := 22) (tgt := 32) C (dX12_readLine 10 rfl) (by decide) (fun c7 => ?_) (fun c7 => ?_)
    · replace H := H.1 c7
      refine z_aload_n (pc := 32) C (dX12_readLine 14 rfl) rfl 0 rfl ?_
      refine z_ldcS (pc := 33) (k := 3) C (by decide) rfl rfl (dX12_readLine 15 rfl) ?_
      refine zc_Vi (pc := 35) (rest := []) C YX12_isWord wl_X12_108 (kX12_isWord H) (by decide) h1 rfl (by decide) (dX12_readLine 16 rfl) rfl hu1 hu2 (Nat.le_of_ble_eq_true rfl) rfl (fun r8 m9 H => ?_)
      refine z_if_eq (pc := 38) (tgt := 48) C (dX12_readLine 17 rfl) (by decide) (fun c10 => ?_) (fun c10 => ?_)
      · replace H := H.1 c10
        refine z_aload_n (pc := 48) C (dX12_readLine 21 rfl) rfl 0 rfl ?_
        refine z_ldcS (pc := 49) (k := 4) C (by decide) rfl rfl (dX12_readLine 22 rfl) ?_
        refine zc_Vi (pc := 51) (rest := []) C YX12_isWord wl_X12_108 (kX12_isWord H) (by decide) h1 rfl (by decide) (dX12_readLine 23 rfl) rfl hu1 hu2 (Nat.le_of_ble_eq_true rfl) rfl (fun r11 m12 H => ?_)
        refine z_if_eq (pc := 54) (tgt := 64) C (dX12_readLine 24 rfl) (by decide) (fun c13 => ?_) (fun c13 => ?_)
        · replace H := H.1 c13
          refine z_aload_n (pc := 64) C (dX12_readLine 28 rfl) rfl 0 rfl ?_
          refine z_ldcS (pc := 65) (k := 5) C (by decide) rfl rfl (dX12_readLine 29 rfl) ?_
          refine zc_Vi (pc := 67) (rest := []) C YX12_isWord wl_X12_108 (kX12_isWord H) (by decide) h1 rfl (by decide) (dX12_readLine 30 rfl) rfl hu1 hu2 (Nat.le_of_ble_eq_true rfl) rfl (fun r14 m15 H => ?_)
          refine z_if_eq (pc := 70) (tgt := 80) C (dX12_readLine 31 rfl) (by decide) (fun c16 => ?_) (fun c16 => ?_)
          · replace H := H.1 c16
            refine z_aload_n (pc := 80) C (dX12_readLine 35 rfl) rfl 0 rfl ?_
            refine z_ldcS (pc := 81) (k := 6) C (by decide) rfl rfl (dX12_readLine 36 rfl) ?_
            refine zc_Vi (pc := 83) (rest := []) C YX12_isWord wl_X12_108 (kX12_isWord H) (by decide) h1 rfl (by decide) (dX12_readLine 37 rfl) rfl hu1 hu2 (Nat.le_of_ble_eq_true rfl) rfl (fun r17 m18 H => ?_)
            refine z_if_eq (pc := 86) (tgt := 96) C (dX12_readLine 38 rfl) (by decide) (fun c19 => ?_) (fun c19 => ?_)
            · replace H := H.1 c19
              refine z_aload_n (pc := 96) C (dX12_readLine 42 rfl) rfl 0 rfl ?_
              refine z_ldcS (pc := 97) (k := 7) C (by decide) rfl rfl (dX12_readLine 43 rfl) ?_
              refine zc_Vi (pc := 99) (rest := []) C YX12_isWord wl_X12_108 (kX12_isWord H) (by decide) h1 rfl (by decide) (dX12_readLine 44 rfl) rfl hu1 hu2 (Nat.le_of_ble_eq_true rfl) rfl (fun r20 m21 H => ?_)
              refine z_if_eq (pc := 102) (tgt := 112) C (dX12_readLine 45 rfl) (by decide) (fun c22 => ?_) (fun c22 => ?_)
              · replace H := H.1 c22
                refine z_aload_n (pc := 112) C (dX12_readLine 49 rfl) rfl 0 rfl ?_
                refine z_iconst (pc := 113) (v := 1) C (dX12_readLine 50 rfl) (by decide) ?_
                refine zc_Vv (pc := 114) (rest := []) C YX12_flaw wl_X12_115 (kX12_flaw H) (by decide) h1 rfl (by decide) (dX12_readLine 51 rfl) rfl hu1 hu2 (Nat.le_of_ble_eq_true rfl) rfl (fun m24 H => ?_)
                exact z_vret (pc := 117) C hr hu1 hu2 (dX12_readLine 52 rfl) ⟨rfl, rfl, H⟩
              · replace H := H.2 c22
                refine z_aload_n (pc := 105) C (dX12_readLine 46 rfl) rfl 0 rfl ?_
                refine zc_Vv (pc := 106) (rest := []) C YX12_readTrial wl_X12_201 (kX12_readTrial H) (by decide) h1 rfl (by decide) (dX12_readLine 47 rfl) rfl hu1 hu2 (Nat.le_of_ble_eq_true rfl) rfl (fun m26 H => ?_)
                refine z_goto (pc := 109) (tgt := 117) C (dX12_readLine 48 rfl) (by decide) ?_
                exact z_vret (pc := 117) C hr hu1 hu2 (dX12_readLine 52 rfl) ⟨rfl, rfl, H⟩
            · replace H := H.2 c19
              refine z_aload_n (pc := 89) C (dX12_readLine 39 rfl) rfl 0 rfl ?_
              refine zc_Vv (pc := 90) (rest := []) C YX12_readChild wl_X12_198 (kX12_readChild H) (by decide) h1 rfl (by decide) (dX12_readLine 40 rfl) rfl hu1 hu2 (Nat.le_of_ble_eq_true rfl) rfl (fun m28 H => ?_)
              refine z_goto (pc := 93) (tgt := 117) C (dX12_readLine 41 rfl) (by decide) ?_
              exact z_vret (pc := 117) C hr hu1 hu2 (dX12_readLine 52 rfl) ⟨rfl, rfl, H⟩
          · replace H := H.2 c16
            refine z_aload_n (pc := 73) C (dX12_readLine 32 rfl) rfl 0 rfl ?_
            refine zc_Vv (pc := 74) (rest := []) C YX12_readSays wl_X12_195 (kX12_readSays H) (by decide) h1 rfl (by decide) (dX12_readLine 33 rfl) rfl hu1 hu2 (Nat.le_of_ble_eq_true rfl) rfl (fun m30 H => ?_)
            refine z_goto (pc := 77) (tgt := 117) C (dX12_readLine 34 rfl) (by decide) ?_
            exact z_vret (pc := 117) C hr hu1 hu2 (dX12_readLine 52 rfl) ⟨rfl, rfl, H⟩
        · replace H := H.2 c13
          refine z_aload_n (pc := 57) C (dX12_readLine 25 rfl) rfl 0 rfl ?_
          refine zc_Vv (pc := 58) (rest := []) C YX12_readLaw wl_X12_192 (kX12_readLaw H) (by decide) h1 rfl (by decide) (dX12_readLine 26 rfl) rfl hu1 hu2 (Nat.le_of_ble_eq_true rfl) rfl (fun m32 H => ?_)
          refine z_goto (pc := 61) (tgt := 117) C (dX12_readLine 27 rfl) (by decide) ?_
          exact z_vret (pc := 117) C hr hu1 hu2 (dX12_readLine 52 rfl) ⟨rfl, rfl, H⟩
      · replace H := H.2 c10
        refine z_aload_n (pc := 41) C (dX12_readLine 18 rfl) rfl 0 rfl ?_
        refine zc_Vv (pc := 42) (rest := []) C YX12_readMaster wl_X12_189 (kX12_readMaster H) (by decide) h1 rfl (by decide) (dX12_readLine 19 rfl) rfl hu1 hu2 (Nat.le_of_ble_eq_true rfl) rfl (fun m34 H => ?_)
        refine z_goto (pc := 45) (tgt := 117) C (dX12_readLine 20 rfl) (by decide) ?_
        exact z_vret (pc := 117) C hr hu1 hu2 (dX12_readLine 52 rfl) ⟨rfl, rfl, H⟩
    · replace H := H.2 c7
      refine z_aload_n (pc := 25) C (dX12_readLine 11 rfl) rfl 0 rfl ?_
      refine zc_Vv (pc := 26) (rest := []) C YX12_readFollows wl_X12_186 (kX12_readFollows H) (by decide) h1 rfl (by decide) (dX12_readLine 12 rfl) rfl hu1 hu2 (Nat.le_of_ble_eq_true rfl) rfl (fun m36 H => ?_)
      refine z_goto (pc := 29) (tgt := 117) C (dX12_readLine 13 rfl) (by decide) ?_
      exact z_vret (pc := 117) C hr hu1 hu2 (dX12_readLine 52 rfl) ⟨rfl, rfl, H⟩
  · replace H := H.2 c4
    refine z_aload_n (pc := 9) C (dX12_readLine 4 rfl) rfl 0 rfl ?_
    refine zc_Vv (pc := 10) (rest := []) C YX12_readThing wl_X12_183 (kX12_readThing H) (by decide) h1 rfl (by decide) (dX12_readLine 5 rfl) rfl hu1 hu2 (Nat.le_of_ble_eq_true rfl) rfl (fun m38 H => ?_)
    refine z_goto (pc := 13) (tgt := 117) C (dX12_readLine 6 rfl) (by decide) ?_
    exact z_vret (pc := 117) C hr hu1 hu2 (dX12_readLine 52 rfl) ⟨rfl, rfl, H⟩
def wX12_readSchool_L2 (t : zT) (a_0 : Nat) (Q : zM → Prop) (k20 : zM → Prop) : Nat → Int32 → zM → Prop
  | 0, _, _ => False
  | n + 1, x_1, m => ((x_1 = 0 → (k20 m)) ∧ (¬ x_1 = 0 → (tK t a_0 = 12 ∧ (wX12_readLine t m a_0 (fun m4 => (wX12_eatsSign t m4 a_0 59 (fun r5 m6 => (wX12_readSchool_L2 t a_0 Q k20 n r5 m6))))))))
set_option maxHeartbeats 4000000 in
set_option maxRecDepth 20000 in
theorem sX12_readSchool_L2 {p : Program} {l : Launch} {e : Env} {s : State} {mt : MethodId} {args : Array Value} {below : List Frame} {meth : Method} {c : Code} {g : zG} {u : Nat × Nat} {mc ms : Nat} {t : zT} {a_0 : Nat} {Q : zM → Prop} {k20 : zM → Prop} (C : zC p (zRm 13 mc ms) s mt args meth c g cX12_readSchool 2 yX12_readSchool.cls 13) (hr : meth.sig.returnType = none) (hm : meth.name = yX12_readSchool.name) (hu1 : u.1 ≤ mc) (hu2 : u.2 ≤ ms)
    (K20 : ∀ (m : zM), k20 m → zW p l e (zRm 13 mc ms) s mt args below meth c g (MQ below (zQc g (zPv t Q)) args s mc ms (zFar g)) u 2 t m 20 [(0, .ref a_0)] []) : ∀ (n : Nat) (x_1 : Int32) (m : zM), wX12_readSchool_L2 t a_0 Q k20 n x_1 m → zW p l e (zRm 13 mc ms) s mt args below meth c g (MQ below (zQc g (zPv t Q)) args s mc ms (zFar g)) u 2 t m 2 [(0, .ref a_0), (1, .int x_1)] [] := by
  intro n
  induction n with
  | zero => intro x_1 m H; exact H.elim
  | succ n ih =>
    intro x_1 m H
    simp only [wX12_readSchool_L2] at H
    refine z_iload_n (pc := 2) C (dX12_readSchool 2 rfl) rfl 1 rfl ?_
    refine z_if_eq (pc := 3) (tgt := 20) C (dX12_readSchool 3 rfl) (by decide) (fun c1 => ?_) (fun c1 => ?_)
    · replace H := H.1 c1
      refine z_sub [0] rfl ?_
      exact K20 m H
    · replace H := H.2 c1
      refine z_aload_n (pc := 6) C (dX12_readSchool 4 rfl) rfl 0 rfl ?_
      obtain ⟨h2, H⟩ := H
      refine zc_Vv (pc := 7) (rest := []) C YX12_readLine wl_X12_174 (kX12_readLine H) (by decide) h2 rfl (by decide) (dX12_readSchool 5 rfl) rfl hu1 hu2 (Nat.le_of_ble_eq_true rfl) rfl (fun m4 H => ?_)
      refine z_aload_n (pc := 10) C (dX12_readSchool 6 rfl) rfl 0 rfl ?_
      refine z_bipush (pc := 11) (v := 59) C (dX12_readSchool 7 rfl) (by decide) ?_
      refine zc_Vi (pc := 13) (rest := []) C YX12_eatsSign wl_X12_177 (kX12_eatsSign H) (by decide) h2 rfl (by decide) (dX12_readSchool 8 rfl) rfl hu1 hu2 (Nat.le_of_ble_eq_true rfl) rfl (fun r5 m6 H => ?_)
      refine z_istore_n (pc := 16) (i := 1) (lv2 := [(1, .int r5), (0, .ref a_0)]) C (dX12_readSchool 9 rfl) rfl (by decide) rfl ?_
      refine z_goto (pc := 17) (tgt := 2) C (dX12_readSchool 10 rfl) (by decide) ?_
      refine z_sub [1, 0] rfl ?_
      exact ih r5 m6 H
def wX12_readSchool_J33 (t : zT) (m : zM) (a_0 : Nat) (Q : zM → Prop) : Prop := (tK t a_0 = 12 ∧ (tK t (gR m a_0 4) = 11 ∧ (((gI m (gR m a_0 4) 0) = 0 → (wX12_flaw t m a_0 6 (fun m14 => (Q m14)))) ∧ (¬ (gI m (gR m a_0 4) 0) = 0 → (Q m)))))
set_option maxHeartbeats 4000000 in
set_option maxRecDepth 20000 in
theorem sX12_readSchool_J33 {p : Program} {l : Launch} {e : Env} {s : State} {mt : MethodId} {args : Array Value} {below : List Frame} {meth : Method} {c : Code} {g : zG} {u : Nat × Nat} {mc ms : Nat} {t : zT} {m : zM} {a_0 : Nat} {Q : zM → Prop} (C : zC p (zRm 13 mc ms) s mt args meth c g cX12_readSchool 2 yX12_readSchool.cls 13) (hr : meth.sig.returnType = none) (hm : meth.name = yX12_readSchool.name) (hu1 : u.1 ≤ mc) (hu2 : u.2 ≤ ms) (H : wX12_readSchool_J33 t m a_0 Q) : zW p l e (zRm 13 mc ms) s mt args below meth c g (MQ below (zQc g (zPv t Q)) args s mc ms (zFar g)) u 2 t m 33 [(0, .ref a_0)] [] := by
  unfold wX12_readSchool_J33 at H
  refine z_aload_n (pc := 33) C (dX12_readSchool 18 rfl) rfl 0 rfl ?_
  obtain ⟨h10, H⟩ := H
  refine z_getR (pc := 34) C zc12 h10 4 (by decide) rfl wf_X12_145 (dX12_readSchool 19 rfl) ?_
  obtain ⟨h11, H⟩ := H
  refine z_getIN (pc := 37) C zc11 h11 0 (by decide) rfl wn_X12_180 (dX12_readSchool 20 rfl) ?_
  refine z_if_ne (pc := 40) (tgt := 49) C (dX12_readSchool 21 rfl) (by decide) (fun c12 => ?_) (fun c12 => ?_)
  · replace H := H.2 c12
    exact z_vret (pc := 49) C hr hu1 hu2 (dX12_readSchool 25 rfl) ⟨rfl, rfl, H⟩
  · replace H := H.1 c12
    refine z_aload_n (pc := 43) C (dX12_readSchool 22 rfl) rfl 0 rfl ?_
    refine z_bipush (pc := 44) (v := 6) C (dX12_readSchool 23 rfl) (by decide) ?_
    refine zc_Vv (pc := 46) (rest := []) C YX12_flaw wl_X12_115 (kX12_flaw H) (by decide) h10 rfl (by decide) (dX12_readSchool 24 rfl) rfl hu1 hu2 (Nat.le_of_ble_eq_true rfl) rfl (fun m14 H => ?_)
    exact z_vret (pc := 49) C hr hu1 hu2 (dX12_readSchool 25 rfl) ⟨rfl, rfl, H⟩
def wX12_readSchool (t : zT) (m : zM) (a : Nat) (Q : zM → Prop) : Prop := (∃ n17, wX12_readSchool_L2 t a Q (fun m7 => (tK t a = 12 ∧ (((gI m7 a 9) = 1 → (wX12_readSchool_J33 t m7 a Q)) ∧ (¬ (gI m7 a 9) = 1 → (wX12_flaw t m7 a 1 (fun m16 => (wX12_readSchool_J33 t m16 a Q))))))) n17 1 m)
set_option maxHeartbeats 4000000 in
set_option maxRecDepth 20000 in
theorem kX12_readSchool {l : Launch} {t : zT} {m : zM} {a : Nat} {Q : zM → Prop} (H : wX12_readSchool t m a Q) : zMet l yX12_readSchool cX12_readSchool 2 none 13 0 0 t m [.ref a] (zPv t Q) := by
  refine zmet (by decide +kernel) (Nat.le_of_ble_eq_true rfl) ?_
  intro p e s mt args below meth c g C hr hm
  unfold wX12_readSchool at H
  have hu1 : ((0, 0) : Nat × Nat).1 ≤ 0 := Nat.le_refl 0
  have hu2 : ((0, 0) : Nat × Nat).2 ≤ 0 := Nat.le_refl 0
  refine z_iconst (pc := 0) (v := 1) C (dX12_readSchool 0 rfl) (by decide) ?_
  refine z_istore_n (pc := 1) (i := 1) (lv2 := [(1, .int 1), (0, .ref a)]) C (dX12_readSchool 1 rfl) rfl (by decide) rfl ?_
  obtain ⟨n17, H⟩ := H
  refine z_sub [1, 0] rfl ?_
  refine sX12_readSchool_L2 C hr hm hu1 hu2 (fun m7 H => ?_) n17 1 m H
  refine z_aload_n (pc := 20) C (dX12_readSchool 11 rfl) rfl 0 rfl ?_
  obtain ⟨h8, H⟩ := H
  refine z_getI (pc := 21) C zc12 h8 9 (by decide) rfl wf_X12_69 (dX12_readSchool 12 rfl) ?_
  refine z_iconst (pc := 24) (v := 1) C (dX12_readSchool 13 rfl) (by decide) ?_
  refine z_icmp_eq (pc := 25) (tgt := 33) C (dX12_readSchool 14 rfl) (by decide) (fun c9 => ?_) (fun c9 => ?_)
  · replace H := H.1 c9
    refine z_sub [0] rfl ?_
    exact sX12_readSchool_J33 C hr hm hu1 hu2 H
  · replace H := H.2 c9
    refine z_aload_n (pc := 28) C (dX12_readSchool 15 rfl) rfl 0 rfl ?_
    refine z_iconst (pc := 29) (v := 1) C (dX12_readSchool 16 rfl) (by decide) ?_
    refine zc_Vv (pc := 30) (rest := []) C YX12_flaw wl_X12_115 (kX12_flaw H) (by decide) h8 rfl (by decide) (dX12_readSchool 17 rfl) rfl hu1 hu2 (Nat.le_of_ble_eq_true rfl) rfl (fun m16 H => ?_)
    refine z_sub [0] rfl ?_
    exact sX12_readSchool_J33 C hr hm hu1 hu2 H
def wX12_feed_J76 (t : zT) (m : zM) (a_0 : Nat) (x_1 : Int32) (x_2 : Int32) (x_3 : Int32) (x_4 : Int32) (x_5 : Int32) (x_6 : Int32) (s_0 : Int32) (Q : Int32 → zM → Prop) (r23 : Int32 → zM → Prop) : Prop := (tK t a_0 = 12 ∧ (tK t (gR m a_0 5) = 13 ∧ (vp_in (gI m a_0 6) (tL t (gR m a_0 5)) ∧ (r23 (x_6 + 1) (pI (pI m (gR m a_0 5) ((gI m a_0 6).toNatClampNeg) (((s_0 >>> (((24 : Int32) - ((8 : Int32) * (x_6 - x_6 / 4 * 4))) &&& 31)).toInt8.toInt32).toInt8.toInt32)) a_0 6 ((gI (pI m (gR m a_0 5) ((gI m a_0 6).toNatClampNeg) (((s_0 >>> (((24 : Int32) - ((8 : Int32) * (x_6 - x_6 / 4 * 4))) &&& 31)).toInt8.toInt32).toInt8.toInt32)) a_0 6) + (1 : Int32)))))))
set_option maxHeartbeats 4000000 in
set_option maxRecDepth 20000 in
theorem sX12_feed_J76 {p : Program} {l : Launch} {e : Env} {s : State} {mt : MethodId} {args : Array Value} {below : List Frame} {meth : Method} {c : Code} {g : zG} {u : Nat × Nat} {mc ms : Nat} {t : zT} {m : zM} {a_0 : Nat} {x_1 : Int32} {x_2 : Int32} {x_3 : Int32} {x_4 : Int32} {x_5 : Int32} {x_6 : Int32} {s_0 : Int32} {Q : Int32 → zM → Prop} {r23 : Int32 → zM → Prop} (C : zC p (zRm 0 mc ms) s mt args meth c g cX12_feed 8 yX12_feed.cls 0) (hr : meth.sig.returnType = (some .int)) (hm : meth.name = yX12_feed.name) (hu1 : u.1 ≤ mc) (hu2 : u.2 ≤ ms)
    (R23 : ∀ (v0 : Int32) (m : zM), r23 v0 m → zW p l e (zRm 0 mc ms) s mt args below meth c g (MQ below (zQc g (zPi t Q)) args s mc ms (zFar g)) u 8 t m 23 [(0, .ref a_0), (1, .int x_1), (2, .int x_2), (3, .int x_3), (4, .int x_4), (5, .int x_5), (6, .int v0)] []) (H : wX12_feed_J76 t m a_0 x_1 x_2 x_3 x_4 x_5 x_6 s_0 Q r23) : zW p l e (zRm 0 mc ms) s mt args below meth c g (MQ below (zQc g (zPi t Q)) args s mc ms (zFar g)) u 8 t m 76 [(0, .ref a_0), (1, .int x_1), (2, .int x_2), (3, .int x_3), (4, .int x_4), (5, .int x_5), (6, .int x_6)] [.int s_0] := by
  unfold wX12_feed_J76 at H
  refine z_istore (pc := 76) (i := 7) (lv2 := [(7, .int s_0), (0, .ref a_0), (1, .int x_1), (2, .int x_2), (3, .int x_3), (4, .int x_4), (5, .int x_5), (6, .int x_6)]) C (dX12_feed 37 rfl) (by decide) rfl ?_
  refine z_aload_n (pc := 78) C (dX12_feed 38 rfl) rfl 1 rfl ?_
  obtain ⟨h8, H⟩ := H
  refine z_getR (pc := 79) C zc12 h8 5 (by decide) rfl wf_X12_13 (dX12_feed 39 rfl) ?_
  refine z_aload_n (pc := 82) C (dX12_feed 40 rfl) rfl 1 rfl ?_
  refine z_getI (pc := 83) C zc12 h8 6 (by decide) rfl wf_X12_307 (dX12_feed 41 rfl) ?_
  refine z_iload (pc := 86) C (dX12_feed 42 rfl) 0 rfl ?_
  refine z_bipush (pc := 88) (v := 24) C (dX12_feed 43 rfl) (by decide) ?_
  refine z_bipush (pc := 90) (v := 8) C (dX12_feed 44 rfl) (by decide) ?_
  refine z_iload (pc := 92) C (dX12_feed 45 rfl) 7 rfl ?_
  refine z_iconst (pc := 94) (v := 4) C (dX12_feed 46 rfl) (by decide) ?_
  refine z_irem (pc := 95) C (hne := by decide) (dX12_feed 47 rfl) ?_
  refine z_imul (pc := 96) C (dX12_feed 48 rfl) ?_
  refine z_isub (pc := 97) C (dX12_feed 49 rfl) ?_
  refine z_ishr (pc := 98) C (dX12_feed 50 rfl) ?_
  refine z_i2b (pc := 99) C (dX12_feed 51 rfl) ?_
  obtain ⟨h9, H⟩ := H
  obtain ⟨h10, H⟩ := H
  refine z_bastore (pc := 100) C h9 h10 (dX12_feed 52 rfl) ?_
  refine z_aload_n (pc := 101) C (dX12_feed 53 rfl) rfl 1 rfl ?_
  refine z_dup (pc := 102) C (dX12_feed 54 rfl) rfl ?_
  refine z_getI (pc := 103) C zc12 h8 6 (by decide) rfl wf_X12_307 (dX12_feed 55 rfl) ?_
  refine z_iconst (pc := 106) (v := 1) C (dX12_feed 56 rfl) (by decide) ?_
  refine z_iadd (pc := 107) C (dX12_feed 57 rfl) ?_
  refine z_putI (pc := 108) C zc12 h8 6 (by decide) rfl rfl wf_X12_307 (dX12_feed 58 rfl) ?_
  refine z_iinc (pc := 111) (i := 6) (v := x_6 + 1) (lv2 := [(6, .int (x_6 + 1)), (7, .int s_0), (0, .ref a_0), (1, .int x_1), (2, .int x_2), (3, .int x_3), (4, .int x_4), (5, .int x_5)]) C (dX12_feed 59 rfl) 7 rfl (by rfl) (by decide) rfl ?_
  refine z_goto (pc := 114) (tgt := 23) C (dX12_feed 60 rfl) (by decide) ?_
  refine z_sub [2, 3, 4, 5, 6, 7, 0] rfl ?_
  exact R23 (x_6 + 1) (pI (pI m (gR m a_0 5) ((gI m a_0 6).toNatClampNeg) (((s_0 >>> (((24 : Int32) - ((8 : Int32) * (x_6 - x_6 / 4 * 4))) &&& 31)).toInt8.toInt32).toInt8.toInt32)) a_0 6 ((gI (pI m (gR m a_0 5) ((gI m a_0 6).toNatClampNeg) (((s_0 >>> (((24 : Int32) - ((8 : Int32) * (x_6 - x_6 / 4 * 4))) &&& 31)).toInt8.toInt32).toInt8.toInt32)) a_0 6) + (1 : Int32))) H
def wX12_feed_L23 (t : zT) (a_0 : Nat) (x_1 : Int32) (x_2 : Int32) (x_3 : Int32) (x_4 : Int32) (x_5 : Int32) (Q : Int32 → zM → Prop) (k117 : zM → Prop) : Nat → Int32 → zM → Prop
  | 0, _, _ => False
  | n + 1, x_6, m => (((20 : Int32) ≤ x_6 → (k117 m)) ∧ (¬ (20 : Int32) ≤ x_6 → (((4 : Int32) ≤ x_6 → (((8 : Int32) ≤ x_6 → (((12 : Int32) ≤ x_6 → (((16 : Int32) ≤ x_6 → (wX12_feed_J76 t m a_0 x_1 x_2 x_3 x_4 x_5 x_6 x_5 Q (wX12_feed_L23 t a_0 x_1 x_2 x_3 x_4 x_5 Q k117 n))) ∧ (¬ (16 : Int32) ≤ x_6 → (wX12_feed_J76 t m a_0 x_1 x_2 x_3 x_4 x_5 x_6 x_4 Q (wX12_feed_L23 t a_0 x_1 x_2 x_3 x_4 x_5 Q k117 n))))) ∧ (¬ (12 : Int32) ≤ x_6 → (wX12_feed_J76 t m a_0 x_1 x_2 x_3 x_4 x_5 x_6 x_3 Q (wX12_feed_L23 t a_0 x_1 x_2 x_3 x_4 x_5 Q k117 n))))) ∧ (¬ (8 : Int32) ≤ x_6 → (wX12_feed_J76 t m a_0 x_1 x_2 x_3 x_4 x_5 x_6 x_2 Q (wX12_feed_L23 t a_0 x_1 x_2 x_3 x_4 x_5 Q k117 n))))) ∧ (¬ (4 : Int32) ≤ x_6 → (wX12_feed_J76 t m a_0 x_1 x_2 x_3 x_4 x_5 x_6 x_1 Q (wX12_feed_L23 t a_0 x_1 x_2 x_3 x_4 x_5 Q k117 n))))))
set_option maxHeartbeats 4000000 in
set_option maxRecDepth 20000 in
theorem sX12_feed_L23 {p : Program} {l : Launch} {e : Env} {s : State} {mt : MethodId} {args : Array Value} {below : List Frame} {meth : Method} {c : Code} {g : zG} {u : Nat × Nat} {mc ms : Nat} {t : zT} {a_0 : Nat} {x_1 : Int32} {x_2 : Int32} {x_3 : Int32} {x_4 : Int32} {x_5 : Int32} {Q : Int32 → zM → Prop} {k117 : zM → Prop} (C : zC p (zRm 0 mc ms) s mt args meth c g cX12_feed 8 yX12_feed.cls 0) (hr : meth.sig.returnType = (some .int)) (hm : meth.name = yX12_feed.name) (hu1 : u.1 ≤ mc) (hu2 : u.2 ≤ ms)
    (K117 : ∀ (m : zM), k117 m → zW p l e (zRm 0 mc ms) s mt args below meth c g (MQ below (zQc g (zPi t Q)) args s mc ms (zFar g)) u 8 t m 117 [(0, .ref a_0)] []) : ∀ (n : Nat) (x_6 : Int32) (m : zM), wX12_feed_L23 t a_0 x_1 x_2 x_3 x_4 x_5 Q k117 n x_6 m → zW p l e (zRm 0 mc ms) s mt args below meth c g (MQ below (zQc g (zPi t Q)) args s mc ms (zFar g)) u 8 t m 23 [(0, .ref a_0), (1, .int x_1), (2, .int x_2), (3, .int x_3), (4, .int x_4), (5, .int x_5), (6, .int x_6)] [] := by
  intro n
  induction n with
  | zero => intro x_6 m H; exact H.elim
  | succ n ih =>
    intro x_6 m H
    simp only [wX12_feed_L23] at H
    refine z_iload (pc := 23) C (dX12_feed 13 rfl) 6 rfl ?_
    refine z_bipush (pc := 25) (v := 20) C (dX12_feed 14 rfl) (by decide) ?_
    refine z_icmp_ge (pc := 27) (tgt := 117) C (dX12_feed 15 rfl) (by decide) (fun c3 => ?_) (fun c3 => ?_)
    · replace H := H.1 c3
      refine z_sub [0] rfl ?_
      exact K117 m H
    · replace H := H.2 c3
      refine z_iload (pc := 30) C (dX12_feed 16 rfl) 6 rfl ?_
      refine z_iconst (pc := 32) (v := 4) C (dX12_feed 17 rfl) (by decide) ?_
      refine z_icmp_ge (pc := 33) (tgt := 40) C (dX12_feed 18 rfl) (by decide) (fun c4 => ?_) (fun c4 => ?_)
      · replace H := H.1 c4
        refine z_iload (pc := 40) C (dX12_feed 21 rfl) 6 rfl ?_
        refine z_bipush (pc := 42) (v := 8) C (dX12_feed 22 rfl) (by decide) ?_
        refine z_icmp_ge (pc := 44) (tgt := 51) C (dX12_feed 23 rfl) (by decide) (fun c5 => ?_) (fun c5 => ?_)
        · replace H := H.1 c5
          refine z_iload (pc := 51) C (dX12_feed 26 rfl) 6 rfl ?_
          refine z_bipush (pc := 53) (v := 12) C (dX12_feed 27 rfl) (by decide) ?_
          refine z_icmp_ge (pc := 55) (tgt := 62) C (dX12_feed 28 rfl) (by decide) (fun c6 => ?_) (fun c6 => ?_)
          · replace H := H.1 c6
            refine z_iload (pc := 62) C (dX12_feed 31 rfl) 6 rfl ?_
            refine z_bipush (pc := 64) (v := 16) C (dX12_feed 32 rfl) (by decide) ?_
            refine z_icmp_ge (pc := 66) (tgt := 74) C (dX12_feed 33 rfl) (by decide) (fun c7 => ?_) (fun c7 => ?_)
            · replace H := H.1 c7
              refine z_iload (pc := 74) C (dX12_feed 36 rfl) 5 rfl ?_
              refine z_sub [0, 1, 2, 3, 4, 5, 6] rfl ?_
              exact sX12_feed_J76 C hr hm hu1 hu2 ih H
            · replace H := H.2 c7
              refine z_iload (pc := 69) C (dX12_feed 34 rfl) 4 rfl ?_
              refine z_goto (pc := 71) (tgt := 76) C (dX12_feed 35 rfl) (by decide) ?_
              refine z_sub [0, 1, 2, 3, 4, 5, 6] rfl ?_
              exact sX12_feed_J76 C hr hm hu1 hu2 ih H
          · replace H := H.2 c6
            refine z_iload_n (pc := 58) C (dX12_feed 29 rfl) rfl 3 rfl ?_
            refine z_goto (pc := 59) (tgt := 76) C (dX12_feed 30 rfl) (by decide) ?_
            refine z_sub [0, 1, 2, 3, 4, 5, 6] rfl ?_
            exact sX12_feed_J76 C hr hm hu1 hu2 ih H
        · replace H := H.2 c5
          refine z_iload_n (pc := 47) C (dX12_feed 24 rfl) rfl 2 rfl ?_
          refine z_goto (pc := 48) (tgt := 76) C (dX12_feed 25 rfl) (by decide) ?_
          refine z_sub [0, 1, 2, 3, 4, 5, 6] rfl ?_
          exact sX12_feed_J76 C hr hm hu1 hu2 ih H
      · replace H := H.2 c4
        refine z_iload_n (pc := 36) C (dX12_feed 19 rfl) rfl 1 rfl ?_
        refine z_goto (pc := 37) (tgt := 76) C (dX12_feed 20 rfl) (by decide) ?_
        refine z_sub [0, 1, 2, 3, 4, 5, 6] rfl ?_
        exact sX12_feed_J76 C hr hm hu1 hu2 ih H
def wX12_feed (t : zT) (m : zM) (a : Nat) (p1 : Int32) (p2 : Int32) (p3 : Int32) (p4 : Int32) (p5 : Int32) (Q : Int32 → zM → Prop) : Prop := (tK t a = 12 ∧ ((((gI (pI m a 0 0) a 6) + (20 : Int32)) ≤ 900 → (∃ n12, wX12_feed_L23 t a p1 p2 p3 p4 p5 Q (fun m11 => (Q (gI m11 a 6) m11)) n12 0 (pI m a 0 0))) ∧ (¬ ((gI (pI m a 0 0) a 6) + (20 : Int32)) ≤ 900 → (Q (-1) (pI m a 0 0)))))
set_option maxHeartbeats 4000000 in
set_option maxRecDepth 20000 in
theorem kX12_feed {l : Launch} {t : zT} {m : zM} {a : Nat} {p1 : Int32} {p2 : Int32} {p3 : Int32} {p4 : Int32} {p5 : Int32} {Q : Int32 → zM → Prop} (H : wX12_feed t m a p1 p2 p3 p4 p5 Q) : zMet l yX12_feed cX12_feed 8 (some .int) 0 0 0 t m [.ref a, .int p1, .int p2, .int p3, .int p4, .int p5] (zPi t Q) := by
  refine zmet (by decide +kernel) (Nat.le_of_ble_eq_true rfl) ?_
  intro p e s mt args below meth c g C hr hm
  unfold wX12_feed at H
  have hu1 : ((0, 0) : Nat × Nat).1 ≤ 0 := Nat.le_refl 0
  have hu2 : ((0, 0) : Nat × Nat).2 ≤ 0 := Nat.le_refl 0
  refine z_aload_n (pc := 0) C (dX12_feed 0 rfl) rfl 0 rfl ?_
  refine z_iconst (pc := 1) (v := 0) C (dX12_feed 1 rfl) (by decide) ?_
  obtain ⟨h1, H⟩ := H
  refine z_putI (pc := 2) C zc12 h1 0 (by decide) rfl rfl wf_X12_41 (dX12_feed 2 rfl) ?_
  refine z_aload_n (pc := 5) C (dX12_feed 3 rfl) rfl 0 rfl ?_
  refine z_getI (pc := 6) C zc12 h1 6 (by decide) rfl wf_X12_307 (dX12_feed 4 rfl) ?_
  refine z_bipush (pc := 9) (v := 20) C (dX12_feed 5 rfl) (by decide) ?_
  refine z_iadd (pc := 11) C (dX12_feed 6 rfl) ?_
  refine z_sipush (pc := 12) (v := 900) C (dX12_feed 7 rfl) (by decide) ?_
  refine z_icmp_le (pc := 15) (tgt := 20) C (dX12_feed 8 rfl) (by decide) (fun c2 => ?_) (fun c2 => ?_)
  · replace H := H.1 c2
    refine z_iconst (pc := 20) (v := 0) C (dX12_feed 11 rfl) (by decide) ?_
    refine z_istore (pc := 21) (i := 6) (lv2 := [(6, .int 0), (0, .ref a), (1, .int p1), (2, .int p2), (3, .int p3), (4, .int p4), (5, .int p5)]) C (dX12_feed 12 rfl) (by decide) rfl ?_
    obtain ⟨n12, H⟩ := H
    refine z_sub [1, 2, 3, 4, 5, 6, 0] rfl ?_
    refine sX12_feed_L23 C hr hm hu1 hu2 (fun m11 H => ?_) n12 0 (pI m a 0 0) H
    refine z_aload_n (pc := 117) C (dX12_feed 61 rfl) rfl 0 rfl ?_
    refine z_getI (pc := 118) C zc12 h1 6 (by decide) rfl wf_X12_307 (dX12_feed 62 rfl) ?_
    exact z_iret (pc := 121) C hr hu1 hu2 (dX12_feed 63 rfl) ⟨rfl, _, rfl, H⟩
  · replace H := H.2 c2
    refine z_iconst (pc := 18) (v := (-1)) C (dX12_feed 9 rfl) (by decide) ?_
    exact z_iret (pc := 19) C hr hu1 hu2 (dX12_feed 10 rfl) ⟨rfl, _, rfl, H⟩
def wX12_school_J17 (t : zT) (m : zM) (a_0 : Nat) (Q : Int32 → zT → zM → Prop) : Prop := (tK t a_0 = 12 ∧ (wX12_refused t m a_0 2 (fun r4 m5 => (Q r4 t m5))))
set_option maxHeartbeats 4000000 in
set_option maxRecDepth 20000 in
theorem sX12_school_J17 {p : Program} {l : Launch} {e : Env} {s : State} {mt : MethodId} {args : Array Value} {below : List Frame} {meth : Method} {c : Code} {g : zG} {u : Nat × Nat} {mc ms : Nat} {t : zT} {m : zM} {a_0 : Nat} {Q : Int32 → zT → zM → Prop} (C : zC p (zRm 14 mc ms) s mt args meth c g cX12_school 5 yX12_school.cls 14) (hr : meth.sig.returnType = (some .int)) (hm : meth.name = yX12_school.name) (hu1 : u.1 ≤ mc) (hu2 : u.2 ≤ ms) (H : wX12_school_J17 t m a_0 Q) : zW p l e (zRm 14 mc ms) s mt args below meth c g (MQ below (zQc g (zAi Q)) args s mc ms (zFar g)) u 5 t m 17 [(0, .ref a_0)] [] := by
  unfold wX12_school_J17 at H
  refine z_aload_n (pc := 17) C (dX12_school_p0 9 rfl) rfl 0 rfl ?_
  refine z_iconst (pc := 18) (v := 2) C (dX12_school_p0 10 rfl) (by decide) ?_
  obtain ⟨h3, H⟩ := H
  refine zc_Vi (pc := 19) (rest := []) C YX12_refused wl_X12_47 (kX12_refused H) (by decide) h3 rfl (by decide) (dX12_school_p0 11 rfl) rfl hu1 hu2 (Nat.le_of_ble_eq_true rfl) rfl (fun r4 m5 H => ?_)
  exact z_iret (pc := 22) C hr hu1 hu2 (dX12_school_p0 12 rfl) ⟨_, rfl, H⟩
def wX12_school_L123 (t : zT) (a_0 : Nat) (x_2 : Int32) (Q : Int32 → zT → zM → Prop) (k172 : zM → Prop) : Nat → Int32 → Int32 → zM → Prop
  | 0, _, _, _ => False
  | n + 1, x_3, x_4, m => ((x_4 < 0 → (k172 m)) ∧ (¬ x_4 < 0 → (tK t a_0 = 12 ∧ (tK t (gR m a_0 3) = 11 ∧ (tK t (gR m (gR m a_0 3) 10) = 14 ∧ (vp_in x_4 (tL t (gR m (gR m a_0 3) 10)) ∧ (¬ (gI m (gR m (gR m a_0 3) 10) x_4.toNatClampNeg) = 0 ∧ (tK t (gR m a_0 16) = 13 ∧ (vp_in (((8 : Int32) * x_2) + x_4) (tL t (gR m a_0 16)) ∧ (¬ (gI (pI m (gR m a_0 16) ((((8 : Int32) * x_2) + x_4).toNatClampNeg) (((x_3 - x_3 / (gI m (gR m (gR m a_0 3) 10) x_4.toNatClampNeg) * (gI m (gR m (gR m a_0 3) 10) x_4.toNatClampNeg)).toInt8.toInt32).toInt8.toInt32)) (gR m (gR m a_0 3) 10) x_4.toNatClampNeg) = 0 ∧ (∀ x30 : Int32, x30 = (x_3 / (gI (pI m (gR m a_0 16) ((((8 : Int32) * x_2) + x_4).toNatClampNeg) (((x_3 - x_3 / (gI m (gR m (gR m a_0 3) 10) x_4.toNatClampNeg) * (gI m (gR m (gR m a_0 3) 10) x_4.toNatClampNeg)).toInt8.toInt32).toInt8.toInt32)) (gR m (gR m a_0 3) 10) x_4.toNatClampNeg)) → ((wX12_school_L123 t a_0 x_2 Q k172 n x30 (x_4 + (-1)) (pI m (gR m a_0 16) ((((8 : Int32) * x_2) + x_4).toNatClampNeg) (((x_3 - x_3 / (gI m (gR m (gR m a_0 3) 10) x_4.toNatClampNeg) * (gI m (gR m (gR m a_0 3) 10) x_4.toNatClampNeg)).toInt8.toInt32).toInt8.toInt32)))))))))))))))
set_option maxHeartbeats 4000000 in
set_option maxRecDepth 20000 in
theorem sX12_school_L123 {p : Program} {l : Launch} {e : Env} {s : State} {mt : MethodId} {args : Array Value} {below : List Frame} {meth : Method} {c : Code} {g : zG} {u : Nat × Nat} {mc ms : Nat} {t : zT} {a_0 : Nat} {x_2 : Int32} {Q : Int32 → zT → zM → Prop} {k172 : zM → Prop} (C : zC p (zRm 14 mc ms) s mt args meth c g cX12_school 5 yX12_school.cls 14) (hr : meth.sig.returnType = (some .int)) (hm : meth.name = yX12_school.name) (hu1 : u.1 ≤ mc) (hu2 : u.2 ≤ ms)
    (K172 : ∀ (m : zM), k172 m → zW p l e (zRm 14 mc ms) s mt args below meth c g (MQ below (zQc g (zAi Q)) args s mc ms (zFar g)) u 5 t m 172 [(0, .ref a_0), (2, .int x_2)] []) : ∀ (n : Nat) (x_3 : Int32) (x_4 : Int32) (m : zM), wX12_school_L123 t a_0 x_2 Q k172 n x_3 x_4 m → zW p l e (zRm 14 mc ms) s mt args below meth c g (MQ below (zQc g (zAi Q)) args s mc ms (zFar g)) u 5 t m 123 [(0, .ref a_0), (2, .int x_2), (3, .int x_3), (4, .int x_4)] [] := by
  intro n
  induction n with
  | zero => intro x_3 x_4 m H; exact H.elim
  | succ n ih =>
    intro x_3 x_4 m H
    simp only [wX12_school_L123] at H
    refine z_iload (pc := 123) C (dX12_school_p0 68 rfl) 3 rfl ?_
    refine z_if_lt (pc := 125) (tgt := 172) C (dX12_school_p0 69 rfl) (by decide) (fun c21 => ?_) (fun c21 => ?_)
    · replace H := H.1 c21
      refine z_sub [0, 1] rfl ?_
      exact K172 m H
    · replace H := H.2 c21
      refine z_aload_n (pc := 128) C (dX12_school_p0 70 rfl) rfl 0 rfl ?_
      obtain ⟨h22, H⟩ := H
      refine z_getR (pc := 129) C zc12 h22 16 (by decide) rfl wf_X12_18 (dX12_school_p0 71 rfl) ?_
      refine z_bipush (pc := 132) (v := 8) C (dX12_school_p0 72 rfl) (by decide) ?_
      refine z_iload_n (pc := 134) C (dX12_school_p0 73 rfl) rfl 1 rfl ?_
      refine z_imul (pc := 135) C (dX12_school_p0 74 rfl) ?_
      refine z_iload (pc := 136) C (dX12_school_p0 75 rfl) 3 rfl ?_
      refine z_iadd (pc := 138) C (dX12_school_p0 76 rfl) ?_
      refine z_iload_n (pc := 139) C (dX12_school_p0 77 rfl) rfl 2 rfl ?_
      refine z_aload_n (pc := 140) C (dX12_school_p0 78 rfl) rfl 0 rfl ?_
      refine z_getR (pc := 141) C zc12 h22 3 (by decide) rfl wf_X12_314 (dX12_school_p0 79 rfl) ?_
      obtain ⟨h23, H⟩ := H
      refine z_getRN (pc := 144) C zc11 h23 10 (by decide) rfl wn_X12_171 (dX12_school_p0 80 rfl) ?_
      refine z_iload (pc := 147) C (dX12_school_p0 81 rfl) 3 rfl ?_
      obtain ⟨h24, H⟩ := H
      obtain ⟨h25, H⟩ := H
      refine z_iaload (pc := 149) C h24 h25 (dX12_school_p0 82 rfl) ?_
      obtain ⟨h26, H⟩ := H
      refine z_irem (pc := 150) C (hne := h26) (dX12_school_p0 83 rfl) ?_
      refine z_i2b (pc := 151) C (dX12_school_p0 84 rfl) ?_
      obtain ⟨h27, H⟩ := H
      obtain ⟨h28, H⟩ := H
      refine z_bastore (pc := 152) C h27 h28 (dX12_school_p0 85 rfl) ?_
      refine z_iload_n (pc := 153) C (dX12_school_p0 86 rfl) rfl 2 rfl ?_
      refine z_aload_n (pc := 154) C (dX12_school_p0 87 rfl) rfl 0 rfl ?_
      refine z_getR (pc := 155) C zc12 h22 3 (by decide) rfl wf_X12_314 (dX12_school_p0 88 rfl) ?_
      refine z_getRN (pc := 158) C zc11 h23 10 (by decide) rfl wn_X12_171 (dX12_school_p0 89 rfl) ?_
      refine z_iload (pc := 161) C (dX12_school_p0 90 rfl) 3 rfl ?_
      refine z_iaload (pc := 163) C h24 h25 (dX12_school_p0 91 rfl) ?_
      obtain ⟨h29, H⟩ := H
      refine z_idiv (pc := 164) C (hne := h29) (dX12_school_p0 92 rfl) ?_
      refine z_int (fun x30 hx30 => ?_)
      replace H := H x30 hx30
      refine z_istore_n (pc := 165) (i := 3) (lv2 := [(3, .int x30), (0, .ref a_0), (2, .int x_2), (4, .int x_4)]) C (dX12_school_p0 93 rfl) rfl (by decide) rfl ?_
      refine z_iinc (pc := 166) (i := 4) (v := x_4 + (-1)) (lv2 := [(4, .int (x_4 + (-1))), (3, .int x30), (0, .ref a_0), (2, .int x_2)]) C (dX12_school_p0 94 rfl) 3 rfl (by rfl) (by decide) rfl ?_
      refine z_goto (pc := 169) (tgt := 123) C (dX12_school_p0 95 rfl) (by decide) ?_
      refine z_sub [2, 3, 1, 0] rfl ?_
      exact ih x30 (x_4 + (-1)) (pI m (gR m a_0 16) ((((8 : Int32) * x_2) + x_4).toNatClampNeg) (((x_3 - x_3 / (gI m (gR m (gR m a_0 3) 10) x_4.toNatClampNeg) * (gI m (gR m (gR m a_0 3) 10) x_4.toNatClampNeg)).toInt8.toInt32).toInt8.toInt32)) H
def wX12_school_L99 (t : zT) (a_0 : Nat) (Q : Int32 → zT → zM → Prop) (k178 : zM → Prop) : Nat → Int32 → zM → Prop
  | 0, _, _ => False
  | n + 1, x_2, m => (tK t a_0 = 12 ∧ (tK t (gR m a_0 3) = 11 ∧ (((gI m (gR m a_0 3) 9) ≤ x_2 → (k178 m)) ∧ (¬ (gI m (gR m a_0 3) 9) ≤ x_2 → (∀ x20 : Int32, x20 = ((gI m (gR m a_0 3) 0) - (1 : Int32)) → ((∃ n32, wX12_school_L123 t a_0 x_2 Q (fun m31 => (wX12_school_L99 t a_0 Q k178 n (x_2 + 1) m31)) n32 x_2 x20 m)))))))
set_option maxHeartbeats 4000000 in
set_option maxRecDepth 20000 in
theorem sX12_school_L99 {p : Program} {l : Launch} {e : Env} {s : State} {mt : MethodId} {args : Array Value} {below : List Frame} {meth : Method} {c : Code} {g : zG} {u : Nat × Nat} {mc ms : Nat} {t : zT} {a_0 : Nat} {Q : Int32 → zT → zM → Prop} {k178 : zM → Prop} (C : zC p (zRm 14 mc ms) s mt args meth c g cX12_school 5 yX12_school.cls 14) (hr : meth.sig.returnType = (some .int)) (hm : meth.name = yX12_school.name) (hu1 : u.1 ≤ mc) (hu2 : u.2 ≤ ms)
    (K178 : ∀ (m : zM), k178 m → zW p l e (zRm 14 mc ms) s mt args below meth c g (MQ below (zQc g (zAi Q)) args s mc ms (zFar g)) u 5 t m 178 [(0, .ref a_0)] []) : ∀ (n : Nat) (x_2 : Int32) (m : zM), wX12_school_L99 t a_0 Q k178 n x_2 m → zW p l e (zRm 14 mc ms) s mt args below meth c g (MQ below (zQc g (zAi Q)) args s mc ms (zFar g)) u 5 t m 99 [(0, .ref a_0), (2, .int x_2)] [] := by
  intro n
  induction n with
  | zero => intro x_2 m H; exact H.elim
  | succ n ih =>
    intro x_2 m H
    simp only [wX12_school_L99] at H
    refine z_iload_n (pc := 99) C (dX12_school_p0 55 rfl) rfl 1 rfl ?_
    refine z_aload_n (pc := 100) C (dX12_school_p0 56 rfl) rfl 0 rfl ?_
    obtain ⟨h17, H⟩ := H
    refine z_getR (pc := 101) C zc12 h17 3 (by decide) rfl wf_X12_314 (dX12_school_p0 57 rfl) ?_
    obtain ⟨h18, H⟩ := H
    refine z_getIN (pc := 104) C zc11 h18 9 (by decide) rfl wn_X12_217 (dX12_school_p0 58 rfl) ?_
    refine z_icmp_ge (pc := 107) (tgt := 178) C (dX12_school_p0 59 rfl) (by decide) (fun c19 => ?_) (fun c19 => ?_)
    · replace H := H.1 c19
      refine z_sub [0] rfl ?_
      exact K178 m H
    · replace H := H.2 c19
      refine z_iload_n (pc := 110) C (dX12_school_p0 60 rfl) rfl 1 rfl ?_
      refine z_istore_n (pc := 111) (i := 3) (lv2 := [(3, .int x_2), (0, .ref a_0), (2, .int x_2)]) C (dX12_school_p0 61 rfl) rfl (by decide) rfl ?_
      refine z_aload_n (pc := 112) C (dX12_school_p0 62 rfl) rfl 1 rfl ?_
      refine z_getR (pc := 113) C zc12 h17 3 (by decide) rfl wf_X12_314 (dX12_school_p0 63 rfl) ?_
      refine z_getIN (pc := 116) C zc11 h18 0 (by decide) rfl wn_X12_180 (dX12_school_p0 64 rfl) ?_
      refine z_iconst (pc := 119) (v := 1) C (dX12_school_p0 65 rfl) (by decide) ?_
      refine z_isub (pc := 120) C (dX12_school_p0 66 rfl) ?_
      refine z_int (fun x20 hx20 => ?_)
      replace H := H x20 hx20
      refine z_istore (pc := 121) (i := 4) (lv2 := [(4, .int x20), (3, .int x_2), (0, .ref a_0), (2, .int x_2)]) C (dX12_school_p0 67 rfl) (by decide) rfl ?_
      obtain ⟨n32, H⟩ := H
      refine z_sub [2, 3, 1, 0] rfl ?_
      refine sX12_school_L123 C hr hm hu1 hu2 (fun m31 H => ?_) n32 x_2 x20 m H
      refine z_iinc (pc := 172) (i := 2) (v := x_2 + 1) (lv2 := [(2, .int (x_2 + 1)), (0, .ref a_0)]) C (dX12_school_p0 96 rfl) 1 rfl (by rfl) (by decide) rfl ?_
      refine z_goto (pc := 175) (tgt := 99) C (dX12_school_p0 97 rfl) (by decide) ?_
      refine z_sub [1, 0] rfl ?_
      exact ih (x_2 + 1) m31 H
def wX12_school_J203 (t : zT) (m : zM) (a_0 : Nat) (x_2 : Int32) (s_0 : Int32) (s_1 : Int32) (s_2 : Nat) (Q : Int32 → zT → zM → Prop) (r180 : Int32 → zM → Prop) : Prop := (tK t s_2 = 14 ∧ (vp_in s_1 (tL t s_2) ∧ (r180 (x_2 + 1) (pI m s_2 s_1.toNatClampNeg s_0))))
set_option maxHeartbeats 4000000 in
set_option maxRecDepth 20000 in
theorem sX12_school_J203 {p : Program} {l : Launch} {e : Env} {s : State} {mt : MethodId} {args : Array Value} {below : List Frame} {meth : Method} {c : Code} {g : zG} {u : Nat × Nat} {mc ms : Nat} {t : zT} {m : zM} {a_0 : Nat} {x_2 : Int32} {s_0 : Int32} {s_1 : Int32} {s_2 : Nat} {Q : Int32 → zT → zM → Prop} {r180 : Int32 → zM → Prop} (C : zC p (zRm 14 mc ms) s mt args meth c g cX12_school 5 yX12_school.cls 14) (hr : meth.sig.returnType = (some .int)) (hm : meth.name = yX12_school.name) (hu1 : u.1 ≤ mc) (hu2 : u.2 ≤ ms)
    (R180 : ∀ (v0 : Int32) (m : zM), r180 v0 m → zW p l e (zRm 14 mc ms) s mt args below meth c g (MQ below (zQc g (zAi Q)) args s mc ms (zFar g)) u 5 t m 180 [(0, .ref a_0), (2, .int v0)] []) (H : wX12_school_J203 t m a_0 x_2 s_0 s_1 s_2 Q r180) : zW p l e (zRm 14 mc ms) s mt args below meth c g (MQ below (zQc g (zAi Q)) args s mc ms (zFar g)) u 5 t m 203 [(0, .ref a_0), (2, .int x_2)] [.int s_0, .int s_1, .ref s_2] := by
  unfold wX12_school_J203 at H
  obtain ⟨h37, H⟩ := H
  obtain ⟨h38, H⟩ := H
  refine z_iastore (pc := 203) C h37 h38 (dX12_school_p0 112 rfl) ?_
  refine z_iinc (pc := 204) (i := 2) (v := x_2 + 1) (lv2 := [(2, .int (x_2 + 1)), (0, .ref a_0)]) C (dX12_school_p0 113 rfl) 1 rfl (by rfl) (by decide) rfl ?_
  refine z_goto (pc := 207) (tgt := 180) C (dX12_school_p0 114 rfl) (by decide) ?_
  refine z_sub [1, 0] rfl ?_
  exact R180 (x_2 + 1) (pI m s_2 s_1.toNatClampNeg s_0) H
def wX12_school_L180 (t : zT) (a_0 : Nat) (Q : Int32 → zT → zM → Prop) (k210 : zM → Prop) : Nat → Int32 → zM → Prop
  | 0, _, _ => False
  | n + 1, x_2, m => (((11 : Int32) ≤ x_2 → (k210 m)) ∧ (¬ (11 : Int32) ≤ x_2 → (tK t a_0 = 12 ∧ (((8 : Int32) ≤ x_2 → (wX12_school_J203 t m a_0 x_2 0 x_2 (gR m a_0 26) Q (wX12_school_L180 t a_0 Q k210 n))) ∧ (¬ (8 : Int32) ≤ x_2 → (wX12_school_J203 t m a_0 x_2 (-2) x_2 (gR m a_0 26) Q (wX12_school_L180 t a_0 Q k210 n)))))))
set_option maxHeartbeats 4000000 in
set_option maxRecDepth 20000 in
theorem sX12_school_L180 {p : Program} {l : Launch} {e : Env} {s : State} {mt : MethodId} {args : Array Value} {below : List Frame} {meth : Method} {c : Code} {g : zG} {u : Nat × Nat} {mc ms : Nat} {t : zT} {a_0 : Nat} {Q : Int32 → zT → zM → Prop} {k210 : zM → Prop} (C : zC p (zRm 14 mc ms) s mt args meth c g cX12_school 5 yX12_school.cls 14) (hr : meth.sig.returnType = (some .int)) (hm : meth.name = yX12_school.name) (hu1 : u.1 ≤ mc) (hu2 : u.2 ≤ ms)
    (K210 : ∀ (m : zM), k210 m → zW p l e (zRm 14 mc ms) s mt args below meth c g (MQ below (zQc g (zAi Q)) args s mc ms (zFar g)) u 5 t m 210 [(0, .ref a_0)] []) : ∀ (n : Nat) (x_2 : Int32) (m : zM), wX12_school_L180 t a_0 Q k210 n x_2 m → zW p l e (zRm 14 mc ms) s mt args below meth c g (MQ below (zQc g (zAi Q)) args s mc ms (zFar g)) u 5 t m 180 [(0, .ref a_0), (2, .int x_2)] [] := by
  intro n
  induction n with
  | zero => intro x_2 m H; exact H.elim
  | succ n ih =>
    intro x_2 m H
    simp only [wX12_school_L180] at H
    refine z_iload_n (pc := 180) C (dX12_school_p0 100 rfl) rfl 1 rfl ?_
    refine z_bipush (pc := 181) (v := 11) C (dX12_school_p0 101 rfl) (by decide) ?_
    refine z_icmp_ge (pc := 183) (tgt := 210) C (dX12_school_p0 102 rfl) (by decide) (fun c34 => ?_) (fun c34 => ?_)
    · replace H := H.1 c34
      refine z_sub [0] rfl ?_
      exact K210 m H
    · replace H := H.2 c34
      refine z_aload_n (pc := 186) C (dX12_school_p0 103 rfl) rfl 0 rfl ?_
      obtain ⟨h35, H⟩ := H
      refine z_getR (pc := 187) C zc12 h35 26 (by decide) rfl wf_X12_35 (dX12_school_p0 104 rfl) ?_
      refine z_iload_n (pc := 190) C (dX12_school_p0 105 rfl) rfl 1 rfl ?_
      refine z_iload_n (pc := 191) C (dX12_school_p0 106 rfl) rfl 1 rfl ?_
      refine z_bipush (pc := 192) (v := 8) C (dX12_school_p0 107 rfl) (by decide) ?_
      refine z_icmp_ge (pc := 194) (tgt := 202) C (dX12_school_p0 108 rfl) (by decide) (fun c36 => ?_) (fun c36 => ?_)
      · replace H := H.1 c36
        refine z_iconst (pc := 202) (v := 0) C (dX12_school_p0 111 rfl) (by decide) ?_
        refine z_sub [0, 1] rfl ?_
        exact sX12_school_J203 C hr hm hu1 hu2 ih H
      · replace H := H.2 c36
        refine z_bipush (pc := 197) (v := (-2)) C (dX12_school_p0 109 rfl) (by decide) ?_
        refine z_goto (pc := 199) (tgt := 203) C (dX12_school_p0 110 rfl) (by decide) ?_
        refine z_sub [0, 1] rfl ?_
        exact sX12_school_J203 C hr hm hu1 hu2 ih H
def wX12_school (cap : Nat × Nat) (t : zT) (m : zM) (a : Nat) (p1 : Int32) (Q : Int32 → zT → zM → Prop) : Prop := (tK t a = 12 ∧ ((p1 < 0 → (wX12_school_J17 t (pI m a 0 0) a Q)) ∧ (¬ p1 < 0 → ((p1 ≤ (gI (pI m a 0 0) a 6) → ((0 + 1 ≤ cap.1 ∧ 0 + 24 ≤ cap.2) ∧ (0 < tN t → (0 < (tN t) ∧ (∃ k9 : Nat × Nat, (0 + 1 + k9.1 ≤ cap.1 ∧ 0 + 24 + k9.2 ≤ cap.2) ∧ wX11_init k9 (tNew t 11 0) (zClr (pI (pI (pI (pI (pI m a 0 0) a 7 p1) a 6 0) a 8 0) a 13 0) (tN t)) (tN t) (fun t10 m8 => (tK t10 a = 12 ∧ (wX12_goesOn t10 (pI (pR m8 a 4 (tN t)) a 9 0) a (fun m13 => (wX12_readSchool t10 m13 a (fun m15 => (((gI m15 a 13) ≤ 0 → (∃ n46, wX12_school_L99 t10 a Q (fun m33 => (∃ n45, wX12_school_L180 t10 a Q (fun m39 => (tK t10 (gR m39 a 26) = 14 ∧ (vp_in 8 (tL t10 (gR m39 a 26)) ∧ (tK t10 (gR m39 a 3) = 11 ∧ (wX12_good t10 (pI (pI m39 (gR m39 a 26) ((8 : Int32).toNatClampNeg) (-2)) a 28 0) a (gI (pI (pI m39 (gR m39 a 26) ((8 : Int32).toNatClampNeg) (-2)) a 28 0) (gR m39 a 3) 0) (fun r43 m44 => (Q r43 t10 m44))))))) n45 0 m33)) n46 0 (pR m15 a 3 (gR m15 a 4)))) ∧ (¬ (gI m15 a 13) ≤ 0 → (Q (-1) t10 (pI (pI m15 a 1 4) a 2 (gI (pI m15 a 1 4) a 14)))))))))))))))) ∧ (¬ p1 ≤ (gI (pI m a 0 0) a 6) → (wX12_school_J17 t (pI m a 0 0) a Q))))))
set_option maxHeartbeats 4000000 in
set_option maxRecDepth 20000 in
theorem kX12_school {l : Launch} {cap : Nat × Nat} {t : zT} {m : zM} {a : Nat} {p1 : Int32} {Q : Int32 → zT → zM → Prop} (H : wX12_school cap t m a p1 Q) : zMet l yX12_school cX12_school 5 (some .int) 14 cap.1 cap.2 t m [.ref a, .int p1] (zAi Q) := by
  refine zmet (by decide +kernel) (Nat.le_of_ble_eq_true rfl) ?_
  intro p e s mt args below meth c g C hr hm
  unfold wX12_school at H
  obtain ⟨mc, ms⟩ := cap
  refine z_aload_n (pc := 0) C (dX12_school_p0 0 rfl) rfl 0 rfl ?_
  refine z_iconst (pc := 1) (v := 0) C (dX12_school_p0 1 rfl) (by decide) ?_
  obtain ⟨h1, H⟩ := H
  refine z_putI (pc := 2) C zc12 h1 0 (by decide) rfl rfl wf_X12_41 (dX12_school_p0 2 rfl) ?_
  refine z_iload_n (pc := 5) C (dX12_school_p0 3 rfl) rfl 1 rfl ?_
  refine z_if_lt (pc := 6) (tgt := 17) C (dX12_school_p0 4 rfl) (by decide) (fun c2 => ?_) (fun c2 => ?_)
  · replace H := H.1 c2
    refine z_sub [0] rfl ?_
    exact sX12_school_J17 C hr hm (Nat.zero_le _) (Nat.zero_le _) H
  · replace H := H.2 c2
    refine z_iload_n (pc := 9) C (dX12_school_p0 5 rfl) rfl 1 rfl ?_
    refine z_aload_n (pc := 10) C (dX12_school_p0 6 rfl) rfl 0 rfl ?_
    refine z_getI (pc := 11) C zc12 h1 6 (by decide) rfl wf_X12_307 (dX12_school_p0 7 rfl) ?_
    refine z_icmp_le (pc := 14) (tgt := 23) C (dX12_school_p0 8 rfl) (by decide) (fun c6 => ?_) (fun c6 => ?_)
    · replace H := H.1 c6
      refine z_aload_n (pc := 23) C (dX12_school_p0 13 rfl) rfl 0 rfl ?_
      refine z_iload_n (pc := 24) C (dX12_school_p0 14 rfl) rfl 1 rfl ?_
      refine z_putI (pc := 25) C zc12 h1 7 (by decide) rfl rfl wf_X12_54 (dX12_school_p0 15 rfl) ?_
      refine z_aload_n (pc := 28) C (dX12_school_p0 16 rfl) rfl 0 rfl ?_
      refine z_iconst (pc := 29) (v := 0) C (dX12_school_p0 17 rfl) (by decide) ?_
      refine z_putI (pc := 30) C zc12 h1 6 (by decide) rfl rfl wf_X12_307 (dX12_school_p0 18 rfl) ?_
      refine z_aload_n (pc := 33) C (dX12_school_p0 19 rfl) rfl 0 rfl ?_
      refine z_iconst (pc := 34) (v := 0) C (dX12_school_p0 20 rfl) (by decide) ?_
      refine z_putI (pc := 35) C zc12 h1 8 (by decide) rfl rfl wf_X12_72 (dX12_school_p0 21 rfl) ?_
      refine z_aload_n (pc := 38) C (dX12_school_p0 22 rfl) rfl 0 rfl ?_
      refine z_iconst (pc := 39) (v := 0) C (dX12_school_p0 23 rfl) (by decide) ?_
      refine z_putI (pc := 40) C zc12 h1 13 (by decide) rfl rfl wf_X12_98 (dX12_school_p0 24 rfl) ?_
      refine z_aload_n (pc := 43) C (dX12_school_p0 25 rfl) rfl 0 rfl ?_
      obtain ⟨h49, H⟩ := H
      refine z_new (pc := 44) C zc11 wc_X12_150 wt_X11 wi_X11 (dX12_school_p0 26 rfl) h49.1 h49.2 (fun h50 => ?_)
      replace H := H h50
      refine z_dup (pc := 47) C (dX12_school_p0 27 rfl) rfl ?_
      obtain ⟨h48, H⟩ := H
      obtain ⟨k9, h47, H⟩ := H
      refine za_IvN (pc := 48) (rest := [.ref (tN t), .ref a]) C YX11_init wm_X12_310 h48 (kX11_init H) (by decide) (dX12_school_p0 28 rfl) rfl (by first | exact h47.1 | (have := h47.1; omega)) (by first | exact h47.2 | (have := h47.2; omega)) (Nat.le_of_ble_eq_true rfl) rfl (fun t10 m8 H => ?_)
      obtain ⟨h11, H⟩ := H
      refine z_putR (pc := 51) C zc12 h11 4 (by decide) rfl rfl wf_X12_145 (dX12_school_p0 29 rfl) ?_
      refine z_aload_n (pc := 54) C (dX12_school_p0 30 rfl) rfl 0 rfl ?_
      refine z_iconst (pc := 55) (v := 0) C (dX12_school_p0 31 rfl) (by decide) ?_
      refine z_putI (pc := 56) C zc12 h11 9 (by decide) rfl rfl wf_X12_69 (dX12_school_p0 32 rfl) ?_
      refine z_aload_n (pc := 59) C (dX12_school_p0 33 rfl) rfl 0 rfl ?_
      refine zc_Vv (pc := 60) (rest := []) C YX12_goesOn wl_X12_112 (kX12_goesOn H) (by decide) h11 rfl (by decide) (dX12_school_p0 34 rfl) rfl (by first | omega | (show _ ≤ mc; omega)) (by first | omega | (show _ ≤ ms; omega)) (Nat.le_of_ble_eq_true rfl) rfl (fun m13 H => ?_)
      refine z_aload_n (pc := 63) C (dX12_school_p0 35 rfl) rfl 0 rfl ?_
      refine zc_Vv (pc := 64) (rest := []) C YX12_readSchool wl_X12_311 (kX12_readSchool H) (by decide) h11 rfl (by decide) (dX12_school_p0 36 rfl) rfl (by first | omega | (show _ ≤ mc; omega)) (by first | omega | (show _ ≤ ms; omega)) (Nat.le_of_ble_eq_true rfl) rfl (fun m15 H => ?_)
      refine z_aload_n (pc := 67) C (dX12_school_p0 37 rfl) rfl 0 rfl ?_
      refine z_getI (pc := 68) C zc12 h11 13 (by decide) rfl wf_X12_98 (dX12_school_p0 38 rfl) ?_
      refine z_if_le (pc := 71) (tgt := 89) C (dX12_school_p0 39 rfl) (by decide) (fun c16 => ?_) (fun c16 => ?_)
      · replace H := H.1 c16
        refine z_aload_n (pc := 89) C (dX12_school_p0 49 rfl) rfl 0 rfl ?_
        refine z_aload_n (pc := 90) C (dX12_school_p0 50 rfl) rfl 0 rfl ?_
        refine z_getR (pc := 91) C zc12 h11 4 (by decide) rfl wf_X12_145 (dX12_school_p0 51 rfl) ?_
        refine z_putR (pc := 94) C zc12 h11 3 (by decide) rfl rfl wf_X12_314 (dX12_school_p0 52 rfl) ?_
        refine z_iconst (pc := 97) (v := 0) C (dX12_school_p0 53 rfl) (by decide) ?_
        refine z_istore_n (pc := 98) (i := 2) (lv2 := [(2, .int 0), (0, .ref a), (1, .int p1)]) C (dX12_school_p0 54 rfl) rfl (by decide) rfl ?_
        obtain ⟨n46, H⟩ := H
        refine z_sub [1, 0] rfl ?_
        refine sX12_school_L99 C hr hm (by first | omega | (show _ ≤ mc; omega)) (by first | omega | (show _ ≤ ms; omega)) (fun m33 H => ?_) n46 0 (pR m15 a 3 (gR m15 a 4)) H
        refine z_iconst (pc := 178) (v := 0) C (dX12_school_p0 98 rfl) (by decide) ?_
        refine z_istore_n (pc := 179) (i := 2) (lv2 := [(2, .int 0), (0, .ref a)]) C (dX12_school_p0 99 rfl) rfl (by decide) rfl ?_
        obtain ⟨n45, H⟩ := H
        refine z_sub [1, 0] rfl ?_
        refine sX12_school_L180 C hr hm (by first | omega | (show _ ≤ mc; omega)) (by first | omega | (show _ ≤ ms; omega)) (fun m39 H => ?_) n45 0 m33 H
        refine z_aload_n (pc := 210) C (dX12_school_p0 115 rfl) rfl 0 rfl ?_
        refine z_getR (pc := 211) C zc12 h11 26 (by decide) rfl wf_X12_35 (dX12_school_p0 116 rfl) ?_
        refine z_bipush (pc := 214) (v := 8) C (dX12_school_p0 117 rfl) (by decide) ?_
        refine z_bipush (pc := 216) (v := (-2)) C (dX12_school_p0 118 rfl) (by decide) ?_
        obtain ⟨h40, H⟩ := H
        obtain ⟨h41, H⟩ := H
        refine z_iastore (pc := 218) C h40 h41 (dX12_school_p0 119 rfl) ?_
        refine z_aload_n (pc := 219) C (dX12_school_p1 0 rfl) rfl 0 rfl ?_
        refine z_iconst (pc := 220) (v := 0) C (dX12_school_p1 1 rfl) (by decide) ?_
        refine z_putI (pc := 221) C zc12 h11 28 (by decide) rfl rfl wf_X12_317 (dX12_school_p1 2 rfl) ?_
        refine z_aload_n (pc := 224) C (dX12_school_p1 3 rfl) rfl 0 rfl ?_
        refine z_aload_n (pc := 225) C (dX12_school_p1 4 rfl) rfl 0 rfl ?_
        refine z_getR (pc := 226) C zc12 h11 3 (by decide) rfl wf_X12_314 (dX12_school_p1 5 rfl) ?_
        obtain ⟨h42, H⟩ := H
        refine z_getIN (pc := 229) C zc11 h42 0 (by decide) rfl wn_X12_180 (dX12_school_p1 6 rfl) ?_
        refine zc_Vi (pc := 232) (rest := []) C YX12_good wl_X12_51 (kX12_good H) (by decide) h11 rfl (by decide) (dX12_school_p1 7 rfl) rfl (by first | omega | (show _ ≤ mc; omega)) (by first | omega | (show _ ≤ ms; omega)) (Nat.le_of_ble_eq_true rfl) rfl (fun r43 m44 H => ?_)
        exact z_iret (pc := 235) C hr (by first | omega | (show _ ≤ mc; omega)) (by first | omega | (show _ ≤ ms; omega)) (dX12_school_p1 8 rfl) ⟨_, rfl, H⟩
      · replace H := H.2 c16
        refine z_aload_n (pc := 74) C (dX12_school_p0 40 rfl) rfl 0 rfl ?_
        refine z_iconst (pc := 75) (v := 4) C (dX12_school_p0 41 rfl) (by decide) ?_
        refine z_putI (pc := 76) C zc12 h11 1 (by decide) rfl rfl wf_X12_44 (dX12_school_p0 42 rfl) ?_
        refine z_aload_n (pc := 79) C (dX12_school_p0 43 rfl) rfl 0 rfl ?_
        refine z_aload_n (pc := 80) C (dX12_school_p0 44 rfl) rfl 0 rfl ?_
        refine z_getI (pc := 81) C zc12 h11 14 (by decide) rfl wf_X12_101 (dX12_school_p0 45 rfl) ?_
        refine z_putI (pc := 84) C zc12 h11 2 (by decide) rfl rfl wf_X12_9 (dX12_school_p0 46 rfl) ?_
        refine z_iconst (pc := 87) (v := (-1)) C (dX12_school_p0 47 rfl) (by decide) ?_
        exact z_iret (pc := 88) C hr (by first | omega | (show _ ≤ mc; omega)) (by first | omega | (show _ ≤ ms; omega)) (dX12_school_p0 48 rfl) ⟨_, rfl, H⟩
    · replace H := H.2 c6
      refine z_sub [0] rfl ?_
      exact sX12_school_J17 C hr hm (Nat.zero_le _) (Nat.zero_le _) H
def wX12_fault (t : zT) (m : zM) (a : Nat) (Q : Int32 → zM → Prop) : Prop := (tK t a = 12 ∧ (Q (gI (pI m a 0 0) a 13) (pI m a 0 0)))
set_option maxHeartbeats 4000000 in
set_option maxRecDepth 20000 in
theorem kX12_fault {l : Launch} {t : zT} {m : zM} {a : Nat} {Q : Int32 → zM → Prop} (H : wX12_fault t m a Q) : zMet l yX12_fault cX12_fault 1 (some .int) 0 0 0 t m [.ref a] (zPi t Q) := by
  refine zmet (by decide +kernel) (Nat.le_of_ble_eq_true rfl) ?_
  intro p e s mt args below meth c g C hr hm
  unfold wX12_fault at H
  have hu1 : ((0, 0) : Nat × Nat).1 ≤ 0 := Nat.le_refl 0
  have hu2 : ((0, 0) : Nat × Nat).2 ≤ 0 := Nat.le_refl 0
  refine z_aload_n (pc := 0) C (dX12_fault 0 rfl) rfl 0 rfl ?_
  refine z_iconst (pc := 1) (v := 0) C (dX12_fault 1 rfl) (by decide) ?_
  obtain ⟨h1, H⟩ := H
  refine z_putI (pc := 2) C zc12 h1 0 (by decide) rfl rfl wf_X12_41 (dX12_fault 2 rfl) ?_
  refine z_aload_n (pc := 5) C (dX12_fault 3 rfl) rfl 0 rfl ?_
  refine z_getI (pc := 6) C zc12 h1 13 (by decide) rfl wf_X12_98 (dX12_fault 4 rfl) ?_
  exact z_iret (pc := 9) C hr hu1 hu2 (dX12_fault 5 rfl) ⟨rfl, _, rfl, H⟩
def wX12_where (t : zT) (m : zM) (a : Nat) (Q : Int32 → zM → Prop) : Prop := (tK t a = 12 ∧ (Q (gI (pI m a 0 0) a 2) (pI m a 0 0)))
set_option maxHeartbeats 4000000 in
set_option maxRecDepth 20000 in
theorem kX12_where {l : Launch} {t : zT} {m : zM} {a : Nat} {Q : Int32 → zM → Prop} (H : wX12_where t m a Q) : zMet l yX12_where cX12_where 1 (some .int) 0 0 0 t m [.ref a] (zPi t Q) := by
  refine zmet (by decide +kernel) (Nat.le_of_ble_eq_true rfl) ?_
  intro p e s mt args below meth c g C hr hm
  unfold wX12_where at H
  have hu1 : ((0, 0) : Nat × Nat).1 ≤ 0 := Nat.le_refl 0
  have hu2 : ((0, 0) : Nat × Nat).2 ≤ 0 := Nat.le_refl 0
  refine z_aload_n (pc := 0) C (dX12_where 0 rfl) rfl 0 rfl ?_
  refine z_iconst (pc := 1) (v := 0) C (dX12_where 1 rfl) (by decide) ?_
  obtain ⟨h1, H⟩ := H
  refine z_putI (pc := 2) C zc12 h1 0 (by decide) rfl rfl wf_X12_41 (dX12_where 2 rfl) ?_
  refine z_aload_n (pc := 5) C (dX12_where 3 rfl) rfl 0 rfl ?_
  refine z_getI (pc := 6) C zc12 h1 2 (by decide) rfl wf_X12_9 (dX12_where 4 rfl) ?_
  exact z_iret (pc := 9) C hr hu1 hu2 (dX12_where 5 rfl) ⟨rfl, _, rfl, H⟩
def wX12_answerOf (t : zT) (m : zM) (a : Nat) (p1 : Int32) (p2 : Int32) (Q : Int32 → zM → Prop) : Prop := (tK t a = 12 ∧ (tK t (gR m a 16) = 13 ∧ (vp_in (((8 : Int32) * p1) + p2) (tL t (gR m a 16)) ∧ (Q (gI m (gR m a 16) ((((8 : Int32) * p1) + p2).toNatClampNeg)) m))))
set_option maxHeartbeats 4000000 in
set_option maxRecDepth 20000 in
theorem kX12_answerOf {l : Launch} {t : zT} {m : zM} {a : Nat} {p1 : Int32} {p2 : Int32} {Q : Int32 → zM → Prop} (H : wX12_answerOf t m a p1 p2 Q) : zMet l yX12_answerOf cX12_answerOf 3 (some .int) 0 0 0 t m [.ref a, .int p1, .int p2] (zPi t Q) := by
  refine zmet (by decide +kernel) (Nat.le_of_ble_eq_true rfl) ?_
  intro p e s mt args below meth c g C hr hm
  unfold wX12_answerOf at H
  have hu1 : ((0, 0) : Nat × Nat).1 ≤ 0 := Nat.le_refl 0
  have hu2 : ((0, 0) : Nat × Nat).2 ≤ 0 := Nat.le_refl 0
  refine z_aload_n (pc := 0) C (dX12_answerOf 0 rfl) rfl 0 rfl ?_
  obtain ⟨h1, H⟩ := H
  refine z_getR (pc := 1) C zc12 h1 16 (by decide) rfl wf_X12_18 (dX12_answerOf 1 rfl) ?_
  refine z_bipush (pc := 4) (v := 8) C (dX12_answerOf 2 rfl) (by decide) ?_
  refine z_iload_n (pc := 6) C (dX12_answerOf 3 rfl) rfl 1 rfl ?_
  refine z_imul (pc := 7) C (dX12_answerOf 4 rfl) ?_
  refine z_iload_n (pc := 8) C (dX12_answerOf 5 rfl) rfl 2 rfl ?_
  refine z_iadd (pc := 9) C (dX12_answerOf 6 rfl) ?_
  obtain ⟨h2, H⟩ := H
  obtain ⟨h3, H⟩ := H
  refine z_baload (pc := 10) C h2 h3 (dX12_answerOf 7 rfl) ?_
  exact z_iret (pc := 11) C hr hu1 hu2 (dX12_answerOf 8 rfl) ⟨rfl, _, rfl, H⟩
def wX12_isRight (t : zT) (m : zM) (a : Nat) (p1 : Int32) (p2 : Int32) (Q : Int32 → zM → Prop) : Prop := (tK t a = 12 ∧ (tK t (gR m a 3) = 11 ∧ (tK t (gR m (gR m a 3) 19) = 14 ∧ (vp_in p2 (tL t (gR m (gR m a 3) 19)) ∧ (wX12_answerOf t m a p1 (gI m (gR m (gR m a 3) 19) p2.toNatClampNeg) (fun r5 m6 => (tK t (gR m6 a 3) = 11 ∧ (tK t (gR m6 (gR m6 a 3) 20) = 14 ∧ (vp_in p2 (tL t (gR m6 (gR m6 a 3) 20)) ∧ ((r5 = (gI m6 (gR m6 (gR m6 a 3) 20) p2.toNatClampNeg) → (Q 1 m6)) ∧ (¬ r5 = (gI m6 (gR m6 (gR m6 a 3) 20) p2.toNatClampNeg) → (Q 0 m6))))))))))))
set_option maxHeartbeats 4000000 in
set_option maxRecDepth 20000 in
theorem kX12_isRight {l : Launch} {t : zT} {m : zM} {a : Nat} {p1 : Int32} {p2 : Int32} {Q : Int32 → zM → Prop} (H : wX12_isRight t m a p1 p2 Q) : zMet l yX12_isRight cX12_isRight 3 (some .boolean) 1 0 0 t m [.ref a, .int p1, .int p2] (zPi t Q) := by
  refine zmet (by decide +kernel) (Nat.le_of_ble_eq_true rfl) ?_
  intro p e s mt args below meth c g C hr hm
  unfold wX12_isRight at H
  have hu1 : ((0, 0) : Nat × Nat).1 ≤ 0 := Nat.le_refl 0
  have hu2 : ((0, 0) : Nat × Nat).2 ≤ 0 := Nat.le_refl 0
  refine z_aload_n (pc := 0) C (dX12_isRight 0 rfl) rfl 0 rfl ?_
  refine z_iload_n (pc := 1) C (dX12_isRight 1 rfl) rfl 1 rfl ?_
  refine z_aload_n (pc := 2) C (dX12_isRight 2 rfl) rfl 0 rfl ?_
  obtain ⟨h1, H⟩ := H
  refine z_getR (pc := 3) C zc12 h1 3 (by decide) rfl wf_X12_314 (dX12_isRight 3 rfl) ?_
  obtain ⟨h2, H⟩ := H
  refine z_getRN (pc := 6) C zc11 h2 19 (by decide) rfl wn_X12_283 (dX12_isRight 4 rfl) ?_
  refine z_iload_n (pc := 9) C (dX12_isRight 5 rfl) rfl 2 rfl ?_
  obtain ⟨h3, H⟩ := H
  obtain ⟨h4, H⟩ := H
  refine z_iaload (pc := 10) C h3 h4 (dX12_isRight 6 rfl) ?_
  refine zc_Vi (pc := 11) (rest := []) C YX12_answerOf wl_X12_320 (kX12_answerOf H) (by decide) h1 rfl (by decide) (dX12_isRight 7 rfl) rfl hu1 hu2 (Nat.le_of_ble_eq_true rfl) rfl (fun r5 m6 H => ?_)
  refine z_aload_n (pc := 14) C (dX12_isRight 8 rfl) rfl 0 rfl ?_
  refine z_getR (pc := 15) C zc12 h1 3 (by decide) rfl wf_X12_314 (dX12_isRight 9 rfl) ?_
  obtain ⟨h7, H⟩ := H
  refine z_getRN (pc := 18) C zc11 h7 20 (by decide) rfl wn_X12_286 (dX12_isRight 10 rfl) ?_
  refine z_iload_n (pc := 21) C (dX12_isRight 11 rfl) rfl 2 rfl ?_
  obtain ⟨h8, H⟩ := H
  obtain ⟨h9, H⟩ := H
  refine z_iaload (pc := 22) C h8 h9 (dX12_isRight 12 rfl) ?_
  refine z_icmp_ne (pc := 23) (tgt := 30) C (dX12_isRight 13 rfl) (by decide) (fun c10 => ?_) (fun c10 => ?_)
  · replace H := H.2 c10
    refine z_iconst (pc := 30) (v := 0) C (dX12_isRight 16 rfl) (by decide) ?_
    exact z_zret (pc := 31) C hr (by decide) hu1 hu2 (dX12_isRight 17 rfl) ⟨rfl, _, rfl, H⟩
  · replace H := H.1 c10
    refine z_iconst (pc := 26) (v := 1) C (dX12_isRight 14 rfl) (by decide) ?_
    refine z_goto (pc := 27) (tgt := 31) C (dX12_isRight 15 rfl) (by decide) ?_
    exact z_zret (pc := 31) C hr (by decide) hu1 hu2 (dX12_isRight 17 rfl) ⟨rfl, _, rfl, H⟩
def wX12_isFollowed_J67 (t : zT) (m : zM) (a_0 : Nat) (x_1 : Int32) (x_2 : Int32) (Q : Int32 → zM → Prop) (r2 : Int32 → zM → Prop) : Prop := (r2 (x_2 + 1) m)
set_option maxHeartbeats 4000000 in
set_option maxRecDepth 20000 in
theorem sX12_isFollowed_J67 {p : Program} {l : Launch} {e : Env} {s : State} {mt : MethodId} {args : Array Value} {below : List Frame} {meth : Method} {c : Code} {g : zG} {u : Nat × Nat} {mc ms : Nat} {t : zT} {m : zM} {a_0 : Nat} {x_1 : Int32} {x_2 : Int32} {Q : Int32 → zM → Prop} {r2 : Int32 → zM → Prop} (C : zC p (zRm 1 mc ms) s mt args meth c g cX12_isFollowed 3 yX12_isFollowed.cls 1) (hr : meth.sig.returnType = (some .boolean)) (hm : meth.name = yX12_isFollowed.name) (hu1 : u.1 ≤ mc) (hu2 : u.2 ≤ ms)
    (R2 : ∀ (v0 : Int32) (m : zM), r2 v0 m → zW p l e (zRm 1 mc ms) s mt args below meth c g (MQ below (zQc g (zPi t Q)) args s mc ms (zFar g)) u 3 t m 2 [(0, .ref a_0), (1, .int x_1), (2, .int v0)] []) (H : wX12_isFollowed_J67 t m a_0 x_1 x_2 Q r2) : zW p l e (zRm 1 mc ms) s mt args below meth c g (MQ below (zQc g (zPi t Q)) args s mc ms (zFar g)) u 3 t m 67 [(0, .ref a_0), (1, .int x_1), (2, .int x_2)] [] := by
  unfold wX12_isFollowed_J67 at H
  refine z_iinc (pc := 67) (i := 2) (v := x_2 + 1) (lv2 := [(2, .int (x_2 + 1)), (0, .ref a_0), (1, .int x_1)]) C (dX12_isFollowed 37 rfl) 2 rfl (by rfl) (by decide) rfl ?_
  refine z_goto (pc := 70) (tgt := 2) C (dX12_isFollowed 38 rfl) (by decide) ?_
  refine z_sub [1, 2, 0] rfl ?_
  exact R2 (x_2 + 1) m H
def wX12_isFollowed_L2 (t : zT) (a_0 : Nat) (x_1 : Int32) (Q : Int32 → zM → Prop) (k73 : zM → Prop) : Nat → Int32 → zM → Prop
  | 0, _, _ => False
  | n + 1, x_2, m => (tK t a_0 = 12 ∧ (tK t (gR m a_0 3) = 11 ∧ (((gI m (gR m a_0 3) 1) ≤ x_2 → (k73 m)) ∧ (¬ (gI m (gR m a_0 3) 1) ≤ x_2 → (tK t (gR m (gR m a_0 3) 14) = 14 ∧ (vp_in x_2 (tL t (gR m (gR m a_0 3) 14)) ∧ (wX12_answerOf t m a_0 x_1 (gI m (gR m (gR m a_0 3) 14) x_2.toNatClampNeg) (fun r6 m7 => (tK t (gR m7 a_0 3) = 11 ∧ (tK t (gR m7 (gR m7 a_0 3) 15) = 14 ∧ (vp_in x_2 (tL t (gR m7 (gR m7 a_0 3) 15)) ∧ ((r6 = (gI m7 (gR m7 (gR m7 a_0 3) 15) x_2.toNatClampNeg) → (tK t (gR m7 (gR m7 a_0 3) 16) = 14 ∧ (vp_in x_2 (tL t (gR m7 (gR m7 a_0 3) 16)) ∧ (wX12_answerOf t m7 a_0 x_1 (gI m7 (gR m7 (gR m7 a_0 3) 16) x_2.toNatClampNeg) (fun r14 m15 => (tK t (gR m15 a_0 3) = 11 ∧ (tK t (gR m15 (gR m15 a_0 3) 17) = 14 ∧ (vp_in x_2 (tL t (gR m15 (gR m15 a_0 3) 17)) ∧ ((r14 = (gI m15 (gR m15 (gR m15 a_0 3) 17) x_2.toNatClampNeg) → (wX12_isFollowed_J67 t m15 a_0 x_1 x_2 Q (wX12_isFollowed_L2 t a_0 x_1 Q k73 n))) ∧ (¬ r14 = (gI m15 (gR m15 (gR m15 a_0 3) 17) x_2.toNatClampNeg) → (Q 0 m15))))))))))) ∧ (¬ r6 = (gI m7 (gR m7 (gR m7 a_0 3) 15) x_2.toNatClampNeg) → (wX12_isFollowed_J67 t m7 a_0 x_1 x_2 Q (wX12_isFollowed_L2 t a_0 x_1 Q k73 n)))))))))))))))
set_option maxHeartbeats 4000000 in
set_option maxRecDepth 20000 in
theorem sX12_isFollowed_L2 {p : Program} {l : Launch} {e : Env} {s : State} {mt : MethodId} {args : Array Value} {below : List Frame} {meth : Method} {c : Code} {g : zG} {u : Nat × Nat} {mc ms : Nat} {t : zT} {a_0 : Nat} {x_1 : Int32} {Q : Int32 → zM → Prop} {k73 : zM → Prop} (C : zC p (zRm 1 mc ms) s mt args meth c g cX12_isFollowed 3 yX12_isFollowed.cls 1) (hr : meth.sig.returnType = (some .boolean)) (hm : meth.name = yX12_isFollowed.name) (hu1 : u.1 ≤ mc) (hu2 : u.2 ≤ ms)
    (K73 : ∀ (m : zM), k73 m → zW p l e (zRm 1 mc ms) s mt args below meth c g (MQ below (zQc g (zPi t Q)) args s mc ms (zFar g)) u 3 t m 73 [] []) : ∀ (n : Nat) (x_2 : Int32) (m : zM), wX12_isFollowed_L2 t a_0 x_1 Q k73 n x_2 m → zW p l e (zRm 1 mc ms) s mt args below meth c g (MQ below (zQc g (zPi t Q)) args s mc ms (zFar g)) u 3 t m 2 [(0, .ref a_0), (1, .int x_1), (2, .int x_2)] [] := by
  intro n
  induction n with
  | zero => intro x_2 m H; exact H.elim
  | succ n ih =>
    intro x_2 m H
    simp only [wX12_isFollowed_L2] at H
    refine z_iload_n (pc := 2) C (dX12_isFollowed 2 rfl) rfl 2 rfl ?_
    refine z_aload_n (pc := 3) C (dX12_isFollowed 3 rfl) rfl 0 rfl ?_
    obtain ⟨h1, H⟩ := H
    refine z_getR (pc := 4) C zc12 h1 3 (by decide) rfl wf_X12_314 (dX12_isFollowed 4 rfl) ?_
    obtain ⟨h2, H⟩ := H
    refine z_getIN (pc := 7) C zc11 h2 1 (by decide) rfl wn_X12_223 (dX12_isFollowed 5 rfl) ?_
    refine z_icmp_ge (pc := 10) (tgt := 73) C (dX12_isFollowed 6 rfl) (by decide) (fun c3 => ?_) (fun c3 => ?_)
    · replace H := H.1 c3
      refine z_sub [] rfl ?_
      exact K73 m H
    · replace H := H.2 c3
      refine z_aload_n (pc := 13) C (dX12_isFollowed 7 rfl) rfl 0 rfl ?_
      refine z_iload_n (pc := 14) C (dX12_isFollowed 8 rfl) rfl 1 rfl ?_
      refine z_aload_n (pc := 15) C (dX12_isFollowed 9 rfl) rfl 0 rfl ?_
      refine z_getR (pc := 16) C zc12 h1 3 (by decide) rfl wf_X12_314 (dX12_isFollowed 10 rfl) ?_
      refine z_getRN (pc := 19) C zc11 h2 14 (by decide) rfl wn_X12_234 (dX12_isFollowed 11 rfl) ?_
      refine z_iload_n (pc := 22) C (dX12_isFollowed 12 rfl) rfl 2 rfl ?_
      obtain ⟨h4, H⟩ := H
      obtain ⟨h5, H⟩ := H
      refine z_iaload (pc := 23) C h4 h5 (dX12_isFollowed 13 rfl) ?_
      refine zc_Vi (pc := 24) (rest := []) C YX12_answerOf wl_X12_320 (kX12_answerOf H) (by decide) h1 rfl (by decide) (dX12_isFollowed 14 rfl) rfl hu1 hu2 (Nat.le_of_ble_eq_true rfl) rfl (fun r6 m7 H => ?_)
      refine z_aload_n (pc := 27) C (dX12_isFollowed 15 rfl) rfl 0 rfl ?_
      refine z_getR (pc := 28) C zc12 h1 3 (by decide) rfl wf_X12_314 (dX12_isFollowed 16 rfl) ?_
      obtain ⟨h8, H⟩ := H
      refine z_getRN (pc := 31) C zc11 h8 15 (by decide) rfl wn_X12_237 (dX12_isFollowed 17 rfl) ?_
      refine z_iload_n (pc := 34) C (dX12_isFollowed 18 rfl) rfl 2 rfl ?_
      obtain ⟨h9, H⟩ := H
      obtain ⟨h10, H⟩ := H
      refine z_iaload (pc := 35) C h9 h10 (dX12_isFollowed 19 rfl) ?_
      refine z_icmp_ne (pc := 36) (tgt := 67) C (dX12_isFollowed 20 rfl) (by decide) (fun c11 => ?_) (fun c11 => ?_)
      · replace H := H.2 c11
        refine z_sub [0, 1, 2] rfl ?_
        exact sX12_isFollowed_J67 C hr hm hu1 hu2 ih H
      · replace H := H.1 c11
        refine z_aload_n (pc := 39) C (dX12_isFollowed 21 rfl) rfl 0 rfl ?_
        refine z_iload_n (pc := 40) C (dX12_isFollowed 22 rfl) rfl 1 rfl ?_
        refine z_aload_n (pc := 41) C (dX12_isFollowed 23 rfl) rfl 0 rfl ?_
        refine z_getR (pc := 42) C zc12 h1 3 (by decide) rfl wf_X12_314 (dX12_isFollowed 24 rfl) ?_
        refine z_getRN (pc := 45) C zc11 h8 16 (by decide) rfl wn_X12_240 (dX12_isFollowed 25 rfl) ?_
        refine z_iload_n (pc := 48) C (dX12_isFollowed 26 rfl) rfl 2 rfl ?_
        obtain ⟨h12, H⟩ := H
        obtain ⟨h13, H⟩ := H
        refine z_iaload (pc := 49) C h12 h13 (dX12_isFollowed 27 rfl) ?_
        refine zc_Vi (pc := 50) (rest := []) C YX12_answerOf wl_X12_320 (kX12_answerOf H) (by decide) h1 rfl (by decide) (dX12_isFollowed 28 rfl) rfl hu1 hu2 (Nat.le_of_ble_eq_true rfl) rfl (fun r14 m15 H => ?_)
        refine z_aload_n (pc := 53) C (dX12_isFollowed 29 rfl) rfl 0 rfl ?_
        refine z_getR (pc := 54) C zc12 h1 3 (by decide) rfl wf_X12_314 (dX12_isFollowed 30 rfl) ?_
        obtain ⟨h16, H⟩ := H
        refine z_getRN (pc := 57) C zc11 h16 17 (by decide) rfl wn_X12_243 (dX12_isFollowed 31 rfl) ?_
        refine z_iload_n (pc := 60) C (dX12_isFollowed 32 rfl) rfl 2 rfl ?_
        obtain ⟨h17, H⟩ := H
        obtain ⟨h18, H⟩ := H
        refine z_iaload (pc := 61) C h17 h18 (dX12_isFollowed 33 rfl) ?_
        refine z_icmp_eq (pc := 62) (tgt := 67) C (dX12_isFollowed 34 rfl) (by decide) (fun c19 => ?_) (fun c19 => ?_)
        · replace H := H.1 c19
          refine z_sub [0, 1, 2] rfl ?_
          exact sX12_isFollowed_J67 C hr hm hu1 hu2 ih H
        · replace H := H.2 c19
          refine z_iconst (pc := 65) (v := 0) C (dX12_isFollowed 35 rfl) (by decide) ?_
          exact z_zret (pc := 66) C hr (by decide) hu1 hu2 (dX12_isFollowed 36 rfl) ⟨rfl, _, rfl, H⟩
def wX12_isFollowed (t : zT) (m : zM) (a : Nat) (p1 : Int32) (Q : Int32 → zM → Prop) : Prop := (∃ n21, wX12_isFollowed_L2 t a p1 Q (fun m20 => (Q 1 m20)) n21 0 m)
set_option maxHeartbeats 4000000 in
set_option maxRecDepth 20000 in
theorem kX12_isFollowed {l : Launch} {t : zT} {m : zM} {a : Nat} {p1 : Int32} {Q : Int32 → zM → Prop} (H : wX12_isFollowed t m a p1 Q) : zMet l yX12_isFollowed cX12_isFollowed 3 (some .boolean) 1 0 0 t m [.ref a, .int p1] (zPi t Q) := by
  refine zmet (by decide +kernel) (Nat.le_of_ble_eq_true rfl) ?_
  intro p e s mt args below meth c g C hr hm
  unfold wX12_isFollowed at H
  have hu1 : ((0, 0) : Nat × Nat).1 ≤ 0 := Nat.le_refl 0
  have hu2 : ((0, 0) : Nat × Nat).2 ≤ 0 := Nat.le_refl 0
  refine z_iconst (pc := 0) (v := 0) C (dX12_isFollowed 0 rfl) (by decide) ?_
  refine z_istore_n (pc := 1) (i := 2) (lv2 := [(2, .int 0), (0, .ref a), (1, .int p1)]) C (dX12_isFollowed 1 rfl) rfl (by decide) rfl ?_
  obtain ⟨n21, H⟩ := H
  refine z_sub [1, 2, 0] rfl ?_
  refine sX12_isFollowed_L2 C hr hm hu1 hu2 (fun m20 H => ?_) n21 0 m H
  refine z_iconst (pc := 73) (v := 1) C (dX12_isFollowed 39 rfl) (by decide) ?_
  exact z_zret (pc := 74) C hr (by decide) hu1 hu2 (dX12_isFollowed 40 rfl) ⟨rfl, _, rfl, H⟩
def wX12_isLawfulMaster_J152 (t : zT) (m : zM) (a_0 : Nat) (x_1 : Int32) (x_2 : Int32) (x_3 : Int32) (x_4 : Int32) (x_5 : Int32) (x_6 : Int32) (x_7 : Int32) (x_8 : Int32) (Q : Int32 → zM → Prop) (r20 : Int32 → Int32 → Int32 → zM → Prop) : Prop := (r20 x_6 x_7 (x_8 + 1) m)
set_option maxHeartbeats 4000000 in
set_option maxRecDepth 20000 in
theorem sX12_isLawfulMaster_J152 {p : Program} {l : Launch} {e : Env} {s : State} {mt : MethodId} {args : Array Value} {below : List Frame} {meth : Method} {c : Code} {g : zG} {u : Nat × Nat} {mc ms : Nat} {t : zT} {m : zM} {a_0 : Nat} {x_1 : Int32} {x_2 : Int32} {x_3 : Int32} {x_4 : Int32} {x_5 : Int32} {x_6 : Int32} {x_7 : Int32} {x_8 : Int32} {Q : Int32 → zM → Prop} {r20 : Int32 → Int32 → Int32 → zM → Prop} (C : zC p (zRm 2 mc ms) s mt args meth c g cX12_isLawfulMaster 10 yX12_isLawfulMaster.cls 2) (hr : meth.sig.returnType = (some .boolean)) (hm : meth.name = yX12_isLawfulMaster.name) (hu1 : u.1 ≤ mc) (hu2 : u.2 ≤ ms)
    (R20 : ∀ (v0 : Int32) (v1 : Int32) (v2 : Int32) (m : zM), r20 v0 v1 v2 m → zW p l e (zRm 2 mc ms) s mt args below meth c g (MQ below (zQc g (zPi t Q)) args s mc ms (zFar g)) u 10 t m 20 [(0, .ref a_0), (1, .int x_1), (2, .int x_2), (3, .int x_3), (4, .int x_4), (5, .int x_5), (6, .int v0), (7, .int v1), (8, .int v2)] []) (H : wX12_isLawfulMaster_J152 t m a_0 x_1 x_2 x_3 x_4 x_5 x_6 x_7 x_8 Q r20) : zW p l e (zRm 2 mc ms) s mt args below meth c g (MQ below (zQc g (zPi t Q)) args s mc ms (zFar g)) u 10 t m 152 [(0, .ref a_0), (1, .int x_1), (2, .int x_2), (3, .int x_3), (4, .int x_4), (5, .int x_5), (6, .int x_6), (7, .int x_7), (8, .int x_8)] [] := by
  unfold wX12_isLawfulMaster_J152 at H
  refine z_iinc (pc := 152) (i := 8) (v := x_8 + 1) (lv2 := [(8, .int (x_8 + 1)), (0, .ref a_0), (1, .int x_1), (2, .int x_2), (3, .int x_3), (4, .int x_4), (5, .int x_5), (6, .int x_6), (7, .int x_7)]) C (dX12_isLawfulMaster 78 rfl) 8 rfl (by rfl) (by decide) rfl ?_
  refine z_goto (pc := 155) (tgt := 20) C (dX12_isLawfulMaster 79 rfl) (by decide) ?_
  refine z_sub [1, 2, 3, 4, 5, 6, 7, 8, 0] rfl ?_
  exact R20 x_6 x_7 (x_8 + 1) m H
def wX12_isLawfulMaster_J148 (t : zT) (m : zM) (a_0 : Nat) (x_1 : Int32) (x_2 : Int32) (x_3 : Int32) (x_4 : Int32) (x_5 : Int32) (x_7 : Int32) (x_8 : Int32) (x_9 : Int32) (Q : Int32 → zM → Prop) (r20 : Int32 → Int32 → Int32 → zM → Prop) : Prop := (wX12_isLawfulMaster_J152 t m a_0 x_1 x_2 x_3 x_4 x_5 x_9 x_7 x_8 Q r20)
set_option maxHeartbeats 4000000 in
set_option maxRecDepth 20000 in
theorem sX12_isLawfulMaster_J148 {p : Program} {l : Launch} {e : Env} {s : State} {mt : MethodId} {args : Array Value} {below : List Frame} {meth : Method} {c : Code} {g : zG} {u : Nat × Nat} {mc ms : Nat} {t : zT} {m : zM} {a_0 : Nat} {x_1 : Int32} {x_2 : Int32} {x_3 : Int32} {x_4 : Int32} {x_5 : Int32} {x_7 : Int32} {x_8 : Int32} {x_9 : Int32} {Q : Int32 → zM → Prop} {r20 : Int32 → Int32 → Int32 → zM → Prop} (C : zC p (zRm 2 mc ms) s mt args meth c g cX12_isLawfulMaster 10 yX12_isLawfulMaster.cls 2) (hr : meth.sig.returnType = (some .boolean)) (hm : meth.name = yX12_isLawfulMaster.name) (hu1 : u.1 ≤ mc) (hu2 : u.2 ≤ ms)
    (R20 : ∀ (v0 : Int32) (v1 : Int32) (v2 : Int32) (m : zM), r20 v0 v1 v2 m → zW p l e (zRm 2 mc ms) s mt args below meth c g (MQ below (zQc g (zPi t Q)) args s mc ms (zFar g)) u 10 t m 20 [(0, .ref a_0), (1, .int x_1), (2, .int x_2), (3, .int x_3), (4, .int x_4), (5, .int x_5), (6, .int v0), (7, .int v1), (8, .int v2)] []) (H : wX12_isLawfulMaster_J148 t m a_0 x_1 x_2 x_3 x_4 x_5 x_7 x_8 x_9 Q r20) : zW p l e (zRm 2 mc ms) s mt args below meth c g (MQ below (zQc g (zPi t Q)) args s mc ms (zFar g)) u 10 t m 148 [(0, .ref a_0), (1, .int x_1), (2, .int x_2), (3, .int x_3), (4, .int x_4), (5, .int x_5), (7, .int x_7), (8, .int x_8), (9, .int x_9)] [] := by
  unfold wX12_isLawfulMaster_J148 at H
  refine z_iload (pc := 148) C (dX12_isLawfulMaster 76 rfl) 8 rfl ?_
  refine z_istore (pc := 150) (i := 6) (lv2 := [(6, .int x_9), (0, .ref a_0), (1, .int x_1), (2, .int x_2), (3, .int x_3), (4, .int x_4), (5, .int x_5), (7, .int x_7), (8, .int x_8), (9, .int x_9)]) C (dX12_isLawfulMaster 77 rfl) (by decide) rfl ?_
  refine z_sub [1, 2, 3, 4, 5, 6, 0, 7, 8] rfl ?_
  exact sX12_isLawfulMaster_J152 C hr hm hu1 hu2 R20 H
def wX12_isLawfulMaster_J126 (t : zT) (m : zM) (a_0 : Nat) (x_1 : Int32) (x_2 : Int32) (x_3 : Int32) (x_4 : Int32) (x_5 : Int32) (x_7 : Int32) (x_8 : Int32) (x_9 : Int32) (Q : Int32 → zM → Prop) (r20 : Int32 → Int32 → Int32 → zM → Prop) : Prop := ((x_9 = 0 → (tK t a_0 = 12 ∧ (tK t (gR m a_0 3) = 11 ∧ (tK t (gR m (gR m a_0 3) 19) = 14 ∧ (vp_in x_8 (tL t (gR m (gR m a_0 3) 19)) ∧ (∀ x27 : Int32, x27 = (x_7 ||| ((1 : Int32) <<< ((gI m (gR m (gR m a_0 3) 19) x_8.toNatClampNeg) &&& 31))) → ((wX12_isLawfulMaster_J148 t m a_0 x_1 x_2 x_3 x_4 x_5 x27 x_8 x_9 Q r20)))))))) ∧ (¬ x_9 = 0 → (wX12_isLawfulMaster_J148 t m a_0 x_1 x_2 x_3 x_4 x_5 x_7 x_8 x_9 Q r20)))
set_option maxHeartbeats 4000000 in
set_option maxRecDepth 20000 in
theorem sX12_isLawfulMaster_J126 {p : Program} {l : Launch} {e : Env} {s : State} {mt : MethodId} {args : Array Value} {below : List Frame} {meth : Method} {c : Code} {g : zG} {u : Nat × Nat} {mc ms : Nat} {t : zT} {m : zM} {a_0 : Nat} {x_1 : Int32} {x_2 : Int32} {x_3 : Int32} {x_4 : Int32} {x_5 : Int32} {x_7 : Int32} {x_8 : Int32} {x_9 : Int32} {Q : Int32 → zM → Prop} {r20 : Int32 → Int32 → Int32 → zM → Prop} (C : zC p (zRm 2 mc ms) s mt args meth c g cX12_isLawfulMaster 10 yX12_isLawfulMaster.cls 2) (hr : meth.sig.returnType = (some .boolean)) (hm : meth.name = yX12_isLawfulMaster.name) (hu1 : u.1 ≤ mc) (hu2 : u.2 ≤ ms)
    (R20 : ∀ (v0 : Int32) (v1 : Int32) (v2 : Int32) (m : zM), r20 v0 v1 v2 m → zW p l e (zRm 2 mc ms) s mt args below meth c g (MQ below (zQc g (zPi t Q)) args s mc ms (zFar g)) u 10 t m 20 [(0, .ref a_0), (1, .int x_1), (2, .int x_2), (3, .int x_3), (4, .int x_4), (5, .int x_5), (6, .int v0), (7, .int v1), (8, .int v2)] []) (H : wX12_isLawfulMaster_J126 t m a_0 x_1 x_2 x_3 x_4 x_5 x_7 x_8 x_9 Q r20) : zW p l e (zRm 2 mc ms) s mt args below meth c g (MQ below (zQc g (zPi t Q)) args s mc ms (zFar g)) u 10 t m 126 [(0, .ref a_0), (1, .int x_1), (2, .int x_2), (3, .int x_3), (4, .int x_4), (5, .int x_5), (7, .int x_7), (8, .int x_8), (9, .int x_9)] [] := by
  unfold wX12_isLawfulMaster_J126 at H
  refine z_iload (pc := 126) C (dX12_isLawfulMaster 64 rfl) 8 rfl ?_
  refine z_if_ne (pc := 128) (tgt := 148) C (dX12_isLawfulMaster 65 rfl) (by decide) (fun c22 => ?_) (fun c22 => ?_)
  · replace H := H.2 c22
    refine z_sub [0, 1, 2, 3, 4, 5, 6, 7, 8] rfl ?_
    exact sX12_isLawfulMaster_J148 C hr hm hu1 hu2 R20 H
  · replace H := H.1 c22
    refine z_iload (pc := 131) C (dX12_isLawfulMaster 66 rfl) 6 rfl ?_
    refine z_iconst (pc := 133) (v := 1) C (dX12_isLawfulMaster 67 rfl) (by decide) ?_
    refine z_aload_n (pc := 134) C (dX12_isLawfulMaster 68 rfl) rfl 0 rfl ?_
    obtain ⟨h23, H⟩ := H
    refine z_getR (pc := 135) C zc12 h23 3 (by decide) rfl wf_X12_314 (dX12_isLawfulMaster 69 rfl) ?_
    obtain ⟨h24, H⟩ := H
    refine z_getRN (pc := 138) C zc11 h24 19 (by decide) rfl wn_X12_283 (dX12_isLawfulMaster 70 rfl) ?_
    refine z_iload (pc := 141) C (dX12_isLawfulMaster 71 rfl) 7 rfl ?_
    obtain ⟨h25, H⟩ := H
    obtain ⟨h26, H⟩ := H
    refine z_iaload (pc := 143) C h25 h26 (dX12_isLawfulMaster 72 rfl) ?_
    refine z_ishl (pc := 144) C (dX12_isLawfulMaster 73 rfl) ?_
    refine z_ior (pc := 145) C (dX12_isLawfulMaster 74 rfl) ?_
    refine z_int (fun x27 hx27 => ?_)
    replace H := H x27 hx27
    refine z_istore (pc := 146) (i := 7) (lv2 := [(7, .int x27), (0, .ref a_0), (1, .int x_1), (2, .int x_2), (3, .int x_3), (4, .int x_4), (5, .int x_5), (8, .int x_8), (9, .int x_9)]) C (dX12_isLawfulMaster 75 rfl) (by decide) rfl ?_
    refine z_sub [1, 2, 3, 4, 5, 6, 0, 7, 8] rfl ?_
    exact sX12_isLawfulMaster_J148 C hr hm hu1 hu2 R20 H
def wX12_isLawfulMaster_J102 (t : zT) (m : zM) (a_0 : Nat) (x_1 : Int32) (x_2 : Int32) (x_3 : Int32) (x_4 : Int32) (x_5 : Int32) (x_6 : Int32) (x_7 : Int32) (x_8 : Int32) (x_9 : Int32) (Q : Int32 → zM → Prop) (r20 : Int32 → Int32 → Int32 → zM → Prop) : Prop := ((x_5 = 0 → (((x_4 &&& (4 : Int32)) = 0 → (wX12_isLawfulMaster_J126 t m a_0 x_1 x_2 x_3 x_4 x_5 x_7 x_8 x_9 Q r20)) ∧ (¬ (x_4 &&& (4 : Int32)) = 0 → ((x_9 = 0 → ((x_6 = 0 → (Q 0 m)) ∧ (¬ x_6 = 0 → (wX12_isLawfulMaster_J126 t m a_0 x_1 x_2 x_3 x_4 x_5 x_7 x_8 x_9 Q r20)))) ∧ (¬ x_9 = 0 → (wX12_isLawfulMaster_J126 t m a_0 x_1 x_2 x_3 x_4 x_5 x_7 x_8 x_9 Q r20)))))) ∧ (¬ x_5 = 0 → (wX12_isLawfulMaster_J126 t m a_0 x_1 x_2 x_3 x_4 x_5 x_7 x_8 x_9 Q r20)))
set_option maxHeartbeats 4000000 in
set_option maxRecDepth 20000 in
theorem sX12_isLawfulMaster_J102 {p : Program} {l : Launch} {e : Env} {s : State} {mt : MethodId} {args : Array Value} {below : List Frame} {meth : Method} {c : Code} {g : zG} {u : Nat × Nat} {mc ms : Nat} {t : zT} {m : zM} {a_0 : Nat} {x_1 : Int32} {x_2 : Int32} {x_3 : Int32} {x_4 : Int32} {x_5 : Int32} {x_6 : Int32} {x_7 : Int32} {x_8 : Int32} {x_9 : Int32} {Q : Int32 → zM → Prop} {r20 : Int32 → Int32 → Int32 → zM → Prop} (C : zC p (zRm 2 mc ms) s mt args meth c g cX12_isLawfulMaster 10 yX12_isLawfulMaster.cls 2) (hr : meth.sig.returnType = (some .boolean)) (hm : meth.name = yX12_isLawfulMaster.name) (hu1 : u.1 ≤ mc) (hu2 : u.2 ≤ ms)
    (R20 : ∀ (v0 : Int32) (v1 : Int32) (v2 : Int32) (m : zM), r20 v0 v1 v2 m → zW p l e (zRm 2 mc ms) s mt args below meth c g (MQ below (zQc g (zPi t Q)) args s mc ms (zFar g)) u 10 t m 20 [(0, .ref a_0), (1, .int x_1), (2, .int x_2), (3, .int x_3), (4, .int x_4), (5, .int x_5), (6, .int v0), (7, .int v1), (8, .int v2)] []) (H : wX12_isLawfulMaster_J102 t m a_0 x_1 x_2 x_3 x_4 x_5 x_6 x_7 x_8 x_9 Q r20) : zW p l e (zRm 2 mc ms) s mt args below meth c g (MQ below (zQc g (zPi t Q)) args s mc ms (zFar g)) u 10 t m 102 [(0, .ref a_0), (1, .int x_1), (2, .int x_2), (3, .int x_3), (4, .int x_4), (5, .int x_5), (6, .int x_6), (7, .int x_7), (8, .int x_8), (9, .int x_9)] [] := by
  unfold wX12_isLawfulMaster_J102 at H
  refine z_iload (pc := 102) C (dX12_isLawfulMaster 52 rfl) 5 rfl ?_
  refine z_if_ne (pc := 104) (tgt := 126) C (dX12_isLawfulMaster 53 rfl) (by decide) (fun c21 => ?_) (fun c21 => ?_)
  · replace H := H.2 c21
    refine z_sub [0, 1, 2, 3, 4, 5, 7, 8, 9] rfl ?_
    exact sX12_isLawfulMaster_J126 C hr hm hu1 hu2 R20 H
  · replace H := H.1 c21
    refine z_iload (pc := 107) C (dX12_isLawfulMaster 54 rfl) 4 rfl ?_
    refine z_iconst (pc := 109) (v := 4) C (dX12_isLawfulMaster 55 rfl) (by decide) ?_
    refine z_iand (pc := 110) C (dX12_isLawfulMaster 56 rfl) ?_
    refine z_if_eq (pc := 111) (tgt := 126) C (dX12_isLawfulMaster 57 rfl) (by decide) (fun c28 => ?_) (fun c28 => ?_)
    · replace H := H.1 c28
      refine z_sub [0, 1, 2, 3, 4, 5, 7, 8, 9] rfl ?_
      exact sX12_isLawfulMaster_J126 C hr hm hu1 hu2 R20 H
    · replace H := H.2 c28
      refine z_iload (pc := 114) C (dX12_isLawfulMaster 58 rfl) 9 rfl ?_
      refine z_if_ne (pc := 116) (tgt := 126) C (dX12_isLawfulMaster 59 rfl) (by decide) (fun c29 => ?_) (fun c29 => ?_)
      · replace H := H.2 c29
        refine z_sub [0, 1, 2, 3, 4, 5, 7, 8, 9] rfl ?_
        exact sX12_isLawfulMaster_J126 C hr hm hu1 hu2 R20 H
      · replace H := H.1 c29
        refine z_iload (pc := 119) C (dX12_isLawfulMaster 60 rfl) 6 rfl ?_
        refine z_if_ne (pc := 121) (tgt := 126) C (dX12_isLawfulMaster 61 rfl) (by decide) (fun c30 => ?_) (fun c30 => ?_)
        · replace H := H.2 c30
          refine z_sub [0, 1, 2, 3, 4, 5, 7, 8, 9] rfl ?_
          exact sX12_isLawfulMaster_J126 C hr hm hu1 hu2 R20 H
        · replace H := H.1 c30
          refine z_iconst (pc := 124) (v := 0) C (dX12_isLawfulMaster 62 rfl) (by decide) ?_
          exact z_zret (pc := 125) C hr (by decide) hu1 hu2 (dX12_isLawfulMaster 63 rfl) ⟨rfl, _, rfl, H⟩
def wX12_isLawfulMaster_J87 (t : zT) (m : zM) (a_0 : Nat) (x_1 : Int32) (x_2 : Int32) (x_3 : Int32) (x_4 : Int32) (x_5 : Int32) (x_6 : Int32) (x_7 : Int32) (x_8 : Int32) (x_9 : Int32) (Q : Int32 → zM → Prop) (r20 : Int32 → Int32 → Int32 → zM → Prop) : Prop := ((x_5 = 3 → ((x_9 = x_6 → (Q 0 m)) ∧ (¬ x_9 = x_6 → (wX12_isLawfulMaster_J102 t m a_0 x_1 x_2 x_3 x_4 x_5 x_6 x_7 x_8 x_9 Q r20)))) ∧ (¬ x_5 = 3 → (wX12_isLawfulMaster_J102 t m a_0 x_1 x_2 x_3 x_4 x_5 x_6 x_7 x_8 x_9 Q r20)))
set_option maxHeartbeats 4000000 in
set_option maxRecDepth 20000 in
theorem sX12_isLawfulMaster_J87 {p : Program} {l : Launch} {e : Env} {s : State} {mt : MethodId} {args : Array Value} {below : List Frame} {meth : Method} {c : Code} {g : zG} {u : Nat × Nat} {mc ms : Nat} {t : zT} {m : zM} {a_0 : Nat} {x_1 : Int32} {x_2 : Int32} {x_3 : Int32} {x_4 : Int32} {x_5 : Int32} {x_6 : Int32} {x_7 : Int32} {x_8 : Int32} {x_9 : Int32} {Q : Int32 → zM → Prop} {r20 : Int32 → Int32 → Int32 → zM → Prop} (C : zC p (zRm 2 mc ms) s mt args meth c g cX12_isLawfulMaster 10 yX12_isLawfulMaster.cls 2) (hr : meth.sig.returnType = (some .boolean)) (hm : meth.name = yX12_isLawfulMaster.name) (hu1 : u.1 ≤ mc) (hu2 : u.2 ≤ ms)
    (R20 : ∀ (v0 : Int32) (v1 : Int32) (v2 : Int32) (m : zM), r20 v0 v1 v2 m → zW p l e (zRm 2 mc ms) s mt args below meth c g (MQ below (zQc g (zPi t Q)) args s mc ms (zFar g)) u 10 t m 20 [(0, .ref a_0), (1, .int x_1), (2, .int x_2), (3, .int x_3), (4, .int x_4), (5, .int x_5), (6, .int v0), (7, .int v1), (8, .int v2)] []) (H : wX12_isLawfulMaster_J87 t m a_0 x_1 x_2 x_3 x_4 x_5 x_6 x_7 x_8 x_9 Q r20) : zW p l e (zRm 2 mc ms) s mt args below meth c g (MQ below (zQc g (zPi t Q)) args s mc ms (zFar g)) u 10 t m 87 [(0, .ref a_0), (1, .int x_1), (2, .int x_2), (3, .int x_3), (4, .int x_4), (5, .int x_5), (6, .int x_6), (7, .int x_7), (8, .int x_8), (9, .int x_9)] [] := by
  unfold wX12_isLawfulMaster_J87 at H
  refine z_iload (pc := 87) C (dX12_isLawfulMaster 44 rfl) 5 rfl ?_
  refine z_iconst (pc := 89) (v := 3) C (dX12_isLawfulMaster 45 rfl) (by decide) ?_
  refine z_icmp_ne (pc := 90) (tgt := 102) C (dX12_isLawfulMaster 46 rfl) (by decide) (fun c20 => ?_) (fun c20 => ?_)
  · replace H := H.2 c20
    refine z_sub [0, 1, 2, 3, 4, 5, 6, 7, 8, 9] rfl ?_
    exact sX12_isLawfulMaster_J102 C hr hm hu1 hu2 R20 H
  · replace H := H.1 c20
    refine z_iload (pc := 93) C (dX12_isLawfulMaster 47 rfl) 9 rfl ?_
    refine z_iload (pc := 95) C (dX12_isLawfulMaster 48 rfl) 6 rfl ?_
    refine z_icmp_ne (pc := 97) (tgt := 102) C (dX12_isLawfulMaster 49 rfl) (by decide) (fun c31 => ?_) (fun c31 => ?_)
    · replace H := H.2 c31
      refine z_sub [0, 1, 2, 3, 4, 5, 6, 7, 8, 9] rfl ?_
      exact sX12_isLawfulMaster_J102 C hr hm hu1 hu2 R20 H
    · replace H := H.1 c31
      refine z_iconst (pc := 100) (v := 0) C (dX12_isLawfulMaster 50 rfl) (by decide) ?_
      exact z_zret (pc := 101) C hr (by decide) hu1 hu2 (dX12_isLawfulMaster 51 rfl) ⟨rfl, _, rfl, H⟩
def wX12_isLawfulMaster_J73 (t : zT) (m : zM) (a_0 : Nat) (x_1 : Int32) (x_2 : Int32) (x_3 : Int32) (x_4 : Int32) (x_5 : Int32) (x_6 : Int32) (x_7 : Int32) (x_8 : Int32) (s_0 : Int32) (Q : Int32 → zM → Prop) (r20 : Int32 → Int32 → Int32 → zM → Prop) : Prop := ((x_5 = 1 → ((s_0 = 1 → (Q 0 m)) ∧ (¬ s_0 = 1 → (wX12_isLawfulMaster_J87 t m a_0 x_1 x_2 x_3 x_4 x_5 x_6 x_7 x_8 s_0 Q r20)))) ∧ (¬ x_5 = 1 → (wX12_isLawfulMaster_J87 t m a_0 x_1 x_2 x_3 x_4 x_5 x_6 x_7 x_8 s_0 Q r20)))
set_option maxHeartbeats 4000000 in
set_option maxRecDepth 20000 in
theorem sX12_isLawfulMaster_J73 {p : Program} {l : Launch} {e : Env} {s : State} {mt : MethodId} {args : Array Value} {below : List Frame} {meth : Method} {c : Code} {g : zG} {u : Nat × Nat} {mc ms : Nat} {t : zT} {m : zM} {a_0 : Nat} {x_1 : Int32} {x_2 : Int32} {x_3 : Int32} {x_4 : Int32} {x_5 : Int32} {x_6 : Int32} {x_7 : Int32} {x_8 : Int32} {s_0 : Int32} {Q : Int32 → zM → Prop} {r20 : Int32 → Int32 → Int32 → zM → Prop} (C : zC p (zRm 2 mc ms) s mt args meth c g cX12_isLawfulMaster 10 yX12_isLawfulMaster.cls 2) (hr : meth.sig.returnType = (some .boolean)) (hm : meth.name = yX12_isLawfulMaster.name) (hu1 : u.1 ≤ mc) (hu2 : u.2 ≤ ms)
    (R20 : ∀ (v0 : Int32) (v1 : Int32) (v2 : Int32) (m : zM), r20 v0 v1 v2 m → zW p l e (zRm 2 mc ms) s mt args below meth c g (MQ below (zQc g (zPi t Q)) args s mc ms (zFar g)) u 10 t m 20 [(0, .ref a_0), (1, .int x_1), (2, .int x_2), (3, .int x_3), (4, .int x_4), (5, .int x_5), (6, .int v0), (7, .int v1), (8, .int v2)] []) (H : wX12_isLawfulMaster_J73 t m a_0 x_1 x_2 x_3 x_4 x_5 x_6 x_7 x_8 s_0 Q r20) : zW p l e (zRm 2 mc ms) s mt args below meth c g (MQ below (zQc g (zPi t Q)) args s mc ms (zFar g)) u 10 t m 73 [(0, .ref a_0), (1, .int x_1), (2, .int x_2), (3, .int x_3), (4, .int x_4), (5, .int x_5), (6, .int x_6), (7, .int x_7), (8, .int x_8)] [.int s_0] := by
  unfold wX12_isLawfulMaster_J73 at H
  refine z_istore (pc := 73) (i := 9) (lv2 := [(9, .int s_0), (0, .ref a_0), (1, .int x_1), (2, .int x_2), (3, .int x_3), (4, .int x_4), (5, .int x_5), (6, .int x_6), (7, .int x_7), (8, .int x_8)]) C (dX12_isLawfulMaster 37 rfl) (by decide) rfl ?_
  refine z_iload (pc := 75) C (dX12_isLawfulMaster 38 rfl) 6 rfl ?_
  refine z_iconst (pc := 77) (v := 1) C (dX12_isLawfulMaster 39 rfl) (by decide) ?_
  refine z_icmp_ne (pc := 78) (tgt := 87) C (dX12_isLawfulMaster 40 rfl) (by decide) (fun c19 => ?_) (fun c19 => ?_)
  · replace H := H.2 c19
    refine z_sub [1, 2, 3, 4, 5, 6, 7, 8, 9, 0] rfl ?_
    exact sX12_isLawfulMaster_J87 C hr hm hu1 hu2 R20 H
  · replace H := H.1 c19
    refine z_iload (pc := 81) C (dX12_isLawfulMaster 41 rfl) 0 rfl ?_
    refine z_iconst (pc := 83) (v := 1) C (dX12_isLawfulMaster 42 rfl) (by decide) ?_
    refine z_icmp_eq (pc := 84) (tgt := 100) C (dX12_isLawfulMaster 43 rfl) (by decide) (fun c32 => ?_) (fun c32 => ?_)
    · replace H := H.1 c32
      refine z_iconst (pc := 100) (v := 0) C (dX12_isLawfulMaster 50 rfl) (by decide) ?_
      exact z_zret (pc := 101) C hr (by decide) hu1 hu2 (dX12_isLawfulMaster 51 rfl) ⟨rfl, _, rfl, H⟩
    · replace H := H.2 c32
      refine z_sub [1, 2, 3, 4, 5, 6, 7, 8, 9, 0] rfl ?_
      exact sX12_isLawfulMaster_J87 C hr hm hu1 hu2 R20 H
def wX12_isLawfulMaster_L20 (t : zT) (a_0 : Nat) (x_1 : Int32) (x_2 : Int32) (x_3 : Int32) (x_4 : Int32) (x_5 : Int32) (Q : Int32 → zM → Prop) (k158 : Int32 → zM → Prop) : Nat → Int32 → Int32 → Int32 → zM → Prop
  | 0, _, _, _, _ => False
  | n + 1, x_6, x_7, x_8, m => (tK t a_0 = 12 ∧ (tK t (gR m a_0 3) = 11 ∧ (((gI m (gR m a_0 3) 3) < x_8 → (k158 x_7 m)) ∧ (¬ (gI m (gR m a_0 3) 3) < x_8 → (wX12_has t m x_3 x_8 (fun r9 m10 => ((r9 = 0 → (wX12_isLawfulMaster_J152 t m10 a_0 x_1 x_2 x_3 x_4 x_5 x_6 x_7 x_8 Q (wX12_isLawfulMaster_L20 t a_0 x_1 x_2 x_3 x_4 x_5 Q k158 n))) ∧ (¬ r9 = 0 → (tK t (gR m10 a_0 3) = 11 ∧ (tK t (gR m10 (gR m10 a_0 3) 18) = 14 ∧ (vp_in x_8 (tL t (gR m10 (gR m10 a_0 3) 18)) ∧ (((gI m10 (gR m10 (gR m10 a_0 3) 18) x_8.toNatClampNeg) = x_2 → (wX12_isRight t m10 a_0 x_1 x_8 (fun r16 m17 => ((r16 = 0 → (wX12_isLawfulMaster_J73 t m17 a_0 x_1 x_2 x_3 x_4 x_5 x_6 x_7 x_8 0 Q (wX12_isLawfulMaster_L20 t a_0 x_1 x_2 x_3 x_4 x_5 Q k158 n))) ∧ (¬ r16 = 0 → (wX12_isLawfulMaster_J73 t m17 a_0 x_1 x_2 x_3 x_4 x_5 x_6 x_7 x_8 1 Q (wX12_isLawfulMaster_L20 t a_0 x_1 x_2 x_3 x_4 x_5 Q k158 n))))))) ∧ (¬ (gI m10 (gR m10 (gR m10 a_0 3) 18) x_8.toNatClampNeg) = x_2 → (wX12_isLawfulMaster_J152 t m10 a_0 x_1 x_2 x_3 x_4 x_5 x_6 x_7 x_8 Q (wX12_isLawfulMaster_L20 t a_0 x_1 x_2 x_3 x_4 x_5 Q k158 n)))))))))))))))
set_option maxHeartbeats 4000000 in
set_option maxRecDepth 20000 in
theorem sX12_isLawfulMaster_L20 {p : Program} {l : Launch} {e : Env} {s : State} {mt : MethodId} {args : Array Value} {below : List Frame} {meth : Method} {c : Code} {g : zG} {u : Nat × Nat} {mc ms : Nat} {t : zT} {a_0 : Nat} {x_1 : Int32} {x_2 : Int32} {x_3 : Int32} {x_4 : Int32} {x_5 : Int32} {Q : Int32 → zM → Prop} {k158 : Int32 → zM → Prop} (C : zC p (zRm 2 mc ms) s mt args meth c g cX12_isLawfulMaster 10 yX12_isLawfulMaster.cls 2) (hr : meth.sig.returnType = (some .boolean)) (hm : meth.name = yX12_isLawfulMaster.name) (hu1 : u.1 ≤ mc) (hu2 : u.2 ≤ ms)
    (K158 : ∀ (v0 : Int32) (m : zM), k158 v0 m → zW p l e (zRm 2 mc ms) s mt args below meth c g (MQ below (zQc g (zPi t Q)) args s mc ms (zFar g)) u 10 t m 158 [(0, .ref a_0), (4, .int x_4), (5, .int x_5), (7, .int v0)] []) : ∀ (n : Nat) (x_6 : Int32) (x_7 : Int32) (x_8 : Int32) (m : zM), wX12_isLawfulMaster_L20 t a_0 x_1 x_2 x_3 x_4 x_5 Q k158 n x_6 x_7 x_8 m → zW p l e (zRm 2 mc ms) s mt args below meth c g (MQ below (zQc g (zPi t Q)) args s mc ms (zFar g)) u 10 t m 20 [(0, .ref a_0), (1, .int x_1), (2, .int x_2), (3, .int x_3), (4, .int x_4), (5, .int x_5), (6, .int x_6), (7, .int x_7), (8, .int x_8)] [] := by
  intro n
  induction n with
  | zero => intro x_6 x_7 x_8 m H; exact H.elim
  | succ n ih =>
    intro x_6 x_7 x_8 m H
    simp only [wX12_isLawfulMaster_L20] at H
    refine z_iload (pc := 20) C (dX12_isLawfulMaster 12 rfl) 8 rfl ?_
    refine z_aload_n (pc := 22) C (dX12_isLawfulMaster 13 rfl) rfl 0 rfl ?_
    obtain ⟨h6, H⟩ := H
    refine z_getR (pc := 23) C zc12 h6 3 (by decide) rfl wf_X12_314 (dX12_isLawfulMaster 14 rfl) ?_
    obtain ⟨h7, H⟩ := H
    refine z_getIN (pc := 26) C zc11 h7 3 (by decide) rfl wn_X12_277 (dX12_isLawfulMaster 15 rfl) ?_
    refine z_icmp_gt (pc := 29) (tgt := 158) C (dX12_isLawfulMaster 16 rfl) (by decide) (fun c8 => ?_) (fun c8 => ?_)
    · replace H := H.1 c8
      refine z_sub [0, 4, 5, 7] rfl ?_
      exact K158 x_7 m H
    · replace H := H.2 c8
      refine z_iload_n (pc := 32) C (dX12_isLawfulMaster 17 rfl) rfl 3 rfl ?_
      refine z_iload (pc := 33) C (dX12_isLawfulMaster 18 rfl) 8 rfl ?_
      refine zc_Si (pc := 35) (rest := []) C YX12_has wl_X12_294 (kX12_has H) (by decide) (dX12_isLawfulMaster 19 rfl) rfl hu1 hu2 (Nat.le_of_ble_eq_true rfl) rfl (fun r9 m10 H => ?_)
      refine z_if_eq (pc := 38) (tgt := 152) C (dX12_isLawfulMaster 20 rfl) (by decide) (fun c11 => ?_) (fun c11 => ?_)
      · replace H := H.1 c11
        refine z_sub [0, 1, 2, 3, 4, 5, 6, 7, 8] rfl ?_
        exact sX12_isLawfulMaster_J152 C hr hm hu1 hu2 ih H
      · replace H := H.2 c11
        refine z_aload_n (pc := 41) C (dX12_isLawfulMaster 21 rfl) rfl 0 rfl ?_
        refine z_getR (pc := 42) C zc12 h6 3 (by decide) rfl wf_X12_314 (dX12_isLawfulMaster 22 rfl) ?_
        obtain ⟨h12, H⟩ := H
        refine z_getRN (pc := 45) C zc11 h12 18 (by decide) rfl wn_X12_280 (dX12_isLawfulMaster 23 rfl) ?_
        refine z_iload (pc := 48) C (dX12_isLawfulMaster 24 rfl) 8 rfl ?_
        obtain ⟨h13, H⟩ := H
        obtain ⟨h14, H⟩ := H
        refine z_iaload (pc := 50) C h13 h14 (dX12_isLawfulMaster 25 rfl) ?_
        refine z_iload_n (pc := 51) C (dX12_isLawfulMaster 26 rfl) rfl 2 rfl ?_
        refine z_icmp_eq (pc := 52) (tgt := 58) C (dX12_isLawfulMaster 27 rfl) (by decide) (fun c15 => ?_) (fun c15 => ?_)
        · replace H := H.1 c15
          refine z_aload_n (pc := 58) C (dX12_isLawfulMaster 29 rfl) rfl 0 rfl ?_
          refine z_iload_n (pc := 59) C (dX12_isLawfulMaster 30 rfl) rfl 1 rfl ?_
          refine z_iload (pc := 60) C (dX12_isLawfulMaster 31 rfl) 8 rfl ?_
          refine zc_Vi (pc := 62) (rest := []) C YX12_isRight wl_X12_323 (kX12_isRight H) (by decide) h6 rfl (by decide) (dX12_isLawfulMaster 32 rfl) rfl hu1 hu2 (Nat.le_of_ble_eq_true rfl) rfl (fun r16 m17 H => ?_)
          refine z_if_eq (pc := 65) (tgt := 72) C (dX12_isLawfulMaster 33 rfl) (by decide) (fun c18 => ?_) (fun c18 => ?_)
          · replace H := H.1 c18
            refine z_iconst (pc := 72) (v := 0) C (dX12_isLawfulMaster 36 rfl) (by decide) ?_
            refine z_sub [0, 1, 2, 3, 4, 5, 6, 7, 8] rfl ?_
            exact sX12_isLawfulMaster_J73 C hr hm hu1 hu2 ih H
          · replace H := H.2 c18
            refine z_iconst (pc := 68) (v := 1) C (dX12_isLawfulMaster 34 rfl) (by decide) ?_
            refine z_goto (pc := 69) (tgt := 73) C (dX12_isLawfulMaster 35 rfl) (by decide) ?_
            refine z_sub [0, 1, 2, 3, 4, 5, 6, 7, 8] rfl ?_
            exact sX12_isLawfulMaster_J73 C hr hm hu1 hu2 ih H
        · replace H := H.2 c15
          refine z_goto (pc := 55) (tgt := 152) C (dX12_isLawfulMaster 28 rfl) (by decide) ?_
          refine z_sub [0, 1, 2, 3, 4, 5, 6, 7, 8] rfl ?_
          exact sX12_isLawfulMaster_J152 C hr hm hu1 hu2 ih H
def wX12_isLawfulMaster (t : zT) (m : zM) (a : Nat) (p1 : Int32) (p2 : Int32) (p3 : Int32) (p4 : Int32) (Q : Int32 → zM → Prop) : Prop := (tK t a = 12 ∧ (tK t (gR m a 3) = 11 ∧ (tK t (gR m (gR m a 3) 12) = 14 ∧ (vp_in p2 (tL t (gR m (gR m a 3) 12)) ∧ (∀ x5 : Int32, x5 = (gI m (gR m (gR m a 3) 12) p2.toNatClampNeg) → ((∃ n41, wX12_isLawfulMaster_L20 t a p1 p2 p3 p4 x5 Q (fun v33 m34 => ((x5 = 0 → (((p4 &&& (2 : Int32)) = 0 → (Q 1 m34)) ∧ (¬ (p4 &&& (2 : Int32)) = 0 → (wX12_bits t m34 v33 (fun r37 m38 => (tK t (gR m38 a 3) = 11 ∧ (((gI m38 (gR m38 a 3) 7) < r37 → (Q 0 m38)) ∧ (¬ (gI m38 (gR m38 a 3) 7) < r37 → (Q 1 m38))))))))) ∧ (¬ x5 = 0 → (Q 1 m34)))) n41 (-1) 0 0 m)))))))
set_option maxHeartbeats 4000000 in
set_option maxRecDepth 20000 in
theorem kX12_isLawfulMaster {l : Launch} {t : zT} {m : zM} {a : Nat} {p1 : Int32} {p2 : Int32} {p3 : Int32} {p4 : Int32} {Q : Int32 → zM → Prop} (H : wX12_isLawfulMaster t m a p1 p2 p3 p4 Q) : zMet l yX12_isLawfulMaster cX12_isLawfulMaster 10 (some .boolean) 2 0 0 t m [.ref a, .int p1, .int p2, .int p3, .int p4] (zPi t Q) := by
  refine zmet (by decide +kernel) (Nat.le_of_ble_eq_true rfl) ?_
  intro p e s mt args below meth c g C hr hm
  unfold wX12_isLawfulMaster at H
  have hu1 : ((0, 0) : Nat × Nat).1 ≤ 0 := Nat.le_refl 0
  have hu2 : ((0, 0) : Nat × Nat).2 ≤ 0 := Nat.le_refl 0
  refine z_aload_n (pc := 0) C (dX12_isLawfulMaster 0 rfl) rfl 0 rfl ?_
  obtain ⟨h1, H⟩ := H
  refine z_getR (pc := 1) C zc12 h1 3 (by decide) rfl wf_X12_314 (dX12_isLawfulMaster 1 rfl) ?_
  obtain ⟨h2, H⟩ := H
  refine z_getRN (pc := 4) C zc11 h2 12 (by decide) rfl wn_X12_260 (dX12_isLawfulMaster 2 rfl) ?_
  refine z_iload_n (pc := 7) C (dX12_isLawfulMaster 3 rfl) rfl 2 rfl ?_
  obtain ⟨h3, H⟩ := H
  obtain ⟨h4, H⟩ := H
  refine z_iaload (pc := 8) C h3 h4 (dX12_isLawfulMaster 4 rfl) ?_
  refine z_int (fun x5 hx5 => ?_)
  replace H := H x5 hx5
  refine z_istore (pc := 9) (i := 5) (lv2 := [(5, .int x5), (0, .ref a), (1, .int p1), (2, .int p2), (3, .int p3), (4, .int p4)]) C (dX12_isLawfulMaster 5 rfl) (by decide) rfl ?_
  refine z_iconst (pc := 11) (v := (-1)) C (dX12_isLawfulMaster 6 rfl) (by decide) ?_
  refine z_istore (pc := 12) (i := 6) (lv2 := [(6, .int (-1)), (5, .int x5), (0, .ref a), (1, .int p1), (2, .int p2), (3, .int p3), (4, .int p4)]) C (dX12_isLawfulMaster 7 rfl) (by decide) rfl ?_
  refine z_iconst (pc := 14) (v := 0) C (dX12_isLawfulMaster 8 rfl) (by decide) ?_
  refine z_istore (pc := 15) (i := 7) (lv2 := [(7, .int 0), (6, .int (-1)), (5, .int x5), (0, .ref a), (1, .int p1), (2, .int p2), (3, .int p3), (4, .int p4)]) C (dX12_isLawfulMaster 9 rfl) (by decide) rfl ?_
  refine z_iconst (pc := 17) (v := 0) C (dX12_isLawfulMaster 10 rfl) (by decide) ?_
  refine z_istore (pc := 18) (i := 8) (lv2 := [(8, .int 0), (7, .int 0), (6, .int (-1)), (5, .int x5), (0, .ref a), (1, .int p1), (2, .int p2), (3, .int p3), (4, .int p4)]) C (dX12_isLawfulMaster 11 rfl) (by decide) rfl ?_
  obtain ⟨n41, H⟩ := H
  refine z_sub [4, 5, 6, 7, 8, 3, 2, 1, 0] rfl ?_
  refine sX12_isLawfulMaster_L20 C hr hm hu1 hu2 (fun v33 m34 H => ?_) n41 (-1) 0 0 m H
  refine z_iload (pc := 158) C (dX12_isLawfulMaster 80 rfl) 2 rfl ?_
  refine z_if_ne (pc := 160) (tgt := 185) C (dX12_isLawfulMaster 81 rfl) (by decide) (fun c35 => ?_) (fun c35 => ?_)
  · replace H := H.2 c35
    refine z_iconst (pc := 185) (v := 1) C (dX12_isLawfulMaster 92 rfl) (by decide) ?_
    refine z_goto (pc := 186) (tgt := 190) C (dX12_isLawfulMaster 93 rfl) (by decide) ?_
    exact z_zret (pc := 190) C hr (by decide) hu1 hu2 (dX12_isLawfulMaster 95 rfl) ⟨rfl, _, rfl, H⟩
  · replace H := H.1 c35
    refine z_iload (pc := 163) C (dX12_isLawfulMaster 82 rfl) 1 rfl ?_
    refine z_iconst (pc := 165) (v := 2) C (dX12_isLawfulMaster 83 rfl) (by decide) ?_
    refine z_iand (pc := 166) C (dX12_isLawfulMaster 84 rfl) ?_
    refine z_if_eq (pc := 167) (tgt := 185) C (dX12_isLawfulMaster 85 rfl) (by decide) (fun c36 => ?_) (fun c36 => ?_)
    · replace H := H.1 c36
      refine z_iconst (pc := 185) (v := 1) C (dX12_isLawfulMaster 92 rfl) (by decide) ?_
      refine z_goto (pc := 186) (tgt := 190) C (dX12_isLawfulMaster 93 rfl) (by decide) ?_
      exact z_zret (pc := 190) C hr (by decide) hu1 hu2 (dX12_isLawfulMaster 95 rfl) ⟨rfl, _, rfl, H⟩
    · replace H := H.2 c36
      refine z_iload (pc := 170) C (dX12_isLawfulMaster 86 rfl) 3 rfl ?_
      refine zc_Si (pc := 172) (rest := []) C YX12_bits wl_X12_326 (kX12_bits H) (by decide) (dX12_isLawfulMaster 87 rfl) rfl hu1 hu2 (Nat.le_of_ble_eq_true rfl) rfl (fun r37 m38 H => ?_)
      refine z_aload_n (pc := 175) C (dX12_isLawfulMaster 88 rfl) rfl 0 rfl ?_
      refine z_getR (pc := 176) C zc12 h1 3 (by decide) rfl wf_X12_314 (dX12_isLawfulMaster 89 rfl) ?_
      obtain ⟨h39, H⟩ := H
      refine z_getIN (pc := 179) C zc11 h39 7 (by decide) rfl wn_X12_275 (dX12_isLawfulMaster 90 rfl) ?_
      refine z_icmp_gt (pc := 182) (tgt := 189) C (dX12_isLawfulMaster 91 rfl) (by decide) (fun c40 => ?_) (fun c40 => ?_)
      · replace H := H.1 c40
        refine z_iconst (pc := 189) (v := 0) C (dX12_isLawfulMaster 94 rfl) (by decide) ?_
        exact z_zret (pc := 190) C hr (by decide) hu1 hu2 (dX12_isLawfulMaster 95 rfl) ⟨rfl, _, rfl, H⟩
      · replace H := H.2 c40
        refine z_iconst (pc := 185) (v := 1) C (dX12_isLawfulMaster 92 rfl) (by decide) ?_
        refine z_goto (pc := 186) (tgt := 190) C (dX12_isLawfulMaster 93 rfl) (by decide) ?_
        exact z_zret (pc := 190) C hr (by decide) hu1 hu2 (dX12_isLawfulMaster 95 rfl) ⟨rfl, _, rfl, H⟩
def wX12_isPaired_J136 (t : zT) (m : zM) (a_0 : Nat) (x_1 : Int32) (x_2 : Int32) (x_3 : Int32) (x_4 : Int32) (x_5 : Int32) (x_6 : Int32) (x_7 : Int32) (Q : Int32 → zM → Prop) (r12 : Int32 → Int32 → Int32 → Int32 → zM → Prop) : Prop := (r12 x_4 x_5 x_6 (x_7 + 1) m)
set_option maxHeartbeats 4000000 in
set_option maxRecDepth 20000 in
theorem sX12_isPaired_J136 {p : Program} {l : Launch} {e : Env} {s : State} {mt : MethodId} {args : Array Value} {below : List Frame} {meth : Method} {c : Code} {g : zG} {u : Nat × Nat} {mc ms : Nat} {t : zT} {m : zM} {a_0 : Nat} {x_1 : Int32} {x_2 : Int32} {x_3 : Int32} {x_4 : Int32} {x_5 : Int32} {x_6 : Int32} {x_7 : Int32} {Q : Int32 → zM → Prop} {r12 : Int32 → Int32 → Int32 → Int32 → zM → Prop} (C : zC p (zRm 2 mc ms) s mt args meth c g cX12_isPaired 8 yX12_isPaired.cls 2) (hr : meth.sig.returnType = (some .boolean)) (hm : meth.name = yX12_isPaired.name) (hu1 : u.1 ≤ mc) (hu2 : u.2 ≤ ms)
    (R12 : ∀ (v0 : Int32) (v1 : Int32) (v2 : Int32) (v3 : Int32) (m : zM), r12 v0 v1 v2 v3 m → zW p l e (zRm 2 mc ms) s mt args below meth c g (MQ below (zQc g (zPi t Q)) args s mc ms (zFar g)) u 8 t m 12 [(0, .ref a_0), (1, .int x_1), (2, .int x_2), (3, .int x_3), (4, .int v0), (5, .int v1), (6, .int v2), (7, .int v3)] []) (H : wX12_isPaired_J136 t m a_0 x_1 x_2 x_3 x_4 x_5 x_6 x_7 Q r12) : zW p l e (zRm 2 mc ms) s mt args below meth c g (MQ below (zQc g (zPi t Q)) args s mc ms (zFar g)) u 8 t m 136 [(0, .ref a_0), (1, .int x_1), (2, .int x_2), (3, .int x_3), (4, .int x_4), (5, .int x_5), (6, .int x_6), (7, .int x_7)] [] := by
  unfold wX12_isPaired_J136 at H
  refine z_iinc (pc := 136) (i := 7) (v := x_7 + 1) (lv2 := [(7, .int (x_7 + 1)), (0, .ref a_0), (1, .int x_1), (2, .int x_2), (3, .int x_3), (4, .int x_4), (5, .int x_5), (6, .int x_6)]) C (dX12_isPaired 72 rfl) 7 rfl (by rfl) (by decide) rfl ?_
  refine z_goto (pc := 139) (tgt := 12) C (dX12_isPaired 73 rfl) (by decide) ?_
  refine z_sub [1, 2, 3, 4, 5, 6, 7, 0] rfl ?_
  exact R12 x_4 x_5 x_6 (x_7 + 1) m H
def wX12_isPaired_L12 (t : zT) (a_0 : Nat) (x_1 : Int32) (x_2 : Int32) (x_3 : Int32) (Q : Int32 → zM → Prop) (k142 : Int32 → Int32 → Int32 → zM → Prop) : Nat → Int32 → Int32 → Int32 → Int32 → zM → Prop
  | 0, _, _, _, _, _ => False
  | n + 1, x_4, x_5, x_6, x_7, m => (tK t a_0 = 12 ∧ (tK t (gR m a_0 3) = 11 ∧ (((gI m (gR m a_0 3) 3) < x_7 → (k142 x_4 x_5 x_6 m)) ∧ (¬ (gI m (gR m a_0 3) 3) < x_7 → (wX12_has t m x_3 x_7 (fun r4 m5 => ((r4 = 0 → (wX12_isPaired_J136 t m5 a_0 x_1 x_2 x_3 x_4 x_5 x_6 x_7 Q (wX12_isPaired_L12 t a_0 x_1 x_2 x_3 Q k142 n))) ∧ (¬ r4 = 0 → (tK t (gR m5 a_0 3) = 11 ∧ (tK t (gR m5 (gR m5 a_0 3) 19) = 14 ∧ (vp_in x_7 (tL t (gR m5 (gR m5 a_0 3) 19)) ∧ (((gI m5 (gR m5 (gR m5 a_0 3) 19) x_7.toNatClampNeg) = x_2 → (tK t (gR m5 (gR m5 a_0 3) 18) = 14 ∧ (vp_in x_7 (tL t (gR m5 (gR m5 a_0 3) 18)) ∧ (tK t (gR m5 (gR m5 a_0 3) 12) = 14 ∧ (vp_in (gI m5 (gR m5 (gR m5 a_0 3) 18) x_7.toNatClampNeg) (tL t (gR m5 (gR m5 a_0 3) 12)) ∧ (((gI m5 (gR m5 (gR m5 a_0 3) 12) ((gI m5 (gR m5 (gR m5 a_0 3) 18) x_7.toNatClampNeg).toNatClampNeg)) = 2 → (wX12_isPaired_J136 t m5 a_0 x_1 x_2 x_3 x_4 x_5 x_6 x_7 Q (wX12_isPaired_L12 t a_0 x_1 x_2 x_3 Q k142 n))) ∧ (¬ (gI m5 (gR m5 (gR m5 a_0 3) 12) ((gI m5 (gR m5 (gR m5 a_0 3) 18) x_7.toNatClampNeg).toNatClampNeg)) = 2 → (∀ x16 : Int32, x16 = (x_4 ||| ((1 : Int32) <<< ((gI m5 (gR m5 (gR m5 a_0 3) 18) x_7.toNatClampNeg) &&& 31))) → ((wX12_isRight t m5 a_0 x_1 x_7 (fun r17 m18 => ((r17 = 0 → (tK t (gR m18 a_0 3) = 11 ∧ (tK t (gR m18 (gR m18 a_0 3) 18) = 14 ∧ (vp_in x_7 (tL t (gR m18 (gR m18 a_0 3) 18)) ∧ (∀ x23 : Int32, x23 = (x_6 ||| ((1 : Int32) <<< ((gI m18 (gR m18 (gR m18 a_0 3) 18) x_7.toNatClampNeg) &&& 31))) → ((wX12_isPaired_J136 t m18 a_0 x_1 x_2 x_3 x16 x_5 x23 x_7 Q (wX12_isPaired_L12 t a_0 x_1 x_2 x_3 Q k142 n)))))))) ∧ (¬ r17 = 0 → (tK t (gR m18 a_0 3) = 11 ∧ (tK t (gR m18 (gR m18 a_0 3) 18) = 14 ∧ (vp_in x_7 (tL t (gR m18 (gR m18 a_0 3) 18)) ∧ (∀ x27 : Int32, x27 = (x_5 ||| ((1 : Int32) <<< ((gI m18 (gR m18 (gR m18 a_0 3) 18) x_7.toNatClampNeg) &&& 31))) → ((wX12_isPaired_J136 t m18 a_0 x_1 x_2 x_3 x16 x27 x_6 x_7 Q (wX12_isPaired_L12 t a_0 x_1 x_2 x_3 Q k142 n)))))))))))))))))))) ∧ (¬ (gI m5 (gR m5 (gR m5 a_0 3) 19) x_7.toNatClampNeg) = x_2 → (wX12_isPaired_J136 t m5 a_0 x_1 x_2 x_3 x_4 x_5 x_6 x_7 Q (wX12_isPaired_L12 t a_0 x_1 x_2 x_3 Q k142 n)))))))))))))))
set_option maxHeartbeats 4000000 in
set_option maxRecDepth 20000 in
theorem sX12_isPaired_L12 {p : Program} {l : Launch} {e : Env} {s : State} {mt : MethodId} {args : Array Value} {below : List Frame} {meth : Method} {c : Code} {g : zG} {u : Nat × Nat} {mc ms : Nat} {t : zT} {a_0 : Nat} {x_1 : Int32} {x_2 : Int32} {x_3 : Int32} {Q : Int32 → zM → Prop} {k142 : Int32 → Int32 → Int32 → zM → Prop} (C : zC p (zRm 2 mc ms) s mt args meth c g cX12_isPaired 8 yX12_isPaired.cls 2) (hr : meth.sig.returnType = (some .boolean)) (hm : meth.name = yX12_isPaired.name) (hu1 : u.1 ≤ mc) (hu2 : u.2 ≤ ms)
    (K142 : ∀ (v0 : Int32) (v1 : Int32) (v2 : Int32) (m : zM), k142 v0 v1 v2 m → zW p l e (zRm 2 mc ms) s mt args below meth c g (MQ below (zQc g (zPi t Q)) args s mc ms (zFar g)) u 8 t m 142 [(4, .int v0), (5, .int v1), (6, .int v2)] []) : ∀ (n : Nat) (x_4 : Int32) (x_5 : Int32) (x_6 : Int32) (x_7 : Int32) (m : zM), wX12_isPaired_L12 t a_0 x_1 x_2 x_3 Q k142 n x_4 x_5 x_6 x_7 m → zW p l e (zRm 2 mc ms) s mt args below meth c g (MQ below (zQc g (zPi t Q)) args s mc ms (zFar g)) u 8 t m 12 [(0, .ref a_0), (1, .int x_1), (2, .int x_2), (3, .int x_3), (4, .int x_4), (5, .int x_5), (6, .int x_6), (7, .int x_7)] [] := by
  intro n
  induction n with
  | zero => intro x_4 x_5 x_6 x_7 m H; exact H.elim
  | succ n ih =>
    intro x_4 x_5 x_6 x_7 m H
    simp only [wX12_isPaired_L12] at H
    refine z_iload (pc := 12) C (dX12_isPaired 8 rfl) 7 rfl ?_
    refine z_aload_n (pc := 14) C (dX12_isPaired 9 rfl) rfl 0 rfl ?_
    obtain ⟨h1, H⟩ := H
    refine z_getR (pc := 15) C zc12 h1 3 (by decide) rfl wf_X12_314 (dX12_isPaired 10 rfl) ?_
    obtain ⟨h2, H⟩ := H
    refine z_getIN (pc := 18) C zc11 h2 3 (by decide) rfl wn_X12_277 (dX12_isPaired 11 rfl) ?_
    refine z_icmp_gt (pc := 21) (tgt := 142) C (dX12_isPaired 12 rfl) (by decide) (fun c3 => ?_) (fun c3 => ?_)
    · replace H := H.1 c3
      refine z_sub [4, 5, 6] rfl ?_
      exact K142 x_4 x_5 x_6 m H
    · replace H := H.2 c3
      refine z_iload_n (pc := 24) C (dX12_isPaired 13 rfl) rfl 3 rfl ?_
      refine z_iload (pc := 25) C (dX12_isPaired 14 rfl) 7 rfl ?_
      refine zc_Si (pc := 27) (rest := []) C YX12_has wl_X12_294 (kX12_has H) (by decide) (dX12_isPaired 15 rfl) rfl hu1 hu2 (Nat.le_of_ble_eq_true rfl) rfl (fun r4 m5 H => ?_)
      refine z_if_eq (pc := 30) (tgt := 136) C (dX12_isPaired 16 rfl) (by decide) (fun c6 => ?_) (fun c6 => ?_)
      · replace H := H.1 c6
        refine z_sub [0, 1, 2, 3, 4, 5, 6, 7] rfl ?_
        exact sX12_isPaired_J136 C hr hm hu1 hu2 ih H
      · replace H := H.2 c6
        refine z_aload_n (pc := 33) C (dX12_isPaired 17 rfl) rfl 0 rfl ?_
        refine z_getR (pc := 34) C zc12 h1 3 (by decide) rfl wf_X12_314 (dX12_isPaired 18 rfl) ?_
        obtain ⟨h7, H⟩ := H
        refine z_getRN (pc := 37) C zc11 h7 19 (by decide) rfl wn_X12_283 (dX12_isPaired 19 rfl) ?_
        refine z_iload (pc := 40) C (dX12_isPaired 20 rfl) 7 rfl ?_
        obtain ⟨h8, H⟩ := H
        obtain ⟨h9, H⟩ := H
        refine z_iaload (pc := 42) C h8 h9 (dX12_isPaired 21 rfl) ?_
        refine z_iload_n (pc := 43) C (dX12_isPaired 22 rfl) rfl 2 rfl ?_
        refine z_icmp_ne (pc := 44) (tgt := 136) C (dX12_isPaired 23 rfl) (by decide) (fun c10 => ?_) (fun c10 => ?_)
        · replace H := H.2 c10
          refine z_sub [0, 1, 2, 3, 4, 5, 6, 7] rfl ?_
          exact sX12_isPaired_J136 C hr hm hu1 hu2 ih H
        · replace H := H.1 c10
          refine z_aload_n (pc := 47) C (dX12_isPaired 24 rfl) rfl 0 rfl ?_
          refine z_getR (pc := 48) C zc12 h1 3 (by decide) rfl wf_X12_314 (dX12_isPaired 25 rfl) ?_
          refine z_getRN (pc := 51) C zc11 h7 12 (by decide) rfl wn_X12_260 (dX12_isPaired 26 rfl) ?_
          refine z_aload_n (pc := 54) C (dX12_isPaired 27 rfl) rfl 0 rfl ?_
          refine z_getR (pc := 55) C zc12 h1 3 (by decide) rfl wf_X12_314 (dX12_isPaired 28 rfl) ?_
          refine z_getRN (pc := 58) C zc11 h7 18 (by decide) rfl wn_X12_280 (dX12_isPaired 29 rfl) ?_
          refine z_iload (pc := 61) C (dX12_isPaired 30 rfl) 7 rfl ?_
          obtain ⟨h11, H⟩ := H
          obtain ⟨h12, H⟩ := H
          refine z_iaload (pc := 63) C h11 h12 (dX12_isPaired 31 rfl) ?_
          obtain ⟨h13, H⟩ := H
          obtain ⟨h14, H⟩ := H
          refine z_iaload (pc := 64) C h13 h14 (dX12_isPaired 32 rfl) ?_
          refine z_iconst (pc := 65) (v := 2) C (dX12_isPaired 33 rfl) (by decide) ?_
          refine z_icmp_ne (pc := 66) (tgt := 72) C (dX12_isPaired 34 rfl) (by decide) (fun c15 => ?_) (fun c15 => ?_)
          · replace H := H.2 c15
            refine z_iload (pc := 72) C (dX12_isPaired 36 rfl) 4 rfl ?_
            refine z_iconst (pc := 74) (v := 1) C (dX12_isPaired 37 rfl) (by decide) ?_
            refine z_aload_n (pc := 75) C (dX12_isPaired 38 rfl) rfl 0 rfl ?_
            refine z_getR (pc := 76) C zc12 h1 3 (by decide) rfl wf_X12_314 (dX12_isPaired 39 rfl) ?_
            refine z_getRN (pc := 79) C zc11 h7 18 (by decide) rfl wn_X12_280 (dX12_isPaired 40 rfl) ?_
            refine z_iload (pc := 82) C (dX12_isPaired 41 rfl) 7 rfl ?_
            refine z_iaload (pc := 84) C h11 h12 (dX12_isPaired 42 rfl) ?_
            refine z_ishl (pc := 85) C (dX12_isPaired 43 rfl) ?_
            refine z_ior (pc := 86) C (dX12_isPaired 44 rfl) ?_
            refine z_int (fun x16 hx16 => ?_)
            replace H := H x16 hx16
            refine z_istore (pc := 87) (i := 4) (lv2 := [(4, .int x16), (0, .ref a_0), (1, .int x_1), (2, .int x_2), (3, .int x_3), (5, .int x_5), (6, .int x_6), (7, .int x_7)]) C (dX12_isPaired 45 rfl) (by decide) rfl ?_
            refine z_aload_n (pc := 89) C (dX12_isPaired 46 rfl) rfl 1 rfl ?_
            refine z_iload_n (pc := 90) C (dX12_isPaired 47 rfl) rfl 2 rfl ?_
            refine z_iload (pc := 91) C (dX12_isPaired 48 rfl) 7 rfl ?_
            refine zc_Vi (pc := 93) (rest := []) C YX12_isRight wl_X12_323 (kX12_isRight H) (by decide) h1 rfl (by decide) (dX12_isPaired 49 rfl) rfl hu1 hu2 (Nat.le_of_ble_eq_true rfl) rfl (fun r17 m18 H => ?_)
            refine z_if_eq (pc := 96) (tgt := 119) C (dX12_isPaired 50 rfl) (by decide) (fun c19 => ?_) (fun c19 => ?_)
            · replace H := H.1 c19
              refine z_iload (pc := 119) C (dX12_isPaired 62 rfl) 6 rfl ?_
              refine z_iconst (pc := 121) (v := 1) C (dX12_isPaired 63 rfl) (by decide) ?_
              refine z_aload_n (pc := 122) C (dX12_isPaired 64 rfl) rfl 1 rfl ?_
              refine z_getR (pc := 123) C zc12 h1 3 (by decide) rfl wf_X12_314 (dX12_isPaired 65 rfl) ?_
              obtain ⟨h20, H⟩ := H
              refine z_getRN (pc := 126) C zc11 h20 18 (by decide) rfl wn_X12_280 (dX12_isPaired 66 rfl) ?_
              refine z_iload (pc := 129) C (dX12_isPaired 67 rfl) 7 rfl ?_
              obtain ⟨h21, H⟩ := H
              obtain ⟨h22, H⟩ := H
              refine z_iaload (pc := 131) C h21 h22 (dX12_isPaired 68 rfl) ?_
              refine z_ishl (pc := 132) C (dX12_isPaired 69 rfl) ?_
              refine z_ior (pc := 133) C (dX12_isPaired 70 rfl) ?_
              refine z_int (fun x23 hx23 => ?_)
              replace H := H x23 hx23
              refine z_istore (pc := 134) (i := 6) (lv2 := [(6, .int x23), (4, .int x16), (0, .ref a_0), (1, .int x_1), (2, .int x_2), (3, .int x_3), (5, .int x_5), (7, .int x_7)]) C (dX12_isPaired 71 rfl) (by decide) rfl ?_
              refine z_sub [2, 3, 4, 5, 1, 6, 0, 7] rfl ?_
              exact sX12_isPaired_J136 C hr hm hu1 hu2 ih H
            · replace H := H.2 c19
              refine z_iload (pc := 99) C (dX12_isPaired 51 rfl) 5 rfl ?_
              refine z_iconst (pc := 101) (v := 1) C (dX12_isPaired 52 rfl) (by decide) ?_
              refine z_aload_n (pc := 102) C (dX12_isPaired 53 rfl) rfl 1 rfl ?_
              refine z_getR (pc := 103) C zc12 h1 3 (by decide) rfl wf_X12_314 (dX12_isPaired 54 rfl) ?_
              obtain ⟨h24, H⟩ := H
              refine z_getRN (pc := 106) C zc11 h24 18 (by decide) rfl wn_X12_280 (dX12_isPaired 55 rfl) ?_
              refine z_iload (pc := 109) C (dX12_isPaired 56 rfl) 7 rfl ?_
              obtain ⟨h25, H⟩ := H
              obtain ⟨h26, H⟩ := H
              refine z_iaload (pc := 111) C h25 h26 (dX12_isPaired 57 rfl) ?_
              refine z_ishl (pc := 112) C (dX12_isPaired 58 rfl) ?_
              refine z_ior (pc := 113) C (dX12_isPaired 59 rfl) ?_
              refine z_int (fun x27 hx27 => ?_)
              replace H := H x27 hx27
              refine z_istore (pc := 114) (i := 5) (lv2 := [(5, .int x27), (4, .int x16), (0, .ref a_0), (1, .int x_1), (2, .int x_2), (3, .int x_3), (6, .int x_6), (7, .int x_7)]) C (dX12_isPaired 60 rfl) (by decide) rfl ?_
              refine z_goto (pc := 116) (tgt := 136) C (dX12_isPaired 61 rfl) (by decide) ?_
              refine z_sub [2, 3, 4, 5, 1, 0, 6, 7] rfl ?_
              exact sX12_isPaired_J136 C hr hm hu1 hu2 ih H
          · replace H := H.1 c15
            refine z_goto (pc := 69) (tgt := 136) C (dX12_isPaired 35 rfl) (by decide) ?_
            refine z_sub [0, 1, 2, 3, 4, 5, 6, 7] rfl ?_
            exact sX12_isPaired_J136 C hr hm hu1 hu2 ih H
def wX12_isPaired (t : zT) (m : zM) (a : Nat) (p1 : Int32) (p2 : Int32) (p3 : Int32) (Q : Int32 → zM → Prop) : Prop := (∃ n41, wX12_isPaired_L12 t a p1 p2 p3 Q (fun v28 v29 v30 m31 => (wX12_bits t m31 v28 (fun r32 m33 => ((r32 = 2 → (wX12_bits t m33 v29 (fun r35 m36 => ((r35 = 1 → (wX12_bits t m36 v30 (fun r38 m39 => ((r38 = 1 → (Q 1 m39)) ∧ (¬ r38 = 1 → (Q 0 m39)))))) ∧ (¬ r35 = 1 → (Q 0 m36)))))) ∧ (¬ r32 = 2 → (Q 1 m33)))))) n41 0 0 0 0 m)
set_option maxHeartbeats 4000000 in
set_option maxRecDepth 20000 in
theorem kX12_isPaired {l : Launch} {t : zT} {m : zM} {a : Nat} {p1 : Int32} {p2 : Int32} {p3 : Int32} {Q : Int32 → zM → Prop} (H : wX12_isPaired t m a p1 p2 p3 Q) : zMet l yX12_isPaired cX12_isPaired 8 (some .boolean) 2 0 0 t m [.ref a, .int p1, .int p2, .int p3] (zPi t Q) := by
  refine zmet (by decide +kernel) (Nat.le_of_ble_eq_true rfl) ?_
  intro p e s mt args below meth c g C hr hm
  unfold wX12_isPaired at H
  have hu1 : ((0, 0) : Nat × Nat).1 ≤ 0 := Nat.le_refl 0
  have hu2 : ((0, 0) : Nat × Nat).2 ≤ 0 := Nat.le_refl 0
  refine z_iconst (pc := 0) (v := 0) C (dX12_isPaired 0 rfl) (by decide) ?_
  refine z_istore (pc := 1) (i := 4) (lv2 := [(4, .int 0), (0, .ref a), (1, .int p1), (2, .int p2), (3, .int p3)]) C (dX12_isPaired 1 rfl) (by decide) rfl ?_
  refine z_iconst (pc := 3) (v := 0) C (dX12_isPaired 2 rfl) (by decide) ?_
  refine z_istore (pc := 4) (i := 5) (lv2 := [(5, .int 0), (4, .int 0), (0, .ref a), (1, .int p1), (2, .int p2), (3, .int p3)]) C (dX12_isPaired 3 rfl) (by decide) rfl ?_
  refine z_iconst (pc := 6) (v := 0) C (dX12_isPaired 4 rfl) (by decide) ?_
  refine z_istore (pc := 7) (i := 6) (lv2 := [(6, .int 0), (5, .int 0), (4, .int 0), (0, .ref a), (1, .int p1), (2, .int p2), (3, .int p3)]) C (dX12_isPaired 5 rfl) (by decide) rfl ?_
  refine z_iconst (pc := 9) (v := 0) C (dX12_isPaired 6 rfl) (by decide) ?_
  refine z_istore (pc := 10) (i := 7) (lv2 := [(7, .int 0), (6, .int 0), (5, .int 0), (4, .int 0), (0, .ref a), (1, .int p1), (2, .int p2), (3, .int p3)]) C (dX12_isPaired 7 rfl) (by decide) rfl ?_
  obtain ⟨n41, H⟩ := H
  refine z_sub [4, 5, 6, 7, 3, 2, 1, 0] rfl ?_
  refine sX12_isPaired_L12 C hr hm hu1 hu2 (fun v28 v29 v30 m31 H => ?_) n41 0 0 0 0 m H
  refine z_iload (pc := 142) C (dX12_isPaired 74 rfl) 0 rfl ?_
  refine zc_Si (pc := 144) (rest := []) C YX12_bits wl_X12_326 (kX12_bits H) (by decide) (dX12_isPaired 75 rfl) rfl hu1 hu2 (Nat.le_of_ble_eq_true rfl) rfl (fun r32 m33 H => ?_)
  refine z_iconst (pc := 147) (v := 2) C (dX12_isPaired 76 rfl) (by decide) ?_
  refine z_icmp_ne (pc := 148) (tgt := 169) C (dX12_isPaired 77 rfl) (by decide) (fun c34 => ?_) (fun c34 => ?_)
  · replace H := H.2 c34
    refine z_iconst (pc := 169) (v := 1) C (dX12_isPaired 86 rfl) (by decide) ?_
    refine z_goto (pc := 170) (tgt := 174) C (dX12_isPaired 87 rfl) (by decide) ?_
    exact z_zret (pc := 174) C hr (by decide) hu1 hu2 (dX12_isPaired 89 rfl) ⟨rfl, _, rfl, H⟩
  · replace H := H.1 c34
    refine z_iload (pc := 151) C (dX12_isPaired 78 rfl) 1 rfl ?_
    refine zc_Si (pc := 153) (rest := []) C YX12_bits wl_X12_326 (kX12_bits H) (by decide) (dX12_isPaired 79 rfl) rfl hu1 hu2 (Nat.le_of_ble_eq_true rfl) rfl (fun r35 m36 H => ?_)
    refine z_iconst (pc := 156) (v := 1) C (dX12_isPaired 80 rfl) (by decide) ?_
    refine z_icmp_ne (pc := 157) (tgt := 173) C (dX12_isPaired 81 rfl) (by decide) (fun c37 => ?_) (fun c37 => ?_)
    · replace H := H.2 c37
      refine z_iconst (pc := 173) (v := 0) C (dX12_isPaired 88 rfl) (by decide) ?_
      exact z_zret (pc := 174) C hr (by decide) hu1 hu2 (dX12_isPaired 89 rfl) ⟨rfl, _, rfl, H⟩
    · replace H := H.1 c37
      refine z_iload (pc := 160) C (dX12_isPaired 82 rfl) 2 rfl ?_
      refine zc_Si (pc := 162) (rest := []) C YX12_bits wl_X12_326 (kX12_bits H) (by decide) (dX12_isPaired 83 rfl) rfl hu1 hu2 (Nat.le_of_ble_eq_true rfl) rfl (fun r38 m39 H => ?_)
      refine z_iconst (pc := 165) (v := 1) C (dX12_isPaired 84 rfl) (by decide) ?_
      refine z_icmp_ne (pc := 166) (tgt := 173) C (dX12_isPaired 85 rfl) (by decide) (fun c40 => ?_) (fun c40 => ?_)
      · replace H := H.2 c40
        refine z_iconst (pc := 173) (v := 0) C (dX12_isPaired 88 rfl) (by decide) ?_
        exact z_zret (pc := 174) C hr (by decide) hu1 hu2 (dX12_isPaired 89 rfl) ⟨rfl, _, rfl, H⟩
      · replace H := H.1 c40
        refine z_iconst (pc := 169) (v := 1) C (dX12_isPaired 86 rfl) (by decide) ?_
        refine z_goto (pc := 170) (tgt := 174) C (dX12_isPaired 87 rfl) (by decide) ?_
        exact z_zret (pc := 174) C hr (by decide) hu1 hu2 (dX12_isPaired 89 rfl) ⟨rfl, _, rfl, H⟩
