def wJ7_fill_53178_L5 (t : zT) (a_0 : Nat) (x_1 : Int32) (x_3 : Int32) (Q : zM → Prop) (k20 : zM → Prop) : Nat → Int32 → zM → Prop
  | 0, _, _ => False
  | n + 1, x_2, m => ((x_3 ≤ x_2 → (k20 m)) ∧ (¬ x_3 ≤ x_2 → (tK t a_0 = 14 ∧ (vp_in x_2 (tL t a_0) ∧ (wJ7_fill_53178_L5 t a_0 x_1 x_3 Q k20 n (x_2 + 1) (pI m a_0 x_2.toNatClampNeg x_1))))))
set_option maxHeartbeats 4000000 in
set_option maxRecDepth 20000 in
theorem sJ7_fill_53178_L5 {p : Program} {l : Launch} {e : Env} {s : State} {mt : MethodId} {args : Array Value} {below : List Frame} {meth : Method} {c : Code} {g : zG} {u : Nat × Nat} {mc ms : Nat} {t : zT} {a_0 : Nat} {x_1 : Int32} {x_3 : Int32} {Q : zM → Prop} {k20 : zM → Prop} (C : zC p (zRm 0 mc ms) s mt args meth c g cJ7_fill_53178 4 yJ7_fill_53178.cls 0) (hr : meth.sig.returnType = none) (hm : meth.name = yJ7_fill_53178.name) (hu1 : u.1 ≤ mc) (hu2 : u.2 ≤ ms)
    (K20 : ∀ (m : zM), k20 m → zW p l e (zRm 0 mc ms) s mt args below meth c g (MQ below (zQc g (zPv t Q)) args s mc ms (zFar g)) u 4 t m 20 [] []) : ∀ (n : Nat) (x_2 : Int32) (m : zM), wJ7_fill_53178_L5 t a_0 x_1 x_3 Q k20 n x_2 m → zW p l e (zRm 0 mc ms) s mt args below meth c g (MQ below (zQc g (zPv t Q)) args s mc ms (zFar g)) u 4 t m 5 [(0, .ref a_0), (1, .int x_1), (2, .int x_2), (3, .int x_3)] [] := by
  intro n
  induction n with
  | zero => intro x_2 m H; exact H.elim
  | succ n ih =>
    intro x_2 m H
    simp only [wJ7_fill_53178_L5] at H
    refine z_iload_n (pc := 5) C (dJ7_fill_53178 5 rfl) rfl 2 rfl ?_
    refine z_iload_n (pc := 6) C (dJ7_fill_53178 6 rfl) rfl 3 rfl ?_
    refine z_icmp_ge (pc := 7) (tgt := 20) C (dJ7_fill_53178 7 rfl) (by decide) (fun c3 => ?_) (fun c3 => ?_)
    · replace H := H.1 c3
      refine z_sub [] rfl ?_
      exact K20 m H
    · replace H := H.2 c3
      refine z_aload_n (pc := 10) C (dJ7_fill_53178 8 rfl) rfl 0 rfl ?_
      refine z_iload_n (pc := 11) C (dJ7_fill_53178 9 rfl) rfl 2 rfl ?_
      refine z_iload_n (pc := 12) C (dJ7_fill_53178 10 rfl) rfl 1 rfl ?_
      obtain ⟨h4, H⟩ := H
      obtain ⟨h5, H⟩ := H
      refine z_iastore (pc := 13) C h4 h5 (dJ7_fill_53178 11 rfl) ?_
      refine z_iinc (pc := 14) (i := 2) (v := x_2 + 1) (lv2 := [(2, .int (x_2 + 1)), (0, .ref a_0), (1, .int x_1), (3, .int x_3)]) C (dJ7_fill_53178 12 rfl) 2 rfl (by rfl) (by decide) rfl ?_
      refine z_goto (pc := 17) (tgt := 5) C (dJ7_fill_53178 13 rfl) (by decide) ?_
      refine z_sub [1, 2, 0, 3] rfl ?_
      exact ih (x_2 + 1) (pI m a_0 x_2.toNatClampNeg x_1) H
def wJ7_fill_53178 (t : zT) (m : zM) (p1 : Nat) (p2 : Int32) (Q : zM → Prop) : Prop := (tK t p1 = 14 ∧ (∀ x2 : Int32, x2 = (Int32.ofNat (tL t p1)) → ((∃ n7, wJ7_fill_53178_L5 t p1 p2 x2 Q (fun m6 => (Q m6)) n7 0 m))))
set_option maxHeartbeats 4000000 in
set_option maxRecDepth 20000 in
theorem kJ7_fill_53178 {l : Launch} {t : zT} {m : zM} {p1 : Nat} {p2 : Int32} {Q : zM → Prop} (H : wJ7_fill_53178 t m p1 p2 Q) : zMet l yJ7_fill_53178 cJ7_fill_53178 4 none 0 0 0 t m [.ref p1, .int p2] (zPv t Q) := by
  refine zmet (by decide +kernel) (Nat.le_of_ble_eq_true rfl) ?_
  intro p e s mt args below meth c g C hr hm
  unfold wJ7_fill_53178 at H
  have hu1 : ((0, 0) : Nat × Nat).1 ≤ 0 := Nat.le_refl 0
  have hu2 : ((0, 0) : Nat × Nat).2 ≤ 0 := Nat.le_refl 0
  refine z_iconst (pc := 0) (v := 0) C (dJ7_fill_53178 0 rfl) (by decide) ?_
  refine z_istore_n (pc := 1) (i := 2) (lv2 := [(2, .int 0), (0, .ref p1), (1, .int p2)]) C (dJ7_fill_53178 1 rfl) rfl (by decide) rfl ?_
  refine z_aload_n (pc := 2) C (dJ7_fill_53178 2 rfl) rfl 1 rfl ?_
  obtain ⟨h1, H⟩ := H
  refine z_alen (pc := 3) C h1 (by decide) (by decide) (dJ7_fill_53178 3 rfl) ?_
  refine z_int (fun x2 hx2 => ?_)
  replace H := H x2 hx2
  refine z_istore_n (pc := 4) (i := 3) (lv2 := [(3, .int x2), (2, .int 0), (0, .ref p1), (1, .int p2)]) C (dJ7_fill_53178 4 rfl) rfl (by decide) rfl ?_
  obtain ⟨n7, H⟩ := H
  refine z_sub [2, 3, 1, 0] rfl ?_
  refine sJ7_fill_53178_L5 C hr hm hu1 hu2 (fun m6 H => ?_) n7 0 m H
  exact z_vret (pc := 20) C hr hu1 hu2 (dJ7_fill_53178 14 rfl) ⟨rfl, rfl, H⟩
def wX1_makeRoom_J53 (t : zT) (m : zM) (a_0 : Nat) (Q : zT → zM → Prop) : Prop := (tK t a_0 = 1 ∧ (wJ7_fill_53178 t m (gR m a_0 13) 0 (fun m6 => (Q t m6))))
set_option maxHeartbeats 4000000 in
set_option maxRecDepth 20000 in
theorem sX1_makeRoom_J53 {p : Program} {l : Launch} {e : Env} {s : State} {mt : MethodId} {args : Array Value} {below : List Frame} {meth : Method} {c : Code} {g : zG} {u : Nat × Nat} {mc ms : Nat} {t : zT} {m : zM} {a_0 : Nat} {Q : zT → zM → Prop} (C : zC p (zRm 1 mc ms) s mt args meth c g cX1_makeRoom 2 yX1_makeRoom.cls 1) (hr : meth.sig.returnType = none) (hm : meth.name = yX1_makeRoom.name) (hu1 : u.1 ≤ mc) (hu2 : u.2 ≤ ms) (H : wX1_makeRoom_J53 t m a_0 Q) : zW p l e (zRm 1 mc ms) s mt args below meth c g (MQ below (zQc g (zAw Q)) args s mc ms (zFar g)) u 2 t m 53 [(0, .ref a_0)] [] := by
  unfold wX1_makeRoom_J53 at H
  refine z_aload_n (pc := 53) C (dX1_makeRoom 29 rfl) rfl 0 rfl ?_
  obtain ⟨h4, H⟩ := H
  refine z_getR (pc := 54) C zc1 h4 13 (by decide) rfl wf_X1_27 (dX1_makeRoom 30 rfl) ?_
  refine z_iconst (pc := 57) (v := 0) C (dX1_makeRoom 31 rfl) (by decide) ?_
  refine zc_Sv (pc := 58) (rest := []) C YJ7_fill_53178 wl_X1_93 (kJ7_fill_53178 H) (by decide) (dX1_makeRoom 32 rfl) rfl hu1 hu2 (Nat.le_of_ble_eq_true rfl) rfl (fun m6 H => ?_)
  exact z_vret (pc := 61) C hr hu1 hu2 (dX1_makeRoom 33 rfl) ⟨rfl, H⟩
def wX1_makeRoom (cap : Nat × Nat) (t : zT) (m : zM) (a : Nat) (Q : zT → zM → Prop) : Prop := (tK t a = 1 ∧ (tK t (gR m a 13) = 14 ∧ (((gI m a 7) ≤ (Int32.ofNat (tL t (gR m a 13))) → (wX1_makeRoom_J53 t m a Q)) ∧ (¬ (gI m a 7) ≤ (Int32.ofNat (tL t (gR m a 13))) → (∀ x7 : Int32, x7 = (if (gI m a 7) < (if (50625 : Int32) < ((2 : Int32) * (Int32.ofNat (tL t (gR m a 13)))) then (50625 : Int32) else ((2 : Int32) * (Int32.ofNat (tL t (gR m a 13))))) then (if (50625 : Int32) < ((2 : Int32) * (Int32.ofNat (tL t (gR m a 13)))) then (50625 : Int32) else ((2 : Int32) * (Int32.ofNat (tL t (gR m a 13))))) else (gI m a 7)) → (((¬ x7 < 0 ∧ x7.toNatClampNeg * 4 ≤ 536870912) ∧ ((0 + 1 ≤ cap.1 ∧ 0 + x7.toNatClampNeg ≤ cap.2) ∧ (0 < tN t → (tK (tNew t 14 x7.toNatClampNeg) a = 1 ∧ ((¬ x7 < 0 ∧ x7.toNatClampNeg * 4 ≤ 536870912) ∧ ((0 + 1 + 1 ≤ cap.1 ∧ 0 + x7.toNatClampNeg + x7.toNatClampNeg ≤ cap.2) ∧ (0 < tN (tNew t 14 x7.toNatClampNeg) → (tK (tNew (tNew t 14 x7.toNatClampNeg) 14 x7.toNatClampNeg) a = 1 ∧ ((¬ x7 < 0 ∧ x7.toNatClampNeg * 4 ≤ 536870912) ∧ ((0 + 1 + 1 + 1 ≤ cap.1 ∧ 0 + x7.toNatClampNeg + x7.toNatClampNeg + x7.toNatClampNeg ≤ cap.2) ∧ (0 < tN (tNew (tNew t 14 x7.toNatClampNeg) 14 x7.toNatClampNeg) → (tK (tNew (tNew (tNew t 14 x7.toNatClampNeg) 14 x7.toNatClampNeg) 14 x7.toNatClampNeg) a = 1 ∧ (wX1_makeRoom_J53 (tNew (tNew (tNew t 14 x7.toNatClampNeg) 14 x7.toNatClampNeg) 14 x7.toNatClampNeg) (pR (zClr (pR (zClr (pR (zClr m (tN t)) a 13 (tN t)) (tN (tNew t 14 x7.toNatClampNeg))) a 14 (tN (tNew t 14 x7.toNatClampNeg))) (tN (tNew (tNew t 14 x7.toNatClampNeg) 14 x7.toNatClampNeg))) a 15 (tN (tNew (tNew t 14 x7.toNatClampNeg) 14 x7.toNatClampNeg))) a Q)))))))))))))))))))
set_option maxHeartbeats 4000000 in
set_option maxRecDepth 20000 in
theorem kX1_makeRoom {l : Launch} {cap : Nat × Nat} {t : zT} {m : zM} {a : Nat} {Q : zT → zM → Prop} (H : wX1_makeRoom cap t m a Q) : zMet l yX1_makeRoom cX1_makeRoom 2 none 1 cap.1 cap.2 t m [.ref a] (zAw Q) := by
  refine zmet (by decide +kernel) (Nat.le_of_ble_eq_true rfl) ?_
  intro p e s mt args below meth c g C hr hm
  unfold wX1_makeRoom at H
  obtain ⟨mc, ms⟩ := cap
  refine z_aload_n (pc := 0) C (dX1_makeRoom 0 rfl) rfl 0 rfl ?_
  obtain ⟨h1, H⟩ := H
  refine z_getR (pc := 1) C zc1 h1 13 (by decide) rfl wf_X1_27 (dX1_makeRoom 1 rfl) ?_
  obtain ⟨h2, H⟩ := H
  refine z_alen (pc := 4) C h2 (by decide) (by decide) (dX1_makeRoom 2 rfl) ?_
  refine z_aload_n (pc := 5) C (dX1_makeRoom 3 rfl) rfl 0 rfl ?_
  refine z_getI (pc := 6) C zc1 h1 7 (by decide) rfl wf_X1_71 (dX1_makeRoom 4 rfl) ?_
  refine z_icmp_ge (pc := 9) (tgt := 53) C (dX1_makeRoom 5 rfl) (by decide) (fun c3 => ?_) (fun c3 => ?_)
  · replace H := H.1 c3
    refine z_sub [0] rfl ?_
    exact sX1_makeRoom_J53 C hr hm (Nat.zero_le _) (Nat.zero_le _) H
  · replace H := H.2 c3
    refine z_aload_n (pc := 12) C (dX1_makeRoom 6 rfl) rfl 0 rfl ?_
    refine z_getI (pc := 13) C zc1 h1 7 (by decide) rfl wf_X1_71 (dX1_makeRoom 7 rfl) ?_
    refine z_iconst (pc := 16) (v := 2) C (dX1_makeRoom 8 rfl) (by decide) ?_
    refine z_aload_n (pc := 17) C (dX1_makeRoom 9 rfl) rfl 0 rfl ?_
    refine z_getR (pc := 18) C zc1 h1 13 (by decide) rfl wf_X1_27 (dX1_makeRoom 10 rfl) ?_
    refine z_alen (pc := 21) C h2 (by decide) (by decide) (dX1_makeRoom 11 rfl) ?_
    refine z_imul (pc := 22) C (dX1_makeRoom 12 rfl) ?_
    refine z_ldc (pc := 23) C wk_X1_83 (dX1_makeRoom 13 rfl) ?_
    refine z_mmin (pc := 25) C wl_X1_84 (by decide) (Nat.zero_le _) (Nat.zero_le _) (Nat.le_of_ble_eq_true rfl) (dX1_makeRoom 14 rfl) ?_
    refine z_mmax (pc := 28) C wl_X1_90 (by decide) (Nat.zero_le _) (Nat.zero_le _) (Nat.le_of_ble_eq_true rfl) (dX1_makeRoom 15 rfl) ?_
    refine z_int (fun x7 hx7 => ?_)
    replace H := H x7 hx7
    refine z_istore_n (pc := 31) (i := 1) (lv2 := [(1, .int x7), (0, .ref a)]) C (dX1_makeRoom 16 rfl) rfl (by decide) rfl ?_
    refine z_aload_n (pc := 32) C (dX1_makeRoom 17 rfl) rfl 1 rfl ?_
    refine z_iload_n (pc := 33) C (dX1_makeRoom 18 rfl) rfl 0 rfl ?_
    obtain ⟨h19, H⟩ := H
    obtain ⟨h17, H⟩ := H
    refine z_newaI (pc := 34) (N := x7.toNatClampNeg) C h19.1 rfl h19.2 wa_int (dX1_makeRoom 19 rfl) h17.1 h17.2 (fun h18 => ?_)
    replace H := H h18
    obtain ⟨h8, H⟩ := H
    refine z_putR (pc := 36) C zc1 h8 13 (by decide) rfl rfl wf_X1_27 (dX1_makeRoom 20 rfl) ?_
    refine z_aload_n (pc := 39) C (dX1_makeRoom 21 rfl) rfl 1 rfl ?_
    refine z_iload_n (pc := 40) C (dX1_makeRoom 22 rfl) rfl 0 rfl ?_
    obtain ⟨h16, H⟩ := H
    obtain ⟨h14, H⟩ := H
    refine z_newaI (pc := 41) (N := x7.toNatClampNeg) C h16.1 rfl h16.2 wa_int (dX1_makeRoom 23 rfl) h14.1 h14.2 (fun h15 => ?_)
    replace H := H h15
    obtain ⟨h9, H⟩ := H
    refine z_putR (pc := 43) C zc1 h9 14 (by decide) rfl rfl wf_X1_30 (dX1_makeRoom 24 rfl) ?_
    refine z_aload_n (pc := 46) C (dX1_makeRoom 25 rfl) rfl 1 rfl ?_
    refine z_iload_n (pc := 47) C (dX1_makeRoom 26 rfl) rfl 0 rfl ?_
    obtain ⟨h13, H⟩ := H
    obtain ⟨h11, H⟩ := H
    refine z_newaI (pc := 48) (N := x7.toNatClampNeg) C h13.1 rfl h13.2 wa_int (dX1_makeRoom 27 rfl) h11.1 h11.2 (fun h12 => ?_)
    replace H := H h12
    obtain ⟨h10, H⟩ := H
    refine z_putR (pc := 50) C zc1 h10 15 (by decide) rfl rfl wf_X1_33 (dX1_makeRoom 28 rfl) ?_
    refine z_sub [1] rfl ?_
    exact sX1_makeRoom_J53 C hr hm (by first | omega | (show _ ≤ mc; omega)) (by first | omega | (show _ ≤ ms; omega)) H
def wX4_lowestBit (t : zT) (m : zM) (p1 : Int64) (Q : Int32 → zM → Prop) : Prop := (wJ13_bitCount_95d88 t m ((p1 &&& (-p1)) - 1) (fun r1 m2 => (Q r1 m2)))
set_option maxHeartbeats 4000000 in
set_option maxRecDepth 20000 in
theorem kX4_lowestBit {l : Launch} {t : zT} {m : zM} {p1 : Int64} {Q : Int32 → zM → Prop} (H : wX4_lowestBit t m p1 Q) : zMet l yX4_lowestBit cX4_lowestBit 2 (some .int) 1 0 0 t m [.long p1] (zPi t Q) := by
  refine zmet (by decide +kernel) (Nat.le_of_ble_eq_true rfl) ?_
  intro p e s mt args below meth c g C hr hm
  unfold wX4_lowestBit at H
  have hu1 : ((0, 0) : Nat × Nat).1 ≤ 0 := Nat.le_refl 0
  have hu2 : ((0, 0) : Nat × Nat).2 ≤ 0 := Nat.le_refl 0
  refine z_lload_n (pc := 0) C (dX4_lowestBit 0 rfl) rfl 0 rfl ?_
  refine z_lload_n (pc := 1) C (dX4_lowestBit 1 rfl) rfl 0 rfl ?_
  refine z_lneg (pc := 2) C (dX4_lowestBit 2 rfl) ?_
  refine z_land (pc := 3) C (dX4_lowestBit 3 rfl) ?_
  refine z_lconst (pc := 4) (v := 1) C (dX4_lowestBit 4 rfl) (by decide) ?_
  refine z_lsub (pc := 5) C (dX4_lowestBit 5 rfl) ?_
  refine zc_Si (pc := 6) (rest := []) C YJ13_bitCount_95d88 wl_X4_22 (kJ13_bitCount_95d88 H) (by decide) (dX4_lowestBit 6 rfl) rfl hu1 hu2 (Nat.le_of_ble_eq_true rfl) rfl (fun r1 m2 H => ?_)
  exact z_iret (pc := 9) C hr hu1 hu2 (dX4_lowestBit 7 rfl) ⟨rfl, _, rfl, H⟩
def wX9_remainder (t : zT) (m : zM) (p1 : Int32) (p2 : Int32) (Q : Int32 → zM → Prop) : Prop := ((p2 ≤ 0 → (Q 0 m)) ∧ (¬ p2 ≤ 0 → (¬ p2 = 0 ∧ (Q (p1 - p1 / p2 * p2) m))))
set_option maxHeartbeats 4000000 in
set_option maxRecDepth 20000 in
theorem kX9_remainder {l : Launch} {t : zT} {m : zM} {p1 : Int32} {p2 : Int32} {Q : Int32 → zM → Prop} (H : wX9_remainder t m p1 p2 Q) : zMet l yX9_remainder cX9_remainder 2 (some .int) 0 0 0 t m [.int p1, .int p2] (zPi t Q) := by
  refine zmet (by decide +kernel) (Nat.le_of_ble_eq_true rfl) ?_
  intro p e s mt args below meth c g C hr hm
  unfold wX9_remainder at H
  have hu1 : ((0, 0) : Nat × Nat).1 ≤ 0 := Nat.le_refl 0
  have hu2 : ((0, 0) : Nat × Nat).2 ≤ 0 := Nat.le_refl 0
  refine z_iload_n (pc := 0) C (dX9_remainder 0 rfl) rfl 1 rfl ?_
  refine z_if_le (pc := 1) (tgt := 10) C (dX9_remainder 1 rfl) (by decide) (fun c1 => ?_) (fun c1 => ?_)
  · replace H := H.1 c1
    refine z_iconst (pc := 10) (v := 0) C (dX9_remainder 6 rfl) (by decide) ?_
    exact z_iret (pc := 11) C hr hu1 hu2 (dX9_remainder 7 rfl) ⟨rfl, _, rfl, H⟩
  · replace H := H.2 c1
    refine z_iload_n (pc := 4) C (dX9_remainder 2 rfl) rfl 0 rfl ?_
    refine z_iload_n (pc := 5) C (dX9_remainder 3 rfl) rfl 1 rfl ?_
    obtain ⟨h2, H⟩ := H
    refine z_irem (pc := 6) C (hne := h2) (dX9_remainder 4 rfl) ?_
    refine z_goto (pc := 7) (tgt := 11) C (dX9_remainder 5 rfl) (by decide) ?_
    exact z_iret (pc := 11) C hr hu1 hu2 (dX9_remainder 7 rfl) ⟨rfl, _, rfl, H⟩
def wX8_answerIn (t : zT) (m : zM) (a : Nat) (p1 : Int32) (p2 : Int32) (Q : Int32 → zM → Prop) : Prop := (tK t a = 8 ∧ (tK t (gR m a 3) = 14 ∧ (vp_in p2 (tL t (gR m a 3)) ∧ (((gI m (gR m a 3) p2.toNatClampNeg) ≤ 0 → (Q 0 m)) ∧ (¬ (gI m (gR m a 3) p2.toNatClampNeg) ≤ 0 → (¬ (gI m (gR m a 3) p2.toNatClampNeg) = 0 ∧ (tK t (gR m a 0) = 5 ∧ (tK t (gR m (gR m a 0) 1) = 14 ∧ (vp_in p2 (tL t (gR m (gR m a 0) 1)) ∧ (wX9_remainder t m (p1 / (gI m (gR m a 3) p2.toNatClampNeg)) (gI m (gR m (gR m a 0) 1) p2.toNatClampNeg) (fun r9 m10 => (Q r9 m10))))))))))))
set_option maxHeartbeats 4000000 in
set_option maxRecDepth 20000 in
theorem kX8_answerIn {l : Launch} {t : zT} {m : zM} {a : Nat} {p1 : Int32} {p2 : Int32} {Q : Int32 → zM → Prop} (H : wX8_answerIn t m a p1 p2 Q) : zMet l yX8_answerIn cX8_answerIn 3 (some .int) 1 0 0 t m [.ref a, .int p1, .int p2] (zPi t Q) := by
  refine zmet (by decide +kernel) (Nat.le_of_ble_eq_true rfl) ?_
  intro p e s mt args below meth c g C hr hm
  unfold wX8_answerIn at H
  have hu1 : ((0, 0) : Nat × Nat).1 ≤ 0 := Nat.le_refl 0
  have hu2 : ((0, 0) : Nat × Nat).2 ≤ 0 := Nat.le_refl 0
  refine z_aload_n (pc := 0) C (dX8_answerIn 0 rfl) rfl 0 rfl ?_
  obtain ⟨h1, H⟩ := H
  refine z_getR (pc := 1) C zc8 h1 3 (by decide) rfl wf_X8_18 (dX8_answerIn 1 rfl) ?_
  refine z_iload_n (pc := 4) C (dX8_answerIn 2 rfl) rfl 2 rfl ?_
  obtain ⟨h2, H⟩ := H
  obtain ⟨h3, H⟩ := H
  refine z_iaload (pc := 5) C h2 h3 (dX8_answerIn 3 rfl) ?_
  refine z_if_le (pc := 6) (tgt := 32) C (dX8_answerIn 4 rfl) (by decide) (fun c4 => ?_) (fun c4 => ?_)
  · replace H := H.1 c4
    refine z_iconst (pc := 32) (v := 0) C (dX8_answerIn 18 rfl) (by decide) ?_
    exact z_iret (pc := 33) C hr hu1 hu2 (dX8_answerIn 19 rfl) ⟨rfl, _, rfl, H⟩
  · replace H := H.2 c4
    refine z_iload_n (pc := 9) C (dX8_answerIn 5 rfl) rfl 1 rfl ?_
    refine z_aload_n (pc := 10) C (dX8_answerIn 6 rfl) rfl 0 rfl ?_
    refine z_getR (pc := 11) C zc8 h1 3 (by decide) rfl wf_X8_18 (dX8_answerIn 7 rfl) ?_
    refine z_iload_n (pc := 14) C (dX8_answerIn 8 rfl) rfl 2 rfl ?_
    refine z_iaload (pc := 15) C h2 h3 (dX8_answerIn 9 rfl) ?_
    obtain ⟨h5, H⟩ := H
    refine z_idiv (pc := 16) C (hne := h5) (dX8_answerIn 10 rfl) ?_
    refine z_aload_n (pc := 17) C (dX8_answerIn 11 rfl) rfl 0 rfl ?_
    refine z_getR (pc := 18) C zc8 h1 0 (by decide) rfl wf_X8_12 (dX8_answerIn 12 rfl) ?_
    obtain ⟨h6, H⟩ := H
    refine z_getR (pc := 21) C zc5 h6 1 (by decide) rfl wf_X8_56 (dX8_answerIn 13 rfl) ?_
    refine z_iload_n (pc := 24) C (dX8_answerIn 14 rfl) rfl 2 rfl ?_
    obtain ⟨h7, H⟩ := H
    obtain ⟨h8, H⟩ := H
    refine z_iaload (pc := 25) C h7 h8 (dX8_answerIn 15 rfl) ?_
    refine zc_SiN (pc := 26) (rest := []) C YX9_remainder wm_X8_99 (kX9_remainder H) (by decide) (dX8_answerIn 16 rfl) rfl hu1 hu2 (Nat.le_of_ble_eq_true rfl) rfl (fun r9 m10 H => ?_)
    refine z_goto (pc := 29) (tgt := 33) C (dX8_answerIn 17 rfl) (by decide) ?_
    exact z_iret (pc := 33) C hr hu1 hu2 (dX8_answerIn 19 rfl) ⟨rfl, _, rfl, H⟩
def wX1_lastState_L5 (t : zT) (a_0 : Nat) (a_1 : Nat) (x_2 : Int32) (Q : Int32 → zM → Prop) (k45 : Int32 → zM → Prop) : Nat → Int32 → Int32 → zM → Prop
  | 0, _, _, _ => False
  | n + 1, x_3, x_4, m => (tK t a_0 = 1 ∧ (((gI m a_0 6) ≤ x_4 → (k45 x_3 m)) ∧ (¬ (gI m a_0 6) ≤ x_4 → (tK t (gR m a_0 8) = 14 ∧ (vp_in x_4 (tL t (gR m a_0 8)) ∧ (tK t a_1 = 8 ∧ (wX8_answerIn t m a_1 x_2 (gI m (gR m a_0 8) x_4.toNatClampNeg) (fun r6 m7 => (tK t (gR m7 a_0 11) = 14 ∧ (vp_in x_4 (tL t (gR m7 a_0 11)) ∧ (∀ x10 : Int32, x10 = (x_3 + ((r6 + (1 : Int32)) * (gI m7 (gR m7 a_0 11) x_4.toNatClampNeg))) → ((wX1_lastState_L5 t a_0 a_1 x_2 Q k45 n x10 (x_4 + 1) m7)))))))))))))
set_option maxHeartbeats 4000000 in
set_option maxRecDepth 20000 in
theorem sX1_lastState_L5 {p : Program} {l : Launch} {e : Env} {s : State} {mt : MethodId} {args : Array Value} {below : List Frame} {meth : Method} {c : Code} {g : zG} {u : Nat × Nat} {mc ms : Nat} {t : zT} {a_0 : Nat} {a_1 : Nat} {x_2 : Int32} {Q : Int32 → zM → Prop} {k45 : Int32 → zM → Prop} (C : zC p (zRm 2 mc ms) s mt args meth c g cX1_lastState 5 yX1_lastState.cls 2) (hr : meth.sig.returnType = (some .int)) (hm : meth.name = yX1_lastState.name) (hu1 : u.1 ≤ mc) (hu2 : u.2 ≤ ms)
    (K45 : ∀ (v0 : Int32) (m : zM), k45 v0 m → zW p l e (zRm 2 mc ms) s mt args below meth c g (MQ below (zQc g (zPi t Q)) args s mc ms (zFar g)) u 5 t m 45 [(3, .int v0)] []) : ∀ (n : Nat) (x_3 : Int32) (x_4 : Int32) (m : zM), wX1_lastState_L5 t a_0 a_1 x_2 Q k45 n x_3 x_4 m → zW p l e (zRm 2 mc ms) s mt args below meth c g (MQ below (zQc g (zPi t Q)) args s mc ms (zFar g)) u 5 t m 5 [(0, .ref a_0), (1, .ref a_1), (2, .int x_2), (3, .int x_3), (4, .int x_4)] [] := by
  intro n
  induction n with
  | zero => intro x_3 x_4 m H; exact H.elim
  | succ n ih =>
    intro x_3 x_4 m H
    simp only [wX1_lastState_L5] at H
    refine z_iload (pc := 5) C (dX1_lastState 4 rfl) 4 rfl ?_
    refine z_aload_n (pc := 7) C (dX1_lastState 5 rfl) rfl 0 rfl ?_
    obtain ⟨h1, H⟩ := H
    refine z_getI (pc := 8) C zc1 h1 6 (by decide) rfl wf_X1_67 (dX1_lastState 6 rfl) ?_
    refine z_icmp_ge (pc := 11) (tgt := 45) C (dX1_lastState 7 rfl) (by decide) (fun c2 => ?_) (fun c2 => ?_)
    · replace H := H.1 c2
      refine z_sub [3] rfl ?_
      exact K45 x_3 m H
    · replace H := H.2 c2
      refine z_iload_n (pc := 14) C (dX1_lastState 8 rfl) rfl 3 rfl ?_
      refine z_aload_n (pc := 15) C (dX1_lastState 9 rfl) rfl 1 rfl ?_
      refine z_iload_n (pc := 16) C (dX1_lastState 10 rfl) rfl 2 rfl ?_
      refine z_aload_n (pc := 17) C (dX1_lastState 11 rfl) rfl 0 rfl ?_
      refine z_getR (pc := 18) C zc1 h1 8 (by decide) rfl wf_X1_9 (dX1_lastState 12 rfl) ?_
      refine z_iload (pc := 21) C (dX1_lastState 13 rfl) 4 rfl ?_
      obtain ⟨h3, H⟩ := H
      obtain ⟨h4, H⟩ := H
      refine z_iaload (pc := 23) C h3 h4 (dX1_lastState 14 rfl) ?_
      obtain ⟨h5, H⟩ := H
      refine zc_Vi (pc := 24) (rest := [.int x_3]) C YX8_answerIn wl_X1_116 (kX8_answerIn H) (by decide) h5 rfl (by decide) (dX1_lastState 15 rfl) rfl hu1 hu2 (Nat.le_of_ble_eq_true rfl) rfl (fun r6 m7 H => ?_)
      refine z_iconst (pc := 27) (v := 1) C (dX1_lastState 16 rfl) (by decide) ?_
      refine z_iadd (pc := 28) C (dX1_lastState 17 rfl) ?_
      refine z_aload_n (pc := 29) C (dX1_lastState 18 rfl) rfl 0 rfl ?_
      refine z_getR (pc := 30) C zc1 h1 11 (by decide) rfl wf_X1_21 (dX1_lastState 19 rfl) ?_
      refine z_iload (pc := 33) C (dX1_lastState 20 rfl) 4 rfl ?_
      obtain ⟨h8, H⟩ := H
      obtain ⟨h9, H⟩ := H
      refine z_iaload (pc := 35) C h8 h9 (dX1_lastState 21 rfl) ?_
      refine z_imul (pc := 36) C (dX1_lastState 22 rfl) ?_
      refine z_iadd (pc := 37) C (dX1_lastState 23 rfl) ?_
      refine z_int (fun x10 hx10 => ?_)
      replace H := H x10 hx10
      refine z_istore_n (pc := 38) (i := 3) (lv2 := [(3, .int x10), (0, .ref a_0), (1, .ref a_1), (2, .int x_2), (4, .int x_4)]) C (dX1_lastState 24 rfl) rfl (by decide) rfl ?_
      refine z_iinc (pc := 39) (i := 4) (v := x_4 + 1) (lv2 := [(4, .int (x_4 + 1)), (3, .int x10), (0, .ref a_0), (1, .ref a_1), (2, .int x_2)]) C (dX1_lastState 25 rfl) 4 rfl (by rfl) (by decide) rfl ?_
      refine z_goto (pc := 42) (tgt := 5) C (dX1_lastState 26 rfl) (by decide) ?_
      refine z_sub [2, 3, 4, 1, 0] rfl ?_
      exact ih x10 (x_4 + 1) m7 H
def wX1_lastState (t : zT) (m : zM) (a : Nat) (p1 : Nat) (p2 : Int32) (Q : Int32 → zM → Prop) : Prop := (∃ n13, wX1_lastState_L5 t a p1 p2 Q (fun v11 m12 => (Q v11 m12)) n13 0 0 m)
set_option maxHeartbeats 4000000 in
set_option maxRecDepth 20000 in
theorem kX1_lastState {l : Launch} {t : zT} {m : zM} {a : Nat} {p1 : Nat} {p2 : Int32} {Q : Int32 → zM → Prop} (H : wX1_lastState t m a p1 p2 Q) : zMet l yX1_lastState cX1_lastState 5 (some .int) 2 0 0 t m [.ref a, .ref p1, .int p2] (zPi t Q) := by
  refine zmet (by decide +kernel) (Nat.le_of_ble_eq_true rfl) ?_
  intro p e s mt args below meth c g C hr hm
  unfold wX1_lastState at H
  have hu1 : ((0, 0) : Nat × Nat).1 ≤ 0 := Nat.le_refl 0
  have hu2 : ((0, 0) : Nat × Nat).2 ≤ 0 := Nat.le_refl 0
  refine z_iconst (pc := 0) (v := 0) C (dX1_lastState 0 rfl) (by decide) ?_
  refine z_istore_n (pc := 1) (i := 3) (lv2 := [(3, .int 0), (0, .ref a), (1, .ref p1), (2, .int p2)]) C (dX1_lastState 1 rfl) rfl (by decide) rfl ?_
  refine z_iconst (pc := 2) (v := 0) C (dX1_lastState 2 rfl) (by decide) ?_
  refine z_istore (pc := 3) (i := 4) (lv2 := [(4, .int 0), (3, .int 0), (0, .ref a), (1, .ref p1), (2, .int p2)]) C (dX1_lastState 3 rfl) (by decide) rfl ?_
  obtain ⟨n13, H⟩ := H
  refine z_sub [2, 3, 4, 1, 0] rfl ?_
  refine sX1_lastState_L5 C hr hm hu1 hu2 (fun v11 m12 H => ?_) n13 0 0 m H
  refine z_iload_n (pc := 45) C (dX1_lastState 27 rfl) rfl 0 rfl ?_
  exact z_iret (pc := 46) C hr hu1 hu2 (dX1_lastState 28 rfl) ⟨rfl, _, rfl, H⟩
def wX1_fillLast_J89 (t : zT) (m : zM) (a_0 : Nat) (a_1 : Nat) (a_2 : Nat) (x_4 : Int32) (y_5 : Int64) (x_7 : Int32) (s_0 : Int32) (Q : Int32 → zM → Prop) (r26 : Int32 → Int64 → Int32 → zM → Prop) : Prop := (∀ x16 : Int64, x16 = (y_5 &&& (y_5 - 1)) → ((r26 s_0 x16 (x_7 + 1) m)))
set_option maxHeartbeats 4000000 in
set_option maxRecDepth 20000 in
theorem sX1_fillLast_J89 {p : Program} {l : Launch} {e : Env} {s : State} {mt : MethodId} {args : Array Value} {below : List Frame} {meth : Method} {c : Code} {g : zG} {u : Nat × Nat} {mc ms : Nat} {t : zT} {m : zM} {a_0 : Nat} {a_1 : Nat} {a_2 : Nat} {x_4 : Int32} {y_5 : Int64} {x_7 : Int32} {s_0 : Int32} {Q : Int32 → zM → Prop} {r26 : Int32 → Int64 → Int32 → zM → Prop} (C : zC p (zRm 3 mc ms) s mt args meth c g cX1_fillLast 9 yX1_fillLast.cls 3) (hr : meth.sig.returnType = (some .boolean)) (hm : meth.name = yX1_fillLast.name) (hu1 : u.1 ≤ mc) (hu2 : u.2 ≤ ms)
    (R26 : ∀ (v0 : Int32) (v1 : Int64) (v2 : Int32) (m : zM), r26 v0 v1 v2 m → zW p l e (zRm 3 mc ms) s mt args below meth c g (MQ below (zQc g (zPi t Q)) args s mc ms (zFar g)) u 9 t m 26 [(0, .ref a_0), (1, .ref a_1), (2, .ref a_2), (3, .int v0), (4, .int x_4), (5, .long v1), (7, .int v2)] []) (H : wX1_fillLast_J89 t m a_0 a_1 a_2 x_4 y_5 x_7 s_0 Q r26) : zW p l e (zRm 3 mc ms) s mt args below meth c g (MQ below (zQc g (zPi t Q)) args s mc ms (zFar g)) u 9 t m 89 [(0, .ref a_0), (1, .ref a_1), (2, .ref a_2), (4, .int x_4), (5, .long y_5), (7, .int x_7)] [.int s_0] := by
  unfold wX1_fillLast_J89 at H
  refine z_istore_n (pc := 89) (i := 3) (lv2 := [(3, .int s_0), (0, .ref a_0), (1, .ref a_1), (2, .ref a_2), (4, .int x_4), (5, .long y_5), (7, .int x_7)]) C (dX1_fillLast 51 rfl) rfl (by decide) rfl ?_
  refine z_lload (pc := 90) C (dX1_fillLast 52 rfl) 5 rfl ?_
  refine z_lload (pc := 92) C (dX1_fillLast 53 rfl) 5 rfl ?_
  refine z_lconst (pc := 94) (v := 1) C (dX1_fillLast 54 rfl) (by decide) ?_
  refine z_lsub (pc := 95) C (dX1_fillLast 55 rfl) ?_
  refine z_land (pc := 96) C (dX1_fillLast 56 rfl) ?_
  refine z_long (fun x16 hx16 => ?_)
  replace H := H x16 hx16
  refine z_lstore (pc := 97) (i := 5) (lv2 := [(5, .long x16), (3, .int s_0), (0, .ref a_0), (1, .ref a_1), (2, .ref a_2), (4, .int x_4), (7, .int x_7)]) C (dX1_fillLast 57 rfl) (by decide) rfl ?_
  refine z_iinc (pc := 99) (i := 7) (v := x_7 + 1) (lv2 := [(7, .int (x_7 + 1)), (5, .long x16), (3, .int s_0), (0, .ref a_0), (1, .ref a_1), (2, .ref a_2), (4, .int x_4)]) C (dX1_fillLast 58 rfl) 6 rfl (by rfl) (by decide) rfl ?_
  refine z_goto (pc := 102) (tgt := 26) C (dX1_fillLast 59 rfl) (by decide) ?_
  refine z_sub [3, 4, 5, 2, 6, 1, 0] rfl ?_
  exact R26 s_0 x16 (x_7 + 1) m H
def wX1_fillLast_J88 (t : zT) (m : zM) (a_0 : Nat) (a_1 : Nat) (a_2 : Nat) (x_4 : Int32) (y_5 : Int64) (x_7 : Int32) (Q : Int32 → zM → Prop) (r26 : Int32 → Int64 → Int32 → zM → Prop) : Prop := (wX1_fillLast_J89 t m a_0 a_1 a_2 x_4 y_5 x_7 0 Q r26)
set_option maxHeartbeats 4000000 in
set_option maxRecDepth 20000 in
theorem sX1_fillLast_J88 {p : Program} {l : Launch} {e : Env} {s : State} {mt : MethodId} {args : Array Value} {below : List Frame} {meth : Method} {c : Code} {g : zG} {u : Nat × Nat} {mc ms : Nat} {t : zT} {m : zM} {a_0 : Nat} {a_1 : Nat} {a_2 : Nat} {x_4 : Int32} {y_5 : Int64} {x_7 : Int32} {Q : Int32 → zM → Prop} {r26 : Int32 → Int64 → Int32 → zM → Prop} (C : zC p (zRm 3 mc ms) s mt args meth c g cX1_fillLast 9 yX1_fillLast.cls 3) (hr : meth.sig.returnType = (some .boolean)) (hm : meth.name = yX1_fillLast.name) (hu1 : u.1 ≤ mc) (hu2 : u.2 ≤ ms)
    (R26 : ∀ (v0 : Int32) (v1 : Int64) (v2 : Int32) (m : zM), r26 v0 v1 v2 m → zW p l e (zRm 3 mc ms) s mt args below meth c g (MQ below (zQc g (zPi t Q)) args s mc ms (zFar g)) u 9 t m 26 [(0, .ref a_0), (1, .ref a_1), (2, .ref a_2), (3, .int v0), (4, .int x_4), (5, .long v1), (7, .int v2)] []) (H : wX1_fillLast_J88 t m a_0 a_1 a_2 x_4 y_5 x_7 Q r26) : zW p l e (zRm 3 mc ms) s mt args below meth c g (MQ below (zQc g (zPi t Q)) args s mc ms (zFar g)) u 9 t m 88 [(0, .ref a_0), (1, .ref a_1), (2, .ref a_2), (4, .int x_4), (5, .long y_5), (7, .int x_7)] [] := by
  unfold wX1_fillLast_J88 at H
  refine z_iconst (pc := 88) (v := 0) C (dX1_fillLast 50 rfl) (by decide) ?_
  refine z_sub [0, 1, 2, 3, 4, 5] rfl ?_
  exact sX1_fillLast_J89 C hr hm hu1 hu2 R26 H
def wX1_fillLast_L26 (t : zT) (a_0 : Nat) (a_1 : Nat) (a_2 : Nat) (x_4 : Int32) (Q : Int32 → zM → Prop) (k105 : Int32 → zM → Prop) : Nat → Int32 → Int64 → Int32 → zM → Prop
  | 0, _, _, _, _ => False
  | n + 1, x_3, y_5, x_7, m => (((64 : Int32) ≤ x_7 → (k105 x_3 m)) ∧ (¬ (64 : Int32) ≤ x_7 → (((lg_cmp y_5 0) = 0 → (k105 x_3 m)) ∧ (¬ (lg_cmp y_5 0) = 0 → (wX4_lowestBit t m y_5 (fun r8 m9 => (tK t a_0 = 1 ∧ (wX1_lastState t m9 a_0 a_1 ((x_4 * (64 : Int32)) + r8) (fun r11 m12 => (tK t (gR m12 a_0 13) = 14 ∧ (vp_in r11 (tL t (gR m12 a_0 13)) ∧ ((x_3 = 0 → (wX1_fillLast_J88 t (pI m12 (gR m12 a_0 13) r11.toNatClampNeg ((gI m12 (gR m12 a_0 13) r11.toNatClampNeg) + (1 : Int32))) a_0 a_1 a_2 x_4 y_5 x_7 Q (wX1_fillLast_L26 t a_0 a_1 a_2 x_4 Q k105 n))) ∧ (¬ x_3 = 0 → (((gI (pI m12 (gR m12 a_0 13) r11.toNatClampNeg ((gI m12 (gR m12 a_0 13) r11.toNatClampNeg) + (1 : Int32))) (gR m12 a_0 13) r11.toNatClampNeg) = 1 → (wX1_fillLast_J89 t (pI m12 (gR m12 a_0 13) r11.toNatClampNeg ((gI m12 (gR m12 a_0 13) r11.toNatClampNeg) + (1 : Int32))) a_0 a_1 a_2 x_4 y_5 x_7 1 Q (wX1_fillLast_L26 t a_0 a_1 a_2 x_4 Q k105 n))) ∧ (¬ (gI (pI m12 (gR m12 a_0 13) r11.toNatClampNeg ((gI m12 (gR m12 a_0 13) r11.toNatClampNeg) + (1 : Int32))) (gR m12 a_0 13) r11.toNatClampNeg) = 1 → (wX1_fillLast_J88 t (pI m12 (gR m12 a_0 13) r11.toNatClampNeg ((gI m12 (gR m12 a_0 13) r11.toNatClampNeg) + (1 : Int32))) a_0 a_1 a_2 x_4 y_5 x_7 Q (wX1_fillLast_L26 t a_0 a_1 a_2 x_4 Q k105 n)))))))))))))))))
set_option maxHeartbeats 4000000 in
set_option maxRecDepth 20000 in
theorem sX1_fillLast_L26 {p : Program} {l : Launch} {e : Env} {s : State} {mt : MethodId} {args : Array Value} {below : List Frame} {meth : Method} {c : Code} {g : zG} {u : Nat × Nat} {mc ms : Nat} {t : zT} {a_0 : Nat} {a_1 : Nat} {a_2 : Nat} {x_4 : Int32} {Q : Int32 → zM → Prop} {k105 : Int32 → zM → Prop} (C : zC p (zRm 3 mc ms) s mt args meth c g cX1_fillLast 9 yX1_fillLast.cls 3) (hr : meth.sig.returnType = (some .boolean)) (hm : meth.name = yX1_fillLast.name) (hu1 : u.1 ≤ mc) (hu2 : u.2 ≤ ms)
    (K105 : ∀ (v0 : Int32) (m : zM), k105 v0 m → zW p l e (zRm 3 mc ms) s mt args below meth c g (MQ below (zQc g (zPi t Q)) args s mc ms (zFar g)) u 9 t m 105 [(0, .ref a_0), (1, .ref a_1), (2, .ref a_2), (3, .int v0), (4, .int x_4)] []) : ∀ (n : Nat) (x_3 : Int32) (y_5 : Int64) (x_7 : Int32) (m : zM), wX1_fillLast_L26 t a_0 a_1 a_2 x_4 Q k105 n x_3 y_5 x_7 m → zW p l e (zRm 3 mc ms) s mt args below meth c g (MQ below (zQc g (zPi t Q)) args s mc ms (zFar g)) u 9 t m 26 [(0, .ref a_0), (1, .ref a_1), (2, .ref a_2), (3, .int x_3), (4, .int x_4), (5, .long y_5), (7, .int x_7)] [] := by
  intro n
  induction n with
  | zero => intro x_3 y_5 x_7 m H; exact H.elim
  | succ n ih =>
    intro x_3 y_5 x_7 m H
    simp only [wX1_fillLast_L26] at H
    refine z_iload (pc := 26) C (dX1_fillLast 15 rfl) 6 rfl ?_
    refine z_bipush (pc := 28) (v := 64) C (dX1_fillLast 16 rfl) (by decide) ?_
    refine z_icmp_ge (pc := 30) (tgt := 105) C (dX1_fillLast 17 rfl) (by decide) (fun c6 => ?_) (fun c6 => ?_)
    · replace H := H.1 c6
      refine z_sub [0, 1, 2, 3, 4] rfl ?_
      exact K105 x_3 m H
    · replace H := H.2 c6
      refine z_lload (pc := 33) C (dX1_fillLast 18 rfl) 5 rfl ?_
      refine z_lconst (pc := 35) (v := 0) C (dX1_fillLast 19 rfl) (by decide) ?_
      refine z_lcmp (pc := 36) C (dX1_fillLast 20 rfl) ?_
      refine z_if_eq (pc := 37) (tgt := 105) C (dX1_fillLast 21 rfl) (by decide) (fun c7 => ?_) (fun c7 => ?_)
      · replace H := H.1 c7
        refine z_sub [0, 1, 2, 3, 4] rfl ?_
        exact K105 x_3 m H
      · replace H := H.2 c7
        refine z_aload_n (pc := 40) C (dX1_fillLast 22 rfl) rfl 0 rfl ?_
        refine z_aload_n (pc := 41) C (dX1_fillLast 23 rfl) rfl 1 rfl ?_
        refine z_iload (pc := 42) C (dX1_fillLast 24 rfl) 4 rfl ?_
        refine z_bipush (pc := 44) (v := 64) C (dX1_fillLast 25 rfl) (by decide) ?_
        refine z_imul (pc := 46) C (dX1_fillLast 26 rfl) ?_
        refine z_lload (pc := 47) C (dX1_fillLast 27 rfl) 5 rfl ?_
        refine zc_Si (pc := 49) (rest := [.int (x_4 * (64 : Int32)), .ref a_1, .ref a_0]) C YX4_lowestBit wl_X1_108 (kX4_lowestBit H) (by decide) (dX1_fillLast 28 rfl) rfl hu1 hu2 (Nat.le_of_ble_eq_true rfl) rfl (fun r8 m9 H => ?_)
        refine z_iadd (pc := 52) C (dX1_fillLast 29 rfl) ?_
        obtain ⟨h10, H⟩ := H
        refine zc_Vi (pc := 53) (rest := []) C YX1_lastState wl_X1_112 (kX1_lastState H) (by decide) h10 rfl (by decide) (dX1_fillLast 30 rfl) rfl hu1 hu2 (Nat.le_of_ble_eq_true rfl) rfl (fun r11 m12 H => ?_)
        refine z_istore (pc := 56) (i := 8) (lv2 := [(8, .int r11), (0, .ref a_0), (1, .ref a_1), (2, .ref a_2), (3, .int x_3), (4, .int x_4), (5, .long y_5), (7, .int x_7)]) C (dX1_fillLast 31 rfl) (by decide) rfl ?_
        refine z_aload_n (pc := 58) C (dX1_fillLast 32 rfl) rfl 1 rfl ?_
        refine z_getR (pc := 59) C zc1 h10 13 (by decide) rfl wf_X1_27 (dX1_fillLast 33 rfl) ?_
        refine z_iload (pc := 62) C (dX1_fillLast 34 rfl) 0 rfl ?_
        refine z_dup2_11 (pc := 64) C (dX1_fillLast 35 rfl) rfl rfl ?_
        obtain ⟨h13, H⟩ := H
        obtain ⟨h14, H⟩ := H
        refine z_iaload (pc := 65) C h13 h14 (dX1_fillLast 36 rfl) ?_
        refine z_iconst (pc := 66) (v := 1) C (dX1_fillLast 37 rfl) (by decide) ?_
        refine z_iadd (pc := 67) C (dX1_fillLast 38 rfl) ?_
        refine z_iastore (pc := 68) C h13 h14 (dX1_fillLast 39 rfl) ?_
        refine z_iload_n (pc := 69) C (dX1_fillLast 40 rfl) rfl 4 rfl ?_
        refine z_if_eq (pc := 70) (tgt := 88) C (dX1_fillLast 41 rfl) (by decide) (fun c15 => ?_) (fun c15 => ?_)
        · replace H := H.1 c15
          refine z_sub [1, 2, 3, 5, 6, 7] rfl ?_
          exact sX1_fillLast_J88 C hr hm hu1 hu2 ih H
        · replace H := H.2 c15
          refine z_aload_n (pc := 73) C (dX1_fillLast 42 rfl) rfl 1 rfl ?_
          refine z_getR (pc := 74) C zc1 h10 13 (by decide) rfl wf_X1_27 (dX1_fillLast 43 rfl) ?_
          refine z_iload (pc := 77) C (dX1_fillLast 44 rfl) 0 rfl ?_
          refine z_iaload (pc := 79) C h13 h14 (dX1_fillLast 45 rfl) ?_
          refine z_iconst (pc := 80) (v := 1) C (dX1_fillLast 46 rfl) (by decide) ?_
          refine z_icmp_ne (pc := 81) (tgt := 88) C (dX1_fillLast 47 rfl) (by decide) (fun c17 => ?_) (fun c17 => ?_)
          · replace H := H.2 c17
            refine z_sub [1, 2, 3, 5, 6, 7] rfl ?_
            exact sX1_fillLast_J88 C hr hm hu1 hu2 ih H
          · replace H := H.1 c17
            refine z_iconst (pc := 84) (v := 1) C (dX1_fillLast 48 rfl) (by decide) ?_
            refine z_goto (pc := 85) (tgt := 89) C (dX1_fillLast 49 rfl) (by decide) ?_
            refine z_sub [1, 2, 3, 5, 6, 7] rfl ?_
            exact sX1_fillLast_J89 C hr hm hu1 hu2 ih H
def wX1_fillLast_J105 (t : zT) (m : zM) (a_0 : Nat) (a_1 : Nat) (a_2 : Nat) (x_3 : Int32) (x_4 : Int32) (Q : Int32 → zM → Prop) (r5 : Int32 → Int32 → zM → Prop) : Prop := (r5 x_3 (x_4 + 1) m)
set_option maxHeartbeats 4000000 in
set_option maxRecDepth 20000 in
theorem sX1_fillLast_J105 {p : Program} {l : Launch} {e : Env} {s : State} {mt : MethodId} {args : Array Value} {below : List Frame} {meth : Method} {c : Code} {g : zG} {u : Nat × Nat} {mc ms : Nat} {t : zT} {m : zM} {a_0 : Nat} {a_1 : Nat} {a_2 : Nat} {x_3 : Int32} {x_4 : Int32} {Q : Int32 → zM → Prop} {r5 : Int32 → Int32 → zM → Prop} (C : zC p (zRm 3 mc ms) s mt args meth c g cX1_fillLast 9 yX1_fillLast.cls 3) (hr : meth.sig.returnType = (some .boolean)) (hm : meth.name = yX1_fillLast.name) (hu1 : u.1 ≤ mc) (hu2 : u.2 ≤ ms)
    (R5 : ∀ (v0 : Int32) (v1 : Int32) (m : zM), r5 v0 v1 m → zW p l e (zRm 3 mc ms) s mt args below meth c g (MQ below (zQc g (zPi t Q)) args s mc ms (zFar g)) u 9 t m 5 [(0, .ref a_0), (1, .ref a_1), (2, .ref a_2), (3, .int v0), (4, .int v1)] []) (H : wX1_fillLast_J105 t m a_0 a_1 a_2 x_3 x_4 Q r5) : zW p l e (zRm 3 mc ms) s mt args below meth c g (MQ below (zQc g (zPi t Q)) args s mc ms (zFar g)) u 9 t m 105 [(0, .ref a_0), (1, .ref a_1), (2, .ref a_2), (3, .int x_3), (4, .int x_4)] [] := by
  unfold wX1_fillLast_J105 at H
  refine z_iinc (pc := 105) (i := 4) (v := x_4 + 1) (lv2 := [(4, .int (x_4 + 1)), (0, .ref a_0), (1, .ref a_1), (2, .ref a_2), (3, .int x_3)]) C (dX1_fillLast 60 rfl) 4 rfl (by rfl) (by decide) rfl ?_
  refine z_goto (pc := 108) (tgt := 5) C (dX1_fillLast 61 rfl) (by decide) ?_
  refine z_sub [1, 2, 3, 4, 0] rfl ?_
  exact R5 x_3 (x_4 + 1) m H
def wX1_fillLast_L5 (t : zT) (a_0 : Nat) (a_1 : Nat) (a_2 : Nat) (Q : Int32 → zM → Prop) (k111 : Int32 → zM → Prop) : Nat → Int32 → Int32 → zM → Prop
  | 0, _, _, _ => False
  | n + 1, x_3, x_4, m => (tK t a_2 = 4 ∧ (((gI m a_2 1) ≤ x_4 → (k111 x_3 m)) ∧ (¬ (gI m a_2 1) ≤ x_4 → (tK t (gR m a_2 0) = 15 ∧ (vp_in x_4 (tL t (gR m a_2 0)) ∧ (∀ x5 : Int64, x5 = (gJ m (gR m a_2 0) x_4.toNatClampNeg) → ((∃ n20, wX1_fillLast_L26 t a_0 a_1 a_2 x_4 Q (fun v18 m19 => (wX1_fillLast_J105 t m19 a_0 a_1 a_2 v18 x_4 Q (wX1_fillLast_L5 t a_0 a_1 a_2 Q k111 n))) n20 x_3 x5 0 m))))))))
set_option maxHeartbeats 4000000 in
set_option maxRecDepth 20000 in
theorem sX1_fillLast_L5 {p : Program} {l : Launch} {e : Env} {s : State} {mt : MethodId} {args : Array Value} {below : List Frame} {meth : Method} {c : Code} {g : zG} {u : Nat × Nat} {mc ms : Nat} {t : zT} {a_0 : Nat} {a_1 : Nat} {a_2 : Nat} {Q : Int32 → zM → Prop} {k111 : Int32 → zM → Prop} (C : zC p (zRm 3 mc ms) s mt args meth c g cX1_fillLast 9 yX1_fillLast.cls 3) (hr : meth.sig.returnType = (some .boolean)) (hm : meth.name = yX1_fillLast.name) (hu1 : u.1 ≤ mc) (hu2 : u.2 ≤ ms)
    (K111 : ∀ (v0 : Int32) (m : zM), k111 v0 m → zW p l e (zRm 3 mc ms) s mt args below meth c g (MQ below (zQc g (zPi t Q)) args s mc ms (zFar g)) u 9 t m 111 [(3, .int v0)] []) : ∀ (n : Nat) (x_3 : Int32) (x_4 : Int32) (m : zM), wX1_fillLast_L5 t a_0 a_1 a_2 Q k111 n x_3 x_4 m → zW p l e (zRm 3 mc ms) s mt args below meth c g (MQ below (zQc g (zPi t Q)) args s mc ms (zFar g)) u 9 t m 5 [(0, .ref a_0), (1, .ref a_1), (2, .ref a_2), (3, .int x_3), (4, .int x_4)] [] := by
  intro n
  induction n with
  | zero => intro x_3 x_4 m H; exact H.elim
  | succ n ih =>
    intro x_3 x_4 m H
    simp only [wX1_fillLast_L5] at H
    refine z_iload (pc := 5) C (dX1_fillLast 4 rfl) 4 rfl ?_
    refine z_aload_n (pc := 7) C (dX1_fillLast 5 rfl) rfl 2 rfl ?_
    obtain ⟨h1, H⟩ := H
    refine z_getI (pc := 8) C zc4 h1 1 (by decide) rfl wf_X1_99 (dX1_fillLast 6 rfl) ?_
    refine z_icmp_ge (pc := 11) (tgt := 111) C (dX1_fillLast 7 rfl) (by decide) (fun c2 => ?_) (fun c2 => ?_)
    · replace H := H.1 c2
      refine z_sub [3] rfl ?_
      exact K111 x_3 m H
    · replace H := H.2 c2
      refine z_aload_n (pc := 14) C (dX1_fillLast 8 rfl) rfl 2 rfl ?_
      refine z_getR (pc := 15) C zc4 h1 0 (by decide) rfl wf_X1_104 (dX1_fillLast 9 rfl) ?_
      refine z_iload (pc := 18) C (dX1_fillLast 10 rfl) 4 rfl ?_
      obtain ⟨h3, H⟩ := H
      obtain ⟨h4, H⟩ := H
      refine z_laload (pc := 20) C h3 h4 (dX1_fillLast 11 rfl) ?_
      refine z_long (fun x5 hx5 => ?_)
      replace H := H x5 hx5
      refine z_lstore (pc := 21) (i := 5) (lv2 := [(5, .long x5), (0, .ref a_0), (1, .ref a_1), (2, .ref a_2), (3, .int x_3), (4, .int x_4)]) C (dX1_fillLast 12 rfl) (by decide) rfl ?_
      refine z_iconst (pc := 23) (v := 0) C (dX1_fillLast 13 rfl) (by decide) ?_
      refine z_istore (pc := 24) (i := 7) (lv2 := [(7, .int 0), (5, .long x5), (0, .ref a_0), (1, .ref a_1), (2, .ref a_2), (3, .int x_3), (4, .int x_4)]) C (dX1_fillLast 14 rfl) (by decide) rfl ?_
      obtain ⟨n20, H⟩ := H
      refine z_sub [2, 3, 4, 5, 6, 1, 0] rfl ?_
      refine sX1_fillLast_L26 C hr hm hu1 hu2 (fun v18 m19 H => ?_) n20 x_3 x5 0 m H
      refine z_sub [0, 1, 2, 3, 4] rfl ?_
      exact sX1_fillLast_J105 C hr hm hu1 hu2 ih H
def wX1_fillLast (t : zT) (m : zM) (a : Nat) (p1 : Nat) (p2 : Nat) (Q : Int32 → zM → Prop) : Prop := (∃ n24, wX1_fillLast_L5 t a p1 p2 Q (fun v21 m22 => ((v21 = 0 ∨ v21 = 1) ∧ (Q v21 m22))) n24 1 0 m)
set_option maxHeartbeats 4000000 in
set_option maxRecDepth 20000 in
theorem kX1_fillLast {l : Launch} {t : zT} {m : zM} {a : Nat} {p1 : Nat} {p2 : Nat} {Q : Int32 → zM → Prop} (H : wX1_fillLast t m a p1 p2 Q) : zMet l yX1_fillLast cX1_fillLast 9 (some .boolean) 3 0 0 t m [.ref a, .ref p1, .ref p2] (zPi t Q) := by
  refine zmet (by decide +kernel) (Nat.le_of_ble_eq_true rfl) ?_
  intro p e s mt args below meth c g C hr hm
  unfold wX1_fillLast at H
  have hu1 : ((0, 0) : Nat × Nat).1 ≤ 0 := Nat.le_refl 0
  have hu2 : ((0, 0) : Nat × Nat).2 ≤ 0 := Nat.le_refl 0
  refine z_iconst (pc := 0) (v := 1) C (dX1_fillLast 0 rfl) (by decide) ?_
  refine z_istore_n (pc := 1) (i := 3) (lv2 := [(3, .int 1), (0, .ref a), (1, .ref p1), (2, .ref p2)]) C (dX1_fillLast 1 rfl) rfl (by decide) rfl ?_
  refine z_iconst (pc := 2) (v := 0) C (dX1_fillLast 2 rfl) (by decide) ?_
  refine z_istore (pc := 3) (i := 4) (lv2 := [(4, .int 0), (3, .int 1), (0, .ref a), (1, .ref p1), (2, .ref p2)]) C (dX1_fillLast 3 rfl) (by decide) rfl ?_
  obtain ⟨n24, H⟩ := H
  refine z_sub [2, 3, 4, 1, 0] rfl ?_
  refine sX1_fillLast_L5 C hr hm hu1 hu2 (fun v21 m22 H => ?_) n24 1 0 m H
  refine z_iload_n (pc := 111) C (dX1_fillLast 62 rfl) rfl 0 rfl ?_
  obtain ⟨h23, H⟩ := H
  exact z_zret (pc := 112) C hr h23 hu1 hu2 (dX1_fillLast 63 rfl) ⟨rfl, _, rfl, H⟩
def wX1_addUp_L24 (t : zT) (a_0 : Nat) (x_1 : Int32) (x_2 : Int32) (Q : zM → Prop) (k60 : Int32 → zM → Prop) : Nat → Int32 → Int32 → zM → Prop
  | 0, _, _, _ => False
  | n + 1, x_3, x_4, m => (tK t a_0 = 1 ∧ (tK t (gR m a_0 10) = 14 ∧ (vp_in x_2 (tL t (gR m a_0 10)) ∧ (((gI m (gR m a_0 10) x_2.toNatClampNeg) ≤ x_4 → (k60 x_3 m)) ∧ (¬ (gI m (gR m a_0 10) x_2.toNatClampNeg) ≤ x_4 → (tK t (gR m a_0 11) = 14 ∧ (vp_in x_2 (tL t (gR m a_0 11)) ∧ (tK t (gR m a_0 13) = 14 ∧ (vp_in (x_1 + (x_4 * (gI m (gR m a_0 11) x_2.toNatClampNeg))) (tL t (gR m a_0 13)) ∧ (∀ x14 : Int32, x14 = (x_3 + (gI m (gR m a_0 13) ((x_1 + (x_4 * (gI m (gR m a_0 11) x_2.toNatClampNeg))).toNatClampNeg))) → ((wX1_addUp_L24 t a_0 x_1 x_2 Q k60 n x14 (x_4 + 1) m))))))))))))
set_option maxHeartbeats 4000000 in
set_option maxRecDepth 20000 in
theorem sX1_addUp_L24 {p : Program} {l : Launch} {e : Env} {s : State} {mt : MethodId} {args : Array Value} {below : List Frame} {meth : Method} {c : Code} {g : zG} {u : Nat × Nat} {mc ms : Nat} {t : zT} {a_0 : Nat} {x_1 : Int32} {x_2 : Int32} {Q : zM → Prop} {k60 : Int32 → zM → Prop} (C : zC p (zRm 0 mc ms) s mt args meth c g cX1_addUp 5 yX1_addUp.cls 0) (hr : meth.sig.returnType = none) (hm : meth.name = yX1_addUp.name) (hu1 : u.1 ≤ mc) (hu2 : u.2 ≤ ms)
    (K60 : ∀ (v0 : Int32) (m : zM), k60 v0 m → zW p l e (zRm 0 mc ms) s mt args below meth c g (MQ below (zQc g (zPv t Q)) args s mc ms (zFar g)) u 5 t m 60 [(0, .ref a_0), (1, .int x_1), (3, .int v0)] []) : ∀ (n : Nat) (x_3 : Int32) (x_4 : Int32) (m : zM), wX1_addUp_L24 t a_0 x_1 x_2 Q k60 n x_3 x_4 m → zW p l e (zRm 0 mc ms) s mt args below meth c g (MQ below (zQc g (zPv t Q)) args s mc ms (zFar g)) u 5 t m 24 [(0, .ref a_0), (1, .int x_1), (2, .int x_2), (3, .int x_3), (4, .int x_4)] [] := by
  intro n
  induction n with
  | zero => intro x_3 x_4 m H; exact H.elim
  | succ n ih =>
    intro x_3 x_4 m H
    simp only [wX1_addUp_L24] at H
    refine z_iload (pc := 24) C (dX1_addUp 15 rfl) 4 rfl ?_
    refine z_aload_n (pc := 26) C (dX1_addUp 16 rfl) rfl 0 rfl ?_
    obtain ⟨h6, H⟩ := H
    refine z_getR (pc := 27) C zc1 h6 10 (by decide) rfl wf_X1_18 (dX1_addUp 17 rfl) ?_
    refine z_iload_n (pc := 30) C (dX1_addUp 18 rfl) rfl 2 rfl ?_
    obtain ⟨h7, H⟩ := H
    obtain ⟨h8, H⟩ := H
    refine z_iaload (pc := 31) C h7 h8 (dX1_addUp 19 rfl) ?_
    refine z_icmp_ge (pc := 32) (tgt := 60) C (dX1_addUp 20 rfl) (by decide) (fun c9 => ?_) (fun c9 => ?_)
    · replace H := H.1 c9
      refine z_sub [0, 1, 3] rfl ?_
      exact K60 x_3 m H
    · replace H := H.2 c9
      refine z_iload_n (pc := 35) C (dX1_addUp 21 rfl) rfl 3 rfl ?_
      refine z_aload_n (pc := 36) C (dX1_addUp 22 rfl) rfl 0 rfl ?_
      refine z_getR (pc := 37) C zc1 h6 13 (by decide) rfl wf_X1_27 (dX1_addUp 23 rfl) ?_
      refine z_iload_n (pc := 40) C (dX1_addUp 24 rfl) rfl 1 rfl ?_
      refine z_iload (pc := 41) C (dX1_addUp 25 rfl) 4 rfl ?_
      refine z_aload_n (pc := 43) C (dX1_addUp 26 rfl) rfl 0 rfl ?_
      refine z_getR (pc := 44) C zc1 h6 11 (by decide) rfl wf_X1_21 (dX1_addUp 27 rfl) ?_
      refine z_iload_n (pc := 47) C (dX1_addUp 28 rfl) rfl 2 rfl ?_
      obtain ⟨h10, H⟩ := H
      obtain ⟨h11, H⟩ := H
      refine z_iaload (pc := 48) C h10 h11 (dX1_addUp 29 rfl) ?_
      refine z_imul (pc := 49) C (dX1_addUp 30 rfl) ?_
      refine z_iadd (pc := 50) C (dX1_addUp 31 rfl) ?_
      obtain ⟨h12, H⟩ := H
      obtain ⟨h13, H⟩ := H
      refine z_iaload (pc := 51) C h12 h13 (dX1_addUp 32 rfl) ?_
      refine z_iadd (pc := 52) C (dX1_addUp 33 rfl) ?_
      refine z_int (fun x14 hx14 => ?_)
      replace H := H x14 hx14
      refine z_istore_n (pc := 53) (i := 3) (lv2 := [(3, .int x14), (0, .ref a_0), (1, .int x_1), (2, .int x_2), (4, .int x_4)]) C (dX1_addUp 34 rfl) rfl (by decide) rfl ?_
      refine z_iinc (pc := 54) (i := 4) (v := x_4 + 1) (lv2 := [(4, .int (x_4 + 1)), (3, .int x14), (0, .ref a_0), (1, .int x_1), (2, .int x_2)]) C (dX1_addUp 35 rfl) 4 rfl (by rfl) (by decide) rfl ?_
      refine z_goto (pc := 57) (tgt := 24) C (dX1_addUp 36 rfl) (by decide) ?_
      refine z_sub [2, 3, 4, 1, 0] rfl ?_
      exact ih x14 (x_4 + 1) m H
def wX1_addUp_L2 (t : zT) (a_0 : Nat) (x_1 : Int32) (Q : zM → Prop) (k74 : zM → Prop) : Nat → Int32 → zM → Prop
  | 0, _, _ => False
  | n + 1, x_2, m => (tK t a_0 = 1 ∧ (((gI m a_0 6) ≤ x_2 → (k74 m)) ∧ (¬ (gI m a_0 6) ≤ x_2 → (tK t (gR m a_0 12) = 14 ∧ (vp_in x_2 (tL t (gR m a_0 12)) ∧ (((gI m (gR m a_0 12) x_2.toNatClampNeg) = 0 → (∃ n19, wX1_addUp_L24 t a_0 x_1 x_2 Q (fun v15 m16 => (tK t (gR m16 a_0 13) = 14 ∧ (vp_in x_1 (tL t (gR m16 a_0 13)) ∧ (Q (pI m16 (gR m16 a_0 13) x_1.toNatClampNeg v15))))) n19 0 1 m)) ∧ (¬ (gI m (gR m a_0 12) x_2.toNatClampNeg) = 0 → (wX1_addUp_L2 t a_0 x_1 Q k74 n (x_2 + 1) m))))))))
set_option maxHeartbeats 4000000 in
set_option maxRecDepth 20000 in
theorem sX1_addUp_L2 {p : Program} {l : Launch} {e : Env} {s : State} {mt : MethodId} {args : Array Value} {below : List Frame} {meth : Method} {c : Code} {g : zG} {u : Nat × Nat} {mc ms : Nat} {t : zT} {a_0 : Nat} {x_1 : Int32} {Q : zM → Prop} {k74 : zM → Prop} (C : zC p (zRm 0 mc ms) s mt args meth c g cX1_addUp 5 yX1_addUp.cls 0) (hr : meth.sig.returnType = none) (hm : meth.name = yX1_addUp.name) (hu1 : u.1 ≤ mc) (hu2 : u.2 ≤ ms)
    (K74 : ∀ (m : zM), k74 m → zW p l e (zRm 0 mc ms) s mt args below meth c g (MQ below (zQc g (zPv t Q)) args s mc ms (zFar g)) u 5 t m 74 [] []) : ∀ (n : Nat) (x_2 : Int32) (m : zM), wX1_addUp_L2 t a_0 x_1 Q k74 n x_2 m → zW p l e (zRm 0 mc ms) s mt args below meth c g (MQ below (zQc g (zPv t Q)) args s mc ms (zFar g)) u 5 t m 2 [(0, .ref a_0), (1, .int x_1), (2, .int x_2)] [] := by
  intro n
  induction n with
  | zero => intro x_2 m H; exact H.elim
  | succ n ih =>
    intro x_2 m H
    simp only [wX1_addUp_L2] at H
    refine z_iload_n (pc := 2) C (dX1_addUp 2 rfl) rfl 2 rfl ?_
    refine z_aload_n (pc := 3) C (dX1_addUp 3 rfl) rfl 0 rfl ?_
    obtain ⟨h1, H⟩ := H
    refine z_getI (pc := 4) C zc1 h1 6 (by decide) rfl wf_X1_67 (dX1_addUp 4 rfl) ?_
    refine z_icmp_ge (pc := 7) (tgt := 74) C (dX1_addUp 5 rfl) (by decide) (fun c2 => ?_) (fun c2 => ?_)
    · replace H := H.1 c2
      refine z_sub [] rfl ?_
      exact K74 m H
    · replace H := H.2 c2
      refine z_aload_n (pc := 10) C (dX1_addUp 6 rfl) rfl 0 rfl ?_
      refine z_getR (pc := 11) C zc1 h1 12 (by decide) rfl wf_X1_24 (dX1_addUp 7 rfl) ?_
      refine z_iload_n (pc := 14) C (dX1_addUp 8 rfl) rfl 2 rfl ?_
      obtain ⟨h3, H⟩ := H
      obtain ⟨h4, H⟩ := H
      refine z_iaload (pc := 15) C h3 h4 (dX1_addUp 9 rfl) ?_
      refine z_if_ne (pc := 16) (tgt := 68) C (dX1_addUp 10 rfl) (by decide) (fun c5 => ?_) (fun c5 => ?_)
      · replace H := H.2 c5
        refine z_iinc (pc := 68) (i := 2) (v := x_2 + 1) (lv2 := [(2, .int (x_2 + 1)), (0, .ref a_0), (1, .int x_1)]) C (dX1_addUp 43 rfl) 2 rfl (by rfl) (by decide) rfl ?_
        refine z_goto (pc := 71) (tgt := 2) C (dX1_addUp 44 rfl) (by decide) ?_
        refine z_sub [1, 2, 0] rfl ?_
        exact ih (x_2 + 1) m H
      · replace H := H.1 c5
        refine z_iconst (pc := 19) (v := 0) C (dX1_addUp 11 rfl) (by decide) ?_
        refine z_istore_n (pc := 20) (i := 3) (lv2 := [(3, .int 0), (0, .ref a_0), (1, .int x_1), (2, .int x_2)]) C (dX1_addUp 12 rfl) rfl (by decide) rfl ?_
        refine z_iconst (pc := 21) (v := 1) C (dX1_addUp 13 rfl) (by decide) ?_
        refine z_istore (pc := 22) (i := 4) (lv2 := [(4, .int 1), (3, .int 0), (0, .ref a_0), (1, .int x_1), (2, .int x_2)]) C (dX1_addUp 14 rfl) (by decide) rfl ?_
        obtain ⟨n19, H⟩ := H
        refine z_sub [2, 3, 4, 1, 0] rfl ?_
        refine sX1_addUp_L24 C hr hm hu1 hu2 (fun v15 m16 H => ?_) n19 0 1 m H
        refine z_aload_n (pc := 60) C (dX1_addUp 37 rfl) rfl 0 rfl ?_
        refine z_getR (pc := 61) C zc1 h1 13 (by decide) rfl wf_X1_27 (dX1_addUp 38 rfl) ?_
        refine z_iload_n (pc := 64) C (dX1_addUp 39 rfl) rfl 1 rfl ?_
        refine z_iload_n (pc := 65) C (dX1_addUp 40 rfl) rfl 2 rfl ?_
        obtain ⟨h17, H⟩ := H
        obtain ⟨h18, H⟩ := H
        refine z_iastore (pc := 66) C h17 h18 (dX1_addUp 41 rfl) ?_
        exact z_vret (pc := 67) C hr hu1 hu2 (dX1_addUp 42 rfl) ⟨rfl, rfl, H⟩
def wX1_addUp (t : zT) (m : zM) (a : Nat) (p1 : Int32) (Q : zM → Prop) : Prop := (∃ n21, wX1_addUp_L2 t a p1 Q (fun m20 => (Q m20)) n21 0 m)
set_option maxHeartbeats 4000000 in
set_option maxRecDepth 20000 in
theorem kX1_addUp {l : Launch} {t : zT} {m : zM} {a : Nat} {p1 : Int32} {Q : zM → Prop} (H : wX1_addUp t m a p1 Q) : zMet l yX1_addUp cX1_addUp 5 none 0 0 0 t m [.ref a, .int p1] (zPv t Q) := by
  refine zmet (by decide +kernel) (Nat.le_of_ble_eq_true rfl) ?_
  intro p e s mt args below meth c g C hr hm
  unfold wX1_addUp at H
  have hu1 : ((0, 0) : Nat × Nat).1 ≤ 0 := Nat.le_refl 0
  have hu2 : ((0, 0) : Nat × Nat).2 ≤ 0 := Nat.le_refl 0
  refine z_iconst (pc := 0) (v := 0) C (dX1_addUp 0 rfl) (by decide) ?_
  refine z_istore_n (pc := 1) (i := 2) (lv2 := [(2, .int 0), (0, .ref a), (1, .int p1)]) C (dX1_addUp 1 rfl) rfl (by decide) rfl ?_
  obtain ⟨n21, H⟩ := H
  refine z_sub [1, 2, 0] rfl ?_
  refine sX1_addUp_L2 C hr hm hu1 hu2 (fun m20 H => ?_) n21 0 m H
  exact z_vret (pc := 74) C hr hu1 hu2 (dX1_addUp 45 rfl) ⟨rfl, rfl, H⟩
def wX1_tryFirst_L8 (t : zT) (a_0 : Nat) (x_1 : Int32) (x_2 : Int32) (Q : zM → Prop) (k62 : Int32 → Int32 → zM → Prop) : Nat → Int32 → Int32 → Int32 → zM → Prop
  | 0, _, _, _, _ => False
  | n + 1, x_3, x_4, x_5, m => (tK t a_0 = 1 ∧ (tK t (gR m a_0 10) = 14 ∧ (vp_in x_2 (tL t (gR m a_0 10)) ∧ (((gI m (gR m a_0 10) x_2.toNatClampNeg) ≤ x_5 → (k62 x_3 x_4 m)) ∧ (¬ (gI m (gR m a_0 10) x_2.toNatClampNeg) ≤ x_5 → (tK t (gR m a_0 11) = 14 ∧ (vp_in x_2 (tL t (gR m a_0 11)) ∧ (∀ x7 : Int32, x7 = (x_1 + (x_5 * (gI m (gR m a_0 11) x_2.toNatClampNeg))) → ((tK t (gR m a_0 14) = 14 ∧ (vp_in x7 (tL t (gR m a_0 14)) ∧ (∀ x10 : Int32, x10 = (if x_3 < (gI m (gR m a_0 14) x7.toNatClampNeg) then (gI m (gR m a_0 14) x7.toNatClampNeg) else x_3) → ((tK t (gR m a_0 15) = 14 ∧ (vp_in x7 (tL t (gR m a_0 15)) ∧ (∀ x13 : Int32, x13 = (x_4 + (gI m (gR m a_0 15) x7.toNatClampNeg)) → ((wX1_tryFirst_L8 t a_0 x_1 x_2 Q k62 n x10 x13 (x_5 + 1) m))))))))))))))))))
set_option maxHeartbeats 4000000 in
set_option maxRecDepth 20000 in
theorem sX1_tryFirst_L8 {p : Program} {l : Launch} {e : Env} {s : State} {mt : MethodId} {args : Array Value} {below : List Frame} {meth : Method} {c : Code} {g : zG} {u : Nat × Nat} {mc ms : Nat} {t : zT} {a_0 : Nat} {x_1 : Int32} {x_2 : Int32} {Q : zM → Prop} {k62 : Int32 → Int32 → zM → Prop} (C : zC p (zRm 1 mc ms) s mt args meth c g cX1_tryFirst 7 yX1_tryFirst.cls 1) (hr : meth.sig.returnType = none) (hm : meth.name = yX1_tryFirst.name) (hu1 : u.1 ≤ mc) (hu2 : u.2 ≤ ms)
    (K62 : ∀ (v0 : Int32) (v1 : Int32) (m : zM), k62 v0 v1 m → zW p l e (zRm 1 mc ms) s mt args below meth c g (MQ below (zQc g (zPv t Q)) args s mc ms (zFar g)) u 7 t m 62 [(0, .ref a_0), (1, .int x_1), (2, .int x_2), (3, .int v0), (4, .int v1)] []) : ∀ (n : Nat) (x_3 : Int32) (x_4 : Int32) (x_5 : Int32) (m : zM), wX1_tryFirst_L8 t a_0 x_1 x_2 Q k62 n x_3 x_4 x_5 m → zW p l e (zRm 1 mc ms) s mt args below meth c g (MQ below (zQc g (zPv t Q)) args s mc ms (zFar g)) u 7 t m 8 [(0, .ref a_0), (1, .int x_1), (2, .int x_2), (3, .int x_3), (4, .int x_4), (5, .int x_5)] [] := by
  intro n
  induction n with
  | zero => intro x_3 x_4 x_5 m H; exact H.elim
  | succ n ih =>
    intro x_3 x_4 x_5 m H
    simp only [wX1_tryFirst_L8] at H
    refine z_iload (pc := 8) C (dX1_tryFirst 6 rfl) 5 rfl ?_
    refine z_aload_n (pc := 10) C (dX1_tryFirst 7 rfl) rfl 0 rfl ?_
    obtain ⟨h1, H⟩ := H
    refine z_getR (pc := 11) C zc1 h1 10 (by decide) rfl wf_X1_18 (dX1_tryFirst 8 rfl) ?_
    refine z_iload_n (pc := 14) C (dX1_tryFirst 9 rfl) rfl 2 rfl ?_
    obtain ⟨h2, H⟩ := H
    obtain ⟨h3, H⟩ := H
    refine z_iaload (pc := 15) C h2 h3 (dX1_tryFirst 10 rfl) ?_
    refine z_icmp_ge (pc := 16) (tgt := 62) C (dX1_tryFirst 11 rfl) (by decide) (fun c4 => ?_) (fun c4 => ?_)
    · replace H := H.1 c4
      refine z_sub [0, 1, 2, 3, 4] rfl ?_
      exact K62 x_3 x_4 m H
    · replace H := H.2 c4
      refine z_iload_n (pc := 19) C (dX1_tryFirst 12 rfl) rfl 1 rfl ?_
      refine z_iload (pc := 20) C (dX1_tryFirst 13 rfl) 5 rfl ?_
      refine z_aload_n (pc := 22) C (dX1_tryFirst 14 rfl) rfl 0 rfl ?_
      refine z_getR (pc := 23) C zc1 h1 11 (by decide) rfl wf_X1_21 (dX1_tryFirst 15 rfl) ?_
      refine z_iload_n (pc := 26) C (dX1_tryFirst 16 rfl) rfl 2 rfl ?_
      obtain ⟨h5, H⟩ := H
      obtain ⟨h6, H⟩ := H
      refine z_iaload (pc := 27) C h5 h6 (dX1_tryFirst 17 rfl) ?_
      refine z_imul (pc := 28) C (dX1_tryFirst 18 rfl) ?_
      refine z_iadd (pc := 29) C (dX1_tryFirst 19 rfl) ?_
      refine z_int (fun x7 hx7 => ?_)
      replace H := H x7 hx7
      refine z_istore (pc := 30) (i := 6) (lv2 := [(6, .int x7), (0, .ref a_0), (1, .int x_1), (2, .int x_2), (3, .int x_3), (4, .int x_4), (5, .int x_5)]) C (dX1_tryFirst 20 rfl) (by decide) rfl ?_
      refine z_iload_n (pc := 32) C (dX1_tryFirst 21 rfl) rfl 4 rfl ?_
      refine z_aload_n (pc := 33) C (dX1_tryFirst 22 rfl) rfl 1 rfl ?_
      refine z_getR (pc := 34) C zc1 h1 14 (by decide) rfl wf_X1_30 (dX1_tryFirst 23 rfl) ?_
      refine z_iload (pc := 37) C (dX1_tryFirst 24 rfl) 0 rfl ?_
      obtain ⟨h8, H⟩ := H
      obtain ⟨h9, H⟩ := H
      refine z_iaload (pc := 39) C h8 h9 (dX1_tryFirst 25 rfl) ?_
      refine z_mmax (pc := 40) C wl_X1_90 (by decide) hu1 hu2 (Nat.le_of_ble_eq_true rfl) (dX1_tryFirst 26 rfl) ?_
      refine z_int (fun x10 hx10 => ?_)
      replace H := H x10 hx10
      refine z_istore_n (pc := 43) (i := 3) (lv2 := [(3, .int x10), (6, .int x7), (0, .ref a_0), (1, .int x_1), (2, .int x_2), (4, .int x_4), (5, .int x_5)]) C (dX1_tryFirst 27 rfl) rfl (by decide) rfl ?_
      refine z_iload (pc := 44) C (dX1_tryFirst 28 rfl) 5 rfl ?_
      refine z_aload_n (pc := 46) C (dX1_tryFirst 29 rfl) rfl 2 rfl ?_
      refine z_getR (pc := 47) C zc1 h1 15 (by decide) rfl wf_X1_33 (dX1_tryFirst 30 rfl) ?_
      refine z_iload (pc := 50) C (dX1_tryFirst 31 rfl) 1 rfl ?_
      obtain ⟨h11, H⟩ := H
      obtain ⟨h12, H⟩ := H
      refine z_iaload (pc := 52) C h11 h12 (dX1_tryFirst 32 rfl) ?_
      refine z_iadd (pc := 53) C (dX1_tryFirst 33 rfl) ?_
      refine z_int (fun x13 hx13 => ?_)
      replace H := H x13 hx13
      refine z_istore (pc := 54) (i := 4) (lv2 := [(4, .int x13), (3, .int x10), (6, .int x7), (0, .ref a_0), (1, .int x_1), (2, .int x_2), (5, .int x_5)]) C (dX1_tryFirst 34 rfl) (by decide) rfl ?_
      refine z_iinc (pc := 56) (i := 5) (v := x_5 + 1) (lv2 := [(5, .int (x_5 + 1)), (4, .int x13), (3, .int x10), (6, .int x7), (0, .ref a_0), (1, .int x_1), (2, .int x_2)]) C (dX1_tryFirst 35 rfl) 6 rfl (by rfl) (by decide) rfl ?_
      refine z_goto (pc := 59) (tgt := 8) C (dX1_tryFirst 36 rfl) (by decide) ?_
      refine z_sub [4, 5, 6, 2, 1, 0] rfl ?_
      exact ih x10 x13 (x_5 + 1) m H
def wX1_tryFirst_J103 (t : zT) (m : zM) (a_0 : Nat) (x_1 : Int32) (x_2 : Int32) (x_4 : Int32) (Q : zM → Prop) : Prop := (tK t a_0 = 1 ∧ (tK t (gR m a_0 9) = 14 ∧ (vp_in x_2 (tL t (gR m a_0 9)) ∧ (tK t (gR m a_0 13) = 14 ∧ (vp_in x_1 (tL t (gR m a_0 13)) ∧ (tK t (gR m a_0 15) = 14 ∧ (vp_in x_1 (tL t (gR m a_0 15)) ∧ (((gI m (gR m a_0 15) x_1.toNatClampNeg) ≤ (((gI m (gR m a_0 9) x_2.toNatClampNeg) * (gI m (gR m a_0 13) x_1.toNatClampNeg)) + x_4) → (Q m)) ∧ (¬ (gI m (gR m a_0 15) x_1.toNatClampNeg) ≤ (((gI m (gR m a_0 9) x_2.toNatClampNeg) * (gI m (gR m a_0 13) x_1.toNatClampNeg)) + x_4) → (tK t (gR m a_0 8) = 14 ∧ (vp_in x_2 (tL t (gR m a_0 8)) ∧ (Q (pI (pI m (gR m a_0 15) x_1.toNatClampNeg (((gI m (gR m a_0 9) x_2.toNatClampNeg) * (gI m (gR m a_0 13) x_1.toNatClampNeg)) + x_4)) a_0 5 (gI (pI m (gR m a_0 15) x_1.toNatClampNeg (((gI m (gR m a_0 9) x_2.toNatClampNeg) * (gI m (gR m a_0 13) x_1.toNatClampNeg)) + x_4)) (gR m a_0 8) x_2.toNatClampNeg))))))))))))))
set_option maxHeartbeats 4000000 in
set_option maxRecDepth 20000 in
theorem sX1_tryFirst_J103 {p : Program} {l : Launch} {e : Env} {s : State} {mt : MethodId} {args : Array Value} {below : List Frame} {meth : Method} {c : Code} {g : zG} {u : Nat × Nat} {mc ms : Nat} {t : zT} {m : zM} {a_0 : Nat} {x_1 : Int32} {x_2 : Int32} {x_4 : Int32} {Q : zM → Prop} (C : zC p (zRm 1 mc ms) s mt args meth c g cX1_tryFirst 7 yX1_tryFirst.cls 1) (hr : meth.sig.returnType = none) (hm : meth.name = yX1_tryFirst.name) (hu1 : u.1 ≤ mc) (hu2 : u.2 ≤ ms) (H : wX1_tryFirst_J103 t m a_0 x_1 x_2 x_4 Q) : zW p l e (zRm 1 mc ms) s mt args below meth c g (MQ below (zQc g (zPv t Q)) args s mc ms (zFar g)) u 7 t m 103 [(0, .ref a_0), (1, .int x_1), (2, .int x_2), (4, .int x_4)] [] := by
  unfold wX1_tryFirst_J103 at H
  refine z_aload_n (pc := 103) C (dX1_tryFirst 64 rfl) rfl 0 rfl ?_
  obtain ⟨h23, H⟩ := H
  refine z_getR (pc := 104) C zc1 h23 9 (by decide) rfl wf_X1_15 (dX1_tryFirst 65 rfl) ?_
  refine z_iload_n (pc := 107) C (dX1_tryFirst 66 rfl) rfl 2 rfl ?_
  obtain ⟨h24, H⟩ := H
  obtain ⟨h25, H⟩ := H
  refine z_iaload (pc := 108) C h24 h25 (dX1_tryFirst 67 rfl) ?_
  refine z_aload_n (pc := 109) C (dX1_tryFirst 68 rfl) rfl 0 rfl ?_
  refine z_getR (pc := 110) C zc1 h23 13 (by decide) rfl wf_X1_27 (dX1_tryFirst 69 rfl) ?_
  refine z_iload_n (pc := 113) C (dX1_tryFirst 70 rfl) rfl 1 rfl ?_
  obtain ⟨h26, H⟩ := H
  obtain ⟨h27, H⟩ := H
  refine z_iaload (pc := 114) C h26 h27 (dX1_tryFirst 71 rfl) ?_
  refine z_imul (pc := 115) C (dX1_tryFirst 72 rfl) ?_
  refine z_iload (pc := 116) C (dX1_tryFirst 73 rfl) 3 rfl ?_
  refine z_iadd (pc := 118) C (dX1_tryFirst 74 rfl) ?_
  refine z_aload_n (pc := 119) C (dX1_tryFirst 75 rfl) rfl 0 rfl ?_
  refine z_getR (pc := 120) C zc1 h23 15 (by decide) rfl wf_X1_33 (dX1_tryFirst 76 rfl) ?_
  refine z_iload_n (pc := 123) C (dX1_tryFirst 77 rfl) rfl 1 rfl ?_
  obtain ⟨h28, H⟩ := H
  obtain ⟨h29, H⟩ := H
  refine z_iaload (pc := 124) C h28 h29 (dX1_tryFirst 78 rfl) ?_
  refine z_icmp_ge (pc := 125) (tgt := 160) C (dX1_tryFirst 79 rfl) (by decide) (fun c30 => ?_) (fun c30 => ?_)
  · replace H := H.1 c30
    exact z_vret (pc := 160) C hr hu1 hu2 (dX1_tryFirst 101 rfl) ⟨rfl, rfl, H⟩
  · replace H := H.2 c30
    refine z_aload_n (pc := 128) C (dX1_tryFirst 80 rfl) rfl 0 rfl ?_
    refine z_getR (pc := 129) C zc1 h23 15 (by decide) rfl wf_X1_33 (dX1_tryFirst 81 rfl) ?_
    refine z_iload_n (pc := 132) C (dX1_tryFirst 82 rfl) rfl 1 rfl ?_
    refine z_aload_n (pc := 133) C (dX1_tryFirst 83 rfl) rfl 0 rfl ?_
    refine z_getR (pc := 134) C zc1 h23 9 (by decide) rfl wf_X1_15 (dX1_tryFirst 84 rfl) ?_
    refine z_iload_n (pc := 137) C (dX1_tryFirst 85 rfl) rfl 2 rfl ?_
    refine z_iaload (pc := 138) C h24 h25 (dX1_tryFirst 86 rfl) ?_
    refine z_aload_n (pc := 139) C (dX1_tryFirst 87 rfl) rfl 0 rfl ?_
    refine z_getR (pc := 140) C zc1 h23 13 (by decide) rfl wf_X1_27 (dX1_tryFirst 88 rfl) ?_
    refine z_iload_n (pc := 143) C (dX1_tryFirst 89 rfl) rfl 1 rfl ?_
    refine z_iaload (pc := 144) C h26 h27 (dX1_tryFirst 90 rfl) ?_
    refine z_imul (pc := 145) C (dX1_tryFirst 91 rfl) ?_
    refine z_iload (pc := 146) C (dX1_tryFirst 92 rfl) 3 rfl ?_
    refine z_iadd (pc := 148) C (dX1_tryFirst 93 rfl) ?_
    refine z_iastore (pc := 149) C h28 h29 (dX1_tryFirst 94 rfl) ?_
    refine z_aload_n (pc := 150) C (dX1_tryFirst 95 rfl) rfl 0 rfl ?_
    refine z_aload_n (pc := 151) C (dX1_tryFirst 96 rfl) rfl 0 rfl ?_
    refine z_getR (pc := 152) C zc1 h23 8 (by decide) rfl wf_X1_9 (dX1_tryFirst 97 rfl) ?_
    refine z_iload_n (pc := 155) C (dX1_tryFirst 98 rfl) rfl 2 rfl ?_
    obtain ⟨h31, H⟩ := H
    obtain ⟨h32, H⟩ := H
    refine z_iaload (pc := 156) C h31 h32 (dX1_tryFirst 99 rfl) ?_
    refine z_putI (pc := 157) C zc1 h23 5 (by decide) rfl rfl wf_X1_122 (dX1_tryFirst 100 rfl) ?_
    exact z_vret (pc := 160) C hr hu1 hu2 (dX1_tryFirst 101 rfl) ⟨rfl, rfl, H⟩
def wX1_tryFirst (t : zT) (m : zM) (a : Nat) (p1 : Int32) (p2 : Int32) (Q : zM → Prop) : Prop := (∃ n35, wX1_tryFirst_L8 t a p1 p2 Q (fun v14 v15 m16 => (tK t a = 1 ∧ (tK t (gR m16 a 9) = 14 ∧ (vp_in p2 (tL t (gR m16 a 9)) ∧ (tK t (gR m16 a 14) = 14 ∧ (vp_in p1 (tL t (gR m16 a 14)) ∧ (((gI m16 (gR m16 a 14) p1.toNatClampNeg) ≤ ((gI m16 (gR m16 a 9) p2.toNatClampNeg) + v14) → (wX1_tryFirst_J103 t m16 a p1 p2 v15 Q)) ∧ (¬ (gI m16 (gR m16 a 14) p1.toNatClampNeg) ≤ ((gI m16 (gR m16 a 9) p2.toNatClampNeg) + v14) → (tK t (gR m16 a 8) = 14 ∧ (vp_in p2 (tL t (gR m16 a 8)) ∧ (wX1_tryFirst_J103 t (pI (pI m16 (gR m16 a 14) p1.toNatClampNeg ((gI m16 (gR m16 a 9) p2.toNatClampNeg) + v14)) a 3 (gI (pI m16 (gR m16 a 14) p1.toNatClampNeg ((gI m16 (gR m16 a 9) p2.toNatClampNeg) + v14)) (gR m16 a 8) p2.toNatClampNeg)) a p1 p2 v15 Q))))))))))) n35 0 0 1 m)
set_option maxHeartbeats 4000000 in
set_option maxRecDepth 20000 in
theorem kX1_tryFirst {l : Launch} {t : zT} {m : zM} {a : Nat} {p1 : Int32} {p2 : Int32} {Q : zM → Prop} (H : wX1_tryFirst t m a p1 p2 Q) : zMet l yX1_tryFirst cX1_tryFirst 7 none 1 0 0 t m [.ref a, .int p1, .int p2] (zPv t Q) := by
  refine zmet (by decide +kernel) (Nat.le_of_ble_eq_true rfl) ?_
  intro p e s mt args below meth c g C hr hm
  unfold wX1_tryFirst at H
  have hu1 : ((0, 0) : Nat × Nat).1 ≤ 0 := Nat.le_refl 0
  have hu2 : ((0, 0) : Nat × Nat).2 ≤ 0 := Nat.le_refl 0
  refine z_iconst (pc := 0) (v := 0) C (dX1_tryFirst 0 rfl) (by decide) ?_
  refine z_istore_n (pc := 1) (i := 3) (lv2 := [(3, .int 0), (0, .ref a), (1, .int p1), (2, .int p2)]) C (dX1_tryFirst 1 rfl) rfl (by decide) rfl ?_
  refine z_iconst (pc := 2) (v := 0) C (dX1_tryFirst 2 rfl) (by decide) ?_
  refine z_istore (pc := 3) (i := 4) (lv2 := [(4, .int 0), (3, .int 0), (0, .ref a), (1, .int p1), (2, .int p2)]) C (dX1_tryFirst 3 rfl) (by decide) rfl ?_
  refine z_iconst (pc := 5) (v := 1) C (dX1_tryFirst 4 rfl) (by decide) ?_
  refine z_istore (pc := 6) (i := 5) (lv2 := [(5, .int 1), (4, .int 0), (3, .int 0), (0, .ref a), (1, .int p1), (2, .int p2)]) C (dX1_tryFirst 5 rfl) (by decide) rfl ?_
  obtain ⟨n35, H⟩ := H
  refine z_sub [3, 4, 5, 2, 1, 0] rfl ?_
  refine sX1_tryFirst_L8 C hr hm hu1 hu2 (fun v14 v15 m16 H => ?_) n35 0 0 1 m H
  refine z_aload_n (pc := 62) C (dX1_tryFirst 37 rfl) rfl 0 rfl ?_
  obtain ⟨h17, H⟩ := H
  refine z_getR (pc := 63) C zc1 h17 9 (by decide) rfl wf_X1_15 (dX1_tryFirst 38 rfl) ?_
  refine z_iload_n (pc := 66) C (dX1_tryFirst 39 rfl) rfl 2 rfl ?_
  obtain ⟨h18, H⟩ := H
  obtain ⟨h19, H⟩ := H
  refine z_iaload (pc := 67) C h18 h19 (dX1_tryFirst 40 rfl) ?_
  refine z_iload_n (pc := 68) C (dX1_tryFirst 41 rfl) rfl 3 rfl ?_
  refine z_iadd (pc := 69) C (dX1_tryFirst 42 rfl) ?_
  refine z_aload_n (pc := 70) C (dX1_tryFirst 43 rfl) rfl 0 rfl ?_
  refine z_getR (pc := 71) C zc1 h17 14 (by decide) rfl wf_X1_30 (dX1_tryFirst 44 rfl) ?_
  refine z_iload_n (pc := 74) C (dX1_tryFirst 45 rfl) rfl 1 rfl ?_
  obtain ⟨h20, H⟩ := H
  obtain ⟨h21, H⟩ := H
  refine z_iaload (pc := 75) C h20 h21 (dX1_tryFirst 46 rfl) ?_
  refine z_icmp_ge (pc := 76) (tgt := 103) C (dX1_tryFirst 47 rfl) (by decide) (fun c22 => ?_) (fun c22 => ?_)
  · replace H := H.1 c22
    refine z_sub [0, 1, 2, 4] rfl ?_
    exact sX1_tryFirst_J103 C hr hm hu1 hu2 H
  · replace H := H.2 c22
    refine z_aload_n (pc := 79) C (dX1_tryFirst 48 rfl) rfl 0 rfl ?_
    refine z_getR (pc := 80) C zc1 h17 14 (by decide) rfl wf_X1_30 (dX1_tryFirst 49 rfl) ?_
    refine z_iload_n (pc := 83) C (dX1_tryFirst 50 rfl) rfl 1 rfl ?_
    refine z_aload_n (pc := 84) C (dX1_tryFirst 51 rfl) rfl 0 rfl ?_
    refine z_getR (pc := 85) C zc1 h17 9 (by decide) rfl wf_X1_15 (dX1_tryFirst 52 rfl) ?_
    refine z_iload_n (pc := 88) C (dX1_tryFirst 53 rfl) rfl 2 rfl ?_
    refine z_iaload (pc := 89) C h18 h19 (dX1_tryFirst 54 rfl) ?_
    refine z_iload_n (pc := 90) C (dX1_tryFirst 55 rfl) rfl 3 rfl ?_
    refine z_iadd (pc := 91) C (dX1_tryFirst 56 rfl) ?_
    refine z_iastore (pc := 92) C h20 h21 (dX1_tryFirst 57 rfl) ?_
    refine z_aload_n (pc := 93) C (dX1_tryFirst 58 rfl) rfl 0 rfl ?_
    refine z_aload_n (pc := 94) C (dX1_tryFirst 59 rfl) rfl 0 rfl ?_
    refine z_getR (pc := 95) C zc1 h17 8 (by decide) rfl wf_X1_9 (dX1_tryFirst 60 rfl) ?_
    refine z_iload_n (pc := 98) C (dX1_tryFirst 61 rfl) rfl 2 rfl ?_
    obtain ⟨h33, H⟩ := H
    obtain ⟨h34, H⟩ := H
    refine z_iaload (pc := 99) C h33 h34 (dX1_tryFirst 62 rfl) ?_
    refine z_putI (pc := 100) C zc1 h17 3 (by decide) rfl rfl wf_X1_119 (dX1_tryFirst 63 rfl) ?_
    refine z_sub [0, 1, 2, 4] rfl ?_
    exact sX1_tryFirst_J103 C hr hm hu1 hu2 H
def wX1_choose_J41 (t : zT) (m : zM) (a_0 : Nat) (x_1 : Int32) (x_2 : Int32) (Q : zM → Prop) (r18 : Int32 → zM → Prop) : Prop := (r18 (x_2 + 1) m)
set_option maxHeartbeats 4000000 in
set_option maxRecDepth 20000 in
theorem sX1_choose_J41 {p : Program} {l : Launch} {e : Env} {s : State} {mt : MethodId} {args : Array Value} {below : List Frame} {meth : Method} {c : Code} {g : zG} {u : Nat × Nat} {mc ms : Nat} {t : zT} {m : zM} {a_0 : Nat} {x_1 : Int32} {x_2 : Int32} {Q : zM → Prop} {r18 : Int32 → zM → Prop} (C : zC p (zRm 2 mc ms) s mt args meth c g cX1_choose 3 yX1_choose.cls 2) (hr : meth.sig.returnType = none) (hm : meth.name = yX1_choose.name) (hu1 : u.1 ≤ mc) (hu2 : u.2 ≤ ms)
    (R18 : ∀ (v0 : Int32) (m : zM), r18 v0 m → zW p l e (zRm 2 mc ms) s mt args below meth c g (MQ below (zQc g (zPv t Q)) args s mc ms (zFar g)) u 3 t m 18 [(0, .ref a_0), (1, .int x_1), (2, .int v0)] []) (H : wX1_choose_J41 t m a_0 x_1 x_2 Q r18) : zW p l e (zRm 2 mc ms) s mt args below meth c g (MQ below (zQc g (zPv t Q)) args s mc ms (zFar g)) u 3 t m 41 [(0, .ref a_0), (1, .int x_1), (2, .int x_2)] [] := by
  unfold wX1_choose_J41 at H
  refine z_iinc (pc := 41) (i := 2) (v := x_2 + 1) (lv2 := [(2, .int (x_2 + 1)), (0, .ref a_0), (1, .int x_1)]) C (dX1_choose 25 rfl) 2 rfl (by rfl) (by decide) rfl ?_
  refine z_goto (pc := 44) (tgt := 18) C (dX1_choose 26 rfl) (by decide) ?_
  refine z_sub [1, 2, 0] rfl ?_
  exact R18 (x_2 + 1) m H
def wX1_choose_L18 (t : zT) (a_0 : Nat) (x_1 : Int32) (Q : zM → Prop) (k47 : zM → Prop) : Nat → Int32 → zM → Prop
  | 0, _, _ => False
  | n + 1, x_2, m => (tK t a_0 = 1 ∧ (((gI m a_0 6) ≤ x_2 → (k47 m)) ∧ (¬ (gI m a_0 6) ≤ x_2 → (tK t (gR m a_0 12) = 14 ∧ (vp_in x_2 (tL t (gR m a_0 12)) ∧ (((gI m (gR m a_0 12) x_2.toNatClampNeg) = 0 → (wX1_tryFirst t m a_0 x_1 x_2 (fun m12 => (wX1_choose_J41 t m12 a_0 x_1 x_2 Q (wX1_choose_L18 t a_0 x_1 Q k47 n))))) ∧ (¬ (gI m (gR m a_0 12) x_2.toNatClampNeg) = 0 → (wX1_choose_J41 t m a_0 x_1 x_2 Q (wX1_choose_L18 t a_0 x_1 Q k47 n)))))))))
set_option maxHeartbeats 4000000 in
set_option maxRecDepth 20000 in
theorem sX1_choose_L18 {p : Program} {l : Launch} {e : Env} {s : State} {mt : MethodId} {args : Array Value} {below : List Frame} {meth : Method} {c : Code} {g : zG} {u : Nat × Nat} {mc ms : Nat} {t : zT} {a_0 : Nat} {x_1 : Int32} {Q : zM → Prop} {k47 : zM → Prop} (C : zC p (zRm 2 mc ms) s mt args meth c g cX1_choose 3 yX1_choose.cls 2) (hr : meth.sig.returnType = none) (hm : meth.name = yX1_choose.name) (hu1 : u.1 ≤ mc) (hu2 : u.2 ≤ ms)
    (K47 : ∀ (m : zM), k47 m → zW p l e (zRm 2 mc ms) s mt args below meth c g (MQ below (zQc g (zPv t Q)) args s mc ms (zFar g)) u 3 t m 47 [] []) : ∀ (n : Nat) (x_2 : Int32) (m : zM), wX1_choose_L18 t a_0 x_1 Q k47 n x_2 m → zW p l e (zRm 2 mc ms) s mt args below meth c g (MQ below (zQc g (zPv t Q)) args s mc ms (zFar g)) u 3 t m 18 [(0, .ref a_0), (1, .int x_1), (2, .int x_2)] [] := by
  intro n
  induction n with
  | zero => intro x_2 m H; exact H.elim
  | succ n ih =>
    intro x_2 m H
    simp only [wX1_choose_L18] at H
    refine z_iload_n (pc := 18) C (dX1_choose 12 rfl) rfl 2 rfl ?_
    refine z_aload_n (pc := 19) C (dX1_choose 13 rfl) rfl 0 rfl ?_
    obtain ⟨h6, H⟩ := H
    refine z_getI (pc := 20) C zc1 h6 6 (by decide) rfl wf_X1_67 (dX1_choose 14 rfl) ?_
    refine z_icmp_ge (pc := 23) (tgt := 47) C (dX1_choose 15 rfl) (by decide) (fun c7 => ?_) (fun c7 => ?_)
    · replace H := H.1 c7
      refine z_sub [] rfl ?_
      exact K47 m H
    · replace H := H.2 c7
      refine z_aload_n (pc := 26) C (dX1_choose 16 rfl) rfl 0 rfl ?_
      refine z_getR (pc := 27) C zc1 h6 12 (by decide) rfl wf_X1_24 (dX1_choose 17 rfl) ?_
      refine z_iload_n (pc := 30) C (dX1_choose 18 rfl) rfl 2 rfl ?_
      obtain ⟨h8, H⟩ := H
      obtain ⟨h9, H⟩ := H
      refine z_iaload (pc := 31) C h8 h9 (dX1_choose 19 rfl) ?_
      refine z_if_ne (pc := 32) (tgt := 41) C (dX1_choose 20 rfl) (by decide) (fun c10 => ?_) (fun c10 => ?_)
      · replace H := H.2 c10
        refine z_sub [0, 1, 2] rfl ?_
        exact sX1_choose_J41 C hr hm hu1 hu2 ih H
      · replace H := H.1 c10
        refine z_aload_n (pc := 35) C (dX1_choose 21 rfl) rfl 0 rfl ?_
        refine z_iload_n (pc := 36) C (dX1_choose 22 rfl) rfl 1 rfl ?_
        refine z_iload_n (pc := 37) C (dX1_choose 23 rfl) rfl 2 rfl ?_
        refine zc_Vv (pc := 38) (rest := []) C YX1_tryFirst wl_X1_142 (kX1_tryFirst H) (by decide) h6 rfl (by decide) (dX1_choose 24 rfl) rfl hu1 hu2 (Nat.le_of_ble_eq_true rfl) rfl (fun m12 H => ?_)
        refine z_sub [0, 1, 2] rfl ?_
        exact sX1_choose_J41 C hr hm hu1 hu2 ih H
def wX1_choose (t : zT) (m : zM) (a : Nat) (p1 : Int32) (Q : zM → Prop) : Prop := (tK t a = 1 ∧ (tK t (gR m a 14) = 14 ∧ (vp_in p1 (tL t (gR m a 14)) ∧ (tK t (gR m a 15) = 14 ∧ (vp_in p1 (tL t (gR m a 15)) ∧ (∃ n14, wX1_choose_L18 t a p1 Q (fun m13 => (Q m13)) n14 0 (pI (pI m (gR m a 14) p1.toNatClampNeg 1000000000) (gR m a 15) p1.toNatClampNeg 1000000000)))))))
set_option maxHeartbeats 4000000 in
set_option maxRecDepth 20000 in
theorem kX1_choose {l : Launch} {t : zT} {m : zM} {a : Nat} {p1 : Int32} {Q : zM → Prop} (H : wX1_choose t m a p1 Q) : zMet l yX1_choose cX1_choose 3 none 2 0 0 t m [.ref a, .int p1] (zPv t Q) := by
  refine zmet (by decide +kernel) (Nat.le_of_ble_eq_true rfl) ?_
  intro p e s mt args below meth c g C hr hm
  unfold wX1_choose at H
  have hu1 : ((0, 0) : Nat × Nat).1 ≤ 0 := Nat.le_refl 0
  have hu2 : ((0, 0) : Nat × Nat).2 ≤ 0 := Nat.le_refl 0
  refine z_aload_n (pc := 0) C (dX1_choose 0 rfl) rfl 0 rfl ?_
  obtain ⟨h1, H⟩ := H
  refine z_getR (pc := 1) C zc1 h1 14 (by decide) rfl wf_X1_30 (dX1_choose 1 rfl) ?_
  refine z_iload_n (pc := 4) C (dX1_choose 2 rfl) rfl 1 rfl ?_
  refine z_ldc (pc := 5) C wk_X1_141 (dX1_choose 3 rfl) ?_
  obtain ⟨h2, H⟩ := H
  obtain ⟨h3, H⟩ := H
  refine z_iastore (pc := 7) C h2 h3 (dX1_choose 4 rfl) ?_
  refine z_aload_n (pc := 8) C (dX1_choose 5 rfl) rfl 0 rfl ?_
  refine z_getR (pc := 9) C zc1 h1 15 (by decide) rfl wf_X1_33 (dX1_choose 6 rfl) ?_
  refine z_iload_n (pc := 12) C (dX1_choose 7 rfl) rfl 1 rfl ?_
  refine z_ldc (pc := 13) C wk_X1_141 (dX1_choose 8 rfl) ?_
  obtain ⟨h4, H⟩ := H
  obtain ⟨h5, H⟩ := H
  refine z_iastore (pc := 15) C h4 h5 (dX1_choose 9 rfl) ?_
  refine z_iconst (pc := 16) (v := 0) C (dX1_choose 10 rfl) (by decide) ?_
  refine z_istore_n (pc := 17) (i := 2) (lv2 := [(2, .int 0), (0, .ref a), (1, .int p1)]) C (dX1_choose 11 rfl) rfl (by decide) rfl ?_
  obtain ⟨n14, H⟩ := H
  refine z_sub [1, 2, 0] rfl ?_
  refine sX1_choose_L18 C hr hm hu1 hu2 (fun m13 H => ?_) n14 0 (pI (pI m (gR m a 14) p1.toNatClampNeg 1000000000) (gR m a 15) p1.toNatClampNeg 1000000000) H
  exact z_vret (pc := 47) C hr hu1 hu2 (dX1_choose 27 rfl) ⟨rfl, rfl, H⟩
def wX1_countDown_L2 (t : zT) (a_0 : Nat) (Q : zM → Prop) (k50 : zM → Prop) : Nat → Int32 → zM → Prop
  | 0, _, _ => False
  | n + 1, x_1, m => (tK t a_0 = 1 ∧ (((gI m a_0 6) ≤ x_1 → (k50 m)) ∧ (¬ (gI m a_0 6) ≤ x_1 → (tK t (gR m a_0 12) = 14 ∧ (vp_in x_1 (tL t (gR m a_0 12)) ∧ (((gI m (gR m a_0 12) x_1.toNatClampNeg) ≤ 0 → (tK t (gR m a_0 10) = 14 ∧ (vp_in x_1 (tL t (gR m a_0 10)) ∧ (wX1_countDown_L2 t a_0 Q k50 n (x_1 + 1) (pI m (gR m a_0 12) x_1.toNatClampNeg ((gI m (gR m a_0 10) x_1.toNatClampNeg) - (1 : Int32))))))) ∧ (¬ (gI m (gR m a_0 12) x_1.toNatClampNeg) ≤ 0 → (Q (pI m (gR m a_0 12) x_1.toNatClampNeg ((gI m (gR m a_0 12) x_1.toNatClampNeg) - (1 : Int32)))))))))))
set_option maxHeartbeats 4000000 in
set_option maxRecDepth 20000 in
theorem sX1_countDown_L2 {p : Program} {l : Launch} {e : Env} {s : State} {mt : MethodId} {args : Array Value} {below : List Frame} {meth : Method} {c : Code} {g : zG} {u : Nat × Nat} {mc ms : Nat} {t : zT} {a_0 : Nat} {Q : zM → Prop} {k50 : zM → Prop} (C : zC p (zRm 0 mc ms) s mt args meth c g cX1_countDown 2 yX1_countDown.cls 0) (hr : meth.sig.returnType = none) (hm : meth.name = yX1_countDown.name) (hu1 : u.1 ≤ mc) (hu2 : u.2 ≤ ms)
    (K50 : ∀ (m : zM), k50 m → zW p l e (zRm 0 mc ms) s mt args below meth c g (MQ below (zQc g (zPv t Q)) args s mc ms (zFar g)) u 2 t m 50 [] []) : ∀ (n : Nat) (x_1 : Int32) (m : zM), wX1_countDown_L2 t a_0 Q k50 n x_1 m → zW p l e (zRm 0 mc ms) s mt args below meth c g (MQ below (zQc g (zPv t Q)) args s mc ms (zFar g)) u 2 t m 2 [(0, .ref a_0), (1, .int x_1)] [] := by
  intro n
  induction n with
  | zero => intro x_1 m H; exact H.elim
  | succ n ih =>
    intro x_1 m H
    simp only [wX1_countDown_L2] at H
    refine z_iload_n (pc := 2) C (dX1_countDown 2 rfl) rfl 1 rfl ?_
    refine z_aload_n (pc := 3) C (dX1_countDown 3 rfl) rfl 0 rfl ?_
    obtain ⟨h1, H⟩ := H
    refine z_getI (pc := 4) C zc1 h1 6 (by decide) rfl wf_X1_67 (dX1_countDown 4 rfl) ?_
    refine z_icmp_ge (pc := 7) (tgt := 50) C (dX1_countDown 5 rfl) (by decide) (fun c2 => ?_) (fun c2 => ?_)
    · replace H := H.1 c2
      refine z_sub [] rfl ?_
      exact K50 m H
    · replace H := H.2 c2
      refine z_aload_n (pc := 10) C (dX1_countDown 6 rfl) rfl 0 rfl ?_
      refine z_getR (pc := 11) C zc1 h1 12 (by decide) rfl wf_X1_24 (dX1_countDown 7 rfl) ?_
      refine z_iload_n (pc := 14) C (dX1_countDown 8 rfl) rfl 1 rfl ?_
      obtain ⟨h3, H⟩ := H
      obtain ⟨h4, H⟩ := H
      refine z_iaload (pc := 15) C h3 h4 (dX1_countDown 9 rfl) ?_
      refine z_if_le (pc := 16) (tgt := 30) C (dX1_countDown 10 rfl) (by decide) (fun c5 => ?_) (fun c5 => ?_)
      · replace H := H.1 c5
        refine z_aload_n (pc := 30) C (dX1_countDown 20 rfl) rfl 0 rfl ?_
        refine z_getR (pc := 31) C zc1 h1 12 (by decide) rfl wf_X1_24 (dX1_countDown 21 rfl) ?_
        refine z_iload_n (pc := 34) C (dX1_countDown 22 rfl) rfl 1 rfl ?_
        refine z_aload_n (pc := 35) C (dX1_countDown 23 rfl) rfl 0 rfl ?_
        refine z_getR (pc := 36) C zc1 h1 10 (by decide) rfl wf_X1_18 (dX1_countDown 24 rfl) ?_
        refine z_iload_n (pc := 39) C (dX1_countDown 25 rfl) rfl 1 rfl ?_
        obtain ⟨h6, H⟩ := H
        obtain ⟨h7, H⟩ := H
        refine z_iaload (pc := 40) C h6 h7 (dX1_countDown 26 rfl) ?_
        refine z_iconst (pc := 41) (v := 1) C (dX1_countDown 27 rfl) (by decide) ?_
        refine z_isub (pc := 42) C (dX1_countDown 28 rfl) ?_
        refine z_iastore (pc := 43) C h3 h4 (dX1_countDown 29 rfl) ?_
        refine z_iinc (pc := 44) (i := 1) (v := x_1 + 1) (lv2 := [(1, .int (x_1 + 1)), (0, .ref a_0)]) C (dX1_countDown 30 rfl) 1 rfl (by rfl) (by decide) rfl ?_
        refine z_goto (pc := 47) (tgt := 2) C (dX1_countDown 31 rfl) (by decide) ?_
        refine z_sub [1, 0] rfl ?_
        exact ih (x_1 + 1) (pI m (gR m a_0 12) x_1.toNatClampNeg ((gI m (gR m a_0 10) x_1.toNatClampNeg) - (1 : Int32))) H
      · replace H := H.2 c5
        refine z_aload_n (pc := 19) C (dX1_countDown 11 rfl) rfl 0 rfl ?_
        refine z_getR (pc := 20) C zc1 h1 12 (by decide) rfl wf_X1_24 (dX1_countDown 12 rfl) ?_
        refine z_iload_n (pc := 23) C (dX1_countDown 13 rfl) rfl 1 rfl ?_
        refine z_dup2_11 (pc := 24) C (dX1_countDown 14 rfl) rfl rfl ?_
        refine z_iaload (pc := 25) C h3 h4 (dX1_countDown 15 rfl) ?_
        refine z_iconst (pc := 26) (v := 1) C (dX1_countDown 16 rfl) (by decide) ?_
        refine z_isub (pc := 27) C (dX1_countDown 17 rfl) ?_
        refine z_iastore (pc := 28) C h3 h4 (dX1_countDown 18 rfl) ?_
        exact z_vret (pc := 29) C hr hu1 hu2 (dX1_countDown 19 rfl) ⟨rfl, rfl, H⟩
def wX1_countDown (t : zT) (m : zM) (a : Nat) (Q : zM → Prop) : Prop := (∃ n9, wX1_countDown_L2 t a Q (fun m8 => (Q m8)) n9 0 m)
set_option maxHeartbeats 4000000 in
set_option maxRecDepth 20000 in
theorem kX1_countDown {l : Launch} {t : zT} {m : zM} {a : Nat} {Q : zM → Prop} (H : wX1_countDown t m a Q) : zMet l yX1_countDown cX1_countDown 2 none 0 0 0 t m [.ref a] (zPv t Q) := by
  refine zmet (by decide +kernel) (Nat.le_of_ble_eq_true rfl) ?_
  intro p e s mt args below meth c g C hr hm
  unfold wX1_countDown at H
  have hu1 : ((0, 0) : Nat × Nat).1 ≤ 0 := Nat.le_refl 0
  have hu2 : ((0, 0) : Nat × Nat).2 ≤ 0 := Nat.le_refl 0
  refine z_iconst (pc := 0) (v := 0) C (dX1_countDown 0 rfl) (by decide) ?_
  refine z_istore_n (pc := 1) (i := 1) (lv2 := [(1, .int 0), (0, .ref a)]) C (dX1_countDown 1 rfl) rfl (by decide) rfl ?_
  obtain ⟨n9, H⟩ := H
  refine z_sub [1, 0] rfl ?_
  refine sX1_countDown_L2 C hr hm hu1 hu2 (fun m8 H => ?_) n9 0 m H
  exact z_vret (pc := 50) C hr hu1 hu2 (dX1_countDown 32 rfl) ⟨rfl, rfl, H⟩
def wX1_solve_L2 (t : zT) (a_0 : Nat) (Q : zM → Prop) (k30 : zM → Prop) : Nat → Int32 → zM → Prop
  | 0, _, _ => False
  | n + 1, x_1, m => (tK t a_0 = 1 ∧ (((gI m a_0 6) ≤ x_1 → (k30 m)) ∧ (¬ (gI m a_0 6) ≤ x_1 → (tK t (gR m a_0 10) = 14 ∧ (vp_in x_1 (tL t (gR m a_0 10)) ∧ (tK t (gR m a_0 12) = 14 ∧ (vp_in x_1 (tL t (gR m a_0 12)) ∧ (wX1_solve_L2 t a_0 Q k30 n (x_1 + 1) (pI m (gR m a_0 12) x_1.toNatClampNeg ((gI m (gR m a_0 10) x_1.toNatClampNeg) - (1 : Int32)))))))))))
set_option maxHeartbeats 4000000 in
set_option maxRecDepth 20000 in
theorem sX1_solve_L2 {p : Program} {l : Launch} {e : Env} {s : State} {mt : MethodId} {args : Array Value} {below : List Frame} {meth : Method} {c : Code} {g : zG} {u : Nat × Nat} {mc ms : Nat} {t : zT} {a_0 : Nat} {Q : zM → Prop} {k30 : zM → Prop} (C : zC p (zRm 3 mc ms) s mt args meth c g cX1_solve 2 yX1_solve.cls 3) (hr : meth.sig.returnType = none) (hm : meth.name = yX1_solve.name) (hu1 : u.1 ≤ mc) (hu2 : u.2 ≤ ms)
    (K30 : ∀ (m : zM), k30 m → zW p l e (zRm 3 mc ms) s mt args below meth c g (MQ below (zQc g (zPv t Q)) args s mc ms (zFar g)) u 2 t m 30 [(0, .ref a_0)] []) : ∀ (n : Nat) (x_1 : Int32) (m : zM), wX1_solve_L2 t a_0 Q k30 n x_1 m → zW p l e (zRm 3 mc ms) s mt args below meth c g (MQ below (zQc g (zPv t Q)) args s mc ms (zFar g)) u 2 t m 2 [(0, .ref a_0), (1, .int x_1)] [] := by
  intro n
  induction n with
  | zero => intro x_1 m H; exact H.elim
  | succ n ih =>
    intro x_1 m H
    simp only [wX1_solve_L2] at H
    refine z_iload_n (pc := 2) C (dX1_solve 2 rfl) rfl 1 rfl ?_
    refine z_aload_n (pc := 3) C (dX1_solve 3 rfl) rfl 0 rfl ?_
    obtain ⟨h1, H⟩ := H
    refine z_getI (pc := 4) C zc1 h1 6 (by decide) rfl wf_X1_67 (dX1_solve 4 rfl) ?_
    refine z_icmp_ge (pc := 7) (tgt := 30) C (dX1_solve 5 rfl) (by decide) (fun c2 => ?_) (fun c2 => ?_)
    · replace H := H.1 c2
      refine z_sub [0] rfl ?_
      exact K30 m H
    · replace H := H.2 c2
      refine z_aload_n (pc := 10) C (dX1_solve 6 rfl) rfl 0 rfl ?_
      refine z_getR (pc := 11) C zc1 h1 12 (by decide) rfl wf_X1_24 (dX1_solve 7 rfl) ?_
      refine z_iload_n (pc := 14) C (dX1_solve 8 rfl) rfl 1 rfl ?_
      refine z_aload_n (pc := 15) C (dX1_solve 9 rfl) rfl 0 rfl ?_
      refine z_getR (pc := 16) C zc1 h1 10 (by decide) rfl wf_X1_18 (dX1_solve 10 rfl) ?_
      refine z_iload_n (pc := 19) C (dX1_solve 11 rfl) rfl 1 rfl ?_
      obtain ⟨h3, H⟩ := H
      obtain ⟨h4, H⟩ := H
      refine z_iaload (pc := 20) C h3 h4 (dX1_solve 12 rfl) ?_
      refine z_iconst (pc := 21) (v := 1) C (dX1_solve 13 rfl) (by decide) ?_
      refine z_isub (pc := 22) C (dX1_solve 14 rfl) ?_
      obtain ⟨h5, H⟩ := H
      obtain ⟨h6, H⟩ := H
      refine z_iastore (pc := 23) C h5 h6 (dX1_solve 15 rfl) ?_
      refine z_iinc (pc := 24) (i := 1) (v := x_1 + 1) (lv2 := [(1, .int (x_1 + 1)), (0, .ref a_0)]) C (dX1_solve 16 rfl) 1 rfl (by rfl) (by decide) rfl ?_
      refine z_goto (pc := 27) (tgt := 2) C (dX1_solve 17 rfl) (by decide) ?_
      refine z_sub [1, 0] rfl ?_
      exact ih (x_1 + 1) (pI m (gR m a_0 12) x_1.toNatClampNeg ((gI m (gR m a_0 10) x_1.toNatClampNeg) - (1 : Int32))) H
def wX1_solve_J87 (t : zT) (m : zM) (a_0 : Nat) (x_1 : Int32) (Q : zM → Prop) (r37 : Int32 → zM → Prop) : Prop := (tK t a_0 = 1 ∧ (wX1_countDown t m a_0 (fun m23 => (r37 (x_1 + (-1)) m23))))
set_option maxHeartbeats 4000000 in
set_option maxRecDepth 20000 in
theorem sX1_solve_J87 {p : Program} {l : Launch} {e : Env} {s : State} {mt : MethodId} {args : Array Value} {below : List Frame} {meth : Method} {c : Code} {g : zG} {u : Nat × Nat} {mc ms : Nat} {t : zT} {m : zM} {a_0 : Nat} {x_1 : Int32} {Q : zM → Prop} {r37 : Int32 → zM → Prop} (C : zC p (zRm 3 mc ms) s mt args meth c g cX1_solve 2 yX1_solve.cls 3) (hr : meth.sig.returnType = none) (hm : meth.name = yX1_solve.name) (hu1 : u.1 ≤ mc) (hu2 : u.2 ≤ ms)
    (R37 : ∀ (v0 : Int32) (m : zM), r37 v0 m → zW p l e (zRm 3 mc ms) s mt args below meth c g (MQ below (zQc g (zPv t Q)) args s mc ms (zFar g)) u 2 t m 37 [(0, .ref a_0), (1, .int v0)] []) (H : wX1_solve_J87 t m a_0 x_1 Q r37) : zW p l e (zRm 3 mc ms) s mt args below meth c g (MQ below (zQc g (zPv t Q)) args s mc ms (zFar g)) u 2 t m 87 [(0, .ref a_0), (1, .int x_1)] [] := by
  unfold wX1_solve_J87 at H
  refine z_aload_n (pc := 87) C (dX1_solve 53 rfl) rfl 0 rfl ?_
  obtain ⟨h21, H⟩ := H
  refine zc_Vv (pc := 88) (rest := []) C YX1_countDown wl_X1_132 (kX1_countDown H) (by decide) h21 rfl (by decide) (dX1_solve 54 rfl) rfl hu1 hu2 (Nat.le_of_ble_eq_true rfl) rfl (fun m23 H => ?_)
  refine z_iinc (pc := 91) (i := 1) (v := x_1 + (-1)) (lv2 := [(1, .int (x_1 + (-1))), (0, .ref a_0)]) C (dX1_solve 55 rfl) 1 rfl (by rfl) (by decide) rfl ?_
  refine z_goto (pc := 94) (tgt := 37) C (dX1_solve 56 rfl) (by decide) ?_
  refine z_sub [1, 0] rfl ?_
  exact R37 (x_1 + (-1)) m23 H
def wX1_solve_L37 (t : zT) (a_0 : Nat) (Q : zM → Prop) (k97 : zM → Prop) : Nat → Int32 → zM → Prop
  | 0, _, _ => False
  | n + 1, x_1, m => ((x_1 < 0 → (k97 m)) ∧ (¬ x_1 < 0 → (tK t a_0 = 1 ∧ (tK t (gR m a_0 14) = 14 ∧ (vp_in x_1 (tL t (gR m a_0 14)) ∧ (tK t (gR m a_0 15) = 14 ∧ (vp_in x_1 (tL t (gR m a_0 15)) ∧ (wX1_addUp t (pI (pI (pI (pI m (gR m a_0 14) x_1.toNatClampNeg 0) (gR m a_0 15) x_1.toNatClampNeg 0) a_0 3 (-2)) a_0 5 (-2)) a_0 x_1 (fun m17 => (tK t (gR m17 a_0 13) = 14 ∧ (vp_in x_1 (tL t (gR m17 a_0 13)) ∧ (((gI m17 (gR m17 a_0 13) x_1.toNatClampNeg) ≤ 1 → (wX1_solve_J87 t m17 a_0 x_1 Q (wX1_solve_L37 t a_0 Q k97 n))) ∧ (¬ (gI m17 (gR m17 a_0 13) x_1.toNatClampNeg) ≤ 1 → (wX1_choose t m17 a_0 x_1 (fun m25 => (wX1_solve_J87 t m25 a_0 x_1 Q (wX1_solve_L37 t a_0 Q k97 n)))))))))))))))))
set_option maxHeartbeats 4000000 in
set_option maxRecDepth 20000 in
theorem sX1_solve_L37 {p : Program} {l : Launch} {e : Env} {s : State} {mt : MethodId} {args : Array Value} {below : List Frame} {meth : Method} {c : Code} {g : zG} {u : Nat × Nat} {mc ms : Nat} {t : zT} {a_0 : Nat} {Q : zM → Prop} {k97 : zM → Prop} (C : zC p (zRm 3 mc ms) s mt args meth c g cX1_solve 2 yX1_solve.cls 3) (hr : meth.sig.returnType = none) (hm : meth.name = yX1_solve.name) (hu1 : u.1 ≤ mc) (hu2 : u.2 ≤ ms)
    (K97 : ∀ (m : zM), k97 m → zW p l e (zRm 3 mc ms) s mt args below meth c g (MQ below (zQc g (zPv t Q)) args s mc ms (zFar g)) u 2 t m 97 [(0, .ref a_0)] []) : ∀ (n : Nat) (x_1 : Int32) (m : zM), wX1_solve_L37 t a_0 Q k97 n x_1 m → zW p l e (zRm 3 mc ms) s mt args below meth c g (MQ below (zQc g (zPv t Q)) args s mc ms (zFar g)) u 2 t m 37 [(0, .ref a_0), (1, .int x_1)] [] := by
  intro n
  induction n with
  | zero => intro x_1 m H; exact H.elim
  | succ n ih =>
    intro x_1 m H
    simp only [wX1_solve_L37] at H
    refine z_iload_n (pc := 37) C (dX1_solve 23 rfl) rfl 1 rfl ?_
    refine z_if_lt (pc := 38) (tgt := 97) C (dX1_solve 24 rfl) (by decide) (fun c10 => ?_) (fun c10 => ?_)
    · replace H := H.1 c10
      refine z_sub [0] rfl ?_
      exact K97 m H
    · replace H := H.2 c10
      refine z_aload_n (pc := 41) C (dX1_solve 25 rfl) rfl 0 rfl ?_
      obtain ⟨h11, H⟩ := H
      refine z_getR (pc := 42) C zc1 h11 14 (by decide) rfl wf_X1_30 (dX1_solve 26 rfl) ?_
      refine z_iload_n (pc := 45) C (dX1_solve 27 rfl) rfl 1 rfl ?_
      refine z_iconst (pc := 46) (v := 0) C (dX1_solve 28 rfl) (by decide) ?_
      obtain ⟨h12, H⟩ := H
      obtain ⟨h13, H⟩ := H
      refine z_iastore (pc := 47) C h12 h13 (dX1_solve 29 rfl) ?_
      refine z_aload_n (pc := 48) C (dX1_solve 30 rfl) rfl 0 rfl ?_
      refine z_getR (pc := 49) C zc1 h11 15 (by decide) rfl wf_X1_33 (dX1_solve 31 rfl) ?_
      refine z_iload_n (pc := 52) C (dX1_solve 32 rfl) rfl 1 rfl ?_
      refine z_iconst (pc := 53) (v := 0) C (dX1_solve 33 rfl) (by decide) ?_
      obtain ⟨h14, H⟩ := H
      obtain ⟨h15, H⟩ := H
      refine z_iastore (pc := 54) C h14 h15 (dX1_solve 34 rfl) ?_
      refine z_aload_n (pc := 55) C (dX1_solve 35 rfl) rfl 0 rfl ?_
      refine z_bipush (pc := 56) (v := (-2)) C (dX1_solve 36 rfl) (by decide) ?_
      refine z_putI (pc := 58) C zc1 h11 3 (by decide) rfl rfl wf_X1_119 (dX1_solve 37 rfl) ?_
      refine z_aload_n (pc := 61) C (dX1_solve 38 rfl) rfl 0 rfl ?_
      refine z_bipush (pc := 62) (v := (-2)) C (dX1_solve 39 rfl) (by decide) ?_
      refine z_putI (pc := 64) C zc1 h11 5 (by decide) rfl rfl wf_X1_122 (dX1_solve 40 rfl) ?_
      refine z_aload_n (pc := 67) C (dX1_solve 41 rfl) rfl 0 rfl ?_
      refine z_iload_n (pc := 68) C (dX1_solve 42 rfl) rfl 1 rfl ?_
      refine zc_Vv (pc := 69) (rest := []) C YX1_addUp wl_X1_125 (kX1_addUp H) (by decide) h11 rfl (by decide) (dX1_solve 43 rfl) rfl hu1 hu2 (Nat.le_of_ble_eq_true rfl) rfl (fun m17 H => ?_)
      refine z_aload_n (pc := 72) C (dX1_solve 44 rfl) rfl 0 rfl ?_
      refine z_getR (pc := 73) C zc1 h11 13 (by decide) rfl wf_X1_27 (dX1_solve 45 rfl) ?_
      refine z_iload_n (pc := 76) C (dX1_solve 46 rfl) rfl 1 rfl ?_
      obtain ⟨h18, H⟩ := H
      obtain ⟨h19, H⟩ := H
      refine z_iaload (pc := 77) C h18 h19 (dX1_solve 47 rfl) ?_
      refine z_iconst (pc := 78) (v := 1) C (dX1_solve 48 rfl) (by decide) ?_
      refine z_icmp_le (pc := 79) (tgt := 87) C (dX1_solve 49 rfl) (by decide) (fun c20 => ?_) (fun c20 => ?_)
      · replace H := H.1 c20
        refine z_sub [0, 1] rfl ?_
        exact sX1_solve_J87 C hr hm hu1 hu2 ih H
      · replace H := H.2 c20
        refine z_aload_n (pc := 82) C (dX1_solve 50 rfl) rfl 0 rfl ?_
        refine z_iload_n (pc := 83) C (dX1_solve 51 rfl) rfl 1 rfl ?_
        refine zc_Vv (pc := 84) (rest := []) C YX1_choose wl_X1_129 (kX1_choose H) (by decide) h11 rfl (by decide) (dX1_solve 52 rfl) rfl hu1 hu2 (Nat.le_of_ble_eq_true rfl) rfl (fun m25 H => ?_)
        refine z_sub [0, 1] rfl ?_
        exact sX1_solve_J87 C hr hm hu1 hu2 ih H
def wX1_solve (t : zT) (m : zM) (a : Nat) (Q : zM → Prop) : Prop := (∃ n32, wX1_solve_L2 t a Q (fun m7 => (tK t a = 1 ∧ (∀ x9 : Int32, x9 = ((gI m7 a 7) - (1 : Int32)) → ((∃ n31, wX1_solve_L37 t a Q (fun m26 => (tK t (gR m26 a 14) = 14 ∧ (vp_in 0 (tL t (gR m26 a 14)) ∧ (tK t (gR m26 a 15) = 14 ∧ (vp_in 0 (tL t (gR m26 a 15)) ∧ (Q (pI (pI m26 a 2 (gI m26 (gR m26 a 14) ((0 : Int32).toNatClampNeg))) a 4 (gI (pI m26 a 2 (gI m26 (gR m26 a 14) ((0 : Int32).toNatClampNeg))) (gR m26 a 15) ((0 : Int32).toNatClampNeg))))))))) n31 x9 m7))))) n32 0 m)
set_option maxHeartbeats 4000000 in
set_option maxRecDepth 20000 in
theorem kX1_solve {l : Launch} {t : zT} {m : zM} {a : Nat} {Q : zM → Prop} (H : wX1_solve t m a Q) : zMet l yX1_solve cX1_solve 2 none 3 0 0 t m [.ref a] (zPv t Q) := by
  refine zmet (by decide +kernel) (Nat.le_of_ble_eq_true rfl) ?_
  intro p e s mt args below meth c g C hr hm
  unfold wX1_solve at H
  have hu1 : ((0, 0) : Nat × Nat).1 ≤ 0 := Nat.le_refl 0
  have hu2 : ((0, 0) : Nat × Nat).2 ≤ 0 := Nat.le_refl 0
  refine z_iconst (pc := 0) (v := 0) C (dX1_solve 0 rfl) (by decide) ?_
  refine z_istore_n (pc := 1) (i := 1) (lv2 := [(1, .int 0), (0, .ref a)]) C (dX1_solve 1 rfl) rfl (by decide) rfl ?_
  obtain ⟨n32, H⟩ := H
  refine z_sub [1, 0] rfl ?_
  refine sX1_solve_L2 C hr hm hu1 hu2 (fun m7 H => ?_) n32 0 m H
  refine z_aload_n (pc := 30) C (dX1_solve 18 rfl) rfl 0 rfl ?_
  obtain ⟨h8, H⟩ := H
  refine z_getI (pc := 31) C zc1 h8 7 (by decide) rfl wf_X1_71 (dX1_solve 19 rfl) ?_
  refine z_iconst (pc := 34) (v := 1) C (dX1_solve 20 rfl) (by decide) ?_
  refine z_isub (pc := 35) C (dX1_solve 21 rfl) ?_
  refine z_int (fun x9 hx9 => ?_)
  replace H := H x9 hx9
  refine z_istore_n (pc := 36) (i := 1) (lv2 := [(1, .int x9), (0, .ref a)]) C (dX1_solve 22 rfl) rfl (by decide) rfl ?_
  obtain ⟨n31, H⟩ := H
  refine z_sub [1, 0] rfl ?_
  refine sX1_solve_L37 C hr hm hu1 hu2 (fun m26 H => ?_) n31 x9 m7 H
  refine z_aload_n (pc := 97) C (dX1_solve 57 rfl) rfl 0 rfl ?_
  refine z_aload_n (pc := 98) C (dX1_solve 58 rfl) rfl 0 rfl ?_
  refine z_getR (pc := 99) C zc1 h8 14 (by decide) rfl wf_X1_30 (dX1_solve 59 rfl) ?_
  refine z_iconst (pc := 102) (v := 0) C (dX1_solve 60 rfl) (by decide) ?_
  obtain ⟨h27, H⟩ := H
  obtain ⟨h28, H⟩ := H
  refine z_iaload (pc := 103) C h27 h28 (dX1_solve 61 rfl) ?_
  refine z_putI (pc := 104) C zc1 h8 2 (by decide) rfl rfl wf_X1_135 (dX1_solve 62 rfl) ?_
  refine z_aload_n (pc := 107) C (dX1_solve 63 rfl) rfl 0 rfl ?_
  refine z_aload_n (pc := 108) C (dX1_solve 64 rfl) rfl 0 rfl ?_
  refine z_getR (pc := 109) C zc1 h8 15 (by decide) rfl wf_X1_33 (dX1_solve 65 rfl) ?_
  refine z_iconst (pc := 112) (v := 0) C (dX1_solve 66 rfl) (by decide) ?_
  obtain ⟨h29, H⟩ := H
  obtain ⟨h30, H⟩ := H
  refine z_iaload (pc := 113) C h29 h30 (dX1_solve 67 rfl) ?_
  refine z_putI (pc := 114) C zc1 h8 4 (by decide) rfl rfl wf_X1_138 (dX1_solve 68 rfl) ?_
  exact z_vret (pc := 117) C hr hu1 hu2 (dX1_solve 69 rfl) ⟨rfl, rfl, H⟩
def wX1_prepare (cap : Nat × Nat) (t : zT) (m : zM) (a : Nat) (p1 : Nat) (p2 : Nat) (Q : zT → zM → Prop) : Prop := (tK t a = 1 ∧ (((gI m a 0) = 0 → (tK t p1 = 8 ∧ (wX8_sureIn t (pI m a 0 1) p1 p2 (fun r4 m5 => (wX1_layOut t m5 a (gR m p1 0) r4 (fun m7 => (∃ k10 : Nat × Nat, (0 + k10.1 ≤ cap.1 ∧ 0 + k10.2 ≤ cap.2) ∧ wX1_makeRoom k10 t m7 a (fun t11 m9 => (tK t11 a = 1 ∧ (wX1_fillLast t11 m9 a p1 p2 (fun r13 m14 => ((r13 = 0 ∨ r13 = 1) ∧ (((gI (pI m14 a 1 r13) a 1) = 0 → (Q t11 (pI m14 a 1 r13))) ∧ (¬ (gI (pI m14 a 1 r13) a 1) = 0 → (wX1_solve t11 (pI m14 a 1 r13) a (fun m18 => (Q t11 m18))))))))))))))))) ∧ (¬ (gI m a 0) = 0 → (Q t m))))
set_option maxHeartbeats 4000000 in
set_option maxRecDepth 20000 in
theorem kX1_prepare {l : Launch} {cap : Nat × Nat} {t : zT} {m : zM} {a : Nat} {p1 : Nat} {p2 : Nat} {Q : zT → zM → Prop} (H : wX1_prepare cap t m a p1 p2 Q) : zMet l yX1_prepare cX1_prepare 3 none 4 cap.1 cap.2 t m [.ref a, .ref p1, .ref p2] (zAw Q) := by
  refine zmet (by decide +kernel) (Nat.le_of_ble_eq_true rfl) ?_
  intro p e s mt args below meth c g C hr hm
  unfold wX1_prepare at H
  obtain ⟨mc, ms⟩ := cap
  refine z_aload_n (pc := 0) C (dX1_prepare 0 rfl) rfl 0 rfl ?_
  obtain ⟨h1, H⟩ := H
  refine z_getI (pc := 1) C zc1 h1 0 (by decide) rfl wf_X1_36 (dX1_prepare 1 rfl) ?_
  refine z_if_eq (pc := 4) (tgt := 8) C (dX1_prepare 2 rfl) (by decide) (fun c2 => ?_) (fun c2 => ?_)
  · replace H := H.1 c2
    refine z_aload_n (pc := 8) C (dX1_prepare 4 rfl) rfl 0 rfl ?_
    refine z_iconst (pc := 9) (v := 1) C (dX1_prepare 5 rfl) (by decide) ?_
    refine z_putZ (pc := 10) C zc1 h1 0 (by decide) rfl rfl wf_X1_36 (dX1_prepare 6 rfl) (by decide) ?_
    refine z_aload_n (pc := 13) C (dX1_prepare 7 rfl) rfl 0 rfl ?_
    refine z_aload_n (pc := 14) C (dX1_prepare 8 rfl) rfl 1 rfl ?_
    obtain ⟨h3, H⟩ := H
    refine z_getR (pc := 15) C zc8 h3 0 (by decide) rfl wf_X1_40 (dX1_prepare 9 rfl) ?_
    refine z_aload_n (pc := 18) C (dX1_prepare 10 rfl) rfl 1 rfl ?_
    refine z_aload_n (pc := 19) C (dX1_prepare 11 rfl) rfl 2 rfl ?_
    refine zc_Vi (pc := 20) (rest := [.ref (gR m p1 0), .ref a]) C YX8_sureIn wl_X1_46 (kX8_sureIn H) (by decide) h3 rfl (by decide) (dX1_prepare 12 rfl) rfl (Nat.zero_le _) (Nat.zero_le _) (Nat.le_of_ble_eq_true rfl) rfl (fun r4 m5 H => ?_)
    refine zc_Vv (pc := 23) (rest := []) C YX1_layOut wl_X1_50 (kX1_layOut H) (by decide) h1 rfl (by decide) (dX1_prepare 13 rfl) rfl (Nat.zero_le _) (Nat.zero_le _) (Nat.le_of_ble_eq_true rfl) rfl (fun m7 H => ?_)
    refine z_aload_n (pc := 26) C (dX1_prepare 14 rfl) rfl 0 rfl ?_
    obtain ⟨k10, h19, H⟩ := H
    refine za_Vv (pc := 27) (rest := []) C YX1_makeRoom wl_X1_54 (kX1_makeRoom H) (by decide) h1 rfl (by decide) (dX1_prepare 15 rfl) rfl (by first | exact h19.1 | (have := h19.1; omega)) (by first | exact h19.2 | (have := h19.2; omega)) (Nat.le_of_ble_eq_true rfl) rfl (fun t11 m9 H => ?_)
    refine z_aload_n (pc := 30) C (dX1_prepare 16 rfl) rfl 0 rfl ?_
    refine z_aload_n (pc := 31) C (dX1_prepare 17 rfl) rfl 0 rfl ?_
    refine z_aload_n (pc := 32) C (dX1_prepare 18 rfl) rfl 1 rfl ?_
    refine z_aload_n (pc := 33) C (dX1_prepare 19 rfl) rfl 2 rfl ?_
    obtain ⟨h12, H⟩ := H
    refine zc_Vi (pc := 34) (rest := [.ref a]) C YX1_fillLast wl_X1_57 (kX1_fillLast H) (by decide) h12 rfl (by decide) (dX1_prepare 20 rfl) rfl (by first | omega | (show _ ≤ mc; omega)) (by first | omega | (show _ ≤ ms; omega)) (Nat.le_of_ble_eq_true rfl) rfl (fun r13 m14 H => ?_)
    obtain ⟨h15, H⟩ := H
    refine z_putZ (pc := 37) C zc1 h12 1 (by decide) rfl rfl wf_X1_61 (dX1_prepare 21 rfl) h15 ?_
    refine z_aload_n (pc := 40) C (dX1_prepare 22 rfl) rfl 0 rfl ?_
    refine z_getI (pc := 41) C zc1 h12 1 (by decide) rfl wf_X1_61 (dX1_prepare 23 rfl) ?_
    refine z_if_eq (pc := 44) (tgt := 51) C (dX1_prepare 24 rfl) (by decide) (fun c16 => ?_) (fun c16 => ?_)
    · replace H := H.1 c16
      exact z_vret (pc := 51) C hr (by first | omega | (show _ ≤ mc; omega)) (by first | omega | (show _ ≤ ms; omega)) (dX1_prepare 27 rfl) ⟨rfl, H⟩
    · replace H := H.2 c16
      refine z_aload_n (pc := 47) C (dX1_prepare 25 rfl) rfl 0 rfl ?_
      refine zc_Vv (pc := 48) (rest := []) C YX1_solve wl_X1_64 (kX1_solve H) (by decide) h12 rfl (by decide) (dX1_prepare 26 rfl) rfl (by first | omega | (show _ ≤ mc; omega)) (by first | omega | (show _ ≤ ms; omega)) (Nat.le_of_ble_eq_true rfl) rfl (fun m18 H => ?_)
      exact z_vret (pc := 51) C hr (by first | omega | (show _ ≤ mc; omega)) (by first | omega | (show _ ≤ ms; omega)) (dX1_prepare 27 rfl) ⟨rfl, H⟩
  · replace H := H.2 c2
    exact z_vret (pc := 7) C hr (Nat.zero_le _) (Nat.zero_le _) (dX1_prepare 3 rfl) ⟨rfl, H⟩
def wX4_init (cap : Nat × Nat) (t : zT) (m : zM) (a : Nat) (Q : zT → zM → Prop) : Prop := (0 < a ∧ ((0 + 1 ≤ cap.1 ∧ 0 + 64 ≤ cap.2) ∧ (0 < tN t → (tK (tNew t 15 64) a = 4 ∧ (Q (tNew t 15 64) (pR (zClr m (tN t)) a 0 (tN t)))))))
set_option maxHeartbeats 4000000 in
set_option maxRecDepth 20000 in
theorem kX4_init {l : Launch} {cap : Nat × Nat} {t : zT} {m : zM} {a : Nat} {Q : zT → zM → Prop} (H : wX4_init cap t m a Q) : zMet l yX4_init cX4_init 1 none 1 cap.1 cap.2 t m [.ref a] (zAw Q) := by
  refine zmet (by decide +kernel) (Nat.le_of_ble_eq_true rfl) ?_
  intro p e s mt args below meth c g C hr hm
  unfold wX4_init at H
  obtain ⟨mc, ms⟩ := cap
  refine z_aload_n (pc := 0) C (dX4_init 0 rfl) rfl 0 rfl ?_
  obtain ⟨h4, H⟩ := H
  refine z_objInit (pc := 1) C h4 wl_X4_3 woi woc (by decide) (Nat.le_of_ble_eq_true rfl) (dX4_init 1 rfl) ?_
  refine z_aload_n (pc := 4) C (dX4_init 2 rfl) rfl 0 rfl ?_
  refine z_bipush (pc := 5) (v := 64) C (dX4_init 3 rfl) (by decide) ?_
  obtain ⟨h2, H⟩ := H
  refine z_newaJ (pc := 7) (N := 64) C (by decide) (by decide) (by decide) wa_long (dX4_init 4 rfl) h2.1 h2.2 (fun h3 => ?_)
  replace H := H h3
  obtain ⟨h1, H⟩ := H
  refine z_putRF (pc := 9) C zc4 h1 0 (by decide) rfl rfl hm rfl wf_X4_9 (dX4_init 5 rfl) ?_
  exact z_vret (pc := 12) C hr (by first | omega | (show _ ≤ mc; omega)) (by first | omega | (show _ ≤ ms; omega)) (dX4_init 6 rfl) ⟨rfl, H⟩
def wX2_init (cap : Nat × Nat) (t : zT) (m : zM) (a : Nat) (Q : zT → zM → Prop) : Prop := (0 < a ∧ ((0 + 1 ≤ cap.1 ∧ 0 + 3 ≤ cap.2) ∧ (0 < tN t → (0 < (tN t) ∧ (∃ k3 : Nat × Nat, (0 + 1 + k3.1 ≤ cap.1 ∧ 0 + 3 + k3.2 ≤ cap.2) ∧ wX4_init k3 (tNew t 4 0) (zClr m (tN t)) (tN t) (fun t4 m2 => (tK t4 a = 2 ∧ ((0 + 1 + k3.1 + 1 ≤ cap.1 ∧ 0 + 3 + k3.2 + 8 ≤ cap.2) ∧ (0 < tN t4 → (tK (tNew t4 14 8) a = 2 ∧ (Q (tNew t4 14 8) (pR (zClr (pR m2 a 0 (tN t)) (tN t4)) a 3 (tN t4)))))))))))))
set_option maxHeartbeats 4000000 in
set_option maxRecDepth 20000 in
theorem kX2_init {l : Launch} {cap : Nat × Nat} {t : zT} {m : zM} {a : Nat} {Q : zT → zM → Prop} (H : wX2_init cap t m a Q) : zMet l yX2_init cX2_init 1 none 2 cap.1 cap.2 t m [.ref a] (zAw Q) := by
  refine zmet (by decide +kernel) (Nat.le_of_ble_eq_true rfl) ?_
  intro p e s mt args below meth c g C hr hm
  unfold wX2_init at H
  obtain ⟨mc, ms⟩ := cap
  refine z_aload_n (pc := 0) C (dX2_init 0 rfl) rfl 0 rfl ?_
  obtain ⟨h13, H⟩ := H
  refine z_objInit (pc := 1) C h13 wl_X2_3 woi woc (by decide) (Nat.le_of_ble_eq_true rfl) (dX2_init 1 rfl) ?_
  refine z_aload_n (pc := 4) C (dX2_init 2 rfl) rfl 0 rfl ?_
  obtain ⟨h11, H⟩ := H
  refine z_new (pc := 5) C zc4 wc_X2_9 wt_X4 wi_X4 (dX2_init 3 rfl) h11.1 h11.2 (fun h12 => ?_)
  replace H := H h12
  refine z_dup (pc := 8) C (dX2_init 4 rfl) rfl ?_
  obtain ⟨h10, H⟩ := H
  obtain ⟨k3, h9, H⟩ := H
  refine za_IvN (pc := 9) (rest := [.ref (tN t), .ref a]) C YX4_init wm_X2_11 h10 (kX4_init H) (by decide) (dX2_init 5 rfl) rfl (by first | exact h9.1 | (have := h9.1; omega)) (by first | exact h9.2 | (have := h9.2; omega)) (Nat.le_of_ble_eq_true rfl) rfl (fun t4 m2 H => ?_)
  obtain ⟨h5, H⟩ := H
  refine z_putRF (pc := 12) C zc2 h5 0 (by decide) rfl rfl hm rfl wf_X2_12 (dX2_init 6 rfl) ?_
  refine z_aload_n (pc := 15) C (dX2_init 7 rfl) rfl 0 rfl ?_
  refine z_bipush (pc := 16) (v := 8) C (dX2_init 8 rfl) (by decide) ?_
  obtain ⟨h7, H⟩ := H
  refine z_newaI (pc := 18) (N := 8) C (by decide) (by decide) (by decide) wa_int (dX2_init 9 rfl) h7.1 h7.2 (fun h8 => ?_)
  replace H := H h8
  obtain ⟨h6, H⟩ := H
  refine z_putRF (pc := 20) C zc2 h6 3 (by decide) rfl rfl hm rfl wf_X2_18 (dX2_init 10 rfl) ?_
  exact z_vret (pc := 23) C hr (by first | omega | (show _ ≤ mc; omega)) (by first | omega | (show _ ≤ ms; omega)) (dX2_init 11 rfl) ⟨rfl, H⟩
def wX2_proveBy_J71 (t : zT) (m : zM) (a_0 : Nat) (x_2 : Int32) (x_3 : Int32) (x_4 : Int32) (Q : zM → Prop) (r47 : Int32 → zM → Prop) : Prop := (r47 (x_4 + 1) m)
set_option maxHeartbeats 4000000 in
set_option maxRecDepth 20000 in
theorem sX2_proveBy_J71 {p : Program} {l : Launch} {e : Env} {s : State} {mt : MethodId} {args : Array Value} {below : List Frame} {meth : Method} {c : Code} {g : zG} {u : Nat × Nat} {mc ms : Nat} {t : zT} {m : zM} {a_0 : Nat} {x_2 : Int32} {x_3 : Int32} {x_4 : Int32} {Q : zM → Prop} {r47 : Int32 → zM → Prop} (C : zC p (zRm 4 mc ms) s mt args meth c g cX2_proveBy 5 yX2_proveBy.cls 4) (hr : meth.sig.returnType = none) (hm : meth.name = yX2_proveBy.name) (hu1 : u.1 ≤ mc) (hu2 : u.2 ≤ ms)
    (R47 : ∀ (v0 : Int32) (m : zM), r47 v0 m → zW p l e (zRm 4 mc ms) s mt args below meth c g (MQ below (zQc g (zPv t Q)) args s mc ms (zFar g)) u 5 t m 47 [(0, .ref a_0), (2, .int x_2), (3, .int x_3), (4, .int v0)] []) (H : wX2_proveBy_J71 t m a_0 x_2 x_3 x_4 Q r47) : zW p l e (zRm 4 mc ms) s mt args below meth c g (MQ below (zQc g (zPv t Q)) args s mc ms (zFar g)) u 5 t m 71 [(0, .ref a_0), (2, .int x_2), (3, .int x_3), (4, .int x_4)] [] := by
  unfold wX2_proveBy_J71 at H
  refine z_iinc (pc := 71) (i := 4) (v := x_4 + 1) (lv2 := [(4, .int (x_4 + 1)), (0, .ref a_0), (2, .int x_2), (3, .int x_3)]) C (dX2_proveBy 38 rfl) 3 rfl (by rfl) (by decide) rfl ?_
  refine z_goto (pc := 74) (tgt := 47) C (dX2_proveBy 39 rfl) (by decide) ?_
  refine z_sub [1, 2, 3, 0] rfl ?_
  exact R47 (x_4 + 1) m H
def wX2_proveBy_L47 (t : zT) (a_0 : Nat) (x_2 : Int32) (x_3 : Int32) (Q : zM → Prop) (k77 : zM → Prop) : Nat → Int32 → zM → Prop
  | 0, _, _ => False
  | n + 1, x_4, m => (((8 : Int32) ≤ x_4 → (k77 m)) ∧ (¬ (8 : Int32) ≤ x_4 → ((((x_3 >>> (x_4 &&& 31)) &&& (1 : Int32)) = 0 → (wX2_proveBy_J71 t m a_0 x_2 x_3 x_4 Q (wX2_proveBy_L47 t a_0 x_2 x_3 Q k77 n))) ∧ (¬ ((x_3 >>> (x_4 &&& 31)) &&& (1 : Int32)) = 0 → (tK t a_0 = 2 ∧ (tK t (gR m a_0 3) = 14 ∧ (vp_in x_4 (tL t (gR m a_0 3)) ∧ (wX2_proveBy_J71 t (pI m (gR m a_0 3) x_4.toNatClampNeg x_2) a_0 x_2 x_3 x_4 Q (wX2_proveBy_L47 t a_0 x_2 x_3 Q k77 n)))))))))
set_option maxHeartbeats 4000000 in
set_option maxRecDepth 20000 in
theorem sX2_proveBy_L47 {p : Program} {l : Launch} {e : Env} {s : State} {mt : MethodId} {args : Array Value} {below : List Frame} {meth : Method} {c : Code} {g : zG} {u : Nat × Nat} {mc ms : Nat} {t : zT} {a_0 : Nat} {x_2 : Int32} {x_3 : Int32} {Q : zM → Prop} {k77 : zM → Prop} (C : zC p (zRm 4 mc ms) s mt args meth c g cX2_proveBy 5 yX2_proveBy.cls 4) (hr : meth.sig.returnType = none) (hm : meth.name = yX2_proveBy.name) (hu1 : u.1 ≤ mc) (hu2 : u.2 ≤ ms)
    (K77 : ∀ (m : zM), k77 m → zW p l e (zRm 4 mc ms) s mt args below meth c g (MQ below (zQc g (zPv t Q)) args s mc ms (zFar g)) u 5 t m 77 [(0, .ref a_0), (3, .int x_3)] []) : ∀ (n : Nat) (x_4 : Int32) (m : zM), wX2_proveBy_L47 t a_0 x_2 x_3 Q k77 n x_4 m → zW p l e (zRm 4 mc ms) s mt args below meth c g (MQ below (zQc g (zPv t Q)) args s mc ms (zFar g)) u 5 t m 47 [(0, .ref a_0), (2, .int x_2), (3, .int x_3), (4, .int x_4)] [] := by
  intro n
  induction n with
  | zero => intro x_4 m H; exact H.elim
  | succ n ih =>
    intro x_4 m H
    simp only [wX2_proveBy_L47] at H
    refine z_iload (pc := 47) C (dX2_proveBy 24 rfl) 3 rfl ?_
    refine z_bipush (pc := 49) (v := 8) C (dX2_proveBy 25 rfl) (by decide) ?_
    refine z_icmp_ge (pc := 51) (tgt := 77) C (dX2_proveBy 26 rfl) (by decide) (fun c12 => ?_) (fun c12 => ?_)
    · replace H := H.1 c12
      refine z_sub [0, 2] rfl ?_
      exact K77 m H
    · replace H := H.2 c12
      refine z_iload_n (pc := 54) C (dX2_proveBy 27 rfl) rfl 2 rfl ?_
      refine z_iload (pc := 55) C (dX2_proveBy 28 rfl) 3 rfl ?_
      refine z_ishr (pc := 57) C (dX2_proveBy 29 rfl) ?_
      refine z_iconst (pc := 58) (v := 1) C (dX2_proveBy 30 rfl) (by decide) ?_
      refine z_iand (pc := 59) C (dX2_proveBy 31 rfl) ?_
      refine z_if_eq (pc := 60) (tgt := 71) C (dX2_proveBy 32 rfl) (by decide) (fun c13 => ?_) (fun c13 => ?_)
      · replace H := H.1 c13
        refine z_sub [0, 1, 2, 3] rfl ?_
        exact sX2_proveBy_J71 C hr hm hu1 hu2 ih H
      · replace H := H.2 c13
        refine z_aload_n (pc := 63) C (dX2_proveBy 33 rfl) rfl 0 rfl ?_
        obtain ⟨h14, H⟩ := H
        refine z_getR (pc := 64) C zc2 h14 3 (by decide) rfl wf_X2_18 (dX2_proveBy 34 rfl) ?_
        refine z_iload (pc := 67) C (dX2_proveBy 35 rfl) 3 rfl ?_
        refine z_iload_n (pc := 69) C (dX2_proveBy 36 rfl) rfl 1 rfl ?_
        obtain ⟨h15, H⟩ := H
        obtain ⟨h16, H⟩ := H
        refine z_iastore (pc := 70) C h15 h16 (dX2_proveBy 37 rfl) ?_
        refine z_sub [0, 1, 2, 3] rfl ?_
        exact sX2_proveBy_J71 C hr hm hu1 hu2 ih H
def wX2_proveBy (t : zT) (m : zM) (a : Nat) (p1 : Nat) (p2 : Int32) (Q : zM → Prop) : Prop := (tK t a = 2 ∧ (((gI m a 2) = 0 → (Q m)) ∧ (¬ (gI m a 2) = 0 → (tK t p1 = 0 ∧ (tK t (gR m p1 0) = 8 ∧ (tK t (gR m (gR m p1 0) 0) = 5 ∧ (wX0_judge t m p1 p2 (gI m (gR m (gR m p1 0) 0) 12) (gR m a 0) (fun m7 => (tK t (gR m7 p1 0) = 8 ∧ (wX8_sureIn t m7 (gR m7 p1 0) (gR m7 a 0) (fun r9 m10 => (∀ x11 : Int32, x11 = (r9 &&& (gI m10 a 2)) → ((∃ n18, wX2_proveBy_L47 t a p2 x11 Q (fun m17 => (Q (pI m17 a 2 ((gI m17 a 2) &&& (x11 ^^^ (-1)))))) n18 0 m10))))))))))))))
set_option maxHeartbeats 4000000 in
set_option maxRecDepth 20000 in
theorem kX2_proveBy {l : Launch} {t : zT} {m : zM} {a : Nat} {p1 : Nat} {p2 : Int32} {Q : zM → Prop} (H : wX2_proveBy t m a p1 p2 Q) : zMet l yX2_proveBy cX2_proveBy 5 none 4 0 0 t m [.ref a, .ref p1, .int p2] (zPv t Q) := by
  refine zmet (by decide +kernel) (Nat.le_of_ble_eq_true rfl) ?_
  intro p e s mt args below meth c g C hr hm
  unfold wX2_proveBy at H
  have hu1 : ((0, 0) : Nat × Nat).1 ≤ 0 := Nat.le_refl 0
  have hu2 : ((0, 0) : Nat × Nat).2 ≤ 0 := Nat.le_refl 0
  refine z_aload_n (pc := 0) C (dX2_proveBy 0 rfl) rfl 0 rfl ?_
  obtain ⟨h1, H⟩ := H
  refine z_getI (pc := 1) C zc2 h1 2 (by decide) rfl wf_X2_50 (dX2_proveBy 1 rfl) ?_
  refine z_if_ne (pc := 4) (tgt := 8) C (dX2_proveBy 2 rfl) (by decide) (fun c2 => ?_) (fun c2 => ?_)
  · replace H := H.2 c2
    refine z_aload_n (pc := 8) C (dX2_proveBy 4 rfl) rfl 1 rfl ?_
    refine z_iload_n (pc := 9) C (dX2_proveBy 5 rfl) rfl 2 rfl ?_
    refine z_aload_n (pc := 10) C (dX2_proveBy 6 rfl) rfl 1 rfl ?_
    obtain ⟨h3, H⟩ := H
    refine z_getR (pc := 11) C zc0 h3 0 (by decide) rfl wf_X2_32 (dX2_proveBy 7 rfl) ?_
    obtain ⟨h4, H⟩ := H
    refine z_getR (pc := 14) C zc8 h4 0 (by decide) rfl wf_X2_38 (dX2_proveBy 8 rfl) ?_
    obtain ⟨h5, H⟩ := H
    refine z_getI (pc := 17) C zc5 h5 12 (by decide) rfl wf_X2_60 (dX2_proveBy 9 rfl) ?_
    refine z_aload_n (pc := 20) C (dX2_proveBy 10 rfl) rfl 0 rfl ?_
    refine z_getR (pc := 21) C zc2 h1 0 (by decide) rfl wf_X2_12 (dX2_proveBy 11 rfl) ?_
    refine zc_Vv (pc := 24) (rest := []) C YX0_judge wl_X2_63 (kX0_judge H) (by decide) h3 rfl (by decide) (dX2_proveBy 12 rfl) rfl hu1 hu2 (Nat.le_of_ble_eq_true rfl) rfl (fun m7 H => ?_)
    refine z_aload_n (pc := 27) C (dX2_proveBy 13 rfl) rfl 1 rfl ?_
    refine z_getR (pc := 28) C zc0 h3 0 (by decide) rfl wf_X2_32 (dX2_proveBy 14 rfl) ?_
    refine z_aload_n (pc := 31) C (dX2_proveBy 15 rfl) rfl 0 rfl ?_
    refine z_getR (pc := 32) C zc2 h1 0 (by decide) rfl wf_X2_12 (dX2_proveBy 16 rfl) ?_
    obtain ⟨h8, H⟩ := H
    refine zc_Vi (pc := 35) (rest := []) C YX8_sureIn wl_X2_67 (kX8_sureIn H) (by decide) h8 rfl (by decide) (dX2_proveBy 17 rfl) rfl hu1 hu2 (Nat.le_of_ble_eq_true rfl) rfl (fun r9 m10 H => ?_)
    refine z_aload_n (pc := 38) C (dX2_proveBy 18 rfl) rfl 0 rfl ?_
    refine z_getI (pc := 39) C zc2 h1 2 (by decide) rfl wf_X2_50 (dX2_proveBy 19 rfl) ?_
    refine z_iand (pc := 42) C (dX2_proveBy 20 rfl) ?_
    refine z_int (fun x11 hx11 => ?_)
    replace H := H x11 hx11
    refine z_istore_n (pc := 43) (i := 3) (lv2 := [(3, .int x11), (0, .ref a), (1, .ref p1), (2, .int p2)]) C (dX2_proveBy 21 rfl) rfl (by decide) rfl ?_
    refine z_iconst (pc := 44) (v := 0) C (dX2_proveBy 22 rfl) (by decide) ?_
    refine z_istore (pc := 45) (i := 4) (lv2 := [(4, .int 0), (3, .int x11), (0, .ref a), (1, .ref p1), (2, .int p2)]) C (dX2_proveBy 23 rfl) (by decide) rfl ?_
    obtain ⟨n18, H⟩ := H
    refine z_sub [2, 4, 1, 0] rfl ?_
    refine sX2_proveBy_L47 C hr hm hu1 hu2 (fun m17 H => ?_) n18 0 m10 H
    refine z_aload_n (pc := 77) C (dX2_proveBy 40 rfl) rfl 0 rfl ?_
    refine z_dup (pc := 78) C (dX2_proveBy 41 rfl) rfl ?_
    refine z_getI (pc := 79) C zc2 h1 2 (by decide) rfl wf_X2_50 (dX2_proveBy 42 rfl) ?_
    refine z_iload_n (pc := 82) C (dX2_proveBy 43 rfl) rfl 1 rfl ?_
    refine z_iconst (pc := 83) (v := (-1)) C (dX2_proveBy 44 rfl) (by decide) ?_
    refine z_ixor (pc := 84) C (dX2_proveBy 45 rfl) ?_
    refine z_iand (pc := 85) C (dX2_proveBy 46 rfl) ?_
    refine z_putI (pc := 86) C zc2 h1 2 (by decide) rfl rfl wf_X2_50 (dX2_proveBy 47 rfl) ?_
    exact z_vret (pc := 89) C hr hu1 hu2 (dX2_proveBy 48 rfl) ⟨rfl, rfl, H⟩
  · replace H := H.1 c2
    exact z_vret (pc := 7) C hr hu1 hu2 (dX2_proveBy 3 rfl) ⟨rfl, rfl, H⟩
def wX2_prepare_L59 (t : zT) (a_0 : Nat) (a_1 : Nat) (x_2 : Int32) (Q : zM → Prop) (k78 : zM → Prop) : Nat → Int32 → zM → Prop
  | 0, _, _ => False
  | n + 1, x_3, m => ((x_2 ≤ x_3 → (k78 m)) ∧ (¬ x_2 ≤ x_3 → (tK t a_0 = 2 ∧ (wX2_proveBy t m a_0 a_1 ((1 : Int32) <<< (x_3 &&& 31)) (fun m16 => (wX2_prepare_L59 t a_0 a_1 x_2 Q k78 n (x_3 + 1) m16))))))
set_option maxHeartbeats 4000000 in
set_option maxRecDepth 20000 in
theorem sX2_prepare_L59 {p : Program} {l : Launch} {e : Env} {s : State} {mt : MethodId} {args : Array Value} {below : List Frame} {meth : Method} {c : Code} {g : zG} {u : Nat × Nat} {mc ms : Nat} {t : zT} {a_0 : Nat} {a_1 : Nat} {x_2 : Int32} {Q : zM → Prop} {k78 : zM → Prop} (C : zC p (zRm 5 mc ms) s mt args meth c g cX2_prepare 6 yX2_prepare.cls 5) (hr : meth.sig.returnType = none) (hm : meth.name = yX2_prepare.name) (hu1 : u.1 ≤ mc) (hu2 : u.2 ≤ ms)
    (K78 : ∀ (m : zM), k78 m → zW p l e (zRm 5 mc ms) s mt args below meth c g (MQ below (zQc g (zPv t Q)) args s mc ms (zFar g)) u 6 t m 78 [(0, .ref a_0), (1, .ref a_1), (2, .int x_2)] []) : ∀ (n : Nat) (x_3 : Int32) (m : zM), wX2_prepare_L59 t a_0 a_1 x_2 Q k78 n x_3 m → zW p l e (zRm 5 mc ms) s mt args below meth c g (MQ below (zQc g (zPv t Q)) args s mc ms (zFar g)) u 6 t m 59 [(0, .ref a_0), (1, .ref a_1), (2, .int x_2), (3, .int x_3)] [] := by
  intro n
  induction n with
  | zero => intro x_3 m H; exact H.elim
  | succ n ih =>
    intro x_3 m H
    simp only [wX2_prepare_L59] at H
    refine z_iload_n (pc := 59) C (dX2_prepare 32 rfl) rfl 3 rfl ?_
    refine z_iload_n (pc := 60) C (dX2_prepare 33 rfl) rfl 2 rfl ?_
    refine z_icmp_ge (pc := 61) (tgt := 78) C (dX2_prepare 34 rfl) (by decide) (fun c13 => ?_) (fun c13 => ?_)
    · replace H := H.1 c13
      refine z_sub [0, 1, 2] rfl ?_
      exact K78 m H
    · replace H := H.2 c13
      refine z_aload_n (pc := 64) C (dX2_prepare 35 rfl) rfl 0 rfl ?_
      refine z_aload_n (pc := 65) C (dX2_prepare 36 rfl) rfl 1 rfl ?_
      refine z_iconst (pc := 66) (v := 1) C (dX2_prepare 37 rfl) (by decide) ?_
      refine z_iload_n (pc := 67) C (dX2_prepare 38 rfl) rfl 3 rfl ?_
      refine z_ishl (pc := 68) C (dX2_prepare 39 rfl) ?_
      obtain ⟨h14, H⟩ := H
      refine zc_Vv (pc := 69) (rest := []) C YX2_proveBy wl_X2_53 (kX2_proveBy H) (by decide) h14 rfl (by decide) (dX2_prepare 40 rfl) rfl hu1 hu2 (Nat.le_of_ble_eq_true rfl) rfl (fun m16 H => ?_)
      refine z_iinc (pc := 72) (i := 3) (v := x_3 + 1) (lv2 := [(3, .int (x_3 + 1)), (0, .ref a_0), (1, .ref a_1), (2, .int x_2)]) C (dX2_prepare 41 rfl) 3 rfl (by rfl) (by decide) rfl ?_
      refine z_goto (pc := 75) (tgt := 59) C (dX2_prepare 42 rfl) (by decide) ?_
      refine z_sub [1, 2, 3, 0] rfl ?_
      exact ih (x_3 + 1) m16 H
def wX2_prepare_L88 (t : zT) (a_0 : Nat) (a_1 : Nat) (x_2 : Int32) (x_3 : Int32) (Q : zM → Prop) (k113 : zM → Prop) : Nat → Int32 → zM → Prop
  | 0, _, _ => False
  | n + 1, x_4, m => ((x_3 ≤ x_4 → (k113 m)) ∧ (¬ x_3 ≤ x_4 → (tK t a_0 = 2 ∧ (wX2_proveBy t m a_0 a_1 (((1 : Int32) <<< (x_3 &&& 31)) ||| ((1 : Int32) <<< (x_4 &&& 31))) (fun m22 => (wX2_prepare_L88 t a_0 a_1 x_2 x_3 Q k113 n (x_4 + 1) m22))))))
set_option maxHeartbeats 4000000 in
set_option maxRecDepth 20000 in
theorem sX2_prepare_L88 {p : Program} {l : Launch} {e : Env} {s : State} {mt : MethodId} {args : Array Value} {below : List Frame} {meth : Method} {c : Code} {g : zG} {u : Nat × Nat} {mc ms : Nat} {t : zT} {a_0 : Nat} {a_1 : Nat} {x_2 : Int32} {x_3 : Int32} {Q : zM → Prop} {k113 : zM → Prop} (C : zC p (zRm 5 mc ms) s mt args meth c g cX2_prepare 6 yX2_prepare.cls 5) (hr : meth.sig.returnType = none) (hm : meth.name = yX2_prepare.name) (hu1 : u.1 ≤ mc) (hu2 : u.2 ≤ ms)
    (K113 : ∀ (m : zM), k113 m → zW p l e (zRm 5 mc ms) s mt args below meth c g (MQ below (zQc g (zPv t Q)) args s mc ms (zFar g)) u 6 t m 113 [(0, .ref a_0), (1, .ref a_1), (2, .int x_2), (3, .int x_3)] []) : ∀ (n : Nat) (x_4 : Int32) (m : zM), wX2_prepare_L88 t a_0 a_1 x_2 x_3 Q k113 n x_4 m → zW p l e (zRm 5 mc ms) s mt args below meth c g (MQ below (zQc g (zPv t Q)) args s mc ms (zFar g)) u 6 t m 88 [(0, .ref a_0), (1, .ref a_1), (2, .int x_2), (3, .int x_3), (4, .int x_4)] [] := by
  intro n
  induction n with
  | zero => intro x_4 m H; exact H.elim
  | succ n ih =>
    intro x_4 m H
    simp only [wX2_prepare_L88] at H
    refine z_iload (pc := 88) C (dX2_prepare 50 rfl) 4 rfl ?_
    refine z_iload_n (pc := 90) C (dX2_prepare 51 rfl) rfl 3 rfl ?_
    refine z_icmp_ge (pc := 91) (tgt := 113) C (dX2_prepare 52 rfl) (by decide) (fun c19 => ?_) (fun c19 => ?_)
    · replace H := H.1 c19
      refine z_sub [0, 1, 2, 3] rfl ?_
      exact K113 m H
    · replace H := H.2 c19
      refine z_aload_n (pc := 94) C (dX2_prepare 53 rfl) rfl 0 rfl ?_
      refine z_aload_n (pc := 95) C (dX2_prepare 54 rfl) rfl 1 rfl ?_
      refine z_iconst (pc := 96) (v := 1) C (dX2_prepare 55 rfl) (by decide) ?_
      refine z_iload_n (pc := 97) C (dX2_prepare 56 rfl) rfl 3 rfl ?_
      refine z_ishl (pc := 98) C (dX2_prepare 57 rfl) ?_
      refine z_iconst (pc := 99) (v := 1) C (dX2_prepare 58 rfl) (by decide) ?_
      refine z_iload (pc := 100) C (dX2_prepare 59 rfl) 4 rfl ?_
      refine z_ishl (pc := 102) C (dX2_prepare 60 rfl) ?_
      refine z_ior (pc := 103) C (dX2_prepare 61 rfl) ?_
      obtain ⟨h20, H⟩ := H
      refine zc_Vv (pc := 104) (rest := []) C YX2_proveBy wl_X2_53 (kX2_proveBy H) (by decide) h20 rfl (by decide) (dX2_prepare 62 rfl) rfl hu1 hu2 (Nat.le_of_ble_eq_true rfl) rfl (fun m22 H => ?_)
      refine z_iinc (pc := 107) (i := 4) (v := x_4 + 1) (lv2 := [(4, .int (x_4 + 1)), (0, .ref a_0), (1, .ref a_1), (2, .int x_2), (3, .int x_3)]) C (dX2_prepare 63 rfl) 4 rfl (by rfl) (by decide) rfl ?_
      refine z_goto (pc := 110) (tgt := 88) C (dX2_prepare 64 rfl) (by decide) ?_
      refine z_sub [1, 2, 3, 4, 0] rfl ?_
      exact ih (x_4 + 1) m22 H
def wX2_prepare_L80 (t : zT) (a_0 : Nat) (a_1 : Nat) (x_2 : Int32) (Q : zM → Prop) (k119 : zM → Prop) : Nat → Int32 → zM → Prop
  | 0, _, _ => False
  | n + 1, x_3, m => ((x_2 ≤ x_3 → (k119 m)) ∧ (¬ x_2 ≤ x_3 → (∃ n24, wX2_prepare_L88 t a_0 a_1 x_2 x_3 Q (fun m23 => (wX2_prepare_L80 t a_0 a_1 x_2 Q k119 n (x_3 + 1) m23)) n24 0 m)))
set_option maxHeartbeats 4000000 in
set_option maxRecDepth 20000 in
theorem sX2_prepare_L80 {p : Program} {l : Launch} {e : Env} {s : State} {mt : MethodId} {args : Array Value} {below : List Frame} {meth : Method} {c : Code} {g : zG} {u : Nat × Nat} {mc ms : Nat} {t : zT} {a_0 : Nat} {a_1 : Nat} {x_2 : Int32} {Q : zM → Prop} {k119 : zM → Prop} (C : zC p (zRm 5 mc ms) s mt args meth c g cX2_prepare 6 yX2_prepare.cls 5) (hr : meth.sig.returnType = none) (hm : meth.name = yX2_prepare.name) (hu1 : u.1 ≤ mc) (hu2 : u.2 ≤ ms)
    (K119 : ∀ (m : zM), k119 m → zW p l e (zRm 5 mc ms) s mt args below meth c g (MQ below (zQc g (zPv t Q)) args s mc ms (zFar g)) u 6 t m 119 [(0, .ref a_0), (1, .ref a_1), (2, .int x_2)] []) : ∀ (n : Nat) (x_3 : Int32) (m : zM), wX2_prepare_L80 t a_0 a_1 x_2 Q k119 n x_3 m → zW p l e (zRm 5 mc ms) s mt args below meth c g (MQ below (zQc g (zPv t Q)) args s mc ms (zFar g)) u 6 t m 80 [(0, .ref a_0), (1, .ref a_1), (2, .int x_2), (3, .int x_3)] [] := by
  intro n
  induction n with
  | zero => intro x_3 m H; exact H.elim
  | succ n ih =>
    intro x_3 m H
    simp only [wX2_prepare_L80] at H
    refine z_iload_n (pc := 80) C (dX2_prepare 45 rfl) rfl 3 rfl ?_
    refine z_iload_n (pc := 81) C (dX2_prepare 46 rfl) rfl 2 rfl ?_
    refine z_icmp_ge (pc := 82) (tgt := 119) C (dX2_prepare 47 rfl) (by decide) (fun c18 => ?_) (fun c18 => ?_)
    · replace H := H.1 c18
      refine z_sub [0, 1, 2] rfl ?_
      exact K119 m H
    · replace H := H.2 c18
      refine z_iconst (pc := 85) (v := 0) C (dX2_prepare 48 rfl) (by decide) ?_
      refine z_istore (pc := 86) (i := 4) (lv2 := [(4, .int 0), (0, .ref a_0), (1, .ref a_1), (2, .int x_2), (3, .int x_3)]) C (dX2_prepare 49 rfl) (by decide) rfl ?_
      obtain ⟨n24, H⟩ := H
      refine z_sub [1, 2, 3, 4, 0] rfl ?_
      refine sX2_prepare_L88 C hr hm hu1 hu2 (fun m23 H => ?_) n24 0 m H
      refine z_iinc (pc := 113) (i := 3) (v := x_3 + 1) (lv2 := [(3, .int (x_3 + 1)), (0, .ref a_0), (1, .ref a_1), (2, .int x_2)]) C (dX2_prepare 65 rfl) 3 rfl (by rfl) (by decide) rfl ?_
      refine z_goto (pc := 116) (tgt := 80) C (dX2_prepare 66 rfl) (by decide) ?_
      refine z_sub [1, 2, 3, 0] rfl ?_
      exact ih (x_3 + 1) m23 H
def wX2_prepare_L138 (t : zT) (a_0 : Nat) (a_1 : Nat) (x_2 : Int32) (x_3 : Int32) (x_4 : Int32) (Q : zM → Prop) (k169 : zM → Prop) : Nat → Int32 → zM → Prop
  | 0, _, _ => False
  | n + 1, x_5, m => ((x_4 ≤ x_5 → (k169 m)) ∧ (¬ x_4 ≤ x_5 → (tK t a_0 = 2 ∧ (wX2_proveBy t m a_0 a_1 ((((1 : Int32) <<< (x_3 &&& 31)) ||| ((1 : Int32) <<< (x_4 &&& 31))) ||| ((1 : Int32) <<< (x_5 &&& 31))) (fun m31 => (wX2_prepare_L138 t a_0 a_1 x_2 x_3 x_4 Q k169 n (x_5 + 1) m31))))))
set_option maxHeartbeats 4000000 in
set_option maxRecDepth 20000 in
theorem sX2_prepare_L138 {p : Program} {l : Launch} {e : Env} {s : State} {mt : MethodId} {args : Array Value} {below : List Frame} {meth : Method} {c : Code} {g : zG} {u : Nat × Nat} {mc ms : Nat} {t : zT} {a_0 : Nat} {a_1 : Nat} {x_2 : Int32} {x_3 : Int32} {x_4 : Int32} {Q : zM → Prop} {k169 : zM → Prop} (C : zC p (zRm 5 mc ms) s mt args meth c g cX2_prepare 6 yX2_prepare.cls 5) (hr : meth.sig.returnType = none) (hm : meth.name = yX2_prepare.name) (hu1 : u.1 ≤ mc) (hu2 : u.2 ≤ ms)
    (K169 : ∀ (m : zM), k169 m → zW p l e (zRm 5 mc ms) s mt args below meth c g (MQ below (zQc g (zPv t Q)) args s mc ms (zFar g)) u 6 t m 169 [(0, .ref a_0), (1, .ref a_1), (2, .int x_2), (3, .int x_3), (4, .int x_4)] []) : ∀ (n : Nat) (x_5 : Int32) (m : zM), wX2_prepare_L138 t a_0 a_1 x_2 x_3 x_4 Q k169 n x_5 m → zW p l e (zRm 5 mc ms) s mt args below meth c g (MQ below (zQc g (zPv t Q)) args s mc ms (zFar g)) u 6 t m 138 [(0, .ref a_0), (1, .ref a_1), (2, .int x_2), (3, .int x_3), (4, .int x_4), (5, .int x_5)] [] := by
  intro n
  induction n with
  | zero => intro x_5 m H; exact H.elim
  | succ n ih =>
    intro x_5 m H
    simp only [wX2_prepare_L138] at H
    refine z_iload (pc := 138) C (dX2_prepare 79 rfl) 5 rfl ?_
    refine z_iload (pc := 140) C (dX2_prepare 80 rfl) 4 rfl ?_
    refine z_icmp_ge (pc := 142) (tgt := 169) C (dX2_prepare 81 rfl) (by decide) (fun c28 => ?_) (fun c28 => ?_)
    · replace H := H.1 c28
      refine z_sub [0, 1, 2, 3, 4] rfl ?_
      exact K169 m H
    · replace H := H.2 c28
      refine z_aload_n (pc := 145) C (dX2_prepare 82 rfl) rfl 0 rfl ?_
      refine z_aload_n (pc := 146) C (dX2_prepare 83 rfl) rfl 1 rfl ?_
      refine z_iconst (pc := 147) (v := 1) C (dX2_prepare 84 rfl) (by decide) ?_
      refine z_iload_n (pc := 148) C (dX2_prepare 85 rfl) rfl 3 rfl ?_
      refine z_ishl (pc := 149) C (dX2_prepare 86 rfl) ?_
      refine z_iconst (pc := 150) (v := 1) C (dX2_prepare 87 rfl) (by decide) ?_
      refine z_iload (pc := 151) C (dX2_prepare 88 rfl) 4 rfl ?_
      refine z_ishl (pc := 153) C (dX2_prepare 89 rfl) ?_
      refine z_ior (pc := 154) C (dX2_prepare 90 rfl) ?_
      refine z_iconst (pc := 155) (v := 1) C (dX2_prepare 91 rfl) (by decide) ?_
      refine z_iload (pc := 156) C (dX2_prepare 92 rfl) 5 rfl ?_
      refine z_ishl (pc := 158) C (dX2_prepare 93 rfl) ?_
      refine z_ior (pc := 159) C (dX2_prepare 94 rfl) ?_
      obtain ⟨h29, H⟩ := H
      refine zc_Vv (pc := 160) (rest := []) C YX2_proveBy wl_X2_53 (kX2_proveBy H) (by decide) h29 rfl (by decide) (dX2_prepare 95 rfl) rfl hu1 hu2 (Nat.le_of_ble_eq_true rfl) rfl (fun m31 H => ?_)
      refine z_iinc (pc := 163) (i := 5) (v := x_5 + 1) (lv2 := [(5, .int (x_5 + 1)), (0, .ref a_0), (1, .ref a_1), (2, .int x_2), (3, .int x_3), (4, .int x_4)]) C (dX2_prepare 96 rfl) 5 rfl (by rfl) (by decide) rfl ?_
      refine z_goto (pc := 166) (tgt := 138) C (dX2_prepare 97 rfl) (by decide) ?_
      refine z_sub [1, 2, 3, 4, 5, 0] rfl ?_
      exact ih (x_5 + 1) m31 H
def wX2_prepare_L129 (t : zT) (a_0 : Nat) (a_1 : Nat) (x_2 : Int32) (x_3 : Int32) (Q : zM → Prop) (k175 : zM → Prop) : Nat → Int32 → zM → Prop
  | 0, _, _ => False
  | n + 1, x_4, m => ((x_3 ≤ x_4 → (k175 m)) ∧ (¬ x_3 ≤ x_4 → (∃ n33, wX2_prepare_L138 t a_0 a_1 x_2 x_3 x_4 Q (fun m32 => (wX2_prepare_L129 t a_0 a_1 x_2 x_3 Q k175 n (x_4 + 1) m32)) n33 0 m)))
set_option maxHeartbeats 4000000 in
set_option maxRecDepth 20000 in
theorem sX2_prepare_L129 {p : Program} {l : Launch} {e : Env} {s : State} {mt : MethodId} {args : Array Value} {below : List Frame} {meth : Method} {c : Code} {g : zG} {u : Nat × Nat} {mc ms : Nat} {t : zT} {a_0 : Nat} {a_1 : Nat} {x_2 : Int32} {x_3 : Int32} {Q : zM → Prop} {k175 : zM → Prop} (C : zC p (zRm 5 mc ms) s mt args meth c g cX2_prepare 6 yX2_prepare.cls 5) (hr : meth.sig.returnType = none) (hm : meth.name = yX2_prepare.name) (hu1 : u.1 ≤ mc) (hu2 : u.2 ≤ ms)
    (K175 : ∀ (m : zM), k175 m → zW p l e (zRm 5 mc ms) s mt args below meth c g (MQ below (zQc g (zPv t Q)) args s mc ms (zFar g)) u 6 t m 175 [(0, .ref a_0), (1, .ref a_1), (2, .int x_2), (3, .int x_3)] []) : ∀ (n : Nat) (x_4 : Int32) (m : zM), wX2_prepare_L129 t a_0 a_1 x_2 x_3 Q k175 n x_4 m → zW p l e (zRm 5 mc ms) s mt args below meth c g (MQ below (zQc g (zPv t Q)) args s mc ms (zFar g)) u 6 t m 129 [(0, .ref a_0), (1, .ref a_1), (2, .int x_2), (3, .int x_3), (4, .int x_4)] [] := by
  intro n
  induction n with
  | zero => intro x_4 m H; exact H.elim
  | succ n ih =>
    intro x_4 m H
    simp only [wX2_prepare_L129] at H
    refine z_iload (pc := 129) C (dX2_prepare 74 rfl) 4 rfl ?_
    refine z_iload_n (pc := 131) C (dX2_prepare 75 rfl) rfl 3 rfl ?_
    refine z_icmp_ge (pc := 132) (tgt := 175) C (dX2_prepare 76 rfl) (by decide) (fun c27 => ?_) (fun c27 => ?_)
    · replace H := H.1 c27
      refine z_sub [0, 1, 2, 3] rfl ?_
      exact K175 m H
    · replace H := H.2 c27
      refine z_iconst (pc := 135) (v := 0) C (dX2_prepare 77 rfl) (by decide) ?_
      refine z_istore (pc := 136) (i := 5) (lv2 := [(5, .int 0), (0, .ref a_0), (1, .ref a_1), (2, .int x_2), (3, .int x_3), (4, .int x_4)]) C (dX2_prepare 78 rfl) (by decide) rfl ?_
      obtain ⟨n33, H⟩ := H
      refine z_sub [1, 2, 3, 4, 5, 0] rfl ?_
      refine sX2_prepare_L138 C hr hm hu1 hu2 (fun m32 H => ?_) n33 0 m H
      refine z_iinc (pc := 169) (i := 4) (v := x_4 + 1) (lv2 := [(4, .int (x_4 + 1)), (0, .ref a_0), (1, .ref a_1), (2, .int x_2), (3, .int x_3)]) C (dX2_prepare 98 rfl) 4 rfl (by rfl) (by decide) rfl ?_
      refine z_goto (pc := 172) (tgt := 129) C (dX2_prepare 99 rfl) (by decide) ?_
      refine z_sub [1, 2, 3, 4, 0] rfl ?_
      exact ih (x_4 + 1) m32 H
def wX2_prepare_L121 (t : zT) (a_0 : Nat) (a_1 : Nat) (x_2 : Int32) (Q : zM → Prop) (k181 : zM → Prop) : Nat → Int32 → zM → Prop
  | 0, _, _ => False
  | n + 1, x_3, m => ((x_2 ≤ x_3 → (k181 m)) ∧ (¬ x_2 ≤ x_3 → (∃ n35, wX2_prepare_L129 t a_0 a_1 x_2 x_3 Q (fun m34 => (wX2_prepare_L121 t a_0 a_1 x_2 Q k181 n (x_3 + 1) m34)) n35 0 m)))
set_option maxHeartbeats 4000000 in
set_option maxRecDepth 20000 in
theorem sX2_prepare_L121 {p : Program} {l : Launch} {e : Env} {s : State} {mt : MethodId} {args : Array Value} {below : List Frame} {meth : Method} {c : Code} {g : zG} {u : Nat × Nat} {mc ms : Nat} {t : zT} {a_0 : Nat} {a_1 : Nat} {x_2 : Int32} {Q : zM → Prop} {k181 : zM → Prop} (C : zC p (zRm 5 mc ms) s mt args meth c g cX2_prepare 6 yX2_prepare.cls 5) (hr : meth.sig.returnType = none) (hm : meth.name = yX2_prepare.name) (hu1 : u.1 ≤ mc) (hu2 : u.2 ≤ ms)
    (K181 : ∀ (m : zM), k181 m → zW p l e (zRm 5 mc ms) s mt args below meth c g (MQ below (zQc g (zPv t Q)) args s mc ms (zFar g)) u 6 t m 181 [] []) : ∀ (n : Nat) (x_3 : Int32) (m : zM), wX2_prepare_L121 t a_0 a_1 x_2 Q k181 n x_3 m → zW p l e (zRm 5 mc ms) s mt args below meth c g (MQ below (zQc g (zPv t Q)) args s mc ms (zFar g)) u 6 t m 121 [(0, .ref a_0), (1, .ref a_1), (2, .int x_2), (3, .int x_3)] [] := by
  intro n
  induction n with
  | zero => intro x_3 m H; exact H.elim
  | succ n ih =>
    intro x_3 m H
    simp only [wX2_prepare_L121] at H
    refine z_iload_n (pc := 121) C (dX2_prepare 69 rfl) rfl 3 rfl ?_
    refine z_iload_n (pc := 122) C (dX2_prepare 70 rfl) rfl 2 rfl ?_
    refine z_icmp_ge (pc := 123) (tgt := 181) C (dX2_prepare 71 rfl) (by decide) (fun c26 => ?_) (fun c26 => ?_)
    · replace H := H.1 c26
      refine z_sub [] rfl ?_
      exact K181 m H
    · replace H := H.2 c26
      refine z_iconst (pc := 126) (v := 0) C (dX2_prepare 72 rfl) (by decide) ?_
      refine z_istore (pc := 127) (i := 4) (lv2 := [(4, .int 0), (0, .ref a_0), (1, .ref a_1), (2, .int x_2), (3, .int x_3)]) C (dX2_prepare 73 rfl) (by decide) rfl ?_
      obtain ⟨n35, H⟩ := H
      refine z_sub [1, 2, 3, 4, 0] rfl ?_
      refine sX2_prepare_L129 C hr hm hu1 hu2 (fun m34 H => ?_) n35 0 m H
      refine z_iinc (pc := 175) (i := 3) (v := x_3 + 1) (lv2 := [(3, .int (x_3 + 1)), (0, .ref a_0), (1, .ref a_1), (2, .int x_2)]) C (dX2_prepare 100 rfl) 3 rfl (by rfl) (by decide) rfl ?_
      refine z_goto (pc := 178) (tgt := 121) C (dX2_prepare 101 rfl) (by decide) ?_
      refine z_sub [1, 2, 3, 0] rfl ?_
      exact ih (x_3 + 1) m34 H
def wX2_prepare (t : zT) (m : zM) (a : Nat) (p1 : Nat) (Q : zM → Prop) : Prop := (tK t a = 2 ∧ (((gI m a 1) = 0 → (wJ7_fill_53178 t (pI m a 1 1) (gR m a 3) (-2) (fun m4 => (tK t p1 = 0 ∧ (tK t (gR m4 p1 0) = 8 ∧ (tK t (gR m4 (gR m4 p1 0) 0) = 5 ∧ (wX2_proveBy t (pI m4 a 2 (((1 : Int32) <<< ((gI m4 (gR m4 (gR m4 p1 0) 0) 0) &&& 31)) - (1 : Int32))) a p1 0 (fun m9 => (tK t (gR m9 p1 0) = 8 ∧ (tK t (gR m9 (gR m9 p1 0) 0) = 5 ∧ (∀ x12 : Int32, x12 = (gI m9 (gR m9 (gR m9 p1 0) 0) 14) → ((∃ n39, wX2_prepare_L59 t a p1 x12 Q (fun m17 => (∃ n38, wX2_prepare_L80 t a p1 x12 Q (fun m25 => (∃ n37, wX2_prepare_L121 t a p1 x12 Q (fun m36 => (Q m36)) n37 0 m25)) n38 0 m17)) n39 0 m9))))))))))))) ∧ (¬ (gI m a 1) = 0 → (Q m))))
set_option maxHeartbeats 4000000 in
set_option maxRecDepth 20000 in
theorem kX2_prepare {l : Launch} {t : zT} {m : zM} {a : Nat} {p1 : Nat} {Q : zM → Prop} (H : wX2_prepare t m a p1 Q) : zMet l yX2_prepare cX2_prepare 6 none 5 0 0 t m [.ref a, .ref p1] (zPv t Q) := by
  refine zmet (by decide +kernel) (Nat.le_of_ble_eq_true rfl) ?_
  intro p e s mt args below meth c g C hr hm
  unfold wX2_prepare at H
  have hu1 : ((0, 0) : Nat × Nat).1 ≤ 0 := Nat.le_refl 0
  have hu2 : ((0, 0) : Nat × Nat).2 ≤ 0 := Nat.le_refl 0
  refine z_aload_n (pc := 0) C (dX2_prepare 0 rfl) rfl 0 rfl ?_
  obtain ⟨h1, H⟩ := H
  refine z_getI (pc := 1) C zc2 h1 1 (by decide) rfl wf_X2_22 (dX2_prepare 1 rfl) ?_
  refine z_if_eq (pc := 4) (tgt := 8) C (dX2_prepare 2 rfl) (by decide) (fun c2 => ?_) (fun c2 => ?_)
  · replace H := H.1 c2
    refine z_aload_n (pc := 8) C (dX2_prepare 4 rfl) rfl 0 rfl ?_
    refine z_iconst (pc := 9) (v := 1) C (dX2_prepare 5 rfl) (by decide) ?_
    refine z_putZ (pc := 10) C zc2 h1 1 (by decide) rfl rfl wf_X2_22 (dX2_prepare 6 rfl) (by decide) ?_
    refine z_aload_n (pc := 13) C (dX2_prepare 7 rfl) rfl 0 rfl ?_
    refine z_getR (pc := 14) C zc2 h1 3 (by decide) rfl wf_X2_18 (dX2_prepare 8 rfl) ?_
    refine z_bipush (pc := 17) (v := (-2)) C (dX2_prepare 9 rfl) (by decide) ?_
    refine zc_Sv (pc := 19) (rest := []) C YJ7_fill_53178 wl_X2_26 (kJ7_fill_53178 H) (by decide) (dX2_prepare 10 rfl) rfl hu1 hu2 (Nat.le_of_ble_eq_true rfl) rfl (fun m4 H => ?_)
    refine z_aload_n (pc := 22) C (dX2_prepare 11 rfl) rfl 0 rfl ?_
    refine z_iconst (pc := 23) (v := 1) C (dX2_prepare 12 rfl) (by decide) ?_
    refine z_aload_n (pc := 24) C (dX2_prepare 13 rfl) rfl 1 rfl ?_
    obtain ⟨h5, H⟩ := H
    refine z_getR (pc := 25) C zc0 h5 0 (by decide) rfl wf_X2_32 (dX2_prepare 14 rfl) ?_
    obtain ⟨h6, H⟩ := H
    refine z_getR (pc := 28) C zc8 h6 0 (by decide) rfl wf_X2_38 (dX2_prepare 15 rfl) ?_
    obtain ⟨h7, H⟩ := H
    refine z_getI (pc := 31) C zc5 h7 0 (by decide) rfl wf_X2_44 (dX2_prepare 16 rfl) ?_
    refine z_ishl (pc := 34) C (dX2_prepare 17 rfl) ?_
    refine z_iconst (pc := 35) (v := 1) C (dX2_prepare 18 rfl) (by decide) ?_
    refine z_isub (pc := 36) C (dX2_prepare 19 rfl) ?_
    refine z_putI (pc := 37) C zc2 h1 2 (by decide) rfl rfl wf_X2_50 (dX2_prepare 20 rfl) ?_
    refine z_aload_n (pc := 40) C (dX2_prepare 21 rfl) rfl 0 rfl ?_
    refine z_aload_n (pc := 41) C (dX2_prepare 22 rfl) rfl 1 rfl ?_
    refine z_iconst (pc := 42) (v := 0) C (dX2_prepare 23 rfl) (by decide) ?_
    refine zc_Vv (pc := 43) (rest := []) C YX2_proveBy wl_X2_53 (kX2_proveBy H) (by decide) h1 rfl (by decide) (dX2_prepare 24 rfl) rfl hu1 hu2 (Nat.le_of_ble_eq_true rfl) rfl (fun m9 H => ?_)
    refine z_aload_n (pc := 46) C (dX2_prepare 25 rfl) rfl 1 rfl ?_
    refine z_getR (pc := 47) C zc0 h5 0 (by decide) rfl wf_X2_32 (dX2_prepare 26 rfl) ?_
    obtain ⟨h10, H⟩ := H
    refine z_getR (pc := 50) C zc8 h10 0 (by decide) rfl wf_X2_38 (dX2_prepare 27 rfl) ?_
    obtain ⟨h11, H⟩ := H
    refine z_getI (pc := 53) C zc5 h11 14 (by decide) rfl wf_X2_57 (dX2_prepare 28 rfl) ?_
    refine z_int (fun x12 hx12 => ?_)
    replace H := H x12 hx12
    refine z_istore_n (pc := 56) (i := 2) (lv2 := [(2, .int x12), (0, .ref a), (1, .ref p1)]) C (dX2_prepare 29 rfl) rfl (by decide) rfl ?_
    refine z_iconst (pc := 57) (v := 0) C (dX2_prepare 30 rfl) (by decide) ?_
    refine z_istore_n (pc := 58) (i := 3) (lv2 := [(3, .int 0), (2, .int x12), (0, .ref a), (1, .ref p1)]) C (dX2_prepare 31 rfl) rfl (by decide) rfl ?_
    obtain ⟨n39, H⟩ := H
    refine z_sub [2, 3, 1, 0] rfl ?_
    refine sX2_prepare_L59 C hr hm hu1 hu2 (fun m17 H => ?_) n39 0 m9 H
    refine z_iconst (pc := 78) (v := 0) C (dX2_prepare 43 rfl) (by decide) ?_
    refine z_istore_n (pc := 79) (i := 3) (lv2 := [(3, .int 0), (0, .ref a), (1, .ref p1), (2, .int x12)]) C (dX2_prepare 44 rfl) rfl (by decide) rfl ?_
    obtain ⟨n38, H⟩ := H
    refine z_sub [1, 2, 3, 0] rfl ?_
    refine sX2_prepare_L80 C hr hm hu1 hu2 (fun m25 H => ?_) n38 0 m17 H
    refine z_iconst (pc := 119) (v := 0) C (dX2_prepare 67 rfl) (by decide) ?_
    refine z_istore_n (pc := 120) (i := 3) (lv2 := [(3, .int 0), (0, .ref a), (1, .ref p1), (2, .int x12)]) C (dX2_prepare 68 rfl) rfl (by decide) rfl ?_
    obtain ⟨n37, H⟩ := H
    refine z_sub [1, 2, 3, 0] rfl ?_
    refine sX2_prepare_L121 C hr hm hu1 hu2 (fun m36 H => ?_) n37 0 m25 H
    exact z_vret (pc := 181) C hr hu1 hu2 (dX2_prepare 102 rfl) ⟨rfl, rfl, H⟩
  · replace H := H.2 c2
    exact z_vret (pc := 7) C hr hu1 hu2 (dX2_prepare 3 rfl) ⟨rfl, rfl, H⟩
def wX3_init (cap : Nat × Nat) (t : zT) (m : zM) (a : Nat) (Q : zT → zM → Prop) : Prop := (0 < a ∧ ((0 + 1 ≤ cap.1 ∧ 0 + 900 ≤ cap.2) ∧ (0 < tN t → (tK (tNew t 13 900) a = 3 ∧ ((0 + 1 + 1 ≤ cap.1 ∧ 0 + 900 + 20 ≤ cap.2) ∧ (0 < tN (tNew t 13 900) → (0 < (tN (tNew t 13 900)) ∧ (∃ k4 : Nat × Nat, (0 + 1 + 1 + k4.1 ≤ cap.1 ∧ 0 + 900 + 20 + k4.2 ≤ cap.2) ∧ wX5_init k4 (tNew (tNew t 13 900) 5 0) (zClr (pR (zClr m (tN t)) a 0 (tN t)) (tN (tNew t 13 900))) (tN (tNew t 13 900)) (fun t5 m3 => (tK t5 a = 3 ∧ ((0 + 1 + 1 + k4.1 + 1 ≤ cap.1 ∧ 0 + 900 + 20 + k4.2 + 19 ≤ cap.2) ∧ (0 < tN t5 → (tK (tNew t5 15 19) a = 3 ∧ ((0 + 1 + 1 + k4.1 + 1 + 1 ≤ cap.1 ∧ 0 + 900 + 20 + k4.2 + 19 + 19 ≤ cap.2) ∧ (0 < tN (tNew t5 15 19) → (tK (tNew (tNew t5 15 19) 14 19) a = 3 ∧ ((0 + 1 + 1 + k4.1 + 1 + 1 + 1 ≤ cap.1 ∧ 0 + 900 + 20 + k4.2 + 19 + 19 + 19 ≤ cap.2) ∧ (0 < tN (tNew (tNew t5 15 19) 14 19) → (tK (tNew (tNew (tNew t5 15 19) 14 19) 14 19) a = 3 ∧ (Q (tNew (tNew (tNew t5 15 19) 14 19) 14 19) (pR (zClr (pR (zClr (pR (zClr (pR m3 a 4 (tN (tNew t 13 900))) (tN t5)) a 12 (tN t5)) (tN (tNew t5 15 19))) a 13 (tN (tNew t5 15 19))) (tN (tNew (tNew t5 15 19) 14 19))) a 14 (tN (tNew (tNew t5 15 19) 14 19)))))))))))))))))))))))
set_option maxHeartbeats 4000000 in
set_option maxRecDepth 20000 in
theorem kX3_init {l : Launch} {cap : Nat × Nat} {t : zT} {m : zM} {a : Nat} {Q : zT → zM → Prop} (H : wX3_init cap t m a Q) : zMet l yX3_init cX3_init 1 none 2 cap.1 cap.2 t m [.ref a] (zAw Q) := by
  refine zmet (by decide +kernel) (Nat.le_of_ble_eq_true rfl) ?_
  intro p e s mt args below meth c g C hr hm
  unfold wX3_init at H
  obtain ⟨mc, ms⟩ := cap
  refine z_aload_n (pc := 0) C (dX3_init 0 rfl) rfl 0 rfl ?_
  obtain ⟨h22, H⟩ := H
  refine z_objInit (pc := 1) C h22 wl_X3_3 woi woc (by decide) (Nat.le_of_ble_eq_true rfl) (dX3_init 1 rfl) ?_
  refine z_aload_n (pc := 4) C (dX3_init 2 rfl) rfl 0 rfl ?_
  refine z_sipush (pc := 5) (v := 900) C (dX3_init 3 rfl) (by decide) ?_
  obtain ⟨h20, H⟩ := H
  refine z_newaB (pc := 8) (N := 900) C (by decide) (by decide) (by decide) wa_byte (dX3_init 4 rfl) h20.1 h20.2 (fun h21 => ?_)
  replace H := H h21
  obtain ⟨h1, H⟩ := H
  refine z_putRF (pc := 10) C zc3 h1 0 (by decide) rfl rfl hm rfl wf_X3_9 (dX3_init 5 rfl) ?_
  refine z_aload_n (pc := 13) C (dX3_init 6 rfl) rfl 0 rfl ?_
  obtain ⟨h18, H⟩ := H
  refine z_new (pc := 14) C zc5 wc_X3_15 wt_X5 wi_X5 (dX3_init 7 rfl) h18.1 h18.2 (fun h19 => ?_)
  replace H := H h19
  refine z_dup (pc := 17) C (dX3_init 8 rfl) rfl ?_
  obtain ⟨h17, H⟩ := H
  obtain ⟨k4, h16, H⟩ := H
  refine za_IvN (pc := 18) (rest := [.ref (tN (tNew t 13 900)), .ref a]) C YX5_init wm_X3_17 h17 (kX5_init H) (by decide) (dX3_init 9 rfl) rfl (by first | exact h16.1 | (have := h16.1; omega)) (by first | exact h16.2 | (have := h16.2; omega)) (Nat.le_of_ble_eq_true rfl) rfl (fun t5 m3 H => ?_)
  obtain ⟨h6, H⟩ := H
  refine z_putR (pc := 21) C zc3 h6 4 (by decide) rfl rfl wf_X3_18 (dX3_init 10 rfl) ?_
  refine z_aload_n (pc := 24) C (dX3_init 11 rfl) rfl 0 rfl ?_
  refine z_bipush (pc := 25) (v := 19) C (dX3_init 12 rfl) (by decide) ?_
  obtain ⟨h14, H⟩ := H
  refine z_newaJ (pc := 27) (N := 19) C (by decide) (by decide) (by decide) wa_long (dX3_init 13 rfl) h14.1 h14.2 (fun h15 => ?_)
  replace H := H h15
  obtain ⟨h7, H⟩ := H
  refine z_putRF (pc := 29) C zc3 h7 12 (by decide) rfl rfl hm rfl wf_X3_22 (dX3_init 14 rfl) ?_
  refine z_aload_n (pc := 32) C (dX3_init 15 rfl) rfl 0 rfl ?_
  refine z_bipush (pc := 33) (v := 19) C (dX3_init 16 rfl) (by decide) ?_
  obtain ⟨h12, H⟩ := H
  refine z_newaI (pc := 35) (N := 19) C (by decide) (by decide) (by decide) wa_int (dX3_init 17 rfl) h12.1 h12.2 (fun h13 => ?_)
  replace H := H h13
  obtain ⟨h8, H⟩ := H
  refine z_putRF (pc := 37) C zc3 h8 13 (by decide) rfl rfl hm rfl wf_X3_26 (dX3_init 18 rfl) ?_
  refine z_aload_n (pc := 40) C (dX3_init 19 rfl) rfl 0 rfl ?_
  refine z_bipush (pc := 41) (v := 19) C (dX3_init 20 rfl) (by decide) ?_
  obtain ⟨h10, H⟩ := H
  refine z_newaI (pc := 43) (N := 19) C (by decide) (by decide) (by decide) wa_int (dX3_init 21 rfl) h10.1 h10.2 (fun h11 => ?_)
  replace H := H h11
  obtain ⟨h9, H⟩ := H
  refine z_putRF (pc := 45) C zc3 h9 14 (by decide) rfl rfl hm rfl wf_X3_30 (dX3_init 22 rfl) ?_
  exact z_vret (pc := 48) C hr (by first | omega | (show _ ≤ mc; omega)) (by first | omega | (show _ ≤ ms; omega)) (dX3_init 23 rfl) ⟨rfl, H⟩
def wX3_put_L3 (t : zT) (a_0 : Nat) (x_1 : Int32) (Q : zM → Prop) (k46 : zM → Prop) : Nat → Int32 → zM → Prop
  | 0, _, _ => False
  | n + 1, x_2, m => ((x_2 < 0 → (k46 m)) ∧ (¬ x_2 < 0 → (tK t a_0 = 3 ∧ (((900 : Int32) ≤ (gI m a_0 1) → (k46 m)) ∧ (¬ (900 : Int32) ≤ (gI m a_0 1) → (tK t (gR m a_0 0) = 13 ∧ (vp_in (gI m a_0 1) (tL t (gR m a_0 0)) ∧ (wX3_put_L3 t a_0 x_1 Q k46 n (x_2 + (-8)) (pI (pI m (gR m a_0 0) ((gI m a_0 1).toNatClampNeg) (((x_1 >>> (x_2 &&& 31)).toInt8.toInt32).toInt8.toInt32)) a_0 1 ((gI (pI m (gR m a_0 0) ((gI m a_0 1).toNatClampNeg) (((x_1 >>> (x_2 &&& 31)).toInt8.toInt32).toInt8.toInt32)) a_0 1) + (1 : Int32)))))))))))
set_option maxHeartbeats 4000000 in
set_option maxRecDepth 20000 in
theorem sX3_put_L3 {p : Program} {l : Launch} {e : Env} {s : State} {mt : MethodId} {args : Array Value} {below : List Frame} {meth : Method} {c : Code} {g : zG} {u : Nat × Nat} {mc ms : Nat} {t : zT} {a_0 : Nat} {x_1 : Int32} {Q : zM → Prop} {k46 : zM → Prop} (C : zC p (zRm 0 mc ms) s mt args meth c g cX3_put 3 yX3_put.cls 0) (hr : meth.sig.returnType = none) (hm : meth.name = yX3_put.name) (hu1 : u.1 ≤ mc) (hu2 : u.2 ≤ ms)
    (K46 : ∀ (m : zM), k46 m → zW p l e (zRm 0 mc ms) s mt args below meth c g (MQ below (zQc g (zPv t Q)) args s mc ms (zFar g)) u 3 t m 46 [] []) : ∀ (n : Nat) (x_2 : Int32) (m : zM), wX3_put_L3 t a_0 x_1 Q k46 n x_2 m → zW p l e (zRm 0 mc ms) s mt args below meth c g (MQ below (zQc g (zPv t Q)) args s mc ms (zFar g)) u 3 t m 3 [(0, .ref a_0), (1, .int x_1), (2, .int x_2)] [] := by
  intro n
  induction n with
  | zero => intro x_2 m H; exact H.elim
  | succ n ih =>
    intro x_2 m H
    simp only [wX3_put_L3] at H
    refine z_iload_n (pc := 3) C (dX3_put 2 rfl) rfl 2 rfl ?_
    refine z_if_lt (pc := 4) (tgt := 46) C (dX3_put 3 rfl) (by decide) (fun c1 => ?_) (fun c1 => ?_)
    · replace H := H.1 c1
      refine z_sub [] rfl ?_
      exact K46 m H
    · replace H := H.2 c1
      refine z_aload_n (pc := 7) C (dX3_put 4 rfl) rfl 0 rfl ?_
      obtain ⟨h2, H⟩ := H
      refine z_getI (pc := 8) C zc3 h2 1 (by decide) rfl wf_X3_33 (dX3_put 5 rfl) ?_
      refine z_sipush (pc := 11) (v := 900) C (dX3_put 6 rfl) (by decide) ?_
      refine z_icmp_ge (pc := 14) (tgt := 46) C (dX3_put 7 rfl) (by decide) (fun c3 => ?_) (fun c3 => ?_)
      · replace H := H.1 c3
        refine z_sub [] rfl ?_
        exact K46 m H
      · replace H := H.2 c3
        refine z_aload_n (pc := 17) C (dX3_put 8 rfl) rfl 0 rfl ?_
        refine z_getR (pc := 18) C zc3 h2 0 (by decide) rfl wf_X3_9 (dX3_put 9 rfl) ?_
        refine z_aload_n (pc := 21) C (dX3_put 10 rfl) rfl 0 rfl ?_
        refine z_getI (pc := 22) C zc3 h2 1 (by decide) rfl wf_X3_33 (dX3_put 11 rfl) ?_
        refine z_iload_n (pc := 25) C (dX3_put 12 rfl) rfl 1 rfl ?_
        refine z_iload_n (pc := 26) C (dX3_put 13 rfl) rfl 2 rfl ?_
        refine z_ishr (pc := 27) C (dX3_put 14 rfl) ?_
        refine z_i2b (pc := 28) C (dX3_put 15 rfl) ?_
        obtain ⟨h4, H⟩ := H
        obtain ⟨h5, H⟩ := H
        refine z_bastore (pc := 29) C h4 h5 (dX3_put 16 rfl) ?_
        refine z_aload_n (pc := 30) C (dX3_put 17 rfl) rfl 0 rfl ?_
        refine z_dup (pc := 31) C (dX3_put 18 rfl) rfl ?_
        refine z_getI (pc := 32) C zc3 h2 1 (by decide) rfl wf_X3_33 (dX3_put 19 rfl) ?_
        refine z_iconst (pc := 35) (v := 1) C (dX3_put 20 rfl) (by decide) ?_
        refine z_iadd (pc := 36) C (dX3_put 21 rfl) ?_
        refine z_putI (pc := 37) C zc3 h2 1 (by decide) rfl rfl wf_X3_33 (dX3_put 22 rfl) ?_
        refine z_iinc (pc := 40) (i := 2) (v := x_2 + (-8)) (lv2 := [(2, .int (x_2 + (-8))), (0, .ref a_0), (1, .int x_1)]) C (dX3_put 23 rfl) 2 rfl (by rfl) (by decide) rfl ?_
        refine z_goto (pc := 43) (tgt := 3) C (dX3_put 24 rfl) (by decide) ?_
        refine z_sub [1, 2, 0] rfl ?_
        exact ih (x_2 + (-8)) (pI (pI m (gR m a_0 0) ((gI m a_0 1).toNatClampNeg) (((x_1 >>> (x_2 &&& 31)).toInt8.toInt32).toInt8.toInt32)) a_0 1 ((gI (pI m (gR m a_0 0) ((gI m a_0 1).toNatClampNeg) (((x_1 >>> (x_2 &&& 31)).toInt8.toInt32).toInt8.toInt32)) a_0 1) + (1 : Int32))) H
def wX3_put (t : zT) (m : zM) (a : Nat) (p1 : Int32) (Q : zM → Prop) : Prop := (∃ n7, wX3_put_L3 t a p1 Q (fun m6 => (Q m6)) n7 24 m)
set_option maxHeartbeats 4000000 in
set_option maxRecDepth 20000 in
theorem kX3_put {l : Launch} {t : zT} {m : zM} {a : Nat} {p1 : Int32} {Q : zM → Prop} (H : wX3_put t m a p1 Q) : zMet l yX3_put cX3_put 3 none 0 0 0 t m [.ref a, .int p1] (zPv t Q) := by
  refine zmet (by decide +kernel) (Nat.le_of_ble_eq_true rfl) ?_
  intro p e s mt args below meth c g C hr hm
  unfold wX3_put at H
  have hu1 : ((0, 0) : Nat × Nat).1 ≤ 0 := Nat.le_refl 0
  have hu2 : ((0, 0) : Nat × Nat).2 ≤ 0 := Nat.le_refl 0
  refine z_bipush (pc := 0) (v := 24) C (dX3_put 0 rfl) (by decide) ?_
  refine z_istore_n (pc := 2) (i := 2) (lv2 := [(2, .int 24), (0, .ref a), (1, .int p1)]) C (dX3_put 1 rfl) rfl (by decide) rfl ?_
  obtain ⟨n7, H⟩ := H
  refine z_sub [1, 2, 0] rfl ?_
  refine sX3_put_L3 C hr hm hu1 hu2 (fun m6 H => ?_) n7 24 m H
  exact z_vret (pc := 46) C hr hu1 hu2 (dX3_put 25 rfl) ⟨rfl, rfl, H⟩
def wX5_clear (t : zT) (m : zM) (a : Nat) (Q : zM → Prop) : Prop := (tK t a = 5 ∧ (wJ7_fill_53178 t (pI (pI m a 0 0) a 2 1) (gR m a 3) 0 (fun m3 => (Q (pI (pI (pI (pI (pI (pI (pI m3 a 4 0) a 5 0) a 10 0) a 12 0) a 13 (-2)) a 14 0) a 18 0)))))
set_option maxHeartbeats 4000000 in
set_option maxRecDepth 20000 in
theorem kX5_clear {l : Launch} {t : zT} {m : zM} {a : Nat} {Q : zM → Prop} (H : wX5_clear t m a Q) : zMet l yX5_clear cX5_clear 1 none 1 0 0 t m [.ref a] (zPv t Q) := by
  refine zmet (by decide +kernel) (Nat.le_of_ble_eq_true rfl) ?_
  intro p e s mt args below meth c g C hr hm
  unfold wX5_clear at H
  have hu1 : ((0, 0) : Nat × Nat).1 ≤ 0 := Nat.le_refl 0
  have hu2 : ((0, 0) : Nat × Nat).2 ≤ 0 := Nat.le_refl 0
  refine z_aload_n (pc := 0) C (dX5_clear 0 rfl) rfl 0 rfl ?_
  refine z_iconst (pc := 1) (v := 0) C (dX5_clear 1 rfl) (by decide) ?_
  obtain ⟨h1, H⟩ := H
  refine z_putI (pc := 2) C zc5 h1 0 (by decide) rfl rfl wf_X5_45 (dX5_clear 2 rfl) ?_
  refine z_aload_n (pc := 5) C (dX5_clear 3 rfl) rfl 0 rfl ?_
  refine z_iconst (pc := 6) (v := 1) C (dX5_clear 4 rfl) (by decide) ?_
  refine z_putI (pc := 7) C zc5 h1 2 (by decide) rfl rfl wf_X5_49 (dX5_clear 5 rfl) ?_
  refine z_aload_n (pc := 10) C (dX5_clear 6 rfl) rfl 0 rfl ?_
  refine z_getR (pc := 11) C zc5 h1 3 (by decide) rfl wf_X5_15 (dX5_clear 7 rfl) ?_
  refine z_iconst (pc := 14) (v := 0) C (dX5_clear 8 rfl) (by decide) ?_
  refine zc_Sv (pc := 15) (rest := []) C YJ7_fill_53178 wl_X5_52 (kJ7_fill_53178 H) (by decide) (dX5_clear 9 rfl) rfl hu1 hu2 (Nat.le_of_ble_eq_true rfl) rfl (fun m3 H => ?_)
  refine z_aload_n (pc := 18) C (dX5_clear 10 rfl) rfl 0 rfl ?_
  refine z_iconst (pc := 19) (v := 0) C (dX5_clear 11 rfl) (by decide) ?_
  refine z_putI (pc := 20) C zc5 h1 4 (by decide) rfl rfl wf_X5_58 (dX5_clear 12 rfl) ?_
  refine z_aload_n (pc := 23) C (dX5_clear 13 rfl) rfl 0 rfl ?_
  refine z_iconst (pc := 24) (v := 0) C (dX5_clear 14 rfl) (by decide) ?_
  refine z_putI (pc := 25) C zc5 h1 5 (by decide) rfl rfl wf_X5_61 (dX5_clear 15 rfl) ?_
  refine z_aload_n (pc := 28) C (dX5_clear 16 rfl) rfl 0 rfl ?_
  refine z_iconst (pc := 29) (v := 0) C (dX5_clear 17 rfl) (by decide) ?_
  refine z_putI (pc := 30) C zc5 h1 10 (by decide) rfl rfl wf_X5_64 (dX5_clear 18 rfl) ?_
  refine z_aload_n (pc := 33) C (dX5_clear 19 rfl) rfl 0 rfl ?_
  refine z_iconst (pc := 34) (v := 0) C (dX5_clear 20 rfl) (by decide) ?_
  refine z_putI (pc := 35) C zc5 h1 12 (by decide) rfl rfl wf_X5_67 (dX5_clear 21 rfl) ?_
  refine z_aload_n (pc := 38) C (dX5_clear 22 rfl) rfl 0 rfl ?_
  refine z_bipush (pc := 39) (v := (-2)) C (dX5_clear 23 rfl) (by decide) ?_
  refine z_putI (pc := 41) C zc5 h1 13 (by decide) rfl rfl wf_X5_70 (dX5_clear 24 rfl) ?_
  refine z_aload_n (pc := 44) C (dX5_clear 25 rfl) rfl 0 rfl ?_
  refine z_iconst (pc := 45) (v := 0) C (dX5_clear 26 rfl) (by decide) ?_
  refine z_putI (pc := 46) C zc5 h1 14 (by decide) rfl rfl wf_X5_73 (dX5_clear 27 rfl) ?_
  refine z_aload_n (pc := 49) C (dX5_clear 28 rfl) rfl 0 rfl ?_
  refine z_iconst (pc := 50) (v := 0) C (dX5_clear 29 rfl) (by decide) ?_
  refine z_putI (pc := 51) C zc5 h1 18 (by decide) rfl rfl wf_X5_76 (dX5_clear 30 rfl) ?_
  exact z_vret (pc := 54) C hr hu1 hu2 (dX5_clear 31 rfl) ⟨rfl, rfl, H⟩
def wX3_nextWord_L5 (t : zT) (a_0 : Nat) (Q : zM → Prop) (k79 : zM → Prop) : Nat → zM → Prop
  | 0, _ => False
  | n + 1, m => (tK t a_0 = 3 ∧ (((gI m a_0 2) ≤ (gI m a_0 3) → (k79 m)) ∧ (¬ (gI m a_0 2) ≤ (gI m a_0 3) → (tK t (gR m a_0 0) = 13 ∧ (vp_in (gI m a_0 3) (tL t (gR m a_0 0)) ∧ (((gI m (gR m a_0 0) ((gI m a_0 3).toNatClampNeg)) < 97 → (k79 m)) ∧ (¬ (gI m (gR m a_0 0) ((gI m a_0 3).toNatClampNeg)) < 97 → (((122 : Int32) < (gI m (gR m a_0 0) ((gI m a_0 3).toNatClampNeg)) → (k79 m)) ∧ (¬ (122 : Int32) < (gI m (gR m a_0 0) ((gI m a_0 3).toNatClampNeg)) → (wX3_nextWord_L5 t a_0 Q k79 n (pI (pJ m a_0 7 (((gJ m a_0 7) <<< ((8 : Int32).toInt64 &&& 63)) ||| ((gI m (gR m a_0 0) ((gI m a_0 3).toNatClampNeg)).toInt64))) a_0 3 ((gI m a_0 3) + (1 : Int32)))))))))))))
set_option maxHeartbeats 4000000 in
set_option maxRecDepth 20000 in
theorem sX3_nextWord_L5 {p : Program} {l : Launch} {e : Env} {s : State} {mt : MethodId} {args : Array Value} {below : List Frame} {meth : Method} {c : Code} {g : zG} {u : Nat × Nat} {mc ms : Nat} {t : zT} {a_0 : Nat} {Q : zM → Prop} {k79 : zM → Prop} (C : zC p (zRm 0 mc ms) s mt args meth c g cX3_nextWord 1 yX3_nextWord.cls 0) (hr : meth.sig.returnType = none) (hm : meth.name = yX3_nextWord.name) (hu1 : u.1 ≤ mc) (hu2 : u.2 ≤ ms)
    (K79 : ∀ (m : zM), k79 m → zW p l e (zRm 0 mc ms) s mt args below meth c g (MQ below (zQc g (zPv t Q)) args s mc ms (zFar g)) u 1 t m 79 [(0, .ref a_0)] []) : ∀ (n : Nat) (m : zM), wX3_nextWord_L5 t a_0 Q k79 n m → zW p l e (zRm 0 mc ms) s mt args below meth c g (MQ below (zQc g (zPv t Q)) args s mc ms (zFar g)) u 1 t m 5 [(0, .ref a_0)] [] := by
  intro n
  induction n with
  | zero => intro m H; exact H.elim
  | succ n ih =>
    intro m H
    simp only [wX3_nextWord_L5] at H
    refine z_aload_n (pc := 5) C (dX3_nextWord 3 rfl) rfl 0 rfl ?_
    obtain ⟨h2, H⟩ := H
    refine z_getI (pc := 6) C zc3 h2 3 (by decide) rfl wf_X3_46 (dX3_nextWord 4 rfl) ?_
    refine z_aload_n (pc := 9) C (dX3_nextWord 5 rfl) rfl 0 rfl ?_
    refine z_getI (pc := 10) C zc3 h2 2 (by decide) rfl wf_X3_43 (dX3_nextWord 6 rfl) ?_
    refine z_icmp_ge (pc := 13) (tgt := 79) C (dX3_nextWord 7 rfl) (by decide) (fun c3 => ?_) (fun c3 => ?_)
    · replace H := H.1 c3
      refine z_sub [0] rfl ?_
      exact K79 m H
    · replace H := H.2 c3
      refine z_aload_n (pc := 16) C (dX3_nextWord 8 rfl) rfl 0 rfl ?_
      refine z_getR (pc := 17) C zc3 h2 0 (by decide) rfl wf_X3_9 (dX3_nextWord 9 rfl) ?_
      refine z_aload_n (pc := 20) C (dX3_nextWord 10 rfl) rfl 0 rfl ?_
      refine z_getI (pc := 21) C zc3 h2 3 (by decide) rfl wf_X3_46 (dX3_nextWord 11 rfl) ?_
      obtain ⟨h4, H⟩ := H
      obtain ⟨h5, H⟩ := H
      refine z_baload (pc := 24) C h4 h5 (dX3_nextWord 12 rfl) ?_
      refine z_bipush (pc := 25) (v := 97) C (dX3_nextWord 13 rfl) (by decide) ?_
      refine z_icmp_lt (pc := 27) (tgt := 79) C (dX3_nextWord 14 rfl) (by decide) (fun c6 => ?_) (fun c6 => ?_)
      · replace H := H.1 c6
        refine z_sub [0] rfl ?_
        exact K79 m H
      · replace H := H.2 c6
        refine z_aload_n (pc := 30) C (dX3_nextWord 15 rfl) rfl 0 rfl ?_
        refine z_getR (pc := 31) C zc3 h2 0 (by decide) rfl wf_X3_9 (dX3_nextWord 16 rfl) ?_
        refine z_aload_n (pc := 34) C (dX3_nextWord 17 rfl) rfl 0 rfl ?_
        refine z_getI (pc := 35) C zc3 h2 3 (by decide) rfl wf_X3_46 (dX3_nextWord 18 rfl) ?_
        refine z_baload (pc := 38) C h4 h5 (dX3_nextWord 19 rfl) ?_
        refine z_bipush (pc := 39) (v := 122) C (dX3_nextWord 20 rfl) (by decide) ?_
        refine z_icmp_gt (pc := 41) (tgt := 79) C (dX3_nextWord 21 rfl) (by decide) (fun c7 => ?_) (fun c7 => ?_)
        · replace H := H.1 c7
          refine z_sub [0] rfl ?_
          exact K79 m H
        · replace H := H.2 c7
          refine z_aload_n (pc := 44) C (dX3_nextWord 22 rfl) rfl 0 rfl ?_
          refine z_aload_n (pc := 45) C (dX3_nextWord 23 rfl) rfl 0 rfl ?_
          refine z_getJ (pc := 46) C zc3 h2 7 (by decide) rfl wf_X3_229 (dX3_nextWord 24 rfl) ?_
          refine z_bipush (pc := 49) (v := 8) C (dX3_nextWord 25 rfl) (by decide) ?_
          refine z_lshl (pc := 51) C (dX3_nextWord 26 rfl) ?_
          refine z_aload_n (pc := 52) C (dX3_nextWord 27 rfl) rfl 0 rfl ?_
          refine z_getR (pc := 53) C zc3 h2 0 (by decide) rfl wf_X3_9 (dX3_nextWord 28 rfl) ?_
          refine z_aload_n (pc := 56) C (dX3_nextWord 29 rfl) rfl 0 rfl ?_
          refine z_getI (pc := 57) C zc3 h2 3 (by decide) rfl wf_X3_46 (dX3_nextWord 30 rfl) ?_
          refine z_baload (pc := 60) C h4 h5 (dX3_nextWord 31 rfl) ?_
          refine z_i2l (pc := 61) C (dX3_nextWord 32 rfl) ?_
          refine z_lor (pc := 62) C (dX3_nextWord 33 rfl) ?_
          refine z_putJ (pc := 63) C zc3 h2 7 (by decide) rfl rfl wf_X3_229 (dX3_nextWord 34 rfl) ?_
          refine z_aload_n (pc := 66) C (dX3_nextWord 35 rfl) rfl 0 rfl ?_
          refine z_dup (pc := 67) C (dX3_nextWord 36 rfl) rfl ?_
          refine z_getI (pc := 68) C zc3 h2 3 (by decide) rfl wf_X3_46 (dX3_nextWord 37 rfl) ?_
          refine z_iconst (pc := 71) (v := 1) C (dX3_nextWord 38 rfl) (by decide) ?_
          refine z_iadd (pc := 72) C (dX3_nextWord 39 rfl) ?_
          refine z_putI (pc := 73) C zc3 h2 3 (by decide) rfl rfl wf_X3_46 (dX3_nextWord 40 rfl) ?_
          refine z_goto (pc := 76) (tgt := 5) C (dX3_nextWord 41 rfl) (by decide) ?_
          refine z_sub [0] rfl ?_
          exact ih (pI (pJ m a_0 7 (((gJ m a_0 7) <<< ((8 : Int32).toInt64 &&& 63)) ||| ((gI m (gR m a_0 0) ((gI m a_0 3).toNatClampNeg)).toInt64))) a_0 3 ((gI m a_0 3) + (1 : Int32))) H
def wX3_nextWord_J79 (t : zT) (m : zM) (a_0 : Nat) (Q : zM → Prop) : Prop := (tK t a_0 = 3 ∧ (((8 : Int32) < ((gI m a_0 3) - (gI m a_0 5)) → (Q (pI m a_0 6 5))) ∧ (¬ (8 : Int32) < ((gI m a_0 3) - (gI m a_0 5)) → (Q (pI m a_0 6 1)))))
set_option maxHeartbeats 4000000 in
set_option maxRecDepth 20000 in
theorem sX3_nextWord_J79 {p : Program} {l : Launch} {e : Env} {s : State} {mt : MethodId} {args : Array Value} {below : List Frame} {meth : Method} {c : Code} {g : zG} {u : Nat × Nat} {mc ms : Nat} {t : zT} {m : zM} {a_0 : Nat} {Q : zM → Prop} (C : zC p (zRm 0 mc ms) s mt args meth c g cX3_nextWord 1 yX3_nextWord.cls 0) (hr : meth.sig.returnType = none) (hm : meth.name = yX3_nextWord.name) (hu1 : u.1 ≤ mc) (hu2 : u.2 ≤ ms) (H : wX3_nextWord_J79 t m a_0 Q) : zW p l e (zRm 0 mc ms) s mt args below meth c g (MQ below (zQc g (zPv t Q)) args s mc ms (zFar g)) u 1 t m 79 [(0, .ref a_0)] [] := by
  unfold wX3_nextWord_J79 at H
  refine z_aload_n (pc := 79) C (dX3_nextWord 42 rfl) rfl 0 rfl ?_
  refine z_aload_n (pc := 80) C (dX3_nextWord 43 rfl) rfl 0 rfl ?_
  obtain ⟨h9, H⟩ := H
  refine z_getI (pc := 81) C zc3 h9 3 (by decide) rfl wf_X3_46 (dX3_nextWord 44 rfl) ?_
  refine z_aload_n (pc := 84) C (dX3_nextWord 45 rfl) rfl 0 rfl ?_
  refine z_getI (pc := 85) C zc3 h9 5 (by decide) rfl wf_X3_233 (dX3_nextWord 46 rfl) ?_
  refine z_isub (pc := 88) C (dX3_nextWord 47 rfl) ?_
  refine z_bipush (pc := 89) (v := 8) C (dX3_nextWord 48 rfl) (by decide) ?_
  refine z_icmp_gt (pc := 91) (tgt := 98) C (dX3_nextWord 49 rfl) (by decide) (fun c10 => ?_) (fun c10 => ?_)
  · replace H := H.1 c10
    refine z_iconst (pc := 98) (v := 5) C (dX3_nextWord 52 rfl) (by decide) ?_
    refine z_putI (pc := 99) C zc3 h9 6 (by decide) rfl rfl wf_X3_65 (dX3_nextWord 53 rfl) ?_
    exact z_vret (pc := 102) C hr hu1 hu2 (dX3_nextWord 54 rfl) ⟨rfl, rfl, H⟩
  · replace H := H.2 c10
    refine z_iconst (pc := 94) (v := 1) C (dX3_nextWord 50 rfl) (by decide) ?_
    refine z_goto (pc := 95) (tgt := 99) C (dX3_nextWord 51 rfl) (by decide) ?_
    refine z_putI (pc := 99) C zc3 h9 6 (by decide) rfl rfl wf_X3_65 (dX3_nextWord 53 rfl) ?_
    exact z_vret (pc := 102) C hr hu1 hu2 (dX3_nextWord 54 rfl) ⟨rfl, rfl, H⟩
def wX3_nextWord (t : zT) (m : zM) (a : Nat) (Q : zM → Prop) : Prop := (tK t a = 3 ∧ (∃ n11, wX3_nextWord_L5 t a Q (fun m8 => (wX3_nextWord_J79 t m8 a Q)) n11 (pJ m a 7 0)))
set_option maxHeartbeats 4000000 in
set_option maxRecDepth 20000 in
theorem kX3_nextWord {l : Launch} {t : zT} {m : zM} {a : Nat} {Q : zM → Prop} (H : wX3_nextWord t m a Q) : zMet l yX3_nextWord cX3_nextWord 1 none 0 0 0 t m [.ref a] (zPv t Q) := by
  refine zmet (by decide +kernel) (Nat.le_of_ble_eq_true rfl) ?_
  intro p e s mt args below meth c g C hr hm
  unfold wX3_nextWord at H
  have hu1 : ((0, 0) : Nat × Nat).1 ≤ 0 := Nat.le_refl 0
  have hu2 : ((0, 0) : Nat × Nat).2 ≤ 0 := Nat.le_refl 0
  refine z_aload_n (pc := 0) C (dX3_nextWord 0 rfl) rfl 0 rfl ?_
  refine z_lconst (pc := 1) (v := 0) C (dX3_nextWord 1 rfl) (by decide) ?_
  obtain ⟨h1, H⟩ := H
  refine z_putJ (pc := 2) C zc3 h1 7 (by decide) rfl rfl wf_X3_229 (dX3_nextWord 2 rfl) ?_
  obtain ⟨n11, H⟩ := H
  refine z_sub [0] rfl ?_
  refine sX3_nextWord_L5 C hr hm hu1 hu2 (fun m8 H => ?_) n11 (pJ m a 7 0) H
  refine z_sub [0] rfl ?_
  exact sX3_nextWord_J79 C hr hm hu1 hu2 H
def wX3_nextWhole_L5 (t : zT) (a_0 : Nat) (Q : zM → Prop) (k81 : zM → Prop) : Nat → zM → Prop
  | 0, _ => False
  | n + 1, m => (tK t a_0 = 3 ∧ (((gI m a_0 2) ≤ (gI m a_0 3) → (k81 m)) ∧ (¬ (gI m a_0 2) ≤ (gI m a_0 3) → (tK t (gR m a_0 0) = 13 ∧ (vp_in (gI m a_0 3) (tL t (gR m a_0 0)) ∧ (((gI m (gR m a_0 0) ((gI m a_0 3).toNatClampNeg)) < 48 → (k81 m)) ∧ (¬ (gI m (gR m a_0 0) ((gI m a_0 3).toNatClampNeg)) < 48 → (((57 : Int32) < (gI m (gR m a_0 0) ((gI m a_0 3).toNatClampNeg)) → (k81 m)) ∧ (¬ (57 : Int32) < (gI m (gR m a_0 0) ((gI m a_0 3).toNatClampNeg)) → (wX3_nextWhole_L5 t a_0 Q k81 n (pI (pI m a_0 8 ((((gI m a_0 8) * (10 : Int32)) + (gI m (gR m a_0 0) ((gI m a_0 3).toNatClampNeg))) - (48 : Int32))) a_0 3 ((gI (pI m a_0 8 ((((gI m a_0 8) * (10 : Int32)) + (gI m (gR m a_0 0) ((gI m a_0 3).toNatClampNeg))) - (48 : Int32))) a_0 3) + (1 : Int32)))))))))))))
set_option maxHeartbeats 4000000 in
set_option maxRecDepth 20000 in
theorem sX3_nextWhole_L5 {p : Program} {l : Launch} {e : Env} {s : State} {mt : MethodId} {args : Array Value} {below : List Frame} {meth : Method} {c : Code} {g : zG} {u : Nat × Nat} {mc ms : Nat} {t : zT} {a_0 : Nat} {Q : zM → Prop} {k81 : zM → Prop} (C : zC p (zRm 0 mc ms) s mt args meth c g cX3_nextWhole 1 yX3_nextWhole.cls 0) (hr : meth.sig.returnType = none) (hm : meth.name = yX3_nextWhole.name) (hu1 : u.1 ≤ mc) (hu2 : u.2 ≤ ms)
    (K81 : ∀ (m : zM), k81 m → zW p l e (zRm 0 mc ms) s mt args below meth c g (MQ below (zQc g (zPv t Q)) args s mc ms (zFar g)) u 1 t m 81 [(0, .ref a_0)] []) : ∀ (n : Nat) (m : zM), wX3_nextWhole_L5 t a_0 Q k81 n m → zW p l e (zRm 0 mc ms) s mt args below meth c g (MQ below (zQc g (zPv t Q)) args s mc ms (zFar g)) u 1 t m 5 [(0, .ref a_0)] [] := by
  intro n
  induction n with
  | zero => intro m H; exact H.elim
  | succ n ih =>
    intro m H
    simp only [wX3_nextWhole_L5] at H
    refine z_aload_n (pc := 5) C (dX3_nextWhole 3 rfl) rfl 0 rfl ?_
    obtain ⟨h2, H⟩ := H
    refine z_getI (pc := 6) C zc3 h2 3 (by decide) rfl wf_X3_46 (dX3_nextWhole 4 rfl) ?_
    refine z_aload_n (pc := 9) C (dX3_nextWhole 5 rfl) rfl 0 rfl ?_
    refine z_getI (pc := 10) C zc3 h2 2 (by decide) rfl wf_X3_43 (dX3_nextWhole 6 rfl) ?_
    refine z_icmp_ge (pc := 13) (tgt := 81) C (dX3_nextWhole 7 rfl) (by decide) (fun c3 => ?_) (fun c3 => ?_)
    · replace H := H.1 c3
      refine z_sub [0] rfl ?_
      exact K81 m H
    · replace H := H.2 c3
      refine z_aload_n (pc := 16) C (dX3_nextWhole 8 rfl) rfl 0 rfl ?_
      refine z_getR (pc := 17) C zc3 h2 0 (by decide) rfl wf_X3_9 (dX3_nextWhole 9 rfl) ?_
      refine z_aload_n (pc := 20) C (dX3_nextWhole 10 rfl) rfl 0 rfl ?_
      refine z_getI (pc := 21) C zc3 h2 3 (by decide) rfl wf_X3_46 (dX3_nextWhole 11 rfl) ?_
      obtain ⟨h4, H⟩ := H
      obtain ⟨h5, H⟩ := H
      refine z_baload (pc := 24) C h4 h5 (dX3_nextWhole 12 rfl) ?_
      refine z_bipush (pc := 25) (v := 48) C (dX3_nextWhole 13 rfl) (by decide) ?_
      refine z_icmp_lt (pc := 27) (tgt := 81) C (dX3_nextWhole 14 rfl) (by decide) (fun c6 => ?_) (fun c6 => ?_)
      · replace H := H.1 c6
        refine z_sub [0] rfl ?_
        exact K81 m H
      · replace H := H.2 c6
        refine z_aload_n (pc := 30) C (dX3_nextWhole 15 rfl) rfl 0 rfl ?_
        refine z_getR (pc := 31) C zc3 h2 0 (by decide) rfl wf_X3_9 (dX3_nextWhole 16 rfl) ?_
        refine z_aload_n (pc := 34) C (dX3_nextWhole 17 rfl) rfl 0 rfl ?_
        refine z_getI (pc := 35) C zc3 h2 3 (by decide) rfl wf_X3_46 (dX3_nextWhole 18 rfl) ?_
        refine z_baload (pc := 38) C h4 h5 (dX3_nextWhole 19 rfl) ?_
        refine z_bipush (pc := 39) (v := 57) C (dX3_nextWhole 20 rfl) (by decide) ?_
        refine z_icmp_gt (pc := 41) (tgt := 81) C (dX3_nextWhole 21 rfl) (by decide) (fun c7 => ?_) (fun c7 => ?_)
        · replace H := H.1 c7
          refine z_sub [0] rfl ?_
          exact K81 m H
        · replace H := H.2 c7
          refine z_aload_n (pc := 44) C (dX3_nextWhole 22 rfl) rfl 0 rfl ?_
          refine z_aload_n (pc := 45) C (dX3_nextWhole 23 rfl) rfl 0 rfl ?_
          refine z_getI (pc := 46) C zc3 h2 8 (by decide) rfl wf_X3_144 (dX3_nextWhole 24 rfl) ?_
          refine z_bipush (pc := 49) (v := 10) C (dX3_nextWhole 25 rfl) (by decide) ?_
          refine z_imul (pc := 51) C (dX3_nextWhole 26 rfl) ?_
          refine z_aload_n (pc := 52) C (dX3_nextWhole 27 rfl) rfl 0 rfl ?_
          refine z_getR (pc := 53) C zc3 h2 0 (by decide) rfl wf_X3_9 (dX3_nextWhole 28 rfl) ?_
          refine z_aload_n (pc := 56) C (dX3_nextWhole 29 rfl) rfl 0 rfl ?_
          refine z_getI (pc := 57) C zc3 h2 3 (by decide) rfl wf_X3_46 (dX3_nextWhole 30 rfl) ?_
          refine z_baload (pc := 60) C h4 h5 (dX3_nextWhole 31 rfl) ?_
          refine z_iadd (pc := 61) C (dX3_nextWhole 32 rfl) ?_
          refine z_bipush (pc := 62) (v := 48) C (dX3_nextWhole 33 rfl) (by decide) ?_
          refine z_isub (pc := 64) C (dX3_nextWhole 34 rfl) ?_
          refine z_putI (pc := 65) C zc3 h2 8 (by decide) rfl rfl wf_X3_144 (dX3_nextWhole 35 rfl) ?_
          refine z_aload_n (pc := 68) C (dX3_nextWhole 36 rfl) rfl 0 rfl ?_
          refine z_dup (pc := 69) C (dX3_nextWhole 37 rfl) rfl ?_
          refine z_getI (pc := 70) C zc3 h2 3 (by decide) rfl wf_X3_46 (dX3_nextWhole 38 rfl) ?_
          refine z_iconst (pc := 73) (v := 1) C (dX3_nextWhole 39 rfl) (by decide) ?_
          refine z_iadd (pc := 74) C (dX3_nextWhole 40 rfl) ?_
          refine z_putI (pc := 75) C zc3 h2 3 (by decide) rfl rfl wf_X3_46 (dX3_nextWhole 41 rfl) ?_
          refine z_goto (pc := 78) (tgt := 5) C (dX3_nextWhole 42 rfl) (by decide) ?_
          refine z_sub [0] rfl ?_
          exact ih (pI (pI m a_0 8 ((((gI m a_0 8) * (10 : Int32)) + (gI m (gR m a_0 0) ((gI m a_0 3).toNatClampNeg))) - (48 : Int32))) a_0 3 ((gI (pI m a_0 8 ((((gI m a_0 8) * (10 : Int32)) + (gI m (gR m a_0 0) ((gI m a_0 3).toNatClampNeg))) - (48 : Int32))) a_0 3) + (1 : Int32))) H
def wX3_nextWhole_J81 (t : zT) (m : zM) (a_0 : Nat) (Q : zM → Prop) : Prop := (tK t a_0 = 3 ∧ (((3 : Int32) < ((gI m a_0 3) - (gI m a_0 5)) → (Q (pI m a_0 6 5))) ∧ (¬ (3 : Int32) < ((gI m a_0 3) - (gI m a_0 5)) → (Q (pI m a_0 6 2)))))
set_option maxHeartbeats 4000000 in
set_option maxRecDepth 20000 in
theorem sX3_nextWhole_J81 {p : Program} {l : Launch} {e : Env} {s : State} {mt : MethodId} {args : Array Value} {below : List Frame} {meth : Method} {c : Code} {g : zG} {u : Nat × Nat} {mc ms : Nat} {t : zT} {m : zM} {a_0 : Nat} {Q : zM → Prop} (C : zC p (zRm 0 mc ms) s mt args meth c g cX3_nextWhole 1 yX3_nextWhole.cls 0) (hr : meth.sig.returnType = none) (hm : meth.name = yX3_nextWhole.name) (hu1 : u.1 ≤ mc) (hu2 : u.2 ≤ ms) (H : wX3_nextWhole_J81 t m a_0 Q) : zW p l e (zRm 0 mc ms) s mt args below meth c g (MQ below (zQc g (zPv t Q)) args s mc ms (zFar g)) u 1 t m 81 [(0, .ref a_0)] [] := by
  unfold wX3_nextWhole_J81 at H
  refine z_aload_n (pc := 81) C (dX3_nextWhole 43 rfl) rfl 0 rfl ?_
  refine z_aload_n (pc := 82) C (dX3_nextWhole 44 rfl) rfl 0 rfl ?_
  obtain ⟨h9, H⟩ := H
  refine z_getI (pc := 83) C zc3 h9 3 (by decide) rfl wf_X3_46 (dX3_nextWhole 45 rfl) ?_
  refine z_aload_n (pc := 86) C (dX3_nextWhole 46 rfl) rfl 0 rfl ?_
  refine z_getI (pc := 87) C zc3 h9 5 (by decide) rfl wf_X3_233 (dX3_nextWhole 47 rfl) ?_
  refine z_isub (pc := 90) C (dX3_nextWhole 48 rfl) ?_
  refine z_iconst (pc := 91) (v := 3) C (dX3_nextWhole 49 rfl) (by decide) ?_
  refine z_icmp_gt (pc := 92) (tgt := 99) C (dX3_nextWhole 50 rfl) (by decide) (fun c10 => ?_) (fun c10 => ?_)
  · replace H := H.1 c10
    refine z_iconst (pc := 99) (v := 5) C (dX3_nextWhole 53 rfl) (by decide) ?_
    refine z_putI (pc := 100) C zc3 h9 6 (by decide) rfl rfl wf_X3_65 (dX3_nextWhole 54 rfl) ?_
    exact z_vret (pc := 103) C hr hu1 hu2 (dX3_nextWhole 55 rfl) ⟨rfl, rfl, H⟩
  · replace H := H.2 c10
    refine z_iconst (pc := 95) (v := 2) C (dX3_nextWhole 51 rfl) (by decide) ?_
    refine z_goto (pc := 96) (tgt := 100) C (dX3_nextWhole 52 rfl) (by decide) ?_
    refine z_putI (pc := 100) C zc3 h9 6 (by decide) rfl rfl wf_X3_65 (dX3_nextWhole 54 rfl) ?_
    exact z_vret (pc := 103) C hr hu1 hu2 (dX3_nextWhole 55 rfl) ⟨rfl, rfl, H⟩
def wX3_nextWhole (t : zT) (m : zM) (a : Nat) (Q : zM → Prop) : Prop := (tK t a = 3 ∧ (∃ n11, wX3_nextWhole_L5 t a Q (fun m8 => (wX3_nextWhole_J81 t m8 a Q)) n11 (pI m a 8 0)))
set_option maxHeartbeats 4000000 in
set_option maxRecDepth 20000 in
theorem kX3_nextWhole {l : Launch} {t : zT} {m : zM} {a : Nat} {Q : zM → Prop} (H : wX3_nextWhole t m a Q) : zMet l yX3_nextWhole cX3_nextWhole 1 none 0 0 0 t m [.ref a] (zPv t Q) := by
  refine zmet (by decide +kernel) (Nat.le_of_ble_eq_true rfl) ?_
  intro p e s mt args below meth c g C hr hm
  unfold wX3_nextWhole at H
  have hu1 : ((0, 0) : Nat × Nat).1 ≤ 0 := Nat.le_refl 0
  have hu2 : ((0, 0) : Nat × Nat).2 ≤ 0 := Nat.le_refl 0
  refine z_aload_n (pc := 0) C (dX3_nextWhole 0 rfl) rfl 0 rfl ?_
  refine z_iconst (pc := 1) (v := 0) C (dX3_nextWhole 1 rfl) (by decide) ?_
  obtain ⟨h1, H⟩ := H
  refine z_putI (pc := 2) C zc3 h1 8 (by decide) rfl rfl wf_X3_144 (dX3_nextWhole 2 rfl) ?_
  obtain ⟨n11, H⟩ := H
  refine z_sub [0] rfl ?_
  refine sX3_nextWhole_L5 C hr hm hu1 hu2 (fun m8 H => ?_) n11 (pI m a 8 0) H
  refine z_sub [0] rfl ?_
  exact sX3_nextWhole_J81 C hr hm hu1 hu2 H
def wX3_next_L0 (t : zT) (a_0 : Nat) (Q : zM → Prop) (k38 : zM → Prop) : Nat → zM → Prop
  | 0, _ => False
  | n + 1, m => (tK t a_0 = 3 ∧ (((gI m a_0 2) ≤ (gI m a_0 3) → (k38 m)) ∧ (¬ (gI m a_0 2) ≤ (gI m a_0 3) → (tK t (gR m a_0 0) = 13 ∧ (vp_in (gI m a_0 3) (tL t (gR m a_0 0)) ∧ (((gI m (gR m a_0 0) ((gI m a_0 3).toNatClampNeg)) = 32 → (wX3_next_L0 t a_0 Q k38 n (pI m a_0 3 ((gI m a_0 3) + (1 : Int32))))) ∧ (¬ (gI m (gR m a_0 0) ((gI m a_0 3).toNatClampNeg)) = 32 → (k38 m))))))))
set_option maxHeartbeats 4000000 in
set_option maxRecDepth 20000 in
theorem sX3_next_L0 {p : Program} {l : Launch} {e : Env} {s : State} {mt : MethodId} {args : Array Value} {below : List Frame} {meth : Method} {c : Code} {g : zG} {u : Nat × Nat} {mc ms : Nat} {t : zT} {a_0 : Nat} {Q : zM → Prop} {k38 : zM → Prop} (C : zC p (zRm 1 mc ms) s mt args meth c g cX3_next 1 yX3_next.cls 1) (hr : meth.sig.returnType = none) (hm : meth.name = yX3_next.name) (hu1 : u.1 ≤ mc) (hu2 : u.2 ≤ ms)
    (K38 : ∀ (m : zM), k38 m → zW p l e (zRm 1 mc ms) s mt args below meth c g (MQ below (zQc g (zPv t Q)) args s mc ms (zFar g)) u 1 t m 38 [(0, .ref a_0)] []) : ∀ (n : Nat) (m : zM), wX3_next_L0 t a_0 Q k38 n m → zW p l e (zRm 1 mc ms) s mt args below meth c g (MQ below (zQc g (zPv t Q)) args s mc ms (zFar g)) u 1 t m 0 [(0, .ref a_0)] [] := by
  intro n
  induction n with
  | zero => intro m H; exact H.elim
  | succ n ih =>
    intro m H
    simp only [wX3_next_L0] at H
    refine z_aload_n (pc := 0) C (dX3_next 0 rfl) rfl 0 rfl ?_
    obtain ⟨h1, H⟩ := H
    refine z_getI (pc := 1) C zc3 h1 3 (by decide) rfl wf_X3_46 (dX3_next 1 rfl) ?_
    refine z_aload_n (pc := 4) C (dX3_next 2 rfl) rfl 0 rfl ?_
    refine z_getI (pc := 5) C zc3 h1 2 (by decide) rfl wf_X3_43 (dX3_next 3 rfl) ?_
    refine z_icmp_ge (pc := 8) (tgt := 38) C (dX3_next 4 rfl) (by decide) (fun c2 => ?_) (fun c2 => ?_)
    · replace H := H.1 c2
      refine z_sub [0] rfl ?_
      exact K38 m H
    · replace H := H.2 c2
      refine z_aload_n (pc := 11) C (dX3_next 5 rfl) rfl 0 rfl ?_
      refine z_getR (pc := 12) C zc3 h1 0 (by decide) rfl wf_X3_9 (dX3_next 6 rfl) ?_
      refine z_aload_n (pc := 15) C (dX3_next 7 rfl) rfl 0 rfl ?_
      refine z_getI (pc := 16) C zc3 h1 3 (by decide) rfl wf_X3_46 (dX3_next 8 rfl) ?_
      obtain ⟨h3, H⟩ := H
      obtain ⟨h4, H⟩ := H
      refine z_baload (pc := 19) C h3 h4 (dX3_next 9 rfl) ?_
      refine z_bipush (pc := 20) (v := 32) C (dX3_next 10 rfl) (by decide) ?_
      refine z_icmp_ne (pc := 22) (tgt := 38) C (dX3_next 11 rfl) (by decide) (fun c5 => ?_) (fun c5 => ?_)
      · replace H := H.2 c5
        refine z_sub [0] rfl ?_
        exact K38 m H
      · replace H := H.1 c5
        refine z_aload_n (pc := 25) C (dX3_next 12 rfl) rfl 0 rfl ?_
        refine z_dup (pc := 26) C (dX3_next 13 rfl) rfl ?_
        refine z_getI (pc := 27) C zc3 h1 3 (by decide) rfl wf_X3_46 (dX3_next 14 rfl) ?_
        refine z_iconst (pc := 30) (v := 1) C (dX3_next 15 rfl) (by decide) ?_
        refine z_iadd (pc := 31) C (dX3_next 16 rfl) ?_
        refine z_putI (pc := 32) C zc3 h1 3 (by decide) rfl rfl wf_X3_46 (dX3_next 17 rfl) ?_
        refine z_goto (pc := 35) (tgt := 0) C (dX3_next 18 rfl) (by decide) ?_
        refine z_sub [0] rfl ?_
        exact ih (pI m a_0 3 ((gI m a_0 3) + (1 : Int32))) H
def wX3_next_J135 (t : zT) (m : zM) (a_0 : Nat) (Q : zM → Prop) : Prop := (tK t a_0 = 3 ∧ (tK t (gR m a_0 0) = 13 ∧ (vp_in (gI m a_0 3) (tL t (gR m a_0 0)) ∧ (((gI m (gR m a_0 0) ((gI m a_0 3).toNatClampNeg)) = 59 → (Q (pI (pI m a_0 6 3) a_0 3 ((gI (pI m a_0 6 3) a_0 3) + (1 : Int32))))) ∧ (¬ (gI m (gR m a_0 0) ((gI m a_0 3).toNatClampNeg)) = 59 → (((gI m (gR m a_0 0) ((gI m a_0 3).toNatClampNeg)) = 44 → (Q (pI (pI m a_0 6 4) a_0 3 ((gI (pI m a_0 6 4) a_0 3) + (1 : Int32))))) ∧ (¬ (gI m (gR m a_0 0) ((gI m a_0 3).toNatClampNeg)) = 44 → (Q (pI (pI m a_0 6 5) a_0 3 ((gI (pI m a_0 6 5) a_0 3) + (1 : Int32)))))))))))
set_option maxHeartbeats 4000000 in
set_option maxRecDepth 20000 in
theorem sX3_next_J135 {p : Program} {l : Launch} {e : Env} {s : State} {mt : MethodId} {args : Array Value} {below : List Frame} {meth : Method} {c : Code} {g : zG} {u : Nat × Nat} {mc ms : Nat} {t : zT} {m : zM} {a_0 : Nat} {Q : zM → Prop} (C : zC p (zRm 1 mc ms) s mt args meth c g cX3_next 1 yX3_next.cls 1) (hr : meth.sig.returnType = none) (hm : meth.name = yX3_next.name) (hu1 : u.1 ≤ mc) (hu2 : u.2 ≤ ms) (H : wX3_next_J135 t m a_0 Q) : zW p l e (zRm 1 mc ms) s mt args below meth c g (MQ below (zQc g (zPv t Q)) args s mc ms (zFar g)) u 1 t m 135 [(0, .ref a_0)] [] := by
  unfold wX3_next_J135 at H
  refine z_aload_n (pc := 135) C (dX3_next 66 rfl) rfl 0 rfl ?_
  refine z_aload_n (pc := 136) C (dX3_next 67 rfl) rfl 0 rfl ?_
  obtain ⟨h16, H⟩ := H
  refine z_getR (pc := 137) C zc3 h16 0 (by decide) rfl wf_X3_9 (dX3_next 68 rfl) ?_
  refine z_aload_n (pc := 140) C (dX3_next 69 rfl) rfl 0 rfl ?_
  refine z_getI (pc := 141) C zc3 h16 3 (by decide) rfl wf_X3_46 (dX3_next 70 rfl) ?_
  obtain ⟨h17, H⟩ := H
  obtain ⟨h18, H⟩ := H
  refine z_baload (pc := 144) C h17 h18 (dX3_next 71 rfl) ?_
  refine z_bipush (pc := 145) (v := 59) C (dX3_next 72 rfl) (by decide) ?_
  refine z_icmp_ne (pc := 147) (tgt := 154) C (dX3_next 73 rfl) (by decide) (fun c19 => ?_) (fun c19 => ?_)
  · replace H := H.2 c19
    refine z_aload_n (pc := 154) C (dX3_next 76 rfl) rfl 0 rfl ?_
    refine z_getR (pc := 155) C zc3 h16 0 (by decide) rfl wf_X3_9 (dX3_next 77 rfl) ?_
    refine z_aload_n (pc := 158) C (dX3_next 78 rfl) rfl 0 rfl ?_
    refine z_getI (pc := 159) C zc3 h16 3 (by decide) rfl wf_X3_46 (dX3_next 79 rfl) ?_
    refine z_baload (pc := 162) C h17 h18 (dX3_next 80 rfl) ?_
    refine z_bipush (pc := 163) (v := 44) C (dX3_next 81 rfl) (by decide) ?_
    refine z_icmp_ne (pc := 165) (tgt := 172) C (dX3_next 82 rfl) (by decide) (fun c20 => ?_) (fun c20 => ?_)
    · replace H := H.2 c20
      refine z_iconst (pc := 172) (v := 5) C (dX3_next 85 rfl) (by decide) ?_
      refine z_putI (pc := 173) C zc3 h16 6 (by decide) rfl rfl wf_X3_65 (dX3_next 86 rfl) ?_
      refine z_aload_n (pc := 176) C (dX3_next 87 rfl) rfl 0 rfl ?_
      refine z_dup (pc := 177) C (dX3_next 88 rfl) rfl ?_
      refine z_getI (pc := 178) C zc3 h16 3 (by decide) rfl wf_X3_46 (dX3_next 89 rfl) ?_
      refine z_iconst (pc := 181) (v := 1) C (dX3_next 90 rfl) (by decide) ?_
      refine z_iadd (pc := 182) C (dX3_next 91 rfl) ?_
      refine z_putI (pc := 183) C zc3 h16 3 (by decide) rfl rfl wf_X3_46 (dX3_next 92 rfl) ?_
      exact z_vret (pc := 186) C hr hu1 hu2 (dX3_next 93 rfl) ⟨rfl, rfl, H⟩
    · replace H := H.1 c20
      refine z_iconst (pc := 168) (v := 4) C (dX3_next 83 rfl) (by decide) ?_
      refine z_goto (pc := 169) (tgt := 173) C (dX3_next 84 rfl) (by decide) ?_
      refine z_putI (pc := 173) C zc3 h16 6 (by decide) rfl rfl wf_X3_65 (dX3_next 86 rfl) ?_
      refine z_aload_n (pc := 176) C (dX3_next 87 rfl) rfl 0 rfl ?_
      refine z_dup (pc := 177) C (dX3_next 88 rfl) rfl ?_
      refine z_getI (pc := 178) C zc3 h16 3 (by decide) rfl wf_X3_46 (dX3_next 89 rfl) ?_
      refine z_iconst (pc := 181) (v := 1) C (dX3_next 90 rfl) (by decide) ?_
      refine z_iadd (pc := 182) C (dX3_next 91 rfl) ?_
      refine z_putI (pc := 183) C zc3 h16 3 (by decide) rfl rfl wf_X3_46 (dX3_next 92 rfl) ?_
      exact z_vret (pc := 186) C hr hu1 hu2 (dX3_next 93 rfl) ⟨rfl, rfl, H⟩
  · replace H := H.1 c19
    refine z_iconst (pc := 150) (v := 3) C (dX3_next 74 rfl) (by decide) ?_
    refine z_goto (pc := 151) (tgt := 173) C (dX3_next 75 rfl) (by decide) ?_
    refine z_putI (pc := 173) C zc3 h16 6 (by decide) rfl rfl wf_X3_65 (dX3_next 86 rfl) ?_
    refine z_aload_n (pc := 176) C (dX3_next 87 rfl) rfl 0 rfl ?_
    refine z_dup (pc := 177) C (dX3_next 88 rfl) rfl ?_
    refine z_getI (pc := 178) C zc3 h16 3 (by decide) rfl wf_X3_46 (dX3_next 89 rfl) ?_
    refine z_iconst (pc := 181) (v := 1) C (dX3_next 90 rfl) (by decide) ?_
    refine z_iadd (pc := 182) C (dX3_next 91 rfl) ?_
    refine z_putI (pc := 183) C zc3 h16 3 (by decide) rfl rfl wf_X3_46 (dX3_next 92 rfl) ?_
    exact z_vret (pc := 186) C hr hu1 hu2 (dX3_next 93 rfl) ⟨rfl, rfl, H⟩
def wX3_next_J100 (t : zT) (m : zM) (a_0 : Nat) (Q : zM → Prop) : Prop := (tK t a_0 = 3 ∧ (tK t (gR m a_0 0) = 13 ∧ (vp_in (gI m a_0 3) (tL t (gR m a_0 0)) ∧ (((gI m (gR m a_0 0) ((gI m a_0 3).toNatClampNeg)) < 48 → (wX3_next_J135 t m a_0 Q)) ∧ (¬ (gI m (gR m a_0 0) ((gI m a_0 3).toNatClampNeg)) < 48 → (((57 : Int32) < (gI m (gR m a_0 0) ((gI m a_0 3).toNatClampNeg)) → (wX3_next_J135 t m a_0 Q)) ∧ (¬ (57 : Int32) < (gI m (gR m a_0 0) ((gI m a_0 3).toNatClampNeg)) → (wX3_nextWhole t m a_0 (fun m23 => (Q m23))))))))))
set_option maxHeartbeats 4000000 in
set_option maxRecDepth 20000 in
theorem sX3_next_J100 {p : Program} {l : Launch} {e : Env} {s : State} {mt : MethodId} {args : Array Value} {below : List Frame} {meth : Method} {c : Code} {g : zG} {u : Nat × Nat} {mc ms : Nat} {t : zT} {m : zM} {a_0 : Nat} {Q : zM → Prop} (C : zC p (zRm 1 mc ms) s mt args meth c g cX3_next 1 yX3_next.cls 1) (hr : meth.sig.returnType = none) (hm : meth.name = yX3_next.name) (hu1 : u.1 ≤ mc) (hu2 : u.2 ≤ ms) (H : wX3_next_J100 t m a_0 Q) : zW p l e (zRm 1 mc ms) s mt args below meth c g (MQ below (zQc g (zPv t Q)) args s mc ms (zFar g)) u 1 t m 100 [(0, .ref a_0)] [] := by
  unfold wX3_next_J100 at H
  refine z_aload_n (pc := 100) C (dX3_next 49 rfl) rfl 0 rfl ?_
  obtain ⟨h12, H⟩ := H
  refine z_getR (pc := 101) C zc3 h12 0 (by decide) rfl wf_X3_9 (dX3_next 50 rfl) ?_
  refine z_aload_n (pc := 104) C (dX3_next 51 rfl) rfl 0 rfl ?_
  refine z_getI (pc := 105) C zc3 h12 3 (by decide) rfl wf_X3_46 (dX3_next 52 rfl) ?_
  obtain ⟨h13, H⟩ := H
  obtain ⟨h14, H⟩ := H
  refine z_baload (pc := 108) C h13 h14 (dX3_next 53 rfl) ?_
  refine z_bipush (pc := 109) (v := 48) C (dX3_next 54 rfl) (by decide) ?_
  refine z_icmp_lt (pc := 111) (tgt := 135) C (dX3_next 55 rfl) (by decide) (fun c15 => ?_) (fun c15 => ?_)
  · replace H := H.1 c15
    refine z_sub [0] rfl ?_
    exact sX3_next_J135 C hr hm hu1 hu2 H
  · replace H := H.2 c15
    refine z_aload_n (pc := 114) C (dX3_next 56 rfl) rfl 0 rfl ?_
    refine z_getR (pc := 115) C zc3 h12 0 (by decide) rfl wf_X3_9 (dX3_next 57 rfl) ?_
    refine z_aload_n (pc := 118) C (dX3_next 58 rfl) rfl 0 rfl ?_
    refine z_getI (pc := 119) C zc3 h12 3 (by decide) rfl wf_X3_46 (dX3_next 59 rfl) ?_
    refine z_baload (pc := 122) C h13 h14 (dX3_next 60 rfl) ?_
    refine z_bipush (pc := 123) (v := 57) C (dX3_next 61 rfl) (by decide) ?_
    refine z_icmp_gt (pc := 125) (tgt := 135) C (dX3_next 62 rfl) (by decide) (fun c21 => ?_) (fun c21 => ?_)
    · replace H := H.1 c21
      refine z_sub [0] rfl ?_
      exact sX3_next_J135 C hr hm hu1 hu2 H
    · replace H := H.2 c21
      refine z_aload_n (pc := 128) C (dX3_next 63 rfl) rfl 0 rfl ?_
      refine zc_Vv (pc := 129) (rest := []) C YX3_nextWhole wl_X3_239 (kX3_nextWhole H) (by decide) h12 rfl (by decide) (dX3_next 64 rfl) rfl hu1 hu2 (Nat.le_of_ble_eq_true rfl) rfl (fun m23 H => ?_)
      refine z_goto (pc := 132) (tgt := 186) C (dX3_next 65 rfl) (by decide) ?_
      exact z_vret (pc := 186) C hr hu1 hu2 (dX3_next 93 rfl) ⟨rfl, rfl, H⟩
def wX3_next_J38 (t : zT) (m : zM) (a_0 : Nat) (Q : zM → Prop) : Prop := (tK t a_0 = 3 ∧ (((gI (pI m a_0 5 (gI m a_0 3)) a_0 3) < (gI (pI m a_0 5 (gI m a_0 3)) a_0 2) → (tK t (gR m a_0 0) = 13 ∧ (vp_in (gI (pI m a_0 5 (gI m a_0 3)) a_0 3) (tL t (gR m a_0 0)) ∧ (((gI (pI m a_0 5 (gI m a_0 3)) (gR m a_0 0) ((gI (pI m a_0 5 (gI m a_0 3)) a_0 3).toNatClampNeg)) < 97 → (wX3_next_J100 t (pI m a_0 5 (gI m a_0 3)) a_0 Q)) ∧ (¬ (gI (pI m a_0 5 (gI m a_0 3)) (gR m a_0 0) ((gI (pI m a_0 5 (gI m a_0 3)) a_0 3).toNatClampNeg)) < 97 → (((122 : Int32) < (gI (pI m a_0 5 (gI m a_0 3)) (gR m a_0 0) ((gI (pI m a_0 5 (gI m a_0 3)) a_0 3).toNatClampNeg)) → (wX3_next_J100 t (pI m a_0 5 (gI m a_0 3)) a_0 Q)) ∧ (¬ (122 : Int32) < (gI (pI m a_0 5 (gI m a_0 3)) (gR m a_0 0) ((gI (pI m a_0 5 (gI m a_0 3)) a_0 3).toNatClampNeg)) → (wX3_nextWord t (pI m a_0 5 (gI m a_0 3)) a_0 (fun m26 => (Q m26)))))))))) ∧ (¬ (gI (pI m a_0 5 (gI m a_0 3)) a_0 3) < (gI (pI m a_0 5 (gI m a_0 3)) a_0 2) → (Q (pI (pI m a_0 5 (gI m a_0 3)) a_0 6 0)))))
set_option maxHeartbeats 4000000 in
set_option maxRecDepth 20000 in
theorem sX3_next_J38 {p : Program} {l : Launch} {e : Env} {s : State} {mt : MethodId} {args : Array Value} {below : List Frame} {meth : Method} {c : Code} {g : zG} {u : Nat × Nat} {mc ms : Nat} {t : zT} {m : zM} {a_0 : Nat} {Q : zM → Prop} (C : zC p (zRm 1 mc ms) s mt args meth c g cX3_next 1 yX3_next.cls 1) (hr : meth.sig.returnType = none) (hm : meth.name = yX3_next.name) (hu1 : u.1 ≤ mc) (hu2 : u.2 ≤ ms) (H : wX3_next_J38 t m a_0 Q) : zW p l e (zRm 1 mc ms) s mt args below meth c g (MQ below (zQc g (zPv t Q)) args s mc ms (zFar g)) u 1 t m 38 [(0, .ref a_0)] [] := by
  unfold wX3_next_J38 at H
  refine z_aload_n (pc := 38) C (dX3_next 19 rfl) rfl 0 rfl ?_
  refine z_aload_n (pc := 39) C (dX3_next 20 rfl) rfl 0 rfl ?_
  obtain ⟨h7, H⟩ := H
  refine z_getI (pc := 40) C zc3 h7 3 (by decide) rfl wf_X3_46 (dX3_next 21 rfl) ?_
  refine z_putI (pc := 43) C zc3 h7 5 (by decide) rfl rfl wf_X3_233 (dX3_next 22 rfl) ?_
  refine z_aload_n (pc := 46) C (dX3_next 23 rfl) rfl 0 rfl ?_
  refine z_getI (pc := 47) C zc3 h7 3 (by decide) rfl wf_X3_46 (dX3_next 24 rfl) ?_
  refine z_aload_n (pc := 50) C (dX3_next 25 rfl) rfl 0 rfl ?_
  refine z_getI (pc := 51) C zc3 h7 2 (by decide) rfl wf_X3_43 (dX3_next 26 rfl) ?_
  refine z_icmp_lt (pc := 54) (tgt := 65) C (dX3_next 27 rfl) (by decide) (fun c8 => ?_) (fun c8 => ?_)
  · replace H := H.1 c8
    refine z_aload_n (pc := 65) C (dX3_next 32 rfl) rfl 0 rfl ?_
    refine z_getR (pc := 66) C zc3 h7 0 (by decide) rfl wf_X3_9 (dX3_next 33 rfl) ?_
    refine z_aload_n (pc := 69) C (dX3_next 34 rfl) rfl 0 rfl ?_
    refine z_getI (pc := 70) C zc3 h7 3 (by decide) rfl wf_X3_46 (dX3_next 35 rfl) ?_
    obtain ⟨h9, H⟩ := H
    obtain ⟨h10, H⟩ := H
    refine z_baload (pc := 73) C h9 h10 (dX3_next 36 rfl) ?_
    refine z_bipush (pc := 74) (v := 97) C (dX3_next 37 rfl) (by decide) ?_
    refine z_icmp_lt (pc := 76) (tgt := 100) C (dX3_next 38 rfl) (by decide) (fun c11 => ?_) (fun c11 => ?_)
    · replace H := H.1 c11
      refine z_sub [0] rfl ?_
      exact sX3_next_J100 C hr hm hu1 hu2 H
    · replace H := H.2 c11
      refine z_aload_n (pc := 79) C (dX3_next 39 rfl) rfl 0 rfl ?_
      refine z_getR (pc := 80) C zc3 h7 0 (by decide) rfl wf_X3_9 (dX3_next 40 rfl) ?_
      refine z_aload_n (pc := 83) C (dX3_next 41 rfl) rfl 0 rfl ?_
      refine z_getI (pc := 84) C zc3 h7 3 (by decide) rfl wf_X3_46 (dX3_next 42 rfl) ?_
      refine z_baload (pc := 87) C h9 h10 (dX3_next 43 rfl) ?_
      refine z_bipush (pc := 88) (v := 122) C (dX3_next 44 rfl) (by decide) ?_
      refine z_icmp_gt (pc := 90) (tgt := 100) C (dX3_next 45 rfl) (by decide) (fun c24 => ?_) (fun c24 => ?_)
      · replace H := H.1 c24
        refine z_sub [0] rfl ?_
        exact sX3_next_J100 C hr hm hu1 hu2 H
      · replace H := H.2 c24
        refine z_aload_n (pc := 93) C (dX3_next 46 rfl) rfl 0 rfl ?_
        refine zc_Vv (pc := 94) (rest := []) C YX3_nextWord wl_X3_236 (kX3_nextWord H) (by decide) h7 rfl (by decide) (dX3_next 47 rfl) rfl hu1 hu2 (Nat.le_of_ble_eq_true rfl) rfl (fun m26 H => ?_)
        refine z_goto (pc := 97) (tgt := 186) C (dX3_next 48 rfl) (by decide) ?_
        exact z_vret (pc := 186) C hr hu1 hu2 (dX3_next 93 rfl) ⟨rfl, rfl, H⟩
  · replace H := H.2 c8
    refine z_aload_n (pc := 57) C (dX3_next 28 rfl) rfl 0 rfl ?_
    refine z_iconst (pc := 58) (v := 0) C (dX3_next 29 rfl) (by decide) ?_
    refine z_putI (pc := 59) C zc3 h7 6 (by decide) rfl rfl wf_X3_65 (dX3_next 30 rfl) ?_
    refine z_goto (pc := 62) (tgt := 186) C (dX3_next 31 rfl) (by decide) ?_
    exact z_vret (pc := 186) C hr hu1 hu2 (dX3_next 93 rfl) ⟨rfl, rfl, H⟩
def wX3_next (t : zT) (m : zM) (a : Nat) (Q : zM → Prop) : Prop := (∃ n27, wX3_next_L0 t a Q (fun m6 => (wX3_next_J38 t m6 a Q)) n27 m)
set_option maxHeartbeats 4000000 in
set_option maxRecDepth 20000 in
theorem kX3_next {l : Launch} {t : zT} {m : zM} {a : Nat} {Q : zM → Prop} (H : wX3_next t m a Q) : zMet l yX3_next cX3_next 1 none 1 0 0 t m [.ref a] (zPv t Q) := by
  refine zmet (by decide +kernel) (Nat.le_of_ble_eq_true rfl) ?_
  intro p e s mt args below meth c g C hr hm
  unfold wX3_next at H
  have hu1 : ((0, 0) : Nat × Nat).1 ≤ 0 := Nat.le_refl 0
  have hu2 : ((0, 0) : Nat × Nat).2 ≤ 0 := Nat.le_refl 0
  obtain ⟨n27, H⟩ := H
  refine z_sub [0] rfl ?_
  refine sX3_next_L0 C hr hm hu1 hu2 (fun m6 H => ?_) n27 m H
  refine z_sub [0] rfl ?_
  exact sX3_next_J38 C hr hm hu1 hu2 H
def wX3_stands (t : zT) (m : zM) (a : Nat) (p1 : Int64) (Q : Int32 → zM → Prop) : Prop := (tK t a = 3 ∧ (((gI m a 6) = 1 → (((lg_cmp (gJ m a 7) p1) = 0 → (Q 1 m)) ∧ (¬ (lg_cmp (gJ m a 7) p1) = 0 → (Q 0 m)))) ∧ (¬ (gI m a 6) = 1 → (Q 0 m))))
set_option maxHeartbeats 4000000 in
set_option maxRecDepth 20000 in
theorem kX3_stands {l : Launch} {t : zT} {m : zM} {a : Nat} {p1 : Int64} {Q : Int32 → zM → Prop} (H : wX3_stands t m a p1 Q) : zMet l yX3_stands cX3_stands 3 (some .boolean) 0 0 0 t m [.ref a, .long p1] (zPi t Q) := by
  refine zmet (by decide +kernel) (Nat.le_of_ble_eq_true rfl) ?_
  intro p e s mt args below meth c g C hr hm
  unfold wX3_stands at H
  have hu1 : ((0, 0) : Nat × Nat).1 ≤ 0 := Nat.le_refl 0
  have hu2 : ((0, 0) : Nat × Nat).2 ≤ 0 := Nat.le_refl 0
  refine z_aload_n (pc := 0) C (dX3_stands 0 rfl) rfl 0 rfl ?_
  obtain ⟨h1, H⟩ := H
  refine z_getI (pc := 1) C zc3 h1 6 (by decide) rfl wf_X3_65 (dX3_stands 1 rfl) ?_
  refine z_iconst (pc := 4) (v := 1) C (dX3_stands 2 rfl) (by decide) ?_
  refine z_icmp_ne (pc := 5) (tgt := 21) C (dX3_stands 3 rfl) (by decide) (fun c2 => ?_) (fun c2 => ?_)
  · replace H := H.2 c2
    refine z_iconst (pc := 21) (v := 0) C (dX3_stands 11 rfl) (by decide) ?_
    exact z_zret (pc := 22) C hr (by decide) hu1 hu2 (dX3_stands 12 rfl) ⟨rfl, _, rfl, H⟩
  · replace H := H.1 c2
    refine z_aload_n (pc := 8) C (dX3_stands 4 rfl) rfl 0 rfl ?_
    refine z_getJ (pc := 9) C zc3 h1 7 (by decide) rfl wf_X3_229 (dX3_stands 5 rfl) ?_
    refine z_lload_n (pc := 12) C (dX3_stands 6 rfl) rfl 1 rfl ?_
    refine z_lcmp (pc := 13) C (dX3_stands 7 rfl) ?_
    refine z_if_ne (pc := 14) (tgt := 21) C (dX3_stands 8 rfl) (by decide) (fun c3 => ?_) (fun c3 => ?_)
    · replace H := H.2 c3
      refine z_iconst (pc := 21) (v := 0) C (dX3_stands 11 rfl) (by decide) ?_
      exact z_zret (pc := 22) C hr (by decide) hu1 hu2 (dX3_stands 12 rfl) ⟨rfl, _, rfl, H⟩
    · replace H := H.1 c3
      refine z_iconst (pc := 17) (v := 1) C (dX3_stands 9 rfl) (by decide) ?_
      refine z_goto (pc := 18) (tgt := 22) C (dX3_stands 10 rfl) (by decide) ?_
      exact z_zret (pc := 22) C hr (by decide) hu1 hu2 (dX3_stands 12 rfl) ⟨rfl, _, rfl, H⟩
def wX3_fail (t : zT) (m : zM) (a : Nat) (p1 : Int32) (Q : Int32 → zM → Prop) : Prop := (tK t a = 3 ∧ (Q 0 (pI m a 9 p1)))
set_option maxHeartbeats 4000000 in
set_option maxRecDepth 20000 in
theorem kX3_fail {l : Launch} {t : zT} {m : zM} {a : Nat} {p1 : Int32} {Q : Int32 → zM → Prop} (H : wX3_fail t m a p1 Q) : zMet l yX3_fail cX3_fail 2 (some .boolean) 0 0 0 t m [.ref a, .int p1] (zPi t Q) := by
  refine zmet (by decide +kernel) (Nat.le_of_ble_eq_true rfl) ?_
  intro p e s mt args below meth c g C hr hm
  unfold wX3_fail at H
  have hu1 : ((0, 0) : Nat × Nat).1 ≤ 0 := Nat.le_refl 0
  have hu2 : ((0, 0) : Nat × Nat).2 ≤ 0 := Nat.le_refl 0
  refine z_aload_n (pc := 0) C (dX3_fail 0 rfl) rfl 0 rfl ?_
  refine z_iload_n (pc := 1) C (dX3_fail 1 rfl) rfl 1 rfl ?_
  obtain ⟨h1, H⟩ := H
  refine z_putI (pc := 2) C zc3 h1 9 (by decide) rfl rfl wf_X3_52 (dX3_fail 2 rfl) ?_
  refine z_iconst (pc := 5) (v := 0) C (dX3_fail 3 rfl) (by decide) ?_
  exact z_zret (pc := 6) C hr (by decide) hu1 hu2 (dX3_fail 4 rfl) ⟨rfl, _, rfl, H⟩
def wX3_hasRoom (t : zT) (m : zM) (a : Nat) (p1 : Int32) (p2 : Int32) (Q : Int32 → zM → Prop) : Prop := ((p1 < p2 → (tK t a = 3 ∧ (wX3_next t m a (fun m4 => (Q 1 m4))))) ∧ (¬ p1 < p2 → (tK t a = 3 ∧ (wX3_fail t m a 5 (fun r6 m7 => ((r6 = 0 ∨ r6 = 1) ∧ (Q r6 m7)))))))
set_option maxHeartbeats 4000000 in
set_option maxRecDepth 20000 in
theorem kX3_hasRoom {l : Launch} {t : zT} {m : zM} {a : Nat} {p1 : Int32} {p2 : Int32} {Q : Int32 → zM → Prop} (H : wX3_hasRoom t m a p1 p2 Q) : zMet l yX3_hasRoom cX3_hasRoom 3 (some .boolean) 2 0 0 t m [.ref a, .int p1, .int p2] (zPi t Q) := by
  refine zmet (by decide +kernel) (Nat.le_of_ble_eq_true rfl) ?_
  intro p e s mt args below meth c g C hr hm
  unfold wX3_hasRoom at H
  have hu1 : ((0, 0) : Nat × Nat).1 ≤ 0 := Nat.le_refl 0
  have hu2 : ((0, 0) : Nat × Nat).2 ≤ 0 := Nat.le_refl 0
  refine z_iload_n (pc := 0) C (dX3_hasRoom 0 rfl) rfl 1 rfl ?_
  refine z_iload_n (pc := 1) C (dX3_hasRoom 1 rfl) rfl 2 rfl ?_
  refine z_icmp_lt (pc := 2) (tgt := 11) C (dX3_hasRoom 2 rfl) (by decide) (fun c1 => ?_) (fun c1 => ?_)
  · replace H := H.1 c1
    refine z_aload_n (pc := 11) C (dX3_hasRoom 7 rfl) rfl 0 rfl ?_
    obtain ⟨h2, H⟩ := H
    refine zc_Vv (pc := 12) (rest := []) C YX3_next wl_X3_58 (kX3_next H) (by decide) h2 rfl (by decide) (dX3_hasRoom 8 rfl) rfl hu1 hu2 (Nat.le_of_ble_eq_true rfl) rfl (fun m4 H => ?_)
    refine z_iconst (pc := 15) (v := 1) C (dX3_hasRoom 9 rfl) (by decide) ?_
    exact z_zret (pc := 16) C hr (by decide) hu1 hu2 (dX3_hasRoom 10 rfl) ⟨rfl, _, rfl, H⟩
  · replace H := H.2 c1
    refine z_aload_n (pc := 5) C (dX3_hasRoom 3 rfl) rfl 0 rfl ?_
    refine z_iconst (pc := 6) (v := 5) C (dX3_hasRoom 4 rfl) (by decide) ?_
    obtain ⟨h5, H⟩ := H
    refine zc_Vi (pc := 7) (rest := []) C YX3_fail wl_X3_68 (kX3_fail H) (by decide) h5 rfl (by decide) (dX3_hasRoom 5 rfl) rfl hu1 hu2 (Nat.le_of_ble_eq_true rfl) rfl (fun r6 m7 H => ?_)
    obtain ⟨h8, H⟩ := H
    exact z_zret (pc := 10) C hr h8 hu1 hu2 (dX3_hasRoom 6 rfl) ⟨rfl, _, rfl, H⟩
def wX3_isName (t : zT) (m : zM) (a : Nat) (Q : Int32 → zM → Prop) : Prop := (tK t a = 3 ∧ (((gI m a 6) = 1 → (wX3_stands t m a 499967946343 (fun r3 m4 => ((r3 = 0 → (wX3_stands t m4 a 28832959090882419 (fun r6 m7 => ((r6 = 0 → (wX3_stands t m7 a 120265316263282 (fun r9 m10 => ((r9 = 0 → (wX3_stands t m10 a 7102839 (fun r12 m13 => ((r12 = 0 → (wX3_stands t m13 a 1935767923 (fun r15 m16 => ((r15 = 0 → (wX3_stands t m16 a 426953501796 (fun r18 m19 => ((r18 = 0 → (wX3_stands t m19 a 500135715180 (fun r21 m22 => ((r21 = 0 → (Q 1 m22)) ∧ (¬ r21 = 0 → (Q 0 m22)))))) ∧ (¬ r18 = 0 → (Q 0 m19)))))) ∧ (¬ r15 = 0 → (Q 0 m16)))))) ∧ (¬ r12 = 0 → (Q 0 m13)))))) ∧ (¬ r9 = 0 → (Q 0 m10)))))) ∧ (¬ r6 = 0 → (Q 0 m7)))))) ∧ (¬ r3 = 0 → (Q 0 m4)))))) ∧ (¬ (gI m a 6) = 1 → (Q 0 m))))
set_option maxHeartbeats 4000000 in
set_option maxRecDepth 20000 in
theorem kX3_isName {l : Launch} {t : zT} {m : zM} {a : Nat} {Q : Int32 → zM → Prop} (H : wX3_isName t m a Q) : zMet l yX3_isName cX3_isName 1 (some .boolean) 1 0 0 t m [.ref a] (zPi t Q) := by
  refine zmet (by decide +kernel) (Nat.le_of_ble_eq_true rfl) ?_
  intro p e s mt args below meth c g C hr hm
  unfold wX3_isName at H
  have hu1 : ((0, 0) : Nat × Nat).1 ≤ 0 := Nat.le_refl 0
  have hu2 : ((0, 0) : Nat × Nat).2 ≤ 0 := Nat.le_refl 0
  refine z_aload_n (pc := 0) C (dX3_isName 0 rfl) rfl 0 rfl ?_
  obtain ⟨h1, H⟩ := H
  refine z_getI (pc := 1) C zc3 h1 6 (by decide) rfl wf_X3_65 (dX3_isName 1 rfl) ?_
  refine z_iconst (pc := 4) (v := 1) C (dX3_isName 2 rfl) (by decide) ?_
  refine z_icmp_ne (pc := 5) (tgt := 82) C (dX3_isName 3 rfl) (by decide) (fun c2 => ?_) (fun c2 => ?_)
  · replace H := H.2 c2
    refine z_iconst (pc := 82) (v := 0) C (dX3_isName 34 rfl) (by decide) ?_
    exact z_zret (pc := 83) C hr (by decide) hu1 hu2 (dX3_isName 35 rfl) ⟨rfl, _, rfl, H⟩
  · replace H := H.1 c2
    refine z_aload_n (pc := 8) C (dX3_isName 4 rfl) rfl 0 rfl ?_
    refine z_ldc2 (pc := 9) C wj_X3_75 (dX3_isName 5 rfl) ?_
    refine zc_Vi (pc := 12) (rest := []) C YX3_stands wl_X3_77 (kX3_stands H) (by decide) h1 rfl (by decide) (dX3_isName 6 rfl) rfl hu1 hu2 (Nat.le_of_ble_eq_true rfl) rfl (fun r3 m4 H => ?_)
    refine z_if_ne (pc := 15) (tgt := 82) C (dX3_isName 7 rfl) (by decide) (fun c5 => ?_) (fun c5 => ?_)
    · replace H := H.2 c5
      refine z_iconst (pc := 82) (v := 0) C (dX3_isName 34 rfl) (by decide) ?_
      exact z_zret (pc := 83) C hr (by decide) hu1 hu2 (dX3_isName 35 rfl) ⟨rfl, _, rfl, H⟩
    · replace H := H.1 c5
      refine z_aload_n (pc := 18) C (dX3_isName 8 rfl) rfl 0 rfl ?_
      refine z_ldc2 (pc := 19) C wj_X3_88 (dX3_isName 9 rfl) ?_
      refine zc_Vi (pc := 22) (rest := []) C YX3_stands wl_X3_77 (kX3_stands H) (by decide) h1 rfl (by decide) (dX3_isName 10 rfl) rfl hu1 hu2 (Nat.le_of_ble_eq_true rfl) rfl (fun r6 m7 H => ?_)
      refine z_if_ne (pc := 25) (tgt := 82) C (dX3_isName 11 rfl) (by decide) (fun c8 => ?_) (fun c8 => ?_)
      · replace H := H.2 c8
        refine z_iconst (pc := 82) (v := 0) C (dX3_isName 34 rfl) (by decide) ?_
        exact z_zret (pc := 83) C hr (by decide) hu1 hu2 (dX3_isName 35 rfl) ⟨rfl, _, rfl, H⟩
      · replace H := H.1 c8
        refine z_aload_n (pc := 28) C (dX3_isName 12 rfl) rfl 0 rfl ?_
        refine z_ldc2 (pc := 29) C wj_X3_96 (dX3_isName 13 rfl) ?_
        refine zc_Vi (pc := 32) (rest := []) C YX3_stands wl_X3_77 (kX3_stands H) (by decide) h1 rfl (by decide) (dX3_isName 14 rfl) rfl hu1 hu2 (Nat.le_of_ble_eq_true rfl) rfl (fun r9 m10 H => ?_)
        refine z_if_ne (pc := 35) (tgt := 82) C (dX3_isName 15 rfl) (by decide) (fun c11 => ?_) (fun c11 => ?_)
        · replace H := H.2 c11
          refine z_iconst (pc := 82) (v := 0) C (dX3_isName 34 rfl) (by decide) ?_
          exact z_zret (pc := 83) C hr (by decide) hu1 hu2 (dX3_isName 35 rfl) ⟨rfl, _, rfl, H⟩
        · replace H := H.1 c11
          refine z_aload_n (pc := 38) C (dX3_isName 16 rfl) rfl 0 rfl ?_
          refine z_ldc2 (pc := 39) C wj_X3_104 (dX3_isName 17 rfl) ?_
          refine zc_Vi (pc := 42) (rest := []) C YX3_stands wl_X3_77 (kX3_stands H) (by decide) h1 rfl (by decide) (dX3_isName 18 rfl) rfl hu1 hu2 (Nat.le_of_ble_eq_true rfl) rfl (fun r12 m13 H => ?_)
          refine z_if_ne (pc := 45) (tgt := 82) C (dX3_isName 19 rfl) (by decide) (fun c14 => ?_) (fun c14 => ?_)
          · replace H := H.2 c14
            refine z_iconst (pc := 82) (v := 0) C (dX3_isName 34 rfl) (by decide) ?_
            exact z_zret (pc := 83) C hr (by decide) hu1 hu2 (dX3_isName 35 rfl) ⟨rfl, _, rfl, H⟩
          · replace H := H.1 c14
            refine z_aload_n (pc := 48) C (dX3_isName 20 rfl) rfl 0 rfl ?_
            refine z_ldc2 (pc := 49) C wj_X3_109 (dX3_isName 21 rfl) ?_
            refine zc_Vi (pc := 52) (rest := []) C YX3_stands wl_X3_77 (kX3_stands H) (by decide) h1 rfl (by decide) (dX3_isName 22 rfl) rfl hu1 hu2 (Nat.le_of_ble_eq_true rfl) rfl (fun r15 m16 H => ?_)
            refine z_if_ne (pc := 55) (tgt := 82) C (dX3_isName 23 rfl) (by decide) (fun c17 => ?_) (fun c17 => ?_)
            · replace H := H.2 c17
              refine z_iconst (pc := 82) (v := 0) C (dX3_isName 34 rfl) (by decide) ?_
              exact z_zret (pc := 83) C hr (by decide) hu1 hu2 (dX3_isName 35 rfl) ⟨rfl, _, rfl, H⟩
            · replace H := H.1 c17
              refine z_aload_n (pc := 58) C (dX3_isName 24 rfl) rfl 0 rfl ?_
              refine z_ldc2 (pc := 59) C wj_X3_117 (dX3_isName 25 rfl) ?_
              refine zc_Vi (pc := 62) (rest := []) C YX3_stands wl_X3_77 (kX3_stands H) (by decide) h1 rfl (by decide) (dX3_isName 26 rfl) rfl hu1 hu2 (Nat.le_of_ble_eq_true rfl) rfl (fun r18 m19 H => ?_)
              refine z_if_ne (pc := 65) (tgt := 82) C (dX3_isName 27 rfl) (by decide) (fun c20 => ?_) (fun c20 => ?_)
              · replace H := H.2 c20
                refine z_iconst (pc := 82) (v := 0) C (dX3_isName 34 rfl) (by decide) ?_
                exact z_zret (pc := 83) C hr (by decide) hu1 hu2 (dX3_isName 35 rfl) ⟨rfl, _, rfl, H⟩
              · replace H := H.1 c20
                refine z_aload_n (pc := 68) C (dX3_isName 28 rfl) rfl 0 rfl ?_
                refine z_ldc2 (pc := 69) C wj_X3_125 (dX3_isName 29 rfl) ?_
                refine zc_Vi (pc := 72) (rest := []) C YX3_stands wl_X3_77 (kX3_stands H) (by decide) h1 rfl (by decide) (dX3_isName 30 rfl) rfl hu1 hu2 (Nat.le_of_ble_eq_true rfl) rfl (fun r21 m22 H => ?_)
                refine z_if_ne (pc := 75) (tgt := 82) C (dX3_isName 31 rfl) (by decide) (fun c23 => ?_) (fun c23 => ?_)
                · replace H := H.2 c23
                  refine z_iconst (pc := 82) (v := 0) C (dX3_isName 34 rfl) (by decide) ?_
                  exact z_zret (pc := 83) C hr (by decide) hu1 hu2 (dX3_isName 35 rfl) ⟨rfl, _, rfl, H⟩
                · replace H := H.1 c23
                  refine z_iconst (pc := 78) (v := 1) C (dX3_isName 32 rfl) (by decide) ?_
                  refine z_goto (pc := 79) (tgt := 83) C (dX3_isName 33 rfl) (by decide) ?_
                  exact z_zret (pc := 83) C hr (by decide) hu1 hu2 (dX3_isName 35 rfl) ⟨rfl, _, rfl, H⟩
def wX3_placeOfName_L2 (t : zT) (a_0 : Nat) (Q : Int32 → zM → Prop) (k32 : zM → Prop) : Nat → Int32 → zM → Prop
  | 0, _, _ => False
  | n + 1, x_1, m => (tK t a_0 = 3 ∧ (((gI m a_0 11) ≤ x_1 → (k32 m)) ∧ (¬ (gI m a_0 11) ≤ x_1 → (tK t (gR m a_0 12) = 15 ∧ (vp_in x_1 (tL t (gR m a_0 12)) ∧ (((lg_cmp (gJ m (gR m a_0 12) x_1.toNatClampNeg) (gJ m a_0 7)) = 0 → (Q x_1 m)) ∧ (¬ (lg_cmp (gJ m (gR m a_0 12) x_1.toNatClampNeg) (gJ m a_0 7)) = 0 → (wX3_placeOfName_L2 t a_0 Q k32 n (x_1 + 1) m))))))))
set_option maxHeartbeats 4000000 in
set_option maxRecDepth 20000 in
theorem sX3_placeOfName_L2 {p : Program} {l : Launch} {e : Env} {s : State} {mt : MethodId} {args : Array Value} {below : List Frame} {meth : Method} {c : Code} {g : zG} {u : Nat × Nat} {mc ms : Nat} {t : zT} {a_0 : Nat} {Q : Int32 → zM → Prop} {k32 : zM → Prop} (C : zC p (zRm 0 mc ms) s mt args meth c g cX3_placeOfName 2 yX3_placeOfName.cls 0) (hr : meth.sig.returnType = (some .int)) (hm : meth.name = yX3_placeOfName.name) (hu1 : u.1 ≤ mc) (hu2 : u.2 ≤ ms)
    (K32 : ∀ (m : zM), k32 m → zW p l e (zRm 0 mc ms) s mt args below meth c g (MQ below (zQc g (zPi t Q)) args s mc ms (zFar g)) u 2 t m 32 [] []) : ∀ (n : Nat) (x_1 : Int32) (m : zM), wX3_placeOfName_L2 t a_0 Q k32 n x_1 m → zW p l e (zRm 0 mc ms) s mt args below meth c g (MQ below (zQc g (zPi t Q)) args s mc ms (zFar g)) u 2 t m 2 [(0, .ref a_0), (1, .int x_1)] [] := by
  intro n
  induction n with
  | zero => intro x_1 m H; exact H.elim
  | succ n ih =>
    intro x_1 m H
    simp only [wX3_placeOfName_L2] at H
    refine z_iload_n (pc := 2) C (dX3_placeOfName 2 rfl) rfl 1 rfl ?_
    refine z_aload_n (pc := 3) C (dX3_placeOfName 3 rfl) rfl 0 rfl ?_
    obtain ⟨h1, H⟩ := H
    refine z_getI (pc := 4) C zc3 h1 11 (by decide) rfl wf_X3_49 (dX3_placeOfName 4 rfl) ?_
    refine z_icmp_ge (pc := 7) (tgt := 32) C (dX3_placeOfName 5 rfl) (by decide) (fun c2 => ?_) (fun c2 => ?_)
    · replace H := H.1 c2
      refine z_sub [] rfl ?_
      exact K32 m H
    · replace H := H.2 c2
      refine z_aload_n (pc := 10) C (dX3_placeOfName 6 rfl) rfl 0 rfl ?_
      refine z_getR (pc := 11) C zc3 h1 12 (by decide) rfl wf_X3_22 (dX3_placeOfName 7 rfl) ?_
      refine z_iload_n (pc := 14) C (dX3_placeOfName 8 rfl) rfl 1 rfl ?_
      obtain ⟨h3, H⟩ := H
      obtain ⟨h4, H⟩ := H
      refine z_laload (pc := 15) C h3 h4 (dX3_placeOfName 9 rfl) ?_
      refine z_aload_n (pc := 16) C (dX3_placeOfName 10 rfl) rfl 0 rfl ?_
      refine z_getJ (pc := 17) C zc3 h1 7 (by decide) rfl wf_X3_229 (dX3_placeOfName 11 rfl) ?_
      refine z_lcmp (pc := 20) C (dX3_placeOfName 12 rfl) ?_
      refine z_if_ne (pc := 21) (tgt := 26) C (dX3_placeOfName 13 rfl) (by decide) (fun c5 => ?_) (fun c5 => ?_)
      · replace H := H.2 c5
        refine z_iinc (pc := 26) (i := 1) (v := x_1 + 1) (lv2 := [(1, .int (x_1 + 1)), (0, .ref a_0)]) C (dX3_placeOfName 16 rfl) 1 rfl (by rfl) (by decide) rfl ?_
        refine z_goto (pc := 29) (tgt := 2) C (dX3_placeOfName 17 rfl) (by decide) ?_
        refine z_sub [1, 0] rfl ?_
        exact ih (x_1 + 1) m H
      · replace H := H.1 c5
        refine z_iload_n (pc := 24) C (dX3_placeOfName 14 rfl) rfl 1 rfl ?_
        exact z_iret (pc := 25) C hr hu1 hu2 (dX3_placeOfName 15 rfl) ⟨rfl, _, rfl, H⟩
def wX3_placeOfName (t : zT) (m : zM) (a : Nat) (Q : Int32 → zM → Prop) : Prop := (∃ n7, wX3_placeOfName_L2 t a Q (fun m6 => (Q (-1) m6)) n7 0 m)
set_option maxHeartbeats 4000000 in
set_option maxRecDepth 20000 in
theorem kX3_placeOfName {l : Launch} {t : zT} {m : zM} {a : Nat} {Q : Int32 → zM → Prop} (H : wX3_placeOfName t m a Q) : zMet l yX3_placeOfName cX3_placeOfName 2 (some .int) 0 0 0 t m [.ref a] (zPi t Q) := by
  refine zmet (by decide +kernel) (Nat.le_of_ble_eq_true rfl) ?_
  intro p e s mt args below meth c g C hr hm
  unfold wX3_placeOfName at H
  have hu1 : ((0, 0) : Nat × Nat).1 ≤ 0 := Nat.le_refl 0
  have hu2 : ((0, 0) : Nat × Nat).2 ≤ 0 := Nat.le_refl 0
  refine z_iconst (pc := 0) (v := 0) C (dX3_placeOfName 0 rfl) (by decide) ?_
  refine z_istore_n (pc := 1) (i := 1) (lv2 := [(1, .int 0), (0, .ref a)]) C (dX3_placeOfName 1 rfl) rfl (by decide) rfl ?_
  obtain ⟨n7, H⟩ := H
  refine z_sub [1, 0] rfl ?_
  refine sX3_placeOfName_L2 C hr hm hu1 hu2 (fun m6 H => ?_) n7 0 m H
  refine z_iconst (pc := 32) (v := (-1)) C (dX3_placeOfName 18 rfl) (by decide) ?_
  exact z_iret (pc := 33) C hr hu1 hu2 (dX3_placeOfName 19 rfl) ⟨rfl, _, rfl, H⟩
def wX3_newName_J78 (t : zT) (m : zM) (a_0 : Nat) (Q : Int32 → zM → Prop) : Prop := (tK t a_0 = 3 ∧ (wX3_next t m a_0 (fun m11 => (Q 1 m11))))
set_option maxHeartbeats 4000000 in
set_option maxRecDepth 20000 in
theorem sX3_newName_J78 {p : Program} {l : Launch} {e : Env} {s : State} {mt : MethodId} {args : Array Value} {below : List Frame} {meth : Method} {c : Code} {g : zG} {u : Nat × Nat} {mc ms : Nat} {t : zT} {m : zM} {a_0 : Nat} {Q : Int32 → zM → Prop} (C : zC p (zRm 2 mc ms) s mt args meth c g cX3_newName 3 yX3_newName.cls 2) (hr : meth.sig.returnType = (some .boolean)) (hm : meth.name = yX3_newName.name) (hu1 : u.1 ≤ mc) (hu2 : u.2 ≤ ms) (H : wX3_newName_J78 t m a_0 Q) : zW p l e (zRm 2 mc ms) s mt args below meth c g (MQ below (zQc g (zPi t Q)) args s mc ms (zFar g)) u 3 t m 78 [(0, .ref a_0)] [] := by
  unfold wX3_newName_J78 at H
  refine z_aload_n (pc := 78) C (dX3_newName 43 rfl) rfl 0 rfl ?_
  obtain ⟨h9, H⟩ := H
  refine zc_Vv (pc := 79) (rest := []) C YX3_next wl_X3_58 (kX3_next H) (by decide) h9 rfl (by decide) (dX3_newName 44 rfl) rfl hu1 hu2 (Nat.le_of_ble_eq_true rfl) rfl (fun m11 H => ?_)
  refine z_iconst (pc := 82) (v := 1) C (dX3_newName 45 rfl) (by decide) ?_
  exact z_zret (pc := 83) C hr (by decide) hu1 hu2 (dX3_newName 46 rfl) ⟨rfl, _, rfl, H⟩
def wX3_newName (t : zT) (m : zM) (a : Nat) (p1 : Int32) (p2 : Int32) (Q : Int32 → zM → Prop) : Prop := (tK t a = 3 ∧ (wX3_isName t m a (fun r2 m3 => ((r2 = 0 → (wX3_fail t m3 a 1 (fun r21 m22 => ((r21 = 0 ∨ r21 = 1) ∧ (Q r21 m22))))) ∧ (¬ r2 = 0 → (wX3_placeOfName t m3 a (fun r5 m6 => ((r5 < 0 → (((19 : Int32) ≤ (gI m6 a 11) → (wX3_newName_J78 t m6 a Q)) ∧ (¬ (19 : Int32) ≤ (gI m6 a 11) → (tK t (gR m6 a 12) = 15 ∧ (vp_in (gI m6 a 11) (tL t (gR m6 a 12)) ∧ (tK t (gR m6 a 13) = 14 ∧ (vp_in (gI m6 a 11) (tL t (gR m6 a 13)) ∧ (tK t (gR m6 a 14) = 14 ∧ (vp_in (gI (pI (pJ m6 (gR m6 a 12) ((gI m6 a 11).toNatClampNeg) (gJ m6 a 7)) (gR m6 a 13) ((gI m6 a 11).toNatClampNeg) p1) a 11) (tL t (gR m6 a 14)) ∧ (wX3_newName_J78 t (pI (pI (pI (pJ m6 (gR m6 a 12) ((gI m6 a 11).toNatClampNeg) (gJ m6 a 7)) (gR m6 a 13) ((gI m6 a 11).toNatClampNeg) p1) (gR m6 a 14) ((gI (pI (pJ m6 (gR m6 a 12) ((gI m6 a 11).toNatClampNeg) (gJ m6 a 7)) (gR m6 a 13) ((gI m6 a 11).toNatClampNeg) p1) a 11).toNatClampNeg) p2) a 11 ((gI (pI (pI (pJ m6 (gR m6 a 12) ((gI m6 a 11).toNatClampNeg) (gJ m6 a 7)) (gR m6 a 13) ((gI m6 a 11).toNatClampNeg) p1) (gR m6 a 14) ((gI (pI (pJ m6 (gR m6 a 12) ((gI m6 a 11).toNatClampNeg) (gJ m6 a 7)) (gR m6 a 13) ((gI m6 a 11).toNatClampNeg) p1) a 11).toNatClampNeg) p2) a 11) + (1 : Int32))) a Q)))))))))) ∧ (¬ r5 < 0 → (wX3_fail t m6 a 3 (fun r18 m19 => ((r18 = 0 ∨ r18 = 1) ∧ (Q r18 m19)))))))))))))
set_option maxHeartbeats 4000000 in
set_option maxRecDepth 20000 in
theorem kX3_newName {l : Launch} {t : zT} {m : zM} {a : Nat} {p1 : Int32} {p2 : Int32} {Q : Int32 → zM → Prop} (H : wX3_newName t m a p1 p2 Q) : zMet l yX3_newName cX3_newName 3 (some .boolean) 2 0 0 t m [.ref a, .int p1, .int p2] (zPi t Q) := by
  refine zmet (by decide +kernel) (Nat.le_of_ble_eq_true rfl) ?_
  intro p e s mt args below meth c g C hr hm
  unfold wX3_newName at H
  have hu1 : ((0, 0) : Nat × Nat).1 ≤ 0 := Nat.le_refl 0
  have hu2 : ((0, 0) : Nat × Nat).2 ≤ 0 := Nat.le_refl 0
  refine z_aload_n (pc := 0) C (dX3_newName 0 rfl) rfl 0 rfl ?_
  obtain ⟨h1, H⟩ := H
  refine zc_Vi (pc := 1) (rest := []) C YX3_isName wl_X3_223 (kX3_isName H) (by decide) h1 rfl (by decide) (dX3_newName 1 rfl) rfl hu1 hu2 (Nat.le_of_ble_eq_true rfl) rfl (fun r2 m3 H => ?_)
  refine z_if_ne (pc := 4) (tgt := 13) C (dX3_newName 2 rfl) (by decide) (fun c4 => ?_) (fun c4 => ?_)
  · replace H := H.2 c4
    refine z_aload_n (pc := 13) C (dX3_newName 7 rfl) rfl 0 rfl ?_
    refine zc_Vi (pc := 14) (rest := []) C YX3_placeOfName wl_X3_226 (kX3_placeOfName H) (by decide) h1 rfl (by decide) (dX3_newName 8 rfl) rfl hu1 hu2 (Nat.le_of_ble_eq_true rfl) rfl (fun r5 m6 H => ?_)
    refine z_if_lt (pc := 17) (tgt := 26) C (dX3_newName 9 rfl) (by decide) (fun c7 => ?_) (fun c7 => ?_)
    · replace H := H.1 c7
      refine z_aload_n (pc := 26) C (dX3_newName 14 rfl) rfl 0 rfl ?_
      refine z_getI (pc := 27) C zc3 h1 11 (by decide) rfl wf_X3_49 (dX3_newName 15 rfl) ?_
      refine z_bipush (pc := 30) (v := 19) C (dX3_newName 16 rfl) (by decide) ?_
      refine z_icmp_ge (pc := 32) (tgt := 78) C (dX3_newName 17 rfl) (by decide) (fun c8 => ?_) (fun c8 => ?_)
      · replace H := H.1 c8
        refine z_sub [0] rfl ?_
        exact sX3_newName_J78 C hr hm hu1 hu2 H
      · replace H := H.2 c8
        refine z_aload_n (pc := 35) C (dX3_newName 18 rfl) rfl 0 rfl ?_
        refine z_getR (pc := 36) C zc3 h1 12 (by decide) rfl wf_X3_22 (dX3_newName 19 rfl) ?_
        refine z_aload_n (pc := 39) C (dX3_newName 20 rfl) rfl 0 rfl ?_
        refine z_getI (pc := 40) C zc3 h1 11 (by decide) rfl wf_X3_49 (dX3_newName 21 rfl) ?_
        refine z_aload_n (pc := 43) C (dX3_newName 22 rfl) rfl 0 rfl ?_
        refine z_getJ (pc := 44) C zc3 h1 7 (by decide) rfl wf_X3_229 (dX3_newName 23 rfl) ?_
        obtain ⟨h12, H⟩ := H
        obtain ⟨h13, H⟩ := H
        refine z_lastore (pc := 47) C h12 h13 (dX3_newName 24 rfl) ?_
        refine z_aload_n (pc := 48) C (dX3_newName 25 rfl) rfl 0 rfl ?_
        refine z_getR (pc := 49) C zc3 h1 13 (by decide) rfl wf_X3_26 (dX3_newName 26 rfl) ?_
        refine z_aload_n (pc := 52) C (dX3_newName 27 rfl) rfl 0 rfl ?_
        refine z_getI (pc := 53) C zc3 h1 11 (by decide) rfl wf_X3_49 (dX3_newName 28 rfl) ?_
        refine z_iload_n (pc := 56) C (dX3_newName 29 rfl) rfl 1 rfl ?_
        obtain ⟨h14, H⟩ := H
        obtain ⟨h15, H⟩ := H
        refine z_iastore (pc := 57) C h14 h15 (dX3_newName 30 rfl) ?_
        refine z_aload_n (pc := 58) C (dX3_newName 31 rfl) rfl 0 rfl ?_
        refine z_getR (pc := 59) C zc3 h1 14 (by decide) rfl wf_X3_30 (dX3_newName 32 rfl) ?_
        refine z_aload_n (pc := 62) C (dX3_newName 33 rfl) rfl 0 rfl ?_
        refine z_getI (pc := 63) C zc3 h1 11 (by decide) rfl wf_X3_49 (dX3_newName 34 rfl) ?_
        refine z_iload_n (pc := 66) C (dX3_newName 35 rfl) rfl 2 rfl ?_
        obtain ⟨h16, H⟩ := H
        obtain ⟨h17, H⟩ := H
        refine z_iastore (pc := 67) C h16 h17 (dX3_newName 36 rfl) ?_
        refine z_aload_n (pc := 68) C (dX3_newName 37 rfl) rfl 0 rfl ?_
        refine z_dup (pc := 69) C (dX3_newName 38 rfl) rfl ?_
        refine z_getI (pc := 70) C zc3 h1 11 (by decide) rfl wf_X3_49 (dX3_newName 39 rfl) ?_
        refine z_iconst (pc := 73) (v := 1) C (dX3_newName 40 rfl) (by decide) ?_
        refine z_iadd (pc := 74) C (dX3_newName 41 rfl) ?_
        refine z_putI (pc := 75) C zc3 h1 11 (by decide) rfl rfl wf_X3_49 (dX3_newName 42 rfl) ?_
        refine z_sub [0] rfl ?_
        exact sX3_newName_J78 C hr hm hu1 hu2 H
    · replace H := H.2 c7
      refine z_aload_n (pc := 20) C (dX3_newName 10 rfl) rfl 0 rfl ?_
      refine z_iconst (pc := 21) (v := 3) C (dX3_newName 11 rfl) (by decide) ?_
      refine zc_Vi (pc := 22) (rest := []) C YX3_fail wl_X3_68 (kX3_fail H) (by decide) h1 rfl (by decide) (dX3_newName 12 rfl) rfl hu1 hu2 (Nat.le_of_ble_eq_true rfl) rfl (fun r18 m19 H => ?_)
      obtain ⟨h20, H⟩ := H
      exact z_zret (pc := 25) C hr h20 hu1 hu2 (dX3_newName 13 rfl) ⟨rfl, _, rfl, H⟩
  · replace H := H.1 c4
    refine z_aload_n (pc := 7) C (dX3_newName 3 rfl) rfl 0 rfl ?_
    refine z_iconst (pc := 8) (v := 1) C (dX3_newName 4 rfl) (by decide) ?_
    refine zc_Vi (pc := 9) (rest := []) C YX3_fail wl_X3_68 (kX3_fail H) (by decide) h1 rfl (by decide) (dX3_newName 5 rfl) rfl hu1 hu2 (Nat.le_of_ble_eq_true rfl) rfl (fun r21 m22 H => ?_)
    obtain ⟨h23, H⟩ := H
    exact z_zret (pc := 12) C hr h23 hu1 hu2 (dX3_newName 6 rfl) ⟨rfl, _, rfl, H⟩
def wX3_passWord (t : zT) (m : zM) (a : Nat) (p1 : Int64) (Q : Int32 → zM → Prop) : Prop := (tK t a = 3 ∧ (wX3_stands t m a p1 (fun r2 m3 => ((r2 = 0 → (wX3_fail t m3 a 1 (fun r7 m8 => ((r7 = 0 ∨ r7 = 1) ∧ (Q r7 m8))))) ∧ (¬ r2 = 0 → (wX3_next t m3 a (fun m6 => (Q 1 m6))))))))
set_option maxHeartbeats 4000000 in
set_option maxRecDepth 20000 in
theorem kX3_passWord {l : Launch} {t : zT} {m : zM} {a : Nat} {p1 : Int64} {Q : Int32 → zM → Prop} (H : wX3_passWord t m a p1 Q) : zMet l yX3_passWord cX3_passWord 3 (some .boolean) 2 0 0 t m [.ref a, .long p1] (zPi t Q) := by
  refine zmet (by decide +kernel) (Nat.le_of_ble_eq_true rfl) ?_
  intro p e s mt args below meth c g C hr hm
  unfold wX3_passWord at H
  have hu1 : ((0, 0) : Nat × Nat).1 ≤ 0 := Nat.le_refl 0
  have hu2 : ((0, 0) : Nat × Nat).2 ≤ 0 := Nat.le_refl 0
  refine z_aload_n (pc := 0) C (dX3_passWord 0 rfl) rfl 0 rfl ?_
  refine z_lload_n (pc := 1) C (dX3_passWord 1 rfl) rfl 1 rfl ?_
  obtain ⟨h1, H⟩ := H
  refine zc_Vi (pc := 2) (rest := []) C YX3_stands wl_X3_77 (kX3_stands H) (by decide) h1 rfl (by decide) (dX3_passWord 2 rfl) rfl hu1 hu2 (Nat.le_of_ble_eq_true rfl) rfl (fun r2 m3 H => ?_)
  refine z_if_ne (pc := 5) (tgt := 14) C (dX3_passWord 3 rfl) (by decide) (fun c4 => ?_) (fun c4 => ?_)
  · replace H := H.2 c4
    refine z_aload_n (pc := 14) C (dX3_passWord 8 rfl) rfl 0 rfl ?_
    refine zc_Vv (pc := 15) (rest := []) C YX3_next wl_X3_58 (kX3_next H) (by decide) h1 rfl (by decide) (dX3_passWord 9 rfl) rfl hu1 hu2 (Nat.le_of_ble_eq_true rfl) rfl (fun m6 H => ?_)
    refine z_iconst (pc := 18) (v := 1) C (dX3_passWord 10 rfl) (by decide) ?_
    exact z_zret (pc := 19) C hr (by decide) hu1 hu2 (dX3_passWord 11 rfl) ⟨rfl, _, rfl, H⟩
  · replace H := H.1 c4
    refine z_aload_n (pc := 8) C (dX3_passWord 4 rfl) rfl 0 rfl ?_
    refine z_iconst (pc := 9) (v := 1) C (dX3_passWord 5 rfl) (by decide) ?_
    refine zc_Vi (pc := 10) (rest := []) C YX3_fail wl_X3_68 (kX3_fail H) (by decide) h1 rfl (by decide) (dX3_passWord 6 rfl) rfl hu1 hu2 (Nat.le_of_ble_eq_true rfl) rfl (fun r7 m8 H => ?_)
    obtain ⟨h9, H⟩ := H
    exact z_zret (pc := 13) C hr h9 hu1 hu2 (dX3_passWord 7 rfl) ⟨rfl, _, rfl, H⟩
def wX3_isWhole_J30 (t : zT) (m : zM) (a_0 : Nat) (Q : Int32 → zM → Prop) : Prop := (tK t a_0 = 3 ∧ (wX3_fail t m a_0 4 (fun r5 m6 => ((r5 = 0 → (Q 0 m6)) ∧ (¬ r5 = 0 → (Q 1 m6))))))
set_option maxHeartbeats 4000000 in
set_option maxRecDepth 20000 in
theorem sX3_isWhole_J30 {p : Program} {l : Launch} {e : Env} {s : State} {mt : MethodId} {args : Array Value} {below : List Frame} {meth : Method} {c : Code} {g : zG} {u : Nat × Nat} {mc ms : Nat} {t : zT} {m : zM} {a_0 : Nat} {Q : Int32 → zM → Prop} (C : zC p (zRm 1 mc ms) s mt args meth c g cX3_isWhole 3 yX3_isWhole.cls 1) (hr : meth.sig.returnType = (some .boolean)) (hm : meth.name = yX3_isWhole.name) (hu1 : u.1 ≤ mc) (hu2 : u.2 ≤ ms) (H : wX3_isWhole_J30 t m a_0 Q) : zW p l e (zRm 1 mc ms) s mt args below meth c g (MQ below (zQc g (zPi t Q)) args s mc ms (zFar g)) u 3 t m 30 [(0, .ref a_0)] [] := by
  unfold wX3_isWhole_J30 at H
  refine z_aload_n (pc := 30) C (dX3_isWhole 16 rfl) rfl 0 rfl ?_
  refine z_iconst (pc := 31) (v := 4) C (dX3_isWhole 17 rfl) (by decide) ?_
  obtain ⟨h4, H⟩ := H
  refine zc_Vi (pc := 32) (rest := []) C YX3_fail wl_X3_68 (kX3_fail H) (by decide) h4 rfl (by decide) (dX3_isWhole 18 rfl) rfl hu1 hu2 (Nat.le_of_ble_eq_true rfl) rfl (fun r5 m6 H => ?_)
  refine z_if_eq (pc := 35) (tgt := 42) C (dX3_isWhole 19 rfl) (by decide) (fun c7 => ?_) (fun c7 => ?_)
  · replace H := H.1 c7
    refine z_iconst (pc := 42) (v := 0) C (dX3_isWhole 22 rfl) (by decide) ?_
    exact z_zret (pc := 43) C hr (by decide) hu1 hu2 (dX3_isWhole 23 rfl) ⟨rfl, _, rfl, H⟩
  · replace H := H.2 c7
    refine z_iconst (pc := 38) (v := 1) C (dX3_isWhole 20 rfl) (by decide) ?_
    refine z_goto (pc := 39) (tgt := 43) C (dX3_isWhole 21 rfl) (by decide) ?_
    exact z_zret (pc := 43) C hr (by decide) hu1 hu2 (dX3_isWhole 23 rfl) ⟨rfl, _, rfl, H⟩
def wX3_isWhole (t : zT) (m : zM) (a : Nat) (p1 : Int32) (p2 : Int32) (Q : Int32 → zM → Prop) : Prop := (tK t a = 3 ∧ (((gI m a 6) = 2 → (((gI m a 8) < p1 → (wX3_isWhole_J30 t m a Q)) ∧ (¬ (gI m a 8) < p1 → (((gI m a 8) ≤ p2 → (Q 1 m)) ∧ (¬ (gI m a 8) ≤ p2 → (wX3_isWhole_J30 t m a Q)))))) ∧ (¬ (gI m a 6) = 2 → (wX3_fail t m a 1 (fun r9 m10 => ((r9 = 0 ∨ r9 = 1) ∧ (Q r9 m10)))))))
set_option maxHeartbeats 4000000 in
set_option maxRecDepth 20000 in
theorem kX3_isWhole {l : Launch} {t : zT} {m : zM} {a : Nat} {p1 : Int32} {p2 : Int32} {Q : Int32 → zM → Prop} (H : wX3_isWhole t m a p1 p2 Q) : zMet l yX3_isWhole cX3_isWhole 3 (some .boolean) 1 0 0 t m [.ref a, .int p1, .int p2] (zPi t Q) := by
  refine zmet (by decide +kernel) (Nat.le_of_ble_eq_true rfl) ?_
  intro p e s mt args below meth c g C hr hm
  unfold wX3_isWhole at H
  have hu1 : ((0, 0) : Nat × Nat).1 ≤ 0 := Nat.le_refl 0
  have hu2 : ((0, 0) : Nat × Nat).2 ≤ 0 := Nat.le_refl 0
  refine z_aload_n (pc := 0) C (dX3_isWhole 0 rfl) rfl 0 rfl ?_
  obtain ⟨h1, H⟩ := H
  refine z_getI (pc := 1) C zc3 h1 6 (by decide) rfl wf_X3_65 (dX3_isWhole 1 rfl) ?_
  refine z_iconst (pc := 4) (v := 2) C (dX3_isWhole 2 rfl) (by decide) ?_
  refine z_icmp_eq (pc := 5) (tgt := 14) C (dX3_isWhole 3 rfl) (by decide) (fun c2 => ?_) (fun c2 => ?_)
  · replace H := H.1 c2
    refine z_aload_n (pc := 14) C (dX3_isWhole 8 rfl) rfl 0 rfl ?_
    refine z_getI (pc := 15) C zc3 h1 8 (by decide) rfl wf_X3_144 (dX3_isWhole 9 rfl) ?_
    refine z_iload_n (pc := 18) C (dX3_isWhole 10 rfl) rfl 1 rfl ?_
    refine z_icmp_lt (pc := 19) (tgt := 30) C (dX3_isWhole 11 rfl) (by decide) (fun c3 => ?_) (fun c3 => ?_)
    · replace H := H.1 c3
      refine z_sub [0] rfl ?_
      exact sX3_isWhole_J30 C hr hm hu1 hu2 H
    · replace H := H.2 c3
      refine z_aload_n (pc := 22) C (dX3_isWhole 12 rfl) rfl 0 rfl ?_
      refine z_getI (pc := 23) C zc3 h1 8 (by decide) rfl wf_X3_144 (dX3_isWhole 13 rfl) ?_
      refine z_iload_n (pc := 26) C (dX3_isWhole 14 rfl) rfl 2 rfl ?_
      refine z_icmp_le (pc := 27) (tgt := 38) C (dX3_isWhole 15 rfl) (by decide) (fun c8 => ?_) (fun c8 => ?_)
      · replace H := H.1 c8
        refine z_iconst (pc := 38) (v := 1) C (dX3_isWhole 20 rfl) (by decide) ?_
        refine z_goto (pc := 39) (tgt := 43) C (dX3_isWhole 21 rfl) (by decide) ?_
        exact z_zret (pc := 43) C hr (by decide) hu1 hu2 (dX3_isWhole 23 rfl) ⟨rfl, _, rfl, H⟩
      · replace H := H.2 c8
        refine z_sub [0] rfl ?_
        exact sX3_isWhole_J30 C hr hm hu1 hu2 H
  · replace H := H.2 c2
    refine z_aload_n (pc := 8) C (dX3_isWhole 4 rfl) rfl 0 rfl ?_
    refine z_iconst (pc := 9) (v := 1) C (dX3_isWhole 5 rfl) (by decide) ?_
    refine zc_Vi (pc := 10) (rest := []) C YX3_fail wl_X3_68 (kX3_fail H) (by decide) h1 rfl (by decide) (dX3_isWhole 6 rfl) rfl hu1 hu2 (Nat.le_of_ble_eq_true rfl) rfl (fun r9 m10 H => ?_)
    obtain ⟨h11, H⟩ := H
    exact z_zret (pc := 13) C hr h11 hu1 hu2 (dX3_isWhole 7 rfl) ⟨rfl, _, rfl, H⟩
def wX3_readThing (t : zT) (m : zM) (a : Nat) (Q : Int32 → zM → Prop) : Prop := (tK t a = 3 ∧ (tK t (gR m a 4) = 5 ∧ (wX3_newName t m a 0 (gI m (gR m a 4) 0) (fun r3 m4 => ((r3 = 0 → (Q 0 m4)) ∧ (¬ r3 = 0 → (wX3_passWord t m4 a 27424514944365171 (fun r6 m7 => ((r6 = 0 → (Q 0 m7)) ∧ (¬ r6 = 0 → (wX3_isWhole t m7 a 2 4 (fun r9 m10 => ((r9 = 0 → (Q 0 m10)) ∧ (¬ r9 = 0 → (tK t (gR m10 a 4) = 5 ∧ ((((gI m10 (gR m10 a 4) 2) * (gI m10 a 8)) ≤ 4096 → (tK t (gR m10 (gR m10 a 4) 1) = 14 ∧ (vp_in (gI m10 (gR m10 a 4) 0) (tL t (gR m10 (gR m10 a 4) 1)) ∧ (wX3_next t (pI (pI (pI m10 (gR m10 (gR m10 a 4) 1) ((gI m10 (gR m10 a 4) 0).toNatClampNeg) (gI m10 a 8)) (gR m10 a 4) 2 ((gI (pI m10 (gR m10 (gR m10 a 4) 1) ((gI m10 (gR m10 a 4) 0).toNatClampNeg) (gI m10 a 8)) (gR m10 a 4) 2) * (gI (pI m10 (gR m10 (gR m10 a 4) 1) ((gI m10 (gR m10 a 4) 0).toNatClampNeg) (gI m10 a 8)) a 8))) (gR m10 a 4) 0 ((gI (pI (pI m10 (gR m10 (gR m10 a 4) 1) ((gI m10 (gR m10 a 4) 0).toNatClampNeg) (gI m10 a 8)) (gR m10 a 4) 2 ((gI (pI m10 (gR m10 (gR m10 a 4) 1) ((gI m10 (gR m10 a 4) 0).toNatClampNeg) (gI m10 a 8)) (gR m10 a 4) 2) * (gI (pI m10 (gR m10 (gR m10 a 4) 1) ((gI m10 (gR m10 a 4) 0).toNatClampNeg) (gI m10 a 8)) a 8))) (gR m10 a 4) 0) + (1 : Int32))) a (fun m17 => (Q 1 m17)))))) ∧ (¬ ((gI m10 (gR m10 a 4) 2) * (gI m10 a 8)) ≤ 4096 → (wX3_fail t m10 a 7 (fun r18 m19 => ((r18 = 0 ∨ r18 = 1) ∧ (Q r18 m19)))))))))))))))))))))
set_option maxHeartbeats 4000000 in
set_option maxRecDepth 20000 in
theorem kX3_readThing {l : Launch} {t : zT} {m : zM} {a : Nat} {Q : Int32 → zM → Prop} (H : wX3_readThing t m a Q) : zMet l yX3_readThing cX3_readThing 1 (some .boolean) 3 0 0 t m [.ref a] (zPi t Q) := by
  refine zmet (by decide +kernel) (Nat.le_of_ble_eq_true rfl) ?_
  intro p e s mt args below meth c g C hr hm
  unfold wX3_readThing at H
  have hu1 : ((0, 0) : Nat × Nat).1 ≤ 0 := Nat.le_refl 0
  have hu2 : ((0, 0) : Nat × Nat).2 ≤ 0 := Nat.le_refl 0
  refine z_aload_n (pc := 0) C (dX3_readThing 0 rfl) rfl 0 rfl ?_
  refine z_iconst (pc := 1) (v := 0) C (dX3_readThing 1 rfl) (by decide) ?_
  refine z_aload_n (pc := 2) C (dX3_readThing 2 rfl) rfl 0 rfl ?_
  obtain ⟨h1, H⟩ := H
  refine z_getR (pc := 3) C zc3 h1 4 (by decide) rfl wf_X3_18 (dX3_readThing 3 rfl) ?_
  obtain ⟨h2, H⟩ := H
  refine z_getI (pc := 6) C zc5 h2 0 (by decide) rfl wf_X3_72 (dX3_readThing 4 rfl) ?_
  refine zc_Vi (pc := 9) (rest := []) C YX3_newName wl_X3_130 (kX3_newName H) (by decide) h1 rfl (by decide) (dX3_readThing 5 rfl) rfl hu1 hu2 (Nat.le_of_ble_eq_true rfl) rfl (fun r3 m4 H => ?_)
  refine z_if_eq (pc := 12) (tgt := 34) C (dX3_readThing 6 rfl) (by decide) (fun c5 => ?_) (fun c5 => ?_)
  · replace H := H.1 c5
    refine z_iconst (pc := 34) (v := 0) C (dX3_readThing 16 rfl) (by decide) ?_
    exact z_zret (pc := 35) C hr (by decide) hu1 hu2 (dX3_readThing 17 rfl) ⟨rfl, _, rfl, H⟩
  · replace H := H.2 c5
    refine z_aload_n (pc := 15) C (dX3_readThing 7 rfl) rfl 0 rfl ?_
    refine z_ldc2 (pc := 16) C wj_X3_133 (dX3_readThing 8 rfl) ?_
    refine zc_Vi (pc := 19) (rest := []) C YX3_passWord wl_X3_135 (kX3_passWord H) (by decide) h1 rfl (by decide) (dX3_readThing 9 rfl) rfl hu1 hu2 (Nat.le_of_ble_eq_true rfl) rfl (fun r6 m7 H => ?_)
    refine z_if_eq (pc := 22) (tgt := 34) C (dX3_readThing 10 rfl) (by decide) (fun c8 => ?_) (fun c8 => ?_)
    · replace H := H.1 c8
      refine z_iconst (pc := 34) (v := 0) C (dX3_readThing 16 rfl) (by decide) ?_
      exact z_zret (pc := 35) C hr (by decide) hu1 hu2 (dX3_readThing 17 rfl) ⟨rfl, _, rfl, H⟩
    · replace H := H.2 c8
      refine z_aload_n (pc := 25) C (dX3_readThing 11 rfl) rfl 0 rfl ?_
      refine z_iconst (pc := 26) (v := 2) C (dX3_readThing 12 rfl) (by decide) ?_
      refine z_iconst (pc := 27) (v := 4) C (dX3_readThing 13 rfl) (by decide) ?_
      refine zc_Vi (pc := 28) (rest := []) C YX3_isWhole wl_X3_138 (kX3_isWhole H) (by decide) h1 rfl (by decide) (dX3_readThing 14 rfl) rfl hu1 hu2 (Nat.le_of_ble_eq_true rfl) rfl (fun r9 m10 H => ?_)
      refine z_if_ne (pc := 31) (tgt := 36) C (dX3_readThing 15 rfl) (by decide) (fun c11 => ?_) (fun c11 => ?_)
      · replace H := H.2 c11
        refine z_aload_n (pc := 36) C (dX3_readThing 18 rfl) rfl 0 rfl ?_
        refine z_getR (pc := 37) C zc3 h1 4 (by decide) rfl wf_X3_18 (dX3_readThing 19 rfl) ?_
        obtain ⟨h12, H⟩ := H
        refine z_getI (pc := 40) C zc5 h12 2 (by decide) rfl wf_X3_141 (dX3_readThing 20 rfl) ?_
        refine z_aload_n (pc := 43) C (dX3_readThing 21 rfl) rfl 0 rfl ?_
        refine z_getI (pc := 44) C zc3 h1 8 (by decide) rfl wf_X3_144 (dX3_readThing 22 rfl) ?_
        refine z_imul (pc := 47) C (dX3_readThing 23 rfl) ?_
        refine z_sipush (pc := 48) (v := 4096) C (dX3_readThing 24 rfl) (by decide) ?_
        refine z_icmp_le (pc := 51) (tgt := 61) C (dX3_readThing 25 rfl) (by decide) (fun c13 => ?_) (fun c13 => ?_)
        · replace H := H.1 c13
          refine z_aload_n (pc := 61) C (dX3_readThing 30 rfl) rfl 0 rfl ?_
          refine z_getR (pc := 62) C zc3 h1 4 (by decide) rfl wf_X3_18 (dX3_readThing 31 rfl) ?_
          refine z_getR (pc := 65) C zc5 h12 1 (by decide) rfl wf_X3_147 (dX3_readThing 32 rfl) ?_
          refine z_aload_n (pc := 68) C (dX3_readThing 33 rfl) rfl 0 rfl ?_
          refine z_getR (pc := 69) C zc3 h1 4 (by decide) rfl wf_X3_18 (dX3_readThing 34 rfl) ?_
          refine z_getI (pc := 72) C zc5 h12 0 (by decide) rfl wf_X3_72 (dX3_readThing 35 rfl) ?_
          refine z_aload_n (pc := 75) C (dX3_readThing 36 rfl) rfl 0 rfl ?_
          refine z_getI (pc := 76) C zc3 h1 8 (by decide) rfl wf_X3_144 (dX3_readThing 37 rfl) ?_
          obtain ⟨h14, H⟩ := H
          obtain ⟨h15, H⟩ := H
          refine z_iastore (pc := 79) C h14 h15 (dX3_readThing 38 rfl) ?_
          refine z_aload_n (pc := 80) C (dX3_readThing 39 rfl) rfl 0 rfl ?_
          refine z_getR (pc := 81) C zc3 h1 4 (by decide) rfl wf_X3_18 (dX3_readThing 40 rfl) ?_
          refine z_dup (pc := 84) C (dX3_readThing 41 rfl) rfl ?_
          refine z_getI (pc := 85) C zc5 h12 2 (by decide) rfl wf_X3_141 (dX3_readThing 42 rfl) ?_
          refine z_aload_n (pc := 88) C (dX3_readThing 43 rfl) rfl 0 rfl ?_
          refine z_getI (pc := 89) C zc3 h1 8 (by decide) rfl wf_X3_144 (dX3_readThing 44 rfl) ?_
          refine z_imul (pc := 92) C (dX3_readThing 45 rfl) ?_
          refine z_putI (pc := 93) C zc5 h12 2 (by decide) rfl rfl wf_X3_141 (dX3_readThing 46 rfl) ?_
          refine z_aload_n (pc := 96) C (dX3_readThing 47 rfl) rfl 0 rfl ?_
          refine z_getR (pc := 97) C zc3 h1 4 (by decide) rfl wf_X3_18 (dX3_readThing 48 rfl) ?_
          refine z_dup (pc := 100) C (dX3_readThing 49 rfl) rfl ?_
          refine z_getI (pc := 101) C zc5 h12 0 (by decide) rfl wf_X3_72 (dX3_readThing 50 rfl) ?_
          refine z_iconst (pc := 104) (v := 1) C (dX3_readThing 51 rfl) (by decide) ?_
          refine z_iadd (pc := 105) C (dX3_readThing 52 rfl) ?_
          refine z_putI (pc := 106) C zc5 h12 0 (by decide) rfl rfl wf_X3_72 (dX3_readThing 53 rfl) ?_
          refine z_aload_n (pc := 109) C (dX3_readThing 54 rfl) rfl 0 rfl ?_
          refine zc_Vv (pc := 110) (rest := []) C YX3_next wl_X3_58 (kX3_next H) (by decide) h1 rfl (by decide) (dX3_readThing 55 rfl) rfl hu1 hu2 (Nat.le_of_ble_eq_true rfl) rfl (fun m17 H => ?_)
          refine z_iconst (pc := 113) (v := 1) C (dX3_readThing 56 rfl) (by decide) ?_
          exact z_zret (pc := 114) C hr (by decide) hu1 hu2 (dX3_readThing 57 rfl) ⟨rfl, _, rfl, H⟩
        · replace H := H.2 c13
          refine z_aload_n (pc := 54) C (dX3_readThing 26 rfl) rfl 0 rfl ?_
          refine z_bipush (pc := 55) (v := 7) C (dX3_readThing 27 rfl) (by decide) ?_
          refine zc_Vi (pc := 57) (rest := []) C YX3_fail wl_X3_68 (kX3_fail H) (by decide) h1 rfl (by decide) (dX3_readThing 28 rfl) rfl hu1 hu2 (Nat.le_of_ble_eq_true rfl) rfl (fun r18 m19 H => ?_)
          obtain ⟨h20, H⟩ := H
          exact z_zret (pc := 60) C hr h20 hu1 hu2 (dX3_readThing 29 rfl) ⟨rfl, _, rfl, H⟩
      · replace H := H.1 c11
        refine z_iconst (pc := 34) (v := 0) C (dX3_readThing 16 rfl) (by decide) ?_
        exact z_zret (pc := 35) C hr (by decide) hu1 hu2 (dX3_readThing 17 rfl) ⟨rfl, _, rfl, H⟩
def wX3_isNameOf_J32 (t : zT) (m : zM) (a_0 : Nat) (Q : Int32 → zM → Prop) : Prop := (tK t a_0 = 3 ∧ (wX3_fail t m a_0 2 (fun r9 m10 => ((r9 = 0 ∨ r9 = 1) ∧ (Q r9 m10)))))
set_option maxHeartbeats 4000000 in
set_option maxRecDepth 20000 in
theorem sX3_isNameOf_J32 {p : Program} {l : Launch} {e : Env} {s : State} {mt : MethodId} {args : Array Value} {below : List Frame} {meth : Method} {c : Code} {g : zG} {u : Nat × Nat} {mc ms : Nat} {t : zT} {m : zM} {a_0 : Nat} {Q : Int32 → zM → Prop} (C : zC p (zRm 2 mc ms) s mt args meth c g cX3_isNameOf 3 yX3_isNameOf.cls 2) (hr : meth.sig.returnType = (some .boolean)) (hm : meth.name = yX3_isNameOf.name) (hu1 : u.1 ≤ mc) (hu2 : u.2 ≤ ms) (H : wX3_isNameOf_J32 t m a_0 Q) : zW p l e (zRm 2 mc ms) s mt args below meth c g (MQ below (zQc g (zPi t Q)) args s mc ms (zFar g)) u 3 t m 32 [(0, .ref a_0)] [] := by
  unfold wX3_isNameOf_J32 at H
  refine z_aload_n (pc := 32) C (dX3_isNameOf 18 rfl) rfl 0 rfl ?_
  refine z_iconst (pc := 33) (v := 2) C (dX3_isNameOf 19 rfl) (by decide) ?_
  obtain ⟨h8, H⟩ := H
  refine zc_Vi (pc := 34) (rest := []) C YX3_fail wl_X3_68 (kX3_fail H) (by decide) h8 rfl (by decide) (dX3_isNameOf 20 rfl) rfl hu1 hu2 (Nat.le_of_ble_eq_true rfl) rfl (fun r9 m10 H => ?_)
  obtain ⟨h11, H⟩ := H
  exact z_zret (pc := 37) C hr h11 hu1 hu2 (dX3_isNameOf 21 rfl) ⟨rfl, _, rfl, H⟩
def wX3_isNameOf (t : zT) (m : zM) (a : Nat) (p1 : Int32) (Q : Int32 → zM → Prop) : Prop := (tK t a = 3 ∧ (wX3_isName t m a (fun r2 m3 => ((r2 = 0 → (wX3_fail t m3 a 1 (fun r17 m18 => ((r17 = 0 ∨ r17 = 1) ∧ (Q r17 m18))))) ∧ (¬ r2 = 0 → (wX3_placeOfName t m3 a (fun r5 m6 => ((r5 < 0 → (wX3_isNameOf_J32 t m6 a Q)) ∧ (¬ r5 < 0 → (tK t (gR m6 a 13) = 14 ∧ (vp_in r5 (tL t (gR m6 a 13)) ∧ (((gI m6 (gR m6 a 13) r5.toNatClampNeg) = p1 → (tK t (gR m6 a 14) = 14 ∧ (vp_in r5 (tL t (gR m6 a 14)) ∧ (Q 1 (pI m6 a 10 (gI m6 (gR m6 a 14) r5.toNatClampNeg)))))) ∧ (¬ (gI m6 (gR m6 a 13) r5.toNatClampNeg) = p1 → (wX3_isNameOf_J32 t m6 a Q))))))))))))))
set_option maxHeartbeats 4000000 in
set_option maxRecDepth 20000 in
theorem kX3_isNameOf {l : Launch} {t : zT} {m : zM} {a : Nat} {p1 : Int32} {Q : Int32 → zM → Prop} (H : wX3_isNameOf t m a p1 Q) : zMet l yX3_isNameOf cX3_isNameOf 3 (some .boolean) 2 0 0 t m [.ref a, .int p1] (zPi t Q) := by
  refine zmet (by decide +kernel) (Nat.le_of_ble_eq_true rfl) ?_
  intro p e s mt args below meth c g C hr hm
  unfold wX3_isNameOf at H
  have hu1 : ((0, 0) : Nat × Nat).1 ≤ 0 := Nat.le_refl 0
  have hu2 : ((0, 0) : Nat × Nat).2 ≤ 0 := Nat.le_refl 0
  refine z_aload_n (pc := 0) C (dX3_isNameOf 0 rfl) rfl 0 rfl ?_
  obtain ⟨h1, H⟩ := H
  refine zc_Vi (pc := 1) (rest := []) C YX3_isName wl_X3_223 (kX3_isName H) (by decide) h1 rfl (by decide) (dX3_isNameOf 1 rfl) rfl hu1 hu2 (Nat.le_of_ble_eq_true rfl) rfl (fun r2 m3 H => ?_)
  refine z_if_ne (pc := 4) (tgt := 13) C (dX3_isNameOf 2 rfl) (by decide) (fun c4 => ?_) (fun c4 => ?_)
  · replace H := H.2 c4
    refine z_aload_n (pc := 13) C (dX3_isNameOf 7 rfl) rfl 0 rfl ?_
    refine zc_Vi (pc := 14) (rest := []) C YX3_placeOfName wl_X3_226 (kX3_placeOfName H) (by decide) h1 rfl (by decide) (dX3_isNameOf 8 rfl) rfl hu1 hu2 (Nat.le_of_ble_eq_true rfl) rfl (fun r5 m6 H => ?_)
    refine z_istore_n (pc := 17) (i := 2) (lv2 := [(2, .int r5), (0, .ref a), (1, .int p1)]) C (dX3_isNameOf 9 rfl) rfl (by decide) rfl ?_
    refine z_iload_n (pc := 18) C (dX3_isNameOf 10 rfl) rfl 0 rfl ?_
    refine z_if_lt (pc := 19) (tgt := 32) C (dX3_isNameOf 11 rfl) (by decide) (fun c7 => ?_) (fun c7 => ?_)
    · replace H := H.1 c7
      refine z_sub [1] rfl ?_
      exact sX3_isNameOf_J32 C hr hm hu1 hu2 H
    · replace H := H.2 c7
      refine z_aload_n (pc := 22) C (dX3_isNameOf 12 rfl) rfl 1 rfl ?_
      refine z_getR (pc := 23) C zc3 h1 13 (by decide) rfl wf_X3_26 (dX3_isNameOf 13 rfl) ?_
      refine z_iload_n (pc := 26) C (dX3_isNameOf 14 rfl) rfl 0 rfl ?_
      obtain ⟨h12, H⟩ := H
      obtain ⟨h13, H⟩ := H
      refine z_iaload (pc := 27) C h12 h13 (dX3_isNameOf 15 rfl) ?_
      refine z_iload_n (pc := 28) C (dX3_isNameOf 16 rfl) rfl 2 rfl ?_
      refine z_icmp_eq (pc := 29) (tgt := 38) C (dX3_isNameOf 17 rfl) (by decide) (fun c14 => ?_) (fun c14 => ?_)
      · replace H := H.1 c14
        refine z_aload_n (pc := 38) C (dX3_isNameOf 22 rfl) rfl 1 rfl ?_
        refine z_aload_n (pc := 39) C (dX3_isNameOf 23 rfl) rfl 1 rfl ?_
        refine z_getR (pc := 40) C zc3 h1 14 (by decide) rfl wf_X3_30 (dX3_isNameOf 24 rfl) ?_
        refine z_iload_n (pc := 43) C (dX3_isNameOf 25 rfl) rfl 0 rfl ?_
        obtain ⟨h15, H⟩ := H
        obtain ⟨h16, H⟩ := H
        refine z_iaload (pc := 44) C h15 h16 (dX3_isNameOf 26 rfl) ?_
        refine z_putI (pc := 45) C zc3 h1 10 (by decide) rfl rfl wf_X3_156 (dX3_isNameOf 27 rfl) ?_
        refine z_iconst (pc := 48) (v := 1) C (dX3_isNameOf 28 rfl) (by decide) ?_
        exact z_zret (pc := 49) C hr (by decide) hu1 hu2 (dX3_isNameOf 29 rfl) ⟨rfl, _, rfl, H⟩
      · replace H := H.2 c14
        refine z_sub [1] rfl ?_
        exact sX3_isNameOf_J32 C hr hm hu1 hu2 H
  · replace H := H.1 c4
    refine z_aload_n (pc := 7) C (dX3_isNameOf 3 rfl) rfl 0 rfl ?_
    refine z_iconst (pc := 8) (v := 1) C (dX3_isNameOf 4 rfl) (by decide) ?_
    refine zc_Vi (pc := 9) (rest := []) C YX3_fail wl_X3_68 (kX3_fail H) (by decide) h1 rfl (by decide) (dX3_isNameOf 5 rfl) rfl hu1 hu2 (Nat.le_of_ble_eq_true rfl) rfl (fun r17 m18 H => ?_)
    obtain ⟨h19, H⟩ := H
    exact z_zret (pc := 12) C hr h19 hu1 hu2 (dX3_isNameOf 6 rfl) ⟨rfl, _, rfl, H⟩
def wX3_isAnswerOf (t : zT) (m : zM) (a : Nat) (p1 : Int32) (Q : Int32 → zM → Prop) : Prop := (tK t a = 3 ∧ (tK t (gR m a 4) = 5 ∧ (tK t (gR m (gR m a 4) 1) = 14 ∧ (vp_in p1 (tL t (gR m (gR m a 4) 1)) ∧ (wX3_isWhole t m a 0 ((gI m (gR m (gR m a 4) 1) p1.toNatClampNeg) - (1 : Int32)) (fun r5 m6 => ((r5 = 0 ∨ r5 = 1) ∧ (Q r5 m6))))))))
set_option maxHeartbeats 4000000 in
set_option maxRecDepth 20000 in
theorem kX3_isAnswerOf {l : Launch} {t : zT} {m : zM} {a : Nat} {p1 : Int32} {Q : Int32 → zM → Prop} (H : wX3_isAnswerOf t m a p1 Q) : zMet l yX3_isAnswerOf cX3_isAnswerOf 2 (some .boolean) 2 0 0 t m [.ref a, .int p1] (zPi t Q) := by
  refine zmet (by decide +kernel) (Nat.le_of_ble_eq_true rfl) ?_
  intro p e s mt args below meth c g C hr hm
  unfold wX3_isAnswerOf at H
  have hu1 : ((0, 0) : Nat × Nat).1 ≤ 0 := Nat.le_refl 0
  have hu2 : ((0, 0) : Nat × Nat).2 ≤ 0 := Nat.le_refl 0
  refine z_aload_n (pc := 0) C (dX3_isAnswerOf 0 rfl) rfl 0 rfl ?_
  refine z_iconst (pc := 1) (v := 0) C (dX3_isAnswerOf 1 rfl) (by decide) ?_
  refine z_aload_n (pc := 2) C (dX3_isAnswerOf 2 rfl) rfl 0 rfl ?_
  obtain ⟨h1, H⟩ := H
  refine z_getR (pc := 3) C zc3 h1 4 (by decide) rfl wf_X3_18 (dX3_isAnswerOf 3 rfl) ?_
  obtain ⟨h2, H⟩ := H
  refine z_getR (pc := 6) C zc5 h2 1 (by decide) rfl wf_X3_147 (dX3_isAnswerOf 4 rfl) ?_
  refine z_iload_n (pc := 9) C (dX3_isAnswerOf 5 rfl) rfl 1 rfl ?_
  obtain ⟨h3, H⟩ := H
  obtain ⟨h4, H⟩ := H
  refine z_iaload (pc := 10) C h3 h4 (dX3_isAnswerOf 6 rfl) ?_
  refine z_iconst (pc := 11) (v := 1) C (dX3_isAnswerOf 7 rfl) (by decide) ?_
  refine z_isub (pc := 12) C (dX3_isAnswerOf 8 rfl) ?_
  refine zc_Vi (pc := 13) (rest := []) C YX3_isWhole wl_X3_138 (kX3_isWhole H) (by decide) h1 rfl (by decide) (dX3_isAnswerOf 9 rfl) rfl hu1 hu2 (Nat.le_of_ble_eq_true rfl) rfl (fun r5 m6 H => ?_)
  obtain ⟨h7, H⟩ := H
  exact z_zret (pc := 16) C hr h7 hu1 hu2 (dX3_isAnswerOf 10 rfl) ⟨rfl, _, rfl, H⟩
def wX3_readFollows (t : zT) (m : zM) (a : Nat) (Q : Int32 → zM → Prop) : Prop := (tK t a = 3 ∧ (tK t (gR m a 4) = 5 ∧ (∀ x3 : Int32, x3 = (gI m (gR m a 4) 5) → ((wX3_isNameOf t m a 0 (fun r4 m5 => ((r4 = 0 → (Q 0 m5)) ∧ (¬ r4 = 0 → (tK t (gR m5 a 4) = 5 ∧ (tK t (gR m5 (gR m5 a 4) 6) = 14 ∧ (vp_in x3 (tL t (gR m5 (gR m5 a 4) 6)) ∧ (wX3_next t (pI m5 (gR m5 (gR m5 a 4) 6) x3.toNatClampNeg (gI m5 a 10)) a (fun m11 => (tK t (gR m11 a 4) = 5 ∧ (tK t (gR m11 (gR m11 a 4) 6) = 14 ∧ (vp_in x3 (tL t (gR m11 (gR m11 a 4) 6)) ∧ (wX3_isAnswerOf t m11 a (gI m11 (gR m11 (gR m11 a 4) 6) x3.toNatClampNeg) (fun r15 m16 => ((r15 = 0 → (Q 0 m16)) ∧ (¬ r15 = 0 → (tK t (gR m16 a 4) = 5 ∧ (tK t (gR m16 (gR m16 a 4) 7) = 14 ∧ (vp_in x3 (tL t (gR m16 (gR m16 a 4) 7)) ∧ (wX3_next t (pI m16 (gR m16 (gR m16 a 4) 7) x3.toNatClampNeg (gI m16 a 8)) a (fun m22 => (((gI m22 a 6) = 4 → (wX3_next t m22 a (fun m25 => (wX3_isNameOf t m25 a 0 (fun r26 m27 => ((r26 = 0 → (Q 0 m27)) ∧ (¬ r26 = 0 → (tK t (gR m27 a 4) = 5 ∧ (tK t (gR m27 (gR m27 a 4) 6) = 14 ∧ (vp_in x3 (tL t (gR m27 (gR m27 a 4) 6)) ∧ (((gI m27 a 10) = (gI m27 (gR m27 (gR m27 a 4) 6) x3.toNatClampNeg) → (wX3_fail t m27 a 3 (fun r48 m49 => ((r48 = 0 ∨ r48 = 1) ∧ (Q r48 m49))))) ∧ (¬ (gI m27 a 10) = (gI m27 (gR m27 (gR m27 a 4) 6) x3.toNatClampNeg) → (tK t (gR m27 (gR m27 a 4) 8) = 14 ∧ (vp_in x3 (tL t (gR m27 (gR m27 a 4) 8)) ∧ (wX3_next t (pI m27 (gR m27 (gR m27 a 4) 8) x3.toNatClampNeg (gI m27 a 10)) a (fun m36 => (tK t (gR m36 a 4) = 5 ∧ (tK t (gR m36 (gR m36 a 4) 8) = 14 ∧ (vp_in x3 (tL t (gR m36 (gR m36 a 4) 8)) ∧ (wX3_isAnswerOf t m36 a (gI m36 (gR m36 (gR m36 a 4) 8) x3.toNatClampNeg) (fun r40 m41 => ((r40 = 0 → (Q 0 m41)) ∧ (¬ r40 = 0 → (tK t (gR m41 a 4) = 5 ∧ (tK t (gR m41 (gR m41 a 4) 9) = 14 ∧ (vp_in x3 (tL t (gR m41 (gR m41 a 4) 9)) ∧ (wX3_next t (pI (pI m41 (gR m41 (gR m41 a 4) 9) x3.toNatClampNeg (gI m41 a 8)) (gR m41 a 4) 5 ((gI (pI m41 (gR m41 (gR m41 a 4) 9) x3.toNatClampNeg (gI m41 a 8)) (gR m41 a 4) 5) + (1 : Int32))) a (fun m47 => (Q 1 m47))))))))))))))))))))))))))))) ∧ (¬ (gI m22 a 6) = 4 → (wX3_fail t m22 a 1 (fun r51 m52 => ((r51 = 0 ∨ r51 = 1) ∧ (Q r51 m52)))))))))))))))))))))))))))))))
set_option maxHeartbeats 4000000 in
set_option maxRecDepth 20000 in
theorem kX3_readFollows {l : Launch} {t : zT} {m : zM} {a : Nat} {Q : Int32 → zM → Prop} (H : wX3_readFollows t m a Q) : zMet l yX3_readFollows cX3_readFollows 2 (some .boolean) 3 0 0 t m [.ref a] (zPi t Q) := by
  refine zmet (by decide +kernel) (Nat.le_of_ble_eq_true rfl) ?_
  intro p e s mt args below meth c g C hr hm
  unfold wX3_readFollows at H
  have hu1 : ((0, 0) : Nat × Nat).1 ≤ 0 := Nat.le_refl 0
  have hu2 : ((0, 0) : Nat × Nat).2 ≤ 0 := Nat.le_refl 0
  refine z_aload_n (pc := 0) C (dX3_readFollows 0 rfl) rfl 0 rfl ?_
  obtain ⟨h1, H⟩ := H
  refine z_getR (pc := 1) C zc3 h1 4 (by decide) rfl wf_X3_18 (dX3_readFollows 1 rfl) ?_
  obtain ⟨h2, H⟩ := H
  refine z_getI (pc := 4) C zc5 h2 5 (by decide) rfl wf_X3_90 (dX3_readFollows 2 rfl) ?_
  refine z_int (fun x3 hx3 => ?_)
  replace H := H x3 hx3
  refine z_istore_n (pc := 7) (i := 1) (lv2 := [(1, .int x3), (0, .ref a)]) C (dX3_readFollows 3 rfl) rfl (by decide) rfl ?_
  refine z_aload_n (pc := 8) C (dX3_readFollows 4 rfl) rfl 1 rfl ?_
  refine z_iconst (pc := 9) (v := 0) C (dX3_readFollows 5 rfl) (by decide) ?_
  refine zc_Vi (pc := 10) (rest := []) C YX3_isNameOf wl_X3_150 (kX3_isNameOf H) (by decide) h1 rfl (by decide) (dX3_readFollows 6 rfl) rfl hu1 hu2 (Nat.le_of_ble_eq_true rfl) rfl (fun r4 m5 H => ?_)
  refine z_if_ne (pc := 13) (tgt := 18) C (dX3_readFollows 7 rfl) (by decide) (fun c6 => ?_) (fun c6 => ?_)
  · replace H := H.2 c6
    refine z_aload_n (pc := 18) C (dX3_readFollows 10 rfl) rfl 1 rfl ?_
    refine z_getR (pc := 19) C zc3 h1 4 (by decide) rfl wf_X3_18 (dX3_readFollows 11 rfl) ?_
    obtain ⟨h7, H⟩ := H
    refine z_getR (pc := 22) C zc5 h7 6 (by decide) rfl wf_X3_153 (dX3_readFollows 12 rfl) ?_
    refine z_iload_n (pc := 25) C (dX3_readFollows 13 rfl) rfl 0 rfl ?_
    refine z_aload_n (pc := 26) C (dX3_readFollows 14 rfl) rfl 1 rfl ?_
    refine z_getI (pc := 27) C zc3 h1 10 (by decide) rfl wf_X3_156 (dX3_readFollows 15 rfl) ?_
    obtain ⟨h8, H⟩ := H
    obtain ⟨h9, H⟩ := H
    refine z_iastore (pc := 30) C h8 h9 (dX3_readFollows 16 rfl) ?_
    refine z_aload_n (pc := 31) C (dX3_readFollows 17 rfl) rfl 1 rfl ?_
    refine zc_Vv (pc := 32) (rest := []) C YX3_next wl_X3_58 (kX3_next H) (by decide) h1 rfl (by decide) (dX3_readFollows 18 rfl) rfl hu1 hu2 (Nat.le_of_ble_eq_true rfl) rfl (fun m11 H => ?_)
    refine z_aload_n (pc := 35) C (dX3_readFollows 19 rfl) rfl 1 rfl ?_
    refine z_aload_n (pc := 36) C (dX3_readFollows 20 rfl) rfl 1 rfl ?_
    refine z_getR (pc := 37) C zc3 h1 4 (by decide) rfl wf_X3_18 (dX3_readFollows 21 rfl) ?_
    obtain ⟨h12, H⟩ := H
    refine z_getR (pc := 40) C zc5 h12 6 (by decide) rfl wf_X3_153 (dX3_readFollows 22 rfl) ?_
    refine z_iload_n (pc := 43) C (dX3_readFollows 23 rfl) rfl 0 rfl ?_
    obtain ⟨h13, H⟩ := H
    obtain ⟨h14, H⟩ := H
    refine z_iaload (pc := 44) C h13 h14 (dX3_readFollows 24 rfl) ?_
    refine zc_Vi (pc := 45) (rest := []) C YX3_isAnswerOf wl_X3_159 (kX3_isAnswerOf H) (by decide) h1 rfl (by decide) (dX3_readFollows 25 rfl) rfl hu1 hu2 (Nat.le_of_ble_eq_true rfl) rfl (fun r15 m16 H => ?_)
    refine z_if_ne (pc := 48) (tgt := 53) C (dX3_readFollows 26 rfl) (by decide) (fun c17 => ?_) (fun c17 => ?_)
    · replace H := H.2 c17
      refine z_aload_n (pc := 53) C (dX3_readFollows 29 rfl) rfl 1 rfl ?_
      refine z_getR (pc := 54) C zc3 h1 4 (by decide) rfl wf_X3_18 (dX3_readFollows 30 rfl) ?_
      obtain ⟨h18, H⟩ := H
      refine z_getR (pc := 57) C zc5 h18 7 (by decide) rfl wf_X3_162 (dX3_readFollows 31 rfl) ?_
      refine z_iload_n (pc := 60) C (dX3_readFollows 32 rfl) rfl 0 rfl ?_
      refine z_aload_n (pc := 61) C (dX3_readFollows 33 rfl) rfl 1 rfl ?_
      refine z_getI (pc := 62) C zc3 h1 8 (by decide) rfl wf_X3_144 (dX3_readFollows 34 rfl) ?_
      obtain ⟨h19, H⟩ := H
      obtain ⟨h20, H⟩ := H
      refine z_iastore (pc := 65) C h19 h20 (dX3_readFollows 35 rfl) ?_
      refine z_aload_n (pc := 66) C (dX3_readFollows 36 rfl) rfl 1 rfl ?_
      refine zc_Vv (pc := 67) (rest := []) C YX3_next wl_X3_58 (kX3_next H) (by decide) h1 rfl (by decide) (dX3_readFollows 37 rfl) rfl hu1 hu2 (Nat.le_of_ble_eq_true rfl) rfl (fun m22 H => ?_)
      refine z_aload_n (pc := 70) C (dX3_readFollows 38 rfl) rfl 1 rfl ?_
      refine z_getI (pc := 71) C zc3 h1 6 (by decide) rfl wf_X3_65 (dX3_readFollows 39 rfl) ?_
      refine z_iconst (pc := 74) (v := 4) C (dX3_readFollows 40 rfl) (by decide) ?_
      refine z_icmp_eq (pc := 75) (tgt := 84) C (dX3_readFollows 41 rfl) (by decide) (fun c23 => ?_) (fun c23 => ?_)
      · replace H := H.1 c23
        refine z_aload_n (pc := 84) C (dX3_readFollows 46 rfl) rfl 1 rfl ?_
        refine zc_Vv (pc := 85) (rest := []) C YX3_next wl_X3_58 (kX3_next H) (by decide) h1 rfl (by decide) (dX3_readFollows 47 rfl) rfl hu1 hu2 (Nat.le_of_ble_eq_true rfl) rfl (fun m25 H => ?_)
        refine z_aload_n (pc := 88) C (dX3_readFollows 48 rfl) rfl 1 rfl ?_
        refine z_iconst (pc := 89) (v := 0) C (dX3_readFollows 49 rfl) (by decide) ?_
        refine zc_Vi (pc := 90) (rest := []) C YX3_isNameOf wl_X3_150 (kX3_isNameOf H) (by decide) h1 rfl (by decide) (dX3_readFollows 50 rfl) rfl hu1 hu2 (Nat.le_of_ble_eq_true rfl) rfl (fun r26 m27 H => ?_)
        refine z_if_ne (pc := 93) (tgt := 98) C (dX3_readFollows 51 rfl) (by decide) (fun c28 => ?_) (fun c28 => ?_)
        · replace H := H.2 c28
          refine z_aload_n (pc := 98) C (dX3_readFollows 54 rfl) rfl 1 rfl ?_
          refine z_getI (pc := 99) C zc3 h1 10 (by decide) rfl wf_X3_156 (dX3_readFollows 55 rfl) ?_
          refine z_aload_n (pc := 102) C (dX3_readFollows 56 rfl) rfl 1 rfl ?_
          refine z_getR (pc := 103) C zc3 h1 4 (by decide) rfl wf_X3_18 (dX3_readFollows 57 rfl) ?_
          obtain ⟨h29, H⟩ := H
          refine z_getR (pc := 106) C zc5 h29 6 (by decide) rfl wf_X3_153 (dX3_readFollows 58 rfl) ?_
          refine z_iload_n (pc := 109) C (dX3_readFollows 59 rfl) rfl 0 rfl ?_
          obtain ⟨h30, H⟩ := H
          obtain ⟨h31, H⟩ := H
          refine z_iaload (pc := 110) C h30 h31 (dX3_readFollows 60 rfl) ?_
          refine z_icmp_ne (pc := 111) (tgt := 120) C (dX3_readFollows 61 rfl) (by decide) (fun c32 => ?_) (fun c32 => ?_)
          · replace H := H.2 c32
            refine z_aload_n (pc := 120) C (dX3_readFollows 66 rfl) rfl 1 rfl ?_
            refine z_getR (pc := 121) C zc3 h1 4 (by decide) rfl wf_X3_18 (dX3_readFollows 67 rfl) ?_
            refine z_getR (pc := 124) C zc5 h29 8 (by decide) rfl wf_X3_165 (dX3_readFollows 68 rfl) ?_
            refine z_iload_n (pc := 127) C (dX3_readFollows 69 rfl) rfl 0 rfl ?_
            refine z_aload_n (pc := 128) C (dX3_readFollows 70 rfl) rfl 1 rfl ?_
            refine z_getI (pc := 129) C zc3 h1 10 (by decide) rfl wf_X3_156 (dX3_readFollows 71 rfl) ?_
            obtain ⟨h33, H⟩ := H
            obtain ⟨h34, H⟩ := H
            refine z_iastore (pc := 132) C h33 h34 (dX3_readFollows 72 rfl) ?_
            refine z_aload_n (pc := 133) C (dX3_readFollows 73 rfl) rfl 1 rfl ?_
            refine zc_Vv (pc := 134) (rest := []) C YX3_next wl_X3_58 (kX3_next H) (by decide) h1 rfl (by decide) (dX3_readFollows 74 rfl) rfl hu1 hu2 (Nat.le_of_ble_eq_true rfl) rfl (fun m36 H => ?_)
            refine z_aload_n (pc := 137) C (dX3_readFollows 75 rfl) rfl 1 rfl ?_
            refine z_aload_n (pc := 138) C (dX3_readFollows 76 rfl) rfl 1 rfl ?_
            refine z_getR (pc := 139) C zc3 h1 4 (by decide) rfl wf_X3_18 (dX3_readFollows 77 rfl) ?_
            obtain ⟨h37, H⟩ := H
            refine z_getR (pc := 142) C zc5 h37 8 (by decide) rfl wf_X3_165 (dX3_readFollows 78 rfl) ?_
            refine z_iload_n (pc := 145) C (dX3_readFollows 79 rfl) rfl 0 rfl ?_
            obtain ⟨h38, H⟩ := H
            obtain ⟨h39, H⟩ := H
            refine z_iaload (pc := 146) C h38 h39 (dX3_readFollows 80 rfl) ?_
            refine zc_Vi (pc := 147) (rest := []) C YX3_isAnswerOf wl_X3_159 (kX3_isAnswerOf H) (by decide) h1 rfl (by decide) (dX3_readFollows 81 rfl) rfl hu1 hu2 (Nat.le_of_ble_eq_true rfl) rfl (fun r40 m41 H => ?_)
            refine z_if_ne (pc := 150) (tgt := 155) C (dX3_readFollows 82 rfl) (by decide) (fun c42 => ?_) (fun c42 => ?_)
            · replace H := H.2 c42
              refine z_aload_n (pc := 155) C (dX3_readFollows 85 rfl) rfl 1 rfl ?_
              refine z_getR (pc := 156) C zc3 h1 4 (by decide) rfl wf_X3_18 (dX3_readFollows 86 rfl) ?_
              obtain ⟨h43, H⟩ := H
              refine z_getR (pc := 159) C zc5 h43 9 (by decide) rfl wf_X3_168 (dX3_readFollows 87 rfl) ?_
              refine z_iload_n (pc := 162) C (dX3_readFollows 88 rfl) rfl 0 rfl ?_
              refine z_aload_n (pc := 163) C (dX3_readFollows 89 rfl) rfl 1 rfl ?_
              refine z_getI (pc := 164) C zc3 h1 8 (by decide) rfl wf_X3_144 (dX3_readFollows 90 rfl) ?_
              obtain ⟨h44, H⟩ := H
              obtain ⟨h45, H⟩ := H
              refine z_iastore (pc := 167) C h44 h45 (dX3_readFollows 91 rfl) ?_
              refine z_aload_n (pc := 168) C (dX3_readFollows 92 rfl) rfl 1 rfl ?_
              refine z_getR (pc := 169) C zc3 h1 4 (by decide) rfl wf_X3_18 (dX3_readFollows 93 rfl) ?_
              refine z_dup (pc := 172) C (dX3_readFollows 94 rfl) rfl ?_
              refine z_getI (pc := 173) C zc5 h43 5 (by decide) rfl wf_X3_90 (dX3_readFollows 95 rfl) ?_
              refine z_iconst (pc := 176) (v := 1) C (dX3_readFollows 96 rfl) (by decide) ?_
              refine z_iadd (pc := 177) C (dX3_readFollows 97 rfl) ?_
              refine z_putI (pc := 178) C zc5 h43 5 (by decide) rfl rfl wf_X3_90 (dX3_readFollows 98 rfl) ?_
              refine z_aload_n (pc := 181) C (dX3_readFollows 99 rfl) rfl 1 rfl ?_
              refine zc_Vv (pc := 182) (rest := []) C YX3_next wl_X3_58 (kX3_next H) (by decide) h1 rfl (by decide) (dX3_readFollows 100 rfl) rfl hu1 hu2 (Nat.le_of_ble_eq_true rfl) rfl (fun m47 H => ?_)
              refine z_iconst (pc := 185) (v := 1) C (dX3_readFollows 101 rfl) (by decide) ?_
              exact z_zret (pc := 186) C hr (by decide) hu1 hu2 (dX3_readFollows 102 rfl) ⟨rfl, _, rfl, H⟩
            · replace H := H.1 c42
              refine z_iconst (pc := 153) (v := 0) C (dX3_readFollows 83 rfl) (by decide) ?_
              exact z_zret (pc := 154) C hr (by decide) hu1 hu2 (dX3_readFollows 84 rfl) ⟨rfl, _, rfl, H⟩
          · replace H := H.1 c32
            refine z_aload_n (pc := 114) C (dX3_readFollows 62 rfl) rfl 1 rfl ?_
            refine z_iconst (pc := 115) (v := 3) C (dX3_readFollows 63 rfl) (by decide) ?_
            refine zc_Vi (pc := 116) (rest := []) C YX3_fail wl_X3_68 (kX3_fail H) (by decide) h1 rfl (by decide) (dX3_readFollows 64 rfl) rfl hu1 hu2 (Nat.le_of_ble_eq_true rfl) rfl (fun r48 m49 H => ?_)
            obtain ⟨h50, H⟩ := H
            exact z_zret (pc := 119) C hr h50 hu1 hu2 (dX3_readFollows 65 rfl) ⟨rfl, _, rfl, H⟩
        · replace H := H.1 c28
          refine z_iconst (pc := 96) (v := 0) C (dX3_readFollows 52 rfl) (by decide) ?_
          exact z_zret (pc := 97) C hr (by decide) hu1 hu2 (dX3_readFollows 53 rfl) ⟨rfl, _, rfl, H⟩
      · replace H := H.2 c23
        refine z_aload_n (pc := 78) C (dX3_readFollows 42 rfl) rfl 1 rfl ?_
        refine z_iconst (pc := 79) (v := 1) C (dX3_readFollows 43 rfl) (by decide) ?_
        refine zc_Vi (pc := 80) (rest := []) C YX3_fail wl_X3_68 (kX3_fail H) (by decide) h1 rfl (by decide) (dX3_readFollows 44 rfl) rfl hu1 hu2 (Nat.le_of_ble_eq_true rfl) rfl (fun r51 m52 H => ?_)
        obtain ⟨h53, H⟩ := H
        exact z_zret (pc := 83) C hr h53 hu1 hu2 (dX3_readFollows 45 rfl) ⟨rfl, _, rfl, H⟩
    · replace H := H.1 c17
      refine z_iconst (pc := 51) (v := 0) C (dX3_readFollows 27 rfl) (by decide) ?_
      exact z_zret (pc := 52) C hr (by decide) hu1 hu2 (dX3_readFollows 28 rfl) ⟨rfl, _, rfl, H⟩
  · replace H := H.1 c6
    refine z_iconst (pc := 16) (v := 0) C (dX3_readFollows 8 rfl) (by decide) ?_
    exact z_zret (pc := 17) C hr (by decide) hu1 hu2 (dX3_readFollows 9 rfl) ⟨rfl, _, rfl, H⟩
