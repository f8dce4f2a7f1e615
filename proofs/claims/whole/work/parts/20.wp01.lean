def wX5_init (cap : Nat × Nat) (t : zT) (m : zM) (a : Nat) (Q : zT → zM → Prop) : Prop := (0 < a ∧ ((0 + 1 ≤ cap.1 ∧ 0 + 8 ≤ cap.2) ∧ (0 < tN t → (tK (tNew t 14 8) a = 5 ∧ ((0 + 1 + 1 ≤ cap.1 ∧ 0 + 8 + 8 ≤ cap.2) ∧ (0 < tN (tNew t 14 8) → (tK (tNew (tNew t 14 8) 14 8) a = 5 ∧ ((0 + 1 + 1 + 1 ≤ cap.1 ∧ 0 + 8 + 8 + 6 ≤ cap.2) ∧ (0 < tN (tNew (tNew t 14 8) 14 8) → (tK (tNew (tNew (tNew t 14 8) 14 8) 14 6) a = 5 ∧ ((0 + 1 + 1 + 1 + 1 ≤ cap.1 ∧ 0 + 8 + 8 + 6 + 6 ≤ cap.2) ∧ (0 < tN (tNew (tNew (tNew t 14 8) 14 8) 14 6) → (tK (tNew (tNew (tNew (tNew t 14 8) 14 8) 14 6) 14 6) a = 5 ∧ ((0 + 1 + 1 + 1 + 1 + 1 ≤ cap.1 ∧ 0 + 8 + 8 + 6 + 6 + 6 ≤ cap.2) ∧ (0 < tN (tNew (tNew (tNew (tNew t 14 8) 14 8) 14 6) 14 6) → (tK (tNew (tNew (tNew (tNew (tNew t 14 8) 14 8) 14 6) 14 6) 14 6) a = 5 ∧ ((0 + 1 + 1 + 1 + 1 + 1 + 1 ≤ cap.1 ∧ 0 + 8 + 8 + 6 + 6 + 6 + 6 ≤ cap.2) ∧ (0 < tN (tNew (tNew (tNew (tNew (tNew t 14 8) 14 8) 14 6) 14 6) 14 6) → (tK (tNew (tNew (tNew (tNew (tNew (tNew t 14 8) 14 8) 14 6) 14 6) 14 6) 14 6) a = 5 ∧ ((0 + 1 + 1 + 1 + 1 + 1 + 1 + 1 ≤ cap.1 ∧ 0 + 8 + 8 + 6 + 6 + 6 + 6 + 6 ≤ cap.2) ∧ (0 < tN (tNew (tNew (tNew (tNew (tNew (tNew t 14 8) 14 8) 14 6) 14 6) 14 6) 14 6) → (tK (tNew (tNew (tNew (tNew (tNew (tNew (tNew t 14 8) 14 8) 14 6) 14 6) 14 6) 14 6) 14 6) a = 5 ∧ ((0 + 1 + 1 + 1 + 1 + 1 + 1 + 1 + 1 ≤ cap.1 ∧ 0 + 8 + 8 + 6 + 6 + 6 + 6 + 6 + 17 ≤ cap.2) ∧ (0 < tN (tNew (tNew (tNew (tNew (tNew (tNew (tNew t 14 8) 14 8) 14 6) 14 6) 14 6) 14 6) 14 6) → (tK (tNew (tNew (tNew (tNew (tNew (tNew (tNew (tNew t 14 8) 14 8) 14 6) 14 6) 14 6) 14 6) 14 6) 14 17) a = 5 ∧ ((0 + 1 + 1 + 1 + 1 + 1 + 1 + 1 + 1 + 1 ≤ cap.1 ∧ 0 + 8 + 8 + 6 + 6 + 6 + 6 + 6 + 17 + 17 ≤ cap.2) ∧ (0 < tN (tNew (tNew (tNew (tNew (tNew (tNew (tNew (tNew t 14 8) 14 8) 14 6) 14 6) 14 6) 14 6) 14 6) 14 17) → (tK (tNew (tNew (tNew (tNew (tNew (tNew (tNew (tNew (tNew t 14 8) 14 8) 14 6) 14 6) 14 6) 14 6) 14 6) 14 17) 14 17) a = 5 ∧ ((0 + 1 + 1 + 1 + 1 + 1 + 1 + 1 + 1 + 1 + 1 ≤ cap.1 ∧ 0 + 8 + 8 + 6 + 6 + 6 + 6 + 6 + 17 + 17 + 17 ≤ cap.2) ∧ (0 < tN (tNew (tNew (tNew (tNew (tNew (tNew (tNew (tNew (tNew t 14 8) 14 8) 14 6) 14 6) 14 6) 14 6) 14 6) 14 17) 14 17) → (tK (tNew (tNew (tNew (tNew (tNew (tNew (tNew (tNew (tNew (tNew t 14 8) 14 8) 14 6) 14 6) 14 6) 14 6) 14 6) 14 17) 14 17) 14 17) a = 5 ∧ ((0 + 1 + 1 + 1 + 1 + 1 + 1 + 1 + 1 + 1 + 1 + 1 ≤ cap.1 ∧ 0 + 8 + 8 + 6 + 6 + 6 + 6 + 6 + 17 + 17 + 17 + 5 ≤ cap.2) ∧ (0 < tN (tNew (tNew (tNew (tNew (tNew (tNew (tNew (tNew (tNew (tNew t 14 8) 14 8) 14 6) 14 6) 14 6) 14 6) 14 6) 14 17) 14 17) 14 17) → (tK (tNew (tNew (tNew (tNew (tNew (tNew (tNew (tNew (tNew (tNew (tNew t 14 8) 14 8) 14 6) 14 6) 14 6) 14 6) 14 6) 14 17) 14 17) 14 17) 14 5) a = 5 ∧ (Q (tNew (tNew (tNew (tNew (tNew (tNew (tNew (tNew (tNew (tNew (tNew t 14 8) 14 8) 14 6) 14 6) 14 6) 14 6) 14 6) 14 17) 14 17) 14 17) 14 5) (pR (zClr (pR (zClr (pR (zClr (pR (zClr (pR (zClr (pR (zClr (pR (zClr (pR (zClr (pR (zClr (pR (zClr (pR (zClr m (tN t)) a 1 (tN t)) (tN (tNew t 14 8))) a 3 (tN (tNew t 14 8))) (tN (tNew (tNew t 14 8) 14 8))) a 6 (tN (tNew (tNew t 14 8) 14 8))) (tN (tNew (tNew (tNew t 14 8) 14 8) 14 6))) a 7 (tN (tNew (tNew (tNew t 14 8) 14 8) 14 6))) (tN (tNew (tNew (tNew (tNew t 14 8) 14 8) 14 6) 14 6))) a 8 (tN (tNew (tNew (tNew (tNew t 14 8) 14 8) 14 6) 14 6))) (tN (tNew (tNew (tNew (tNew (tNew t 14 8) 14 8) 14 6) 14 6) 14 6))) a 9 (tN (tNew (tNew (tNew (tNew (tNew t 14 8) 14 8) 14 6) 14 6) 14 6))) (tN (tNew (tNew (tNew (tNew (tNew (tNew t 14 8) 14 8) 14 6) 14 6) 14 6) 14 6))) a 11 (tN (tNew (tNew (tNew (tNew (tNew (tNew t 14 8) 14 8) 14 6) 14 6) 14 6) 14 6))) (tN (tNew (tNew (tNew (tNew (tNew (tNew (tNew t 14 8) 14 8) 14 6) 14 6) 14 6) 14 6) 14 6))) a 15 (tN (tNew (tNew (tNew (tNew (tNew (tNew (tNew t 14 8) 14 8) 14 6) 14 6) 14 6) 14 6) 14 6))) (tN (tNew (tNew (tNew (tNew (tNew (tNew (tNew (tNew t 14 8) 14 8) 14 6) 14 6) 14 6) 14 6) 14 6) 14 17))) a 16 (tN (tNew (tNew (tNew (tNew (tNew (tNew (tNew (tNew t 14 8) 14 8) 14 6) 14 6) 14 6) 14 6) 14 6) 14 17))) (tN (tNew (tNew (tNew (tNew (tNew (tNew (tNew (tNew (tNew t 14 8) 14 8) 14 6) 14 6) 14 6) 14 6) 14 6) 14 17) 14 17))) a 17 (tN (tNew (tNew (tNew (tNew (tNew (tNew (tNew (tNew (tNew t 14 8) 14 8) 14 6) 14 6) 14 6) 14 6) 14 6) 14 17) 14 17))) (tN (tNew (tNew (tNew (tNew (tNew (tNew (tNew (tNew (tNew (tNew t 14 8) 14 8) 14 6) 14 6) 14 6) 14 6) 14 6) 14 17) 14 17) 14 17))) a 19 (tN (tNew (tNew (tNew (tNew (tNew (tNew (tNew (tNew (tNew (tNew t 14 8) 14 8) 14 6) 14 6) 14 6) 14 6) 14 6) 14 17) 14 17) 14 17))))))))))))))))))))))))))))))))))))))
set_option maxHeartbeats 4000000 in
set_option maxRecDepth 20000 in
theorem kX5_init {l : Launch} {cap : Nat × Nat} {t : zT} {m : zM} {a : Nat} {Q : zT → zM → Prop} (H : wX5_init cap t m a Q) : zMet l yX5_init cX5_init 1 none 1 cap.1 cap.2 t m [.ref a] (zAw Q) := by
  refine zmet (by decide +kernel) (Nat.le_of_ble_eq_true rfl) ?_
  intro p e s mt args below meth c g C hr hm
  unfold wX5_init at H
  obtain ⟨mc, ms⟩ := cap
  refine z_aload_n (pc := 0) C (dX5_init 0 rfl) rfl 0 rfl ?_
  obtain ⟨h34, H⟩ := H
  refine z_objInit (pc := 1) C h34 wl_X5_3 woi woc (by decide) (Nat.le_of_ble_eq_true rfl) (dX5_init 1 rfl) ?_
  refine z_aload_n (pc := 4) C (dX5_init 2 rfl) rfl 0 rfl ?_
  refine z_bipush (pc := 5) (v := 8) C (dX5_init 3 rfl) (by decide) ?_
  obtain ⟨h32, H⟩ := H
  refine z_newaI (pc := 7) (N := 8) C (by decide) (by decide) (by decide) wa_int (dX5_init 4 rfl) h32.1 h32.2 (fun h33 => ?_)
  replace H := H h33
  obtain ⟨h1, H⟩ := H
  refine z_putRF (pc := 9) C zc5 h1 1 (by decide) rfl rfl hm rfl wf_X5_9 (dX5_init 5 rfl) ?_
  refine z_aload_n (pc := 12) C (dX5_init 6 rfl) rfl 0 rfl ?_
  refine z_bipush (pc := 13) (v := 8) C (dX5_init 7 rfl) (by decide) ?_
  obtain ⟨h30, H⟩ := H
  refine z_newaI (pc := 15) (N := 8) C (by decide) (by decide) (by decide) wa_int (dX5_init 8 rfl) h30.1 h30.2 (fun h31 => ?_)
  replace H := H h31
  obtain ⟨h2, H⟩ := H
  refine z_putRF (pc := 17) C zc5 h2 3 (by decide) rfl rfl hm rfl wf_X5_15 (dX5_init 9 rfl) ?_
  refine z_aload_n (pc := 20) C (dX5_init 10 rfl) rfl 0 rfl ?_
  refine z_bipush (pc := 21) (v := 6) C (dX5_init 11 rfl) (by decide) ?_
  obtain ⟨h28, H⟩ := H
  refine z_newaI (pc := 23) (N := 6) C (by decide) (by decide) (by decide) wa_int (dX5_init 12 rfl) h28.1 h28.2 (fun h29 => ?_)
  replace H := H h29
  obtain ⟨h3, H⟩ := H
  refine z_putRF (pc := 25) C zc5 h3 6 (by decide) rfl rfl hm rfl wf_X5_18 (dX5_init 13 rfl) ?_
  refine z_aload_n (pc := 28) C (dX5_init 14 rfl) rfl 0 rfl ?_
  refine z_bipush (pc := 29) (v := 6) C (dX5_init 15 rfl) (by decide) ?_
  obtain ⟨h26, H⟩ := H
  refine z_newaI (pc := 31) (N := 6) C (by decide) (by decide) (by decide) wa_int (dX5_init 16 rfl) h26.1 h26.2 (fun h27 => ?_)
  replace H := H h27
  obtain ⟨h4, H⟩ := H
  refine z_putRF (pc := 33) C zc5 h4 7 (by decide) rfl rfl hm rfl wf_X5_21 (dX5_init 17 rfl) ?_
  refine z_aload_n (pc := 36) C (dX5_init 18 rfl) rfl 0 rfl ?_
  refine z_bipush (pc := 37) (v := 6) C (dX5_init 19 rfl) (by decide) ?_
  obtain ⟨h24, H⟩ := H
  refine z_newaI (pc := 39) (N := 6) C (by decide) (by decide) (by decide) wa_int (dX5_init 20 rfl) h24.1 h24.2 (fun h25 => ?_)
  replace H := H h25
  obtain ⟨h5, H⟩ := H
  refine z_putRF (pc := 41) C zc5 h5 8 (by decide) rfl rfl hm rfl wf_X5_24 (dX5_init 21 rfl) ?_
  refine z_aload_n (pc := 44) C (dX5_init 22 rfl) rfl 0 rfl ?_
  refine z_bipush (pc := 45) (v := 6) C (dX5_init 23 rfl) (by decide) ?_
  obtain ⟨h22, H⟩ := H
  refine z_newaI (pc := 47) (N := 6) C (by decide) (by decide) (by decide) wa_int (dX5_init 24 rfl) h22.1 h22.2 (fun h23 => ?_)
  replace H := H h23
  obtain ⟨h6, H⟩ := H
  refine z_putRF (pc := 49) C zc5 h6 9 (by decide) rfl rfl hm rfl wf_X5_27 (dX5_init 25 rfl) ?_
  refine z_aload_n (pc := 52) C (dX5_init 26 rfl) rfl 0 rfl ?_
  refine z_bipush (pc := 53) (v := 6) C (dX5_init 27 rfl) (by decide) ?_
  obtain ⟨h20, H⟩ := H
  refine z_newaI (pc := 55) (N := 6) C (by decide) (by decide) (by decide) wa_int (dX5_init 28 rfl) h20.1 h20.2 (fun h21 => ?_)
  replace H := H h21
  obtain ⟨h7, H⟩ := H
  refine z_putRF (pc := 57) C zc5 h7 11 (by decide) rfl rfl hm rfl wf_X5_30 (dX5_init 29 rfl) ?_
  refine z_aload_n (pc := 60) C (dX5_init 30 rfl) rfl 0 rfl ?_
  refine z_bipush (pc := 61) (v := 17) C (dX5_init 31 rfl) (by decide) ?_
  obtain ⟨h18, H⟩ := H
  refine z_newaI (pc := 63) (N := 17) C (by decide) (by decide) (by decide) wa_int (dX5_init 32 rfl) h18.1 h18.2 (fun h19 => ?_)
  replace H := H h19
  obtain ⟨h8, H⟩ := H
  refine z_putRF (pc := 65) C zc5 h8 15 (by decide) rfl rfl hm rfl wf_X5_33 (dX5_init 33 rfl) ?_
  refine z_aload_n (pc := 68) C (dX5_init 34 rfl) rfl 0 rfl ?_
  refine z_bipush (pc := 69) (v := 17) C (dX5_init 35 rfl) (by decide) ?_
  obtain ⟨h16, H⟩ := H
  refine z_newaI (pc := 71) (N := 17) C (by decide) (by decide) (by decide) wa_int (dX5_init 36 rfl) h16.1 h16.2 (fun h17 => ?_)
  replace H := H h17
  obtain ⟨h9, H⟩ := H
  refine z_putRF (pc := 73) C zc5 h9 16 (by decide) rfl rfl hm rfl wf_X5_36 (dX5_init 37 rfl) ?_
  refine z_aload_n (pc := 76) C (dX5_init 38 rfl) rfl 0 rfl ?_
  refine z_bipush (pc := 77) (v := 17) C (dX5_init 39 rfl) (by decide) ?_
  obtain ⟨h14, H⟩ := H
  refine z_newaI (pc := 79) (N := 17) C (by decide) (by decide) (by decide) wa_int (dX5_init 40 rfl) h14.1 h14.2 (fun h15 => ?_)
  replace H := H h15
  obtain ⟨h10, H⟩ := H
  refine z_putRF (pc := 81) C zc5 h10 17 (by decide) rfl rfl hm rfl wf_X5_39 (dX5_init 41 rfl) ?_
  refine z_aload_n (pc := 84) C (dX5_init 42 rfl) rfl 0 rfl ?_
  refine z_iconst (pc := 85) (v := 5) C (dX5_init 43 rfl) (by decide) ?_
  obtain ⟨h12, H⟩ := H
  refine z_newaI (pc := 86) (N := 5) C (by decide) (by decide) (by decide) wa_int (dX5_init 44 rfl) h12.1 h12.2 (fun h13 => ?_)
  replace H := H h13
  obtain ⟨h11, H⟩ := H
  refine z_putRF (pc := 88) C zc5 h11 19 (by decide) rfl rfl hm rfl wf_X5_42 (dX5_init 45 rfl) ?_
  exact z_vret (pc := 91) C hr (by first | omega | (show _ ≤ mc; omega)) (by first | omega | (show _ ≤ ms; omega)) (dX5_init 46 rfl) ⟨rfl, H⟩
def wX8_init (cap : Nat × Nat) (t : zT) (m : zM) (a : Nat) (Q : zT → zM → Prop) : Prop := (0 < a ∧ ((0 + 1 ≤ cap.1 ∧ 0 + 20 ≤ cap.2) ∧ (0 < tN t → (0 < (tN t) ∧ (∃ k3 : Nat × Nat, (0 + 1 + k3.1 ≤ cap.1 ∧ 0 + 20 + k3.2 ≤ cap.2) ∧ wX5_init k3 (tNew t 5 0) (zClr m (tN t)) (tN t) (fun t4 m2 => (tK t4 a = 8 ∧ ((0 + 1 + k3.1 + 1 ≤ cap.1 ∧ 0 + 20 + k3.2 + 8 ≤ cap.2) ∧ (0 < tN t4 → (tK (tNew t4 14 8) a = 8 ∧ ((0 + 1 + k3.1 + 1 + 1 ≤ cap.1 ∧ 0 + 20 + k3.2 + 8 + 2048 ≤ cap.2) ∧ (0 < tN (tNew t4 14 8) → (tK (tNew (tNew t4 14 8) 15 2048) a = 8 ∧ ((0 + 1 + k3.1 + 1 + 1 + 1 ≤ cap.1 ∧ 0 + 20 + k3.2 + 8 + 2048 + 64 ≤ cap.2) ∧ (0 < tN (tNew (tNew t4 14 8) 15 2048) → (tK (tNew (tNew (tNew t4 14 8) 15 2048) 15 64) a = 8 ∧ (Q (tNew (tNew (tNew t4 14 8) 15 2048) 15 64) (pR (zClr (pR (zClr (pR (zClr (pR m2 a 0 (tN t)) (tN t4)) a 3 (tN t4)) (tN (tNew t4 14 8))) a 4 (tN (tNew t4 14 8))) (tN (tNew (tNew t4 14 8) 15 2048))) a 5 (tN (tNew (tNew t4 14 8) 15 2048))))))))))))))))))))
set_option maxHeartbeats 4000000 in
set_option maxRecDepth 20000 in
theorem kX8_init {l : Launch} {cap : Nat × Nat} {t : zT} {m : zM} {a : Nat} {Q : zT → zM → Prop} (H : wX8_init cap t m a Q) : zMet l yX8_init cX8_init 1 none 2 cap.1 cap.2 t m [.ref a] (zAw Q) := by
  refine zmet (by decide +kernel) (Nat.le_of_ble_eq_true rfl) ?_
  intro p e s mt args below meth c g C hr hm
  unfold wX8_init at H
  obtain ⟨mc, ms⟩ := cap
  refine z_aload_n (pc := 0) C (dX8_init 0 rfl) rfl 0 rfl ?_
  obtain ⟨h19, H⟩ := H
  refine z_objInit (pc := 1) C h19 wl_X8_3 woi woc (by decide) (Nat.le_of_ble_eq_true rfl) (dX8_init 1 rfl) ?_
  refine z_aload_n (pc := 4) C (dX8_init 2 rfl) rfl 0 rfl ?_
  obtain ⟨h17, H⟩ := H
  refine z_new (pc := 5) C zc5 wc_X8_9 wt_X5 wi_X5 (dX8_init 3 rfl) h17.1 h17.2 (fun h18 => ?_)
  replace H := H h18
  refine z_dup (pc := 8) C (dX8_init 4 rfl) rfl ?_
  obtain ⟨h16, H⟩ := H
  obtain ⟨k3, h15, H⟩ := H
  refine za_IvN (pc := 9) (rest := [.ref (tN t), .ref a]) C YX5_init wm_X8_11 h16 (kX5_init H) (by decide) (dX8_init 5 rfl) rfl (by first | exact h15.1 | (have := h15.1; omega)) (by first | exact h15.2 | (have := h15.2; omega)) (Nat.le_of_ble_eq_true rfl) rfl (fun t4 m2 H => ?_)
  obtain ⟨h5, H⟩ := H
  refine z_putR (pc := 12) C zc8 h5 0 (by decide) rfl rfl wf_X8_12 (dX8_init 6 rfl) ?_
  refine z_aload_n (pc := 15) C (dX8_init 7 rfl) rfl 0 rfl ?_
  refine z_bipush (pc := 16) (v := 8) C (dX8_init 8 rfl) (by decide) ?_
  obtain ⟨h13, H⟩ := H
  refine z_newaI (pc := 18) (N := 8) C (by decide) (by decide) (by decide) wa_int (dX8_init 9 rfl) h13.1 h13.2 (fun h14 => ?_)
  replace H := H h14
  obtain ⟨h6, H⟩ := H
  refine z_putRF (pc := 20) C zc8 h6 3 (by decide) rfl rfl hm rfl wf_X8_18 (dX8_init 10 rfl) ?_
  refine z_aload_n (pc := 23) C (dX8_init 11 rfl) rfl 0 rfl ?_
  refine z_sipush (pc := 24) (v := 2048) C (dX8_init 12 rfl) (by decide) ?_
  obtain ⟨h11, H⟩ := H
  refine z_newaJ (pc := 27) (N := 2048) C (by decide) (by decide) (by decide) wa_long (dX8_init 13 rfl) h11.1 h11.2 (fun h12 => ?_)
  replace H := H h12
  obtain ⟨h7, H⟩ := H
  refine z_putRF (pc := 29) C zc8 h7 4 (by decide) rfl rfl hm rfl wf_X8_22 (dX8_init 14 rfl) ?_
  refine z_aload_n (pc := 32) C (dX8_init 15 rfl) rfl 0 rfl ?_
  refine z_bipush (pc := 33) (v := 64) C (dX8_init 16 rfl) (by decide) ?_
  obtain ⟨h9, H⟩ := H
  refine z_newaJ (pc := 35) (N := 64) C (by decide) (by decide) (by decide) wa_long (dX8_init 17 rfl) h9.1 h9.2 (fun h10 => ?_)
  replace H := H h10
  obtain ⟨h8, H⟩ := H
  refine z_putRF (pc := 37) C zc8 h8 5 (by decide) rfl rfl hm rfl wf_X8_26 (dX8_init 18 rfl) ?_
  exact z_vret (pc := 40) C hr (by first | omega | (show _ ≤ mc; omega)) (by first | omega | (show _ ≤ ms; omega)) (dX8_init 19 rfl) ⟨rfl, H⟩
def wX6_init (cap : Nat × Nat) (t : zT) (m : zM) (a : Nat) (Q : zT → zM → Prop) : Prop := (0 < a ∧ ((0 + 1 ≤ cap.1 ∧ 0 + 4 ≤ cap.2) ∧ (0 < tN t → (tK (tNew t 15 4) a = 6 ∧ (Q (tNew t 15 4) (pR (zClr m (tN t)) a 0 (tN t)))))))
set_option maxHeartbeats 4000000 in
set_option maxRecDepth 20000 in
theorem kX6_init {l : Launch} {cap : Nat × Nat} {t : zT} {m : zM} {a : Nat} {Q : zT → zM → Prop} (H : wX6_init cap t m a Q) : zMet l yX6_init cX6_init 1 none 1 cap.1 cap.2 t m [.ref a] (zAw Q) := by
  refine zmet (by decide +kernel) (Nat.le_of_ble_eq_true rfl) ?_
  intro p e s mt args below meth c g C hr hm
  unfold wX6_init at H
  obtain ⟨mc, ms⟩ := cap
  refine z_aload_n (pc := 0) C (dX6_init 0 rfl) rfl 0 rfl ?_
  obtain ⟨h4, H⟩ := H
  refine z_objInit (pc := 1) C h4 wl_X6_3 woi woc (by decide) (Nat.le_of_ble_eq_true rfl) (dX6_init 1 rfl) ?_
  refine z_aload_n (pc := 4) C (dX6_init 2 rfl) rfl 0 rfl ?_
  refine z_iconst (pc := 5) (v := 4) C (dX6_init 3 rfl) (by decide) ?_
  obtain ⟨h2, H⟩ := H
  refine z_newaJ (pc := 6) (N := 4) C (by decide) (by decide) (by decide) wa_long (dX6_init 4 rfl) h2.1 h2.2 (fun h3 => ?_)
  replace H := H h3
  obtain ⟨h1, H⟩ := H
  refine z_putRF (pc := 8) C zc6 h1 0 (by decide) rfl rfl hm rfl wf_X6_9 (dX6_init 5 rfl) ?_
  exact z_vret (pc := 11) C hr (by first | omega | (show _ ≤ mc; omega)) (by first | omega | (show _ ≤ ms; omega)) (dX6_init 6 rfl) ⟨rfl, H⟩
def wX0_init (cap : Nat × Nat) (t : zT) (m : zM) (a : Nat) (Q : zT → zM → Prop) : Prop := (0 < a ∧ ((0 + 1 ≤ cap.1 ∧ 0 + 6 ≤ cap.2) ∧ (0 < tN t → (0 < (tN t) ∧ (∃ k3 : Nat × Nat, (0 + 1 + k3.1 ≤ cap.1 ∧ 0 + 6 + k3.2 ≤ cap.2) ∧ wX8_init k3 (tNew t 8 0) (zClr m (tN t)) (tN t) (fun t4 m2 => (tK t4 a = 0 ∧ ((0 + 1 + k3.1 + 1 ≤ cap.1 ∧ 0 + 6 + k3.2 + 1 ≤ cap.2) ∧ (0 < tN t4 → (0 < (tN t4) ∧ (∃ k8 : Nat × Nat, (0 + 1 + k3.1 + 1 + k8.1 ≤ cap.1 ∧ 0 + 6 + k3.2 + 1 + k8.2 ≤ cap.2) ∧ wX6_init k8 (tNew t4 6 0) (zClr (pR m2 a 0 (tN t)) (tN t4)) (tN t4) (fun t9 m7 => (tK t9 a = 0 ∧ ((0 + 1 + k3.1 + 1 + k8.1 + 1 ≤ cap.1 ∧ 0 + 6 + k3.2 + 1 + k8.2 + 17 ≤ cap.2) ∧ (0 < tN t9 → (tK (tNew t9 14 17) a = 0 ∧ ((0 + 1 + k3.1 + 1 + k8.1 + 1 + 1 ≤ cap.1 ∧ 0 + 6 + k3.2 + 1 + k8.2 + 17 + 17 ≤ cap.2) ∧ (0 < tN (tNew t9 14 17) → (tK (tNew (tNew t9 14 17) 14 17) a = 0 ∧ ((0 + 1 + k3.1 + 1 + k8.1 + 1 + 1 + 1 ≤ cap.1 ∧ 0 + 6 + k3.2 + 1 + k8.2 + 17 + 17 + 17 ≤ cap.2) ∧ (0 < tN (tNew (tNew t9 14 17) 14 17) → (tK (tNew (tNew (tNew t9 14 17) 14 17) 14 17) a = 0 ∧ ((0 + 1 + k3.1 + 1 + k8.1 + 1 + 1 + 1 + 1 ≤ cap.1 ∧ 0 + 6 + k3.2 + 1 + k8.2 + 17 + 17 + 17 + 17 ≤ cap.2) ∧ (0 < tN (tNew (tNew (tNew t9 14 17) 14 17) 14 17) → (tK (tNew (tNew (tNew (tNew t9 14 17) 14 17) 14 17) 15 17) a = 0 ∧ ((0 + 1 + k3.1 + 1 + k8.1 + 1 + 1 + 1 + 1 + 1 ≤ cap.1 ∧ 0 + 6 + k3.2 + 1 + k8.2 + 17 + 17 + 17 + 17 + 17 ≤ cap.2) ∧ (0 < tN (tNew (tNew (tNew (tNew t9 14 17) 14 17) 14 17) 15 17) → (tK (tNew (tNew (tNew (tNew (tNew t9 14 17) 14 17) 14 17) 15 17) 14 17) a = 0 ∧ ((0 + 1 + k3.1 + 1 + k8.1 + 1 + 1 + 1 + 1 + 1 + 1 ≤ cap.1 ∧ 0 + 6 + k3.2 + 1 + k8.2 + 17 + 17 + 17 + 17 + 17 + 17 ≤ cap.2) ∧ (0 < tN (tNew (tNew (tNew (tNew (tNew t9 14 17) 14 17) 14 17) 15 17) 14 17) → (tK (tNew (tNew (tNew (tNew (tNew (tNew t9 14 17) 14 17) 14 17) 15 17) 14 17) 14 17) a = 0 ∧ ((0 + 1 + k3.1 + 1 + k8.1 + 1 + 1 + 1 + 1 + 1 + 1 + 1 ≤ cap.1 ∧ 0 + 6 + k3.2 + 1 + k8.2 + 17 + 17 + 17 + 17 + 17 + 17 + 17 ≤ cap.2) ∧ (0 < tN (tNew (tNew (tNew (tNew (tNew (tNew t9 14 17) 14 17) 14 17) 15 17) 14 17) 14 17) → (tK (tNew (tNew (tNew (tNew (tNew (tNew (tNew t9 14 17) 14 17) 14 17) 15 17) 14 17) 14 17) 15 17) a = 0 ∧ ((0 + 1 + k3.1 + 1 + k8.1 + 1 + 1 + 1 + 1 + 1 + 1 + 1 + 1 ≤ cap.1 ∧ 0 + 6 + k3.2 + 1 + k8.2 + 17 + 17 + 17 + 17 + 17 + 17 + 17 + 17 ≤ cap.2) ∧ (0 < tN (tNew (tNew (tNew (tNew (tNew (tNew (tNew t9 14 17) 14 17) 14 17) 15 17) 14 17) 14 17) 15 17) → (tK (tNew (tNew (tNew (tNew (tNew (tNew (tNew (tNew t9 14 17) 14 17) 14 17) 15 17) 14 17) 14 17) 15 17) 15 17) a = 0 ∧ ((0 + 1 + k3.1 + 1 + k8.1 + 1 + 1 + 1 + 1 + 1 + 1 + 1 + 1 + 1 ≤ cap.1 ∧ 0 + 6 + k3.2 + 1 + k8.2 + 17 + 17 + 17 + 17 + 17 + 17 + 17 + 17 + 8 ≤ cap.2) ∧ (0 < tN (tNew (tNew (tNew (tNew (tNew (tNew (tNew (tNew t9 14 17) 14 17) 14 17) 15 17) 14 17) 14 17) 15 17) 15 17) → (tK (tNew (tNew (tNew (tNew (tNew (tNew (tNew (tNew (tNew t9 14 17) 14 17) 14 17) 15 17) 14 17) 14 17) 15 17) 15 17) 14 8) a = 0 ∧ ((0 + 1 + k3.1 + 1 + k8.1 + 1 + 1 + 1 + 1 + 1 + 1 + 1 + 1 + 1 + 1 ≤ cap.1 ∧ 0 + 6 + k3.2 + 1 + k8.2 + 17 + 17 + 17 + 17 + 17 + 17 + 17 + 17 + 8 + 8 ≤ cap.2) ∧ (0 < tN (tNew (tNew (tNew (tNew (tNew (tNew (tNew (tNew (tNew t9 14 17) 14 17) 14 17) 15 17) 14 17) 14 17) 15 17) 15 17) 14 8) → (tK (tNew (tNew (tNew (tNew (tNew (tNew (tNew (tNew (tNew (tNew t9 14 17) 14 17) 14 17) 15 17) 14 17) 14 17) 15 17) 15 17) 14 8) 14 8) a = 0 ∧ (Q (tNew (tNew (tNew (tNew (tNew (tNew (tNew (tNew (tNew (tNew t9 14 17) 14 17) 14 17) 15 17) 14 17) 14 17) 15 17) 15 17) 14 8) 14 8) (pR (zClr (pR (zClr (pR (zClr (pR (zClr (pR (zClr (pR (zClr (pR (zClr (pR (zClr (pR (zClr (pR (zClr (pR m7 a 1 (tN t4)) (tN t9)) a 5 (tN t9)) (tN (tNew t9 14 17))) a 6 (tN (tNew t9 14 17))) (tN (tNew (tNew t9 14 17) 14 17))) a 7 (tN (tNew (tNew t9 14 17) 14 17))) (tN (tNew (tNew (tNew t9 14 17) 14 17) 14 17))) a 8 (tN (tNew (tNew (tNew t9 14 17) 14 17) 14 17))) (tN (tNew (tNew (tNew (tNew t9 14 17) 14 17) 14 17) 15 17))) a 10 (tN (tNew (tNew (tNew (tNew t9 14 17) 14 17) 14 17) 15 17))) (tN (tNew (tNew (tNew (tNew (tNew t9 14 17) 14 17) 14 17) 15 17) 14 17))) a 11 (tN (tNew (tNew (tNew (tNew (tNew t9 14 17) 14 17) 14 17) 15 17) 14 17))) (tN (tNew (tNew (tNew (tNew (tNew (tNew t9 14 17) 14 17) 14 17) 15 17) 14 17) 14 17))) a 12 (tN (tNew (tNew (tNew (tNew (tNew (tNew t9 14 17) 14 17) 14 17) 15 17) 14 17) 14 17))) (tN (tNew (tNew (tNew (tNew (tNew (tNew (tNew t9 14 17) 14 17) 14 17) 15 17) 14 17) 14 17) 15 17))) a 13 (tN (tNew (tNew (tNew (tNew (tNew (tNew (tNew t9 14 17) 14 17) 14 17) 15 17) 14 17) 14 17) 15 17))) (tN (tNew (tNew (tNew (tNew (tNew (tNew (tNew (tNew t9 14 17) 14 17) 14 17) 15 17) 14 17) 14 17) 15 17) 15 17))) a 15 (tN (tNew (tNew (tNew (tNew (tNew (tNew (tNew (tNew t9 14 17) 14 17) 14 17) 15 17) 14 17) 14 17) 15 17) 15 17))) (tN (tNew (tNew (tNew (tNew (tNew (tNew (tNew (tNew (tNew t9 14 17) 14 17) 14 17) 15 17) 14 17) 14 17) 15 17) 15 17) 14 8))) a 16 (tN (tNew (tNew (tNew (tNew (tNew (tNew (tNew (tNew (tNew t9 14 17) 14 17) 14 17) 15 17) 14 17) 14 17) 15 17) 15 17) 14 8)))))))))))))))))))))))))))))))))))))))))))))))
set_option maxHeartbeats 4000000 in
set_option maxRecDepth 20000 in
theorem kX0_init {l : Launch} {cap : Nat × Nat} {t : zT} {m : zM} {a : Nat} {Q : zT → zM → Prop} (H : wX0_init cap t m a Q) : zMet l yX0_init cX0_init 1 none 3 cap.1 cap.2 t m [.ref a] (zAw Q) := by
  refine zmet (by decide +kernel) (Nat.le_of_ble_eq_true rfl) ?_
  intro p e s mt args below meth c g C hr hm
  unfold wX0_init at H
  obtain ⟨mc, ms⟩ := cap
  refine z_aload_n (pc := 0) C (dX0_init 0 rfl) rfl 0 rfl ?_
  obtain ⟨h49, H⟩ := H
  refine z_objInit (pc := 1) C h49 wl_X0_3 woi woc (by decide) (Nat.le_of_ble_eq_true rfl) (dX0_init 1 rfl) ?_
  refine z_aload_n (pc := 4) C (dX0_init 2 rfl) rfl 0 rfl ?_
  obtain ⟨h47, H⟩ := H
  refine z_new (pc := 5) C zc8 wc_X0_9 wt_X8 wi_X8 (dX0_init 3 rfl) h47.1 h47.2 (fun h48 => ?_)
  replace H := H h48
  refine z_dup (pc := 8) C (dX0_init 4 rfl) rfl ?_
  obtain ⟨h46, H⟩ := H
  obtain ⟨k3, h45, H⟩ := H
  refine za_IvN (pc := 9) (rest := [.ref (tN t), .ref a]) C YX8_init wm_X0_11 h46 (kX8_init H) (by decide) (dX0_init 5 rfl) rfl (by first | exact h45.1 | (have := h45.1; omega)) (by first | exact h45.2 | (have := h45.2; omega)) (Nat.le_of_ble_eq_true rfl) rfl (fun t4 m2 H => ?_)
  obtain ⟨h5, H⟩ := H
  refine z_putRF (pc := 12) C zc0 h5 0 (by decide) rfl rfl hm rfl wf_X0_12 (dX0_init 6 rfl) ?_
  refine z_aload_n (pc := 15) C (dX0_init 7 rfl) rfl 0 rfl ?_
  obtain ⟨h43, H⟩ := H
  refine z_new (pc := 16) C zc6 wc_X0_18 wt_X6 wi_X6 (dX0_init 8 rfl) h43.1 h43.2 (fun h44 => ?_)
  replace H := H h44
  refine z_dup (pc := 19) C (dX0_init 9 rfl) rfl ?_
  obtain ⟨h42, H⟩ := H
  obtain ⟨k8, h41, H⟩ := H
  refine za_IvN (pc := 20) (rest := [.ref (tN t4), .ref a]) C YX6_init wm_X0_20 h42 (kX6_init H) (by decide) (dX0_init 10 rfl) rfl (by first | exact h41.1 | (have := h41.1; omega)) (by first | exact h41.2 | (have := h41.2; omega)) (Nat.le_of_ble_eq_true rfl) rfl (fun t9 m7 H => ?_)
  obtain ⟨h10, H⟩ := H
  refine z_putRF (pc := 23) C zc0 h10 1 (by decide) rfl rfl hm rfl wf_X0_21 (dX0_init 11 rfl) ?_
  refine z_aload_n (pc := 26) C (dX0_init 12 rfl) rfl 0 rfl ?_
  refine z_bipush (pc := 27) (v := 17) C (dX0_init 13 rfl) (by decide) ?_
  obtain ⟨h39, H⟩ := H
  refine z_newaI (pc := 29) (N := 17) C (by decide) (by decide) (by decide) wa_int (dX0_init 14 rfl) h39.1 h39.2 (fun h40 => ?_)
  replace H := H h40
  obtain ⟨h11, H⟩ := H
  refine z_putRF (pc := 31) C zc0 h11 5 (by decide) rfl rfl hm rfl wf_X0_25 (dX0_init 15 rfl) ?_
  refine z_aload_n (pc := 34) C (dX0_init 16 rfl) rfl 0 rfl ?_
  refine z_bipush (pc := 35) (v := 17) C (dX0_init 17 rfl) (by decide) ?_
  obtain ⟨h37, H⟩ := H
  refine z_newaI (pc := 37) (N := 17) C (by decide) (by decide) (by decide) wa_int (dX0_init 18 rfl) h37.1 h37.2 (fun h38 => ?_)
  replace H := H h38
  obtain ⟨h12, H⟩ := H
  refine z_putRF (pc := 39) C zc0 h12 6 (by decide) rfl rfl hm rfl wf_X0_29 (dX0_init 19 rfl) ?_
  refine z_aload_n (pc := 42) C (dX0_init 20 rfl) rfl 0 rfl ?_
  refine z_bipush (pc := 43) (v := 17) C (dX0_init 21 rfl) (by decide) ?_
  obtain ⟨h35, H⟩ := H
  refine z_newaI (pc := 45) (N := 17) C (by decide) (by decide) (by decide) wa_int (dX0_init 22 rfl) h35.1 h35.2 (fun h36 => ?_)
  replace H := H h36
  obtain ⟨h13, H⟩ := H
  refine z_putRF (pc := 47) C zc0 h13 7 (by decide) rfl rfl hm rfl wf_X0_32 (dX0_init 23 rfl) ?_
  refine z_aload_n (pc := 50) C (dX0_init 24 rfl) rfl 0 rfl ?_
  refine z_bipush (pc := 51) (v := 17) C (dX0_init 25 rfl) (by decide) ?_
  obtain ⟨h33, H⟩ := H
  refine z_newaJ (pc := 53) (N := 17) C (by decide) (by decide) (by decide) wa_long (dX0_init 26 rfl) h33.1 h33.2 (fun h34 => ?_)
  replace H := H h34
  obtain ⟨h14, H⟩ := H
  refine z_putRF (pc := 55) C zc0 h14 8 (by decide) rfl rfl hm rfl wf_X0_35 (dX0_init 27 rfl) ?_
  refine z_aload_n (pc := 58) C (dX0_init 28 rfl) rfl 0 rfl ?_
  refine z_bipush (pc := 59) (v := 17) C (dX0_init 29 rfl) (by decide) ?_
  obtain ⟨h31, H⟩ := H
  refine z_newaI (pc := 61) (N := 17) C (by decide) (by decide) (by decide) wa_int (dX0_init 30 rfl) h31.1 h31.2 (fun h32 => ?_)
  replace H := H h32
  obtain ⟨h15, H⟩ := H
  refine z_putRF (pc := 63) C zc0 h15 10 (by decide) rfl rfl hm rfl wf_X0_39 (dX0_init 31 rfl) ?_
  refine z_aload_n (pc := 66) C (dX0_init 32 rfl) rfl 0 rfl ?_
  refine z_bipush (pc := 67) (v := 17) C (dX0_init 33 rfl) (by decide) ?_
  obtain ⟨h29, H⟩ := H
  refine z_newaI (pc := 69) (N := 17) C (by decide) (by decide) (by decide) wa_int (dX0_init 34 rfl) h29.1 h29.2 (fun h30 => ?_)
  replace H := H h30
  obtain ⟨h16, H⟩ := H
  refine z_putRF (pc := 71) C zc0 h16 11 (by decide) rfl rfl hm rfl wf_X0_42 (dX0_init 35 rfl) ?_
  refine z_aload_n (pc := 74) C (dX0_init 36 rfl) rfl 0 rfl ?_
  refine z_bipush (pc := 75) (v := 17) C (dX0_init 37 rfl) (by decide) ?_
  obtain ⟨h27, H⟩ := H
  refine z_newaJ (pc := 77) (N := 17) C (by decide) (by decide) (by decide) wa_long (dX0_init 38 rfl) h27.1 h27.2 (fun h28 => ?_)
  replace H := H h28
  obtain ⟨h17, H⟩ := H
  refine z_putRF (pc := 79) C zc0 h17 12 (by decide) rfl rfl hm rfl wf_X0_45 (dX0_init 39 rfl) ?_
  refine z_aload_n (pc := 82) C (dX0_init 40 rfl) rfl 0 rfl ?_
  refine z_bipush (pc := 83) (v := 17) C (dX0_init 41 rfl) (by decide) ?_
  obtain ⟨h25, H⟩ := H
  refine z_newaJ (pc := 85) (N := 17) C (by decide) (by decide) (by decide) wa_long (dX0_init 42 rfl) h25.1 h25.2 (fun h26 => ?_)
  replace H := H h26
  obtain ⟨h18, H⟩ := H
  refine z_putRF (pc := 87) C zc0 h18 13 (by decide) rfl rfl hm rfl wf_X0_48 (dX0_init 43 rfl) ?_
  refine z_aload_n (pc := 90) C (dX0_init 44 rfl) rfl 0 rfl ?_
  refine z_bipush (pc := 91) (v := 8) C (dX0_init 45 rfl) (by decide) ?_
  obtain ⟨h23, H⟩ := H
  refine z_newaI (pc := 93) (N := 8) C (by decide) (by decide) (by decide) wa_int (dX0_init 46 rfl) h23.1 h23.2 (fun h24 => ?_)
  replace H := H h24
  obtain ⟨h19, H⟩ := H
  refine z_putRF (pc := 95) C zc0 h19 15 (by decide) rfl rfl hm rfl wf_X0_51 (dX0_init 47 rfl) ?_
  refine z_aload_n (pc := 98) C (dX0_init 48 rfl) rfl 0 rfl ?_
  refine z_bipush (pc := 99) (v := 8) C (dX0_init 49 rfl) (by decide) ?_
  obtain ⟨h21, H⟩ := H
  refine z_newaI (pc := 101) (N := 8) C (by decide) (by decide) (by decide) wa_int (dX0_init 50 rfl) h21.1 h21.2 (fun h22 => ?_)
  replace H := H h22
  obtain ⟨h20, H⟩ := H
  refine z_putRF (pc := 103) C zc0 h20 16 (by decide) rfl rfl hm rfl wf_X0_54 (dX0_init 51 rfl) ?_
  exact z_vret (pc := 106) C hr (by first | omega | (show _ ≤ mc; omega)) (by first | omega | (show _ ≤ ms; omega)) (dX0_init 52 rfl) ⟨rfl, H⟩
def wX0_hearOne_J87 (t : zT) (m : zM) (a_0 : Nat) (x_1 : Int32) (a_2 : Nat) (x_3 : Int32) (x_4 : Int32) (x_5 : Int32) (Q : zM → Prop) (r19 : Int32 → Int32 → Int32 → zM → Prop) : Prop := (r19 x_3 x_4 (x_5 + 1) m)
set_option maxHeartbeats 4000000 in
set_option maxRecDepth 20000 in
theorem sX0_hearOne_J87 {p : Program} {l : Launch} {e : Env} {s : State} {mt : MethodId} {args : Array Value} {below : List Frame} {meth : Method} {c : Code} {g : zG} {u : Nat × Nat} {mc ms : Nat} {t : zT} {m : zM} {a_0 : Nat} {x_1 : Int32} {a_2 : Nat} {x_3 : Int32} {x_4 : Int32} {x_5 : Int32} {Q : zM → Prop} {r19 : Int32 → Int32 → Int32 → zM → Prop} (C : zC p (zRm 0 mc ms) s mt args meth c g cX0_hearOne 6 yX0_hearOne.cls 0) (hr : meth.sig.returnType = none) (hm : meth.name = yX0_hearOne.name) (hu1 : u.1 ≤ mc) (hu2 : u.2 ≤ ms)
    (R19 : ∀ (v0 : Int32) (v1 : Int32) (v2 : Int32) (m : zM), r19 v0 v1 v2 m → zW p l e (zRm 0 mc ms) s mt args below meth c g (MQ below (zQc g (zPv t Q)) args s mc ms (zFar g)) u 6 t m 19 [(0, .ref a_0), (1, .int x_1), (2, .ref a_2), (3, .int v0), (4, .int v1), (5, .int v2)] []) (H : wX0_hearOne_J87 t m a_0 x_1 a_2 x_3 x_4 x_5 Q r19) : zW p l e (zRm 0 mc ms) s mt args below meth c g (MQ below (zQc g (zPv t Q)) args s mc ms (zFar g)) u 6 t m 87 [(0, .ref a_0), (1, .int x_1), (2, .ref a_2), (3, .int x_3), (4, .int x_4), (5, .int x_5)] [] := by
  unfold wX0_hearOne_J87 at H
  refine z_iinc (pc := 87) (i := 5) (v := x_5 + 1) (lv2 := [(5, .int (x_5 + 1)), (0, .ref a_0), (1, .int x_1), (2, .ref a_2), (3, .int x_3), (4, .int x_4)]) C (dX0_hearOne 48 rfl) 5 rfl (by rfl) (by decide) rfl ?_
  refine z_goto (pc := 90) (tgt := 19) C (dX0_hearOne 49 rfl) (by decide) ?_
  refine z_sub [1, 2, 3, 4, 5, 0] rfl ?_
  exact R19 x_3 x_4 (x_5 + 1) m H
def wX0_hearOne_J85 (t : zT) (m : zM) (a_0 : Nat) (x_1 : Int32) (a_2 : Nat) (x_3 : Int32) (x_5 : Int32) (s_0 : Int32) (Q : zM → Prop) (r19 : Int32 → Int32 → Int32 → zM → Prop) : Prop := (wX0_hearOne_J87 t m a_0 x_1 a_2 x_3 s_0 x_5 Q r19)
set_option maxHeartbeats 4000000 in
set_option maxRecDepth 20000 in
theorem sX0_hearOne_J85 {p : Program} {l : Launch} {e : Env} {s : State} {mt : MethodId} {args : Array Value} {below : List Frame} {meth : Method} {c : Code} {g : zG} {u : Nat × Nat} {mc ms : Nat} {t : zT} {m : zM} {a_0 : Nat} {x_1 : Int32} {a_2 : Nat} {x_3 : Int32} {x_5 : Int32} {s_0 : Int32} {Q : zM → Prop} {r19 : Int32 → Int32 → Int32 → zM → Prop} (C : zC p (zRm 0 mc ms) s mt args meth c g cX0_hearOne 6 yX0_hearOne.cls 0) (hr : meth.sig.returnType = none) (hm : meth.name = yX0_hearOne.name) (hu1 : u.1 ≤ mc) (hu2 : u.2 ≤ ms)
    (R19 : ∀ (v0 : Int32) (v1 : Int32) (v2 : Int32) (m : zM), r19 v0 v1 v2 m → zW p l e (zRm 0 mc ms) s mt args below meth c g (MQ below (zQc g (zPv t Q)) args s mc ms (zFar g)) u 6 t m 19 [(0, .ref a_0), (1, .int x_1), (2, .ref a_2), (3, .int v0), (4, .int v1), (5, .int v2)] []) (H : wX0_hearOne_J85 t m a_0 x_1 a_2 x_3 x_5 s_0 Q r19) : zW p l e (zRm 0 mc ms) s mt args below meth c g (MQ below (zQc g (zPv t Q)) args s mc ms (zFar g)) u 6 t m 85 [(0, .ref a_0), (1, .int x_1), (2, .ref a_2), (3, .int x_3), (5, .int x_5)] [.int s_0] := by
  unfold wX0_hearOne_J85 at H
  refine z_istore (pc := 85) (i := 4) (lv2 := [(4, .int s_0), (0, .ref a_0), (1, .int x_1), (2, .ref a_2), (3, .int x_3), (5, .int x_5)]) C (dX0_hearOne 47 rfl) (by decide) rfl ?_
  refine z_sub [1, 2, 3, 4, 0, 5] rfl ?_
  exact sX0_hearOne_J87 C hr hm hu1 hu2 R19 H
def wX0_hearOne_L19 (t : zT) (a_0 : Nat) (x_1 : Int32) (a_2 : Nat) (Q : zM → Prop) (k93 : Int32 → Int32 → zM → Prop) : Nat → Int32 → Int32 → Int32 → zM → Prop
  | 0, _, _, _, _ => False
  | n + 1, x_3, x_4, x_5, m => (tK t a_0 = 0 ∧ (((gI m a_0 4) ≤ x_5 → (k93 x_3 x_4 m)) ∧ (¬ (gI m a_0 4) ≤ x_5 → (tK t a_2 = 5 ∧ (tK t (gR m a_0 5) = 14 ∧ (vp_in x_5 (tL t (gR m a_0 5)) ∧ (tK t (gR m a_2 15) = 14 ∧ (vp_in (gI m (gR m a_0 5) x_5.toNatClampNeg) (tL t (gR m a_2 15)) ∧ (vp_in x_1 (tL t (gR m a_2 15)) ∧ (((gI m (gR m a_2 15) ((gI m (gR m a_0 5) x_5.toNatClampNeg).toNatClampNeg)) = (gI m (gR m a_2 15) x_1.toNatClampNeg) → (tK t (gR m a_2 16) = 14 ∧ (vp_in (gI m (gR m a_0 5) x_5.toNatClampNeg) (tL t (gR m a_2 16)) ∧ (vp_in x_1 (tL t (gR m a_2 16)) ∧ (((gI m (gR m a_2 16) ((gI m (gR m a_0 5) x_5.toNatClampNeg).toNatClampNeg)) = (gI m (gR m a_2 16) x_1.toNatClampNeg) → (tK t (gR m a_0 7) = 14 ∧ (vp_in x_5 (tL t (gR m a_0 7)) ∧ (wX0_hearOne_J85 t m a_0 x_1 a_2 x_5 x_5 (gI m (gR m a_0 7) x_5.toNatClampNeg) Q (wX0_hearOne_L19 t a_0 x_1 a_2 Q k93 n))))) ∧ (¬ (gI m (gR m a_2 16) ((gI m (gR m a_0 5) x_5.toNatClampNeg).toNatClampNeg)) = (gI m (gR m a_2 16) x_1.toNatClampNeg) → (wX0_hearOne_J85 t m a_0 x_1 a_2 x_5 x_5 x_4 Q (wX0_hearOne_L19 t a_0 x_1 a_2 Q k93 n)))))))) ∧ (¬ (gI m (gR m a_2 15) ((gI m (gR m a_0 5) x_5.toNatClampNeg).toNatClampNeg)) = (gI m (gR m a_2 15) x_1.toNatClampNeg) → (wX0_hearOne_J87 t m a_0 x_1 a_2 x_3 x_4 x_5 Q (wX0_hearOne_L19 t a_0 x_1 a_2 Q k93 n)))))))))))))
set_option maxHeartbeats 4000000 in
set_option maxRecDepth 20000 in
theorem sX0_hearOne_L19 {p : Program} {l : Launch} {e : Env} {s : State} {mt : MethodId} {args : Array Value} {below : List Frame} {meth : Method} {c : Code} {g : zG} {u : Nat × Nat} {mc ms : Nat} {t : zT} {a_0 : Nat} {x_1 : Int32} {a_2 : Nat} {Q : zM → Prop} {k93 : Int32 → Int32 → zM → Prop} (C : zC p (zRm 0 mc ms) s mt args meth c g cX0_hearOne 6 yX0_hearOne.cls 0) (hr : meth.sig.returnType = none) (hm : meth.name = yX0_hearOne.name) (hu1 : u.1 ≤ mc) (hu2 : u.2 ≤ ms)
    (K93 : ∀ (v0 : Int32) (v1 : Int32) (m : zM), k93 v0 v1 m → zW p l e (zRm 0 mc ms) s mt args below meth c g (MQ below (zQc g (zPv t Q)) args s mc ms (zFar g)) u 6 t m 93 [(0, .ref a_0), (1, .int x_1), (2, .ref a_2), (3, .int v0), (4, .int v1)] []) : ∀ (n : Nat) (x_3 : Int32) (x_4 : Int32) (x_5 : Int32) (m : zM), wX0_hearOne_L19 t a_0 x_1 a_2 Q k93 n x_3 x_4 x_5 m → zW p l e (zRm 0 mc ms) s mt args below meth c g (MQ below (zQc g (zPv t Q)) args s mc ms (zFar g)) u 6 t m 19 [(0, .ref a_0), (1, .int x_1), (2, .ref a_2), (3, .int x_3), (4, .int x_4), (5, .int x_5)] [] := by
  intro n
  induction n with
  | zero => intro x_3 x_4 x_5 m H; exact H.elim
  | succ n ih =>
    intro x_3 x_4 x_5 m H
    simp only [wX0_hearOne_L19] at H
    refine z_iload (pc := 19) C (dX0_hearOne 11 rfl) 5 rfl ?_
    refine z_aload_n (pc := 21) C (dX0_hearOne 12 rfl) rfl 0 rfl ?_
    obtain ⟨h4, H⟩ := H
    refine z_getI (pc := 22) C zc0 h4 4 (by decide) rfl wf_X0_87 (dX0_hearOne 13 rfl) ?_
    refine z_icmp_ge (pc := 25) (tgt := 93) C (dX0_hearOne 14 rfl) (by decide) (fun c5 => ?_) (fun c5 => ?_)
    · replace H := H.1 c5
      refine z_sub [0, 1, 2, 3, 4] rfl ?_
      exact K93 x_3 x_4 m H
    · replace H := H.2 c5
      refine z_aload_n (pc := 28) C (dX0_hearOne 15 rfl) rfl 2 rfl ?_
      obtain ⟨h6, H⟩ := H
      refine z_getR (pc := 29) C zc5 h6 15 (by decide) rfl wf_X0_100 (dX0_hearOne 16 rfl) ?_
      refine z_aload_n (pc := 32) C (dX0_hearOne 17 rfl) rfl 0 rfl ?_
      refine z_getR (pc := 33) C zc0 h4 5 (by decide) rfl wf_X0_25 (dX0_hearOne 18 rfl) ?_
      refine z_iload (pc := 36) C (dX0_hearOne 19 rfl) 5 rfl ?_
      obtain ⟨h7, H⟩ := H
      obtain ⟨h8, H⟩ := H
      refine z_iaload (pc := 38) C h7 h8 (dX0_hearOne 20 rfl) ?_
      obtain ⟨h9, H⟩ := H
      obtain ⟨h10, H⟩ := H
      refine z_iaload (pc := 39) C h9 h10 (dX0_hearOne 21 rfl) ?_
      refine z_aload_n (pc := 40) C (dX0_hearOne 22 rfl) rfl 2 rfl ?_
      refine z_getR (pc := 41) C zc5 h6 15 (by decide) rfl wf_X0_100 (dX0_hearOne 23 rfl) ?_
      refine z_iload_n (pc := 44) C (dX0_hearOne 24 rfl) rfl 1 rfl ?_
      obtain ⟨h11, H⟩ := H
      refine z_iaload (pc := 45) C h9 h11 (dX0_hearOne 25 rfl) ?_
      refine z_icmp_ne (pc := 46) (tgt := 87) C (dX0_hearOne 26 rfl) (by decide) (fun c12 => ?_) (fun c12 => ?_)
      · replace H := H.2 c12
        refine z_sub [0, 1, 2, 3, 4, 5] rfl ?_
        exact sX0_hearOne_J87 C hr hm hu1 hu2 ih H
      · replace H := H.1 c12
        refine z_iload (pc := 49) C (dX0_hearOne 27 rfl) 5 rfl ?_
        refine z_istore_n (pc := 51) (i := 3) (lv2 := [(3, .int x_5), (0, .ref a_0), (1, .int x_1), (2, .ref a_2), (4, .int x_4), (5, .int x_5)]) C (dX0_hearOne 28 rfl) rfl (by decide) rfl ?_
        refine z_aload_n (pc := 52) C (dX0_hearOne 29 rfl) rfl 3 rfl ?_
        refine z_getR (pc := 53) C zc5 h6 16 (by decide) rfl wf_X0_105 (dX0_hearOne 30 rfl) ?_
        refine z_aload_n (pc := 56) C (dX0_hearOne 31 rfl) rfl 1 rfl ?_
        refine z_getR (pc := 57) C zc0 h4 5 (by decide) rfl wf_X0_25 (dX0_hearOne 32 rfl) ?_
        refine z_iload (pc := 60) C (dX0_hearOne 33 rfl) 5 rfl ?_
        refine z_iaload (pc := 62) C h7 h8 (dX0_hearOne 34 rfl) ?_
        obtain ⟨h13, H⟩ := H
        obtain ⟨h14, H⟩ := H
        refine z_iaload (pc := 63) C h13 h14 (dX0_hearOne 35 rfl) ?_
        refine z_aload_n (pc := 64) C (dX0_hearOne 36 rfl) rfl 3 rfl ?_
        refine z_getR (pc := 65) C zc5 h6 16 (by decide) rfl wf_X0_105 (dX0_hearOne 37 rfl) ?_
        refine z_iload_n (pc := 68) C (dX0_hearOne 38 rfl) rfl 2 rfl ?_
        obtain ⟨h15, H⟩ := H
        refine z_iaload (pc := 69) C h13 h15 (dX0_hearOne 39 rfl) ?_
        refine z_icmp_ne (pc := 70) (tgt := 83) C (dX0_hearOne 40 rfl) (by decide) (fun c16 => ?_) (fun c16 => ?_)
        · replace H := H.2 c16
          refine z_iload (pc := 83) C (dX0_hearOne 46 rfl) 4 rfl ?_
          refine z_sub [1, 2, 3, 0, 5] rfl ?_
          exact sX0_hearOne_J85 C hr hm hu1 hu2 ih H
        · replace H := H.1 c16
          refine z_aload_n (pc := 73) C (dX0_hearOne 41 rfl) rfl 1 rfl ?_
          refine z_getR (pc := 74) C zc0 h4 7 (by decide) rfl wf_X0_32 (dX0_hearOne 42 rfl) ?_
          refine z_iload (pc := 77) C (dX0_hearOne 43 rfl) 5 rfl ?_
          obtain ⟨h17, H⟩ := H
          obtain ⟨h18, H⟩ := H
          refine z_iaload (pc := 79) C h17 h18 (dX0_hearOne 44 rfl) ?_
          refine z_goto (pc := 80) (tgt := 85) C (dX0_hearOne 45 rfl) (by decide) ?_
          refine z_sub [1, 2, 3, 0, 5] rfl ?_
          exact sX0_hearOne_J85 C hr hm hu1 hu2 ih H
def wX0_hearOne_J138 (t : zT) (m : zM) (a_0 : Nat) (x_1 : Int32) (x_3 : Int32) (x_4 : Int32) (Q : zM → Prop) : Prop := (tK t a_0 = 0 ∧ (tK t (gR m a_0 5) = 14 ∧ (vp_in (gI m a_0 4) (tL t (gR m a_0 5)) ∧ (tK t (gR m a_0 6) = 14 ∧ (vp_in (gI (pI m (gR m a_0 5) ((gI m a_0 4).toNatClampNeg) x_1) a_0 4) (tL t (gR m a_0 6)) ∧ (tK t (gR m a_0 7) = 14 ∧ (vp_in (gI (pI (pI m (gR m a_0 5) ((gI m a_0 4).toNatClampNeg) x_1) (gR m a_0 6) ((gI (pI m (gR m a_0 5) ((gI m a_0 4).toNatClampNeg) x_1) a_0 4).toNatClampNeg) x_3) a_0 4) (tL t (gR m a_0 7)) ∧ (Q (pI (pI (pI (pI m (gR m a_0 5) ((gI m a_0 4).toNatClampNeg) x_1) (gR m a_0 6) ((gI (pI m (gR m a_0 5) ((gI m a_0 4).toNatClampNeg) x_1) a_0 4).toNatClampNeg) x_3) (gR m a_0 7) ((gI (pI (pI m (gR m a_0 5) ((gI m a_0 4).toNatClampNeg) x_1) (gR m a_0 6) ((gI (pI m (gR m a_0 5) ((gI m a_0 4).toNatClampNeg) x_1) a_0 4).toNatClampNeg) x_3) a_0 4).toNatClampNeg) x_4) a_0 4 ((gI (pI (pI (pI m (gR m a_0 5) ((gI m a_0 4).toNatClampNeg) x_1) (gR m a_0 6) ((gI (pI m (gR m a_0 5) ((gI m a_0 4).toNatClampNeg) x_1) a_0 4).toNatClampNeg) x_3) (gR m a_0 7) ((gI (pI (pI m (gR m a_0 5) ((gI m a_0 4).toNatClampNeg) x_1) (gR m a_0 6) ((gI (pI m (gR m a_0 5) ((gI m a_0 4).toNatClampNeg) x_1) a_0 4).toNatClampNeg) x_3) a_0 4).toNatClampNeg) x_4) a_0 4) + (1 : Int32)))))))))))
set_option maxHeartbeats 4000000 in
set_option maxRecDepth 20000 in
theorem sX0_hearOne_J138 {p : Program} {l : Launch} {e : Env} {s : State} {mt : MethodId} {args : Array Value} {below : List Frame} {meth : Method} {c : Code} {g : zG} {u : Nat × Nat} {mc ms : Nat} {t : zT} {m : zM} {a_0 : Nat} {x_1 : Int32} {x_3 : Int32} {x_4 : Int32} {Q : zM → Prop} (C : zC p (zRm 0 mc ms) s mt args meth c g cX0_hearOne 6 yX0_hearOne.cls 0) (hr : meth.sig.returnType = none) (hm : meth.name = yX0_hearOne.name) (hu1 : u.1 ≤ mc) (hu2 : u.2 ≤ ms) (H : wX0_hearOne_J138 t m a_0 x_1 x_3 x_4 Q) : zW p l e (zRm 0 mc ms) s mt args below meth c g (MQ below (zQc g (zPv t Q)) args s mc ms (zFar g)) u 6 t m 138 [(0, .ref a_0), (1, .int x_1), (3, .int x_3), (4, .int x_4)] [] := by
  unfold wX0_hearOne_J138 at H
  refine z_aload_n (pc := 138) C (dX0_hearOne 76 rfl) rfl 0 rfl ?_
  obtain ⟨h23, H⟩ := H
  refine z_getR (pc := 139) C zc0 h23 5 (by decide) rfl wf_X0_25 (dX0_hearOne 77 rfl) ?_
  refine z_aload_n (pc := 142) C (dX0_hearOne 78 rfl) rfl 0 rfl ?_
  refine z_getI (pc := 143) C zc0 h23 4 (by decide) rfl wf_X0_87 (dX0_hearOne 79 rfl) ?_
  refine z_iload_n (pc := 146) C (dX0_hearOne 80 rfl) rfl 1 rfl ?_
  obtain ⟨h24, H⟩ := H
  obtain ⟨h25, H⟩ := H
  refine z_iastore (pc := 147) C h24 h25 (dX0_hearOne 81 rfl) ?_
  refine z_aload_n (pc := 148) C (dX0_hearOne 82 rfl) rfl 0 rfl ?_
  refine z_getR (pc := 149) C zc0 h23 6 (by decide) rfl wf_X0_29 (dX0_hearOne 83 rfl) ?_
  refine z_aload_n (pc := 152) C (dX0_hearOne 84 rfl) rfl 0 rfl ?_
  refine z_getI (pc := 153) C zc0 h23 4 (by decide) rfl wf_X0_87 (dX0_hearOne 85 rfl) ?_
  refine z_iload_n (pc := 156) C (dX0_hearOne 86 rfl) rfl 2 rfl ?_
  obtain ⟨h26, H⟩ := H
  obtain ⟨h27, H⟩ := H
  refine z_iastore (pc := 157) C h26 h27 (dX0_hearOne 87 rfl) ?_
  refine z_aload_n (pc := 158) C (dX0_hearOne 88 rfl) rfl 0 rfl ?_
  refine z_getR (pc := 159) C zc0 h23 7 (by decide) rfl wf_X0_32 (dX0_hearOne 89 rfl) ?_
  refine z_aload_n (pc := 162) C (dX0_hearOne 90 rfl) rfl 0 rfl ?_
  refine z_getI (pc := 163) C zc0 h23 4 (by decide) rfl wf_X0_87 (dX0_hearOne 91 rfl) ?_
  refine z_iload (pc := 166) C (dX0_hearOne 92 rfl) 3 rfl ?_
  obtain ⟨h28, H⟩ := H
  obtain ⟨h29, H⟩ := H
  refine z_iastore (pc := 168) C h28 h29 (dX0_hearOne 93 rfl) ?_
  refine z_aload_n (pc := 169) C (dX0_hearOne 94 rfl) rfl 0 rfl ?_
  refine z_dup (pc := 170) C (dX0_hearOne 95 rfl) rfl ?_
  refine z_getI (pc := 171) C zc0 h23 4 (by decide) rfl wf_X0_87 (dX0_hearOne 96 rfl) ?_
  refine z_iconst (pc := 174) (v := 1) C (dX0_hearOne 97 rfl) (by decide) ?_
  refine z_iadd (pc := 175) C (dX0_hearOne 98 rfl) ?_
  refine z_putI (pc := 176) C zc0 h23 4 (by decide) rfl rfl wf_X0_87 (dX0_hearOne 99 rfl) ?_
  exact z_vret (pc := 179) C hr hu1 hu2 (dX0_hearOne 100 rfl) ⟨rfl, rfl, H⟩
def wX0_hearOne (t : zT) (m : zM) (a : Nat) (p1 : Int32) (Q : zM → Prop) : Prop := (tK t a = 0 ∧ (tK t (gR m a 0) = 8 ∧ (∀ a3 : Nat, a3 = (gR m (gR m a 0) 0) → ((∃ n39, wX0_hearOne_L19 t a p1 a3 Q (fun v19 v20 m21 => ((v20 = (gI m21 a 9) → (tK t a3 = 5 ∧ (tK t (gR m21 a3 15) = 14 ∧ (vp_in p1 (tL t (gR m21 a3 15)) ∧ (tK t (gR m21 a 10) = 14 ∧ (vp_in v20 (tL t (gR m21 a 10)) ∧ (tK t (gR m21 a3 16) = 14 ∧ (vp_in p1 (tL t (gR m21 a3 16)) ∧ (tK t (gR m21 a 11) = 14 ∧ (vp_in v20 (tL t (gR m21 a 11)) ∧ (wX0_hearOne_J138 t (pI (pI (pI m21 (gR m21 a 10) v20.toNatClampNeg (gI m21 (gR m21 a3 15) p1.toNatClampNeg)) (gR m21 a 11) v20.toNatClampNeg (gI (pI m21 (gR m21 a 10) v20.toNatClampNeg (gI m21 (gR m21 a3 15) p1.toNatClampNeg)) (gR m21 a3 16) p1.toNatClampNeg)) a 9 ((gI (pI (pI m21 (gR m21 a 10) v20.toNatClampNeg (gI m21 (gR m21 a3 15) p1.toNatClampNeg)) (gR m21 a 11) v20.toNatClampNeg (gI (pI m21 (gR m21 a 10) v20.toNatClampNeg (gI m21 (gR m21 a3 15) p1.toNatClampNeg)) (gR m21 a3 16) p1.toNatClampNeg)) a 9) + (1 : Int32))) a p1 v19 v20 Q))))))))))) ∧ (¬ v20 = (gI m21 a 9) → (wX0_hearOne_J138 t m21 a p1 v19 v20 Q)))) n39 (-1) (gI m a 9) 0 m)))))
set_option maxHeartbeats 4000000 in
set_option maxRecDepth 20000 in
theorem kX0_hearOne {l : Launch} {t : zT} {m : zM} {a : Nat} {p1 : Int32} {Q : zM → Prop} (H : wX0_hearOne t m a p1 Q) : zMet l yX0_hearOne cX0_hearOne 6 none 0 0 0 t m [.ref a, .int p1] (zPv t Q) := by
  refine zmet (by decide +kernel) (Nat.le_of_ble_eq_true rfl) ?_
  intro p e s mt args below meth c g C hr hm
  unfold wX0_hearOne at H
  have hu1 : ((0, 0) : Nat × Nat).1 ≤ 0 := Nat.le_refl 0
  have hu2 : ((0, 0) : Nat × Nat).2 ≤ 0 := Nat.le_refl 0
  refine z_aload_n (pc := 0) C (dX0_hearOne 0 rfl) rfl 0 rfl ?_
  obtain ⟨h1, H⟩ := H
  refine z_getR (pc := 1) C zc0 h1 0 (by decide) rfl wf_X0_12 (dX0_hearOne 1 rfl) ?_
  obtain ⟨h2, H⟩ := H
  refine z_getR (pc := 4) C zc8 h2 0 (by decide) rfl wf_X0_96 (dX0_hearOne 2 rfl) ?_
  refine z_ref (fun a3 ha3 => ?_)
  replace H := H a3 ha3
  refine z_astore_n (pc := 7) (i := 2) (lv2 := [(2, .ref a3), (0, .ref a), (1, .int p1)]) C (dX0_hearOne 3 rfl) rfl (by decide) rfl ?_
  refine z_iconst (pc := 8) (v := (-1)) C (dX0_hearOne 4 rfl) (by decide) ?_
  refine z_istore_n (pc := 9) (i := 3) (lv2 := [(3, .int (-1)), (2, .ref a3), (0, .ref a), (1, .int p1)]) C (dX0_hearOne 5 rfl) rfl (by decide) rfl ?_
  refine z_aload_n (pc := 10) C (dX0_hearOne 6 rfl) rfl 2 rfl ?_
  refine z_getI (pc := 11) C zc0 h1 9 (by decide) rfl wf_X0_90 (dX0_hearOne 7 rfl) ?_
  refine z_istore (pc := 14) (i := 4) (lv2 := [(4, .int (gI m a 9)), (3, .int (-1)), (2, .ref a3), (0, .ref a), (1, .int p1)]) C (dX0_hearOne 8 rfl) (by decide) rfl ?_
  refine z_iconst (pc := 16) (v := 0) C (dX0_hearOne 9 rfl) (by decide) ?_
  refine z_istore (pc := 17) (i := 5) (lv2 := [(5, .int 0), (4, .int (gI m a 9)), (3, .int (-1)), (2, .ref a3), (0, .ref a), (1, .int p1)]) C (dX0_hearOne 10 rfl) (by decide) rfl ?_
  obtain ⟨n39, H⟩ := H
  refine z_sub [4, 5, 3, 2, 1, 0] rfl ?_
  refine sX0_hearOne_L19 C hr hm hu1 hu2 (fun v19 v20 m21 H => ?_) n39 (-1) (gI m a 9) 0 m H
  refine z_iload (pc := 93) C (dX0_hearOne 50 rfl) 4 rfl ?_
  refine z_aload_n (pc := 95) C (dX0_hearOne 51 rfl) rfl 0 rfl ?_
  refine z_getI (pc := 96) C zc0 h1 9 (by decide) rfl wf_X0_90 (dX0_hearOne 52 rfl) ?_
  refine z_icmp_ne (pc := 99) (tgt := 138) C (dX0_hearOne 53 rfl) (by decide) (fun c22 => ?_) (fun c22 => ?_)
  · replace H := H.2 c22
    refine z_sub [0, 1, 3, 4] rfl ?_
    exact sX0_hearOne_J138 C hr hm hu1 hu2 H
  · replace H := H.1 c22
    refine z_aload_n (pc := 102) C (dX0_hearOne 54 rfl) rfl 0 rfl ?_
    refine z_getR (pc := 103) C zc0 h1 10 (by decide) rfl wf_X0_39 (dX0_hearOne 55 rfl) ?_
    refine z_iload (pc := 106) C (dX0_hearOne 56 rfl) 4 rfl ?_
    refine z_aload_n (pc := 108) C (dX0_hearOne 57 rfl) rfl 2 rfl ?_
    obtain ⟨h30, H⟩ := H
    refine z_getR (pc := 109) C zc5 h30 15 (by decide) rfl wf_X0_100 (dX0_hearOne 58 rfl) ?_
    refine z_iload_n (pc := 112) C (dX0_hearOne 59 rfl) rfl 1 rfl ?_
    obtain ⟨h31, H⟩ := H
    obtain ⟨h32, H⟩ := H
    refine z_iaload (pc := 113) C h31 h32 (dX0_hearOne 60 rfl) ?_
    obtain ⟨h33, H⟩ := H
    obtain ⟨h34, H⟩ := H
    refine z_iastore (pc := 114) C h33 h34 (dX0_hearOne 61 rfl) ?_
    refine z_aload_n (pc := 115) C (dX0_hearOne 62 rfl) rfl 0 rfl ?_
    refine z_getR (pc := 116) C zc0 h1 11 (by decide) rfl wf_X0_42 (dX0_hearOne 63 rfl) ?_
    refine z_iload (pc := 119) C (dX0_hearOne 64 rfl) 4 rfl ?_
    refine z_aload_n (pc := 121) C (dX0_hearOne 65 rfl) rfl 2 rfl ?_
    refine z_getR (pc := 122) C zc5 h30 16 (by decide) rfl wf_X0_105 (dX0_hearOne 66 rfl) ?_
    refine z_iload_n (pc := 125) C (dX0_hearOne 67 rfl) rfl 1 rfl ?_
    obtain ⟨h35, H⟩ := H
    obtain ⟨h36, H⟩ := H
    refine z_iaload (pc := 126) C h35 h36 (dX0_hearOne 68 rfl) ?_
    obtain ⟨h37, H⟩ := H
    obtain ⟨h38, H⟩ := H
    refine z_iastore (pc := 127) C h37 h38 (dX0_hearOne 69 rfl) ?_
    refine z_aload_n (pc := 128) C (dX0_hearOne 70 rfl) rfl 0 rfl ?_
    refine z_dup (pc := 129) C (dX0_hearOne 71 rfl) rfl ?_
    refine z_getI (pc := 130) C zc0 h1 9 (by decide) rfl wf_X0_90 (dX0_hearOne 72 rfl) ?_
    refine z_iconst (pc := 133) (v := 1) C (dX0_hearOne 73 rfl) (by decide) ?_
    refine z_iadd (pc := 134) C (dX0_hearOne 74 rfl) ?_
    refine z_putI (pc := 135) C zc0 h1 9 (by decide) rfl rfl wf_X0_90 (dX0_hearOne 75 rfl) ?_
    refine z_sub [0, 1, 3, 4] rfl ?_
    exact sX0_hearOne_J138 C hr hm hu1 hu2 H
def wX0_hear_J31 (t : zT) (m : zM) (a_0 : Nat) (x_1 : Int32) (x_2 : Int32) (Q : zM → Prop) (r12 : Int32 → zM → Prop) : Prop := (r12 (x_2 + 1) m)
set_option maxHeartbeats 4000000 in
set_option maxRecDepth 20000 in
theorem sX0_hear_J31 {p : Program} {l : Launch} {e : Env} {s : State} {mt : MethodId} {args : Array Value} {below : List Frame} {meth : Method} {c : Code} {g : zG} {u : Nat × Nat} {mc ms : Nat} {t : zT} {m : zM} {a_0 : Nat} {x_1 : Int32} {x_2 : Int32} {Q : zM → Prop} {r12 : Int32 → zM → Prop} (C : zC p (zRm 1 mc ms) s mt args meth c g cX0_hear 3 yX0_hear.cls 1) (hr : meth.sig.returnType = none) (hm : meth.name = yX0_hear.name) (hu1 : u.1 ≤ mc) (hu2 : u.2 ≤ ms)
    (R12 : ∀ (v0 : Int32) (m : zM), r12 v0 m → zW p l e (zRm 1 mc ms) s mt args below meth c g (MQ below (zQc g (zPv t Q)) args s mc ms (zFar g)) u 3 t m 12 [(0, .ref a_0), (1, .int x_1), (2, .int v0)] []) (H : wX0_hear_J31 t m a_0 x_1 x_2 Q r12) : zW p l e (zRm 1 mc ms) s mt args below meth c g (MQ below (zQc g (zPv t Q)) args s mc ms (zFar g)) u 3 t m 31 [(0, .ref a_0), (1, .int x_1), (2, .int x_2)] [] := by
  unfold wX0_hear_J31 at H
  refine z_iinc (pc := 31) (i := 2) (v := x_2 + 1) (lv2 := [(2, .int (x_2 + 1)), (0, .ref a_0), (1, .int x_1)]) C (dX0_hear 20 rfl) 2 rfl (by rfl) (by decide) rfl ?_
  refine z_goto (pc := 34) (tgt := 12) C (dX0_hear 21 rfl) (by decide) ?_
  refine z_sub [1, 2, 0] rfl ?_
  exact R12 (x_2 + 1) m H
def wX0_hear_L12 (t : zT) (a_0 : Nat) (x_1 : Int32) (Q : zM → Prop) (k37 : zM → Prop) : Nat → Int32 → zM → Prop
  | 0, _, _ => False
  | n + 1, x_2, m => (((17 : Int32) ≤ x_2 → (k37 m)) ∧ (¬ (17 : Int32) ≤ x_2 → ((((x_1 >>> (x_2 &&& 31)) &&& (1 : Int32)) = 0 → (wX0_hear_J31 t m a_0 x_1 x_2 Q (wX0_hear_L12 t a_0 x_1 Q k37 n))) ∧ (¬ ((x_1 >>> (x_2 &&& 31)) &&& (1 : Int32)) = 0 → (tK t a_0 = 0 ∧ (wX0_hearOne t m a_0 x_2 (fun m6 => (wX0_hear_J31 t m6 a_0 x_1 x_2 Q (wX0_hear_L12 t a_0 x_1 Q k37 n)))))))))
set_option maxHeartbeats 4000000 in
set_option maxRecDepth 20000 in
theorem sX0_hear_L12 {p : Program} {l : Launch} {e : Env} {s : State} {mt : MethodId} {args : Array Value} {below : List Frame} {meth : Method} {c : Code} {g : zG} {u : Nat × Nat} {mc ms : Nat} {t : zT} {a_0 : Nat} {x_1 : Int32} {Q : zM → Prop} {k37 : zM → Prop} (C : zC p (zRm 1 mc ms) s mt args meth c g cX0_hear 3 yX0_hear.cls 1) (hr : meth.sig.returnType = none) (hm : meth.name = yX0_hear.name) (hu1 : u.1 ≤ mc) (hu2 : u.2 ≤ ms)
    (K37 : ∀ (m : zM), k37 m → zW p l e (zRm 1 mc ms) s mt args below meth c g (MQ below (zQc g (zPv t Q)) args s mc ms (zFar g)) u 3 t m 37 [] []) : ∀ (n : Nat) (x_2 : Int32) (m : zM), wX0_hear_L12 t a_0 x_1 Q k37 n x_2 m → zW p l e (zRm 1 mc ms) s mt args below meth c g (MQ below (zQc g (zPv t Q)) args s mc ms (zFar g)) u 3 t m 12 [(0, .ref a_0), (1, .int x_1), (2, .int x_2)] [] := by
  intro n
  induction n with
  | zero => intro x_2 m H; exact H.elim
  | succ n ih =>
    intro x_2 m H
    simp only [wX0_hear_L12] at H
    refine z_iload_n (pc := 12) C (dX0_hear 8 rfl) rfl 2 rfl ?_
    refine z_bipush (pc := 13) (v := 17) C (dX0_hear 9 rfl) (by decide) ?_
    refine z_icmp_ge (pc := 15) (tgt := 37) C (dX0_hear 10 rfl) (by decide) (fun c2 => ?_) (fun c2 => ?_)
    · replace H := H.1 c2
      refine z_sub [] rfl ?_
      exact K37 m H
    · replace H := H.2 c2
      refine z_iload_n (pc := 18) C (dX0_hear 11 rfl) rfl 1 rfl ?_
      refine z_iload_n (pc := 19) C (dX0_hear 12 rfl) rfl 2 rfl ?_
      refine z_ishr (pc := 20) C (dX0_hear 13 rfl) ?_
      refine z_iconst (pc := 21) (v := 1) C (dX0_hear 14 rfl) (by decide) ?_
      refine z_iand (pc := 22) C (dX0_hear 15 rfl) ?_
      refine z_if_eq (pc := 23) (tgt := 31) C (dX0_hear 16 rfl) (by decide) (fun c3 => ?_) (fun c3 => ?_)
      · replace H := H.1 c3
        refine z_sub [0, 1, 2] rfl ?_
        exact sX0_hear_J31 C hr hm hu1 hu2 ih H
      · replace H := H.2 c3
        refine z_aload_n (pc := 26) C (dX0_hear 17 rfl) rfl 0 rfl ?_
        refine z_iload_n (pc := 27) C (dX0_hear 18 rfl) rfl 2 rfl ?_
        obtain ⟨h4, H⟩ := H
        refine zc_Vv (pc := 28) (rest := []) C YX0_hearOne wl_X0_93 (kX0_hearOne H) (by decide) h4 rfl (by decide) (dX0_hear 19 rfl) rfl hu1 hu2 (Nat.le_of_ble_eq_true rfl) rfl (fun m6 H => ?_)
        refine z_sub [0, 1, 2] rfl ?_
        exact sX0_hear_J31 C hr hm hu1 hu2 ih H
def wX0_hear (t : zT) (m : zM) (a : Nat) (p1 : Int32) (Q : zM → Prop) : Prop := (tK t a = 0 ∧ (∃ n8, wX0_hear_L12 t a p1 Q (fun m7 => (Q m7)) n8 0 (pI (pI m a 4 0) a 9 0)))
set_option maxHeartbeats 4000000 in
set_option maxRecDepth 20000 in
theorem kX0_hear {l : Launch} {t : zT} {m : zM} {a : Nat} {p1 : Int32} {Q : zM → Prop} (H : wX0_hear t m a p1 Q) : zMet l yX0_hear cX0_hear 3 none 1 0 0 t m [.ref a, .int p1] (zPv t Q) := by
  refine zmet (by decide +kernel) (Nat.le_of_ble_eq_true rfl) ?_
  intro p e s mt args below meth c g C hr hm
  unfold wX0_hear at H
  have hu1 : ((0, 0) : Nat × Nat).1 ≤ 0 := Nat.le_refl 0
  have hu2 : ((0, 0) : Nat × Nat).2 ≤ 0 := Nat.le_refl 0
  refine z_aload_n (pc := 0) C (dX0_hear 0 rfl) rfl 0 rfl ?_
  refine z_iconst (pc := 1) (v := 0) C (dX0_hear 1 rfl) (by decide) ?_
  obtain ⟨h1, H⟩ := H
  refine z_putI (pc := 2) C zc0 h1 4 (by decide) rfl rfl wf_X0_87 (dX0_hear 2 rfl) ?_
  refine z_aload_n (pc := 5) C (dX0_hear 3 rfl) rfl 0 rfl ?_
  refine z_iconst (pc := 6) (v := 0) C (dX0_hear 4 rfl) (by decide) ?_
  refine z_putI (pc := 7) C zc0 h1 9 (by decide) rfl rfl wf_X0_90 (dX0_hear 5 rfl) ?_
  refine z_iconst (pc := 10) (v := 0) C (dX0_hear 6 rfl) (by decide) ?_
  refine z_istore_n (pc := 11) (i := 2) (lv2 := [(2, .int 0), (0, .ref a), (1, .int p1)]) C (dX0_hear 7 rfl) rfl (by decide) rfl ?_
  obtain ⟨n8, H⟩ := H
  refine z_sub [1, 2, 0] rfl ?_
  refine sX0_hear_L12 C hr hm hu1 hu2 (fun m7 H => ?_) n8 0 (pI (pI m a 4 0) a 9 0) H
  exact z_vret (pc := 37) C hr hu1 hu2 (dX0_hear 22 rfl) ⟨rfl, rfl, H⟩
def wX0_pairUpThing_J60 (t : zT) (m : zM) (a_0 : Nat) (x_1 : Int32) (x_2 : Int32) (x_3 : Int32) (x_4 : Int32) (x_5 : Int32) (Q : zM → Prop) (r10 : Int32 → Int32 → Int32 → Int32 → zM → Prop) : Prop := (r10 x_2 x_3 x_4 (x_5 + 1) m)
set_option maxHeartbeats 4000000 in
set_option maxRecDepth 20000 in
theorem sX0_pairUpThing_J60 {p : Program} {l : Launch} {e : Env} {s : State} {mt : MethodId} {args : Array Value} {below : List Frame} {meth : Method} {c : Code} {g : zG} {u : Nat × Nat} {mc ms : Nat} {t : zT} {m : zM} {a_0 : Nat} {x_1 : Int32} {x_2 : Int32} {x_3 : Int32} {x_4 : Int32} {x_5 : Int32} {Q : zM → Prop} {r10 : Int32 → Int32 → Int32 → Int32 → zM → Prop} (C : zC p (zRm 0 mc ms) s mt args meth c g cX0_pairUpThing 6 yX0_pairUpThing.cls 0) (hr : meth.sig.returnType = none) (hm : meth.name = yX0_pairUpThing.name) (hu1 : u.1 ≤ mc) (hu2 : u.2 ≤ ms)
    (R10 : ∀ (v0 : Int32) (v1 : Int32) (v2 : Int32) (v3 : Int32) (m : zM), r10 v0 v1 v2 v3 m → zW p l e (zRm 0 mc ms) s mt args below meth c g (MQ below (zQc g (zPv t Q)) args s mc ms (zFar g)) u 6 t m 10 [(0, .ref a_0), (1, .int x_1), (2, .int v0), (3, .int v1), (4, .int v2), (5, .int v3)] []) (H : wX0_pairUpThing_J60 t m a_0 x_1 x_2 x_3 x_4 x_5 Q r10) : zW p l e (zRm 0 mc ms) s mt args below meth c g (MQ below (zQc g (zPv t Q)) args s mc ms (zFar g)) u 6 t m 60 [(0, .ref a_0), (1, .int x_1), (2, .int x_2), (3, .int x_3), (4, .int x_4), (5, .int x_5)] [] := by
  unfold wX0_pairUpThing_J60 at H
  refine z_iinc (pc := 60) (i := 5) (v := x_5 + 1) (lv2 := [(5, .int (x_5 + 1)), (0, .ref a_0), (1, .int x_1), (2, .int x_2), (3, .int x_3), (4, .int x_4)]) C (dX0_pairUpThing 34 rfl) 5 rfl (by rfl) (by decide) rfl ?_
  refine z_goto (pc := 63) (tgt := 10) C (dX0_pairUpThing 35 rfl) (by decide) ?_
  refine z_sub [1, 2, 3, 4, 5, 0] rfl ?_
  exact R10 x_2 x_3 x_4 (x_5 + 1) m H
def wX0_pairUpThing_L10 (t : zT) (a_0 : Nat) (x_1 : Int32) (Q : zM → Prop) (k66 : Int32 → Int32 → Int32 → zM → Prop) : Nat → Int32 → Int32 → Int32 → Int32 → zM → Prop
  | 0, _, _, _, _, _ => False
  | n + 1, x_2, x_3, x_4, x_5, m => (tK t a_0 = 0 ∧ (((gI m a_0 9) ≤ x_5 → (k66 x_2 x_3 x_4 m)) ∧ (¬ (gI m a_0 9) ≤ x_5 → (tK t (gR m a_0 11) = 14 ∧ (vp_in x_5 (tL t (gR m a_0 11)) ∧ (((gI m (gR m a_0 11) x_5.toNatClampNeg) = x_1 → (tK t (gR m a_0 0) = 8 ∧ (tK t (gR m (gR m a_0 0) 0) = 5 ∧ (tK t (gR m a_0 10) = 14 ∧ (vp_in x_5 (tL t (gR m a_0 10)) ∧ (tK t (gR m (gR m (gR m a_0 0) 0) 11) = 14 ∧ (vp_in (gI m (gR m a_0 10) x_5.toNatClampNeg) (tL t (gR m (gR m (gR m a_0 0) 0) 11)) ∧ (((gI m (gR m (gR m (gR m a_0 0) 0) 11) ((gI m (gR m a_0 10) x_5.toNatClampNeg).toNatClampNeg)) = 2 → (wX0_pairUpThing_J60 t m a_0 x_1 x_2 x_3 x_4 x_5 Q (wX0_pairUpThing_L10 t a_0 x_1 Q k66 n))) ∧ (¬ (gI m (gR m (gR m (gR m a_0 0) 0) 11) ((gI m (gR m a_0 10) x_5.toNatClampNeg).toNatClampNeg)) = 2 → (wX0_pairUpThing_J60 t m a_0 x_1 x_3 x_5 (x_4 + 1) x_5 Q (wX0_pairUpThing_L10 t a_0 x_1 Q k66 n))))))))))) ∧ (¬ (gI m (gR m a_0 11) x_5.toNatClampNeg) = x_1 → (wX0_pairUpThing_J60 t m a_0 x_1 x_2 x_3 x_4 x_5 Q (wX0_pairUpThing_L10 t a_0 x_1 Q k66 n)))))))))
set_option maxHeartbeats 4000000 in
set_option maxRecDepth 20000 in
theorem sX0_pairUpThing_L10 {p : Program} {l : Launch} {e : Env} {s : State} {mt : MethodId} {args : Array Value} {below : List Frame} {meth : Method} {c : Code} {g : zG} {u : Nat × Nat} {mc ms : Nat} {t : zT} {a_0 : Nat} {x_1 : Int32} {Q : zM → Prop} {k66 : Int32 → Int32 → Int32 → zM → Prop} (C : zC p (zRm 0 mc ms) s mt args meth c g cX0_pairUpThing 6 yX0_pairUpThing.cls 0) (hr : meth.sig.returnType = none) (hm : meth.name = yX0_pairUpThing.name) (hu1 : u.1 ≤ mc) (hu2 : u.2 ≤ ms)
    (K66 : ∀ (v0 : Int32) (v1 : Int32) (v2 : Int32) (m : zM), k66 v0 v1 v2 m → zW p l e (zRm 0 mc ms) s mt args below meth c g (MQ below (zQc g (zPv t Q)) args s mc ms (zFar g)) u 6 t m 66 [(0, .ref a_0), (2, .int v0), (3, .int v1), (4, .int v2)] []) : ∀ (n : Nat) (x_2 : Int32) (x_3 : Int32) (x_4 : Int32) (x_5 : Int32) (m : zM), wX0_pairUpThing_L10 t a_0 x_1 Q k66 n x_2 x_3 x_4 x_5 m → zW p l e (zRm 0 mc ms) s mt args below meth c g (MQ below (zQc g (zPv t Q)) args s mc ms (zFar g)) u 6 t m 10 [(0, .ref a_0), (1, .int x_1), (2, .int x_2), (3, .int x_3), (4, .int x_4), (5, .int x_5)] [] := by
  intro n
  induction n with
  | zero => intro x_2 x_3 x_4 x_5 m H; exact H.elim
  | succ n ih =>
    intro x_2 x_3 x_4 x_5 m H
    simp only [wX0_pairUpThing_L10] at H
    refine z_iload (pc := 10) C (dX0_pairUpThing 8 rfl) 5 rfl ?_
    refine z_aload_n (pc := 12) C (dX0_pairUpThing 9 rfl) rfl 0 rfl ?_
    obtain ⟨h1, H⟩ := H
    refine z_getI (pc := 13) C zc0 h1 9 (by decide) rfl wf_X0_90 (dX0_pairUpThing 10 rfl) ?_
    refine z_icmp_ge (pc := 16) (tgt := 66) C (dX0_pairUpThing 11 rfl) (by decide) (fun c2 => ?_) (fun c2 => ?_)
    · replace H := H.1 c2
      refine z_sub [0, 2, 3, 4] rfl ?_
      exact K66 x_2 x_3 x_4 m H
    · replace H := H.2 c2
      refine z_aload_n (pc := 19) C (dX0_pairUpThing 12 rfl) rfl 0 rfl ?_
      refine z_getR (pc := 20) C zc0 h1 11 (by decide) rfl wf_X0_42 (dX0_pairUpThing 13 rfl) ?_
      refine z_iload (pc := 23) C (dX0_pairUpThing 14 rfl) 5 rfl ?_
      obtain ⟨h3, H⟩ := H
      obtain ⟨h4, H⟩ := H
      refine z_iaload (pc := 25) C h3 h4 (dX0_pairUpThing 15 rfl) ?_
      refine z_iload_n (pc := 26) C (dX0_pairUpThing 16 rfl) rfl 1 rfl ?_
      refine z_icmp_ne (pc := 27) (tgt := 60) C (dX0_pairUpThing 17 rfl) (by decide) (fun c5 => ?_) (fun c5 => ?_)
      · replace H := H.2 c5
        refine z_sub [0, 1, 2, 3, 4, 5] rfl ?_
        exact sX0_pairUpThing_J60 C hr hm hu1 hu2 ih H
      · replace H := H.1 c5
        refine z_aload_n (pc := 30) C (dX0_pairUpThing 18 rfl) rfl 0 rfl ?_
        refine z_getR (pc := 31) C zc0 h1 0 (by decide) rfl wf_X0_12 (dX0_pairUpThing 19 rfl) ?_
        obtain ⟨h6, H⟩ := H
        refine z_getR (pc := 34) C zc8 h6 0 (by decide) rfl wf_X0_96 (dX0_pairUpThing 20 rfl) ?_
        obtain ⟨h7, H⟩ := H
        refine z_getR (pc := 37) C zc5 h7 11 (by decide) rfl wf_X0_117 (dX0_pairUpThing 21 rfl) ?_
        refine z_aload_n (pc := 40) C (dX0_pairUpThing 22 rfl) rfl 0 rfl ?_
        refine z_getR (pc := 41) C zc0 h1 10 (by decide) rfl wf_X0_39 (dX0_pairUpThing 23 rfl) ?_
        refine z_iload (pc := 44) C (dX0_pairUpThing 24 rfl) 5 rfl ?_
        obtain ⟨h8, H⟩ := H
        obtain ⟨h9, H⟩ := H
        refine z_iaload (pc := 46) C h8 h9 (dX0_pairUpThing 25 rfl) ?_
        obtain ⟨h10, H⟩ := H
        obtain ⟨h11, H⟩ := H
        refine z_iaload (pc := 47) C h10 h11 (dX0_pairUpThing 26 rfl) ?_
        refine z_iconst (pc := 48) (v := 2) C (dX0_pairUpThing 27 rfl) (by decide) ?_
        refine z_icmp_eq (pc := 49) (tgt := 60) C (dX0_pairUpThing 28 rfl) (by decide) (fun c12 => ?_) (fun c12 => ?_)
        · replace H := H.1 c12
          refine z_sub [0, 1, 2, 3, 4, 5] rfl ?_
          exact sX0_pairUpThing_J60 C hr hm hu1 hu2 ih H
        · replace H := H.2 c12
          refine z_iload_n (pc := 52) C (dX0_pairUpThing 29 rfl) rfl 3 rfl ?_
          refine z_istore_n (pc := 53) (i := 2) (lv2 := [(2, .int x_3), (0, .ref a_0), (1, .int x_1), (3, .int x_3), (4, .int x_4), (5, .int x_5)]) C (dX0_pairUpThing 30 rfl) rfl (by decide) rfl ?_
          refine z_iload (pc := 54) C (dX0_pairUpThing 31 rfl) 5 rfl ?_
          refine z_istore_n (pc := 56) (i := 3) (lv2 := [(3, .int x_5), (2, .int x_3), (0, .ref a_0), (1, .int x_1), (4, .int x_4), (5, .int x_5)]) C (dX0_pairUpThing 32 rfl) rfl (by decide) rfl ?_
          refine z_iinc (pc := 57) (i := 4) (v := x_4 + 1) (lv2 := [(4, .int (x_4 + 1)), (3, .int x_5), (2, .int x_3), (0, .ref a_0), (1, .int x_1), (5, .int x_5)]) C (dX0_pairUpThing 33 rfl) 4 rfl (by rfl) (by decide) rfl ?_
          refine z_sub [3, 4, 2, 1, 0, 5] rfl ?_
          exact sX0_pairUpThing_J60 C hr hm hu1 hu2 ih H
def wX0_pairUpThing (t : zT) (m : zM) (a : Nat) (p1 : Int32) (Q : zM → Prop) : Prop := (∃ n23, wX0_pairUpThing_L10 t a p1 Q (fun v13 v14 v15 m16 => ((v15 = 2 → (tK t a = 0 ∧ (tK t (gR m16 a 15) = 14 ∧ (vp_in (gI m16 a 14) (tL t (gR m16 a 15)) ∧ (tK t (gR m16 a 16) = 14 ∧ (vp_in (gI (pI m16 (gR m16 a 15) ((gI m16 a 14).toNatClampNeg) v13) a 14) (tL t (gR m16 a 16)) ∧ (Q (pI (pI (pI m16 (gR m16 a 15) ((gI m16 a 14).toNatClampNeg) v13) (gR m16 a 16) ((gI (pI m16 (gR m16 a 15) ((gI m16 a 14).toNatClampNeg) v13) a 14).toNatClampNeg) v14) a 14 ((gI (pI (pI m16 (gR m16 a 15) ((gI m16 a 14).toNatClampNeg) v13) (gR m16 a 16) ((gI (pI m16 (gR m16 a 15) ((gI m16 a 14).toNatClampNeg) v13) a 14).toNatClampNeg) v14) a 14) + (1 : Int32)))))))))) ∧ (¬ v15 = 2 → (Q m16)))) n23 (-1) (-1) 0 0 m)
set_option maxHeartbeats 4000000 in
set_option maxRecDepth 20000 in
theorem kX0_pairUpThing {l : Launch} {t : zT} {m : zM} {a : Nat} {p1 : Int32} {Q : zM → Prop} (H : wX0_pairUpThing t m a p1 Q) : zMet l yX0_pairUpThing cX0_pairUpThing 6 none 0 0 0 t m [.ref a, .int p1] (zPv t Q) := by
  refine zmet (by decide +kernel) (Nat.le_of_ble_eq_true rfl) ?_
  intro p e s mt args below meth c g C hr hm
  unfold wX0_pairUpThing at H
  have hu1 : ((0, 0) : Nat × Nat).1 ≤ 0 := Nat.le_refl 0
  have hu2 : ((0, 0) : Nat × Nat).2 ≤ 0 := Nat.le_refl 0
  refine z_iconst (pc := 0) (v := (-1)) C (dX0_pairUpThing 0 rfl) (by decide) ?_
  refine z_istore_n (pc := 1) (i := 2) (lv2 := [(2, .int (-1)), (0, .ref a), (1, .int p1)]) C (dX0_pairUpThing 1 rfl) rfl (by decide) rfl ?_
  refine z_iconst (pc := 2) (v := (-1)) C (dX0_pairUpThing 2 rfl) (by decide) ?_
  refine z_istore_n (pc := 3) (i := 3) (lv2 := [(3, .int (-1)), (2, .int (-1)), (0, .ref a), (1, .int p1)]) C (dX0_pairUpThing 3 rfl) rfl (by decide) rfl ?_
  refine z_iconst (pc := 4) (v := 0) C (dX0_pairUpThing 4 rfl) (by decide) ?_
  refine z_istore (pc := 5) (i := 4) (lv2 := [(4, .int 0), (3, .int (-1)), (2, .int (-1)), (0, .ref a), (1, .int p1)]) C (dX0_pairUpThing 5 rfl) (by decide) rfl ?_
  refine z_iconst (pc := 7) (v := 0) C (dX0_pairUpThing 6 rfl) (by decide) ?_
  refine z_istore (pc := 8) (i := 5) (lv2 := [(5, .int 0), (4, .int 0), (3, .int (-1)), (2, .int (-1)), (0, .ref a), (1, .int p1)]) C (dX0_pairUpThing 7 rfl) (by decide) rfl ?_
  obtain ⟨n23, H⟩ := H
  refine z_sub [4, 5, 3, 2, 1, 0] rfl ?_
  refine sX0_pairUpThing_L10 C hr hm hu1 hu2 (fun v13 v14 v15 m16 H => ?_) n23 (-1) (-1) 0 0 m H
  refine z_iload (pc := 66) C (dX0_pairUpThing 36 rfl) 3 rfl ?_
  refine z_iconst (pc := 68) (v := 2) C (dX0_pairUpThing 37 rfl) (by decide) ?_
  refine z_icmp_ne (pc := 69) (tgt := 102) C (dX0_pairUpThing 38 rfl) (by decide) (fun c17 => ?_) (fun c17 => ?_)
  · replace H := H.2 c17
    exact z_vret (pc := 102) C hr hu1 hu2 (dX0_pairUpThing 57 rfl) ⟨rfl, rfl, H⟩
  · replace H := H.1 c17
    refine z_aload_n (pc := 72) C (dX0_pairUpThing 39 rfl) rfl 0 rfl ?_
    obtain ⟨h18, H⟩ := H
    refine z_getR (pc := 73) C zc0 h18 15 (by decide) rfl wf_X0_51 (dX0_pairUpThing 40 rfl) ?_
    refine z_aload_n (pc := 76) C (dX0_pairUpThing 41 rfl) rfl 0 rfl ?_
    refine z_getI (pc := 77) C zc0 h18 14 (by decide) rfl wf_X0_108 (dX0_pairUpThing 42 rfl) ?_
    refine z_iload_n (pc := 80) C (dX0_pairUpThing 43 rfl) rfl 1 rfl ?_
    obtain ⟨h19, H⟩ := H
    obtain ⟨h20, H⟩ := H
    refine z_iastore (pc := 81) C h19 h20 (dX0_pairUpThing 44 rfl) ?_
    refine z_aload_n (pc := 82) C (dX0_pairUpThing 45 rfl) rfl 0 rfl ?_
    refine z_getR (pc := 83) C zc0 h18 16 (by decide) rfl wf_X0_54 (dX0_pairUpThing 46 rfl) ?_
    refine z_aload_n (pc := 86) C (dX0_pairUpThing 47 rfl) rfl 0 rfl ?_
    refine z_getI (pc := 87) C zc0 h18 14 (by decide) rfl wf_X0_108 (dX0_pairUpThing 48 rfl) ?_
    refine z_iload_n (pc := 90) C (dX0_pairUpThing 49 rfl) rfl 2 rfl ?_
    obtain ⟨h21, H⟩ := H
    obtain ⟨h22, H⟩ := H
    refine z_iastore (pc := 91) C h21 h22 (dX0_pairUpThing 50 rfl) ?_
    refine z_aload_n (pc := 92) C (dX0_pairUpThing 51 rfl) rfl 0 rfl ?_
    refine z_dup (pc := 93) C (dX0_pairUpThing 52 rfl) rfl ?_
    refine z_getI (pc := 94) C zc0 h18 14 (by decide) rfl wf_X0_108 (dX0_pairUpThing 53 rfl) ?_
    refine z_iconst (pc := 97) (v := 1) C (dX0_pairUpThing 54 rfl) (by decide) ?_
    refine z_iadd (pc := 98) C (dX0_pairUpThing 55 rfl) ?_
    refine z_putI (pc := 99) C zc0 h18 14 (by decide) rfl rfl wf_X0_108 (dX0_pairUpThing 56 rfl) ?_
    exact z_vret (pc := 102) C hr hu1 hu2 (dX0_pairUpThing 57 rfl) ⟨rfl, rfl, H⟩
def wX0_pairUp_L17 (t : zT) (a_0 : Nat) (Q : zM → Prop) (k42 : zM → Prop) : Nat → Int32 → zM → Prop
  | 0, _, _ => False
  | n + 1, x_1, m => (tK t a_0 = 0 ∧ (tK t (gR m a_0 0) = 8 ∧ (tK t (gR m (gR m a_0 0) 0) = 5 ∧ (((gI m (gR m (gR m a_0 0) 0) 0) ≤ x_1 → (k42 m)) ∧ (¬ (gI m (gR m (gR m a_0 0) 0) 0) ≤ x_1 → (wX0_pairUpThing t m a_0 x_1 (fun m8 => (wX0_pairUp_L17 t a_0 Q k42 n (x_1 + 1) m8))))))))
set_option maxHeartbeats 4000000 in
set_option maxRecDepth 20000 in
theorem sX0_pairUp_L17 {p : Program} {l : Launch} {e : Env} {s : State} {mt : MethodId} {args : Array Value} {below : List Frame} {meth : Method} {c : Code} {g : zG} {u : Nat × Nat} {mc ms : Nat} {t : zT} {a_0 : Nat} {Q : zM → Prop} {k42 : zM → Prop} (C : zC p (zRm 1 mc ms) s mt args meth c g cX0_pairUp 2 yX0_pairUp.cls 1) (hr : meth.sig.returnType = none) (hm : meth.name = yX0_pairUp.name) (hu1 : u.1 ≤ mc) (hu2 : u.2 ≤ ms)
    (K42 : ∀ (m : zM), k42 m → zW p l e (zRm 1 mc ms) s mt args below meth c g (MQ below (zQc g (zPv t Q)) args s mc ms (zFar g)) u 2 t m 42 [] []) : ∀ (n : Nat) (x_1 : Int32) (m : zM), wX0_pairUp_L17 t a_0 Q k42 n x_1 m → zW p l e (zRm 1 mc ms) s mt args below meth c g (MQ below (zQc g (zPv t Q)) args s mc ms (zFar g)) u 2 t m 17 [(0, .ref a_0), (1, .int x_1)] [] := by
  intro n
  induction n with
  | zero => intro x_1 m H; exact H.elim
  | succ n ih =>
    intro x_1 m H
    simp only [wX0_pairUp_L17] at H
    refine z_iload_n (pc := 17) C (dX0_pairUp 11 rfl) rfl 1 rfl ?_
    refine z_aload_n (pc := 18) C (dX0_pairUp 12 rfl) rfl 0 rfl ?_
    obtain ⟨h3, H⟩ := H
    refine z_getR (pc := 19) C zc0 h3 0 (by decide) rfl wf_X0_12 (dX0_pairUp 13 rfl) ?_
    obtain ⟨h4, H⟩ := H
    refine z_getR (pc := 22) C zc8 h4 0 (by decide) rfl wf_X0_96 (dX0_pairUp 14 rfl) ?_
    obtain ⟨h5, H⟩ := H
    refine z_getI (pc := 25) C zc5 h5 0 (by decide) rfl wf_X0_111 (dX0_pairUp 15 rfl) ?_
    refine z_icmp_ge (pc := 28) (tgt := 42) C (dX0_pairUp 16 rfl) (by decide) (fun c6 => ?_) (fun c6 => ?_)
    · replace H := H.1 c6
      refine z_sub [] rfl ?_
      exact K42 m H
    · replace H := H.2 c6
      refine z_aload_n (pc := 31) C (dX0_pairUp 17 rfl) rfl 0 rfl ?_
      refine z_iload_n (pc := 32) C (dX0_pairUp 18 rfl) rfl 1 rfl ?_
      refine zc_Vv (pc := 33) (rest := []) C YX0_pairUpThing wl_X0_114 (kX0_pairUpThing H) (by decide) h3 rfl (by decide) (dX0_pairUp 19 rfl) rfl hu1 hu2 (Nat.le_of_ble_eq_true rfl) rfl (fun m8 H => ?_)
      refine z_iinc (pc := 36) (i := 1) (v := x_1 + 1) (lv2 := [(1, .int (x_1 + 1)), (0, .ref a_0)]) C (dX0_pairUp 20 rfl) 1 rfl (by rfl) (by decide) rfl ?_
      refine z_goto (pc := 39) (tgt := 17) C (dX0_pairUp 21 rfl) (by decide) ?_
      refine z_sub [1, 0] rfl ?_
      exact ih (x_1 + 1) m8 H
def wX0_pairUp (t : zT) (m : zM) (a : Nat) (Q : zM → Prop) : Prop := (tK t a = 0 ∧ ((((gI (pI m a 14 0) a 2) &&& (1 : Int32)) = 0 → (Q (pI m a 14 0))) ∧ (¬ ((gI (pI m a 14 0) a 2) &&& (1 : Int32)) = 0 → (∃ n10, wX0_pairUp_L17 t a Q (fun m9 => (Q m9)) n10 0 (pI m a 14 0)))))
set_option maxHeartbeats 4000000 in
set_option maxRecDepth 20000 in
theorem kX0_pairUp {l : Launch} {t : zT} {m : zM} {a : Nat} {Q : zM → Prop} (H : wX0_pairUp t m a Q) : zMet l yX0_pairUp cX0_pairUp 2 none 1 0 0 t m [.ref a] (zPv t Q) := by
  refine zmet (by decide +kernel) (Nat.le_of_ble_eq_true rfl) ?_
  intro p e s mt args below meth c g C hr hm
  unfold wX0_pairUp at H
  have hu1 : ((0, 0) : Nat × Nat).1 ≤ 0 := Nat.le_refl 0
  have hu2 : ((0, 0) : Nat × Nat).2 ≤ 0 := Nat.le_refl 0
  refine z_aload_n (pc := 0) C (dX0_pairUp 0 rfl) rfl 0 rfl ?_
  refine z_iconst (pc := 1) (v := 0) C (dX0_pairUp 1 rfl) (by decide) ?_
  obtain ⟨h1, H⟩ := H
  refine z_putI (pc := 2) C zc0 h1 14 (by decide) rfl rfl wf_X0_108 (dX0_pairUp 2 rfl) ?_
  refine z_aload_n (pc := 5) C (dX0_pairUp 3 rfl) rfl 0 rfl ?_
  refine z_getI (pc := 6) C zc0 h1 2 (by decide) rfl wf_X0_57 (dX0_pairUp 4 rfl) ?_
  refine z_iconst (pc := 9) (v := 1) C (dX0_pairUp 5 rfl) (by decide) ?_
  refine z_iand (pc := 10) C (dX0_pairUp 6 rfl) ?_
  refine z_if_ne (pc := 11) (tgt := 15) C (dX0_pairUp 7 rfl) (by decide) (fun c2 => ?_) (fun c2 => ?_)
  · replace H := H.2 c2
    refine z_iconst (pc := 15) (v := 0) C (dX0_pairUp 9 rfl) (by decide) ?_
    refine z_istore_n (pc := 16) (i := 1) (lv2 := [(1, .int 0), (0, .ref a)]) C (dX0_pairUp 10 rfl) rfl (by decide) rfl ?_
    obtain ⟨n10, H⟩ := H
    refine z_sub [1, 0] rfl ?_
    refine sX0_pairUp_L17 C hr hm hu1 hu2 (fun m9 H => ?_) n10 0 (pI m a 14 0) H
    exact z_vret (pc := 42) C hr hu1 hu2 (dX0_pairUp 22 rfl) ⟨rfl, rfl, H⟩
  · replace H := H.1 c2
    exact z_vret (pc := 14) C hr hu1 hu2 (dX0_pairUp 8 rfl) ⟨rfl, rfl, H⟩
def wX0_watch_J59 (t : zT) (m : zM) (a_0 : Nat) (x_1 : Int32) (x_3 : Int32) (s_0 : Int32) (s_1 : Int32) (Q : zM → Prop) (r35 : Int32 → Int32 → zM → Prop) : Prop := (r35 (s_1 + s_0) (x_3 + 1) m)
set_option maxHeartbeats 4000000 in
set_option maxRecDepth 20000 in
theorem sX0_watch_J59 {p : Program} {l : Launch} {e : Env} {s : State} {mt : MethodId} {args : Array Value} {below : List Frame} {meth : Method} {c : Code} {g : zG} {u : Nat × Nat} {mc ms : Nat} {t : zT} {m : zM} {a_0 : Nat} {x_1 : Int32} {x_3 : Int32} {s_0 : Int32} {s_1 : Int32} {Q : zM → Prop} {r35 : Int32 → Int32 → zM → Prop} (C : zC p (zRm 0 mc ms) s mt args meth c g cX0_watch 4 yX0_watch.cls 0) (hr : meth.sig.returnType = none) (hm : meth.name = yX0_watch.name) (hu1 : u.1 ≤ mc) (hu2 : u.2 ≤ ms)
    (R35 : ∀ (v0 : Int32) (v1 : Int32) (m : zM), r35 v0 v1 m → zW p l e (zRm 0 mc ms) s mt args below meth c g (MQ below (zQc g (zPv t Q)) args s mc ms (zFar g)) u 4 t m 35 [(0, .ref a_0), (1, .int x_1), (2, .int v0), (3, .int v1)] []) (H : wX0_watch_J59 t m a_0 x_1 x_3 s_0 s_1 Q r35) : zW p l e (zRm 0 mc ms) s mt args below meth c g (MQ below (zQc g (zPv t Q)) args s mc ms (zFar g)) u 4 t m 59 [(0, .ref a_0), (1, .int x_1), (3, .int x_3)] [.int s_0, .int s_1] := by
  unfold wX0_watch_J59 at H
  refine z_iadd (pc := 59) C (dX0_watch 35 rfl) ?_
  refine z_istore_n (pc := 60) (i := 2) (lv2 := [(2, .int (s_1 + s_0)), (0, .ref a_0), (1, .int x_1), (3, .int x_3)]) C (dX0_watch 36 rfl) rfl (by decide) rfl ?_
  refine z_iinc (pc := 61) (i := 3) (v := x_3 + 1) (lv2 := [(3, .int (x_3 + 1)), (2, .int (s_1 + s_0)), (0, .ref a_0), (1, .int x_1)]) C (dX0_watch 37 rfl) 3 rfl (by rfl) (by decide) rfl ?_
  refine z_goto (pc := 64) (tgt := 35) C (dX0_watch 38 rfl) (by decide) ?_
  refine z_sub [2, 3, 1, 0] rfl ?_
  exact R35 (s_1 + s_0) (x_3 + 1) m H
def wX0_watch_L35 (t : zT) (a_0 : Nat) (x_1 : Int32) (Q : zM → Prop) (k67 : Int32 → zM → Prop) : Nat → Int32 → Int32 → zM → Prop
  | 0, _, _, _ => False
  | n + 1, x_2, x_3, m => (tK t a_0 = 0 ∧ (((gI m a_0 9) ≤ x_3 → (k67 x_2 m)) ∧ (¬ (gI m a_0 9) ≤ x_3 → (tK t (gR m a_0 10) = 14 ∧ (vp_in x_3 (tL t (gR m a_0 10)) ∧ (((gI m (gR m a_0 10) x_3.toNatClampNeg) = x_1 → (wX0_watch_J59 t m a_0 x_1 x_3 1 x_2 Q (wX0_watch_L35 t a_0 x_1 Q k67 n))) ∧ (¬ (gI m (gR m a_0 10) x_3.toNatClampNeg) = x_1 → (wX0_watch_J59 t m a_0 x_1 x_3 0 x_2 Q (wX0_watch_L35 t a_0 x_1 Q k67 n)))))))))
set_option maxHeartbeats 4000000 in
set_option maxRecDepth 20000 in
theorem sX0_watch_L35 {p : Program} {l : Launch} {e : Env} {s : State} {mt : MethodId} {args : Array Value} {below : List Frame} {meth : Method} {c : Code} {g : zG} {u : Nat × Nat} {mc ms : Nat} {t : zT} {a_0 : Nat} {x_1 : Int32} {Q : zM → Prop} {k67 : Int32 → zM → Prop} (C : zC p (zRm 0 mc ms) s mt args meth c g cX0_watch 4 yX0_watch.cls 0) (hr : meth.sig.returnType = none) (hm : meth.name = yX0_watch.name) (hu1 : u.1 ≤ mc) (hu2 : u.2 ≤ ms)
    (K67 : ∀ (v0 : Int32) (m : zM), k67 v0 m → zW p l e (zRm 0 mc ms) s mt args below meth c g (MQ below (zQc g (zPv t Q)) args s mc ms (zFar g)) u 4 t m 67 [(0, .ref a_0), (1, .int x_1), (2, .int v0)] []) : ∀ (n : Nat) (x_2 : Int32) (x_3 : Int32) (m : zM), wX0_watch_L35 t a_0 x_1 Q k67 n x_2 x_3 m → zW p l e (zRm 0 mc ms) s mt args below meth c g (MQ below (zQc g (zPv t Q)) args s mc ms (zFar g)) u 4 t m 35 [(0, .ref a_0), (1, .int x_1), (2, .int x_2), (3, .int x_3)] [] := by
  intro n
  induction n with
  | zero => intro x_2 x_3 m H; exact H.elim
  | succ n ih =>
    intro x_2 x_3 m H
    simp only [wX0_watch_L35] at H
    refine z_iload_n (pc := 35) C (dX0_watch 21 rfl) rfl 3 rfl ?_
    refine z_aload_n (pc := 36) C (dX0_watch 22 rfl) rfl 0 rfl ?_
    obtain ⟨h7, H⟩ := H
    refine z_getI (pc := 37) C zc0 h7 9 (by decide) rfl wf_X0_90 (dX0_watch 23 rfl) ?_
    refine z_icmp_ge (pc := 40) (tgt := 67) C (dX0_watch 24 rfl) (by decide) (fun c8 => ?_) (fun c8 => ?_)
    · replace H := H.1 c8
      refine z_sub [0, 1, 2] rfl ?_
      exact K67 x_2 m H
    · replace H := H.2 c8
      refine z_iload_n (pc := 43) C (dX0_watch 25 rfl) rfl 2 rfl ?_
      refine z_aload_n (pc := 44) C (dX0_watch 26 rfl) rfl 0 rfl ?_
      refine z_getR (pc := 45) C zc0 h7 10 (by decide) rfl wf_X0_39 (dX0_watch 27 rfl) ?_
      refine z_iload_n (pc := 48) C (dX0_watch 28 rfl) rfl 3 rfl ?_
      obtain ⟨h9, H⟩ := H
      obtain ⟨h10, H⟩ := H
      refine z_iaload (pc := 49) C h9 h10 (dX0_watch 29 rfl) ?_
      refine z_iload_n (pc := 50) C (dX0_watch 30 rfl) rfl 1 rfl ?_
      refine z_icmp_ne (pc := 51) (tgt := 58) C (dX0_watch 31 rfl) (by decide) (fun c11 => ?_) (fun c11 => ?_)
      · replace H := H.2 c11
        refine z_iconst (pc := 58) (v := 0) C (dX0_watch 34 rfl) (by decide) ?_
        refine z_sub [0, 1, 3] rfl ?_
        exact sX0_watch_J59 C hr hm hu1 hu2 ih H
      · replace H := H.1 c11
        refine z_iconst (pc := 54) (v := 1) C (dX0_watch 32 rfl) (by decide) ?_
        refine z_goto (pc := 55) (tgt := 59) C (dX0_watch 33 rfl) (by decide) ?_
        refine z_sub [0, 1, 3] rfl ?_
        exact sX0_watch_J59 C hr hm hu1 hu2 ih H
def wX0_watch_J108 (t : zT) (m : zM) (a_0 : Nat) (x_1 : Int32) (Q : zM → Prop) (r17 : Int32 → zM → Prop) : Prop := (r17 (x_1 + 1) m)
set_option maxHeartbeats 4000000 in
set_option maxRecDepth 20000 in
theorem sX0_watch_J108 {p : Program} {l : Launch} {e : Env} {s : State} {mt : MethodId} {args : Array Value} {below : List Frame} {meth : Method} {c : Code} {g : zG} {u : Nat × Nat} {mc ms : Nat} {t : zT} {m : zM} {a_0 : Nat} {x_1 : Int32} {Q : zM → Prop} {r17 : Int32 → zM → Prop} (C : zC p (zRm 0 mc ms) s mt args meth c g cX0_watch 4 yX0_watch.cls 0) (hr : meth.sig.returnType = none) (hm : meth.name = yX0_watch.name) (hu1 : u.1 ≤ mc) (hu2 : u.2 ≤ ms)
    (R17 : ∀ (v0 : Int32) (m : zM), r17 v0 m → zW p l e (zRm 0 mc ms) s mt args below meth c g (MQ below (zQc g (zPv t Q)) args s mc ms (zFar g)) u 4 t m 17 [(0, .ref a_0), (1, .int v0)] []) (H : wX0_watch_J108 t m a_0 x_1 Q r17) : zW p l e (zRm 0 mc ms) s mt args below meth c g (MQ below (zQc g (zPv t Q)) args s mc ms (zFar g)) u 4 t m 108 [(0, .ref a_0), (1, .int x_1)] [] := by
  unfold wX0_watch_J108 at H
  refine z_iinc (pc := 108) (i := 1) (v := x_1 + 1) (lv2 := [(1, .int (x_1 + 1)), (0, .ref a_0)]) C (dX0_watch 60 rfl) 1 rfl (by rfl) (by decide) rfl ?_
  refine z_goto (pc := 111) (tgt := 17) C (dX0_watch 61 rfl) (by decide) ?_
  refine z_sub [1, 0] rfl ?_
  exact R17 (x_1 + 1) m H
def wX0_watch_L17 (t : zT) (a_0 : Nat) (Q : zM → Prop) (k114 : zM → Prop) : Nat → Int32 → zM → Prop
  | 0, _, _ => False
  | n + 1, x_1, m => (tK t a_0 = 0 ∧ (tK t (gR m a_0 0) = 8 ∧ (tK t (gR m (gR m a_0 0) 0) = 5 ∧ (((gI m (gR m (gR m a_0 0) 0) 10) ≤ x_1 → (k114 m)) ∧ (¬ (gI m (gR m (gR m a_0 0) 0) 10) ≤ x_1 → (∃ n20, wX0_watch_L35 t a_0 x_1 Q (fun v12 m13 => (tK t (gR m13 a_0 0) = 8 ∧ (tK t (gR m13 (gR m13 a_0 0) 0) = 5 ∧ (tK t (gR m13 (gR m13 (gR m13 a_0 0) 0) 11) = 14 ∧ (vp_in x_1 (tL t (gR m13 (gR m13 (gR m13 a_0 0) 0) 11)) ∧ (((gI m13 (gR m13 (gR m13 (gR m13 a_0 0) 0) 11) x_1.toNatClampNeg) = 0 → ((v12 ≤ (gI m13 (gR m13 (gR m13 a_0 0) 0) 13) → (wX0_watch_J108 t m13 a_0 x_1 Q (wX0_watch_L17 t a_0 Q k114 n))) ∧ (¬ v12 ≤ (gI m13 (gR m13 (gR m13 a_0 0) 0) 13) → (wX0_watch_J108 t (pI m13 a_0 3 ((gI m13 a_0 3) ||| ((1 : Int32) <<< (x_1 &&& 31)))) a_0 x_1 Q (wX0_watch_L17 t a_0 Q k114 n))))) ∧ (¬ (gI m13 (gR m13 (gR m13 (gR m13 a_0 0) 0) 11) x_1.toNatClampNeg) = 0 → (wX0_watch_J108 t m13 a_0 x_1 Q (wX0_watch_L17 t a_0 Q k114 n))))))))) n20 0 0 m))))))
set_option maxHeartbeats 4000000 in
set_option maxRecDepth 20000 in
theorem sX0_watch_L17 {p : Program} {l : Launch} {e : Env} {s : State} {mt : MethodId} {args : Array Value} {below : List Frame} {meth : Method} {c : Code} {g : zG} {u : Nat × Nat} {mc ms : Nat} {t : zT} {a_0 : Nat} {Q : zM → Prop} {k114 : zM → Prop} (C : zC p (zRm 0 mc ms) s mt args meth c g cX0_watch 4 yX0_watch.cls 0) (hr : meth.sig.returnType = none) (hm : meth.name = yX0_watch.name) (hu1 : u.1 ≤ mc) (hu2 : u.2 ≤ ms)
    (K114 : ∀ (m : zM), k114 m → zW p l e (zRm 0 mc ms) s mt args below meth c g (MQ below (zQc g (zPv t Q)) args s mc ms (zFar g)) u 4 t m 114 [] []) : ∀ (n : Nat) (x_1 : Int32) (m : zM), wX0_watch_L17 t a_0 Q k114 n x_1 m → zW p l e (zRm 0 mc ms) s mt args below meth c g (MQ below (zQc g (zPv t Q)) args s mc ms (zFar g)) u 4 t m 17 [(0, .ref a_0), (1, .int x_1)] [] := by
  intro n
  induction n with
  | zero => intro x_1 m H; exact H.elim
  | succ n ih =>
    intro x_1 m H
    simp only [wX0_watch_L17] at H
    refine z_iload_n (pc := 17) C (dX0_watch 11 rfl) rfl 1 rfl ?_
    refine z_aload_n (pc := 18) C (dX0_watch 12 rfl) rfl 0 rfl ?_
    obtain ⟨h3, H⟩ := H
    refine z_getR (pc := 19) C zc0 h3 0 (by decide) rfl wf_X0_12 (dX0_watch 13 rfl) ?_
    obtain ⟨h4, H⟩ := H
    refine z_getR (pc := 22) C zc8 h4 0 (by decide) rfl wf_X0_96 (dX0_watch 14 rfl) ?_
    obtain ⟨h5, H⟩ := H
    refine z_getI (pc := 25) C zc5 h5 10 (by decide) rfl wf_X0_142 (dX0_watch 15 rfl) ?_
    refine z_icmp_ge (pc := 28) (tgt := 114) C (dX0_watch 16 rfl) (by decide) (fun c6 => ?_) (fun c6 => ?_)
    · replace H := H.1 c6
      refine z_sub [] rfl ?_
      exact K114 m H
    · replace H := H.2 c6
      refine z_iconst (pc := 31) (v := 0) C (dX0_watch 17 rfl) (by decide) ?_
      refine z_istore_n (pc := 32) (i := 2) (lv2 := [(2, .int 0), (0, .ref a_0), (1, .int x_1)]) C (dX0_watch 18 rfl) rfl (by decide) rfl ?_
      refine z_iconst (pc := 33) (v := 0) C (dX0_watch 19 rfl) (by decide) ?_
      refine z_istore_n (pc := 34) (i := 3) (lv2 := [(3, .int 0), (2, .int 0), (0, .ref a_0), (1, .int x_1)]) C (dX0_watch 20 rfl) rfl (by decide) rfl ?_
      obtain ⟨n20, H⟩ := H
      refine z_sub [2, 3, 1, 0] rfl ?_
      refine sX0_watch_L35 C hr hm hu1 hu2 (fun v12 m13 H => ?_) n20 0 0 m H
      refine z_aload_n (pc := 67) C (dX0_watch 39 rfl) rfl 0 rfl ?_
      refine z_getR (pc := 68) C zc0 h3 0 (by decide) rfl wf_X0_12 (dX0_watch 40 rfl) ?_
      obtain ⟨h14, H⟩ := H
      refine z_getR (pc := 71) C zc8 h14 0 (by decide) rfl wf_X0_96 (dX0_watch 41 rfl) ?_
      obtain ⟨h15, H⟩ := H
      refine z_getR (pc := 74) C zc5 h15 11 (by decide) rfl wf_X0_117 (dX0_watch 42 rfl) ?_
      refine z_iload_n (pc := 77) C (dX0_watch 43 rfl) rfl 1 rfl ?_
      obtain ⟨h16, H⟩ := H
      obtain ⟨h17, H⟩ := H
      refine z_iaload (pc := 78) C h16 h17 (dX0_watch 44 rfl) ?_
      refine z_if_ne (pc := 79) (tgt := 108) C (dX0_watch 45 rfl) (by decide) (fun c18 => ?_) (fun c18 => ?_)
      · replace H := H.2 c18
        refine z_sub [0, 1] rfl ?_
        exact sX0_watch_J108 C hr hm hu1 hu2 ih H
      · replace H := H.1 c18
        refine z_iload_n (pc := 82) C (dX0_watch 46 rfl) rfl 2 rfl ?_
        refine z_aload_n (pc := 83) C (dX0_watch 47 rfl) rfl 0 rfl ?_
        refine z_getR (pc := 84) C zc0 h3 0 (by decide) rfl wf_X0_12 (dX0_watch 48 rfl) ?_
        refine z_getR (pc := 87) C zc8 h14 0 (by decide) rfl wf_X0_96 (dX0_watch 49 rfl) ?_
        refine z_getI (pc := 90) C zc5 h15 13 (by decide) rfl wf_X0_145 (dX0_watch 50 rfl) ?_
        refine z_icmp_le (pc := 93) (tgt := 108) C (dX0_watch 51 rfl) (by decide) (fun c19 => ?_) (fun c19 => ?_)
        · replace H := H.1 c19
          refine z_sub [0, 1] rfl ?_
          exact sX0_watch_J108 C hr hm hu1 hu2 ih H
        · replace H := H.2 c19
          refine z_aload_n (pc := 96) C (dX0_watch 52 rfl) rfl 0 rfl ?_
          refine z_dup (pc := 97) C (dX0_watch 53 rfl) rfl ?_
          refine z_getI (pc := 98) C zc0 h3 3 (by decide) rfl wf_X0_135 (dX0_watch 54 rfl) ?_
          refine z_iconst (pc := 101) (v := 1) C (dX0_watch 55 rfl) (by decide) ?_
          refine z_iload_n (pc := 102) C (dX0_watch 56 rfl) rfl 1 rfl ?_
          refine z_ishl (pc := 103) C (dX0_watch 57 rfl) ?_
          refine z_ior (pc := 104) C (dX0_watch 58 rfl) ?_
          refine z_putI (pc := 105) C zc0 h3 3 (by decide) rfl rfl wf_X0_135 (dX0_watch 59 rfl) ?_
          refine z_sub [0, 1] rfl ?_
          exact sX0_watch_J108 C hr hm hu1 hu2 ih H
def wX0_watch (t : zT) (m : zM) (a : Nat) (Q : zM → Prop) : Prop := (tK t a = 0 ∧ ((((gI (pI m a 3 0) a 2) &&& (2 : Int32)) = 0 → (Q (pI m a 3 0))) ∧ (¬ ((gI (pI m a 3 0) a 2) &&& (2 : Int32)) = 0 → (∃ n22, wX0_watch_L17 t a Q (fun m21 => (Q m21)) n22 0 (pI m a 3 0)))))
set_option maxHeartbeats 4000000 in
set_option maxRecDepth 20000 in
theorem kX0_watch {l : Launch} {t : zT} {m : zM} {a : Nat} {Q : zM → Prop} (H : wX0_watch t m a Q) : zMet l yX0_watch cX0_watch 4 none 0 0 0 t m [.ref a] (zPv t Q) := by
  refine zmet (by decide +kernel) (Nat.le_of_ble_eq_true rfl) ?_
  intro p e s mt args below meth c g C hr hm
  unfold wX0_watch at H
  have hu1 : ((0, 0) : Nat × Nat).1 ≤ 0 := Nat.le_refl 0
  have hu2 : ((0, 0) : Nat × Nat).2 ≤ 0 := Nat.le_refl 0
  refine z_aload_n (pc := 0) C (dX0_watch 0 rfl) rfl 0 rfl ?_
  refine z_iconst (pc := 1) (v := 0) C (dX0_watch 1 rfl) (by decide) ?_
  obtain ⟨h1, H⟩ := H
  refine z_putI (pc := 2) C zc0 h1 3 (by decide) rfl rfl wf_X0_135 (dX0_watch 2 rfl) ?_
  refine z_aload_n (pc := 5) C (dX0_watch 3 rfl) rfl 0 rfl ?_
  refine z_getI (pc := 6) C zc0 h1 2 (by decide) rfl wf_X0_57 (dX0_watch 4 rfl) ?_
  refine z_iconst (pc := 9) (v := 2) C (dX0_watch 5 rfl) (by decide) ?_
  refine z_iand (pc := 10) C (dX0_watch 6 rfl) ?_
  refine z_if_ne (pc := 11) (tgt := 15) C (dX0_watch 7 rfl) (by decide) (fun c2 => ?_) (fun c2 => ?_)
  · replace H := H.2 c2
    refine z_iconst (pc := 15) (v := 0) C (dX0_watch 9 rfl) (by decide) ?_
    refine z_istore_n (pc := 16) (i := 1) (lv2 := [(1, .int 0), (0, .ref a)]) C (dX0_watch 10 rfl) rfl (by decide) rfl ?_
    obtain ⟨n22, H⟩ := H
    refine z_sub [1, 0] rfl ?_
    refine sX0_watch_L17 C hr hm hu1 hu2 (fun m21 H => ?_) n22 0 (pI m a 3 0) H
    exact z_vret (pc := 114) C hr hu1 hu2 (dX0_watch 62 rfl) ⟨rfl, rfl, H⟩
  · replace H := H.1 c2
    exact z_vret (pc := 14) C hr hu1 hu2 (dX0_watch 8 rfl) ⟨rfl, rfl, H⟩
def wX8_rowOf (t : zT) (m : zM) (p1 : Int32) (p2 : Int32) (Q : Int32 → zM → Prop) : Prop := (Q (((p1 * (4 : Int32)) + p2) * (64 : Int32)) m)
set_option maxHeartbeats 4000000 in
set_option maxRecDepth 20000 in
theorem kX8_rowOf {l : Launch} {t : zT} {m : zM} {p1 : Int32} {p2 : Int32} {Q : Int32 → zM → Prop} (H : wX8_rowOf t m p1 p2 Q) : zMet l yX8_rowOf cX8_rowOf 2 (some .int) 0 0 0 t m [.int p1, .int p2] (zPi t Q) := by
  refine zmet (by decide +kernel) (Nat.le_of_ble_eq_true rfl) ?_
  intro p e s mt args below meth c g C hr hm
  unfold wX8_rowOf at H
  have hu1 : ((0, 0) : Nat × Nat).1 ≤ 0 := Nat.le_refl 0
  have hu2 : ((0, 0) : Nat × Nat).2 ≤ 0 := Nat.le_refl 0
  refine z_iload_n (pc := 0) C (dX8_rowOf 0 rfl) rfl 0 rfl ?_
  refine z_iconst (pc := 1) (v := 4) C (dX8_rowOf 1 rfl) (by decide) ?_
  refine z_imul (pc := 2) C (dX8_rowOf 2 rfl) ?_
  refine z_iload_n (pc := 3) C (dX8_rowOf 3 rfl) rfl 1 rfl ?_
  refine z_iadd (pc := 4) C (dX8_rowOf 4 rfl) ?_
  refine z_bipush (pc := 5) (v := 64) C (dX8_rowOf 5 rfl) (by decide) ?_
  refine z_imul (pc := 7) C (dX8_rowOf 6 rfl) ?_
  exact z_iret (pc := 8) C hr hu1 hu2 (dX8_rowOf 7 rfl) ⟨rfl, _, rfl, H⟩
def wX8_truthWord (t : zT) (m : zM) (a : Nat) (p1 : Int32) (p2 : Int32) (p3 : Int32) (Q : Int64 → zM → Prop) : Prop := (tK t a = 8 ∧ (wX8_rowOf t m p1 p2 (fun r2 m3 => (tK t (gR m a 4) = 15 ∧ (vp_in (r2 + p3) (tL t (gR m a 4)) ∧ (Q (gJ m3 (gR m a 4) ((r2 + p3).toNatClampNeg)) m3))))))
set_option maxHeartbeats 4000000 in
set_option maxRecDepth 20000 in
theorem kX8_truthWord {l : Launch} {t : zT} {m : zM} {a : Nat} {p1 : Int32} {p2 : Int32} {p3 : Int32} {Q : Int64 → zM → Prop} (H : wX8_truthWord t m a p1 p2 p3 Q) : zMet l yX8_truthWord cX8_truthWord 4 (some .long) 1 0 0 t m [.ref a, .int p1, .int p2, .int p3] (zPl t Q) := by
  refine zmet (by decide +kernel) (Nat.le_of_ble_eq_true rfl) ?_
  intro p e s mt args below meth c g C hr hm
  unfold wX8_truthWord at H
  have hu1 : ((0, 0) : Nat × Nat).1 ≤ 0 := Nat.le_refl 0
  have hu2 : ((0, 0) : Nat × Nat).2 ≤ 0 := Nat.le_refl 0
  refine z_aload_n (pc := 0) C (dX8_truthWord 0 rfl) rfl 0 rfl ?_
  obtain ⟨h1, H⟩ := H
  refine z_getR (pc := 1) C zc8 h1 4 (by decide) rfl wf_X8_22 (dX8_truthWord 1 rfl) ?_
  refine z_iload_n (pc := 4) C (dX8_truthWord 2 rfl) rfl 1 rfl ?_
  refine z_iload_n (pc := 5) C (dX8_truthWord 3 rfl) rfl 2 rfl ?_
  refine zc_Si (pc := 6) (rest := [.ref (gR m a 4)]) C YX8_rowOf wl_X8_63 (kX8_rowOf H) (by decide) (dX8_truthWord 4 rfl) rfl hu1 hu2 (Nat.le_of_ble_eq_true rfl) rfl (fun r2 m3 H => ?_)
  refine z_iload_n (pc := 9) C (dX8_truthWord 5 rfl) rfl 3 rfl ?_
  refine z_iadd (pc := 10) C (dX8_truthWord 6 rfl) ?_
  obtain ⟨h4, H⟩ := H
  obtain ⟨h5, H⟩ := H
  refine z_laload (pc := 11) C h4 h5 (dX8_truthWord 7 rfl) ?_
  exact z_lret (pc := 12) C hr hu1 hu2 (dX8_truthWord 8 rfl) ⟨rfl, _, rfl, H⟩
def wX0_fitByKind (t : zT) (m : zM) (a : Nat) (p1 : Int32) (Q : Int64 → zM → Prop) : Prop := (tK t a = 0 ∧ (tK t (gR m a 0) = 8 ∧ (tK t (gR m (gR m a 0) 0) = 5 ∧ (tK t (gR m a 5) = 14 ∧ (vp_in p1 (tL t (gR m a 5)) ∧ (tK t (gR m (gR m (gR m a 0) 0) 15) = 14 ∧ (vp_in (gI m (gR m a 5) p1.toNatClampNeg) (tL t (gR m (gR m (gR m a 0) 0) 15)) ∧ (tK t (gR m (gR m (gR m a 0) 0) 11) = 14 ∧ (vp_in (gI m (gR m (gR m (gR m a 0) 0) 15) ((gI m (gR m a 5) p1.toNatClampNeg).toNatClampNeg)) (tL t (gR m (gR m (gR m a 0) 0) 11)) ∧ (∀ x10 : Int32, x10 = (gI m (gR m (gR m (gR m a 0) 0) 11) ((gI m (gR m (gR m (gR m a 0) 0) 15) ((gI m (gR m a 5) p1.toNatClampNeg).toNatClampNeg)).toNatClampNeg)) → (((x10 = 1 → (tK t (gR m a 8) = 15 ∧ (vp_in p1 (tL t (gR m a 8)) ∧ (Q ((gJ m (gR m a 8) p1.toNatClampNeg) ^^^ (-1)) m)))) ∧ (¬ x10 = 1 → (tK t (gR m a 6) = 14 ∧ (vp_in p1 (tL t (gR m a 6)) ∧ (((gI m (gR m a 6) p1.toNatClampNeg) < 0 → (Q (-1) m)) ∧ (¬ (gI m (gR m a 6) p1.toNatClampNeg) < 0 → (tK t (gR m a 8) = 15 ∧ (vp_in (gI m (gR m a 6) p1.toNatClampNeg) (tL t (gR m a 8)) ∧ (∀ x17 : Int64, x17 = (gJ m (gR m a 8) ((gI m (gR m a 6) p1.toNatClampNeg).toNatClampNeg)) → (((x10 = 3 → (vp_in p1 (tL t (gR m a 8)) ∧ (Q (x17 ^^^ (gJ m (gR m a 8) p1.toNatClampNeg)) m))) ∧ (¬ x10 = 3 → ((x10 = 0 → ((((gI m a 2) &&& (4 : Int32)) = 0 → (Q (-1) m)) ∧ (¬ ((gI m a 2) &&& (4 : Int32)) = 0 → (vp_in p1 (tL t (gR m a 8)) ∧ (Q (x17 ||| (gJ m (gR m a 8) p1.toNatClampNeg)) m))))) ∧ (¬ x10 = 0 → (Q (-1) m))))))))))))))))))))))))))
set_option maxHeartbeats 4000000 in
set_option maxRecDepth 20000 in
theorem kX0_fitByKind {l : Launch} {t : zT} {m : zM} {a : Nat} {p1 : Int32} {Q : Int64 → zM → Prop} (H : wX0_fitByKind t m a p1 Q) : zMet l yX0_fitByKind cX0_fitByKind 5 (some .long) 0 0 0 t m [.ref a, .int p1] (zPl t Q) := by
  refine zmet (by decide +kernel) (Nat.le_of_ble_eq_true rfl) ?_
  intro p e s mt args below meth c g C hr hm
  unfold wX0_fitByKind at H
  have hu1 : ((0, 0) : Nat × Nat).1 ≤ 0 := Nat.le_refl 0
  have hu2 : ((0, 0) : Nat × Nat).2 ≤ 0 := Nat.le_refl 0
  refine z_aload_n (pc := 0) C (dX0_fitByKind 0 rfl) rfl 0 rfl ?_
  obtain ⟨h1, H⟩ := H
  refine z_getR (pc := 1) C zc0 h1 0 (by decide) rfl wf_X0_12 (dX0_fitByKind 1 rfl) ?_
  obtain ⟨h2, H⟩ := H
  refine z_getR (pc := 4) C zc8 h2 0 (by decide) rfl wf_X0_96 (dX0_fitByKind 2 rfl) ?_
  obtain ⟨h3, H⟩ := H
  refine z_getR (pc := 7) C zc5 h3 11 (by decide) rfl wf_X0_117 (dX0_fitByKind 3 rfl) ?_
  refine z_aload_n (pc := 10) C (dX0_fitByKind 4 rfl) rfl 0 rfl ?_
  refine z_getR (pc := 11) C zc0 h1 0 (by decide) rfl wf_X0_12 (dX0_fitByKind 5 rfl) ?_
  refine z_getR (pc := 14) C zc8 h2 0 (by decide) rfl wf_X0_96 (dX0_fitByKind 6 rfl) ?_
  refine z_getR (pc := 17) C zc5 h3 15 (by decide) rfl wf_X0_100 (dX0_fitByKind 7 rfl) ?_
  refine z_aload_n (pc := 20) C (dX0_fitByKind 8 rfl) rfl 0 rfl ?_
  refine z_getR (pc := 21) C zc0 h1 5 (by decide) rfl wf_X0_25 (dX0_fitByKind 9 rfl) ?_
  refine z_iload_n (pc := 24) C (dX0_fitByKind 10 rfl) rfl 1 rfl ?_
  obtain ⟨h4, H⟩ := H
  obtain ⟨h5, H⟩ := H
  refine z_iaload (pc := 25) C h4 h5 (dX0_fitByKind 11 rfl) ?_
  obtain ⟨h6, H⟩ := H
  obtain ⟨h7, H⟩ := H
  refine z_iaload (pc := 26) C h6 h7 (dX0_fitByKind 12 rfl) ?_
  obtain ⟨h8, H⟩ := H
  obtain ⟨h9, H⟩ := H
  refine z_iaload (pc := 27) C h8 h9 (dX0_fitByKind 13 rfl) ?_
  refine z_int (fun x10 hx10 => ?_)
  replace H := H x10 hx10
  refine z_istore_n (pc := 28) (i := 2) (lv2 := [(2, .int x10), (0, .ref a), (1, .int p1)]) C (dX0_fitByKind 14 rfl) rfl (by decide) rfl ?_
  refine z_iload_n (pc := 29) C (dX0_fitByKind 15 rfl) rfl 0 rfl ?_
  refine z_iconst (pc := 30) (v := 1) C (dX0_fitByKind 16 rfl) (by decide) ?_
  refine z_icmp_ne (pc := 31) (tgt := 45) C (dX0_fitByKind 17 rfl) (by decide) (fun c11 => ?_) (fun c11 => ?_)
  · replace H := H.2 c11
    refine z_aload_n (pc := 45) C (dX0_fitByKind 25 rfl) rfl 1 rfl ?_
    refine z_getR (pc := 46) C zc0 h1 6 (by decide) rfl wf_X0_29 (dX0_fitByKind 26 rfl) ?_
    refine z_iload_n (pc := 49) C (dX0_fitByKind 27 rfl) rfl 2 rfl ?_
    obtain ⟨h12, H⟩ := H
    obtain ⟨h13, H⟩ := H
    refine z_iaload (pc := 50) C h12 h13 (dX0_fitByKind 28 rfl) ?_
    refine z_if_lt (pc := 51) (tgt := 102) C (dX0_fitByKind 29 rfl) (by decide) (fun c14 => ?_) (fun c14 => ?_)
    · replace H := H.1 c14
      refine z_ldc2 (pc := 102) C wj_X0_123 (dX0_fitByKind 62 rfl) ?_
      exact z_lret (pc := 105) C hr hu1 hu2 (dX0_fitByKind 63 rfl) ⟨rfl, _, rfl, H⟩
    · replace H := H.2 c14
      refine z_aload_n (pc := 54) C (dX0_fitByKind 30 rfl) rfl 1 rfl ?_
      refine z_getR (pc := 55) C zc0 h1 8 (by decide) rfl wf_X0_35 (dX0_fitByKind 31 rfl) ?_
      refine z_aload_n (pc := 58) C (dX0_fitByKind 32 rfl) rfl 1 rfl ?_
      refine z_getR (pc := 59) C zc0 h1 6 (by decide) rfl wf_X0_29 (dX0_fitByKind 33 rfl) ?_
      refine z_iload_n (pc := 62) C (dX0_fitByKind 34 rfl) rfl 2 rfl ?_
      refine z_iaload (pc := 63) C h12 h13 (dX0_fitByKind 35 rfl) ?_
      obtain ⟨h15, H⟩ := H
      obtain ⟨h16, H⟩ := H
      refine z_laload (pc := 64) C h15 h16 (dX0_fitByKind 36 rfl) ?_
      refine z_long (fun x17 hx17 => ?_)
      replace H := H x17 hx17
      refine z_lstore_n (pc := 65) (i := 3) (lv2 := [(3, .long x17), (2, .int x10), (0, .ref a), (1, .int p1)]) C (dX0_fitByKind 37 rfl) rfl (by decide) rfl ?_
      refine z_iload_n (pc := 66) C (dX0_fitByKind 38 rfl) rfl 1 rfl ?_
      refine z_iconst (pc := 67) (v := 3) C (dX0_fitByKind 39 rfl) (by decide) ?_
      refine z_icmp_ne (pc := 68) (tgt := 80) C (dX0_fitByKind 40 rfl) (by decide) (fun c18 => ?_) (fun c18 => ?_)
      · replace H := H.2 c18
        refine z_iload_n (pc := 80) C (dX0_fitByKind 48 rfl) rfl 1 rfl ?_
        refine z_if_ne (pc := 81) (tgt := 102) C (dX0_fitByKind 49 rfl) (by decide) (fun c19 => ?_) (fun c19 => ?_)
        · replace H := H.2 c19
          refine z_ldc2 (pc := 102) C wj_X0_123 (dX0_fitByKind 62 rfl) ?_
          exact z_lret (pc := 105) C hr hu1 hu2 (dX0_fitByKind 63 rfl) ⟨rfl, _, rfl, H⟩
        · replace H := H.1 c19
          refine z_aload_n (pc := 84) C (dX0_fitByKind 50 rfl) rfl 2 rfl ?_
          refine z_getI (pc := 85) C zc0 h1 2 (by decide) rfl wf_X0_57 (dX0_fitByKind 51 rfl) ?_
          refine z_iconst (pc := 88) (v := 4) C (dX0_fitByKind 52 rfl) (by decide) ?_
          refine z_iand (pc := 89) C (dX0_fitByKind 53 rfl) ?_
          refine z_if_eq (pc := 90) (tgt := 102) C (dX0_fitByKind 54 rfl) (by decide) (fun c20 => ?_) (fun c20 => ?_)
          · replace H := H.1 c20
            refine z_ldc2 (pc := 102) C wj_X0_123 (dX0_fitByKind 62 rfl) ?_
            exact z_lret (pc := 105) C hr hu1 hu2 (dX0_fitByKind 63 rfl) ⟨rfl, _, rfl, H⟩
          · replace H := H.2 c20
            refine z_lload_n (pc := 93) C (dX0_fitByKind 55 rfl) rfl 0 rfl ?_
            refine z_aload_n (pc := 94) C (dX0_fitByKind 56 rfl) rfl 2 rfl ?_
            refine z_getR (pc := 95) C zc0 h1 8 (by decide) rfl wf_X0_35 (dX0_fitByKind 57 rfl) ?_
            refine z_iload_n (pc := 98) C (dX0_fitByKind 58 rfl) rfl 3 rfl ?_
            obtain ⟨h21, H⟩ := H
            refine z_laload (pc := 99) C h15 h21 (dX0_fitByKind 59 rfl) ?_
            refine z_lor (pc := 100) C (dX0_fitByKind 60 rfl) ?_
            exact z_lret (pc := 101) C hr hu1 hu2 (dX0_fitByKind 61 rfl) ⟨rfl, _, rfl, H⟩
      · replace H := H.1 c18
        refine z_lload_n (pc := 71) C (dX0_fitByKind 41 rfl) rfl 0 rfl ?_
        refine z_aload_n (pc := 72) C (dX0_fitByKind 42 rfl) rfl 2 rfl ?_
        refine z_getR (pc := 73) C zc0 h1 8 (by decide) rfl wf_X0_35 (dX0_fitByKind 43 rfl) ?_
        refine z_iload_n (pc := 76) C (dX0_fitByKind 44 rfl) rfl 3 rfl ?_
        obtain ⟨h22, H⟩ := H
        refine z_laload (pc := 77) C h15 h22 (dX0_fitByKind 45 rfl) ?_
        refine z_lxor (pc := 78) C (dX0_fitByKind 46 rfl) ?_
        exact z_lret (pc := 79) C hr hu1 hu2 (dX0_fitByKind 47 rfl) ⟨rfl, _, rfl, H⟩
  · replace H := H.1 c11
    refine z_aload_n (pc := 34) C (dX0_fitByKind 18 rfl) rfl 1 rfl ?_
    refine z_getR (pc := 35) C zc0 h1 8 (by decide) rfl wf_X0_35 (dX0_fitByKind 19 rfl) ?_
    refine z_iload_n (pc := 38) C (dX0_fitByKind 20 rfl) rfl 2 rfl ?_
    obtain ⟨h23, H⟩ := H
    obtain ⟨h24, H⟩ := H
    refine z_laload (pc := 39) C h23 h24 (dX0_fitByKind 21 rfl) ?_
    refine z_ldc2 (pc := 40) C wj_X0_123 (dX0_fitByKind 22 rfl) ?_
    refine z_lxor (pc := 43) C (dX0_fitByKind 23 rfl) ?_
    exact z_lret (pc := 44) C hr hu1 hu2 (dX0_fitByKind 24 rfl) ⟨rfl, _, rfl, H⟩
def wX6_clear_L2 (t : zT) (a_0 : Nat) (Q : zM → Prop) (k24 : zM → Prop) : Nat → Int32 → zM → Prop
  | 0, _, _ => False
  | n + 1, x_1, m => (tK t a_0 = 6 ∧ (tK t (gR m a_0 0) = 15 ∧ (((Int32.ofNat (tL t (gR m a_0 0))) ≤ x_1 → (k24 m)) ∧ (¬ (Int32.ofNat (tL t (gR m a_0 0))) ≤ x_1 → (vp_in x_1 (tL t (gR m a_0 0)) ∧ (wX6_clear_L2 t a_0 Q k24 n (x_1 + 1) (pJ m (gR m a_0 0) x_1.toNatClampNeg 0)))))))
set_option maxHeartbeats 4000000 in
set_option maxRecDepth 20000 in
theorem sX6_clear_L2 {p : Program} {l : Launch} {e : Env} {s : State} {mt : MethodId} {args : Array Value} {below : List Frame} {meth : Method} {c : Code} {g : zG} {u : Nat × Nat} {mc ms : Nat} {t : zT} {a_0 : Nat} {Q : zM → Prop} {k24 : zM → Prop} (C : zC p (zRm 0 mc ms) s mt args meth c g cX6_clear 2 yX6_clear.cls 0) (hr : meth.sig.returnType = none) (hm : meth.name = yX6_clear.name) (hu1 : u.1 ≤ mc) (hu2 : u.2 ≤ ms)
    (K24 : ∀ (m : zM), k24 m → zW p l e (zRm 0 mc ms) s mt args below meth c g (MQ below (zQc g (zPv t Q)) args s mc ms (zFar g)) u 2 t m 24 [] []) : ∀ (n : Nat) (x_1 : Int32) (m : zM), wX6_clear_L2 t a_0 Q k24 n x_1 m → zW p l e (zRm 0 mc ms) s mt args below meth c g (MQ below (zQc g (zPv t Q)) args s mc ms (zFar g)) u 2 t m 2 [(0, .ref a_0), (1, .int x_1)] [] := by
  intro n
  induction n with
  | zero => intro x_1 m H; exact H.elim
  | succ n ih =>
    intro x_1 m H
    simp only [wX6_clear_L2] at H
    refine z_iload_n (pc := 2) C (dX6_clear 2 rfl) rfl 1 rfl ?_
    refine z_aload_n (pc := 3) C (dX6_clear 3 rfl) rfl 0 rfl ?_
    obtain ⟨h1, H⟩ := H
    refine z_getR (pc := 4) C zc6 h1 0 (by decide) rfl wf_X6_9 (dX6_clear 4 rfl) ?_
    obtain ⟨h2, H⟩ := H
    refine z_alen (pc := 7) C h2 (by decide) (by decide) (dX6_clear 5 rfl) ?_
    refine z_icmp_ge (pc := 8) (tgt := 24) C (dX6_clear 6 rfl) (by decide) (fun c3 => ?_) (fun c3 => ?_)
    · replace H := H.1 c3
      refine z_sub [] rfl ?_
      exact K24 m H
    · replace H := H.2 c3
      refine z_aload_n (pc := 11) C (dX6_clear 7 rfl) rfl 0 rfl ?_
      refine z_getR (pc := 12) C zc6 h1 0 (by decide) rfl wf_X6_9 (dX6_clear 8 rfl) ?_
      refine z_iload_n (pc := 15) C (dX6_clear 9 rfl) rfl 1 rfl ?_
      refine z_lconst (pc := 16) (v := 0) C (dX6_clear 10 rfl) (by decide) ?_
      obtain ⟨h4, H⟩ := H
      refine z_lastore (pc := 17) C h2 h4 (dX6_clear 11 rfl) ?_
      refine z_iinc (pc := 18) (i := 1) (v := x_1 + 1) (lv2 := [(1, .int (x_1 + 1)), (0, .ref a_0)]) C (dX6_clear 12 rfl) 1 rfl (by rfl) (by decide) rfl ?_
      refine z_goto (pc := 21) (tgt := 2) C (dX6_clear 13 rfl) (by decide) ?_
      refine z_sub [1, 0] rfl ?_
      exact ih (x_1 + 1) (pJ m (gR m a_0 0) x_1.toNatClampNeg 0) H
def wX6_clear (t : zT) (m : zM) (a : Nat) (Q : zM → Prop) : Prop := (∃ n6, wX6_clear_L2 t a Q (fun m5 => (Q m5)) n6 0 m)
set_option maxHeartbeats 4000000 in
set_option maxRecDepth 20000 in
theorem kX6_clear {l : Launch} {t : zT} {m : zM} {a : Nat} {Q : zM → Prop} (H : wX6_clear t m a Q) : zMet l yX6_clear cX6_clear 2 none 0 0 0 t m [.ref a] (zPv t Q) := by
  refine zmet (by decide +kernel) (Nat.le_of_ble_eq_true rfl) ?_
  intro p e s mt args below meth c g C hr hm
  unfold wX6_clear at H
  have hu1 : ((0, 0) : Nat × Nat).1 ≤ 0 := Nat.le_refl 0
  have hu2 : ((0, 0) : Nat × Nat).2 ≤ 0 := Nat.le_refl 0
  refine z_iconst (pc := 0) (v := 0) C (dX6_clear 0 rfl) (by decide) ?_
  refine z_istore_n (pc := 1) (i := 1) (lv2 := [(1, .int 0), (0, .ref a)]) C (dX6_clear 1 rfl) rfl (by decide) rfl ?_
  obtain ⟨n6, H⟩ := H
  refine z_sub [1, 0] rfl ?_
  refine sX6_clear_L2 C hr hm hu1 hu2 (fun m5 H => ?_) n6 0 m H
  exact z_vret (pc := 24) C hr hu1 hu2 (dX6_clear 14 rfl) ⟨rfl, rfl, H⟩
def wX6_add_L5 (t : zT) (a_0 : Nat) (Q : zM → Prop) (k51 : zM → Prop) : Nat → Int64 → Int32 → zM → Prop
  | 0, _, _, _ => False
  | n + 1, y_3, x_5, m => (tK t a_0 = 6 ∧ (tK t (gR m a_0 0) = 15 ∧ (((Int32.ofNat (tL t (gR m a_0 0))) ≤ x_5 → (k51 m)) ∧ (¬ (Int32.ofNat (tL t (gR m a_0 0))) ≤ x_5 → (vp_in x_5 (tL t (gR m a_0 0)) ∧ (∀ x5 : Int64, x5 = ((gJ m (gR m a_0 0) x_5.toNatClampNeg) ^^^ y_3) → ((∀ x6 : Int64, x6 = (y_3 &&& (gJ m (gR m a_0 0) x_5.toNatClampNeg)) → ((wX6_add_L5 t a_0 Q k51 n x6 (x_5 + 1) (pJ m (gR m a_0 0) x_5.toNatClampNeg x5)))))))))))
set_option maxHeartbeats 4000000 in
set_option maxRecDepth 20000 in
theorem sX6_add_L5 {p : Program} {l : Launch} {e : Env} {s : State} {mt : MethodId} {args : Array Value} {below : List Frame} {meth : Method} {c : Code} {g : zG} {u : Nat × Nat} {mc ms : Nat} {t : zT} {a_0 : Nat} {Q : zM → Prop} {k51 : zM → Prop} (C : zC p (zRm 0 mc ms) s mt args meth c g cX6_add 8 yX6_add.cls 0) (hr : meth.sig.returnType = none) (hm : meth.name = yX6_add.name) (hu1 : u.1 ≤ mc) (hu2 : u.2 ≤ ms)
    (K51 : ∀ (m : zM), k51 m → zW p l e (zRm 0 mc ms) s mt args below meth c g (MQ below (zQc g (zPv t Q)) args s mc ms (zFar g)) u 8 t m 51 [] []) : ∀ (n : Nat) (y_3 : Int64) (x_5 : Int32) (m : zM), wX6_add_L5 t a_0 Q k51 n y_3 x_5 m → zW p l e (zRm 0 mc ms) s mt args below meth c g (MQ below (zQc g (zPv t Q)) args s mc ms (zFar g)) u 8 t m 5 [(0, .ref a_0), (3, .long y_3), (5, .int x_5)] [] := by
  intro n
  induction n with
  | zero => intro y_3 x_5 m H; exact H.elim
  | succ n ih =>
    intro y_3 x_5 m H
    simp only [wX6_add_L5] at H
    refine z_iload (pc := 5) C (dX6_add 4 rfl) 2 rfl ?_
    refine z_aload_n (pc := 7) C (dX6_add 5 rfl) rfl 0 rfl ?_
    obtain ⟨h1, H⟩ := H
    refine z_getR (pc := 8) C zc6 h1 0 (by decide) rfl wf_X6_9 (dX6_add 6 rfl) ?_
    obtain ⟨h2, H⟩ := H
    refine z_alen (pc := 11) C h2 (by decide) (by decide) (dX6_add 7 rfl) ?_
    refine z_icmp_ge (pc := 12) (tgt := 51) C (dX6_add 8 rfl) (by decide) (fun c3 => ?_) (fun c3 => ?_)
    · replace H := H.1 c3
      refine z_sub [] rfl ?_
      exact K51 m H
    · replace H := H.2 c3
      refine z_aload_n (pc := 15) C (dX6_add 9 rfl) rfl 0 rfl ?_
      refine z_getR (pc := 16) C zc6 h1 0 (by decide) rfl wf_X6_9 (dX6_add 10 rfl) ?_
      refine z_iload (pc := 19) C (dX6_add 11 rfl) 2 rfl ?_
      obtain ⟨h4, H⟩ := H
      refine z_laload (pc := 21) C h2 h4 (dX6_add 12 rfl) ?_
      refine z_lload_n (pc := 22) C (dX6_add 13 rfl) rfl 1 rfl ?_
      refine z_lxor (pc := 23) C (dX6_add 14 rfl) ?_
      refine z_long (fun x5 hx5 => ?_)
      replace H := H x5 hx5
      refine z_lstore (pc := 24) (i := 6) (lv2 := [(6, .long x5), (0, .ref a_0), (3, .long y_3), (5, .int x_5)]) C (dX6_add 15 rfl) (by decide) rfl ?_
      refine z_lload_n (pc := 26) C (dX6_add 16 rfl) rfl 2 rfl ?_
      refine z_aload_n (pc := 27) C (dX6_add 17 rfl) rfl 1 rfl ?_
      refine z_getR (pc := 28) C zc6 h1 0 (by decide) rfl wf_X6_9 (dX6_add 18 rfl) ?_
      refine z_iload (pc := 31) C (dX6_add 19 rfl) 3 rfl ?_
      refine z_laload (pc := 33) C h2 h4 (dX6_add 20 rfl) ?_
      refine z_land (pc := 34) C (dX6_add 21 rfl) ?_
      refine z_long (fun x6 hx6 => ?_)
      replace H := H x6 hx6
      refine z_lstore_n (pc := 35) (i := 3) (lv2 := [(3, .long x6), (6, .long x5), (0, .ref a_0), (5, .int x_5)]) C (dX6_add 22 rfl) rfl (by decide) rfl ?_
      refine z_aload_n (pc := 36) C (dX6_add 23 rfl) rfl 2 rfl ?_
      refine z_getR (pc := 37) C zc6 h1 0 (by decide) rfl wf_X6_9 (dX6_add 24 rfl) ?_
      refine z_iload (pc := 40) C (dX6_add 25 rfl) 3 rfl ?_
      refine z_lload (pc := 42) C (dX6_add 26 rfl) 1 rfl ?_
      refine z_lastore (pc := 44) C h2 h4 (dX6_add 27 rfl) ?_
      refine z_iinc (pc := 45) (i := 5) (v := x_5 + 1) (lv2 := [(5, .int (x_5 + 1)), (3, .long x6), (6, .long x5), (0, .ref a_0)]) C (dX6_add 28 rfl) 3 rfl (by rfl) (by decide) rfl ?_
      refine z_goto (pc := 48) (tgt := 5) C (dX6_add 29 rfl) (by decide) ?_
      refine z_sub [3, 1, 0] rfl ?_
      exact ih x6 (x_5 + 1) (pJ m (gR m a_0 0) x_5.toNatClampNeg x5) H
def wX6_add (t : zT) (m : zM) (a : Nat) (p1 : Int64) (Q : zM → Prop) : Prop := (∃ n8, wX6_add_L5 t a Q (fun m7 => (Q m7)) n8 p1 0 m)
set_option maxHeartbeats 4000000 in
set_option maxRecDepth 20000 in
theorem kX6_add {l : Launch} {t : zT} {m : zM} {a : Nat} {p1 : Int64} {Q : zM → Prop} (H : wX6_add t m a p1 Q) : zMet l yX6_add cX6_add 8 none 0 0 0 t m [.ref a, .long p1] (zPv t Q) := by
  refine zmet (by decide +kernel) (Nat.le_of_ble_eq_true rfl) ?_
  intro p e s mt args below meth c g C hr hm
  unfold wX6_add at H
  have hu1 : ((0, 0) : Nat × Nat).1 ≤ 0 := Nat.le_refl 0
  have hu2 : ((0, 0) : Nat × Nat).2 ≤ 0 := Nat.le_refl 0
  refine z_lload_n (pc := 0) C (dX6_add 0 rfl) rfl 1 rfl ?_
  refine z_lstore_n (pc := 1) (i := 3) (lv2 := [(3, .long p1), (0, .ref a), (1, .long p1)]) C (dX6_add 1 rfl) rfl (by decide) rfl ?_
  refine z_iconst (pc := 2) (v := 0) C (dX6_add 2 rfl) (by decide) ?_
  refine z_istore (pc := 3) (i := 5) (lv2 := [(5, .int 0), (3, .long p1), (0, .ref a), (1, .long p1)]) C (dX6_add 3 rfl) (by decide) rfl ?_
  obtain ⟨n8, H⟩ := H
  refine z_sub [2, 1, 0] rfl ?_
  refine sX6_add_L5 C hr hm hu1 hu2 (fun m7 H => ?_) n8 p1 0 m H
  exact z_vret (pc := 51) C hr hu1 hu2 (dX6_add 30 rfl) ⟨rfl, rfl, H⟩
def wX6_atMost_J80 (t : zT) (m : zM) (a_0 : Nat) (x_1 : Int32) (y_2 : Int64) (y_4 : Int64) (x_6 : Int32) (Q : Int64 → zM → Prop) (r22 : Int64 → Int64 → Int32 → zM → Prop) : Prop := (r22 y_2 y_4 (x_6 + (-1)) m)
set_option maxHeartbeats 4000000 in
set_option maxRecDepth 20000 in
theorem sX6_atMost_J80 {p : Program} {l : Launch} {e : Env} {s : State} {mt : MethodId} {args : Array Value} {below : List Frame} {meth : Method} {c : Code} {g : zG} {u : Nat × Nat} {mc ms : Nat} {t : zT} {m : zM} {a_0 : Nat} {x_1 : Int32} {y_2 : Int64} {y_4 : Int64} {x_6 : Int32} {Q : Int64 → zM → Prop} {r22 : Int64 → Int64 → Int32 → zM → Prop} (C : zC p (zRm 0 mc ms) s mt args meth c g cX6_atMost 7 yX6_atMost.cls 0) (hr : meth.sig.returnType = (some .long)) (hm : meth.name = yX6_atMost.name) (hu1 : u.1 ≤ mc) (hu2 : u.2 ≤ ms)
    (R22 : ∀ (v0 : Int64) (v1 : Int64) (v2 : Int32) (m : zM), r22 v0 v1 v2 m → zW p l e (zRm 0 mc ms) s mt args below meth c g (MQ below (zQc g (zPl t Q)) args s mc ms (zFar g)) u 7 t m 22 [(0, .ref a_0), (1, .int x_1), (2, .long v0), (4, .long v1), (6, .int v2)] []) (H : wX6_atMost_J80 t m a_0 x_1 y_2 y_4 x_6 Q r22) : zW p l e (zRm 0 mc ms) s mt args below meth c g (MQ below (zQc g (zPl t Q)) args s mc ms (zFar g)) u 7 t m 80 [(0, .ref a_0), (1, .int x_1), (2, .long y_2), (4, .long y_4), (6, .int x_6)] [] := by
  unfold wX6_atMost_J80 at H
  refine z_iinc (pc := 80) (i := 6) (v := x_6 + (-1)) (lv2 := [(6, .int (x_6 + (-1))), (0, .ref a_0), (1, .int x_1), (2, .long y_2), (4, .long y_4)]) C (dX6_atMost 48 rfl) 4 rfl (by rfl) (by decide) rfl ?_
  refine z_goto (pc := 83) (tgt := 22) C (dX6_atMost 49 rfl) (by decide) ?_
  refine z_sub [1, 2, 3, 4, 0] rfl ?_
  exact R22 y_2 y_4 (x_6 + (-1)) m H
def wX6_atMost_L22 (t : zT) (a_0 : Nat) (x_1 : Int32) (Q : Int64 → zM → Prop) (k86 : Int64 → zM → Prop) : Nat → Int64 → Int64 → Int32 → zM → Prop
  | 0, _, _, _, _ => False
  | n + 1, y_2, y_4, x_6, m => ((x_6 < 0 → (k86 y_2 m)) ∧ (¬ x_6 < 0 → ((((x_1 >>> (x_6 &&& 31)) &&& (1 : Int32)) = 0 → (tK t a_0 = 6 ∧ (tK t (gR m a_0 0) = 15 ∧ (vp_in x_6 (tL t (gR m a_0 0)) ∧ (∀ x10 : Int64, x10 = (y_2 ||| (y_4 &&& (gJ m (gR m a_0 0) x_6.toNatClampNeg))) → ((∀ x11 : Int64, x11 = (y_4 &&& ((gJ m (gR m a_0 0) x_6.toNatClampNeg) ^^^ (-1))) → ((wX6_atMost_J80 t m a_0 x_1 x10 x11 x_6 Q (wX6_atMost_L22 t a_0 x_1 Q k86 n)))))))))) ∧ (¬ ((x_1 >>> (x_6 &&& 31)) &&& (1 : Int32)) = 0 → (tK t a_0 = 6 ∧ (tK t (gR m a_0 0) = 15 ∧ (vp_in x_6 (tL t (gR m a_0 0)) ∧ (∀ x15 : Int64, x15 = (y_4 &&& (gJ m (gR m a_0 0) x_6.toNatClampNeg)) → ((wX6_atMost_J80 t m a_0 x_1 y_2 x15 x_6 Q (wX6_atMost_L22 t a_0 x_1 Q k86 n)))))))))))
set_option maxHeartbeats 4000000 in
set_option maxRecDepth 20000 in
theorem sX6_atMost_L22 {p : Program} {l : Launch} {e : Env} {s : State} {mt : MethodId} {args : Array Value} {below : List Frame} {meth : Method} {c : Code} {g : zG} {u : Nat × Nat} {mc ms : Nat} {t : zT} {a_0 : Nat} {x_1 : Int32} {Q : Int64 → zM → Prop} {k86 : Int64 → zM → Prop} (C : zC p (zRm 0 mc ms) s mt args meth c g cX6_atMost 7 yX6_atMost.cls 0) (hr : meth.sig.returnType = (some .long)) (hm : meth.name = yX6_atMost.name) (hu1 : u.1 ≤ mc) (hu2 : u.2 ≤ ms)
    (K86 : ∀ (v0 : Int64) (m : zM), k86 v0 m → zW p l e (zRm 0 mc ms) s mt args below meth c g (MQ below (zQc g (zPl t Q)) args s mc ms (zFar g)) u 7 t m 86 [(2, .long v0)] []) : ∀ (n : Nat) (y_2 : Int64) (y_4 : Int64) (x_6 : Int32) (m : zM), wX6_atMost_L22 t a_0 x_1 Q k86 n y_2 y_4 x_6 m → zW p l e (zRm 0 mc ms) s mt args below meth c g (MQ below (zQc g (zPl t Q)) args s mc ms (zFar g)) u 7 t m 22 [(0, .ref a_0), (1, .int x_1), (2, .long y_2), (4, .long y_4), (6, .int x_6)] [] := by
  intro n
  induction n with
  | zero => intro y_2 y_4 x_6 m H; exact H.elim
  | succ n ih =>
    intro y_2 y_4 x_6 m H
    simp only [wX6_atMost_L22] at H
    refine z_iload (pc := 22) C (dX6_atMost 14 rfl) 4 rfl ?_
    refine z_if_lt (pc := 24) (tgt := 86) C (dX6_atMost 15 rfl) (by decide) (fun c5 => ?_) (fun c5 => ?_)
    · replace H := H.1 c5
      refine z_sub [2] rfl ?_
      exact K86 y_2 m H
    · replace H := H.2 c5
      refine z_iload_n (pc := 27) C (dX6_atMost 16 rfl) rfl 1 rfl ?_
      refine z_iload (pc := 28) C (dX6_atMost 17 rfl) 4 rfl ?_
      refine z_ishr (pc := 30) C (dX6_atMost 18 rfl) ?_
      refine z_iconst (pc := 31) (v := 1) C (dX6_atMost 19 rfl) (by decide) ?_
      refine z_iand (pc := 32) C (dX6_atMost 20 rfl) ?_
      refine z_if_eq (pc := 33) (tgt := 51) C (dX6_atMost 21 rfl) (by decide) (fun c6 => ?_) (fun c6 => ?_)
      · replace H := H.1 c6
        refine z_lload_n (pc := 51) C (dX6_atMost 30 rfl) rfl 2 rfl ?_
        refine z_lload (pc := 52) C (dX6_atMost 31 rfl) 3 rfl ?_
        refine z_aload_n (pc := 54) C (dX6_atMost 32 rfl) rfl 0 rfl ?_
        obtain ⟨h7, H⟩ := H
        refine z_getR (pc := 55) C zc6 h7 0 (by decide) rfl wf_X6_9 (dX6_atMost 33 rfl) ?_
        refine z_iload (pc := 58) C (dX6_atMost 34 rfl) 4 rfl ?_
        obtain ⟨h8, H⟩ := H
        obtain ⟨h9, H⟩ := H
        refine z_laload (pc := 60) C h8 h9 (dX6_atMost 35 rfl) ?_
        refine z_land (pc := 61) C (dX6_atMost 36 rfl) ?_
        refine z_lor (pc := 62) C (dX6_atMost 37 rfl) ?_
        refine z_long (fun x10 hx10 => ?_)
        replace H := H x10 hx10
        refine z_lstore_n (pc := 63) (i := 2) (lv2 := [(2, .long x10), (0, .ref a_0), (1, .int x_1), (4, .long y_4), (6, .int x_6)]) C (dX6_atMost 38 rfl) rfl (by decide) rfl ?_
        refine z_lload (pc := 64) C (dX6_atMost 39 rfl) 3 rfl ?_
        refine z_aload_n (pc := 66) C (dX6_atMost 40 rfl) rfl 1 rfl ?_
        refine z_getR (pc := 67) C zc6 h7 0 (by decide) rfl wf_X6_9 (dX6_atMost 41 rfl) ?_
        refine z_iload (pc := 70) C (dX6_atMost 42 rfl) 4 rfl ?_
        refine z_laload (pc := 72) C h8 h9 (dX6_atMost 43 rfl) ?_
        refine z_ldc2 (pc := 73) C wj_X6_15 (dX6_atMost 44 rfl) ?_
        refine z_lxor (pc := 76) C (dX6_atMost 45 rfl) ?_
        refine z_land (pc := 77) C (dX6_atMost 46 rfl) ?_
        refine z_long (fun x11 hx11 => ?_)
        replace H := H x11 hx11
        refine z_lstore (pc := 78) (i := 4) (lv2 := [(4, .long x11), (2, .long x10), (0, .ref a_0), (1, .int x_1), (6, .int x_6)]) C (dX6_atMost 47 rfl) (by decide) rfl ?_
        refine z_sub [2, 3, 1, 0, 4] rfl ?_
        exact sX6_atMost_J80 C hr hm hu1 hu2 ih H
      · replace H := H.2 c6
        refine z_lload (pc := 36) C (dX6_atMost 22 rfl) 3 rfl ?_
        refine z_aload_n (pc := 38) C (dX6_atMost 23 rfl) rfl 0 rfl ?_
        obtain ⟨h12, H⟩ := H
        refine z_getR (pc := 39) C zc6 h12 0 (by decide) rfl wf_X6_9 (dX6_atMost 24 rfl) ?_
        refine z_iload (pc := 42) C (dX6_atMost 25 rfl) 4 rfl ?_
        obtain ⟨h13, H⟩ := H
        obtain ⟨h14, H⟩ := H
        refine z_laload (pc := 44) C h13 h14 (dX6_atMost 26 rfl) ?_
        refine z_land (pc := 45) C (dX6_atMost 27 rfl) ?_
        refine z_long (fun x15 hx15 => ?_)
        replace H := H x15 hx15
        refine z_lstore (pc := 46) (i := 4) (lv2 := [(4, .long x15), (0, .ref a_0), (1, .int x_1), (2, .long y_2), (6, .int x_6)]) C (dX6_atMost 28 rfl) (by decide) rfl ?_
        refine z_goto (pc := 48) (tgt := 80) C (dX6_atMost 29 rfl) (by decide) ?_
        refine z_sub [1, 2, 3, 0, 4] rfl ?_
        exact sX6_atMost_J80 C hr hm hu1 hu2 ih H
def wX6_atMost (t : zT) (m : zM) (a : Nat) (p1 : Int32) (Q : Int64 → zM → Prop) : Prop := (((0 : Int32) ≤ p1 → (tK t a = 6 ∧ (tK t (gR m a 0) = 15 ∧ (∀ x4 : Int32, x4 = ((Int32.ofNat (tL t (gR m a 0))) - (1 : Int32)) → ((∃ n18, wX6_atMost_L22 t a p1 Q (fun v16 m17 => (Q (v16 ^^^ (-1)) m17)) n18 0 (-1) x4 m)))))) ∧ (¬ (0 : Int32) ≤ p1 → (Q 0 m)))
set_option maxHeartbeats 4000000 in
set_option maxRecDepth 20000 in
theorem kX6_atMost {l : Launch} {t : zT} {m : zM} {a : Nat} {p1 : Int32} {Q : Int64 → zM → Prop} (H : wX6_atMost t m a p1 Q) : zMet l yX6_atMost cX6_atMost 7 (some .long) 0 0 0 t m [.ref a, .int p1] (zPl t Q) := by
  refine zmet (by decide +kernel) (Nat.le_of_ble_eq_true rfl) ?_
  intro p e s mt args below meth c g C hr hm
  unfold wX6_atMost at H
  have hu1 : ((0, 0) : Nat × Nat).1 ≤ 0 := Nat.le_refl 0
  have hu2 : ((0, 0) : Nat × Nat).2 ≤ 0 := Nat.le_refl 0
  refine z_iload_n (pc := 0) C (dX6_atMost 0 rfl) rfl 1 rfl ?_
  refine z_if_ge (pc := 1) (tgt := 6) C (dX6_atMost 1 rfl) (by decide) (fun c1 => ?_) (fun c1 => ?_)
  · replace H := H.1 c1
    refine z_lconst (pc := 6) (v := 0) C (dX6_atMost 4 rfl) (by decide) ?_
    refine z_lstore_n (pc := 7) (i := 2) (lv2 := [(2, .long 0), (0, .ref a), (1, .int p1)]) C (dX6_atMost 5 rfl) rfl (by decide) rfl ?_
    refine z_ldc2 (pc := 8) C wj_X6_15 (dX6_atMost 6 rfl) ?_
    refine z_lstore (pc := 11) (i := 4) (lv2 := [(4, .long (-1)), (2, .long 0), (0, .ref a), (1, .int p1)]) C (dX6_atMost 7 rfl) (by decide) rfl ?_
    refine z_aload_n (pc := 13) C (dX6_atMost 8 rfl) rfl 2 rfl ?_
    obtain ⟨h2, H⟩ := H
    refine z_getR (pc := 14) C zc6 h2 0 (by decide) rfl wf_X6_9 (dX6_atMost 9 rfl) ?_
    obtain ⟨h3, H⟩ := H
    refine z_alen (pc := 17) C h3 (by decide) (by decide) (dX6_atMost 10 rfl) ?_
    refine z_iconst (pc := 18) (v := 1) C (dX6_atMost 11 rfl) (by decide) ?_
    refine z_isub (pc := 19) C (dX6_atMost 12 rfl) ?_
    refine z_int (fun x4 hx4 => ?_)
    replace H := H x4 hx4
    refine z_istore (pc := 20) (i := 6) (lv2 := [(6, .int x4), (4, .long (-1)), (2, .long 0), (0, .ref a), (1, .int p1)]) C (dX6_atMost 13 rfl) (by decide) rfl ?_
    obtain ⟨n18, H⟩ := H
    refine z_sub [3, 4, 2, 1, 0] rfl ?_
    refine sX6_atMost_L22 C hr hm hu1 hu2 (fun v16 m17 H => ?_) n18 0 (-1) x4 m H
    refine z_lload_n (pc := 86) C (dX6_atMost 50 rfl) rfl 0 rfl ?_
    refine z_ldc2 (pc := 87) C wj_X6_15 (dX6_atMost 51 rfl) ?_
    refine z_lxor (pc := 90) C (dX6_atMost 52 rfl) ?_
    exact z_lret (pc := 91) C hr hu1 hu2 (dX6_atMost 53 rfl) ⟨rfl, _, rfl, H⟩
  · replace H := H.2 c1
    refine z_lconst (pc := 4) (v := 0) C (dX6_atMost 2 rfl) (by decide) ?_
    exact z_lret (pc := 5) C hr hu1 hu2 (dX6_atMost 3 rfl) ⟨rfl, _, rfl, H⟩
def wX0_fewWrongs_J105 (t : zT) (m : zM) (a_0 : Nat) (y_1 : Int64) (x_3 : Int32) (Q : Int64 → zM → Prop) (r6 : Int64 → Int32 → zM → Prop) : Prop := (r6 y_1 (x_3 + 1) m)
set_option maxHeartbeats 4000000 in
set_option maxRecDepth 20000 in
theorem sX0_fewWrongs_J105 {p : Program} {l : Launch} {e : Env} {s : State} {mt : MethodId} {args : Array Value} {below : List Frame} {meth : Method} {c : Code} {g : zG} {u : Nat × Nat} {mc ms : Nat} {t : zT} {m : zM} {a_0 : Nat} {y_1 : Int64} {x_3 : Int32} {Q : Int64 → zM → Prop} {r6 : Int64 → Int32 → zM → Prop} (C : zC p (zRm 1 mc ms) s mt args meth c g cX0_fewWrongs 5 yX0_fewWrongs.cls 1) (hr : meth.sig.returnType = (some .long)) (hm : meth.name = yX0_fewWrongs.name) (hu1 : u.1 ≤ mc) (hu2 : u.2 ≤ ms)
    (R6 : ∀ (v0 : Int64) (v1 : Int32) (m : zM), r6 v0 v1 m → zW p l e (zRm 1 mc ms) s mt args below meth c g (MQ below (zQc g (zPl t Q)) args s mc ms (zFar g)) u 5 t m 6 [(0, .ref a_0), (1, .long v0), (3, .int v1)] []) (H : wX0_fewWrongs_J105 t m a_0 y_1 x_3 Q r6) : zW p l e (zRm 1 mc ms) s mt args below meth c g (MQ below (zQc g (zPl t Q)) args s mc ms (zFar g)) u 5 t m 105 [(0, .ref a_0), (1, .long y_1), (3, .int x_3)] [] := by
  unfold wX0_fewWrongs_J105 at H
  refine z_iinc (pc := 105) (i := 3) (v := x_3 + 1) (lv2 := [(3, .int (x_3 + 1)), (0, .ref a_0), (1, .long y_1)]) C (dX0_fewWrongs 53 rfl) 2 rfl (by rfl) (by decide) rfl ?_
  refine z_goto (pc := 108) (tgt := 6) C (dX0_fewWrongs 54 rfl) (by decide) ?_
  refine z_sub [1, 2, 0] rfl ?_
  exact R6 y_1 (x_3 + 1) m H
def wX0_fewWrongs_J79 (t : zT) (m : zM) (a_0 : Nat) (y_1 : Int64) (x_3 : Int32) (x_4 : Int32) (Q : Int64 → zM → Prop) (r41 : Int32 → zM → Prop) : Prop := (r41 (x_4 + 1) m)
set_option maxHeartbeats 4000000 in
set_option maxRecDepth 20000 in
theorem sX0_fewWrongs_J79 {p : Program} {l : Launch} {e : Env} {s : State} {mt : MethodId} {args : Array Value} {below : List Frame} {meth : Method} {c : Code} {g : zG} {u : Nat × Nat} {mc ms : Nat} {t : zT} {m : zM} {a_0 : Nat} {y_1 : Int64} {x_3 : Int32} {x_4 : Int32} {Q : Int64 → zM → Prop} {r41 : Int32 → zM → Prop} (C : zC p (zRm 1 mc ms) s mt args meth c g cX0_fewWrongs 5 yX0_fewWrongs.cls 1) (hr : meth.sig.returnType = (some .long)) (hm : meth.name = yX0_fewWrongs.name) (hu1 : u.1 ≤ mc) (hu2 : u.2 ≤ ms)
    (R41 : ∀ (v0 : Int32) (m : zM), r41 v0 m → zW p l e (zRm 1 mc ms) s mt args below meth c g (MQ below (zQc g (zPl t Q)) args s mc ms (zFar g)) u 5 t m 41 [(0, .ref a_0), (1, .long y_1), (3, .int x_3), (4, .int v0)] []) (H : wX0_fewWrongs_J79 t m a_0 y_1 x_3 x_4 Q r41) : zW p l e (zRm 1 mc ms) s mt args below meth c g (MQ below (zQc g (zPl t Q)) args s mc ms (zFar g)) u 5 t m 79 [(0, .ref a_0), (1, .long y_1), (3, .int x_3), (4, .int x_4)] [] := by
  unfold wX0_fewWrongs_J79 at H
  refine z_iinc (pc := 79) (i := 4) (v := x_4 + 1) (lv2 := [(4, .int (x_4 + 1)), (0, .ref a_0), (1, .long y_1), (3, .int x_3)]) C (dX0_fewWrongs 41 rfl) 3 rfl (by rfl) (by decide) rfl ?_
  refine z_goto (pc := 82) (tgt := 41) C (dX0_fewWrongs 42 rfl) (by decide) ?_
  refine z_sub [1, 2, 3, 0] rfl ?_
  exact R41 (x_4 + 1) m H
def wX0_fewWrongs_L41 (t : zT) (a_0 : Nat) (y_1 : Int64) (x_3 : Int32) (Q : Int64 → zM → Prop) (k85 : zM → Prop) : Nat → Int32 → zM → Prop
  | 0, _, _ => False
  | n + 1, x_4, m => (tK t a_0 = 0 ∧ (((gI m a_0 9) ≤ x_4 → (k85 m)) ∧ (¬ (gI m a_0 9) ≤ x_4 → (tK t (gR m a_0 10) = 14 ∧ (vp_in x_4 (tL t (gR m a_0 10)) ∧ (((gI m (gR m a_0 10) x_4.toNatClampNeg) = x_3 → (tK t (gR m a_0 12) = 15 ∧ (vp_in x_4 (tL t (gR m a_0 12)) ∧ (tK t (gR m a_0 1) = 6 ∧ (wX6_add t m (gR m a_0 1) ((gJ m (gR m a_0 12) x_4.toNatClampNeg) ^^^ (-1)) (fun m18 => (wX0_fewWrongs_J79 t m18 a_0 y_1 x_3 x_4 Q (wX0_fewWrongs_L41 t a_0 y_1 x_3 Q k85 n)))))))) ∧ (¬ (gI m (gR m a_0 10) x_4.toNatClampNeg) = x_3 → (wX0_fewWrongs_J79 t m a_0 y_1 x_3 x_4 Q (wX0_fewWrongs_L41 t a_0 y_1 x_3 Q k85 n)))))))))
set_option maxHeartbeats 4000000 in
set_option maxRecDepth 20000 in
theorem sX0_fewWrongs_L41 {p : Program} {l : Launch} {e : Env} {s : State} {mt : MethodId} {args : Array Value} {below : List Frame} {meth : Method} {c : Code} {g : zG} {u : Nat × Nat} {mc ms : Nat} {t : zT} {a_0 : Nat} {y_1 : Int64} {x_3 : Int32} {Q : Int64 → zM → Prop} {k85 : zM → Prop} (C : zC p (zRm 1 mc ms) s mt args meth c g cX0_fewWrongs 5 yX0_fewWrongs.cls 1) (hr : meth.sig.returnType = (some .long)) (hm : meth.name = yX0_fewWrongs.name) (hu1 : u.1 ≤ mc) (hu2 : u.2 ≤ ms)
    (K85 : ∀ (m : zM), k85 m → zW p l e (zRm 1 mc ms) s mt args below meth c g (MQ below (zQc g (zPl t Q)) args s mc ms (zFar g)) u 5 t m 85 [(0, .ref a_0), (1, .long y_1), (3, .int x_3)] []) : ∀ (n : Nat) (x_4 : Int32) (m : zM), wX0_fewWrongs_L41 t a_0 y_1 x_3 Q k85 n x_4 m → zW p l e (zRm 1 mc ms) s mt args below meth c g (MQ below (zQc g (zPl t Q)) args s mc ms (zFar g)) u 5 t m 41 [(0, .ref a_0), (1, .long y_1), (3, .int x_3), (4, .int x_4)] [] := by
  intro n
  induction n with
  | zero => intro x_4 m H; exact H.elim
  | succ n ih =>
    intro x_4 m H
    simp only [wX0_fewWrongs_L41] at H
    refine z_iload (pc := 41) C (dX0_fewWrongs 22 rfl) 3 rfl ?_
    refine z_aload_n (pc := 43) C (dX0_fewWrongs 23 rfl) rfl 0 rfl ?_
    obtain ⟨h9, H⟩ := H
    refine z_getI (pc := 44) C zc0 h9 9 (by decide) rfl wf_X0_90 (dX0_fewWrongs 24 rfl) ?_
    refine z_icmp_ge (pc := 47) (tgt := 85) C (dX0_fewWrongs 25 rfl) (by decide) (fun c10 => ?_) (fun c10 => ?_)
    · replace H := H.1 c10
      refine z_sub [0, 1, 2] rfl ?_
      exact K85 m H
    · replace H := H.2 c10
      refine z_aload_n (pc := 50) C (dX0_fewWrongs 26 rfl) rfl 0 rfl ?_
      refine z_getR (pc := 51) C zc0 h9 10 (by decide) rfl wf_X0_39 (dX0_fewWrongs 27 rfl) ?_
      refine z_iload (pc := 54) C (dX0_fewWrongs 28 rfl) 3 rfl ?_
      obtain ⟨h11, H⟩ := H
      obtain ⟨h12, H⟩ := H
      refine z_iaload (pc := 56) C h11 h12 (dX0_fewWrongs 29 rfl) ?_
      refine z_iload_n (pc := 57) C (dX0_fewWrongs 30 rfl) rfl 2 rfl ?_
      refine z_icmp_ne (pc := 58) (tgt := 79) C (dX0_fewWrongs 31 rfl) (by decide) (fun c13 => ?_) (fun c13 => ?_)
      · replace H := H.2 c13
        refine z_sub [0, 1, 2, 3] rfl ?_
        exact sX0_fewWrongs_J79 C hr hm hu1 hu2 ih H
      · replace H := H.1 c13
        refine z_aload_n (pc := 61) C (dX0_fewWrongs 32 rfl) rfl 0 rfl ?_
        refine z_getR (pc := 62) C zc0 h9 1 (by decide) rfl wf_X0_21 (dX0_fewWrongs 33 rfl) ?_
        refine z_aload_n (pc := 65) C (dX0_fewWrongs 34 rfl) rfl 0 rfl ?_
        refine z_getR (pc := 66) C zc0 h9 12 (by decide) rfl wf_X0_45 (dX0_fewWrongs 35 rfl) ?_
        refine z_iload (pc := 69) C (dX0_fewWrongs 36 rfl) 3 rfl ?_
        obtain ⟨h14, H⟩ := H
        obtain ⟨h15, H⟩ := H
        refine z_laload (pc := 71) C h14 h15 (dX0_fewWrongs 37 rfl) ?_
        refine z_ldc2 (pc := 72) C wj_X0_123 (dX0_fewWrongs 38 rfl) ?_
        refine z_lxor (pc := 75) C (dX0_fewWrongs 39 rfl) ?_
        obtain ⟨h16, H⟩ := H
        refine zc_Vv (pc := 76) (rest := []) C YX6_add wl_X0_151 (kX6_add H) (by decide) h16 rfl (by decide) (dX0_fewWrongs 40 rfl) rfl hu1 hu2 (Nat.le_of_ble_eq_true rfl) rfl (fun m18 H => ?_)
        refine z_sub [0, 1, 2, 3] rfl ?_
        exact sX0_fewWrongs_J79 C hr hm hu1 hu2 ih H
def wX0_fewWrongs_L6 (t : zT) (a_0 : Nat) (Q : Int64 → zM → Prop) (k111 : Int64 → zM → Prop) : Nat → Int64 → Int32 → zM → Prop
  | 0, _, _, _ => False
  | n + 1, y_1, x_3, m => (tK t a_0 = 0 ∧ (tK t (gR m a_0 0) = 8 ∧ (tK t (gR m (gR m a_0 0) 0) = 5 ∧ (((gI m (gR m (gR m a_0 0) 0) 10) ≤ x_3 → (k111 y_1 m)) ∧ (¬ (gI m (gR m (gR m a_0 0) 0) 10) ≤ x_3 → (((((gI m a_0 3) >>> (x_3 &&& 31)) &&& (1 : Int32)) = 0 → (wX0_fewWrongs_J105 t m a_0 y_1 x_3 Q (wX0_fewWrongs_L6 t a_0 Q k111 n))) ∧ (¬ (((gI m a_0 3) >>> (x_3 &&& 31)) &&& (1 : Int32)) = 0 → (tK t (gR m a_0 1) = 6 ∧ (wX6_clear t m (gR m a_0 1) (fun m8 => (∃ n26, wX0_fewWrongs_L41 t a_0 y_1 x_3 Q (fun m19 => (tK t (gR m19 a_0 0) = 8 ∧ (tK t (gR m19 (gR m19 a_0 0) 0) = 5 ∧ (tK t (gR m19 a_0 1) = 6 ∧ (wX6_atMost t m19 (gR m19 a_0 1) (gI m19 (gR m19 (gR m19 a_0 0) 0) 13) (fun r23 m24 => (∀ x25 : Int64, x25 = (y_1 &&& r23) → ((wX0_fewWrongs_J105 t m24 a_0 x25 x_3 Q (wX0_fewWrongs_L6 t a_0 Q k111 n)))))))))) n26 0 m8)))))))))))
set_option maxHeartbeats 4000000 in
set_option maxRecDepth 20000 in
theorem sX0_fewWrongs_L6 {p : Program} {l : Launch} {e : Env} {s : State} {mt : MethodId} {args : Array Value} {below : List Frame} {meth : Method} {c : Code} {g : zG} {u : Nat × Nat} {mc ms : Nat} {t : zT} {a_0 : Nat} {Q : Int64 → zM → Prop} {k111 : Int64 → zM → Prop} (C : zC p (zRm 1 mc ms) s mt args meth c g cX0_fewWrongs 5 yX0_fewWrongs.cls 1) (hr : meth.sig.returnType = (some .long)) (hm : meth.name = yX0_fewWrongs.name) (hu1 : u.1 ≤ mc) (hu2 : u.2 ≤ ms)
    (K111 : ∀ (v0 : Int64) (m : zM), k111 v0 m → zW p l e (zRm 1 mc ms) s mt args below meth c g (MQ below (zQc g (zPl t Q)) args s mc ms (zFar g)) u 5 t m 111 [(1, .long v0)] []) : ∀ (n : Nat) (y_1 : Int64) (x_3 : Int32) (m : zM), wX0_fewWrongs_L6 t a_0 Q k111 n y_1 x_3 m → zW p l e (zRm 1 mc ms) s mt args below meth c g (MQ below (zQc g (zPl t Q)) args s mc ms (zFar g)) u 5 t m 6 [(0, .ref a_0), (1, .long y_1), (3, .int x_3)] [] := by
  intro n
  induction n with
  | zero => intro y_1 x_3 m H; exact H.elim
  | succ n ih =>
    intro y_1 x_3 m H
    simp only [wX0_fewWrongs_L6] at H
    refine z_iload_n (pc := 6) C (dX0_fewWrongs 4 rfl) rfl 2 rfl ?_
    refine z_aload_n (pc := 7) C (dX0_fewWrongs 5 rfl) rfl 0 rfl ?_
    obtain ⟨h1, H⟩ := H
    refine z_getR (pc := 8) C zc0 h1 0 (by decide) rfl wf_X0_12 (dX0_fewWrongs 6 rfl) ?_
    obtain ⟨h2, H⟩ := H
    refine z_getR (pc := 11) C zc8 h2 0 (by decide) rfl wf_X0_96 (dX0_fewWrongs 7 rfl) ?_
    obtain ⟨h3, H⟩ := H
    refine z_getI (pc := 14) C zc5 h3 10 (by decide) rfl wf_X0_142 (dX0_fewWrongs 8 rfl) ?_
    refine z_icmp_ge (pc := 17) (tgt := 111) C (dX0_fewWrongs 9 rfl) (by decide) (fun c4 => ?_) (fun c4 => ?_)
    · replace H := H.1 c4
      refine z_sub [1] rfl ?_
      exact K111 y_1 m H
    · replace H := H.2 c4
      refine z_aload_n (pc := 20) C (dX0_fewWrongs 10 rfl) rfl 0 rfl ?_
      refine z_getI (pc := 21) C zc0 h1 3 (by decide) rfl wf_X0_135 (dX0_fewWrongs 11 rfl) ?_
      refine z_iload_n (pc := 24) C (dX0_fewWrongs 12 rfl) rfl 2 rfl ?_
      refine z_ishr (pc := 25) C (dX0_fewWrongs 13 rfl) ?_
      refine z_iconst (pc := 26) (v := 1) C (dX0_fewWrongs 14 rfl) (by decide) ?_
      refine z_iand (pc := 27) C (dX0_fewWrongs 15 rfl) ?_
      refine z_if_eq (pc := 28) (tgt := 105) C (dX0_fewWrongs 16 rfl) (by decide) (fun c5 => ?_) (fun c5 => ?_)
      · replace H := H.1 c5
        refine z_sub [0, 1, 2] rfl ?_
        exact sX0_fewWrongs_J105 C hr hm hu1 hu2 ih H
      · replace H := H.2 c5
        refine z_aload_n (pc := 31) C (dX0_fewWrongs 17 rfl) rfl 0 rfl ?_
        refine z_getR (pc := 32) C zc0 h1 1 (by decide) rfl wf_X0_21 (dX0_fewWrongs 18 rfl) ?_
        obtain ⟨h6, H⟩ := H
        refine zc_Vv (pc := 35) (rest := []) C YX6_clear wl_X0_148 (kX6_clear H) (by decide) h6 rfl (by decide) (dX0_fewWrongs 19 rfl) rfl hu1 hu2 (Nat.le_of_ble_eq_true rfl) rfl (fun m8 H => ?_)
        refine z_iconst (pc := 38) (v := 0) C (dX0_fewWrongs 20 rfl) (by decide) ?_
        refine z_istore (pc := 39) (i := 4) (lv2 := [(4, .int 0), (0, .ref a_0), (1, .long y_1), (3, .int x_3)]) C (dX0_fewWrongs 21 rfl) (by decide) rfl ?_
        obtain ⟨n26, H⟩ := H
        refine z_sub [1, 2, 3, 0] rfl ?_
        refine sX0_fewWrongs_L41 C hr hm hu1 hu2 (fun m19 H => ?_) n26 0 m8 H
        refine z_lload_n (pc := 85) C (dX0_fewWrongs 43 rfl) rfl 1 rfl ?_
        refine z_aload_n (pc := 86) C (dX0_fewWrongs 44 rfl) rfl 0 rfl ?_
        refine z_getR (pc := 87) C zc0 h1 1 (by decide) rfl wf_X0_21 (dX0_fewWrongs 45 rfl) ?_
        refine z_aload_n (pc := 90) C (dX0_fewWrongs 46 rfl) rfl 0 rfl ?_
        refine z_getR (pc := 91) C zc0 h1 0 (by decide) rfl wf_X0_12 (dX0_fewWrongs 47 rfl) ?_
        obtain ⟨h20, H⟩ := H
        refine z_getR (pc := 94) C zc8 h20 0 (by decide) rfl wf_X0_96 (dX0_fewWrongs 48 rfl) ?_
        obtain ⟨h21, H⟩ := H
        refine z_getI (pc := 97) C zc5 h21 13 (by decide) rfl wf_X0_145 (dX0_fewWrongs 49 rfl) ?_
        obtain ⟨h22, H⟩ := H
        refine zc_Vl (pc := 100) (rest := [.long y_1]) C YX6_atMost wl_X0_155 (kX6_atMost H) (by decide) h22 rfl (by decide) (dX0_fewWrongs 50 rfl) rfl hu1 hu2 (Nat.le_of_ble_eq_true rfl) rfl (fun r23 m24 H => ?_)
        refine z_land (pc := 103) C (dX0_fewWrongs 51 rfl) ?_
        refine z_long (fun x25 hx25 => ?_)
        replace H := H x25 hx25
        refine z_lstore_n (pc := 104) (i := 1) (lv2 := [(1, .long x25), (0, .ref a_0), (3, .int x_3)]) C (dX0_fewWrongs 52 rfl) rfl (by decide) rfl ?_
        refine z_sub [1, 0, 2] rfl ?_
        exact sX0_fewWrongs_J105 C hr hm hu1 hu2 ih H
def wX0_fewWrongs (t : zT) (m : zM) (a : Nat) (Q : Int64 → zM → Prop) : Prop := (∃ n29, wX0_fewWrongs_L6 t a Q (fun v27 m28 => (Q v27 m28)) n29 (-1) 0 m)
set_option maxHeartbeats 4000000 in
set_option maxRecDepth 20000 in
theorem kX0_fewWrongs {l : Launch} {t : zT} {m : zM} {a : Nat} {Q : Int64 → zM → Prop} (H : wX0_fewWrongs t m a Q) : zMet l yX0_fewWrongs cX0_fewWrongs 5 (some .long) 1 0 0 t m [.ref a] (zPl t Q) := by
  refine zmet (by decide +kernel) (Nat.le_of_ble_eq_true rfl) ?_
  intro p e s mt args below meth c g C hr hm
  unfold wX0_fewWrongs at H
  have hu1 : ((0, 0) : Nat × Nat).1 ≤ 0 := Nat.le_refl 0
  have hu2 : ((0, 0) : Nat × Nat).2 ≤ 0 := Nat.le_refl 0
  refine z_ldc2 (pc := 0) C wj_X0_123 (dX0_fewWrongs 0 rfl) ?_
  refine z_lstore_n (pc := 3) (i := 1) (lv2 := [(1, .long (-1)), (0, .ref a)]) C (dX0_fewWrongs 1 rfl) rfl (by decide) rfl ?_
  refine z_iconst (pc := 4) (v := 0) C (dX0_fewWrongs 2 rfl) (by decide) ?_
  refine z_istore_n (pc := 5) (i := 3) (lv2 := [(3, .int 0), (1, .long (-1)), (0, .ref a)]) C (dX0_fewWrongs 3 rfl) rfl (by decide) rfl ?_
  obtain ⟨n29, H⟩ := H
  refine z_sub [2, 1, 0] rfl ?_
  refine sX0_fewWrongs_L6 C hr hm hu1 hu2 (fun v27 m28 H => ?_) n29 (-1) 0 m H
  refine z_lload_n (pc := 111) C (dX0_fewWrongs 55 rfl) rfl 0 rfl ?_
  exact z_lret (pc := 112) C hr hu1 hu2 (dX0_fewWrongs 56 rfl) ⟨rfl, _, rfl, H⟩
def wX0_lawfulWord_L13 (t : zT) (a_0 : Nat) (x_1 : Int32) (y_2 : Int64) (Q : Int64 → zM → Prop) (k48 : zM → Prop) : Nat → Int32 → zM → Prop
  | 0, _, _ => False
  | n + 1, x_4, m => (tK t a_0 = 0 ∧ (((gI m a_0 9) ≤ x_4 → (k48 m)) ∧ (¬ (gI m a_0 9) ≤ x_4 → (tK t (gR m a_0 12) = 15 ∧ (vp_in x_4 (tL t (gR m a_0 12)) ∧ (tK t (gR m a_0 13) = 15 ∧ (vp_in x_4 (tL t (gR m a_0 13)) ∧ (wX0_lawfulWord_L13 t a_0 x_1 y_2 Q k48 n (x_4 + 1) (pJ (pJ m (gR m a_0 12) x_4.toNatClampNeg (-1)) (gR m a_0 13) x_4.toNatClampNeg (-1))))))))))
set_option maxHeartbeats 4000000 in
set_option maxRecDepth 20000 in
theorem sX0_lawfulWord_L13 {p : Program} {l : Launch} {e : Env} {s : State} {mt : MethodId} {args : Array Value} {below : List Frame} {meth : Method} {c : Code} {g : zG} {u : Nat × Nat} {mc ms : Nat} {t : zT} {a_0 : Nat} {x_1 : Int32} {y_2 : Int64} {Q : Int64 → zM → Prop} {k48 : zM → Prop} (C : zC p (zRm 2 mc ms) s mt args meth c g cX0_lawfulWord 7 yX0_lawfulWord.cls 2) (hr : meth.sig.returnType = (some .long)) (hm : meth.name = yX0_lawfulWord.name) (hu1 : u.1 ≤ mc) (hu2 : u.2 ≤ ms)
    (K48 : ∀ (m : zM), k48 m → zW p l e (zRm 2 mc ms) s mt args below meth c g (MQ below (zQc g (zPl t Q)) args s mc ms (zFar g)) u 7 t m 48 [(0, .ref a_0), (1, .int x_1), (2, .long y_2)] []) : ∀ (n : Nat) (x_4 : Int32) (m : zM), wX0_lawfulWord_L13 t a_0 x_1 y_2 Q k48 n x_4 m → zW p l e (zRm 2 mc ms) s mt args below meth c g (MQ below (zQc g (zPl t Q)) args s mc ms (zFar g)) u 7 t m 13 [(0, .ref a_0), (1, .int x_1), (2, .long y_2), (4, .int x_4)] [] := by
  intro n
  induction n with
  | zero => intro x_4 m H; exact H.elim
  | succ n ih =>
    intro x_4 m H
    simp only [wX0_lawfulWord_L13] at H
    refine z_iload (pc := 13) C (dX0_lawfulWord_p0 8 rfl) 3 rfl ?_
    refine z_aload_n (pc := 15) C (dX0_lawfulWord_p0 9 rfl) rfl 0 rfl ?_
    obtain ⟨h6, H⟩ := H
    refine z_getI (pc := 16) C zc0 h6 9 (by decide) rfl wf_X0_90 (dX0_lawfulWord_p0 10 rfl) ?_
    refine z_icmp_ge (pc := 19) (tgt := 48) C (dX0_lawfulWord_p0 11 rfl) (by decide) (fun c7 => ?_) (fun c7 => ?_)
    · replace H := H.1 c7
      refine z_sub [0, 1, 2] rfl ?_
      exact K48 m H
    · replace H := H.2 c7
      refine z_aload_n (pc := 22) C (dX0_lawfulWord_p0 12 rfl) rfl 0 rfl ?_
      refine z_getR (pc := 23) C zc0 h6 12 (by decide) rfl wf_X0_45 (dX0_lawfulWord_p0 13 rfl) ?_
      refine z_iload (pc := 26) C (dX0_lawfulWord_p0 14 rfl) 3 rfl ?_
      refine z_ldc2 (pc := 28) C wj_X0_123 (dX0_lawfulWord_p0 15 rfl) ?_
      obtain ⟨h8, H⟩ := H
      obtain ⟨h9, H⟩ := H
      refine z_lastore (pc := 31) C h8 h9 (dX0_lawfulWord_p0 16 rfl) ?_
      refine z_aload_n (pc := 32) C (dX0_lawfulWord_p0 17 rfl) rfl 0 rfl ?_
      refine z_getR (pc := 33) C zc0 h6 13 (by decide) rfl wf_X0_48 (dX0_lawfulWord_p0 18 rfl) ?_
      refine z_iload (pc := 36) C (dX0_lawfulWord_p0 19 rfl) 3 rfl ?_
      refine z_ldc2 (pc := 38) C wj_X0_123 (dX0_lawfulWord_p0 20 rfl) ?_
      obtain ⟨h10, H⟩ := H
      obtain ⟨h11, H⟩ := H
      refine z_lastore (pc := 41) C h10 h11 (dX0_lawfulWord_p0 21 rfl) ?_
      refine z_iinc (pc := 42) (i := 4) (v := x_4 + 1) (lv2 := [(4, .int (x_4 + 1)), (0, .ref a_0), (1, .int x_1), (2, .long y_2)]) C (dX0_lawfulWord_p0 22 rfl) 3 rfl (by rfl) (by decide) rfl ?_
      refine z_goto (pc := 45) (tgt := 13) C (dX0_lawfulWord_p0 23 rfl) (by decide) ?_
      refine z_sub [1, 2, 3, 0] rfl ?_
      exact ih (x_4 + 1) (pJ (pJ m (gR m a_0 12) x_4.toNatClampNeg (-1)) (gR m a_0 13) x_4.toNatClampNeg (-1)) H
def wX0_lawfulWord_L51 (t : zT) (a_0 : Nat) (x_1 : Int32) (Q : Int64 → zM → Prop) (k168 : Int64 → zM → Prop) : Nat → Int64 → Int32 → zM → Prop
  | 0, _, _, _ => False
  | n + 1, y_2, x_4, m => (tK t a_0 = 0 ∧ (((gI m a_0 4) ≤ x_4 → (k168 y_2 m)) ∧ (¬ (gI m a_0 4) ≤ x_4 → (tK t (gR m a_0 0) = 8 ∧ (tK t (gR m (gR m a_0 0) 0) = 5 ∧ (tK t (gR m a_0 5) = 14 ∧ (vp_in x_4 (tL t (gR m a_0 5)) ∧ (tK t (gR m (gR m (gR m a_0 0) 0) 16) = 14 ∧ (vp_in (gI m (gR m a_0 5) x_4.toNatClampNeg) (tL t (gR m (gR m (gR m a_0 0) 0) 16)) ∧ (tK t (gR m (gR m (gR m a_0 0) 0) 17) = 14 ∧ (vp_in (gI m (gR m a_0 5) x_4.toNatClampNeg) (tL t (gR m (gR m (gR m a_0 0) 0) 17)) ∧ (wX8_truthWord t m (gR m a_0 0) (gI m (gR m (gR m (gR m a_0 0) 0) 16) ((gI m (gR m a_0 5) x_4.toNatClampNeg).toNatClampNeg)) (gI m (gR m (gR m (gR m a_0 0) 0) 17) ((gI m (gR m a_0 5) x_4.toNatClampNeg).toNatClampNeg)) x_1 (fun r23 m24 => (tK t (gR m24 a_0 8) = 15 ∧ (vp_in x_4 (tL t (gR m24 a_0 8)) ∧ (tK t (gR m24 a_0 7) = 14 ∧ (vp_in x_4 (tL t (gR m24 a_0 7)) ∧ (tK t (gR m24 a_0 12) = 15 ∧ (vp_in (gI m24 (gR m24 a_0 7) x_4.toNatClampNeg) (tL t (gR m24 a_0 12)) ∧ (tK t (gR m24 a_0 13) = 15 ∧ (vp_in (gI m24 (gR m24 a_0 7) x_4.toNatClampNeg) (tL t (gR m24 a_0 13)) ∧ (wX0_fitByKind t (pJ (pJ (pJ m24 (gR m24 a_0 8) x_4.toNatClampNeg r23) (gR m24 a_0 12) ((gI m24 (gR m24 a_0 7) x_4.toNatClampNeg).toNatClampNeg) ((gJ (pJ m24 (gR m24 a_0 8) x_4.toNatClampNeg r23) (gR m24 a_0 12) ((gI m24 (gR m24 a_0 7) x_4.toNatClampNeg).toNatClampNeg)) &&& r23)) (gR m24 a_0 13) ((gI m24 (gR m24 a_0 7) x_4.toNatClampNeg).toNatClampNeg) ((gJ (pJ (pJ m24 (gR m24 a_0 8) x_4.toNatClampNeg r23) (gR m24 a_0 12) ((gI m24 (gR m24 a_0 7) x_4.toNatClampNeg).toNatClampNeg) ((gJ (pJ m24 (gR m24 a_0 8) x_4.toNatClampNeg r23) (gR m24 a_0 12) ((gI m24 (gR m24 a_0 7) x_4.toNatClampNeg).toNatClampNeg)) &&& r23)) (gR m24 a_0 13) ((gI m24 (gR m24 a_0 7) x_4.toNatClampNeg).toNatClampNeg)) &&& (r23 ^^^ (-1)))) a_0 x_4 (fun r33 m34 => (∀ x35 : Int64, x35 = (y_2 &&& r33) → ((wX0_lawfulWord_L51 t a_0 x_1 Q k168 n x35 (x_4 + 1) m34))))))))))))))))))))))))))
set_option maxHeartbeats 4000000 in
set_option maxRecDepth 20000 in
theorem sX0_lawfulWord_L51 {p : Program} {l : Launch} {e : Env} {s : State} {mt : MethodId} {args : Array Value} {below : List Frame} {meth : Method} {c : Code} {g : zG} {u : Nat × Nat} {mc ms : Nat} {t : zT} {a_0 : Nat} {x_1 : Int32} {Q : Int64 → zM → Prop} {k168 : Int64 → zM → Prop} (C : zC p (zRm 2 mc ms) s mt args meth c g cX0_lawfulWord 7 yX0_lawfulWord.cls 2) (hr : meth.sig.returnType = (some .long)) (hm : meth.name = yX0_lawfulWord.name) (hu1 : u.1 ≤ mc) (hu2 : u.2 ≤ ms)
    (K168 : ∀ (v0 : Int64) (m : zM), k168 v0 m → zW p l e (zRm 2 mc ms) s mt args below meth c g (MQ below (zQc g (zPl t Q)) args s mc ms (zFar g)) u 7 t m 168 [(0, .ref a_0), (2, .long v0)] []) : ∀ (n : Nat) (y_2 : Int64) (x_4 : Int32) (m : zM), wX0_lawfulWord_L51 t a_0 x_1 Q k168 n y_2 x_4 m → zW p l e (zRm 2 mc ms) s mt args below meth c g (MQ below (zQc g (zPl t Q)) args s mc ms (zFar g)) u 7 t m 51 [(0, .ref a_0), (1, .int x_1), (2, .long y_2), (4, .int x_4)] [] := by
  intro n
  induction n with
  | zero => intro y_2 x_4 m H; exact H.elim
  | succ n ih =>
    intro y_2 x_4 m H
    simp only [wX0_lawfulWord_L51] at H
    refine z_iload (pc := 51) C (dX0_lawfulWord_p0 26 rfl) 3 rfl ?_
    refine z_aload_n (pc := 53) C (dX0_lawfulWord_p0 27 rfl) rfl 0 rfl ?_
    obtain ⟨h13, H⟩ := H
    refine z_getI (pc := 54) C zc0 h13 4 (by decide) rfl wf_X0_87 (dX0_lawfulWord_p0 28 rfl) ?_
    refine z_icmp_ge (pc := 57) (tgt := 168) C (dX0_lawfulWord_p0 29 rfl) (by decide) (fun c14 => ?_) (fun c14 => ?_)
    · replace H := H.1 c14
      refine z_sub [0, 2] rfl ?_
      exact K168 y_2 m H
    · replace H := H.2 c14
      refine z_aload_n (pc := 60) C (dX0_lawfulWord_p0 30 rfl) rfl 0 rfl ?_
      refine z_getR (pc := 61) C zc0 h13 0 (by decide) rfl wf_X0_12 (dX0_lawfulWord_p0 31 rfl) ?_
      refine z_aload_n (pc := 64) C (dX0_lawfulWord_p0 32 rfl) rfl 0 rfl ?_
      refine z_getR (pc := 65) C zc0 h13 0 (by decide) rfl wf_X0_12 (dX0_lawfulWord_p0 33 rfl) ?_
      obtain ⟨h15, H⟩ := H
      refine z_getR (pc := 68) C zc8 h15 0 (by decide) rfl wf_X0_96 (dX0_lawfulWord_p0 34 rfl) ?_
      obtain ⟨h16, H⟩ := H
      refine z_getR (pc := 71) C zc5 h16 16 (by decide) rfl wf_X0_105 (dX0_lawfulWord_p0 35 rfl) ?_
      refine z_aload_n (pc := 74) C (dX0_lawfulWord_p0 36 rfl) rfl 0 rfl ?_
      refine z_getR (pc := 75) C zc0 h13 5 (by decide) rfl wf_X0_25 (dX0_lawfulWord_p0 37 rfl) ?_
      refine z_iload (pc := 78) C (dX0_lawfulWord_p0 38 rfl) 3 rfl ?_
      obtain ⟨h17, H⟩ := H
      obtain ⟨h18, H⟩ := H
      refine z_iaload (pc := 80) C h17 h18 (dX0_lawfulWord_p0 39 rfl) ?_
      obtain ⟨h19, H⟩ := H
      obtain ⟨h20, H⟩ := H
      refine z_iaload (pc := 81) C h19 h20 (dX0_lawfulWord_p0 40 rfl) ?_
      refine z_aload_n (pc := 82) C (dX0_lawfulWord_p0 41 rfl) rfl 0 rfl ?_
      refine z_getR (pc := 83) C zc0 h13 0 (by decide) rfl wf_X0_12 (dX0_lawfulWord_p0 42 rfl) ?_
      refine z_getR (pc := 86) C zc8 h15 0 (by decide) rfl wf_X0_96 (dX0_lawfulWord_p0 43 rfl) ?_
      refine z_getR (pc := 89) C zc5 h16 17 (by decide) rfl wf_X0_125 (dX0_lawfulWord_p0 44 rfl) ?_
      refine z_aload_n (pc := 92) C (dX0_lawfulWord_p0 45 rfl) rfl 0 rfl ?_
      refine z_getR (pc := 93) C zc0 h13 5 (by decide) rfl wf_X0_25 (dX0_lawfulWord_p0 46 rfl) ?_
      refine z_iload (pc := 96) C (dX0_lawfulWord_p0 47 rfl) 3 rfl ?_
      refine z_iaload (pc := 98) C h17 h18 (dX0_lawfulWord_p0 48 rfl) ?_
      obtain ⟨h21, H⟩ := H
      obtain ⟨h22, H⟩ := H
      refine z_iaload (pc := 99) C h21 h22 (dX0_lawfulWord_p0 49 rfl) ?_
      refine z_iload_n (pc := 100) C (dX0_lawfulWord_p0 50 rfl) rfl 1 rfl ?_
      refine zc_Vl (pc := 101) (rest := []) C YX8_truthWord wl_X0_128 (kX8_truthWord H) (by decide) h15 rfl (by decide) (dX0_lawfulWord_p0 51 rfl) rfl hu1 hu2 (Nat.le_of_ble_eq_true rfl) rfl (fun r23 m24 H => ?_)
      refine z_lstore (pc := 104) (i := 5) (lv2 := [(5, .long r23), (0, .ref a_0), (1, .int x_1), (2, .long y_2), (4, .int x_4)]) C (dX0_lawfulWord_p0 52 rfl) (by decide) rfl ?_
      refine z_aload_n (pc := 106) C (dX0_lawfulWord_p0 53 rfl) rfl 1 rfl ?_
      refine z_getR (pc := 107) C zc0 h13 8 (by decide) rfl wf_X0_35 (dX0_lawfulWord_p0 54 rfl) ?_
      refine z_iload (pc := 110) C (dX0_lawfulWord_p0 55 rfl) 4 rfl ?_
      refine z_lload (pc := 112) C (dX0_lawfulWord_p0 56 rfl) 0 rfl ?_
      obtain ⟨h25, H⟩ := H
      obtain ⟨h26, H⟩ := H
      refine z_lastore (pc := 114) C h25 h26 (dX0_lawfulWord_p0 57 rfl) ?_
      refine z_aload_n (pc := 115) C (dX0_lawfulWord_p0 58 rfl) rfl 1 rfl ?_
      refine z_getR (pc := 116) C zc0 h13 12 (by decide) rfl wf_X0_45 (dX0_lawfulWord_p0 59 rfl) ?_
      refine z_aload_n (pc := 119) C (dX0_lawfulWord_p0 60 rfl) rfl 1 rfl ?_
      refine z_getR (pc := 120) C zc0 h13 7 (by decide) rfl wf_X0_32 (dX0_lawfulWord_p0 61 rfl) ?_
      refine z_iload (pc := 123) C (dX0_lawfulWord_p0 62 rfl) 4 rfl ?_
      obtain ⟨h27, H⟩ := H
      obtain ⟨h28, H⟩ := H
      refine z_iaload (pc := 125) C h27 h28 (dX0_lawfulWord_p0 63 rfl) ?_
      refine z_dup2_11 (pc := 126) C (dX0_lawfulWord_p0 64 rfl) rfl rfl ?_
      obtain ⟨h29, H⟩ := H
      obtain ⟨h30, H⟩ := H
      refine z_laload (pc := 127) C h29 h30 (dX0_lawfulWord_p0 65 rfl) ?_
      refine z_lload (pc := 128) C (dX0_lawfulWord_p0 66 rfl) 0 rfl ?_
      refine z_land (pc := 130) C (dX0_lawfulWord_p0 67 rfl) ?_
      refine z_lastore (pc := 131) C h29 h30 (dX0_lawfulWord_p0 68 rfl) ?_
      refine z_aload_n (pc := 132) C (dX0_lawfulWord_p0 69 rfl) rfl 1 rfl ?_
      refine z_getR (pc := 133) C zc0 h13 13 (by decide) rfl wf_X0_48 (dX0_lawfulWord_p0 70 rfl) ?_
      refine z_aload_n (pc := 136) C (dX0_lawfulWord_p0 71 rfl) rfl 1 rfl ?_
      refine z_getR (pc := 137) C zc0 h13 7 (by decide) rfl wf_X0_32 (dX0_lawfulWord_p0 72 rfl) ?_
      refine z_iload (pc := 140) C (dX0_lawfulWord_p0 73 rfl) 4 rfl ?_
      refine z_iaload (pc := 142) C h27 h28 (dX0_lawfulWord_p0 74 rfl) ?_
      refine z_dup2_11 (pc := 143) C (dX0_lawfulWord_p0 75 rfl) rfl rfl ?_
      obtain ⟨h31, H⟩ := H
      obtain ⟨h32, H⟩ := H
      refine z_laload (pc := 144) C h31 h32 (dX0_lawfulWord_p0 76 rfl) ?_
      refine z_lload (pc := 145) C (dX0_lawfulWord_p0 77 rfl) 0 rfl ?_
      refine z_ldc2 (pc := 147) C wj_X0_123 (dX0_lawfulWord_p0 78 rfl) ?_
      refine z_lxor (pc := 150) C (dX0_lawfulWord_p0 79 rfl) ?_
      refine z_land (pc := 151) C (dX0_lawfulWord_p0 80 rfl) ?_
      refine z_lastore (pc := 152) C h31 h32 (dX0_lawfulWord_p0 81 rfl) ?_
      refine z_lload_n (pc := 153) C (dX0_lawfulWord_p0 82 rfl) rfl 3 rfl ?_
      refine z_aload_n (pc := 154) C (dX0_lawfulWord_p0 83 rfl) rfl 1 rfl ?_
      refine z_iload (pc := 155) C (dX0_lawfulWord_p0 84 rfl) 4 rfl ?_
      refine zc_Vl (pc := 157) (rest := [.long y_2]) C YX0_fitByKind wl_X0_132 (kX0_fitByKind H) (by decide) h13 rfl (by decide) (dX0_lawfulWord_p0 85 rfl) rfl hu1 hu2 (Nat.le_of_ble_eq_true rfl) rfl (fun r33 m34 H => ?_)
      refine z_land (pc := 160) C (dX0_lawfulWord_p0 86 rfl) ?_
      refine z_long (fun x35 hx35 => ?_)
      replace H := H x35 hx35
      refine z_lstore_n (pc := 161) (i := 2) (lv2 := [(2, .long x35), (5, .long r23), (0, .ref a_0), (1, .int x_1), (4, .int x_4)]) C (dX0_lawfulWord_p0 87 rfl) rfl (by decide) rfl ?_
      refine z_iinc (pc := 162) (i := 4) (v := x_4 + 1) (lv2 := [(4, .int (x_4 + 1)), (2, .long x35), (5, .long r23), (0, .ref a_0), (1, .int x_1)]) C (dX0_lawfulWord_p0 88 rfl) 4 rfl (by rfl) (by decide) rfl ?_
      refine z_goto (pc := 165) (tgt := 51) C (dX0_lawfulWord_p0 89 rfl) (by decide) ?_
      refine z_sub [3, 4, 1, 0] rfl ?_
      exact ih x35 (x_4 + 1) m34 H
def wX0_lawfulWord_L171 (t : zT) (a_0 : Nat) (Q : Int64 → zM → Prop) (k238 : Int64 → zM → Prop) : Nat → Int64 → Int32 → zM → Prop
  | 0, _, _, _ => False
  | n + 1, y_2, x_4, m => (tK t a_0 = 0 ∧ (((gI m a_0 14) ≤ x_4 → (k238 y_2 m)) ∧ (¬ (gI m a_0 14) ≤ x_4 → (tK t (gR m a_0 15) = 14 ∧ (vp_in x_4 (tL t (gR m a_0 15)) ∧ (∀ x42 : Int32, x42 = (gI m (gR m a_0 15) x_4.toNatClampNeg) → ((tK t (gR m a_0 16) = 14 ∧ (vp_in x_4 (tL t (gR m a_0 16)) ∧ (∀ x45 : Int32, x45 = (gI m (gR m a_0 16) x_4.toNatClampNeg) → ((tK t (gR m a_0 12) = 15 ∧ (vp_in x42 (tL t (gR m a_0 12)) ∧ (tK t (gR m a_0 13) = 15 ∧ (vp_in x45 (tL t (gR m a_0 13)) ∧ (vp_in x42 (tL t (gR m a_0 13)) ∧ (vp_in x45 (tL t (gR m a_0 12)) ∧ (∀ x52 : Int64, x52 = (y_2 &&& (((gJ m (gR m a_0 12) x42.toNatClampNeg) &&& (gJ m (gR m a_0 13) x45.toNatClampNeg)) ||| ((gJ m (gR m a_0 13) x42.toNatClampNeg) &&& (gJ m (gR m a_0 12) x45.toNatClampNeg)))) → ((wX0_lawfulWord_L171 t a_0 Q k238 n x52 (x_4 + 1) m))))))))))))))))))))
set_option maxHeartbeats 4000000 in
set_option maxRecDepth 20000 in
theorem sX0_lawfulWord_L171 {p : Program} {l : Launch} {e : Env} {s : State} {mt : MethodId} {args : Array Value} {below : List Frame} {meth : Method} {c : Code} {g : zG} {u : Nat × Nat} {mc ms : Nat} {t : zT} {a_0 : Nat} {Q : Int64 → zM → Prop} {k238 : Int64 → zM → Prop} (C : zC p (zRm 2 mc ms) s mt args meth c g cX0_lawfulWord 7 yX0_lawfulWord.cls 2) (hr : meth.sig.returnType = (some .long)) (hm : meth.name = yX0_lawfulWord.name) (hu1 : u.1 ≤ mc) (hu2 : u.2 ≤ ms)
    (K238 : ∀ (v0 : Int64) (m : zM), k238 v0 m → zW p l e (zRm 2 mc ms) s mt args below meth c g (MQ below (zQc g (zPl t Q)) args s mc ms (zFar g)) u 7 t m 238 [(0, .ref a_0), (2, .long v0)] []) : ∀ (n : Nat) (y_2 : Int64) (x_4 : Int32) (m : zM), wX0_lawfulWord_L171 t a_0 Q k238 n y_2 x_4 m → zW p l e (zRm 2 mc ms) s mt args below meth c g (MQ below (zQc g (zPl t Q)) args s mc ms (zFar g)) u 7 t m 171 [(0, .ref a_0), (2, .long y_2), (4, .int x_4)] [] := by
  intro n
  induction n with
  | zero => intro y_2 x_4 m H; exact H.elim
  | succ n ih =>
    intro y_2 x_4 m H
    simp only [wX0_lawfulWord_L171] at H
    refine z_iload (pc := 171) C (dX0_lawfulWord_p0 92 rfl) 2 rfl ?_
    refine z_aload_n (pc := 173) C (dX0_lawfulWord_p0 93 rfl) rfl 0 rfl ?_
    obtain ⟨h38, H⟩ := H
    refine z_getI (pc := 174) C zc0 h38 14 (by decide) rfl wf_X0_108 (dX0_lawfulWord_p0 94 rfl) ?_
    refine z_icmp_ge (pc := 177) (tgt := 238) C (dX0_lawfulWord_p0 95 rfl) (by decide) (fun c39 => ?_) (fun c39 => ?_)
    · replace H := H.1 c39
      refine z_sub [0, 1] rfl ?_
      exact K238 y_2 m H
    · replace H := H.2 c39
      refine z_aload_n (pc := 180) C (dX0_lawfulWord_p0 96 rfl) rfl 0 rfl ?_
      refine z_getR (pc := 181) C zc0 h38 15 (by decide) rfl wf_X0_51 (dX0_lawfulWord_p0 97 rfl) ?_
      refine z_iload (pc := 184) C (dX0_lawfulWord_p0 98 rfl) 2 rfl ?_
      obtain ⟨h40, H⟩ := H
      obtain ⟨h41, H⟩ := H
      refine z_iaload (pc := 186) C h40 h41 (dX0_lawfulWord_p0 99 rfl) ?_
      refine z_int (fun x42 hx42 => ?_)
      replace H := H x42 hx42
      refine z_istore (pc := 187) (i := 5) (lv2 := [(5, .int x42), (0, .ref a_0), (2, .long y_2), (4, .int x_4)]) C (dX0_lawfulWord_p0 100 rfl) (by decide) rfl ?_
      refine z_aload_n (pc := 189) C (dX0_lawfulWord_p0 101 rfl) rfl 1 rfl ?_
      refine z_getR (pc := 190) C zc0 h38 16 (by decide) rfl wf_X0_54 (dX0_lawfulWord_p0 102 rfl) ?_
      refine z_iload (pc := 193) C (dX0_lawfulWord_p0 103 rfl) 3 rfl ?_
      obtain ⟨h43, H⟩ := H
      obtain ⟨h44, H⟩ := H
      refine z_iaload (pc := 195) C h43 h44 (dX0_lawfulWord_p0 104 rfl) ?_
      refine z_int (fun x45 hx45 => ?_)
      replace H := H x45 hx45
      refine z_istore (pc := 196) (i := 6) (lv2 := [(6, .int x45), (5, .int x42), (0, .ref a_0), (2, .long y_2), (4, .int x_4)]) C (dX0_lawfulWord_p0 105 rfl) (by decide) rfl ?_
      refine z_lload_n (pc := 198) C (dX0_lawfulWord_p0 106 rfl) rfl 3 rfl ?_
      refine z_aload_n (pc := 199) C (dX0_lawfulWord_p0 107 rfl) rfl 2 rfl ?_
      refine z_getR (pc := 200) C zc0 h38 12 (by decide) rfl wf_X0_45 (dX0_lawfulWord_p0 108 rfl) ?_
      refine z_iload (pc := 203) C (dX0_lawfulWord_p0 109 rfl) 1 rfl ?_
      obtain ⟨h46, H⟩ := H
      obtain ⟨h47, H⟩ := H
      refine z_laload (pc := 205) C h46 h47 (dX0_lawfulWord_p0 110 rfl) ?_
      refine z_aload_n (pc := 206) C (dX0_lawfulWord_p0 111 rfl) rfl 2 rfl ?_
      refine z_getR (pc := 207) C zc0 h38 13 (by decide) rfl wf_X0_48 (dX0_lawfulWord_p0 112 rfl) ?_
      refine z_iload (pc := 210) C (dX0_lawfulWord_p0 113 rfl) 0 rfl ?_
      obtain ⟨h48, H⟩ := H
      obtain ⟨h49, H⟩ := H
      refine z_laload (pc := 212) C h48 h49 (dX0_lawfulWord_p0 114 rfl) ?_
      refine z_land (pc := 213) C (dX0_lawfulWord_p0 115 rfl) ?_
      refine z_aload_n (pc := 214) C (dX0_lawfulWord_p0 116 rfl) rfl 2 rfl ?_
      refine z_getR (pc := 215) C zc0 h38 13 (by decide) rfl wf_X0_48 (dX0_lawfulWord_p0 117 rfl) ?_
      refine z_iload (pc := 218) C (dX0_lawfulWord_p0 118 rfl) 1 rfl ?_
      obtain ⟨h50, H⟩ := H
      refine z_laload (pc := 220) C h48 h50 (dX0_lawfulWord_p0 119 rfl) ?_
      refine z_aload_n (pc := 221) C (dX0_lawfulWord_p1 0 rfl) rfl 2 rfl ?_
      refine z_getR (pc := 222) C zc0 h38 12 (by decide) rfl wf_X0_45 (dX0_lawfulWord_p1 1 rfl) ?_
      refine z_iload (pc := 225) C (dX0_lawfulWord_p1 2 rfl) 0 rfl ?_
      obtain ⟨h51, H⟩ := H
      refine z_laload (pc := 227) C h46 h51 (dX0_lawfulWord_p1 3 rfl) ?_
      refine z_land (pc := 228) C (dX0_lawfulWord_p1 4 rfl) ?_
      refine z_lor (pc := 229) C (dX0_lawfulWord_p1 5 rfl) ?_
      refine z_land (pc := 230) C (dX0_lawfulWord_p1 6 rfl) ?_
      refine z_long (fun x52 hx52 => ?_)
      replace H := H x52 hx52
      refine z_lstore_n (pc := 231) (i := 2) (lv2 := [(2, .long x52), (6, .int x45), (5, .int x42), (0, .ref a_0), (4, .int x_4)]) C (dX0_lawfulWord_p1 7 rfl) rfl (by decide) rfl ?_
      refine z_iinc (pc := 232) (i := 4) (v := x_4 + 1) (lv2 := [(4, .int (x_4 + 1)), (2, .long x52), (6, .int x45), (5, .int x42), (0, .ref a_0)]) C (dX0_lawfulWord_p1 8 rfl) 4 rfl (by rfl) (by decide) rfl ?_
      refine z_goto (pc := 235) (tgt := 171) C (dX0_lawfulWord_p1 9 rfl) (by decide) ?_
      refine z_sub [4, 1, 0] rfl ?_
      exact ih x52 (x_4 + 1) m H
def wX0_lawfulWord (t : zT) (m : zM) (a : Nat) (p1 : Int32) (Q : Int64 → zM → Prop) : Prop := (tK t a = 0 ∧ (tK t (gR m a 0) = 8 ∧ (tK t (gR m (gR m a 0) 5) = 15 ∧ (vp_in p1 (tL t (gR m (gR m a 0) 5)) ∧ (∀ x5 : Int64, x5 = (gJ m (gR m (gR m a 0) 5) p1.toNatClampNeg) → ((∃ n60, wX0_lawfulWord_L13 t a p1 x5 Q (fun m12 => (∃ n59, wX0_lawfulWord_L51 t a p1 Q (fun v36 m37 => (∃ n58, wX0_lawfulWord_L171 t a Q (fun v53 m54 => (((gI m54 a 3) = 0 → (Q v53 m54)) ∧ (¬ (gI m54 a 3) = 0 → (wX0_fewWrongs t m54 a (fun r56 m57 => (Q (v53 &&& r56) m57)))))) n58 v36 0 m37)) n59 x5 0 m12)) n60 0 m)))))))
set_option maxHeartbeats 4000000 in
set_option maxRecDepth 20000 in
theorem kX0_lawfulWord {l : Launch} {t : zT} {m : zM} {a : Nat} {p1 : Int32} {Q : Int64 → zM → Prop} (H : wX0_lawfulWord t m a p1 Q) : zMet l yX0_lawfulWord cX0_lawfulWord 7 (some .long) 2 0 0 t m [.ref a, .int p1] (zPl t Q) := by
  refine zmet (by decide +kernel) (Nat.le_of_ble_eq_true rfl) ?_
  intro p e s mt args below meth c g C hr hm
  unfold wX0_lawfulWord at H
  have hu1 : ((0, 0) : Nat × Nat).1 ≤ 0 := Nat.le_refl 0
  have hu2 : ((0, 0) : Nat × Nat).2 ≤ 0 := Nat.le_refl 0
  refine z_aload_n (pc := 0) C (dX0_lawfulWord_p0 0 rfl) rfl 0 rfl ?_
  obtain ⟨h1, H⟩ := H
  refine z_getR (pc := 1) C zc0 h1 0 (by decide) rfl wf_X0_12 (dX0_lawfulWord_p0 1 rfl) ?_
  obtain ⟨h2, H⟩ := H
  refine z_getR (pc := 4) C zc8 h2 5 (by decide) rfl wf_X0_120 (dX0_lawfulWord_p0 2 rfl) ?_
  refine z_iload_n (pc := 7) C (dX0_lawfulWord_p0 3 rfl) rfl 1 rfl ?_
  obtain ⟨h3, H⟩ := H
  obtain ⟨h4, H⟩ := H
  refine z_laload (pc := 8) C h3 h4 (dX0_lawfulWord_p0 4 rfl) ?_
  refine z_long (fun x5 hx5 => ?_)
  replace H := H x5 hx5
  refine z_lstore_n (pc := 9) (i := 2) (lv2 := [(2, .long x5), (0, .ref a), (1, .int p1)]) C (dX0_lawfulWord_p0 5 rfl) rfl (by decide) rfl ?_
  refine z_iconst (pc := 10) (v := 0) C (dX0_lawfulWord_p0 6 rfl) (by decide) ?_
  refine z_istore (pc := 11) (i := 4) (lv2 := [(4, .int 0), (2, .long x5), (0, .ref a), (1, .int p1)]) C (dX0_lawfulWord_p0 7 rfl) (by decide) rfl ?_
  obtain ⟨n60, H⟩ := H
  refine z_sub [2, 3, 1, 0] rfl ?_
  refine sX0_lawfulWord_L13 C hr hm hu1 hu2 (fun m12 H => ?_) n60 0 m H
  refine z_iconst (pc := 48) (v := 0) C (dX0_lawfulWord_p0 24 rfl) (by decide) ?_
  refine z_istore (pc := 49) (i := 4) (lv2 := [(4, .int 0), (0, .ref a), (1, .int p1), (2, .long x5)]) C (dX0_lawfulWord_p0 25 rfl) (by decide) rfl ?_
  obtain ⟨n59, H⟩ := H
  refine z_sub [1, 2, 3, 0] rfl ?_
  refine sX0_lawfulWord_L51 C hr hm hu1 hu2 (fun v36 m37 H => ?_) n59 x5 0 m12 H
  refine z_iconst (pc := 168) (v := 0) C (dX0_lawfulWord_p0 90 rfl) (by decide) ?_
  refine z_istore (pc := 169) (i := 4) (lv2 := [(4, .int 0), (0, .ref a), (2, .long v36)]) C (dX0_lawfulWord_p0 91 rfl) (by decide) rfl ?_
  obtain ⟨n58, H⟩ := H
  refine z_sub [1, 2, 0] rfl ?_
  refine sX0_lawfulWord_L171 C hr hm hu1 hu2 (fun v53 m54 H => ?_) n58 v36 0 m37 H
  refine z_aload_n (pc := 238) C (dX0_lawfulWord_p1 10 rfl) rfl 0 rfl ?_
  refine z_getI (pc := 239) C zc0 h1 3 (by decide) rfl wf_X0_135 (dX0_lawfulWord_p1 11 rfl) ?_
  refine z_if_eq (pc := 242) (tgt := 254) C (dX0_lawfulWord_p1 12 rfl) (by decide) (fun c55 => ?_) (fun c55 => ?_)
  · replace H := H.1 c55
    refine z_lload_n (pc := 254) C (dX0_lawfulWord_p1 18 rfl) rfl 1 rfl ?_
    exact z_lret (pc := 255) C hr hu1 hu2 (dX0_lawfulWord_p1 19 rfl) ⟨rfl, _, rfl, H⟩
  · replace H := H.2 c55
    refine z_lload_n (pc := 245) C (dX0_lawfulWord_p1 13 rfl) rfl 1 rfl ?_
    refine z_aload_n (pc := 246) C (dX0_lawfulWord_p1 14 rfl) rfl 0 rfl ?_
    refine zc_Vl (pc := 247) (rest := [.long v53]) C YX0_fewWrongs wl_X0_138 (kX0_fewWrongs H) (by decide) h1 rfl (by decide) (dX0_lawfulWord_p1 15 rfl) rfl hu1 hu2 (Nat.le_of_ble_eq_true rfl) rfl (fun r56 m57 H => ?_)
    refine z_land (pc := 250) C (dX0_lawfulWord_p1 16 rfl) ?_
    refine z_goto (pc := 251) (tgt := 255) C (dX0_lawfulWord_p1 17 rfl) (by decide) ?_
    exact z_lret (pc := 255) C hr hu1 hu2 (dX0_lawfulWord_p1 19 rfl) ⟨rfl, _, rfl, H⟩
def wJ13_bitCount_95d88 (t : zT) (m : zM) (p1 : Int64) (Q : Int32 → zM → Prop) : Prop := (∀ x1 : Int64, x1 = (p1 - (((p1.toUInt64 >>> ((1 : Int32).toInt64.toUInt64 &&& Int64.toUInt64 63)).toInt64) &&& 6148914691236517205)) → ((∀ x2 : Int64, x2 = ((x1 &&& 3689348814741910323) + (((x1.toUInt64 >>> ((2 : Int32).toInt64.toUInt64 &&& Int64.toUInt64 63)).toInt64) &&& 3689348814741910323)) → ((∀ x3 : Int64, x3 = ((x2 + ((x2.toUInt64 >>> ((4 : Int32).toInt64.toUInt64 &&& Int64.toUInt64 63)).toInt64)) &&& 1085102592571150095) → ((∀ x4 : Int64, x4 = (x3 + ((x3.toUInt64 >>> ((8 : Int32).toInt64.toUInt64 &&& Int64.toUInt64 63)).toInt64)) → ((∀ x5 : Int64, x5 = (x4 + ((x4.toUInt64 >>> ((16 : Int32).toInt64.toUInt64 &&& Int64.toUInt64 63)).toInt64)) → ((∀ x6 : Int64, x6 = (x5 + ((x5.toUInt64 >>> ((32 : Int32).toInt64.toUInt64 &&& Int64.toUInt64 63)).toInt64)) → ((Q (x6.toInt32 &&& (127 : Int32)) m)))))))))))))
set_option maxHeartbeats 4000000 in
set_option maxRecDepth 20000 in
theorem kJ13_bitCount_95d88 {l : Launch} {t : zT} {m : zM} {p1 : Int64} {Q : Int32 → zM → Prop} (H : wJ13_bitCount_95d88 t m p1 Q) : zMet l yJ13_bitCount_95d88 cJ13_bitCount_95d88 2 (some .int) 0 0 0 t m [.long p1] (zPi t Q) := by
  refine zmet (by decide +kernel) (Nat.le_of_ble_eq_true rfl) ?_
  intro p e s mt args below meth c g C hr hm
  unfold wJ13_bitCount_95d88 at H
  have hu1 : ((0, 0) : Nat × Nat).1 ≤ 0 := Nat.le_refl 0
  have hu2 : ((0, 0) : Nat × Nat).2 ≤ 0 := Nat.le_refl 0
  refine z_lload_n (pc := 0) C (dJ13_bitCount_95d88 0 rfl) rfl 0 rfl ?_
  refine z_lload_n (pc := 1) C (dJ13_bitCount_95d88 1 rfl) rfl 0 rfl ?_
  refine z_iconst (pc := 2) (v := 1) C (dJ13_bitCount_95d88 2 rfl) (by decide) ?_
  refine z_lushr (pc := 3) C (dJ13_bitCount_95d88 3 rfl) ?_
  refine z_ldc2 (pc := 4) C wj_J13_314 (dJ13_bitCount_95d88 4 rfl) ?_
  refine z_land (pc := 7) C (dJ13_bitCount_95d88 5 rfl) ?_
  refine z_lsub (pc := 8) C (dJ13_bitCount_95d88 6 rfl) ?_
  refine z_long (fun x1 hx1 => ?_)
  replace H := H x1 hx1
  refine z_lstore_n (pc := 9) (i := 0) (lv2 := [(0, .long x1)]) C (dJ13_bitCount_95d88 7 rfl) rfl (by decide) rfl ?_
  refine z_lload_n (pc := 10) C (dJ13_bitCount_95d88 8 rfl) rfl 0 rfl ?_
  refine z_ldc2 (pc := 11) C wj_J13_316 (dJ13_bitCount_95d88 9 rfl) ?_
  refine z_land (pc := 14) C (dJ13_bitCount_95d88 10 rfl) ?_
  refine z_lload_n (pc := 15) C (dJ13_bitCount_95d88 11 rfl) rfl 0 rfl ?_
  refine z_iconst (pc := 16) (v := 2) C (dJ13_bitCount_95d88 12 rfl) (by decide) ?_
  refine z_lushr (pc := 17) C (dJ13_bitCount_95d88 13 rfl) ?_
  refine z_ldc2 (pc := 18) C wj_J13_316 (dJ13_bitCount_95d88 14 rfl) ?_
  refine z_land (pc := 21) C (dJ13_bitCount_95d88 15 rfl) ?_
  refine z_ladd (pc := 22) C (dJ13_bitCount_95d88 16 rfl) ?_
  refine z_long (fun x2 hx2 => ?_)
  replace H := H x2 hx2
  refine z_lstore_n (pc := 23) (i := 0) (lv2 := [(0, .long x2)]) C (dJ13_bitCount_95d88 17 rfl) rfl (by decide) rfl ?_
  refine z_lload_n (pc := 24) C (dJ13_bitCount_95d88 18 rfl) rfl 0 rfl ?_
  refine z_lload_n (pc := 25) C (dJ13_bitCount_95d88 19 rfl) rfl 0 rfl ?_
  refine z_iconst (pc := 26) (v := 4) C (dJ13_bitCount_95d88 20 rfl) (by decide) ?_
  refine z_lushr (pc := 27) C (dJ13_bitCount_95d88 21 rfl) ?_
  refine z_ladd (pc := 28) C (dJ13_bitCount_95d88 22 rfl) ?_
  refine z_ldc2 (pc := 29) C wj_J13_318 (dJ13_bitCount_95d88 23 rfl) ?_
  refine z_land (pc := 32) C (dJ13_bitCount_95d88 24 rfl) ?_
  refine z_long (fun x3 hx3 => ?_)
  replace H := H x3 hx3
  refine z_lstore_n (pc := 33) (i := 0) (lv2 := [(0, .long x3)]) C (dJ13_bitCount_95d88 25 rfl) rfl (by decide) rfl ?_
  refine z_lload_n (pc := 34) C (dJ13_bitCount_95d88 26 rfl) rfl 0 rfl ?_
  refine z_lload_n (pc := 35) C (dJ13_bitCount_95d88 27 rfl) rfl 0 rfl ?_
  refine z_bipush (pc := 36) (v := 8) C (dJ13_bitCount_95d88 28 rfl) (by decide) ?_
  refine z_lushr (pc := 38) C (dJ13_bitCount_95d88 29 rfl) ?_
  refine z_ladd (pc := 39) C (dJ13_bitCount_95d88 30 rfl) ?_
  refine z_long (fun x4 hx4 => ?_)
  replace H := H x4 hx4
  refine z_lstore_n (pc := 40) (i := 0) (lv2 := [(0, .long x4)]) C (dJ13_bitCount_95d88 31 rfl) rfl (by decide) rfl ?_
  refine z_lload_n (pc := 41) C (dJ13_bitCount_95d88 32 rfl) rfl 0 rfl ?_
  refine z_lload_n (pc := 42) C (dJ13_bitCount_95d88 33 rfl) rfl 0 rfl ?_
  refine z_bipush (pc := 43) (v := 16) C (dJ13_bitCount_95d88 34 rfl) (by decide) ?_
  refine z_lushr (pc := 45) C (dJ13_bitCount_95d88 35 rfl) ?_
  refine z_ladd (pc := 46) C (dJ13_bitCount_95d88 36 rfl) ?_
  refine z_long (fun x5 hx5 => ?_)
  replace H := H x5 hx5
  refine z_lstore_n (pc := 47) (i := 0) (lv2 := [(0, .long x5)]) C (dJ13_bitCount_95d88 37 rfl) rfl (by decide) rfl ?_
  refine z_lload_n (pc := 48) C (dJ13_bitCount_95d88 38 rfl) rfl 0 rfl ?_
  refine z_lload_n (pc := 49) C (dJ13_bitCount_95d88 39 rfl) rfl 0 rfl ?_
  refine z_bipush (pc := 50) (v := 32) C (dJ13_bitCount_95d88 40 rfl) (by decide) ?_
  refine z_lushr (pc := 52) C (dJ13_bitCount_95d88 41 rfl) ?_
  refine z_ladd (pc := 53) C (dJ13_bitCount_95d88 42 rfl) ?_
  refine z_long (fun x6 hx6 => ?_)
  replace H := H x6 hx6
  refine z_lstore_n (pc := 54) (i := 0) (lv2 := [(0, .long x6)]) C (dJ13_bitCount_95d88 43 rfl) rfl (by decide) rfl ?_
  refine z_lload_n (pc := 55) C (dJ13_bitCount_95d88 44 rfl) rfl 0 rfl ?_
  refine z_l2i (pc := 56) C (dJ13_bitCount_95d88 45 rfl) ?_
  refine z_bipush (pc := 57) (v := 127) C (dJ13_bitCount_95d88 46 rfl) (by decide) ?_
  refine z_iand (pc := 59) C (dJ13_bitCount_95d88 47 rfl) ?_
  exact z_iret (pc := 60) C hr hu1 hu2 (dJ13_bitCount_95d88 48 rfl) ⟨rfl, _, rfl, H⟩
def wX4_recount_L7 (t : zT) (a_0 : Nat) (Q : zM → Prop) (k39 : zM → Prop) : Nat → Int32 → zM → Prop
  | 0, _, _ => False
  | n + 1, x_1, m => (tK t a_0 = 4 ∧ (((gI m a_0 1) ≤ x_1 → (k39 m)) ∧ (¬ (gI m a_0 1) ≤ x_1 → (tK t (gR m a_0 0) = 15 ∧ (vp_in x_1 (tL t (gR m a_0 0)) ∧ (wJ13_bitCount_95d88 t m (gJ m (gR m a_0 0) x_1.toNatClampNeg) (fun r6 m7 => (wX4_recount_L7 t a_0 Q k39 n (x_1 + 1) (pI m7 a_0 2 ((gI m a_0 2) + r6))))))))))
set_option maxHeartbeats 4000000 in
set_option maxRecDepth 20000 in
theorem sX4_recount_L7 {p : Program} {l : Launch} {e : Env} {s : State} {mt : MethodId} {args : Array Value} {below : List Frame} {meth : Method} {c : Code} {g : zG} {u : Nat × Nat} {mc ms : Nat} {t : zT} {a_0 : Nat} {Q : zM → Prop} {k39 : zM → Prop} (C : zC p (zRm 1 mc ms) s mt args meth c g cX4_recount 2 yX4_recount.cls 1) (hr : meth.sig.returnType = none) (hm : meth.name = yX4_recount.name) (hu1 : u.1 ≤ mc) (hu2 : u.2 ≤ ms)
    (K39 : ∀ (m : zM), k39 m → zW p l e (zRm 1 mc ms) s mt args below meth c g (MQ below (zQc g (zPv t Q)) args s mc ms (zFar g)) u 2 t m 39 [] []) : ∀ (n : Nat) (x_1 : Int32) (m : zM), wX4_recount_L7 t a_0 Q k39 n x_1 m → zW p l e (zRm 1 mc ms) s mt args below meth c g (MQ below (zQc g (zPv t Q)) args s mc ms (zFar g)) u 2 t m 7 [(0, .ref a_0), (1, .int x_1)] [] := by
  intro n
  induction n with
  | zero => intro x_1 m H; exact H.elim
  | succ n ih =>
    intro x_1 m H
    simp only [wX4_recount_L7] at H
    refine z_iload_n (pc := 7) C (dX4_recount 5 rfl) rfl 1 rfl ?_
    refine z_aload_n (pc := 8) C (dX4_recount 6 rfl) rfl 0 rfl ?_
    obtain ⟨h2, H⟩ := H
    refine z_getI (pc := 9) C zc4 h2 1 (by decide) rfl wf_X4_19 (dX4_recount 7 rfl) ?_
    refine z_icmp_ge (pc := 12) (tgt := 39) C (dX4_recount 8 rfl) (by decide) (fun c3 => ?_) (fun c3 => ?_)
    · replace H := H.1 c3
      refine z_sub [] rfl ?_
      exact K39 m H
    · replace H := H.2 c3
      refine z_aload_n (pc := 15) C (dX4_recount 9 rfl) rfl 0 rfl ?_
      refine z_dup (pc := 16) C (dX4_recount 10 rfl) rfl ?_
      refine z_getI (pc := 17) C zc4 h2 2 (by decide) rfl wf_X4_15 (dX4_recount 11 rfl) ?_
      refine z_aload_n (pc := 20) C (dX4_recount 12 rfl) rfl 0 rfl ?_
      refine z_getR (pc := 21) C zc4 h2 0 (by decide) rfl wf_X4_9 (dX4_recount 13 rfl) ?_
      refine z_iload_n (pc := 24) C (dX4_recount 14 rfl) rfl 1 rfl ?_
      obtain ⟨h4, H⟩ := H
      obtain ⟨h5, H⟩ := H
      refine z_laload (pc := 25) C h4 h5 (dX4_recount 15 rfl) ?_
      refine zc_Si (pc := 26) (rest := [.int (gI m a_0 2), .ref a_0]) C YJ13_bitCount_95d88 wl_X4_22 (kJ13_bitCount_95d88 H) (by decide) (dX4_recount 16 rfl) rfl hu1 hu2 (Nat.le_of_ble_eq_true rfl) rfl (fun r6 m7 H => ?_)
      refine z_iadd (pc := 29) C (dX4_recount 17 rfl) ?_
      refine z_putI (pc := 30) C zc4 h2 2 (by decide) rfl rfl wf_X4_15 (dX4_recount 18 rfl) ?_
      refine z_iinc (pc := 33) (i := 1) (v := x_1 + 1) (lv2 := [(1, .int (x_1 + 1)), (0, .ref a_0)]) C (dX4_recount 19 rfl) 1 rfl (by rfl) (by decide) rfl ?_
      refine z_goto (pc := 36) (tgt := 7) C (dX4_recount 20 rfl) (by decide) ?_
      refine z_sub [1, 0] rfl ?_
      exact ih (x_1 + 1) (pI m7 a_0 2 ((gI m a_0 2) + r6)) H
def wX4_recount (t : zT) (m : zM) (a : Nat) (Q : zM → Prop) : Prop := (tK t a = 4 ∧ (∃ n9, wX4_recount_L7 t a Q (fun m8 => (Q m8)) n9 0 (pI m a 2 0)))
set_option maxHeartbeats 4000000 in
set_option maxRecDepth 20000 in
theorem kX4_recount {l : Launch} {t : zT} {m : zM} {a : Nat} {Q : zM → Prop} (H : wX4_recount t m a Q) : zMet l yX4_recount cX4_recount 2 none 1 0 0 t m [.ref a] (zPv t Q) := by
  refine zmet (by decide +kernel) (Nat.le_of_ble_eq_true rfl) ?_
  intro p e s mt args below meth c g C hr hm
  unfold wX4_recount at H
  have hu1 : ((0, 0) : Nat × Nat).1 ≤ 0 := Nat.le_refl 0
  have hu2 : ((0, 0) : Nat × Nat).2 ≤ 0 := Nat.le_refl 0
  refine z_aload_n (pc := 0) C (dX4_recount 0 rfl) rfl 0 rfl ?_
  refine z_iconst (pc := 1) (v := 0) C (dX4_recount 1 rfl) (by decide) ?_
  obtain ⟨h1, H⟩ := H
  refine z_putI (pc := 2) C zc4 h1 2 (by decide) rfl rfl wf_X4_15 (dX4_recount 2 rfl) ?_
  refine z_iconst (pc := 5) (v := 0) C (dX4_recount 3 rfl) (by decide) ?_
  refine z_istore_n (pc := 6) (i := 1) (lv2 := [(1, .int 0), (0, .ref a)]) C (dX4_recount 4 rfl) rfl (by decide) rfl ?_
  obtain ⟨n9, H⟩ := H
  refine z_sub [1, 0] rfl ?_
  refine sX4_recount_L7 C hr hm hu1 hu2 (fun m8 H => ?_) n9 0 (pI m a 2 0) H
  exact z_vret (pc := 39) C hr hu1 hu2 (dX4_recount 21 rfl) ⟨rfl, rfl, H⟩
def wX0_judge_L32 (t : zT) (a_0 : Nat) (a_3 : Nat) (Q : zM → Prop) (k63 : zM → Prop) : Nat → Int32 → zM → Prop
  | 0, _, _ => False
  | n + 1, x_4, m => (tK t a_0 = 0 ∧ (tK t (gR m a_0 0) = 8 ∧ (((gI m (gR m a_0 0) 2) ≤ x_4 → (k63 m)) ∧ (¬ (gI m (gR m a_0 0) 2) ≤ x_4 → (tK t a_3 = 4 ∧ (wX0_lawfulWord t m a_0 x_4 (fun r14 m15 => (tK t (gR m a_3 0) = 15 ∧ (vp_in x_4 (tL t (gR m a_3 0)) ∧ (wX0_judge_L32 t a_0 a_3 Q k63 n (x_4 + 1) (pJ m15 (gR m a_3 0) x_4.toNatClampNeg r14)))))))))))
set_option maxHeartbeats 4000000 in
set_option maxRecDepth 20000 in
theorem sX0_judge_L32 {p : Program} {l : Launch} {e : Env} {s : State} {mt : MethodId} {args : Array Value} {below : List Frame} {meth : Method} {c : Code} {g : zG} {u : Nat × Nat} {mc ms : Nat} {t : zT} {a_0 : Nat} {a_3 : Nat} {Q : zM → Prop} {k63 : zM → Prop} (C : zC p (zRm 3 mc ms) s mt args meth c g cX0_judge 5 yX0_judge.cls 3) (hr : meth.sig.returnType = none) (hm : meth.name = yX0_judge.name) (hu1 : u.1 ≤ mc) (hu2 : u.2 ≤ ms)
    (K63 : ∀ (m : zM), k63 m → zW p l e (zRm 3 mc ms) s mt args below meth c g (MQ below (zQc g (zPv t Q)) args s mc ms (zFar g)) u 5 t m 63 [(3, .ref a_3)] []) : ∀ (n : Nat) (x_4 : Int32) (m : zM), wX0_judge_L32 t a_0 a_3 Q k63 n x_4 m → zW p l e (zRm 3 mc ms) s mt args below meth c g (MQ below (zQc g (zPv t Q)) args s mc ms (zFar g)) u 5 t m 32 [(0, .ref a_0), (3, .ref a_3), (4, .int x_4)] [] := by
  intro n
  induction n with
  | zero => intro x_4 m H; exact H.elim
  | succ n ih =>
    intro x_4 m H
    simp only [wX0_judge_L32] at H
    refine z_iload (pc := 32) C (dX0_judge 17 rfl) 2 rfl ?_
    refine z_aload_n (pc := 34) C (dX0_judge 18 rfl) rfl 0 rfl ?_
    obtain ⟨h10, H⟩ := H
    refine z_getR (pc := 35) C zc0 h10 0 (by decide) rfl wf_X0_12 (dX0_judge 19 rfl) ?_
    obtain ⟨h11, H⟩ := H
    refine z_getI (pc := 38) C zc8 h11 2 (by decide) rfl wf_X0_71 (dX0_judge 20 rfl) ?_
    refine z_icmp_ge (pc := 41) (tgt := 63) C (dX0_judge 21 rfl) (by decide) (fun c12 => ?_) (fun c12 => ?_)
    · replace H := H.1 c12
      refine z_sub [1] rfl ?_
      exact K63 m H
    · replace H := H.2 c12
      refine z_aload_n (pc := 44) C (dX0_judge 22 rfl) rfl 1 rfl ?_
      obtain ⟨h13, H⟩ := H
      refine z_getR (pc := 45) C zc4 h13 0 (by decide) rfl wf_X0_77 (dX0_judge 23 rfl) ?_
      refine z_iload (pc := 48) C (dX0_judge 24 rfl) 2 rfl ?_
      refine z_aload_n (pc := 50) C (dX0_judge 25 rfl) rfl 0 rfl ?_
      refine z_iload (pc := 51) C (dX0_judge 26 rfl) 2 rfl ?_
      refine zc_Vl (pc := 53) (rest := [.int x_4, .ref (gR m a_3 0)]) C YX0_lawfulWord wl_X0_80 (kX0_lawfulWord H) (by decide) h10 rfl (by decide) (dX0_judge 27 rfl) rfl hu1 hu2 (Nat.le_of_ble_eq_true rfl) rfl (fun r14 m15 H => ?_)
      obtain ⟨h16, H⟩ := H
      obtain ⟨h17, H⟩ := H
      refine z_lastore (pc := 56) C h16 h17 (dX0_judge 28 rfl) ?_
      refine z_iinc (pc := 57) (i := 4) (v := x_4 + 1) (lv2 := [(4, .int (x_4 + 1)), (0, .ref a_0), (3, .ref a_3)]) C (dX0_judge 29 rfl) 2 rfl (by rfl) (by decide) rfl ?_
      refine z_goto (pc := 60) (tgt := 32) C (dX0_judge 30 rfl) (by decide) ?_
      refine z_sub [1, 2, 0] rfl ?_
      exact ih (x_4 + 1) (pJ m15 (gR m a_3 0) x_4.toNatClampNeg r14) H
def wX0_judge (t : zT) (m : zM) (a : Nat) (p1 : Int32) (p2 : Int32) (p3 : Nat) (Q : zM → Prop) : Prop := (tK t a = 0 ∧ (wX0_hear t (pI m a 2 p2) a p1 (fun m3 => (wX0_pairUp t m3 a (fun m5 => (wX0_watch t m5 a (fun m7 => (tK t (gR m7 a 0) = 8 ∧ (tK t p3 = 4 ∧ (∃ n21, wX0_judge_L32 t a p3 Q (fun m18 => (wX4_recount t m18 p3 (fun m20 => (Q m20)))) n21 0 (pI m7 p3 1 (gI m7 (gR m7 a 0) 2))))))))))))
set_option maxHeartbeats 4000000 in
set_option maxRecDepth 20000 in
theorem kX0_judge {l : Launch} {t : zT} {m : zM} {a : Nat} {p1 : Int32} {p2 : Int32} {p3 : Nat} {Q : zM → Prop} (H : wX0_judge t m a p1 p2 p3 Q) : zMet l yX0_judge cX0_judge 5 none 3 0 0 t m [.ref a, .int p1, .int p2, .ref p3] (zPv t Q) := by
  refine zmet (by decide +kernel) (Nat.le_of_ble_eq_true rfl) ?_
  intro p e s mt args below meth c g C hr hm
  unfold wX0_judge at H
  have hu1 : ((0, 0) : Nat × Nat).1 ≤ 0 := Nat.le_refl 0
  have hu2 : ((0, 0) : Nat × Nat).2 ≤ 0 := Nat.le_refl 0
  refine z_aload_n (pc := 0) C (dX0_judge 0 rfl) rfl 0 rfl ?_
  refine z_iload_n (pc := 1) C (dX0_judge 1 rfl) rfl 2 rfl ?_
  obtain ⟨h1, H⟩ := H
  refine z_putI (pc := 2) C zc0 h1 2 (by decide) rfl rfl wf_X0_57 (dX0_judge 2 rfl) ?_
  refine z_aload_n (pc := 5) C (dX0_judge 3 rfl) rfl 0 rfl ?_
  refine z_iload_n (pc := 6) C (dX0_judge 4 rfl) rfl 1 rfl ?_
  refine zc_Vv (pc := 7) (rest := []) C YX0_hear wl_X0_61 (kX0_hear H) (by decide) h1 rfl (by decide) (dX0_judge 5 rfl) rfl hu1 hu2 (Nat.le_of_ble_eq_true rfl) rfl (fun m3 H => ?_)
  refine z_aload_n (pc := 10) C (dX0_judge 6 rfl) rfl 0 rfl ?_
  refine zc_Vv (pc := 11) (rest := []) C YX0_pairUp wl_X0_65 (kX0_pairUp H) (by decide) h1 rfl (by decide) (dX0_judge 7 rfl) rfl hu1 hu2 (Nat.le_of_ble_eq_true rfl) rfl (fun m5 H => ?_)
  refine z_aload_n (pc := 14) C (dX0_judge 8 rfl) rfl 0 rfl ?_
  refine zc_Vv (pc := 15) (rest := []) C YX0_watch wl_X0_68 (kX0_watch H) (by decide) h1 rfl (by decide) (dX0_judge 9 rfl) rfl hu1 hu2 (Nat.le_of_ble_eq_true rfl) rfl (fun m7 H => ?_)
  refine z_aload_n (pc := 18) C (dX0_judge 10 rfl) rfl 3 rfl ?_
  refine z_aload_n (pc := 19) C (dX0_judge 11 rfl) rfl 0 rfl ?_
  refine z_getR (pc := 20) C zc0 h1 0 (by decide) rfl wf_X0_12 (dX0_judge 12 rfl) ?_
  obtain ⟨h8, H⟩ := H
  refine z_getI (pc := 23) C zc8 h8 2 (by decide) rfl wf_X0_71 (dX0_judge 13 rfl) ?_
  obtain ⟨h9, H⟩ := H
  refine z_putI (pc := 26) C zc4 h9 1 (by decide) rfl rfl wf_X0_74 (dX0_judge 14 rfl) ?_
  refine z_iconst (pc := 29) (v := 0) C (dX0_judge 15 rfl) (by decide) ?_
  refine z_istore (pc := 30) (i := 4) (lv2 := [(4, .int 0), (0, .ref a), (1, .int p1), (2, .int p2), (3, .ref p3)]) C (dX0_judge 16 rfl) (by decide) rfl ?_
  obtain ⟨n21, H⟩ := H
  refine z_sub [1, 4, 0] rfl ?_
  refine sX0_judge_L32 C hr hm hu1 hu2 (fun m18 H => ?_) n21 0 (pI m7 p3 1 (gI m7 (gR m7 a 0) 2)) H
  refine z_aload_n (pc := 63) C (dX0_judge 31 rfl) rfl 0 rfl ?_
  refine zc_Vv (pc := 64) (rest := []) C YX4_recount wl_X0_84 (kX4_recount H) (by decide) h9 rfl (by decide) (dX0_judge 32 rfl) rfl hu1 hu2 (Nat.le_of_ble_eq_true rfl) rfl (fun m20 H => ?_)
  exact z_vret (pc := 67) C hr hu1 hu2 (dX0_judge 33 rfl) ⟨rfl, rfl, H⟩
def wX1_init (cap : Nat × Nat) (t : zT) (m : zM) (a : Nat) (Q : zT → zM → Prop) : Prop := (0 < a ∧ ((0 + 1 ≤ cap.1 ∧ 0 + 8 ≤ cap.2) ∧ (0 < tN t → (tK (tNew t 14 8) a = 1 ∧ ((0 + 1 + 1 ≤ cap.1 ∧ 0 + 8 + 8 ≤ cap.2) ∧ (0 < tN (tNew t 14 8) → (tK (tNew (tNew t 14 8) 14 8) a = 1 ∧ ((0 + 1 + 1 + 1 ≤ cap.1 ∧ 0 + 8 + 8 + 8 ≤ cap.2) ∧ (0 < tN (tNew (tNew t 14 8) 14 8) → (tK (tNew (tNew (tNew t 14 8) 14 8) 14 8) a = 1 ∧ ((0 + 1 + 1 + 1 + 1 ≤ cap.1 ∧ 0 + 8 + 8 + 8 + 8 ≤ cap.2) ∧ (0 < tN (tNew (tNew (tNew t 14 8) 14 8) 14 8) → (tK (tNew (tNew (tNew (tNew t 14 8) 14 8) 14 8) 14 8) a = 1 ∧ ((0 + 1 + 1 + 1 + 1 + 1 ≤ cap.1 ∧ 0 + 8 + 8 + 8 + 8 + 8 ≤ cap.2) ∧ (0 < tN (tNew (tNew (tNew (tNew t 14 8) 14 8) 14 8) 14 8) → (tK (tNew (tNew (tNew (tNew (tNew t 14 8) 14 8) 14 8) 14 8) 14 8) a = 1 ∧ ((0 + 1 + 1 + 1 + 1 + 1 + 1 ≤ cap.1 ∧ 0 + 8 + 8 + 8 + 8 + 8 + 0 ≤ cap.2) ∧ (0 < tN (tNew (tNew (tNew (tNew (tNew t 14 8) 14 8) 14 8) 14 8) 14 8) → (tK (tNew (tNew (tNew (tNew (tNew (tNew t 14 8) 14 8) 14 8) 14 8) 14 8) 14 0) a = 1 ∧ ((0 + 1 + 1 + 1 + 1 + 1 + 1 + 1 ≤ cap.1 ∧ 0 + 8 + 8 + 8 + 8 + 8 + 0 + 0 ≤ cap.2) ∧ (0 < tN (tNew (tNew (tNew (tNew (tNew (tNew t 14 8) 14 8) 14 8) 14 8) 14 8) 14 0) → (tK (tNew (tNew (tNew (tNew (tNew (tNew (tNew t 14 8) 14 8) 14 8) 14 8) 14 8) 14 0) 14 0) a = 1 ∧ ((0 + 1 + 1 + 1 + 1 + 1 + 1 + 1 + 1 ≤ cap.1 ∧ 0 + 8 + 8 + 8 + 8 + 8 + 0 + 0 + 0 ≤ cap.2) ∧ (0 < tN (tNew (tNew (tNew (tNew (tNew (tNew (tNew t 14 8) 14 8) 14 8) 14 8) 14 8) 14 0) 14 0) → (tK (tNew (tNew (tNew (tNew (tNew (tNew (tNew (tNew t 14 8) 14 8) 14 8) 14 8) 14 8) 14 0) 14 0) 14 0) a = 1 ∧ (Q (tNew (tNew (tNew (tNew (tNew (tNew (tNew (tNew t 14 8) 14 8) 14 8) 14 8) 14 8) 14 0) 14 0) 14 0) (pR (zClr (pR (zClr (pR (zClr (pR (zClr (pR (zClr (pR (zClr (pR (zClr (pR (zClr m (tN t)) a 8 (tN t)) (tN (tNew t 14 8))) a 9 (tN (tNew t 14 8))) (tN (tNew (tNew t 14 8) 14 8))) a 10 (tN (tNew (tNew t 14 8) 14 8))) (tN (tNew (tNew (tNew t 14 8) 14 8) 14 8))) a 11 (tN (tNew (tNew (tNew t 14 8) 14 8) 14 8))) (tN (tNew (tNew (tNew (tNew t 14 8) 14 8) 14 8) 14 8))) a 12 (tN (tNew (tNew (tNew (tNew t 14 8) 14 8) 14 8) 14 8))) (tN (tNew (tNew (tNew (tNew (tNew t 14 8) 14 8) 14 8) 14 8) 14 8))) a 13 (tN (tNew (tNew (tNew (tNew (tNew t 14 8) 14 8) 14 8) 14 8) 14 8))) (tN (tNew (tNew (tNew (tNew (tNew (tNew t 14 8) 14 8) 14 8) 14 8) 14 8) 14 0))) a 14 (tN (tNew (tNew (tNew (tNew (tNew (tNew t 14 8) 14 8) 14 8) 14 8) 14 8) 14 0))) (tN (tNew (tNew (tNew (tNew (tNew (tNew (tNew t 14 8) 14 8) 14 8) 14 8) 14 8) 14 0) 14 0))) a 15 (tN (tNew (tNew (tNew (tNew (tNew (tNew (tNew t 14 8) 14 8) 14 8) 14 8) 14 8) 14 0) 14 0)))))))))))))))))))))))))))))
set_option maxHeartbeats 4000000 in
set_option maxRecDepth 20000 in
theorem kX1_init {l : Launch} {cap : Nat × Nat} {t : zT} {m : zM} {a : Nat} {Q : zT → zM → Prop} (H : wX1_init cap t m a Q) : zMet l yX1_init cX1_init 1 none 1 cap.1 cap.2 t m [.ref a] (zAw Q) := by
  refine zmet (by decide +kernel) (Nat.le_of_ble_eq_true rfl) ?_
  intro p e s mt args below meth c g C hr hm
  unfold wX1_init at H
  obtain ⟨mc, ms⟩ := cap
  refine z_aload_n (pc := 0) C (dX1_init 0 rfl) rfl 0 rfl ?_
  obtain ⟨h25, H⟩ := H
  refine z_objInit (pc := 1) C h25 wl_X1_3 woi woc (by decide) (Nat.le_of_ble_eq_true rfl) (dX1_init 1 rfl) ?_
  refine z_aload_n (pc := 4) C (dX1_init 2 rfl) rfl 0 rfl ?_
  refine z_bipush (pc := 5) (v := 8) C (dX1_init 3 rfl) (by decide) ?_
  obtain ⟨h23, H⟩ := H
  refine z_newaI (pc := 7) (N := 8) C (by decide) (by decide) (by decide) wa_int (dX1_init 4 rfl) h23.1 h23.2 (fun h24 => ?_)
  replace H := H h24
  obtain ⟨h1, H⟩ := H
  refine z_putRF (pc := 9) C zc1 h1 8 (by decide) rfl rfl hm rfl wf_X1_9 (dX1_init 5 rfl) ?_
  refine z_aload_n (pc := 12) C (dX1_init 6 rfl) rfl 0 rfl ?_
  refine z_bipush (pc := 13) (v := 8) C (dX1_init 7 rfl) (by decide) ?_
  obtain ⟨h21, H⟩ := H
  refine z_newaI (pc := 15) (N := 8) C (by decide) (by decide) (by decide) wa_int (dX1_init 8 rfl) h21.1 h21.2 (fun h22 => ?_)
  replace H := H h22
  obtain ⟨h2, H⟩ := H
  refine z_putRF (pc := 17) C zc1 h2 9 (by decide) rfl rfl hm rfl wf_X1_15 (dX1_init 9 rfl) ?_
  refine z_aload_n (pc := 20) C (dX1_init 10 rfl) rfl 0 rfl ?_
  refine z_bipush (pc := 21) (v := 8) C (dX1_init 11 rfl) (by decide) ?_
  obtain ⟨h19, H⟩ := H
  refine z_newaI (pc := 23) (N := 8) C (by decide) (by decide) (by decide) wa_int (dX1_init 12 rfl) h19.1 h19.2 (fun h20 => ?_)
  replace H := H h20
  obtain ⟨h3, H⟩ := H
  refine z_putRF (pc := 25) C zc1 h3 10 (by decide) rfl rfl hm rfl wf_X1_18 (dX1_init 13 rfl) ?_
  refine z_aload_n (pc := 28) C (dX1_init 14 rfl) rfl 0 rfl ?_
  refine z_bipush (pc := 29) (v := 8) C (dX1_init 15 rfl) (by decide) ?_
  obtain ⟨h17, H⟩ := H
  refine z_newaI (pc := 31) (N := 8) C (by decide) (by decide) (by decide) wa_int (dX1_init 16 rfl) h17.1 h17.2 (fun h18 => ?_)
  replace H := H h18
  obtain ⟨h4, H⟩ := H
  refine z_putRF (pc := 33) C zc1 h4 11 (by decide) rfl rfl hm rfl wf_X1_21 (dX1_init 17 rfl) ?_
  refine z_aload_n (pc := 36) C (dX1_init 18 rfl) rfl 0 rfl ?_
  refine z_bipush (pc := 37) (v := 8) C (dX1_init 19 rfl) (by decide) ?_
  obtain ⟨h15, H⟩ := H
  refine z_newaI (pc := 39) (N := 8) C (by decide) (by decide) (by decide) wa_int (dX1_init 20 rfl) h15.1 h15.2 (fun h16 => ?_)
  replace H := H h16
  obtain ⟨h5, H⟩ := H
  refine z_putRF (pc := 41) C zc1 h5 12 (by decide) rfl rfl hm rfl wf_X1_24 (dX1_init 21 rfl) ?_
  refine z_aload_n (pc := 44) C (dX1_init 22 rfl) rfl 0 rfl ?_
  refine z_iconst (pc := 45) (v := 0) C (dX1_init 23 rfl) (by decide) ?_
  obtain ⟨h13, H⟩ := H
  refine z_newaI (pc := 46) (N := 0) C (by decide) (by decide) (by decide) wa_int (dX1_init 24 rfl) h13.1 h13.2 (fun h14 => ?_)
  replace H := H h14
  obtain ⟨h6, H⟩ := H
  refine z_putR (pc := 48) C zc1 h6 13 (by decide) rfl rfl wf_X1_27 (dX1_init 25 rfl) ?_
  refine z_aload_n (pc := 51) C (dX1_init 26 rfl) rfl 0 rfl ?_
  refine z_iconst (pc := 52) (v := 0) C (dX1_init 27 rfl) (by decide) ?_
  obtain ⟨h11, H⟩ := H
  refine z_newaI (pc := 53) (N := 0) C (by decide) (by decide) (by decide) wa_int (dX1_init 28 rfl) h11.1 h11.2 (fun h12 => ?_)
  replace H := H h12
  obtain ⟨h7, H⟩ := H
  refine z_putR (pc := 55) C zc1 h7 14 (by decide) rfl rfl wf_X1_30 (dX1_init 29 rfl) ?_
  refine z_aload_n (pc := 58) C (dX1_init 30 rfl) rfl 0 rfl ?_
  refine z_iconst (pc := 59) (v := 0) C (dX1_init 31 rfl) (by decide) ?_
  obtain ⟨h9, H⟩ := H
  refine z_newaI (pc := 60) (N := 0) C (by decide) (by decide) (by decide) wa_int (dX1_init 32 rfl) h9.1 h9.2 (fun h10 => ?_)
  replace H := H h10
  obtain ⟨h8, H⟩ := H
  refine z_putR (pc := 62) C zc1 h8 15 (by decide) rfl rfl wf_X1_33 (dX1_init 33 rfl) ?_
  exact z_vret (pc := 65) C hr (by first | omega | (show _ ≤ mc; omega)) (by first | omega | (show _ ≤ ms; omega)) (dX1_init 34 rfl) ⟨rfl, H⟩
def wX8_answersIn_L30 (t : zT) (a_0 : Nat) (a_1 : Nat) (x_2 : Int32) (x_4 : Int32) (x_5 : Int32) (Q : Int32 → zM → Prop) (k78 : Int32 → zM → Prop) : Nat → Int32 → Int32 → zM → Prop
  | 0, _, _, _ => False
  | n + 1, x_3, x_6, m => (tK t a_1 = 4 ∧ (((gI m a_1 1) ≤ x_6 → (k78 x_3 m)) ∧ (¬ (gI m a_1 1) ≤ x_6 → (tK t (gR m a_1 0) = 15 ∧ (vp_in x_6 (tL t (gR m a_1 0)) ∧ (tK t a_0 = 8 ∧ (tK t (gR m a_0 4) = 15 ∧ (vp_in (x_5 + x_6) (tL t (gR m a_0 4)) ∧ (((lg_cmp ((gJ m (gR m a_1 0) x_6.toNatClampNeg) &&& (gJ m (gR m a_0 4) ((x_5 + x_6).toNatClampNeg))) 0) = 0 → (wX8_answersIn_L30 t a_0 a_1 x_2 x_4 x_5 Q k78 n x_3 (x_6 + 1) m)) ∧ (¬ (lg_cmp ((gJ m (gR m a_1 0) x_6.toNatClampNeg) &&& (gJ m (gR m a_0 4) ((x_5 + x_6).toNatClampNeg))) 0) = 0 → (∀ x16 : Int32, x16 = (x_3 ||| ((1 : Int32) <<< (x_4 &&& 31))) → ((k78 x16 m)))))))))))))
set_option maxHeartbeats 4000000 in
set_option maxRecDepth 20000 in
theorem sX8_answersIn_L30 {p : Program} {l : Launch} {e : Env} {s : State} {mt : MethodId} {args : Array Value} {below : List Frame} {meth : Method} {c : Code} {g : zG} {u : Nat × Nat} {mc ms : Nat} {t : zT} {a_0 : Nat} {a_1 : Nat} {x_2 : Int32} {x_4 : Int32} {x_5 : Int32} {Q : Int32 → zM → Prop} {k78 : Int32 → zM → Prop} (C : zC p (zRm 1 mc ms) s mt args meth c g cX8_answersIn 7 yX8_answersIn.cls 1) (hr : meth.sig.returnType = (some .int)) (hm : meth.name = yX8_answersIn.name) (hu1 : u.1 ≤ mc) (hu2 : u.2 ≤ ms)
    (K78 : ∀ (v0 : Int32) (m : zM), k78 v0 m → zW p l e (zRm 1 mc ms) s mt args below meth c g (MQ below (zQc g (zPi t Q)) args s mc ms (zFar g)) u 7 t m 78 [(0, .ref a_0), (1, .ref a_1), (2, .int x_2), (3, .int v0), (4, .int x_4)] []) : ∀ (n : Nat) (x_3 : Int32) (x_6 : Int32) (m : zM), wX8_answersIn_L30 t a_0 a_1 x_2 x_4 x_5 Q k78 n x_3 x_6 m → zW p l e (zRm 1 mc ms) s mt args below meth c g (MQ below (zQc g (zPi t Q)) args s mc ms (zFar g)) u 7 t m 30 [(0, .ref a_0), (1, .ref a_1), (2, .int x_2), (3, .int x_3), (4, .int x_4), (5, .int x_5), (6, .int x_6)] [] := by
  intro n
  induction n with
  | zero => intro x_3 x_6 m H; exact H.elim
  | succ n ih =>
    intro x_3 x_6 m H
    simp only [wX8_answersIn_L30] at H
    refine z_iload (pc := 30) C (dX8_answersIn 17 rfl) 6 rfl ?_
    refine z_aload_n (pc := 32) C (dX8_answersIn 18 rfl) rfl 1 rfl ?_
    obtain ⟨h8, H⟩ := H
    refine z_getI (pc := 33) C zc4 h8 1 (by decide) rfl wf_X8_102 (dX8_answersIn 19 rfl) ?_
    refine z_icmp_ge (pc := 36) (tgt := 78) C (dX8_answersIn 20 rfl) (by decide) (fun c9 => ?_) (fun c9 => ?_)
    · replace H := H.1 c9
      refine z_sub [0, 1, 2, 3, 4] rfl ?_
      exact K78 x_3 m H
    · replace H := H.2 c9
      refine z_aload_n (pc := 39) C (dX8_answersIn 21 rfl) rfl 1 rfl ?_
      refine z_getR (pc := 40) C zc4 h8 0 (by decide) rfl wf_X8_105 (dX8_answersIn 22 rfl) ?_
      refine z_iload (pc := 43) C (dX8_answersIn 23 rfl) 6 rfl ?_
      obtain ⟨h10, H⟩ := H
      obtain ⟨h11, H⟩ := H
      refine z_laload (pc := 45) C h10 h11 (dX8_answersIn 24 rfl) ?_
      refine z_aload_n (pc := 46) C (dX8_answersIn 25 rfl) rfl 0 rfl ?_
      obtain ⟨h12, H⟩ := H
      refine z_getR (pc := 47) C zc8 h12 4 (by decide) rfl wf_X8_22 (dX8_answersIn 26 rfl) ?_
      refine z_iload (pc := 50) C (dX8_answersIn 27 rfl) 5 rfl ?_
      refine z_iload (pc := 52) C (dX8_answersIn 28 rfl) 6 rfl ?_
      refine z_iadd (pc := 54) C (dX8_answersIn 29 rfl) ?_
      obtain ⟨h13, H⟩ := H
      obtain ⟨h14, H⟩ := H
      refine z_laload (pc := 55) C h13 h14 (dX8_answersIn 30 rfl) ?_
      refine z_land (pc := 56) C (dX8_answersIn 31 rfl) ?_
      refine z_lconst (pc := 57) (v := 0) C (dX8_answersIn 32 rfl) (by decide) ?_
      refine z_lcmp (pc := 58) C (dX8_answersIn 33 rfl) ?_
      refine z_if_eq (pc := 59) (tgt := 72) C (dX8_answersIn 34 rfl) (by decide) (fun c15 => ?_) (fun c15 => ?_)
      · replace H := H.1 c15
        refine z_iinc (pc := 72) (i := 6) (v := x_6 + 1) (lv2 := [(6, .int (x_6 + 1)), (0, .ref a_0), (1, .ref a_1), (2, .int x_2), (3, .int x_3), (4, .int x_4), (5, .int x_5)]) C (dX8_answersIn 42 rfl) 6 rfl (by rfl) (by decide) rfl ?_
        refine z_goto (pc := 75) (tgt := 30) C (dX8_answersIn 43 rfl) (by decide) ?_
        refine z_sub [1, 2, 3, 4, 5, 6, 0] rfl ?_
        exact ih x_3 (x_6 + 1) m H
      · replace H := H.2 c15
        refine z_iload_n (pc := 62) C (dX8_answersIn 35 rfl) rfl 3 rfl ?_
        refine z_iconst (pc := 63) (v := 1) C (dX8_answersIn 36 rfl) (by decide) ?_
        refine z_iload (pc := 64) C (dX8_answersIn 37 rfl) 4 rfl ?_
        refine z_ishl (pc := 66) C (dX8_answersIn 38 rfl) ?_
        refine z_ior (pc := 67) C (dX8_answersIn 39 rfl) ?_
        refine z_int (fun x16 hx16 => ?_)
        replace H := H x16 hx16
        refine z_istore_n (pc := 68) (i := 3) (lv2 := [(3, .int x16), (0, .ref a_0), (1, .ref a_1), (2, .int x_2), (4, .int x_4), (5, .int x_5), (6, .int x_6)]) C (dX8_answersIn 40 rfl) rfl (by decide) rfl ?_
        refine z_goto (pc := 69) (tgt := 78) C (dX8_answersIn 41 rfl) (by decide) ?_
        refine z_sub [1, 2, 3, 0, 4] rfl ?_
        exact K78 x16 m H
def wX8_answersIn_J78 (t : zT) (m : zM) (a_0 : Nat) (a_1 : Nat) (x_2 : Int32) (x_3 : Int32) (x_4 : Int32) (Q : Int32 → zM → Prop) (r5 : Int32 → Int32 → zM → Prop) : Prop := (r5 x_3 (x_4 + 1) m)
set_option maxHeartbeats 4000000 in
set_option maxRecDepth 20000 in
theorem sX8_answersIn_J78 {p : Program} {l : Launch} {e : Env} {s : State} {mt : MethodId} {args : Array Value} {below : List Frame} {meth : Method} {c : Code} {g : zG} {u : Nat × Nat} {mc ms : Nat} {t : zT} {m : zM} {a_0 : Nat} {a_1 : Nat} {x_2 : Int32} {x_3 : Int32} {x_4 : Int32} {Q : Int32 → zM → Prop} {r5 : Int32 → Int32 → zM → Prop} (C : zC p (zRm 1 mc ms) s mt args meth c g cX8_answersIn 7 yX8_answersIn.cls 1) (hr : meth.sig.returnType = (some .int)) (hm : meth.name = yX8_answersIn.name) (hu1 : u.1 ≤ mc) (hu2 : u.2 ≤ ms)
    (R5 : ∀ (v0 : Int32) (v1 : Int32) (m : zM), r5 v0 v1 m → zW p l e (zRm 1 mc ms) s mt args below meth c g (MQ below (zQc g (zPi t Q)) args s mc ms (zFar g)) u 7 t m 5 [(0, .ref a_0), (1, .ref a_1), (2, .int x_2), (3, .int v0), (4, .int v1)] []) (H : wX8_answersIn_J78 t m a_0 a_1 x_2 x_3 x_4 Q r5) : zW p l e (zRm 1 mc ms) s mt args below meth c g (MQ below (zQc g (zPi t Q)) args s mc ms (zFar g)) u 7 t m 78 [(0, .ref a_0), (1, .ref a_1), (2, .int x_2), (3, .int x_3), (4, .int x_4)] [] := by
  unfold wX8_answersIn_J78 at H
  refine z_iinc (pc := 78) (i := 4) (v := x_4 + 1) (lv2 := [(4, .int (x_4 + 1)), (0, .ref a_0), (1, .ref a_1), (2, .int x_2), (3, .int x_3)]) C (dX8_answersIn 44 rfl) 4 rfl (by rfl) (by decide) rfl ?_
  refine z_goto (pc := 81) (tgt := 5) C (dX8_answersIn 45 rfl) (by decide) ?_
  refine z_sub [1, 2, 3, 4, 0] rfl ?_
  exact R5 x_3 (x_4 + 1) m H
def wX8_answersIn_L5 (t : zT) (a_0 : Nat) (a_1 : Nat) (x_2 : Int32) (Q : Int32 → zM → Prop) (k84 : Int32 → zM → Prop) : Nat → Int32 → Int32 → zM → Prop
  | 0, _, _, _ => False
  | n + 1, x_3, x_4, m => (tK t a_0 = 8 ∧ (tK t (gR m a_0 0) = 5 ∧ (tK t (gR m (gR m a_0 0) 1) = 14 ∧ (vp_in x_2 (tL t (gR m (gR m a_0 0) 1)) ∧ (((gI m (gR m (gR m a_0 0) 1) x_2.toNatClampNeg) ≤ x_4 → (k84 x_3 m)) ∧ (¬ (gI m (gR m (gR m a_0 0) 1) x_2.toNatClampNeg) ≤ x_4 → (wX8_rowOf t m x_2 x_4 (fun r6 m7 => (∃ n19, wX8_answersIn_L30 t a_0 a_1 x_2 x_4 r6 Q (fun v17 m18 => (wX8_answersIn_J78 t m18 a_0 a_1 x_2 v17 x_4 Q (wX8_answersIn_L5 t a_0 a_1 x_2 Q k84 n))) n19 x_3 0 m7)))))))))
set_option maxHeartbeats 4000000 in
set_option maxRecDepth 20000 in
theorem sX8_answersIn_L5 {p : Program} {l : Launch} {e : Env} {s : State} {mt : MethodId} {args : Array Value} {below : List Frame} {meth : Method} {c : Code} {g : zG} {u : Nat × Nat} {mc ms : Nat} {t : zT} {a_0 : Nat} {a_1 : Nat} {x_2 : Int32} {Q : Int32 → zM → Prop} {k84 : Int32 → zM → Prop} (C : zC p (zRm 1 mc ms) s mt args meth c g cX8_answersIn 7 yX8_answersIn.cls 1) (hr : meth.sig.returnType = (some .int)) (hm : meth.name = yX8_answersIn.name) (hu1 : u.1 ≤ mc) (hu2 : u.2 ≤ ms)
    (K84 : ∀ (v0 : Int32) (m : zM), k84 v0 m → zW p l e (zRm 1 mc ms) s mt args below meth c g (MQ below (zQc g (zPi t Q)) args s mc ms (zFar g)) u 7 t m 84 [(3, .int v0)] []) : ∀ (n : Nat) (x_3 : Int32) (x_4 : Int32) (m : zM), wX8_answersIn_L5 t a_0 a_1 x_2 Q k84 n x_3 x_4 m → zW p l e (zRm 1 mc ms) s mt args below meth c g (MQ below (zQc g (zPi t Q)) args s mc ms (zFar g)) u 7 t m 5 [(0, .ref a_0), (1, .ref a_1), (2, .int x_2), (3, .int x_3), (4, .int x_4)] [] := by
  intro n
  induction n with
  | zero => intro x_3 x_4 m H; exact H.elim
  | succ n ih =>
    intro x_3 x_4 m H
    simp only [wX8_answersIn_L5] at H
    refine z_iload (pc := 5) C (dX8_answersIn 4 rfl) 4 rfl ?_
    refine z_aload_n (pc := 7) C (dX8_answersIn 5 rfl) rfl 0 rfl ?_
    obtain ⟨h1, H⟩ := H
    refine z_getR (pc := 8) C zc8 h1 0 (by decide) rfl wf_X8_12 (dX8_answersIn 6 rfl) ?_
    obtain ⟨h2, H⟩ := H
    refine z_getR (pc := 11) C zc5 h2 1 (by decide) rfl wf_X8_56 (dX8_answersIn 7 rfl) ?_
    refine z_iload_n (pc := 14) C (dX8_answersIn 8 rfl) rfl 2 rfl ?_
    obtain ⟨h3, H⟩ := H
    obtain ⟨h4, H⟩ := H
    refine z_iaload (pc := 15) C h3 h4 (dX8_answersIn 9 rfl) ?_
    refine z_icmp_ge (pc := 16) (tgt := 84) C (dX8_answersIn 10 rfl) (by decide) (fun c5 => ?_) (fun c5 => ?_)
    · replace H := H.1 c5
      refine z_sub [3] rfl ?_
      exact K84 x_3 m H
    · replace H := H.2 c5
      refine z_iload_n (pc := 19) C (dX8_answersIn 11 rfl) rfl 2 rfl ?_
      refine z_iload (pc := 20) C (dX8_answersIn 12 rfl) 4 rfl ?_
      refine zc_Si (pc := 22) (rest := []) C YX8_rowOf wl_X8_63 (kX8_rowOf H) (by decide) (dX8_answersIn 13 rfl) rfl hu1 hu2 (Nat.le_of_ble_eq_true rfl) rfl (fun r6 m7 H => ?_)
      refine z_istore (pc := 25) (i := 5) (lv2 := [(5, .int r6), (0, .ref a_0), (1, .ref a_1), (2, .int x_2), (3, .int x_3), (4, .int x_4)]) C (dX8_answersIn 14 rfl) (by decide) rfl ?_
      refine z_iconst (pc := 27) (v := 0) C (dX8_answersIn 15 rfl) (by decide) ?_
      refine z_istore (pc := 28) (i := 6) (lv2 := [(6, .int 0), (5, .int r6), (0, .ref a_0), (1, .ref a_1), (2, .int x_2), (3, .int x_3), (4, .int x_4)]) C (dX8_answersIn 16 rfl) (by decide) rfl ?_
      obtain ⟨n19, H⟩ := H
      refine z_sub [2, 3, 4, 5, 6, 1, 0] rfl ?_
      refine sX8_answersIn_L30 C hr hm hu1 hu2 (fun v17 m18 H => ?_) n19 x_3 0 m7 H
      refine z_sub [0, 1, 2, 3, 4] rfl ?_
      exact sX8_answersIn_J78 C hr hm hu1 hu2 ih H
def wX8_answersIn (t : zT) (m : zM) (a : Nat) (p1 : Nat) (p2 : Int32) (Q : Int32 → zM → Prop) : Prop := (∃ n22, wX8_answersIn_L5 t a p1 p2 Q (fun v20 m21 => (Q v20 m21)) n22 0 0 m)
set_option maxHeartbeats 4000000 in
set_option maxRecDepth 20000 in
theorem kX8_answersIn {l : Launch} {t : zT} {m : zM} {a : Nat} {p1 : Nat} {p2 : Int32} {Q : Int32 → zM → Prop} (H : wX8_answersIn t m a p1 p2 Q) : zMet l yX8_answersIn cX8_answersIn 7 (some .int) 1 0 0 t m [.ref a, .ref p1, .int p2] (zPi t Q) := by
  refine zmet (by decide +kernel) (Nat.le_of_ble_eq_true rfl) ?_
  intro p e s mt args below meth c g C hr hm
  unfold wX8_answersIn at H
  have hu1 : ((0, 0) : Nat × Nat).1 ≤ 0 := Nat.le_refl 0
  have hu2 : ((0, 0) : Nat × Nat).2 ≤ 0 := Nat.le_refl 0
  refine z_iconst (pc := 0) (v := 0) C (dX8_answersIn 0 rfl) (by decide) ?_
  refine z_istore_n (pc := 1) (i := 3) (lv2 := [(3, .int 0), (0, .ref a), (1, .ref p1), (2, .int p2)]) C (dX8_answersIn 1 rfl) rfl (by decide) rfl ?_
  refine z_iconst (pc := 2) (v := 0) C (dX8_answersIn 2 rfl) (by decide) ?_
  refine z_istore (pc := 3) (i := 4) (lv2 := [(4, .int 0), (3, .int 0), (0, .ref a), (1, .ref p1), (2, .int p2)]) C (dX8_answersIn 3 rfl) (by decide) rfl ?_
  obtain ⟨n22, H⟩ := H
  refine z_sub [2, 3, 4, 1, 0] rfl ?_
  refine sX8_answersIn_L5 C hr hm hu1 hu2 (fun v20 m21 H => ?_) n22 0 0 m H
  refine z_iload_n (pc := 84) C (dX8_answersIn 46 rfl) rfl 0 rfl ?_
  exact z_iret (pc := 85) C hr hu1 hu2 (dX8_answersIn 47 rfl) ⟨rfl, _, rfl, H⟩
def wJ6_bitCount_0f7a4 (t : zT) (m : zM) (p1 : Int32) (Q : Int32 → zM → Prop) : Prop := (∀ x1 : Int32, x1 = (p1 - (((p1.toUInt32 >>> ((1 : Int32).toUInt32 &&& Int32.toUInt32 31)).toInt32) &&& (1431655765 : Int32))) → ((∀ x2 : Int32, x2 = ((x1 &&& (858993459 : Int32)) + (((x1.toUInt32 >>> ((2 : Int32).toUInt32 &&& Int32.toUInt32 31)).toInt32) &&& (858993459 : Int32))) → ((∀ x3 : Int32, x3 = ((x2 + ((x2.toUInt32 >>> ((4 : Int32).toUInt32 &&& Int32.toUInt32 31)).toInt32)) &&& (252645135 : Int32)) → ((∀ x4 : Int32, x4 = (x3 + ((x3.toUInt32 >>> ((8 : Int32).toUInt32 &&& Int32.toUInt32 31)).toInt32)) → ((∀ x5 : Int32, x5 = (x4 + ((x4.toUInt32 >>> ((16 : Int32).toUInt32 &&& Int32.toUInt32 31)).toInt32)) → ((Q (x5 &&& (63 : Int32)) m)))))))))))
set_option maxHeartbeats 4000000 in
set_option maxRecDepth 20000 in
theorem kJ6_bitCount_0f7a4 {l : Launch} {t : zT} {m : zM} {p1 : Int32} {Q : Int32 → zM → Prop} (H : wJ6_bitCount_0f7a4 t m p1 Q) : zMet l yJ6_bitCount_0f7a4 cJ6_bitCount_0f7a4 1 (some .int) 0 0 0 t m [.int p1] (zPi t Q) := by
  refine zmet (by decide +kernel) (Nat.le_of_ble_eq_true rfl) ?_
  intro p e s mt args below meth c g C hr hm
  unfold wJ6_bitCount_0f7a4 at H
  have hu1 : ((0, 0) : Nat × Nat).1 ≤ 0 := Nat.le_refl 0
  have hu2 : ((0, 0) : Nat × Nat).2 ≤ 0 := Nat.le_refl 0
  refine z_iload_n (pc := 0) C (dJ6_bitCount_0f7a4 0 rfl) rfl 0 rfl ?_
  refine z_iload_n (pc := 1) C (dJ6_bitCount_0f7a4 1 rfl) rfl 0 rfl ?_
  refine z_iconst (pc := 2) (v := 1) C (dJ6_bitCount_0f7a4 2 rfl) (by decide) ?_
  refine z_iushr (pc := 3) C (dJ6_bitCount_0f7a4 3 rfl) ?_
  refine z_ldcw (pc := 4) C wk_J6_265 (dJ6_bitCount_0f7a4 4 rfl) ?_
  refine z_iand (pc := 7) C (dJ6_bitCount_0f7a4 5 rfl) ?_
  refine z_isub (pc := 8) C (dJ6_bitCount_0f7a4 6 rfl) ?_
  refine z_int (fun x1 hx1 => ?_)
  replace H := H x1 hx1
  refine z_istore_n (pc := 9) (i := 0) (lv2 := [(0, .int x1)]) C (dJ6_bitCount_0f7a4 7 rfl) rfl (by decide) rfl ?_
  refine z_iload_n (pc := 10) C (dJ6_bitCount_0f7a4 8 rfl) rfl 0 rfl ?_
  refine z_ldcw (pc := 11) C wk_J6_266 (dJ6_bitCount_0f7a4 9 rfl) ?_
  refine z_iand (pc := 14) C (dJ6_bitCount_0f7a4 10 rfl) ?_
  refine z_iload_n (pc := 15) C (dJ6_bitCount_0f7a4 11 rfl) rfl 0 rfl ?_
  refine z_iconst (pc := 16) (v := 2) C (dJ6_bitCount_0f7a4 12 rfl) (by decide) ?_
  refine z_iushr (pc := 17) C (dJ6_bitCount_0f7a4 13 rfl) ?_
  refine z_ldcw (pc := 18) C wk_J6_266 (dJ6_bitCount_0f7a4 14 rfl) ?_
  refine z_iand (pc := 21) C (dJ6_bitCount_0f7a4 15 rfl) ?_
  refine z_iadd (pc := 22) C (dJ6_bitCount_0f7a4 16 rfl) ?_
  refine z_int (fun x2 hx2 => ?_)
  replace H := H x2 hx2
  refine z_istore_n (pc := 23) (i := 0) (lv2 := [(0, .int x2)]) C (dJ6_bitCount_0f7a4 17 rfl) rfl (by decide) rfl ?_
  refine z_iload_n (pc := 24) C (dJ6_bitCount_0f7a4 18 rfl) rfl 0 rfl ?_
  refine z_iload_n (pc := 25) C (dJ6_bitCount_0f7a4 19 rfl) rfl 0 rfl ?_
  refine z_iconst (pc := 26) (v := 4) C (dJ6_bitCount_0f7a4 20 rfl) (by decide) ?_
  refine z_iushr (pc := 27) C (dJ6_bitCount_0f7a4 21 rfl) ?_
  refine z_iadd (pc := 28) C (dJ6_bitCount_0f7a4 22 rfl) ?_
  refine z_ldcw (pc := 29) C wk_J6_267 (dJ6_bitCount_0f7a4 23 rfl) ?_
  refine z_iand (pc := 32) C (dJ6_bitCount_0f7a4 24 rfl) ?_
  refine z_int (fun x3 hx3 => ?_)
  replace H := H x3 hx3
  refine z_istore_n (pc := 33) (i := 0) (lv2 := [(0, .int x3)]) C (dJ6_bitCount_0f7a4 25 rfl) rfl (by decide) rfl ?_
  refine z_iload_n (pc := 34) C (dJ6_bitCount_0f7a4 26 rfl) rfl 0 rfl ?_
  refine z_iload_n (pc := 35) C (dJ6_bitCount_0f7a4 27 rfl) rfl 0 rfl ?_
  refine z_bipush (pc := 36) (v := 8) C (dJ6_bitCount_0f7a4 28 rfl) (by decide) ?_
  refine z_iushr (pc := 38) C (dJ6_bitCount_0f7a4 29 rfl) ?_
  refine z_iadd (pc := 39) C (dJ6_bitCount_0f7a4 30 rfl) ?_
  refine z_int (fun x4 hx4 => ?_)
  replace H := H x4 hx4
  refine z_istore_n (pc := 40) (i := 0) (lv2 := [(0, .int x4)]) C (dJ6_bitCount_0f7a4 31 rfl) rfl (by decide) rfl ?_
  refine z_iload_n (pc := 41) C (dJ6_bitCount_0f7a4 32 rfl) rfl 0 rfl ?_
  refine z_iload_n (pc := 42) C (dJ6_bitCount_0f7a4 33 rfl) rfl 0 rfl ?_
  refine z_bipush (pc := 43) (v := 16) C (dJ6_bitCount_0f7a4 34 rfl) (by decide) ?_
  refine z_iushr (pc := 45) C (dJ6_bitCount_0f7a4 35 rfl) ?_
  refine z_iadd (pc := 46) C (dJ6_bitCount_0f7a4 36 rfl) ?_
  refine z_int (fun x5 hx5 => ?_)
  replace H := H x5 hx5
  refine z_istore_n (pc := 47) (i := 0) (lv2 := [(0, .int x5)]) C (dJ6_bitCount_0f7a4 37 rfl) rfl (by decide) rfl ?_
  refine z_iload_n (pc := 48) C (dJ6_bitCount_0f7a4 38 rfl) rfl 0 rfl ?_
  refine z_bipush (pc := 49) (v := 63) C (dJ6_bitCount_0f7a4 39 rfl) (by decide) ?_
  refine z_iand (pc := 51) C (dJ6_bitCount_0f7a4 40 rfl) ?_
  exact z_iret (pc := 52) C hr hu1 hu2 (dJ6_bitCount_0f7a4 41 rfl) ⟨rfl, _, rfl, H⟩
def wX8_sureIn_J34 (t : zT) (m : zM) (a_0 : Nat) (a_1 : Nat) (x_2 : Int32) (x_3 : Int32) (Q : Int32 → zM → Prop) (r4 : Int32 → Int32 → zM → Prop) : Prop := (r4 x_2 (x_3 + 1) m)
set_option maxHeartbeats 4000000 in
set_option maxRecDepth 20000 in
theorem sX8_sureIn_J34 {p : Program} {l : Launch} {e : Env} {s : State} {mt : MethodId} {args : Array Value} {below : List Frame} {meth : Method} {c : Code} {g : zG} {u : Nat × Nat} {mc ms : Nat} {t : zT} {m : zM} {a_0 : Nat} {a_1 : Nat} {x_2 : Int32} {x_3 : Int32} {Q : Int32 → zM → Prop} {r4 : Int32 → Int32 → zM → Prop} (C : zC p (zRm 2 mc ms) s mt args meth c g cX8_sureIn 4 yX8_sureIn.cls 2) (hr : meth.sig.returnType = (some .int)) (hm : meth.name = yX8_sureIn.name) (hu1 : u.1 ≤ mc) (hu2 : u.2 ≤ ms)
    (R4 : ∀ (v0 : Int32) (v1 : Int32) (m : zM), r4 v0 v1 m → zW p l e (zRm 2 mc ms) s mt args below meth c g (MQ below (zQc g (zPi t Q)) args s mc ms (zFar g)) u 4 t m 4 [(0, .ref a_0), (1, .ref a_1), (2, .int v0), (3, .int v1)] []) (H : wX8_sureIn_J34 t m a_0 a_1 x_2 x_3 Q r4) : zW p l e (zRm 2 mc ms) s mt args below meth c g (MQ below (zQc g (zPi t Q)) args s mc ms (zFar g)) u 4 t m 34 [(0, .ref a_0), (1, .ref a_1), (2, .int x_2), (3, .int x_3)] [] := by
  unfold wX8_sureIn_J34 at H
  refine z_iinc (pc := 34) (i := 3) (v := x_3 + 1) (lv2 := [(3, .int (x_3 + 1)), (0, .ref a_0), (1, .ref a_1), (2, .int x_2)]) C (dX8_sureIn 22 rfl) 3 rfl (by rfl) (by decide) rfl ?_
  refine z_goto (pc := 37) (tgt := 4) C (dX8_sureIn 23 rfl) (by decide) ?_
  refine z_sub [1, 2, 3, 0] rfl ?_
  exact R4 x_2 (x_3 + 1) m H
def wX8_sureIn_L4 (t : zT) (a_0 : Nat) (a_1 : Nat) (Q : Int32 → zM → Prop) (k40 : Int32 → zM → Prop) : Nat → Int32 → Int32 → zM → Prop
  | 0, _, _, _ => False
  | n + 1, x_2, x_3, m => (tK t a_0 = 8 ∧ (tK t (gR m a_0 0) = 5 ∧ (((gI m (gR m a_0 0) 0) ≤ x_3 → (k40 x_2 m)) ∧ (¬ (gI m (gR m a_0 0) 0) ≤ x_3 → (wX8_answersIn t m a_0 a_1 x_3 (fun r4 m5 => (wJ6_bitCount_0f7a4 t m5 r4 (fun r6 m7 => ((r6 = 1 → (∀ x9 : Int32, x9 = (x_2 ||| ((1 : Int32) <<< (x_3 &&& 31))) → ((wX8_sureIn_J34 t m7 a_0 a_1 x9 x_3 Q (wX8_sureIn_L4 t a_0 a_1 Q k40 n))))) ∧ (¬ r6 = 1 → (wX8_sureIn_J34 t m7 a_0 a_1 x_2 x_3 Q (wX8_sureIn_L4 t a_0 a_1 Q k40 n))))))))))))
set_option maxHeartbeats 4000000 in
set_option maxRecDepth 20000 in
theorem sX8_sureIn_L4 {p : Program} {l : Launch} {e : Env} {s : State} {mt : MethodId} {args : Array Value} {below : List Frame} {meth : Method} {c : Code} {g : zG} {u : Nat × Nat} {mc ms : Nat} {t : zT} {a_0 : Nat} {a_1 : Nat} {Q : Int32 → zM → Prop} {k40 : Int32 → zM → Prop} (C : zC p (zRm 2 mc ms) s mt args meth c g cX8_sureIn 4 yX8_sureIn.cls 2) (hr : meth.sig.returnType = (some .int)) (hm : meth.name = yX8_sureIn.name) (hu1 : u.1 ≤ mc) (hu2 : u.2 ≤ ms)
    (K40 : ∀ (v0 : Int32) (m : zM), k40 v0 m → zW p l e (zRm 2 mc ms) s mt args below meth c g (MQ below (zQc g (zPi t Q)) args s mc ms (zFar g)) u 4 t m 40 [(2, .int v0)] []) : ∀ (n : Nat) (x_2 : Int32) (x_3 : Int32) (m : zM), wX8_sureIn_L4 t a_0 a_1 Q k40 n x_2 x_3 m → zW p l e (zRm 2 mc ms) s mt args below meth c g (MQ below (zQc g (zPi t Q)) args s mc ms (zFar g)) u 4 t m 4 [(0, .ref a_0), (1, .ref a_1), (2, .int x_2), (3, .int x_3)] [] := by
  intro n
  induction n with
  | zero => intro x_2 x_3 m H; exact H.elim
  | succ n ih =>
    intro x_2 x_3 m H
    simp only [wX8_sureIn_L4] at H
    refine z_iload_n (pc := 4) C (dX8_sureIn 4 rfl) rfl 3 rfl ?_
    refine z_aload_n (pc := 5) C (dX8_sureIn 5 rfl) rfl 0 rfl ?_
    obtain ⟨h1, H⟩ := H
    refine z_getR (pc := 6) C zc8 h1 0 (by decide) rfl wf_X8_12 (dX8_sureIn 6 rfl) ?_
    obtain ⟨h2, H⟩ := H
    refine z_getI (pc := 9) C zc5 h2 0 (by decide) rfl wf_X8_49 (dX8_sureIn 7 rfl) ?_
    refine z_icmp_ge (pc := 12) (tgt := 40) C (dX8_sureIn 8 rfl) (by decide) (fun c3 => ?_) (fun c3 => ?_)
    · replace H := H.1 c3
      refine z_sub [2] rfl ?_
      exact K40 x_2 m H
    · replace H := H.2 c3
      refine z_aload_n (pc := 15) C (dX8_sureIn 9 rfl) rfl 0 rfl ?_
      refine z_aload_n (pc := 16) C (dX8_sureIn 10 rfl) rfl 1 rfl ?_
      refine z_iload_n (pc := 17) C (dX8_sureIn 11 rfl) rfl 3 rfl ?_
      refine zc_Vi (pc := 18) (rest := []) C YX8_answersIn wl_X8_117 (kX8_answersIn H) (by decide) h1 rfl (by decide) (dX8_sureIn 12 rfl) rfl hu1 hu2 (Nat.le_of_ble_eq_true rfl) rfl (fun r4 m5 H => ?_)
      refine zc_Si (pc := 21) (rest := []) C YJ6_bitCount_0f7a4 wl_X8_121 (kJ6_bitCount_0f7a4 H) (by decide) (dX8_sureIn 13 rfl) rfl hu1 hu2 (Nat.le_of_ble_eq_true rfl) rfl (fun r6 m7 H => ?_)
      refine z_iconst (pc := 24) (v := 1) C (dX8_sureIn 14 rfl) (by decide) ?_
      refine z_icmp_ne (pc := 25) (tgt := 34) C (dX8_sureIn 15 rfl) (by decide) (fun c8 => ?_) (fun c8 => ?_)
      · replace H := H.2 c8
        refine z_sub [0, 1, 2, 3] rfl ?_
        exact sX8_sureIn_J34 C hr hm hu1 hu2 ih H
      · replace H := H.1 c8
        refine z_iload_n (pc := 28) C (dX8_sureIn 16 rfl) rfl 2 rfl ?_
        refine z_iconst (pc := 29) (v := 1) C (dX8_sureIn 17 rfl) (by decide) ?_
        refine z_iload_n (pc := 30) C (dX8_sureIn 18 rfl) rfl 3 rfl ?_
        refine z_ishl (pc := 31) C (dX8_sureIn 19 rfl) ?_
        refine z_ior (pc := 32) C (dX8_sureIn 20 rfl) ?_
        refine z_int (fun x9 hx9 => ?_)
        replace H := H x9 hx9
        refine z_istore_n (pc := 33) (i := 2) (lv2 := [(2, .int x9), (0, .ref a_0), (1, .ref a_1), (3, .int x_3)]) C (dX8_sureIn 21 rfl) rfl (by decide) rfl ?_
        refine z_sub [1, 2, 0, 3] rfl ?_
        exact sX8_sureIn_J34 C hr hm hu1 hu2 ih H
def wX8_sureIn (t : zT) (m : zM) (a : Nat) (p1 : Nat) (Q : Int32 → zM → Prop) : Prop := (∃ n12, wX8_sureIn_L4 t a p1 Q (fun v10 m11 => (Q v10 m11)) n12 0 0 m)
set_option maxHeartbeats 4000000 in
set_option maxRecDepth 20000 in
theorem kX8_sureIn {l : Launch} {t : zT} {m : zM} {a : Nat} {p1 : Nat} {Q : Int32 → zM → Prop} (H : wX8_sureIn t m a p1 Q) : zMet l yX8_sureIn cX8_sureIn 4 (some .int) 2 0 0 t m [.ref a, .ref p1] (zPi t Q) := by
  refine zmet (by decide +kernel) (Nat.le_of_ble_eq_true rfl) ?_
  intro p e s mt args below meth c g C hr hm
  unfold wX8_sureIn at H
  have hu1 : ((0, 0) : Nat × Nat).1 ≤ 0 := Nat.le_refl 0
  have hu2 : ((0, 0) : Nat × Nat).2 ≤ 0 := Nat.le_refl 0
  refine z_iconst (pc := 0) (v := 0) C (dX8_sureIn 0 rfl) (by decide) ?_
  refine z_istore_n (pc := 1) (i := 2) (lv2 := [(2, .int 0), (0, .ref a), (1, .ref p1)]) C (dX8_sureIn 1 rfl) rfl (by decide) rfl ?_
  refine z_iconst (pc := 2) (v := 0) C (dX8_sureIn 2 rfl) (by decide) ?_
  refine z_istore_n (pc := 3) (i := 3) (lv2 := [(3, .int 0), (2, .int 0), (0, .ref a), (1, .ref p1)]) C (dX8_sureIn 3 rfl) rfl (by decide) rfl ?_
  obtain ⟨n12, H⟩ := H
  refine z_sub [2, 3, 1, 0] rfl ?_
  refine sX8_sureIn_L4 C hr hm hu1 hu2 (fun v10 m11 H => ?_) n12 0 0 m H
  refine z_iload_n (pc := 40) C (dX8_sureIn 24 rfl) rfl 0 rfl ?_
  exact z_iret (pc := 41) C hr hu1 hu2 (dX8_sureIn 25 rfl) ⟨rfl, _, rfl, H⟩
def wX1_layOut_J120 (t : zT) (m : zM) (a_0 : Nat) (a_1 : Nat) (x_2 : Int32) (x_3 : Int32) (Q : zM → Prop) (r12 : Int32 → zM → Prop) : Prop := (r12 (x_3 + 1) m)
set_option maxHeartbeats 4000000 in
set_option maxRecDepth 20000 in
theorem sX1_layOut_J120 {p : Program} {l : Launch} {e : Env} {s : State} {mt : MethodId} {args : Array Value} {below : List Frame} {meth : Method} {c : Code} {g : zG} {u : Nat × Nat} {mc ms : Nat} {t : zT} {m : zM} {a_0 : Nat} {a_1 : Nat} {x_2 : Int32} {x_3 : Int32} {Q : zM → Prop} {r12 : Int32 → zM → Prop} (C : zC p (zRm 0 mc ms) s mt args meth c g cX1_layOut 4 yX1_layOut.cls 0) (hr : meth.sig.returnType = none) (hm : meth.name = yX1_layOut.name) (hu1 : u.1 ≤ mc) (hu2 : u.2 ≤ ms)
    (R12 : ∀ (v0 : Int32) (m : zM), r12 v0 m → zW p l e (zRm 0 mc ms) s mt args below meth c g (MQ below (zQc g (zPv t Q)) args s mc ms (zFar g)) u 4 t m 12 [(0, .ref a_0), (1, .ref a_1), (2, .int x_2), (3, .int v0)] []) (H : wX1_layOut_J120 t m a_0 a_1 x_2 x_3 Q r12) : zW p l e (zRm 0 mc ms) s mt args below meth c g (MQ below (zQc g (zPv t Q)) args s mc ms (zFar g)) u 4 t m 120 [(0, .ref a_0), (1, .ref a_1), (2, .int x_2), (3, .int x_3)] [] := by
  unfold wX1_layOut_J120 at H
  refine z_iinc (pc := 120) (i := 3) (v := x_3 + 1) (lv2 := [(3, .int (x_3 + 1)), (0, .ref a_0), (1, .ref a_1), (2, .int x_2)]) C (dX1_layOut 72 rfl) 3 rfl (by rfl) (by decide) rfl ?_
  refine z_goto (pc := 123) (tgt := 12) C (dX1_layOut 73 rfl) (by decide) ?_
  refine z_sub [1, 2, 3, 0] rfl ?_
  exact R12 (x_3 + 1) m H
def wX1_layOut_L12 (t : zT) (a_0 : Nat) (a_1 : Nat) (x_2 : Int32) (Q : zM → Prop) (k126 : zM → Prop) : Nat → Int32 → zM → Prop
  | 0, _, _ => False
  | n + 1, x_3, m => (tK t a_1 = 5 ∧ (((gI m a_1 0) ≤ x_3 → (k126 m)) ∧ (¬ (gI m a_1 0) ≤ x_3 → (tK t (gR m a_1 3) = 14 ∧ (vp_in x_3 (tL t (gR m a_1 3)) ∧ (((gI m (gR m a_1 3) x_3.toNatClampNeg) ≤ 0 → (wX1_layOut_J120 t m a_0 a_1 x_2 x_3 Q (wX1_layOut_L12 t a_0 a_1 x_2 Q k126 n))) ∧ (¬ (gI m (gR m a_1 3) x_3.toNatClampNeg) ≤ 0 → ((((x_2 >>> (x_3 &&& 31)) &&& (1 : Int32)) = 0 → (tK t a_0 = 1 ∧ (tK t (gR m a_0 8) = 14 ∧ (vp_in (gI m a_0 6) (tL t (gR m a_0 8)) ∧ (tK t (gR m a_0 9) = 14 ∧ (vp_in (gI (pI m (gR m a_0 8) ((gI m a_0 6).toNatClampNeg) x_3) a_0 6) (tL t (gR m a_0 9)) ∧ (tK t (gR m a_1 1) = 14 ∧ (vp_in x_3 (tL t (gR m a_1 1)) ∧ (tK t (gR m a_0 10) = 14 ∧ (vp_in (gI (pI (pI m (gR m a_0 8) ((gI m a_0 6).toNatClampNeg) x_3) (gR m a_0 9) ((gI (pI m (gR m a_0 8) ((gI m a_0 6).toNatClampNeg) x_3) a_0 6).toNatClampNeg) (gI (pI m (gR m a_0 8) ((gI m a_0 6).toNatClampNeg) x_3) (gR m a_1 3) x_3.toNatClampNeg)) a_0 6) (tL t (gR m a_0 10)) ∧ (tK t (gR m a_0 11) = 14 ∧ (vp_in (gI (pI (pI (pI m (gR m a_0 8) ((gI m a_0 6).toNatClampNeg) x_3) (gR m a_0 9) ((gI (pI m (gR m a_0 8) ((gI m a_0 6).toNatClampNeg) x_3) a_0 6).toNatClampNeg) (gI (pI m (gR m a_0 8) ((gI m a_0 6).toNatClampNeg) x_3) (gR m a_1 3) x_3.toNatClampNeg)) (gR m a_0 10) ((gI (pI (pI m (gR m a_0 8) ((gI m a_0 6).toNatClampNeg) x_3) (gR m a_0 9) ((gI (pI m (gR m a_0 8) ((gI m a_0 6).toNatClampNeg) x_3) a_0 6).toNatClampNeg) (gI (pI m (gR m a_0 8) ((gI m a_0 6).toNatClampNeg) x_3) (gR m a_1 3) x_3.toNatClampNeg)) a_0 6).toNatClampNeg) ((gI (pI (pI m (gR m a_0 8) ((gI m a_0 6).toNatClampNeg) x_3) (gR m a_0 9) ((gI (pI m (gR m a_0 8) ((gI m a_0 6).toNatClampNeg) x_3) a_0 6).toNatClampNeg) (gI (pI m (gR m a_0 8) ((gI m a_0 6).toNatClampNeg) x_3) (gR m a_1 3) x_3.toNatClampNeg)) (gR m a_1 1) x_3.toNatClampNeg) + (1 : Int32))) a_0 6) (tL t (gR m a_0 11)) ∧ (vp_in (gI (pI (pI (pI (pI m (gR m a_0 8) ((gI m a_0 6).toNatClampNeg) x_3) (gR m a_0 9) ((gI (pI m (gR m a_0 8) ((gI m a_0 6).toNatClampNeg) x_3) a_0 6).toNatClampNeg) (gI (pI m (gR m a_0 8) ((gI m a_0 6).toNatClampNeg) x_3) (gR m a_1 3) x_3.toNatClampNeg)) (gR m a_0 10) ((gI (pI (pI m (gR m a_0 8) ((gI m a_0 6).toNatClampNeg) x_3) (gR m a_0 9) ((gI (pI m (gR m a_0 8) ((gI m a_0 6).toNatClampNeg) x_3) a_0 6).toNatClampNeg) (gI (pI m (gR m a_0 8) ((gI m a_0 6).toNatClampNeg) x_3) (gR m a_1 3) x_3.toNatClampNeg)) a_0 6).toNatClampNeg) ((gI (pI (pI m (gR m a_0 8) ((gI m a_0 6).toNatClampNeg) x_3) (gR m a_0 9) ((gI (pI m (gR m a_0 8) ((gI m a_0 6).toNatClampNeg) x_3) a_0 6).toNatClampNeg) (gI (pI m (gR m a_0 8) ((gI m a_0 6).toNatClampNeg) x_3) (gR m a_1 3) x_3.toNatClampNeg)) (gR m a_1 1) x_3.toNatClampNeg) + (1 : Int32))) (gR m a_0 11) ((gI (pI (pI (pI m (gR m a_0 8) ((gI m a_0 6).toNatClampNeg) x_3) (gR m a_0 9) ((gI (pI m (gR m a_0 8) ((gI m a_0 6).toNatClampNeg) x_3) a_0 6).toNatClampNeg) (gI (pI m (gR m a_0 8) ((gI m a_0 6).toNatClampNeg) x_3) (gR m a_1 3) x_3.toNatClampNeg)) (gR m a_0 10) ((gI (pI (pI m (gR m a_0 8) ((gI m a_0 6).toNatClampNeg) x_3) (gR m a_0 9) ((gI (pI m (gR m a_0 8) ((gI m a_0 6).toNatClampNeg) x_3) a_0 6).toNatClampNeg) (gI (pI m (gR m a_0 8) ((gI m a_0 6).toNatClampNeg) x_3) (gR m a_1 3) x_3.toNatClampNeg)) a_0 6).toNatClampNeg) ((gI (pI (pI m (gR m a_0 8) ((gI m a_0 6).toNatClampNeg) x_3) (gR m a_0 9) ((gI (pI m (gR m a_0 8) ((gI m a_0 6).toNatClampNeg) x_3) a_0 6).toNatClampNeg) (gI (pI m (gR m a_0 8) ((gI m a_0 6).toNatClampNeg) x_3) (gR m a_1 3) x_3.toNatClampNeg)) (gR m a_1 1) x_3.toNatClampNeg) + (1 : Int32))) a_0 6).toNatClampNeg) (gI (pI (pI (pI m (gR m a_0 8) ((gI m a_0 6).toNatClampNeg) x_3) (gR m a_0 9) ((gI (pI m (gR m a_0 8) ((gI m a_0 6).toNatClampNeg) x_3) a_0 6).toNatClampNeg) (gI (pI m (gR m a_0 8) ((gI m a_0 6).toNatClampNeg) x_3) (gR m a_1 3) x_3.toNatClampNeg)) (gR m a_0 10) ((gI (pI (pI m (gR m a_0 8) ((gI m a_0 6).toNatClampNeg) x_3) (gR m a_0 9) ((gI (pI m (gR m a_0 8) ((gI m a_0 6).toNatClampNeg) x_3) a_0 6).toNatClampNeg) (gI (pI m (gR m a_0 8) ((gI m a_0 6).toNatClampNeg) x_3) (gR m a_1 3) x_3.toNatClampNeg)) a_0 6).toNatClampNeg) ((gI (pI (pI m (gR m a_0 8) ((gI m a_0 6).toNatClampNeg) x_3) (gR m a_0 9) ((gI (pI m (gR m a_0 8) ((gI m a_0 6).toNatClampNeg) x_3) a_0 6).toNatClampNeg) (gI (pI m (gR m a_0 8) ((gI m a_0 6).toNatClampNeg) x_3) (gR m a_1 3) x_3.toNatClampNeg)) (gR m a_1 1) x_3.toNatClampNeg) + (1 : Int32))) a_0 7)) a_0 6) (tL t (gR m a_0 10)) ∧ (wX1_layOut_J120 t (pI (pI (pI (pI (pI (pI m (gR m a_0 8) ((gI m a_0 6).toNatClampNeg) x_3) (gR m a_0 9) ((gI (pI m (gR m a_0 8) ((gI m a_0 6).toNatClampNeg) x_3) a_0 6).toNatClampNeg) (gI (pI m (gR m a_0 8) ((gI m a_0 6).toNatClampNeg) x_3) (gR m a_1 3) x_3.toNatClampNeg)) (gR m a_0 10) ((gI (pI (pI m (gR m a_0 8) ((gI m a_0 6).toNatClampNeg) x_3) (gR m a_0 9) ((gI (pI m (gR m a_0 8) ((gI m a_0 6).toNatClampNeg) x_3) a_0 6).toNatClampNeg) (gI (pI m (gR m a_0 8) ((gI m a_0 6).toNatClampNeg) x_3) (gR m a_1 3) x_3.toNatClampNeg)) a_0 6).toNatClampNeg) ((gI (pI (pI m (gR m a_0 8) ((gI m a_0 6).toNatClampNeg) x_3) (gR m a_0 9) ((gI (pI m (gR m a_0 8) ((gI m a_0 6).toNatClampNeg) x_3) a_0 6).toNatClampNeg) (gI (pI m (gR m a_0 8) ((gI m a_0 6).toNatClampNeg) x_3) (gR m a_1 3) x_3.toNatClampNeg)) (gR m a_1 1) x_3.toNatClampNeg) + (1 : Int32))) (gR m a_0 11) ((gI (pI (pI (pI m (gR m a_0 8) ((gI m a_0 6).toNatClampNeg) x_3) (gR m a_0 9) ((gI (pI m (gR m a_0 8) ((gI m a_0 6).toNatClampNeg) x_3) a_0 6).toNatClampNeg) (gI (pI m (gR m a_0 8) ((gI m a_0 6).toNatClampNeg) x_3) (gR m a_1 3) x_3.toNatClampNeg)) (gR m a_0 10) ((gI (pI (pI m (gR m a_0 8) ((gI m a_0 6).toNatClampNeg) x_3) (gR m a_0 9) ((gI (pI m (gR m a_0 8) ((gI m a_0 6).toNatClampNeg) x_3) a_0 6).toNatClampNeg) (gI (pI m (gR m a_0 8) ((gI m a_0 6).toNatClampNeg) x_3) (gR m a_1 3) x_3.toNatClampNeg)) a_0 6).toNatClampNeg) ((gI (pI (pI m (gR m a_0 8) ((gI m a_0 6).toNatClampNeg) x_3) (gR m a_0 9) ((gI (pI m (gR m a_0 8) ((gI m a_0 6).toNatClampNeg) x_3) a_0 6).toNatClampNeg) (gI (pI m (gR m a_0 8) ((gI m a_0 6).toNatClampNeg) x_3) (gR m a_1 3) x_3.toNatClampNeg)) (gR m a_1 1) x_3.toNatClampNeg) + (1 : Int32))) a_0 6).toNatClampNeg) (gI (pI (pI (pI m (gR m a_0 8) ((gI m a_0 6).toNatClampNeg) x_3) (gR m a_0 9) ((gI (pI m (gR m a_0 8) ((gI m a_0 6).toNatClampNeg) x_3) a_0 6).toNatClampNeg) (gI (pI m (gR m a_0 8) ((gI m a_0 6).toNatClampNeg) x_3) (gR m a_1 3) x_3.toNatClampNeg)) (gR m a_0 10) ((gI (pI (pI m (gR m a_0 8) ((gI m a_0 6).toNatClampNeg) x_3) (gR m a_0 9) ((gI (pI m (gR m a_0 8) ((gI m a_0 6).toNatClampNeg) x_3) a_0 6).toNatClampNeg) (gI (pI m (gR m a_0 8) ((gI m a_0 6).toNatClampNeg) x_3) (gR m a_1 3) x_3.toNatClampNeg)) a_0 6).toNatClampNeg) ((gI (pI (pI m (gR m a_0 8) ((gI m a_0 6).toNatClampNeg) x_3) (gR m a_0 9) ((gI (pI m (gR m a_0 8) ((gI m a_0 6).toNatClampNeg) x_3) a_0 6).toNatClampNeg) (gI (pI m (gR m a_0 8) ((gI m a_0 6).toNatClampNeg) x_3) (gR m a_1 3) x_3.toNatClampNeg)) (gR m a_1 1) x_3.toNatClampNeg) + (1 : Int32))) a_0 7)) a_0 7 ((gI (pI (pI (pI (pI m (gR m a_0 8) ((gI m a_0 6).toNatClampNeg) x_3) (gR m a_0 9) ((gI (pI m (gR m a_0 8) ((gI m a_0 6).toNatClampNeg) x_3) a_0 6).toNatClampNeg) (gI (pI m (gR m a_0 8) ((gI m a_0 6).toNatClampNeg) x_3) (gR m a_1 3) x_3.toNatClampNeg)) (gR m a_0 10) ((gI (pI (pI m (gR m a_0 8) ((gI m a_0 6).toNatClampNeg) x_3) (gR m a_0 9) ((gI (pI m (gR m a_0 8) ((gI m a_0 6).toNatClampNeg) x_3) a_0 6).toNatClampNeg) (gI (pI m (gR m a_0 8) ((gI m a_0 6).toNatClampNeg) x_3) (gR m a_1 3) x_3.toNatClampNeg)) a_0 6).toNatClampNeg) ((gI (pI (pI m (gR m a_0 8) ((gI m a_0 6).toNatClampNeg) x_3) (gR m a_0 9) ((gI (pI m (gR m a_0 8) ((gI m a_0 6).toNatClampNeg) x_3) a_0 6).toNatClampNeg) (gI (pI m (gR m a_0 8) ((gI m a_0 6).toNatClampNeg) x_3) (gR m a_1 3) x_3.toNatClampNeg)) (gR m a_1 1) x_3.toNatClampNeg) + (1 : Int32))) (gR m a_0 11) ((gI (pI (pI (pI m (gR m a_0 8) ((gI m a_0 6).toNatClampNeg) x_3) (gR m a_0 9) ((gI (pI m (gR m a_0 8) ((gI m a_0 6).toNatClampNeg) x_3) a_0 6).toNatClampNeg) (gI (pI m (gR m a_0 8) ((gI m a_0 6).toNatClampNeg) x_3) (gR m a_1 3) x_3.toNatClampNeg)) (gR m a_0 10) ((gI (pI (pI m (gR m a_0 8) ((gI m a_0 6).toNatClampNeg) x_3) (gR m a_0 9) ((gI (pI m (gR m a_0 8) ((gI m a_0 6).toNatClampNeg) x_3) a_0 6).toNatClampNeg) (gI (pI m (gR m a_0 8) ((gI m a_0 6).toNatClampNeg) x_3) (gR m a_1 3) x_3.toNatClampNeg)) a_0 6).toNatClampNeg) ((gI (pI (pI m (gR m a_0 8) ((gI m a_0 6).toNatClampNeg) x_3) (gR m a_0 9) ((gI (pI m (gR m a_0 8) ((gI m a_0 6).toNatClampNeg) x_3) a_0 6).toNatClampNeg) (gI (pI m (gR m a_0 8) ((gI m a_0 6).toNatClampNeg) x_3) (gR m a_1 3) x_3.toNatClampNeg)) (gR m a_1 1) x_3.toNatClampNeg) + (1 : Int32))) a_0 6).toNatClampNeg) (gI (pI (pI (pI m (gR m a_0 8) ((gI m a_0 6).toNatClampNeg) x_3) (gR m a_0 9) ((gI (pI m (gR m a_0 8) ((gI m a_0 6).toNatClampNeg) x_3) a_0 6).toNatClampNeg) (gI (pI m (gR m a_0 8) ((gI m a_0 6).toNatClampNeg) x_3) (gR m a_1 3) x_3.toNatClampNeg)) (gR m a_0 10) ((gI (pI (pI m (gR m a_0 8) ((gI m a_0 6).toNatClampNeg) x_3) (gR m a_0 9) ((gI (pI m (gR m a_0 8) ((gI m a_0 6).toNatClampNeg) x_3) a_0 6).toNatClampNeg) (gI (pI m (gR m a_0 8) ((gI m a_0 6).toNatClampNeg) x_3) (gR m a_1 3) x_3.toNatClampNeg)) a_0 6).toNatClampNeg) ((gI (pI (pI m (gR m a_0 8) ((gI m a_0 6).toNatClampNeg) x_3) (gR m a_0 9) ((gI (pI m (gR m a_0 8) ((gI m a_0 6).toNatClampNeg) x_3) a_0 6).toNatClampNeg) (gI (pI m (gR m a_0 8) ((gI m a_0 6).toNatClampNeg) x_3) (gR m a_1 3) x_3.toNatClampNeg)) (gR m a_1 1) x_3.toNatClampNeg) + (1 : Int32))) a_0 7)) a_0 7) * (gI (pI (pI (pI (pI m (gR m a_0 8) ((gI m a_0 6).toNatClampNeg) x_3) (gR m a_0 9) ((gI (pI m (gR m a_0 8) ((gI m a_0 6).toNatClampNeg) x_3) a_0 6).toNatClampNeg) (gI (pI m (gR m a_0 8) ((gI m a_0 6).toNatClampNeg) x_3) (gR m a_1 3) x_3.toNatClampNeg)) (gR m a_0 10) ((gI (pI (pI m (gR m a_0 8) ((gI m a_0 6).toNatClampNeg) x_3) (gR m a_0 9) ((gI (pI m (gR m a_0 8) ((gI m a_0 6).toNatClampNeg) x_3) a_0 6).toNatClampNeg) (gI (pI m (gR m a_0 8) ((gI m a_0 6).toNatClampNeg) x_3) (gR m a_1 3) x_3.toNatClampNeg)) a_0 6).toNatClampNeg) ((gI (pI (pI m (gR m a_0 8) ((gI m a_0 6).toNatClampNeg) x_3) (gR m a_0 9) ((gI (pI m (gR m a_0 8) ((gI m a_0 6).toNatClampNeg) x_3) a_0 6).toNatClampNeg) (gI (pI m (gR m a_0 8) ((gI m a_0 6).toNatClampNeg) x_3) (gR m a_1 3) x_3.toNatClampNeg)) (gR m a_1 1) x_3.toNatClampNeg) + (1 : Int32))) (gR m a_0 11) ((gI (pI (pI (pI m (gR m a_0 8) ((gI m a_0 6).toNatClampNeg) x_3) (gR m a_0 9) ((gI (pI m (gR m a_0 8) ((gI m a_0 6).toNatClampNeg) x_3) a_0 6).toNatClampNeg) (gI (pI m (gR m a_0 8) ((gI m a_0 6).toNatClampNeg) x_3) (gR m a_1 3) x_3.toNatClampNeg)) (gR m a_0 10) ((gI (pI (pI m (gR m a_0 8) ((gI m a_0 6).toNatClampNeg) x_3) (gR m a_0 9) ((gI (pI m (gR m a_0 8) ((gI m a_0 6).toNatClampNeg) x_3) a_0 6).toNatClampNeg) (gI (pI m (gR m a_0 8) ((gI m a_0 6).toNatClampNeg) x_3) (gR m a_1 3) x_3.toNatClampNeg)) a_0 6).toNatClampNeg) ((gI (pI (pI m (gR m a_0 8) ((gI m a_0 6).toNatClampNeg) x_3) (gR m a_0 9) ((gI (pI m (gR m a_0 8) ((gI m a_0 6).toNatClampNeg) x_3) a_0 6).toNatClampNeg) (gI (pI m (gR m a_0 8) ((gI m a_0 6).toNatClampNeg) x_3) (gR m a_1 3) x_3.toNatClampNeg)) (gR m a_1 1) x_3.toNatClampNeg) + (1 : Int32))) a_0 6).toNatClampNeg) (gI (pI (pI (pI m (gR m a_0 8) ((gI m a_0 6).toNatClampNeg) x_3) (gR m a_0 9) ((gI (pI m (gR m a_0 8) ((gI m a_0 6).toNatClampNeg) x_3) a_0 6).toNatClampNeg) (gI (pI m (gR m a_0 8) ((gI m a_0 6).toNatClampNeg) x_3) (gR m a_1 3) x_3.toNatClampNeg)) (gR m a_0 10) ((gI (pI (pI m (gR m a_0 8) ((gI m a_0 6).toNatClampNeg) x_3) (gR m a_0 9) ((gI (pI m (gR m a_0 8) ((gI m a_0 6).toNatClampNeg) x_3) a_0 6).toNatClampNeg) (gI (pI m (gR m a_0 8) ((gI m a_0 6).toNatClampNeg) x_3) (gR m a_1 3) x_3.toNatClampNeg)) a_0 6).toNatClampNeg) ((gI (pI (pI m (gR m a_0 8) ((gI m a_0 6).toNatClampNeg) x_3) (gR m a_0 9) ((gI (pI m (gR m a_0 8) ((gI m a_0 6).toNatClampNeg) x_3) a_0 6).toNatClampNeg) (gI (pI m (gR m a_0 8) ((gI m a_0 6).toNatClampNeg) x_3) (gR m a_1 3) x_3.toNatClampNeg)) (gR m a_1 1) x_3.toNatClampNeg) + (1 : Int32))) a_0 7)) (gR m a_0 10) ((gI (pI (pI (pI (pI m (gR m a_0 8) ((gI m a_0 6).toNatClampNeg) x_3) (gR m a_0 9) ((gI (pI m (gR m a_0 8) ((gI m a_0 6).toNatClampNeg) x_3) a_0 6).toNatClampNeg) (gI (pI m (gR m a_0 8) ((gI m a_0 6).toNatClampNeg) x_3) (gR m a_1 3) x_3.toNatClampNeg)) (gR m a_0 10) ((gI (pI (pI m (gR m a_0 8) ((gI m a_0 6).toNatClampNeg) x_3) (gR m a_0 9) ((gI (pI m (gR m a_0 8) ((gI m a_0 6).toNatClampNeg) x_3) a_0 6).toNatClampNeg) (gI (pI m (gR m a_0 8) ((gI m a_0 6).toNatClampNeg) x_3) (gR m a_1 3) x_3.toNatClampNeg)) a_0 6).toNatClampNeg) ((gI (pI (pI m (gR m a_0 8) ((gI m a_0 6).toNatClampNeg) x_3) (gR m a_0 9) ((gI (pI m (gR m a_0 8) ((gI m a_0 6).toNatClampNeg) x_3) a_0 6).toNatClampNeg) (gI (pI m (gR m a_0 8) ((gI m a_0 6).toNatClampNeg) x_3) (gR m a_1 3) x_3.toNatClampNeg)) (gR m a_1 1) x_3.toNatClampNeg) + (1 : Int32))) (gR m a_0 11) ((gI (pI (pI (pI m (gR m a_0 8) ((gI m a_0 6).toNatClampNeg) x_3) (gR m a_0 9) ((gI (pI m (gR m a_0 8) ((gI m a_0 6).toNatClampNeg) x_3) a_0 6).toNatClampNeg) (gI (pI m (gR m a_0 8) ((gI m a_0 6).toNatClampNeg) x_3) (gR m a_1 3) x_3.toNatClampNeg)) (gR m a_0 10) ((gI (pI (pI m (gR m a_0 8) ((gI m a_0 6).toNatClampNeg) x_3) (gR m a_0 9) ((gI (pI m (gR m a_0 8) ((gI m a_0 6).toNatClampNeg) x_3) a_0 6).toNatClampNeg) (gI (pI m (gR m a_0 8) ((gI m a_0 6).toNatClampNeg) x_3) (gR m a_1 3) x_3.toNatClampNeg)) a_0 6).toNatClampNeg) ((gI (pI (pI m (gR m a_0 8) ((gI m a_0 6).toNatClampNeg) x_3) (gR m a_0 9) ((gI (pI m (gR m a_0 8) ((gI m a_0 6).toNatClampNeg) x_3) a_0 6).toNatClampNeg) (gI (pI m (gR m a_0 8) ((gI m a_0 6).toNatClampNeg) x_3) (gR m a_1 3) x_3.toNatClampNeg)) (gR m a_1 1) x_3.toNatClampNeg) + (1 : Int32))) a_0 6).toNatClampNeg) (gI (pI (pI (pI m (gR m a_0 8) ((gI m a_0 6).toNatClampNeg) x_3) (gR m a_0 9) ((gI (pI m (gR m a_0 8) ((gI m a_0 6).toNatClampNeg) x_3) a_0 6).toNatClampNeg) (gI (pI m (gR m a_0 8) ((gI m a_0 6).toNatClampNeg) x_3) (gR m a_1 3) x_3.toNatClampNeg)) (gR m a_0 10) ((gI (pI (pI m (gR m a_0 8) ((gI m a_0 6).toNatClampNeg) x_3) (gR m a_0 9) ((gI (pI m (gR m a_0 8) ((gI m a_0 6).toNatClampNeg) x_3) a_0 6).toNatClampNeg) (gI (pI m (gR m a_0 8) ((gI m a_0 6).toNatClampNeg) x_3) (gR m a_1 3) x_3.toNatClampNeg)) a_0 6).toNatClampNeg) ((gI (pI (pI m (gR m a_0 8) ((gI m a_0 6).toNatClampNeg) x_3) (gR m a_0 9) ((gI (pI m (gR m a_0 8) ((gI m a_0 6).toNatClampNeg) x_3) a_0 6).toNatClampNeg) (gI (pI m (gR m a_0 8) ((gI m a_0 6).toNatClampNeg) x_3) (gR m a_1 3) x_3.toNatClampNeg)) (gR m a_1 1) x_3.toNatClampNeg) + (1 : Int32))) a_0 7)) a_0 6).toNatClampNeg)))) a_0 6 ((gI (pI (pI (pI (pI (pI m (gR m a_0 8) ((gI m a_0 6).toNatClampNeg) x_3) (gR m a_0 9) ((gI (pI m (gR m a_0 8) ((gI m a_0 6).toNatClampNeg) x_3) a_0 6).toNatClampNeg) (gI (pI m (gR m a_0 8) ((gI m a_0 6).toNatClampNeg) x_3) (gR m a_1 3) x_3.toNatClampNeg)) (gR m a_0 10) ((gI (pI (pI m (gR m a_0 8) ((gI m a_0 6).toNatClampNeg) x_3) (gR m a_0 9) ((gI (pI m (gR m a_0 8) ((gI m a_0 6).toNatClampNeg) x_3) a_0 6).toNatClampNeg) (gI (pI m (gR m a_0 8) ((gI m a_0 6).toNatClampNeg) x_3) (gR m a_1 3) x_3.toNatClampNeg)) a_0 6).toNatClampNeg) ((gI (pI (pI m (gR m a_0 8) ((gI m a_0 6).toNatClampNeg) x_3) (gR m a_0 9) ((gI (pI m (gR m a_0 8) ((gI m a_0 6).toNatClampNeg) x_3) a_0 6).toNatClampNeg) (gI (pI m (gR m a_0 8) ((gI m a_0 6).toNatClampNeg) x_3) (gR m a_1 3) x_3.toNatClampNeg)) (gR m a_1 1) x_3.toNatClampNeg) + (1 : Int32))) (gR m a_0 11) ((gI (pI (pI (pI m (gR m a_0 8) ((gI m a_0 6).toNatClampNeg) x_3) (gR m a_0 9) ((gI (pI m (gR m a_0 8) ((gI m a_0 6).toNatClampNeg) x_3) a_0 6).toNatClampNeg) (gI (pI m (gR m a_0 8) ((gI m a_0 6).toNatClampNeg) x_3) (gR m a_1 3) x_3.toNatClampNeg)) (gR m a_0 10) ((gI (pI (pI m (gR m a_0 8) ((gI m a_0 6).toNatClampNeg) x_3) (gR m a_0 9) ((gI (pI m (gR m a_0 8) ((gI m a_0 6).toNatClampNeg) x_3) a_0 6).toNatClampNeg) (gI (pI m (gR m a_0 8) ((gI m a_0 6).toNatClampNeg) x_3) (gR m a_1 3) x_3.toNatClampNeg)) a_0 6).toNatClampNeg) ((gI (pI (pI m (gR m a_0 8) ((gI m a_0 6).toNatClampNeg) x_3) (gR m a_0 9) ((gI (pI m (gR m a_0 8) ((gI m a_0 6).toNatClampNeg) x_3) a_0 6).toNatClampNeg) (gI (pI m (gR m a_0 8) ((gI m a_0 6).toNatClampNeg) x_3) (gR m a_1 3) x_3.toNatClampNeg)) (gR m a_1 1) x_3.toNatClampNeg) + (1 : Int32))) a_0 6).toNatClampNeg) (gI (pI (pI (pI m (gR m a_0 8) ((gI m a_0 6).toNatClampNeg) x_3) (gR m a_0 9) ((gI (pI m (gR m a_0 8) ((gI m a_0 6).toNatClampNeg) x_3) a_0 6).toNatClampNeg) (gI (pI m (gR m a_0 8) ((gI m a_0 6).toNatClampNeg) x_3) (gR m a_1 3) x_3.toNatClampNeg)) (gR m a_0 10) ((gI (pI (pI m (gR m a_0 8) ((gI m a_0 6).toNatClampNeg) x_3) (gR m a_0 9) ((gI (pI m (gR m a_0 8) ((gI m a_0 6).toNatClampNeg) x_3) a_0 6).toNatClampNeg) (gI (pI m (gR m a_0 8) ((gI m a_0 6).toNatClampNeg) x_3) (gR m a_1 3) x_3.toNatClampNeg)) a_0 6).toNatClampNeg) ((gI (pI (pI m (gR m a_0 8) ((gI m a_0 6).toNatClampNeg) x_3) (gR m a_0 9) ((gI (pI m (gR m a_0 8) ((gI m a_0 6).toNatClampNeg) x_3) a_0 6).toNatClampNeg) (gI (pI m (gR m a_0 8) ((gI m a_0 6).toNatClampNeg) x_3) (gR m a_1 3) x_3.toNatClampNeg)) (gR m a_1 1) x_3.toNatClampNeg) + (1 : Int32))) a_0 7)) a_0 7 ((gI (pI (pI (pI (pI m (gR m a_0 8) ((gI m a_0 6).toNatClampNeg) x_3) (gR m a_0 9) ((gI (pI m (gR m a_0 8) ((gI m a_0 6).toNatClampNeg) x_3) a_0 6).toNatClampNeg) (gI (pI m (gR m a_0 8) ((gI m a_0 6).toNatClampNeg) x_3) (gR m a_1 3) x_3.toNatClampNeg)) (gR m a_0 10) ((gI (pI (pI m (gR m a_0 8) ((gI m a_0 6).toNatClampNeg) x_3) (gR m a_0 9) ((gI (pI m (gR m a_0 8) ((gI m a_0 6).toNatClampNeg) x_3) a_0 6).toNatClampNeg) (gI (pI m (gR m a_0 8) ((gI m a_0 6).toNatClampNeg) x_3) (gR m a_1 3) x_3.toNatClampNeg)) a_0 6).toNatClampNeg) ((gI (pI (pI m (gR m a_0 8) ((gI m a_0 6).toNatClampNeg) x_3) (gR m a_0 9) ((gI (pI m (gR m a_0 8) ((gI m a_0 6).toNatClampNeg) x_3) a_0 6).toNatClampNeg) (gI (pI m (gR m a_0 8) ((gI m a_0 6).toNatClampNeg) x_3) (gR m a_1 3) x_3.toNatClampNeg)) (gR m a_1 1) x_3.toNatClampNeg) + (1 : Int32))) (gR m a_0 11) ((gI (pI (pI (pI m (gR m a_0 8) ((gI m a_0 6).toNatClampNeg) x_3) (gR m a_0 9) ((gI (pI m (gR m a_0 8) ((gI m a_0 6).toNatClampNeg) x_3) a_0 6).toNatClampNeg) (gI (pI m (gR m a_0 8) ((gI m a_0 6).toNatClampNeg) x_3) (gR m a_1 3) x_3.toNatClampNeg)) (gR m a_0 10) ((gI (pI (pI m (gR m a_0 8) ((gI m a_0 6).toNatClampNeg) x_3) (gR m a_0 9) ((gI (pI m (gR m a_0 8) ((gI m a_0 6).toNatClampNeg) x_3) a_0 6).toNatClampNeg) (gI (pI m (gR m a_0 8) ((gI m a_0 6).toNatClampNeg) x_3) (gR m a_1 3) x_3.toNatClampNeg)) a_0 6).toNatClampNeg) ((gI (pI (pI m (gR m a_0 8) ((gI m a_0 6).toNatClampNeg) x_3) (gR m a_0 9) ((gI (pI m (gR m a_0 8) ((gI m a_0 6).toNatClampNeg) x_3) a_0 6).toNatClampNeg) (gI (pI m (gR m a_0 8) ((gI m a_0 6).toNatClampNeg) x_3) (gR m a_1 3) x_3.toNatClampNeg)) (gR m a_1 1) x_3.toNatClampNeg) + (1 : Int32))) a_0 6).toNatClampNeg) (gI (pI (pI (pI m (gR m a_0 8) ((gI m a_0 6).toNatClampNeg) x_3) (gR m a_0 9) ((gI (pI m (gR m a_0 8) ((gI m a_0 6).toNatClampNeg) x_3) a_0 6).toNatClampNeg) (gI (pI m (gR m a_0 8) ((gI m a_0 6).toNatClampNeg) x_3) (gR m a_1 3) x_3.toNatClampNeg)) (gR m a_0 10) ((gI (pI (pI m (gR m a_0 8) ((gI m a_0 6).toNatClampNeg) x_3) (gR m a_0 9) ((gI (pI m (gR m a_0 8) ((gI m a_0 6).toNatClampNeg) x_3) a_0 6).toNatClampNeg) (gI (pI m (gR m a_0 8) ((gI m a_0 6).toNatClampNeg) x_3) (gR m a_1 3) x_3.toNatClampNeg)) a_0 6).toNatClampNeg) ((gI (pI (pI m (gR m a_0 8) ((gI m a_0 6).toNatClampNeg) x_3) (gR m a_0 9) ((gI (pI m (gR m a_0 8) ((gI m a_0 6).toNatClampNeg) x_3) a_0 6).toNatClampNeg) (gI (pI m (gR m a_0 8) ((gI m a_0 6).toNatClampNeg) x_3) (gR m a_1 3) x_3.toNatClampNeg)) (gR m a_1 1) x_3.toNatClampNeg) + (1 : Int32))) a_0 7)) a_0 7) * (gI (pI (pI (pI (pI m (gR m a_0 8) ((gI m a_0 6).toNatClampNeg) x_3) (gR m a_0 9) ((gI (pI m (gR m a_0 8) ((gI m a_0 6).toNatClampNeg) x_3) a_0 6).toNatClampNeg) (gI (pI m (gR m a_0 8) ((gI m a_0 6).toNatClampNeg) x_3) (gR m a_1 3) x_3.toNatClampNeg)) (gR m a_0 10) ((gI (pI (pI m (gR m a_0 8) ((gI m a_0 6).toNatClampNeg) x_3) (gR m a_0 9) ((gI (pI m (gR m a_0 8) ((gI m a_0 6).toNatClampNeg) x_3) a_0 6).toNatClampNeg) (gI (pI m (gR m a_0 8) ((gI m a_0 6).toNatClampNeg) x_3) (gR m a_1 3) x_3.toNatClampNeg)) a_0 6).toNatClampNeg) ((gI (pI (pI m (gR m a_0 8) ((gI m a_0 6).toNatClampNeg) x_3) (gR m a_0 9) ((gI (pI m (gR m a_0 8) ((gI m a_0 6).toNatClampNeg) x_3) a_0 6).toNatClampNeg) (gI (pI m (gR m a_0 8) ((gI m a_0 6).toNatClampNeg) x_3) (gR m a_1 3) x_3.toNatClampNeg)) (gR m a_1 1) x_3.toNatClampNeg) + (1 : Int32))) (gR m a_0 11) ((gI (pI (pI (pI m (gR m a_0 8) ((gI m a_0 6).toNatClampNeg) x_3) (gR m a_0 9) ((gI (pI m (gR m a_0 8) ((gI m a_0 6).toNatClampNeg) x_3) a_0 6).toNatClampNeg) (gI (pI m (gR m a_0 8) ((gI m a_0 6).toNatClampNeg) x_3) (gR m a_1 3) x_3.toNatClampNeg)) (gR m a_0 10) ((gI (pI (pI m (gR m a_0 8) ((gI m a_0 6).toNatClampNeg) x_3) (gR m a_0 9) ((gI (pI m (gR m a_0 8) ((gI m a_0 6).toNatClampNeg) x_3) a_0 6).toNatClampNeg) (gI (pI m (gR m a_0 8) ((gI m a_0 6).toNatClampNeg) x_3) (gR m a_1 3) x_3.toNatClampNeg)) a_0 6).toNatClampNeg) ((gI (pI (pI m (gR m a_0 8) ((gI m a_0 6).toNatClampNeg) x_3) (gR m a_0 9) ((gI (pI m (gR m a_0 8) ((gI m a_0 6).toNatClampNeg) x_3) a_0 6).toNatClampNeg) (gI (pI m (gR m a_0 8) ((gI m a_0 6).toNatClampNeg) x_3) (gR m a_1 3) x_3.toNatClampNeg)) (gR m a_1 1) x_3.toNatClampNeg) + (1 : Int32))) a_0 6).toNatClampNeg) (gI (pI (pI (pI m (gR m a_0 8) ((gI m a_0 6).toNatClampNeg) x_3) (gR m a_0 9) ((gI (pI m (gR m a_0 8) ((gI m a_0 6).toNatClampNeg) x_3) a_0 6).toNatClampNeg) (gI (pI m (gR m a_0 8) ((gI m a_0 6).toNatClampNeg) x_3) (gR m a_1 3) x_3.toNatClampNeg)) (gR m a_0 10) ((gI (pI (pI m (gR m a_0 8) ((gI m a_0 6).toNatClampNeg) x_3) (gR m a_0 9) ((gI (pI m (gR m a_0 8) ((gI m a_0 6).toNatClampNeg) x_3) a_0 6).toNatClampNeg) (gI (pI m (gR m a_0 8) ((gI m a_0 6).toNatClampNeg) x_3) (gR m a_1 3) x_3.toNatClampNeg)) a_0 6).toNatClampNeg) ((gI (pI (pI m (gR m a_0 8) ((gI m a_0 6).toNatClampNeg) x_3) (gR m a_0 9) ((gI (pI m (gR m a_0 8) ((gI m a_0 6).toNatClampNeg) x_3) a_0 6).toNatClampNeg) (gI (pI m (gR m a_0 8) ((gI m a_0 6).toNatClampNeg) x_3) (gR m a_1 3) x_3.toNatClampNeg)) (gR m a_1 1) x_3.toNatClampNeg) + (1 : Int32))) a_0 7)) (gR m a_0 10) ((gI (pI (pI (pI (pI m (gR m a_0 8) ((gI m a_0 6).toNatClampNeg) x_3) (gR m a_0 9) ((gI (pI m (gR m a_0 8) ((gI m a_0 6).toNatClampNeg) x_3) a_0 6).toNatClampNeg) (gI (pI m (gR m a_0 8) ((gI m a_0 6).toNatClampNeg) x_3) (gR m a_1 3) x_3.toNatClampNeg)) (gR m a_0 10) ((gI (pI (pI m (gR m a_0 8) ((gI m a_0 6).toNatClampNeg) x_3) (gR m a_0 9) ((gI (pI m (gR m a_0 8) ((gI m a_0 6).toNatClampNeg) x_3) a_0 6).toNatClampNeg) (gI (pI m (gR m a_0 8) ((gI m a_0 6).toNatClampNeg) x_3) (gR m a_1 3) x_3.toNatClampNeg)) a_0 6).toNatClampNeg) ((gI (pI (pI m (gR m a_0 8) ((gI m a_0 6).toNatClampNeg) x_3) (gR m a_0 9) ((gI (pI m (gR m a_0 8) ((gI m a_0 6).toNatClampNeg) x_3) a_0 6).toNatClampNeg) (gI (pI m (gR m a_0 8) ((gI m a_0 6).toNatClampNeg) x_3) (gR m a_1 3) x_3.toNatClampNeg)) (gR m a_1 1) x_3.toNatClampNeg) + (1 : Int32))) (gR m a_0 11) ((gI (pI (pI (pI m (gR m a_0 8) ((gI m a_0 6).toNatClampNeg) x_3) (gR m a_0 9) ((gI (pI m (gR m a_0 8) ((gI m a_0 6).toNatClampNeg) x_3) a_0 6).toNatClampNeg) (gI (pI m (gR m a_0 8) ((gI m a_0 6).toNatClampNeg) x_3) (gR m a_1 3) x_3.toNatClampNeg)) (gR m a_0 10) ((gI (pI (pI m (gR m a_0 8) ((gI m a_0 6).toNatClampNeg) x_3) (gR m a_0 9) ((gI (pI m (gR m a_0 8) ((gI m a_0 6).toNatClampNeg) x_3) a_0 6).toNatClampNeg) (gI (pI m (gR m a_0 8) ((gI m a_0 6).toNatClampNeg) x_3) (gR m a_1 3) x_3.toNatClampNeg)) a_0 6).toNatClampNeg) ((gI (pI (pI m (gR m a_0 8) ((gI m a_0 6).toNatClampNeg) x_3) (gR m a_0 9) ((gI (pI m (gR m a_0 8) ((gI m a_0 6).toNatClampNeg) x_3) a_0 6).toNatClampNeg) (gI (pI m (gR m a_0 8) ((gI m a_0 6).toNatClampNeg) x_3) (gR m a_1 3) x_3.toNatClampNeg)) (gR m a_1 1) x_3.toNatClampNeg) + (1 : Int32))) a_0 6).toNatClampNeg) (gI (pI (pI (pI m (gR m a_0 8) ((gI m a_0 6).toNatClampNeg) x_3) (gR m a_0 9) ((gI (pI m (gR m a_0 8) ((gI m a_0 6).toNatClampNeg) x_3) a_0 6).toNatClampNeg) (gI (pI m (gR m a_0 8) ((gI m a_0 6).toNatClampNeg) x_3) (gR m a_1 3) x_3.toNatClampNeg)) (gR m a_0 10) ((gI (pI (pI m (gR m a_0 8) ((gI m a_0 6).toNatClampNeg) x_3) (gR m a_0 9) ((gI (pI m (gR m a_0 8) ((gI m a_0 6).toNatClampNeg) x_3) a_0 6).toNatClampNeg) (gI (pI m (gR m a_0 8) ((gI m a_0 6).toNatClampNeg) x_3) (gR m a_1 3) x_3.toNatClampNeg)) a_0 6).toNatClampNeg) ((gI (pI (pI m (gR m a_0 8) ((gI m a_0 6).toNatClampNeg) x_3) (gR m a_0 9) ((gI (pI m (gR m a_0 8) ((gI m a_0 6).toNatClampNeg) x_3) a_0 6).toNatClampNeg) (gI (pI m (gR m a_0 8) ((gI m a_0 6).toNatClampNeg) x_3) (gR m a_1 3) x_3.toNatClampNeg)) (gR m a_1 1) x_3.toNatClampNeg) + (1 : Int32))) a_0 7)) a_0 6).toNatClampNeg)))) a_0 6) + (1 : Int32))) a_0 a_1 x_2 x_3 Q (wX1_layOut_L12 t a_0 a_1 x_2 Q k126 n))))))))))))))) ∧ (¬ ((x_2 >>> (x_3 &&& 31)) &&& (1 : Int32)) = 0 → (wX1_layOut_J120 t m a_0 a_1 x_2 x_3 Q (wX1_layOut_L12 t a_0 a_1 x_2 Q k126 n)))))))))))
set_option maxHeartbeats 4000000 in
set_option maxRecDepth 20000 in
theorem sX1_layOut_L12 {p : Program} {l : Launch} {e : Env} {s : State} {mt : MethodId} {args : Array Value} {below : List Frame} {meth : Method} {c : Code} {g : zG} {u : Nat × Nat} {mc ms : Nat} {t : zT} {a_0 : Nat} {a_1 : Nat} {x_2 : Int32} {Q : zM → Prop} {k126 : zM → Prop} (C : zC p (zRm 0 mc ms) s mt args meth c g cX1_layOut 4 yX1_layOut.cls 0) (hr : meth.sig.returnType = none) (hm : meth.name = yX1_layOut.name) (hu1 : u.1 ≤ mc) (hu2 : u.2 ≤ ms)
    (K126 : ∀ (m : zM), k126 m → zW p l e (zRm 0 mc ms) s mt args below meth c g (MQ below (zQc g (zPv t Q)) args s mc ms (zFar g)) u 4 t m 126 [] []) : ∀ (n : Nat) (x_3 : Int32) (m : zM), wX1_layOut_L12 t a_0 a_1 x_2 Q k126 n x_3 m → zW p l e (zRm 0 mc ms) s mt args below meth c g (MQ below (zQc g (zPv t Q)) args s mc ms (zFar g)) u 4 t m 12 [(0, .ref a_0), (1, .ref a_1), (2, .int x_2), (3, .int x_3)] [] := by
  intro n
  induction n with
  | zero => intro x_3 m H; exact H.elim
  | succ n ih =>
    intro x_3 m H
    simp only [wX1_layOut_L12] at H
    refine z_iload_n (pc := 12) C (dX1_layOut 8 rfl) rfl 3 rfl ?_
    refine z_aload_n (pc := 13) C (dX1_layOut 9 rfl) rfl 1 rfl ?_
    obtain ⟨h2, H⟩ := H
    refine z_getI (pc := 14) C zc5 h2 0 (by decide) rfl wf_X1_74 (dX1_layOut 10 rfl) ?_
    refine z_icmp_ge (pc := 17) (tgt := 126) C (dX1_layOut 11 rfl) (by decide) (fun c3 => ?_) (fun c3 => ?_)
    · replace H := H.1 c3
      refine z_sub [] rfl ?_
      exact K126 m H
    · replace H := H.2 c3
      refine z_aload_n (pc := 20) C (dX1_layOut 12 rfl) rfl 1 rfl ?_
      refine z_getR (pc := 21) C zc5 h2 3 (by decide) rfl wf_X1_79 (dX1_layOut 13 rfl) ?_
      refine z_iload_n (pc := 24) C (dX1_layOut 14 rfl) rfl 3 rfl ?_
      obtain ⟨h4, H⟩ := H
      obtain ⟨h5, H⟩ := H
      refine z_iaload (pc := 25) C h4 h5 (dX1_layOut 15 rfl) ?_
      refine z_if_le (pc := 26) (tgt := 120) C (dX1_layOut 16 rfl) (by decide) (fun c6 => ?_) (fun c6 => ?_)
      · replace H := H.1 c6
        refine z_sub [0, 1, 2, 3] rfl ?_
        exact sX1_layOut_J120 C hr hm hu1 hu2 ih H
      · replace H := H.2 c6
        refine z_iload_n (pc := 29) C (dX1_layOut 17 rfl) rfl 2 rfl ?_
        refine z_iload_n (pc := 30) C (dX1_layOut 18 rfl) rfl 3 rfl ?_
        refine z_ishr (pc := 31) C (dX1_layOut 19 rfl) ?_
        refine z_iconst (pc := 32) (v := 1) C (dX1_layOut 20 rfl) (by decide) ?_
        refine z_iand (pc := 33) C (dX1_layOut 21 rfl) ?_
        refine z_if_ne (pc := 34) (tgt := 120) C (dX1_layOut 22 rfl) (by decide) (fun c7 => ?_) (fun c7 => ?_)
        · replace H := H.2 c7
          refine z_sub [0, 1, 2, 3] rfl ?_
          exact sX1_layOut_J120 C hr hm hu1 hu2 ih H
        · replace H := H.1 c7
          refine z_aload_n (pc := 37) C (dX1_layOut 23 rfl) rfl 0 rfl ?_
          obtain ⟨h8, H⟩ := H
          refine z_getR (pc := 38) C zc1 h8 8 (by decide) rfl wf_X1_9 (dX1_layOut 24 rfl) ?_
          refine z_aload_n (pc := 41) C (dX1_layOut 25 rfl) rfl 0 rfl ?_
          refine z_getI (pc := 42) C zc1 h8 6 (by decide) rfl wf_X1_67 (dX1_layOut 26 rfl) ?_
          refine z_iload_n (pc := 45) C (dX1_layOut 27 rfl) rfl 3 rfl ?_
          obtain ⟨h9, H⟩ := H
          obtain ⟨h10, H⟩ := H
          refine z_iastore (pc := 46) C h9 h10 (dX1_layOut 28 rfl) ?_
          refine z_aload_n (pc := 47) C (dX1_layOut 29 rfl) rfl 0 rfl ?_
          refine z_getR (pc := 48) C zc1 h8 9 (by decide) rfl wf_X1_15 (dX1_layOut 30 rfl) ?_
          refine z_aload_n (pc := 51) C (dX1_layOut 31 rfl) rfl 0 rfl ?_
          refine z_getI (pc := 52) C zc1 h8 6 (by decide) rfl wf_X1_67 (dX1_layOut 32 rfl) ?_
          refine z_aload_n (pc := 55) C (dX1_layOut 33 rfl) rfl 1 rfl ?_
          refine z_getR (pc := 56) C zc5 h2 3 (by decide) rfl wf_X1_79 (dX1_layOut 34 rfl) ?_
          refine z_iload_n (pc := 59) C (dX1_layOut 35 rfl) rfl 3 rfl ?_
          refine z_iaload (pc := 60) C h4 h5 (dX1_layOut 36 rfl) ?_
          obtain ⟨h11, H⟩ := H
          obtain ⟨h12, H⟩ := H
          refine z_iastore (pc := 61) C h11 h12 (dX1_layOut 37 rfl) ?_
          refine z_aload_n (pc := 62) C (dX1_layOut 38 rfl) rfl 0 rfl ?_
          refine z_getR (pc := 63) C zc1 h8 10 (by decide) rfl wf_X1_18 (dX1_layOut 39 rfl) ?_
          refine z_aload_n (pc := 66) C (dX1_layOut 40 rfl) rfl 0 rfl ?_
          refine z_getI (pc := 67) C zc1 h8 6 (by decide) rfl wf_X1_67 (dX1_layOut 41 rfl) ?_
          refine z_aload_n (pc := 70) C (dX1_layOut 42 rfl) rfl 1 rfl ?_
          refine z_getR (pc := 71) C zc5 h2 1 (by decide) rfl wf_X1_80 (dX1_layOut 43 rfl) ?_
          refine z_iload_n (pc := 74) C (dX1_layOut 44 rfl) rfl 3 rfl ?_
          obtain ⟨h13, H⟩ := H
          obtain ⟨h14, H⟩ := H
          refine z_iaload (pc := 75) C h13 h14 (dX1_layOut 45 rfl) ?_
          refine z_iconst (pc := 76) (v := 1) C (dX1_layOut 46 rfl) (by decide) ?_
          refine z_iadd (pc := 77) C (dX1_layOut 47 rfl) ?_
          obtain ⟨h15, H⟩ := H
          obtain ⟨h16, H⟩ := H
          refine z_iastore (pc := 78) C h15 h16 (dX1_layOut 48 rfl) ?_
          refine z_aload_n (pc := 79) C (dX1_layOut 49 rfl) rfl 0 rfl ?_
          refine z_getR (pc := 80) C zc1 h8 11 (by decide) rfl wf_X1_21 (dX1_layOut 50 rfl) ?_
          refine z_aload_n (pc := 83) C (dX1_layOut 51 rfl) rfl 0 rfl ?_
          refine z_getI (pc := 84) C zc1 h8 6 (by decide) rfl wf_X1_67 (dX1_layOut 52 rfl) ?_
          refine z_aload_n (pc := 87) C (dX1_layOut 53 rfl) rfl 0 rfl ?_
          refine z_getI (pc := 88) C zc1 h8 7 (by decide) rfl wf_X1_71 (dX1_layOut 54 rfl) ?_
          obtain ⟨h17, H⟩ := H
          obtain ⟨h18, H⟩ := H
          refine z_iastore (pc := 91) C h17 h18 (dX1_layOut 55 rfl) ?_
          refine z_aload_n (pc := 92) C (dX1_layOut 56 rfl) rfl 0 rfl ?_
          refine z_dup (pc := 93) C (dX1_layOut 57 rfl) rfl ?_
          refine z_getI (pc := 94) C zc1 h8 7 (by decide) rfl wf_X1_71 (dX1_layOut 58 rfl) ?_
          refine z_aload_n (pc := 97) C (dX1_layOut 59 rfl) rfl 0 rfl ?_
          refine z_getR (pc := 98) C zc1 h8 10 (by decide) rfl wf_X1_18 (dX1_layOut 60 rfl) ?_
          refine z_aload_n (pc := 101) C (dX1_layOut 61 rfl) rfl 0 rfl ?_
          refine z_getI (pc := 102) C zc1 h8 6 (by decide) rfl wf_X1_67 (dX1_layOut 62 rfl) ?_
          obtain ⟨h19, H⟩ := H
          refine z_iaload (pc := 105) C h15 h19 (dX1_layOut 63 rfl) ?_
          refine z_imul (pc := 106) C (dX1_layOut 64 rfl) ?_
          refine z_putI (pc := 107) C zc1 h8 7 (by decide) rfl rfl wf_X1_71 (dX1_layOut 65 rfl) ?_
          refine z_aload_n (pc := 110) C (dX1_layOut 66 rfl) rfl 0 rfl ?_
          refine z_dup (pc := 111) C (dX1_layOut 67 rfl) rfl ?_
          refine z_getI (pc := 112) C zc1 h8 6 (by decide) rfl wf_X1_67 (dX1_layOut 68 rfl) ?_
          refine z_iconst (pc := 115) (v := 1) C (dX1_layOut 69 rfl) (by decide) ?_
          refine z_iadd (pc := 116) C (dX1_layOut 70 rfl) ?_
          refine z_putI (pc := 117) C zc1 h8 6 (by decide) rfl rfl wf_X1_67 (dX1_layOut 71 rfl) ?_
          refine z_sub [0, 1, 2, 3] rfl ?_
          exact sX1_layOut_J120 C hr hm hu1 hu2 ih H
def wX1_layOut (t : zT) (m : zM) (a : Nat) (p1 : Nat) (p2 : Int32) (Q : zM → Prop) : Prop := (tK t a = 1 ∧ (∃ n21, wX1_layOut_L12 t a p1 p2 Q (fun m20 => (Q m20)) n21 0 (pI (pI m a 6 0) a 7 1)))
set_option maxHeartbeats 4000000 in
set_option maxRecDepth 20000 in
theorem kX1_layOut {l : Launch} {t : zT} {m : zM} {a : Nat} {p1 : Nat} {p2 : Int32} {Q : zM → Prop} (H : wX1_layOut t m a p1 p2 Q) : zMet l yX1_layOut cX1_layOut 4 none 0 0 0 t m [.ref a, .ref p1, .int p2] (zPv t Q) := by
  refine zmet (by decide +kernel) (Nat.le_of_ble_eq_true rfl) ?_
  intro p e s mt args below meth c g C hr hm
  unfold wX1_layOut at H
  have hu1 : ((0, 0) : Nat × Nat).1 ≤ 0 := Nat.le_refl 0
  have hu2 : ((0, 0) : Nat × Nat).2 ≤ 0 := Nat.le_refl 0
  refine z_aload_n (pc := 0) C (dX1_layOut 0 rfl) rfl 0 rfl ?_
  refine z_iconst (pc := 1) (v := 0) C (dX1_layOut 1 rfl) (by decide) ?_
  obtain ⟨h1, H⟩ := H
  refine z_putI (pc := 2) C zc1 h1 6 (by decide) rfl rfl wf_X1_67 (dX1_layOut 2 rfl) ?_
  refine z_aload_n (pc := 5) C (dX1_layOut 3 rfl) rfl 0 rfl ?_
  refine z_iconst (pc := 6) (v := 1) C (dX1_layOut 4 rfl) (by decide) ?_
  refine z_putI (pc := 7) C zc1 h1 7 (by decide) rfl rfl wf_X1_71 (dX1_layOut 5 rfl) ?_
  refine z_iconst (pc := 10) (v := 0) C (dX1_layOut 6 rfl) (by decide) ?_
  refine z_istore_n (pc := 11) (i := 3) (lv2 := [(3, .int 0), (0, .ref a), (1, .ref p1), (2, .int p2)]) C (dX1_layOut 7 rfl) rfl (by decide) rfl ?_
  obtain ⟨n21, H⟩ := H
  refine z_sub [1, 2, 3, 0] rfl ?_
  refine sX1_layOut_L12 C hr hm hu1 hu2 (fun m20 H => ?_) n21 0 (pI (pI m a 6 0) a 7 1) H
  exact z_vret (pc := 126) C hr hu1 hu2 (dX1_layOut 74 rfl) ⟨rfl, rfl, H⟩
