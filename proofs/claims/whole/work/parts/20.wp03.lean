def wX3_kindThatStands (t : zT) (m : zM) (a : Nat) (Q : Int32 → zM → Prop) : Prop := (tK t a = 3 ∧ (wX3_stands t m a 482854660462 (fun r2 m3 => ((r2 = 0 → (wX3_stands t m3 a 1702258034 (fun r5 m6 => ((r5 = 0 → (wX3_stands t m6 a 422725643876 (fun r8 m9 => ((r8 = 0 → (wX3_stands t m9 a 109299962373989 (fun r11 m12 => ((r11 = 0 → (Q (-1) m12)) ∧ (¬ r11 = 0 → (Q 3 m12)))))) ∧ (¬ r8 = 0 → (Q 2 m9)))))) ∧ (¬ r5 = 0 → (Q 1 m6)))))) ∧ (¬ r2 = 0 → (Q 0 m3))))))
set_option maxHeartbeats 4000000 in
set_option maxRecDepth 20000 in
theorem kX3_kindThatStands {l : Launch} {t : zT} {m : zM} {a : Nat} {Q : Int32 → zM → Prop} (H : wX3_kindThatStands t m a Q) : zMet l yX3_kindThatStands cX3_kindThatStands 1 (some .int) 1 0 0 t m [.ref a] (zPi t Q) := by
  refine zmet (by decide +kernel) (Nat.le_of_ble_eq_true rfl) ?_
  intro p e s mt args below meth c g C hr hm
  unfold wX3_kindThatStands at H
  have hu1 : ((0, 0) : Nat × Nat).1 ≤ 0 := Nat.le_refl 0
  have hu2 : ((0, 0) : Nat × Nat).2 ≤ 0 := Nat.le_refl 0
  refine z_aload_n (pc := 0) C (dX3_kindThatStands 0 rfl) rfl 0 rfl ?_
  refine z_ldc2 (pc := 1) C wj_X3_178 (dX3_kindThatStands 1 rfl) ?_
  obtain ⟨h1, H⟩ := H
  refine zc_Vi (pc := 4) (rest := []) C YX3_stands wl_X3_77 (kX3_stands H) (by decide) h1 rfl (by decide) (dX3_kindThatStands 2 rfl) rfl hu1 hu2 (Nat.le_of_ble_eq_true rfl) rfl (fun r2 m3 H => ?_)
  refine z_if_eq (pc := 7) (tgt := 12) C (dX3_kindThatStands 3 rfl) (by decide) (fun c4 => ?_) (fun c4 => ?_)
  · replace H := H.1 c4
    refine z_aload_n (pc := 12) C (dX3_kindThatStands 6 rfl) rfl 0 rfl ?_
    refine z_ldc2 (pc := 13) C wj_X3_180 (dX3_kindThatStands 7 rfl) ?_
    refine zc_Vi (pc := 16) (rest := []) C YX3_stands wl_X3_77 (kX3_stands H) (by decide) h1 rfl (by decide) (dX3_kindThatStands 8 rfl) rfl hu1 hu2 (Nat.le_of_ble_eq_true rfl) rfl (fun r5 m6 H => ?_)
    refine z_if_eq (pc := 19) (tgt := 24) C (dX3_kindThatStands 9 rfl) (by decide) (fun c7 => ?_) (fun c7 => ?_)
    · replace H := H.1 c7
      refine z_aload_n (pc := 24) C (dX3_kindThatStands 12 rfl) rfl 0 rfl ?_
      refine z_ldc2 (pc := 25) C wj_X3_182 (dX3_kindThatStands 13 rfl) ?_
      refine zc_Vi (pc := 28) (rest := []) C YX3_stands wl_X3_77 (kX3_stands H) (by decide) h1 rfl (by decide) (dX3_kindThatStands 14 rfl) rfl hu1 hu2 (Nat.le_of_ble_eq_true rfl) rfl (fun r8 m9 H => ?_)
      refine z_if_eq (pc := 31) (tgt := 36) C (dX3_kindThatStands 15 rfl) (by decide) (fun c10 => ?_) (fun c10 => ?_)
      · replace H := H.1 c10
        refine z_aload_n (pc := 36) C (dX3_kindThatStands 18 rfl) rfl 0 rfl ?_
        refine z_ldc2 (pc := 37) C wj_X3_184 (dX3_kindThatStands 19 rfl) ?_
        refine zc_Vi (pc := 40) (rest := []) C YX3_stands wl_X3_77 (kX3_stands H) (by decide) h1 rfl (by decide) (dX3_kindThatStands 20 rfl) rfl hu1 hu2 (Nat.le_of_ble_eq_true rfl) rfl (fun r11 m12 H => ?_)
        refine z_if_eq (pc := 43) (tgt := 50) C (dX3_kindThatStands 21 rfl) (by decide) (fun c13 => ?_) (fun c13 => ?_)
        · replace H := H.1 c13
          refine z_iconst (pc := 50) (v := (-1)) C (dX3_kindThatStands 24 rfl) (by decide) ?_
          exact z_iret (pc := 51) C hr hu1 hu2 (dX3_kindThatStands 25 rfl) ⟨rfl, _, rfl, H⟩
        · replace H := H.2 c13
          refine z_iconst (pc := 46) (v := 3) C (dX3_kindThatStands 22 rfl) (by decide) ?_
          refine z_goto (pc := 47) (tgt := 51) C (dX3_kindThatStands 23 rfl) (by decide) ?_
          exact z_iret (pc := 51) C hr hu1 hu2 (dX3_kindThatStands 25 rfl) ⟨rfl, _, rfl, H⟩
      · replace H := H.2 c10
        refine z_iconst (pc := 34) (v := 2) C (dX3_kindThatStands 16 rfl) (by decide) ?_
        exact z_iret (pc := 35) C hr hu1 hu2 (dX3_kindThatStands 17 rfl) ⟨rfl, _, rfl, H⟩
    · replace H := H.2 c7
      refine z_iconst (pc := 22) (v := 1) C (dX3_kindThatStands 10 rfl) (by decide) ?_
      exact z_iret (pc := 23) C hr hu1 hu2 (dX3_kindThatStands 11 rfl) ⟨rfl, _, rfl, H⟩
  · replace H := H.2 c4
    refine z_iconst (pc := 10) (v := 0) C (dX3_kindThatStands 4 rfl) (by decide) ?_
    exact z_iret (pc := 11) C hr hu1 hu2 (dX3_kindThatStands 5 rfl) ⟨rfl, _, rfl, H⟩
def wX3_readMaster (t : zT) (m : zM) (a : Nat) (Q : Int32 → zM → Prop) : Prop := (tK t a = 3 ∧ (tK t (gR m a 4) = 5 ∧ (wX3_newName t m a 1 (gI m (gR m a 4) 10) (fun r3 m4 => ((r3 = 0 → (Q 0 m4)) ∧ (¬ r3 = 0 → (wX3_kindThatStands t m4 a (fun r6 m7 => (((0 : Int32) ≤ r6 → (tK t (gR m7 a 4) = 5 ∧ (tK t (gR m7 (gR m7 a 4) 11) = 14 ∧ (vp_in (gI m7 (gR m7 a 4) 10) (tL t (gR m7 (gR m7 a 4) 11)) ∧ (wX3_next t (pI (pI m7 (gR m7 (gR m7 a 4) 11) ((gI m7 (gR m7 a 4) 10).toNatClampNeg) r6) (gR m7 a 4) 10 ((gI (pI m7 (gR m7 (gR m7 a 4) 11) ((gI m7 (gR m7 a 4) 10).toNatClampNeg) r6) (gR m7 a 4) 10) + (1 : Int32))) a (fun m13 => (Q 1 m13))))))) ∧ (¬ (0 : Int32) ≤ r6 → (wX3_fail t m7 a 1 (fun r14 m15 => ((r14 = 0 ∨ r14 = 1) ∧ (Q r14 m15))))))))))))))
set_option maxHeartbeats 4000000 in
set_option maxRecDepth 20000 in
theorem kX3_readMaster {l : Launch} {t : zT} {m : zM} {a : Nat} {Q : Int32 → zM → Prop} (H : wX3_readMaster t m a Q) : zMet l yX3_readMaster cX3_readMaster 2 (some .boolean) 3 0 0 t m [.ref a] (zPi t Q) := by
  refine zmet (by decide +kernel) (Nat.le_of_ble_eq_true rfl) ?_
  intro p e s mt args below meth c g C hr hm
  unfold wX3_readMaster at H
  have hu1 : ((0, 0) : Nat × Nat).1 ≤ 0 := Nat.le_refl 0
  have hu2 : ((0, 0) : Nat × Nat).2 ≤ 0 := Nat.le_refl 0
  refine z_aload_n (pc := 0) C (dX3_readMaster 0 rfl) rfl 0 rfl ?_
  refine z_iconst (pc := 1) (v := 1) C (dX3_readMaster 1 rfl) (by decide) ?_
  refine z_aload_n (pc := 2) C (dX3_readMaster 2 rfl) rfl 0 rfl ?_
  obtain ⟨h1, H⟩ := H
  refine z_getR (pc := 3) C zc3 h1 4 (by decide) rfl wf_X3_18 (dX3_readMaster 3 rfl) ?_
  obtain ⟨h2, H⟩ := H
  refine z_getI (pc := 6) C zc5 h2 10 (by decide) rfl wf_X3_98 (dX3_readMaster 4 rfl) ?_
  refine zc_Vi (pc := 9) (rest := []) C YX3_newName wl_X3_130 (kX3_newName H) (by decide) h1 rfl (by decide) (dX3_readMaster 5 rfl) rfl hu1 hu2 (Nat.le_of_ble_eq_true rfl) rfl (fun r3 m4 H => ?_)
  refine z_if_ne (pc := 12) (tgt := 17) C (dX3_readMaster 6 rfl) (by decide) (fun c5 => ?_) (fun c5 => ?_)
  · replace H := H.2 c5
    refine z_aload_n (pc := 17) C (dX3_readMaster 9 rfl) rfl 0 rfl ?_
    refine zc_Vi (pc := 18) (rest := []) C YX3_kindThatStands wl_X3_171 (kX3_kindThatStands H) (by decide) h1 rfl (by decide) (dX3_readMaster 10 rfl) rfl hu1 hu2 (Nat.le_of_ble_eq_true rfl) rfl (fun r6 m7 H => ?_)
    refine z_istore_n (pc := 21) (i := 1) (lv2 := [(1, .int r6), (0, .ref a)]) C (dX3_readMaster 11 rfl) rfl (by decide) rfl ?_
    refine z_iload_n (pc := 22) C (dX3_readMaster 12 rfl) rfl 0 rfl ?_
    refine z_if_ge (pc := 23) (tgt := 32) C (dX3_readMaster 13 rfl) (by decide) (fun c8 => ?_) (fun c8 => ?_)
    · replace H := H.1 c8
      refine z_aload_n (pc := 32) C (dX3_readMaster 18 rfl) rfl 1 rfl ?_
      refine z_getR (pc := 33) C zc3 h1 4 (by decide) rfl wf_X3_18 (dX3_readMaster 19 rfl) ?_
      obtain ⟨h9, H⟩ := H
      refine z_getR (pc := 36) C zc5 h9 11 (by decide) rfl wf_X3_175 (dX3_readMaster 20 rfl) ?_
      refine z_aload_n (pc := 39) C (dX3_readMaster 21 rfl) rfl 1 rfl ?_
      refine z_getR (pc := 40) C zc3 h1 4 (by decide) rfl wf_X3_18 (dX3_readMaster 22 rfl) ?_
      refine z_getI (pc := 43) C zc5 h9 10 (by decide) rfl wf_X3_98 (dX3_readMaster 23 rfl) ?_
      refine z_iload_n (pc := 46) C (dX3_readMaster 24 rfl) rfl 0 rfl ?_
      obtain ⟨h10, H⟩ := H
      obtain ⟨h11, H⟩ := H
      refine z_iastore (pc := 47) C h10 h11 (dX3_readMaster 25 rfl) ?_
      refine z_aload_n (pc := 48) C (dX3_readMaster 26 rfl) rfl 1 rfl ?_
      refine z_getR (pc := 49) C zc3 h1 4 (by decide) rfl wf_X3_18 (dX3_readMaster 27 rfl) ?_
      refine z_dup (pc := 52) C (dX3_readMaster 28 rfl) rfl ?_
      refine z_getI (pc := 53) C zc5 h9 10 (by decide) rfl wf_X3_98 (dX3_readMaster 29 rfl) ?_
      refine z_iconst (pc := 56) (v := 1) C (dX3_readMaster 30 rfl) (by decide) ?_
      refine z_iadd (pc := 57) C (dX3_readMaster 31 rfl) ?_
      refine z_putI (pc := 58) C zc5 h9 10 (by decide) rfl rfl wf_X3_98 (dX3_readMaster 32 rfl) ?_
      refine z_aload_n (pc := 61) C (dX3_readMaster 33 rfl) rfl 1 rfl ?_
      refine zc_Vv (pc := 62) (rest := []) C YX3_next wl_X3_58 (kX3_next H) (by decide) h1 rfl (by decide) (dX3_readMaster 34 rfl) rfl hu1 hu2 (Nat.le_of_ble_eq_true rfl) rfl (fun m13 H => ?_)
      refine z_iconst (pc := 65) (v := 1) C (dX3_readMaster 35 rfl) (by decide) ?_
      exact z_zret (pc := 66) C hr (by decide) hu1 hu2 (dX3_readMaster 36 rfl) ⟨rfl, _, rfl, H⟩
    · replace H := H.2 c8
      refine z_aload_n (pc := 26) C (dX3_readMaster 14 rfl) rfl 1 rfl ?_
      refine z_iconst (pc := 27) (v := 1) C (dX3_readMaster 15 rfl) (by decide) ?_
      refine zc_Vi (pc := 28) (rest := []) C YX3_fail wl_X3_68 (kX3_fail H) (by decide) h1 rfl (by decide) (dX3_readMaster 16 rfl) rfl hu1 hu2 (Nat.le_of_ble_eq_true rfl) rfl (fun r14 m15 H => ?_)
      obtain ⟨h16, H⟩ := H
      exact z_zret (pc := 31) C hr h16 hu1 hu2 (dX3_readMaster 17 rfl) ⟨rfl, _, rfl, H⟩
  · replace H := H.1 c5
    refine z_iconst (pc := 15) (v := 0) C (dX3_readMaster 7 rfl) (by decide) ?_
    exact z_zret (pc := 16) C hr (by decide) hu1 hu2 (dX3_readMaster 8 rfl) ⟨rfl, _, rfl, H⟩
def wX3_lawThatStands (t : zT) (m : zM) (a : Nat) (Q : Int32 → zM → Prop) : Prop := (tK t a = 3 ∧ (wX3_stands t m a 1885432178 (fun r2 m3 => ((r2 = 0 → (wX3_stands t m3 a 513021013607 (fun r5 m6 => ((r5 = 0 → (wX3_stands t m6 a 1920298611 (fun r8 m9 => ((r8 = 0 → (Q 0 m9)) ∧ (¬ r8 = 0 → (Q 4 m9)))))) ∧ (¬ r5 = 0 → (Q 2 m6)))))) ∧ (¬ r2 = 0 → (Q 1 m3))))))
set_option maxHeartbeats 4000000 in
set_option maxRecDepth 20000 in
theorem kX3_lawThatStands {l : Launch} {t : zT} {m : zM} {a : Nat} {Q : Int32 → zM → Prop} (H : wX3_lawThatStands t m a Q) : zMet l yX3_lawThatStands cX3_lawThatStands 1 (some .int) 1 0 0 t m [.ref a] (zPi t Q) := by
  refine zmet (by decide +kernel) (Nat.le_of_ble_eq_true rfl) ?_
  intro p e s mt args below meth c g C hr hm
  unfold wX3_lawThatStands at H
  have hu1 : ((0, 0) : Nat × Nat).1 ≤ 0 := Nat.le_refl 0
  have hu2 : ((0, 0) : Nat × Nat).2 ≤ 0 := Nat.le_refl 0
  refine z_aload_n (pc := 0) C (dX3_lawThatStands 0 rfl) rfl 0 rfl ?_
  refine z_ldc2 (pc := 1) C wj_X3_195 (dX3_lawThatStands 1 rfl) ?_
  obtain ⟨h1, H⟩ := H
  refine zc_Vi (pc := 4) (rest := []) C YX3_stands wl_X3_77 (kX3_stands H) (by decide) h1 rfl (by decide) (dX3_lawThatStands 2 rfl) rfl hu1 hu2 (Nat.le_of_ble_eq_true rfl) rfl (fun r2 m3 H => ?_)
  refine z_if_eq (pc := 7) (tgt := 12) C (dX3_lawThatStands 3 rfl) (by decide) (fun c4 => ?_) (fun c4 => ?_)
  · replace H := H.1 c4
    refine z_aload_n (pc := 12) C (dX3_lawThatStands 6 rfl) rfl 0 rfl ?_
    refine z_ldc2 (pc := 13) C wj_X3_197 (dX3_lawThatStands 7 rfl) ?_
    refine zc_Vi (pc := 16) (rest := []) C YX3_stands wl_X3_77 (kX3_stands H) (by decide) h1 rfl (by decide) (dX3_lawThatStands 8 rfl) rfl hu1 hu2 (Nat.le_of_ble_eq_true rfl) rfl (fun r5 m6 H => ?_)
    refine z_if_eq (pc := 19) (tgt := 24) C (dX3_lawThatStands 9 rfl) (by decide) (fun c7 => ?_) (fun c7 => ?_)
    · replace H := H.1 c7
      refine z_aload_n (pc := 24) C (dX3_lawThatStands 12 rfl) rfl 0 rfl ?_
      refine z_ldc2 (pc := 25) C wj_X3_199 (dX3_lawThatStands 13 rfl) ?_
      refine zc_Vi (pc := 28) (rest := []) C YX3_stands wl_X3_77 (kX3_stands H) (by decide) h1 rfl (by decide) (dX3_lawThatStands 14 rfl) rfl hu1 hu2 (Nat.le_of_ble_eq_true rfl) rfl (fun r8 m9 H => ?_)
      refine z_if_eq (pc := 31) (tgt := 38) C (dX3_lawThatStands 15 rfl) (by decide) (fun c10 => ?_) (fun c10 => ?_)
      · replace H := H.1 c10
        refine z_iconst (pc := 38) (v := 0) C (dX3_lawThatStands 18 rfl) (by decide) ?_
        exact z_iret (pc := 39) C hr hu1 hu2 (dX3_lawThatStands 19 rfl) ⟨rfl, _, rfl, H⟩
      · replace H := H.2 c10
        refine z_iconst (pc := 34) (v := 4) C (dX3_lawThatStands 16 rfl) (by decide) ?_
        refine z_goto (pc := 35) (tgt := 39) C (dX3_lawThatStands 17 rfl) (by decide) ?_
        exact z_iret (pc := 39) C hr hu1 hu2 (dX3_lawThatStands 19 rfl) ⟨rfl, _, rfl, H⟩
    · replace H := H.2 c7
      refine z_iconst (pc := 22) (v := 2) C (dX3_lawThatStands 10 rfl) (by decide) ?_
      exact z_iret (pc := 23) C hr hu1 hu2 (dX3_lawThatStands 11 rfl) ⟨rfl, _, rfl, H⟩
  · replace H := H.2 c4
    refine z_iconst (pc := 10) (v := 1) C (dX3_lawThatStands 4 rfl) (by decide) ?_
    exact z_iret (pc := 11) C hr hu1 hu2 (dX3_lawThatStands 5 rfl) ⟨rfl, _, rfl, H⟩
def wX3_readLaw (t : zT) (m : zM) (a : Nat) (Q : Int32 → zM → Prop) : Prop := (tK t a = 3 ∧ (wX3_lawThatStands t m a (fun r2 m3 => ((r2 = 0 → (wX3_fail t m3 a 1 (fun r19 m20 => ((r19 = 0 ∨ r19 = 1) ∧ (Q r19 m20))))) ∧ (¬ r2 = 0 → (tK t (gR m3 a 4) = 5 ∧ ((((gI m3 (gR m3 a 4) 12) &&& r2) = 0 → (wX3_next t (pI m3 (gR m3 a 4) 12 ((gI m3 (gR m3 a 4) 12) ||| r2)) a (fun m8 => ((r2 = 2 → (wX3_isWhole t m8 a 0 8 (fun r10 m11 => ((r10 = 0 → (Q 0 m11)) ∧ (¬ r10 = 0 → (tK t (gR m11 a 4) = 5 ∧ (wX3_next t (pI m11 (gR m11 a 4) 13 (gI m11 a 8)) a (fun m15 => (Q 1 m15))))))))) ∧ (¬ r2 = 2 → (Q 1 m8)))))) ∧ (¬ ((gI m3 (gR m3 a 4) 12) &&& r2) = 0 → (wX3_fail t m3 a 3 (fun r16 m17 => ((r16 = 0 ∨ r16 = 1) ∧ (Q r16 m17))))))))))))
set_option maxHeartbeats 4000000 in
set_option maxRecDepth 20000 in
theorem kX3_readLaw {l : Launch} {t : zT} {m : zM} {a : Nat} {Q : Int32 → zM → Prop} (H : wX3_readLaw t m a Q) : zMet l yX3_readLaw cX3_readLaw 2 (some .boolean) 2 0 0 t m [.ref a] (zPi t Q) := by
  refine zmet (by decide +kernel) (Nat.le_of_ble_eq_true rfl) ?_
  intro p e s mt args below meth c g C hr hm
  unfold wX3_readLaw at H
  have hu1 : ((0, 0) : Nat × Nat).1 ≤ 0 := Nat.le_refl 0
  have hu2 : ((0, 0) : Nat × Nat).2 ≤ 0 := Nat.le_refl 0
  refine z_aload_n (pc := 0) C (dX3_readLaw 0 rfl) rfl 0 rfl ?_
  obtain ⟨h1, H⟩ := H
  refine zc_Vi (pc := 1) (rest := []) C YX3_lawThatStands wl_X3_186 (kX3_lawThatStands H) (by decide) h1 rfl (by decide) (dX3_readLaw 1 rfl) rfl hu1 hu2 (Nat.le_of_ble_eq_true rfl) rfl (fun r2 m3 H => ?_)
  refine z_istore_n (pc := 4) (i := 1) (lv2 := [(1, .int r2), (0, .ref a)]) C (dX3_readLaw 2 rfl) rfl (by decide) rfl ?_
  refine z_iload_n (pc := 5) C (dX3_readLaw 3 rfl) rfl 0 rfl ?_
  refine z_if_ne (pc := 6) (tgt := 15) C (dX3_readLaw 4 rfl) (by decide) (fun c4 => ?_) (fun c4 => ?_)
  · replace H := H.2 c4
    refine z_aload_n (pc := 15) C (dX3_readLaw 9 rfl) rfl 1 rfl ?_
    refine z_getR (pc := 16) C zc3 h1 4 (by decide) rfl wf_X3_18 (dX3_readLaw 10 rfl) ?_
    obtain ⟨h5, H⟩ := H
    refine z_getI (pc := 19) C zc5 h5 12 (by decide) rfl wf_X3_189 (dX3_readLaw 11 rfl) ?_
    refine z_iload_n (pc := 22) C (dX3_readLaw 12 rfl) rfl 0 rfl ?_
    refine z_iand (pc := 23) C (dX3_readLaw 13 rfl) ?_
    refine z_if_eq (pc := 24) (tgt := 33) C (dX3_readLaw 14 rfl) (by decide) (fun c6 => ?_) (fun c6 => ?_)
    · replace H := H.1 c6
      refine z_aload_n (pc := 33) C (dX3_readLaw 19 rfl) rfl 1 rfl ?_
      refine z_getR (pc := 34) C zc3 h1 4 (by decide) rfl wf_X3_18 (dX3_readLaw 20 rfl) ?_
      refine z_dup (pc := 37) C (dX3_readLaw 21 rfl) rfl ?_
      refine z_getI (pc := 38) C zc5 h5 12 (by decide) rfl wf_X3_189 (dX3_readLaw 22 rfl) ?_
      refine z_iload_n (pc := 41) C (dX3_readLaw 23 rfl) rfl 0 rfl ?_
      refine z_ior (pc := 42) C (dX3_readLaw 24 rfl) ?_
      refine z_putI (pc := 43) C zc5 h5 12 (by decide) rfl rfl wf_X3_189 (dX3_readLaw 25 rfl) ?_
      refine z_aload_n (pc := 46) C (dX3_readLaw 26 rfl) rfl 1 rfl ?_
      refine zc_Vv (pc := 47) (rest := []) C YX3_next wl_X3_58 (kX3_next H) (by decide) h1 rfl (by decide) (dX3_readLaw 27 rfl) rfl hu1 hu2 (Nat.le_of_ble_eq_true rfl) rfl (fun m8 H => ?_)
      refine z_iload_n (pc := 50) C (dX3_readLaw 28 rfl) rfl 0 rfl ?_
      refine z_iconst (pc := 51) (v := 2) C (dX3_readLaw 29 rfl) (by decide) ?_
      refine z_icmp_eq (pc := 52) (tgt := 57) C (dX3_readLaw 30 rfl) (by decide) (fun c9 => ?_) (fun c9 => ?_)
      · replace H := H.1 c9
        refine z_aload_n (pc := 57) C (dX3_readLaw 33 rfl) rfl 1 rfl ?_
        refine z_iconst (pc := 58) (v := 0) C (dX3_readLaw 34 rfl) (by decide) ?_
        refine z_bipush (pc := 59) (v := 8) C (dX3_readLaw 35 rfl) (by decide) ?_
        refine zc_Vi (pc := 61) (rest := []) C YX3_isWhole wl_X3_138 (kX3_isWhole H) (by decide) h1 rfl (by decide) (dX3_readLaw 36 rfl) rfl hu1 hu2 (Nat.le_of_ble_eq_true rfl) rfl (fun r10 m11 H => ?_)
        refine z_if_ne (pc := 64) (tgt := 69) C (dX3_readLaw 37 rfl) (by decide) (fun c12 => ?_) (fun c12 => ?_)
        · replace H := H.2 c12
          refine z_aload_n (pc := 69) C (dX3_readLaw 40 rfl) rfl 1 rfl ?_
          refine z_getR (pc := 70) C zc3 h1 4 (by decide) rfl wf_X3_18 (dX3_readLaw 41 rfl) ?_
          refine z_aload_n (pc := 73) C (dX3_readLaw 42 rfl) rfl 1 rfl ?_
          refine z_getI (pc := 74) C zc3 h1 8 (by decide) rfl wf_X3_144 (dX3_readLaw 43 rfl) ?_
          obtain ⟨h13, H⟩ := H
          refine z_putI (pc := 77) C zc5 h13 13 (by decide) rfl rfl wf_X3_192 (dX3_readLaw 44 rfl) ?_
          refine z_aload_n (pc := 80) C (dX3_readLaw 45 rfl) rfl 1 rfl ?_
          refine zc_Vv (pc := 81) (rest := []) C YX3_next wl_X3_58 (kX3_next H) (by decide) h1 rfl (by decide) (dX3_readLaw 46 rfl) rfl hu1 hu2 (Nat.le_of_ble_eq_true rfl) rfl (fun m15 H => ?_)
          refine z_iconst (pc := 84) (v := 1) C (dX3_readLaw 47 rfl) (by decide) ?_
          exact z_zret (pc := 85) C hr (by decide) hu1 hu2 (dX3_readLaw 48 rfl) ⟨rfl, _, rfl, H⟩
        · replace H := H.1 c12
          refine z_iconst (pc := 67) (v := 0) C (dX3_readLaw 38 rfl) (by decide) ?_
          exact z_zret (pc := 68) C hr (by decide) hu1 hu2 (dX3_readLaw 39 rfl) ⟨rfl, _, rfl, H⟩
      · replace H := H.2 c9
        refine z_iconst (pc := 55) (v := 1) C (dX3_readLaw 31 rfl) (by decide) ?_
        exact z_zret (pc := 56) C hr (by decide) hu1 hu2 (dX3_readLaw 32 rfl) ⟨rfl, _, rfl, H⟩
    · replace H := H.2 c6
      refine z_aload_n (pc := 27) C (dX3_readLaw 15 rfl) rfl 1 rfl ?_
      refine z_iconst (pc := 28) (v := 3) C (dX3_readLaw 16 rfl) (by decide) ?_
      refine zc_Vi (pc := 29) (rest := []) C YX3_fail wl_X3_68 (kX3_fail H) (by decide) h1 rfl (by decide) (dX3_readLaw 17 rfl) rfl hu1 hu2 (Nat.le_of_ble_eq_true rfl) rfl (fun r16 m17 H => ?_)
      obtain ⟨h18, H⟩ := H
      exact z_zret (pc := 32) C hr h18 hu1 hu2 (dX3_readLaw 18 rfl) ⟨rfl, _, rfl, H⟩
  · replace H := H.1 c4
    refine z_aload_n (pc := 9) C (dX3_readLaw 5 rfl) rfl 1 rfl ?_
    refine z_iconst (pc := 10) (v := 1) C (dX3_readLaw 6 rfl) (by decide) ?_
    refine zc_Vi (pc := 11) (rest := []) C YX3_fail wl_X3_68 (kX3_fail H) (by decide) h1 rfl (by decide) (dX3_readLaw 7 rfl) rfl hu1 hu2 (Nat.le_of_ble_eq_true rfl) rfl (fun r19 m20 H => ?_)
    obtain ⟨h21, H⟩ := H
    exact z_zret (pc := 14) C hr h21 hu1 hu2 (dX3_readLaw 8 rfl) ⟨rfl, _, rfl, H⟩
def wX3_readSaying (t : zT) (m : zM) (a : Nat) (Q : Int32 → zM → Prop) : Prop := (tK t a = 3 ∧ (tK t (gR m a 4) = 5 ∧ (∀ x3 : Int32, x3 = (gI m (gR m a 4) 14) → ((wX3_isNameOf t m a 1 (fun r4 m5 => ((r4 = 0 → (Q 0 m5)) ∧ (¬ r4 = 0 → (tK t (gR m5 a 4) = 5 ∧ (tK t (gR m5 (gR m5 a 4) 15) = 14 ∧ (vp_in x3 (tL t (gR m5 (gR m5 a 4) 15)) ∧ (wX3_next t (pI m5 (gR m5 (gR m5 a 4) 15) x3.toNatClampNeg (gI m5 a 10)) a (fun m11 => (wX3_isNameOf t m11 a 0 (fun r12 m13 => ((r12 = 0 → (Q 0 m13)) ∧ (¬ r12 = 0 → (tK t (gR m13 a 4) = 5 ∧ (tK t (gR m13 (gR m13 a 4) 16) = 14 ∧ (vp_in x3 (tL t (gR m13 (gR m13 a 4) 16)) ∧ (wX3_next t (pI m13 (gR m13 (gR m13 a 4) 16) x3.toNatClampNeg (gI m13 a 10)) a (fun m19 => (tK t (gR m19 a 4) = 5 ∧ (tK t (gR m19 (gR m19 a 4) 16) = 14 ∧ (vp_in x3 (tL t (gR m19 (gR m19 a 4) 16)) ∧ (wX3_isAnswerOf t m19 a (gI m19 (gR m19 (gR m19 a 4) 16) x3.toNatClampNeg) (fun r23 m24 => ((r23 = 0 → (Q 0 m24)) ∧ (¬ r23 = 0 → (tK t (gR m24 a 4) = 5 ∧ (tK t (gR m24 (gR m24 a 4) 17) = 14 ∧ (vp_in x3 (tL t (gR m24 (gR m24 a 4) 17)) ∧ (wX3_next t (pI (pI m24 (gR m24 (gR m24 a 4) 17) x3.toNatClampNeg (gI m24 a 8)) (gR m24 a 4) 14 ((gI (pI m24 (gR m24 (gR m24 a 4) 17) x3.toNatClampNeg (gI m24 a 8)) (gR m24 a 4) 14) + (1 : Int32))) a (fun m30 => (Q 1 m30)))))))))))))))))))))))))))))))))))
set_option maxHeartbeats 4000000 in
set_option maxRecDepth 20000 in
theorem kX3_readSaying {l : Launch} {t : zT} {m : zM} {a : Nat} {Q : Int32 → zM → Prop} (H : wX3_readSaying t m a Q) : zMet l yX3_readSaying cX3_readSaying 2 (some .boolean) 3 0 0 t m [.ref a] (zPi t Q) := by
  refine zmet (by decide +kernel) (Nat.le_of_ble_eq_true rfl) ?_
  intro p e s mt args below meth c g C hr hm
  unfold wX3_readSaying at H
  have hu1 : ((0, 0) : Nat × Nat).1 ≤ 0 := Nat.le_refl 0
  have hu2 : ((0, 0) : Nat × Nat).2 ≤ 0 := Nat.le_refl 0
  refine z_aload_n (pc := 0) C (dX3_readSaying 0 rfl) rfl 0 rfl ?_
  obtain ⟨h1, H⟩ := H
  refine z_getR (pc := 1) C zc3 h1 4 (by decide) rfl wf_X3_18 (dX3_readSaying 1 rfl) ?_
  obtain ⟨h2, H⟩ := H
  refine z_getI (pc := 4) C zc5 h2 14 (by decide) rfl wf_X3_111 (dX3_readSaying 2 rfl) ?_
  refine z_int (fun x3 hx3 => ?_)
  replace H := H x3 hx3
  refine z_istore_n (pc := 7) (i := 1) (lv2 := [(1, .int x3), (0, .ref a)]) C (dX3_readSaying 3 rfl) rfl (by decide) rfl ?_
  refine z_aload_n (pc := 8) C (dX3_readSaying 4 rfl) rfl 1 rfl ?_
  refine z_iconst (pc := 9) (v := 1) C (dX3_readSaying 5 rfl) (by decide) ?_
  refine zc_Vi (pc := 10) (rest := []) C YX3_isNameOf wl_X3_150 (kX3_isNameOf H) (by decide) h1 rfl (by decide) (dX3_readSaying 6 rfl) rfl hu1 hu2 (Nat.le_of_ble_eq_true rfl) rfl (fun r4 m5 H => ?_)
  refine z_if_ne (pc := 13) (tgt := 18) C (dX3_readSaying 7 rfl) (by decide) (fun c6 => ?_) (fun c6 => ?_)
  · replace H := H.2 c6
    refine z_aload_n (pc := 18) C (dX3_readSaying 10 rfl) rfl 1 rfl ?_
    refine z_getR (pc := 19) C zc3 h1 4 (by decide) rfl wf_X3_18 (dX3_readSaying 11 rfl) ?_
    obtain ⟨h7, H⟩ := H
    refine z_getR (pc := 22) C zc5 h7 15 (by decide) rfl wf_X3_201 (dX3_readSaying 12 rfl) ?_
    refine z_iload_n (pc := 25) C (dX3_readSaying 13 rfl) rfl 0 rfl ?_
    refine z_aload_n (pc := 26) C (dX3_readSaying 14 rfl) rfl 1 rfl ?_
    refine z_getI (pc := 27) C zc3 h1 10 (by decide) rfl wf_X3_156 (dX3_readSaying 15 rfl) ?_
    obtain ⟨h8, H⟩ := H
    obtain ⟨h9, H⟩ := H
    refine z_iastore (pc := 30) C h8 h9 (dX3_readSaying 16 rfl) ?_
    refine z_aload_n (pc := 31) C (dX3_readSaying 17 rfl) rfl 1 rfl ?_
    refine zc_Vv (pc := 32) (rest := []) C YX3_next wl_X3_58 (kX3_next H) (by decide) h1 rfl (by decide) (dX3_readSaying 18 rfl) rfl hu1 hu2 (Nat.le_of_ble_eq_true rfl) rfl (fun m11 H => ?_)
    refine z_aload_n (pc := 35) C (dX3_readSaying 19 rfl) rfl 1 rfl ?_
    refine z_iconst (pc := 36) (v := 0) C (dX3_readSaying 20 rfl) (by decide) ?_
    refine zc_Vi (pc := 37) (rest := []) C YX3_isNameOf wl_X3_150 (kX3_isNameOf H) (by decide) h1 rfl (by decide) (dX3_readSaying 21 rfl) rfl hu1 hu2 (Nat.le_of_ble_eq_true rfl) rfl (fun r12 m13 H => ?_)
    refine z_if_ne (pc := 40) (tgt := 45) C (dX3_readSaying 22 rfl) (by decide) (fun c14 => ?_) (fun c14 => ?_)
    · replace H := H.2 c14
      refine z_aload_n (pc := 45) C (dX3_readSaying 25 rfl) rfl 1 rfl ?_
      refine z_getR (pc := 46) C zc3 h1 4 (by decide) rfl wf_X3_18 (dX3_readSaying 26 rfl) ?_
      obtain ⟨h15, H⟩ := H
      refine z_getR (pc := 49) C zc5 h15 16 (by decide) rfl wf_X3_204 (dX3_readSaying 27 rfl) ?_
      refine z_iload_n (pc := 52) C (dX3_readSaying 28 rfl) rfl 0 rfl ?_
      refine z_aload_n (pc := 53) C (dX3_readSaying 29 rfl) rfl 1 rfl ?_
      refine z_getI (pc := 54) C zc3 h1 10 (by decide) rfl wf_X3_156 (dX3_readSaying 30 rfl) ?_
      obtain ⟨h16, H⟩ := H
      obtain ⟨h17, H⟩ := H
      refine z_iastore (pc := 57) C h16 h17 (dX3_readSaying 31 rfl) ?_
      refine z_aload_n (pc := 58) C (dX3_readSaying 32 rfl) rfl 1 rfl ?_
      refine zc_Vv (pc := 59) (rest := []) C YX3_next wl_X3_58 (kX3_next H) (by decide) h1 rfl (by decide) (dX3_readSaying 33 rfl) rfl hu1 hu2 (Nat.le_of_ble_eq_true rfl) rfl (fun m19 H => ?_)
      refine z_aload_n (pc := 62) C (dX3_readSaying 34 rfl) rfl 1 rfl ?_
      refine z_aload_n (pc := 63) C (dX3_readSaying 35 rfl) rfl 1 rfl ?_
      refine z_getR (pc := 64) C zc3 h1 4 (by decide) rfl wf_X3_18 (dX3_readSaying 36 rfl) ?_
      obtain ⟨h20, H⟩ := H
      refine z_getR (pc := 67) C zc5 h20 16 (by decide) rfl wf_X3_204 (dX3_readSaying 37 rfl) ?_
      refine z_iload_n (pc := 70) C (dX3_readSaying 38 rfl) rfl 0 rfl ?_
      obtain ⟨h21, H⟩ := H
      obtain ⟨h22, H⟩ := H
      refine z_iaload (pc := 71) C h21 h22 (dX3_readSaying 39 rfl) ?_
      refine zc_Vi (pc := 72) (rest := []) C YX3_isAnswerOf wl_X3_159 (kX3_isAnswerOf H) (by decide) h1 rfl (by decide) (dX3_readSaying 40 rfl) rfl hu1 hu2 (Nat.le_of_ble_eq_true rfl) rfl (fun r23 m24 H => ?_)
      refine z_if_ne (pc := 75) (tgt := 80) C (dX3_readSaying 41 rfl) (by decide) (fun c25 => ?_) (fun c25 => ?_)
      · replace H := H.2 c25
        refine z_aload_n (pc := 80) C (dX3_readSaying 44 rfl) rfl 1 rfl ?_
        refine z_getR (pc := 81) C zc3 h1 4 (by decide) rfl wf_X3_18 (dX3_readSaying 45 rfl) ?_
        obtain ⟨h26, H⟩ := H
        refine z_getR (pc := 84) C zc5 h26 17 (by decide) rfl wf_X3_207 (dX3_readSaying 46 rfl) ?_
        refine z_iload_n (pc := 87) C (dX3_readSaying 47 rfl) rfl 0 rfl ?_
        refine z_aload_n (pc := 88) C (dX3_readSaying 48 rfl) rfl 1 rfl ?_
        refine z_getI (pc := 89) C zc3 h1 8 (by decide) rfl wf_X3_144 (dX3_readSaying 49 rfl) ?_
        obtain ⟨h27, H⟩ := H
        obtain ⟨h28, H⟩ := H
        refine z_iastore (pc := 92) C h27 h28 (dX3_readSaying 50 rfl) ?_
        refine z_aload_n (pc := 93) C (dX3_readSaying 51 rfl) rfl 1 rfl ?_
        refine z_getR (pc := 94) C zc3 h1 4 (by decide) rfl wf_X3_18 (dX3_readSaying 52 rfl) ?_
        refine z_dup (pc := 97) C (dX3_readSaying 53 rfl) rfl ?_
        refine z_getI (pc := 98) C zc5 h26 14 (by decide) rfl wf_X3_111 (dX3_readSaying 54 rfl) ?_
        refine z_iconst (pc := 101) (v := 1) C (dX3_readSaying 55 rfl) (by decide) ?_
        refine z_iadd (pc := 102) C (dX3_readSaying 56 rfl) ?_
        refine z_putI (pc := 103) C zc5 h26 14 (by decide) rfl rfl wf_X3_111 (dX3_readSaying 57 rfl) ?_
        refine z_aload_n (pc := 106) C (dX3_readSaying 58 rfl) rfl 1 rfl ?_
        refine zc_Vv (pc := 107) (rest := []) C YX3_next wl_X3_58 (kX3_next H) (by decide) h1 rfl (by decide) (dX3_readSaying 59 rfl) rfl hu1 hu2 (Nat.le_of_ble_eq_true rfl) rfl (fun m30 H => ?_)
        refine z_iconst (pc := 110) (v := 1) C (dX3_readSaying 60 rfl) (by decide) ?_
        exact z_zret (pc := 111) C hr (by decide) hu1 hu2 (dX3_readSaying 61 rfl) ⟨rfl, _, rfl, H⟩
      · replace H := H.1 c25
        refine z_iconst (pc := 78) (v := 0) C (dX3_readSaying 42 rfl) (by decide) ?_
        exact z_zret (pc := 79) C hr (by decide) hu1 hu2 (dX3_readSaying 43 rfl) ⟨rfl, _, rfl, H⟩
    · replace H := H.1 c14
      refine z_iconst (pc := 43) (v := 0) C (dX3_readSaying 23 rfl) (by decide) ?_
      exact z_zret (pc := 44) C hr (by decide) hu1 hu2 (dX3_readSaying 24 rfl) ⟨rfl, _, rfl, H⟩
  · replace H := H.1 c6
    refine z_iconst (pc := 16) (v := 0) C (dX3_readSaying 8 rfl) (by decide) ?_
    exact z_zret (pc := 17) C hr (by decide) hu1 hu2 (dX3_readSaying 9 rfl) ⟨rfl, _, rfl, H⟩
def wX3_readChild_L48 (t : zT) (a_0 : Nat) (Q : Int32 → zM → Prop) (k112 : Int32 → zM → Prop) : Nat → Int32 → Int32 → zM → Prop
  | 0, _, _, _ => False
  | n + 1, x_1, x_2, m => (((6 : Int32) ≤ x_2 → (k112 x_1 m)) ∧ (¬ (6 : Int32) ≤ x_2 → (tK t a_0 = 3 ∧ (((gI m a_0 6) = 4 → (wX3_next t m a_0 (fun m19 => (wX3_isNameOf t m19 a_0 1 (fun r20 m21 => ((r20 = 0 → (Q 0 m21)) ∧ (¬ r20 = 0 → ((((x_1 >>> ((gI m21 a_0 10) &&& 31)) &&& (1 : Int32)) = 0 → (∀ x24 : Int32, x24 = (x_1 ||| ((1 : Int32) <<< ((gI m21 a_0 10) &&& 31))) → ((wX3_next t m21 a_0 (fun m26 => (wX3_readChild_L48 t a_0 Q k112 n x24 (x_2 + 1) m26)))))) ∧ (¬ ((x_1 >>> ((gI m21 a_0 10) &&& 31)) &&& (1 : Int32)) = 0 → (wX3_fail t m21 a_0 3 (fun r27 m28 => ((r27 = 0 ∨ r27 = 1) ∧ (Q r27 m28))))))))))))) ∧ (¬ (gI m a_0 6) = 4 → (k112 x_1 m))))))
set_option maxHeartbeats 4000000 in
set_option maxRecDepth 20000 in
theorem sX3_readChild_L48 {p : Program} {l : Launch} {e : Env} {s : State} {mt : MethodId} {args : Array Value} {below : List Frame} {meth : Method} {c : Code} {g : zG} {u : Nat × Nat} {mc ms : Nat} {t : zT} {a_0 : Nat} {Q : Int32 → zM → Prop} {k112 : Int32 → zM → Prop} (C : zC p (zRm 3 mc ms) s mt args meth c g cX3_readChild 3 yX3_readChild.cls 3) (hr : meth.sig.returnType = (some .boolean)) (hm : meth.name = yX3_readChild.name) (hu1 : u.1 ≤ mc) (hu2 : u.2 ≤ ms)
    (K112 : ∀ (v0 : Int32) (m : zM), k112 v0 m → zW p l e (zRm 3 mc ms) s mt args below meth c g (MQ below (zQc g (zPi t Q)) args s mc ms (zFar g)) u 3 t m 112 [(0, .ref a_0), (1, .int v0)] []) : ∀ (n : Nat) (x_1 : Int32) (x_2 : Int32) (m : zM), wX3_readChild_L48 t a_0 Q k112 n x_1 x_2 m → zW p l e (zRm 3 mc ms) s mt args below meth c g (MQ below (zQc g (zPi t Q)) args s mc ms (zFar g)) u 3 t m 48 [(0, .ref a_0), (1, .int x_1), (2, .int x_2)] [] := by
  intro n
  induction n with
  | zero => intro x_1 x_2 m H; exact H.elim
  | succ n ih =>
    intro x_1 x_2 m H
    simp only [wX3_readChild_L48] at H
    refine z_iload_n (pc := 48) C (dX3_readChild 26 rfl) rfl 2 rfl ?_
    refine z_bipush (pc := 49) (v := 6) C (dX3_readChild 27 rfl) (by decide) ?_
    refine z_icmp_ge (pc := 51) (tgt := 112) C (dX3_readChild 28 rfl) (by decide) (fun c15 => ?_) (fun c15 => ?_)
    · replace H := H.1 c15
      refine z_sub [0, 1] rfl ?_
      exact K112 x_1 m H
    · replace H := H.2 c15
      refine z_aload_n (pc := 54) C (dX3_readChild 29 rfl) rfl 0 rfl ?_
      obtain ⟨h16, H⟩ := H
      refine z_getI (pc := 55) C zc3 h16 6 (by decide) rfl wf_X3_65 (dX3_readChild 30 rfl) ?_
      refine z_iconst (pc := 58) (v := 4) C (dX3_readChild 31 rfl) (by decide) ?_
      refine z_icmp_ne (pc := 59) (tgt := 112) C (dX3_readChild 32 rfl) (by decide) (fun c17 => ?_) (fun c17 => ?_)
      · replace H := H.2 c17
        refine z_sub [0, 1] rfl ?_
        exact K112 x_1 m H
      · replace H := H.1 c17
        refine z_aload_n (pc := 62) C (dX3_readChild 33 rfl) rfl 0 rfl ?_
        refine zc_Vv (pc := 63) (rest := []) C YX3_next wl_X3_58 (kX3_next H) (by decide) h16 rfl (by decide) (dX3_readChild 34 rfl) rfl hu1 hu2 (Nat.le_of_ble_eq_true rfl) rfl (fun m19 H => ?_)
        refine z_aload_n (pc := 66) C (dX3_readChild 35 rfl) rfl 0 rfl ?_
        refine z_iconst (pc := 67) (v := 1) C (dX3_readChild 36 rfl) (by decide) ?_
        refine zc_Vi (pc := 68) (rest := []) C YX3_isNameOf wl_X3_150 (kX3_isNameOf H) (by decide) h16 rfl (by decide) (dX3_readChild 37 rfl) rfl hu1 hu2 (Nat.le_of_ble_eq_true rfl) rfl (fun r20 m21 H => ?_)
        refine z_if_ne (pc := 71) (tgt := 76) C (dX3_readChild 38 rfl) (by decide) (fun c22 => ?_) (fun c22 => ?_)
        · replace H := H.2 c22
          refine z_iload_n (pc := 76) C (dX3_readChild 41 rfl) rfl 1 rfl ?_
          refine z_aload_n (pc := 77) C (dX3_readChild 42 rfl) rfl 0 rfl ?_
          refine z_getI (pc := 78) C zc3 h16 10 (by decide) rfl wf_X3_156 (dX3_readChild 43 rfl) ?_
          refine z_ishr (pc := 81) C (dX3_readChild 44 rfl) ?_
          refine z_iconst (pc := 82) (v := 1) C (dX3_readChild 45 rfl) (by decide) ?_
          refine z_iand (pc := 83) C (dX3_readChild 46 rfl) ?_
          refine z_if_eq (pc := 84) (tgt := 93) C (dX3_readChild 47 rfl) (by decide) (fun c23 => ?_) (fun c23 => ?_)
          · replace H := H.1 c23
            refine z_iload_n (pc := 93) C (dX3_readChild 52 rfl) rfl 1 rfl ?_
            refine z_iconst (pc := 94) (v := 1) C (dX3_readChild 53 rfl) (by decide) ?_
            refine z_aload_n (pc := 95) C (dX3_readChild 54 rfl) rfl 0 rfl ?_
            refine z_getI (pc := 96) C zc3 h16 10 (by decide) rfl wf_X3_156 (dX3_readChild 55 rfl) ?_
            refine z_ishl (pc := 99) C (dX3_readChild 56 rfl) ?_
            refine z_ior (pc := 100) C (dX3_readChild 57 rfl) ?_
            refine z_int (fun x24 hx24 => ?_)
            replace H := H x24 hx24
            refine z_istore_n (pc := 101) (i := 1) (lv2 := [(1, .int x24), (0, .ref a_0), (2, .int x_2)]) C (dX3_readChild 58 rfl) rfl (by decide) rfl ?_
            refine z_aload_n (pc := 102) C (dX3_readChild 59 rfl) rfl 1 rfl ?_
            refine zc_Vv (pc := 103) (rest := []) C YX3_next wl_X3_58 (kX3_next H) (by decide) h16 rfl (by decide) (dX3_readChild 60 rfl) rfl hu1 hu2 (Nat.le_of_ble_eq_true rfl) rfl (fun m26 H => ?_)
            refine z_iinc (pc := 106) (i := 2) (v := x_2 + 1) (lv2 := [(2, .int (x_2 + 1)), (1, .int x24), (0, .ref a_0)]) C (dX3_readChild 61 rfl) 2 rfl (by rfl) (by decide) rfl ?_
            refine z_goto (pc := 109) (tgt := 48) C (dX3_readChild 62 rfl) (by decide) ?_
            refine z_sub [2, 1, 0] rfl ?_
            exact ih x24 (x_2 + 1) m26 H
          · replace H := H.2 c23
            refine z_aload_n (pc := 87) C (dX3_readChild 48 rfl) rfl 0 rfl ?_
            refine z_iconst (pc := 88) (v := 3) C (dX3_readChild 49 rfl) (by decide) ?_
            refine zc_Vi (pc := 89) (rest := []) C YX3_fail wl_X3_68 (kX3_fail H) (by decide) h16 rfl (by decide) (dX3_readChild 50 rfl) rfl hu1 hu2 (Nat.le_of_ble_eq_true rfl) rfl (fun r27 m28 H => ?_)
            obtain ⟨h29, H⟩ := H
            exact z_zret (pc := 92) C hr h29 hu1 hu2 (dX3_readChild 51 rfl) ⟨rfl, _, rfl, H⟩
        · replace H := H.1 c22
          refine z_iconst (pc := 74) (v := 0) C (dX3_readChild 39 rfl) (by decide) ?_
          exact z_zret (pc := 75) C hr (by decide) hu1 hu2 (dX3_readChild 40 rfl) ⟨rfl, _, rfl, H⟩
def wX3_readChild_J112 (t : zT) (m : zM) (a_0 : Nat) (x_1 : Int32) (Q : Int32 → zM → Prop) : Prop := (tK t a_0 = 3 ∧ (tK t (gR m a_0 4) = 5 ∧ (tK t (gR m (gR m a_0 4) 19) = 14 ∧ (vp_in (gI m (gR m a_0 4) 18) (tL t (gR m (gR m a_0 4) 19)) ∧ (Q 1 (pI (pI m (gR m (gR m a_0 4) 19) ((gI m (gR m a_0 4) 18).toNatClampNeg) x_1) (gR m a_0 4) 18 ((gI (pI m (gR m (gR m a_0 4) 19) ((gI m (gR m a_0 4) 18).toNatClampNeg) x_1) (gR m a_0 4) 18) + (1 : Int32))))))))
set_option maxHeartbeats 4000000 in
set_option maxRecDepth 20000 in
theorem sX3_readChild_J112 {p : Program} {l : Launch} {e : Env} {s : State} {mt : MethodId} {args : Array Value} {below : List Frame} {meth : Method} {c : Code} {g : zG} {u : Nat × Nat} {mc ms : Nat} {t : zT} {m : zM} {a_0 : Nat} {x_1 : Int32} {Q : Int32 → zM → Prop} (C : zC p (zRm 3 mc ms) s mt args meth c g cX3_readChild 3 yX3_readChild.cls 3) (hr : meth.sig.returnType = (some .boolean)) (hm : meth.name = yX3_readChild.name) (hu1 : u.1 ≤ mc) (hu2 : u.2 ≤ ms) (H : wX3_readChild_J112 t m a_0 x_1 Q) : zW p l e (zRm 3 mc ms) s mt args below meth c g (MQ below (zQc g (zPi t Q)) args s mc ms (zFar g)) u 3 t m 112 [(0, .ref a_0), (1, .int x_1)] [] := by
  unfold wX3_readChild_J112 at H
  refine z_aload_n (pc := 112) C (dX3_readChild 63 rfl) rfl 0 rfl ?_
  obtain ⟨h32, H⟩ := H
  refine z_getR (pc := 113) C zc3 h32 4 (by decide) rfl wf_X3_18 (dX3_readChild 64 rfl) ?_
  obtain ⟨h33, H⟩ := H
  refine z_getR (pc := 116) C zc5 h33 19 (by decide) rfl wf_X3_212 (dX3_readChild 65 rfl) ?_
  refine z_aload_n (pc := 119) C (dX3_readChild 66 rfl) rfl 0 rfl ?_
  refine z_getR (pc := 120) C zc3 h32 4 (by decide) rfl wf_X3_18 (dX3_readChild 67 rfl) ?_
  refine z_getI (pc := 123) C zc5 h33 18 (by decide) rfl wf_X3_119 (dX3_readChild 68 rfl) ?_
  refine z_iload_n (pc := 126) C (dX3_readChild 69 rfl) rfl 1 rfl ?_
  obtain ⟨h34, H⟩ := H
  obtain ⟨h35, H⟩ := H
  refine z_iastore (pc := 127) C h34 h35 (dX3_readChild 70 rfl) ?_
  refine z_aload_n (pc := 128) C (dX3_readChild 71 rfl) rfl 0 rfl ?_
  refine z_getR (pc := 129) C zc3 h32 4 (by decide) rfl wf_X3_18 (dX3_readChild 72 rfl) ?_
  refine z_dup (pc := 132) C (dX3_readChild 73 rfl) rfl ?_
  refine z_getI (pc := 133) C zc5 h33 18 (by decide) rfl wf_X3_119 (dX3_readChild 74 rfl) ?_
  refine z_iconst (pc := 136) (v := 1) C (dX3_readChild 75 rfl) (by decide) ?_
  refine z_iadd (pc := 137) C (dX3_readChild 76 rfl) ?_
  refine z_putI (pc := 138) C zc5 h33 18 (by decide) rfl rfl wf_X3_119 (dX3_readChild 77 rfl) ?_
  refine z_iconst (pc := 141) (v := 1) C (dX3_readChild 78 rfl) (by decide) ?_
  exact z_zret (pc := 142) C hr (by decide) hu1 hu2 (dX3_readChild 79 rfl) ⟨rfl, _, rfl, H⟩
def wX3_readChild (t : zT) (m : zM) (a : Nat) (Q : Int32 → zM → Prop) : Prop := (tK t a = 3 ∧ (tK t (gR m a 4) = 5 ∧ (wX3_newName t m a 2 (gI m (gR m a 4) 18) (fun r3 m4 => ((r3 = 0 → (Q 0 m4)) ∧ (¬ r3 = 0 → (wX3_passWord t m4 a 448377483891 (fun r6 m7 => ((r6 = 0 → (Q 0 m7)) ∧ (¬ r6 = 0 → (wX3_isNameOf t m7 a 1 (fun r9 m10 => ((r9 = 0 → (Q 0 m10)) ∧ (¬ r9 = 0 → (∀ x12 : Int32, x12 = ((1 : Int32) <<< ((gI m10 a 10) &&& 31)) → ((wX3_next t m10 a (fun m14 => (∃ n36, wX3_readChild_L48 t a Q (fun v30 m31 => (wX3_readChild_J112 t m31 a v30 Q)) n36 x12 0 m14)))))))))))))))))))
set_option maxHeartbeats 4000000 in
set_option maxRecDepth 20000 in
theorem kX3_readChild {l : Launch} {t : zT} {m : zM} {a : Nat} {Q : Int32 → zM → Prop} (H : wX3_readChild t m a Q) : zMet l yX3_readChild cX3_readChild 3 (some .boolean) 3 0 0 t m [.ref a] (zPi t Q) := by
  refine zmet (by decide +kernel) (Nat.le_of_ble_eq_true rfl) ?_
  intro p e s mt args below meth c g C hr hm
  unfold wX3_readChild at H
  have hu1 : ((0, 0) : Nat × Nat).1 ≤ 0 := Nat.le_refl 0
  have hu2 : ((0, 0) : Nat × Nat).2 ≤ 0 := Nat.le_refl 0
  refine z_aload_n (pc := 0) C (dX3_readChild 0 rfl) rfl 0 rfl ?_
  refine z_iconst (pc := 1) (v := 2) C (dX3_readChild 1 rfl) (by decide) ?_
  refine z_aload_n (pc := 2) C (dX3_readChild 2 rfl) rfl 0 rfl ?_
  obtain ⟨h1, H⟩ := H
  refine z_getR (pc := 3) C zc3 h1 4 (by decide) rfl wf_X3_18 (dX3_readChild 3 rfl) ?_
  obtain ⟨h2, H⟩ := H
  refine z_getI (pc := 6) C zc5 h2 18 (by decide) rfl wf_X3_119 (dX3_readChild 4 rfl) ?_
  refine zc_Vi (pc := 9) (rest := []) C YX3_newName wl_X3_130 (kX3_newName H) (by decide) h1 rfl (by decide) (dX3_readChild 5 rfl) rfl hu1 hu2 (Nat.le_of_ble_eq_true rfl) rfl (fun r3 m4 H => ?_)
  refine z_if_eq (pc := 12) (tgt := 33) C (dX3_readChild 6 rfl) (by decide) (fun c5 => ?_) (fun c5 => ?_)
  · replace H := H.1 c5
    refine z_iconst (pc := 33) (v := 0) C (dX3_readChild 15 rfl) (by decide) ?_
    exact z_zret (pc := 34) C hr (by decide) hu1 hu2 (dX3_readChild 16 rfl) ⟨rfl, _, rfl, H⟩
  · replace H := H.2 c5
    refine z_aload_n (pc := 15) C (dX3_readChild 7 rfl) rfl 0 rfl ?_
    refine z_ldc2 (pc := 16) C wj_X3_210 (dX3_readChild 8 rfl) ?_
    refine zc_Vi (pc := 19) (rest := []) C YX3_passWord wl_X3_135 (kX3_passWord H) (by decide) h1 rfl (by decide) (dX3_readChild 9 rfl) rfl hu1 hu2 (Nat.le_of_ble_eq_true rfl) rfl (fun r6 m7 H => ?_)
    refine z_if_eq (pc := 22) (tgt := 33) C (dX3_readChild 10 rfl) (by decide) (fun c8 => ?_) (fun c8 => ?_)
    · replace H := H.1 c8
      refine z_iconst (pc := 33) (v := 0) C (dX3_readChild 15 rfl) (by decide) ?_
      exact z_zret (pc := 34) C hr (by decide) hu1 hu2 (dX3_readChild 16 rfl) ⟨rfl, _, rfl, H⟩
    · replace H := H.2 c8
      refine z_aload_n (pc := 25) C (dX3_readChild 11 rfl) rfl 0 rfl ?_
      refine z_iconst (pc := 26) (v := 1) C (dX3_readChild 12 rfl) (by decide) ?_
      refine zc_Vi (pc := 27) (rest := []) C YX3_isNameOf wl_X3_150 (kX3_isNameOf H) (by decide) h1 rfl (by decide) (dX3_readChild 13 rfl) rfl hu1 hu2 (Nat.le_of_ble_eq_true rfl) rfl (fun r9 m10 H => ?_)
      refine z_if_ne (pc := 30) (tgt := 35) C (dX3_readChild 14 rfl) (by decide) (fun c11 => ?_) (fun c11 => ?_)
      · replace H := H.2 c11
        refine z_iconst (pc := 35) (v := 1) C (dX3_readChild 17 rfl) (by decide) ?_
        refine z_aload_n (pc := 36) C (dX3_readChild 18 rfl) rfl 0 rfl ?_
        refine z_getI (pc := 37) C zc3 h1 10 (by decide) rfl wf_X3_156 (dX3_readChild 19 rfl) ?_
        refine z_ishl (pc := 40) C (dX3_readChild 20 rfl) ?_
        refine z_int (fun x12 hx12 => ?_)
        replace H := H x12 hx12
        refine z_istore_n (pc := 41) (i := 1) (lv2 := [(1, .int x12), (0, .ref a)]) C (dX3_readChild 21 rfl) rfl (by decide) rfl ?_
        refine z_aload_n (pc := 42) C (dX3_readChild 22 rfl) rfl 1 rfl ?_
        refine zc_Vv (pc := 43) (rest := []) C YX3_next wl_X3_58 (kX3_next H) (by decide) h1 rfl (by decide) (dX3_readChild 23 rfl) rfl hu1 hu2 (Nat.le_of_ble_eq_true rfl) rfl (fun m14 H => ?_)
        refine z_iconst (pc := 46) (v := 0) C (dX3_readChild 24 rfl) (by decide) ?_
        refine z_istore_n (pc := 47) (i := 2) (lv2 := [(2, .int 0), (1, .int x12), (0, .ref a)]) C (dX3_readChild 25 rfl) rfl (by decide) rfl ?_
        obtain ⟨n36, H⟩ := H
        refine z_sub [2, 1, 0] rfl ?_
        refine sX3_readChild_L48 C hr hm hu1 hu2 (fun v30 m31 H => ?_) n36 x12 0 m14 H
        refine z_sub [0, 1] rfl ?_
        exact sX3_readChild_J112 C hr hm hu1 hu2 H
      · replace H := H.1 c11
        refine z_iconst (pc := 33) (v := 0) C (dX3_readChild 15 rfl) (by decide) ?_
        exact z_zret (pc := 34) C hr (by decide) hu1 hu2 (dX3_readChild 16 rfl) ⟨rfl, _, rfl, H⟩
def wX3_readTrial (t : zT) (m : zM) (a : Nat) (Q : Int32 → zM → Prop) : Prop := (tK t a = 3 ∧ (wX3_isNameOf t m a 0 (fun r2 m3 => ((r2 = 0 → (Q 0 m3)) ∧ (¬ r2 = 0 → (∀ x5 : Int32, x5 = (gI m3 a 10) → ((tK t (gR m3 a 4) = 5 ∧ (tK t (gR m3 (gR m3 a 4) 3) = 14 ∧ (vp_in x5 (tL t (gR m3 (gR m3 a 4) 3)) ∧ (((gI m3 (gR m3 (gR m3 a 4) 3) x5.toNatClampNeg) = 0 → (wX3_next t m3 a (fun m11 => (wX3_passWord t m11 a 1668248436 (fun r12 m13 => ((r12 = 0 → (Q 0 m13)) ∧ (¬ r12 = 0 → (wX3_isWhole t m13 a 1 99 (fun r15 m16 => ((r15 = 0 → (Q 0 m16)) ∧ (¬ r15 = 0 → (tK t (gR m16 a 4) = 5 ∧ (tK t (gR m16 (gR m16 a 4) 3) = 14 ∧ (vp_in x5 (tL t (gR m16 (gR m16 a 4) 3)) ∧ (wX3_next t (pI (pI m16 (gR m16 (gR m16 a 4) 3) x5.toNatClampNeg (gI m16 a 8)) (gR m16 a 4) 4 ((gI (pI m16 (gR m16 (gR m16 a 4) 3) x5.toNatClampNeg (gI m16 a 8)) (gR m16 a 4) 4) + (1 : Int32))) a (fun m22 => (Q 1 m22))))))))))))))))) ∧ (¬ (gI m3 (gR m3 (gR m3 a 4) 3) x5.toNatClampNeg) = 0 → (wX3_fail t m3 a 3 (fun r23 m24 => ((r23 = 0 ∨ r23 = 1) ∧ (Q r23 m24))))))))))))))))
set_option maxHeartbeats 4000000 in
set_option maxRecDepth 20000 in
theorem kX3_readTrial {l : Launch} {t : zT} {m : zM} {a : Nat} {Q : Int32 → zM → Prop} (H : wX3_readTrial t m a Q) : zMet l yX3_readTrial cX3_readTrial 2 (some .boolean) 3 0 0 t m [.ref a] (zPi t Q) := by
  refine zmet (by decide +kernel) (Nat.le_of_ble_eq_true rfl) ?_
  intro p e s mt args below meth c g C hr hm
  unfold wX3_readTrial at H
  have hu1 : ((0, 0) : Nat × Nat).1 ≤ 0 := Nat.le_refl 0
  have hu2 : ((0, 0) : Nat × Nat).2 ≤ 0 := Nat.le_refl 0
  refine z_aload_n (pc := 0) C (dX3_readTrial 0 rfl) rfl 0 rfl ?_
  refine z_iconst (pc := 1) (v := 0) C (dX3_readTrial 1 rfl) (by decide) ?_
  obtain ⟨h1, H⟩ := H
  refine zc_Vi (pc := 2) (rest := []) C YX3_isNameOf wl_X3_150 (kX3_isNameOf H) (by decide) h1 rfl (by decide) (dX3_readTrial 2 rfl) rfl hu1 hu2 (Nat.le_of_ble_eq_true rfl) rfl (fun r2 m3 H => ?_)
  refine z_if_ne (pc := 5) (tgt := 10) C (dX3_readTrial 3 rfl) (by decide) (fun c4 => ?_) (fun c4 => ?_)
  · replace H := H.2 c4
    refine z_aload_n (pc := 10) C (dX3_readTrial 6 rfl) rfl 0 rfl ?_
    refine z_getI (pc := 11) C zc3 h1 10 (by decide) rfl wf_X3_156 (dX3_readTrial 7 rfl) ?_
    refine z_int (fun x5 hx5 => ?_)
    replace H := H x5 hx5
    refine z_istore_n (pc := 14) (i := 1) (lv2 := [(1, .int x5), (0, .ref a)]) C (dX3_readTrial 8 rfl) rfl (by decide) rfl ?_
    refine z_aload_n (pc := 15) C (dX3_readTrial 9 rfl) rfl 1 rfl ?_
    refine z_getR (pc := 16) C zc3 h1 4 (by decide) rfl wf_X3_18 (dX3_readTrial 10 rfl) ?_
    obtain ⟨h6, H⟩ := H
    refine z_getR (pc := 19) C zc5 h6 3 (by decide) rfl wf_X3_215 (dX3_readTrial 11 rfl) ?_
    refine z_iload_n (pc := 22) C (dX3_readTrial 12 rfl) rfl 0 rfl ?_
    obtain ⟨h7, H⟩ := H
    obtain ⟨h8, H⟩ := H
    refine z_iaload (pc := 23) C h7 h8 (dX3_readTrial 13 rfl) ?_
    refine z_if_eq (pc := 24) (tgt := 33) C (dX3_readTrial 14 rfl) (by decide) (fun c9 => ?_) (fun c9 => ?_)
    · replace H := H.1 c9
      refine z_aload_n (pc := 33) C (dX3_readTrial 19 rfl) rfl 1 rfl ?_
      refine zc_Vv (pc := 34) (rest := []) C YX3_next wl_X3_58 (kX3_next H) (by decide) h1 rfl (by decide) (dX3_readTrial 20 rfl) rfl hu1 hu2 (Nat.le_of_ble_eq_true rfl) rfl (fun m11 H => ?_)
      refine z_aload_n (pc := 37) C (dX3_readTrial 21 rfl) rfl 1 rfl ?_
      refine z_ldc2 (pc := 38) C wj_X3_218 (dX3_readTrial 22 rfl) ?_
      refine zc_Vi (pc := 41) (rest := []) C YX3_passWord wl_X3_135 (kX3_passWord H) (by decide) h1 rfl (by decide) (dX3_readTrial 23 rfl) rfl hu1 hu2 (Nat.le_of_ble_eq_true rfl) rfl (fun r12 m13 H => ?_)
      refine z_if_eq (pc := 44) (tgt := 57) C (dX3_readTrial 24 rfl) (by decide) (fun c14 => ?_) (fun c14 => ?_)
      · replace H := H.1 c14
        refine z_iconst (pc := 57) (v := 0) C (dX3_readTrial 30 rfl) (by decide) ?_
        exact z_zret (pc := 58) C hr (by decide) hu1 hu2 (dX3_readTrial 31 rfl) ⟨rfl, _, rfl, H⟩
      · replace H := H.2 c14
        refine z_aload_n (pc := 47) C (dX3_readTrial 25 rfl) rfl 1 rfl ?_
        refine z_iconst (pc := 48) (v := 1) C (dX3_readTrial 26 rfl) (by decide) ?_
        refine z_bipush (pc := 49) (v := 99) C (dX3_readTrial 27 rfl) (by decide) ?_
        refine zc_Vi (pc := 51) (rest := []) C YX3_isWhole wl_X3_138 (kX3_isWhole H) (by decide) h1 rfl (by decide) (dX3_readTrial 28 rfl) rfl hu1 hu2 (Nat.le_of_ble_eq_true rfl) rfl (fun r15 m16 H => ?_)
        refine z_if_ne (pc := 54) (tgt := 59) C (dX3_readTrial 29 rfl) (by decide) (fun c17 => ?_) (fun c17 => ?_)
        · replace H := H.2 c17
          refine z_aload_n (pc := 59) C (dX3_readTrial 32 rfl) rfl 1 rfl ?_
          refine z_getR (pc := 60) C zc3 h1 4 (by decide) rfl wf_X3_18 (dX3_readTrial 33 rfl) ?_
          obtain ⟨h18, H⟩ := H
          refine z_getR (pc := 63) C zc5 h18 3 (by decide) rfl wf_X3_215 (dX3_readTrial 34 rfl) ?_
          refine z_iload_n (pc := 66) C (dX3_readTrial 35 rfl) rfl 0 rfl ?_
          refine z_aload_n (pc := 67) C (dX3_readTrial 36 rfl) rfl 1 rfl ?_
          refine z_getI (pc := 68) C zc3 h1 8 (by decide) rfl wf_X3_144 (dX3_readTrial 37 rfl) ?_
          obtain ⟨h19, H⟩ := H
          obtain ⟨h20, H⟩ := H
          refine z_iastore (pc := 71) C h19 h20 (dX3_readTrial 38 rfl) ?_
          refine z_aload_n (pc := 72) C (dX3_readTrial 39 rfl) rfl 1 rfl ?_
          refine z_getR (pc := 73) C zc3 h1 4 (by decide) rfl wf_X3_18 (dX3_readTrial 40 rfl) ?_
          refine z_dup (pc := 76) C (dX3_readTrial 41 rfl) rfl ?_
          refine z_getI (pc := 77) C zc5 h18 4 (by decide) rfl wf_X3_220 (dX3_readTrial 42 rfl) ?_
          refine z_iconst (pc := 80) (v := 1) C (dX3_readTrial 43 rfl) (by decide) ?_
          refine z_iadd (pc := 81) C (dX3_readTrial 44 rfl) ?_
          refine z_putI (pc := 82) C zc5 h18 4 (by decide) rfl rfl wf_X3_220 (dX3_readTrial 45 rfl) ?_
          refine z_aload_n (pc := 85) C (dX3_readTrial 46 rfl) rfl 1 rfl ?_
          refine zc_Vv (pc := 86) (rest := []) C YX3_next wl_X3_58 (kX3_next H) (by decide) h1 rfl (by decide) (dX3_readTrial 47 rfl) rfl hu1 hu2 (Nat.le_of_ble_eq_true rfl) rfl (fun m22 H => ?_)
          refine z_iconst (pc := 89) (v := 1) C (dX3_readTrial 48 rfl) (by decide) ?_
          exact z_zret (pc := 90) C hr (by decide) hu1 hu2 (dX3_readTrial 49 rfl) ⟨rfl, _, rfl, H⟩
        · replace H := H.1 c17
          refine z_iconst (pc := 57) (v := 0) C (dX3_readTrial 30 rfl) (by decide) ?_
          exact z_zret (pc := 58) C hr (by decide) hu1 hu2 (dX3_readTrial 31 rfl) ⟨rfl, _, rfl, H⟩
    · replace H := H.2 c9
      refine z_aload_n (pc := 27) C (dX3_readTrial 15 rfl) rfl 1 rfl ?_
      refine z_iconst (pc := 28) (v := 3) C (dX3_readTrial 16 rfl) (by decide) ?_
      refine zc_Vi (pc := 29) (rest := []) C YX3_fail wl_X3_68 (kX3_fail H) (by decide) h1 rfl (by decide) (dX3_readTrial 17 rfl) rfl hu1 hu2 (Nat.le_of_ble_eq_true rfl) rfl (fun r23 m24 H => ?_)
      obtain ⟨h25, H⟩ := H
      exact z_zret (pc := 32) C hr h25 hu1 hu2 (dX3_readTrial 18 rfl) ⟨rfl, _, rfl, H⟩
  · replace H := H.1 c4
    refine z_iconst (pc := 8) (v := 0) C (dX3_readTrial 4 rfl) (by decide) ?_
    exact z_zret (pc := 9) C hr (by decide) hu1 hu2 (dX3_readTrial 5 rfl) ⟨rfl, _, rfl, H⟩
def wX3_readLine (t : zT) (m : zM) (a : Nat) (Q : Int32 → zM → Prop) : Prop := (tK t a = 3 ∧ (wX3_stands t m a 499967946343 (fun r2 m3 => ((r2 = 0 → (wX3_stands t m3 a 28832959090882419 (fun r5 m6 => ((r5 = 0 → (wX3_stands t m6 a 120265316263282 (fun r8 m9 => ((r8 = 0 → (wX3_stands t m9 a 7102839 (fun r11 m12 => ((r11 = 0 → (wX3_stands t m12 a 1935767923 (fun r14 m15 => ((r14 = 0 → (wX3_stands t m15 a 426953501796 (fun r17 m18 => ((r17 = 0 → (wX3_stands t m18 a 500135715180 (fun r20 m21 => ((r20 = 0 → (wX3_fail t m21 a 1 (fun r23 m24 => ((r23 = 0 ∨ r23 = 1) ∧ (Q r23 m24))))) ∧ (¬ r20 = 0 → (wX3_next t m21 a (fun m27 => (wX3_readTrial t m27 a (fun r28 m29 => ((r28 = 0 ∨ r28 = 1) ∧ (Q r28 m29))))))))))) ∧ (¬ r17 = 0 → (tK t (gR m18 a 4) = 5 ∧ (wX3_hasRoom t m18 a (gI m18 (gR m18 a 4) 18) 5 (fun r32 m33 => ((r32 = 0 → (Q 0 m33)) ∧ (¬ r32 = 0 → (wX3_readChild t m33 a (fun r35 m36 => ((r35 = 0 → (Q 0 m36)) ∧ (¬ r35 = 0 → (Q 1 m36))))))))))))))) ∧ (¬ r14 = 0 → (tK t (gR m15 a 4) = 5 ∧ (wX3_hasRoom t m15 a (gI m15 (gR m15 a 4) 14) 16 (fun r39 m40 => ((r39 = 0 → (Q 0 m40)) ∧ (¬ r39 = 0 → (wX3_readSaying t m40 a (fun r42 m43 => ((r42 = 0 → (Q 0 m43)) ∧ (¬ r42 = 0 → (Q 1 m43))))))))))))))) ∧ (¬ r11 = 0 → (wX3_next t m12 a (fun m46 => (wX3_readLaw t m46 a (fun r47 m48 => ((r47 = 0 ∨ r47 = 1) ∧ (Q r47 m48))))))))))) ∧ (¬ r8 = 0 → (tK t (gR m9 a 4) = 5 ∧ (wX3_hasRoom t m9 a (gI m9 (gR m9 a 4) 10) 6 (fun r51 m52 => ((r51 = 0 → (Q 0 m52)) ∧ (¬ r51 = 0 → (wX3_readMaster t m52 a (fun r54 m55 => ((r54 = 0 → (Q 0 m55)) ∧ (¬ r54 = 0 → (Q 1 m55))))))))))))))) ∧ (¬ r5 = 0 → (tK t (gR m6 a 4) = 5 ∧ (wX3_hasRoom t m6 a (gI m6 (gR m6 a 4) 5) 6 (fun r58 m59 => ((r58 = 0 → (Q 0 m59)) ∧ (¬ r58 = 0 → (wX3_readFollows t m59 a (fun r61 m62 => ((r61 = 0 → (Q 0 m62)) ∧ (¬ r61 = 0 → (Q 1 m62))))))))))))))) ∧ (¬ r2 = 0 → (tK t (gR m3 a 4) = 5 ∧ (wX3_hasRoom t m3 a (gI m3 (gR m3 a 4) 0) 8 (fun r65 m66 => ((r65 = 0 → (Q 0 m66)) ∧ (¬ r65 = 0 → (wX3_readThing t m66 a (fun r68 m69 => ((r68 = 0 → (Q 0 m69)) ∧ (¬ r68 = 0 → (Q 1 m69)))))))))))))))
set_option maxHeartbeats 4000000 in
set_option maxRecDepth 20000 in
theorem kX3_readLine {l : Launch} {t : zT} {m : zM} {a : Nat} {Q : Int32 → zM → Prop} (H : wX3_readLine t m a Q) : zMet l yX3_readLine cX3_readLine 1 (some .boolean) 4 0 0 t m [.ref a] (zPi t Q) := by
  refine zmet (by decide +kernel) (Nat.le_of_ble_eq_true rfl) ?_
  intro p e s mt args below meth c g C hr hm
  unfold wX3_readLine at H
  have hu1 : ((0, 0) : Nat × Nat).1 ≤ 0 := Nat.le_refl 0
  have hu2 : ((0, 0) : Nat × Nat).2 ≤ 0 := Nat.le_refl 0
  refine z_aload_n (pc := 0) C (dX3_readLine 0 rfl) rfl 0 rfl ?_
  refine z_ldc2 (pc := 1) C wj_X3_75 (dX3_readLine 1 rfl) ?_
  obtain ⟨h1, H⟩ := H
  refine zc_Vi (pc := 4) (rest := []) C YX3_stands wl_X3_77 (kX3_stands H) (by decide) h1 rfl (by decide) (dX3_readLine 2 rfl) rfl hu1 hu2 (Nat.le_of_ble_eq_true rfl) rfl (fun r2 m3 H => ?_)
  refine z_if_eq (pc := 7) (tgt := 39) C (dX3_readLine 3 rfl) (by decide) (fun c4 => ?_) (fun c4 => ?_)
  · replace H := H.1 c4
    refine z_aload_n (pc := 39) C (dX3_readLine 18 rfl) rfl 0 rfl ?_
    refine z_ldc2 (pc := 40) C wj_X3_88 (dX3_readLine 19 rfl) ?_
    refine zc_Vi (pc := 43) (rest := []) C YX3_stands wl_X3_77 (kX3_stands H) (by decide) h1 rfl (by decide) (dX3_readLine 20 rfl) rfl hu1 hu2 (Nat.le_of_ble_eq_true rfl) rfl (fun r5 m6 H => ?_)
    refine z_if_eq (pc := 46) (tgt := 78) C (dX3_readLine 21 rfl) (by decide) (fun c7 => ?_) (fun c7 => ?_)
    · replace H := H.1 c7
      refine z_aload_n (pc := 78) C (dX3_readLine 36 rfl) rfl 0 rfl ?_
      refine z_ldc2 (pc := 79) C wj_X3_96 (dX3_readLine 37 rfl) ?_
      refine zc_Vi (pc := 82) (rest := []) C YX3_stands wl_X3_77 (kX3_stands H) (by decide) h1 rfl (by decide) (dX3_readLine 38 rfl) rfl hu1 hu2 (Nat.le_of_ble_eq_true rfl) rfl (fun r8 m9 H => ?_)
      refine z_if_eq (pc := 85) (tgt := 117) C (dX3_readLine 39 rfl) (by decide) (fun c10 => ?_) (fun c10 => ?_)
      · replace H := H.1 c10
        refine z_aload_n (pc := 117) C (dX3_readLine 54 rfl) rfl 0 rfl ?_
        refine z_ldc2 (pc := 118) C wj_X3_104 (dX3_readLine 55 rfl) ?_
        refine zc_Vi (pc := 121) (rest := []) C YX3_stands wl_X3_77 (kX3_stands H) (by decide) h1 rfl (by decide) (dX3_readLine 56 rfl) rfl hu1 hu2 (Nat.le_of_ble_eq_true rfl) rfl (fun r11 m12 H => ?_)
        refine z_if_eq (pc := 124) (tgt := 136) C (dX3_readLine 57 rfl) (by decide) (fun c13 => ?_) (fun c13 => ?_)
        · replace H := H.1 c13
          refine z_aload_n (pc := 136) C (dX3_readLine 63 rfl) rfl 0 rfl ?_
          refine z_ldc2 (pc := 137) C wj_X3_109 (dX3_readLine 64 rfl) ?_
          refine zc_Vi (pc := 140) (rest := []) C YX3_stands wl_X3_77 (kX3_stands H) (by decide) h1 rfl (by decide) (dX3_readLine 65 rfl) rfl hu1 hu2 (Nat.le_of_ble_eq_true rfl) rfl (fun r14 m15 H => ?_)
          refine z_if_eq (pc := 143) (tgt := 175) C (dX3_readLine 66 rfl) (by decide) (fun c16 => ?_) (fun c16 => ?_)
          · replace H := H.1 c16
            refine z_aload_n (pc := 175) C (dX3_readLine 81 rfl) rfl 0 rfl ?_
            refine z_ldc2 (pc := 176) C wj_X3_117 (dX3_readLine 82 rfl) ?_
            refine zc_Vi (pc := 179) (rest := []) C YX3_stands wl_X3_77 (kX3_stands H) (by decide) h1 rfl (by decide) (dX3_readLine 83 rfl) rfl hu1 hu2 (Nat.le_of_ble_eq_true rfl) rfl (fun r17 m18 H => ?_)
            refine z_if_eq (pc := 182) (tgt := 213) C (dX3_readLine 84 rfl) (by decide) (fun c19 => ?_) (fun c19 => ?_)
            · replace H := H.1 c19
              refine z_aload_n (pc := 213) C (dX3_readLine 99 rfl) rfl 0 rfl ?_
              refine z_ldc2 (pc := 214) C wj_X3_125 (dX3_readLine 100 rfl) ?_
              refine zc_Vi (pc := 217) (rest := []) C YX3_stands wl_X3_77 (kX3_stands H) (by decide) h1 rfl (by decide) (dX3_readLine 101 rfl) rfl hu1 hu2 (Nat.le_of_ble_eq_true rfl) rfl (fun r20 m21 H => ?_)
              refine z_if_eq (pc := 220) (tgt := 232) C (dX3_readLine 102 rfl) (by decide) (fun c22 => ?_) (fun c22 => ?_)
              · replace H := H.1 c22
                refine z_aload_n (pc := 232) C (dX3_readLine 108 rfl) rfl 0 rfl ?_
                refine z_iconst (pc := 233) (v := 1) C (dX3_readLine 109 rfl) (by decide) ?_
                refine zc_Vi (pc := 234) (rest := []) C YX3_fail wl_X3_68 (kX3_fail H) (by decide) h1 rfl (by decide) (dX3_readLine 110 rfl) rfl hu1 hu2 (Nat.le_of_ble_eq_true rfl) rfl (fun r23 m24 H => ?_)
                obtain ⟨h25, H⟩ := H
                exact z_zret (pc := 237) C hr h25 hu1 hu2 (dX3_readLine 111 rfl) ⟨rfl, _, rfl, H⟩
              · replace H := H.2 c22
                refine z_aload_n (pc := 223) C (dX3_readLine 103 rfl) rfl 0 rfl ?_
                refine zc_Vv (pc := 224) (rest := []) C YX3_next wl_X3_58 (kX3_next H) (by decide) h1 rfl (by decide) (dX3_readLine 104 rfl) rfl hu1 hu2 (Nat.le_of_ble_eq_true rfl) rfl (fun m27 H => ?_)
                refine z_aload_n (pc := 227) C (dX3_readLine 105 rfl) rfl 0 rfl ?_
                refine zc_Vi (pc := 228) (rest := []) C YX3_readTrial wl_X3_127 (kX3_readTrial H) (by decide) h1 rfl (by decide) (dX3_readLine 106 rfl) rfl hu1 hu2 (Nat.le_of_ble_eq_true rfl) rfl (fun r28 m29 H => ?_)
                obtain ⟨h30, H⟩ := H
                exact z_zret (pc := 231) C hr h30 hu1 hu2 (dX3_readLine 107 rfl) ⟨rfl, _, rfl, H⟩
            · replace H := H.2 c19
              refine z_aload_n (pc := 185) C (dX3_readLine 85 rfl) rfl 0 rfl ?_
              refine z_aload_n (pc := 186) C (dX3_readLine 86 rfl) rfl 0 rfl ?_
              refine z_getR (pc := 187) C zc3 h1 4 (by decide) rfl wf_X3_18 (dX3_readLine 87 rfl) ?_
              obtain ⟨h31, H⟩ := H
              refine z_getI (pc := 190) C zc5 h31 18 (by decide) rfl wf_X3_119 (dX3_readLine 88 rfl) ?_
              refine z_iconst (pc := 193) (v := 5) C (dX3_readLine 89 rfl) (by decide) ?_
              refine zc_Vi (pc := 194) (rest := []) C YX3_hasRoom wl_X3_81 (kX3_hasRoom H) (by decide) h1 rfl (by decide) (dX3_readLine 90 rfl) rfl hu1 hu2 (Nat.le_of_ble_eq_true rfl) rfl (fun r32 m33 H => ?_)
              refine z_if_eq (pc := 197) (tgt := 211) C (dX3_readLine 91 rfl) (by decide) (fun c34 => ?_) (fun c34 => ?_)
              · replace H := H.1 c34
                refine z_iconst (pc := 211) (v := 0) C (dX3_readLine 97 rfl) (by decide) ?_
                exact z_zret (pc := 212) C hr (by decide) hu1 hu2 (dX3_readLine 98 rfl) ⟨rfl, _, rfl, H⟩
              · replace H := H.2 c34
                refine z_aload_n (pc := 200) C (dX3_readLine 92 rfl) rfl 0 rfl ?_
                refine zc_Vi (pc := 201) (rest := []) C YX3_readChild wl_X3_122 (kX3_readChild H) (by decide) h1 rfl (by decide) (dX3_readLine 93 rfl) rfl hu1 hu2 (Nat.le_of_ble_eq_true rfl) rfl (fun r35 m36 H => ?_)
                refine z_if_eq (pc := 204) (tgt := 211) C (dX3_readLine 94 rfl) (by decide) (fun c37 => ?_) (fun c37 => ?_)
                · replace H := H.1 c37
                  refine z_iconst (pc := 211) (v := 0) C (dX3_readLine 97 rfl) (by decide) ?_
                  exact z_zret (pc := 212) C hr (by decide) hu1 hu2 (dX3_readLine 98 rfl) ⟨rfl, _, rfl, H⟩
                · replace H := H.2 c37
                  refine z_iconst (pc := 207) (v := 1) C (dX3_readLine 95 rfl) (by decide) ?_
                  refine z_goto (pc := 208) (tgt := 212) C (dX3_readLine 96 rfl) (by decide) ?_
                  exact z_zret (pc := 212) C hr (by decide) hu1 hu2 (dX3_readLine 98 rfl) ⟨rfl, _, rfl, H⟩
          · replace H := H.2 c16
            refine z_aload_n (pc := 146) C (dX3_readLine 67 rfl) rfl 0 rfl ?_
            refine z_aload_n (pc := 147) C (dX3_readLine 68 rfl) rfl 0 rfl ?_
            refine z_getR (pc := 148) C zc3 h1 4 (by decide) rfl wf_X3_18 (dX3_readLine 69 rfl) ?_
            obtain ⟨h38, H⟩ := H
            refine z_getI (pc := 151) C zc5 h38 14 (by decide) rfl wf_X3_111 (dX3_readLine 70 rfl) ?_
            refine z_bipush (pc := 154) (v := 16) C (dX3_readLine 71 rfl) (by decide) ?_
            refine zc_Vi (pc := 156) (rest := []) C YX3_hasRoom wl_X3_81 (kX3_hasRoom H) (by decide) h1 rfl (by decide) (dX3_readLine 72 rfl) rfl hu1 hu2 (Nat.le_of_ble_eq_true rfl) rfl (fun r39 m40 H => ?_)
            refine z_if_eq (pc := 159) (tgt := 173) C (dX3_readLine 73 rfl) (by decide) (fun c41 => ?_) (fun c41 => ?_)
            · replace H := H.1 c41
              refine z_iconst (pc := 173) (v := 0) C (dX3_readLine 79 rfl) (by decide) ?_
              exact z_zret (pc := 174) C hr (by decide) hu1 hu2 (dX3_readLine 80 rfl) ⟨rfl, _, rfl, H⟩
            · replace H := H.2 c41
              refine z_aload_n (pc := 162) C (dX3_readLine 74 rfl) rfl 0 rfl ?_
              refine zc_Vi (pc := 163) (rest := []) C YX3_readSaying wl_X3_114 (kX3_readSaying H) (by decide) h1 rfl (by decide) (dX3_readLine 75 rfl) rfl hu1 hu2 (Nat.le_of_ble_eq_true rfl) rfl (fun r42 m43 H => ?_)
              refine z_if_eq (pc := 166) (tgt := 173) C (dX3_readLine 76 rfl) (by decide) (fun c44 => ?_) (fun c44 => ?_)
              · replace H := H.1 c44
                refine z_iconst (pc := 173) (v := 0) C (dX3_readLine 79 rfl) (by decide) ?_
                exact z_zret (pc := 174) C hr (by decide) hu1 hu2 (dX3_readLine 80 rfl) ⟨rfl, _, rfl, H⟩
              · replace H := H.2 c44
                refine z_iconst (pc := 169) (v := 1) C (dX3_readLine 77 rfl) (by decide) ?_
                refine z_goto (pc := 170) (tgt := 174) C (dX3_readLine 78 rfl) (by decide) ?_
                exact z_zret (pc := 174) C hr (by decide) hu1 hu2 (dX3_readLine 80 rfl) ⟨rfl, _, rfl, H⟩
        · replace H := H.2 c13
          refine z_aload_n (pc := 127) C (dX3_readLine 58 rfl) rfl 0 rfl ?_
          refine zc_Vv (pc := 128) (rest := []) C YX3_next wl_X3_58 (kX3_next H) (by decide) h1 rfl (by decide) (dX3_readLine 59 rfl) rfl hu1 hu2 (Nat.le_of_ble_eq_true rfl) rfl (fun m46 H => ?_)
          refine z_aload_n (pc := 131) C (dX3_readLine 60 rfl) rfl 0 rfl ?_
          refine zc_Vi (pc := 132) (rest := []) C YX3_readLaw wl_X3_106 (kX3_readLaw H) (by decide) h1 rfl (by decide) (dX3_readLine 61 rfl) rfl hu1 hu2 (Nat.le_of_ble_eq_true rfl) rfl (fun r47 m48 H => ?_)
          obtain ⟨h49, H⟩ := H
          exact z_zret (pc := 135) C hr h49 hu1 hu2 (dX3_readLine 62 rfl) ⟨rfl, _, rfl, H⟩
      · replace H := H.2 c10
        refine z_aload_n (pc := 88) C (dX3_readLine 40 rfl) rfl 0 rfl ?_
        refine z_aload_n (pc := 89) C (dX3_readLine 41 rfl) rfl 0 rfl ?_
        refine z_getR (pc := 90) C zc3 h1 4 (by decide) rfl wf_X3_18 (dX3_readLine 42 rfl) ?_
        obtain ⟨h50, H⟩ := H
        refine z_getI (pc := 93) C zc5 h50 10 (by decide) rfl wf_X3_98 (dX3_readLine 43 rfl) ?_
        refine z_bipush (pc := 96) (v := 6) C (dX3_readLine 44 rfl) (by decide) ?_
        refine zc_Vi (pc := 98) (rest := []) C YX3_hasRoom wl_X3_81 (kX3_hasRoom H) (by decide) h1 rfl (by decide) (dX3_readLine 45 rfl) rfl hu1 hu2 (Nat.le_of_ble_eq_true rfl) rfl (fun r51 m52 H => ?_)
        refine z_if_eq (pc := 101) (tgt := 115) C (dX3_readLine 46 rfl) (by decide) (fun c53 => ?_) (fun c53 => ?_)
        · replace H := H.1 c53
          refine z_iconst (pc := 115) (v := 0) C (dX3_readLine 52 rfl) (by decide) ?_
          exact z_zret (pc := 116) C hr (by decide) hu1 hu2 (dX3_readLine 53 rfl) ⟨rfl, _, rfl, H⟩
        · replace H := H.2 c53
          refine z_aload_n (pc := 104) C (dX3_readLine 47 rfl) rfl 0 rfl ?_
          refine zc_Vi (pc := 105) (rest := []) C YX3_readMaster wl_X3_101 (kX3_readMaster H) (by decide) h1 rfl (by decide) (dX3_readLine 48 rfl) rfl hu1 hu2 (Nat.le_of_ble_eq_true rfl) rfl (fun r54 m55 H => ?_)
          refine z_if_eq (pc := 108) (tgt := 115) C (dX3_readLine 49 rfl) (by decide) (fun c56 => ?_) (fun c56 => ?_)
          · replace H := H.1 c56
            refine z_iconst (pc := 115) (v := 0) C (dX3_readLine 52 rfl) (by decide) ?_
            exact z_zret (pc := 116) C hr (by decide) hu1 hu2 (dX3_readLine 53 rfl) ⟨rfl, _, rfl, H⟩
          · replace H := H.2 c56
            refine z_iconst (pc := 111) (v := 1) C (dX3_readLine 50 rfl) (by decide) ?_
            refine z_goto (pc := 112) (tgt := 116) C (dX3_readLine 51 rfl) (by decide) ?_
            exact z_zret (pc := 116) C hr (by decide) hu1 hu2 (dX3_readLine 53 rfl) ⟨rfl, _, rfl, H⟩
    · replace H := H.2 c7
      refine z_aload_n (pc := 49) C (dX3_readLine 22 rfl) rfl 0 rfl ?_
      refine z_aload_n (pc := 50) C (dX3_readLine 23 rfl) rfl 0 rfl ?_
      refine z_getR (pc := 51) C zc3 h1 4 (by decide) rfl wf_X3_18 (dX3_readLine 24 rfl) ?_
      obtain ⟨h57, H⟩ := H
      refine z_getI (pc := 54) C zc5 h57 5 (by decide) rfl wf_X3_90 (dX3_readLine 25 rfl) ?_
      refine z_bipush (pc := 57) (v := 6) C (dX3_readLine 26 rfl) (by decide) ?_
      refine zc_Vi (pc := 59) (rest := []) C YX3_hasRoom wl_X3_81 (kX3_hasRoom H) (by decide) h1 rfl (by decide) (dX3_readLine 27 rfl) rfl hu1 hu2 (Nat.le_of_ble_eq_true rfl) rfl (fun r58 m59 H => ?_)
      refine z_if_eq (pc := 62) (tgt := 76) C (dX3_readLine 28 rfl) (by decide) (fun c60 => ?_) (fun c60 => ?_)
      · replace H := H.1 c60
        refine z_iconst (pc := 76) (v := 0) C (dX3_readLine 34 rfl) (by decide) ?_
        exact z_zret (pc := 77) C hr (by decide) hu1 hu2 (dX3_readLine 35 rfl) ⟨rfl, _, rfl, H⟩
      · replace H := H.2 c60
        refine z_aload_n (pc := 65) C (dX3_readLine 29 rfl) rfl 0 rfl ?_
        refine zc_Vi (pc := 66) (rest := []) C YX3_readFollows wl_X3_93 (kX3_readFollows H) (by decide) h1 rfl (by decide) (dX3_readLine 30 rfl) rfl hu1 hu2 (Nat.le_of_ble_eq_true rfl) rfl (fun r61 m62 H => ?_)
        refine z_if_eq (pc := 69) (tgt := 76) C (dX3_readLine 31 rfl) (by decide) (fun c63 => ?_) (fun c63 => ?_)
        · replace H := H.1 c63
          refine z_iconst (pc := 76) (v := 0) C (dX3_readLine 34 rfl) (by decide) ?_
          exact z_zret (pc := 77) C hr (by decide) hu1 hu2 (dX3_readLine 35 rfl) ⟨rfl, _, rfl, H⟩
        · replace H := H.2 c63
          refine z_iconst (pc := 72) (v := 1) C (dX3_readLine 32 rfl) (by decide) ?_
          refine z_goto (pc := 73) (tgt := 77) C (dX3_readLine 33 rfl) (by decide) ?_
          exact z_zret (pc := 77) C hr (by decide) hu1 hu2 (dX3_readLine 35 rfl) ⟨rfl, _, rfl, H⟩
  · replace H := H.2 c4
    refine z_aload_n (pc := 10) C (dX3_readLine 4 rfl) rfl 0 rfl ?_
    refine z_aload_n (pc := 11) C (dX3_readLine 5 rfl) rfl 0 rfl ?_
    refine z_getR (pc := 12) C zc3 h1 4 (by decide) rfl wf_X3_18 (dX3_readLine 6 rfl) ?_
    obtain ⟨h64, H⟩ := H
    refine z_getI (pc := 15) C zc5 h64 0 (by decide) rfl wf_X3_72 (dX3_readLine 7 rfl) ?_
    refine z_bipush (pc := 18) (v := 8) C (dX3_readLine 8 rfl) (by decide) ?_
    refine zc_Vi (pc := 20) (rest := []) C YX3_hasRoom wl_X3_81 (kX3_hasRoom H) (by decide) h1 rfl (by decide) (dX3_readLine 9 rfl) rfl hu1 hu2 (Nat.le_of_ble_eq_true rfl) rfl (fun r65 m66 H => ?_)
    refine z_if_eq (pc := 23) (tgt := 37) C (dX3_readLine 10 rfl) (by decide) (fun c67 => ?_) (fun c67 => ?_)
    · replace H := H.1 c67
      refine z_iconst (pc := 37) (v := 0) C (dX3_readLine 16 rfl) (by decide) ?_
      exact z_zret (pc := 38) C hr (by decide) hu1 hu2 (dX3_readLine 17 rfl) ⟨rfl, _, rfl, H⟩
    · replace H := H.2 c67
      refine z_aload_n (pc := 26) C (dX3_readLine 11 rfl) rfl 0 rfl ?_
      refine zc_Vi (pc := 27) (rest := []) C YX3_readThing wl_X3_85 (kX3_readThing H) (by decide) h1 rfl (by decide) (dX3_readLine 12 rfl) rfl hu1 hu2 (Nat.le_of_ble_eq_true rfl) rfl (fun r68 m69 H => ?_)
      refine z_if_eq (pc := 30) (tgt := 37) C (dX3_readLine 13 rfl) (by decide) (fun c70 => ?_) (fun c70 => ?_)
      · replace H := H.1 c70
        refine z_iconst (pc := 37) (v := 0) C (dX3_readLine 16 rfl) (by decide) ?_
        exact z_zret (pc := 38) C hr (by decide) hu1 hu2 (dX3_readLine 17 rfl) ⟨rfl, _, rfl, H⟩
      · replace H := H.2 c70
        refine z_iconst (pc := 33) (v := 1) C (dX3_readLine 14 rfl) (by decide) ?_
        refine z_goto (pc := 34) (tgt := 38) C (dX3_readLine 15 rfl) (by decide) ?_
        exact z_zret (pc := 38) C hr (by decide) hu1 hu2 (dX3_readLine 17 rfl) ⟨rfl, _, rfl, H⟩
def wX3_read_J87 (t : zT) (m : zM) (a_0 : Nat) (x_2 : Int32) (x_3 : Int32) (Q : Int32 → zM → Prop) (r49 : Int32 → Int32 → zM → Prop) : Prop := (r49 x_2 (x_3 + 1) m)
set_option maxHeartbeats 4000000 in
set_option maxRecDepth 20000 in
theorem sX3_read_J87 {p : Program} {l : Launch} {e : Env} {s : State} {mt : MethodId} {args : Array Value} {below : List Frame} {meth : Method} {c : Code} {g : zG} {u : Nat × Nat} {mc ms : Nat} {t : zT} {m : zM} {a_0 : Nat} {x_2 : Int32} {x_3 : Int32} {Q : Int32 → zM → Prop} {r49 : Int32 → Int32 → zM → Prop} (C : zC p (zRm 5 mc ms) s mt args meth c g cX3_read 4 yX3_read.cls 5) (hr : meth.sig.returnType = (some .int)) (hm : meth.name = yX3_read.name) (hu1 : u.1 ≤ mc) (hu2 : u.2 ≤ ms)
    (R49 : ∀ (v0 : Int32) (v1 : Int32) (m : zM), r49 v0 v1 m → zW p l e (zRm 5 mc ms) s mt args below meth c g (MQ below (zQc g (zPi t Q)) args s mc ms (zFar g)) u 4 t m 49 [(0, .ref a_0), (2, .int v0), (3, .int v1)] []) (H : wX3_read_J87 t m a_0 x_2 x_3 Q r49) : zW p l e (zRm 5 mc ms) s mt args below meth c g (MQ below (zQc g (zPi t Q)) args s mc ms (zFar g)) u 4 t m 87 [(0, .ref a_0), (2, .int x_2), (3, .int x_3)] [] := by
  unfold wX3_read_J87 at H
  refine z_iinc (pc := 87) (i := 3) (v := x_3 + 1) (lv2 := [(3, .int (x_3 + 1)), (0, .ref a_0), (2, .int x_2)]) C (dX3_read 47 rfl) 2 rfl (by rfl) (by decide) rfl ?_
  refine z_goto (pc := 90) (tgt := 49) C (dX3_read 48 rfl) (by decide) ?_
  refine z_sub [1, 2, 0] rfl ?_
  exact R49 x_2 (x_3 + 1) m H
def wX3_read_J73 (t : zT) (m : zM) (a_0 : Nat) (x_3 : Int32) (s_0 : Int32) (Q : Int32 → zM → Prop) (r49 : Int32 → Int32 → zM → Prop) : Prop := ((s_0 = 0 → (wX3_read_J87 t m a_0 s_0 x_3 Q r49)) ∧ (¬ s_0 = 0 → (tK t a_0 = 3 ∧ (wX3_next t m a_0 (fun m16 => (wX3_readLine t m16 a_0 (fun r17 m18 => (wX3_read_J87 t m18 a_0 r17 x_3 Q r49))))))))
set_option maxHeartbeats 4000000 in
set_option maxRecDepth 20000 in
theorem sX3_read_J73 {p : Program} {l : Launch} {e : Env} {s : State} {mt : MethodId} {args : Array Value} {below : List Frame} {meth : Method} {c : Code} {g : zG} {u : Nat × Nat} {mc ms : Nat} {t : zT} {m : zM} {a_0 : Nat} {x_3 : Int32} {s_0 : Int32} {Q : Int32 → zM → Prop} {r49 : Int32 → Int32 → zM → Prop} (C : zC p (zRm 5 mc ms) s mt args meth c g cX3_read 4 yX3_read.cls 5) (hr : meth.sig.returnType = (some .int)) (hm : meth.name = yX3_read.name) (hu1 : u.1 ≤ mc) (hu2 : u.2 ≤ ms)
    (R49 : ∀ (v0 : Int32) (v1 : Int32) (m : zM), r49 v0 v1 m → zW p l e (zRm 5 mc ms) s mt args below meth c g (MQ below (zQc g (zPi t Q)) args s mc ms (zFar g)) u 4 t m 49 [(0, .ref a_0), (2, .int v0), (3, .int v1)] []) (H : wX3_read_J73 t m a_0 x_3 s_0 Q r49) : zW p l e (zRm 5 mc ms) s mt args below meth c g (MQ below (zQc g (zPi t Q)) args s mc ms (zFar g)) u 4 t m 73 [(0, .ref a_0), (3, .int x_3)] [.int s_0] := by
  unfold wX3_read_J73 at H
  refine z_istore_n (pc := 73) (i := 2) (lv2 := [(2, .int s_0), (0, .ref a_0), (3, .int x_3)]) C (dX3_read 39 rfl) rfl (by decide) rfl ?_
  refine z_iload_n (pc := 74) C (dX3_read 40 rfl) rfl 0 rfl ?_
  refine z_if_eq (pc := 75) (tgt := 87) C (dX3_read 41 rfl) (by decide) (fun c13 => ?_) (fun c13 => ?_)
  · replace H := H.1 c13
    refine z_sub [1, 0, 2] rfl ?_
    exact sX3_read_J87 C hr hm hu1 hu2 R49 H
  · replace H := H.2 c13
    refine z_aload_n (pc := 78) C (dX3_read 42 rfl) rfl 1 rfl ?_
    obtain ⟨h14, H⟩ := H
    refine zc_Vv (pc := 79) (rest := []) C YX3_next wl_X3_58 (kX3_next H) (by decide) h14 rfl (by decide) (dX3_read 43 rfl) rfl hu1 hu2 (Nat.le_of_ble_eq_true rfl) rfl (fun m16 H => ?_)
    refine z_aload_n (pc := 82) C (dX3_read 44 rfl) rfl 1 rfl ?_
    refine zc_Vi (pc := 83) (rest := []) C YX3_readLine wl_X3_61 (kX3_readLine H) (by decide) h14 rfl (by decide) (dX3_read 45 rfl) rfl hu1 hu2 (Nat.le_of_ble_eq_true rfl) rfl (fun r17 m18 H => ?_)
    refine z_istore_n (pc := 86) (i := 2) (lv2 := [(2, .int r17), (0, .ref a_0), (3, .int x_3)]) C (dX3_read 46 rfl) rfl (by decide) rfl ?_
    refine z_sub [1, 0, 2] rfl ?_
    exact sX3_read_J87 C hr hm hu1 hu2 R49 H
def wX3_read_L49 (t : zT) (a_0 : Nat) (Q : Int32 → zM → Prop) (k93 : zM → Prop) : Nat → Int32 → Int32 → zM → Prop
  | 0, _, _, _ => False
  | n + 1, x_2, x_3, m => (((900 : Int32) ≤ x_3 → (k93 m)) ∧ (¬ (900 : Int32) ≤ x_3 → ((x_2 = 0 → (k93 m)) ∧ (¬ x_2 = 0 → (tK t a_0 = 3 ∧ (((gI m a_0 6) = 3 → (wX3_read_J73 t m a_0 x_3 1 Q (wX3_read_L49 t a_0 Q k93 n))) ∧ (¬ (gI m a_0 6) = 3 → (wX3_read_J73 t m a_0 x_3 0 Q (wX3_read_L49 t a_0 Q k93 n)))))))))
set_option maxHeartbeats 4000000 in
set_option maxRecDepth 20000 in
theorem sX3_read_L49 {p : Program} {l : Launch} {e : Env} {s : State} {mt : MethodId} {args : Array Value} {below : List Frame} {meth : Method} {c : Code} {g : zG} {u : Nat × Nat} {mc ms : Nat} {t : zT} {a_0 : Nat} {Q : Int32 → zM → Prop} {k93 : zM → Prop} (C : zC p (zRm 5 mc ms) s mt args meth c g cX3_read 4 yX3_read.cls 5) (hr : meth.sig.returnType = (some .int)) (hm : meth.name = yX3_read.name) (hu1 : u.1 ≤ mc) (hu2 : u.2 ≤ ms)
    (K93 : ∀ (m : zM), k93 m → zW p l e (zRm 5 mc ms) s mt args below meth c g (MQ below (zQc g (zPi t Q)) args s mc ms (zFar g)) u 4 t m 93 [(0, .ref a_0)] []) : ∀ (n : Nat) (x_2 : Int32) (x_3 : Int32) (m : zM), wX3_read_L49 t a_0 Q k93 n x_2 x_3 m → zW p l e (zRm 5 mc ms) s mt args below meth c g (MQ below (zQc g (zPi t Q)) args s mc ms (zFar g)) u 4 t m 49 [(0, .ref a_0), (2, .int x_2), (3, .int x_3)] [] := by
  intro n
  induction n with
  | zero => intro x_2 x_3 m H; exact H.elim
  | succ n ih =>
    intro x_2 x_3 m H
    simp only [wX3_read_L49] at H
    refine z_iload_n (pc := 49) C (dX3_read 27 rfl) rfl 2 rfl ?_
    refine z_sipush (pc := 50) (v := 900) C (dX3_read 28 rfl) (by decide) ?_
    refine z_icmp_ge (pc := 53) (tgt := 93) C (dX3_read 29 rfl) (by decide) (fun c9 => ?_) (fun c9 => ?_)
    · replace H := H.1 c9
      refine z_sub [0] rfl ?_
      exact K93 m H
    · replace H := H.2 c9
      refine z_iload_n (pc := 56) C (dX3_read 30 rfl) rfl 1 rfl ?_
      refine z_if_eq (pc := 57) (tgt := 93) C (dX3_read 31 rfl) (by decide) (fun c10 => ?_) (fun c10 => ?_)
      · replace H := H.1 c10
        refine z_sub [0] rfl ?_
        exact K93 m H
      · replace H := H.2 c10
        refine z_aload_n (pc := 60) C (dX3_read 32 rfl) rfl 0 rfl ?_
        obtain ⟨h11, H⟩ := H
        refine z_getI (pc := 61) C zc3 h11 6 (by decide) rfl wf_X3_65 (dX3_read 33 rfl) ?_
        refine z_iconst (pc := 64) (v := 3) C (dX3_read 34 rfl) (by decide) ?_
        refine z_icmp_ne (pc := 65) (tgt := 72) C (dX3_read 35 rfl) (by decide) (fun c12 => ?_) (fun c12 => ?_)
        · replace H := H.2 c12
          refine z_iconst (pc := 72) (v := 0) C (dX3_read 38 rfl) (by decide) ?_
          refine z_sub [0, 2] rfl ?_
          exact sX3_read_J73 C hr hm hu1 hu2 ih H
        · replace H := H.1 c12
          refine z_iconst (pc := 68) (v := 1) C (dX3_read 36 rfl) (by decide) ?_
          refine z_goto (pc := 69) (tgt := 73) C (dX3_read 37 rfl) (by decide) ?_
          refine z_sub [0, 2] rfl ?_
          exact sX3_read_J73 C hr hm hu1 hu2 ih H
def wX3_read_J113 (t : zT) (m : zM) (a_0 : Nat) (Q : Int32 → zM → Prop) : Prop := (tK t a_0 = 3 ∧ (((gI m a_0 9) = 0 → (tK t (gR m a_0 4) = 5 ∧ (((gI m (gR m a_0 4) 0) = 0 → (wX3_fail t m a_0 6 (fun r26 m27 => (Q (gI m27 a_0 9) m27)))) ∧ (¬ (gI m (gR m a_0 4) 0) = 0 → (Q (gI m a_0 9) m))))) ∧ (¬ (gI m a_0 9) = 0 → (Q (gI m a_0 9) m))))
set_option maxHeartbeats 4000000 in
set_option maxRecDepth 20000 in
theorem sX3_read_J113 {p : Program} {l : Launch} {e : Env} {s : State} {mt : MethodId} {args : Array Value} {below : List Frame} {meth : Method} {c : Code} {g : zG} {u : Nat × Nat} {mc ms : Nat} {t : zT} {m : zM} {a_0 : Nat} {Q : Int32 → zM → Prop} (C : zC p (zRm 5 mc ms) s mt args meth c g cX3_read 4 yX3_read.cls 5) (hr : meth.sig.returnType = (some .int)) (hm : meth.name = yX3_read.name) (hu1 : u.1 ≤ mc) (hu2 : u.2 ≤ ms) (H : wX3_read_J113 t m a_0 Q) : zW p l e (zRm 5 mc ms) s mt args below meth c g (MQ below (zQc g (zPi t Q)) args s mc ms (zFar g)) u 4 t m 113 [(0, .ref a_0)] [] := by
  unfold wX3_read_J113 at H
  refine z_aload_n (pc := 113) C (dX3_read 59 rfl) rfl 0 rfl ?_
  obtain ⟨h22, H⟩ := H
  refine z_getI (pc := 114) C zc3 h22 9 (by decide) rfl wf_X3_52 (dX3_read 60 rfl) ?_
  refine z_if_ne (pc := 117) (tgt := 137) C (dX3_read 61 rfl) (by decide) (fun c23 => ?_) (fun c23 => ?_)
  · replace H := H.2 c23
    refine z_aload_n (pc := 137) C (dX3_read 70 rfl) rfl 0 rfl ?_
    refine z_getI (pc := 138) C zc3 h22 9 (by decide) rfl wf_X3_52 (dX3_read 71 rfl) ?_
    exact z_iret (pc := 141) C hr hu1 hu2 (dX3_read 72 rfl) ⟨rfl, _, rfl, H⟩
  · replace H := H.1 c23
    refine z_aload_n (pc := 120) C (dX3_read 62 rfl) rfl 0 rfl ?_
    refine z_getR (pc := 121) C zc3 h22 4 (by decide) rfl wf_X3_18 (dX3_read 63 rfl) ?_
    obtain ⟨h24, H⟩ := H
    refine z_getI (pc := 124) C zc5 h24 0 (by decide) rfl wf_X3_72 (dX3_read 64 rfl) ?_
    refine z_if_ne (pc := 127) (tgt := 137) C (dX3_read 65 rfl) (by decide) (fun c25 => ?_) (fun c25 => ?_)
    · replace H := H.2 c25
      refine z_aload_n (pc := 137) C (dX3_read 70 rfl) rfl 0 rfl ?_
      refine z_getI (pc := 138) C zc3 h22 9 (by decide) rfl wf_X3_52 (dX3_read 71 rfl) ?_
      exact z_iret (pc := 141) C hr hu1 hu2 (dX3_read 72 rfl) ⟨rfl, _, rfl, H⟩
    · replace H := H.1 c25
      refine z_aload_n (pc := 130) C (dX3_read 66 rfl) rfl 0 rfl ?_
      refine z_bipush (pc := 131) (v := 6) C (dX3_read 67 rfl) (by decide) ?_
      refine zc_Vi (pc := 133) (rest := []) C YX3_fail wl_X3_68 (kX3_fail H) (by decide) h22 rfl (by decide) (dX3_read 68 rfl) rfl hu1 hu2 (Nat.le_of_ble_eq_true rfl) rfl (fun r26 m27 H => ?_)
      refine z_pop (pc := 136) C (dX3_read 69 rfl) rfl ?_
      refine z_aload_n (pc := 137) C (dX3_read 70 rfl) rfl 0 rfl ?_
      refine z_getI (pc := 138) C zc3 h22 9 (by decide) rfl wf_X3_52 (dX3_read 71 rfl) ?_
      exact z_iret (pc := 141) C hr hu1 hu2 (dX3_read 72 rfl) ⟨rfl, _, rfl, H⟩
def wX3_read_J93 (t : zT) (m : zM) (a_0 : Nat) (Q : Int32 → zM → Prop) : Prop := (tK t a_0 = 3 ∧ (((gI m a_0 9) = 0 → (((gI m a_0 6) = 0 → (wX3_read_J113 t m a_0 Q)) ∧ (¬ (gI m a_0 6) = 0 → (wX3_fail t m a_0 1 (fun r29 m30 => (wX3_read_J113 t m30 a_0 Q)))))) ∧ (¬ (gI m a_0 9) = 0 → (wX3_read_J113 t m a_0 Q))))
set_option maxHeartbeats 4000000 in
set_option maxRecDepth 20000 in
theorem sX3_read_J93 {p : Program} {l : Launch} {e : Env} {s : State} {mt : MethodId} {args : Array Value} {below : List Frame} {meth : Method} {c : Code} {g : zG} {u : Nat × Nat} {mc ms : Nat} {t : zT} {m : zM} {a_0 : Nat} {Q : Int32 → zM → Prop} (C : zC p (zRm 5 mc ms) s mt args meth c g cX3_read 4 yX3_read.cls 5) (hr : meth.sig.returnType = (some .int)) (hm : meth.name = yX3_read.name) (hu1 : u.1 ≤ mc) (hu2 : u.2 ≤ ms) (H : wX3_read_J93 t m a_0 Q) : zW p l e (zRm 5 mc ms) s mt args below meth c g (MQ below (zQc g (zPi t Q)) args s mc ms (zFar g)) u 4 t m 93 [(0, .ref a_0)] [] := by
  unfold wX3_read_J93 at H
  refine z_aload_n (pc := 93) C (dX3_read 49 rfl) rfl 0 rfl ?_
  obtain ⟨h20, H⟩ := H
  refine z_getI (pc := 94) C zc3 h20 9 (by decide) rfl wf_X3_52 (dX3_read 50 rfl) ?_
  refine z_if_ne (pc := 97) (tgt := 113) C (dX3_read 51 rfl) (by decide) (fun c21 => ?_) (fun c21 => ?_)
  · replace H := H.2 c21
    refine z_sub [0] rfl ?_
    exact sX3_read_J113 C hr hm hu1 hu2 H
  · replace H := H.1 c21
    refine z_aload_n (pc := 100) C (dX3_read 52 rfl) rfl 0 rfl ?_
    refine z_getI (pc := 101) C zc3 h20 6 (by decide) rfl wf_X3_65 (dX3_read 53 rfl) ?_
    refine z_if_eq (pc := 104) (tgt := 113) C (dX3_read 54 rfl) (by decide) (fun c28 => ?_) (fun c28 => ?_)
    · replace H := H.1 c28
      refine z_sub [0] rfl ?_
      exact sX3_read_J113 C hr hm hu1 hu2 H
    · replace H := H.2 c28
      refine z_aload_n (pc := 107) C (dX3_read 55 rfl) rfl 0 rfl ?_
      refine z_iconst (pc := 108) (v := 1) C (dX3_read 56 rfl) (by decide) ?_
      refine zc_Vi (pc := 109) (rest := []) C YX3_fail wl_X3_68 (kX3_fail H) (by decide) h20 rfl (by decide) (dX3_read 57 rfl) rfl hu1 hu2 (Nat.le_of_ble_eq_true rfl) rfl (fun r29 m30 H => ?_)
      refine z_pop (pc := 112) C (dX3_read 58 rfl) rfl ?_
      refine z_sub [0] rfl ?_
      exact sX3_read_J113 C hr hm hu1 hu2 H
def wX3_read (t : zT) (m : zM) (a : Nat) (p1 : Int32) (Q : Int32 → zM → Prop) : Prop := (tK t a = 3 ∧ (tK t (gR m a 4) = 5 ∧ (wX5_clear t (pI (pI (pI (pI (pI m a 2 (if (900 : Int32) < p1 then (900 : Int32) else p1)) a 1 0) a 3 0) a 11 0) a 9 0) (gR m a 4) (fun m4 => (wX3_next t m4 a (fun m6 => (wX3_readLine t m6 a (fun r7 m8 => (∃ n31, wX3_read_L49 t a Q (fun m19 => (wX3_read_J93 t m19 a Q)) n31 r7 0 m8)))))))))
set_option maxHeartbeats 4000000 in
set_option maxRecDepth 20000 in
theorem kX3_read {l : Launch} {t : zT} {m : zM} {a : Nat} {p1 : Int32} {Q : Int32 → zM → Prop} (H : wX3_read t m a p1 Q) : zMet l yX3_read cX3_read 4 (some .int) 5 0 0 t m [.ref a, .int p1] (zPi t Q) := by
  refine zmet (by decide +kernel) (Nat.le_of_ble_eq_true rfl) ?_
  intro p e s mt args below meth c g C hr hm
  unfold wX3_read at H
  have hu1 : ((0, 0) : Nat × Nat).1 ≤ 0 := Nat.le_refl 0
  have hu2 : ((0, 0) : Nat × Nat).2 ≤ 0 := Nat.le_refl 0
  refine z_aload_n (pc := 0) C (dX3_read 0 rfl) rfl 0 rfl ?_
  refine z_iload_n (pc := 1) C (dX3_read 1 rfl) rfl 1 rfl ?_
  refine z_sipush (pc := 2) (v := 900) C (dX3_read 2 rfl) (by decide) ?_
  refine z_mmin (pc := 5) C wl_X3_37 (by decide) hu1 hu2 (Nat.le_of_ble_eq_true rfl) (dX3_read 3 rfl) ?_
  obtain ⟨h1, H⟩ := H
  refine z_putI (pc := 8) C zc3 h1 2 (by decide) rfl rfl wf_X3_43 (dX3_read 4 rfl) ?_
  refine z_aload_n (pc := 11) C (dX3_read 5 rfl) rfl 0 rfl ?_
  refine z_iconst (pc := 12) (v := 0) C (dX3_read 6 rfl) (by decide) ?_
  refine z_putI (pc := 13) C zc3 h1 1 (by decide) rfl rfl wf_X3_33 (dX3_read 7 rfl) ?_
  refine z_aload_n (pc := 16) C (dX3_read 8 rfl) rfl 0 rfl ?_
  refine z_iconst (pc := 17) (v := 0) C (dX3_read 9 rfl) (by decide) ?_
  refine z_putI (pc := 18) C zc3 h1 3 (by decide) rfl rfl wf_X3_46 (dX3_read 10 rfl) ?_
  refine z_aload_n (pc := 21) C (dX3_read 11 rfl) rfl 0 rfl ?_
  refine z_iconst (pc := 22) (v := 0) C (dX3_read 12 rfl) (by decide) ?_
  refine z_putI (pc := 23) C zc3 h1 11 (by decide) rfl rfl wf_X3_49 (dX3_read 13 rfl) ?_
  refine z_aload_n (pc := 26) C (dX3_read 14 rfl) rfl 0 rfl ?_
  refine z_iconst (pc := 27) (v := 0) C (dX3_read 15 rfl) (by decide) ?_
  refine z_putI (pc := 28) C zc3 h1 9 (by decide) rfl rfl wf_X3_52 (dX3_read 16 rfl) ?_
  refine z_aload_n (pc := 31) C (dX3_read 17 rfl) rfl 0 rfl ?_
  refine z_getR (pc := 32) C zc3 h1 4 (by decide) rfl wf_X3_18 (dX3_read 18 rfl) ?_
  obtain ⟨h2, H⟩ := H
  refine zc_Vv (pc := 35) (rest := []) C YX5_clear wl_X3_55 (kX5_clear H) (by decide) h2 rfl (by decide) (dX3_read 19 rfl) rfl hu1 hu2 (Nat.le_of_ble_eq_true rfl) rfl (fun m4 H => ?_)
  refine z_aload_n (pc := 38) C (dX3_read 20 rfl) rfl 0 rfl ?_
  refine zc_Vv (pc := 39) (rest := []) C YX3_next wl_X3_58 (kX3_next H) (by decide) h1 rfl (by decide) (dX3_read 21 rfl) rfl hu1 hu2 (Nat.le_of_ble_eq_true rfl) rfl (fun m6 H => ?_)
  refine z_aload_n (pc := 42) C (dX3_read 22 rfl) rfl 0 rfl ?_
  refine zc_Vi (pc := 43) (rest := []) C YX3_readLine wl_X3_61 (kX3_readLine H) (by decide) h1 rfl (by decide) (dX3_read 23 rfl) rfl hu1 hu2 (Nat.le_of_ble_eq_true rfl) rfl (fun r7 m8 H => ?_)
  refine z_istore_n (pc := 46) (i := 2) (lv2 := [(2, .int r7), (0, .ref a), (1, .int p1)]) C (dX3_read 24 rfl) rfl (by decide) rfl ?_
  refine z_iconst (pc := 47) (v := 0) C (dX3_read 25 rfl) (by decide) ?_
  refine z_istore_n (pc := 48) (i := 3) (lv2 := [(3, .int 0), (2, .int r7), (0, .ref a), (1, .int p1)]) C (dX3_read 26 rfl) rfl (by decide) rfl ?_
  obtain ⟨n31, H⟩ := H
  refine z_sub [2, 1, 0] rfl ?_
  refine sX3_read_L49 C hr hm hu1 hu2 (fun m19 H => ?_) n31 r7 0 m8 H
  refine z_sub [0] rfl ?_
  exact sX3_read_J93 C hr hm hu1 hu2 H
def wX4_has (t : zT) (m : zM) (a : Nat) (p1 : Int32) (Q : Int32 → zM → Prop) : Prop := (tK t a = 4 ∧ (tK t (gR m a 0) = 15 ∧ (vp_in (p1 >>> ((6 : Int32) &&& 31)) (tL t (gR m a 0)) ∧ (((lg_cmp ((((gJ m (gR m a 0) ((p1 >>> ((6 : Int32) &&& 31)).toNatClampNeg)).toUInt64 >>> ((p1 &&& (63 : Int32)).toInt64.toUInt64 &&& Int64.toUInt64 63)).toInt64) &&& 1) 0) = 0 → (Q 0 m)) ∧ (¬ (lg_cmp ((((gJ m (gR m a 0) ((p1 >>> ((6 : Int32) &&& 31)).toNatClampNeg)).toUInt64 >>> ((p1 &&& (63 : Int32)).toInt64.toUInt64 &&& Int64.toUInt64 63)).toInt64) &&& 1) 0) = 0 → (Q 1 m))))))
set_option maxHeartbeats 4000000 in
set_option maxRecDepth 20000 in
theorem kX4_has {l : Launch} {t : zT} {m : zM} {a : Nat} {p1 : Int32} {Q : Int32 → zM → Prop} (H : wX4_has t m a p1 Q) : zMet l yX4_has cX4_has 2 (some .boolean) 0 0 0 t m [.ref a, .int p1] (zPi t Q) := by
  refine zmet (by decide +kernel) (Nat.le_of_ble_eq_true rfl) ?_
  intro p e s mt args below meth c g C hr hm
  unfold wX4_has at H
  have hu1 : ((0, 0) : Nat × Nat).1 ≤ 0 := Nat.le_refl 0
  have hu2 : ((0, 0) : Nat × Nat).2 ≤ 0 := Nat.le_refl 0
  refine z_aload_n (pc := 0) C (dX4_has 0 rfl) rfl 0 rfl ?_
  obtain ⟨h1, H⟩ := H
  refine z_getR (pc := 1) C zc4 h1 0 (by decide) rfl wf_X4_9 (dX4_has 1 rfl) ?_
  refine z_iload_n (pc := 4) C (dX4_has 2 rfl) rfl 1 rfl ?_
  refine z_bipush (pc := 5) (v := 6) C (dX4_has 3 rfl) (by decide) ?_
  refine z_ishr (pc := 7) C (dX4_has 4 rfl) ?_
  obtain ⟨h2, H⟩ := H
  obtain ⟨h3, H⟩ := H
  refine z_laload (pc := 8) C h2 h3 (dX4_has 5 rfl) ?_
  refine z_iload_n (pc := 9) C (dX4_has 6 rfl) rfl 1 rfl ?_
  refine z_bipush (pc := 10) (v := 63) C (dX4_has 7 rfl) (by decide) ?_
  refine z_iand (pc := 12) C (dX4_has 8 rfl) ?_
  refine z_lushr (pc := 13) C (dX4_has 9 rfl) ?_
  refine z_lconst (pc := 14) (v := 1) C (dX4_has 10 rfl) (by decide) ?_
  refine z_land (pc := 15) C (dX4_has 11 rfl) ?_
  refine z_lconst (pc := 16) (v := 0) C (dX4_has 12 rfl) (by decide) ?_
  refine z_lcmp (pc := 17) C (dX4_has 13 rfl) ?_
  refine z_if_eq (pc := 18) (tgt := 25) C (dX4_has 14 rfl) (by decide) (fun c4 => ?_) (fun c4 => ?_)
  · replace H := H.1 c4
    refine z_iconst (pc := 25) (v := 0) C (dX4_has 17 rfl) (by decide) ?_
    exact z_zret (pc := 26) C hr (by decide) hu1 hu2 (dX4_has 18 rfl) ⟨rfl, _, rfl, H⟩
  · replace H := H.2 c4
    refine z_iconst (pc := 21) (v := 1) C (dX4_has 15 rfl) (by decide) ?_
    refine z_goto (pc := 22) (tgt := 26) C (dX4_has 16 rfl) (by decide) ?_
    exact z_zret (pc := 26) C hr (by decide) hu1 hu2 (dX4_has 18 rfl) ⟨rfl, _, rfl, H⟩
def wX4_copy_L18 (t : zT) (a_0 : Nat) (a_1 : Nat) (Q : zM → Prop) (k44 : zM → Prop) : Nat → Int32 → zM → Prop
  | 0, _, _ => False
  | n + 1, x_2, m => (tK t a_0 = 4 ∧ (((gI m a_0 1) ≤ x_2 → (k44 m)) ∧ (¬ (gI m a_0 1) ≤ x_2 → (tK t a_1 = 4 ∧ (tK t (gR m a_1 0) = 15 ∧ (vp_in x_2 (tL t (gR m a_1 0)) ∧ (tK t (gR m a_0 0) = 15 ∧ (vp_in x_2 (tL t (gR m a_0 0)) ∧ (wX4_copy_L18 t a_0 a_1 Q k44 n (x_2 + 1) (pJ m (gR m a_0 0) x_2.toNatClampNeg (gJ m (gR m a_1 0) x_2.toNatClampNeg)))))))))))
set_option maxHeartbeats 4000000 in
set_option maxRecDepth 20000 in
theorem sX4_copy_L18 {p : Program} {l : Launch} {e : Env} {s : State} {mt : MethodId} {args : Array Value} {below : List Frame} {meth : Method} {c : Code} {g : zG} {u : Nat × Nat} {mc ms : Nat} {t : zT} {a_0 : Nat} {a_1 : Nat} {Q : zM → Prop} {k44 : zM → Prop} (C : zC p (zRm 0 mc ms) s mt args meth c g cX4_copy 3 yX4_copy.cls 0) (hr : meth.sig.returnType = none) (hm : meth.name = yX4_copy.name) (hu1 : u.1 ≤ mc) (hu2 : u.2 ≤ ms)
    (K44 : ∀ (m : zM), k44 m → zW p l e (zRm 0 mc ms) s mt args below meth c g (MQ below (zQc g (zPv t Q)) args s mc ms (zFar g)) u 3 t m 44 [] []) : ∀ (n : Nat) (x_2 : Int32) (m : zM), wX4_copy_L18 t a_0 a_1 Q k44 n x_2 m → zW p l e (zRm 0 mc ms) s mt args below meth c g (MQ below (zQc g (zPv t Q)) args s mc ms (zFar g)) u 3 t m 18 [(0, .ref a_0), (1, .ref a_1), (2, .int x_2)] [] := by
  intro n
  induction n with
  | zero => intro x_2 m H; exact H.elim
  | succ n ih =>
    intro x_2 m H
    simp only [wX4_copy_L18] at H
    refine z_iload_n (pc := 18) C (dX4_copy 10 rfl) rfl 2 rfl ?_
    refine z_aload_n (pc := 19) C (dX4_copy 11 rfl) rfl 0 rfl ?_
    obtain ⟨h3, H⟩ := H
    refine z_getI (pc := 20) C zc4 h3 1 (by decide) rfl wf_X4_19 (dX4_copy 12 rfl) ?_
    refine z_icmp_ge (pc := 23) (tgt := 44) C (dX4_copy 13 rfl) (by decide) (fun c4 => ?_) (fun c4 => ?_)
    · replace H := H.1 c4
      refine z_sub [] rfl ?_
      exact K44 m H
    · replace H := H.2 c4
      refine z_aload_n (pc := 26) C (dX4_copy 14 rfl) rfl 0 rfl ?_
      refine z_getR (pc := 27) C zc4 h3 0 (by decide) rfl wf_X4_9 (dX4_copy 15 rfl) ?_
      refine z_iload_n (pc := 30) C (dX4_copy 16 rfl) rfl 2 rfl ?_
      refine z_aload_n (pc := 31) C (dX4_copy 17 rfl) rfl 1 rfl ?_
      obtain ⟨h5, H⟩ := H
      refine z_getR (pc := 32) C zc4 h5 0 (by decide) rfl wf_X4_9 (dX4_copy 18 rfl) ?_
      refine z_iload_n (pc := 35) C (dX4_copy 19 rfl) rfl 2 rfl ?_
      obtain ⟨h6, H⟩ := H
      obtain ⟨h7, H⟩ := H
      refine z_laload (pc := 36) C h6 h7 (dX4_copy 20 rfl) ?_
      obtain ⟨h8, H⟩ := H
      obtain ⟨h9, H⟩ := H
      refine z_lastore (pc := 37) C h8 h9 (dX4_copy 21 rfl) ?_
      refine z_iinc (pc := 38) (i := 2) (v := x_2 + 1) (lv2 := [(2, .int (x_2 + 1)), (0, .ref a_0), (1, .ref a_1)]) C (dX4_copy 22 rfl) 2 rfl (by rfl) (by decide) rfl ?_
      refine z_goto (pc := 41) (tgt := 18) C (dX4_copy 23 rfl) (by decide) ?_
      refine z_sub [1, 2, 0] rfl ?_
      exact ih (x_2 + 1) (pJ m (gR m a_0 0) x_2.toNatClampNeg (gJ m (gR m a_1 0) x_2.toNatClampNeg)) H
def wX4_copy (t : zT) (m : zM) (a : Nat) (p1 : Nat) (Q : zM → Prop) : Prop := (tK t p1 = 4 ∧ (tK t a = 4 ∧ (∃ n11, wX4_copy_L18 t a p1 Q (fun m10 => (Q m10)) n11 0 (pI (pI m a 1 (gI m p1 1)) a 2 (gI (pI m a 1 (gI m p1 1)) p1 2)))))
set_option maxHeartbeats 4000000 in
set_option maxRecDepth 20000 in
theorem kX4_copy {l : Launch} {t : zT} {m : zM} {a : Nat} {p1 : Nat} {Q : zM → Prop} (H : wX4_copy t m a p1 Q) : zMet l yX4_copy cX4_copy 3 none 0 0 0 t m [.ref a, .ref p1] (zPv t Q) := by
  refine zmet (by decide +kernel) (Nat.le_of_ble_eq_true rfl) ?_
  intro p e s mt args below meth c g C hr hm
  unfold wX4_copy at H
  have hu1 : ((0, 0) : Nat × Nat).1 ≤ 0 := Nat.le_refl 0
  have hu2 : ((0, 0) : Nat × Nat).2 ≤ 0 := Nat.le_refl 0
  refine z_aload_n (pc := 0) C (dX4_copy 0 rfl) rfl 0 rfl ?_
  refine z_aload_n (pc := 1) C (dX4_copy 1 rfl) rfl 1 rfl ?_
  obtain ⟨h1, H⟩ := H
  refine z_getI (pc := 2) C zc4 h1 1 (by decide) rfl wf_X4_19 (dX4_copy 2 rfl) ?_
  obtain ⟨h2, H⟩ := H
  refine z_putI (pc := 5) C zc4 h2 1 (by decide) rfl rfl wf_X4_19 (dX4_copy 3 rfl) ?_
  refine z_aload_n (pc := 8) C (dX4_copy 4 rfl) rfl 0 rfl ?_
  refine z_aload_n (pc := 9) C (dX4_copy 5 rfl) rfl 1 rfl ?_
  refine z_getI (pc := 10) C zc4 h1 2 (by decide) rfl wf_X4_15 (dX4_copy 6 rfl) ?_
  refine z_putI (pc := 13) C zc4 h2 2 (by decide) rfl rfl wf_X4_15 (dX4_copy 7 rfl) ?_
  refine z_iconst (pc := 16) (v := 0) C (dX4_copy 8 rfl) (by decide) ?_
  refine z_istore_n (pc := 17) (i := 2) (lv2 := [(2, .int 0), (0, .ref a), (1, .ref p1)]) C (dX4_copy 9 rfl) rfl (by decide) rfl ?_
  obtain ⟨n11, H⟩ := H
  refine z_sub [1, 2, 0] rfl ?_
  refine sX4_copy_L18 C hr hm hu1 hu2 (fun m10 H => ?_) n11 0 (pI (pI m a 1 (gI m p1 1)) a 2 (gI (pI m a 1 (gI m p1 1)) p1 2)) H
  exact z_vret (pc := 44) C hr hu1 hu2 (dX4_copy 24 rfl) ⟨rfl, rfl, H⟩
def wX4_bitAt_L5 (t : zT) (x_2 : Int32) (Q : Int32 → zM → Prop) (k23 : Int64 → zM → Prop) : Nat → Int64 → Int32 → zM → Prop
  | 0, _, _, _ => False
  | n + 1, y_3, x_5, m => ((x_2 ≤ x_5 → (k23 y_3 m)) ∧ (¬ x_2 ≤ x_5 → (∀ x2 : Int64, x2 = (y_3 &&& (y_3 - 1)) → ((wX4_bitAt_L5 t x_2 Q k23 n x2 (x_5 + 1) m)))))
set_option maxHeartbeats 4000000 in
set_option maxRecDepth 20000 in
theorem sX4_bitAt_L5 {p : Program} {l : Launch} {e : Env} {s : State} {mt : MethodId} {args : Array Value} {below : List Frame} {meth : Method} {c : Code} {g : zG} {u : Nat × Nat} {mc ms : Nat} {t : zT} {x_2 : Int32} {Q : Int32 → zM → Prop} {k23 : Int64 → zM → Prop} (C : zC p (zRm 2 mc ms) s mt args meth c g cX4_bitAt 6 yX4_bitAt.cls 2) (hr : meth.sig.returnType = (some .int)) (hm : meth.name = yX4_bitAt.name) (hu1 : u.1 ≤ mc) (hu2 : u.2 ≤ ms)
    (K23 : ∀ (v0 : Int64) (m : zM), k23 v0 m → zW p l e (zRm 2 mc ms) s mt args below meth c g (MQ below (zQc g (zPi t Q)) args s mc ms (zFar g)) u 6 t m 23 [(3, .long v0)] []) : ∀ (n : Nat) (y_3 : Int64) (x_5 : Int32) (m : zM), wX4_bitAt_L5 t x_2 Q k23 n y_3 x_5 m → zW p l e (zRm 2 mc ms) s mt args below meth c g (MQ below (zQc g (zPi t Q)) args s mc ms (zFar g)) u 6 t m 5 [(2, .int x_2), (3, .long y_3), (5, .int x_5)] [] := by
  intro n
  induction n with
  | zero => intro y_3 x_5 m H; exact H.elim
  | succ n ih =>
    intro y_3 x_5 m H
    simp only [wX4_bitAt_L5] at H
    refine z_iload (pc := 5) C (dX4_bitAt 4 rfl) 2 rfl ?_
    refine z_iload_n (pc := 7) C (dX4_bitAt 5 rfl) rfl 0 rfl ?_
    refine z_icmp_ge (pc := 8) (tgt := 23) C (dX4_bitAt 6 rfl) (by decide) (fun c1 => ?_) (fun c1 => ?_)
    · replace H := H.1 c1
      refine z_sub [1] rfl ?_
      exact K23 y_3 m H
    · replace H := H.2 c1
      refine z_lload_n (pc := 11) C (dX4_bitAt 7 rfl) rfl 1 rfl ?_
      refine z_lload_n (pc := 12) C (dX4_bitAt 8 rfl) rfl 1 rfl ?_
      refine z_lconst (pc := 13) (v := 1) C (dX4_bitAt 9 rfl) (by decide) ?_
      refine z_lsub (pc := 14) C (dX4_bitAt 10 rfl) ?_
      refine z_land (pc := 15) C (dX4_bitAt 11 rfl) ?_
      refine z_long (fun x2 hx2 => ?_)
      replace H := H x2 hx2
      refine z_lstore_n (pc := 16) (i := 3) (lv2 := [(3, .long x2), (2, .int x_2), (5, .int x_5)]) C (dX4_bitAt 12 rfl) rfl (by decide) rfl ?_
      refine z_iinc (pc := 17) (i := 5) (v := x_5 + 1) (lv2 := [(5, .int (x_5 + 1)), (3, .long x2), (2, .int x_2)]) C (dX4_bitAt 13 rfl) 2 rfl (by rfl) (by decide) rfl ?_
      refine z_goto (pc := 20) (tgt := 5) C (dX4_bitAt 14 rfl) (by decide) ?_
      refine z_sub [2, 1, 0] rfl ?_
      exact ih x2 (x_5 + 1) m H
def wX4_bitAt (t : zT) (m : zM) (p1 : Int64) (p2 : Int32) (Q : Int32 → zM → Prop) : Prop := (∃ n7, wX4_bitAt_L5 t p2 Q (fun v3 m4 => (wX4_lowestBit t m4 v3 (fun r5 m6 => (Q r5 m6)))) n7 p1 0 m)
set_option maxHeartbeats 4000000 in
set_option maxRecDepth 20000 in
theorem kX4_bitAt {l : Launch} {t : zT} {m : zM} {p1 : Int64} {p2 : Int32} {Q : Int32 → zM → Prop} (H : wX4_bitAt t m p1 p2 Q) : zMet l yX4_bitAt cX4_bitAt 6 (some .int) 2 0 0 t m [.long p1, .int p2] (zPi t Q) := by
  refine zmet (by decide +kernel) (Nat.le_of_ble_eq_true rfl) ?_
  intro p e s mt args below meth c g C hr hm
  unfold wX4_bitAt at H
  have hu1 : ((0, 0) : Nat × Nat).1 ≤ 0 := Nat.le_refl 0
  have hu2 : ((0, 0) : Nat × Nat).2 ≤ 0 := Nat.le_refl 0
  refine z_lload_n (pc := 0) C (dX4_bitAt 0 rfl) rfl 0 rfl ?_
  refine z_lstore_n (pc := 1) (i := 3) (lv2 := [(3, .long p1), (0, .long p1), (2, .int p2)]) C (dX4_bitAt 1 rfl) rfl (by decide) rfl ?_
  refine z_iconst (pc := 2) (v := 0) C (dX4_bitAt 2 rfl) (by decide) ?_
  refine z_istore (pc := 3) (i := 5) (lv2 := [(5, .int 0), (3, .long p1), (0, .long p1), (2, .int p2)]) C (dX4_bitAt 3 rfl) (by decide) rfl ?_
  obtain ⟨n7, H⟩ := H
  refine z_sub [3, 1, 0] rfl ?_
  refine sX4_bitAt_L5 C hr hm hu1 hu2 (fun v3 m4 H => ?_) n7 p1 0 m H
  refine z_lload_n (pc := 23) C (dX4_bitAt 15 rfl) rfl 0 rfl ?_
  refine zc_Si (pc := 24) (rest := []) C YX4_lowestBit wl_X4_32 (kX4_lowestBit H) (by decide) (dX4_bitAt 16 rfl) rfl hu1 hu2 (Nat.le_of_ble_eq_true rfl) rfl (fun r5 m6 H => ?_)
  exact z_iret (pc := 27) C hr hu1 hu2 (dX4_bitAt 17 rfl) ⟨rfl, _, rfl, H⟩
def wX4_memberAt_L4 (t : zT) (a_0 : Nat) (Q : Int32 → zM → Prop) (k56 : zM → Prop) : Nat → Int32 → Int32 → zM → Prop
  | 0, _, _, _ => False
  | n + 1, x_2, x_3, m => (tK t a_0 = 4 ∧ (((gI m a_0 1) ≤ x_3 → (k56 m)) ∧ (¬ (gI m a_0 1) ≤ x_3 → (tK t (gR m a_0 0) = 15 ∧ (vp_in x_3 (tL t (gR m a_0 0)) ∧ (wJ13_bitCount_95d88 t m (gJ m (gR m a_0 0) x_3.toNatClampNeg) (fun r5 m6 => ((r5 ≤ x_2 → (wX4_memberAt_L4 t a_0 Q k56 n (x_2 - r5) (x_3 + 1) m6)) ∧ (¬ r5 ≤ x_2 → (tK t (gR m6 a_0 0) = 15 ∧ (vp_in x_3 (tL t (gR m6 a_0 0)) ∧ (wX4_bitAt t m6 (gJ m6 (gR m6 a_0 0) x_3.toNatClampNeg) x_2 (fun r10 m11 => (Q ((x_3 * (64 : Int32)) + r10) m11))))))))))))))
set_option maxHeartbeats 4000000 in
set_option maxRecDepth 20000 in
theorem sX4_memberAt_L4 {p : Program} {l : Launch} {e : Env} {s : State} {mt : MethodId} {args : Array Value} {below : List Frame} {meth : Method} {c : Code} {g : zG} {u : Nat × Nat} {mc ms : Nat} {t : zT} {a_0 : Nat} {Q : Int32 → zM → Prop} {k56 : zM → Prop} (C : zC p (zRm 3 mc ms) s mt args meth c g cX4_memberAt 5 yX4_memberAt.cls 3) (hr : meth.sig.returnType = (some .int)) (hm : meth.name = yX4_memberAt.name) (hu1 : u.1 ≤ mc) (hu2 : u.2 ≤ ms)
    (K56 : ∀ (m : zM), k56 m → zW p l e (zRm 3 mc ms) s mt args below meth c g (MQ below (zQc g (zPi t Q)) args s mc ms (zFar g)) u 5 t m 56 [] []) : ∀ (n : Nat) (x_2 : Int32) (x_3 : Int32) (m : zM), wX4_memberAt_L4 t a_0 Q k56 n x_2 x_3 m → zW p l e (zRm 3 mc ms) s mt args below meth c g (MQ below (zQc g (zPi t Q)) args s mc ms (zFar g)) u 5 t m 4 [(0, .ref a_0), (2, .int x_2), (3, .int x_3)] [] := by
  intro n
  induction n with
  | zero => intro x_2 x_3 m H; exact H.elim
  | succ n ih =>
    intro x_2 x_3 m H
    simp only [wX4_memberAt_L4] at H
    refine z_iload_n (pc := 4) C (dX4_memberAt 4 rfl) rfl 2 rfl ?_
    refine z_aload_n (pc := 5) C (dX4_memberAt 5 rfl) rfl 0 rfl ?_
    obtain ⟨h1, H⟩ := H
    refine z_getI (pc := 6) C zc4 h1 1 (by decide) rfl wf_X4_19 (dX4_memberAt 6 rfl) ?_
    refine z_icmp_ge (pc := 9) (tgt := 56) C (dX4_memberAt 7 rfl) (by decide) (fun c2 => ?_) (fun c2 => ?_)
    · replace H := H.1 c2
      refine z_sub [] rfl ?_
      exact K56 m H
    · replace H := H.2 c2
      refine z_aload_n (pc := 12) C (dX4_memberAt 8 rfl) rfl 0 rfl ?_
      refine z_getR (pc := 13) C zc4 h1 0 (by decide) rfl wf_X4_9 (dX4_memberAt 9 rfl) ?_
      refine z_iload_n (pc := 16) C (dX4_memberAt 10 rfl) rfl 2 rfl ?_
      obtain ⟨h3, H⟩ := H
      obtain ⟨h4, H⟩ := H
      refine z_laload (pc := 17) C h3 h4 (dX4_memberAt 11 rfl) ?_
      refine zc_Si (pc := 18) (rest := []) C YJ13_bitCount_95d88 wl_X4_22 (kJ13_bitCount_95d88 H) (by decide) (dX4_memberAt 12 rfl) rfl hu1 hu2 (Nat.le_of_ble_eq_true rfl) rfl (fun r5 m6 H => ?_)
      refine z_istore (pc := 21) (i := 4) (lv2 := [(4, .int r5), (0, .ref a_0), (2, .int x_2), (3, .int x_3)]) C (dX4_memberAt 13 rfl) (by decide) rfl ?_
      refine z_iload_n (pc := 23) C (dX4_memberAt 14 rfl) rfl 2 rfl ?_
      refine z_iload (pc := 24) C (dX4_memberAt 15 rfl) 0 rfl ?_
      refine z_icmp_ge (pc := 26) (tgt := 45) C (dX4_memberAt 16 rfl) (by decide) (fun c7 => ?_) (fun c7 => ?_)
      · replace H := H.1 c7
        refine z_iload_n (pc := 45) C (dX4_memberAt 28 rfl) rfl 2 rfl ?_
        refine z_iload (pc := 46) C (dX4_memberAt 29 rfl) 0 rfl ?_
        refine z_isub (pc := 48) C (dX4_memberAt 30 rfl) ?_
        refine z_istore_n (pc := 49) (i := 2) (lv2 := [(2, .int (x_2 - r5)), (4, .int r5), (0, .ref a_0), (3, .int x_3)]) C (dX4_memberAt 31 rfl) rfl (by decide) rfl ?_
        refine z_iinc (pc := 50) (i := 3) (v := x_3 + 1) (lv2 := [(3, .int (x_3 + 1)), (2, .int (x_2 - r5)), (4, .int r5), (0, .ref a_0)]) C (dX4_memberAt 32 rfl) 3 rfl (by rfl) (by decide) rfl ?_
        refine z_goto (pc := 53) (tgt := 4) C (dX4_memberAt 33 rfl) (by decide) ?_
        refine z_sub [3, 1, 0] rfl ?_
        exact ih (x_2 - r5) (x_3 + 1) m6 H
      · replace H := H.2 c7
        refine z_iload_n (pc := 29) C (dX4_memberAt 17 rfl) rfl 3 rfl ?_
        refine z_bipush (pc := 30) (v := 64) C (dX4_memberAt 18 rfl) (by decide) ?_
        refine z_imul (pc := 32) C (dX4_memberAt 19 rfl) ?_
        refine z_aload_n (pc := 33) C (dX4_memberAt 20 rfl) rfl 1 rfl ?_
        refine z_getR (pc := 34) C zc4 h1 0 (by decide) rfl wf_X4_9 (dX4_memberAt 21 rfl) ?_
        refine z_iload_n (pc := 37) C (dX4_memberAt 22 rfl) rfl 3 rfl ?_
        obtain ⟨h8, H⟩ := H
        obtain ⟨h9, H⟩ := H
        refine z_laload (pc := 38) C h8 h9 (dX4_memberAt 23 rfl) ?_
        refine z_iload_n (pc := 39) C (dX4_memberAt 24 rfl) rfl 2 rfl ?_
        refine zc_Si (pc := 40) (rest := [.int (x_3 * (64 : Int32))]) C YX4_bitAt wl_X4_28 (kX4_bitAt H) (by decide) (dX4_memberAt 25 rfl) rfl hu1 hu2 (Nat.le_of_ble_eq_true rfl) rfl (fun r10 m11 H => ?_)
        refine z_iadd (pc := 43) C (dX4_memberAt 26 rfl) ?_
        exact z_iret (pc := 44) C hr hu1 hu2 (dX4_memberAt 27 rfl) ⟨rfl, _, rfl, H⟩
def wX4_memberAt (t : zT) (m : zM) (a : Nat) (p1 : Int32) (Q : Int32 → zM → Prop) : Prop := (∃ n13, wX4_memberAt_L4 t a Q (fun m12 => (Q (-1) m12)) n13 p1 0 m)
set_option maxHeartbeats 4000000 in
set_option maxRecDepth 20000 in
theorem kX4_memberAt {l : Launch} {t : zT} {m : zM} {a : Nat} {p1 : Int32} {Q : Int32 → zM → Prop} (H : wX4_memberAt t m a p1 Q) : zMet l yX4_memberAt cX4_memberAt 5 (some .int) 3 0 0 t m [.ref a, .int p1] (zPi t Q) := by
  refine zmet (by decide +kernel) (Nat.le_of_ble_eq_true rfl) ?_
  intro p e s mt args below meth c g C hr hm
  unfold wX4_memberAt at H
  have hu1 : ((0, 0) : Nat × Nat).1 ≤ 0 := Nat.le_refl 0
  have hu2 : ((0, 0) : Nat × Nat).2 ≤ 0 := Nat.le_refl 0
  refine z_iload_n (pc := 0) C (dX4_memberAt 0 rfl) rfl 1 rfl ?_
  refine z_istore_n (pc := 1) (i := 2) (lv2 := [(2, .int p1), (0, .ref a), (1, .int p1)]) C (dX4_memberAt 1 rfl) rfl (by decide) rfl ?_
  refine z_iconst (pc := 2) (v := 0) C (dX4_memberAt 2 rfl) (by decide) ?_
  refine z_istore_n (pc := 3) (i := 3) (lv2 := [(3, .int 0), (2, .int p1), (0, .ref a), (1, .int p1)]) C (dX4_memberAt 3 rfl) rfl (by decide) rfl ?_
  obtain ⟨n13, H⟩ := H
  refine z_sub [2, 1, 0] rfl ?_
  refine sX4_memberAt_L4 C hr hm hu1 hu2 (fun m12 H => ?_) n13 p1 0 m H
  refine z_iconst (pc := 56) (v := (-1)) C (dX4_memberAt 34 rfl) (by decide) ?_
  exact z_iret (pc := 57) C hr hu1 hu2 (dX4_memberAt 35 rfl) ⟨rfl, _, rfl, H⟩
def wX5_allSayings (t : zT) (m : zM) (a : Nat) (Q : Int32 → zM → Prop) : Prop := (tK t a = 5 ∧ (Q (((1 : Int32) <<< ((gI m a 14) &&& 31)) - (1 : Int32)) m))
set_option maxHeartbeats 4000000 in
set_option maxRecDepth 20000 in
theorem kX5_allSayings {l : Launch} {t : zT} {m : zM} {a : Nat} {Q : Int32 → zM → Prop} (H : wX5_allSayings t m a Q) : zMet l yX5_allSayings cX5_allSayings 1 (some .int) 0 0 0 t m [.ref a] (zPi t Q) := by
  refine zmet (by decide +kernel) (Nat.le_of_ble_eq_true rfl) ?_
  intro p e s mt args below meth c g C hr hm
  unfold wX5_allSayings at H
  have hu1 : ((0, 0) : Nat × Nat).1 ≤ 0 := Nat.le_refl 0
  have hu2 : ((0, 0) : Nat × Nat).2 ≤ 0 := Nat.le_refl 0
  refine z_iconst (pc := 0) (v := 1) C (dX5_allSayings 0 rfl) (by decide) ?_
  refine z_aload_n (pc := 1) C (dX5_allSayings 1 rfl) rfl 0 rfl ?_
  obtain ⟨h1, H⟩ := H
  refine z_getI (pc := 2) C zc5 h1 14 (by decide) rfl wf_X5_73 (dX5_allSayings 2 rfl) ?_
  refine z_ishl (pc := 5) C (dX5_allSayings 3 rfl) ?_
  refine z_iconst (pc := 6) (v := 1) C (dX5_allSayings 4 rfl) (by decide) ?_
  refine z_isub (pc := 7) C (dX5_allSayings 5 rfl) ?_
  exact z_iret (pc := 8) C hr hu1 hu2 (dX5_allSayings 6 rfl) ⟨rfl, _, rfl, H⟩
def wX5_sayingsBy_L4 (t : zT) (a_0 : Nat) (x_1 : Int32) (Q : Int32 → zM → Prop) (k33 : Int32 → zM → Prop) : Nat → Int32 → Int32 → zM → Prop
  | 0, _, _, _ => False
  | n + 1, x_2, x_3, m => (tK t a_0 = 5 ∧ (((gI m a_0 14) ≤ x_3 → (k33 x_2 m)) ∧ (¬ (gI m a_0 14) ≤ x_3 → (tK t (gR m a_0 15) = 14 ∧ (vp_in x_3 (tL t (gR m a_0 15)) ∧ (∀ x5 : Int32, x5 = (x_2 ||| (((x_1 >>> ((gI m (gR m a_0 15) x_3.toNatClampNeg) &&& 31)) &&& (1 : Int32)) <<< (x_3 &&& 31))) → ((wX5_sayingsBy_L4 t a_0 x_1 Q k33 n x5 (x_3 + 1) m))))))))
set_option maxHeartbeats 4000000 in
set_option maxRecDepth 20000 in
theorem sX5_sayingsBy_L4 {p : Program} {l : Launch} {e : Env} {s : State} {mt : MethodId} {args : Array Value} {below : List Frame} {meth : Method} {c : Code} {g : zG} {u : Nat × Nat} {mc ms : Nat} {t : zT} {a_0 : Nat} {x_1 : Int32} {Q : Int32 → zM → Prop} {k33 : Int32 → zM → Prop} (C : zC p (zRm 0 mc ms) s mt args meth c g cX5_sayingsBy 4 yX5_sayingsBy.cls 0) (hr : meth.sig.returnType = (some .int)) (hm : meth.name = yX5_sayingsBy.name) (hu1 : u.1 ≤ mc) (hu2 : u.2 ≤ ms)
    (K33 : ∀ (v0 : Int32) (m : zM), k33 v0 m → zW p l e (zRm 0 mc ms) s mt args below meth c g (MQ below (zQc g (zPi t Q)) args s mc ms (zFar g)) u 4 t m 33 [(2, .int v0)] []) : ∀ (n : Nat) (x_2 : Int32) (x_3 : Int32) (m : zM), wX5_sayingsBy_L4 t a_0 x_1 Q k33 n x_2 x_3 m → zW p l e (zRm 0 mc ms) s mt args below meth c g (MQ below (zQc g (zPi t Q)) args s mc ms (zFar g)) u 4 t m 4 [(0, .ref a_0), (1, .int x_1), (2, .int x_2), (3, .int x_3)] [] := by
  intro n
  induction n with
  | zero => intro x_2 x_3 m H; exact H.elim
  | succ n ih =>
    intro x_2 x_3 m H
    simp only [wX5_sayingsBy_L4] at H
    refine z_iload_n (pc := 4) C (dX5_sayingsBy 4 rfl) rfl 3 rfl ?_
    refine z_aload_n (pc := 5) C (dX5_sayingsBy 5 rfl) rfl 0 rfl ?_
    obtain ⟨h1, H⟩ := H
    refine z_getI (pc := 6) C zc5 h1 14 (by decide) rfl wf_X5_73 (dX5_sayingsBy 6 rfl) ?_
    refine z_icmp_ge (pc := 9) (tgt := 33) C (dX5_sayingsBy 7 rfl) (by decide) (fun c2 => ?_) (fun c2 => ?_)
    · replace H := H.1 c2
      refine z_sub [2] rfl ?_
      exact K33 x_2 m H
    · replace H := H.2 c2
      refine z_iload_n (pc := 12) C (dX5_sayingsBy 8 rfl) rfl 2 rfl ?_
      refine z_iload_n (pc := 13) C (dX5_sayingsBy 9 rfl) rfl 1 rfl ?_
      refine z_aload_n (pc := 14) C (dX5_sayingsBy 10 rfl) rfl 0 rfl ?_
      refine z_getR (pc := 15) C zc5 h1 15 (by decide) rfl wf_X5_33 (dX5_sayingsBy 11 rfl) ?_
      refine z_iload_n (pc := 18) C (dX5_sayingsBy 12 rfl) rfl 3 rfl ?_
      obtain ⟨h3, H⟩ := H
      obtain ⟨h4, H⟩ := H
      refine z_iaload (pc := 19) C h3 h4 (dX5_sayingsBy 13 rfl) ?_
      refine z_ishr (pc := 20) C (dX5_sayingsBy 14 rfl) ?_
      refine z_iconst (pc := 21) (v := 1) C (dX5_sayingsBy 15 rfl) (by decide) ?_
      refine z_iand (pc := 22) C (dX5_sayingsBy 16 rfl) ?_
      refine z_iload_n (pc := 23) C (dX5_sayingsBy 17 rfl) rfl 3 rfl ?_
      refine z_ishl (pc := 24) C (dX5_sayingsBy 18 rfl) ?_
      refine z_ior (pc := 25) C (dX5_sayingsBy 19 rfl) ?_
      refine z_int (fun x5 hx5 => ?_)
      replace H := H x5 hx5
      refine z_istore_n (pc := 26) (i := 2) (lv2 := [(2, .int x5), (0, .ref a_0), (1, .int x_1), (3, .int x_3)]) C (dX5_sayingsBy 20 rfl) rfl (by decide) rfl ?_
      refine z_iinc (pc := 27) (i := 3) (v := x_3 + 1) (lv2 := [(3, .int (x_3 + 1)), (2, .int x5), (0, .ref a_0), (1, .int x_1)]) C (dX5_sayingsBy 21 rfl) 3 rfl (by rfl) (by decide) rfl ?_
      refine z_goto (pc := 30) (tgt := 4) C (dX5_sayingsBy 22 rfl) (by decide) ?_
      refine z_sub [2, 3, 1, 0] rfl ?_
      exact ih x5 (x_3 + 1) m H
def wX5_sayingsBy (t : zT) (m : zM) (a : Nat) (p1 : Int32) (Q : Int32 → zM → Prop) : Prop := (∃ n8, wX5_sayingsBy_L4 t a p1 Q (fun v6 m7 => (Q v6 m7)) n8 0 0 m)
set_option maxHeartbeats 4000000 in
set_option maxRecDepth 20000 in
theorem kX5_sayingsBy {l : Launch} {t : zT} {m : zM} {a : Nat} {p1 : Int32} {Q : Int32 → zM → Prop} (H : wX5_sayingsBy t m a p1 Q) : zMet l yX5_sayingsBy cX5_sayingsBy 4 (some .int) 0 0 0 t m [.ref a, .int p1] (zPi t Q) := by
  refine zmet (by decide +kernel) (Nat.le_of_ble_eq_true rfl) ?_
  intro p e s mt args below meth c g C hr hm
  unfold wX5_sayingsBy at H
  have hu1 : ((0, 0) : Nat × Nat).1 ≤ 0 := Nat.le_refl 0
  have hu2 : ((0, 0) : Nat × Nat).2 ≤ 0 := Nat.le_refl 0
  refine z_iconst (pc := 0) (v := 0) C (dX5_sayingsBy 0 rfl) (by decide) ?_
  refine z_istore_n (pc := 1) (i := 2) (lv2 := [(2, .int 0), (0, .ref a), (1, .int p1)]) C (dX5_sayingsBy 1 rfl) rfl (by decide) rfl ?_
  refine z_iconst (pc := 2) (v := 0) C (dX5_sayingsBy 2 rfl) (by decide) ?_
  refine z_istore_n (pc := 3) (i := 3) (lv2 := [(3, .int 0), (2, .int 0), (0, .ref a), (1, .int p1)]) C (dX5_sayingsBy 3 rfl) rfl (by decide) rfl ?_
  obtain ⟨n8, H⟩ := H
  refine z_sub [2, 3, 1, 0] rfl ?_
  refine sX5_sayingsBy_L4 C hr hm hu1 hu2 (fun v6 m7 H => ?_) n8 0 0 m H
  refine z_iload_n (pc := 33) C (dX5_sayingsBy 23 rfl) rfl 0 rfl ?_
  exact z_iret (pc := 34) C hr hu1 hu2 (dX5_sayingsBy 24 rfl) ⟨rfl, _, rfl, H⟩
def wX5_firstSaying_J32 (t : zT) (m : zM) (a_0 : Nat) (x_1 : Int32) (x_2 : Int32) (x_3 : Int32) (Q : Int32 → zM → Prop) (r2 : Int32 → zM → Prop) : Prop := (r2 (x_3 + 1) m)
set_option maxHeartbeats 4000000 in
set_option maxRecDepth 20000 in
theorem sX5_firstSaying_J32 {p : Program} {l : Launch} {e : Env} {s : State} {mt : MethodId} {args : Array Value} {below : List Frame} {meth : Method} {c : Code} {g : zG} {u : Nat × Nat} {mc ms : Nat} {t : zT} {m : zM} {a_0 : Nat} {x_1 : Int32} {x_2 : Int32} {x_3 : Int32} {Q : Int32 → zM → Prop} {r2 : Int32 → zM → Prop} (C : zC p (zRm 0 mc ms) s mt args meth c g cX5_firstSaying 4 yX5_firstSaying.cls 0) (hr : meth.sig.returnType = (some .int)) (hm : meth.name = yX5_firstSaying.name) (hu1 : u.1 ≤ mc) (hu2 : u.2 ≤ ms)
    (R2 : ∀ (v0 : Int32) (m : zM), r2 v0 m → zW p l e (zRm 0 mc ms) s mt args below meth c g (MQ below (zQc g (zPi t Q)) args s mc ms (zFar g)) u 4 t m 2 [(0, .ref a_0), (1, .int x_1), (2, .int x_2), (3, .int v0)] []) (H : wX5_firstSaying_J32 t m a_0 x_1 x_2 x_3 Q r2) : zW p l e (zRm 0 mc ms) s mt args below meth c g (MQ below (zQc g (zPi t Q)) args s mc ms (zFar g)) u 4 t m 32 [(0, .ref a_0), (1, .int x_1), (2, .int x_2), (3, .int x_3)] [] := by
  unfold wX5_firstSaying_J32 at H
  refine z_iinc (pc := 32) (i := 3) (v := x_3 + 1) (lv2 := [(3, .int (x_3 + 1)), (0, .ref a_0), (1, .int x_1), (2, .int x_2)]) C (dX5_firstSaying 20 rfl) 3 rfl (by rfl) (by decide) rfl ?_
  refine z_goto (pc := 35) (tgt := 2) C (dX5_firstSaying 21 rfl) (by decide) ?_
  refine z_sub [1, 2, 3, 0] rfl ?_
  exact R2 (x_3 + 1) m H
def wX5_firstSaying_L2 (t : zT) (a_0 : Nat) (x_1 : Int32) (x_2 : Int32) (Q : Int32 → zM → Prop) (k38 : zM → Prop) : Nat → Int32 → zM → Prop
  | 0, _, _ => False
  | n + 1, x_3, m => (tK t a_0 = 5 ∧ (((gI m a_0 14) ≤ x_3 → (k38 m)) ∧ (¬ (gI m a_0 14) ≤ x_3 → (tK t (gR m a_0 15) = 14 ∧ (vp_in x_3 (tL t (gR m a_0 15)) ∧ (((gI m (gR m a_0 15) x_3.toNatClampNeg) = x_1 → (tK t (gR m a_0 16) = 14 ∧ (vp_in x_3 (tL t (gR m a_0 16)) ∧ (((gI m (gR m a_0 16) x_3.toNatClampNeg) = x_2 → (Q x_3 m)) ∧ (¬ (gI m (gR m a_0 16) x_3.toNatClampNeg) = x_2 → (wX5_firstSaying_J32 t m a_0 x_1 x_2 x_3 Q (wX5_firstSaying_L2 t a_0 x_1 x_2 Q k38 n))))))) ∧ (¬ (gI m (gR m a_0 15) x_3.toNatClampNeg) = x_1 → (wX5_firstSaying_J32 t m a_0 x_1 x_2 x_3 Q (wX5_firstSaying_L2 t a_0 x_1 x_2 Q k38 n)))))))))
set_option maxHeartbeats 4000000 in
set_option maxRecDepth 20000 in
theorem sX5_firstSaying_L2 {p : Program} {l : Launch} {e : Env} {s : State} {mt : MethodId} {args : Array Value} {below : List Frame} {meth : Method} {c : Code} {g : zG} {u : Nat × Nat} {mc ms : Nat} {t : zT} {a_0 : Nat} {x_1 : Int32} {x_2 : Int32} {Q : Int32 → zM → Prop} {k38 : zM → Prop} (C : zC p (zRm 0 mc ms) s mt args meth c g cX5_firstSaying 4 yX5_firstSaying.cls 0) (hr : meth.sig.returnType = (some .int)) (hm : meth.name = yX5_firstSaying.name) (hu1 : u.1 ≤ mc) (hu2 : u.2 ≤ ms)
    (K38 : ∀ (m : zM), k38 m → zW p l e (zRm 0 mc ms) s mt args below meth c g (MQ below (zQc g (zPi t Q)) args s mc ms (zFar g)) u 4 t m 38 [] []) : ∀ (n : Nat) (x_3 : Int32) (m : zM), wX5_firstSaying_L2 t a_0 x_1 x_2 Q k38 n x_3 m → zW p l e (zRm 0 mc ms) s mt args below meth c g (MQ below (zQc g (zPi t Q)) args s mc ms (zFar g)) u 4 t m 2 [(0, .ref a_0), (1, .int x_1), (2, .int x_2), (3, .int x_3)] [] := by
  intro n
  induction n with
  | zero => intro x_3 m H; exact H.elim
  | succ n ih =>
    intro x_3 m H
    simp only [wX5_firstSaying_L2] at H
    refine z_iload_n (pc := 2) C (dX5_firstSaying 2 rfl) rfl 3 rfl ?_
    refine z_aload_n (pc := 3) C (dX5_firstSaying 3 rfl) rfl 0 rfl ?_
    obtain ⟨h1, H⟩ := H
    refine z_getI (pc := 4) C zc5 h1 14 (by decide) rfl wf_X5_73 (dX5_firstSaying 4 rfl) ?_
    refine z_icmp_ge (pc := 7) (tgt := 38) C (dX5_firstSaying 5 rfl) (by decide) (fun c2 => ?_) (fun c2 => ?_)
    · replace H := H.1 c2
      refine z_sub [] rfl ?_
      exact K38 m H
    · replace H := H.2 c2
      refine z_aload_n (pc := 10) C (dX5_firstSaying 6 rfl) rfl 0 rfl ?_
      refine z_getR (pc := 11) C zc5 h1 15 (by decide) rfl wf_X5_33 (dX5_firstSaying 7 rfl) ?_
      refine z_iload_n (pc := 14) C (dX5_firstSaying 8 rfl) rfl 3 rfl ?_
      obtain ⟨h3, H⟩ := H
      obtain ⟨h4, H⟩ := H
      refine z_iaload (pc := 15) C h3 h4 (dX5_firstSaying 9 rfl) ?_
      refine z_iload_n (pc := 16) C (dX5_firstSaying 10 rfl) rfl 1 rfl ?_
      refine z_icmp_ne (pc := 17) (tgt := 32) C (dX5_firstSaying 11 rfl) (by decide) (fun c5 => ?_) (fun c5 => ?_)
      · replace H := H.2 c5
        refine z_sub [0, 1, 2, 3] rfl ?_
        exact sX5_firstSaying_J32 C hr hm hu1 hu2 ih H
      · replace H := H.1 c5
        refine z_aload_n (pc := 20) C (dX5_firstSaying 12 rfl) rfl 0 rfl ?_
        refine z_getR (pc := 21) C zc5 h1 16 (by decide) rfl wf_X5_36 (dX5_firstSaying 13 rfl) ?_
        refine z_iload_n (pc := 24) C (dX5_firstSaying 14 rfl) rfl 3 rfl ?_
        obtain ⟨h6, H⟩ := H
        obtain ⟨h7, H⟩ := H
        refine z_iaload (pc := 25) C h6 h7 (dX5_firstSaying 15 rfl) ?_
        refine z_iload_n (pc := 26) C (dX5_firstSaying 16 rfl) rfl 2 rfl ?_
        refine z_icmp_ne (pc := 27) (tgt := 32) C (dX5_firstSaying 17 rfl) (by decide) (fun c8 => ?_) (fun c8 => ?_)
        · replace H := H.2 c8
          refine z_sub [0, 1, 2, 3] rfl ?_
          exact sX5_firstSaying_J32 C hr hm hu1 hu2 ih H
        · replace H := H.1 c8
          refine z_iload_n (pc := 30) C (dX5_firstSaying 18 rfl) rfl 3 rfl ?_
          exact z_iret (pc := 31) C hr hu1 hu2 (dX5_firstSaying 19 rfl) ⟨rfl, _, rfl, H⟩
def wX5_firstSaying (t : zT) (m : zM) (a : Nat) (p1 : Int32) (p2 : Int32) (Q : Int32 → zM → Prop) : Prop := (∃ n10, wX5_firstSaying_L2 t a p1 p2 Q (fun m9 => (Q (-1) m9)) n10 0 m)
set_option maxHeartbeats 4000000 in
set_option maxRecDepth 20000 in
theorem kX5_firstSaying {l : Launch} {t : zT} {m : zM} {a : Nat} {p1 : Int32} {p2 : Int32} {Q : Int32 → zM → Prop} (H : wX5_firstSaying t m a p1 p2 Q) : zMet l yX5_firstSaying cX5_firstSaying 4 (some .int) 0 0 0 t m [.ref a, .int p1, .int p2] (zPi t Q) := by
  refine zmet (by decide +kernel) (Nat.le_of_ble_eq_true rfl) ?_
  intro p e s mt args below meth c g C hr hm
  unfold wX5_firstSaying at H
  have hu1 : ((0, 0) : Nat × Nat).1 ≤ 0 := Nat.le_refl 0
  have hu2 : ((0, 0) : Nat × Nat).2 ≤ 0 := Nat.le_refl 0
  refine z_iconst (pc := 0) (v := 0) C (dX5_firstSaying 0 rfl) (by decide) ?_
  refine z_istore_n (pc := 1) (i := 3) (lv2 := [(3, .int 0), (0, .ref a), (1, .int p1), (2, .int p2)]) C (dX5_firstSaying 1 rfl) rfl (by decide) rfl ?_
  obtain ⟨n10, H⟩ := H
  refine z_sub [1, 2, 3, 0] rfl ?_
  refine sX5_firstSaying_L2 C hr hm hu1 hu2 (fun m9 H => ?_) n10 0 m H
  refine z_iconst (pc := 38) (v := (-1)) C (dX5_firstSaying 22 rfl) (by decide) ?_
  exact z_iret (pc := 39) C hr hu1 hu2 (dX5_firstSaying 23 rfl) ⟨rfl, _, rfl, H⟩
def wX5_withOneMore (t : zT) (m : zM) (a : Nat) (p1 : Int32) (p2 : Int32) (p3 : Int32) (Q : Int32 → zM → Prop) : Prop := (tK t a = 5 ∧ (((17 : Int32) ≤ (gI m a 14) → (Q (((2 : Int32) <<< ((gI m a 14) &&& 31)) - (1 : Int32)) m)) ∧ (¬ (17 : Int32) ≤ (gI m a 14) → (tK t (gR m a 15) = 14 ∧ (vp_in (gI m a 14) (tL t (gR m a 15)) ∧ (tK t (gR m a 16) = 14 ∧ (vp_in (gI (pI m (gR m a 15) ((gI m a 14).toNatClampNeg) p1) a 14) (tL t (gR m a 16)) ∧ (tK t (gR m a 17) = 14 ∧ (vp_in (gI (pI (pI m (gR m a 15) ((gI m a 14).toNatClampNeg) p1) (gR m a 16) ((gI (pI m (gR m a 15) ((gI m a 14).toNatClampNeg) p1) a 14).toNatClampNeg) p2) a 14) (tL t (gR m a 17)) ∧ (Q (((2 : Int32) <<< ((gI (pI (pI (pI m (gR m a 15) ((gI m a 14).toNatClampNeg) p1) (gR m a 16) ((gI (pI m (gR m a 15) ((gI m a 14).toNatClampNeg) p1) a 14).toNatClampNeg) p2) (gR m a 17) ((gI (pI (pI m (gR m a 15) ((gI m a 14).toNatClampNeg) p1) (gR m a 16) ((gI (pI m (gR m a 15) ((gI m a 14).toNatClampNeg) p1) a 14).toNatClampNeg) p2) a 14).toNatClampNeg) p3) a 14) &&& 31)) - (1 : Int32)) (pI (pI (pI m (gR m a 15) ((gI m a 14).toNatClampNeg) p1) (gR m a 16) ((gI (pI m (gR m a 15) ((gI m a 14).toNatClampNeg) p1) a 14).toNatClampNeg) p2) (gR m a 17) ((gI (pI (pI m (gR m a 15) ((gI m a 14).toNatClampNeg) p1) (gR m a 16) ((gI (pI m (gR m a 15) ((gI m a 14).toNatClampNeg) p1) a 14).toNatClampNeg) p2) a 14).toNatClampNeg) p3)))))))))))
set_option maxHeartbeats 4000000 in
set_option maxRecDepth 20000 in
theorem kX5_withOneMore {l : Launch} {t : zT} {m : zM} {a : Nat} {p1 : Int32} {p2 : Int32} {p3 : Int32} {Q : Int32 → zM → Prop} (H : wX5_withOneMore t m a p1 p2 p3 Q) : zMet l yX5_withOneMore cX5_withOneMore 4 (some .int) 0 0 0 t m [.ref a, .int p1, .int p2, .int p3] (zPi t Q) := by
  refine zmet (by decide +kernel) (Nat.le_of_ble_eq_true rfl) ?_
  intro p e s mt args below meth c g C hr hm
  unfold wX5_withOneMore at H
  have hu1 : ((0, 0) : Nat × Nat).1 ≤ 0 := Nat.le_refl 0
  have hu2 : ((0, 0) : Nat × Nat).2 ≤ 0 := Nat.le_refl 0
  refine z_aload_n (pc := 0) C (dX5_withOneMore 0 rfl) rfl 0 rfl ?_
  obtain ⟨h1, H⟩ := H
  refine z_getI (pc := 1) C zc5 h1 14 (by decide) rfl wf_X5_73 (dX5_withOneMore 1 rfl) ?_
  refine z_bipush (pc := 4) (v := 17) C (dX5_withOneMore 2 rfl) (by decide) ?_
  refine z_icmp_ge (pc := 6) (tgt := 39) C (dX5_withOneMore 3 rfl) (by decide) (fun c2 => ?_) (fun c2 => ?_)
  · replace H := H.1 c2
    refine z_iconst (pc := 39) (v := 2) C (dX5_withOneMore 22 rfl) (by decide) ?_
    refine z_aload_n (pc := 40) C (dX5_withOneMore 23 rfl) rfl 0 rfl ?_
    refine z_getI (pc := 41) C zc5 h1 14 (by decide) rfl wf_X5_73 (dX5_withOneMore 24 rfl) ?_
    refine z_ishl (pc := 44) C (dX5_withOneMore 25 rfl) ?_
    refine z_iconst (pc := 45) (v := 1) C (dX5_withOneMore 26 rfl) (by decide) ?_
    refine z_isub (pc := 46) C (dX5_withOneMore 27 rfl) ?_
    exact z_iret (pc := 47) C hr hu1 hu2 (dX5_withOneMore 28 rfl) ⟨rfl, _, rfl, H⟩
  · replace H := H.2 c2
    refine z_aload_n (pc := 9) C (dX5_withOneMore 4 rfl) rfl 0 rfl ?_
    refine z_getR (pc := 10) C zc5 h1 15 (by decide) rfl wf_X5_33 (dX5_withOneMore 5 rfl) ?_
    refine z_aload_n (pc := 13) C (dX5_withOneMore 6 rfl) rfl 0 rfl ?_
    refine z_getI (pc := 14) C zc5 h1 14 (by decide) rfl wf_X5_73 (dX5_withOneMore 7 rfl) ?_
    refine z_iload_n (pc := 17) C (dX5_withOneMore 8 rfl) rfl 1 rfl ?_
    obtain ⟨h3, H⟩ := H
    obtain ⟨h4, H⟩ := H
    refine z_iastore (pc := 18) C h3 h4 (dX5_withOneMore 9 rfl) ?_
    refine z_aload_n (pc := 19) C (dX5_withOneMore 10 rfl) rfl 0 rfl ?_
    refine z_getR (pc := 20) C zc5 h1 16 (by decide) rfl wf_X5_36 (dX5_withOneMore 11 rfl) ?_
    refine z_aload_n (pc := 23) C (dX5_withOneMore 12 rfl) rfl 0 rfl ?_
    refine z_getI (pc := 24) C zc5 h1 14 (by decide) rfl wf_X5_73 (dX5_withOneMore 13 rfl) ?_
    refine z_iload_n (pc := 27) C (dX5_withOneMore 14 rfl) rfl 2 rfl ?_
    obtain ⟨h5, H⟩ := H
    obtain ⟨h6, H⟩ := H
    refine z_iastore (pc := 28) C h5 h6 (dX5_withOneMore 15 rfl) ?_
    refine z_aload_n (pc := 29) C (dX5_withOneMore 16 rfl) rfl 0 rfl ?_
    refine z_getR (pc := 30) C zc5 h1 17 (by decide) rfl wf_X5_39 (dX5_withOneMore 17 rfl) ?_
    refine z_aload_n (pc := 33) C (dX5_withOneMore 18 rfl) rfl 0 rfl ?_
    refine z_getI (pc := 34) C zc5 h1 14 (by decide) rfl wf_X5_73 (dX5_withOneMore 19 rfl) ?_
    refine z_iload_n (pc := 37) C (dX5_withOneMore 20 rfl) rfl 3 rfl ?_
    obtain ⟨h7, H⟩ := H
    obtain ⟨h8, H⟩ := H
    refine z_iastore (pc := 38) C h7 h8 (dX5_withOneMore 21 rfl) ?_
    refine z_iconst (pc := 39) (v := 2) C (dX5_withOneMore 22 rfl) (by decide) ?_
    refine z_aload_n (pc := 40) C (dX5_withOneMore 23 rfl) rfl 0 rfl ?_
    refine z_getI (pc := 41) C zc5 h1 14 (by decide) rfl wf_X5_73 (dX5_withOneMore 24 rfl) ?_
    refine z_ishl (pc := 44) C (dX5_withOneMore 25 rfl) ?_
    refine z_iconst (pc := 45) (v := 1) C (dX5_withOneMore 26 rfl) (by decide) ?_
    refine z_isub (pc := 46) C (dX5_withOneMore 27 rfl) ?_
    exact z_iret (pc := 47) C hr hu1 hu2 (dX5_withOneMore 28 rfl) ⟨rfl, _, rfl, H⟩
def wX6_leastIn_L2 (t : zT) (a_0 : Nat) (y_1 : Int64) (Q : Int32 → zM → Prop) (k28 : zM → Prop) : Nat → Int32 → zM → Prop
  | 0, _, _ => False
  | n + 1, x_3, m => (((8 : Int32) ≤ x_3 → (k28 m)) ∧ (¬ (8 : Int32) ≤ x_3 → (tK t a_0 = 6 ∧ (wX6_atMost t m a_0 x_3 (fun r3 m4 => (((lg_cmp (y_1 &&& r3) 0) = 0 → (wX6_leastIn_L2 t a_0 y_1 Q k28 n (x_3 + 1) m4)) ∧ (¬ (lg_cmp (y_1 &&& r3) 0) = 0 → (Q x_3 m4))))))))
set_option maxHeartbeats 4000000 in
set_option maxRecDepth 20000 in
theorem sX6_leastIn_L2 {p : Program} {l : Launch} {e : Env} {s : State} {mt : MethodId} {args : Array Value} {below : List Frame} {meth : Method} {c : Code} {g : zG} {u : Nat × Nat} {mc ms : Nat} {t : zT} {a_0 : Nat} {y_1 : Int64} {Q : Int32 → zM → Prop} {k28 : zM → Prop} (C : zC p (zRm 1 mc ms) s mt args meth c g cX6_leastIn 4 yX6_leastIn.cls 1) (hr : meth.sig.returnType = (some .int)) (hm : meth.name = yX6_leastIn.name) (hu1 : u.1 ≤ mc) (hu2 : u.2 ≤ ms)
    (K28 : ∀ (m : zM), k28 m → zW p l e (zRm 1 mc ms) s mt args below meth c g (MQ below (zQc g (zPi t Q)) args s mc ms (zFar g)) u 4 t m 28 [] []) : ∀ (n : Nat) (x_3 : Int32) (m : zM), wX6_leastIn_L2 t a_0 y_1 Q k28 n x_3 m → zW p l e (zRm 1 mc ms) s mt args below meth c g (MQ below (zQc g (zPi t Q)) args s mc ms (zFar g)) u 4 t m 2 [(0, .ref a_0), (1, .long y_1), (3, .int x_3)] [] := by
  intro n
  induction n with
  | zero => intro x_3 m H; exact H.elim
  | succ n ih =>
    intro x_3 m H
    simp only [wX6_leastIn_L2] at H
    refine z_iload_n (pc := 2) C (dX6_leastIn 2 rfl) rfl 2 rfl ?_
    refine z_bipush (pc := 3) (v := 8) C (dX6_leastIn 3 rfl) (by decide) ?_
    refine z_icmp_ge (pc := 5) (tgt := 28) C (dX6_leastIn 4 rfl) (by decide) (fun c1 => ?_) (fun c1 => ?_)
    · replace H := H.1 c1
      refine z_sub [] rfl ?_
      exact K28 m H
    · replace H := H.2 c1
      refine z_lload_n (pc := 8) C (dX6_leastIn 5 rfl) rfl 1 rfl ?_
      refine z_aload_n (pc := 9) C (dX6_leastIn 6 rfl) rfl 0 rfl ?_
      refine z_iload_n (pc := 10) C (dX6_leastIn 7 rfl) rfl 2 rfl ?_
      obtain ⟨h2, H⟩ := H
      refine zc_Vl (pc := 11) (rest := [.long y_1]) C YX6_atMost wl_X6_17 (kX6_atMost H) (by decide) h2 rfl (by decide) (dX6_leastIn 8 rfl) rfl hu1 hu2 (Nat.le_of_ble_eq_true rfl) rfl (fun r3 m4 H => ?_)
      refine z_land (pc := 14) C (dX6_leastIn 9 rfl) ?_
      refine z_lconst (pc := 15) (v := 0) C (dX6_leastIn 10 rfl) (by decide) ?_
      refine z_lcmp (pc := 16) C (dX6_leastIn 11 rfl) ?_
      refine z_if_eq (pc := 17) (tgt := 22) C (dX6_leastIn 12 rfl) (by decide) (fun c5 => ?_) (fun c5 => ?_)
      · replace H := H.1 c5
        refine z_iinc (pc := 22) (i := 3) (v := x_3 + 1) (lv2 := [(3, .int (x_3 + 1)), (0, .ref a_0), (1, .long y_1)]) C (dX6_leastIn 15 rfl) 2 rfl (by rfl) (by decide) rfl ?_
        refine z_goto (pc := 25) (tgt := 2) C (dX6_leastIn 16 rfl) (by decide) ?_
        refine z_sub [1, 2, 0] rfl ?_
        exact ih (x_3 + 1) m4 H
      · replace H := H.2 c5
        refine z_iload_n (pc := 20) C (dX6_leastIn 13 rfl) rfl 2 rfl ?_
        exact z_iret (pc := 21) C hr hu1 hu2 (dX6_leastIn 14 rfl) ⟨rfl, _, rfl, H⟩
def wX6_leastIn (t : zT) (m : zM) (a : Nat) (p1 : Int64) (Q : Int32 → zM → Prop) : Prop := (∃ n7, wX6_leastIn_L2 t a p1 Q (fun m6 => (Q 8 m6)) n7 0 m)
set_option maxHeartbeats 4000000 in
set_option maxRecDepth 20000 in
theorem kX6_leastIn {l : Launch} {t : zT} {m : zM} {a : Nat} {p1 : Int64} {Q : Int32 → zM → Prop} (H : wX6_leastIn t m a p1 Q) : zMet l yX6_leastIn cX6_leastIn 4 (some .int) 1 0 0 t m [.ref a, .long p1] (zPi t Q) := by
  refine zmet (by decide +kernel) (Nat.le_of_ble_eq_true rfl) ?_
  intro p e s mt args below meth c g C hr hm
  unfold wX6_leastIn at H
  have hu1 : ((0, 0) : Nat × Nat).1 ≤ 0 := Nat.le_refl 0
  have hu2 : ((0, 0) : Nat × Nat).2 ≤ 0 := Nat.le_refl 0
  refine z_iconst (pc := 0) (v := 0) C (dX6_leastIn 0 rfl) (by decide) ?_
  refine z_istore_n (pc := 1) (i := 3) (lv2 := [(3, .int 0), (0, .ref a), (1, .long p1)]) C (dX6_leastIn 1 rfl) rfl (by decide) rfl ?_
  obtain ⟨n7, H⟩ := H
  refine z_sub [1, 2, 0] rfl ?_
  refine sX6_leastIn_L2 C hr hm hu1 hu2 (fun m6 H => ?_) n7 0 m H
  refine z_bipush (pc := 28) (v := 8) C (dX6_leastIn 17 rfl) (by decide) ?_
  exact z_iret (pc := 30) C hr hu1 hu2 (dX6_leastIn 18 rfl) ⟨rfl, _, rfl, H⟩
def wX6_mostIn_L2 (t : zT) (a_0 : Nat) (y_1 : Int64) (Q : Int32 → zM → Prop) (k32 : zM → Prop) : Nat → Int32 → zM → Prop
  | 0, _, _ => False
  | n + 1, x_3, m => (((8 : Int32) ≤ x_3 → (k32 m)) ∧ (¬ (8 : Int32) ≤ x_3 → (tK t a_0 = 6 ∧ (wX6_atMost t m a_0 x_3 (fun r3 m4 => (((lg_cmp (y_1 &&& (r3 ^^^ (-1))) 0) = 0 → (Q x_3 m4)) ∧ (¬ (lg_cmp (y_1 &&& (r3 ^^^ (-1))) 0) = 0 → (wX6_mostIn_L2 t a_0 y_1 Q k32 n (x_3 + 1) m4))))))))
set_option maxHeartbeats 4000000 in
set_option maxRecDepth 20000 in
theorem sX6_mostIn_L2 {p : Program} {l : Launch} {e : Env} {s : State} {mt : MethodId} {args : Array Value} {below : List Frame} {meth : Method} {c : Code} {g : zG} {u : Nat × Nat} {mc ms : Nat} {t : zT} {a_0 : Nat} {y_1 : Int64} {Q : Int32 → zM → Prop} {k32 : zM → Prop} (C : zC p (zRm 1 mc ms) s mt args meth c g cX6_mostIn 4 yX6_mostIn.cls 1) (hr : meth.sig.returnType = (some .int)) (hm : meth.name = yX6_mostIn.name) (hu1 : u.1 ≤ mc) (hu2 : u.2 ≤ ms)
    (K32 : ∀ (m : zM), k32 m → zW p l e (zRm 1 mc ms) s mt args below meth c g (MQ below (zQc g (zPi t Q)) args s mc ms (zFar g)) u 4 t m 32 [] []) : ∀ (n : Nat) (x_3 : Int32) (m : zM), wX6_mostIn_L2 t a_0 y_1 Q k32 n x_3 m → zW p l e (zRm 1 mc ms) s mt args below meth c g (MQ below (zQc g (zPi t Q)) args s mc ms (zFar g)) u 4 t m 2 [(0, .ref a_0), (1, .long y_1), (3, .int x_3)] [] := by
  intro n
  induction n with
  | zero => intro x_3 m H; exact H.elim
  | succ n ih =>
    intro x_3 m H
    simp only [wX6_mostIn_L2] at H
    refine z_iload_n (pc := 2) C (dX6_mostIn 2 rfl) rfl 2 rfl ?_
    refine z_bipush (pc := 3) (v := 8) C (dX6_mostIn 3 rfl) (by decide) ?_
    refine z_icmp_ge (pc := 5) (tgt := 32) C (dX6_mostIn 4 rfl) (by decide) (fun c1 => ?_) (fun c1 => ?_)
    · replace H := H.1 c1
      refine z_sub [] rfl ?_
      exact K32 m H
    · replace H := H.2 c1
      refine z_lload_n (pc := 8) C (dX6_mostIn 5 rfl) rfl 1 rfl ?_
      refine z_aload_n (pc := 9) C (dX6_mostIn 6 rfl) rfl 0 rfl ?_
      refine z_iload_n (pc := 10) C (dX6_mostIn 7 rfl) rfl 2 rfl ?_
      obtain ⟨h2, H⟩ := H
      refine zc_Vl (pc := 11) (rest := [.long y_1]) C YX6_atMost wl_X6_17 (kX6_atMost H) (by decide) h2 rfl (by decide) (dX6_mostIn 8 rfl) rfl hu1 hu2 (Nat.le_of_ble_eq_true rfl) rfl (fun r3 m4 H => ?_)
      refine z_ldc2 (pc := 14) C wj_X6_15 (dX6_mostIn 9 rfl) ?_
      refine z_lxor (pc := 17) C (dX6_mostIn 10 rfl) ?_
      refine z_land (pc := 18) C (dX6_mostIn 11 rfl) ?_
      refine z_lconst (pc := 19) (v := 0) C (dX6_mostIn 12 rfl) (by decide) ?_
      refine z_lcmp (pc := 20) C (dX6_mostIn 13 rfl) ?_
      refine z_if_ne (pc := 21) (tgt := 26) C (dX6_mostIn 14 rfl) (by decide) (fun c5 => ?_) (fun c5 => ?_)
      · replace H := H.2 c5
        refine z_iinc (pc := 26) (i := 3) (v := x_3 + 1) (lv2 := [(3, .int (x_3 + 1)), (0, .ref a_0), (1, .long y_1)]) C (dX6_mostIn 17 rfl) 2 rfl (by rfl) (by decide) rfl ?_
        refine z_goto (pc := 29) (tgt := 2) C (dX6_mostIn 18 rfl) (by decide) ?_
        refine z_sub [1, 2, 0] rfl ?_
        exact ih (x_3 + 1) m4 H
      · replace H := H.1 c5
        refine z_iload_n (pc := 24) C (dX6_mostIn 15 rfl) rfl 2 rfl ?_
        exact z_iret (pc := 25) C hr hu1 hu2 (dX6_mostIn 16 rfl) ⟨rfl, _, rfl, H⟩
def wX6_mostIn (t : zT) (m : zM) (a : Nat) (p1 : Int64) (Q : Int32 → zM → Prop) : Prop := (∃ n7, wX6_mostIn_L2 t a p1 Q (fun m6 => (Q 8 m6)) n7 0 m)
set_option maxHeartbeats 4000000 in
set_option maxRecDepth 20000 in
theorem kX6_mostIn {l : Launch} {t : zT} {m : zM} {a : Nat} {p1 : Int64} {Q : Int32 → zM → Prop} (H : wX6_mostIn t m a p1 Q) : zMet l yX6_mostIn cX6_mostIn 4 (some .int) 1 0 0 t m [.ref a, .long p1] (zPi t Q) := by
  refine zmet (by decide +kernel) (Nat.le_of_ble_eq_true rfl) ?_
  intro p e s mt args below meth c g C hr hm
  unfold wX6_mostIn at H
  have hu1 : ((0, 0) : Nat × Nat).1 ≤ 0 := Nat.le_refl 0
  have hu2 : ((0, 0) : Nat × Nat).2 ≤ 0 := Nat.le_refl 0
  refine z_iconst (pc := 0) (v := 0) C (dX6_mostIn 0 rfl) (by decide) ?_
  refine z_istore_n (pc := 1) (i := 3) (lv2 := [(3, .int 0), (0, .ref a), (1, .long p1)]) C (dX6_mostIn 1 rfl) rfl (by decide) rfl ?_
  obtain ⟨n7, H⟩ := H
  refine z_sub [1, 2, 0] rfl ?_
  refine sX6_mostIn_L2 C hr hm hu1 hu2 (fun m6 H => ?_) n7 0 m H
  refine z_bipush (pc := 32) (v := 8) C (dX6_mostIn 19 rfl) (by decide) ?_
  exact z_iret (pc := 34) C hr hu1 hu2 (dX6_mostIn 20 rfl) ⟨rfl, _, rfl, H⟩
def wX7_init (cap : Nat × Nat) (t : zT) (m : zM) (a : Nat) (Q : zT → zM → Prop) : Prop := (0 < a ∧ (tK t a = 7 ∧ ((0 + 1 ≤ cap.1 ∧ 0 + 3 ≤ cap.2) ∧ (0 < tN t → (tK (tNew t 14 3) a = 7 ∧ ((0 + 1 + 1 ≤ cap.1 ∧ 0 + 3 + 3 ≤ cap.2) ∧ (0 < tN (tNew t 14 3) → (tK (tNew (tNew t 14 3) 14 3) a = 7 ∧ ((0 + 1 + 1 + 1 ≤ cap.1 ∧ 0 + 3 + 3 + 3 ≤ cap.2) ∧ (0 < tN (tNew (tNew t 14 3) 14 3) → (tK (tNew (tNew (tNew t 14 3) 14 3) 14 3) a = 7 ∧ ((0 + 1 + 1 + 1 + 1 ≤ cap.1 ∧ 0 + 3 + 3 + 3 + 3 ≤ cap.2) ∧ (0 < tN (tNew (tNew (tNew t 14 3) 14 3) 14 3) → (tK (tNew (tNew (tNew (tNew t 14 3) 14 3) 14 3) 14 3) a = 7 ∧ (Q (tNew (tNew (tNew (tNew t 14 3) 14 3) 14 3) 14 3) (pR (zClr (pR (zClr (pR (zClr (pR (zClr (pI m a 1 (-1)) (tN t)) a 5 (tN t)) (tN (tNew t 14 3))) a 6 (tN (tNew t 14 3))) (tN (tNew (tNew t 14 3) 14 3))) a 7 (tN (tNew (tNew t 14 3) 14 3))) (tN (tNew (tNew (tNew t 14 3) 14 3) 14 3))) a 8 (tN (tNew (tNew (tNew t 14 3) 14 3) 14 3))))))))))))))))))
set_option maxHeartbeats 4000000 in
set_option maxRecDepth 20000 in
theorem kX7_init {l : Launch} {cap : Nat × Nat} {t : zT} {m : zM} {a : Nat} {Q : zT → zM → Prop} (H : wX7_init cap t m a Q) : zMet l yX7_init cX7_init 1 none 1 cap.1 cap.2 t m [.ref a] (zAw Q) := by
  refine zmet (by decide +kernel) (Nat.le_of_ble_eq_true rfl) ?_
  intro p e s mt args below meth c g C hr hm
  unfold wX7_init at H
  obtain ⟨mc, ms⟩ := cap
  refine z_aload_n (pc := 0) C (dX7_init 0 rfl) rfl 0 rfl ?_
  obtain ⟨h14, H⟩ := H
  refine z_objInit (pc := 1) C h14 wl_X7_3 woi woc (by decide) (Nat.le_of_ble_eq_true rfl) (dX7_init 1 rfl) ?_
  refine z_aload_n (pc := 4) C (dX7_init 2 rfl) rfl 0 rfl ?_
  refine z_iconst (pc := 5) (v := (-1)) C (dX7_init 3 rfl) (by decide) ?_
  obtain ⟨h1, H⟩ := H
  refine z_putI (pc := 6) C zc7 h1 1 (by decide) rfl rfl wf_X7_9 (dX7_init 4 rfl) ?_
  refine z_aload_n (pc := 9) C (dX7_init 5 rfl) rfl 0 rfl ?_
  refine z_iconst (pc := 10) (v := 3) C (dX7_init 6 rfl) (by decide) ?_
  obtain ⟨h12, H⟩ := H
  refine z_newaI (pc := 11) (N := 3) C (by decide) (by decide) (by decide) wa_int (dX7_init 7 rfl) h12.1 h12.2 (fun h13 => ?_)
  replace H := H h13
  obtain ⟨h2, H⟩ := H
  refine z_putRF (pc := 13) C zc7 h2 5 (by decide) rfl rfl hm rfl wf_X7_15 (dX7_init 8 rfl) ?_
  refine z_aload_n (pc := 16) C (dX7_init 9 rfl) rfl 0 rfl ?_
  refine z_iconst (pc := 17) (v := 3) C (dX7_init 10 rfl) (by decide) ?_
  obtain ⟨h10, H⟩ := H
  refine z_newaI (pc := 18) (N := 3) C (by decide) (by decide) (by decide) wa_int (dX7_init 11 rfl) h10.1 h10.2 (fun h11 => ?_)
  replace H := H h11
  obtain ⟨h3, H⟩ := H
  refine z_putRF (pc := 20) C zc7 h3 6 (by decide) rfl rfl hm rfl wf_X7_19 (dX7_init 12 rfl) ?_
  refine z_aload_n (pc := 23) C (dX7_init 13 rfl) rfl 0 rfl ?_
  refine z_iconst (pc := 24) (v := 3) C (dX7_init 14 rfl) (by decide) ?_
  obtain ⟨h8, H⟩ := H
  refine z_newaI (pc := 25) (N := 3) C (by decide) (by decide) (by decide) wa_int (dX7_init 15 rfl) h8.1 h8.2 (fun h9 => ?_)
  replace H := H h9
  obtain ⟨h4, H⟩ := H
  refine z_putRF (pc := 27) C zc7 h4 7 (by decide) rfl rfl hm rfl wf_X7_22 (dX7_init 16 rfl) ?_
  refine z_aload_n (pc := 30) C (dX7_init 17 rfl) rfl 0 rfl ?_
  refine z_iconst (pc := 31) (v := 3) C (dX7_init 18 rfl) (by decide) ?_
  obtain ⟨h6, H⟩ := H
  refine z_newaI (pc := 32) (N := 3) C (by decide) (by decide) (by decide) wa_int (dX7_init 19 rfl) h6.1 h6.2 (fun h7 => ?_)
  replace H := H h7
  obtain ⟨h5, H⟩ := H
  refine z_putRF (pc := 34) C zc7 h5 8 (by decide) rfl rfl hm rfl wf_X7_25 (dX7_init 20 rfl) ?_
  exact z_vret (pc := 37) C hr (by first | omega | (show _ ≤ mc; omega)) (by first | omega | (show _ ≤ ms; omega)) (dX7_init 21 rfl) ⟨rfl, H⟩
def wX7_hide (t : zT) (m : zM) (a : Nat) (p1 : Int32) (Q : zM → Prop) : Prop := (tK t a = 7 ∧ (Q (pI (pI (pI m a 1 p1) a 2 0) a 3 0)))
set_option maxHeartbeats 4000000 in
set_option maxRecDepth 20000 in
theorem kX7_hide {l : Launch} {t : zT} {m : zM} {a : Nat} {p1 : Int32} {Q : zM → Prop} (H : wX7_hide t m a p1 Q) : zMet l yX7_hide cX7_hide 2 none 0 0 0 t m [.ref a, .int p1] (zPv t Q) := by
  refine zmet (by decide +kernel) (Nat.le_of_ble_eq_true rfl) ?_
  intro p e s mt args below meth c g C hr hm
  unfold wX7_hide at H
  have hu1 : ((0, 0) : Nat × Nat).1 ≤ 0 := Nat.le_refl 0
  have hu2 : ((0, 0) : Nat × Nat).2 ≤ 0 := Nat.le_refl 0
  refine z_aload_n (pc := 0) C (dX7_hide 0 rfl) rfl 0 rfl ?_
  refine z_iload_n (pc := 1) C (dX7_hide 1 rfl) rfl 1 rfl ?_
  obtain ⟨h1, H⟩ := H
  refine z_putI (pc := 2) C zc7 h1 1 (by decide) rfl rfl wf_X7_9 (dX7_hide 2 rfl) ?_
  refine z_aload_n (pc := 5) C (dX7_hide 3 rfl) rfl 0 rfl ?_
  refine z_iconst (pc := 6) (v := 0) C (dX7_hide 4 rfl) (by decide) ?_
  refine z_putI (pc := 7) C zc7 h1 2 (by decide) rfl rfl wf_X7_38 (dX7_hide 5 rfl) ?_
  refine z_aload_n (pc := 10) C (dX7_hide 6 rfl) rfl 0 rfl ?_
  refine z_iconst (pc := 11) (v := 0) C (dX7_hide 7 rfl) (by decide) ?_
  refine z_putI (pc := 12) C zc7 h1 3 (by decide) rfl rfl wf_X7_41 (dX7_hide 8 rfl) ?_
  exact z_vret (pc := 15) C hr hu1 hu2 (dX7_hide 9 rfl) ⟨rfl, rfl, H⟩
def wX7_begin (t : zT) (m : zM) (a : Nat) (Q : zM → Prop) : Prop := (tK t a = 7 ∧ (wX7_hide t (pI m a 0 0) a (-1) (fun m3 => (Q (pI m3 a 4 0)))))
set_option maxHeartbeats 4000000 in
set_option maxRecDepth 20000 in
theorem kX7_begin {l : Launch} {t : zT} {m : zM} {a : Nat} {Q : zM → Prop} (H : wX7_begin t m a Q) : zMet l yX7_begin cX7_begin 1 none 1 0 0 t m [.ref a] (zPv t Q) := by
  refine zmet (by decide +kernel) (Nat.le_of_ble_eq_true rfl) ?_
  intro p e s mt args below meth c g C hr hm
  unfold wX7_begin at H
  have hu1 : ((0, 0) : Nat × Nat).1 ≤ 0 := Nat.le_refl 0
  have hu2 : ((0, 0) : Nat × Nat).2 ≤ 0 := Nat.le_refl 0
  refine z_aload_n (pc := 0) C (dX7_begin 0 rfl) rfl 0 rfl ?_
  refine z_iconst (pc := 1) (v := 0) C (dX7_begin 1 rfl) (by decide) ?_
  obtain ⟨h1, H⟩ := H
  refine z_putI (pc := 2) C zc7 h1 0 (by decide) rfl rfl wf_X7_28 (dX7_begin 2 rfl) ?_
  refine z_aload_n (pc := 5) C (dX7_begin 3 rfl) rfl 0 rfl ?_
  refine z_iconst (pc := 6) (v := (-1)) C (dX7_begin 4 rfl) (by decide) ?_
  refine zc_Vv (pc := 7) (rest := []) C YX7_hide wl_X7_31 (kX7_hide H) (by decide) h1 rfl (by decide) (dX7_begin 5 rfl) rfl hu1 hu2 (Nat.le_of_ble_eq_true rfl) rfl (fun m3 H => ?_)
  refine z_aload_n (pc := 10) C (dX7_begin 6 rfl) rfl 0 rfl ?_
  refine z_iconst (pc := 11) (v := 0) C (dX7_begin 7 rfl) (by decide) ?_
  refine z_putI (pc := 12) C zc7 h1 4 (by decide) rfl rfl wf_X7_35 (dX7_begin 8 rfl) ?_
  exact z_vret (pc := 15) C hr hu1 hu2 (dX7_begin 9 rfl) ⟨rfl, rfl, H⟩
def wX7_isFact (t : zT) (m : zM) (a : Nat) (p1 : Int32) (Q : Int32 → zM → Prop) : Prop := (tK t a = 7 ∧ (((((gI m a 2) >>> (p1 &&& 31)) &&& (1 : Int32)) = 0 → (Q 0 m)) ∧ (¬ (((gI m a 2) >>> (p1 &&& 31)) &&& (1 : Int32)) = 0 → (Q 1 m))))
set_option maxHeartbeats 4000000 in
set_option maxRecDepth 20000 in
theorem kX7_isFact {l : Launch} {t : zT} {m : zM} {a : Nat} {p1 : Int32} {Q : Int32 → zM → Prop} (H : wX7_isFact t m a p1 Q) : zMet l yX7_isFact cX7_isFact 2 (some .boolean) 0 0 0 t m [.ref a, .int p1] (zPi t Q) := by
  refine zmet (by decide +kernel) (Nat.le_of_ble_eq_true rfl) ?_
  intro p e s mt args below meth c g C hr hm
  unfold wX7_isFact at H
  have hu1 : ((0, 0) : Nat × Nat).1 ≤ 0 := Nat.le_refl 0
  have hu2 : ((0, 0) : Nat × Nat).2 ≤ 0 := Nat.le_refl 0
  refine z_aload_n (pc := 0) C (dX7_isFact 0 rfl) rfl 0 rfl ?_
  obtain ⟨h1, H⟩ := H
  refine z_getI (pc := 1) C zc7 h1 2 (by decide) rfl wf_X7_38 (dX7_isFact 1 rfl) ?_
  refine z_iload_n (pc := 4) C (dX7_isFact 2 rfl) rfl 1 rfl ?_
  refine z_ishr (pc := 5) C (dX7_isFact 3 rfl) ?_
  refine z_iconst (pc := 6) (v := 1) C (dX7_isFact 4 rfl) (by decide) ?_
  refine z_iand (pc := 7) C (dX7_isFact 5 rfl) ?_
  refine z_if_eq (pc := 8) (tgt := 15) C (dX7_isFact 6 rfl) (by decide) (fun c2 => ?_) (fun c2 => ?_)
  · replace H := H.1 c2
    refine z_iconst (pc := 15) (v := 0) C (dX7_isFact 9 rfl) (by decide) ?_
    exact z_zret (pc := 16) C hr (by decide) hu1 hu2 (dX7_isFact 10 rfl) ⟨rfl, _, rfl, H⟩
  · replace H := H.2 c2
    refine z_iconst (pc := 11) (v := 1) C (dX7_isFact 7 rfl) (by decide) ?_
    refine z_goto (pc := 12) (tgt := 16) C (dX7_isFact 8 rfl) (by decide) ?_
    exact z_zret (pc := 16) C hr (by decide) hu1 hu2 (dX7_isFact 10 rfl) ⟨rfl, _, rfl, H⟩
def wX7_keep (t : zT) (m : zM) (a : Nat) (Q : Int32 → zM → Prop) : Prop := (tK t a = 7 ∧ (tK t (gR m a 5) = 14 ∧ (vp_in (gI m a 4) (tL t (gR m a 5)) ∧ (tK t (gR m a 6) = 14 ∧ (vp_in (gI m a 4) (tL t (gR m a 6)) ∧ (tK t (gR m a 7) = 14 ∧ (vp_in (gI m a 4) (tL t (gR m a 7)) ∧ (tK t (gR m a 8) = 14 ∧ (vp_in (gI m a 4) (tL t (gR m a 8)) ∧ (Q (gI m a 4) (pI (pI (pI (pI (pI m (gR m a 5) ((gI m a 4).toNatClampNeg) (gI m a 0)) (gR m a 6) ((gI m a 4).toNatClampNeg) (gI (pI m (gR m a 5) ((gI m a 4).toNatClampNeg) (gI m a 0)) a 1)) (gR m a 7) ((gI m a 4).toNatClampNeg) (gI (pI (pI m (gR m a 5) ((gI m a 4).toNatClampNeg) (gI m a 0)) (gR m a 6) ((gI m a 4).toNatClampNeg) (gI (pI m (gR m a 5) ((gI m a 4).toNatClampNeg) (gI m a 0)) a 1)) a 2)) (gR m a 8) ((gI m a 4).toNatClampNeg) (gI (pI (pI (pI m (gR m a 5) ((gI m a 4).toNatClampNeg) (gI m a 0)) (gR m a 6) ((gI m a 4).toNatClampNeg) (gI (pI m (gR m a 5) ((gI m a 4).toNatClampNeg) (gI m a 0)) a 1)) (gR m a 7) ((gI m a 4).toNatClampNeg) (gI (pI (pI m (gR m a 5) ((gI m a 4).toNatClampNeg) (gI m a 0)) (gR m a 6) ((gI m a 4).toNatClampNeg) (gI (pI m (gR m a 5) ((gI m a 4).toNatClampNeg) (gI m a 0)) a 1)) a 2)) a 3)) a 4 ((gI (pI (pI (pI (pI m (gR m a 5) ((gI m a 4).toNatClampNeg) (gI m a 0)) (gR m a 6) ((gI m a 4).toNatClampNeg) (gI (pI m (gR m a 5) ((gI m a 4).toNatClampNeg) (gI m a 0)) a 1)) (gR m a 7) ((gI m a 4).toNatClampNeg) (gI (pI (pI m (gR m a 5) ((gI m a 4).toNatClampNeg) (gI m a 0)) (gR m a 6) ((gI m a 4).toNatClampNeg) (gI (pI m (gR m a 5) ((gI m a 4).toNatClampNeg) (gI m a 0)) a 1)) a 2)) (gR m a 8) ((gI m a 4).toNatClampNeg) (gI (pI (pI (pI m (gR m a 5) ((gI m a 4).toNatClampNeg) (gI m a 0)) (gR m a 6) ((gI m a 4).toNatClampNeg) (gI (pI m (gR m a 5) ((gI m a 4).toNatClampNeg) (gI m a 0)) a 1)) (gR m a 7) ((gI m a 4).toNatClampNeg) (gI (pI (pI m (gR m a 5) ((gI m a 4).toNatClampNeg) (gI m a 0)) (gR m a 6) ((gI m a 4).toNatClampNeg) (gI (pI m (gR m a 5) ((gI m a 4).toNatClampNeg) (gI m a 0)) a 1)) a 2)) a 3)) a 4) + (1 : Int32)))))))))))))
set_option maxHeartbeats 4000000 in
set_option maxRecDepth 20000 in
theorem kX7_keep {l : Launch} {t : zT} {m : zM} {a : Nat} {Q : Int32 → zM → Prop} (H : wX7_keep t m a Q) : zMet l yX7_keep cX7_keep 2 (some .int) 0 0 0 t m [.ref a] (zPi t Q) := by
  refine zmet (by decide +kernel) (Nat.le_of_ble_eq_true rfl) ?_
  intro p e s mt args below meth c g C hr hm
  unfold wX7_keep at H
  have hu1 : ((0, 0) : Nat × Nat).1 ≤ 0 := Nat.le_refl 0
  have hu2 : ((0, 0) : Nat × Nat).2 ≤ 0 := Nat.le_refl 0
  refine z_aload_n (pc := 0) C (dX7_keep 0 rfl) rfl 0 rfl ?_
  obtain ⟨h1, H⟩ := H
  refine z_getI (pc := 1) C zc7 h1 4 (by decide) rfl wf_X7_35 (dX7_keep 1 rfl) ?_
  refine z_istore_n (pc := 4) (i := 1) (lv2 := [(1, .int (gI m a 4)), (0, .ref a)]) C (dX7_keep 2 rfl) rfl (by decide) rfl ?_
  refine z_aload_n (pc := 5) C (dX7_keep 3 rfl) rfl 1 rfl ?_
  refine z_getR (pc := 6) C zc7 h1 5 (by decide) rfl wf_X7_15 (dX7_keep 4 rfl) ?_
  refine z_iload_n (pc := 9) C (dX7_keep 5 rfl) rfl 0 rfl ?_
  refine z_aload_n (pc := 10) C (dX7_keep 6 rfl) rfl 1 rfl ?_
  refine z_getI (pc := 11) C zc7 h1 0 (by decide) rfl wf_X7_28 (dX7_keep 7 rfl) ?_
  obtain ⟨h2, H⟩ := H
  obtain ⟨h3, H⟩ := H
  refine z_iastore (pc := 14) C h2 h3 (dX7_keep 8 rfl) ?_
  refine z_aload_n (pc := 15) C (dX7_keep 9 rfl) rfl 1 rfl ?_
  refine z_getR (pc := 16) C zc7 h1 6 (by decide) rfl wf_X7_19 (dX7_keep 10 rfl) ?_
  refine z_iload_n (pc := 19) C (dX7_keep 11 rfl) rfl 0 rfl ?_
  refine z_aload_n (pc := 20) C (dX7_keep 12 rfl) rfl 1 rfl ?_
  refine z_getI (pc := 21) C zc7 h1 1 (by decide) rfl wf_X7_9 (dX7_keep 13 rfl) ?_
  obtain ⟨h4, H⟩ := H
  obtain ⟨h5, H⟩ := H
  refine z_iastore (pc := 24) C h4 h5 (dX7_keep 14 rfl) ?_
  refine z_aload_n (pc := 25) C (dX7_keep 15 rfl) rfl 1 rfl ?_
  refine z_getR (pc := 26) C zc7 h1 7 (by decide) rfl wf_X7_22 (dX7_keep 16 rfl) ?_
  refine z_iload_n (pc := 29) C (dX7_keep 17 rfl) rfl 0 rfl ?_
  refine z_aload_n (pc := 30) C (dX7_keep 18 rfl) rfl 1 rfl ?_
  refine z_getI (pc := 31) C zc7 h1 2 (by decide) rfl wf_X7_38 (dX7_keep 19 rfl) ?_
  obtain ⟨h6, H⟩ := H
  obtain ⟨h7, H⟩ := H
  refine z_iastore (pc := 34) C h6 h7 (dX7_keep 20 rfl) ?_
  refine z_aload_n (pc := 35) C (dX7_keep 21 rfl) rfl 1 rfl ?_
  refine z_getR (pc := 36) C zc7 h1 8 (by decide) rfl wf_X7_25 (dX7_keep 22 rfl) ?_
  refine z_iload_n (pc := 39) C (dX7_keep 23 rfl) rfl 0 rfl ?_
  refine z_aload_n (pc := 40) C (dX7_keep 24 rfl) rfl 1 rfl ?_
  refine z_getI (pc := 41) C zc7 h1 3 (by decide) rfl wf_X7_41 (dX7_keep 25 rfl) ?_
  obtain ⟨h8, H⟩ := H
  obtain ⟨h9, H⟩ := H
  refine z_iastore (pc := 44) C h8 h9 (dX7_keep 26 rfl) ?_
  refine z_aload_n (pc := 45) C (dX7_keep 27 rfl) rfl 1 rfl ?_
  refine z_dup (pc := 46) C (dX7_keep 28 rfl) rfl ?_
  refine z_getI (pc := 47) C zc7 h1 4 (by decide) rfl wf_X7_35 (dX7_keep 29 rfl) ?_
  refine z_iconst (pc := 50) (v := 1) C (dX7_keep 30 rfl) (by decide) ?_
  refine z_iadd (pc := 51) C (dX7_keep 31 rfl) ?_
  refine z_putI (pc := 52) C zc7 h1 4 (by decide) rfl rfl wf_X7_35 (dX7_keep 32 rfl) ?_
  refine z_iload_n (pc := 55) C (dX7_keep 33 rfl) rfl 0 rfl ?_
  exact z_iret (pc := 56) C hr hu1 hu2 (dX7_keep 34 rfl) ⟨rfl, _, rfl, H⟩
def wX7_restore (t : zT) (m : zM) (a : Nat) (p1 : Int32) (Q : zM → Prop) : Prop := (tK t a = 7 ∧ (tK t (gR m a 5) = 14 ∧ (vp_in p1 (tL t (gR m a 5)) ∧ (tK t (gR m a 6) = 14 ∧ (vp_in p1 (tL t (gR m a 6)) ∧ (tK t (gR m a 7) = 14 ∧ (vp_in p1 (tL t (gR m a 7)) ∧ (tK t (gR m a 8) = 14 ∧ (vp_in p1 (tL t (gR m a 8)) ∧ (Q (pI (pI (pI (pI m a 0 (gI m (gR m a 5) p1.toNatClampNeg)) a 1 (gI (pI m a 0 (gI m (gR m a 5) p1.toNatClampNeg)) (gR m a 6) p1.toNatClampNeg)) a 2 (gI (pI (pI m a 0 (gI m (gR m a 5) p1.toNatClampNeg)) a 1 (gI (pI m a 0 (gI m (gR m a 5) p1.toNatClampNeg)) (gR m a 6) p1.toNatClampNeg)) (gR m a 7) p1.toNatClampNeg)) a 3 (gI (pI (pI (pI m a 0 (gI m (gR m a 5) p1.toNatClampNeg)) a 1 (gI (pI m a 0 (gI m (gR m a 5) p1.toNatClampNeg)) (gR m a 6) p1.toNatClampNeg)) a 2 (gI (pI (pI m a 0 (gI m (gR m a 5) p1.toNatClampNeg)) a 1 (gI (pI m a 0 (gI m (gR m a 5) p1.toNatClampNeg)) (gR m a 6) p1.toNatClampNeg)) (gR m a 7) p1.toNatClampNeg)) (gR m a 8) p1.toNatClampNeg))))))))))))
set_option maxHeartbeats 4000000 in
set_option maxRecDepth 20000 in
theorem kX7_restore {l : Launch} {t : zT} {m : zM} {a : Nat} {p1 : Int32} {Q : zM → Prop} (H : wX7_restore t m a p1 Q) : zMet l yX7_restore cX7_restore 2 none 0 0 0 t m [.ref a, .int p1] (zPv t Q) := by
  refine zmet (by decide +kernel) (Nat.le_of_ble_eq_true rfl) ?_
  intro p e s mt args below meth c g C hr hm
  unfold wX7_restore at H
  have hu1 : ((0, 0) : Nat × Nat).1 ≤ 0 := Nat.le_refl 0
  have hu2 : ((0, 0) : Nat × Nat).2 ≤ 0 := Nat.le_refl 0
  refine z_aload_n (pc := 0) C (dX7_restore 0 rfl) rfl 0 rfl ?_
  refine z_aload_n (pc := 1) C (dX7_restore 1 rfl) rfl 0 rfl ?_
  obtain ⟨h1, H⟩ := H
  refine z_getR (pc := 2) C zc7 h1 5 (by decide) rfl wf_X7_15 (dX7_restore 2 rfl) ?_
  refine z_iload_n (pc := 5) C (dX7_restore 3 rfl) rfl 1 rfl ?_
  obtain ⟨h2, H⟩ := H
  obtain ⟨h3, H⟩ := H
  refine z_iaload (pc := 6) C h2 h3 (dX7_restore 4 rfl) ?_
  refine z_putI (pc := 7) C zc7 h1 0 (by decide) rfl rfl wf_X7_28 (dX7_restore 5 rfl) ?_
  refine z_aload_n (pc := 10) C (dX7_restore 6 rfl) rfl 0 rfl ?_
  refine z_aload_n (pc := 11) C (dX7_restore 7 rfl) rfl 0 rfl ?_
  refine z_getR (pc := 12) C zc7 h1 6 (by decide) rfl wf_X7_19 (dX7_restore 8 rfl) ?_
  refine z_iload_n (pc := 15) C (dX7_restore 9 rfl) rfl 1 rfl ?_
  obtain ⟨h4, H⟩ := H
  obtain ⟨h5, H⟩ := H
  refine z_iaload (pc := 16) C h4 h5 (dX7_restore 10 rfl) ?_
  refine z_putI (pc := 17) C zc7 h1 1 (by decide) rfl rfl wf_X7_9 (dX7_restore 11 rfl) ?_
  refine z_aload_n (pc := 20) C (dX7_restore 12 rfl) rfl 0 rfl ?_
  refine z_aload_n (pc := 21) C (dX7_restore 13 rfl) rfl 0 rfl ?_
  refine z_getR (pc := 22) C zc7 h1 7 (by decide) rfl wf_X7_22 (dX7_restore 14 rfl) ?_
  refine z_iload_n (pc := 25) C (dX7_restore 15 rfl) rfl 1 rfl ?_
  obtain ⟨h6, H⟩ := H
  obtain ⟨h7, H⟩ := H
  refine z_iaload (pc := 26) C h6 h7 (dX7_restore 16 rfl) ?_
  refine z_putI (pc := 27) C zc7 h1 2 (by decide) rfl rfl wf_X7_38 (dX7_restore 17 rfl) ?_
  refine z_aload_n (pc := 30) C (dX7_restore 18 rfl) rfl 0 rfl ?_
  refine z_aload_n (pc := 31) C (dX7_restore 19 rfl) rfl 0 rfl ?_
  refine z_getR (pc := 32) C zc7 h1 8 (by decide) rfl wf_X7_25 (dX7_restore 20 rfl) ?_
  refine z_iload_n (pc := 35) C (dX7_restore 21 rfl) rfl 1 rfl ?_
  obtain ⟨h8, H⟩ := H
  obtain ⟨h9, H⟩ := H
  refine z_iaload (pc := 36) C h8 h9 (dX7_restore 22 rfl) ?_
  refine z_putI (pc := 37) C zc7 h1 3 (by decide) rfl rfl wf_X7_41 (dX7_restore 23 rfl) ?_
  exact z_vret (pc := 40) C hr hu1 hu2 (dX7_restore 24 rfl) ⟨rfl, rfl, H⟩
def wJ7_fill_d0a16_L6 (t : zT) (a_0 : Nat) (y_1 : Int64) (x_4 : Int32) (Q : zM → Prop) (k22 : zM → Prop) : Nat → Int32 → zM → Prop
  | 0, _, _ => False
  | n + 1, x_3, m => ((x_4 ≤ x_3 → (k22 m)) ∧ (¬ x_4 ≤ x_3 → (tK t a_0 = 15 ∧ (vp_in x_3 (tL t a_0) ∧ (wJ7_fill_d0a16_L6 t a_0 y_1 x_4 Q k22 n (x_3 + 1) (pJ m a_0 x_3.toNatClampNeg y_1))))))
set_option maxHeartbeats 4000000 in
set_option maxRecDepth 20000 in
theorem sJ7_fill_d0a16_L6 {p : Program} {l : Launch} {e : Env} {s : State} {mt : MethodId} {args : Array Value} {below : List Frame} {meth : Method} {c : Code} {g : zG} {u : Nat × Nat} {mc ms : Nat} {t : zT} {a_0 : Nat} {y_1 : Int64} {x_4 : Int32} {Q : zM → Prop} {k22 : zM → Prop} (C : zC p (zRm 0 mc ms) s mt args meth c g cJ7_fill_d0a16 5 yJ7_fill_d0a16.cls 0) (hr : meth.sig.returnType = none) (hm : meth.name = yJ7_fill_d0a16.name) (hu1 : u.1 ≤ mc) (hu2 : u.2 ≤ ms)
    (K22 : ∀ (m : zM), k22 m → zW p l e (zRm 0 mc ms) s mt args below meth c g (MQ below (zQc g (zPv t Q)) args s mc ms (zFar g)) u 5 t m 22 [] []) : ∀ (n : Nat) (x_3 : Int32) (m : zM), wJ7_fill_d0a16_L6 t a_0 y_1 x_4 Q k22 n x_3 m → zW p l e (zRm 0 mc ms) s mt args below meth c g (MQ below (zQc g (zPv t Q)) args s mc ms (zFar g)) u 5 t m 6 [(0, .ref a_0), (1, .long y_1), (3, .int x_3), (4, .int x_4)] [] := by
  intro n
  induction n with
  | zero => intro x_3 m H; exact H.elim
  | succ n ih =>
    intro x_3 m H
    simp only [wJ7_fill_d0a16_L6] at H
    refine z_iload_n (pc := 6) C (dJ7_fill_d0a16 5 rfl) rfl 2 rfl ?_
    refine z_iload (pc := 7) C (dJ7_fill_d0a16 6 rfl) 3 rfl ?_
    refine z_icmp_ge (pc := 9) (tgt := 22) C (dJ7_fill_d0a16 7 rfl) (by decide) (fun c3 => ?_) (fun c3 => ?_)
    · replace H := H.1 c3
      refine z_sub [] rfl ?_
      exact K22 m H
    · replace H := H.2 c3
      refine z_aload_n (pc := 12) C (dJ7_fill_d0a16 8 rfl) rfl 0 rfl ?_
      refine z_iload_n (pc := 13) C (dJ7_fill_d0a16 9 rfl) rfl 2 rfl ?_
      refine z_lload_n (pc := 14) C (dJ7_fill_d0a16 10 rfl) rfl 1 rfl ?_
      obtain ⟨h4, H⟩ := H
      obtain ⟨h5, H⟩ := H
      refine z_lastore (pc := 15) C h4 h5 (dJ7_fill_d0a16 11 rfl) ?_
      refine z_iinc (pc := 16) (i := 3) (v := x_3 + 1) (lv2 := [(3, .int (x_3 + 1)), (0, .ref a_0), (1, .long y_1), (4, .int x_4)]) C (dJ7_fill_d0a16 12 rfl) 2 rfl (by rfl) (by decide) rfl ?_
      refine z_goto (pc := 19) (tgt := 6) C (dJ7_fill_d0a16 13 rfl) (by decide) ?_
      refine z_sub [1, 2, 0, 3] rfl ?_
      exact ih (x_3 + 1) (pJ m a_0 x_3.toNatClampNeg y_1) H
def wJ7_fill_d0a16 (t : zT) (m : zM) (p1 : Nat) (p2 : Int64) (Q : zM → Prop) : Prop := (tK t p1 = 15 ∧ (∀ x2 : Int32, x2 = (Int32.ofNat (tL t p1)) → ((∃ n7, wJ7_fill_d0a16_L6 t p1 p2 x2 Q (fun m6 => (Q m6)) n7 0 m))))
set_option maxHeartbeats 4000000 in
set_option maxRecDepth 20000 in
theorem kJ7_fill_d0a16 {l : Launch} {t : zT} {m : zM} {p1 : Nat} {p2 : Int64} {Q : zM → Prop} (H : wJ7_fill_d0a16 t m p1 p2 Q) : zMet l yJ7_fill_d0a16 cJ7_fill_d0a16 5 none 0 0 0 t m [.ref p1, .long p2] (zPv t Q) := by
  refine zmet (by decide +kernel) (Nat.le_of_ble_eq_true rfl) ?_
  intro p e s mt args below meth c g C hr hm
  unfold wJ7_fill_d0a16 at H
  have hu1 : ((0, 0) : Nat × Nat).1 ≤ 0 := Nat.le_refl 0
  have hu2 : ((0, 0) : Nat × Nat).2 ≤ 0 := Nat.le_refl 0
  refine z_iconst (pc := 0) (v := 0) C (dJ7_fill_d0a16 0 rfl) (by decide) ?_
  refine z_istore_n (pc := 1) (i := 3) (lv2 := [(3, .int 0), (0, .ref p1), (1, .long p2)]) C (dJ7_fill_d0a16 1 rfl) rfl (by decide) rfl ?_
  refine z_aload_n (pc := 2) C (dJ7_fill_d0a16 2 rfl) rfl 1 rfl ?_
  obtain ⟨h1, H⟩ := H
  refine z_alen (pc := 3) C h1 (by decide) (by decide) (dJ7_fill_d0a16 3 rfl) ?_
  refine z_int (fun x2 hx2 => ?_)
  replace H := H x2 hx2
  refine z_istore (pc := 4) (i := 4) (lv2 := [(4, .int x2), (3, .int 0), (0, .ref p1), (1, .long p2)]) C (dJ7_fill_d0a16 4 rfl) (by decide) rfl ?_
  obtain ⟨n7, H⟩ := H
  refine z_sub [2, 3, 1, 0] rfl ?_
  refine sJ7_fill_d0a16_L6 C hr hm hu1 hu2 (fun m6 H => ?_) n7 0 m H
  exact z_vret (pc := 22) C hr hu1 hu2 (dJ7_fill_d0a16 14 rfl) ⟨rfl, rfl, H⟩
def wX8_spreadAnswers_J80 (t : zT) (m : zM) (a_0 : Nat) (x_1 : Int32) (x_2 : Int32) (x_3 : Int32) (x_4 : Int32) (Q : zM → Prop) (r7 : Int32 → Int32 → Int32 → zM → Prop) : Prop := (r7 x_2 x_3 (x_4 + 1) m)
set_option maxHeartbeats 4000000 in
set_option maxRecDepth 20000 in
theorem sX8_spreadAnswers_J80 {p : Program} {l : Launch} {e : Env} {s : State} {mt : MethodId} {args : Array Value} {below : List Frame} {meth : Method} {c : Code} {g : zG} {u : Nat × Nat} {mc ms : Nat} {t : zT} {m : zM} {a_0 : Nat} {x_1 : Int32} {x_2 : Int32} {x_3 : Int32} {x_4 : Int32} {Q : zM → Prop} {r7 : Int32 → Int32 → Int32 → zM → Prop} (C : zC p (zRm 1 mc ms) s mt args meth c g cX8_spreadAnswers 5 yX8_spreadAnswers.cls 1) (hr : meth.sig.returnType = none) (hm : meth.name = yX8_spreadAnswers.name) (hu1 : u.1 ≤ mc) (hu2 : u.2 ≤ ms)
    (R7 : ∀ (v0 : Int32) (v1 : Int32) (v2 : Int32) (m : zM), r7 v0 v1 v2 m → zW p l e (zRm 1 mc ms) s mt args below meth c g (MQ below (zQc g (zPv t Q)) args s mc ms (zFar g)) u 5 t m 7 [(0, .ref a_0), (1, .int x_1), (2, .int v0), (3, .int v1), (4, .int v2)] []) (H : wX8_spreadAnswers_J80 t m a_0 x_1 x_2 x_3 x_4 Q r7) : zW p l e (zRm 1 mc ms) s mt args below meth c g (MQ below (zQc g (zPv t Q)) args s mc ms (zFar g)) u 5 t m 80 [(0, .ref a_0), (1, .int x_1), (2, .int x_2), (3, .int x_3), (4, .int x_4)] [] := by
  unfold wX8_spreadAnswers_J80 at H
  refine z_iinc (pc := 80) (i := 4) (v := x_4 + 1) (lv2 := [(4, .int (x_4 + 1)), (0, .ref a_0), (1, .int x_1), (2, .int x_2), (3, .int x_3)]) C (dX8_spreadAnswers 52 rfl) 4 rfl (by rfl) (by decide) rfl ?_
  refine z_goto (pc := 83) (tgt := 7) C (dX8_spreadAnswers 53 rfl) (by decide) ?_
  refine z_sub [1, 2, 3, 4, 0] rfl ?_
  exact R7 x_2 x_3 (x_4 + 1) m H
def wX8_spreadAnswers_J79 (t : zT) (m : zM) (a_0 : Nat) (x_1 : Int32) (x_3 : Int32) (x_4 : Int32) (s_0 : Int32) (Q : zM → Prop) (r7 : Int32 → Int32 → Int32 → zM → Prop) : Prop := (wX8_spreadAnswers_J80 t m a_0 x_1 s_0 x_3 x_4 Q r7)
set_option maxHeartbeats 4000000 in
set_option maxRecDepth 20000 in
theorem sX8_spreadAnswers_J79 {p : Program} {l : Launch} {e : Env} {s : State} {mt : MethodId} {args : Array Value} {below : List Frame} {meth : Method} {c : Code} {g : zG} {u : Nat × Nat} {mc ms : Nat} {t : zT} {m : zM} {a_0 : Nat} {x_1 : Int32} {x_3 : Int32} {x_4 : Int32} {s_0 : Int32} {Q : zM → Prop} {r7 : Int32 → Int32 → Int32 → zM → Prop} (C : zC p (zRm 1 mc ms) s mt args meth c g cX8_spreadAnswers 5 yX8_spreadAnswers.cls 1) (hr : meth.sig.returnType = none) (hm : meth.name = yX8_spreadAnswers.name) (hu1 : u.1 ≤ mc) (hu2 : u.2 ≤ ms)
    (R7 : ∀ (v0 : Int32) (v1 : Int32) (v2 : Int32) (m : zM), r7 v0 v1 v2 m → zW p l e (zRm 1 mc ms) s mt args below meth c g (MQ below (zQc g (zPv t Q)) args s mc ms (zFar g)) u 5 t m 7 [(0, .ref a_0), (1, .int x_1), (2, .int v0), (3, .int v1), (4, .int v2)] []) (H : wX8_spreadAnswers_J79 t m a_0 x_1 x_3 x_4 s_0 Q r7) : zW p l e (zRm 1 mc ms) s mt args below meth c g (MQ below (zQc g (zPv t Q)) args s mc ms (zFar g)) u 5 t m 79 [(0, .ref a_0), (1, .int x_1), (3, .int x_3), (4, .int x_4)] [.int s_0] := by
  unfold wX8_spreadAnswers_J79 at H
  refine z_istore_n (pc := 79) (i := 2) (lv2 := [(2, .int s_0), (0, .ref a_0), (1, .int x_1), (3, .int x_3), (4, .int x_4)]) C (dX8_spreadAnswers 51 rfl) rfl (by decide) rfl ?_
  refine z_sub [1, 2, 0, 3, 4] rfl ?_
  exact sX8_spreadAnswers_J80 C hr hm hu1 hu2 R7 H
def wX8_spreadAnswers_L7 (t : zT) (a_0 : Nat) (x_1 : Int32) (Q : zM → Prop) (k86 : zM → Prop) : Nat → Int32 → Int32 → Int32 → zM → Prop
  | 0, _, _, _, _ => False
  | n + 1, x_2, x_3, x_4, m => (tK t a_0 = 8 ∧ (((gI m a_0 1) ≤ x_4 → (k86 m)) ∧ (¬ (gI m a_0 1) ≤ x_4 → (wX8_rowOf t m x_1 x_2 (fun r3 m4 => (tK t (gR m a_0 4) = 15 ∧ (vp_in (r3 + (x_4 >>> ((6 : Int32) &&& 31))) (tL t (gR m a_0 4)) ∧ (tK t (gR m4 a_0 3) = 14 ∧ (vp_in x_1 (tL t (gR m4 a_0 3)) ∧ (((x_3 + 1) = (gI m4 (gR m4 a_0 3) x_1.toNatClampNeg) → (tK t (gR m4 a_0 0) = 5 ∧ (tK t (gR m4 (gR m4 a_0 0) 1) = 14 ∧ (vp_in x_1 (tL t (gR m4 (gR m4 a_0 0) 1)) ∧ (((gI m4 (gR m4 (gR m4 a_0 0) 1) x_1.toNatClampNeg) ≤ (x_2 + (1 : Int32)) → (wX8_spreadAnswers_J79 t (pJ m4 (gR m a_0 4) ((r3 + (x_4 >>> ((6 : Int32) &&& 31))).toNatClampNeg) ((gJ m4 (gR m a_0 4) ((r3 + (x_4 >>> ((6 : Int32) &&& 31))).toNatClampNeg)) ||| ((1 : Int64) <<< ((x_4 &&& (63 : Int32)).toInt64 &&& 63)))) a_0 x_1 0 x_4 0 Q (wX8_spreadAnswers_L7 t a_0 x_1 Q k86 n))) ∧ (¬ (gI m4 (gR m4 (gR m4 a_0 0) 1) x_1.toNatClampNeg) ≤ (x_2 + (1 : Int32)) → (wX8_spreadAnswers_J79 t (pJ m4 (gR m a_0 4) ((r3 + (x_4 >>> ((6 : Int32) &&& 31))).toNatClampNeg) ((gJ m4 (gR m a_0 4) ((r3 + (x_4 >>> ((6 : Int32) &&& 31))).toNatClampNeg)) ||| ((1 : Int64) <<< ((x_4 &&& (63 : Int32)).toInt64 &&& 63)))) a_0 x_1 0 x_4 (x_2 + (1 : Int32)) Q (wX8_spreadAnswers_L7 t a_0 x_1 Q k86 n)))))))) ∧ (¬ (x_3 + 1) = (gI m4 (gR m4 a_0 3) x_1.toNatClampNeg) → (wX8_spreadAnswers_J80 t (pJ m4 (gR m a_0 4) ((r3 + (x_4 >>> ((6 : Int32) &&& 31))).toNatClampNeg) ((gJ m4 (gR m a_0 4) ((r3 + (x_4 >>> ((6 : Int32) &&& 31))).toNatClampNeg)) ||| ((1 : Int64) <<< ((x_4 &&& (63 : Int32)).toInt64 &&& 63)))) a_0 x_1 x_2 (x_3 + 1) x_4 Q (wX8_spreadAnswers_L7 t a_0 x_1 Q k86 n)))))))))))))
set_option maxHeartbeats 4000000 in
set_option maxRecDepth 20000 in
theorem sX8_spreadAnswers_L7 {p : Program} {l : Launch} {e : Env} {s : State} {mt : MethodId} {args : Array Value} {below : List Frame} {meth : Method} {c : Code} {g : zG} {u : Nat × Nat} {mc ms : Nat} {t : zT} {a_0 : Nat} {x_1 : Int32} {Q : zM → Prop} {k86 : zM → Prop} (C : zC p (zRm 1 mc ms) s mt args meth c g cX8_spreadAnswers 5 yX8_spreadAnswers.cls 1) (hr : meth.sig.returnType = none) (hm : meth.name = yX8_spreadAnswers.name) (hu1 : u.1 ≤ mc) (hu2 : u.2 ≤ ms)
    (K86 : ∀ (m : zM), k86 m → zW p l e (zRm 1 mc ms) s mt args below meth c g (MQ below (zQc g (zPv t Q)) args s mc ms (zFar g)) u 5 t m 86 [] []) : ∀ (n : Nat) (x_2 : Int32) (x_3 : Int32) (x_4 : Int32) (m : zM), wX8_spreadAnswers_L7 t a_0 x_1 Q k86 n x_2 x_3 x_4 m → zW p l e (zRm 1 mc ms) s mt args below meth c g (MQ below (zQc g (zPv t Q)) args s mc ms (zFar g)) u 5 t m 7 [(0, .ref a_0), (1, .int x_1), (2, .int x_2), (3, .int x_3), (4, .int x_4)] [] := by
  intro n
  induction n with
  | zero => intro x_2 x_3 x_4 m H; exact H.elim
  | succ n ih =>
    intro x_2 x_3 x_4 m H
    simp only [wX8_spreadAnswers_L7] at H
    refine z_iload (pc := 7) C (dX8_spreadAnswers 6 rfl) 4 rfl ?_
    refine z_aload_n (pc := 9) C (dX8_spreadAnswers 7 rfl) rfl 0 rfl ?_
    obtain ⟨h1, H⟩ := H
    refine z_getI (pc := 10) C zc8 h1 1 (by decide) rfl wf_X8_39 (dX8_spreadAnswers 8 rfl) ?_
    refine z_icmp_ge (pc := 13) (tgt := 86) C (dX8_spreadAnswers 9 rfl) (by decide) (fun c2 => ?_) (fun c2 => ?_)
    · replace H := H.1 c2
      refine z_sub [] rfl ?_
      exact K86 m H
    · replace H := H.2 c2
      refine z_aload_n (pc := 16) C (dX8_spreadAnswers 10 rfl) rfl 0 rfl ?_
      refine z_getR (pc := 17) C zc8 h1 4 (by decide) rfl wf_X8_22 (dX8_spreadAnswers 11 rfl) ?_
      refine z_iload_n (pc := 20) C (dX8_spreadAnswers 12 rfl) rfl 1 rfl ?_
      refine z_iload_n (pc := 21) C (dX8_spreadAnswers 13 rfl) rfl 2 rfl ?_
      refine zc_Si (pc := 22) (rest := [.ref (gR m a_0 4)]) C YX8_rowOf wl_X8_63 (kX8_rowOf H) (by decide) (dX8_spreadAnswers 14 rfl) rfl hu1 hu2 (Nat.le_of_ble_eq_true rfl) rfl (fun r3 m4 H => ?_)
      refine z_iload (pc := 25) C (dX8_spreadAnswers 15 rfl) 4 rfl ?_
      refine z_bipush (pc := 27) (v := 6) C (dX8_spreadAnswers 16 rfl) (by decide) ?_
      refine z_ishr (pc := 29) C (dX8_spreadAnswers 17 rfl) ?_
      refine z_iadd (pc := 30) C (dX8_spreadAnswers 18 rfl) ?_
      refine z_dup2_11 (pc := 31) C (dX8_spreadAnswers 19 rfl) rfl rfl ?_
      obtain ⟨h5, H⟩ := H
      obtain ⟨h6, H⟩ := H
      refine z_laload (pc := 32) C h5 h6 (dX8_spreadAnswers 20 rfl) ?_
      refine z_lconst (pc := 33) (v := 1) C (dX8_spreadAnswers 21 rfl) (by decide) ?_
      refine z_iload (pc := 34) C (dX8_spreadAnswers 22 rfl) 4 rfl ?_
      refine z_bipush (pc := 36) (v := 63) C (dX8_spreadAnswers 23 rfl) (by decide) ?_
      refine z_iand (pc := 38) C (dX8_spreadAnswers 24 rfl) ?_
      refine z_lshl (pc := 39) C (dX8_spreadAnswers 25 rfl) ?_
      refine z_lor (pc := 40) C (dX8_spreadAnswers 26 rfl) ?_
      refine z_lastore (pc := 41) C h5 h6 (dX8_spreadAnswers 27 rfl) ?_
      refine z_iinc (pc := 42) (i := 3) (v := x_3 + 1) (lv2 := [(3, .int (x_3 + 1)), (0, .ref a_0), (1, .int x_1), (2, .int x_2), (4, .int x_4)]) C (dX8_spreadAnswers 28 rfl) 3 rfl (by rfl) (by decide) rfl ?_
      refine z_iload_n (pc := 45) C (dX8_spreadAnswers 29 rfl) rfl 0 rfl ?_
      refine z_aload_n (pc := 46) C (dX8_spreadAnswers 30 rfl) rfl 1 rfl ?_
      refine z_getR (pc := 47) C zc8 h1 3 (by decide) rfl wf_X8_18 (dX8_spreadAnswers 31 rfl) ?_
      refine z_iload_n (pc := 50) C (dX8_spreadAnswers 32 rfl) rfl 2 rfl ?_
      obtain ⟨h7, H⟩ := H
      obtain ⟨h8, H⟩ := H
      refine z_iaload (pc := 51) C h7 h8 (dX8_spreadAnswers 33 rfl) ?_
      refine z_icmp_ne (pc := 52) (tgt := 80) C (dX8_spreadAnswers 34 rfl) (by decide) (fun c9 => ?_) (fun c9 => ?_)
      · replace H := H.2 c9
        refine z_sub [1, 2, 3, 0, 4] rfl ?_
        exact sX8_spreadAnswers_J80 C hr hm hu1 hu2 ih H
      · replace H := H.1 c9
        refine z_iconst (pc := 55) (v := 0) C (dX8_spreadAnswers 35 rfl) (by decide) ?_
        refine z_istore_n (pc := 56) (i := 3) (lv2 := [(3, .int 0), (0, .ref a_0), (1, .int x_1), (2, .int x_2), (4, .int x_4)]) C (dX8_spreadAnswers 36 rfl) rfl (by decide) rfl ?_
        refine z_iload_n (pc := 57) C (dX8_spreadAnswers 37 rfl) rfl 3 rfl ?_
        refine z_iconst (pc := 58) (v := 1) C (dX8_spreadAnswers 38 rfl) (by decide) ?_
        refine z_iadd (pc := 59) C (dX8_spreadAnswers 39 rfl) ?_
        refine z_aload_n (pc := 60) C (dX8_spreadAnswers 40 rfl) rfl 1 rfl ?_
        refine z_getR (pc := 61) C zc8 h1 0 (by decide) rfl wf_X8_12 (dX8_spreadAnswers 41 rfl) ?_
        obtain ⟨h10, H⟩ := H
        refine z_getR (pc := 64) C zc5 h10 1 (by decide) rfl wf_X8_56 (dX8_spreadAnswers 42 rfl) ?_
        refine z_iload_n (pc := 67) C (dX8_spreadAnswers 43 rfl) rfl 2 rfl ?_
        obtain ⟨h11, H⟩ := H
        obtain ⟨h12, H⟩ := H
        refine z_iaload (pc := 68) C h11 h12 (dX8_spreadAnswers 44 rfl) ?_
        refine z_icmp_ge (pc := 69) (tgt := 78) C (dX8_spreadAnswers 45 rfl) (by decide) (fun c13 => ?_) (fun c13 => ?_)
        · replace H := H.1 c13
          refine z_iconst (pc := 78) (v := 0) C (dX8_spreadAnswers 50 rfl) (by decide) ?_
          refine z_sub [1, 2, 0, 4] rfl ?_
          exact sX8_spreadAnswers_J79 C hr hm hu1 hu2 ih H
        · replace H := H.2 c13
          refine z_iload_n (pc := 72) C (dX8_spreadAnswers 46 rfl) rfl 3 rfl ?_
          refine z_iconst (pc := 73) (v := 1) C (dX8_spreadAnswers 47 rfl) (by decide) ?_
          refine z_iadd (pc := 74) C (dX8_spreadAnswers 48 rfl) ?_
          refine z_goto (pc := 75) (tgt := 79) C (dX8_spreadAnswers 49 rfl) (by decide) ?_
          refine z_sub [1, 2, 0, 4] rfl ?_
          exact sX8_spreadAnswers_J79 C hr hm hu1 hu2 ih H
def wX8_spreadAnswers (t : zT) (m : zM) (a : Nat) (p1 : Int32) (Q : zM → Prop) : Prop := (∃ n15, wX8_spreadAnswers_L7 t a p1 Q (fun m14 => (Q m14)) n15 0 0 0 m)
set_option maxHeartbeats 4000000 in
set_option maxRecDepth 20000 in
theorem kX8_spreadAnswers {l : Launch} {t : zT} {m : zM} {a : Nat} {p1 : Int32} {Q : zM → Prop} (H : wX8_spreadAnswers t m a p1 Q) : zMet l yX8_spreadAnswers cX8_spreadAnswers 5 none 1 0 0 t m [.ref a, .int p1] (zPv t Q) := by
  refine zmet (by decide +kernel) (Nat.le_of_ble_eq_true rfl) ?_
  intro p e s mt args below meth c g C hr hm
  unfold wX8_spreadAnswers at H
  have hu1 : ((0, 0) : Nat × Nat).1 ≤ 0 := Nat.le_refl 0
  have hu2 : ((0, 0) : Nat × Nat).2 ≤ 0 := Nat.le_refl 0
  refine z_iconst (pc := 0) (v := 0) C (dX8_spreadAnswers 0 rfl) (by decide) ?_
  refine z_istore_n (pc := 1) (i := 2) (lv2 := [(2, .int 0), (0, .ref a), (1, .int p1)]) C (dX8_spreadAnswers 1 rfl) rfl (by decide) rfl ?_
  refine z_iconst (pc := 2) (v := 0) C (dX8_spreadAnswers 2 rfl) (by decide) ?_
  refine z_istore_n (pc := 3) (i := 3) (lv2 := [(3, .int 0), (2, .int 0), (0, .ref a), (1, .int p1)]) C (dX8_spreadAnswers 3 rfl) rfl (by decide) rfl ?_
  refine z_iconst (pc := 4) (v := 0) C (dX8_spreadAnswers 4 rfl) (by decide) ?_
  refine z_istore (pc := 5) (i := 4) (lv2 := [(4, .int 0), (3, .int 0), (2, .int 0), (0, .ref a), (1, .int p1)]) C (dX8_spreadAnswers 5 rfl) (by decide) rfl ?_
  obtain ⟨n15, H⟩ := H
  refine z_sub [3, 4, 2, 1, 0] rfl ?_
  refine sX8_spreadAnswers_L7 C hr hm hu1 hu2 (fun m14 H => ?_) n15 0 0 0 m H
  exact z_vret (pc := 86) C hr hu1 hu2 (dX8_spreadAnswers 54 rfl) ⟨rfl, rfl, H⟩
def wX8_followingWord_L31 (t : zT) (a_0 : Nat) (x_1 : Int32) (Q : Int64 → zM → Prop) (k107 : Int64 → zM → Prop) : Nat → Int64 → Int32 → zM → Prop
  | 0, _, _, _ => False
  | n + 1, y_3, x_5, m => (tK t a_0 = 8 ∧ (tK t (gR m a_0 0) = 5 ∧ (((gI m (gR m a_0 0) 5) ≤ x_5 → (k107 y_3 m)) ∧ (¬ (gI m (gR m a_0 0) 5) ≤ x_5 → (tK t (gR m (gR m a_0 0) 6) = 14 ∧ (vp_in x_5 (tL t (gR m (gR m a_0 0) 6)) ∧ (tK t (gR m (gR m a_0 0) 7) = 14 ∧ (vp_in x_5 (tL t (gR m (gR m a_0 0) 7)) ∧ (wX8_truthWord t m a_0 (gI m (gR m (gR m a_0 0) 6) x_5.toNatClampNeg) (gI m (gR m (gR m a_0 0) 7) x_5.toNatClampNeg) x_1 (fun r11 m12 => (tK t (gR m12 a_0 0) = 5 ∧ (tK t (gR m12 (gR m12 a_0 0) 8) = 14 ∧ (vp_in x_5 (tL t (gR m12 (gR m12 a_0 0) 8)) ∧ (tK t (gR m12 (gR m12 a_0 0) 9) = 14 ∧ (vp_in x_5 (tL t (gR m12 (gR m12 a_0 0) 9)) ∧ (wX8_truthWord t m12 a_0 (gI m12 (gR m12 (gR m12 a_0 0) 8) x_5.toNatClampNeg) (gI m12 (gR m12 (gR m12 a_0 0) 9) x_5.toNatClampNeg) x_1 (fun r18 m19 => (∀ x20 : Int64, x20 = (y_3 &&& ((r11 ^^^ (-1)) ||| r18)) → ((wX8_followingWord_L31 t a_0 x_1 Q k107 n x20 (x_5 + 1) m19))))))))))))))))))))
set_option maxHeartbeats 4000000 in
set_option maxRecDepth 20000 in
theorem sX8_followingWord_L31 {p : Program} {l : Launch} {e : Env} {s : State} {mt : MethodId} {args : Array Value} {below : List Frame} {meth : Method} {c : Code} {g : zG} {u : Nat × Nat} {mc ms : Nat} {t : zT} {a_0 : Nat} {x_1 : Int32} {Q : Int64 → zM → Prop} {k107 : Int64 → zM → Prop} (C : zC p (zRm 2 mc ms) s mt args meth c g cX8_followingWord 6 yX8_followingWord.cls 2) (hr : meth.sig.returnType = (some .long)) (hm : meth.name = yX8_followingWord.name) (hu1 : u.1 ≤ mc) (hu2 : u.2 ≤ ms)
    (K107 : ∀ (v0 : Int64) (m : zM), k107 v0 m → zW p l e (zRm 2 mc ms) s mt args below meth c g (MQ below (zQc g (zPl t Q)) args s mc ms (zFar g)) u 6 t m 107 [(3, .long v0)] []) : ∀ (n : Nat) (y_3 : Int64) (x_5 : Int32) (m : zM), wX8_followingWord_L31 t a_0 x_1 Q k107 n y_3 x_5 m → zW p l e (zRm 2 mc ms) s mt args below meth c g (MQ below (zQc g (zPl t Q)) args s mc ms (zFar g)) u 6 t m 31 [(0, .ref a_0), (1, .int x_1), (3, .long y_3), (5, .int x_5)] [] := by
  intro n
  induction n with
  | zero => intro y_3 x_5 m H; exact H.elim
  | succ n ih =>
    intro y_3 x_5 m H
    simp only [wX8_followingWord_L31] at H
    refine z_iload (pc := 31) C (dX8_followingWord 20 rfl) 3 rfl ?_
    refine z_aload_n (pc := 33) C (dX8_followingWord 21 rfl) rfl 0 rfl ?_
    obtain ⟨h4, H⟩ := H
    refine z_getR (pc := 34) C zc8 h4 0 (by decide) rfl wf_X8_12 (dX8_followingWord 22 rfl) ?_
    obtain ⟨h5, H⟩ := H
    refine z_getI (pc := 37) C zc5 h5 5 (by decide) rfl wf_X8_68 (dX8_followingWord 23 rfl) ?_
    refine z_icmp_ge (pc := 40) (tgt := 107) C (dX8_followingWord 24 rfl) (by decide) (fun c6 => ?_) (fun c6 => ?_)
    · replace H := H.1 c6
      refine z_sub [2] rfl ?_
      exact K107 y_3 m H
    · replace H := H.2 c6
      refine z_lload_n (pc := 43) C (dX8_followingWord 25 rfl) rfl 2 rfl ?_
      refine z_aload_n (pc := 44) C (dX8_followingWord 26 rfl) rfl 0 rfl ?_
      refine z_aload_n (pc := 45) C (dX8_followingWord 27 rfl) rfl 0 rfl ?_
      refine z_getR (pc := 46) C zc8 h4 0 (by decide) rfl wf_X8_12 (dX8_followingWord 28 rfl) ?_
      refine z_getR (pc := 49) C zc5 h5 6 (by decide) rfl wf_X8_71 (dX8_followingWord 29 rfl) ?_
      refine z_iload (pc := 52) C (dX8_followingWord 30 rfl) 3 rfl ?_
      obtain ⟨h7, H⟩ := H
      obtain ⟨h8, H⟩ := H
      refine z_iaload (pc := 54) C h7 h8 (dX8_followingWord 31 rfl) ?_
      refine z_aload_n (pc := 55) C (dX8_followingWord 32 rfl) rfl 0 rfl ?_
      refine z_getR (pc := 56) C zc8 h4 0 (by decide) rfl wf_X8_12 (dX8_followingWord 33 rfl) ?_
      refine z_getR (pc := 59) C zc5 h5 7 (by decide) rfl wf_X8_74 (dX8_followingWord 34 rfl) ?_
      refine z_iload (pc := 62) C (dX8_followingWord 35 rfl) 3 rfl ?_
      obtain ⟨h9, H⟩ := H
      obtain ⟨h10, H⟩ := H
      refine z_iaload (pc := 64) C h9 h10 (dX8_followingWord 36 rfl) ?_
      refine z_iload_n (pc := 65) C (dX8_followingWord 37 rfl) rfl 1 rfl ?_
      refine zc_Vl (pc := 66) (rest := [.long y_3]) C YX8_truthWord wl_X8_77 (kX8_truthWord H) (by decide) h4 rfl (by decide) (dX8_followingWord 38 rfl) rfl hu1 hu2 (Nat.le_of_ble_eq_true rfl) rfl (fun r11 m12 H => ?_)
      refine z_ldc2 (pc := 69) C wj_X8_66 (dX8_followingWord 39 rfl) ?_
      refine z_lxor (pc := 72) C (dX8_followingWord 40 rfl) ?_
      refine z_aload_n (pc := 73) C (dX8_followingWord 41 rfl) rfl 0 rfl ?_
      refine z_aload_n (pc := 74) C (dX8_followingWord 42 rfl) rfl 0 rfl ?_
      refine z_getR (pc := 75) C zc8 h4 0 (by decide) rfl wf_X8_12 (dX8_followingWord 43 rfl) ?_
      obtain ⟨h13, H⟩ := H
      refine z_getR (pc := 78) C zc5 h13 8 (by decide) rfl wf_X8_81 (dX8_followingWord 44 rfl) ?_
      refine z_iload (pc := 81) C (dX8_followingWord 45 rfl) 3 rfl ?_
      obtain ⟨h14, H⟩ := H
      obtain ⟨h15, H⟩ := H
      refine z_iaload (pc := 83) C h14 h15 (dX8_followingWord 46 rfl) ?_
      refine z_aload_n (pc := 84) C (dX8_followingWord 47 rfl) rfl 0 rfl ?_
      refine z_getR (pc := 85) C zc8 h4 0 (by decide) rfl wf_X8_12 (dX8_followingWord 48 rfl) ?_
      refine z_getR (pc := 88) C zc5 h13 9 (by decide) rfl wf_X8_84 (dX8_followingWord 49 rfl) ?_
      refine z_iload (pc := 91) C (dX8_followingWord 50 rfl) 3 rfl ?_
      obtain ⟨h16, H⟩ := H
      obtain ⟨h17, H⟩ := H
      refine z_iaload (pc := 93) C h16 h17 (dX8_followingWord 51 rfl) ?_
      refine z_iload_n (pc := 94) C (dX8_followingWord 52 rfl) rfl 1 rfl ?_
      refine zc_Vl (pc := 95) (rest := [.long (r11 ^^^ (-1)), .long y_3]) C YX8_truthWord wl_X8_77 (kX8_truthWord H) (by decide) h4 rfl (by decide) (dX8_followingWord 53 rfl) rfl hu1 hu2 (Nat.le_of_ble_eq_true rfl) rfl (fun r18 m19 H => ?_)
      refine z_lor (pc := 98) C (dX8_followingWord 54 rfl) ?_
      refine z_land (pc := 99) C (dX8_followingWord 55 rfl) ?_
      refine z_long (fun x20 hx20 => ?_)
      replace H := H x20 hx20
      refine z_lstore_n (pc := 100) (i := 3) (lv2 := [(3, .long x20), (0, .ref a_0), (1, .int x_1), (5, .int x_5)]) C (dX8_followingWord 56 rfl) rfl (by decide) rfl ?_
      refine z_iinc (pc := 101) (i := 5) (v := x_5 + 1) (lv2 := [(5, .int (x_5 + 1)), (3, .long x20), (0, .ref a_0), (1, .int x_1)]) C (dX8_followingWord 57 rfl) 3 rfl (by rfl) (by decide) rfl ?_
      refine z_goto (pc := 104) (tgt := 31) C (dX8_followingWord 58 rfl) (by decide) ?_
      refine z_sub [2, 3, 1, 0] rfl ?_
      exact ih x20 (x_5 + 1) m19 H
def wX8_followingWord_J27 (t : zT) (m : zM) (a_0 : Nat) (x_1 : Int32) (s_0 : Int64) (Q : Int64 → zM → Prop) : Prop := (∃ n23, wX8_followingWord_L31 t a_0 x_1 Q (fun v21 m22 => (Q v21 m22)) n23 s_0 0 m)
set_option maxHeartbeats 4000000 in
set_option maxRecDepth 20000 in
theorem sX8_followingWord_J27 {p : Program} {l : Launch} {e : Env} {s : State} {mt : MethodId} {args : Array Value} {below : List Frame} {meth : Method} {c : Code} {g : zG} {u : Nat × Nat} {mc ms : Nat} {t : zT} {m : zM} {a_0 : Nat} {x_1 : Int32} {s_0 : Int64} {Q : Int64 → zM → Prop} (C : zC p (zRm 2 mc ms) s mt args meth c g cX8_followingWord 6 yX8_followingWord.cls 2) (hr : meth.sig.returnType = (some .long)) (hm : meth.name = yX8_followingWord.name) (hu1 : u.1 ≤ mc) (hu2 : u.2 ≤ ms) (H : wX8_followingWord_J27 t m a_0 x_1 s_0 Q) : zW p l e (zRm 2 mc ms) s mt args below meth c g (MQ below (zQc g (zPl t Q)) args s mc ms (zFar g)) u 6 t m 27 [(0, .ref a_0), (1, .int x_1)] [.long s_0] := by
  unfold wX8_followingWord_J27 at H
  refine z_lstore_n (pc := 27) (i := 3) (lv2 := [(3, .long s_0), (0, .ref a_0), (1, .int x_1)]) C (dX8_followingWord 17 rfl) rfl (by decide) rfl ?_
  refine z_iconst (pc := 28) (v := 0) C (dX8_followingWord 18 rfl) (by decide) ?_
  refine z_istore (pc := 29) (i := 5) (lv2 := [(5, .int 0), (3, .long s_0), (0, .ref a_0), (1, .int x_1)]) C (dX8_followingWord 19 rfl) (by decide) rfl ?_
  obtain ⟨n23, H⟩ := H
  refine z_sub [2, 3, 1, 0] rfl ?_
  refine sX8_followingWord_L31 C hr hm hu1 hu2 (fun v21 m22 H => ?_) n23 s_0 0 m H
  refine z_lload_n (pc := 107) C (dX8_followingWord 59 rfl) rfl 0 rfl ?_
  exact z_lret (pc := 108) C hr hu1 hu2 (dX8_followingWord 60 rfl) ⟨rfl, _, rfl, H⟩
def wX8_followingWord (t : zT) (m : zM) (a : Nat) (p1 : Int32) (Q : Int64 → zM → Prop) : Prop := (tK t a = 8 ∧ (∀ x2 : Int32, x2 = ((gI m a 1) - (p1 * (64 : Int32))) → (((x2 < 64 → (wX8_followingWord_J27 t m a p1 (((1 : Int64) <<< (x2.toInt64 &&& 63)) - 1) Q)) ∧ (¬ x2 < 64 → (wX8_followingWord_J27 t m a p1 (-1) Q))))))
set_option maxHeartbeats 4000000 in
set_option maxRecDepth 20000 in
theorem kX8_followingWord {l : Launch} {t : zT} {m : zM} {a : Nat} {p1 : Int32} {Q : Int64 → zM → Prop} (H : wX8_followingWord t m a p1 Q) : zMet l yX8_followingWord cX8_followingWord 6 (some .long) 2 0 0 t m [.ref a, .int p1] (zPl t Q) := by
  refine zmet (by decide +kernel) (Nat.le_of_ble_eq_true rfl) ?_
  intro p e s mt args below meth c g C hr hm
  unfold wX8_followingWord at H
  have hu1 : ((0, 0) : Nat × Nat).1 ≤ 0 := Nat.le_refl 0
  have hu2 : ((0, 0) : Nat × Nat).2 ≤ 0 := Nat.le_refl 0
  refine z_aload_n (pc := 0) C (dX8_followingWord 0 rfl) rfl 0 rfl ?_
  obtain ⟨h1, H⟩ := H
  refine z_getI (pc := 1) C zc8 h1 1 (by decide) rfl wf_X8_39 (dX8_followingWord 1 rfl) ?_
  refine z_iload_n (pc := 4) C (dX8_followingWord 2 rfl) rfl 1 rfl ?_
  refine z_bipush (pc := 5) (v := 64) C (dX8_followingWord 3 rfl) (by decide) ?_
  refine z_imul (pc := 7) C (dX8_followingWord 4 rfl) ?_
  refine z_isub (pc := 8) C (dX8_followingWord 5 rfl) ?_
  refine z_int (fun x2 hx2 => ?_)
  replace H := H x2 hx2
  refine z_istore_n (pc := 9) (i := 2) (lv2 := [(2, .int x2), (0, .ref a), (1, .int p1)]) C (dX8_followingWord 6 rfl) rfl (by decide) rfl ?_
  refine z_iload_n (pc := 10) C (dX8_followingWord 7 rfl) rfl 0 rfl ?_
  refine z_bipush (pc := 11) (v := 64) C (dX8_followingWord 8 rfl) (by decide) ?_
  refine z_icmp_lt (pc := 13) (tgt := 22) C (dX8_followingWord 9 rfl) (by decide) (fun c3 => ?_) (fun c3 => ?_)
  · replace H := H.1 c3
    refine z_lconst (pc := 22) (v := 1) C (dX8_followingWord 12 rfl) (by decide) ?_
    refine z_iload_n (pc := 23) C (dX8_followingWord 13 rfl) rfl 0 rfl ?_
    refine z_lshl (pc := 24) C (dX8_followingWord 14 rfl) ?_
    refine z_lconst (pc := 25) (v := 1) C (dX8_followingWord 15 rfl) (by decide) ?_
    refine z_lsub (pc := 26) C (dX8_followingWord 16 rfl) ?_
    refine z_sub [1, 2] rfl ?_
    exact sX8_followingWord_J27 C hr hm hu1 hu2 H
  · replace H := H.2 c3
    refine z_ldc2 (pc := 16) C wj_X8_66 (dX8_followingWord 10 rfl) ?_
    refine z_goto (pc := 19) (tgt := 27) C (dX8_followingWord 11 rfl) (by decide) ?_
    refine z_sub [1, 2] rfl ?_
    exact sX8_followingWord_J27 C hr hm hu1 hu2 H
def wX8_build_L53 (t : zT) (a_0 : Nat) (Q : zM → Prop) (k87 : zM → Prop) : Nat → Int32 → Int32 → zM → Prop
  | 0, _, _, _ => False
  | n + 1, x_2, x_3, m => ((x_3 < 0 → (k87 m)) ∧ (¬ x_3 < 0 → (tK t a_0 = 8 ∧ (tK t (gR m a_0 3) = 14 ∧ (vp_in x_3 (tL t (gR m a_0 3)) ∧ (wX8_spreadAnswers t (pI m (gR m a_0 3) x_3.toNatClampNeg x_2) a_0 x_3 (fun m12 => (tK t (gR m12 a_0 0) = 5 ∧ (tK t (gR m12 (gR m12 a_0 0) 1) = 14 ∧ (vp_in x_3 (tL t (gR m12 (gR m12 a_0 0) 1)) ∧ (∀ x16 : Int32, x16 = (x_2 * (gI m12 (gR m12 (gR m12 a_0 0) 1) x_3.toNatClampNeg)) → ((wX8_build_L53 t a_0 Q k87 n x16 (x_3 + (-1)) m12)))))))))))))
set_option maxHeartbeats 4000000 in
set_option maxRecDepth 20000 in
theorem sX8_build_L53 {p : Program} {l : Launch} {e : Env} {s : State} {mt : MethodId} {args : Array Value} {below : List Frame} {meth : Method} {c : Code} {g : zG} {u : Nat × Nat} {mc ms : Nat} {t : zT} {a_0 : Nat} {Q : zM → Prop} {k87 : zM → Prop} (C : zC p (zRm 3 mc ms) s mt args meth c g cX8_build 4 yX8_build.cls 3) (hr : meth.sig.returnType = none) (hm : meth.name = yX8_build.name) (hu1 : u.1 ≤ mc) (hu2 : u.2 ≤ ms)
    (K87 : ∀ (m : zM), k87 m → zW p l e (zRm 3 mc ms) s mt args below meth c g (MQ below (zQc g (zPv t Q)) args s mc ms (zFar g)) u 4 t m 87 [(0, .ref a_0)] []) : ∀ (n : Nat) (x_2 : Int32) (x_3 : Int32) (m : zM), wX8_build_L53 t a_0 Q k87 n x_2 x_3 m → zW p l e (zRm 3 mc ms) s mt args below meth c g (MQ below (zQc g (zPv t Q)) args s mc ms (zFar g)) u 4 t m 53 [(0, .ref a_0), (2, .int x_2), (3, .int x_3)] [] := by
  intro n
  induction n with
  | zero => intro x_2 x_3 m H; exact H.elim
  | succ n ih =>
    intro x_2 x_3 m H
    simp only [wX8_build_L53] at H
    refine z_iload_n (pc := 53) C (dX8_build 29 rfl) rfl 2 rfl ?_
    refine z_if_lt (pc := 54) (tgt := 87) C (dX8_build 30 rfl) (by decide) (fun c7 => ?_) (fun c7 => ?_)
    · replace H := H.1 c7
      refine z_sub [0] rfl ?_
      exact K87 m H
    · replace H := H.2 c7
      refine z_aload_n (pc := 57) C (dX8_build 31 rfl) rfl 0 rfl ?_
      obtain ⟨h8, H⟩ := H
      refine z_getR (pc := 58) C zc8 h8 3 (by decide) rfl wf_X8_18 (dX8_build 32 rfl) ?_
      refine z_iload_n (pc := 61) C (dX8_build 33 rfl) rfl 2 rfl ?_
      refine z_iload_n (pc := 62) C (dX8_build 34 rfl) rfl 1 rfl ?_
      obtain ⟨h9, H⟩ := H
      obtain ⟨h10, H⟩ := H
      refine z_iastore (pc := 63) C h9 h10 (dX8_build 35 rfl) ?_
      refine z_aload_n (pc := 64) C (dX8_build 36 rfl) rfl 0 rfl ?_
      refine z_iload_n (pc := 65) C (dX8_build 37 rfl) rfl 2 rfl ?_
      refine zc_Vv (pc := 66) (rest := []) C YX8_spreadAnswers wl_X8_52 (kX8_spreadAnswers H) (by decide) h8 rfl (by decide) (dX8_build 38 rfl) rfl hu1 hu2 (Nat.le_of_ble_eq_true rfl) rfl (fun m12 H => ?_)
      refine z_iload_n (pc := 69) C (dX8_build 39 rfl) rfl 1 rfl ?_
      refine z_aload_n (pc := 70) C (dX8_build 40 rfl) rfl 0 rfl ?_
      refine z_getR (pc := 71) C zc8 h8 0 (by decide) rfl wf_X8_12 (dX8_build 41 rfl) ?_
      obtain ⟨h13, H⟩ := H
      refine z_getR (pc := 74) C zc5 h13 1 (by decide) rfl wf_X8_56 (dX8_build 42 rfl) ?_
      refine z_iload_n (pc := 77) C (dX8_build 43 rfl) rfl 2 rfl ?_
      obtain ⟨h14, H⟩ := H
      obtain ⟨h15, H⟩ := H
      refine z_iaload (pc := 78) C h14 h15 (dX8_build 44 rfl) ?_
      refine z_imul (pc := 79) C (dX8_build 45 rfl) ?_
      refine z_int (fun x16 hx16 => ?_)
      replace H := H x16 hx16
      refine z_istore_n (pc := 80) (i := 2) (lv2 := [(2, .int x16), (0, .ref a_0), (3, .int x_3)]) C (dX8_build 46 rfl) rfl (by decide) rfl ?_
      refine z_iinc (pc := 81) (i := 3) (v := x_3 + (-1)) (lv2 := [(3, .int (x_3 + (-1))), (2, .int x16), (0, .ref a_0)]) C (dX8_build 47 rfl) 2 rfl (by rfl) (by decide) rfl ?_
      refine z_goto (pc := 84) (tgt := 53) C (dX8_build 48 rfl) (by decide) ?_
      refine z_sub [2, 1, 0] rfl ?_
      exact ih x16 (x_3 + (-1)) m12 H
def wX8_build_L89 (t : zT) (a_0 : Nat) (Q : zM → Prop) (k114 : zM → Prop) : Nat → Int32 → zM → Prop
  | 0, _, _ => False
  | n + 1, x_3, m => (tK t a_0 = 8 ∧ (((gI m a_0 2) ≤ x_3 → (k114 m)) ∧ (¬ (gI m a_0 2) ≤ x_3 → (wX8_followingWord t m a_0 x_3 (fun r20 m21 => (tK t (gR m a_0 5) = 15 ∧ (vp_in x_3 (tL t (gR m a_0 5)) ∧ (wX8_build_L89 t a_0 Q k114 n (x_3 + 1) (pJ m21 (gR m a_0 5) x_3.toNatClampNeg r20)))))))))
set_option maxHeartbeats 4000000 in
set_option maxRecDepth 20000 in
theorem sX8_build_L89 {p : Program} {l : Launch} {e : Env} {s : State} {mt : MethodId} {args : Array Value} {below : List Frame} {meth : Method} {c : Code} {g : zG} {u : Nat × Nat} {mc ms : Nat} {t : zT} {a_0 : Nat} {Q : zM → Prop} {k114 : zM → Prop} (C : zC p (zRm 3 mc ms) s mt args meth c g cX8_build 4 yX8_build.cls 3) (hr : meth.sig.returnType = none) (hm : meth.name = yX8_build.name) (hu1 : u.1 ≤ mc) (hu2 : u.2 ≤ ms)
    (K114 : ∀ (m : zM), k114 m → zW p l e (zRm 3 mc ms) s mt args below meth c g (MQ below (zQc g (zPv t Q)) args s mc ms (zFar g)) u 4 t m 114 [] []) : ∀ (n : Nat) (x_3 : Int32) (m : zM), wX8_build_L89 t a_0 Q k114 n x_3 m → zW p l e (zRm 3 mc ms) s mt args below meth c g (MQ below (zQc g (zPv t Q)) args s mc ms (zFar g)) u 4 t m 89 [(0, .ref a_0), (3, .int x_3)] [] := by
  intro n
  induction n with
  | zero => intro x_3 m H; exact H.elim
  | succ n ih =>
    intro x_3 m H
    simp only [wX8_build_L89] at H
    refine z_iload_n (pc := 89) C (dX8_build 51 rfl) rfl 1 rfl ?_
    refine z_aload_n (pc := 90) C (dX8_build 52 rfl) rfl 0 rfl ?_
    obtain ⟨h18, H⟩ := H
    refine z_getI (pc := 91) C zc8 h18 2 (by decide) rfl wf_X8_40 (dX8_build 53 rfl) ?_
    refine z_icmp_ge (pc := 94) (tgt := 114) C (dX8_build 54 rfl) (by decide) (fun c19 => ?_) (fun c19 => ?_)
    · replace H := H.1 c19
      refine z_sub [] rfl ?_
      exact K114 m H
    · replace H := H.2 c19
      refine z_aload_n (pc := 97) C (dX8_build 55 rfl) rfl 0 rfl ?_
      refine z_getR (pc := 98) C zc8 h18 5 (by decide) rfl wf_X8_26 (dX8_build 56 rfl) ?_
      refine z_iload_n (pc := 101) C (dX8_build 57 rfl) rfl 1 rfl ?_
      refine z_aload_n (pc := 102) C (dX8_build 58 rfl) rfl 0 rfl ?_
      refine z_iload_n (pc := 103) C (dX8_build 59 rfl) rfl 1 rfl ?_
      refine zc_Vl (pc := 104) (rest := [.int x_3, .ref (gR m a_0 5)]) C YX8_followingWord wl_X8_59 (kX8_followingWord H) (by decide) h18 rfl (by decide) (dX8_build 60 rfl) rfl hu1 hu2 (Nat.le_of_ble_eq_true rfl) rfl (fun r20 m21 H => ?_)
      obtain ⟨h22, H⟩ := H
      obtain ⟨h23, H⟩ := H
      refine z_lastore (pc := 107) C h22 h23 (dX8_build 61 rfl) ?_
      refine z_iinc (pc := 108) (i := 3) (v := x_3 + 1) (lv2 := [(3, .int (x_3 + 1)), (0, .ref a_0)]) C (dX8_build 62 rfl) 1 rfl (by rfl) (by decide) rfl ?_
      refine z_goto (pc := 111) (tgt := 89) C (dX8_build 63 rfl) (by decide) ?_
      refine z_sub [1, 0] rfl ?_
      exact ih (x_3 + 1) (pJ m21 (gR m a_0 5) x_3.toNatClampNeg r20) H
def wX8_build (t : zT) (m : zM) (a : Nat) (p1 : Nat) (Q : zM → Prop) : Prop := (tK t a = 8 ∧ (tK t p1 = 5 ∧ (wJ7_fill_d0a16 t (pI (pI (pR m a 0 p1) a 1 (if (4096 : Int32) < (gI m p1 2) then (4096 : Int32) else (gI m p1 2))) a 2 (((gI (pI (pR m a 0 p1) a 1 (if (4096 : Int32) < (gI m p1 2) then (4096 : Int32) else (gI m p1 2))) a 1) + (63 : Int32)) / 64)) (gR (pR m a 0 p1) a 4) 0 (fun m4 => (tK t (gR m4 a 0) = 5 ∧ (∀ x6 : Int32, x6 = ((gI m4 (gR m4 a 0) 0) - (1 : Int32)) → ((∃ n26, wX8_build_L53 t a Q (fun m17 => (∃ n25, wX8_build_L89 t a Q (fun m24 => (Q m24)) n25 0 m17)) n26 1 x6 m4))))))))
set_option maxHeartbeats 4000000 in
set_option maxRecDepth 20000 in
theorem kX8_build {l : Launch} {t : zT} {m : zM} {a : Nat} {p1 : Nat} {Q : zM → Prop} (H : wX8_build t m a p1 Q) : zMet l yX8_build cX8_build 4 none 3 0 0 t m [.ref a, .ref p1] (zPv t Q) := by
  refine zmet (by decide +kernel) (Nat.le_of_ble_eq_true rfl) ?_
  intro p e s mt args below meth c g C hr hm
  unfold wX8_build at H
  have hu1 : ((0, 0) : Nat × Nat).1 ≤ 0 := Nat.le_refl 0
  have hu2 : ((0, 0) : Nat × Nat).2 ≤ 0 := Nat.le_refl 0
  refine z_aload_n (pc := 0) C (dX8_build 0 rfl) rfl 0 rfl ?_
  refine z_aload_n (pc := 1) C (dX8_build 1 rfl) rfl 1 rfl ?_
  obtain ⟨h1, H⟩ := H
  refine z_putR (pc := 2) C zc8 h1 0 (by decide) rfl rfl wf_X8_12 (dX8_build 2 rfl) ?_
  refine z_aload_n (pc := 5) C (dX8_build 3 rfl) rfl 0 rfl ?_
  refine z_aload_n (pc := 6) C (dX8_build 4 rfl) rfl 1 rfl ?_
  obtain ⟨h2, H⟩ := H
  refine z_getI (pc := 7) C zc5 h2 2 (by decide) rfl wf_X8_29 (dX8_build 5 rfl) ?_
  refine z_sipush (pc := 10) (v := 4096) C (dX8_build 6 rfl) (by decide) ?_
  refine z_mmin (pc := 13) C wl_X8_33 (by decide) hu1 hu2 (Nat.le_of_ble_eq_true rfl) (dX8_build 7 rfl) ?_
  refine z_putI (pc := 16) C zc8 h1 1 (by decide) rfl rfl wf_X8_39 (dX8_build 8 rfl) ?_
  refine z_aload_n (pc := 19) C (dX8_build 9 rfl) rfl 0 rfl ?_
  refine z_aload_n (pc := 20) C (dX8_build 10 rfl) rfl 0 rfl ?_
  refine z_getI (pc := 21) C zc8 h1 1 (by decide) rfl wf_X8_39 (dX8_build 11 rfl) ?_
  refine z_bipush (pc := 24) (v := 63) C (dX8_build 12 rfl) (by decide) ?_
  refine z_iadd (pc := 26) C (dX8_build 13 rfl) ?_
  refine z_bipush (pc := 27) (v := 64) C (dX8_build 14 rfl) (by decide) ?_
  refine z_idiv (pc := 29) C (hne := by decide) (dX8_build 15 rfl) ?_
  refine z_putI (pc := 30) C zc8 h1 2 (by decide) rfl rfl wf_X8_40 (dX8_build 16 rfl) ?_
  refine z_aload_n (pc := 33) C (dX8_build 17 rfl) rfl 0 rfl ?_
  refine z_getR (pc := 34) C zc8 h1 4 (by decide) rfl wf_X8_22 (dX8_build 18 rfl) ?_
  refine z_lconst (pc := 37) (v := 0) C (dX8_build 19 rfl) (by decide) ?_
  refine zc_Sv (pc := 38) (rest := []) C YJ7_fill_d0a16 wl_X8_43 (kJ7_fill_d0a16 H) (by decide) (dX8_build 20 rfl) rfl hu1 hu2 (Nat.le_of_ble_eq_true rfl) rfl (fun m4 H => ?_)
  refine z_iconst (pc := 41) (v := 1) C (dX8_build 21 rfl) (by decide) ?_
  refine z_istore_n (pc := 42) (i := 2) (lv2 := [(2, .int 1), (0, .ref a), (1, .ref p1)]) C (dX8_build 22 rfl) rfl (by decide) rfl ?_
  refine z_aload_n (pc := 43) C (dX8_build 23 rfl) rfl 1 rfl ?_
  refine z_getR (pc := 44) C zc8 h1 0 (by decide) rfl wf_X8_12 (dX8_build 24 rfl) ?_
  obtain ⟨h5, H⟩ := H
  refine z_getI (pc := 47) C zc5 h5 0 (by decide) rfl wf_X8_49 (dX8_build 25 rfl) ?_
  refine z_iconst (pc := 50) (v := 1) C (dX8_build 26 rfl) (by decide) ?_
  refine z_isub (pc := 51) C (dX8_build 27 rfl) ?_
  refine z_int (fun x6 hx6 => ?_)
  replace H := H x6 hx6
  refine z_istore_n (pc := 52) (i := 3) (lv2 := [(3, .int x6), (2, .int 1), (0, .ref a), (1, .ref p1)]) C (dX8_build 28 rfl) rfl (by decide) rfl ?_
  obtain ⟨n26, H⟩ := H
  refine z_sub [2, 1, 0] rfl ?_
  refine sX8_build_L53 C hr hm hu1 hu2 (fun m17 H => ?_) n26 1 x6 m4 H
  refine z_iconst (pc := 87) (v := 0) C (dX8_build 49 rfl) (by decide) ?_
  refine z_istore_n (pc := 88) (i := 3) (lv2 := [(3, .int 0), (0, .ref a)]) C (dX8_build 50 rfl) rfl (by decide) rfl ?_
  obtain ⟨n25, H⟩ := H
  refine z_sub [1, 0] rfl ?_
  refine sX8_build_L89 C hr hm hu1 hu2 (fun m24 H => ?_) n25 0 m17 H
  exact z_vret (pc := 114) C hr hu1 hu2 (dX8_build 64 rfl) ⟨rfl, rfl, H⟩
def wX8_allRightWord_J69 (t : zT) (m : zM) (a_0 : Nat) (x_1 : Int32) (x_2 : Int32) (x_3 : Int32) (y_4 : Int64) (x_6 : Int32) (Q : Int64 → zM → Prop) (r8 : Int64 → Int32 → zM → Prop) : Prop := (r8 y_4 (x_6 + 1) m)
set_option maxHeartbeats 4000000 in
set_option maxRecDepth 20000 in
theorem sX8_allRightWord_J69 {p : Program} {l : Launch} {e : Env} {s : State} {mt : MethodId} {args : Array Value} {below : List Frame} {meth : Method} {c : Code} {g : zG} {u : Nat × Nat} {mc ms : Nat} {t : zT} {m : zM} {a_0 : Nat} {x_1 : Int32} {x_2 : Int32} {x_3 : Int32} {y_4 : Int64} {x_6 : Int32} {Q : Int64 → zM → Prop} {r8 : Int64 → Int32 → zM → Prop} (C : zC p (zRm 2 mc ms) s mt args meth c g cX8_allRightWord 7 yX8_allRightWord.cls 2) (hr : meth.sig.returnType = (some .long)) (hm : meth.name = yX8_allRightWord.name) (hu1 : u.1 ≤ mc) (hu2 : u.2 ≤ ms)
    (R8 : ∀ (v0 : Int64) (v1 : Int32) (m : zM), r8 v0 v1 m → zW p l e (zRm 2 mc ms) s mt args below meth c g (MQ below (zQc g (zPl t Q)) args s mc ms (zFar g)) u 7 t m 8 [(0, .ref a_0), (1, .int x_1), (2, .int x_2), (3, .int x_3), (4, .long v0), (6, .int v1)] []) (H : wX8_allRightWord_J69 t m a_0 x_1 x_2 x_3 y_4 x_6 Q r8) : zW p l e (zRm 2 mc ms) s mt args below meth c g (MQ below (zQc g (zPl t Q)) args s mc ms (zFar g)) u 7 t m 69 [(0, .ref a_0), (1, .int x_1), (2, .int x_2), (3, .int x_3), (4, .long y_4), (6, .int x_6)] [] := by
  unfold wX8_allRightWord_J69 at H
  refine z_iinc (pc := 69) (i := 6) (v := x_6 + 1) (lv2 := [(6, .int (x_6 + 1)), (0, .ref a_0), (1, .int x_1), (2, .int x_2), (3, .int x_3), (4, .long y_4)]) C (dX8_allRightWord 35 rfl) 5 rfl (by rfl) (by decide) rfl ?_
  refine z_goto (pc := 72) (tgt := 8) C (dX8_allRightWord 36 rfl) (by decide) ?_
  refine z_sub [1, 2, 3, 4, 5, 0] rfl ?_
  exact R8 y_4 (x_6 + 1) m H
def wX8_allRightWord_L8 (t : zT) (a_0 : Nat) (x_1 : Int32) (x_2 : Int32) (x_3 : Int32) (Q : Int64 → zM → Prop) (k75 : Int64 → zM → Prop) : Nat → Int64 → Int32 → zM → Prop
  | 0, _, _, _ => False
  | n + 1, y_4, x_6, m => (tK t a_0 = 8 ∧ (tK t (gR m a_0 0) = 5 ∧ (((gI m (gR m a_0 0) 14) ≤ x_6 → (k75 y_4 m)) ∧ (¬ (gI m (gR m a_0 0) 14) ≤ x_6 → (tK t (gR m (gR m a_0 0) 15) = 14 ∧ (vp_in x_6 (tL t (gR m (gR m a_0 0) 15)) ∧ (((gI m (gR m (gR m a_0 0) 15) x_6.toNatClampNeg) = x_1 → (tK t (gR m (gR m a_0 0) 16) = 14 ∧ (vp_in x_6 (tL t (gR m (gR m a_0 0) 16)) ∧ (((gI m (gR m (gR m a_0 0) 16) x_6.toNatClampNeg) = x_2 → (tK t (gR m (gR m a_0 0) 17) = 14 ∧ (vp_in x_6 (tL t (gR m (gR m a_0 0) 17)) ∧ (wX8_truthWord t m a_0 x_2 (gI m (gR m (gR m a_0 0) 17) x_6.toNatClampNeg) x_3 (fun r12 m13 => (∀ x14 : Int64, x14 = (y_4 &&& r12) → ((wX8_allRightWord_J69 t m13 a_0 x_1 x_2 x_3 x14 x_6 Q (wX8_allRightWord_L8 t a_0 x_1 x_2 x_3 Q k75 n))))))))) ∧ (¬ (gI m (gR m (gR m a_0 0) 16) x_6.toNatClampNeg) = x_2 → (wX8_allRightWord_J69 t m a_0 x_1 x_2 x_3 y_4 x_6 Q (wX8_allRightWord_L8 t a_0 x_1 x_2 x_3 Q k75 n))))))) ∧ (¬ (gI m (gR m (gR m a_0 0) 15) x_6.toNatClampNeg) = x_1 → (wX8_allRightWord_J69 t m a_0 x_1 x_2 x_3 y_4 x_6 Q (wX8_allRightWord_L8 t a_0 x_1 x_2 x_3 Q k75 n))))))))))
set_option maxHeartbeats 4000000 in
set_option maxRecDepth 20000 in
theorem sX8_allRightWord_L8 {p : Program} {l : Launch} {e : Env} {s : State} {mt : MethodId} {args : Array Value} {below : List Frame} {meth : Method} {c : Code} {g : zG} {u : Nat × Nat} {mc ms : Nat} {t : zT} {a_0 : Nat} {x_1 : Int32} {x_2 : Int32} {x_3 : Int32} {Q : Int64 → zM → Prop} {k75 : Int64 → zM → Prop} (C : zC p (zRm 2 mc ms) s mt args meth c g cX8_allRightWord 7 yX8_allRightWord.cls 2) (hr : meth.sig.returnType = (some .long)) (hm : meth.name = yX8_allRightWord.name) (hu1 : u.1 ≤ mc) (hu2 : u.2 ≤ ms)
    (K75 : ∀ (v0 : Int64) (m : zM), k75 v0 m → zW p l e (zRm 2 mc ms) s mt args below meth c g (MQ below (zQc g (zPl t Q)) args s mc ms (zFar g)) u 7 t m 75 [(4, .long v0)] []) : ∀ (n : Nat) (y_4 : Int64) (x_6 : Int32) (m : zM), wX8_allRightWord_L8 t a_0 x_1 x_2 x_3 Q k75 n y_4 x_6 m → zW p l e (zRm 2 mc ms) s mt args below meth c g (MQ below (zQc g (zPl t Q)) args s mc ms (zFar g)) u 7 t m 8 [(0, .ref a_0), (1, .int x_1), (2, .int x_2), (3, .int x_3), (4, .long y_4), (6, .int x_6)] [] := by
  intro n
  induction n with
  | zero => intro y_4 x_6 m H; exact H.elim
  | succ n ih =>
    intro y_4 x_6 m H
    simp only [wX8_allRightWord_L8] at H
    refine z_iload (pc := 8) C (dX8_allRightWord 4 rfl) 5 rfl ?_
    refine z_aload_n (pc := 10) C (dX8_allRightWord 5 rfl) rfl 0 rfl ?_
    obtain ⟨h1, H⟩ := H
    refine z_getR (pc := 11) C zc8 h1 0 (by decide) rfl wf_X8_12 (dX8_allRightWord 6 rfl) ?_
    obtain ⟨h2, H⟩ := H
    refine z_getI (pc := 14) C zc5 h2 14 (by decide) rfl wf_X8_87 (dX8_allRightWord 7 rfl) ?_
    refine z_icmp_ge (pc := 17) (tgt := 75) C (dX8_allRightWord 8 rfl) (by decide) (fun c3 => ?_) (fun c3 => ?_)
    · replace H := H.1 c3
      refine z_sub [4] rfl ?_
      exact K75 y_4 m H
    · replace H := H.2 c3
      refine z_aload_n (pc := 20) C (dX8_allRightWord 9 rfl) rfl 0 rfl ?_
      refine z_getR (pc := 21) C zc8 h1 0 (by decide) rfl wf_X8_12 (dX8_allRightWord 10 rfl) ?_
      refine z_getR (pc := 24) C zc5 h2 15 (by decide) rfl wf_X8_90 (dX8_allRightWord 11 rfl) ?_
      refine z_iload (pc := 27) C (dX8_allRightWord 12 rfl) 5 rfl ?_
      obtain ⟨h4, H⟩ := H
      obtain ⟨h5, H⟩ := H
      refine z_iaload (pc := 29) C h4 h5 (dX8_allRightWord 13 rfl) ?_
      refine z_iload_n (pc := 30) C (dX8_allRightWord 14 rfl) rfl 1 rfl ?_
      refine z_icmp_ne (pc := 31) (tgt := 69) C (dX8_allRightWord 15 rfl) (by decide) (fun c6 => ?_) (fun c6 => ?_)
      · replace H := H.2 c6
        refine z_sub [0, 1, 2, 3, 4, 5] rfl ?_
        exact sX8_allRightWord_J69 C hr hm hu1 hu2 ih H
      · replace H := H.1 c6
        refine z_aload_n (pc := 34) C (dX8_allRightWord 16 rfl) rfl 0 rfl ?_
        refine z_getR (pc := 35) C zc8 h1 0 (by decide) rfl wf_X8_12 (dX8_allRightWord 17 rfl) ?_
        refine z_getR (pc := 38) C zc5 h2 16 (by decide) rfl wf_X8_93 (dX8_allRightWord 18 rfl) ?_
        refine z_iload (pc := 41) C (dX8_allRightWord 19 rfl) 5 rfl ?_
        obtain ⟨h7, H⟩ := H
        obtain ⟨h8, H⟩ := H
        refine z_iaload (pc := 43) C h7 h8 (dX8_allRightWord 20 rfl) ?_
        refine z_iload_n (pc := 44) C (dX8_allRightWord 21 rfl) rfl 2 rfl ?_
        refine z_icmp_ne (pc := 45) (tgt := 69) C (dX8_allRightWord 22 rfl) (by decide) (fun c9 => ?_) (fun c9 => ?_)
        · replace H := H.2 c9
          refine z_sub [0, 1, 2, 3, 4, 5] rfl ?_
          exact sX8_allRightWord_J69 C hr hm hu1 hu2 ih H
        · replace H := H.1 c9
          refine z_lload (pc := 48) C (dX8_allRightWord 23 rfl) 4 rfl ?_
          refine z_aload_n (pc := 50) C (dX8_allRightWord 24 rfl) rfl 0 rfl ?_
          refine z_iload_n (pc := 51) C (dX8_allRightWord 25 rfl) rfl 2 rfl ?_
          refine z_aload_n (pc := 52) C (dX8_allRightWord 26 rfl) rfl 0 rfl ?_
          refine z_getR (pc := 53) C zc8 h1 0 (by decide) rfl wf_X8_12 (dX8_allRightWord 27 rfl) ?_
          refine z_getR (pc := 56) C zc5 h2 17 (by decide) rfl wf_X8_96 (dX8_allRightWord 28 rfl) ?_
          refine z_iload (pc := 59) C (dX8_allRightWord 29 rfl) 5 rfl ?_
          obtain ⟨h10, H⟩ := H
          obtain ⟨h11, H⟩ := H
          refine z_iaload (pc := 61) C h10 h11 (dX8_allRightWord 30 rfl) ?_
          refine z_iload_n (pc := 62) C (dX8_allRightWord 31 rfl) rfl 3 rfl ?_
          refine zc_Vl (pc := 63) (rest := [.long y_4]) C YX8_truthWord wl_X8_77 (kX8_truthWord H) (by decide) h1 rfl (by decide) (dX8_allRightWord 32 rfl) rfl hu1 hu2 (Nat.le_of_ble_eq_true rfl) rfl (fun r12 m13 H => ?_)
          refine z_land (pc := 66) C (dX8_allRightWord 33 rfl) ?_
          refine z_long (fun x14 hx14 => ?_)
          replace H := H x14 hx14
          refine z_lstore (pc := 67) (i := 4) (lv2 := [(4, .long x14), (0, .ref a_0), (1, .int x_1), (2, .int x_2), (3, .int x_3), (6, .int x_6)]) C (dX8_allRightWord 34 rfl) (by decide) rfl ?_
          refine z_sub [1, 2, 3, 4, 0, 5] rfl ?_
          exact sX8_allRightWord_J69 C hr hm hu1 hu2 ih H
def wX8_allRightWord (t : zT) (m : zM) (a : Nat) (p1 : Int32) (p2 : Int32) (p3 : Int32) (Q : Int64 → zM → Prop) : Prop := (∃ n17, wX8_allRightWord_L8 t a p1 p2 p3 Q (fun v15 m16 => (Q v15 m16)) n17 (-1) 0 m)
set_option maxHeartbeats 4000000 in
set_option maxRecDepth 20000 in
theorem kX8_allRightWord {l : Launch} {t : zT} {m : zM} {a : Nat} {p1 : Int32} {p2 : Int32} {p3 : Int32} {Q : Int64 → zM → Prop} (H : wX8_allRightWord t m a p1 p2 p3 Q) : zMet l yX8_allRightWord cX8_allRightWord 7 (some .long) 2 0 0 t m [.ref a, .int p1, .int p2, .int p3] (zPl t Q) := by
  refine zmet (by decide +kernel) (Nat.le_of_ble_eq_true rfl) ?_
  intro p e s mt args below meth c g C hr hm
  unfold wX8_allRightWord at H
  have hu1 : ((0, 0) : Nat × Nat).1 ≤ 0 := Nat.le_refl 0
  have hu2 : ((0, 0) : Nat × Nat).2 ≤ 0 := Nat.le_refl 0
  refine z_ldc2 (pc := 0) C wj_X8_66 (dX8_allRightWord 0 rfl) ?_
  refine z_lstore (pc := 3) (i := 4) (lv2 := [(4, .long (-1)), (0, .ref a), (1, .int p1), (2, .int p2), (3, .int p3)]) C (dX8_allRightWord 1 rfl) (by decide) rfl ?_
  refine z_iconst (pc := 5) (v := 0) C (dX8_allRightWord 2 rfl) (by decide) ?_
  refine z_istore (pc := 6) (i := 6) (lv2 := [(6, .int 0), (4, .long (-1)), (0, .ref a), (1, .int p1), (2, .int p2), (3, .int p3)]) C (dX8_allRightWord 3 rfl) (by decide) rfl ?_
  obtain ⟨n17, H⟩ := H
  refine z_sub [2, 3, 4, 5, 1, 0] rfl ?_
  refine sX8_allRightWord_L8 C hr hm hu1 hu2 (fun v15 m16 H => ?_) n17 (-1) 0 m H
  refine z_lload (pc := 75) C (dX8_allRightWord 37 rfl) 0 rfl ?_
  exact z_lret (pc := 77) C hr hu1 hu2 (dX8_allRightWord 38 rfl) ⟨rfl, _, rfl, H⟩
def wX8_membersWith_L13 (t : zT) (a_0 : Nat) (a_1 : Nat) (x_5 : Int32) (Q : Int32 → zM → Prop) (k54 : Int32 → zM → Prop) : Nat → Int32 → Int32 → zM → Prop
  | 0, _, _, _ => False
  | n + 1, x_4, x_6, m => (tK t a_1 = 4 ∧ (((gI m a_1 1) ≤ x_6 → (k54 x_4 m)) ∧ (¬ (gI m a_1 1) ≤ x_6 → (tK t (gR m a_1 0) = 15 ∧ (vp_in x_6 (tL t (gR m a_1 0)) ∧ (tK t a_0 = 8 ∧ (tK t (gR m a_0 4) = 15 ∧ (vp_in (x_5 + x_6) (tL t (gR m a_0 4)) ∧ (wJ13_bitCount_95d88 t m ((gJ m (gR m a_1 0) x_6.toNatClampNeg) &&& (gJ m (gR m a_0 4) ((x_5 + x_6).toNatClampNeg))) (fun r10 m11 => (wX8_membersWith_L13 t a_0 a_1 x_5 Q k54 n (x_4 + r10) (x_6 + 1) m11)))))))))))
set_option maxHeartbeats 4000000 in
set_option maxRecDepth 20000 in
theorem sX8_membersWith_L13 {p : Program} {l : Launch} {e : Env} {s : State} {mt : MethodId} {args : Array Value} {below : List Frame} {meth : Method} {c : Code} {g : zG} {u : Nat × Nat} {mc ms : Nat} {t : zT} {a_0 : Nat} {a_1 : Nat} {x_5 : Int32} {Q : Int32 → zM → Prop} {k54 : Int32 → zM → Prop} (C : zC p (zRm 1 mc ms) s mt args meth c g cX8_membersWith 7 yX8_membersWith.cls 1) (hr : meth.sig.returnType = (some .int)) (hm : meth.name = yX8_membersWith.name) (hu1 : u.1 ≤ mc) (hu2 : u.2 ≤ ms)
    (K54 : ∀ (v0 : Int32) (m : zM), k54 v0 m → zW p l e (zRm 1 mc ms) s mt args below meth c g (MQ below (zQc g (zPi t Q)) args s mc ms (zFar g)) u 7 t m 54 [(4, .int v0)] []) : ∀ (n : Nat) (x_4 : Int32) (x_6 : Int32) (m : zM), wX8_membersWith_L13 t a_0 a_1 x_5 Q k54 n x_4 x_6 m → zW p l e (zRm 1 mc ms) s mt args below meth c g (MQ below (zQc g (zPi t Q)) args s mc ms (zFar g)) u 7 t m 13 [(0, .ref a_0), (1, .ref a_1), (4, .int x_4), (5, .int x_5), (6, .int x_6)] [] := by
  intro n
  induction n with
  | zero => intro x_4 x_6 m H; exact H.elim
  | succ n ih =>
    intro x_4 x_6 m H
    simp only [wX8_membersWith_L13] at H
    refine z_iload (pc := 13) C (dX8_membersWith 8 rfl) 4 rfl ?_
    refine z_aload_n (pc := 15) C (dX8_membersWith 9 rfl) rfl 1 rfl ?_
    obtain ⟨h3, H⟩ := H
    refine z_getI (pc := 16) C zc4 h3 1 (by decide) rfl wf_X8_102 (dX8_membersWith 10 rfl) ?_
    refine z_icmp_ge (pc := 19) (tgt := 54) C (dX8_membersWith 11 rfl) (by decide) (fun c4 => ?_) (fun c4 => ?_)
    · replace H := H.1 c4
      refine z_sub [2] rfl ?_
      exact K54 x_4 m H
    · replace H := H.2 c4
      refine z_iload (pc := 22) C (dX8_membersWith 12 rfl) 2 rfl ?_
      refine z_aload_n (pc := 24) C (dX8_membersWith 13 rfl) rfl 1 rfl ?_
      refine z_getR (pc := 25) C zc4 h3 0 (by decide) rfl wf_X8_105 (dX8_membersWith 14 rfl) ?_
      refine z_iload (pc := 28) C (dX8_membersWith 15 rfl) 4 rfl ?_
      obtain ⟨h5, H⟩ := H
      obtain ⟨h6, H⟩ := H
      refine z_laload (pc := 30) C h5 h6 (dX8_membersWith 16 rfl) ?_
      refine z_aload_n (pc := 31) C (dX8_membersWith 17 rfl) rfl 0 rfl ?_
      obtain ⟨h7, H⟩ := H
      refine z_getR (pc := 32) C zc8 h7 4 (by decide) rfl wf_X8_22 (dX8_membersWith 18 rfl) ?_
      refine z_iload (pc := 35) C (dX8_membersWith 19 rfl) 3 rfl ?_
      refine z_iload (pc := 37) C (dX8_membersWith 20 rfl) 4 rfl ?_
      refine z_iadd (pc := 39) C (dX8_membersWith 21 rfl) ?_
      obtain ⟨h8, H⟩ := H
      obtain ⟨h9, H⟩ := H
      refine z_laload (pc := 40) C h8 h9 (dX8_membersWith 22 rfl) ?_
      refine z_land (pc := 41) C (dX8_membersWith 23 rfl) ?_
      refine zc_Si (pc := 42) (rest := [.int x_4]) C YJ13_bitCount_95d88 wl_X8_108 (kJ13_bitCount_95d88 H) (by decide) (dX8_membersWith 24 rfl) rfl hu1 hu2 (Nat.le_of_ble_eq_true rfl) rfl (fun r10 m11 H => ?_)
      refine z_iadd (pc := 45) C (dX8_membersWith 25 rfl) ?_
      refine z_istore (pc := 46) (i := 4) (lv2 := [(4, .int (x_4 + r10)), (0, .ref a_0), (1, .ref a_1), (5, .int x_5), (6, .int x_6)]) C (dX8_membersWith 26 rfl) (by decide) rfl ?_
      refine z_iinc (pc := 48) (i := 6) (v := x_6 + 1) (lv2 := [(6, .int (x_6 + 1)), (4, .int (x_4 + r10)), (0, .ref a_0), (1, .ref a_1), (5, .int x_5)]) C (dX8_membersWith 27 rfl) 4 rfl (by rfl) (by decide) rfl ?_
      refine z_goto (pc := 51) (tgt := 13) C (dX8_membersWith 28 rfl) (by decide) ?_
      refine z_sub [2, 3, 1, 4, 0] rfl ?_
      exact ih (x_4 + r10) (x_6 + 1) m11 H
def wX8_membersWith (t : zT) (m : zM) (a : Nat) (p1 : Nat) (p2 : Int32) (p3 : Int32) (Q : Int32 → zM → Prop) : Prop := (wX8_rowOf t m p2 p3 (fun r1 m2 => (∃ n14, wX8_membersWith_L13 t a p1 r1 Q (fun v12 m13 => (Q v12 m13)) n14 0 0 m2)))
set_option maxHeartbeats 4000000 in
set_option maxRecDepth 20000 in
theorem kX8_membersWith {l : Launch} {t : zT} {m : zM} {a : Nat} {p1 : Nat} {p2 : Int32} {p3 : Int32} {Q : Int32 → zM → Prop} (H : wX8_membersWith t m a p1 p2 p3 Q) : zMet l yX8_membersWith cX8_membersWith 7 (some .int) 1 0 0 t m [.ref a, .ref p1, .int p2, .int p3] (zPi t Q) := by
  refine zmet (by decide +kernel) (Nat.le_of_ble_eq_true rfl) ?_
  intro p e s mt args below meth c g C hr hm
  unfold wX8_membersWith at H
  have hu1 : ((0, 0) : Nat × Nat).1 ≤ 0 := Nat.le_refl 0
  have hu2 : ((0, 0) : Nat × Nat).2 ≤ 0 := Nat.le_refl 0
  refine z_iconst (pc := 0) (v := 0) C (dX8_membersWith 0 rfl) (by decide) ?_
  refine z_istore (pc := 1) (i := 4) (lv2 := [(4, .int 0), (0, .ref a), (1, .ref p1), (2, .int p2), (3, .int p3)]) C (dX8_membersWith 1 rfl) (by decide) rfl ?_
  refine z_iload_n (pc := 3) C (dX8_membersWith 2 rfl) rfl 3 rfl ?_
  refine z_iload_n (pc := 4) C (dX8_membersWith 3 rfl) rfl 4 rfl ?_
  refine zc_Si (pc := 5) (rest := []) C YX8_rowOf wl_X8_63 (kX8_rowOf H) (by decide) (dX8_membersWith 4 rfl) rfl hu1 hu2 (Nat.le_of_ble_eq_true rfl) rfl (fun r1 m2 H => ?_)
  refine z_istore (pc := 8) (i := 5) (lv2 := [(5, .int r1), (4, .int 0), (0, .ref a), (1, .ref p1), (2, .int p2), (3, .int p3)]) C (dX8_membersWith 5 rfl) (by decide) rfl ?_
  refine z_iconst (pc := 10) (v := 0) C (dX8_membersWith 6 rfl) (by decide) ?_
  refine z_istore (pc := 11) (i := 6) (lv2 := [(6, .int 0), (5, .int r1), (4, .int 0), (0, .ref a), (1, .ref p1), (2, .int p2), (3, .int p3)]) C (dX8_membersWith 7 rfl) (by decide) rfl ?_
  obtain ⟨n14, H⟩ := H
  refine z_sub [3, 4, 2, 1, 0] rfl ?_
  refine sX8_membersWith_L13 C hr hm hu1 hu2 (fun v12 m13 H => ?_) n14 0 0 m2 H
  refine z_iload (pc := 54) C (dX8_membersWith 29 rfl) 0 rfl ?_
  exact z_iret (pc := 56) C hr hu1 hu2 (dX8_membersWith 30 rfl) ⟨rfl, _, rfl, H⟩
def wX8_keepOnly_L10 (t : zT) (a_0 : Nat) (a_1 : Nat) (x_4 : Int32) (Q : zM → Prop) (k45 : zM → Prop) : Nat → Int32 → zM → Prop
  | 0, _, _ => False
  | n + 1, x_5, m => (tK t a_1 = 4 ∧ (((gI m a_1 1) ≤ x_5 → (k45 m)) ∧ (¬ (gI m a_1 1) ≤ x_5 → (tK t (gR m a_1 0) = 15 ∧ (vp_in x_5 (tL t (gR m a_1 0)) ∧ (tK t a_0 = 8 ∧ (tK t (gR m a_0 4) = 15 ∧ (vp_in (x_4 + x_5) (tL t (gR m a_0 4)) ∧ (wX8_keepOnly_L10 t a_0 a_1 x_4 Q k45 n (x_5 + 1) (pJ m (gR m a_1 0) x_5.toNatClampNeg ((gJ m (gR m a_1 0) x_5.toNatClampNeg) &&& (gJ m (gR m a_0 4) ((x_4 + x_5).toNatClampNeg)))))))))))))
set_option maxHeartbeats 4000000 in
set_option maxRecDepth 20000 in
theorem sX8_keepOnly_L10 {p : Program} {l : Launch} {e : Env} {s : State} {mt : MethodId} {args : Array Value} {below : List Frame} {meth : Method} {c : Code} {g : zG} {u : Nat × Nat} {mc ms : Nat} {t : zT} {a_0 : Nat} {a_1 : Nat} {x_4 : Int32} {Q : zM → Prop} {k45 : zM → Prop} (C : zC p (zRm 2 mc ms) s mt args meth c g cX8_keepOnly 6 yX8_keepOnly.cls 2) (hr : meth.sig.returnType = none) (hm : meth.name = yX8_keepOnly.name) (hu1 : u.1 ≤ mc) (hu2 : u.2 ≤ ms)
    (K45 : ∀ (m : zM), k45 m → zW p l e (zRm 2 mc ms) s mt args below meth c g (MQ below (zQc g (zPv t Q)) args s mc ms (zFar g)) u 6 t m 45 [(1, .ref a_1)] []) : ∀ (n : Nat) (x_5 : Int32) (m : zM), wX8_keepOnly_L10 t a_0 a_1 x_4 Q k45 n x_5 m → zW p l e (zRm 2 mc ms) s mt args below meth c g (MQ below (zQc g (zPv t Q)) args s mc ms (zFar g)) u 6 t m 10 [(0, .ref a_0), (1, .ref a_1), (4, .int x_4), (5, .int x_5)] [] := by
  intro n
  induction n with
  | zero => intro x_5 m H; exact H.elim
  | succ n ih =>
    intro x_5 m H
    simp only [wX8_keepOnly_L10] at H
    refine z_iload (pc := 10) C (dX8_keepOnly 6 rfl) 3 rfl ?_
    refine z_aload_n (pc := 12) C (dX8_keepOnly 7 rfl) rfl 1 rfl ?_
    obtain ⟨h3, H⟩ := H
    refine z_getI (pc := 13) C zc4 h3 1 (by decide) rfl wf_X8_102 (dX8_keepOnly 8 rfl) ?_
    refine z_icmp_ge (pc := 16) (tgt := 45) C (dX8_keepOnly 9 rfl) (by decide) (fun c4 => ?_) (fun c4 => ?_)
    · replace H := H.1 c4
      refine z_sub [1] rfl ?_
      exact K45 m H
    · replace H := H.2 c4
      refine z_aload_n (pc := 19) C (dX8_keepOnly 10 rfl) rfl 1 rfl ?_
      refine z_getR (pc := 20) C zc4 h3 0 (by decide) rfl wf_X8_105 (dX8_keepOnly 11 rfl) ?_
      refine z_iload (pc := 23) C (dX8_keepOnly 12 rfl) 3 rfl ?_
      refine z_dup2_11 (pc := 25) C (dX8_keepOnly 13 rfl) rfl rfl ?_
      obtain ⟨h5, H⟩ := H
      obtain ⟨h6, H⟩ := H
      refine z_laload (pc := 26) C h5 h6 (dX8_keepOnly 14 rfl) ?_
      refine z_aload_n (pc := 27) C (dX8_keepOnly 15 rfl) rfl 0 rfl ?_
      obtain ⟨h7, H⟩ := H
      refine z_getR (pc := 28) C zc8 h7 4 (by decide) rfl wf_X8_22 (dX8_keepOnly 16 rfl) ?_
      refine z_iload (pc := 31) C (dX8_keepOnly 17 rfl) 2 rfl ?_
      refine z_iload (pc := 33) C (dX8_keepOnly 18 rfl) 3 rfl ?_
      refine z_iadd (pc := 35) C (dX8_keepOnly 19 rfl) ?_
      obtain ⟨h8, H⟩ := H
      obtain ⟨h9, H⟩ := H
      refine z_laload (pc := 36) C h8 h9 (dX8_keepOnly 20 rfl) ?_
      refine z_land (pc := 37) C (dX8_keepOnly 21 rfl) ?_
      refine z_lastore (pc := 38) C h5 h6 (dX8_keepOnly 22 rfl) ?_
      refine z_iinc (pc := 39) (i := 5) (v := x_5 + 1) (lv2 := [(5, .int (x_5 + 1)), (0, .ref a_0), (1, .ref a_1), (4, .int x_4)]) C (dX8_keepOnly 23 rfl) 3 rfl (by rfl) (by decide) rfl ?_
      refine z_goto (pc := 42) (tgt := 10) C (dX8_keepOnly 24 rfl) (by decide) ?_
      refine z_sub [1, 2, 3, 0] rfl ?_
      exact ih (x_5 + 1) (pJ m (gR m a_1 0) x_5.toNatClampNeg ((gJ m (gR m a_1 0) x_5.toNatClampNeg) &&& (gJ m (gR m a_0 4) ((x_4 + x_5).toNatClampNeg)))) H
def wX8_keepOnly (t : zT) (m : zM) (a : Nat) (p1 : Nat) (p2 : Int32) (p3 : Int32) (Q : zM → Prop) : Prop := (wX8_rowOf t m p2 p3 (fun r1 m2 => (∃ n14, wX8_keepOnly_L10 t a p1 r1 Q (fun m10 => (tK t p1 = 4 ∧ (wX4_recount t m10 p1 (fun m13 => (Q m13))))) n14 0 m2)))
set_option maxHeartbeats 4000000 in
set_option maxRecDepth 20000 in
theorem kX8_keepOnly {l : Launch} {t : zT} {m : zM} {a : Nat} {p1 : Nat} {p2 : Int32} {p3 : Int32} {Q : zM → Prop} (H : wX8_keepOnly t m a p1 p2 p3 Q) : zMet l yX8_keepOnly cX8_keepOnly 6 none 2 0 0 t m [.ref a, .ref p1, .int p2, .int p3] (zPv t Q) := by
  refine zmet (by decide +kernel) (Nat.le_of_ble_eq_true rfl) ?_
  intro p e s mt args below meth c g C hr hm
  unfold wX8_keepOnly at H
  have hu1 : ((0, 0) : Nat × Nat).1 ≤ 0 := Nat.le_refl 0
  have hu2 : ((0, 0) : Nat × Nat).2 ≤ 0 := Nat.le_refl 0
  refine z_iload_n (pc := 0) C (dX8_keepOnly 0 rfl) rfl 2 rfl ?_
  refine z_iload_n (pc := 1) C (dX8_keepOnly 1 rfl) rfl 3 rfl ?_
  refine zc_Si (pc := 2) (rest := []) C YX8_rowOf wl_X8_63 (kX8_rowOf H) (by decide) (dX8_keepOnly 2 rfl) rfl hu1 hu2 (Nat.le_of_ble_eq_true rfl) rfl (fun r1 m2 H => ?_)
  refine z_istore (pc := 5) (i := 4) (lv2 := [(4, .int r1), (0, .ref a), (1, .ref p1), (2, .int p2), (3, .int p3)]) C (dX8_keepOnly 3 rfl) (by decide) rfl ?_
  refine z_iconst (pc := 7) (v := 0) C (dX8_keepOnly 4 rfl) (by decide) ?_
  refine z_istore (pc := 8) (i := 5) (lv2 := [(5, .int 0), (4, .int r1), (0, .ref a), (1, .ref p1), (2, .int p2), (3, .int p3)]) C (dX8_keepOnly 5 rfl) (by decide) rfl ?_
  obtain ⟨n14, H⟩ := H
  refine z_sub [2, 3, 1, 0] rfl ?_
  refine sX8_keepOnly_L10 C hr hm hu1 hu2 (fun m10 H => ?_) n14 0 m2 H
  refine z_aload_n (pc := 45) C (dX8_keepOnly 25 rfl) rfl 0 rfl ?_
  obtain ⟨h11, H⟩ := H
  refine zc_Vv (pc := 46) (rest := []) C YX4_recount wl_X8_114 (kX4_recount H) (by decide) h11 rfl (by decide) (dX8_keepOnly 26 rfl) rfl hu1 hu2 (Nat.le_of_ble_eq_true rfl) rfl (fun m13 H => ?_)
  exact z_vret (pc := 49) C hr hu1 hu2 (dX8_keepOnly 27 rfl) ⟨rfl, rfl, H⟩
def wX8_commonest_J47 (t : zT) (m : zM) (a_0 : Nat) (a_1 : Nat) (x_2 : Int32) (x_3 : Int32) (x_4 : Int32) (x_5 : Int32) (Q : Int32 → zM → Prop) (r9 : Int32 → Int32 → Int32 → zM → Prop) : Prop := (r9 x_3 x_4 (x_5 + 1) m)
set_option maxHeartbeats 4000000 in
set_option maxRecDepth 20000 in
theorem sX8_commonest_J47 {p : Program} {l : Launch} {e : Env} {s : State} {mt : MethodId} {args : Array Value} {below : List Frame} {meth : Method} {c : Code} {g : zG} {u : Nat × Nat} {mc ms : Nat} {t : zT} {m : zM} {a_0 : Nat} {a_1 : Nat} {x_2 : Int32} {x_3 : Int32} {x_4 : Int32} {x_5 : Int32} {Q : Int32 → zM → Prop} {r9 : Int32 → Int32 → Int32 → zM → Prop} (C : zC p (zRm 2 mc ms) s mt args meth c g cX8_commonest 7 yX8_commonest.cls 2) (hr : meth.sig.returnType = (some .int)) (hm : meth.name = yX8_commonest.name) (hu1 : u.1 ≤ mc) (hu2 : u.2 ≤ ms)
    (R9 : ∀ (v0 : Int32) (v1 : Int32) (v2 : Int32) (m : zM), r9 v0 v1 v2 m → zW p l e (zRm 2 mc ms) s mt args below meth c g (MQ below (zQc g (zPi t Q)) args s mc ms (zFar g)) u 7 t m 9 [(0, .ref a_0), (1, .ref a_1), (2, .int x_2), (3, .int v0), (4, .int v1), (5, .int v2)] []) (H : wX8_commonest_J47 t m a_0 a_1 x_2 x_3 x_4 x_5 Q r9) : zW p l e (zRm 2 mc ms) s mt args below meth c g (MQ below (zQc g (zPi t Q)) args s mc ms (zFar g)) u 7 t m 47 [(0, .ref a_0), (1, .ref a_1), (2, .int x_2), (3, .int x_3), (4, .int x_4), (5, .int x_5)] [] := by
  unfold wX8_commonest_J47 at H
  refine z_iinc (pc := 47) (i := 5) (v := x_5 + 1) (lv2 := [(5, .int (x_5 + 1)), (0, .ref a_0), (1, .ref a_1), (2, .int x_2), (3, .int x_3), (4, .int x_4)]) C (dX8_commonest 26 rfl) 5 rfl (by rfl) (by decide) rfl ?_
  refine z_goto (pc := 50) (tgt := 9) C (dX8_commonest 27 rfl) (by decide) ?_
  refine z_sub [1, 2, 3, 4, 5, 0] rfl ?_
  exact R9 x_3 x_4 (x_5 + 1) m H
def wX8_commonest_L9 (t : zT) (a_0 : Nat) (a_1 : Nat) (x_2 : Int32) (Q : Int32 → zM → Prop) (k53 : Int32 → zM → Prop) : Nat → Int32 → Int32 → Int32 → zM → Prop
  | 0, _, _, _, _ => False
  | n + 1, x_3, x_4, x_5, m => (tK t a_0 = 8 ∧ (tK t (gR m a_0 0) = 5 ∧ (tK t (gR m (gR m a_0 0) 1) = 14 ∧ (vp_in x_2 (tL t (gR m (gR m a_0 0) 1)) ∧ (((gI m (gR m (gR m a_0 0) 1) x_2.toNatClampNeg) ≤ x_5 → (k53 x_3 m)) ∧ (¬ (gI m (gR m (gR m a_0 0) 1) x_2.toNatClampNeg) ≤ x_5 → (wX8_membersWith t m a_0 a_1 x_2 x_5 (fun r6 m7 => ((r6 ≤ x_4 → (wX8_commonest_J47 t m7 a_0 a_1 x_2 x_3 x_4 x_5 Q (wX8_commonest_L9 t a_0 a_1 x_2 Q k53 n))) ∧ (¬ r6 ≤ x_4 → (wX8_commonest_J47 t m7 a_0 a_1 x_2 x_5 r6 x_5 Q (wX8_commonest_L9 t a_0 a_1 x_2 Q k53 n))))))))))))
set_option maxHeartbeats 4000000 in
set_option maxRecDepth 20000 in
theorem sX8_commonest_L9 {p : Program} {l : Launch} {e : Env} {s : State} {mt : MethodId} {args : Array Value} {below : List Frame} {meth : Method} {c : Code} {g : zG} {u : Nat × Nat} {mc ms : Nat} {t : zT} {a_0 : Nat} {a_1 : Nat} {x_2 : Int32} {Q : Int32 → zM → Prop} {k53 : Int32 → zM → Prop} (C : zC p (zRm 2 mc ms) s mt args meth c g cX8_commonest 7 yX8_commonest.cls 2) (hr : meth.sig.returnType = (some .int)) (hm : meth.name = yX8_commonest.name) (hu1 : u.1 ≤ mc) (hu2 : u.2 ≤ ms)
    (K53 : ∀ (v0 : Int32) (m : zM), k53 v0 m → zW p l e (zRm 2 mc ms) s mt args below meth c g (MQ below (zQc g (zPi t Q)) args s mc ms (zFar g)) u 7 t m 53 [(3, .int v0)] []) : ∀ (n : Nat) (x_3 : Int32) (x_4 : Int32) (x_5 : Int32) (m : zM), wX8_commonest_L9 t a_0 a_1 x_2 Q k53 n x_3 x_4 x_5 m → zW p l e (zRm 2 mc ms) s mt args below meth c g (MQ below (zQc g (zPi t Q)) args s mc ms (zFar g)) u 7 t m 9 [(0, .ref a_0), (1, .ref a_1), (2, .int x_2), (3, .int x_3), (4, .int x_4), (5, .int x_5)] [] := by
  intro n
  induction n with
  | zero => intro x_3 x_4 x_5 m H; exact H.elim
  | succ n ih =>
    intro x_3 x_4 x_5 m H
    simp only [wX8_commonest_L9] at H
    refine z_iload (pc := 9) C (dX8_commonest 6 rfl) 5 rfl ?_
    refine z_aload_n (pc := 11) C (dX8_commonest 7 rfl) rfl 0 rfl ?_
    obtain ⟨h1, H⟩ := H
    refine z_getR (pc := 12) C zc8 h1 0 (by decide) rfl wf_X8_12 (dX8_commonest 8 rfl) ?_
    obtain ⟨h2, H⟩ := H
    refine z_getR (pc := 15) C zc5 h2 1 (by decide) rfl wf_X8_56 (dX8_commonest 9 rfl) ?_
    refine z_iload_n (pc := 18) C (dX8_commonest 10 rfl) rfl 2 rfl ?_
    obtain ⟨h3, H⟩ := H
    obtain ⟨h4, H⟩ := H
    refine z_iaload (pc := 19) C h3 h4 (dX8_commonest 11 rfl) ?_
    refine z_icmp_ge (pc := 20) (tgt := 53) C (dX8_commonest 12 rfl) (by decide) (fun c5 => ?_) (fun c5 => ?_)
    · replace H := H.1 c5
      refine z_sub [3] rfl ?_
      exact K53 x_3 m H
    · replace H := H.2 c5
      refine z_aload_n (pc := 23) C (dX8_commonest 13 rfl) rfl 0 rfl ?_
      refine z_aload_n (pc := 24) C (dX8_commonest 14 rfl) rfl 1 rfl ?_
      refine z_iload_n (pc := 25) C (dX8_commonest 15 rfl) rfl 2 rfl ?_
      refine z_iload (pc := 26) C (dX8_commonest 16 rfl) 5 rfl ?_
      refine zc_Vi (pc := 28) (rest := []) C YX8_membersWith wl_X8_126 (kX8_membersWith H) (by decide) h1 rfl (by decide) (dX8_commonest 17 rfl) rfl hu1 hu2 (Nat.le_of_ble_eq_true rfl) rfl (fun r6 m7 H => ?_)
      refine z_istore (pc := 31) (i := 6) (lv2 := [(6, .int r6), (0, .ref a_0), (1, .ref a_1), (2, .int x_2), (3, .int x_3), (4, .int x_4), (5, .int x_5)]) C (dX8_commonest 18 rfl) (by decide) rfl ?_
      refine z_iload (pc := 33) C (dX8_commonest 19 rfl) 0 rfl ?_
      refine z_iload (pc := 35) C (dX8_commonest 20 rfl) 5 rfl ?_
      refine z_icmp_le (pc := 37) (tgt := 47) C (dX8_commonest 21 rfl) (by decide) (fun c8 => ?_) (fun c8 => ?_)
      · replace H := H.1 c8
        refine z_sub [1, 2, 3, 4, 5, 6] rfl ?_
        exact sX8_commonest_J47 C hr hm hu1 hu2 ih H
      · replace H := H.2 c8
        refine z_iload (pc := 40) C (dX8_commonest 22 rfl) 0 rfl ?_
        refine z_istore (pc := 42) (i := 4) (lv2 := [(4, .int r6), (6, .int r6), (0, .ref a_0), (1, .ref a_1), (2, .int x_2), (3, .int x_3), (5, .int x_5)]) C (dX8_commonest 23 rfl) (by decide) rfl ?_
        refine z_iload (pc := 44) C (dX8_commonest 24 rfl) 6 rfl ?_
        refine z_istore_n (pc := 46) (i := 3) (lv2 := [(3, .int x_5), (4, .int r6), (6, .int r6), (0, .ref a_0), (1, .ref a_1), (2, .int x_2), (5, .int x_5)]) C (dX8_commonest 25 rfl) rfl (by decide) rfl ?_
        refine z_sub [3, 4, 5, 0, 1, 6] rfl ?_
        exact sX8_commonest_J47 C hr hm hu1 hu2 ih H
def wX8_commonest (t : zT) (m : zM) (a : Nat) (p1 : Nat) (p2 : Int32) (Q : Int32 → zM → Prop) : Prop := (∃ n11, wX8_commonest_L9 t a p1 p2 Q (fun v9 m10 => (Q v9 m10)) n11 (-2) 0 0 m)
set_option maxHeartbeats 4000000 in
set_option maxRecDepth 20000 in
theorem kX8_commonest {l : Launch} {t : zT} {m : zM} {a : Nat} {p1 : Nat} {p2 : Int32} {Q : Int32 → zM → Prop} (H : wX8_commonest t m a p1 p2 Q) : zMet l yX8_commonest cX8_commonest 7 (some .int) 2 0 0 t m [.ref a, .ref p1, .int p2] (zPi t Q) := by
  refine zmet (by decide +kernel) (Nat.le_of_ble_eq_true rfl) ?_
  intro p e s mt args below meth c g C hr hm
  unfold wX8_commonest at H
  have hu1 : ((0, 0) : Nat × Nat).1 ≤ 0 := Nat.le_refl 0
  have hu2 : ((0, 0) : Nat × Nat).2 ≤ 0 := Nat.le_refl 0
  refine z_bipush (pc := 0) (v := (-2)) C (dX8_commonest 0 rfl) (by decide) ?_
  refine z_istore_n (pc := 2) (i := 3) (lv2 := [(3, .int (-2)), (0, .ref a), (1, .ref p1), (2, .int p2)]) C (dX8_commonest 1 rfl) rfl (by decide) rfl ?_
  refine z_iconst (pc := 3) (v := 0) C (dX8_commonest 2 rfl) (by decide) ?_
  refine z_istore (pc := 4) (i := 4) (lv2 := [(4, .int 0), (3, .int (-2)), (0, .ref a), (1, .ref p1), (2, .int p2)]) C (dX8_commonest 3 rfl) (by decide) rfl ?_
  refine z_iconst (pc := 6) (v := 0) C (dX8_commonest 4 rfl) (by decide) ?_
  refine z_istore (pc := 7) (i := 5) (lv2 := [(5, .int 0), (4, .int 0), (3, .int (-2)), (0, .ref a), (1, .ref p1), (2, .int p2)]) C (dX8_commonest 5 rfl) (by decide) rfl ?_
  obtain ⟨n11, H⟩ := H
  refine z_sub [3, 4, 5, 2, 1, 0] rfl ?_
  refine sX8_commonest_L9 C hr hm hu1 hu2 (fun v9 m10 H => ?_) n11 (-2) 0 0 m H
  refine z_iload_n (pc := 53) C (dX8_commonest 28 rfl) rfl 0 rfl ?_
  exact z_iret (pc := 54) C hr hu1 hu2 (dX8_commonest 29 rfl) ⟨rfl, _, rfl, H⟩
def wX9_init (cap : Nat × Nat) (t : zT) (m : zM) (a : Nat) (Q : zT → zM → Prop) : Prop := (0 < a ∧ ((0 + 1 ≤ cap.1 ∧ 0 + 15 ≤ cap.2) ∧ (0 < tN t → (0 < (tN t) ∧ (∃ k3 : Nat × Nat, (0 + 1 + k3.1 ≤ cap.1 ∧ 0 + 15 + k3.2 ≤ cap.2) ∧ wX3_init k3 (tNew t 3 0) (zClr m (tN t)) (tN t) (fun t4 m2 => (tK t4 a = 9 ∧ ((0 + 1 + k3.1 + 1 ≤ cap.1 ∧ 0 + 15 + k3.2 + 17 ≤ cap.2) ∧ (0 < tN t4 → (0 < (tN t4) ∧ (∃ k8 : Nat × Nat, (0 + 1 + k3.1 + 1 + k8.1 ≤ cap.1 ∧ 0 + 15 + k3.2 + 17 + k8.2 ≤ cap.2) ∧ wX0_init k8 (tNew t4 0 0) (zClr (pR m2 a 0 (tN t)) (tN t4)) (tN t4) (fun t9 m7 => (tK t9 a = 9 ∧ (tK t9 (gR (pR m7 a 1 (tN t4)) a 1) = 0 ∧ (tK t9 (gR (pR (pR m7 a 1 (tN t4)) a 2 (gR (pR m7 a 1 (tN t4)) (gR (pR m7 a 1 (tN t4)) a 1) 0)) a 2) = 8 ∧ ((0 + 1 + k3.1 + 1 + k8.1 + 1 ≤ cap.1 ∧ 0 + 15 + k3.2 + 17 + k8.2 + 4 ≤ cap.2) ∧ (0 < tN t9 → (0 < (tN t9) ∧ (∃ k15 : Nat × Nat, (0 + 1 + k3.1 + 1 + k8.1 + 1 + k15.1 ≤ cap.1 ∧ 0 + 15 + k3.2 + 17 + k8.2 + 4 + k15.2 ≤ cap.2) ∧ wX2_init k15 (tNew t9 2 0) (zClr (pR (pR (pR m7 a 1 (tN t4)) a 2 (gR (pR m7 a 1 (tN t4)) (gR (pR m7 a 1 (tN t4)) a 1) 0)) a 3 (gR (pR (pR m7 a 1 (tN t4)) a 2 (gR (pR m7 a 1 (tN t4)) (gR (pR m7 a 1 (tN t4)) a 1) 0)) (gR (pR (pR m7 a 1 (tN t4)) a 2 (gR (pR m7 a 1 (tN t4)) (gR (pR m7 a 1 (tN t4)) a 1) 0)) a 2) 0)) (tN t9)) (tN t9) (fun t16 m14 => (tK t16 a = 9 ∧ ((0 + 1 + k3.1 + 1 + k8.1 + 1 + k15.1 + 1 ≤ cap.1 ∧ 0 + 15 + k3.2 + 17 + k8.2 + 4 + k15.2 + 16 ≤ cap.2) ∧ (0 < tN t16 → (0 < (tN t16) ∧ (∃ k20 : Nat × Nat, (0 + 1 + k3.1 + 1 + k8.1 + 1 + k15.1 + 1 + k20.1 ≤ cap.1 ∧ 0 + 15 + k3.2 + 17 + k8.2 + 4 + k15.2 + 16 + k20.2 ≤ cap.2) ∧ wX1_init k20 (tNew t16 1 0) (zClr (pR m14 a 4 (tN t9)) (tN t16)) (tN t16) (fun t21 m19 => (tK t21 a = 9 ∧ ((0 + 1 + k3.1 + 1 + k8.1 + 1 + k15.1 + 1 + k20.1 + 1 ≤ cap.1 ∧ 0 + 15 + k3.2 + 17 + k8.2 + 4 + k15.2 + 16 + k20.2 + 9 ≤ cap.2) ∧ (0 < tN t21 → (0 < (tN t21) ∧ (∃ k25 : Nat × Nat, (0 + 1 + k3.1 + 1 + k8.1 + 1 + k15.1 + 1 + k20.1 + 1 + k25.1 ≤ cap.1 ∧ 0 + 15 + k3.2 + 17 + k8.2 + 4 + k15.2 + 16 + k20.2 + 9 + k25.2 ≤ cap.2) ∧ wX7_init k25 (tNew t21 7 0) (zClr (pR m19 a 5 (tN t16)) (tN t21)) (tN t21) (fun t26 m24 => (tK t26 a = 9 ∧ ((0 + 1 + k3.1 + 1 + k8.1 + 1 + k15.1 + 1 + k20.1 + 1 + k25.1 + 1 ≤ cap.1 ∧ 0 + 15 + k3.2 + 17 + k8.2 + 4 + k15.2 + 16 + k20.2 + 9 + k25.2 + 3 ≤ cap.2) ∧ (0 < tN t26 → (0 < (tN t26) ∧ (∃ k30 : Nat × Nat, (0 + 1 + k3.1 + 1 + k8.1 + 1 + k15.1 + 1 + k20.1 + 1 + k25.1 + 1 + k30.1 ≤ cap.1 ∧ 0 + 15 + k3.2 + 17 + k8.2 + 4 + k15.2 + 16 + k20.2 + 9 + k25.2 + 3 + k30.2 ≤ cap.2) ∧ wX4_init k30 (tNew t26 4 0) (zClr (pR m24 a 6 (tN t21)) (tN t26)) (tN t26) (fun t31 m29 => (tK t31 a = 9 ∧ ((0 + 1 + k3.1 + 1 + k8.1 + 1 + k15.1 + 1 + k20.1 + 1 + k25.1 + 1 + k30.1 + 1 ≤ cap.1 ∧ 0 + 15 + k3.2 + 17 + k8.2 + 4 + k15.2 + 16 + k20.2 + 9 + k25.2 + 3 + k30.2 + 3 ≤ cap.2) ∧ (0 < tN t31 → (0 < (tN t31) ∧ (∃ k35 : Nat × Nat, (0 + 1 + k3.1 + 1 + k8.1 + 1 + k15.1 + 1 + k20.1 + 1 + k25.1 + 1 + k30.1 + 1 + k35.1 ≤ cap.1 ∧ 0 + 15 + k3.2 + 17 + k8.2 + 4 + k15.2 + 16 + k20.2 + 9 + k25.2 + 3 + k30.2 + 3 + k35.2 ≤ cap.2) ∧ wX4_init k35 (tNew t31 4 0) (zClr (pR m29 a 7 (tN t26)) (tN t31)) (tN t31) (fun t36 m34 => (tK t36 a = 9 ∧ ((0 + 1 + k3.1 + 1 + k8.1 + 1 + k15.1 + 1 + k20.1 + 1 + k25.1 + 1 + k30.1 + 1 + k35.1 + 1 ≤ cap.1 ∧ 0 + 15 + k3.2 + 17 + k8.2 + 4 + k15.2 + 16 + k20.2 + 9 + k25.2 + 3 + k30.2 + 3 + k35.2 + 3 ≤ cap.2) ∧ (0 < tN t36 → (0 < (tN t36) ∧ (∃ k40 : Nat × Nat, (0 + 1 + k3.1 + 1 + k8.1 + 1 + k15.1 + 1 + k20.1 + 1 + k25.1 + 1 + k30.1 + 1 + k35.1 + 1 + k40.1 ≤ cap.1 ∧ 0 + 15 + k3.2 + 17 + k8.2 + 4 + k15.2 + 16 + k20.2 + 9 + k25.2 + 3 + k30.2 + 3 + k35.2 + 3 + k40.2 ≤ cap.2) ∧ wX4_init k40 (tNew t36 4 0) (zClr (pR m34 a 8 (tN t31)) (tN t36)) (tN t36) (fun t41 m39 => (tK t41 a = 9 ∧ ((0 + 1 + k3.1 + 1 + k8.1 + 1 + k15.1 + 1 + k20.1 + 1 + k25.1 + 1 + k30.1 + 1 + k35.1 + 1 + k40.1 + 1 ≤ cap.1 ∧ 0 + 15 + k3.2 + 17 + k8.2 + 4 + k15.2 + 16 + k20.2 + 9 + k25.2 + 3 + k30.2 + 3 + k35.2 + 3 + k40.2 + 1 ≤ cap.2) ∧ (0 < tN t41 → (0 < (tN t41) ∧ (∃ k45 : Nat × Nat, (0 + 1 + k3.1 + 1 + k8.1 + 1 + k15.1 + 1 + k20.1 + 1 + k25.1 + 1 + k30.1 + 1 + k35.1 + 1 + k40.1 + 1 + k45.1 ≤ cap.1 ∧ 0 + 15 + k3.2 + 17 + k8.2 + 4 + k15.2 + 16 + k20.2 + 9 + k25.2 + 3 + k30.2 + 3 + k35.2 + 3 + k40.2 + 1 + k45.2 ≤ cap.2) ∧ wX6_init k45 (tNew t41 6 0) (zClr (pR m39 a 9 (tN t36)) (tN t41)) (tN t41) (fun t46 m44 => (tK t46 a = 9 ∧ ((0 + 1 + k3.1 + 1 + k8.1 + 1 + k15.1 + 1 + k20.1 + 1 + k25.1 + 1 + k30.1 + 1 + k35.1 + 1 + k40.1 + 1 + k45.1 + 1 ≤ cap.1 ∧ 0 + 15 + k3.2 + 17 + k8.2 + 4 + k15.2 + 16 + k20.2 + 9 + k25.2 + 3 + k30.2 + 3 + k35.2 + 3 + k40.2 + 1 + k45.2 + 8 ≤ cap.2) ∧ (0 < tN t46 → (tK (tNew t46 14 8) a = 9 ∧ (Q (tNew t46 14 8) (pI (pR (zClr (pR m44 a 10 (tN t41)) (tN t46)) a 11 (tN t46)) a 12 (-2)))))))))))))))))))))))))))))))))))))))))))))))))))))))))))))))
set_option maxHeartbeats 4000000 in
set_option maxRecDepth 20000 in
theorem kX9_init {l : Launch} {cap : Nat × Nat} {t : zT} {m : zM} {a : Nat} {Q : zT → zM → Prop} (H : wX9_init cap t m a Q) : zMet l yX9_init cX9_init 1 none 4 cap.1 cap.2 t m [.ref a] (zAw Q) := by
  refine zmet (by decide +kernel) (Nat.le_of_ble_eq_true rfl) ?_
  intro p e s mt args below meth c g C hr hm
  unfold wX9_init at H
  obtain ⟨mc, ms⟩ := cap
  refine z_aload_n (pc := 0) C (dX9_init 0 rfl) rfl 0 rfl ?_
  obtain ⟨h87, H⟩ := H
  refine z_objInit (pc := 1) C h87 wl_X9_1 woi woc (by decide) (Nat.le_of_ble_eq_true rfl) (dX9_init 1 rfl) ?_
  refine z_aload_n (pc := 4) C (dX9_init 2 rfl) rfl 0 rfl ?_
  obtain ⟨h85, H⟩ := H
  refine z_new (pc := 5) C zc3 wc_X9_7 wt_X3 wi_X3 (dX9_init 3 rfl) h85.1 h85.2 (fun h86 => ?_)
  replace H := H h86
  refine z_dup (pc := 8) C (dX9_init 4 rfl) rfl ?_
  obtain ⟨h84, H⟩ := H
  obtain ⟨k3, h83, H⟩ := H
  refine za_IvN (pc := 9) (rest := [.ref (tN t), .ref a]) C YX3_init wm_X9_9 h84 (kX3_init H) (by decide) (dX9_init 5 rfl) rfl (by first | exact h83.1 | (have := h83.1; omega)) (by first | exact h83.2 | (have := h83.2; omega)) (Nat.le_of_ble_eq_true rfl) rfl (fun t4 m2 H => ?_)
  obtain ⟨h5, H⟩ := H
  refine z_putRF (pc := 12) C zc9 h5 0 (by decide) rfl rfl hm rfl wf_X9_10 (dX9_init 6 rfl) ?_
  refine z_aload_n (pc := 15) C (dX9_init 7 rfl) rfl 0 rfl ?_
  obtain ⟨h81, H⟩ := H
  refine z_new (pc := 16) C zc0 wc_X9_16 wt_X0 wi_X0 (dX9_init 8 rfl) h81.1 h81.2 (fun h82 => ?_)
  replace H := H h82
  refine z_dup (pc := 19) C (dX9_init 9 rfl) rfl ?_
  obtain ⟨h80, H⟩ := H
  obtain ⟨k8, h79, H⟩ := H
  refine za_IvN (pc := 20) (rest := [.ref (tN t4), .ref a]) C YX0_init wm_X9_18 h80 (kX0_init H) (by decide) (dX9_init 10 rfl) rfl (by first | exact h79.1 | (have := h79.1; omega)) (by first | exact h79.2 | (have := h79.2; omega)) (Nat.le_of_ble_eq_true rfl) rfl (fun t9 m7 H => ?_)
  obtain ⟨h10, H⟩ := H
  refine z_putRF (pc := 23) C zc9 h10 1 (by decide) rfl rfl hm rfl wf_X9_19 (dX9_init 11 rfl) ?_
  refine z_aload_n (pc := 26) C (dX9_init 12 rfl) rfl 0 rfl ?_
  refine z_aload_n (pc := 27) C (dX9_init 13 rfl) rfl 0 rfl ?_
  refine z_getR (pc := 28) C zc9 h10 1 (by decide) rfl wf_X9_19 (dX9_init 14 rfl) ?_
  obtain ⟨h11, H⟩ := H
  refine z_getR (pc := 31) C zc0 h11 0 (by decide) rfl wf_X9_23 (dX9_init 15 rfl) ?_
  refine z_putRF (pc := 34) C zc9 h10 2 (by decide) rfl rfl hm rfl wf_X9_27 (dX9_init 16 rfl) ?_
  refine z_aload_n (pc := 37) C (dX9_init 17 rfl) rfl 0 rfl ?_
  refine z_aload_n (pc := 38) C (dX9_init 18 rfl) rfl 0 rfl ?_
  refine z_getR (pc := 39) C zc9 h10 2 (by decide) rfl wf_X9_27 (dX9_init 19 rfl) ?_
  obtain ⟨h12, H⟩ := H
  refine z_getR (pc := 42) C zc8 h12 0 (by decide) rfl wf_X9_28 (dX9_init 20 rfl) ?_
  refine z_putR (pc := 45) C zc9 h10 3 (by decide) rfl rfl wf_X9_34 (dX9_init 21 rfl) ?_
  refine z_aload_n (pc := 48) C (dX9_init 22 rfl) rfl 0 rfl ?_
  obtain ⟨h77, H⟩ := H
  refine z_new (pc := 49) C zc2 wc_X9_37 wt_X2 wi_X2 (dX9_init 23 rfl) h77.1 h77.2 (fun h78 => ?_)
  replace H := H h78
  refine z_dup (pc := 52) C (dX9_init 24 rfl) rfl ?_
  obtain ⟨h76, H⟩ := H
  obtain ⟨k15, h75, H⟩ := H
  refine za_IvN (pc := 53) (rest := [.ref (tN t9), .ref a]) C YX2_init wm_X9_39 h76 (kX2_init H) (by decide) (dX9_init 25 rfl) rfl (by first | exact h75.1 | (have := h75.1; omega)) (by first | exact h75.2 | (have := h75.2; omega)) (Nat.le_of_ble_eq_true rfl) rfl (fun t16 m14 H => ?_)
  obtain ⟨h17, H⟩ := H
  refine z_putRF (pc := 56) C zc9 h17 4 (by decide) rfl rfl hm rfl wf_X9_40 (dX9_init 26 rfl) ?_
  refine z_aload_n (pc := 59) C (dX9_init 27 rfl) rfl 0 rfl ?_
  obtain ⟨h73, H⟩ := H
  refine z_new (pc := 60) C zc1 wc_X9_44 wt_X1 wi_X1 (dX9_init 28 rfl) h73.1 h73.2 (fun h74 => ?_)
  replace H := H h74
  refine z_dup (pc := 63) C (dX9_init 29 rfl) rfl ?_
  obtain ⟨h72, H⟩ := H
  obtain ⟨k20, h71, H⟩ := H
  refine za_IvN (pc := 64) (rest := [.ref (tN t16), .ref a]) C YX1_init wm_X9_46 h72 (kX1_init H) (by decide) (dX9_init 30 rfl) rfl (by first | exact h71.1 | (have := h71.1; omega)) (by first | exact h71.2 | (have := h71.2; omega)) (Nat.le_of_ble_eq_true rfl) rfl (fun t21 m19 H => ?_)
  obtain ⟨h22, H⟩ := H
  refine z_putRF (pc := 67) C zc9 h22 5 (by decide) rfl rfl hm rfl wf_X9_47 (dX9_init 31 rfl) ?_
  refine z_aload_n (pc := 70) C (dX9_init 32 rfl) rfl 0 rfl ?_
  obtain ⟨h69, H⟩ := H
  refine z_new (pc := 71) C zc7 wc_X9_51 wt_X7 wi_X7 (dX9_init 33 rfl) h69.1 h69.2 (fun h70 => ?_)
  replace H := H h70
  refine z_dup (pc := 74) C (dX9_init 34 rfl) rfl ?_
  obtain ⟨h68, H⟩ := H
  obtain ⟨k25, h67, H⟩ := H
  refine za_IvN (pc := 75) (rest := [.ref (tN t21), .ref a]) C YX7_init wm_X9_53 h68 (kX7_init H) (by decide) (dX9_init 35 rfl) rfl (by first | exact h67.1 | (have := h67.1; omega)) (by first | exact h67.2 | (have := h67.2; omega)) (Nat.le_of_ble_eq_true rfl) rfl (fun t26 m24 H => ?_)
  obtain ⟨h27, H⟩ := H
  refine z_putRF (pc := 78) C zc9 h27 6 (by decide) rfl rfl hm rfl wf_X9_54 (dX9_init 36 rfl) ?_
  refine z_aload_n (pc := 81) C (dX9_init 37 rfl) rfl 0 rfl ?_
  obtain ⟨h65, H⟩ := H
  refine z_new (pc := 82) C zc4 wc_X9_58 wt_X4 wi_X4 (dX9_init 38 rfl) h65.1 h65.2 (fun h66 => ?_)
  replace H := H h66
  refine z_dup (pc := 85) C (dX9_init 39 rfl) rfl ?_
  obtain ⟨h64, H⟩ := H
  obtain ⟨k30, h63, H⟩ := H
  refine za_IvN (pc := 86) (rest := [.ref (tN t26), .ref a]) C YX4_init wm_X9_60 h64 (kX4_init H) (by decide) (dX9_init 40 rfl) rfl (by first | exact h63.1 | (have := h63.1; omega)) (by first | exact h63.2 | (have := h63.2; omega)) (Nat.le_of_ble_eq_true rfl) rfl (fun t31 m29 H => ?_)
  obtain ⟨h32, H⟩ := H
  refine z_putRF (pc := 89) C zc9 h32 7 (by decide) rfl rfl hm rfl wf_X9_61 (dX9_init 41 rfl) ?_
  refine z_aload_n (pc := 92) C (dX9_init 42 rfl) rfl 0 rfl ?_
  obtain ⟨h61, H⟩ := H
  refine z_new (pc := 93) C zc4 wc_X9_58 wt_X4 wi_X4 (dX9_init 43 rfl) h61.1 h61.2 (fun h62 => ?_)
  replace H := H h62
  refine z_dup (pc := 96) C (dX9_init 44 rfl) rfl ?_
  obtain ⟨h60, H⟩ := H
  obtain ⟨k35, h59, H⟩ := H
  refine za_IvN (pc := 97) (rest := [.ref (tN t31), .ref a]) C YX4_init wm_X9_60 h60 (kX4_init H) (by decide) (dX9_init 45 rfl) rfl (by first | exact h59.1 | (have := h59.1; omega)) (by first | exact h59.2 | (have := h59.2; omega)) (Nat.le_of_ble_eq_true rfl) rfl (fun t36 m34 H => ?_)
  obtain ⟨h37, H⟩ := H
  refine z_putRF (pc := 100) C zc9 h37 8 (by decide) rfl rfl hm rfl wf_X9_65 (dX9_init 46 rfl) ?_
  refine z_aload_n (pc := 103) C (dX9_init 47 rfl) rfl 0 rfl ?_
  obtain ⟨h57, H⟩ := H
  refine z_new (pc := 104) C zc4 wc_X9_58 wt_X4 wi_X4 (dX9_init 48 rfl) h57.1 h57.2 (fun h58 => ?_)
  replace H := H h58
  refine z_dup (pc := 107) C (dX9_init 49 rfl) rfl ?_
  obtain ⟨h56, H⟩ := H
  obtain ⟨k40, h55, H⟩ := H
  refine za_IvN (pc := 108) (rest := [.ref (tN t36), .ref a]) C YX4_init wm_X9_60 h56 (kX4_init H) (by decide) (dX9_init 50 rfl) rfl (by first | exact h55.1 | (have := h55.1; omega)) (by first | exact h55.2 | (have := h55.2; omega)) (Nat.le_of_ble_eq_true rfl) rfl (fun t41 m39 H => ?_)
  obtain ⟨h42, H⟩ := H
  refine z_putRF (pc := 111) C zc9 h42 9 (by decide) rfl rfl hm rfl wf_X9_68 (dX9_init 51 rfl) ?_
  refine z_aload_n (pc := 114) C (dX9_init 52 rfl) rfl 0 rfl ?_
  obtain ⟨h53, H⟩ := H
  refine z_new (pc := 115) C zc6 wc_X9_71 wt_X6 wi_X6 (dX9_init 53 rfl) h53.1 h53.2 (fun h54 => ?_)
  replace H := H h54
  refine z_dup (pc := 118) C (dX9_init 54 rfl) rfl ?_
  obtain ⟨h52, H⟩ := H
  obtain ⟨k45, h51, H⟩ := H
  refine za_IvN (pc := 119) (rest := [.ref (tN t41), .ref a]) C YX6_init wm_X9_73 h52 (kX6_init H) (by decide) (dX9_init 55 rfl) rfl (by first | exact h51.1 | (have := h51.1; omega)) (by first | exact h51.2 | (have := h51.2; omega)) (Nat.le_of_ble_eq_true rfl) rfl (fun t46 m44 H => ?_)
  obtain ⟨h47, H⟩ := H
  refine z_putRF (pc := 122) C zc9 h47 10 (by decide) rfl rfl hm rfl wf_X9_74 (dX9_init 56 rfl) ?_
  refine z_aload_n (pc := 125) C (dX9_init 57 rfl) rfl 0 rfl ?_
  refine z_bipush (pc := 126) (v := 8) C (dX9_init 58 rfl) (by decide) ?_
  obtain ⟨h49, H⟩ := H
  refine z_newaI (pc := 128) (N := 8) C (by decide) (by decide) (by decide) wa_int (dX9_init 59 rfl) h49.1 h49.2 (fun h50 => ?_)
  replace H := H h50
  obtain ⟨h48, H⟩ := H
  refine z_putRF (pc := 130) C zc9 h48 11 (by decide) rfl rfl hm rfl wf_X9_78 (dX9_init 60 rfl) ?_
  refine z_aload_n (pc := 133) C (dX9_init 61 rfl) rfl 0 rfl ?_
  refine z_bipush (pc := 134) (v := (-2)) C (dX9_init 62 rfl) (by decide) ?_
  refine z_putI (pc := 136) C zc9 h48 12 (by decide) rfl rfl wf_X9_82 (dX9_init 63 rfl) ?_
  exact z_vret (pc := 139) C hr (by first | omega | (show _ ≤ mc; omega)) (by first | omega | (show _ ≤ ms; omega)) (dX9_init 64 rfl) ⟨rfl, H⟩
