/-! Calls while there is no school -/
def CB (t : zT) (m : zM) : Prop := (Lay t m) ∧ (gR m 1 3 = 21) ∧ (∀ j, j < 20 → gI m 21 j = 0) ∧ (gR m 75 3 = 0)
theorem CB.lay {t : zT} {m : zM} (h_ : CB t m) : Lay t m := h_.1
theorem CB.x3 {t : zT} {m : zM} (h_ : CB t m) : gR m 1 3 = 21 := h_.2.1
theorem CB.z {t : zT} {m : zM} (h_ : CB t m) : ∀ j, j < 20 → gI m 21 j = 0 := h_.2.2.1
theorem CB.r3 {t : zT} {m : zM} (h_ : CB t m) : gR m 75 3 = 0 := h_.2.2.2
section
variable {t : zT} {m : zM} {x x2 x3 : Int32} {Q : Int32 → zM → Prop}
theorem cl_fin : Fin m (pI (pI (pI (pI m 1 14 1) 75 0 0) 75 1 1) 75 2 (-1)) x x := by
  refine ⟨rfl, pI m 1 14 1, QF.rf.why 1, ((QR.rf.p (Or.inl rfl) 0).p (Or.inr (Or.inl rfl)) 1).p (Or.inr (Or.inr (Or.inl rfl))) (-1), ?_, ?_, ?_⟩
  · simp (config := { decide := true }) only [gII, and_false, false_and, if_false, and_self, if_true]
  · simp (config := { decide := true }) only [gII, and_self, if_true]
  · simp (config := { decide := true }) only [gII, and_false, false_and, if_false, and_self, if_true]
theorem zle {y : Int32} (h : ¬ y < 0) : (0 : Int32) ≤ y := Int32.not_lt.mp h
theorem cb_open (c : CB t m) (h : Q 0 m) : wX9_isOpen t m 1 Q := by
  unfold wX9_isOpen
  rw [c.x3, c.z 0 (by decide)]
  exact ⟨lk1 c.lay, lk21 c.lay, fun _ => h, fun w => absurd (by decide) w⟩
theorem cb_thing (c : CB t m) (h : Q 0 m) : wX9_isThing t m 1 x Q := by
  unfold wX9_isThing
  rw [c.x3, c.z 0 (by decide)]
  exact ⟨fun _ => h, fun w => ⟨lk1 c.lay, lk21 c.lay, fun _ => h, fun v => absurd (zle w) v⟩⟩
theorem cr_thing (K : tK t 75 = 12) (r : gR m 75 3 = 0) (h : Q 0 m) : wX12_isThing t m 75 x Q := ⟨K, fun _ => h, fun w => absurd r w⟩
theorem cb_master (c : CB t m) (h : Q 0 m) : wX9_isMaster t m 1 x Q := by
  unfold wX9_isMaster
  rw [c.x3, c.z 10 (by decide)]
  exact ⟨fun _ => h, fun w => ⟨lk1 c.lay, lk21 c.lay, fun _ => h, fun v => absurd (zle w) v⟩⟩
theorem cr_master (K : tK t 75 = 12) (r : gR m 75 3 = 0) (h : Q 0 m) : wX12_isMaster t m 75 x Q := ⟨K, fun _ => h, fun w => absurd r w⟩
theorem cb_saying (c : CB t m) (h : Q 0 m) : wX9_isSaying t m 1 x Q := by
  unfold wX9_isSaying
  rw [c.x3, c.z 14 (by decide)]
  exact ⟨fun _ => h, fun w => ⟨lk1 c.lay, lk21 c.lay, fun _ => h, fun v => absurd (zle w) v⟩⟩
theorem cr_saying (K : tK t 75 = 12) (r : gR m 75 3 = 0) (h : Q 0 m) : wX12_isSaying t m 75 x Q := ⟨K, fun _ => h, fun w => absurd r w⟩
theorem cb_child (c : CB t m) (h : Q 0 m) : wX9_isChild t m 1 x Q := by
  unfold wX9_isChild
  rw [c.x3, c.z 18 (by decide)]
  exact ⟨fun _ => h, fun w => ⟨lk1 c.lay, lk21 c.lay, fun _ => h, fun v => absurd (zle w) v⟩⟩
theorem cr_child (K : tK t 75 = 12) (r : gR m 75 3 = 0) (h : Q 0 m) : wX12_isChild t m 75 x Q := ⟨K, fun _ => h, fun w => absurd r w⟩
theorem cr_plan (K : tK t 75 = 12) (r : gR m 75 3 = 0) {Q : Int32 → zT → zM → Prop} (h : Q 1 t m) : wX12_refusesPlan (0, 0) t m 75 x Q := ⟨K, fun _ => h, fun w => absurd r w⟩
theorem cl_ways (c : CB t m) : wX9_ways t m 1 (fun r m1 => wX12_ways t m1 75 (fun r2 m2 => Fin m m2 r r2)) := ⟨lk1 c.lay, cb_open c (q0 ⟨lk1 c.lay, ⟨lk75 c.lay, fun _ => ⟨lk75 c.lay, cl_fin⟩, fun w => absurd c.r3 w⟩⟩)⟩
theorem cl_worlds (c : CB t m) : wX9_worlds t m 1 (fun r m1 => wX12_worlds t m1 75 (fun r2 m2 => Fin m m2 r r2)) := ⟨lk1 c.lay, cb_open c (q0 ⟨lk1 c.lay, ⟨lk75 c.lay, fun _ => ⟨lk75 c.lay, cl_fin⟩, fun w => absurd c.r3 w⟩⟩)⟩
theorem cl_world (c : CB t m) : wX9_world t m 1 x (fun r m1 => wX12_world t m1 75 x (fun r2 m2 => Fin m m2 r r2)) := ⟨lk1 c.lay, cb_open c (q0 ⟨lk1 c.lay, lk1 c.lay, ⟨lk75 c.lay, fun _ => ⟨lk75 c.lay, lk75 c.lay, cl_fin⟩, fun w => absurd c.r3 w⟩⟩)⟩
theorem cl_lawful (c : CB t m) : wX9_lawful t m 1 x (fun r m1 => wX12_lawful t m1 75 x (fun r2 m2 => Fin m m2 r r2)) := ⟨lk1 c.lay, cb_open c (q0 ⟨lk1 c.lay, lk1 c.lay, ⟨lk75 c.lay, fun _ => ⟨lk75 c.lay, lk75 c.lay, cl_fin⟩, fun w => absurd c.r3 w⟩⟩)⟩
theorem cl_culprit (c : CB t m) : wX9_culprit t m 1 (fun r m1 => wX12_culprit t m1 75 (fun r2 m2 => Fin m m2 r r2)) := ⟨lk1 c.lay, cb_open c (q0 ⟨lk1 c.lay, ⟨lk75 c.lay, fun _ => ⟨lk75 c.lay, cl_fin⟩, fun w => absurd c.r3 w⟩⟩)⟩
theorem cl_sure (c : CB t m) : wX9_sure t m 1 x (fun r m1 => wX12_sure t m1 75 x (fun r2 m2 => Fin m m2 r r2)) := ⟨lk1 c.lay, cb_thing c (q0 (q1 ⟨lk1 c.lay, ⟨lk75 c.lay, cr_thing (lk75 c.lay) c.r3 (q0 ⟨lk75 c.lay, cl_fin⟩)⟩⟩))⟩
theorem cl_may (c : CB t m) : wX9_may t m 1 x (fun r m1 => wX12_may t m1 75 x (fun r2 m2 => Fin m m2 r r2)) := ⟨lk1 c.lay, cb_thing c (q0 ⟨lk1 c.lay, ⟨lk75 c.lay, cr_thing (lk75 c.lay) c.r3 (q0 ⟨lk75 c.lay, cl_fin⟩)⟩⟩)⟩
theorem cl_likely (c : CB t m) : wX9_likely t m 1 x x2 x3 (fun r m1 => wX12_likely t m1 75 x x2 x3 (fun r2 m2 => Fin m m2 r r2)) := ⟨lk1 c.lay, ⟨lk1 c.lay, cb_thing c (q0 (q0 (q1 ⟨lk1 c.lay, ⟨lk75 c.lay, cr_thing (lk75 c.lay) c.r3 (q0 ⟨lk75 c.lay, lk75 c.lay, cl_fin⟩)⟩⟩)))⟩⟩
theorem cl_settled (c : CB t m) : wX9_settled t m 1 (fun r m1 => wX12_settled t m1 75 (fun r2 m2 => Fin m m2 r r2)) := ⟨lk1 c.lay, cb_open c (q0 (q1 ⟨lk1 c.lay, ⟨lk75 c.lay, fun _ => ⟨lk75 c.lay, cl_fin⟩, fun w => absurd c.r3 w⟩⟩))⟩
theorem cl_right (c : CB t m) : wX9_right t m 1 x (fun r m1 => wX12_right t m1 75 x (fun r2 m2 => Fin m m2 r r2)) := ⟨lk1 c.lay, cb_saying c (q0 (q1 ⟨lk1 c.lay, ⟨lk75 c.lay, cr_saying (lk75 c.lay) c.r3 (q0 ⟨lk75 c.lay, cl_fin⟩)⟩⟩))⟩
theorem cl_wrongs (c : CB t m) : wX9_wrongs t m 1 x x2 (fun r m1 => wX12_wrongs t m1 75 x x2 (fun r2 m2 => Fin m m2 r r2)) := ⟨lk1 c.lay, cb_master c (q0 (q1 ⟨lk1 c.lay, ⟨lk75 c.lay, cr_master (lk75 c.lay) c.r3 (q0 ⟨lk75 c.lay, cl_fin⟩)⟩⟩))⟩
theorem cl_proof (c : CB t m) : wX9_proof t m 1 x (fun r m1 => wX12_proof t m1 75 x (fun r2 m2 => Fin m m2 r r2)) := ⟨lk1 c.lay, cb_thing c (q0 ⟨lk1 c.lay, ⟨lk75 c.lay, cr_thing (lk75 c.lay) c.r3 (q0 ⟨lk75 c.lay, cl_fin⟩)⟩⟩)⟩
theorem cl_proofBy (c : CB t m) : wX9_proofBy t m 1 x (fun r m1 => wX12_proofBy t m1 75 x (fun r2 m2 => Fin m m2 r r2)) := ⟨lk1 c.lay, cb_thing c (q0 ⟨lk1 c.lay, ⟨lk75 c.lay, cr_thing (lk75 c.lay) c.r3 (q0 ⟨lk75 c.lay, cl_fin⟩)⟩⟩)⟩
theorem cl_left (c : CB t m) : wX9_left t m 1 x x2 (fun r m1 => wX12_left t m1 75 x x2 (fun r2 m2 => Fin m m2 r r2)) := ⟨lk1 c.lay, cb_master c (q0 ⟨lk1 c.lay, lk1 c.lay, ⟨lk75 c.lay, cr_master (lk75 c.lay) c.r3 (q0 ⟨lk75 c.lay, lk75 c.lay, cl_fin⟩)⟩⟩)⟩
theorem cl_listen (c : CB t m) : wX9_listen t m 1 (fun r m1 => wX12_listen t m1 75 (fun r2 m2 => Fin m m2 r r2)) := ⟨lk1 c.lay, cb_open c (q0 ⟨lk1 c.lay, ⟨lk75 c.lay, fun _ => ⟨lk75 c.lay, cl_fin⟩, fun w => absurd c.r3 w⟩⟩)⟩
theorem cl_believes (c : CB t m) : wX9_believes t m 1 x x2 (fun r m1 => wX12_believes t m1 75 x x2 (fun r2 m2 => Fin m m2 r r2)) := ⟨lk1 c.lay, cb_child c (q0 ⟨lk1 c.lay, lk1 c.lay, ⟨lk75 c.lay, cr_child (lk75 c.lay) c.r3 (q0 ⟨lk75 c.lay, lk75 c.lay, cl_fin⟩)⟩⟩)⟩
theorem cl_knows (c : CB t m) : wX9_knows t m 1 x (fun r m1 => wX12_knows t m1 75 x (fun r2 m2 => Fin m m2 r r2)) := ⟨lk1 c.lay, cb_child c (q0 ⟨lk1 c.lay, ⟨lk75 c.lay, cr_child (lk75 c.lay) c.r3 (q0 ⟨lk75 c.lay, cl_fin⟩)⟩⟩)⟩
theorem cl_share (c : CB t m) : wX9_share t m 1 x (fun r m1 => wX12_share t m1 75 x (fun r2 m2 => Fin m m2 r r2)) := ⟨lk1 c.lay, cb_open c (q0 ⟨lk1 c.lay, ⟨lk75 c.lay, fun _ => ⟨lk75 c.lay, cl_fin⟩, fun w => absurd c.r3 w⟩⟩)⟩
theorem cl_passes (c : CB t m) : wX9_passes t m 1 x x2 x3 (fun r m1 => wX12_passes t m1 75 x x2 x3 (fun r2 m2 => Fin m m2 r r2)) := ⟨lk1 c.lay, cb_child c (q0 ⟨lk1 c.lay, ⟨lk75 c.lay, cr_child (lk75 c.lay) c.r3 (q0 ⟨lk75 c.lay, cl_fin⟩)⟩⟩)⟩
theorem cl_agree (c : CB t m) : wX9_agree t m 1 x x2 x3 (fun r m1 => wX12_agree t m1 75 x x2 x3 (fun r2 m2 => Fin m m2 r r2)) := ⟨lk1 c.lay, cb_master c (q0 ⟨lk1 c.lay, lk1 c.lay, ⟨lk75 c.lay, cr_master (lk75 c.lay) c.r3 (q0 ⟨lk75 c.lay, lk75 c.lay, cl_fin⟩)⟩⟩)⟩
theorem cl_home (c : CB t m) : wX9_home t m 1 x (fun r m1 => wX12_home t m1 75 x (fun r2 m2 => Fin m m2 r r2)) := ⟨lk1 c.lay, cb_thing c (q0 (q1 ⟨lk1 c.lay, ⟨lk75 c.lay, cr_thing (lk75 c.lay) c.r3 (q0 ⟨lk75 c.lay, cl_fin⟩)⟩⟩))⟩
theorem cl_bestHome (c : CB t m) : wX9_bestHome t m 1 (fun r m1 => wX12_bestHome t m1 75 (fun r2 m2 => Fin m m2 r r2)) := ⟨lk1 c.lay, cb_open c (q0 (q1 ⟨lk1 c.lay, ⟨lk75 c.lay, fun _ => ⟨lk75 c.lay, cl_fin⟩, fun w => absurd c.r3 w⟩⟩))⟩
theorem cl_byLaws (c : CB t m) : wX9_byLaws t m 1 x (fun r m1 => wX12_byLaws t m1 75 x (fun r2 m2 => Fin m m2 r r2)) := ⟨lk1 c.lay, cb_open c (q0 ⟨lk1 c.lay, ⟨lk75 c.lay, fun _ => ⟨lk75 c.lay, cl_fin⟩, fun w => absurd c.r3 w⟩⟩)⟩
theorem cl_cheapest (c : CB t m) : wX9_cheapest t m 1 (fun r m1 => wX12_cheapest t m1 75 (fun r2 m2 => Fin m m2 r r2)) := ⟨lk1 c.lay, cb_open c (q0 ⟨lk1 c.lay, ⟨lk75 c.lay, fun _ => ⟨lk75 c.lay, cl_fin⟩, fun w => absurd c.r3 w⟩⟩)⟩
theorem cl_seed (c : CB t m) : wX9_seed t m 1 x (fun r m1 => wX12_seed t m1 75 x (fun r2 m2 => Fin m m2 r r2)) := ⟨lk1 c.lay, cb_open c (q0 ⟨lk1 c.lay, ⟨lk75 c.lay, fun _ => ⟨lk75 c.lay, lk75 c.lay, Or.inl rfl, cl_fin⟩, fun w => absurd c.r3 w⟩⟩)⟩
theorem cl_draw (c : CB t m) : wX9_draw t m 1 (fun r m1 => wX12_draw t m1 75 (fun r2 m2 => Fin m m2 r r2)) := ⟨lk1 c.lay, cb_open c (q0 ⟨lk1 c.lay, ⟨lk75 c.lay, fun _ => ⟨lk75 c.lay, cl_fin⟩, fun w => absurd c.r3 w⟩⟩)⟩
theorem cl_tries (c : CB t m) : wX9_tries t m 1 x (fun r m1 => wX12_tries t m1 75 x (fun r2 m2 => Fin m m2 r r2)) := ⟨lk1 c.lay, cb_thing c (q0 ⟨lk1 c.lay, ⟨lk75 c.lay, cr_thing (lk75 c.lay) c.r3 (q0 ⟨lk75 c.lay, cl_fin⟩)⟩⟩)⟩
theorem cl_fact (c : CB t m) : wX9_fact t m 1 x (fun r m1 => wX12_fact t m1 75 x (fun r2 m2 => Fin m m2 r r2)) := ⟨lk1 c.lay, cb_thing c (q0 ⟨lk1 c.lay, ⟨lk75 c.lay, cr_thing (lk75 c.lay) c.r3 (q0 ⟨lk75 c.lay, cl_fin⟩)⟩⟩)⟩
theorem cl_spent (c : CB t m) : wX9_spent t m 1 (fun r m1 => wX12_spent t m1 75 (fun r2 m2 => Fin m m2 r r2)) := ⟨lk1 c.lay, cb_open c (q0 ⟨lk1 c.lay, ⟨lk75 c.lay, fun _ => ⟨lk75 c.lay, cl_fin⟩, fun w => absurd c.r3 w⟩⟩)⟩
theorem cl_mark (c : CB t m) : wX9_mark t m 1 (fun r m1 => wX12_mark t m1 75 (fun r2 m2 => Fin m m2 r r2)) := ⟨lk1 c.lay, cb_open c (q0 ⟨lk1 c.lay, ⟨lk75 c.lay, fun _ => ⟨lk75 c.lay, cl_fin⟩, fun w => absurd c.r3 w⟩⟩)⟩
theorem cl_back (c : CB t m) : wX9_back t m 1 x (fun r m1 => wX12_back t m1 75 x (fun r2 m2 => Fin m m2 r r2)) := ⟨lk1 c.lay, cb_open c (q0 ⟨lk1 c.lay, lk1 c.lay, ⟨lk75 c.lay, fun _ => ⟨lk75 c.lay, lk75 c.lay, lk75 c.lay, Or.inl rfl, cl_fin⟩, fun w => absurd c.r3 w⟩⟩)⟩
theorem cl_saying (c : CB t m) : wX9_saying t m 1 x x2 (fun r m1 => wX12_saying t m1 75 x x2 (fun r2 m2 => Fin m m2 r r2)) := ⟨lk1 c.lay, cb_saying c (q0 ⟨lk1 c.lay, ⟨lk75 c.lay, cr_saying (lk75 c.lay) c.r3 (q0 ⟨lk75 c.lay, lk75 c.lay, cl_fin⟩)⟩⟩)⟩
theorem cl_worst (c : CB t m) : wX9_worst (0, 0) t m 1 (fun r t1 m1 => wX12_worst (0, 0) t1 m1 75 (fun r2 t2 m2 => t2 = t ∧ Fin m m2 r r2)) := ⟨lk1 c.lay, cb_open c (q0 (q1 ⟨lk1 c.lay, ⟨lk75 c.lay, (0, 0), ⟨Nat.le_refl _, Nat.le_refl _⟩, cr_plan (m := pI (pI m 1 14 1) 75 0 0) (lk75 c.lay) c.r3 ⟨fun w => absurd w (by decide), fun _ => ⟨lk75 c.lay, lk75 c.lay, rfl, cl_fin⟩⟩⟩⟩))⟩
theorem cl_first (c : CB t m) : wX9_first (0, 0) t m 1 (fun r t1 m1 => wX12_first (0, 0) t1 m1 75 (fun r2 t2 m2 => t2 = t ∧ Fin m m2 r r2)) := ⟨lk1 c.lay, (0, 0), ⟨Nat.le_refl _, Nat.le_refl _⟩, lk1 c.lay, cb_open c (q0 (q1 (q1 ⟨lk1 c.lay, lk1 c.lay, ⟨lk75 c.lay, (0, 0), ⟨Nat.le_refl _, Nat.le_refl _⟩, ⟨lk75 c.lay, (0, 0), ⟨Nat.le_refl _, Nat.le_refl _⟩, cr_plan (m := pI (pI m 1 14 1) 75 0 0) (lk75 c.lay) c.r3 ⟨fun w => absurd w (by decide), fun _ => ⟨lk75 c.lay, lk75 c.lay, rfl, cl_fin⟩⟩⟩⟩⟩)))⟩
theorem cl_meanFirst (c : CB t m) : wX9_meanFirst (0, 0) t m 1 (fun r t1 m1 => wX12_meanFirst (0, 0) t1 m1 75 (fun r2 t2 m2 => t2 = t ∧ Fin m m2 r r2)) := ⟨lk1 c.lay, (0, 0), ⟨Nat.le_refl _, Nat.le_refl _⟩, lk1 c.lay, cb_open c (q0 (q1 (q1 ⟨lk1 c.lay, lk1 c.lay, ⟨lk75 c.lay, (0, 0), ⟨Nat.le_refl _, Nat.le_refl _⟩, ⟨lk75 c.lay, (0, 0), ⟨Nat.le_refl _, Nat.le_refl _⟩, cr_plan (m := pI (pI m 1 14 1) 75 0 0) (lk75 c.lay) c.r3 ⟨fun w => absurd w (by decide), fun _ => ⟨lk75 c.lay, lk75 c.lay, rfl, cl_fin⟩⟩⟩⟩⟩)))⟩
theorem cl_mean (c : CB t m) : wX9_mean (0, 0) t m 1 x (fun r t1 m1 => wX12_mean (0, 0) t1 m1 75 x (fun r2 t2 m2 => t2 = t ∧ Fin m m2 r r2)) := ⟨lk1 c.lay, (0, 0), ⟨Nat.le_refl _, Nat.le_refl _⟩, lk1 c.lay, cb_open c (q0 (q1 (q1 ⟨lk1 c.lay, lk1 c.lay, ⟨lk75 c.lay, (0, 0), ⟨Nat.le_refl _, Nat.le_refl _⟩, cr_plan (m := pI (pI m 1 14 1) 75 0 0) (lk75 c.lay) c.r3 ⟨fun w => absurd w (by decide), fun _ => ⟨lk75 c.lay, lk75 c.lay, rfl, cl_fin⟩⟩⟩⟩)))⟩
end
