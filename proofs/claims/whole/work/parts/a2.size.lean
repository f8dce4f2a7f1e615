/-! The call size -/
def szI (S : Sc) (T : Ts) : Nat → Int32
  | 0 => nI (cT S)
  | 1 => nI (cM S)
  | 2 => nI (cN S)
  | 3 => nI (cCh S)
  | 4 => nI (cTr S)
  | 5 => nI (cF S)
  | 6 => nI (cLw S)
  | 7 => wrI S
  | 8 => nI (tsd T 3)
  | 9 => nI (tmk T)
  | _ => if thd T 3 = 0 then 0 else 1
section
variable {t : zT} {m m1 m2 : zM} {s u w k : Nat} {S : Sc} {T : Ts} {x : Int32} {Q : Int32 → zM → Prop} {a1 a2 a3 len : Nat}
theorem c10 (h : k ≤ 10) : k = 0 ∨ k = 1 ∨ k = 2 ∨ k = 3 ∨ k = 4 ∨ k = 5 ∨ k = 6 ∨ k = 7 ∨ k = 8 ∨ k = 9 ∨ k = 10 := by omega
theorem sp_sizeO (c : CO t m s S T) (hk : k ≤ 10) (h : Q (szI S T k) m) : wX9_size t m 1 (nI k) Q := by
  have L := c.cor.lay
  have hs := c.cor.sch
  unfold wX9_size
  rw [c.x3, lr1_6 L]
  rcases c10 hk with rfl | rfl | rfl | rfl | rfl | rfl | rfl | rfl | rfl | rfl | rfl
  · exact ⟨fun w => absurd w (by decide), fun _ => ⟨lk1 L, ls_k L hs, by rw [c.cor.sm.things]; exact h⟩, fun w => absurd w (by decide), fun w => absurd w (by decide), fun w => absurd w (by decide), fun w => absurd w (by decide), fun w => absurd w (by decide), fun w => absurd w (by decide), fun w => absurd w (by decide), fun w => absurd w (by decide), fun w => absurd w (by decide), fun w => absurd w (by decide), fun w => absurd w (by decide)⟩
  · exact ⟨fun w => absurd w (by decide), fun w => absurd w (by decide), fun _ => ⟨lk1 L, ls_k L hs, by rw [c.cor.sm.masters]; exact h⟩, fun w => absurd w (by decide), fun w => absurd w (by decide), fun w => absurd w (by decide), fun w => absurd w (by decide), fun w => absurd w (by decide), fun w => absurd w (by decide), fun w => absurd w (by decide), fun w => absurd w (by decide), fun w => absurd w (by decide), fun w => absurd w (by decide)⟩
  · exact ⟨fun w => absurd w (by decide), fun w => absurd w (by decide), fun w => absurd w (by decide), fun _ => ⟨lk1 L, ls_k L hs, by rw [c.cor.sm.sayings]; exact h⟩, fun w => absurd w (by decide), fun w => absurd w (by decide), fun w => absurd w (by decide), fun w => absurd w (by decide), fun w => absurd w (by decide), fun w => absurd w (by decide), fun w => absurd w (by decide), fun w => absurd w (by decide), fun w => absurd w (by decide)⟩
  · exact ⟨fun w => absurd w (by decide), fun w => absurd w (by decide), fun w => absurd w (by decide), fun w => absurd w (by decide), fun _ => ⟨lk1 L, ls_k L hs, by rw [c.cor.sm.children]; exact h⟩, fun w => absurd w (by decide), fun w => absurd w (by decide), fun w => absurd w (by decide), fun w => absurd w (by decide), fun w => absurd w (by decide), fun w => absurd w (by decide), fun w => absurd w (by decide), fun w => absurd w (by decide)⟩
  · exact ⟨fun w => absurd w (by decide), fun w => absurd w (by decide), fun w => absurd w (by decide), fun w => absurd w (by decide), fun w => absurd w (by decide), fun _ => ⟨lk1 L, ls_k L hs, by rw [c.cor.sm.trials]; exact h⟩, fun w => absurd w (by decide), fun w => absurd w (by decide), fun w => absurd w (by decide), fun w => absurd w (by decide), fun w => absurd w (by decide), fun w => absurd w (by decide), fun w => absurd w (by decide)⟩
  · exact ⟨fun w => absurd w (by decide), fun w => absurd w (by decide), fun w => absurd w (by decide), fun w => absurd w (by decide), fun w => absurd w (by decide), fun w => absurd w (by decide), fun _ => ⟨lk1 L, ls_k L hs, by rw [c.cor.sm.follows]; exact h⟩, fun w => absurd w (by decide), fun w => absurd w (by decide), fun w => absurd w (by decide), fun w => absurd w (by decide), fun w => absurd w (by decide), fun w => absurd w (by decide)⟩
  · exact ⟨fun w => absurd w (by decide), fun w => absurd w (by decide), fun w => absurd w (by decide), fun w => absurd w (by decide), fun w => absurd w (by decide), fun w => absurd w (by decide), fun w => absurd w (by decide), fun _ => ⟨lk1 L, ls_k L hs, by rw [c.cor.sm.laws]; exact h⟩, fun w => absurd w (by decide), fun w => absurd w (by decide), fun w => absurd w (by decide), fun w => absurd w (by decide), fun w => absurd w (by decide)⟩
  · exact ⟨fun w => absurd w (by decide), fun w => absurd w (by decide), fun w => absurd w (by decide), fun w => absurd w (by decide), fun w => absurd w (by decide), fun w => absurd w (by decide), fun w => absurd w (by decide), fun w => absurd w (by decide), fun _ => ⟨lk1 L, cx_isOpen c (q1 (by rw [c.x3, c.cor.sm.wrong]; exact ⟨ls_k L hs, h⟩))⟩, fun w => absurd w (by decide), fun w => absurd w (by decide), fun w => absurd w (by decide), fun w => absurd w (by decide)⟩
  · exact ⟨fun w => absurd w (by decide), fun w => absurd w (by decide), fun w => absurd w (by decide), fun w => absurd w (by decide), fun w => absurd w (by decide), fun w => absurd w (by decide), fun w => absurd w (by decide), fun w => absurd w (by decide), fun w => absurd w (by decide), fun _ => ⟨lk1 L, lk61 L, by rw [c.tm.seed]; exact h⟩, fun w => absurd w (by decide), fun w => absurd w (by decide), fun w => absurd w (by decide)⟩
  · exact ⟨fun w => absurd w (by decide), fun w => absurd w (by decide), fun w => absurd w (by decide), fun w => absurd w (by decide), fun w => absurd w (by decide), fun w => absurd w (by decide), fun w => absurd w (by decide), fun w => absurd w (by decide), fun w => absurd w (by decide), fun w => absurd w (by decide), fun _ => ⟨lk1 L, lk61 L, by rw [c.tm.marks]; exact h⟩, fun w => absurd w (by decide), fun w => absurd w (by decide)⟩
  · have hH : ((0 : Int32) ≤ gI m 61 1 → Q 1 m) ∧ (¬ (0 : Int32) ≤ gI m 61 1 → Q 0 m) := by
      have v := c.tm.val.2.1
      have c4 := c.cor.vs.cnt
      rw [c.tm.hidden]
      have h' : Q (if thd T 3 = 0 then 0 else 1) m := h
      unfold m1I
      by_cases z : thd T 3 = 0
      · rw [if_pos z] at h' ⊢
        exact ⟨fun w => absurd w (by decide), fun _ => h'⟩
      · rw [if_neg z] at h' ⊢
        exact ⟨fun _ => h', fun w => absurd (zle (nI_pos (by omega))) w⟩
    exact ⟨fun w => absurd w (by decide), fun w => absurd w (by decide), fun w => absurd w (by decide), fun w => absurd w (by decide), fun w => absurd w (by decide), fun w => absurd w (by decide), fun w => absurd w (by decide), fun w => absurd w (by decide), fun w => absurd w (by decide), fun w => absurd w (by decide), fun w => absurd w (by decide), fun _ => ⟨lk1 L, lk61 L, hH.1, hH.2⟩, fun w => absurd w (by decide)⟩
theorem rsp_sizeO (d : RO t m u S T) (hk : k ≤ 10) (h : Q (szI S T k) (pI m 75 0 0)) : wX12_size t m 75 (nI k) Q := by
  have d0 : RO t (pI m 75 0 0) u S T := d.q (QR.rf.p (Or.inl rfl) 0)
  have L := d.rc.lay
  have u85 := d.rc.rl.u85
  have R := d.rc.rl
  unfold wX12_size wX12_in
  refine ⟨lk75 L, fun w => ?_, fun _ => ⟨fun w => absurd w (nI_pos (by omega)), fun _ => ⟨fun w => ?_, fun _ => q1 ?_⟩⟩⟩
  · exfalso
    rw [show (11 : Int32) = nI 11 from rfl, nI_eq (by omega) (by decide)] at w
    omega
  · exfalso
    rw [show (10 : Int32) = nI 10 from rfl, nI_ltI (by decide) (by omega)] at w
    omega
  rw [d0.rc.told, lr75_26 d0.rc.lay]
  generalize pI m 75 0 0 = mz at *
  refine ⟨fun w => by omega, fun _ => ?_⟩
  rcases c10 hk with rfl | rfl | rfl | rfl | rfl | rfl | rfl | rfl | rfl | rfl | rfl
  · exact ⟨fun w => absurd w (by decide), fun _ => ⟨R.k, by rw [d0.rc.sm.things]; exact h⟩, fun w => absurd w (by decide), fun w => absurd w (by decide), fun w => absurd w (by decide), fun w => absurd w (by decide), fun w => absurd w (by decide), fun w => absurd w (by decide), fun w => absurd w (by decide), fun w => absurd w (by decide), fun w => absurd w (by decide)⟩
  · exact ⟨fun w => absurd w (by decide), fun w => absurd w (by decide), fun _ => ⟨R.k, by rw [d0.rc.sm.masters]; exact h⟩, fun w => absurd w (by decide), fun w => absurd w (by decide), fun w => absurd w (by decide), fun w => absurd w (by decide), fun w => absurd w (by decide), fun w => absurd w (by decide), fun w => absurd w (by decide), fun w => absurd w (by decide)⟩
  · exact ⟨fun w => absurd w (by decide), fun w => absurd w (by decide), fun w => absurd w (by decide), fun _ => ⟨R.k, by rw [d0.rc.sm.sayings]; exact h⟩, fun w => absurd w (by decide), fun w => absurd w (by decide), fun w => absurd w (by decide), fun w => absurd w (by decide), fun w => absurd w (by decide), fun w => absurd w (by decide), fun w => absurd w (by decide)⟩
  · exact ⟨fun w => absurd w (by decide), fun w => absurd w (by decide), fun w => absurd w (by decide), fun w => absurd w (by decide), fun _ => ⟨R.k, by rw [d0.rc.sm.children]; exact h⟩, fun w => absurd w (by decide), fun w => absurd w (by decide), fun w => absurd w (by decide), fun w => absurd w (by decide), fun w => absurd w (by decide), fun w => absurd w (by decide)⟩
  · exact ⟨fun w => absurd w (by decide), fun w => absurd w (by decide), fun w => absurd w (by decide), fun w => absurd w (by decide), fun w => absurd w (by decide), fun _ => ⟨R.k, by rw [d0.rc.sm.trials]; exact h⟩, fun w => absurd w (by decide), fun w => absurd w (by decide), fun w => absurd w (by decide), fun w => absurd w (by decide), fun w => absurd w (by decide)⟩
  · exact ⟨fun w => absurd w (by decide), fun w => absurd w (by decide), fun w => absurd w (by decide), fun w => absurd w (by decide), fun w => absurd w (by decide), fun w => absurd w (by decide), fun _ => ⟨R.k, by rw [d0.rc.sm.follows]; exact h⟩, fun w => absurd w (by decide), fun w => absurd w (by decide), fun w => absurd w (by decide), fun w => absurd w (by decide)⟩
  · exact ⟨fun w => absurd w (by decide), fun w => absurd w (by decide), fun w => absurd w (by decide), fun w => absurd w (by decide), fun w => absurd w (by decide), fun w => absurd w (by decide), fun w => absurd w (by decide), fun _ => ⟨R.k, by rw [d0.rc.sm.laws]; exact h⟩, fun w => absurd w (by decide), fun w => absurd w (by decide), fun w => absurd w (by decide)⟩
  · exact ⟨fun w => absurd w (by decide), fun w => absurd w (by decide), fun w => absurd w (by decide), fun w => absurd w (by decide), fun w => absurd w (by decide), fun w => absurd w (by decide), fun w => absurd w (by decide), fun w => absurd w (by decide), fun _ => ⟨R.k, by rw [d0.rc.sm.wrong]; exact h⟩, fun w => absurd w (by decide), fun w => absurd w (by decide)⟩
  · exact ⟨fun w => absurd w (by decide), fun w => absurd w (by decide), fun w => absurd w (by decide), fun w => absurd w (by decide), fun w => absurd w (by decide), fun w => absurd w (by decide), fun w => absurd w (by decide), fun w => absurd w (by decide), fun w => absurd w (by decide), fun _ => ⟨lk82 L, by rw [ll82 L]; exact (show vp_in (nI 10) 11 from vp_nI (by decide) (by decide)), by rw [show (10 : Int32).toNatClampNeg = 10 from rfl, d0.tm.seed]; exact h⟩, fun w => absurd w (by decide)⟩
  · exact ⟨fun w => absurd w (by decide), fun w => absurd w (by decide), fun w => absurd w (by decide), fun w => absurd w (by decide), fun w => absurd w (by decide), fun w => absurd w (by decide), fun w => absurd w (by decide), fun w => absurd w (by decide), fun w => absurd w (by decide), fun w => absurd w (by decide), fun _ => by rw [d0.tm.marks]; exact h⟩
  · have hH : (gI mz 82 ((8 : Int32).toNatClampNeg) = -2 → Q 0 mz) ∧ (¬ gI mz 82 ((8 : Int32).toNatClampNeg) = -2 → Q 1 mz) := by
      have v := d0.tm.val.2.1
      have c4 := d0.rc.vs.cnt
      rw [show (8 : Int32).toNatClampNeg = 8 from rfl, d0.tm.hidden]
      have h' : Q (if thd T 3 = 0 then 0 else 1) mz := h
      unfold m2I
      by_cases z : thd T 3 = 0
      · rw [if_pos z] at h' ⊢
        exact ⟨fun _ => h', fun w => absurd rfl w⟩
      · rw [if_neg z] at h' ⊢
        refine ⟨fun w => ?_, fun _ => h'⟩
        exact absurd (show nI (thd T 3 - 1) < 0 by rw [w]; decide) (nI_pos (by omega))
    exact ⟨fun _ => ⟨lk82 L, by rw [ll82 L]; exact (show vp_in (nI 8) 11 from vp_nI (by decide) (by decide)), hH.1, hH.2⟩, fun w => absurd w (by decide), fun w => absurd w (by decide), fun w => absurd w (by decide), fun w => absurd w (by decide), fun w => absurd w (by decide), fun w => absurd w (by decide), fun w => absurd w (by decide), fun w => absurd w (by decide), fun w => absurd w (by decide), fun w => absurd w (by decide)⟩
theorem sp_sizeC (c : Cl t m a1 a2 a3 len) (hk : k ≤ 10) (h : Q 0 m) : wX9_size t m 1 (nI k) Q := by
  have L := c.cb.lay
  unfold wX9_size
  rw [c.cb.x3, lr1_6 L]
  rcases c10 hk with rfl | rfl | rfl | rfl | rfl | rfl | rfl | rfl | rfl | rfl | rfl
  · exact ⟨fun w => absurd w (by decide), fun _ => ⟨lk1 L, lk21 L, by rw [c.cb.z _ (by decide)]; exact h⟩, fun w => absurd w (by decide), fun w => absurd w (by decide), fun w => absurd w (by decide), fun w => absurd w (by decide), fun w => absurd w (by decide), fun w => absurd w (by decide), fun w => absurd w (by decide), fun w => absurd w (by decide), fun w => absurd w (by decide), fun w => absurd w (by decide), fun w => absurd w (by decide)⟩
  · exact ⟨fun w => absurd w (by decide), fun w => absurd w (by decide), fun _ => ⟨lk1 L, lk21 L, by rw [c.cb.z _ (by decide)]; exact h⟩, fun w => absurd w (by decide), fun w => absurd w (by decide), fun w => absurd w (by decide), fun w => absurd w (by decide), fun w => absurd w (by decide), fun w => absurd w (by decide), fun w => absurd w (by decide), fun w => absurd w (by decide), fun w => absurd w (by decide), fun w => absurd w (by decide)⟩
  · exact ⟨fun w => absurd w (by decide), fun w => absurd w (by decide), fun w => absurd w (by decide), fun _ => ⟨lk1 L, lk21 L, by rw [c.cb.z _ (by decide)]; exact h⟩, fun w => absurd w (by decide), fun w => absurd w (by decide), fun w => absurd w (by decide), fun w => absurd w (by decide), fun w => absurd w (by decide), fun w => absurd w (by decide), fun w => absurd w (by decide), fun w => absurd w (by decide), fun w => absurd w (by decide)⟩
  · exact ⟨fun w => absurd w (by decide), fun w => absurd w (by decide), fun w => absurd w (by decide), fun w => absurd w (by decide), fun _ => ⟨lk1 L, lk21 L, by rw [c.cb.z _ (by decide)]; exact h⟩, fun w => absurd w (by decide), fun w => absurd w (by decide), fun w => absurd w (by decide), fun w => absurd w (by decide), fun w => absurd w (by decide), fun w => absurd w (by decide), fun w => absurd w (by decide), fun w => absurd w (by decide)⟩
  · exact ⟨fun w => absurd w (by decide), fun w => absurd w (by decide), fun w => absurd w (by decide), fun w => absurd w (by decide), fun w => absurd w (by decide), fun _ => ⟨lk1 L, lk21 L, by rw [c.cb.z _ (by decide)]; exact h⟩, fun w => absurd w (by decide), fun w => absurd w (by decide), fun w => absurd w (by decide), fun w => absurd w (by decide), fun w => absurd w (by decide), fun w => absurd w (by decide), fun w => absurd w (by decide)⟩
  · exact ⟨fun w => absurd w (by decide), fun w => absurd w (by decide), fun w => absurd w (by decide), fun w => absurd w (by decide), fun w => absurd w (by decide), fun w => absurd w (by decide), fun _ => ⟨lk1 L, lk21 L, by rw [c.cb.z _ (by decide)]; exact h⟩, fun w => absurd w (by decide), fun w => absurd w (by decide), fun w => absurd w (by decide), fun w => absurd w (by decide), fun w => absurd w (by decide), fun w => absurd w (by decide)⟩
  · exact ⟨fun w => absurd w (by decide), fun w => absurd w (by decide), fun w => absurd w (by decide), fun w => absurd w (by decide), fun w => absurd w (by decide), fun w => absurd w (by decide), fun w => absurd w (by decide), fun _ => ⟨lk1 L, lk21 L, by rw [c.cb.z _ (by decide)]; exact h⟩, fun w => absurd w (by decide), fun w => absurd w (by decide), fun w => absurd w (by decide), fun w => absurd w (by decide), fun w => absurd w (by decide)⟩
  · exact ⟨fun w => absurd w (by decide), fun w => absurd w (by decide), fun w => absurd w (by decide), fun w => absurd w (by decide), fun w => absurd w (by decide), fun w => absurd w (by decide), fun w => absurd w (by decide), fun w => absurd w (by decide), fun _ => ⟨lk1 L, cb_open c.cb (q0 h)⟩, fun w => absurd w (by decide), fun w => absurd w (by decide), fun w => absurd w (by decide), fun w => absurd w (by decide)⟩
  · exact ⟨fun w => absurd w (by decide), fun w => absurd w (by decide), fun w => absurd w (by decide), fun w => absurd w (by decide), fun w => absurd w (by decide), fun w => absurd w (by decide), fun w => absurd w (by decide), fun w => absurd w (by decide), fun w => absurd w (by decide), fun _ => ⟨lk1 L, lk61 L, by rw [c.sd]; exact h⟩, fun w => absurd w (by decide), fun w => absurd w (by decide), fun w => absurd w (by decide)⟩
  · exact ⟨fun w => absurd w (by decide), fun w => absurd w (by decide), fun w => absurd w (by decide), fun w => absurd w (by decide), fun w => absurd w (by decide), fun w => absurd w (by decide), fun w => absurd w (by decide), fun w => absurd w (by decide), fun w => absurd w (by decide), fun w => absurd w (by decide), fun _ => ⟨lk1 L, lk61 L, by rw [c.mk]; exact h⟩, fun w => absurd w (by decide), fun w => absurd w (by decide)⟩
  · exact ⟨fun w => absurd w (by decide), fun w => absurd w (by decide), fun w => absurd w (by decide), fun w => absurd w (by decide), fun w => absurd w (by decide), fun w => absurd w (by decide), fun w => absurd w (by decide), fun w => absurd w (by decide), fun w => absurd w (by decide), fun w => absurd w (by decide), fun w => absurd w (by decide), fun _ => ⟨lk1 L, lk61 L, by rw [c.hd]; exact fun w => absurd w (by decide), fun _ => h⟩, fun w => absurd w (by decide)⟩
theorem rsp_sizeC (K : tK t 75 = 12) (r : gR m 75 3 = 0) (hk : k ≤ 10) (h : Q 0 (pI m 75 0 0)) : wX12_size t m 75 (nI k) Q := by
  unfold wX12_size wX12_in
  refine ⟨K, fun w => ?_, fun _ => ⟨fun w => absurd w (nI_pos (by omega)), fun _ => ⟨fun w => ?_, fun _ => q1 ⟨fun _ => h, fun w => absurd r w⟩⟩⟩⟩
  · exfalso
    rw [show (11 : Int32) = nI 11 from rfl, nI_eq (by omega) (by decide)] at w
    omega
  · exfalso
    rw [show (10 : Int32) = nI 10 from rfl, nI_ltI (by decide) (by omega)] at w
    omega
theorem st_size (i : Inv t m w) : ∃ P : Int32 → Int32 → zM → Prop, wX9_size t m 1 x (fun r m1 => wX12_size t m1 75 x (fun r2 m2 => P r r2 m2)) ∧ ∀ r r2 m2, P r r2 m2 → r = r2 ∧ ∃ w', Inv t m2 w' ∧ w ≤ w' := by
  refine ⟨fun r r2 m2 => r = r2 ∧ m2 = pI m 75 0 0, ?_, fun r r2 m2 h => ⟨h.1, w, by rw [h.2]; exact i.thr 0, Nat.le_refl _⟩⟩
  have L := i.lay
  by_cases z : x.toInt < 0 ∨ 11 < x.toInt
  · unfold wX9_size
    refine ⟨fun _ => ?_, fun e => absurd z (by rw [e]; decide), fun e => absurd z (by rw [e]; decide), fun e => absurd z (by rw [e]; decide), fun e => absurd z (by rw [e]; decide), fun e => absurd z (by rw [e]; decide), fun e => absurd z (by rw [e]; decide), fun e => absurd z (by rw [e]; decide), fun e => absurd z (by rw [e]; decide), fun e => absurd z (by rw [e]; decide), fun e => absurd z (by rw [e]; decide), fun e => absurd z (by rw [e]; decide), fun e => absurd z (by rw [e]; decide)⟩
    refine ⟨lk75 L, fun e => absurd z (by rw [e]; decide), fun _ => ⟨fun _ => q0 ⟨rfl, rfl⟩, fun h1 => ⟨fun _ => q0 ⟨rfl, rfl⟩, fun h2 => ?_⟩⟩⟩
    exfalso
    rw [fa_lt] at h1 h2
    have e0 : (0 : Int32).toInt = 0 := by decide
    have e10 : (10 : Int32).toInt = 10 := by decide
    omega
  · have h1 : ¬ x < 0 := fun q => by
      rw [fa_lt] at q
      have e0 : (0 : Int32).toInt = 0 := by decide
      omega
    obtain ⟨k, k31, e⟩ := x_nat h1
    have k11 : k ≤ 11 := by
      rw [e, nI_toInt k31] at z
      omega
    rw [e]
    by_cases z11 : k = 11
    · subst z11
      obtain ⟨f, B, Tp⟩ := i.1.tp
      unfold wX9_size
      rw [lr1_0 L]
      refine ⟨fun w => absurd w (by decide), fun w => absurd w (by decide), fun w => absurd w (by decide), fun w => absurd w (by decide), fun w => absurd w (by decide), fun w => absurd w (by decide), fun w => absurd w (by decide), fun w => absurd w (by decide), fun w => absurd w (by decide), fun w => absurd w (by decide), fun w => absurd w (by decide), fun w => absurd w (by decide), fun _ => ⟨lk1 L, lk2 L, lk75 L, fun _ => ⟨?_, rfl⟩, fun w => absurd rfl w⟩⟩
      rw [gII, if_neg (by decide), Tp.cl, Tp.rf]
    · rcases i with ⟨c, ⟨s, u, S, T, a1, a2, a3, len, o, rfl⟩ | ⟨a1, a2, a3, len, o, rfl⟩⟩
      · exact sp_sizeO o.co (by omega) (rsp_sizeO o.ro (by omega) ⟨rfl, rfl⟩)
      · exact sp_sizeC o (by omega) (rsp_sizeC (lk75 L) o.cb.r3 (by omega) ⟨rfl, rfl⟩)
end
