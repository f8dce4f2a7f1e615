/-! The reference's call school, whole -/
def rs4 (a k : Nat) : Prop := a = 75 ∧ k = 4
section
variable {t t1 : zT} {m m' m1 m2 : zM} {u n f : Nat} {S : Sc} {B : Nat → Nat} {x : Int32}
theorem RLy.pr (h : RLy t m u) {k v : Nat} : RLy t (pR m 75 k v) u := by
  have hu := h.u85
  have e : ∀ j, gR (pR m 75 k v) u j = gR m u j := fun j => by rw [gRR, if_neg (by omega)]
  unfold RLy at h ⊢
  simp only [e]
  exact h
theorem Fcf0 {k : Nat} : fcI (Fcf S 0 0 k) = -2 := by
  unfold Fcf
  rw [Nat.zero_testBit]
  rfl
theorem x_nat {x : Int32} (h : ¬ x < 0) : ∃ n, n < 2 ^ 31 ∧ x = nI n := by
  have h0 : ¬ x.toInt < 0 := fun q => h ((fa_lt _ _).mpr q)
  have h1 := Int32.toInt_lt x
  refine ⟨x.toInt.toNat, by omega, (fa_eq _ _).mpr ?_⟩
  rw [nI_toInt (by omega)]
  omega
theorem rsp_school (L : Lay t m) (e6 : gI m 75 6 = nI f) (f9 : f ≤ 900) (tp : ∀ k, k < f → TB (gI m 76 k) (B k)) {Q : Int32 → zT → zM → Prop} (hb : (x < 0 ∨ ¬ x ≤ nI f) → Q (-1) t (pI (pI (pI m 75 0 0) 75 1 2) 75 2 (-1))) (h0 : ∀ n e t' m', x = nI n → n ≤ f → pAll B n = .inl e → 0 < e.1 ∧ e.1 < 8 → tN t' = tN t + 15 → Gx t t' m m' [75] rs4 → (∀ j, 14 < j → gI m' 75 j = gI m 75 j) → gI m' 75 1 = 4 → gI m' 75 2 = nI e.2 → gI m' 75 13 = nI e.1 → gI m' 75 6 = 0 → Q (-1) t' m') (h1 : ∀ n S N k t' m', x = nI n → n ≤ f → pAll B n = .inr (S, N, k) → RO t' m' (tN t) S T0 → tN t' = tN t + 15 → Gx t t' m m' [75, 77, 82] rsR → gI m' 75 1 = 0 → gI m' 75 2 = -1 → gI m' 75 13 = 0 → gI m' 75 6 = 0 → Q (nI (cT S)) t' m') : wX12_school (15, 183) t m 75 x Q := by
  have h85 := L.1
  unfold wX12_school wX12_school_J17
  have e60 : gI (pI m 75 0 0) 75 6 = nI f := by rw [gII, if_neg (by decide)]; exact e6
  rw [e60]
  refine ⟨lk75 L, fun z => ⟨lk75 L, lk75 L, hb (Or.inl z)⟩, fun z => ⟨fun hx => ⟨⟨by decide, by decide⟩, fun _ => ⟨by omega, (14, 159), ⟨by decide, by decide⟩, ?_⟩⟩, fun hx => ⟨lk75 L, lk75 L, hb (Or.inr hx)⟩⟩⟩
  obtain ⟨n, n31, en⟩ := x_nat z
  have nf : n ≤ f := by rw [en, nI_leI n31 (by omega)] at hx; exact hx
  have a7 : gI (pI (pI (pI (pI (pI m 75 0 0) 75 7 x) 75 6 0) 75 8 0) 75 13 0) 75 7 = nI n := by simp (config := { decide := true }) only [gII, true_and, if_true, if_false]; exact en
  have a8 : gI (pI (pI (pI (pI (pI m 75 0 0) 75 7 x) 75 6 0) 75 8 0) 75 13 0) 75 8 = 0 := by simp (config := { decide := true }) only [gII, true_and, if_true, if_false]
  have a6 : gI (pI (pI (pI (pI (pI m 75 0 0) 75 7 x) 75 6 0) 75 8 0) 75 13 0) 75 6 = 0 := by simp (config := { decide := true }) only [gII, true_and, if_true, if_false]
  have a13 : gI (pI (pI (pI (pI (pI m 75 0 0) 75 7 x) 75 6 0) 75 8 0) 75 13 0) 75 13 = 0 := by simp (config := { decide := true }) only [gII, true_and, if_true, if_false]
  have aj : ∀ j, 14 < j → gI (pI (pI (pI (pI (pI m 75 0 0) 75 7 x) 75 6 0) 75 8 0) 75 13 0) 75 j = gI m 75 j := fun j hj => by rw [gII, if_neg (by omega), gII, if_neg (by omega), gII, if_neg (by omega), gII, if_neg (by omega), gII, if_neg (by omega)]
  have fa : Fr [75] m (pI (pI (pI (pI (pI m 75 0 0) 75 7 x) 75 6 0) 75 8 0) 75 13 0) := Fr.pI (Fr.pI (Fr.pI (Fr.pI (Fr.pI Fr.rf (by decide)) (by decide)) (by decide)) (by decide)) (by decide)
  generalize pI (pI (pI (pI (pI m 75 0 0) 75 7 x) 75 6 0) 75 8 0) 75 13 0 = ma at *
  refine rsp_init (by omega) (fun t2 m8 A => ?_)
  have un := A.un
  generalize hu : tN t = u at *
  have L8 : Lay t2 m8 := (L.fr fa).gx A.gx (fun _ _ h => h)
  have LB : Lay t2 (pI (pR m8 75 4 u) 75 9 0) := (L8.pR 75 4 (by decide)).fr (S := [75]) (Fr.pI Fr.rf (by decide))
  have RB0 : RLy t2 (pI (pR m8 75 4 u) 75 9 0) u := ((A.rly (by omega)).pr).fr (T := [75]) (Fr.pI Fr.rf (by decide))
  have fb : RF (pR m8 75 4 u) (pI (pR m8 75 4 u) 75 9 0) := ⟨Fr.pI Fr.rf (by decide), fun j hj => by rw [gII, if_neg (by omega)]⟩
  have SB : SG (pI (pR m8 75 4 u) 75 9 0) u er or_ zSc := SG.rF (show SG (pR m8 75 4 u) u er or_ zSc from A.sg) fb (by omega)
  have b4 : gR (pI (pR m8 75 4 u) 75 9 0) 75 4 = u := by rw [gRI, gRR, if_pos ⟨rfl, rfl⟩]
  have b9 : gI (pI (pR m8 75 4 u) 75 9 0) 75 9 = 0 := by rw [gII, if_pos ⟨rfl, rfl⟩]
  have bj : ∀ j, j ≠ 9 → gI (pI (pR m8 75 4 u) 75 9 0) 75 j = gI ma 75 j := fun j hj => by rw [gII, if_neg (fun q => hj q.2), gIR]; exact (A.om 75 (by omega) j).1
  have bo : ∀ a, a < u → a ≠ 75 → ∀ k, gI (pI (pR m8 75 4 u) 75 9 0) a k = gI m a k ∧ gJ (pI (pR m8 75 4 u) 75 9 0) a k = gJ m a k := fun a ha h75 k => by
    rw [gII, if_neg (fun q => h75 q.1), gIR, gJI, gJR, (A.om a ha k).1, (A.om a ha k).2.1, fa.I (o75 h75), fa.J (o75 h75)]
    exact ⟨rfl, rfl⟩
  have br : ∀ a, a < u → ∀ k, ¬ (a = 75 ∧ k = 4) → gR (pI (pR m8 75 4 u) 75 9 0) a k = gR m a k := fun a ha k h => by rw [gRI, gRR, if_neg h, (A.om a ha k).2.2, fa.2]
  have b8 : gI (pI (pR m8 75 4 u) 75 9 0) u 8 = nI 0 := by rw [gII, if_neg (by omega), gIR, A.iu]; rfl
  generalize pI (pR m8 75 4 u) 75 9 0 = mb at *
  refine ⟨lk75 LB, rsp_goesOn LB ((bj 7 (by decide)).trans a7) (by omega) (fun k hk => by rw [(bo 76 (by omega) (by decide) k).1]; exact tp k (by omega)) (a := 0) ((bj 8 (by decide)).trans a8) (Nat.zero_le _) (by rw [b9]; decide) (fun m13 f13 tk13 => ?_)⟩
  have F13 := f13.rF
  have e13 : gI m13 75 13 = 0 := (f13.2 13 (by decide) (by decide) (by decide) (by decide) (by decide)).trans ((bj 13 (by decide)).trans a13)
  have u8 : gI m13 u 8 = nI 0 := (f13.1.I (o75 (by omega)) _).trans b8
  have C13 : RQ t2 m13 B n u zSc zSc (tkn B n 0) := ⟨⟨⟨LB.fr f13.1, RB0.fr f13.1, (f13.1.2 _ _).trans b4, 0, by decide, u8⟩, by omega, (F13.2 7 (by decide)).trans ((bj 7 (by decide)).trans a7), fun k hk => by rw [f13.1.I (by decide), (bo 76 (by omega) (by decide) k).1]; exact tp k (by omega), tk13, tkn_ok (Nat.zero_le _), e13, u8, by decide, fun i hi => absurd hi (Nat.not_lt_zero _), fun i hi => absurd hi (Nat.not_lt_zero _), fun i hi => absurd hi (Nat.not_lt_zero _)⟩, SB.rF F13 (by omega), Vq.z⟩
  have P : ∀ m15, RwF u m13 m15 → (∀ a, a < u → a ≠ 75 → ∀ k, gI m15 a k = gI m a k ∧ gJ m15 a k = gJ m a k) ∧ (∀ a, a < u → ∀ k, ¬ (a = 75 ∧ k = 4) → gR m15 a k = gR m a k) ∧ (∀ j, 14 < j → gI m15 75 j = gI m 75 j) ∧ gI m15 75 6 = 0 := by
    intro m15 w
    refine ⟨fun a ha h75 k => ?_, fun a ha k h => ?_, fun j hj => ?_, ?_⟩
    · have o : a ∉ rpT u := fun q => by have := rpT_m.mp q; omega
      rw [w.1.I o, w.1.J o, f13.1.I (o75 h75), f13.1.J (o75 h75)]
      exact bo a ha h75 k
    · rw [w.1.2, f13.1.2]; exact br a ha k h
    · rw [w.2 j (Or.inr hj), F13.2 j (Or.inr hj), bj j (by omega)]; exact aj j hj
    · rw [w.2 6 (by decide), F13.2 6 (by decide), bj 6 (by decide)]; exact a6
  have tn2 : tN t2 = u + 15 := by rw [A.tn]
  refine rsp_readSchool C13 (fun e m15 he w d => ?_) (fun S N k m15 he w C nz => ?_)
  · obtain ⟨p1, p2, p3, p4⟩ := P m15 w
    have eb := d.b
    rw [d.f, show (0 : Int32) = nI 0 from rfl, nI_leI (by omega) (by decide)]
    refine ⟨fun q => by omega, fun _ => ?_⟩
    have ff : ∀ j, j ≠ 1 → j ≠ 2 → gI (pI (pI m15 75 1 4) 75 2 (gI (pI m15 75 1 4) 75 14)) 75 j = gI m15 75 j := fun j j1 j2 => by rw [gII, if_neg (fun q => j2 q.2), gII, if_neg (fun q => j1 q.2)]
    refine h0 n e t2 _ en nf he eb tn2 ⟨by omega, fun a ha => A.ok a (by omega), fun a ha hX k => ?_, fun a ha k hR => ?_⟩ (fun j hj => ?_) ?_ ?_ ?_ ?_
    · have h75 : a ≠ 75 := fun q => hX (by rw [q]; decide)
      rw [gII, if_neg (fun q => h75 q.1), gII, if_neg (fun q => h75 q.1), gJI, gJI]
      exact p1 a (by omega) h75 k
    · rw [gRI, gRI]
      exact p2 a (by omega) k hR
    · rw [ff j (by omega) (by omega)]; exact p3 j hj
    · rw [gII, if_neg (by decide), gII, if_pos ⟨rfl, rfl⟩]
    · rw [gII, if_pos ⟨rfl, rfl⟩, gII, if_neg (by decide)]; exact d.w
    · rw [ff 13 (by decide) (by decide)]; exact d.f
    · rw [ff 6 (by decide) (by decide)]; exact p4
  · obtain ⟨p1, p2, p3, p4⟩ := P m15 w
    have v := C.vq.vs nz
    obtain ⟨sm, sy⟩ := C.sg.rfr C.vq
    have L15 := C.rp.rb.lay
    have R15 := C.rp.rb.rl
    rw [C.rp.fl, C.rp.rb.rd]
    refine ⟨fun _ => ?_, fun q => absurd (by decide) q⟩
    have Lc : Lay t2 (pR m15 75 3 u) := L15.pR 75 3 (by decide)
    have smc : RSm (pR m15 75 3 u) u S := sm
    have syc : RSy (pR m15 75 3 u) u S (cN S) := sy
    have c3 : gR (pR m15 75 3 u) 75 3 = u := by rw [gRR, if_pos ⟨rfl, rfl⟩]
    have cr : ∀ a, a < u → ∀ k, ¬ rsR a k → gR (pR m15 75 3 u) a k = gR m a k := fun a ha k h => by
      unfold rsR at h
      rw [gRR, if_neg (by omega)]
      exact p2 a ha k (by omega)
    have ci : ∀ a, a < u → a ≠ 75 → ∀ k, gI (pR m15 75 3 u) a k = gI m a k ∧ gJ (pR m15 75 3 u) a k = gJ m a k := p1
    have c13 : gI (pR m15 75 3 u) 75 13 = 0 := C.rp.fl
    have c6 : gI (pR m15 75 3 u) 75 6 = 0 := p4
    refine rsp_table Lc R15.pr c3 v smc (fun m33 f33 an33 => rsp_termNew (Lc.fr f33) (fun m39 f39 tm39 => ?_))
    have R33 := (R15.pr (k := 3) (v := u)).fr f33
    generalize pR m15 75 3 u = mc at *
    have L39 := (Lc.fr f33).fr f39
    have r39 : gR m39 75 3 = u := (f39.2 _ _).trans ((f33.2 _ _).trans c3)
    have ou : ∀ a, u ≤ a → a ∉ [77] ∧ a ∉ [82] := fun a ha => ⟨fun q => by simp only [List.mem_cons, List.not_mem_nil, or_false] at q; omega, fun q => by simp only [List.mem_cons, List.not_mem_nil, or_false] at q; omega⟩
    rw [lr75_26 L39, ll82 L39, r39]
    refine ⟨lk82 L39, (show vp_in (nI 8) 11 from vp_nI (by decide) (by decide)), R33.k, lk75 L39, ?_⟩
    have eu : gI (pI (pI m39 82 8 (-2)) 75 28 0) u 0 = nI (cT S) := by rw [gII, if_neg (by omega), gII, if_neg (by omega), f39.I (ou u (Nat.le_refl _)).2, f33.I (ou u (Nat.le_refl _)).1]; exact smc.things
    rw [show (8 : Int32).toNatClampNeg = 8 from rfl, eu]
    have G : Fr [75, 77, 82] mc (pI (pI (pI (pI m39 82 8 (-2)) 75 28 0) 75 1 0) 75 2 (-1)) := Fr.pI (Fr.pI (Fr.pI (Fr.pI ((f33.mono (by decide)).tr (f39.mono (by decide))) (by decide)) (by decide)) (by decide)) (by decide)
    have g82 : ∀ j, gI (pI (pI (pI (pI m39 82 8 (-2)) 75 28 0) 75 1 0) 75 2 (-1)) 82 j = if j = 8 then -2 else gI m39 82 j := fun j => by
      rw [gII, if_neg (by omega), gII, if_neg (by omega), gII, if_neg (by omega), gII]
      by_cases q : j = 8
      · rw [if_pos ⟨rfl, q⟩, if_pos q]
      · rw [if_neg (fun y => q y.2), if_neg q]
    have g77 : ∀ j, gI (pI (pI (pI (pI m39 82 8 (-2)) 75 28 0) 75 1 0) 75 2 (-1)) 77 j = gI m33 77 j := fun j => by rw [gII, if_neg (by omega), gII, if_neg (by omega), gII, if_neg (by omega), gII, if_neg (by omega)]; exact f39.I (by decide) _
    have g75 : ∀ j, j ≠ 1 → j ≠ 2 → j ≠ 28 → gI (pI (pI (pI (pI m39 82 8 (-2)) 75 28 0) 75 1 0) 75 2 (-1)) 75 j = gI mc 75 j := fun j j1 j2 j3 => by rw [gII, if_neg (fun q => j2 q.2), gII, if_neg (fun q => j1 q.2), gII, if_neg (fun q => j3 q.2), gII, if_neg (by omega), f39.I (by decide), f33.I (by decide)]
    have g28 : gI (pI (pI (pI (pI m39 82 8 (-2)) 75 28 0) 75 1 0) 75 2 (-1)) 75 28 = 0 := by simp (config := { decide := true }) only [gII, true_and, if_true, if_false]
    have g1 : gI (pI (pI (pI (pI m39 82 8 (-2)) 75 28 0) 75 1 0) 75 2 (-1)) 75 1 = 0 := by simp (config := { decide := true }) only [gII, true_and, if_true, if_false]
    have g2 : gI (pI (pI (pI (pI m39 82 8 (-2)) 75 28 0) 75 1 0) 75 2 (-1)) 75 2 = -1 := by simp (config := { decide := true }) only [gII, true_and, if_true, if_false]
    generalize pI (pI (pI (pI m39 82 8 (-2)) 75 28 0) 75 1 0) 75 2 (-1) = mF at *
    have oG : ∀ a, u ≤ a → a ∉ [75, 77, 82] := fun a ha q => by simp only [List.mem_cons, List.not_mem_nil, or_false] at q; omega
    have RF_ : RLy t2 mF u := by
      have := R33
      unfold RLy at this ⊢
      have e : ∀ j, gR mF u j = gR m33 u j := fun j => (G.2 _ _).trans (f33.2 _ _).symm
      simp only [e]
      exact this
    refine h1 n S N k t2 mF en nf he ⟨⟨Lc.fr G, RF_, v, (G.2 _ _).trans c3, smc.fr G oG, fun w hw q hq => (g77 _).trans (an33 w hw q hq)⟩, syc.fr G oG, ⟨fun q hq => ?_, ?_, ?_, ?_, g28, fun j hj => absurd hj (Nat.not_lt_zero _), Nat.zero_le _, TmV0 v, fun j hj => absurd hj (Nat.not_lt_zero _)⟩⟩ tn2 ⟨by omega, fun a ha => A.ok a (by omega), fun a ha hX q => ?_, fun a ha q hR => (G.2 a q).trans (cr a (by omega) q hR)⟩ g1 g2 ((g75 13 (by decide) (by decide) (by decide)).trans c13) ((g75 6 (by decide) (by decide) (by decide)).trans c6)
    · rw [g82, if_neg (by omega), tm39 q (by omega), if_pos hq]; exact Fcf0.symm
    · rw [g82, if_pos rfl]; rfl
    · rw [g82, if_neg (by decide), tm39 9 (by decide)]; rfl
    · rw [g82, if_neg (by decide), tm39 10 (by decide)]; rfl
    · have := ci a (by omega) (fun q => hX (by rw [q]; decide)) q
      rw [(G.1 a hX q).1, (G.1 a hX q).2]
      exact this
end
