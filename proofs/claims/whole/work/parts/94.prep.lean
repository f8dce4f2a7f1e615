/-! Plans: made once -/
def stN (S : Sc) (P : Nat → Bool) : Nat := pl (NU S (U0 S P)) (ctU S (U0 S P))
def plGrow (S : Sc) (P : Nat → Bool) (m : zM) (len : Nat) : Prop := gI m 52 0 = 0 ∧ len < stN S P
noncomputable def plLen (S : Sc) (P : Nat → Bool) (m : zM) (len : Nat) : Nat := @ite _ (plGrow S P m len) (Classical.propDecidable _) (newLen len (stN S P)) len
noncomputable def plCap (S : Sc) (P : Nat → Bool) (m : zM) (len : Nat) : Nat × Nat := @ite _ (plGrow S P m len) (Classical.propDecidable _) (3, 3 * newLen len (stN S P)) (0, 0)
def plX (a1 a2 a3 : Nat) : List Nat := [52, 53, 54, 55, 56, 57, a1, a2, a3]
def PlF (t : zT) (t' : zT) (m : zM) (m' : zM) (a1 : Nat) (a2 : Nat) (a3 : Nat) (b1 : Nat) (b2 : Nat) (b3 : Nat) : Prop := (Gx t t' m m' (plX a1 a2 a3) plR) ∧ (b1 < tN t' ∧ b2 < tN t' ∧ b3 < tN t') ∧ ((t' = t ∧ b1 = a1 ∧ b2 = a2 ∧ b3 = a3) ∨ (tN t ≤ b1 ∧ tN t ≤ b2 ∧ tN t ≤ b3)) ∧ (tN t' ≤ tN t + 3)
theorem PlF.gx {t : zT} {t' : zT} {m : zM} {m' : zM} {a1 : Nat} {a2 : Nat} {a3 : Nat} {b1 : Nat} {b2 : Nat} {b3 : Nat} (h_ : PlF t t' m m' a1 a2 a3 b1 b2 b3) : Gx t t' m m' (plX a1 a2 a3) plR := h_.1
theorem PlF.bn {t : zT} {t' : zT} {m : zM} {m' : zM} {a1 : Nat} {a2 : Nat} {a3 : Nat} {b1 : Nat} {b2 : Nat} {b3 : Nat} (h_ : PlF t t' m m' a1 a2 a3 b1 b2 b3) : b1 < tN t' ∧ b2 < tN t' ∧ b3 < tN t' := h_.2.1
theorem PlF.ab {t : zT} {t' : zT} {m : zM} {m' : zM} {a1 : Nat} {a2 : Nat} {a3 : Nat} {b1 : Nat} {b2 : Nat} {b3 : Nat} (h_ : PlF t t' m m' a1 a2 a3 b1 b2 b3) : (t' = t ∧ b1 = a1 ∧ b2 = a2 ∧ b3 = a3) ∨ (tN t ≤ b1 ∧ tN t ≤ b2 ∧ tN t ≤ b3) := h_.2.2.1
theorem PlF.n3 {t : zT} {t' : zT} {m : zM} {m' : zM} {a1 : Nat} {a2 : Nat} {a3 : Nat} {b1 : Nat} {b2 : Nat} {b3 : Nat} (h_ : PlF t t' m m' a1 a2 a3 b1 b2 b3) : tN t' ≤ tN t + 3 := h_.2.2.2
section
variable {t t' t1 t2 : zT} {m m' m1 m2 : zM} {s u r : Nat} {S : Sc} {T T' : Ts} {P P' : Nat → Bool} {x x2 x3 : Int32} {Tl X X' : List Nat} {R R' : Nat → Nat → Prop} {U : Nat → Bool} {a1 a2 a3 len : Nat}
theorem plLen_y (h : plGrow S P m len) : plLen S P m len = newLen len (stN S P) := by unfold plLen; rw [if_pos h]
theorem plLen_n (h : ¬ plGrow S P m len) : plLen S P m len = len := by unfold plLen; rw [if_neg h]
theorem plCap_y (h : plGrow S P m len) : plCap S P m len = (3, 3 * newLen len (stN S P)) := by unfold plCap; rw [if_pos h]
theorem plCap_n (h : ¬ plGrow S P m len) : plCap S P m len = (0, 0) := by unfold plCap; rw [if_neg h]
theorem plCap_3 : (plCap S P m len).1 ≤ 3 := by
  by_cases h : plGrow S P m len
  · rw [plCap_y h]; exact Nat.le_refl _
  · rw [plCap_n h]; exact Nat.zero_le _
theorem plCap_pot (v : Vs S) : pot len + (plCap S P m len).2 ≤ pot (plLen S P m len) := by
  by_cases h : plGrow S P m len
  · rw [plCap_y h, plLen_y h]
    exact pot_new h.2 (NU_b v)
  · rw [plCap_n h, plLen_n h]; exact Nat.le_refl _
theorem inj_sep (v : Vs S) (hU : ∀ t, U t = true → t < cT S) : injD S U P ↔ sep S U P := by
  have t8 := v.t8
  constructor
  · intro h w w' h1 h2 h3 h4 h5
    refine h w w' h1 h2 h3 h4 (vl_cong (fun k hk => ?_))
    obtain ⟨q1, q2, _⟩ := thU_k t8 hk
    unfold lsd
    rw [h5 _ q1 q2]
  · intro h w w' h1 h2 h3 h4 h5
    refine h w w' h1 h2 h3 h4 (fun t ht hu => ?_)
    have e := vl_inj (lsd_ok v) (lsd_ok v) h5 _ (idx_lt ht hu)
    unfold lsd at e
    rw [thU_of (by omega) hu] at e
    omega
theorem U0_lt : ∀ t, U0 S P t = true → t < cT S := fun _ h => (U0_iff.mp h).1
theorem U0_tr : trU S (U0 S P) := fun _ _ h => (U0_iff.mp h).2.1
theorem plX_co (pr : PR t m a1 a2 a3 len) : ∀ a, a ∈ plX a1 a2 a3 → a = 19 ∨ (37 ≤ a ∧ a ≤ 60) ∨ 70 ≤ a := by
  have o1 := pr.o1
  have o2 := pr.o2
  have o3 := pr.o3
  intro a ha
  simp only [plX, List.mem_cons, List.not_mem_nil, or_false] at ha
  omega
theorem PlF.co {b1 b2 b3 : Nat} (f : PlF t t' m m' a1 a2 a3 b1 b2 b3) (pr : PR t m a1 a2 a3 len) (c : CO t m s S T) : CO t' m' s S T := c.gx f.gx (plX_co pr) plR_lay (by unfold plR; omega) (by unfold plR; omega)
theorem sp_prepare (c : CO t m s S T) (pr : PR t m a1 a2 a3 len) (an : a1 < tN t ∧ a2 < tN t ∧ a3 < tN t) (hk : plOK S (Wd S T) m) {cap : Nat × Nat} (hc : cap = plCap S (Wd S T) m len) {Q : zT → zM → Prop} (hQ : ∀ t' m' b1 b2 b3, PR t' m' b1 b2 b3 (plLen S (Wd S T) m len) → PlF t t' m m' a1 a2 a3 b1 b2 b3 → PlV S (Wd S T) m' → Q t' m') : wX1_prepare cap t m 52 20 68 Q := by
  have L := c.cor.lay
  have v := c.cor.vs
  have h85 := L.1
  have o1 := pr.o1
  have o2 := pr.o2
  have o3 := pr.o3
  have len5 := pr.le
  have hs := c.cor.sch
  unfold wX1_prepare
  refine ⟨lk52 L, fun h0 => ?_, fun h0 => ?_⟩
  · have F1 : Fr [52] m (pI m 52 0 1) := Fr.pI Fr.rf (by decide)
    have c1 := c.g F1 (fun a ha => by simp only [List.mem_cons, List.not_mem_nil, or_false] at ha; omega)
    rw [c.cor.told]
    refine ⟨lk20 L, sp_sureIn c1.cor (Or.inr (Or.inl rfl)) c1.wor (sp_layOut c1.cor (fun m2 f2 g2 sk2 => ?_))⟩
    have F2 : Fr [52, 53, 54, 55, 56] m m2 := (F1.mono (by decide)).tr f2
    have c2 := c.g F2 (fun a ha => by simp only [List.mem_cons, List.not_mem_nil, or_false] at ha; omega)
    have k2 : gI m2 52 0 = 1 := by rw [g2 0 (by decide) (by decide), gII, if_pos ⟨rfl, rfl⟩]
    have e7 : gI m2 52 7 = nI (stN S (Wd S T)) := sk2.st
    have s5 : stN S (Wd S T) ≤ 50625 := NU_b v
    have s1 : 1 ≤ stN S (Wd S T) := pl_pos (fun k hk => by have := NU_k (U := U0 S (Wd S T)) v hk; omega)
    refine ⟨cap, ⟨by omega, by omega⟩, sp_makeRoom c2.cor.lay (pr.fr F2) s1 s5 e7 (fun hlt => ?_) (fun t3 m3 b1 b2 b3 len' hcase hle pr3 g3 z3 => ?_)⟩
    · rw [hc, plCap_y ⟨h0, hlt⟩]
      exact ⟨Nat.le_refl _, Nat.le_refl _⟩
    · have eLen : len' = plLen S (Wd S T) m len := by
        rcases hcase with ⟨_, _, _, _, q⟩ | ⟨q1, q2, _⟩
        · by_cases z : plGrow S (Wd S T) m len
          · have := z.2; omega
          · rw [plLen_n z, q]
        · rw [plLen_y ⟨h0, q1⟩, q2]
      have G3 : Gx t t3 m m3 (plX a1 a2 a3) plR := (Gx.of_fr (F2.mono (by intro a ha; simp only [plX, List.mem_cons, List.not_mem_nil, or_false] at ha ⊢; omega))).tr g3 (by intro a ha; simp only [plX, List.mem_cons, List.not_mem_nil, or_false] at ha ⊢; omega) (fun a k h => Or.inl h)
      have bn : b1 < tN t3 ∧ b2 < tN t3 ∧ b3 < tN t3 := by
        rcases hcase with ⟨q0, q1, q2, q3, _⟩ | ⟨_, _, q0, q1, q2, q3⟩
        · rw [q0, q1, q2, q3]; exact an
        · omega
      have ab : (t3 = t ∧ b1 = a1 ∧ b2 = a2 ∧ b3 = a3) ∨ (tN t ≤ b1 ∧ tN t ≤ b2 ∧ tN t ≤ b3) := by
        rcases hcase with ⟨q0, q1, q2, q3, _⟩ | ⟨_, _, q0, q1, q2, q3⟩
        · exact Or.inl ⟨q0, q1, q2, q3⟩
        · exact Or.inr (by omega)
      have n3 : tN t3 ≤ tN t + 3 := by
        rcases hcase with ⟨q0, _⟩ | ⟨_, _, q0, _⟩
        · rw [q0]; omega
        · omega
      have pX : ∀ a, a = b1 ∨ a = b2 ∨ a = b3 → a ∈ plX a1 a2 a3 ∨ tN t ≤ a := by
        intro a ha
        rcases ab with ⟨_, q1, q2, q3⟩ | ⟨q1, q2, q3⟩
        · refine Or.inl ?_
          simp only [plX, List.mem_cons, List.not_mem_nil, or_false]
          omega
        · exact Or.inr (by omega)
      have c3 : CO t3 m3 s S T := c.gx G3 (plX_co pr) plR_lay (by unfold plR; omega) (by unfold plR; omega)
      have e52 : ∀ a, a < 58 → 51 < a → ∀ k, gI m3 a k = gI m2 a k := fun a ha hb k => (g3.gi a (by omega) (by simp only [List.mem_cons, List.not_mem_nil, or_false]; omega) k).1
      have sk3 : SlK m3 S (U0 S (Wd S T)) (cT S) := by
        unfold SlK at sk2 ⊢
        simp only [e52 52 (by decide) (by decide), e52 53 (by decide) (by decide), e52 54 (by decide) (by decide), e52 55 (by decide) (by decide), e52 56 (by decide) (by decide)]
        exact sk2
      refine ⟨lk52 c3.cor.lay, sp_fillLast (U := U0 S (Wd S T)) c3.cor c3.wor sk3 pr3 hle z3 (fun b m4 f4 hb h4 => ?_)⟩
      have q1 := pr3.o1
      have q2 := pr3.o2
      have q3 := pr3.o3
      have o4 : ∀ a, a < 58 → a ∉ [b1] := by
        intro a ha
        simp only [List.mem_cons, List.not_mem_nil, or_false]
        omega
      have eg : gI (pI m4 52 1 (bI b)) 52 1 = bI b := by rw [gII, if_pos ⟨rfl, rfl⟩]
      rw [eg, bI_0]
      have F5 : Fr [52, b1] m3 (pI m4 52 1 (bI b)) := Fr.pI (f4.mono (by simp)) (by simp)
      have G5 : Gx t t3 m (pI m4 52 1 (bI b)) (plX a1 a2 a3) plR := G3.fr F5 (fun a ha => by
        simp only [List.mem_cons, List.not_mem_nil, or_false] at ha
        rcases ha with z | z
        · exact Or.inl (by rw [z]; simp [plX])
        · exact pX a (Or.inl z))
      have pr5 := (pr3.fr f4).fr (Fr.pI Fr.rf (by decide) : Fr [52] m4 (pI m4 52 1 (bI b)))
      have k5 : gI (pI m4 52 1 (bI b)) 52 0 = 1 := by
        rw [gII, if_neg (by decide), f4.I (o4 52 (by decide)), e52 52 (by decide) (by decide)]; exact k2
      rw [eLen] at pr5 hle
      have his := inj_sep (P := Wd S T) v (U0_lt (S := S) (P := Wd S T))
      refine ⟨by cases b <;> decide, fun hz => hQ _ _ b1 b2 b3 pr5 ⟨G5, bn, ab, n3⟩ ⟨k5, Or.inl ⟨by rw [gII, if_pos ⟨rfl, rfl⟩, hz]; rfl, fun hsep => ?_⟩⟩, fun hz => ?_⟩
      · have := hb.mpr (his.mpr hsep)
        rw [hz] at this; cases this
      · have hz := ts_false hz
        have hsep := his.mp (hb.mp hz)
        have sk5 : SlK (pI m4 52 1 (bI b)) S (U0 S (Wd S T)) (cT S) := by
          unfold SlK at sk3 ⊢
          simp (config := { decide := true }) only [gII, and_false, false_and, if_false, f4.I (o4 52 (by decide)), f4.I (o4 53 (by decide)), f4.I (o4 54 (by decide)), f4.I (o4 55 (by decide)), f4.I (o4 56 (by decide))]
          exact sk3
        refine sp_solve (c3.cor.lay.fr F5) v hsep U0_tr U0_lt pr5 sk5 hle (fun i hi => ?_) (fun m6 f6 g6 h2 h3 h4' h5 => ?_)
        · rw [gII, if_neg (by omega)]; exact h4 i hi
        · refine hQ t3 m6 b1 b2 b3 (pr5.fr f6) ⟨G5.fr f6 (fun a ha => ?_), bn, ab, n3⟩ ⟨?_, Or.inr ⟨?_, hsep, h2, h3, h4', h5⟩⟩
          · simp only [List.mem_cons, List.not_mem_nil, or_false] at ha
            rcases ha with z | z | z
            · exact Or.inl (by rw [z]; simp [plX])
            · exact Or.inl (by rw [z]; simp [plX])
            · exact pX a z
          · rw [g6 0 (by decide) (by decide) (by decide) (by decide)]; exact k5
          · rw [g6 1 (by decide) (by decide) (by decide) (by decide), gII, if_pos ⟨rfl, rfl⟩, hz]; rfl
  · have ng : ¬ plGrow S (Wd S T) m len := fun h => h0 h.1
    rcases hk with h | h
    · exact absurd h h0
    · refine hQ t m a1 a2 a3 (by rw [plLen_n ng]; exact pr) ⟨Gx.rf, an, Or.inl ⟨rfl, rfl, rfl, rfl⟩, by omega⟩ h
end
