/-! What grows: new cells, and what stays -/
def Gx (t : zT) (t' : zT) (m : zM) (m' : zM) (X : List Nat) (R : Nat → Nat → Prop) : Prop := (tN t ≤ tN t') ∧ (∀ a, a < tN t → tK t' a = tK t a ∧ tL t' a = tL t a) ∧ (∀ a, a < tN t → a ∉ X → ∀ k, gI m' a k = gI m a k ∧ gJ m' a k = gJ m a k) ∧ (∀ a, a < tN t → ∀ k, ¬ R a k → gR m' a k = gR m a k)
theorem Gx.gn {t : zT} {t' : zT} {m : zM} {m' : zM} {X : List Nat} {R : Nat → Nat → Prop} (h_ : Gx t t' m m' X R) : tN t ≤ tN t' := h_.1
theorem Gx.gk {t : zT} {t' : zT} {m : zM} {m' : zM} {X : List Nat} {R : Nat → Nat → Prop} (h_ : Gx t t' m m' X R) : ∀ a, a < tN t → tK t' a = tK t a ∧ tL t' a = tL t a := h_.2.1
theorem Gx.gi {t : zT} {t' : zT} {m : zM} {m' : zM} {X : List Nat} {R : Nat → Nat → Prop} (h_ : Gx t t' m m' X R) : ∀ a, a < tN t → a ∉ X → ∀ k, gI m' a k = gI m a k ∧ gJ m' a k = gJ m a k := h_.2.2.1
theorem Gx.gr {t : zT} {t' : zT} {m : zM} {m' : zM} {X : List Nat} {R : Nat → Nat → Prop} (h_ : Gx t t' m m' X R) : ∀ a, a < tN t → ∀ k, ¬ R a k → gR m' a k = gR m a k := h_.2.2.2
/-- the plan's own rows -/
def plR (a k : Nat) : Prop := a = 52 ∧ 13 ≤ k
/-- a plan that is made -/
def PlV (S : Sc) (P : Nat → Bool) (m : zM) : Prop := gI m 52 0 = 1 ∧ ((gI m 52 1 = 0 ∧ ¬ sep S (U0 S P) P) ∨ (gI m 52 1 = 1 ∧ sep S (U0 S P) P ∧ gI m 52 2 = nI (FF S false (U0 S P) P) ∧ gI m 52 3 = fsI S false (U0 S P) P ∧ gI m 52 4 = nI (FF S true (U0 S P) P) ∧ gI m 52 5 = fsI S true (U0 S P) P))
def plOK (S : Sc) (P : Nat → Bool) (m : zM) : Prop := gI m 52 0 = 0 ∨ PlV S P m
def newLen (len st : Nat) : Nat := if st < (if 50625 < 2 * len then 50625 else 2 * len) then (if 50625 < 2 * len then 50625 else 2 * len) else st
/-- how much all rows have taken, of a plan with rows of this length -/
def pot (len : Nat) : Nat := if len < 50625 then 6 * len else 455625
section
variable {t t' t1 t2 : zT} {m m' m1 m2 : zM} {s u r : Nat} {S : Sc} {T T' : Ts} {P P' : Nat → Bool} {x x2 x3 : Int32} {Tl X X' : List Nat} {R R' : Nat → Nat → Prop} {U : Nat → Bool} {a1 a2 a3 len : Nat}
theorem tK_new {a k n : Nat} (h : a ≠ tN t) : tK (tNew t k n) a = tK t a := if_neg h
theorem tL_new {a k n : Nat} (h : a ≠ tN t) : tL (tNew t k n) a = tL t a := if_neg h
theorem tK_nw {k n : Nat} : tK (tNew t k n) (tN t) = k := if_pos rfl
theorem tL_nw {k n : Nat} : tL (tNew t k n) (tN t) = n := if_pos rfl
theorem tN_new {k n : Nat} : tN (tNew t k n) = tN t + 1 := rfl
theorem zcI (a b j : Nat) : gI (zClr m a) b j = if b = a then 0 else gI m b j := rfl
theorem zcJ (a b j : Nat) : gJ (zClr m a) b j = if b = a then 0 else gJ m b j := rfl
theorem zcR (a b j : Nat) : gR (zClr m a) b j = if b = a then 0 else gR m b j := rfl
theorem Gx.of_fr (f : Fr X m m') : Gx t t m m' X R := ⟨Nat.le_refl _, fun _ _ => ⟨rfl, rfl⟩, fun a _ ha k => f.1 a ha k, fun a _ k _ => f.2 a k⟩
theorem Gx.rf : Gx t t m m X R := ⟨Nat.le_refl _, fun _ _ => ⟨rfl, rfl⟩, fun _ _ _ _ => ⟨rfl, rfl⟩, fun _ _ _ _ => rfl⟩
theorem Gx.mono (g : Gx t t' m m' X R) (h1 : ∀ a, a ∈ X → a ∈ X') (h2 : ∀ a k, R a k → R' a k) : Gx t t' m m' X' R' := ⟨g.gn, g.gk, fun a ha hX k => g.gi a ha (fun q => hX (h1 a q)) k, fun a ha k hR => g.gr a ha k (fun q => hR (h2 a k q))⟩
theorem Gx.tr (g : Gx t t1 m m1 X R) (g2 : Gx t1 t2 m1 m2 X' R') (h1 : ∀ a, a ∈ X' → a ∈ X ∨ tN t ≤ a) (h2 : ∀ a k, R' a k → R a k ∨ tN t ≤ a) : Gx t t2 m m2 X R := by
  have gn := g.gn
  refine ⟨Nat.le_trans g.gn g2.gn, fun a ha => ?_, fun a ha hX k => ?_, fun a ha k hR => ?_⟩
  · obtain ⟨p, q⟩ := g2.gk a (by omega)
    obtain ⟨p2, q2⟩ := g.gk a ha
    exact ⟨p.trans p2, q.trans q2⟩
  · have hX' : a ∉ X' := fun q => by
      rcases h1 a q with z | z
      · exact hX z
      · omega
    obtain ⟨p, q⟩ := g2.gi a (by omega) hX' k
    obtain ⟨p2, q2⟩ := g.gi a ha hX k
    exact ⟨p.trans p2, q.trans q2⟩
  · have hR' : ¬ R' a k := fun q => by
      rcases h2 a k q with z | z
      · exact hR z
      · omega
    exact (g2.gr a (by omega) k hR').trans (g.gr a ha k hR)
theorem Gx.fr (g : Gx t t1 m m1 X R) (f : Fr X' m1 m2) (h1 : ∀ a, a ∈ X' → a ∈ X ∨ tN t ≤ a) : Gx t t1 m m2 X R := g.tr (R' := fun _ _ => False) (Gx.of_fr f) h1 (fun _ _ h => h.elim)
theorem zR0_lt : ∀ q ∈ zR0, q.1 < 85 := by decide
theorem Lay.gx (L : Lay t m) (g : Gx t t' m m' X R) (hL : ∀ q ∈ zR0, ¬ R q.1 q.2.1) : Lay t' m' := by
  have h85 := L.1
  refine ⟨Nat.le_trans h85 g.gn, fun i hi => ?_, fun q hq => ?_⟩
  · obtain ⟨p, q⟩ := g.gk i (by omega)
    obtain ⟨p2, q2⟩ := L.2.1 i hi
    exact ⟨p.trans p2, q.trans q2⟩
  · have := zR0_lt q hq
    exact (g.gr _ (by omega) _ (hL q hq)).trans (L.2.2 q hq)
theorem CO.ext (c : CO t m s S T) (L : Lay t' m') (hI : ∀ a, a < 75 → a ≠ 19 → (a < 37 ∨ 60 < a) → a < 70 → ∀ k, gI m' a k = gI m a k) (hJ : ∀ a, a < 75 → a ≠ 19 → (a < 37 ∨ 60 < a) → a < 70 → ∀ k, gJ m' a k = gJ m a k) (h13 : gR m' 1 3 = gR m 1 3) (h20 : gR m' 20 0 = gR m 20 0) : CO t' m' s S T := by
  have hs := c.cor.sch
  have hs' := hs
  unfold isSch at hs'
  have sm := c.cor.sm
  have say := c.cor.say
  have way := c.cor.way
  have tm := c.tm
  have law := c.law
  have wor := c.wor
  have es : ∀ j, j ≤ 11 → ∀ k, gI m' (s + j) k = gI m (s + j) k := fun j hj k => hI _ (by omega) (by omega) (by omega) (by omega) k
  have es0 : ∀ k, gI m' s k = gI m s k := fun k => es 0 (by omega) k
  have e : ∀ a, a ∈ [1, 20, 33, 61, 62, 63, 64, 65, 66, 68] → ∀ k, gI m' a k = gI m a k := fun a ha k => by
    simp only [List.mem_cons, List.not_mem_nil, or_false] at ha
    exact hI a (by omega) (by omega) (by omega) (by omega) k
  have ej : ∀ a, a ∈ [34, 35, 67, 69] → ∀ k, gJ m' a k = gJ m a k := fun a ha k => by
    simp only [List.mem_cons, List.not_mem_nil, or_false] at ha
    exact hJ a (by omega) (by omega) (by omega) (by omega) k
  refine ⟨⟨L, hs, c.cor.vs, h20.trans c.cor.told, ?_, ?_, ?_⟩, h13.trans c.x3, ?_, ?_, ?_, (e 1 (by decide) _).trans c.rec_⟩
  · unfold SchM at sm ⊢
    simp only [es 1 (by decide), es 2 (by decide), es 3 (by decide), es 4 (by decide), es 5 (by decide), es 6 (by decide), es 7 (by decide), es 11 (by decide), es0]
    exact sm
  · unfold SayM at say ⊢
    simp only [es 8 (by decide), es 9 (by decide), es 10 (by decide)]
    exact say
  · unfold WayM at way ⊢
    simp only [e 20 (by decide), e 33 (by decide), ej 34 (by decide), ej 35 (by decide)]
    exact way
  · unfold TmC at tm ⊢
    simp only [e 61 (by decide), e 62 (by decide), e 63 (by decide), e 64 (by decide), e 65 (by decide)]
    exact tm
  · unfold RowM at law ⊢
    simp only [e 66 (by decide), ej 67 (by decide)]
    exact law
  · unfold RowM at wor ⊢
    simp only [e 68 (by decide), ej 69 (by decide)]
    exact wor
theorem CO.gx (c : CO t m s S T) (g : Gx t t' m m' X R) (hX : ∀ a, a ∈ X → a = 19 ∨ (37 ≤ a ∧ a ≤ 60) ∨ 70 ≤ a) (hL : ∀ q ∈ zR0, ¬ R q.1 q.2.1) (h1 : ¬ R 1 3) (h2 : ¬ R 20 0) : CO t' m' s S T := by
  have h85 := c.cor.lay.1
  have o : ∀ a, a ≠ 19 → (a < 37 ∨ 60 < a) → a < 70 → a ∉ X := fun a p q r h => by have := hX a h; omega
  exact c.ext (c.cor.lay.gx g hL) (fun a h1 h2 h3 h4 k => (g.gi a (by omega) (o a h2 h3 h4) k).1) (fun a h1 h2 h3 h4 k => (g.gi a (by omega) (o a h2 h3 h4) k).2) (g.gr 1 (by omega) 3 h1) (g.gr 20 (by omega) 0 h2)
theorem RO.gx (d : RO t m u S T) (g : Gx t t' m m' X R) (hu : u + 15 ≤ tN t) (hX : ∀ a, a ∈ X → a < 77 ∨ (77 < a ∧ a < 82) ∨ a = 84 ∨ (85 ≤ a ∧ (a < u ∨ u + 15 ≤ a))) (h75 : gI m' 75 28 = gI m 75 28) (hL : ∀ q ∈ zR0, ¬ R q.1 q.2.1) (h3 : ¬ R 75 3) (hRu : ∀ k, ¬ R u k) : RO t' m' u S T := by
  have u85 := d.rc.rl.u85
  have rl := d.rc.rl
  have sm := d.rc.sm
  have sy := d.sy
  have tm := d.tm
  have o : ∀ j, j ≤ 14 → u + j ∉ X := fun j hj h => by have := hX _ h; omega
  have es : ∀ j, j ≤ 14 → ∀ k, gI m' (u + j) k = gI m (u + j) k := fun j hj k => (g.gi _ (by omega) (o j hj) k).1
  have es0 : ∀ k, gI m' u k = gI m u k := fun k => es 0 (by omega) k
  have ek : ∀ j, j ≤ 14 → tK t' (u + j) = tK t (u + j) := fun j hj => (g.gk _ (by omega)).1
  have ek0 : tK t' u = tK t u := ek 0 (by omega)
  have el : ∀ j, j ≤ 14 → tL t' (u + j) = tL t (u + j) := fun j hj => (g.gk _ (by omega)).2
  have er : ∀ k, gR m' u k = gR m u k := fun k => g.gr _ (by omega) k (hRu k)
  have e7 : ∀ a, a = 77 ∨ a = 82 ∨ a = 83 → ∀ k, gI m' a k = gI m a k := fun a ha k => (g.gi a (by omega) (fun h => by have := hX _ h; omega) k).1
  refine ⟨⟨d.rc.lay.gx g hL, ?_, d.rc.vs, (g.gr 75 (by omega) 3 h3).trans d.rc.told, ?_, fun w hw k hk => (e7 77 (Or.inl rfl) _).trans (d.rc.ans w hw k hk)⟩, ?_, ?_⟩
  · unfold RLy at rl ⊢
    simp only [er, ek 1 (by decide), ek 2 (by decide), ek 3 (by decide), ek 4 (by decide), ek 5 (by decide), ek 6 (by decide), ek 7 (by decide), ek 8 (by decide), ek 9 (by decide), ek 10 (by decide), ek 11 (by decide), ek 12 (by decide), ek 13 (by decide), ek 14 (by decide), ek0, el 1 (by decide), el 2 (by decide), el 3 (by decide), el 4 (by decide), el 5 (by decide), el 6 (by decide), el 7 (by decide), el 8 (by decide), el 9 (by decide), el 10 (by decide), el 11 (by decide), el 12 (by decide), el 13 (by decide), el 14 (by decide)]
    exact rl
  · unfold RSm at sm ⊢
    simp only [es 1 (by decide), es 2 (by decide), es 3 (by decide), es 4 (by decide), es 5 (by decide), es 6 (by decide), es 7 (by decide), es 8 (by decide), es0]
    exact sm
  · unfold RSy at sy ⊢
    simp only [es 9 (by decide), es 10 (by decide), es 11 (by decide)]
    exact sy
  · unfold TmR at tm ⊢
    simp only [e7 82 (Or.inr (Or.inl rfl)), e7 83 (Or.inr (Or.inr rfl)), h75]
    exact tm
theorem plR_lay : ∀ q ∈ zR0, ¬ plR q.1 q.2.1 := by unfold plR; decide
theorem newLen_ge {st : Nat} (h5 : st ≤ 50625) : st ≤ newLen len st ∧ newLen len st ≤ 50625 ∧ (newLen len st = 50625 ∨ 2 * len ≤ newLen len st) := by
  unfold newLen
  by_cases z : 50625 < 2 * len
  · simp only [if_pos z]
    split <;> omega
  · simp only [if_neg z]
    split <;> omega
theorem pot_new {st : Nat} (hl : len < st) (h5 : st ≤ 50625) : pot len + 3 * newLen len st ≤ pot (newLen len st) := by
  obtain ⟨h1, h2, h3⟩ := newLen_ge (len := len) h5
  unfold pot
  rw [if_pos (by omega)]
  split
  · omega
  · omega
theorem sp_makeRoom (L : Lay t m) (pr : PR t m a1 a2 a3 len) {st : Nat} (h1 : 1 ≤ st) (h5 : st ≤ 50625) (e7 : gI m 52 7 = nI st) {cap : Nat × Nat} (hc : len < st → 3 ≤ cap.1 ∧ 3 * newLen len st ≤ cap.2) {Q : zT → zM → Prop} (hQ : ∀ t' m' b1 b2 b3 len', (t' = t ∧ b1 = a1 ∧ b2 = a2 ∧ b3 = a3 ∧ len' = len ∨ len < st ∧ len' = newLen len st ∧ tN t' = tN t + 3 ∧ b1 = tN t ∧ b2 = tN t + 1 ∧ b3 = tN t + 2) → st ≤ len' → PR t' m' b1 b2 b3 len' → Gx t t' m m' [a1] plR → (∀ i, i < len' → gI m' b1 i = 0) → Q t' m') : wX1_makeRoom cap t m 52 Q := by
  have h85 := L.1
  have len5 := pr.le
  have o1 := pr.o1
  unfold wX1_makeRoom
  rw [pr.r1, pr.k1, pr.l1, e7]
  have eo : Int32.ofNat len = nI len := rfl
  rw [eo, nI_leI (by omega) (by omega)]
  refine ⟨lk52 L, rfl, fun hle => ?_, fun hgt => ?_⟩
  · unfold wX1_makeRoom_J53
    rw [pr.r1]
    exact ⟨lk52 L, sp_fillI pr.k1 pr.l1 (by omega) (fun m2 f2 g2 _ => hQ t m2 a1 a2 a3 len (Or.inl ⟨rfl, rfl, rfl, rfl, rfl⟩) hle (pr.fr f2) (Gx.of_fr f2) g2)⟩
  · have hlt : len < st := by omega
    obtain ⟨n1, n2, n3⟩ := newLen_ge (len := len) h5
    obtain ⟨c1, c2⟩ := hc hlt
    intro x7 h7
    have e7' : x7 = nI (newLen len st) := by
      rw [h7, show (2 : Int32) = nI 2 from rfl, pk_mul, show (50625 : Int32) = nI 50625 from rfl]
      have em : (if nI 50625 < nI (2 * len) then nI 50625 else nI (2 * len)) = nI (if 50625 < 2 * len then 50625 else 2 * len) := by
        by_cases z : 50625 < 2 * len
        · rw [if_pos z, if_pos (nI_lt z (by omega))]
        · rw [if_neg z, if_neg (nI_nlt (by omega) (by decide))]
      rw [em]
      unfold newLen
      by_cases y : 50625 < 2 * len
      · simp only [if_pos y]
        by_cases z : st < 50625
        · rw [if_pos z, if_pos (nI_lt z (by omega))]
        · rw [if_neg z, if_neg (nI_nlt (by omega) (by omega))]
      · simp only [if_neg y]
        by_cases z : st < 2 * len
        · rw [if_pos z, if_pos (nI_lt z (by omega))]
        · rw [if_neg z, if_neg (nI_nlt (by omega) (by omega))]
    rw [e7', nI_cl (show newLen len st < 2 ^ 31 by omega)]
    generalize hnl : newLen len st = nl at *
    have nn : ¬ nI nl < 0 ∧ nl * 4 ≤ 536870912 := ⟨nI_pos (by omega), by omega⟩
    refine ⟨nn, ⟨by omega, by omega⟩, fun _ => ⟨?_, nn, ⟨by omega, by omega⟩, fun _ => ⟨?_, nn, ⟨by omega, by omega⟩, fun _ => ⟨?_, ?_⟩⟩⟩⟩
    · rw [tK_new (by omega)]; exact lk52 L
    · rw [tK_new (by rw [tN_new]; omega), tK_new (by omega)]; exact lk52 L
    · rw [tK_new (by rw [tN_new, tN_new]; omega), tK_new (by rw [tN_new]; omega), tK_new (by omega)]; exact lk52 L
    · have eN1 : tN (tNew t 14 nl) = tN t + 1 := rfl
      have eN2 : tN (tNew (tNew t 14 nl) 14 nl) = tN t + 2 := rfl
      rw [eN1, eN2]
      generalize htt : tNew (tNew (tNew t 14 nl) 14 nl) 14 nl = t3
      have tn3 : tN t3 = tN t + 3 := by rw [← htt]; rfl
      have kk : ∀ a, a < tN t → tK t3 a = tK t a ∧ tL t3 a = tL t a := fun a ha => by
        rw [← htt]
        exact ⟨by rw [tK_new (by rw [tN_new, tN_new]; omega), tK_new (by rw [tN_new]; omega), tK_new (by omega)], by rw [tL_new (by rw [tN_new, tN_new]; omega), tL_new (by rw [tN_new]; omega), tL_new (by omega)]⟩
      have k1 : tK t3 (tN t) = 14 ∧ tL t3 (tN t) = nl := by
        rw [← htt]
        exact ⟨by rw [tK_new (by rw [tN_new, tN_new]; omega), tK_new (by rw [tN_new]; omega), tK_nw], by rw [tL_new (by rw [tN_new, tN_new]; omega), tL_new (by rw [tN_new]; omega), tL_nw]⟩
      have k2 : tK t3 (tN t + 1) = 14 ∧ tL t3 (tN t + 1) = nl := by
        rw [← htt, ← eN1]
        exact ⟨by rw [tK_new (by rw [tN_new, tN_new]; omega), tK_nw], by rw [tL_new (by rw [tN_new, tN_new]; omega), tL_nw]⟩
      have k3 : tK t3 (tN t + 2) = 14 ∧ tL t3 (tN t + 2) = nl := by
        rw [← htt, ← eN2]
        exact ⟨tK_nw, tL_nw⟩
      generalize hmm : pR (zClr (pR (zClr (pR (zClr m (tN t)) 52 13 (tN t)) (tN t + 1)) 52 14 (tN t + 1)) (tN t + 2)) 52 15 (tN t + 2) = m3
      have ri : ∀ a, a < tN t → ∀ k, gI m3 a k = gI m a k ∧ gJ m3 a k = gJ m a k := fun a ha k => by
        rw [← hmm]
        simp only [gIR, gJR, zcI, zcJ, show ¬ a = tN t + 2 by omega, show ¬ a = tN t + 1 by omega, show ¬ a = tN t by omega, if_false, and_self]
      have rr : ∀ a, a < tN t → ∀ k, ¬ plR a k → gR m3 a k = gR m a k := fun a ha k hk => by
        unfold plR at hk
        rw [← hmm]
        simp only [gRR, zcR, show ¬ a = tN t + 2 by omega, show ¬ a = tN t + 1 by omega, show ¬ a = tN t by omega, show ¬ (a = 52 ∧ k = 13) by omega, show ¬ (a = 52 ∧ k = 14) by omega, show ¬ (a = 52 ∧ k = 15) by omega, if_false]
      have q1 : gR m3 52 13 = tN t := by
        rw [← hmm]
        simp (config := { decide := true }) only [gRR, zcR, show ¬ 52 = tN t + 2 by omega, show ¬ 52 = tN t + 1 by omega, and_false, if_false, and_self, if_true]
      have q2 : gR m3 52 14 = tN t + 1 := by
        rw [← hmm]
        simp (config := { decide := true }) only [gRR, zcR, show ¬ 52 = tN t + 2 by omega, and_false, if_false, and_self, if_true]
      have q3 : gR m3 52 15 = tN t + 2 := by
        rw [← hmm]
        simp only [gRR, and_self, if_true]
      have pr3 : PR t3 m3 (tN t) (tN t + 1) (tN t + 2) nl := ⟨q1, q2, q3, k1.1, k2.1, k3.1, k1.2, k2.2, k3.2, n2, by omega, by omega, by omega, by omega, by omega, by omega⟩
      have g3 : Gx t t3 m m3 [a1] plR := ⟨by omega, kk, fun a ha _ k => ri a ha k, fun a ha k hk => rr a ha k hk⟩
      unfold wX1_makeRoom_J53
      rw [q1]
      refine ⟨by rw [(kk 52 (by omega)).1]; exact lk52 L, sp_fillI k1.1 k1.2 (by omega) (fun m4 f4 g4 _ => ?_)⟩
      exact hQ t3 m4 (tN t) (tN t + 1) (tN t + 2) nl (Or.inr ⟨hlt, rfl, tn3, rfl, rfl, rfl⟩) n1 (pr3.fr f4) (g3.fr f4 (fun a ha => Or.inr (by simp only [List.mem_cons, List.not_mem_nil, or_false] at ha; omega))) g4
end
