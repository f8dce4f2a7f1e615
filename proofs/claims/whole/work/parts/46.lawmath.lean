/-! The mathematics behind Court -/
theorem ct_inj {T : Nat} {f : Nat → Nat} {p : Nat → Bool} : ∀ {G : Nat} {r : Nat → Bool}, (∀ q, q < G → p q = true → f q < T ∧ r (f q) = true) → (∀ q q', q < G → q' < G → p q = true → p q' = true → f q = f q' → q = q') → fb_ct p G ≤ fb_ct r T := by
  intro G
  induction G with
  | zero => intro r _ _; exact Nat.zero_le _
  | succ G ih =>
    intro r h1 h2
    rw [fb_ct_succ]
    by_cases z : p G = true
    · have a := h1 G (by omega) z
      have u := fb_ct_upd r false a.1
      rw [a.2] at u
      simp only [if_true, Bool.false_eq_true, if_false, Nat.add_zero] at u
      have b := ih (r := fun k => if k = f G then false else r k) (fun q hq hp => ⟨(h1 q (by omega) hp).1, by
        have : f q ≠ f G := fun e => absurd (h2 q G (by omega) (by omega) hp z e) (by omega)
        simp only [this, if_false]
        exact (h1 q (by omega) hp).2⟩) (fun q q' hq hq' => h2 q q' (by omega) (by omega))
      rw [z]
      simp only [if_true]
      omega
    · have z : p G = false := by cases h : p G <;> simp_all
      rw [z]
      have b := ih (r := r) (fun q hq => h1 q (by omega)) (fun q q' hq hq' => h2 q q' (by omega) (by omega))
      simp only [Bool.false_eq_true, if_false]
      omega
theorem ct_two {p : Nat → Bool} {G a b : Nat} (hab : a < b) (hb : b < G) (pa : p a = true) (pb : p b = true) : fb_ct p G = 2 ↔ ∀ q, q < G → p q = true → q = a ∨ q = b := by
  have u := fb_ct_upd p false (i := a) (n := G) (by omega)
  have v := fb_ct_upd (fun k => if k = a then false else p k) false (i := b) (n := G) hb
  have nab : ¬ b = a := by omega
  simp only [nab, if_false, pa, pb, if_true, Bool.false_eq_true] at u v
  have w : fb_ct p G = fb_ct (fun k => if k = b then false else if k = a then false else p k) G + 2 := by omega
  rw [w]
  constructor
  · intro h q hq hp
    have h0 : fb_ct (fun k => if k = b then false else if k = a then false else p k) G = 0 := by omega
    have := fb_ct_zero.mp h0 q hq
    by_cases z1 : q = a
    · exact Or.inl z1
    · by_cases z2 : q = b
      · exact Or.inr z2
      · simp [z1, z2, hp] at this
  · intro h
    have : fb_ct (fun k => if k = b then false else if k = a then false else p k) G = 0 := fb_ct_zero.mpr (fun q hq => by
      by_cases z1 : q = a
      · subst z1; simp
      · by_cases z2 : q = b
        · simp [z2]
        · simp only [z1, z2, if_false]
          cases hp : p q with
          | false => rfl
          | true => rcases h q hq hp with e | e
                    · exact absurd e z1
                    · exact absurd e z2)
    omega
section
variable {S : Sc} {set h G lw w : Nat} {sd bf go gm gt : Nat → Nat}
theorem Hp.lt (hp : Hp S set 17 h G sd bf go gm gt) {j k : Nat} (hj : j < h) (hk : k < h) (e : sd j < sd k) : j < k := by
  rcases Nat.lt_or_ge j k with a | a
  · exact a
  · rcases Nat.lt_or_ge k j with b | b
    · have := hp.2.1 k j b hj; omega
    · have : j = k := by omega
      subst this; omega
theorem Hp.inj (hp : Hp S set 17 h G sd bf go gm gt) {j k : Nat} (hj : j < h) (hk : k < h) (e : sd j = sd k) : j = k := by
  rcases Nat.lt_trichotomy j k with a | a | a
  · have := hp.2.1 j k a hk; omega
  · exact a
  · have := hp.2.1 k j a hj; omega
theorem lf_kind (hp : Hp S set 17 h G sd bf go gm gt) : (∀ k, k < h → fkB (cKd S (cBy S (sd k))) lw (bf k) (rt S w (sd k)) (rt S w (sd (bf k - 1))) = true) ↔ LfK S set lw w := by
  constructor
  · intro H i hi hset
    obtain ⟨k, hk, e⟩ := hp.2.2.1 i hi hset
    subst e
    have Hk := H k hk
    refine ⟨fun hd => ?_, fun j hj => ?_⟩
    · rw [hd] at Hk
      simp only [fkB, if_true] at Hk
      cases hr : rt S w (sd k) with
      | false => rfl
      | true => rw [hr] at Hk; cases Hk
    · obtain ⟨j1, j2, j3, j4⟩ := hj
      obtain ⟨kj, hkj, e⟩ := hp.2.2.1 j (by omega) j2
      subst e
      have jk := hp.lt hkj hk j1
      have nb : bf k ≠ 0 := fun z => (hp.2.2.2.1 k hk).1 z kj jk j3
      have b := (hp.2.2.2.1 k hk).2 (bf k - 1) (by omega)
      have ej : bf k - 1 = kj := by
        rcases Nat.lt_trichotomy (bf k - 1) kj with x | x | x
        · exact absurd j3 (b.2.2 kj x jk)
        · exact x
        · have c1 := hp.2.1 kj (bf k - 1) x (by omega)
          have c2 := hp.2.1 (bf k - 1) k b.1 hk
          exact absurd b.2.1 (j4 (sd (bf k - 1)) c1 c2 (hp.1 (bf k - 1) (by omega)).2)
      rw [ej] at Hk
      refine ⟨fun hd => ?_, fun hd hl => ?_⟩
      · rw [hd] at Hk
        simp only [fkB, nb, if_false, if_true, show ¬ (3 : Nat) = 1 by decide] at Hk
        revert Hk
        cases rt S w (sd k) <;> cases rt S w (sd kj) <;> decide
      · rw [hd] at Hk
        simp only [fkB, nb, if_false, if_true, show ¬ (0 : Nat) = 1 by decide, show ¬ (0 : Nat) = 3 by decide, hl, and_self] at Hk
        revert Hk
        cases rt S w (sd k) <;> cases rt S w (sd kj) <;> decide
  · intro H k hk
    have Hk := H (sd k) (hp.1 k hk).1 (hp.1 k hk).2
    unfold fkB
    by_cases z1 : cKd S (cBy S (sd k)) = 1
    · rw [if_pos z1, Hk.1 z1]; rfl
    · rw [if_neg z1]
      by_cases z2 : bf k = 0
      · rw [if_pos z2]
      · rw [if_neg z2]
        have b := (hp.2.2.2.1 k hk).2 (bf k - 1) (by omega)
        have P : Prev S set (sd k) (sd (bf k - 1)) := ⟨hp.2.1 _ k b.1 hk, (hp.1 (bf k - 1) (by omega)).2, b.2.1, fun i c1 c2 c3 => by
          obtain ⟨k', hk', e⟩ := hp.2.2.1 i (by have := (hp.1 k hk).1; omega) c3
          subst e
          exact b.2.2 k' (hp.lt (by omega) hk' c1) (hp.lt hk' hk c2)⟩
        have Hj := Hk.2 _ P
        by_cases z3 : cKd S (cBy S (sd k)) = 3
        · rw [if_pos z3, Hj.1 z3]
          cases rt S w (sd (bf k - 1)) <;> rfl
        · rw [if_neg z3]
          by_cases z4 : cKd S (cBy S (sd k)) = 0 ∧ lw.testBit 2 = true
          · rw [if_pos z4, Bool.or_comm]
            exact Hj.2 z4.1 z4.2
          · rw [if_neg z4]
/-- all of a group at a way -/
def gA (S : Sc) (w h : Nat) (sd go : Nat → Nat) (q : Nat) (b : Bool) : Prop := ∀ j, j < h → go j = q → rt S w (sd j) = b
theorem gA_all (hp : Hp S set 17 h G sd bf go gm gt) {q : Nat} (hq : q < G) (b : Bool) : gA S w h sd go q b ↔ AllR S set w (gm q) (gt q) b := by
  constructor
  · intro H i hi hs e1 e2
    obtain ⟨k, hk, e⟩ := hp.2.2.1 i hi hs
    subst e
    have g := hp.2.2.2.2.1 k hk
    exact H k hk (hp.2.2.2.2.2.2.1 _ _ g.1 hq (by rw [g.2.1, e1]) (by rw [g.2.2, e2]))
  · intro H j hj e
    have g := hp.2.2.2.2.1 j hj
    rw [e] at g
    exact H (sd j) (hp.1 j hj).1 (hp.1 j hj).2 g.2.1.symm g.2.2.symm
theorem Hp.says (hp : Hp S set 17 h G sd bf go gm gt) {mm tt : Nat} : Says S set mm tt ↔ ∃ q, q < G ∧ gm q = mm ∧ gt q = tt := by
  constructor
  · rintro ⟨i, hi, hs, e1, e2⟩
    obtain ⟨k, hk, e⟩ := hp.2.2.1 i hi hs
    subst e
    have g := hp.2.2.2.2.1 k hk
    exact ⟨go k, g.1, g.2.1.trans e1, g.2.2.trans e2⟩
  · rintro ⟨q, hq, e1, e2⟩
    obtain ⟨k, hk, e⟩ := hp.2.2.2.2.2.1 q hq
    have g := hp.2.2.2.2.1 k hk
    rw [e] at g
    exact ⟨sd k, (hp.1 k hk).1, (hp.1 k hk).2, g.2.1.symm.trans e1, g.2.2.symm.trans e2⟩
theorem lf_pair {pn : Nat} {po pq : Nat → Nat} (hp : Hp S set 17 h G sd bf go gm gt) (h0 : lw.testBit 0 = false → pn = 0) (h1 : lw.testBit 0 = true → Pp S G gm gt (cT S) pn po pq) : (∀ j, j < pn → (gA S w h sd go (po j) true ∧ gA S w h sd go (pq j) false) ∨ (gA S w h sd go (po j) false ∧ gA S w h sd go (pq j) true)) ↔ LfP S set lw w := by
  constructor
  · intro H hl tt htt m1 m2 hne s1 k1 s2 k2 hex
    have P := h1 hl
    obtain ⟨q1, c1, c2, c3⟩ := hp.says.mp s1
    obtain ⟨q2, d1, d2, d3⟩ := hp.says.mp s2
    have p1 : spk S gm gt tt q1 = true := by simp [spk, c2, c3, k1]
    have p2 : spk S gm gt tt q2 = true := by simp [spk, d2, d3, k2]
    have all : ∀ q, q < G → spk S gm gt tt q = true → q = q1 ∨ q = q2 := by
      intro q hq hs
      simp only [spk, Bool.and_eq_true, beq_iff_eq, Bool.not_eq_true', beq_eq_false_iff_ne] at hs
      rcases hex (gm q) (hp.says.mpr ⟨q, hq, rfl, hs.1⟩) hs.2 with e | e
      · exact Or.inl (hp.2.2.2.2.2.2.1 _ _ hq c1 (e.trans c2.symm) (hs.1.trans c3.symm))
      · exact Or.inr (hp.2.2.2.2.2.2.1 _ _ hq d1 (e.trans d2.symm) (hs.1.trans d3.symm))
    have nq : q1 ≠ q2 := fun e => hne (by rw [← c2, ← d2, e])
    have ct : fb_ct (spk S gm gt tt) G = 2 := by
      rcases Nat.lt_or_ge q1 q2 with x | x
      · exact (ct_two x d1 p1 p2).mpr all
      · exact (ct_two (show q2 < q1 by omega) c1 p2 p1).mpr (fun q hq hs => (all q hq hs).symm)
    obtain ⟨i, hi, e1, e2⟩ := P.2.1 tt htt ct
    have hPi := P.1 i hi
    have r := H i hi
    rw [gA_all hp (by omega), gA_all hp (by omega), gA_all hp (by omega), gA_all hp (by omega)] at r
    have a1 := all (po i) (by omega) e1
    have a2 := all (pq i) (by omega) e2
    rcases a1 with a1 | a1 <;> rcases a2 with a2 | a2
    · omega
    · rw [a1, a2, c2, c3, d2, d3] at r; exact r
    · rw [a1, a2, c2, c3, d2, d3] at r
      exact r.symm.imp And.symm And.symm
    · omega
  · intro H j hj
    cases hl : lw.testBit 0 with
    | false => rw [h0 hl] at hj; omega
    | true =>
      have P := h1 hl
      obtain ⟨x1, x2, tt, htt, ct, s1, s2⟩ := P.1 j hj
      have all := (ct_two x1 x2 s1 s2).mp ct
      simp only [spk, Bool.and_eq_true, beq_iff_eq, Bool.not_eq_true', beq_eq_false_iff_ne] at s1 s2
      rw [gA_all hp (by omega), gA_all hp (by omega), gA_all hp (by omega), gA_all hp (by omega)]
      have r := H hl tt htt (gm (po j)) (gm (pq j)) (fun e => by
        have := hp.2.2.2.2.2.2.1 (po j) (pq j) (by omega) x2 e (s1.1.trans s2.1.symm); omega) (hp.says.mpr ⟨po j, by omega, rfl, s1.1⟩) s1.2 (hp.says.mpr ⟨pq j, x2, rfl, s2.1⟩) s2.2 (fun m3 hs3 hk3 => by
          obtain ⟨q3, c1, c2, c3⟩ := hp.says.mp hs3
          rcases all q3 c1 (by simp [spk, c2, c3, hk3]) with e | e
          · exact Or.inl (by rw [← c2, e])
          · exact Or.inr (by rw [← c2, e]))
      rw [s1.1, s2.1]
      exact r
theorem wrg_iff {mm tt : Nat} : wrg S set w mm tt = true ↔ ∃ i, i < 17 ∧ set.testBit i = true ∧ cBy S i = mm ∧ cOf S i = tt ∧ rt S w i = false := by
  simp only [wrg, List.any_eq_true, List.mem_range, Bool.and_eq_true, beq_iff_eq, Bool.not_eq_true', and_assoc]
theorem lf_wcnt (hp : Hp S set 17 h G sd bf go gm gt) (hof : ∀ k, k < h → cOf S (sd k) < 8) (k : Nat) {p : Nat → Bool} (hpq : ∀ q, q < G → (p q = true ↔ gm q = k ∧ ¬ gA S w h sd go q true)) : fb_ct p G = fb_ct (wrg S set w k) 8 := by
  have gt8 : ∀ q, q < G → gt q < 8 := by
    intro q hq
    obtain ⟨j, hj, e⟩ := hp.2.2.2.2.2.1 q hq
    have g := hp.2.2.2.2.1 j hj
    rw [e] at g
    rw [g.2.2]
    exact hof j hj
  have W : ∀ q, q < G → p q = true → wrg S set w k (gt q) = true := by
    intro q hq hp1
    obtain ⟨a, b⟩ := (hpq q hq).mp hp1
    refine Classical.byContradiction fun hn => b (fun j hj e => ?_)
    have g := hp.2.2.2.2.1 j hj
    rw [e] at g
    cases hr : rt S w (sd j) with
    | true => rfl
    | false => exact absurd (wrg_iff.mpr ⟨sd j, (hp.1 j hj).1, (hp.1 j hj).2, g.2.1.symm.trans a, g.2.2.symm, hr⟩) hn
  have R : ∀ tt, ∃ q, wrg S set w k tt = true → q < G ∧ p q = true ∧ gt q = tt := by
    intro tt
    by_cases z : wrg S set w k tt = true
    · obtain ⟨i, hi, hs, e1, e2, e3⟩ := wrg_iff.mp z
      obtain ⟨j, hj, e⟩ := hp.2.2.1 i hi hs
      subst e
      have g := hp.2.2.2.2.1 j hj
      refine ⟨go j, fun _ => ⟨g.1, (hpq _ g.1).mpr ⟨g.2.1.trans e1, fun ga => ?_⟩, g.2.2.trans e2⟩⟩
      rw [ga j hj rfl] at e3
      cases e3
    · exact ⟨0, fun h => absurd h z⟩
  refine Nat.le_antisymm (ct_inj (r := wrg S set w k) (f := gt) (fun q hq hp1 => ⟨gt8 q hq, W q hq hp1⟩) (fun q q' hq hq' p1 p2 e => hp.2.2.2.2.2.2.1 q q' hq hq' (((hpq q hq).mp p1).1.trans ((hpq q' hq').mp p2).1.symm) e)) ?_
  exact ct_inj (r := p) (f := fun tt => Classical.choose (R tt)) (fun tt htt z => ⟨(Classical.choose_spec (R tt) z).1, (Classical.choose_spec (R tt) z).2.1⟩) (fun a b ha hb za zb e => by
    have x1 := (Classical.choose_spec (R a) za).2.2
    have x2 := (Classical.choose_spec (R b) zb).2.2
    have e : Classical.choose (R a) = Classical.choose (R b) := e
    rw [← x1, ← x2, e])
theorem lf_g8 (hp : Hp S set 17 h G sd bf go gm gt) (hof : ∀ k, k < h → cOf S (sd k) < 8) (k : Nat) : fb_ct (fun q => gm q == k) G ≤ 8 := by
  refine Nat.le_trans (ct_inj (T := 8) (r := fun _ => true) (f := gt) (fun q hq _ => ⟨?_, rfl⟩) (fun q q' hq hq' p1 p2 e => ?_)) (fb_ct_le _ 8)
  · obtain ⟨j, hj, e⟩ := hp.2.2.2.2.2.1 q hq
    have g := hp.2.2.2.2.1 j hj
    rw [e] at g
    rw [g.2.2]
    exact hof j hj
  · simp only [beq_iff_eq] at p1 p2
    exact hp.2.2.2.2.2.2.1 q q' hq hq' (p1.trans p2.symm) e
theorem lf_wrong (hp : Hp S set 17 h G sd bf go gm gt) (hof : ∀ k, k < h → cOf S (sd k) < 8) {wt : Nat} (hw1 : ∀ k, k < cM S → (wt.testBit k = true ↔ lw.testBit 1 = true ∧ cKd S k = 0 ∧ cWr S < fb_ct (fun q => gm q == k) G)) {R : Nat → Bool} (hR : ∀ q, q < G → (R q = true ↔ gA S w h sd go q true)) :
    (∀ k, k < cM S → wt.testBit k = true → fb_ct (fun q => (gm q == k) && !R q) G ≤ cWr S) ↔ LfW S set lw w := by
  have E : ∀ k, fb_ct (fun q => (gm q == k) && !R q) G = fb_ct (wrg S set w k) 8 := fun k => lf_wcnt hp hof k (fun q hq => by
    rw [Bool.and_eq_true, beq_iff_eq, Bool.not_eq_true', ← hR q hq]
    cases R q <;> simp)
  constructor
  · intro H hl mm hm hk
    rw [← E]
    rcases Nat.lt_or_ge (cWr S) (fb_ct (fun q => gm q == mm) G) with x | x
    · exact H mm hm ((hw1 mm hm).mpr ⟨hl, hk, x⟩)
    · refine Nat.le_trans (fb_ct_sub (fun q _ hq => ?_)) x
      rw [Bool.and_eq_true] at hq
      exact hq.1
  · intro H k hk hb
    have := (hw1 k hk).mp hb
    rw [E]
    exact H this.1 k hk this.2.1
end
