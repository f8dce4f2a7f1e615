/-! Proofs: the class -/
/-- some sayings prove a thing -/
noncomputable def prv (S : Sc) (p k : Nat) : Bool := sureB S (LfB S p (cLw S)) k
def ltk (q p : Nat) : Prop := pop q < pop p ∨ (pop q = pop p ∧ q < p)
/-- what proves a thing -/
def isPf (S : Sc) (k : Nat) (r : Int32) : Prop := (∃ p, r = nI p ∧ p < 2 ^ cN S ∧ pop p ≤ 3 ∧ prv S p k = true ∧ ∀ q, q < 2 ^ cN S → pop q ≤ 3 → ltk q p → prv S q k = false) ∨ (r = -2 ∧ ∀ q, q < 2 ^ cN S → pop q ≤ 3 → prv S q k = false)
def Dn (S : Sc) (n b q : Nat) : Prop := q < 2 ^ cN S ∧ (pop q < n ∨ (pop q = n ∧ q < b))
def PvD (S : Sc) (D : Nat → Prop) (m : zM) : Prop := ∃ op, op < 256 ∧ gI m 48 2 = nI op ∧ (∀ k, cT S ≤ k → op.testBit k = false) ∧ ∀ k, k < cT S → (op.testBit k = true ∧ gI m 51 k = -2 ∧ ∀ q, D q → prv S q k = false) ∨ (op.testBit k = false ∧ ∃ p, D p ∧ gI m 51 k = nI p ∧ prv S p k = true ∧ ∀ q, D q → ltk q p → prv S q k = false)
def pT : List Nat := [19, 37, 38, 39, 40, 41, 42, 43, 44, 45, 46, 47, 48, 49, 50, 51]
section
variable {t : zT} {m m' m1 m2 : zM} {s u r : Nat} {S : Sc} {T T' : Ts} {P P' : Nat → Bool} {x x2 x3 : Int32} {Tl : List Nat} {D D' : Nat → Prop}
theorem ltk_irr {p : Nat} : ¬ ltk p p := by unfold ltk; omega
theorem ltk_asym {p q : Nat} (h : ltk p q) : ¬ ltk q p := by unfold ltk at h ⊢; omega
theorem ltk_tri (p q : Nat) : ltk p q ∨ p = q ∨ ltk q p := by unfold ltk; omega
theorem isPf_one {k : Nat} {x y : Int32} (h1 : isPf S k x) (h2 : isPf S k y) : x = y := by
  rcases h1 with ⟨p, p1, p2, p3, p4, p5⟩ | ⟨p1, p2⟩
  · rcases h2 with ⟨q, q1, q2, q3, q4, q5⟩ | ⟨q1, q2⟩
    · rcases ltk_tri p q with z | z | z
      · rw [q5 p p2 p3 z] at p4; cases p4
      · rw [p1, q1, z]
      · rw [p5 q q2 q3 z] at q4; cases q4
    · rw [q2 p p2 p3] at p4; cases p4
  · rcases h2 with ⟨q, q1, q2, q3, q4, q5⟩ | ⟨q1, q2⟩
    · rw [p2 q q2 q3] at q4; cases q4
    · rw [p1, q1]
theorem pop_add {i r : Nat} (hr : r < 2 ^ i) (hi : i < 32) : pop (2 ^ i + r) = pop r + 1 := by
  have e : 2 ^ i + r = r ||| 2 ^ i := by
    have := Nat.two_pow_add_eq_or_of_lt hr 1
    rw [Nat.mul_one] at this
    rw [this, Nat.or_comm]
  have b0 : r.testBit i = false := Nat.testBit_lt_two_pow hr
  have u := fb_ct_upd (fun k => r.testBit k) true (i := i) (n := 32) hi
  have cg : fb_ct (fun k => (r ||| 2 ^ i).testBit k) 32 = fb_ct (fun k => if k = i then true else r.testBit k) 32 := fb_ct_cong (fun k _ => by
    rw [fb_bit_set]
    by_cases z : k = i
    · simp [z]
    · simp [z])
  simp only [b0, Bool.false_eq_true, if_false, if_true] at u
  unfold pop
  rw [e, cg]
  omega
theorem pop_0 : pop 0 = 0 := fb_ct_zero.mpr (fun k _ => Nat.zero_testBit k)
theorem pop_pow {i : Nat} (hi : i < 32) : pop (2 ^ i) = 1 := by
  have := pop_add (r := 0) (Nat.two_pow_pos i) hi
  rw [pop_0] at this
  exact this
theorem pop_pos {r : Nat} (h0 : 0 < r) (h : r < 2 ^ 32) : 0 < pop r := by
  obtain ⟨k, q, hk, e⟩ := lb_split 32 r h0 h
  exact fb_ct_pos.mpr ⟨k, hk, by rw [e, lb_test]; simp⟩
theorem pop_btw {i q : Nat} (hi : i < 32) (h1 : 2 ^ i < q) (h2 : q < 2 ^ (i + 1)) : 2 ≤ pop q := by
  rw [Nat.pow_succ] at h2
  have e : q = 2 ^ i + (q - 2 ^ i) := by omega
  have l32 : 2 ^ i ≤ 2 ^ 32 := Nat.pow_le_pow_right (by decide) (by omega)
  rw [e, pop_add (by omega) hi]
  have := pop_pos (r := q - 2 ^ i) (by omega) (by omega)
  omega
theorem pw_lt {i j : Nat} (h : i < j) : 2 ^ i + 2 ^ i ≤ 2 ^ j := by
  have : 2 ^ (i + 1) ≤ 2 ^ j := Nat.pow_le_pow_right (by decide) h
  rw [Nat.pow_succ] at this
  omega
theorem CO.g (c : CO t m s S T) (f : Fr Tl m m') (h : ∀ a, a ∈ Tl → a = 19 ∨ (37 ≤ a ∧ a ≤ 60) ∨ 70 ≤ a) : CO t m' s S T := by
  have o : ∀ a, a ≠ 19 → (a < 37 ∨ (60 < a ∧ a < 70)) → a ∉ Tl := fun a h1 h2 q => by have := h a q; omega
  refine ⟨c.cor.fr f (fun a h1 h2 h3 => o a (by omega) (by omega)), (f.2 _ _).trans c.x3, c.tm.fr f (fun a ha => ?_), c.law.fr f (o _ (by decide) (by decide)) (o _ (by decide) (by decide)), c.wor.fr f (o _ (by decide) (by decide)) (o _ (by decide) (by decide)), (f.I (o 1 (by decide) (by decide)) _).trans c.rec_⟩
  simp only [List.mem_cons, List.not_mem_nil, or_false] at ha
  exact o a (by omega) (by omega)
theorem pT_co (c : CO t m s S T) (f : Fr pT m m') : CO t m' s S T := c.g f (fun a ha => by simp only [pT, List.mem_cons, List.not_mem_nil, or_false] at ha; omega)
theorem PvD.mono (h : PvD S D m) (e : ∀ q, D q ↔ D' q) : PvD S D' m := by
  obtain ⟨op, h1, h2, h3, h4⟩ := h
  refine ⟨op, h1, h2, h3, fun k hk => ?_⟩
  rcases h4 k hk with ⟨a, b, c⟩ | ⟨a, p, p1, p2, p3, p4⟩
  · exact Or.inl ⟨a, b, fun q hq => c q ((e q).mpr hq)⟩
  · exact Or.inr ⟨a, p, (e p).mp p1, p2, p3, fun q hq hl => p4 q ((e q).mpr hq) hl⟩
theorem bt_nI {n i : Nat} (hi : i < 32) : bt (nI n) i = n.testBit i := by
  unfold bt
  show (BitVec.ofNat 32 n).getLsbD i = _
  rw [BitVec.getLsbD_ofNat]
  simp [hi]
theorem and_not {a b : Nat} : nI a &&& (nI b ^^^ (-1)) = nI (bts (fun k => a.testBit k && !b.testBit k) 32) := by
  apply b_ext
  intro i hi
  rw [b_and, b_xor, b_m1 i hi, bt_nI hi, bt_nI hi, bt_nI hi, bts_tb]
  simp [hi]
theorem sp_proveBy_L {p pr : Nat} {Q : zM → Prop} {K : zM → Prop} (L : Lay t m) (hpr : pr < 256) (hK : ∀ m2, Fr [51] m m2 → (∀ k, k < 8 → gI m2 51 k = if pr.testBit k then nI p else gI m 51 k) → K m2) : ∀ dd k : Nat, k + dd = 8 → ∀ m1, Fr [51] m m1 → (∀ j, j < k → gI m1 51 j = if pr.testBit j then nI p else gI m 51 j) → (∀ j, k ≤ j → gI m1 51 j = gI m 51 j) → ∀ z : Int32, z = nI k → wX2_proveBy_L47 t 48 (nI p) (nI pr) Q K (dd + 1) z m1 := by
  intro dd
  induction dd with
  | zero =>
    intro k hk m1 f g1 g2 z e
    have ek : k = 8 := by omega
    subst ek
    rw [e, wX2_proveBy_L47]
    exact ⟨fun _ => hK m1 f g1, fun h => absurd (by decide) h⟩
  | succ dd ih =>
    intro k hk m1 f g1 g2 z e
    rw [e, wX2_proveBy_L47, nI_bit0 (show pr < 2 ^ 31 by omega) (show k < 31 by omega), lr48_3 (L.fr f), lk51 L, ll51 L, nI_cl (show k < 2 ^ 31 by omega)]
    unfold wX2_proveBy_J71
    refine ⟨fun h => absurd h (nI_ge (b := 8) (by omega) (by decide)), fun _ => ⟨fun hb => ih (k + 1) (by omega) m1 f (fun j hj => ?_) (fun j hj => g2 j (by omega)) _ (nI_1 k), fun hb => ⟨lk48 L, rfl, vp_nI (by omega) (by decide), ih (k + 1) (by omega) _ (Fr.pI f (by decide)) (fun j hj => ?_) (fun j hj => ?_) _ (nI_1 k)⟩⟩⟩
    · by_cases z : j = k
      · subst z; rw [hb]; exact g2 j (Nat.le_refl _)
      · exact g1 j (by omega)
    · by_cases z : j = k
      · subst z; rw [gII, if_pos ⟨rfl, rfl⟩, ts_false hb]; rfl
      · rw [gII, if_neg (fun q => z q.2)]; exact g1 j (by omega)
    · rw [gII, if_neg (by omega)]; exact g2 j (by omega)
theorem sp_proveBy (c : CO t m s S T) {p : Nat} (hp : p < 2 ^ cN S) (hD : PvD S D m) (hlt : ∀ q, D q → ltk q p) {Q : zM → Prop} (hQ : ∀ m', Fr pT m m' → gI m' 48 1 = gI m 48 1 → PvD S (fun q => D q ∨ q = p) m' → Q m') : wX2_proveBy t m 48 19 (nI p) Q := by
  have L := c.cor.lay
  have v := c.cor.vs
  have t8 := v.t8
  have n16 := v.n16
  have hs := c.cor.sch
  have p16 : 2 ^ cN S ≤ 2 ^ 16 := Nat.pow_le_pow_right (by decide) n16
  obtain ⟨op, h1, h2, h3, h4⟩ := hD
  have e0 : nI op = 0 ↔ op = 0 := nI_eq (b := 0) (by omega) (by decide)
  -- a thing that is proved already
  have old : ∀ k, op.testBit k = false → (∃ p0, D p0 ∧ gI m 51 k = nI p0 ∧ prv S p0 k = true ∧ ∀ q, D q → ltk q p0 → prv S q k = false) → ∀ z, z = gI m 51 k → ∃ p0, (D p0 ∨ p0 = p) ∧ z = nI p0 ∧ prv S p0 k = true ∧ ∀ q, (D q ∨ q = p) → ltk q p0 → prv S q k = false := by
    intro k hb ⟨p0, q1, q2, q3, q4⟩ z hz
    refine ⟨p0, Or.inl q1, hz.trans q2, q3, fun q hq hl => ?_⟩
    rcases hq with hq | hq
    · exact q4 q hq hl
    · subst hq; exact absurd hl (ltk_asym (hlt p0 q1))
  unfold wX2_proveBy
  rw [h2, e0, lr19_0 L, c.cor.told, lr48_0 L, c.cor.sm.laws]
  refine ⟨lk48 L, fun hz => hQ m Fr.rf rfl ⟨op, h1, h2, h3, fun k hk => ?_⟩, fun hz => ⟨lk19 L, lk20 L, ls_k L hs, ?_⟩⟩
  · rcases h4 k hk with ⟨a, _⟩ | ⟨a, b⟩
    · rw [hz, Nat.zero_testBit] at a; cases a
    · exact Or.inr ⟨a, old k a b _ rfl⟩
  · refine sp_judge (N := cN S) L hs (Or.inr (Or.inr (Or.inr rfl))) v c.cor.told c.cor.sm c.cor.say c.cor.way (fun i hi => ?_) (by omega) (fun h => h) (fun m1 f1 R1 => ?_)
    · rcases Nat.lt_or_ge i (cN S) with q | q
      · exact q
      · rw [Nat.testBit_lt_two_pow (Nat.lt_of_lt_of_le hp (Nat.pow_le_pow_right (by decide) q))] at hi; cases hi
    · have F1 : Fr pT m m1 := f1.mono (by decide)
      have c1 := pT_co c F1
      have L1 := c1.cor.lay
      rw [lr19_0 L1, lr48_0 L1]
      refine ⟨lk20 L, sp_sureIn c1.cor (Or.inr (Or.inr (Or.inr rfl))) R1 (fun x11 h11 => ⟨9, ?_⟩)⟩
      rw [f1.I (by decide), h2, fa_and] at h11
      have sb : bts (sureB S (LfB S p (cLw S))) (cT S) < 256 := Nat.lt_of_lt_of_le (bts_lt _ _) (show 2 ^ cT S ≤ 2 ^ 8 from Nat.pow_le_pow_right (by decide) t8)
      have prt : ∀ k, (bts (sureB S (LfB S p (cLw S))) (cT S) &&& op).testBit k = (decide (k < cT S) && prv S p k && op.testBit k) := fun k => by
        rw [Nat.testBit_and, bts_tb]; rfl
      have prl : bts (sureB S (LfB S p (cLw S))) (cT S) &&& op < 256 := Nat.lt_of_le_of_lt Nat.and_le_left sb
      generalize bts (sureB S (LfB S p (cLw S))) (cT S) &&& op = pr at h11 prt prl
      rw [h11]
      refine sp_proveBy_L L1 prl (fun m2 f2 g2 => ?_) 8 0 (by omega) m1 Fr.rf (fun j hj => absurd hj (by omega)) (fun j _ => rfl) 0 rfl
      have e48 : gI m2 48 2 = nI op := ((f2.I (by decide) _).trans (f1.I (by decide) _)).trans h2
      have F2 : Fr pT m m2 := F1.tr (f2.mono (by decide))
      have g51 : ∀ k, k < 8 → gI m2 51 k = if pr.testBit k then nI p else gI m 51 k := fun k hk => by
        rw [g2 k hk, f1.I (by decide)]
      rw [e48, and_not]
      generalize ho : bts (fun k => op.testBit k && !pr.testBit k) 32 = op2
      have ob : ∀ k, k < 32 → op2.testBit k = (op.testBit k && !pr.testBit k) := fun k hk => by
        rw [← ho, bts_tb]; simp [hk]
      have oz : ∀ k, 8 ≤ k → op2.testBit k = false := fun k hk => by
        rw [← ho, bts_tb, Nat.testBit_lt_two_pow (Nat.lt_of_lt_of_le h1 (show 2 ^ 8 ≤ 2 ^ k from Nat.pow_le_pow_right (by decide) hk))]
        simp
      have o256 : op2 < 2 ^ 8 := Nat.lt_pow_two_of_testBit _ oz
      refine hQ _ (Fr.pI F2 (by decide)) ?_ ⟨op2, o256, ?_, fun k hk => ?_, fun k hk => ?_⟩
      · rw [gII, if_neg (by decide)]
        exact (f2.I (by decide) _).trans (f1.I (by decide) _)
      · rw [gII, if_pos ⟨rfl, rfl⟩]
      · rcases Nat.lt_or_ge k 8 with q | q
        · rw [ob k (by omega), h3 k hk]; rfl
        · exact oz k q
      · have ek : gI (pI m2 48 2 (nI op2)) 51 k = if pr.testBit k then nI p else gI m 51 k := g51 k (by omega)
        rw [ek, ob k (by omega), prt k, decide_eq_true hk, Bool.true_and]
        rcases h4 k hk with ⟨a, b, d⟩ | ⟨a, b⟩
        · rw [a]
          cases hv : prv S p k with
          | false =>
            refine Or.inl ⟨by simp, by simpa using b, fun q hq => ?_⟩
            rcases hq with hq | hq
            · exact d q hq
            · subst hq; exact hv
          | true =>
            refine Or.inr ⟨by simp, p, Or.inr rfl, by simp, hv, fun q hq hl => ?_⟩
            rcases hq with hq | hq
            · exact d q hq
            · subst hq; exact absurd hl ltk_irr
        · rw [a]
          exact Or.inr ⟨by simp, old k a b _ (by simp)⟩
end
