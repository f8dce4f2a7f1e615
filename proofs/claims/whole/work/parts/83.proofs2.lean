/-! Proofs: all of them, and the reference's -/
def pfOK (S : Sc) (m : zM) : Prop := gI m 48 1 = 0 ∨ (gI m 48 1 = 1 ∧ ∀ k, k < cT S → isPf S k (gI m 51 k))
section
variable {t : zT} {m m' m1 m2 : zM} {s u r : Nat} {S : Sc} {T T' : Ts} {P P' : Nat → Bool} {x x2 x3 : Int32} {Tl : List Nat} {D D' : Nat → Prop} {n b b' : Nat}
theorem sp_fillI {a n : Nat} {y : Int32} (hK : tK t a = 14) (hL : tL t a = n) (hn : n < 2 ^ 31) {Q : zM → Prop} (hQ : ∀ m', Fr [a] m m' → (∀ k, k < n → gI m' a k = y) → (∀ k, n ≤ k → gI m' a k = gI m a k) → Q m') : wJ7_fill_53178 t m a y Q := by
  unfold wJ7_fill_53178
  refine ⟨hK, fun x2 hx2 => ⟨n + 1, ?_⟩⟩
  rw [hL] at hx2
  have hx2 : x2 = nI n := hx2
  have key : ∀ d k : Nat, k + d = n → ∀ m1, Fr [a] m m1 → (∀ j, j < k → gI m1 a j = y) → (∀ j, k ≤ j → gI m1 a j = gI m a j) → ∀ x : Int32, x = nI k → wJ7_fill_53178_L5 t a y x2 Q (fun m6 => Q m6) (d + 1) x m1 := by
    intro d
    induction d with
    | zero =>
      intro k hk m1 f1 g1 g2 x hx
      have e : k = n := by omega
      subst e
      rw [hx, wJ7_fill_53178_L5, hx2]
      exact ⟨fun _ => hQ m1 f1 g1 g2, fun hh => absurd (nI_le (Nat.le_refl _) (by omega)) hh⟩
    | succ d ih =>
      intro k hk m1 f1 g1 g2 x hx
      rw [hx, wJ7_fill_53178_L5, hx2, hL, nI_cl (by omega)]
      refine ⟨fun hh => absurd hh (nI_ge (by omega) (by omega)), fun _ => ⟨hK, vp_nI (by omega) hn, ?_⟩⟩
      rw [← hx2]
      refine ih (k + 1) (by omega) _ (Fr.pI f1 (by simp)) (fun j hj => ?_) (fun j hj => ?_) _ (nI_1 k)
      · by_cases z : j = k
        · subst z; simp only [gII, and_self, if_true]
        · simp only [gII, z, and_false, if_false]; exact g1 j (by omega)
      · rw [gII, if_neg (by omega)]; exact g2 j (by omega)
  exact key n 0 (by omega) m Fr.rf (fun j h => absurd h (by omega)) (fun j _ => rfl) 0 rfl
theorem Dn_step (hb : b < 2 ^ cN S) (hp : pop b = n) (hbb : b < b') (gap : ∀ q, b < q → q < b' → q < 2 ^ cN S → pop q ≠ n) : ∀ q, (Dn S n b q ∨ q = b) ↔ Dn S n b' q := by
  intro q
  unfold Dn
  constructor
  · rintro (⟨h1, h2⟩ | h)
    · exact ⟨h1, by omega⟩
    · subst h; exact ⟨hb, Or.inr ⟨hp, hbb⟩⟩
  · rintro ⟨h1, h2 | ⟨h2, h3⟩⟩
    · exact Or.inl ⟨h1, Or.inl h2⟩
    · rcases Nat.lt_trichotomy q b with z | z | z
      · exact Or.inl ⟨h1, Or.inr ⟨h2, z⟩⟩
      · exact Or.inr z
      · exact absurd h2 (gap q z h3 h1)
theorem Dn_skip (hbb : b ≤ b') (gap : ∀ q, b ≤ q → q < b' → pop q ≠ n) : ∀ q, Dn S n b q ↔ Dn S n b' q := by
  intro q
  unfold Dn
  constructor
  · rintro ⟨h1, h2⟩; exact ⟨h1, by omega⟩
  · rintro ⟨h1, h2 | ⟨h2, h3⟩⟩
    · exact ⟨h1, Or.inl h2⟩
    · rcases Nat.lt_or_ge q b with z | z
      · exact ⟨h1, Or.inr ⟨h2, z⟩⟩
      · exact absurd h2 (gap q z h3)
theorem Dn_next : ∀ q, Dn S n (2 ^ cN S) q ↔ Dn S (n + 1) 1 q := by
  intro q
  unfold Dn
  constructor
  · rintro ⟨h1, h2⟩; exact ⟨h1, by omega⟩
  · rintro ⟨h1, h2⟩
    refine ⟨h1, ?_⟩
    rcases h2 with h2 | ⟨h2, h3⟩
    · omega
    · have : q = 0 := by omega
      subst this
      rw [pop_0] at h2; omega
theorem Dn_lt (hp : pop b = n) : ∀ q, Dn S n b q → ltk q b := by
  rintro q ⟨_, h⟩
  unfold ltk
  omega
theorem or2 {i r : Nat} (h : r < 2 ^ i) : 2 ^ i ||| r = 2 ^ i + r := by
  have := Nat.two_pow_add_eq_or_of_lt h 1
  rw [Nat.mul_one] at this
  exact this.symm
theorem p2l {i N : Nat} (h : i < N) : 2 ^ i < 2 ^ N := Nat.pow_lt_pow_right (by decide) h
theorem pf_L59 (c : CO t m s S T) {Q : zM → Prop} {K : zM → Prop} (hK : ∀ m2, Fr pT m m2 → gI m2 48 1 = 1 → PvD S (Dn S 1 (2 ^ cN S)) m2 → K m2) : ∀ dd i : Nat, i + dd = cN S → ∀ m1, Fr pT m m1 → gI m1 48 1 = 1 → PvD S (Dn S 1 (2 ^ i)) m1 → ∀ z : Int32, z = nI i → wX2_prepare_L59 t 48 19 (nI (cN S)) Q K (dd + 1) z m1 := by
  have n16 := c.cor.vs.n16
  intro dd
  induction dd with
  | zero =>
    intro i hi m1 f h1 hD z hz
    have e : i = cN S := by omega
    subst e
    rw [hz, wX2_prepare_L59]
    exact ⟨fun _ => hK m1 f h1 hD, fun hh => absurd (nI_le (Nat.le_refl _) (by omega)) hh⟩
  | succ dd ih =>
    intro i hi m1 f h1 hD z hz
    have c1 := pT_co c f
    have pi := pop_pow (i := i) (by omega)
    rw [hz, wX2_prepare_L59, nI_shl1 (by omega)]
    refine ⟨fun hh => absurd hh (nI_ge (by omega) (by omega)), fun _ => ⟨lk48 c.cor.lay, sp_proveBy c1 (p2l (by omega)) hD (Dn_lt pi) (fun m2 f2 g2 D2 => ih (i + 1) (by omega) m2 (f.tr f2) (g2.trans h1) (D2.mono (Dn_step (p2l (by omega)) pi (p2l (by omega)) (fun q q1 q2 _ => ?_))) _ (nI_1 i))⟩⟩
    have := pop_btw (by omega) q1 q2
    omega
theorem pf_L88 (c : CO t m s S T) {i : Nat} (hi : i < cN S) {Q : zM → Prop} {K : zM → Prop} {y : Int32} (hK : ∀ m2, Fr pT m m2 → gI m2 48 1 = 1 → PvD S (Dn S 2 (2 ^ (i + 1))) m2 → K m2) : ∀ dd j : Nat, j + dd = i → ∀ m1, Fr pT m m1 → gI m1 48 1 = 1 → PvD S (Dn S 2 (2 ^ i + 2 ^ j)) m1 → ∀ z : Int32, z = nI j → wX2_prepare_L88 t 48 19 y (nI i) Q K (dd + 1) z m1 := by
  have n16 := c.cor.vs.n16
  intro dd
  induction dd with
  | zero =>
    intro j hj m1 f h1 hD z hz
    have e : j = i := by omega
    subst e
    rw [hz, wX2_prepare_L88]
    refine ⟨fun _ => hK m1 f h1 ?_, fun hh => absurd (nI_le (Nat.le_refl _) (by omega)) hh⟩
    rw [Nat.pow_succ, Nat.mul_two]; exact hD
  | succ dd ih =>
    intro j hj m1 f h1 hD z hz
    have c1 := pT_co c f
    have jl := p2l (show j < i by omega)
    have jl2 := pw_lt (show j < i by omega)
    have il := pw_lt hi
    have pi : pop (2 ^ i + 2 ^ j) = 2 := by rw [pop_add jl (by omega), pop_pow (by omega)]
    rw [hz, wX2_prepare_L88, nI_shl1 (by omega), nI_shl1 (by omega), fa_or, or2 jl]
    refine ⟨fun hh => absurd hh (nI_ge (by omega) (by omega)), fun _ => ⟨lk48 c.cor.lay, sp_proveBy c1 (by omega) hD (Dn_lt pi) (fun m2 f2 g2 D2 => ih (j + 1) (by omega) m2 (f.tr f2) (g2.trans h1) (D2.mono (Dn_step (by omega) pi (by have := p2l (show j < j + 1 by omega); omega) (fun q q1 q2 _ => ?_))) _ (nI_1 j))⟩⟩
    have e : q = 2 ^ i + (q - 2 ^ i) := by omega
    have := pop_btw (i := j) (q := q - 2 ^ i) (by omega) (by omega) (by omega)
    rw [Nat.pow_succ] at q2
    rw [e, pop_add (by omega) (by omega)]
    omega
theorem pf_L80 (c : CO t m s S T) {Q : zM → Prop} {K : zM → Prop} (hK : ∀ m2, Fr pT m m2 → gI m2 48 1 = 1 → PvD S (Dn S 2 (2 ^ cN S)) m2 → K m2) : ∀ dd i : Nat, i + dd = cN S → ∀ m1, Fr pT m m1 → gI m1 48 1 = 1 → PvD S (Dn S 2 (2 ^ i)) m1 → ∀ z : Int32, z = nI i → wX2_prepare_L80 t 48 19 (nI (cN S)) Q K (dd + 1) z m1 := by
  have n16 := c.cor.vs.n16
  intro dd
  induction dd with
  | zero =>
    intro i hi m1 f h1 hD z hz
    have e : i = cN S := by omega
    subst e
    rw [hz, wX2_prepare_L80]
    exact ⟨fun _ => hK m1 f h1 hD, fun hh => absurd (nI_le (Nat.le_refl _) (by omega)) hh⟩
  | succ dd ih =>
    intro i hi m1 f h1 hD z hz
    have c1 := pT_co c f
    rw [hz, wX2_prepare_L80]
    refine ⟨fun hh => absurd hh (nI_ge (by omega) (by omega)), fun _ => ⟨i + 1, pf_L88 c1 (by omega) (fun m2 f2 g2 D2 => ih (i + 1) (by omega) m2 (f.tr f2) g2 D2 _ (nI_1 i)) i 0 (by omega) m1 Fr.rf h1 (hD.mono (Dn_skip (by omega) (fun q q1 q2 => ?_))) 0 rfl⟩⟩
    have : q = 2 ^ i := by omega
    rw [this, pop_pow (by omega)]
    decide
theorem pf_L138 (c : CO t m s S T) {i j : Nat} (hi : i < cN S) (hj : j < i) {Q : zM → Prop} {K : zM → Prop} {y : Int32} (hK : ∀ m2, Fr pT m m2 → gI m2 48 1 = 1 → PvD S (Dn S 3 (2 ^ i + 2 ^ (j + 1))) m2 → K m2) : ∀ dd k : Nat, k + dd = j → ∀ m1, Fr pT m m1 → gI m1 48 1 = 1 → PvD S (Dn S 3 (2 ^ i + (2 ^ j + 2 ^ k))) m1 → ∀ z : Int32, z = nI k → wX2_prepare_L138 t 48 19 y (nI i) (nI j) Q K (dd + 1) z m1 := by
  have n16 := c.cor.vs.n16
  intro dd
  induction dd with
  | zero =>
    intro k hk m1 f h1 hD z hz
    have e : k = j := by omega
    subst e
    rw [hz, wX2_prepare_L138]
    refine ⟨fun _ => hK m1 f h1 ?_, fun hh => absurd (nI_le (Nat.le_refl _) (by omega)) hh⟩
    rw [Nat.pow_succ 2 k, Nat.mul_two]; exact hD
  | succ dd ih =>
    intro k hk m1 f h1 hD z hz
    have c1 := pT_co c f
    have kl := p2l (show k < j by omega)
    have kl2 := pw_lt (show k < j by omega)
    have jl2 := pw_lt hj
    have il := pw_lt hi
    have pi : pop (2 ^ i + (2 ^ j + 2 ^ k)) = 3 := by rw [pop_add (by omega) (by omega), pop_add kl (by omega), pop_pow (by omega)]
    rw [hz, wX2_prepare_L138, nI_shl1 (by omega), nI_shl1 (by omega), nI_shl1 (by omega), fa_or, fa_or, Nat.or_assoc, or2 kl, or2 (show 2 ^ j + 2 ^ k < 2 ^ i by omega)]
    refine ⟨fun hh => absurd hh (nI_ge (by omega) (by omega)), fun _ => ⟨lk48 c.cor.lay, sp_proveBy c1 (by omega) hD (Dn_lt pi) (fun m2 f2 g2 D2 => ih (k + 1) (by omega) m2 (f.tr f2) (g2.trans h1) (D2.mono (Dn_step (by omega) pi (by have := p2l (show k < k + 1 by omega); omega) (fun q q1 q2 _ => ?_))) _ (nI_1 k))⟩⟩
    have e : q = 2 ^ i + (2 ^ j + (q - 2 ^ i - 2 ^ j)) := by omega
    have := pop_btw (i := k) (q := q - 2 ^ i - 2 ^ j) (by omega) (by omega) (by omega)
    rw [Nat.pow_succ 2 k] at q2
    rw [e, pop_add (by omega) (by omega), pop_add (by omega) (by omega)]
    omega
theorem pf_L129 (c : CO t m s S T) {i : Nat} (hi : i < cN S) {Q : zM → Prop} {K : zM → Prop} {y : Int32} (hK : ∀ m2, Fr pT m m2 → gI m2 48 1 = 1 → PvD S (Dn S 3 (2 ^ (i + 1))) m2 → K m2) : ∀ dd j : Nat, j + dd = i → ∀ m1, Fr pT m m1 → gI m1 48 1 = 1 → PvD S (Dn S 3 (2 ^ i + 2 ^ j)) m1 → ∀ z : Int32, z = nI j → wX2_prepare_L129 t 48 19 y (nI i) Q K (dd + 1) z m1 := by
  have n16 := c.cor.vs.n16
  intro dd
  induction dd with
  | zero =>
    intro j hj m1 f h1 hD z hz
    have e : j = i := by omega
    subst e
    rw [hz, wX2_prepare_L129]
    refine ⟨fun _ => hK m1 f h1 ?_, fun hh => absurd (nI_le (Nat.le_refl _) (by omega)) hh⟩
    rw [Nat.pow_succ, Nat.mul_two]; exact hD
  | succ dd ih =>
    intro j hj m1 f h1 hD z hz
    have c1 := pT_co c f
    have jl := p2l (show j < i by omega)
    rw [hz, wX2_prepare_L129]
    refine ⟨fun hh => absurd hh (nI_ge (by omega) (by omega)), fun _ => ⟨j + 1, pf_L138 c1 hi (by omega) (fun m2 f2 g2 D2 => ih (j + 1) (by omega) m2 (f.tr f2) g2 D2 _ (nI_1 j)) j 0 (by omega) m1 Fr.rf h1 (hD.mono (Dn_skip (by omega) (fun q q1 q2 => ?_))) 0 rfl⟩⟩
    have : q = 2 ^ i + 2 ^ j := by omega
    rw [this, pop_add jl (by omega), pop_pow (by omega)]
    decide
theorem pf_L121 (c : CO t m s S T) {Q : zM → Prop} {K : zM → Prop} (hK : ∀ m2, Fr pT m m2 → gI m2 48 1 = 1 → PvD S (Dn S 3 (2 ^ cN S)) m2 → K m2) : ∀ dd i : Nat, i + dd = cN S → ∀ m1, Fr pT m m1 → gI m1 48 1 = 1 → PvD S (Dn S 3 (2 ^ i)) m1 → ∀ z : Int32, z = nI i → wX2_prepare_L121 t 48 19 (nI (cN S)) Q K (dd + 1) z m1 := by
  have n16 := c.cor.vs.n16
  intro dd
  induction dd with
  | zero =>
    intro i hi m1 f h1 hD z hz
    have e : i = cN S := by omega
    subst e
    rw [hz, wX2_prepare_L121]
    exact ⟨fun _ => hK m1 f h1 hD, fun hh => absurd (nI_le (Nat.le_refl _) (by omega)) hh⟩
  | succ dd ih =>
    intro i hi m1 f h1 hD z hz
    have c1 := pT_co c f
    rw [hz, wX2_prepare_L121]
    refine ⟨fun hh => absurd hh (nI_ge (by omega) (by omega)), fun _ => ⟨i + 1, pf_L129 c1 (by omega) (fun m2 f2 g2 D2 => ih (i + 1) (by omega) m2 (f.tr f2) g2 D2 _ (nI_1 i)) i 0 (by omega) m1 Fr.rf h1 (hD.mono (Dn_skip (by omega) (fun q q1 q2 => ?_))) 0 rfl⟩⟩
    have : q = 2 ^ i := by omega
    rw [this, pop_pow (by omega)]
    decide
theorem PvD.end_ (h : PvD S (Dn S 3 (2 ^ cN S)) m) : ∀ k, k < cT S → isPf S k (gI m 51 k) := by
  obtain ⟨op, h1, h2, h3, h4⟩ := h
  have cov : ∀ q, q < 2 ^ cN S → pop q ≤ 3 → Dn S 3 (2 ^ cN S) q := fun q a b => ⟨a, by omega⟩
  intro k hk
  rcases h4 k hk with ⟨a, b, d⟩ | ⟨a, p, p1, p2, p3, p4⟩
  · exact Or.inr ⟨b, fun q q1 q2 => d q (cov q q1 q2)⟩
  · refine Or.inl ⟨p, p2, p1.1, ?_, p3, fun q q1 q2 q3 => p4 q (cov q q1 q2) q3⟩
    have := p1.2
    omega
theorem sp_pprep (c : CO t m s S T) (h : pfOK S m) {Q : zM → Prop} (hQ : ∀ m', Fr pT m m' → gI m' 48 1 = 1 → (∀ k, k < cT S → isPf S k (gI m' 51 k)) → Q m') : wX2_prepare t m 48 19 Q := by
  have L := c.cor.lay
  have v := c.cor.vs
  have t8 := v.t8
  have n16 := v.n16
  have hs := c.cor.sch
  unfold wX2_prepare
  refine ⟨lk48 L, fun h0 => ?_, fun h0 => ?_⟩
  · rw [lr48_3 L]
    refine sp_fillI (lk51 L) (ll51 L) (by decide) (fun m1 f1 g1 _ => ?_)
    have F1 : Fr pT m m1 := (Fr.pI Fr.rf (by decide) : Fr pT m (pI m 48 1 1)).tr (f1.mono (by decide))
    have c1 := pT_co c F1
    have e1 : gI m1 48 1 = 1 := by rw [f1.I (by decide), gII, if_pos ⟨rfl, rfl⟩]
    rw [lr19_0 c1.cor.lay, c1.cor.told, c1.cor.sm.things, all_bits (by omega)]
    refine ⟨lk19 L, lk20 L, ls_k L hs, ?_⟩
    have F2 : Fr pT m (pI m1 48 2 (nI (2 ^ cT S - 1))) := Fr.pI F1 (by decide)
    have c2 := pT_co c F2
    have pl : 2 ^ cT S ≤ 2 ^ 8 := Nat.pow_le_pow_right (by decide) t8
    have D2 : PvD S (fun _ => False) (pI m1 48 2 (nI (2 ^ cT S - 1))) := by
      refine ⟨2 ^ cT S - 1, by omega, by rw [gII, if_pos ⟨rfl, rfl⟩], fun k hk => ?_, fun k hk => Or.inl ⟨?_, ?_, fun q hq => hq.elim⟩⟩
      · rw [Nat.testBit_two_pow_sub_one]; exact decide_eq_false (by omega)
      · rw [Nat.testBit_two_pow_sub_one]; exact decide_eq_true hk
      · rw [gII, if_neg (by omega)]; exact g1 k (by omega)
    refine sp_proveBy (p := 0) c2 (Nat.two_pow_pos _) D2 (fun q hq => hq.elim) (fun m3 f3 g3 D3 => ?_)
    have F3 := F2.tr f3
    have c3 := pT_co c F3
    have e3 : gI m3 48 1 = 1 := by rw [g3, gII, if_neg (by decide)]; exact e1
    rw [lr19_0 c3.cor.lay, c3.cor.told, c3.cor.sm.sayings]
    refine ⟨lk20 L, ls_k L hs, fun y hy => ⟨cN S + 1, ?_⟩⟩
    subst hy
    have D4 : PvD S (Dn S 1 (2 ^ 0)) m3 := D3.mono (fun q => by
      unfold Dn
      constructor
      · rintro (h | h)
        · exact h.elim
        · subst h; exact ⟨Nat.two_pow_pos _, Or.inl (by rw [pop_0]; decide)⟩
      · rintro ⟨h1, h2⟩
        have p16 : 2 ^ cN S ≤ 2 ^ 16 := Nat.pow_le_pow_right (by decide) n16
        rcases h2 with h2 | ⟨h2, h3⟩
        · rcases Nat.eq_zero_or_pos q with z | z
          · exact Or.inr z
          · have := pop_pos z (by omega); omega
        · exact Or.inr (by omega))
    refine pf_L59 c3 (fun m4 f4 e4 D4 => ⟨cN S + 1, ?_⟩) (cN S) 0 (by omega) m3 Fr.rf e3 D4 0 rfl
    have F4 := F3.tr f4
    refine pf_L80 (pT_co c F4) (fun m5 f5 e5 D5 => ⟨cN S + 1, ?_⟩) (cN S) 0 (by omega) m4 Fr.rf e4 (D4.mono Dn_next) 0 rfl
    have F5 := F4.tr f5
    exact pf_L121 (pT_co c F5) (fun m6 f6 e6 D6 => hQ m6 (F5.tr f6) e6 D6.end_) (cN S) 0 (by omega) m5 Fr.rf e5 (D5.mono Dn_next) 0 rfl
  · rcases h with h | ⟨h1, h2⟩
    · exact absurd h h0
    · exact hQ m Fr.rf h1 h2
end
