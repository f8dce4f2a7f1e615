/-! The reference's isPaired, isLawful, isFactual, asks -/
theorem ct_one {p : Nat → Bool} {G : Nat} : fb_ct p G = 1 ↔ ∃ a, a < G ∧ p a = true ∧ ∀ q, q < G → p q = true → q = a := by
  constructor
  · intro h
    obtain ⟨a, ha, hp, _⟩ := fb_ct_kth (p := p) (k := 0) (n := G) (by omega)
    refine ⟨a, ha, hp, fun q hq hpq => ?_⟩
    have u := fb_ct_upd p false ha
    simp only [hp, if_true, Bool.false_eq_true, if_false] at u
    have z : fb_ct (fun k => if k = a then false else p k) G = 0 := by omega
    have := fb_ct_zero.mp z q hq
    by_cases e : q = a
    · exact e
    · simp [e, hpq] at this
  · rintro ⟨a, ha, hp, hall⟩
    have u := fb_ct_upd p false ha
    simp only [hp, if_true, Bool.false_eq_true, if_false] at u
    have z : fb_ct (fun k => if k = a then false else p k) G = 0 := fb_ct_zero.mpr (fun q hq => by
      by_cases e : q = a
      · simp [e]
      · simp only [e, if_false]
        cases hq2 : p q with
        | false => rfl
        | true => exact absurd (hall q hq hq2) e)
    omega
def PairAt (S : Sc) (set w tt : Nat) : Prop := ∀ m1 m2, m1 ≠ m2 → Says S set m1 tt → cKd S m1 ≠ 2 → Says S set m2 tt → cKd S m2 ≠ 2 → (∀ m3, Says S set m3 tt → cKd S m3 ≠ 2 → m3 = m1 ∨ m3 = m2) → (AllR S set w m1 tt true ∧ AllR S set w m2 tt false) ∨ (AllR S set w m1 tt false ∧ AllR S set w m2 tt true)
/-- of the sayings ahead of k, those of a thing by one who isn't blind -/
def inT (S : Sc) (set tt i : Nat) : Prop := set.testBit i = true ∧ cOf S i = tt ∧ cKd S (cBy S i) ≠ 2
section
variable {t : zT} {m m' : zM} {u : Nat} {S : Sc} {T : List Nat} {set lw w N mm k tt : Nat}
theorem pair_end {wh ri wo : Nat} (h17 : ∀ i, set.testBit i = true → i < 17 ∧ i < N) (h6 : ∀ i, set.testBit i = true → cBy S i < 6) (e1 : ∀ q, wh.testBit q = true ↔ ∃ i, i < N ∧ inT S set tt i ∧ cBy S i = q) (e2 : ∀ q, ri.testBit q = true ↔ ∃ i, i < N ∧ inT S set tt i ∧ cBy S i = q ∧ rt S w i = true) (e3 : ∀ q, wo.testBit q = true ↔ ∃ i, i < N ∧ inT S set tt i ∧ cBy S i = q ∧ rt S w i = false) :
    (fb_ct (fun i => wh.testBit i) 32 = 2 → fb_ct (fun i => ri.testBit i) 32 = 1 ∧ fb_ct (fun i => wo.testBit i) 32 = 1) ↔ PairAt S set w tt := by
  have hw : ∀ q, wh.testBit q = true ↔ Says S set q tt ∧ cKd S q ≠ 2 := by
    intro q
    rw [e1]
    constructor
    · rintro ⟨i, h1, ⟨h2, h3, h4⟩, h5⟩
      exact ⟨⟨i, (h17 i h2).1, h2, h5, h3⟩, by rw [← h5]; exact h4⟩
    · rintro ⟨⟨i, h1, h2, h3, h4⟩, h5⟩
      exact ⟨i, (h17 i h2).2, ⟨h2, h4, by rw [h3]; exact h5⟩, h3⟩
  have lt : ∀ q, wh.testBit q = true → q < 32 := by
    intro q hq
    obtain ⟨i, _, h2, h3⟩ := (e1 q).mp hq
    have := h6 i h2.1
    omega
  have rw' : ∀ q, ri.testBit q = true → wh.testBit q = true := fun q hq => by
    obtain ⟨i, h1, h2, h3, _⟩ := (e2 q).mp hq
    exact (e1 q).mpr ⟨i, h1, h2, h3⟩
  have ww' : ∀ q, wo.testBit q = true → wh.testBit q = true := fun q hq => by
    obtain ⟨i, h1, h2, h3, _⟩ := (e3 q).mp hq
    exact (e1 q).mpr ⟨i, h1, h2, h3⟩
  have cov : ∀ q, wh.testBit q = true → ri.testBit q = true ∨ wo.testBit q = true := fun q hq => by
    obtain ⟨i, h1, h2, h3⟩ := (e1 q).mp hq
    cases hr : rt S w i with
    | true => exact Or.inl ((e2 q).mpr ⟨i, h1, h2, h3, hr⟩)
    | false => exact Or.inr ((e3 q).mpr ⟨i, h1, h2, h3, hr⟩)
  have aT : ∀ q, wh.testBit q = true → (¬ wo.testBit q = true ↔ AllR S set w q tt true) := by
    intro q hq
    have hk := ((hw q).mp hq).2
    constructor
    · intro hn i hi hs hb ho
      cases hr : rt S w i with
      | true => rfl
      | false => exact absurd ((e3 q).mpr ⟨i, (h17 i hs).2, ⟨hs, ho, by rw [hb]; exact hk⟩, hb, hr⟩) hn
    · intro ha hn
      obtain ⟨i, h1, h2, h3, h4⟩ := (e3 q).mp hn
      rw [ha i (h17 i h2.1).1 h2.1 h3 h2.2.1] at h4
      cases h4
  have aF : ∀ q, wh.testBit q = true → (¬ ri.testBit q = true ↔ AllR S set w q tt false) := by
    intro q hq
    have hk := ((hw q).mp hq).2
    constructor
    · intro hn i hi hs hb ho
      cases hr : rt S w i with
      | false => rfl
      | true => exact absurd ((e2 q).mpr ⟨i, (h17 i hs).2, ⟨hs, ho, by rw [hb]; exact hk⟩, hb, hr⟩) hn
    · intro ha hn
      obtain ⟨i, h1, h2, h3, h4⟩ := (e2 q).mp hn
      rw [ha i (h17 i h2.1).1 h2.1 h3 h2.2.1] at h4
      cases h4
  -- of just two, what one right and one wrong says
  have core : ∀ a b, a ≠ b → wh.testBit a = true → wh.testBit b = true → (∀ q, wh.testBit q = true → q = a ∨ q = b) → ((fb_ct (fun i => ri.testBit i) 32 = 1 ∧ fb_ct (fun i => wo.testBit i) 32 = 1) ↔ ((AllR S set w a tt true ∧ AllR S set w b tt false) ∨ (AllR S set w a tt false ∧ AllR S set w b tt true))) := by
    intro a b nab wa wb all
    rw [ct_one, ct_one, ← aT a wa, ← aT b wb, ← aF a wa, ← aF b wb]
    constructor
    · rintro ⟨⟨x, x1, x2, x3⟩, ⟨y, y1, y2, y3⟩⟩
      rcases all x (rw' x x2) with rfl | rfl
      · have nb : ¬ ri.testBit b = true := fun q => nab (x3 b (lt b wb) q).symm
        have yb : b = y := y3 b (lt b wb) ((cov b wb).resolve_left nb)
        exact Or.inl ⟨fun q => nab ((y3 x x1 q).trans yb.symm), nb⟩
      · have na : ¬ ri.testBit a = true := fun q => nab (x3 a (lt a wa) q)
        have ya : a = y := y3 a (lt a wa) ((cov a wa).resolve_left na)
        exact Or.inr ⟨na, fun q => nab (ya.trans (y3 x x1 q).symm)⟩
    · rintro (⟨h1, h2⟩ | ⟨h1, h2⟩)
      · exact ⟨⟨a, lt a wa, (cov a wa).resolve_right h1, fun q hq hr => (all q (rw' q hr)).resolve_right (fun e => by subst e; exact h2 hr)⟩, ⟨b, lt b wb, (cov b wb).resolve_left h2, fun q hq hr => (all q (ww' q hr)).resolve_left (fun e => by subst e; exact h1 hr)⟩⟩
      · exact ⟨⟨b, lt b wb, (cov b wb).resolve_right h2, fun q hq hr => (all q (rw' q hr)).resolve_left (fun e => by subst e; exact h1 hr)⟩, ⟨a, lt a wa, (cov a wa).resolve_left h1, fun q hq hr => (all q (ww' q hr)).resolve_right (fun e => by subst e; exact h2 hr)⟩⟩
  constructor
  · intro H m1 m2 hne s1 k1 s2 k2 hex
    have w1 := (hw m1).mpr ⟨s1, k1⟩
    have w2 := (hw m2).mpr ⟨s2, k2⟩
    have all : ∀ q, wh.testBit q = true → q = m1 ∨ q = m2 := fun q hq => hex q ((hw q).mp hq).1 ((hw q).mp hq).2
    refine (core m1 m2 hne w1 w2 all).mp (H ?_)
    rcases Nat.lt_or_ge m1 m2 with x | x
    · exact (ct_two x (lt m2 w2) w1 w2).mpr (fun q _ hq => all q hq)
    · exact (ct_two (show m2 < m1 by omega) (lt m1 w1) w2 w1).mpr (fun q _ hq => (all q hq).symm)
  · intro H h2
    obtain ⟨a, a1, a2, a3⟩ := fb_ct_kth (p := fun i => wh.testBit i) (k := 0) (n := 32) (by omega)
    obtain ⟨b, b1, b2, b3⟩ := fb_ct_kth (p := fun i => wh.testBit i) (k := 1) (n := 32) (by omega)
    have nab : a ≠ b := fun e => by rw [e] at a3; omega
    have all : ∀ q, wh.testBit q = true → q = a ∨ q = b := by
      intro q hq
      rcases Nat.lt_or_ge a b with x | x
      · exact (ct_two x b1 a2 b2).mp h2 q (lt q hq) hq
      · exact ((ct_two (show b < a by omega) a1 b2 a2).mp h2 q (lt q hq) hq).symm
    refine (core a b nab a2 b2 all).mpr (H a b nab ((hw a).mp a2).1 ((hw a).mp a2).2 ((hw b).mp b2).1 ((hw b).mp b2).2 (fun m3 h3 h4 => all m3 ((hw m3).mpr ⟨h3, h4⟩)))
set_option maxHeartbeats 1000000 in
theorem rsp_isPaired (c : RC t m u S) (y : RSy m u S N) (hw : w < cnt S) (hset : ∀ i, set.testBit i = true → i < N) (hN : N ≤ cN S + 1) (hsz : set < 2 ^ 17) (ht : tt < cT S) {Q : Int32 → zM → Prop} (h1 : PairAt S set w tt → Q 1 m) (h0 : ¬ PairAt S set w tt → Q 0 m) : wX12_isPaired t m 75 (nI w) (nI tt) (nI set) Q := by
  have L := c.lay
  have v := c.vs
  have m6 := v.m6
  have n16 := v.n16
  have t8 := v.t8
  have RLc := c.rl
  have n17 := y.le
  unfold wX12_isPaired
  refine ⟨cN S + 2, ?_⟩
  suffices H : ∀ K : Int32 → Int32 → Int32 → zM → Prop, (∀ wh ri wo, wh < 64 → ri < 64 → wo < 64 → (∀ q, wh.testBit q = true ↔ ∃ i, i < cN S + 1 ∧ inT S set tt i ∧ cBy S i = q) → (∀ q, ri.testBit q = true ↔ ∃ i, i < cN S + 1 ∧ inT S set tt i ∧ cBy S i = q ∧ rt S w i = true) → (∀ q, wo.testBit q = true ↔ ∃ i, i < cN S + 1 ∧ inT S set tt i ∧ cBy S i = q ∧ rt S w i = false) → K (nI wh) (nI ri) (nI wo) m) → wX12_isPaired_L12 t 75 (nI w) (nI tt) (nI set) Q K (cN S + 2) 0 0 0 0 m by
    refine H _ (fun wh ri wo l1 l2 l3 e1 e2 e3 => ?_)
    have pe := pair_end (N := cN S + 1) (w := w) (fun i hi => by have := hset i hi; omega) (fun i hi => by have := (y.bd i (hset i hi)).1; omega) e1 e2 e3
    have c1 := fb_ct_le (fun i => wh.testBit i) 32
    have c2 := fb_ct_le (fun i => ri.testBit i) 32
    have c3 := fb_ct_le (fun i => wo.testBit i) 32
    refine rsp_bits (by omega) ⟨fun q1 => rsp_bits (by omega) ⟨fun q2 => rsp_bits (by omega) ⟨fun q3 => h1 (pe.mp (fun _ => ?_)), fun q3 => h0 (fun h => ?_)⟩, fun q2 => h0 (fun h => ?_)⟩, fun q1 => h1 (pe.mp (fun h => ?_))⟩
    · exact ⟨(nI_eq (b := 1) (by omega) (by decide)).mp q2, (nI_eq (b := 1) (by omega) (by decide)).mp q3⟩
    · have := pe.mpr h ((nI_eq (b := 2) (by omega) (by decide)).mp q1)
      exact q3 (by rw [this.2]; rfl)
    · have := pe.mpr h ((nI_eq (b := 2) (by omega) (by decide)).mp q1)
      exact q2 (by rw [this.1]; rfl)
    · exact absurd (by rw [h]; rfl) q1
  intro K hK
  have key : ∀ d k : Nat, k + d = cN S + 1 → ∀ wh ri wo : Nat, wh < 64 → ri < 64 → wo < 64 → (∀ q, wh.testBit q = true ↔ ∃ i, i < k ∧ inT S set tt i ∧ cBy S i = q) → (∀ q, ri.testBit q = true ↔ ∃ i, i < k ∧ inT S set tt i ∧ cBy S i = q ∧ rt S w i = true) → (∀ q, wo.testBit q = true ↔ ∃ i, i < k ∧ inT S set tt i ∧ cBy S i = q ∧ rt S w i = false) → ∀ x z4 z5 z6 : Int32, x = nI k → z4 = nI wh → z5 = nI ri → z6 = nI wo → wX12_isPaired_L12 t 75 (nI w) (nI tt) (nI set) Q K (d + 1) z4 z5 z6 x m := by
    intro d
    induction d with
    | zero =>
      intro k hk wh ri wo l1 l2 l3 e1 e2 e3 x z4 z5 z6 hx h4 h5 h6
      have e : k = cN S + 1 := by omega
      subst e
      rw [hx, h4, h5, h6, wX12_isPaired_L12, c.told, c.sm.sayings]
      exact ⟨lk75 L, RLc.k, fun _ => hK wh ri wo l1 l2 l3 e1 e2 e3, fun hh => absurd (nI_lt (by omega) (by omega)) hh⟩
    | succ d ih =>
      intro k hk wh ri wo l1 l2 l3 e1 e2 e3 x z4 z5 z6 hx h4 h5 h6
      rw [hx, wX12_isPaired_L12, c.told, c.sm.sayings]
      refine ⟨lk75 L, RLc.k, fun hh => absurd hh (nI_nlt (show k ≤ cN S by omega) (by omega)), fun _ => rsp_has (by omega) (by omega) ?_⟩
      have skip : ¬ inT S set tt k → wX12_isPaired_J136 t m 75 (nI w) (nI tt) (nI set) z4 z5 z6 (nI k) Q (wX12_isPaired_L12 t 75 (nI w) (nI tt) (nI set) Q K (d + 1)) := by
        intro hn
        unfold wX12_isPaired_J136
        refine ih (k + 1) (by omega) wh ri wo l1 l2 l3 (fun q => ?_) (fun q => ?_) (fun q => ?_) _ _ _ _ (nI_1 k) h4 h5 h6
        · rw [e1 q]
          constructor
          · rintro ⟨i, q1, q2⟩; exact ⟨i, by omega, q2⟩
          · rintro ⟨i, q1, q2⟩
            rcases (show i < k ∨ i = k by omega) with z | z
            · exact ⟨i, z, q2⟩
            · subst z; exact absurd q2.1 hn
        · rw [e2 q]
          constructor
          · rintro ⟨i, q1, q2⟩; exact ⟨i, by omega, q2⟩
          · rintro ⟨i, q1, q2⟩
            rcases (show i < k ∨ i = k by omega) with z | z
            · exact ⟨i, z, q2⟩
            · subst z; exact absurd q2.1 hn
        · rw [e3 q]
          constructor
          · rintro ⟨i, q1, q2⟩; exact ⟨i, by omega, q2⟩
          · rintro ⟨i, q1, q2⟩
            rcases (show i < k ∨ i = k by omega) with z | z
            · exact ⟨i, z, q2⟩
            · subst z; exact absurd q2.1 hn
      cases hb : set.testBit k with
      | false => exact ⟨fun _ => skip (fun q => by rw [q.1] at hb; cases hb), fun q => absurd rfl q⟩
      | true =>
        have kN := hset k hb
        obtain ⟨b1, b2, b3⟩ := y.bd k kN
        obtain ⟨f1, f2, f3⟩ := y.tab k kN
        have v1 : vp_in (nI k) 17 := vp_nI (by omega) (by decide)
        have v2 : vp_in (nI (cBy S k)) 6 := vp_nI (by omega) (by decide)
        have kd4 := v.kd _ b1
        refine ⟨fun q => absurd q (by decide), fun _ => ?_⟩
        simp only [c.told, RLc.k, RLc.r1, RLc.k1, RLc.l1, RLc.r2, RLc.k2, RLc.l2, RLc.r3, RLc.k3, RLc.l3, RLc.r4, RLc.k4, RLc.l4, RLc.r5, RLc.k5, RLc.l5, RLc.r6, RLc.k6, RLc.l6, RLc.r7, RLc.k7, RLc.l7, RLc.r8, RLc.k8, RLc.l8, RLc.r9, RLc.k9, RLc.l9, RLc.r10, RLc.k10, RLc.l10, RLc.r11, RLc.k11, RLc.l11, RLc.r12, RLc.k12, RLc.l12, RLc.r13, RLc.k13, RLc.l13, RLc.r14, RLc.k14, RLc.l14, nI_cl (show k < 2 ^ 31 by omega), f1, f2, nI_cl (show cBy S k < 2 ^ 31 by omega), c.sm.kind _ b1, nI_eq (show cOf S k < 2 ^ 31 by omega) (show tt < 2 ^ 31 by omega), true_and]
        have e22 : nI (cKd S (cBy S k)) = 2 ↔ cKd S (cBy S k) = 2 := nI_eq (b := 2) (by omega) (by decide)
        rw [e22]
        refine ⟨v1, fun ho => ⟨v1, v2, fun hk2 => skip (fun q => q.2.2 hk2), fun hk2 x16 h16 => rsp_isRight c y hw kN ?_⟩, fun ho => skip (fun q => ho q.2.1)⟩
        have hin : inT S set tt k := ⟨hb, ho, hk2⟩
        have pl : 2 ^ cBy S k < 2 ^ 6 := Nat.pow_lt_pow_right (by decide) (by omega)
        have sh : (1 : Int32) <<< (nI (cBy S k) &&& 31) = nI (2 ^ cBy S k) := nI_shl1 (by omega)
        have up : ∀ (X : Nat) (p : Nat → Prop), (p k) → (∀ q, X.testBit q = true ↔ ∃ i, i < k ∧ inT S set tt i ∧ cBy S i = q ∧ p i) → ∀ q, (X ||| 2 ^ cBy S k).testBit q = true ↔ ∃ i, i < k + 1 ∧ inT S set tt i ∧ cBy S i = q ∧ p i := by
          intro X p hp hX q
          rw [Nat.testBit_or, Bool.or_eq_true, hX q, Nat.testBit_two_pow, decide_eq_true_eq]
          constructor
          · rintro (⟨i, q1, q2⟩ | z)
            · exact ⟨i, by omega, q2⟩
            · exact ⟨k, by omega, hin, z, hp⟩
          · rintro ⟨i, q1, q2⟩
            rcases (show i < k ∨ i = k by omega) with z | z
            · exact Or.inl ⟨i, z, q2⟩
            · subst z; exact Or.inr q2.2.1
        have st : ∀ (X : Nat) (p : Nat → Prop), ¬ p k → (∀ q, X.testBit q = true ↔ ∃ i, i < k ∧ inT S set tt i ∧ cBy S i = q ∧ p i) → ∀ q, X.testBit q = true ↔ ∃ i, i < k + 1 ∧ inT S set tt i ∧ cBy S i = q ∧ p i := by
          intro X p hp hX q
          rw [hX q]
          constructor
          · rintro ⟨i, q1, q2⟩; exact ⟨i, by omega, q2⟩
          · rintro ⟨i, q1, q2⟩
            rcases (show i < k ∨ i = k by omega) with z | z
            · exact ⟨i, z, q2⟩
            · subst z; exact absurd q2.2.2 hp
        have e1' : ∀ q, (wh ||| 2 ^ cBy S k).testBit q = true ↔ ∃ i, i < k + 1 ∧ inT S set tt i ∧ cBy S i = q := by
          intro q
          have := up wh (fun _ => True) trivial (fun q => by rw [e1 q]; simp) q
          rw [this]; simp
        simp only [c.told, RLc.k, RLc.r1, RLc.k1, RLc.l1, RLc.r2, RLc.k2, RLc.l2, RLc.r3, RLc.k3, RLc.l3, RLc.r4, RLc.k4, RLc.l4, RLc.r5, RLc.k5, RLc.l5, RLc.r6, RLc.k6, RLc.l6, RLc.r7, RLc.k7, RLc.l7, RLc.r8, RLc.k8, RLc.l8, RLc.r9, RLc.k9, RLc.l9, RLc.r10, RLc.k10, RLc.l10, RLc.r11, RLc.k11, RLc.l11, RLc.r12, RLc.k12, RLc.l12, RLc.r13, RLc.k13, RLc.l13, RLc.r14, RLc.k14, RLc.l14, nI_cl (show k < 2 ^ 31 by omega), f1, sh, true_and]
        unfold wX12_isPaired_J136
        have w16 : x16 = nI (wh ||| 2 ^ cBy S k) := by rw [h16, h4, sh, fa_or]
        have lw1 : wh ||| 2 ^ cBy S k < 64 := Nat.or_lt_two_pow (n := 6) l1 pl
        cases hr : rt S w k with
        | false =>
          refine ⟨fun _ => ⟨v1, fun x23 h23 => ih (k + 1) (by omega) (wh ||| 2 ^ cBy S k) ri (wo ||| 2 ^ cBy S k) lw1 l2 (Nat.or_lt_two_pow (n := 6) l3 pl) e1' (st ri _ (by rw [hr]; decide) e2) (up wo _ hr e3) _ _ _ _ (nI_1 k) w16 h5 (by rw [h23, h6, fa_or])⟩, fun q => absurd rfl q⟩
        | true =>
          refine ⟨fun q => absurd q (by decide), fun _ => ⟨v1, fun x27 h27 => ih (k + 1) (by omega) (wh ||| 2 ^ cBy S k) (ri ||| 2 ^ cBy S k) wo lw1 (Nat.or_lt_two_pow (n := 6) l2 pl) l3 e1' (up ri _ hr e2) (st wo _ (by rw [hr]; decide) e3) _ _ _ _ (nI_1 k) w16 (by rw [h27, h5, fa_or]) h6⟩⟩
  exact key (cN S + 1) 0 (by omega) 0 0 0 (by decide) (by decide) (by decide) (fun q => by simp) (fun q => by simp) (fun q => by simp) 0 0 0 0 rfl rfl rfl rfl
theorem rsp_isLawful (c : RC t m u S) (y : RSy m u S N) (hw : w < cnt S) (hset : ∀ i, set.testBit i = true → i < N) (hN : N ≤ cN S + 1) (hsz : set < 2 ^ 17) (hlw : lw.testBit 1 = true → (cLw S).testBit 1 = true) {Q : Int32 → zM → Prop} (hQ : Q (bI (LfB S set lw w)) m) : wX12_isLawful t m 75 (nI w) (nI set) (nI lw) Q := by
  have L := c.lay
  have v := c.vs
  have m6 := v.m6
  have t8 := v.t8
  have RLc := c.rl
  have n17 := y.le
  have h1 : Lf S set lw w → Q 1 m := fun h => by rw [LfB_iff.mpr h] at hQ; exact hQ
  have h0 : ¬ Lf S set lw w → Q 0 m := fun h => by
    have : LfB S set lw w = false := by
      cases hb : LfB S set lw w with
      | false => rfl
      | true => exact absurd (LfB_iff.mp hb) h
    rw [this] at hQ; exact hQ
  unfold wX12_isLawful
  refine ⟨lk75 L, rsp_isFollowed c hw (fun hf => ⟨fun q => absurd q (by decide), fun _ => ⟨cM S + 1, ?_⟩⟩) (fun hf => ⟨fun _ => h0 (fun h => hf h.1), fun q => absurd rfl q⟩)⟩
  have key : ∀ d k : Nat, k + d = cM S → (∀ q, q < k → cKd S q ≠ 2 → LM S set lw w q) → ∀ x : Int32, x = nI k → wX12_isLawful_L13 t 75 (nI w) (nI set) (nI lw) Q (fun m14 => ∃ n23, wX12_isLawful_L62 t 75 (nI w) (nI set) (nI lw) Q (fun m22 => Q 1 m22) n23 0 m14) (d + 1) x m := by
    intro d
    induction d with
    | zero =>
      intro k hk g x hx
      have e : k = cM S := by omega
      subst e
      rw [hx, wX12_isLawful_L13, c.told, c.sm.masters]
      refine ⟨lk75 L, RLc.k, fun _ => ⟨cT S + 1, ?_⟩, fun hh => absurd (nI_le (Nat.le_refl _) (by omega)) hh⟩
      have hK : LfK S set lw w := by
        intro i hi hs
        have b := (y.bd i (hset i hs)).1
        by_cases z : cKd S (cBy S i) = 2
        · refine ⟨fun q => by omega, fun j hj => ⟨fun q => by omega, fun q => by omega⟩⟩
        · exact (g _ b z).1 i hi ⟨hs, rfl⟩
      have hWr : LfW S set lw w := fun hl mm hm hk => (g mm hm (by omega)).2 hk hl
      have fin : LfP S set lw w → Q 1 m := fun hp => h1 ⟨hf, hK, hp, hWr⟩
      have key2 : ∀ d k : Nat, k + d = cT S → (∀ q, q < k → PairAt S set w q) → ∀ x : Int32, x = nI k → wX12_isLawful_L62 t 75 (nI w) (nI set) (nI lw) Q (fun m22 => Q 1 m22) (d + 1) x m := by
        intro d
        induction d with
        | zero =>
          intro k hk g2 x hx
          have e : k = cT S := by omega
          subst e
          rw [hx, wX12_isLawful_L62, c.told, c.sm.things]
          exact ⟨lk75 L, RLc.k, fun _ => fin (fun _ tt htt => g2 tt htt), fun hh => absurd (nI_le (Nat.le_refl _) (by omega)) hh⟩
        | succ d ih =>
          intro k hk g2 x hx
          rw [hx, wX12_isLawful_L62, c.told, c.sm.things, nI_mask0]
          refine ⟨lk75 L, RLc.k, fun hh => absurd hh (nI_ge (by omega) (by omega)), fun _ => ⟨fun hl => fin (fun hl2 => by rw [hl] at hl2; cases hl2), fun hl => rsp_isPaired c y hw hset hN hsz (by omega) (fun hp => ⟨fun q => absurd q (by decide), fun _ => ih (k + 1) (by omega) (fun q hq => ?_) _ (nI_1 k)⟩) (fun hp => ⟨fun _ => h0 (fun h => hp (h.2.2.1 (ts_false hl) k (by omega))), fun q => absurd rfl q⟩)⟩⟩
          rcases (show q < k ∨ q = k by omega) with z | z
          · exact g2 q z
          · subst z; exact hp
      exact key2 (cT S) 0 (by omega) (fun q hq => absurd hq (by omega)) 0 rfl
    | succ d ih =>
      intro k hk g x hx
      have hk1 : k < cM S := by omega
      have kd4 := v.kd k hk1
      rw [hx, wX12_isLawful_L13, c.told, c.sm.masters]
      simp only [RLc.k, RLc.r1, RLc.k1, RLc.l1, RLc.r2, RLc.k2, RLc.l2, RLc.r3, RLc.k3, RLc.l3, RLc.r4, RLc.k4, RLc.l4, RLc.r5, RLc.k5, RLc.l5, RLc.r6, RLc.k6, RLc.l6, RLc.r7, RLc.k7, RLc.l7, RLc.r8, RLc.k8, RLc.l8, RLc.r9, RLc.k9, RLc.l9, RLc.r10, RLc.k10, RLc.l10, RLc.r11, RLc.k11, RLc.l11, RLc.r12, RLc.k12, RLc.l12, RLc.r13, RLc.k13, RLc.l13, RLc.r14, RLc.k14, RLc.l14, nI_cl (show k < 2 ^ 31 by omega), c.sm.kind k hk1, true_and]
      have e22 : nI (cKd S k) = 2 ↔ cKd S k = 2 := nI_eq (b := 2) (by omega) (by decide)
      rw [e22]
      unfold wX12_isLawful_J53
      refine ⟨lk75 L, fun hh => absurd hh (nI_ge (by omega) (by omega)), fun _ => ⟨vp_nI (by omega) (by decide), fun h2 => ih (k + 1) (by omega) (fun q hq hq2 => ?_) _ (nI_1 k), fun h2 => rsp_isLawfulMaster c y hw hset hN hsz hlw hk1 (fun hm => ⟨fun q => absurd q (by decide), fun _ => ih (k + 1) (by omega) (fun q hq hq2 => ?_) _ (nI_1 k)⟩) (fun hm => ⟨fun _ => h0 (fun h => hm ?_), fun q => absurd rfl q⟩)⟩⟩
      · rcases (show q < k ∨ q = k by omega) with z | z
        · exact g q z hq2
        · subst z; exact absurd h2 hq2
      · rcases (show q < k ∨ q = k by omega) with z | z
        · exact g q z hq2
        · subst z; exact hm
      · refine ⟨fun i hi hin => ?_, fun h4 h5 => h.2.2.2 h5 k hk1 h4⟩
        have := h.2.1 i hi hin.1
        rw [hin.2] at this
        exact this
  exact key (cM S) 0 (by omega) (fun q hq => absurd hq (by omega)) 0 rfl
/-- a fact: 0 none, a + 1 the answer a -/
def fcI (x : Nat) : Int32 := if x = 0 then -2 else nI (x - 1)
def FacB (S : Sc) (Fc : Nat → Nat) (w : Nat) : Bool := (List.range (cT S)).all fun k => (Fc k == 0) || (Fc k == ans S w k + 1)
theorem FacB_iff {Fc : Nat → Nat} : FacB S Fc w = true ↔ ∀ k, k < cT S → Fc k = 0 ∨ Fc k = ans S w k + 1 := by
  simp only [FacB, List.all_eq_true, List.mem_range, Bool.or_eq_true, beq_iff_eq]
theorem rsp_isFactual (c : RC t m u S) (hw : w < cnt S) {Fc : Nat → Nat} (hF : ∀ k, k < cT S → gI m 82 k = fcI (Fc k) ∧ Fc k ≤ 4) {Q : Int32 → zM → Prop} (hQ : Q (bI (FacB S Fc w)) m) : wX12_isFactual t m 75 (nI w) Q := by
  have L := c.lay
  have v := c.vs
  have t8 := v.t8
  have RLc := c.rl
  unfold wX12_isFactual
  refine ⟨cT S + 1, ?_⟩
  have key : ∀ d k : Nat, k + d = cT S → (∀ q, q < k → Fc q = 0 ∨ Fc q = ans S w q + 1) → ∀ x : Int32, x = nI k → wX12_isFactual_L2 t 75 (nI w) Q (fun m10 => Q 1 m10) (d + 1) x m := by
    intro d
    induction d with
    | zero =>
      intro k hk g x hx
      have e : k = cT S := by omega
      subst e
      rw [FacB_iff.mpr g] at hQ
      rw [hx, wX12_isFactual_L2, c.told, c.sm.things]
      exact ⟨lk75 L, RLc.k, fun _ => hQ, fun hh => absurd (nI_le (Nat.le_refl _) (by omega)) hh⟩
    | succ d ih =>
      intro k hk g x hx
      have hk1 : k < cT S := by omega
      have a4 := ans_4 v (w := w) hk1
      obtain ⟨f1, f2⟩ := hF k hk1
      rw [hx, wX12_isFactual_L2, c.told, c.sm.things, lr75_26 L, lk82 L, ll82 L, nI_cl (by omega), f1]
      have e1 : fcI (Fc k) = -2 ↔ Fc k = 0 := by
        unfold fcI
        by_cases z : Fc k = 0
        · simp [z]
        · rw [if_neg z]
          rcases (show Fc k = 1 ∨ Fc k = 2 ∨ Fc k = 3 ∨ Fc k = 4 by omega) with q | q | q | q <;> rw [q] <;> decide
      unfold wX12_isFactual_J41
      refine ⟨lk75 L, RLc.k, fun hh => absurd hh (nI_ge (by omega) (by omega)), fun _ => ⟨rfl, vp_nI (by omega) (by decide), fun h2 => ih (k + 1) (by omega) (fun q hq => ?_) _ (nI_1 k), fun h2 => rsp_answerOf c hw hk1 ?_⟩⟩
      · rcases (show q < k ∨ q = k by omega) with z | z
        · exact g q z
        · subst z; exact Or.inl (e1.mp h2)
      · have nz : ¬ Fc k = 0 := fun q => h2 (e1.mpr q)
        have e2 : fcI (Fc k) = nI (ans S w k) ↔ Fc k = ans S w k + 1 := by
          unfold fcI
          rw [if_neg nz, nI_eq (by omega) (by omega)]
          omega
        rw [e2]
        refine ⟨fun h3 => ih (k + 1) (by omega) (fun q hq => ?_) _ (nI_1 k), fun h3 => ?_⟩
        · rcases (show q < k ∨ q = k by omega) with z | z
          · exact g q z
          · subst z; exact Or.inr h3
        · have : FacB S Fc w = false := by
            cases hb : FacB S Fc w with
            | false => rfl
            | true => rcases FacB_iff.mp hb k hk1 with q | q
                      · exact absurd q nz
                      · exact absurd q h3
          rw [this] at hQ; exact hQ
  exact key (cT S) 0 (by omega) (fun q hq => absurd hq (by omega)) 0 rfl
end
