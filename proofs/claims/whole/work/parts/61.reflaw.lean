/-! The reference's isLawful -/
def bI (b : Bool) : Int32 := if b then 1 else 0
theorem bI_1 {b : Bool} : bI b = 1 ↔ b = true := by cases b <;> decide
theorem bI_0 {b : Bool} : bI b = 0 ↔ b = false := by cases b <;> decide
theorem bI_e {a b : Bool} : bI a = bI b ↔ a = b := by cases a <;> cases b <;> decide
theorem bI_m {b : Bool} : ¬ bI b = -1 := by cases b <;> decide
def inS (S : Sc) (set mm i : Nat) : Prop := set.testBit i = true ∧ cBy S i = mm
def LMk (S : Sc) (set lw w mm i : Nat) : Prop := (cKd S mm = 1 → rt S w i = false) ∧ ∀ j, Prev S set i j → (cKd S mm = 3 → rt S w i = !rt S w j) ∧ (cKd S mm = 0 → lw.testBit 2 = true → (rt S w i || rt S w j) = true)
def LM (S : Sc) (set lw w mm : Nat) : Prop := (∀ i, i < 17 → inS S set mm i → LMk S set lw w mm i) ∧ (cKd S mm = 0 → lw.testBit 1 = true → fb_ct (wrg S set w mm) 8 ≤ cWr S)
def LastP (S : Sc) (set w mm k : Nat) (x : Int32) : Prop := (x = -1 ∧ ∀ i, i < k → ¬ inS S set mm i) ∨ ∃ j, j < k ∧ inS S set mm j ∧ (∀ l, j < l → l < k → ¬ inS S set mm l) ∧ x = bI (rt S w j)
section
variable {t : zT} {m m' : zM} {u : Nat} {S : Sc} {T : List Nat} {set lw w N mm k : Nat}
theorem lm_iff {x : Int32} (hl : LastP S set w mm k x) (hk : inS S set mm k) : LMk S set lw w mm k ↔ ¬ (cKd S mm = 1 ∧ rt S w k = true) ∧ ¬ (cKd S mm = 3 ∧ bI (rt S w k) = x) ∧ ¬ (cKd S mm = 0 ∧ lw.testBit 2 = true ∧ rt S w k = false ∧ x = 0) := by
  unfold LMk
  rcases hl with ⟨hx, hn⟩ | ⟨j, hj, hi, hb, hx⟩
  · subst hx
    constructor
    · rintro ⟨a, _⟩
      refine ⟨fun q => ?_, fun q => bI_m q.2, fun q => absurd q.2.2.2 (by decide)⟩
      rw [a q.1] at q; cases q.2
    · rintro ⟨a, _, _⟩
      refine ⟨fun q => ?_, fun j hj => ?_⟩
      · cases hr : rt S w k with
        | false => rfl
        | true => exact absurd ⟨q, hr⟩ a
      · exact absurd ⟨hj.2.1, hj.2.2.1.trans hk.2⟩ (hn j hj.1)
  · subst hx
    have P : Prev S set k j := ⟨hj, hi.1, hi.2.trans hk.2.symm, fun l h1 h2 h3 h4 => hb l h1 h2 ⟨h3, h4.trans hk.2⟩⟩
    have U : ∀ j', Prev S set k j' → j' = j := by
      intro j' h'
      rcases Nat.lt_trichotomy j' j with q | q | q
      · exact absurd (hi.2.trans hk.2.symm) (h'.2.2.2 j q hj hi.1)
      · exact q
      · exact absurd ⟨h'.2.1, h'.2.2.1.trans hk.2⟩ (hb j' q h'.1)
    constructor
    · rintro ⟨a, b⟩
      have b := b j P
      refine ⟨fun q => ?_, fun q => ?_, fun q => ?_⟩
      · rw [a q.1] at q; cases q.2
      · have h1 := b.1 q.1
        have h2 := bI_e.mp q.2
        rw [h2] at h1
        cases hr : rt S w j <;> rw [hr] at h1 <;> cases h1
      · have h1 := b.2 q.1 q.2.1
        rw [q.2.2.1, bI_0.mp q.2.2.2] at h1
        cases h1
    · rintro ⟨a, b, c⟩
      refine ⟨fun q => ?_, fun j' h' => ?_⟩
      · cases hr : rt S w k with
        | false => rfl
        | true => exact absurd ⟨q, hr⟩ a
      · rw [U j' h']
        refine ⟨fun q => ?_, fun q1 q2 => ?_⟩
        · cases hr : rt S w k <;> cases hs : rt S w j
          · exact absurd ⟨q, by rw [hr, hs]⟩ b
          · rfl
          · rfl
          · exact absurd ⟨q, by rw [hr, hs]⟩ b
        · cases hr : rt S w k <;> cases hs : rt S w j
          · exact absurd ⟨q1, q2, hr, by rw [hs]; rfl⟩ c
          · rfl
          · rfl
          · rfl
set_option maxHeartbeats 1000000 in
theorem rsp_isLawfulMaster (c : RC t m u S) (y : RSy m u S N) (hw : w < cnt S) (hset : ∀ i, set.testBit i = true → i < N) (hN : N ≤ cN S + 1) (hsz : set < 2 ^ 17) (hlw : lw.testBit 1 = true → (cLw S).testBit 1 = true) (hm : mm < cM S) {Q : Int32 → zM → Prop} (h1 : LM S set lw w mm → Q 1 m) (h0 : ¬ LM S set lw w mm → Q 0 m) : wX12_isLawfulMaster t m 75 (nI w) (nI mm) (nI set) (nI lw) Q := by
  have L := c.lay
  have v := c.vs
  have m6 := v.m6
  have n16 := v.n16
  have t8 := v.t8
  have RLc := c.rl
  have kd := v.kd mm hm
  have ekd := c.sm.kind mm hm
  unfold wX12_isLawfulMaster
  simp only [c.told, RLc.k, RLc.r1, RLc.k1, RLc.l1, RLc.r2, RLc.k2, RLc.l2, RLc.r3, RLc.k3, RLc.l3, RLc.r4, RLc.k4, RLc.l4, RLc.r5, RLc.k5, RLc.l5, RLc.r6, RLc.k6, RLc.l6, RLc.r7, RLc.k7, RLc.l7, RLc.r8, RLc.k8, RLc.l8, RLc.r9, RLc.k9, RLc.l9, RLc.r10, RLc.k10, RLc.l10, RLc.r11, RLc.k11, RLc.l11, RLc.r12, RLc.k12, RLc.l12, RLc.r13, RLc.k13, RLc.l13, RLc.r14, RLc.k14, RLc.l14, nI_cl (show mm < 2 ^ 31 by omega), ekd, true_and]
  refine ⟨lk75 L, vp_nI (by omega) (by decide), fun x5 hx5 => ⟨cN S + 2, ?_⟩⟩
  have k0 : x5 = 0 ↔ cKd S mm = 0 := by rw [hx5]; exact nI_eq (b := 0) (by omega) (by decide)
  have k1 : x5 = 1 ↔ cKd S mm = 1 := by rw [hx5]; exact nI_eq (b := 1) (by omega) (by decide)
  have k3 : x5 = 3 ↔ cKd S mm = 3 := by rw [hx5]; exact nI_eq (b := 3) (by omega) (by decide)
  have l4 : nI lw &&& (4 : Int32) = 0 ↔ lw.testBit 2 = false := nI_mask2
  have l2 : nI lw &&& (2 : Int32) = 0 ↔ lw.testBit 1 = false := nI_mask1
  suffices H : ∀ K : Int32 → zM → Prop, (∀ wr, wr < 256 → (∀ tt, wr.testBit tt = true ↔ ∃ i, i < cN S + 1 ∧ inS S set mm i ∧ cOf S i = tt ∧ rt S w i = false) → (∀ i, i < 17 → inS S set mm i → LMk S set lw w mm i) → K (nI wr) m) → wX12_isLawfulMaster_L20 t 75 (nI w) (nI mm) (nI set) (nI lw) x5 Q K (cN S + 2) (-1) 0 0 m by
    refine H _ (fun wr g2 g3 all => ?_)
    rw [k0, l2]
    refine ⟨fun q => ⟨fun ql => h1 ⟨all, fun _ ql2 => by rw [ql] at ql2; cases ql2⟩, fun ql => ?_⟩, fun q => h1 ⟨all, fun q2 => absurd q2 q⟩⟩
    have ql := ts_false ql
    refine rsp_bits (by omega) ?_
    rw [c.told, c.sm.wrong, wrI, if_pos (hlw ql)]
    have w8 := v.wr (hlw ql)
    have ec : fb_ct (fun i => wr.testBit i) 32 = fb_ct (wrg S set w mm) 8 := by
      have sp := fb_ct_split (fun i => wr.testBit i) 8 24
      rw [show (32 : Nat) = 8 + 24 from rfl, sp, fb_ct_cong (q := wrg S set w mm) (fun tt htt => ?_), Nat.add_eq_left]
      · exact fb_ct_zero.mpr (fun q hq => Nat.testBit_lt_two_pow (Nat.lt_of_lt_of_le g2 (show 2 ^ 8 ≤ 2 ^ (8 + q) from Nat.pow_le_pow_right (by decide) (by omega))))
      · rw [← bt_iff, g3 tt, wrg_iff]
        constructor
        · rintro ⟨i, q1, q2, q3, q4⟩
          exact ⟨i, by omega, q2.1, q2.2, q3, q4⟩
        · rintro ⟨i, q1, q2, q3, q4, q5⟩
          exact ⟨i, by have := hset i q2; omega, ⟨q2, q3⟩, q4, q5⟩
    rw [ec]
    have c8 := fb_ct_le (wrg S set w mm) 8
    rw [nI_ltI (by omega) (by omega)]
    exact ⟨RLc.k, fun hlt => h0 (fun h => absurd (h.2 q ql) (by omega)), fun hlt => h1 ⟨all, fun _ _ => by omega⟩⟩
  intro K hK
  have key : ∀ d k : Nat, k + d = cN S + 1 → ∀ (z6 : Int32) (wr : Nat), LastP S set w mm k z6 → wr < 256 → (∀ tt, wr.testBit tt = true ↔ ∃ i, i < k ∧ inS S set mm i ∧ cOf S i = tt ∧ rt S w i = false) → (∀ i, i < k → inS S set mm i → LMk S set lw w mm i) → ∀ x z7 : Int32, x = nI k → z7 = nI wr → wX12_isLawfulMaster_L20 t 75 (nI w) (nI mm) (nI set) (nI lw) x5 Q K (d + 1) z6 z7 x m := by
    intro d
    induction d with
    | zero =>
      intro k hk z6 wr g1 g2 g3 g4 x z7 hx hz7
      have e : k = cN S + 1 := by omega
      have all : ∀ i, i < 17 → inS S set mm i → LMk S set lw w mm i := fun i _ hi => g4 i (by have := hset i hi.1; omega) hi
      rw [hx, wX12_isLawfulMaster_L20, c.told, c.sm.sayings]
      refine ⟨lk75 L, RLc.k, fun _ => ?_, fun hh => absurd (nI_lt (show cN S < k by omega) (by omega)) hh⟩
      rw [hz7]
      exact hK wr g2 (by rw [← e]; exact g3) all
    | succ d ih =>
      intro k hk z6 wr g1 g2 g3 g4 x z7 hx hz7
      rw [hx, wX12_isLawfulMaster_L20, c.told, c.sm.sayings]
      refine ⟨lk75 L, RLc.k, fun hh => absurd hh (nI_nlt (show k ≤ cN S by omega) (by omega)), fun _ => rsp_has (by omega) (by omega) ?_⟩
      -- those that are passed over
      have skip : ¬ inS S set mm k → wX12_isLawfulMaster_J152 t m 75 (nI w) (nI mm) (nI set) (nI lw) x5 z6 z7 (nI k) Q (wX12_isLawfulMaster_L20 t 75 (nI w) (nI mm) (nI set) (nI lw) x5 Q K (d + 1)) := by
        intro hn
        unfold wX12_isLawfulMaster_J152
        refine ih (k + 1) (by omega) z6 wr ?_ g2 (fun tt => ?_) (fun i hi hin => ?_) _ _ (nI_1 k) hz7
        · rcases g1 with ⟨q1, q2⟩ | ⟨j, q1, q2, q3, q4⟩
          · exact Or.inl ⟨q1, fun i hi hin => by
              rcases (show i < k ∨ i = k by omega) with q | q
              · exact q2 i q hin
              · subst q; exact hn hin⟩
          · exact Or.inr ⟨j, by omega, q2, fun l h1 h2 hin => by
              rcases (show l < k ∨ l = k by omega) with q | q
              · exact q3 l h1 q hin
              · subst q; exact hn hin, q4⟩
        · rw [g3 tt]
          constructor
          · rintro ⟨i, q1, q2⟩; exact ⟨i, by omega, q2⟩
          · rintro ⟨i, q1, q2⟩
            rcases (show i < k ∨ i = k by omega) with q | q
            · exact ⟨i, q, q2⟩
            · subst q; exact absurd q2.1 hn
        · rcases (show i < k ∨ i = k by omega) with q | q
          · exact g4 i q hin
          · subst q; exact absurd hin hn
      cases hb : set.testBit k with
      | false =>
        refine ⟨fun _ => skip (fun q => by rw [q.1] at hb; cases hb), fun q => absurd rfl q⟩
      | true =>
        have kN := hset k hb
        obtain ⟨b1, b2, b3⟩ := y.bd k kN
        obtain ⟨e1, e2, e3⟩ := y.tab k kN
        have n17 := y.le
        have v1 : vp_in (nI k) 17 := vp_nI (by omega) (by decide)
        refine ⟨fun q => absurd q (by decide), fun _ => ?_⟩
        simp only [c.told, RLc.k, RLc.r1, RLc.k1, RLc.l1, RLc.r2, RLc.k2, RLc.l2, RLc.r3, RLc.k3, RLc.l3, RLc.r4, RLc.k4, RLc.l4, RLc.r5, RLc.k5, RLc.l5, RLc.r6, RLc.k6, RLc.l6, RLc.r7, RLc.k7, RLc.l7, RLc.r8, RLc.k8, RLc.l8, RLc.r9, RLc.k9, RLc.l9, RLc.r10, RLc.k10, RLc.l10, RLc.r11, RLc.k11, RLc.l11, RLc.r12, RLc.k12, RLc.l12, RLc.r13, RLc.k13, RLc.l13, RLc.r14, RLc.k14, RLc.l14, nI_cl (show k < 2 ^ 31 by omega), e1, nI_eq (show cBy S k < 2 ^ 31 by omega) (show mm < 2 ^ 31 by omega), true_and]
        refine ⟨v1, fun hby => rsp_isRight c y hw kN ?_, fun hby => skip (fun q => hby q.2)⟩
        have hin : inS S set mm k := ⟨hb, hby⟩
        have lm := lm_iff (lw := lw) g1 hin
        have bad : ¬ LMk S set lw w mm k → Q 0 m := fun q => h0 (fun h => q (h.1 k (by omega) hin))
        have go : ∀ s0 : Int32, s0 = bI (rt S w k) → wX12_isLawfulMaster_J73 t m 75 (nI w) (nI mm) (nI set) (nI lw) x5 z6 z7 (nI k) s0 Q (wX12_isLawfulMaster_L20 t 75 (nI w) (nI mm) (nI set) (nI lw) x5 Q K (d + 1)) := by
          intro s0 hs0
          have fin : LMk S set lw w mm k → wX12_isLawfulMaster_J126 t m 75 (nI w) (nI mm) (nI set) (nI lw) x5 z7 (nI k) s0 Q (wX12_isLawfulMaster_L20 t 75 (nI w) (nI mm) (nI set) (nI lw) x5 Q K (d + 1)) := by
            intro hok
            have ok2 : ∀ i, i < k + 1 → inS S set mm i → LMk S set lw w mm i := fun i hi q => by
              rcases (show i < k ∨ i = k by omega) with z | z
              · exact g4 i z q
              · subst z; exact hok
            have la2 : LastP S set w mm (k + 1) s0 := Or.inr ⟨k, by omega, hin, fun l q1 q2 => absurd q1 (by omega), hs0⟩
            unfold wX12_isLawfulMaster_J126 wX12_isLawfulMaster_J148 wX12_isLawfulMaster_J152
            simp only [c.told, RLc.k, RLc.r1, RLc.k1, RLc.l1, RLc.r2, RLc.k2, RLc.l2, RLc.r3, RLc.k3, RLc.l3, RLc.r4, RLc.k4, RLc.l4, RLc.r5, RLc.k5, RLc.l5, RLc.r6, RLc.k6, RLc.l6, RLc.r7, RLc.k7, RLc.l7, RLc.r8, RLc.k8, RLc.l8, RLc.r9, RLc.k9, RLc.l9, RLc.r10, RLc.k10, RLc.l10, RLc.r11, RLc.k11, RLc.l11, RLc.r12, RLc.k12, RLc.l12, RLc.r13, RLc.k13, RLc.l13, RLc.r14, RLc.k14, RLc.l14, nI_cl (show k < 2 ^ 31 by omega), e2, true_and]
            rw [hs0, bI_0]
            refine ⟨fun hr => ⟨lk75 L, v1, fun x27 h27 => ?_⟩, fun hr => ?_⟩
            · rw [← hs0]
              refine ih (k + 1) (by omega) s0 (wr ||| 2 ^ cOf S k) la2 (Nat.or_lt_two_pow (n := 8) g2 (Nat.pow_lt_pow_right (by decide) (by omega))) (fun tt => ?_) ok2 _ _ (nI_1 k) ?_
              · rw [Nat.testBit_or, Bool.or_eq_true, g3 tt, Nat.testBit_two_pow, decide_eq_true_eq]
                constructor
                · rintro (⟨i, q1, q2⟩ | q)
                  · exact ⟨i, by omega, q2⟩
                  · exact ⟨k, by omega, hin, q, hr⟩
                · rintro ⟨i, q1, q2⟩
                  rcases (show i < k ∨ i = k by omega) with z | z
                  · exact Or.inl ⟨i, z, q2⟩
                  · subst z; exact Or.inr q2.2.1
              · rw [h27, hz7, nI_shl1 (by omega), fa_or]
            · rw [← hs0]
              refine ih (k + 1) (by omega) s0 wr la2 g2 (fun tt => ?_) ok2 _ _ (nI_1 k) hz7
              rw [g3 tt]
              constructor
              · rintro ⟨i, q1, q2⟩; exact ⟨i, by omega, q2⟩
              · rintro ⟨i, q1, q2⟩
                rcases (show i < k ∨ i = k by omega) with z | z
                · exact ⟨i, z, q2⟩
                · subst z; exact absurd q2.2.2 hr
          unfold wX12_isLawfulMaster_J73 wX12_isLawfulMaster_J87 wX12_isLawfulMaster_J102
          rw [k0, k1, k3, l4]
          have s1 : s0 = 1 ↔ rt S w k = true := by rw [hs0, bI_1]
          have s00 : s0 = 0 ↔ rt S w k = false := by rw [hs0, bI_0]
          rw [s1, s00]
          have C1 : cKd S mm = 1 ∧ rt S w k = true → ¬ LMk S set lw w mm k := fun q h => (lm.mp h).1 q
          have C2 : cKd S mm = 3 ∧ s0 = z6 → ¬ LMk S set lw w mm k := fun q h => (lm.mp h).2.1 ⟨q.1, by rw [← hs0]; exact q.2⟩
          have C3 : cKd S mm = 0 ∧ lw.testBit 2 = true ∧ rt S w k = false ∧ z6 = 0 → ¬ LMk S set lw w mm k := fun q h => (lm.mp h).2.2 q
          have OK : ¬ (cKd S mm = 1 ∧ rt S w k = true) → ¬ (cKd S mm = 3 ∧ s0 = z6) → ¬ (cKd S mm = 0 ∧ lw.testBit 2 = true ∧ rt S w k = false ∧ z6 = 0) → LMk S set lw w mm k := fun q1 q2 q3 => lm.mpr ⟨q1, fun q => q2 ⟨q.1, by rw [hs0]; exact q.2⟩, q3⟩
          refine ⟨fun z1 => ⟨fun z2 => bad (C1 ⟨z1, z2⟩), fun z2 => ⟨fun z3 => absurd (z1.symm.trans z3) (by decide), fun z3 => ⟨fun z4 => absurd (z1.symm.trans z4) (by decide), fun z4 => fin (OK (fun q => z2 q.2) (fun q => z3 q.1) (fun q => z4 q.1))⟩⟩⟩, fun z1 => ⟨fun z3 => ⟨fun z4 => bad (C2 ⟨z3, z4⟩), fun z4 => ⟨fun z5 => absurd (z3.symm.trans z5) (by decide), fun z5 => fin (OK (fun q => z1 q.1) (fun q => z4 q.2) (fun q => z5 q.1))⟩⟩, fun z3 => ⟨fun z5 => ⟨fun z6a => fin (OK (fun q => z1 q.1) (fun q => z3 q.1) (fun q => by rw [z6a] at q; cases q.2.1)), fun z6a => ⟨fun z7a => ⟨fun z8 => bad (C3 ⟨z5, ts_false z6a, z7a, z8⟩), fun z8 => fin (OK (fun q => z1 q.1) (fun q => z3 q.1) (fun q => z8 q.2.2.2))⟩, fun z7a => fin (OK (fun q => z1 q.1) (fun q => z3 q.1) (fun q => z7a q.2.2.1))⟩⟩, fun z5 => fin (OK (fun q => z1 q.1) (fun q => z3 q.1) (fun q => z5 q.1))⟩⟩⟩
        cases hr : rt S w k with
        | false => exact ⟨fun _ => go 0 (by rw [hr]; rfl), fun q => absurd rfl q⟩
        | true => exact ⟨fun q => absurd q (by decide), fun _ => go 1 (by rw [hr]; rfl)⟩
  exact key (cN S + 1) 0 (by omega) (-1) 0 (Or.inl ⟨rfl, fun i hi => absurd hi (by omega)⟩) (by decide) (fun tt => by simp) (fun i hi => absurd hi (by omega)) 0 0 rfl rfl
end
