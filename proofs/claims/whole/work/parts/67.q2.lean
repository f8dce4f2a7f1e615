/-! Queries: culprit, wrongs -/
section
variable {t : zT} {m m' m1 m2 : zM} {s u r : Nat} {S : Sc} {T : Ts} {P : Nat → Bool} {x x2 x3 : Int32}
theorem two_bits {n : Nat} (hn : n < 29) : ((2 : Int32) <<< (nI n &&& 31)) - (1 : Int32) = nI (2 ^ (n + 1) - 1) := by
  have a : nI n &&& (31 : Int32) = nI n := by
    rw [pk_andN (by omega) 5 (by decide), Nat.mod_eq_of_lt (by omega)]
  have hs : ((nI n).toBitVec.smod 32).toNat = n := by
    rcases (show n = 0 ∨ n = 1 ∨ n = 2 ∨ n = 3 ∨ n = 4 ∨ n = 5 ∨ n = 6 ∨ n = 7 ∨ n = 8 ∨ n = 9 ∨ n = 10 ∨ n = 11 ∨ n = 12 ∨ n = 13 ∨ n = 14 ∨ n = 15 ∨ n = 16 ∨ n = 17 ∨ n = 18 ∨ n = 19 ∨ n = 20 ∨ n = 21 ∨ n = 22 ∨ n = 23 ∨ n = 24 ∨ n = 25 ∨ n = 26 ∨ n = 27 ∨ n = 28 by omega) with h | h | h | h | h | h | h | h | h | h | h | h | h | h | h | h | h | h | h | h | h | h | h | h | h | h | h | h | h <;> subst h <;> decide
  have l : 2 * 2 ^ n < 2 ^ 32 := by
    have : 2 ^ n ≤ 2 ^ 28 := Nat.pow_le_pow_right (by decide) (by omega)
    omega
  rw [a, show (2 : Int32) = nI 2 from rfl, pk_shlN (nI n) n hs l, show (1 : Int32) = nI 1 from rfl, pk_sub (by have := Nat.one_le_two_pow (n := n); omega), Nat.pow_succ, Nat.mul_comm]
theorem pre_tb {n i : Nat} : (2 ^ n - 1).testBit i = true → i < n := by
  rw [Nat.testBit_two_pow_sub_one]
  exact of_decide_eq_true
theorem pre_lt {n : Nat} (h : n ≤ 17) : 2 ^ n - 1 < 2 ^ 17 := by
  have : 2 ^ n ≤ 2 ^ 17 := Nat.pow_le_pow_right (by decide) h
  omega
/-- the scratch row after a judgement -/
theorem cx_judge (c : CO t m s S T) {N set lw : Nat} {S' : Sc} (q : QF m m1) (c1 : Cor t m1 s S') (hy : SayM m1 s S' N) (hset : ∀ i, set.testBit i = true → i < N) (hsz : set < 2 ^ 17) (hlw : lw.testBit 1 = true → (cLw S').testBit 1 = true) {Q : zM → Prop} (hQ : ∀ m2, QF m1 m2 → RowM m2 70 S' (LfB S' set lw) → Q m2) : wX0_judge t m1 19 (nI set) (nI lw) 70 Q :=
  sp_judge c1.lay c1.sch (Or.inr (Or.inr (Or.inl rfl))) c1.vs c1.told c1.sm hy c1.way hset hsz hlw (fun m2 f R => hQ m2 (QF.rf.of f (by decide)) R)
theorem rsp_anyLawful (d : RO t m u S T) {set : Nat} (hset : ∀ i, set.testBit i = true → i < cN S) (hsz : set < 2 ^ 17) {Q : Int32 → zM → Prop} (h1 : 0 < mny S (LfB S set (cLw S)) → Q 1 m) (h0 : mny S (LfB S set (cLw S)) = 0 → Q 0 m) : wX12_isAnyLawful t m 75 (nI set) Q := by
  have v := d.rc.vs
  have hc := v.cnt
  have L := d.rc.lay
  unfold wX12_isAnyLawful
  refine ⟨cnt S + 1, ?_⟩
  have key : ∀ dd k : Nat, k + dd = cnt S → (∀ w, w < k → LfB S set (cLw S) w = false) → ∀ z : Int32, z = nI k → wX12_isAnyLawful_L2 t 75 (nI set) Q (fun m7 => Q 0 m7) (dd + 1) z m := by
    intro dd
    induction dd with
    | zero =>
      intro k hk g z hz
      have e : k = cnt S := by omega
      subst e
      rw [hz, wX12_isAnyLawful_L2, d.rc.told, d.rc.sm.ways]
      exact ⟨lk75 L, d.rc.rl.k, fun _ => h0 (fb_ct_zero.mpr g), fun hh => absurd (nI_le (Nat.le_refl _) (by omega)) hh⟩
    | succ dd ih =>
      intro k hk g z hz
      rw [hz, wX12_isAnyLawful_L2, d.rc.told, d.rc.sm.ways, d.rc.sm.laws]
      refine ⟨lk75 L, d.rc.rl.k, fun hh => absurd hh (nI_ge (by omega) (by omega)), fun _ => rsp_isLawful d.rc d.sy (by omega) hset (by omega) hsz (fun h => h) ?_⟩
      rw [bI_0]
      refine ⟨fun hb => ih (k + 1) (by omega) (fun w hw => ?_) _ (nI_1 k), fun hb => h1 (fb_ct_pos.mpr ⟨k, by omega, ts_false hb⟩)⟩
      rcases (show w < k ∨ w = k by omega) with q | q
      · exact g w q
      · subst q; exact hb
  exact key (cnt S) 0 (by omega) (fun w hw => absurd hw (by omega)) 0 rfl
theorem call_culprit (c : CO t m s S T) (d : RO t m u S T) : wX9_culprit t m 1 (fun r m1 => wX12_culprit t m1 75 (fun r2 m2 => Fin m m2 r r2)) := by
  have L := c.cor.lay
  have v := c.cor.vs
  have hc := v.cnt
  have n16 := v.n16
  -- the reference, from what is known of the first saying
  have refs : ∀ m1, QF m m1 → gI m1 1 14 = 0 → ∀ r1 : Int32, ((∃ i, i < cN S ∧ r1 = nI i ∧ mny S (LfB S (2 ^ (i + 1) - 1) (cLw S)) = 0 ∧ ∀ j, j < i → 0 < mny S (LfB S (2 ^ (j + 1) - 1) (cLw S))) ∨ (r1 = -2 ∧ ∀ j, j < cN S → 0 < mny S (LfB S (2 ^ (j + 1) - 1) (cLw S)))) → wX12_culprit t m1 75 (fun r2 m2 => Fin m m2 r1 r2) := by
    intro m1 q1 hw r1 hr
    have d1 := d.c q1
    have d2 := d1.q (thr _)
    unfold wX12_culprit
    refine ⟨lk75 L, fun h => absurd h (u_ne d1), fun _ => ⟨cN S + 1, ?_⟩⟩
    have key : ∀ dd k : Nat, k + dd = cN S → (∀ j, j < k → 0 < mny S (LfB S (2 ^ (j + 1) - 1) (cLw S))) → ∀ z : Int32, z = nI k → wX12_culprit_L20 t 75 (fun r2 m2 => Fin m m2 r1 r2) (fun m13 => wX12_good t m13 75 (-2) (fun r14 m15 => Fin m m15 r1 r14)) (dd + 1) z (pI m1 75 0 0) := by
      intro dd
      induction dd with
      | zero =>
        intro k hk g z hz
        have e : k = cN S := by omega
        subst e
        rw [hz, wX12_culprit_L20, d2.rc.told, d2.rc.sm.sayings]
        refine ⟨lk75 L, d2.rc.rl.k, fun _ => fin_good L ?_ q1 hw (thr _), fun hh => absurd (nI_le (Nat.le_refl _) (by omega)) hh⟩
        rcases hr with ⟨i, h1, h2, h3, h4⟩ | ⟨h1, h2⟩
        · have := g i h1; omega
        · exact h1
      | succ dd ih =>
        intro k hk g z hz
        rw [hz, wX12_culprit_L20, d2.rc.told, d2.rc.sm.sayings, two_bits (by omega)]
        refine ⟨lk75 L, d2.rc.rl.k, fun hh => absurd hh (nI_ge (by omega) (by omega)), fun _ => rsp_anyLawful d2 (fun i hi => by have := pre_tb hi; omega) (pre_lt (by omega)) (fun hp => ⟨fun h => absurd h (by decide), fun _ => ih (k + 1) (by omega) (fun j hj => ?_) _ (nI_1 k)⟩) (fun h0 => ⟨fun _ => fin_good L ?_ q1 hw (thr _), fun h => absurd rfl h⟩)⟩
        · rcases (show j < k ∨ j = k by omega) with q | q
          · exact g j q
          · subst q; exact hp
        · rcases hr with ⟨i, h1, h2, h3, h4⟩ | ⟨h1, h2⟩
          · rw [h2]
            rcases Nat.lt_trichotomy i k with q | q | q
            · have := g i q; omega
            · rw [q]
            · have := h4 k q; omega
          · have := h2 k (by omega); omega
    exact key (cN S) 0 (by omega) (fun j hj => absurd hj (by omega)) 0 rfl
  unfold wX9_culprit
  refine ⟨lk1 L, cx_isOpen c ⟨fun h => absurd h (by decide), fun _ => ⟨cN S + 1, ?_⟩⟩⟩
  have key : ∀ dd k : Nat, k + dd = cN S → ∀ m1, QF m m1 → (∀ j, j < k → 0 < mny S (LfB S (2 ^ (j + 1) - 1) (cLw S))) → ∀ z : Int32, z = nI k → wX9_culprit_L15 t 1 (fun r m1 => wX12_culprit t m1 75 (fun r2 m2 => Fin m m2 r r2)) (fun m15 => wX9_accept t m15 1 (-2) (fun r16 m17 => wX12_culprit t m17 75 (fun r2 m2 => Fin m m2 r16 r2))) (dd + 1) z m1 := by
    intro dd
    induction dd with
    | zero =>
      intro k hk m1 q1 g z hz
      have e : k = cN S := by omega
      subst e
      have c1 := c.q q1
      rw [hz, wX9_culprit_L15, c1.x3, c1.cor.sm.sayings]
      exact ⟨lk1 L, ls_k L c.cor.sch, fun _ => cx_accept L (refs _ (q1.why 0) (w14 _ 0) _ (Or.inr ⟨rfl, g⟩)), fun hh => absurd (nI_le (Nat.le_refl _) (by omega)) hh⟩
    | succ dd ih =>
      intro k hk m1 q1 g z hz
      have c1 := c.q q1
      have L1 := c1.cor.lay
      rw [hz, wX9_culprit_L15, c1.x3, c1.cor.sm.sayings, lr1_1 L1, lr1_9 L1, c1.cor.sm.laws, two_bits (by omega)]
      refine ⟨lk1 L, ls_k L c.cor.sch, fun hh => absurd hh (nI_ge (by omega) (by omega)), fun _ => ⟨lk19 L, cx_judge c q1 c1.cor c1.cor.say (fun i hi => by have := pre_tb hi; omega) (pre_lt (by omega)) (fun h => h) (fun m3 q3 R => ?_)⟩⟩
      have c3 := c1.q q3
      have ml := mny_le (S := S) (LfB S (2 ^ (k + 1) - 1) (cLw S))
      have e : nI (fb_ct (LfB S (2 ^ (k + 1) - 1) (cLw S)) (cnt S)) = 0 ↔ mny S (LfB S (2 ^ (k + 1) - 1) (cLw S)) = 0 := nI_small v ml
      rw [lr1_9 c3.cor.lay, R.members, e]
      refine ⟨lk70 L, fun h0 => cx_accept L (refs _ ((q1.tr q3).why 0) (w14 _ 0) _ (Or.inl ⟨k, by omega, rfl, h0, g⟩)), fun h0 => ih (k + 1) (by omega) m3 (q1.tr q3) (fun j hj => ?_) _ (nI_1 k)⟩
      rcases (show j < k ∨ j = k by omega) with q | q
      · exact g j q
      · subst q; omega
  exact key (cN S) 0 (by omega) m QF.rf (fun j hj => absurd hj (by omega)) 0 rfl
/-- in how many things a master is wrong -/
def wn (S : Sc) (mm w : Nat) : Nat := fb_ct (wrg S (allS S) w mm) 8
theorem wrg_all (v : Vs S) {w mm tt : Nat} : wrg S (allS S) w mm tt = true ↔ ∃ k, k < cN S ∧ cBy S k = mm ∧ cOf S k = tt ∧ rt S w k = false := by
  rw [wrg_iff]
  have n16 := v.n16
  constructor
  · rintro ⟨i, h1, h2, h3⟩; exact ⟨i, allS_tb h2, h3⟩
  · rintro ⟨i, h1, h3⟩
    refine ⟨i, by omega, ?_, h3⟩
    unfold allS
    rw [Nat.testBit_two_pow_sub_one]
    exact decide_eq_true h1
theorem wn_ct (v : Vs S) {w mm : Nat} : wn S mm w = fb_ct (wrg S (allS S) w mm) (cT S) := by
  have t8 := v.t8
  unfold wn
  have e := fb_ct_split (wrg S (allS S) w mm) (cT S) (8 - cT S)
  rw [show cT S + (8 - cT S) = 8 by omega] at e
  rw [e, Nat.add_eq_left]
  refine fb_ct_zero.mpr (fun k hk => ?_)
  cases hb : wrg S (allS S) w mm (cT S + k) with
  | false => rfl
  | true =>
    obtain ⟨i, h1, h2, h3, h4⟩ := (wrg_all v).mp hb
    have := (v.say i h1).2.1
    omega
theorem sp_tallyWrongs (c : CO t m s S T) {mm W : Nat} (hm : mm < cM S) (hW : W < wds S) {Q : zM → Prop} (hQ : ∀ m', Fr [73] m m' → (∀ i, i < 64 → tv m' 73 i ≤ 8) → (∀ i, i < 64 → 64 * W + i < cnt S → tv m' 73 i = wn S mm (64 * W + i)) → Q m') : wX9_tallyWrongs t m 1 (nI mm) (nI W) Q := by
  have L := c.cor.lay
  have v := c.cor.vs
  have t8 := v.t8
  have m6 := v.m6
  unfold wX9_tallyWrongs
  rw [lr1_10 L]
  refine ⟨lk1 L, lk72 L, sp_tclear (lk72 L) (lr72_0 L) (lk73 L) (ll73 L) (fun m1 f1 g1 => ⟨cT S + 1, ?_⟩)⟩
  have key : ∀ dd k : Nat, k + dd = cT S → ∀ m2, Fr [73] m m2 → (∀ i, i < 64 → tv m2 73 i ≤ k) → (∀ i, i < 64 → 64 * W + i < cnt S → tv m2 73 i = fb_ct (wrg S (allS S) (64 * W + i) mm) k) → ∀ z : Int32, z = nI k → wX9_tallyWrongs_L9 t 1 (nI mm) (nI W) Q (fun m14 => Q m14) (dd + 1) z m2 := by
    intro dd
    induction dd with
    | zero =>
      intro k hk m2 f2 h1 h2 z hz
      have e : k = cT S := by omega
      subst e
      have c2 := c.q (QF.rf.of f2 (by decide))
      rw [hz, wX9_tallyWrongs_L9, c2.x3, c2.cor.sm.things]
      exact ⟨lk1 L, ls_k L c.cor.sch, fun _ => hQ m2 f2 (fun i hi => by have := h1 i hi; omega) (fun i hi hc => by rw [h2 i hi hc, wn_ct v]), fun hh => absurd (nI_le (Nat.le_refl _) (by omega)) hh⟩
    | succ dd ih =>
      intro k hk m2 f2 h1 h2 z hz
      have c2 := c.q (QF.rf.of f2 (by decide))
      have L2 := c2.cor.lay
      rw [hz, wX9_tallyWrongs_L9, c2.x3, c2.cor.sm.things, lr1_2 L2, lr1_10 L2]
      refine ⟨lk1 L, ls_k L c.cor.sch, fun hh => absurd hh (nI_ge (by omega) (by omega)), fun _ => ⟨lk20 L, sp_allRightWord c2.cor (by omega) (by omega) hW (fun y hy => ⟨lk72 L, sp_tadd (lk72 L) (lr72_0 L2) (lk73 L) (ll73 L) (fun i hi => by have := h1 i hi; omega) (fun m3 f3 g3 => ih (k + 1) (by omega) m3 (f2.tr f3) (fun i hi => ?_) (fun i hi hc => ?_) _ (nI_1 k))⟩)⟩⟩
      · rw [g3 i hi]
        have := h1 i hi
        split <;> omega
      · rw [g3 i hi, h2 i hi hc, fb_ct_succ, bw_not _ hi]
        have e : (!bw y i) = wrg S (allS S) (64 * W + i) mm k := by
          rw [← bt_iff, wrg_all v]
          have := hy i hi hc
          cases hb : bw y i with
          | true =>
            rw [hb] at this
            have a := this.mp rfl
            constructor
            · intro q; cases q
            · rintro ⟨j, j1, j2, j3, j4⟩
              rw [a j j1 j2 j3] at j4; cases j4
          | false =>
            rw [hb] at this
            refine ⟨fun _ => ?_, fun _ => rfl⟩
            refine Classical.byContradiction fun hn => ?_
            have : false = true := this.mpr (fun j j1 j2 j3 => by
              cases hr : rt S (64 * W + i) j with
              | true => rfl
              | false => exact absurd ⟨j, j1, j2, j3, hr⟩ hn)
            cases this
        rw [e]
  exact key (cT S) 0 (by omega) m1 (f1.mono (by decide)) (fun i hi => by rw [g1 i]; exact Nat.le_refl _) (fun i hi _ => by rw [g1 i]; rfl) 0 rfl
theorem rsp_wrongThings (d : RO t m u S T) {mm w : Nat} (hm : mm < cM S) (hw : w < cnt S) {Q : Int32 → zM → Prop} (hQ : Q (nI (wn S mm w)) m) : wX12_wrongThings t m 75 (nI w) (nI mm) Q := by
  have v := d.rc.vs
  have L := d.rc.lay
  have RLc := d.rc.rl
  have n16 := v.n16
  have m6 := v.m6
  have t8 := v.t8
  unfold wX12_wrongThings
  refine ⟨cN S + 1, ?_⟩
  have key : ∀ dd k : Nat, k + dd = cN S → ∀ X : Nat, X < 256 → (∀ q, X.testBit q = true ↔ ∃ i, i < k ∧ cBy S i = mm ∧ cOf S i = q ∧ rt S w i = false) → ∀ z z3 : Int32, z = nI k → z3 = nI X → wX12_wrongThings_L5 t 75 (nI w) (nI mm) Q (fun v14 m15 => wX12_bits t m15 v14 (fun r16 m17 => Q r16 m17)) (dd + 1) z3 z m := by
    intro dd
    induction dd with
    | zero =>
      intro k hk X hX g z z3 hz hz3
      have e : k = cN S := by omega
      subst e
      rw [hz, hz3, wX12_wrongThings_L5, d.rc.told, d.rc.sm.sayings]
      refine ⟨lk75 L, RLc.k, fun _ => rsp_bits (by omega) ?_, fun hh => absurd (nI_le (Nat.le_refl _) (by omega)) hh⟩
      have ec : fb_ct (fun i => X.testBit i) 32 = wn S mm w := by
        have sp := fb_ct_split (fun i => X.testBit i) 8 24
        rw [show (32 : Nat) = 8 + 24 from rfl, sp, fb_ct_cong (q := wrg S (allS S) w mm) (fun tt htt => ?_), wn, Nat.add_eq_left]
        · exact fb_ct_zero.mpr (fun q hq => Nat.testBit_lt_two_pow (Nat.lt_of_lt_of_le hX (show 2 ^ 8 ≤ 2 ^ (8 + q) from Nat.pow_le_pow_right (by decide) (by omega))))
        · rw [← bt_iff, g tt, wrg_all v]
      rw [ec]; exact hQ
    | succ dd ih =>
      intro k hk X hX g z z3 hz hz3
      have hk1 : k < cN S := by omega
      obtain ⟨b1, b2, b3⟩ := v.say k hk1
      obtain ⟨e1, e2, e3⟩ := d.sy.tab k hk1
      have v1 : vp_in (nI k) 17 := vp_nI (by omega) (by decide)
      rw [hz, hz3, wX12_wrongThings_L5, d.rc.told, d.rc.sm.sayings]
      simp only [RLc.k, RLc.r1, RLc.k1, RLc.l1, RLc.r2, RLc.k2, RLc.l2, RLc.r3, RLc.k3, RLc.l3, RLc.r4, RLc.k4, RLc.l4, RLc.r5, RLc.k5, RLc.l5, RLc.r6, RLc.k6, RLc.l6, RLc.r7, RLc.k7, RLc.l7, RLc.r8, RLc.k8, RLc.l8, RLc.r9, RLc.k9, RLc.l9, RLc.r10, RLc.k10, RLc.l10, RLc.r11, RLc.k11, RLc.l11, RLc.r12, RLc.k12, RLc.l12, RLc.r13, RLc.k13, RLc.l13, RLc.r14, RLc.k14, RLc.l14, nI_cl (show k < 2 ^ 31 by omega), e1, nI_eq (show cBy S k < 2 ^ 31 by omega) (show mm < 2 ^ 31 by omega), true_and]
      have keep : ¬ (cBy S k = mm ∧ rt S w k = false) → ∀ q, X.testBit q = true ↔ ∃ i, i < k + 1 ∧ cBy S i = mm ∧ cOf S i = q ∧ rt S w i = false := by
        intro hn q
        rw [g q]
        constructor
        · rintro ⟨i, h1, h2⟩; exact ⟨i, by omega, h2⟩
        · rintro ⟨i, h1, h2⟩
          rcases (show i < k ∨ i = k by omega) with h | h
          · exact ⟨i, h, h2⟩
          · subst h; exact absurd ⟨h2.1, h2.2.2⟩ hn
      unfold wX12_wrongThings_J56
      refine ⟨lk75 L, fun hh => absurd hh (nI_ge (by omega) (by omega)), fun _ => ⟨v1, fun hb => rsp_isRight d.rc d.sy hw hk1 ?_, fun hb => ih (k + 1) (by omega) X hX (keep (fun q => hb q.1)) _ _ (nI_1 k) rfl⟩⟩
      simp only [d.rc.told, RLc.k, RLc.r1, RLc.k1, RLc.l1, RLc.r2, RLc.k2, RLc.l2, RLc.r3, RLc.k3, RLc.l3, RLc.r4, RLc.k4, RLc.l4, RLc.r5, RLc.k5, RLc.l5, RLc.r6, RLc.k6, RLc.l6, RLc.r7, RLc.k7, RLc.l7, RLc.r8, RLc.k8, RLc.l8, RLc.r9, RLc.k9, RLc.l9, RLc.r10, RLc.k10, RLc.l10, RLc.r11, RLc.k11, RLc.l11, RLc.r12, RLc.k12, RLc.l12, RLc.r13, RLc.k13, RLc.l13, RLc.r14, RLc.k14, RLc.l14, nI_cl (show k < 2 ^ 31 by omega), e2, true_and]
      cases hr : rt S w k with
      | true => exact ⟨fun h => absurd h (by decide), fun _ => ih (k + 1) (by omega) X hX (keep (fun q => by rw [hr] at q; cases q.2)) _ _ (nI_1 k) rfl⟩
      | false =>
        refine ⟨fun _ => ⟨v1, fun x13 h13 => ih (k + 1) (by omega) (X ||| 2 ^ cOf S k) (Nat.or_lt_two_pow (n := 8) hX (Nat.pow_lt_pow_right (by decide) (by omega))) (fun q => ?_) _ _ (nI_1 k) (by rw [h13, nI_shl1 (by omega), fa_or])⟩, fun h => absurd rfl h⟩
        rw [Nat.testBit_or, Bool.or_eq_true, g q, Nat.testBit_two_pow, decide_eq_true_eq]
        constructor
        · rintro (⟨i, h1, h2⟩ | h)
          · exact ⟨i, by omega, h2⟩
          · exact ⟨k, by omega, hb, h, hr⟩
        · rintro ⟨i, h1, h2⟩
          rcases (show i < k ∨ i = k by omega) with h | h
          · exact Or.inl ⟨i, h, h2⟩
          · subst h; exact Or.inr h2.2.1
  exact key (cN S) 0 (by omega) 0 (by decide) (fun q => by simp) 0 0 rfl rfl
/-- the fewest or the most wrongs in worlds -/
def isWr (S : Sc) (P : Nat → Bool) (mm : Nat) (lo : Bool) (n : Nat) : Prop := (∃ w, w < cnt S ∧ P w = true ∧ wn S mm w = n) ∧ ∀ w, w < cnt S → P w = true → if lo then n ≤ wn S mm w else wn S mm w ≤ n
theorem isWr_one {mm : Nat} {lo : Bool} {a b : Nat} (h1 : isWr S P mm lo a) (h2 : isWr S P mm lo b) : a = b := by
  obtain ⟨⟨w, w1, w2, w3⟩, f⟩ := h1
  obtain ⟨⟨y, y1, y2, y3⟩, g⟩ := h2
  have a1 := f y y1 y2
  have a2 := g w w1 w2
  cases lo <;> simp at a1 a2 <;> omega
theorem call_wrongs (c : CO t m s S T) (d : RO t m u S T) : wX9_wrongs t m 1 x x2 (fun r m1 => wX12_wrongs t m1 75 x x2 (fun r2 m2 => Fin m m2 r r2)) := by
  have L := c.cor.lay
  have v := c.cor.vs
  have hc := v.cnt
  have m6 := v.m6
  have ml := mny_le (S := S) (Wd S T)
  have w64 := wds_le v
  unfold wX9_wrongs
  refine ⟨lk1 L, cx_isMaster c (fun k hk e => cx_without c (fun h => absurd h (by decide)) (fun _ hz => ⟨fun h => absurd h (by decide), fun _ => cx_refuse L ?_⟩) (fun _ hp => ⟨fun _ => ⟨wds S + 1, ?_⟩, fun h => absurd rfl h⟩)) (fun hn => cx_without c (fun _ => ⟨fun h => absurd h (by decide), fun _ => cx_refuse L ?_⟩) (fun h => absurd rfl h) (fun h => absurd rfl h))⟩
  · have q1 : QF m (pI m 1 14 6) := QF.rf.why 6
    have d2 := (d.c q1).q (thr _)
    unfold wX12_wrongs
    refine ⟨lk75 L, rx_isMaster d2 (fun k' _ _ => ⟨fun h => absurd h (by decide), fun _ => rx_asksWorlds d2 (fun m3 q3 _ d3 A => ?_)⟩) (fun h => absurd e (h k hk))⟩
    rw [A.many, nI_small v ml]
    exact ⟨fun _ => fin_refused L q1 (w14 m 6) ((thr _).tr q3) (by decide), fun h => absurd hz h⟩
  · subst e
    obtain ⟨wp, wp1, wp2⟩ := fb_ct_pos.mp hp
    have wn8 : ∀ w, wn S k w ≤ 8 := fun w => fb_ct_le _ _
    -- the reference
    have refs : ∀ m1, QF m m1 → gI m1 1 14 = 0 → ∀ n, isWr S (Wd S T) k (!decide (x2 = 0)) n → wX12_wrongs t m1 75 (nI k) x2 (fun r2 m2 => Fin m m2 (nI n) r2) := by
      intro m1 q1 hw n hn
      have d2 := (d.c q1).q (thr _)
      unfold wX12_wrongs
      refine ⟨lk75 L, rx_isMaster d2 (fun k' _ _ => ⟨fun h => absurd h (by decide), fun _ => rx_asksWorlds d2 (fun m3 q3 _ d3 A => ?_)⟩) (fun h => absurd rfl (h k hk))⟩
      rw [A.many, nI_small v ml]
      refine ⟨fun h => by omega, fun _ => ⟨cnt S + 1, ?_⟩⟩
      have key : ∀ dd j : Nat, j + dd = cnt S → ∀ z3 z4 : Int32, ((z3 = -1 ∧ ∀ w, w < j → Wd S T w = false) ∨ ∃ b, z3 = nI b ∧ (∃ w, w < j ∧ Wd S T w = true ∧ wn S k w = b) ∧ ∀ w, w < j → Wd S T w = true → if (!decide (x2 = 0)) then b ≤ wn S k w else wn S k w ≤ b) → z4 = nI j → wX12_wrongs_L42 t 75 (nI k) x2 (fun r2 m2 => Fin m m2 (nI n) r2) (fun v20 m21 => wX12_good t m21 75 v20 (fun r22 m23 => Fin m m23 (nI n) r22)) (dd + 1) z3 z4 m3 := by
        intro dd
        induction dd with
        | zero =>
          intro j hj z3 z4 g h4
          have e : j = cnt S := by omega
          subst e
          rw [h4, wX12_wrongs_L42, d3.rc.told, d3.rc.sm.ways]
          refine ⟨lk75 L, d3.rc.rl.k, fun _ => fin_good L ?_ q1 hw ((thr _).tr q3), fun hh => absurd (nI_le (Nat.le_refl _) (by omega)) hh⟩
          rcases g with ⟨g1, g2⟩ | ⟨b, g1, g2, g3⟩
          · rw [g2 wp wp1] at wp2; cases wp2
          · rw [g1, isWr_one hn ⟨g2, g3⟩]
        | succ dd ih =>
          intro j hj z3 z4 g h4
          have w8 := wn8 j
          rw [h4, wX12_wrongs_L42, d3.rc.told, d3.rc.sm.ways, lr75_17 d3.rc.lay, lk78 L, ll78 L, nI_cl (show j < 2 ^ 31 by omega), A.is_ j (by omega), bI_0]
          unfold wX12_wrongs_J100 wX12_wrongs_J103
          have old : Wd S T j = false → wX12_wrongs_L42 t 75 (nI k) x2 (fun r2 m2 => Fin m m2 (nI n) r2) (fun v20 m21 => wX12_good t m21 75 v20 (fun r22 m23 => Fin m m23 (nI n) r22)) (dd + 1) z3 (nI j + 1) m3 := by
            intro hf
            refine ih (j + 1) (by omega) _ _ ?_ (nI_1 j)
            rcases g with ⟨g1, g2⟩ | ⟨b, g1, ⟨w, w1, w2⟩, g3⟩
            · exact Or.inl ⟨g1, fun w hw => by
                rcases (show w < j ∨ w = j by omega) with q | q
                · exact g2 w q
                · subst q; exact hf⟩
            · exact Or.inr ⟨b, g1, ⟨w, by omega, w2⟩, fun w hw hp => by
                rcases (show w < j ∨ w = j by omega) with q | q
                · exact g3 w q hp
                · subst q; rw [hf] at hp; cases hp⟩
          refine ⟨lk75 L, d3.rc.rl.k, fun hh => absurd hh (nI_ge (by omega) (by omega)), fun _ => ⟨rfl, vp_nI (by omega) (by decide), old, fun ht => rsp_wrongThings d3 hk (by omega) ?_⟩⟩
          have ht := ts_false ht
          rcases g with ⟨g1, g2⟩ | ⟨b, g1, ⟨w, w1, w2, w3⟩, g3⟩
          · rw [g1]
            refine ⟨fun _ => ih (j + 1) (by omega) _ _ (Or.inr ⟨_, rfl, ⟨j, by omega, ht, rfl⟩, fun w hw hp => ?_⟩) (nI_1 j), fun h => absurd rfl h⟩
            rcases (show w < j ∨ w = j by omega) with q | q
            · rw [g2 w q] at hp; cases hp
            · subst q; split <;> exact Nat.le_refl _
          · have b8 : b ≤ 8 := by rw [← w3]; exact wn8 w
            rw [g1]
            have ne : ¬ nI b = -1 := fun q => nI_pos (n := b) (by omega) (by rw [q]; decide)
            rw [nI_leI (by omega) (by omega), nI_leI (by omega) (by omega)]
            refine ⟨fun q => absurd q ne, fun _ => ⟨fun hx => ⟨fun hle => ih (j + 1) (by omega) _ _ (Or.inr ⟨b, rfl, ⟨w, by omega, w2, w3⟩, fun w' hw' hp' => ?_⟩) (nI_1 j), fun hle => ih (j + 1) (by omega) _ _ (Or.inr ⟨_, rfl, ⟨j, by omega, ht, rfl⟩, fun w' hw' hp' => ?_⟩) (nI_1 j)⟩, fun hx => ⟨fun hle => ih (j + 1) (by omega) _ _ (Or.inr ⟨b, rfl, ⟨w, by omega, w2, w3⟩, fun w' hw' hp' => ?_⟩) (nI_1 j), fun hle => ih (j + 1) (by omega) _ _ (Or.inr ⟨_, rfl, ⟨j, by omega, ht, rfl⟩, fun w' hw' hp' => ?_⟩) (nI_1 j)⟩⟩⟩
            · simp only [hx, decide_true, Bool.not_true, Bool.false_eq_true, if_false] at g3 ⊢
              rcases (show w' < j ∨ w' = j by omega) with q | q
              · exact g3 w' q hp'
              · subst q; exact hle
            · simp only [hx, decide_true, Bool.not_true, Bool.false_eq_true, if_false] at g3 ⊢
              rcases (show w' < j ∨ w' = j by omega) with q | q
              · have := g3 w' q hp'; omega
              · subst q; omega
            · simp only [hx, decide_false, Bool.not_false, if_true] at g3 ⊢
              rcases (show w' < j ∨ w' = j by omega) with q | q
              · exact g3 w' q hp'
              · subst q; exact hle
            · simp only [hx, decide_false, Bool.not_false, if_true] at g3 ⊢
              rcases (show w' < j ∨ w' = j by omega) with q | q
              · have := g3 w' q hp'; omega
              · subst q; omega
      exact key (cnt S) 0 (by omega) (-1) 0 (Or.inl ⟨rfl, fun w hw => absurd hw (by omega)⟩) rfl
    -- the class
    have key : ∀ dd W : Nat, W + dd = wds S → ∀ m1, QF m m1 → ∀ lo hi : Nat, lo ≤ 8 → hi ≤ 8 → (∀ w, w < 64 * W → w < cnt S → Wd S T w = true → lo ≤ wn S k w ∧ wn S k w ≤ hi) → (lo < 8 → ∃ w, w < cnt S ∧ Wd S T w = true ∧ wn S k w = lo) → (0 < hi → ∃ w, w < cnt S ∧ Wd S T w = true ∧ wn S k w = hi) → ∀ z4 z5 z6 : Int32, z4 = nI lo → z5 = nI hi → z6 = nI W → wX9_wrongs_L30 t 1 (nI k) x2 (fun r m1 => wX12_wrongs t m1 75 (nI k) x2 (fun r2 m2 => Fin m m2 r r2)) (fun v24 v25 m26 => ((x2 = 0 → (wX9_wrongs_J118 t m26 v25 1 (fun r m1 => wX12_wrongs t m1 75 (nI k) x2 (fun r2 m2 => Fin m m2 r r2)))) ∧ (¬ x2 = 0 → (wX9_wrongs_J118 t m26 v24 1 (fun r m1 => wX12_wrongs t m1 75 (nI k) x2 (fun r2 m2 => Fin m m2 r r2)))))) (dd + 1) z4 z5 z6 m1 := by
      intro dd
      induction dd with
      | zero =>
        intro W hW m1 q1 lo hi l8 h8 g1 g2 g3 z4 z5 z6 h4 h5 h6
        have e : W = wds S := by omega
        subst e
        have c1 := c.q q1
        rw [h4, h5, h6, wX9_wrongs_L30, lr1_8 c1.cor.lay, c1.wor.words]
        have G1 : ∀ w, w < cnt S → Wd S T w = true → lo ≤ wn S k w ∧ wn S k w ≤ hi := fun w hw => g1 w (Nat.lt_of_lt_of_le hw cnt_wds) hw
        have exlo : ∃ w, w < cnt S ∧ Wd S T w = true ∧ wn S k w = lo := by
          rcases (show lo < 8 ∨ lo = 8 by omega) with q | q
          · exact g2 q
          · exact ⟨wp, wp1, wp2, by have := G1 wp wp1 wp2; have := wn8 wp; omega⟩
        have exhi : ∃ w, w < cnt S ∧ Wd S T w = true ∧ wn S k w = hi := by
          rcases (show 0 < hi ∨ hi = 0 by omega) with q | q
          · exact g3 q
          · exact ⟨wp, wp1, wp2, by have := G1 wp wp1 wp2; omega⟩
        refine ⟨lk1 L, lk68 L, fun _ => ⟨fun hx => ⟨lk1 L, cx_accept L (refs _ (q1.why 0) (w14 _ 0) hi ⟨exhi, fun w hw hp => ?_⟩)⟩, fun hx => ⟨lk1 L, cx_accept L (refs _ (q1.why 0) (w14 _ 0) lo ⟨exlo, fun w hw hp => ?_⟩)⟩⟩, fun hh => absurd (nI_le (Nat.le_refl _) (by omega)) hh⟩
        · simp only [hx, decide_true, Bool.not_true, Bool.false_eq_true, if_false]
          exact (G1 w hw hp).2
        · simp only [hx, decide_false, Bool.not_false, if_true]
          exact (G1 w hw hp).1
      | succ dd ih =>
        intro W hW m1 q1 lo hi l8 h8 g1 g2 g3 z4 z5 z6 h4 h5 h6
        have c1 := c.q q1
        have L1 := c1.cor.lay
        have hW1 : W < wds S := by omega
        rw [h4, h5, h6, wX9_wrongs_L30, lr1_8 L1, c1.wor.words, lr68_0 L1, lk69 L, ll69 L, nI_cl (show W < 2 ^ 31 by omega)]
        refine ⟨lk1 L, lk68 L, fun hh => absurd hh (nI_ge (by omega) (by omega)), fun _ => ⟨rfl, vp_nI (by omega) (by decide), fun x12 h12 => ?_⟩⟩
        have bits := c1.wor.bit W hW1
        rw [← h12] at bits
        unfold wX9_wrongs_J100
        rw [lgc0]
        refine ⟨fun hz => ih (W + 1) (by omega) m1 q1 lo hi l8 h8 (fun w hw hw2 hp => ?_) g2 g3 _ _ _ rfl rfl (nI_1 W), fun hz => ?_⟩
        · rcases (show w < 64 * W ∨ 64 * W ≤ w by omega) with q | q
          · exact g1 w q hw2 hp
          · have := (bits (w - 64 * W) (by omega)).mpr ⟨by omega, by rw [show 64 * W + (w - 64 * W) = w by omega]; exact hp⟩
            rw [hz, bw_0] at this; cases this
        · refine sp_tallyWrongs c1 hk hW1 (fun m3 f3 t1 t2 => ?_)
          have q3 : QF m m3 := q1.of f3 (by decide)
          have L3 := (c.q q3).cor.lay
          rw [lr1_10 L3]
          refine ⟨lk72 L, sp_leastIn (lk72 L) (lr72_0 L3) (lk73 L) (ll73 L) (fun a a8 a1 a2 x19 h19 => ?_)⟩
          rw [lr1_10 L3]
          refine ⟨lk72 L, sp_mostIn (lk72 L) (lr72_0 L3) (lk73 L) (ll73 L) (fun b b8 b1 b2 x23 h23 => ?_)⟩
          have ea : x19 = nI (if a < lo then a else lo) := by
            rw [h19]
            by_cases q : a < lo
            · rw [if_pos q, if_pos (nI_lt q (by omega))]
            · rw [if_neg q, if_neg (nI_nlt (by omega) (by omega))]
          have eb : x23 = nI (if hi < b then b else hi) := by
            rw [h23]
            by_cases q : hi < b
            · rw [if_pos q, if_pos (nI_lt q (by omega))]
            · rw [if_neg q, if_neg (nI_nlt (by omega) (by omega))]
          refine ih (W + 1) (by omega) m3 q3 (if a < lo then a else lo) (if hi < b then b else hi) (by split <;> omega) (by split <;> omega) (fun w hw hw2 hp => ?_) (fun hl => ?_) (fun hl => ?_) _ _ _ ea eb (nI_1 W)
          · have main : lo ≤ wn S k w ∧ wn S k w ≤ hi ∨ a ≤ wn S k w ∧ wn S k w ≤ b := by
              rcases (show w < 64 * W ∨ 64 * W ≤ w by omega) with q | q
              · exact Or.inl (g1 w q hw2 hp)
              · right
                have e64 : 64 * W + (w - 64 * W) = w := by omega
                have bt := (bits (w - 64 * W) (by omega)).mpr ⟨by omega, by rw [e64]; exact hp⟩
                have tvv := t2 (w - 64 * W) (by omega) (by omega)
                rw [e64] at tvv
                have r1 := a1 (w - 64 * W) (by omega) bt
                rcases (show b < 8 ∨ b = 8 by omega) with z | z
                · have r2 := b1 z (w - 64 * W) (by omega) bt; omega
                · have := wn8 w; omega
            split <;> split <;> omega
          · by_cases q : a < lo
            · rw [if_pos q] at hl ⊢
              obtain ⟨i, i1, i2, i3⟩ := a2 hl
              have bt := (bits i i1).mp i2
              exact ⟨64 * W + i, bt.1, bt.2, by rw [← t2 i i1 bt.1]; exact i3⟩
            · rw [if_neg q] at hl ⊢
              exact g2 hl
          · by_cases q : hi < b
            · rw [if_pos q] at hl ⊢
              obtain ⟨i, i1, i2, i3⟩ := b2 hl
              have bt := (bits i i1).mp i2
              refine ⟨64 * W + i, bt.1, bt.2, ?_⟩
              have tvv := t2 i i1 bt.1
              rcases (show b < 8 ∨ b = 8 by omega) with z | z
              · have r2 := b1 z i i1 i2; omega
              · have := wn8 (64 * W + i); omega
            · rw [if_neg q] at hl ⊢
              exact g3 hl
    exact key (wds S) 0 (by omega) m QF.rf 8 0 (by decide) (by decide) (fun w hw => absurd hw (by omega)) (fun h => absurd h (by decide)) (fun h => absurd h (by decide)) 8 0 0 rfl rfl rfl
  · have q1 : QF m (pI m 1 14 1) := QF.rf.why 1
    have d2 := (d.c q1).q (thr _)
    unfold wX12_wrongs
    refine ⟨lk75 L, rx_isMaster d2 (fun k hk e => absurd e (hn k hk)) (fun h => ⟨fun _ => fin_refused L q1 (w14 m 1) (thr _) (by decide), fun h => absurd rfl h⟩)⟩
end
