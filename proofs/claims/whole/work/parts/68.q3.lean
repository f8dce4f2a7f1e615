/-! Queries: children, agree -/
/-- the sayings by some masters -/
def setBy (S : Sc) (h : Nat) : Nat := bts (fun i => h.testBit (cBy S i)) (cN S)
section
variable {t : zT} {m m' m1 m2 : zM} {s u r : Nat} {S : Sc} {T : Ts} {P : Nat → Bool} {x x2 x3 : Int32}
theorem setBy_tb {h i : Nat} : (setBy S h).testBit i = true → i < cN S := by
  unfold setBy
  rw [bts_tb, Bool.and_eq_true, decide_eq_true_eq]
  exact fun q => q.1
theorem setBy_lt (v : Vs S) {h : Nat} : setBy S h < 2 ^ 17 := by
  have := v.n16
  have a := bts_lt (fun i => h.testBit (cBy S i)) (cN S)
  have : 2 ^ cN S ≤ 2 ^ 16 := Nat.pow_le_pow_right (by decide) this
  unfold setBy
  omega
theorem nI_bit1 {y k : Nat} (hx : y < 2 ^ 31) (hk : k < 31) : (nI y >>> (nI k &&& 31)) &&& (1 : Int32) = bI (y.testBit k) := by
  have h := nI_bit0 hx hk
  obtain ⟨j, hj, e⟩ := pk_andE (nI y >>> (nI k &&& 31)) (m := (1 : Int32)) 1 (by decide)
  rw [e] at h ⊢
  rcases (show j = 0 ∨ j = 1 by omega) with rfl | rfl
  · rw [h.mp rfl]; rfl
  · cases hb : y.testBit k with
    | true => rfl
    | false => exact absurd (h.mpr hb) (by decide)
theorem bI_shl (b : Bool) {k : Nat} (hk : k < 31) : bI b <<< (nI k &&& 31) = nI (if b then 2 ^ k else 0) := by
  cases b with
  | true => exact nI_shl1 hk
  | false =>
    have a : nI k &&& (31 : Int32) = nI k := by
      rw [pk_andN (by omega) 5 (by decide), Nat.mod_eq_of_lt (by omega)]
    have hs : ((nI k).toBitVec.smod 32).toNat = k := by
      have h1 : (nI k).toBitVec.toNat = k := pk_tn (by omega)
      rw [BitVec.toNat_smod]
      have m1 : (nI k).toBitVec.msb = false := by rw [BitVec.msb_eq_false_iff_two_mul_lt, h1]; omega
      rw [m1]
      simp only [show (32 : BitVec 32).msb = false by decide]
      show ((nI k).toBitVec % 32#32).toNat = k
      rw [BitVec.toNat_umod, h1]
      exact Nat.mod_eq_of_lt (by show k < 32; omega)
    rw [show bI false = nI 0 from rfl, a, pk_shlN (nI k) k hs (by simp)]
    simp
theorem sp_sayingsBy (c : Cor t m s S) {h : Nat} (hh : h < 2 ^ 31) {Q : Int32 → zM → Prop} (hQ : Q (nI (setBy S h)) m) : wX5_sayingsBy t m s (nI h) Q := by
  have L := c.lay
  have v := c.vs
  have n16 := v.n16
  have m6 := v.m6
  have hs := c.sch
  unfold wX5_sayingsBy
  refine ⟨cN S + 1, ?_⟩
  have key : ∀ dd k : Nat, k + dd = cN S → ∀ z2 z3 : Int32, z2 = nI (bts (fun i => h.testBit (cBy S i)) k) → z3 = nI k → wX5_sayingsBy_L4 t s (nI h) Q (fun v6 m7 => Q v6 m7) (dd + 1) z2 z3 m := by
    intro dd
    induction dd with
    | zero =>
      intro k hk z2 z3 h2 h3
      have e : k = cN S := by omega
      subst e
      rw [h2, h3, wX5_sayingsBy_L4, c.sm.sayings]
      exact ⟨ls_k L hs, fun _ => hQ, fun hh => absurd (nI_le (Nat.le_refl _) (by omega)) hh⟩
    | succ dd ih =>
      intro k hk z2 z3 h2 h3
      have b := (v.say k (by omega)).1
      rw [h2, h3, wX5_sayingsBy_L4, c.sm.sayings]
      simp only [ls_k L hs, ls_r1 L hs, ls_k1 L hs, ls_l1 L hs, ls_r3 L hs, ls_k3 L hs, ls_l3 L hs, ls_r6 L hs, ls_k6 L hs, ls_l6 L hs, ls_r7 L hs, ls_k7 L hs, ls_l7 L hs, ls_r8 L hs, ls_k8 L hs, ls_l8 L hs, ls_r9 L hs, ls_k9 L hs, ls_l9 L hs, ls_r11 L hs, ls_k11 L hs, ls_l11 L hs, ls_r15 L hs, ls_k15 L hs, ls_l15 L hs, ls_r16 L hs, ls_k16 L hs, ls_l16 L hs, ls_r17 L hs, ls_k17 L hs, ls_l17 L hs, ls_r19 L hs, ls_k19 L hs, ls_l19 L hs, nI_cl (show k < 2 ^ 31 by omega), (c.say.tab k (by omega)).1, nI_bit1 hh (show cBy S k < 31 by omega), bI_shl _ (show k < 31 by omega), fa_or, true_and]
      exact ⟨fun hh => absurd hh (nI_ge (by omega) (by omega)), fun _ => ⟨vp_nI (by omega) (by decide), fun x5 h5 => ih (k + 1) (by omega) _ _ h5 (nI_1 k)⟩⟩
  exact key (cN S) 0 (by omega) 0 0 rfl rfl
theorem rsp_sayingsOf (d : RO t m u S T) {h : Nat} (hh : h < 2 ^ 31) {Q : Int32 → zM → Prop} (hQ : Q (nI (setBy S h)) m) : wX12_sayingsOf t m 75 (nI h) Q := by
  have L := d.rc.lay
  have v := d.rc.vs
  have n16 := v.n16
  have m6 := v.m6
  have RLc := d.rc.rl
  unfold wX12_sayingsOf
  refine ⟨cN S + 1, ?_⟩
  have key : ∀ dd k : Nat, k + dd = cN S → ∀ z2 z3 : Int32, z2 = nI (bts (fun i => h.testBit (cBy S i)) k) → z3 = nI k → wX12_sayingsOf_L4 t 75 (nI h) Q (fun v6 m7 => Q v6 m7) (dd + 1) z2 z3 m := by
    intro dd
    induction dd with
    | zero =>
      intro k hk z2 z3 h2 h3
      have e : k = cN S := by omega
      subst e
      rw [h2, h3, wX12_sayingsOf_L4, d.rc.told, d.rc.sm.sayings]
      exact ⟨lk75 L, RLc.k, fun _ => hQ, fun hh => absurd (nI_le (Nat.le_refl _) (by omega)) hh⟩
    | succ dd ih =>
      intro k hk z2 z3 h2 h3
      have b := (v.say k (by omega)).1
      rw [h2, h3, wX12_sayingsOf_L4, d.rc.told, d.rc.sm.sayings]
      simp only [RLc.k, RLc.r1, RLc.k1, RLc.l1, RLc.r2, RLc.k2, RLc.l2, RLc.r3, RLc.k3, RLc.l3, RLc.r4, RLc.k4, RLc.l4, RLc.r5, RLc.k5, RLc.l5, RLc.r6, RLc.k6, RLc.l6, RLc.r7, RLc.k7, RLc.l7, RLc.r8, RLc.k8, RLc.l8, RLc.r9, RLc.k9, RLc.l9, RLc.r10, RLc.k10, RLc.l10, RLc.r11, RLc.k11, RLc.l11, RLc.r12, RLc.k12, RLc.l12, RLc.r13, RLc.k13, RLc.l13, RLc.r14, RLc.k14, RLc.l14, nI_cl (show k < 2 ^ 31 by omega), (d.sy.tab k (by omega)).1, true_and]
      unfold wX12_sayingsOf_J39
      refine ⟨lk75 L, fun hh => absurd hh (nI_ge (by omega) (by omega)), fun _ => ⟨vp_nI (by omega) (by decide), rsp_has hh (by omega) ?_⟩⟩
      cases hb : h.testBit (cBy S k) with
      | false =>
        refine ⟨fun _ x9 h9 => ih (k + 1) (by omega) _ _ ?_ (nI_1 k), fun h => absurd rfl h⟩
        rw [h9, show (0 : Int32) = nI 0 from rfl, fa_or, Nat.or_zero, ← bts_no (p := fun i => h.testBit (cBy S i)) hb]
      | true =>
        refine ⟨fun h => absurd h (by decide), fun _ x9 h9 => ih (k + 1) (by omega) _ _ ?_ (nI_1 k)⟩
        rw [h9, bts_up _ (by omega), bts_yes (p := fun i => h.testBit (cBy S i)) hb]
  exact key (cN S) 0 (by omega) 0 0 rfl rfl
noncomputable def chP (S : Sc) (k : Nat) : Nat → Bool := LfB S (setBy S (cHe S k)) (cLw S)
theorem he_lt (v : Vs S) {k : Nat} (hk : k < cCh S) : cHe S k < 2 ^ 31 := by
  have a := v.he k hk
  have : 2 ^ cM S ≤ 2 ^ 6 := Nat.pow_le_pow_right (by decide) v.m6
  omega
theorem sp_teach (c : CO t m s S T) {k : Nat} (hk : k < cCh S) {Q : zM → Prop} (hQ : ∀ m', QF m m' → RowM m' 70 S (chP S k) → Q m') : wX9_teach t m 1 (nI k) Q := by
  have L := c.cor.lay
  have v := c.cor.vs
  have ch5 := v.ch5
  have hs := c.cor.sch
  unfold wX9_teach
  simp only [c.x3, ls_k L hs, ls_r1 L hs, ls_k1 L hs, ls_l1 L hs, ls_r3 L hs, ls_k3 L hs, ls_l3 L hs, ls_r6 L hs, ls_k6 L hs, ls_l6 L hs, ls_r7 L hs, ls_k7 L hs, ls_l7 L hs, ls_r8 L hs, ls_k8 L hs, ls_l8 L hs, ls_r9 L hs, ls_k9 L hs, ls_l9 L hs, ls_r11 L hs, ls_k11 L hs, ls_l11 L hs, ls_r15 L hs, ls_k15 L hs, ls_l15 L hs, ls_r16 L hs, ls_k16 L hs, ls_l16 L hs, ls_r17 L hs, ls_k17 L hs, ls_l17 L hs, ls_r19 L hs, ls_k19 L hs, ls_l19 L hs, nI_cl (show k < 2 ^ 31 by omega), c.cor.sm.hears k hk, lr1_1 L, true_and]
  refine ⟨lk1 L, vp_nI (by omega) (by decide), sp_sayingsBy c.cor (he_lt v hk) ?_⟩
  rw [c.x3, c.cor.sm.laws, lr1_9 L]
  exact ⟨ls_k L hs, lk19 L, cx_judge c QF.rf c.cor c.cor.say (fun i hi => setBy_tb hi) (setBy_lt v) (fun h => h) (fun m2 q2 R => hQ m2 q2 R)⟩
theorem askP_f {set lw : Nat} {Fc : Nat → Nat} : askP S set lw false Fc = LfB S set lw := by
  funext w
  rw [askP_eq]
  simp
/-- the reference's row of a child -/
theorem rx_child (d : RO t m u S T) {k : Nat} (hk : k < cCh S) {Q : zM → Prop} (hQ : ∀ m', QR m m' → RO t m' u S T → AskM m' S (chP S k) → Q m') : wX12_sayingsOf t m 75 (nI (cHe S k)) (fun r14 m15 => tK t (gR m15 75 3) = 11 ∧ wX12_asks t m15 75 r14 (gI m15 (gR m15 75 3) 6) 0 (fun m18 => Q m18)) := by
  have v := d.rc.vs
  refine rsp_sayingsOf d (he_lt v hk) ?_
  rw [d.rc.told, d.rc.sm.laws]
  refine ⟨d.rc.rl.k, rsp_asks (fa := false) (Fc := fun _ => 0) d.rc d.sy (fun i hi => setBy_tb hi) (by omega) (setBy_lt v) (fun h => h) (fun h => by cases h) (fun m' f g A => ?_)⟩
  rw [askP_f] at A
  have q : QR m m' := QR.rf.of f (by decide) g
  exact hQ m' q (d.q q) A
theorem rsp_believed (d : RO t m u S T) (A : AskM m S P) {tt : Nat} (ht : tt < cT S) {Q : Int32 → zM → Prop} (hQ : ∀ x, isCm S P tt x → Q x m) : wX12_believed t m 75 (nI tt) Q := by
  have L := d.rc.lay
  have v := d.rc.vs
  have hc := v.cnt
  have t8 := v.t8
  have RLc := d.rc.rl
  have a4 := v.a2 tt ht
  have ml := mny_le (S := S) P
  have ol : ∀ a, oft S P tt a ≤ cnt S := fun a => fb_ct_le _ _
  unfold wX12_believed
  refine ⟨cA S tt + 1, ?_⟩
  have key : ∀ dd k : Nat, k + dd = cA S tt → ∀ z2 z3 : Int32, ((z2 = -2 ∧ (k = 0 ∨ mny S P = 0)) ∨ ∃ b, b < k ∧ 0 < mny S P ∧ z2 = nI b ∧ (∀ q, q < k → oft S P tt q ≤ oft S P tt b) ∧ ∀ q, q < b → oft S P tt q < oft S P tt b) → z3 = nI k → wX12_believed_L5 t 75 (nI tt) Q (fun v12 m13 => Q v12 m13) (dd + 1) z2 z3 m := by
    intro dd
    induction dd with
    | zero =>
      intro k hk z2 z3 g h3
      have e : k = cA S tt := by omega
      subst e
      rw [h3, wX12_believed_L5]
      simp only [d.rc.told, RLc.k, RLc.r1, RLc.k1, RLc.l1, RLc.r2, RLc.k2, RLc.l2, RLc.r3, RLc.k3, RLc.l3, RLc.r4, RLc.k4, RLc.l4, RLc.r5, RLc.k5, RLc.l5, RLc.r6, RLc.k6, RLc.l6, RLc.r7, RLc.k7, RLc.l7, RLc.r8, RLc.k8, RLc.l8, RLc.r9, RLc.k9, RLc.l9, RLc.r10, RLc.k10, RLc.l10, RLc.r11, RLc.k11, RLc.l11, RLc.r12, RLc.k12, RLc.l12, RLc.r13, RLc.k13, RLc.l13, RLc.r14, RLc.k14, RLc.l14, nI_cl (show tt < 2 ^ 31 by omega), d.rc.sm.answers tt ht, true_and]
      refine ⟨lk75 L, vp_nI (by omega) (by decide), fun _ => hQ z2 ?_, fun hh => absurd (nI_le (Nat.le_refl _) (by omega)) hh⟩
      rcases g with ⟨g1, g2⟩ | ⟨b, g1, g2, g3, g4, g5⟩
      · exact Or.inl ⟨by rcases g2 with q | q <;> omega, g1⟩
      · exact Or.inr ⟨g2, b, g1, g3, g4, g5⟩
    | succ dd ih =>
      intro k hk z2 z3 g h3
      rw [h3, wX12_believed_L5]
      simp only [d.rc.told, RLc.k, RLc.r1, RLc.k1, RLc.l1, RLc.r2, RLc.k2, RLc.l2, RLc.r3, RLc.k3, RLc.l3, RLc.r4, RLc.k4, RLc.l4, RLc.r5, RLc.k5, RLc.l5, RLc.r6, RLc.k6, RLc.l6, RLc.r7, RLc.k7, RLc.l7, RLc.r8, RLc.k8, RLc.l8, RLc.r9, RLc.k9, RLc.l9, RLc.r10, RLc.k10, RLc.l10, RLc.r11, RLc.k11, RLc.l11, RLc.r12, RLc.k12, RLc.l12, RLc.r13, RLc.k13, RLc.l13, RLc.r14, RLc.k14, RLc.l14, nI_cl (show tt < 2 ^ 31 by omega), d.rc.sm.answers tt ht, A.many, lr75_18 L, lk79 L, ll79 L, true_and]
      refine ⟨lk75 L, vp_nI (by omega) (by decide), fun hh => absurd hh (nI_ge (by omega) (by omega)), fun _ => ⟨fun h0 => hQ z2 ?_, fun h0 => ?_⟩⟩
      · have z : mny S P = 0 := by
          rcases Nat.eq_zero_or_pos (mny S P) with q | q
          · exact q
          · exact absurd h0 (nI_nle q (by omega))
        rcases g with ⟨g1, g2⟩ | ⟨b, g1, g2, _⟩
        · exact Or.inl ⟨z, g1⟩
        · omega
      · have pos : 0 < mny S P := by
          rcases Nat.eq_zero_or_pos (mny S P) with q | q
          · exact absurd (by rw [q]; decide) h0
          · exact q
        unfold wX12_believed_J54 wX12_believed_J56
        rcases g with ⟨g1, g2⟩ | ⟨b, g1, g2, g3, g4, g5⟩
        · have k0 : k = 0 := by omega
          subst k0
          rw [g1]
          refine ⟨fun _ => ih 1 (by omega) _ _ (Or.inr ⟨0, by omega, pos, rfl, fun q hq => ?_, fun q hq => absurd hq (by omega)⟩) (nI_1 0), fun h => absurd rfl h⟩
          rw [show q = 0 by omega]; exact Nat.le_refl _
        · rw [g3, show (4 : Int32) = nI 4 from rfl, pk_mul, nI_add, nI_add, nI_cl (by omega), nI_cl (by omega), A.often tt ht k (by omega), A.often tt ht b (by omega), nI_leI (by have := ol k; omega) (by have := ol b; omega)]
          have ne : ¬ nI b = -2 := fun q => nI_pos (n := b) (by omega) (by rw [q]; decide)
          refine ⟨fun h => absurd h ne, fun _ => ⟨vp_nI (by omega) (by decide), vp_nI (by omega) (by decide), fun hle => ih (k + 1) (by omega) _ _ (Or.inr ⟨b, by omega, pos, rfl, fun q hq => ?_, g5⟩) (nI_1 k), fun hle => ih (k + 1) (by omega) _ _ (Or.inr ⟨k, by omega, pos, rfl, fun q hq => ?_, fun q hq => ?_⟩) (nI_1 k)⟩⟩
          · rcases (show q < k ∨ q = k by omega) with z | z
            · exact g4 q z
            · subst z; exact hle
          · rcases (show q < k ∨ q = k by omega) with z | z
            · have := g4 q z; omega
            · subst z; exact Nat.le_refl _
          · have := g4 q hq; omega
  exact key (cA S tt) 0 (by omega) (-2) 0 (Or.inl ⟨rfl, Or.inl rfl⟩) rfl
theorem call_believes (c : CO t m s S T) (d : RO t m u S T) : wX9_believes t m 1 x x2 (fun r m1 => wX12_believes t m1 75 x x2 (fun r2 m2 => Fin m m2 r r2)) := by
  have L := c.cor.lay
  have v := c.cor.vs
  have ch5 := v.ch5
  have no : (∀ k j, k < cCh S → x = nI k → j < cT S → x2 ≠ nI j) → wX9_believes_J16 t m 1 (fun r m1 => wX12_believes t m1 75 x x2 (fun r2 m2 => Fin m m2 r r2)) := by
    intro hn
    have q1 : QF m (pI m 1 14 1) := QF.rf.why 1
    have d2 := (d.c q1).q (thr _)
    have fr := fin_refused (m2 := pI (pI m 1 14 1) 75 0 0) L q1 (w14 m 1) (thr _) (by decide)
    unfold wX9_believes_J16
    refine ⟨lk1 L, cx_refuse L ?_⟩
    unfold wX12_believes wX12_believes_J21
    refine ⟨lk75 L, rx_isChild d2 (fun k hk e => ⟨fun h => absurd h (by decide), fun _ => rx_isThing d2 (fun j hj e2 => absurd e2 (hn k j hk e hj)) (fun _ => ⟨fun _ => ⟨lk75 L, fr⟩, fun h => absurd rfl h⟩)⟩) (fun _ => ⟨fun _ => ⟨lk75 L, fr⟩, fun h => absurd rfl h⟩)⟩
  unfold wX9_believes
  refine ⟨lk1 L, cx_isChild c (fun k hk e => ⟨fun h => absurd h (by decide), fun _ => cx_isThing c (fun j hj e2 => ⟨fun h => absurd h (by decide), fun _ => ?_⟩) (fun hn => ⟨fun _ => no (fun _ j _ _ hj => hn j hj), fun h => absurd rfl h⟩)⟩) (fun hn => ⟨fun _ => no (fun k j hk e _ => absurd e (hn k hk)), fun h => absurd rfl h⟩)⟩
  subst e
  subst e2
  refine sp_teach c hk (fun m3 q3 R => ?_)
  have c3 := c.q q3
  rw [lr1_2 c3.cor.lay, lr1_9 c3.cor.lay]
  refine ⟨lk20 L, sp_commonest c3.cor (Or.inr (Or.inr (Or.inl rfl))) R hj (fun z hz => cx_accept L ?_)⟩
  have q1 : QF m (pI m3 1 14 0) := q3.why 0
  have d2 := (d.c q1).q (thr _)
  have RLc := d2.rc.rl
  unfold wX12_believes
  refine ⟨lk75 L, rx_isChild d2 (fun k' hk' e => ⟨fun h => absurd h (by decide), fun _ => rx_isThing d2 (fun j' hj' e2 => ⟨fun h => absurd h (by decide), fun _ => ?_⟩) (fun h => absurd rfl (h j hj))⟩) (fun h => absurd rfl (h k hk))⟩
  simp only [d2.rc.told, RLc.k, RLc.r1, RLc.k1, RLc.l1, RLc.r2, RLc.k2, RLc.l2, RLc.r3, RLc.k3, RLc.l3, RLc.r4, RLc.k4, RLc.l4, RLc.r5, RLc.k5, RLc.l5, RLc.r6, RLc.k6, RLc.l6, RLc.r7, RLc.k7, RLc.l7, RLc.r8, RLc.k8, RLc.l8, RLc.r9, RLc.k9, RLc.l9, RLc.r10, RLc.k10, RLc.l10, RLc.r11, RLc.k11, RLc.l11, RLc.r12, RLc.k12, RLc.l12, RLc.r13, RLc.k13, RLc.l13, RLc.r14, RLc.k14, RLc.l14, nI_cl (show k < 2 ^ 31 by omega), d2.rc.sm.hears k hk, true_and]
  refine ⟨vp_nI (by omega) (by decide), rx_child d2 hk (fun m5 q5 d5 A => rsp_believed d5 A hj (fun z2 hz2 => fin_good L (isCm_one hz hz2) q1 (w14 _ 0) ((thr _).tr q5)))⟩
theorem sp_knownBits (c : CO t m s S T) {k : Nat} (hk : k < cCh S) {Q : Int32 → zM → Prop} (hQ : ∀ m', QF m m' → Q (nI (bts (sureB S (chP S k)) (cT S))) m') : wX9_knownBits t m 1 (nI k) Q := by
  have L := c.cor.lay
  unfold wX9_knownBits
  refine ⟨lk1 L, sp_teach c hk (fun m3 q3 R => ?_)⟩
  have c3 := c.q q3
  rw [lr1_2 c3.cor.lay, lr1_9 c3.cor.lay]
  exact ⟨lk20 L, sp_sureIn c3.cor (Or.inr (Or.inr (Or.inl rfl))) R (hQ m3 q3)⟩
theorem call_knows (c : CO t m s S T) (d : RO t m u S T) : wX9_knows t m 1 x (fun r m1 => wX12_knows t m1 75 x (fun r2 m2 => Fin m m2 r r2)) := by
  have L := c.cor.lay
  have v := c.cor.vs
  have ch5 := v.ch5
  unfold wX9_knows
  refine ⟨lk1 L, cx_isChild c (fun k hk e => ⟨fun h => absurd h (by decide), fun _ => ?_⟩) (fun hn => ⟨fun _ => cx_refuse L ?_, fun h => absurd rfl h⟩)⟩
  · subst e
    refine sp_knownBits c hk (fun m3 q3 => cx_accept L ?_)
    have q1 : QF m (pI m3 1 14 0) := q3.why 0
    have d2 := (d.c q1).q (thr _)
    have RLc := d2.rc.rl
    unfold wX12_knows
    refine ⟨lk75 L, rx_isChild d2 (fun k' hk' e => ⟨fun h => absurd h (by decide), fun _ => ?_⟩) (fun h => absurd rfl (h k hk))⟩
    simp only [d2.rc.told, RLc.k, RLc.r1, RLc.k1, RLc.l1, RLc.r2, RLc.k2, RLc.l2, RLc.r3, RLc.k3, RLc.l3, RLc.r4, RLc.k4, RLc.l4, RLc.r5, RLc.k5, RLc.l5, RLc.r6, RLc.k6, RLc.l6, RLc.r7, RLc.k7, RLc.l7, RLc.r8, RLc.k8, RLc.l8, RLc.r9, RLc.k9, RLc.l9, RLc.r10, RLc.k10, RLc.l10, RLc.r11, RLc.k11, RLc.l11, RLc.r12, RLc.k12, RLc.l12, RLc.r13, RLc.k13, RLc.l13, RLc.r14, RLc.k14, RLc.l14, nI_cl (show k < 2 ^ 31 by omega), d2.rc.sm.hears k hk, true_and]
    refine ⟨vp_nI (by omega) (by decide), rx_child d2 hk (fun m5 q5 d5 A => rsp_oneBits d5.rc A (fin_good L rfl q1 (w14 _ 0) ((thr _).tr q5)))⟩
  · have q1 : QF m (pI m 1 14 1) := QF.rf.why 1
    have d2 := (d.c q1).q (thr _)
    unfold wX12_knows
    refine ⟨lk75 L, rx_isChild d2 (fun k hk e => absurd e (hn k hk)) (fun h => ⟨fun _ => fin_refused L q1 (w14 m 1) (thr _) (by decide), fun h => absurd rfl h⟩)⟩
/-- what some children know together -/
noncomputable def shr (S : Sc) (X : Nat) : Nat → Nat
  | 0 => 0
  | n + 1 => shr S X n ||| (if X.testBit n then bts (sureB S (chP S n)) (cT S) else 0)
theorem call_share (c : CO t m s S T) (d : RO t m u S T) : wX9_share t m 1 x (fun r m1 => wX12_share t m1 75 x (fun r2 m2 => Fin m m2 r r2)) := by
  have L := c.cor.lay
  have v := c.cor.vs
  have ch5 := v.ch5
  have hs := c.cor.sch
  have sh : (1 : Int32) <<< (nI (cCh S) &&& 31) = nI (2 ^ cCh S) := nI_shl1 (by omega)
  have p5 : 2 ^ cCh S ≤ 2 ^ 5 := Nat.pow_le_pow_right (by decide) ch5
  have no : (∀ X, X < 2 ^ cCh S → x ≠ nI X) → wX9_share_J30 t m 1 (fun r m1 => wX12_share t m1 75 x (fun r2 m2 => Fin m m2 r r2)) := by
    intro hn
    have q1 : QF m (pI m 1 14 2) := QF.rf.why 2
    have d1 := d.c q1
    have d2 := d1.q (thr _)
    have fr := fin_refused (m2 := pI (pI m 1 14 2) 75 0 0) L q1 (w14 m 2) (thr _) (by decide)
    unfold wX9_share_J30
    refine ⟨lk1 L, cx_refuse L ?_⟩
    show wX12_share t (pI m 1 14 2) 75 x (fun r2 m2 => Fin m m2 (-1) r2)
    unfold wX12_share wX12_share_J35
    rw [d1.rc.told, d2.rc.sm.children, sh]
    refine ⟨lk75 L, fun h => absurd h (by have := d1.rc.rl.u85; omega), fun _ => ⟨fun _ => ⟨lk75 L, fr⟩, fun h0 => ⟨d1.rc.rl.k, fun hlt => ?_, fun _ => ⟨lk75 L, fr⟩⟩⟩⟩
    obtain ⟨X, hX, e⟩ := nI_of h0
    rw [e] at hlt
    exact absurd e (hn X ((nI_ltI hX (by omega)).mp hlt))
  unfold wX9_share
  refine ⟨lk1 L, cx_isOpen c ⟨fun h => absurd h (by decide), fun _ => ⟨fun h0 => no (fun X hX e => by rw [e] at h0; exact nI_pos (by omega) h0), fun h0 => ?_⟩⟩⟩
  rw [c.x3, c.cor.sm.children, sh]
  obtain ⟨X, hX, e⟩ := nI_of h0
  subst e
  refine ⟨ls_k L hs, fun hlt => ⟨cCh S + 1, ?_⟩, fun hlt => no (fun X' hX' e => hlt (by rw [e]; exact nI_lt hX' (by omega)))⟩
  have hlt := (nI_ltI hX (by omega)).mp hlt
  have refs : ∀ m1, QF m m1 → gI m1 1 14 = 0 → wX12_share t m1 75 (nI X) (fun r2 m2 => Fin m m2 (nI (shr S X (cCh S))) r2) := by
    intro m1 q1 hw
    have d1 := d.c q1
    have d2 := d1.q (thr _)
    unfold wX12_share
    rw [d1.rc.told, d2.rc.sm.children, sh]
    refine ⟨lk75 L, fun h => absurd h (by have := d1.rc.rl.u85; omega), fun _ => ⟨fun h => absurd h (nI_pos hX), fun _ => ⟨d1.rc.rl.k, fun _ => ⟨cCh S + 1, ?_⟩, fun h => absurd (nI_lt hlt (by omega)) h⟩⟩⟩
    have key : ∀ dd k : Nat, k + dd = cCh S → ∀ m3, QR m1 m3 → ∀ z2 z3 : Int32, z2 = nI (shr S X k) → z3 = nI k → wX12_share_L45 t 75 (nI X) (fun r2 m2 => Fin m m2 (nI (shr S X (cCh S))) r2) (fun v28 m29 => wX12_good t m29 75 v28 (fun r30 m31 => Fin m m31 (nI (shr S X (cCh S))) r30)) (dd + 1) z2 z3 m3 := by
      intro dd
      induction dd with
      | zero =>
        intro k hk m3 q3 z2 z3 h2 h3
        have e : k = cCh S := by omega
        subst e
        have d3 := d1.q q3
        rw [h2, h3, wX12_share_L45, d3.rc.told, d3.rc.sm.children]
        exact ⟨lk75 L, d3.rc.rl.k, fun _ => fin_good L rfl q1 hw q3, fun hh => absurd (nI_le (Nat.le_refl _) (by omega)) hh⟩
      | succ dd ih =>
        intro k hk m3 q3 z2 z3 h2 h3
        have d3 := d1.q q3
        have RLc := d3.rc.rl
        rw [h2, h3, wX12_share_L45, d3.rc.told, d3.rc.sm.children]
        unfold wX12_share_J99
        refine ⟨lk75 L, d3.rc.rl.k, fun hh => absurd hh (nI_ge (by omega) (by omega)), fun _ => rsp_has hX (by omega) ?_⟩
        cases hb : X.testBit k with
        | false =>
          refine ⟨fun _ => ih (k + 1) (by omega) m3 q3 _ _ ?_ (nI_1 k), fun h => absurd rfl h⟩
          rw [shr, hb]; simp
        | true =>
          refine ⟨fun h => absurd h (by decide), fun _ => ?_⟩
          simp only [d3.rc.told, RLc.k, RLc.r1, RLc.k1, RLc.l1, RLc.r2, RLc.k2, RLc.l2, RLc.r3, RLc.k3, RLc.l3, RLc.r4, RLc.k4, RLc.l4, RLc.r5, RLc.k5, RLc.l5, RLc.r6, RLc.k6, RLc.l6, RLc.r7, RLc.k7, RLc.l7, RLc.r8, RLc.k8, RLc.l8, RLc.r9, RLc.k9, RLc.l9, RLc.r10, RLc.k10, RLc.l10, RLc.r11, RLc.k11, RLc.l11, RLc.r12, RLc.k12, RLc.l12, RLc.r13, RLc.k13, RLc.l13, RLc.r14, RLc.k14, RLc.l14, nI_cl (show k < 2 ^ 31 by omega), d3.rc.sm.hears k (show k < cCh S by omega), true_and]
          refine ⟨vp_nI (by omega) (by decide), rx_child d3 (by omega) (fun m5 q5 d5 A => rsp_oneBits d5.rc A (fun x27 h27 => ih (k + 1) (by omega) m5 (q3.tr q5) _ _ ?_ (nI_1 k)))⟩
          rw [h27, fa_or, shr, hb]; simp
    exact key (cCh S) 0 (by omega) _ (thr _) 0 0 rfl rfl
  have key : ∀ dd k : Nat, k + dd = cCh S → ∀ m1, QF m m1 → ∀ z2 z3 : Int32, z2 = nI (shr S X k) → z3 = nI k → wX9_share_L40 t 1 (nI X) (fun r m1 => wX12_share t m1 75 (nI X) (fun r2 m2 => Fin m m2 r r2)) (fun v18 m19 => wX9_accept t m19 1 v18 (fun r20 m21 => wX12_share t m21 75 (nI X) (fun r2 m2 => Fin m m2 r20 r2))) (dd + 1) z2 z3 m1 := by
    intro dd
    induction dd with
    | zero =>
      intro k hk m1 q1 z2 z3 h2 h3
      have e : k = cCh S := by omega
      subst e
      have c1 := c.q q1
      rw [h2, h3, wX9_share_L40, c1.x3, c1.cor.sm.children]
      exact ⟨lk1 L, ls_k L hs, fun _ => cx_accept L (refs _ (q1.why 0) (w14 _ 0)), fun hh => absurd (nI_le (Nat.le_refl _) (by omega)) hh⟩
    | succ dd ih =>
      intro k hk m1 q1 z2 z3 h2 h3
      have c1 := c.q q1
      rw [h2, h3, wX9_share_L40, c1.x3, c1.cor.sm.children, nI_bit0 hX (by omega)]
      unfold wX9_share_J67
      refine ⟨lk1 L, ls_k L hs, fun hh => absurd hh (nI_ge (by omega) (by omega)), fun _ => ⟨fun hb => ih (k + 1) (by omega) m1 q1 _ _ ?_ (nI_1 k), fun hb => sp_knownBits c1 (by omega) (fun m3 q3 x17 h17 => ih (k + 1) (by omega) m3 (q1.tr q3) _ _ ?_ (nI_1 k))⟩⟩
      · rw [shr, hb]; simp
      · rw [h17, fa_or, shr, ts_false hb]; simp
  exact key (cCh S) 0 (by omega) m QF.rf 0 0 rfl rfl
end
