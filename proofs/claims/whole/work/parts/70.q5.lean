/-! Queries: agree, home, bestHome -/
/-- the first saying of a master of a thing -/
def isFst (S : Sc) (mm tt i : Nat) : Prop := i < cN S ∧ (cBy S i = mm ∧ cOf S i = tt) ∧ ∀ j, j < i → ¬ (cBy S j = mm ∧ cOf S j = tt)
noncomputable def agB (S : Sc) (a b : Nat) (z : Int32) (tt : Nat) : Bool := @decide (∃ i j, isFst S a tt i ∧ isFst S b tt j ∧ bI (cWh S i == cWh S j) = z) (Classical.propDecidable _)
section
variable {t : zT} {m m' m1 m2 : zM} {s u r : Nat} {S : Sc} {T : Ts} {P : Nat → Bool} {x x2 x3 : Int32}
theorem agB_iff {a b tt : Nat} {z : Int32} : agB S a b z tt = true ↔ ∃ i j, isFst S a tt i ∧ isFst S b tt j ∧ bI (cWh S i == cWh S j) = z := by
  unfold agB
  exact @decide_eq_true_iff _ (Classical.propDecidable _)
theorem isFst_one {mm tt i j : Nat} (h1 : isFst S mm tt i) (h2 : isFst S mm tt j) : i = j := fb_first_one (p := fun i => cBy S i = mm ∧ cOf S i = tt) h1.2.1 h1.2.2 h2.2.1 h2.2.2
theorem ag_yes {a b tt i j : Nat} {z : Int32} (h1 : isFst S a tt i) (h2 : isFst S b tt j) : agB S a b z tt = true ↔ bI (cWh S i == cWh S j) = z := by
  rw [agB_iff]
  constructor
  · rintro ⟨i', j', e1, e2, e3⟩
    rw [isFst_one h1 e1, isFst_one h2 e2]; exact e3
  · exact fun h => ⟨i, j, h1, h2, h⟩
theorem ag_no {a b tt : Nat} {z : Int32} (h : (∀ i, i < cN S → ¬ (cBy S i = a ∧ cOf S i = tt)) ∨ ∀ i, i < cN S → ¬ (cBy S i = b ∧ cOf S i = tt)) : agB S a b z tt = false := by
  cases hb : agB S a b z tt with
  | false => rfl
  | true =>
    obtain ⟨i, j, h1, h2, _⟩ := agB_iff.mp hb
    rcases h with h | h
    · exact absurd h1.2.1 (h i h1.1)
    · exact absurd h2.2.1 (h j h2.1)
theorem sp_firstSaying (c : Cor t m s S) {mm tt : Nat} (hm : mm < 2 ^ 31) (ht : tt < 2 ^ 31) {Q : Int32 → zM → Prop} (h1 : ∀ i, isFst S mm tt i → Q (nI i) m) (h0 : (∀ i, i < cN S → ¬ (cBy S i = mm ∧ cOf S i = tt)) → Q (-1) m) : wX5_firstSaying t m s (nI mm) (nI tt) Q := by
  have L := c.lay
  have v := c.vs
  have n16 := v.n16
  have m6 := v.m6
  have t8 := v.t8
  have hs := c.sch
  unfold wX5_firstSaying
  refine ⟨cN S + 1, ?_⟩
  have key : ∀ dd k : Nat, k + dd = cN S → (∀ i, i < k → ¬ (cBy S i = mm ∧ cOf S i = tt)) → ∀ z : Int32, z = nI k → wX5_firstSaying_L2 t s (nI mm) (nI tt) Q (fun m9 => Q (-1) m9) (dd + 1) z m := by
    intro dd
    induction dd with
    | zero =>
      intro k hk g z hz
      have e : k = cN S := by omega
      subst e
      rw [hz, wX5_firstSaying_L2, c.sm.sayings]
      exact ⟨ls_k L hs, fun _ => h0 g, fun hh => absurd (nI_le (Nat.le_refl _) (by omega)) hh⟩
    | succ dd ih =>
      intro k hk g z hz
      have hk1 : k < cN S := by omega
      obtain ⟨b1, b2, _⟩ := v.say k hk1
      obtain ⟨e1, e2, _⟩ := c.say.tab k hk1
      have v1 : vp_in (nI k) 17 := vp_nI (by omega) (by decide)
      rw [hz, wX5_firstSaying_L2, c.sm.sayings]
      simp only [ls_k L hs, ls_r1 L hs, ls_k1 L hs, ls_l1 L hs, ls_r3 L hs, ls_k3 L hs, ls_l3 L hs, ls_r6 L hs, ls_k6 L hs, ls_l6 L hs, ls_r7 L hs, ls_k7 L hs, ls_l7 L hs, ls_r8 L hs, ls_k8 L hs, ls_l8 L hs, ls_r9 L hs, ls_k9 L hs, ls_l9 L hs, ls_r11 L hs, ls_k11 L hs, ls_l11 L hs, ls_r15 L hs, ls_k15 L hs, ls_l15 L hs, ls_r16 L hs, ls_k16 L hs, ls_l16 L hs, ls_r17 L hs, ls_k17 L hs, ls_l17 L hs, ls_r19 L hs, ls_k19 L hs, ls_l19 L hs, nI_cl (show k < 2 ^ 31 by omega), e1, e2, nI_eq (show cBy S k < 2 ^ 31 by omega) hm, nI_eq (show cOf S k < 2 ^ 31 by omega) ht, true_and]
      have go : ¬ (cBy S k = mm ∧ cOf S k = tt) → ∀ i, i < k + 1 → ¬ (cBy S i = mm ∧ cOf S i = tt) := by
        intro hn i hi
        rcases (show i < k ∨ i = k by omega) with q | q
        · exact g i q
        · subst q; exact hn
      unfold wX5_firstSaying_J32
      exact ⟨fun hh => absurd hh (nI_ge (by omega) (by omega)), fun _ => ⟨v1, fun hb => ⟨v1, fun ho => h1 k ⟨hk1, ⟨hb, ho⟩, g⟩, fun ho => ih (k + 1) (by omega) (go (fun q => ho q.2)) _ (nI_1 k)⟩, fun hb => ih (k + 1) (by omega) (go (fun q => hb q.1)) _ (nI_1 k)⟩⟩
  exact key (cN S) 0 (by omega) (fun i hi => absurd hi (by omega)) 0 rfl
theorem rsp_firstSaid (d : RO t m u S T) {mm tt : Nat} (hm : mm < 2 ^ 31) (ht : tt < 2 ^ 31) {Q : Int32 → zM → Prop} (h1 : ∀ i, isFst S mm tt i → Q (nI (cWh S i)) m) (h0 : (∀ i, i < cN S → ¬ (cBy S i = mm ∧ cOf S i = tt)) → Q (-1) m) : wX12_firstSaid t m 75 (nI mm) (nI tt) Q := by
  have L := d.rc.lay
  have v := d.rc.vs
  have n16 := v.n16
  have m6 := v.m6
  have t8 := v.t8
  have RLc := d.rc.rl
  unfold wX12_firstSaid
  refine ⟨cN S + 1, ?_⟩
  have key : ∀ dd k : Nat, k + dd = cN S → (∀ i, i < k → ¬ (cBy S i = mm ∧ cOf S i = tt)) → ∀ z : Int32, z = nI k → wX12_firstSaid_L2 t 75 (nI mm) (nI tt) Q (fun m9 => Q (-1) m9) (dd + 1) z m := by
    intro dd
    induction dd with
    | zero =>
      intro k hk g z hz
      have e : k = cN S := by omega
      subst e
      rw [hz, wX12_firstSaid_L2, d.rc.told, d.rc.sm.sayings]
      exact ⟨lk75 L, RLc.k, fun _ => h0 g, fun hh => absurd (nI_le (Nat.le_refl _) (by omega)) hh⟩
    | succ dd ih =>
      intro k hk g z hz
      have hk1 : k < cN S := by omega
      obtain ⟨b1, b2, _⟩ := v.say k hk1
      obtain ⟨e1, e2, e3⟩ := d.sy.tab k hk1
      have v1 : vp_in (nI k) 17 := vp_nI (by omega) (by decide)
      rw [hz, wX12_firstSaid_L2, d.rc.told, d.rc.sm.sayings]
      simp only [RLc.k, RLc.r1, RLc.k1, RLc.l1, RLc.r2, RLc.k2, RLc.l2, RLc.r3, RLc.k3, RLc.l3, RLc.r4, RLc.k4, RLc.l4, RLc.r5, RLc.k5, RLc.l5, RLc.r6, RLc.k6, RLc.l6, RLc.r7, RLc.k7, RLc.l7, RLc.r8, RLc.k8, RLc.l8, RLc.r9, RLc.k9, RLc.l9, RLc.r10, RLc.k10, RLc.l10, RLc.r11, RLc.k11, RLc.l11, RLc.r12, RLc.k12, RLc.l12, RLc.r13, RLc.k13, RLc.l13, RLc.r14, RLc.k14, RLc.l14, nI_cl (show k < 2 ^ 31 by omega), e1, e2, e3, nI_eq (show cBy S k < 2 ^ 31 by omega) hm, nI_eq (show cOf S k < 2 ^ 31 by omega) ht, true_and]
      have go : ¬ (cBy S k = mm ∧ cOf S k = tt) → ∀ i, i < k + 1 → ¬ (cBy S i = mm ∧ cOf S i = tt) := by
        intro hn i hi
        rcases (show i < k ∨ i = k by omega) with q | q
        · exact g i q
        · subst q; exact hn
      unfold wX12_firstSaid_J49
      exact ⟨lk75 L, fun hh => absurd hh (nI_ge (by omega) (by omega)), fun _ => ⟨v1, fun hb => ⟨v1, fun ho => ⟨v1, h1 k ⟨hk1, ⟨hb, ho⟩, g⟩⟩, fun ho => ih (k + 1) (by omega) (go (fun q => ho q.2)) _ (nI_1 k)⟩, fun hb => ih (k + 1) (by omega) (go (fun q => hb q.1)) _ (nI_1 k)⟩⟩
  exact key (cN S) 0 (by omega) (fun i hi => absurd hi (by omega)) 0 rfl
theorem wh_lt (v : Vs S) {i : Nat} (h : i < cN S) : cWh S i < 4 := by
  obtain ⟨_, b2, b3⟩ := v.say i h
  have := (v.a2 _ b2).2
  omega
theorem call_agree (c : CO t m s S T) (d : RO t m u S T) : wX9_agree t m 1 x x2 x3 (fun r m1 => wX12_agree t m1 75 x x2 x3 (fun r2 m2 => Fin m m2 r r2)) := by
  have L := c.cor.lay
  have v := c.cor.vs
  have m6 := v.m6
  have t8 := v.t8
  have n16 := v.n16
  have hs := c.cor.sch
  have no : (∀ a b, a < cM S → x = nI a → b < cM S → x2 = nI b → x = x2) → wX9_agree_J21 t m 1 (fun r m1 => wX12_agree t m1 75 x x2 x3 (fun r2 m2 => Fin m m2 r r2)) := by
    intro hn
    have q1 : QF m (pI m 1 14 1) := QF.rf.why 1
    have d2 := (d.c q1).q (thr _)
    have fr := fin_refused (m2 := pI (pI m 1 14 1) 75 0 0) L q1 (w14 m 1) (thr _) (by decide)
    unfold wX9_agree_J21
    refine ⟨lk1 L, cx_refuse L ?_⟩
    unfold wX12_agree wX12_agree_J26
    refine ⟨lk75 L, rx_isMaster d2 (fun a ha e => ⟨fun h => absurd h (by decide), fun _ => rx_isMaster d2 (fun b hb e2 => ⟨fun h => absurd h (by decide), fun _ => ⟨fun _ => ⟨lk75 L, fr⟩, fun h => absurd (hn a b ha e hb e2) h⟩⟩) (fun _ => ⟨fun _ => ⟨lk75 L, fr⟩, fun h => absurd rfl h⟩)⟩) (fun _ => ⟨fun _ => ⟨lk75 L, fr⟩, fun h => absurd rfl h⟩)⟩
  unfold wX9_agree
  refine ⟨lk1 L, cx_isMaster c (fun a ha e => ⟨fun h => absurd h (by decide), fun _ => cx_isMaster c (fun b hb e2 => ⟨fun h => absurd h (by decide), fun _ => ⟨fun heq => no (fun _ _ _ _ _ _ => heq), fun hne => ⟨cT S + 1, ?_⟩⟩⟩) (fun hn => ⟨fun _ => no (fun _ b _ _ hb e2 => absurd e2 (hn b hb)), fun h => absurd rfl h⟩)⟩) (fun hn => ⟨fun _ => no (fun a _ ha e _ _ => absurd e (hn a ha)), fun h => absurd rfl h⟩)⟩
  subst e
  subst e2
  have refs : ∀ m1, QF m m1 → gI m1 1 14 = 0 → wX12_agree t m1 75 (nI a) (nI b) x3 (fun r2 m2 => Fin m m2 (nI (bts (agB S a b x3) (cT S))) r2) := by
    intro m1 q1 hw
    have d2 := (d.c q1).q (thr _)
    unfold wX12_agree
    refine ⟨lk75 L, rx_isMaster d2 (fun _ _ _ => ⟨fun h => absurd h (by decide), fun _ => rx_isMaster d2 (fun _ _ _ => ⟨fun h => absurd h (by decide), fun _ => ⟨fun h => absurd h hne, fun _ => ⟨cT S + 1, ?_⟩⟩⟩) (fun h => absurd rfl (h b hb))⟩) (fun h => absurd rfl (h a ha))⟩
    have key : ∀ dd k : Nat, k + dd = cT S → ∀ z4 z5 : Int32, z4 = nI (bts (agB S a b x3) k) → z5 = nI k → wX12_agree_L38 t 75 (nI a) (nI b) x3 (fun r2 m2 => Fin m m2 (nI (bts (agB S a b x3) (cT S))) r2) (fun v24 m25 => wX12_good t m25 75 v24 (fun r26 m27 => Fin m m27 (nI (bts (agB S a b x3) (cT S))) r26)) (dd + 1) z4 z5 (pI m1 75 0 0) := by
      intro dd
      induction dd with
      | zero =>
        intro k hk z4 z5 h4 h5
        have e : k = cT S := by omega
        subst e
        rw [h4, h5, wX12_agree_L38, d2.rc.told, d2.rc.sm.things]
        exact ⟨lk75 L, d2.rc.rl.k, fun _ => fin_good L rfl q1 hw (thr _), fun hh => absurd (nI_le (Nat.le_refl _) (by omega)) hh⟩
      | succ dd ih =>
        intro k hk z4 z5 h4 h5
        rw [h4, h5, wX12_agree_L38, d2.rc.told, d2.rc.sm.things]
        unfold wX12_agree_J94 wX12_agree_J105 wX12_agree_J106
        have n0 : agB S a b x3 k = false → ∀ y : Int32, y = nI (bts (agB S a b x3) k) ||| 0 → wX12_agree_L38 t 75 (nI a) (nI b) x3 (fun r2 m2 => Fin m m2 (nI (bts (agB S a b x3) (cT S))) r2) (fun v24 m25 => wX12_good t m25 75 v24 (fun r26 m27 => Fin m m27 (nI (bts (agB S a b x3) (cT S))) r26)) (dd + 1) y (nI k + 1) (pI m1 75 0 0) := by
          intro hf y hy
          refine ih (k + 1) (by omega) _ _ ?_ (nI_1 k)
          rw [hy, show (0 : Int32) = nI 0 from rfl, fa_or, Nat.or_zero, ← bts_no hf]
        refine ⟨lk75 L, d2.rc.rl.k, fun hh => absurd hh (nI_ge (by omega) (by omega)), fun _ => rsp_firstSaid d2 (by omega) (by omega) (fun i hi => rsp_firstSaid d2 (by omega) (by omega) (fun j hj => ?_) (fun hn => ?_)) (fun hn => rsp_firstSaid d2 (by omega) (by omega) (fun j hj => ?_) (fun hn2 => ?_))⟩
        · have w1 := wh_lt v hi.1
          have w2 := wh_lt v hj.1
          have ne : ∀ w, w < 4 → ¬ nI w = -1 := fun w hw q => nI_pos (n := w) (by omega) (by rw [q]; decide)
          have ay := ag_yes (z := x3) hi hj
          rw [nI_eq (by omega) (by omega)]
          have yes : ∀ bb : Bool, (cWh S i == cWh S j) = bb → (bI bb = x3 → ∀ x20 : Int32, x20 = nI (bts (agB S a b x3) k) ||| ((1 : Int32) <<< (nI k &&& 31)) → wX12_agree_L38 t 75 (nI a) (nI b) x3 (fun r2 m2 => Fin m m2 (nI (bts (agB S a b x3) (cT S))) r2) (fun v24 m25 => wX12_good t m25 75 v24 (fun r26 m27 => Fin m m27 (nI (bts (agB S a b x3) (cT S))) r26)) (dd + 1) x20 (nI k + 1) (pI m1 75 0 0)) ∧ (¬ bI bb = x3 → ∀ y : Int32, y = nI (bts (agB S a b x3) k) ||| 0 → wX12_agree_L38 t 75 (nI a) (nI b) x3 (fun r2 m2 => Fin m m2 (nI (bts (agB S a b x3) (cT S))) r2) (fun v24 m25 => wX12_good t m25 75 v24 (fun r26 m27 => Fin m m27 (nI (bts (agB S a b x3) (cT S))) r26)) (dd + 1) y (nI k + 1) (pI m1 75 0 0)) := by
            intro bb hb
            rw [hb] at ay
            refine ⟨fun h x20 h20 => ih (k + 1) (by omega) _ _ ?_ (nI_1 k), fun h => n0 (by cases hq : agB S a b x3 k with | false => rfl | true => exact absurd (ay.mp hq) h)⟩
            rw [h20, bts_up _ (by omega), bts_yes (ay.mpr h)]
          exact ⟨fun q => absurd q (ne _ w1), fun _ => ⟨fun q => absurd q (ne _ w2), fun _ => ⟨fun q => yes true (beq_iff_eq.mpr q), fun q => yes false (beq_eq_false_iff_ne.mpr q)⟩⟩⟩
        · exact ⟨fun _ => n0 (ag_no (Or.inr hn)), fun _ => ⟨fun _ => n0 (ag_no (Or.inr hn)), fun h => absurd rfl h⟩⟩
        · exact ⟨fun _ => n0 (ag_no (Or.inl hn)), fun h => absurd rfl h⟩
        · exact ⟨fun _ => n0 (ag_no (Or.inl hn)), fun h => absurd rfl h⟩
    exact key (cT S) 0 (by omega) 0 0 rfl rfl
  have key : ∀ dd k : Nat, k + dd = cT S → ∀ z4 z5 : Int32, z4 = nI (bts (agB S a b x3) k) → z5 = nI k → wX9_agree_L33 t 1 (nI a) (nI b) x3 (fun r m1 => wX12_agree t m1 75 (nI a) (nI b) x3 (fun r2 m2 => Fin m m2 r r2)) (fun v29 m30 => wX9_accept t m30 1 v29 (fun r31 m32 => wX12_agree t m32 75 (nI a) (nI b) x3 (fun r2 m2 => Fin m m2 r31 r2))) (dd + 1) z4 z5 m := by
    intro dd
    induction dd with
    | zero =>
      intro k hk z4 z5 h4 h5
      have e : k = cT S := by omega
      subst e
      rw [h4, h5, wX9_agree_L33, c.x3, c.cor.sm.things]
      exact ⟨lk1 L, ls_k L hs, fun _ => cx_accept L (refs _ (QF.rf.why 0) (w14 m 0)), fun hh => absurd (nI_le (Nat.le_refl _) (by omega)) hh⟩
    | succ dd ih =>
      intro k hk z4 z5 h4 h5
      rw [h4, h5, wX9_agree_L33, c.x3, c.cor.sm.things]
      unfold wX9_agree_J107 wX9_agree_J120
      have n0 : agB S a b x3 k = false → wX9_agree_L33 t 1 (nI a) (nI b) x3 (fun r m1 => wX12_agree t m1 75 (nI a) (nI b) x3 (fun r2 m2 => Fin m m2 r r2)) (fun v29 m30 => wX9_accept t m30 1 v29 (fun r31 m32 => wX12_agree t m32 75 (nI a) (nI b) x3 (fun r2 m2 => Fin m m2 r31 r2))) (dd + 1) (nI (bts (agB S a b x3) k)) (nI k + 1) m := by
        intro hf
        refine ih (k + 1) (by omega) _ _ ?_ (nI_1 k)
        rw [← bts_no hf]
      refine ⟨lk1 L, ls_k L hs, fun hh => absurd hh (nI_ge (by omega) (by omega)), fun _ => sp_firstSaying c.cor (by omega) (by omega) (fun i hi => ?_) (fun hn => ?_)⟩
      · rw [c.x3]
        refine ⟨ls_k L hs, sp_firstSaying c.cor (by omega) (by omega) (fun j hj => ?_) (fun hn => ?_)⟩
        · have w1 := wh_lt v hi.1
          have w2 := wh_lt v hj.1
          have i17 := hi.1
          have j17 := hj.1
          have ay := ag_yes (z := x3) hi hj
          rw [c.x3]
          simp only [ls_k L hs, ls_r1 L hs, ls_k1 L hs, ls_l1 L hs, ls_r3 L hs, ls_k3 L hs, ls_l3 L hs, ls_r6 L hs, ls_k6 L hs, ls_l6 L hs, ls_r7 L hs, ls_k7 L hs, ls_l7 L hs, ls_r8 L hs, ls_k8 L hs, ls_l8 L hs, ls_r9 L hs, ls_k9 L hs, ls_l9 L hs, ls_r11 L hs, ls_k11 L hs, ls_l11 L hs, ls_r15 L hs, ls_k15 L hs, ls_l15 L hs, ls_r16 L hs, ls_k16 L hs, ls_l16 L hs, ls_r17 L hs, ls_k17 L hs, ls_l17 L hs, ls_r19 L hs, ls_k19 L hs, ls_l19 L hs, nI_cl (show i < 2 ^ 31 by omega), nI_cl (show j < 2 ^ 31 by omega), (c.cor.say.tab i hi.1).2.2, (c.cor.say.tab j hj.1).2.2, nI_eq (show cWh S i < 2 ^ 31 by omega) (show cWh S j < 2 ^ 31 by omega), true_and]
          have yes : ∀ bb : Bool, (cWh S i == cWh S j) = bb → (bI bb = x3 → ∀ x28 : Int32, x28 = nI (bts (agB S a b x3) k) ||| ((1 : Int32) <<< (nI k &&& 31)) → wX9_agree_L33 t 1 (nI a) (nI b) x3 (fun r m1 => wX12_agree t m1 75 (nI a) (nI b) x3 (fun r2 m2 => Fin m m2 r r2)) (fun v29 m30 => wX9_accept t m30 1 v29 (fun r31 m32 => wX12_agree t m32 75 (nI a) (nI b) x3 (fun r2 m2 => Fin m m2 r31 r2))) (dd + 1) x28 (nI k + 1) m) ∧ (¬ bI bb = x3 → wX9_agree_L33 t 1 (nI a) (nI b) x3 (fun r m1 => wX12_agree t m1 75 (nI a) (nI b) x3 (fun r2 m2 => Fin m m2 r r2)) (fun v29 m30 => wX9_accept t m30 1 v29 (fun r31 m32 => wX12_agree t m32 75 (nI a) (nI b) x3 (fun r2 m2 => Fin m m2 r31 r2))) (dd + 1) (nI (bts (agB S a b x3) k)) (nI k + 1) m) := by
            intro bb hb
            rw [hb] at ay
            refine ⟨fun h x28 h28 => ih (k + 1) (by omega) _ _ ?_ (nI_1 k), fun h => n0 (by cases hq : agB S a b x3 k with | false => rfl | true => exact absurd (ay.mp hq) h)⟩
            rw [h28, bts_up _ (by omega), bts_yes (ay.mpr h)]
          exact ⟨fun q => absurd q (nI_pos (by omega)), fun _ => ⟨fun q => absurd q (nI_pos (by omega)), fun _ => ⟨vp_nI (by omega) (by decide), vp_nI (by omega) (by decide), fun q => yes true (beq_iff_eq.mpr q), fun q => yes false (beq_eq_false_iff_ne.mpr q)⟩⟩⟩
        · exact ⟨fun _ => n0 (ag_no (Or.inr hn)), fun _ => ⟨fun _ => n0 (ag_no (Or.inr hn)), fun h => absurd (by decide) h⟩⟩
      · rw [c.x3]
        exact ⟨ls_k L hs, sp_firstSaying c.cor (by omega) (by omega) (fun j hj => ⟨fun _ => n0 (ag_no (Or.inl hn)), fun h => absurd (by decide) h⟩) (fun hn2 => ⟨fun _ => n0 (ag_no (Or.inl hn)), fun h => absurd (by decide) h⟩)⟩
  exact key (cT S) 0 (by omega) 0 0 rfl rfl
end
