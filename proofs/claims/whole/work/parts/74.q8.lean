/-! Queries: still, saying, fact, spent -/
def isSt (val : Nat → Nat) (c : Nat) (r : Int32) : Prop := (∃ k, k ≤ 100 ∧ r = nI k ∧ c ≤ val k ∧ ∀ j, j < k → val j < c) ∨ (r = -2 ∧ ∀ j, j ≤ 100 → val j < c)
section
variable {t : zT} {m m' m1 m2 : zM} {s u r : Nat} {S : Sc} {T : Ts} {P : Nat → Bool} {x x2 x3 : Int32}
theorem call_still (L : Lay t m) : wX9_still t m 1 x x2 x3 (fun r m1 => wX12_still t m1 75 x x2 x3 (fun r2 m2 => Fin m m2 r r2)) := by
  have no : ¬ (∃ a b c, a ≤ 1000000 ∧ b ≤ 40 ∧ c ≤ 1000000 ∧ x = nI a ∧ x2 = nI b ∧ x3 = nI c) → wX9_still_J29 t m 1 (fun r m1 => wX12_still t m1 75 x x2 x3 (fun r2 m2 => Fin m m2 r r2)) := by
    intro hn
    have q1 : QF m (pI m 1 14 2) := QF.rf.why 2
    have fr := fin_refused (m2 := pI (pI m 1 14 2) 75 0 0) L q1 (w14 m 2) (thr _) (by decide)
    unfold wX9_still_J29
    refine ⟨lk1 L, cx_refuse L ?_⟩
    unfold wX12_still wX12_still_J37
    exact ⟨lk75 L, rx_in0 (hi := 1000000) (by decide) (fun a ha e => ⟨fun h => absurd h (by decide), fun _ => rx_in0 (hi := 40) (by decide) (fun b hb e2 => ⟨fun h => absurd h (by decide), fun _ => rx_in0 (hi := 1000000) (by decide) (fun c hc e3 => absurd ⟨a, b, c, ha, hb, hc, e, e2, e3⟩ hn) (fun _ => ⟨fun _ => ⟨lk75 L, fr⟩, fun h => absurd rfl h⟩)⟩) (fun _ => ⟨fun _ => ⟨lk75 L, fr⟩, fun h => absurd rfl h⟩)⟩) (fun _ => ⟨fun _ => ⟨lk75 L, fr⟩, fun h => absurd rfl h⟩)⟩
  unfold wX9_still
  refine cx_within (hi := 1000000) (by decide) (fun a ha e => ⟨fun h => absurd h (by decide), fun _ => cx_within (hi := 40) (by decide) (fun b hb e2 => ⟨fun h => absurd h (by decide), fun _ => cx_within (hi := 1000000) (by decide) (fun c hc e3 => ⟨fun h => absurd h (by decide), fun _ => ?_⟩) (fun hn => ⟨fun _ => no (fun ⟨_, _, c, _, _, hc, _, _, e3⟩ => hn c hc e3), fun h => absurd rfl h⟩)⟩) (fun hn => ⟨fun _ => no (fun ⟨_, b, _, _, hb, _, _, e2, _⟩ => hn b hb e2), fun h => absurd rfl h⟩)⟩) (fun hn => ⟨fun _ => no (fun ⟨a, _, _, ha, _, _, e, _, _⟩ => hn a ha e), fun h => absurd rfl h⟩)
  subst e e2 e3
  have hv : ∀ k, ∃ v', k ≤ 100 → v' ≤ 1000000 ∧ aft (nI k) b (lN a) = lN v' := by
    intro k
    by_cases hk : k ≤ 100
    · obtain ⟨v', h1, h2⟩ := aft_val hk b a ha
      exact ⟨v', fun _ => ⟨h1, h2⟩⟩
    · exact ⟨0, fun h => absurd h hk⟩
  obtain ⟨val, hval⟩ := Classical.axiomOfChoice hv
  have q1 : QF m (pI m 1 14 0) := QF.rf.why 0
  have refs : ∀ r1, isSt val c r1 → wX12_still t (pI m 1 14 0) 75 (nI a) (nI b) (nI c) (fun r2 m2 => Fin m m2 r1 r2) := by
    intro r1 hr
    unfold wX12_still
    refine ⟨lk75 L, rx_in0 (hi := 1000000) (by decide) (fun _ _ _ => ⟨fun h => absurd h (by decide), fun _ => rx_in0 (hi := 40) (by decide) (fun _ _ _ => ⟨fun h => absurd h (by decide), fun _ => rx_in0 (hi := 1000000) (by decide) (fun _ _ _ => ⟨fun h => absurd h (by decide), fun _ => ⟨102, ?_⟩⟩) (fun h => absurd rfl (h c hc))⟩) (fun h => absurd rfl (h b hb))⟩) (fun h => absurd rfl (h a ha))⟩
    have key : ∀ dd k : Nat, k + dd = 101 → (∀ j, j < k → val j < c) → ∀ z : Int32, z = nI k → wX12_still_L46 t 75 (nI a) (nI b) (nI c) (fun r2 m2 => Fin m m2 r1 r2) (fun m21 => wX12_good t m21 75 (-2) (fun r22 m23 => Fin m m23 r1 r22)) (dd + 1) z (pI (pI m 1 14 0) 75 0 0) := by
      intro dd
      induction dd with
      | zero =>
        intro k hk g z hz
        have e : k = 101 := by omega
        subst e
        rw [hz, wX12_still_L46]
        refine ⟨fun _ => fin_good L ?_ q1 (w14 m 0) (thr _), fun hh => absurd (by decide) hh⟩
        rcases hr with ⟨k, h1, h2, h3, h4⟩ | ⟨h1, h2⟩
        · have := g k (by omega); omega
        · exact h1
      | succ dd ih =>
        intro k hk g z hz
        obtain ⟨v1, v2⟩ := hval k (by omega)
        rw [hz, wX12_still_L46]
        refine ⟨fun hh => absurd hh (nI_nlt (b := k) (a := 100) (by omega) (by decide)), fun _ => rsp_after (by omega) (by omega) ?_⟩
        rw [v2, nI_l (show c < 2 ^ 31 by omega), lg_cmp_lt, lN_lt (by omega) (by omega)]
        refine ⟨fun hlt => ih (k + 1) (by omega) (fun j hj => ?_) _ (nI_1 k), fun hlt => ⟨lk75 L, fin_good L ?_ q1 (w14 m 0) (thr _)⟩⟩
        · rcases (show j < k ∨ j = k by omega) with q | q
          · exact g j q
          · subst q; exact hlt
        · rcases hr with ⟨k', h1, h2, h3, h4⟩ | ⟨h1, h2⟩
          · rw [h2]
            rcases Nat.lt_trichotomy k k' with q | q | q
            · have := h4 k q; omega
            · rw [q]
            · have := g k' q; omega
          · have := h2 k (by omega); omega
    exact key 101 0 (by omega) (fun j hj => absurd hj (by omega)) 0 rfl
  refine ⟨102, ?_⟩
  have key : ∀ dd k : Nat, k + dd = 101 → (∀ j, j < k → val j < c) → ∀ z : Int32, z = nI k → wX9_still_L38 t 1 (nI a) (nI b) (nI c) (fun r m1 => wX12_still t m1 75 (nI a) (nI b) (nI c) (fun r2 m2 => Fin m m2 r r2)) (fun m20 => tK t 1 = 9 ∧ wX9_accept t m20 1 (-2) (fun r22 m23 => wX12_still t m23 75 (nI a) (nI b) (nI c) (fun r2 m2 => Fin m m2 r22 r2))) (dd + 1) z m := by
    intro dd
    induction dd with
    | zero =>
      intro k hk g z hz
      have e : k = 101 := by omega
      subst e
      rw [hz, wX9_still_L38]
      exact ⟨fun _ => ⟨lk1 L, cx_accept L (refs (-2) (Or.inr ⟨rfl, fun j hj => g j (by omega)⟩))⟩, fun hh => absurd (by decide) hh⟩
    | succ dd ih =>
      intro k hk g z hz
      obtain ⟨v1, v2⟩ := hval k (by omega)
      rw [hz, wX9_still_L38]
      refine ⟨fun hh => absurd hh (nI_nlt (b := k) (a := 100) (by omega) (by decide)), fun _ => sp_afterYears (by omega) (by omega) ?_⟩
      rw [v2, lN_i, nI_ltI (by omega) (by omega)]
      refine ⟨fun hlt => ih (k + 1) (by omega) (fun j hj => ?_) _ (nI_1 k), fun hlt => ⟨lk1 L, cx_accept L (refs (nI k) (Or.inl ⟨k, by omega, rfl, by omega, g⟩))⟩⟩
      rcases (show j < k ∨ j = k by omega) with q | q
      · exact g j q
      · subst q; exact hlt
  exact key 101 0 (by omega) (fun j hj => absurd hj (by omega)) 0 rfl
theorem in2_no {hi : Nat} (hhi : hi < 2 ^ 31) (h : x.toInt < 0 ∨ (hi : Int) < x.toInt) : ∀ n, n ≤ hi → x ≠ nI n := by
  intro n hn e
  rw [e, nI_toInt (by omega)] at h
  omega
theorem call_saying (c : CO t m s S T) (d : RO t m u S T) : wX9_saying t m 1 x x2 (fun r m1 => wX12_saying t m1 75 x x2 (fun r2 m2 => Fin m m2 r r2)) := by
  have L := c.cor.lay
  have hs := c.cor.sch
  have v := c.cor.vs
  have n16 := v.n16
  have q1 : QF m (pI m 1 14 1) := QF.rf.why 1
  have d2 := (d.c q1).q (thr _)
  have fr := fin_refused (m2 := pI (pI m 1 14 1) 75 0 0) L q1 (w14 m 1) (thr _) (by decide)
  have p1 : QF m (pI m 1 14 0) := QF.rf.why 0
  have e2 := (d.c p1).q (thr _)
  have RLc := e2.rc.rl
  unfold wX9_saying
  refine ⟨lk1 L, cx_isSaying c (fun k hk e => ⟨fun h => absurd h (by decide), fun _ => ⟨fun c5 => cx_refuse L ?_, fun e0 => ?_, fun e0 => ?_, fun e0 => ?_⟩⟩) (fun hn => ⟨fun _ => cx_refuse L ?_, fun h => absurd rfl h⟩)⟩
  · unfold wX12_saying wX12_saying_J22
    exact ⟨lk75 L, rx_isSaying d2 (fun k' hk' e' => ⟨fun h => absurd h (by decide), fun _ => rx_in0 (hi := 2) (by decide) (fun n hn en => absurd en (in2_no (hi := 2) (by decide) c5 n hn)) (fun _ => ⟨fun _ => ⟨lk75 L, fr⟩, fun h => absurd rfl h⟩)⟩) (fun _ => ⟨fun _ => ⟨lk75 L, fr⟩, fun h => absurd rfl h⟩)⟩
  all_goals try subst e0
  all_goals try subst e
  · rw [c.x3]
    simp only [ls_k L hs, ls_r1 L hs, ls_k1 L hs, ls_l1 L hs, ls_r3 L hs, ls_k3 L hs, ls_l3 L hs, ls_r6 L hs, ls_k6 L hs, ls_l6 L hs, ls_r7 L hs, ls_k7 L hs, ls_l7 L hs, ls_r8 L hs, ls_k8 L hs, ls_l8 L hs, ls_r9 L hs, ls_k9 L hs, ls_l9 L hs, ls_r11 L hs, ls_k11 L hs, ls_l11 L hs, ls_r15 L hs, ls_k15 L hs, ls_l15 L hs, ls_r16 L hs, ls_k16 L hs, ls_l16 L hs, ls_r17 L hs, ls_k17 L hs, ls_l17 L hs, ls_r19 L hs, ls_k19 L hs, ls_l19 L hs, nI_cl (show k < 2 ^ 31 by omega), (c.cor.say.tab k hk).1, true_and]
    refine ⟨vp_nI (by omega) (by decide), cx_accept L ?_⟩
    unfold wX12_saying wX12_saying_J71
    refine ⟨lk75 L, rx_isSaying e2 (fun k' hk' e' => ⟨fun h => absurd h (by decide), fun _ => rx_in0 (hi := 2) (by decide) (fun n hn en => ⟨fun h => absurd h (by decide), fun _ => ⟨fun _ => ?_, fun h => absurd rfl h⟩⟩) (fun h => absurd rfl (h 0 (by decide)))⟩) (fun h => absurd rfl (h k hk))⟩
    simp only [e2.rc.told, RLc.k, RLc.r1, RLc.k1, RLc.l1, RLc.r2, RLc.k2, RLc.l2, RLc.r3, RLc.k3, RLc.l3, RLc.r4, RLc.k4, RLc.l4, RLc.r5, RLc.k5, RLc.l5, RLc.r6, RLc.k6, RLc.l6, RLc.r7, RLc.k7, RLc.l7, RLc.r8, RLc.k8, RLc.l8, RLc.r9, RLc.k9, RLc.l9, RLc.r10, RLc.k10, RLc.l10, RLc.r11, RLc.k11, RLc.l11, RLc.r12, RLc.k12, RLc.l12, RLc.r13, RLc.k13, RLc.l13, RLc.r14, RLc.k14, RLc.l14, nI_cl (show k < 2 ^ 31 by omega), (e2.sy.tab k hk).1, true_and]
    exact ⟨vp_nI (by omega) (by decide), lk75 L, fin_good L rfl p1 (w14 m 0) (thr _)⟩
  · rw [c.x3]
    simp only [ls_k L hs, ls_r1 L hs, ls_k1 L hs, ls_l1 L hs, ls_r3 L hs, ls_k3 L hs, ls_l3 L hs, ls_r6 L hs, ls_k6 L hs, ls_l6 L hs, ls_r7 L hs, ls_k7 L hs, ls_l7 L hs, ls_r8 L hs, ls_k8 L hs, ls_l8 L hs, ls_r9 L hs, ls_k9 L hs, ls_l9 L hs, ls_r11 L hs, ls_k11 L hs, ls_l11 L hs, ls_r15 L hs, ls_k15 L hs, ls_l15 L hs, ls_r16 L hs, ls_k16 L hs, ls_l16 L hs, ls_r17 L hs, ls_k17 L hs, ls_l17 L hs, ls_r19 L hs, ls_k19 L hs, ls_l19 L hs, nI_cl (show k < 2 ^ 31 by omega), (c.cor.say.tab k hk).2.1, true_and]
    refine ⟨vp_nI (by omega) (by decide), cx_accept L ?_⟩
    unfold wX12_saying wX12_saying_J71
    refine ⟨lk75 L, rx_isSaying e2 (fun k' hk' e' => ⟨fun h => absurd h (by decide), fun _ => rx_in0 (hi := 2) (by decide) (fun n hn en => ⟨fun h => absurd h (by decide), fun _ => ⟨fun h => absurd h (by decide), fun _ => ⟨fun _ => ?_, fun h => absurd rfl h⟩⟩⟩) (fun h => absurd rfl (h 1 (by decide)))⟩) (fun h => absurd rfl (h k hk))⟩
    simp only [e2.rc.told, RLc.k, RLc.r1, RLc.k1, RLc.l1, RLc.r2, RLc.k2, RLc.l2, RLc.r3, RLc.k3, RLc.l3, RLc.r4, RLc.k4, RLc.l4, RLc.r5, RLc.k5, RLc.l5, RLc.r6, RLc.k6, RLc.l6, RLc.r7, RLc.k7, RLc.l7, RLc.r8, RLc.k8, RLc.l8, RLc.r9, RLc.k9, RLc.l9, RLc.r10, RLc.k10, RLc.l10, RLc.r11, RLc.k11, RLc.l11, RLc.r12, RLc.k12, RLc.l12, RLc.r13, RLc.k13, RLc.l13, RLc.r14, RLc.k14, RLc.l14, nI_cl (show k < 2 ^ 31 by omega), (e2.sy.tab k hk).2.1, true_and]
    exact ⟨vp_nI (by omega) (by decide), lk75 L, fin_good L rfl p1 (w14 m 0) (thr _)⟩
  · rw [c.x3]
    simp only [ls_k L hs, ls_r1 L hs, ls_k1 L hs, ls_l1 L hs, ls_r3 L hs, ls_k3 L hs, ls_l3 L hs, ls_r6 L hs, ls_k6 L hs, ls_l6 L hs, ls_r7 L hs, ls_k7 L hs, ls_l7 L hs, ls_r8 L hs, ls_k8 L hs, ls_l8 L hs, ls_r9 L hs, ls_k9 L hs, ls_l9 L hs, ls_r11 L hs, ls_k11 L hs, ls_l11 L hs, ls_r15 L hs, ls_k15 L hs, ls_l15 L hs, ls_r16 L hs, ls_k16 L hs, ls_l16 L hs, ls_r17 L hs, ls_k17 L hs, ls_l17 L hs, ls_r19 L hs, ls_k19 L hs, ls_l19 L hs, nI_cl (show k < 2 ^ 31 by omega), (c.cor.say.tab k hk).2.2, true_and]
    refine ⟨vp_nI (by omega) (by decide), cx_accept L ?_⟩
    unfold wX12_saying wX12_saying_J71
    refine ⟨lk75 L, rx_isSaying e2 (fun k' hk' e' => ⟨fun h => absurd h (by decide), fun _ => rx_in0 (hi := 2) (by decide) (fun n hn en => ⟨fun h => absurd h (by decide), fun _ => ⟨fun h => absurd h (by decide), fun _ => ⟨fun h => absurd h (by decide), fun _ => ?_⟩⟩⟩) (fun h => absurd rfl (h 2 (by decide)))⟩) (fun h => absurd rfl (h k hk))⟩
    simp only [e2.rc.told, RLc.k, RLc.r1, RLc.k1, RLc.l1, RLc.r2, RLc.k2, RLc.l2, RLc.r3, RLc.k3, RLc.l3, RLc.r4, RLc.k4, RLc.l4, RLc.r5, RLc.k5, RLc.l5, RLc.r6, RLc.k6, RLc.l6, RLc.r7, RLc.k7, RLc.l7, RLc.r8, RLc.k8, RLc.l8, RLc.r9, RLc.k9, RLc.l9, RLc.r10, RLc.k10, RLc.l10, RLc.r11, RLc.k11, RLc.l11, RLc.r12, RLc.k12, RLc.l12, RLc.r13, RLc.k13, RLc.l13, RLc.r14, RLc.k14, RLc.l14, nI_cl (show k < 2 ^ 31 by omega), (e2.sy.tab k hk).2.2, true_and]
    exact ⟨vp_nI (by omega) (by decide), lk75 L, fin_good L rfl p1 (w14 m 0) (thr _)⟩
  · unfold wX12_saying wX12_saying_J22
    exact ⟨lk75 L, rx_isSaying d2 (fun k' hk' e' => absurd e' (hn k' hk')) (fun _ => ⟨fun _ => ⟨lk75 L, fr⟩, fun h => absurd rfl h⟩)⟩
theorem tfb_lt (v : Vs S) {fb : Nat} (h : fb < 2 ^ cT S) : fb < 256 := by
  have : 2 ^ cT S ≤ 2 ^ 8 := Nat.pow_le_pow_right (by decide) v.t8
  omega
theorem cx_isFact (hK : tK t 61 = 7) {fb k : Nat} (h2 : gI m 61 2 = nI fb) (hf : fb < 2 ^ 31) (hk : k < 31) {Q : Int32 → zM → Prop} (h1 : fb.testBit k = true → Q 1 m) (h0 : fb.testBit k = false → Q 0 m) : wX7_isFact t m 61 (nI k) Q := by
  unfold wX7_isFact
  rw [h2, nI_bit0 hf hk]
  exact ⟨hK, fun h => h0 h, fun h => h1 (ts_false h)⟩
theorem m1I_pos {h : Nat} (hh : h ≠ 0) : m1I h = nI (h - 1) := if_neg hh
theorem call_fact (c : CO t m s S T) (d : RO t m u S T) : wX9_fact t m 1 x (fun r m1 => wX12_fact t m1 75 x (fun r2 m2 => Fin m m2 r r2)) := by
  have L := c.cor.lay
  have v := c.cor.vs
  have t8 := v.t8
  have q1 : QF m (pI m 1 14 1) := QF.rf.why 1
  have d2 := (d.c q1).q (thr _)
  have p1 : QF m (pI m 1 14 0) := QF.rf.why 0
  have e2 := (d.c p1).q (thr _)
  have fb := tfb_lt v c.tm.val.2.2.1
  unfold wX9_fact
  refine ⟨lk1 L, cx_isThing c (fun k hk e => ⟨fun h => absurd h (by decide), fun _ => ⟨by rw [lr1_6 L]; exact lk61 L, ?_⟩⟩) (fun hn => ⟨fun _ => cx_refuse L ?_, fun h => absurd rfl h⟩)⟩
  · subst e
    have ref : ∀ r1, r1 = fcI (Fcf S (thd T 3) (tfb T 3) k) → wX9_fact_J46 t m r1 1 (fun r m1 => wX12_fact t m1 75 (nI k) (fun r2 m2 => Fin m m2 r r2)) := by
      intro r1 hr
      unfold wX9_fact_J46
      refine ⟨lk1 L, cx_accept L ?_⟩
      unfold wX12_fact
      refine ⟨lk75 L, rx_isThing e2 (fun _ _ _ => ⟨fun h => absurd h (by decide), fun _ => ?_⟩) (fun h => absurd rfl (h k hk))⟩
      rw [lr75_26 e2.rc.lay, lk82 L, ll82 L, nI_cl (show k < 2 ^ 31 by omega), e2.tm.fact k (by omega)]
      exact ⟨rfl, vp_nI (by omega) (by decide), fin_good L hr p1 (w14 m 0) (thr _)⟩
    rw [lr1_6 L]
    refine cx_isFact (lk61 L) c.tm.facts (by omega) (by omega) (fun hb => ⟨fun h => absurd h (by decide), fun _ => ?_⟩) (fun hb => ⟨fun _ => ref (-2) ?_, fun h => absurd rfl h⟩)
    · have hd : thd T 3 ≠ 0 := fun q => by rw [c.tm.val.2.2.2 q, Nat.zero_testBit] at hb; cases hb
      have hl := c.tm.val.2.1
      rw [lr1_6 L, lr1_2 L, c.tm.hidden, m1I_pos hd]
      refine ⟨lk61 L, lk20 L, sp_answerIn c.cor (by omega) hk (ref _ ?_)⟩
      simp [fcI, Fcf, hb]
    · simp [fcI, Fcf, hb]
  · unfold wX12_fact
    exact ⟨lk75 L, rx_isThing d2 (fun k hk e => absurd e (hn k hk)) (fun _ => ⟨fun _ => fin_refused L q1 (w14 m 1) (thr _) (by decide), fun h => absurd rfl h⟩)⟩
theorem call_spent (c : CO t m s S T) (d : RO t m u S T) : wX9_spent t m 1 (fun r m1 => wX12_spent t m1 75 (fun r2 m2 => Fin m m2 r r2)) := by
  have L := c.cor.lay
  have p1 : QF m (pI m 1 14 0) := QF.rf.why 0
  have e1 := d.c p1
  have e2 := e1.q (thr _)
  unfold wX9_spent
  refine ⟨lk1 L, cx_isOpen c ⟨fun h => absurd h (by decide), fun _ => ?_⟩⟩
  rw [lr1_6 L, c.tm.costs]
  refine ⟨lk61 L, cx_accept L ?_⟩
  show wX12_spent t (pI m 1 14 0) 75 (fun r2 m2 => Fin m m2 (tcs T 3) r2)
  unfold wX12_spent
  rw [lr75_26 e1.rc.lay, lk82 L, ll82 L]
  refine ⟨lk75 L, fun h => absurd h (u_ne e1), fun _ => ⟨rfl, vp_nI (n := 9) (by decide) (by decide), fin_good L ?_ p1 (w14 m 0) (thr _)⟩⟩
  exact (e2.tm.spent).symm
end
