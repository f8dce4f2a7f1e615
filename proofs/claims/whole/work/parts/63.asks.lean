/-! The reference's asks -/
def AskM (m : zM) (S : Sc) (P : Nat → Bool) : Prop := (gI m 75 19 = nI (mny S P)) ∧ (∀ w, w < cnt S → gI m 78 w = bI (P w)) ∧ (∀ k, k < cT S → ∀ a, a < 4 → gI m 79 (4 * k + a) = nI (oft S P k a))
theorem AskM.many {m : zM} {S : Sc} {P : Nat → Bool} (h_ : AskM m S P) : gI m 75 19 = nI (mny S P) := h_.1
theorem AskM.is_ {m : zM} {S : Sc} {P : Nat → Bool} (h_ : AskM m S P) : ∀ w, w < cnt S → gI m 78 w = bI (P w) := h_.2.1
theorem AskM.often {m : zM} {S : Sc} {P : Nat → Bool} (h_ : AskM m S P) : ∀ k, k < cT S → ∀ a, a < 4 → gI m 79 (4 * k + a) = nI (oft S P k a) := h_.2.2
section
variable {t : zT} {m m' : zM} {u : Nat} {S : Sc} {T : List Nat} {set lw w N mm k tt : Nat} {P : Nat → Bool}
theorem bI_and (b : Bool) : bI b &&& 1 = bI b := by cases b <;> decide
noncomputable def askP (S : Sc) (set lw : Nat) (fa : Bool) (Fc : Nat → Nat) (w : Nat) : Bool := @and (@decide (Lf S set lw w) (Classical.propDecidable _)) (!fa || FacB S Fc w)
theorem askP_eq {fa : Bool} {Fc : Nat → Nat} : askP S set lw fa Fc w = (LfB S set lw w && (!fa || FacB S Fc w)) := rfl
/-- the state of asks behind k ways -/
def AsK (m : zM) (S : Sc) (P : Nat → Bool) (k : Nat) : Prop := (gI m 75 19 = nI (fb_ct P k)) ∧ (∀ w, w < k → gI m 78 w = bI (P w)) ∧ (∀ j, j < cT S → ∀ a, a < 4 → gI m 79 (4 * j + a) = nI (fb_ct (fun w => P w && (ans S w j == a)) k))
theorem AsK.many {m : zM} {S : Sc} {P : Nat → Bool} {k : Nat} (h_ : AsK m S P k) : gI m 75 19 = nI (fb_ct P k) := h_.1
theorem AsK.is_ {m : zM} {S : Sc} {P : Nat → Bool} {k : Nat} (h_ : AsK m S P k) : ∀ w, w < k → gI m 78 w = bI (P w) := h_.2.1
theorem AsK.often {m : zM} {S : Sc} {P : Nat → Bool} {k : Nat} (h_ : AsK m S P k) : ∀ j, j < cT S → ∀ a, a < 4 → gI m 79 (4 * j + a) = nI (fb_ct (fun w => P w && (ans S w j == a)) k) := h_.2.2
set_option maxHeartbeats 1000000 in
theorem rsp_asks (c : RC t m u S) (y : RSy m u S N) (hset : ∀ i, set.testBit i = true → i < N) (hN : N ≤ cN S + 1) (hsz : set < 2 ^ 17) (hlw : lw.testBit 1 = true → (cLw S).testBit 1 = true) {fa : Bool} {Fc : Nat → Nat} (hF : fa = true → ∀ k, k < cT S → gI m 82 k = fcI (Fc k) ∧ Fc k ≤ 4) {Q : zM → Prop} (hQ : ∀ m', Fr [75, 78, 79] m m' → (∀ j, j ≠ 19 → gI m' 75 j = gI m 75 j) → AskM m' S (askP S set lw fa Fc) → Q m') : wX12_asks t m 75 (nI set) (nI lw) (bI fa) Q := by
  have L := c.lay
  have v := c.vs
  have t8 := v.t8
  have hc := v.cnt
  have RLc := c.rl
  have u85 := RLc.u85
  have oT : ∀ a, 85 ≤ a → a ∉ [75, 78, 79] := by
    intro a ha
    simp only [List.mem_cons, List.not_mem_nil, or_false]
    omega
  unfold wX12_asks
  refine ⟨lk75 L, 33, ?_⟩
  -- the second loop
  have main : ∀ m2, Fr [75, 78, 79] m m2 → (∀ j, j ≠ 19 → gI m2 75 j = gI m 75 j) → gI m2 75 19 = 0 → (∀ j, j < 32 → gI m2 79 j = 0) → ∃ n33, wX12_asks_L35 t 75 (nI set) (nI lw) (bI fa) Q (fun m32 => Q m32) n33 0 m2 := by
    intro m2 f2 g2 g2a g2b
    refine ⟨cnt S + 1, ?_⟩
    have key : ∀ d k : Nat, k + d = cnt S → ∀ m3, Fr [75, 78, 79] m m3 → (∀ j, j ≠ 19 → gI m3 75 j = gI m 75 j) → AsK m3 S (askP S set lw fa Fc) k → ∀ x : Int32, x = nI k → wX12_asks_L35 t 75 (nI set) (nI lw) (bI fa) Q (fun m32 => Q m32) (d + 1) x m3 := by
      intro d
      induction d with
      | zero =>
        intro k hk m3 f3 g3 a3 x hx
        have e : k = cnt S := by omega
        subst e
        have c3 := c.fr f3 oT (by decide)
        rw [hx, wX12_asks_L35, c3.told, c3.sm.ways]
        exact ⟨lk75 L, RLc.k, fun _ => hQ m3 f3 g3 ⟨a3.many, a3.is_, a3.often⟩, fun hh => absurd (nI_le (Nat.le_refl _) (by omega)) hh⟩
      | succ d ih =>
        intro k hk m3 f3 g3 a3 x hx
        have hk1 : k < cnt S := by omega
        have c3 := c.fr f3 oT (by decide)
        have L3 := c3.lay
        have y3 := y.fr f3 (fun a ha => oT a (by omega))
        have v78 : vp_in (nI k) 4096 := vp_nI (by omega) (by decide)
        have body : ∀ s0 : Int32, s0 = bI (askP S set lw fa Fc k) → wX12_asks_J82 t m3 75 (nI set) (nI lw) (bI fa) (nI k) s0 (nI k) 78 Q (wX12_asks_L35 t 75 (nI set) (nI lw) (bI fa) Q (fun m32 => Q m32) (d + 1)) := by
          intro s0 hs0
          unfold wX12_asks_J82
          rw [lk78 L, ll78 L, lr75_17 L3, lk78 L, ll78 L, nI_cl (show k < 2 ^ 31 by omega), hs0, bI_and]
          simp only [gII, and_self, if_true, true_and, show ¬ 75 = 78 by decide, false_and, if_false]
          have f4 : Fr [75, 78, 79] m (pI m3 78 k (bI (askP S set lw fa Fc k))) := Fr.pI f3 (by decide)
          have is4 : ∀ w, w < k + 1 → gI (pI m3 78 k (bI (askP S set lw fa Fc k))) 78 w = bI (askP S set lw fa Fc w) := by
            intro w hw
            by_cases z : w = k
            · subst z; simp only [gII, and_self, if_true]
            · simp only [gII, z, and_false, if_false]; exact a3.is_ w (by omega)
          refine ⟨v78, lk75 L, v78, fun hz => ?_, fun hz => ⟨cT S + 1, ?_⟩⟩
          · have hz := bI_0.mp hz
            unfold wX12_asks_J149
            refine ih (k + 1) (by omega) _ f4 (fun j hj => ?_) ⟨?_, is4, fun j hj a ha => ?_⟩ _ (nI_1 k)
            · simp (config := { decide := true }) only [gII, false_and, if_false]; exact g3 j hj
            · simp (config := { decide := true }) only [gII, false_and, if_false]
              rw [a3.many, fb_ct_succ, hz]; rfl
            · simp (config := { decide := true }) only [gII, false_and, if_false]
              rw [a3.often j hj a ha, fb_ct_succ, hz]; rfl
          · have hz : askP S set lw fa Fc k = true := ts_false (fun q => hz (bI_0.mpr q))
            have f5 : Fr [75, 78, 79] m (pI (pI m3 78 k (bI (askP S set lw fa Fc k))) 75 19 (gI m3 75 19 + 1)) := Fr.pI f4 (by decide)
            have q5 : gI (pI (pI m3 78 k (bI (askP S set lw fa Fc k))) 75 19 (gI m3 75 19 + 1)) 75 19 = nI (fb_ct (askP S set lw fa Fc) (k + 1)) := by
              simp only [gII, and_self, if_true]
              rw [a3.many, nI_1, fb_ct_succ, hz]; rfl
            have g5 : ∀ j, j ≠ 19 → gI (pI (pI m3 78 k (bI (askP S set lw fa Fc k))) 75 19 (gI m3 75 19 + 1)) 75 j = gI m 75 j := by
              intro j hj
              simp (config := { decide := true }) only [gII, hj, and_false, false_and, if_false]
              exact g3 j hj
            have is5 : ∀ w, w < k + 1 → gI (pI (pI m3 78 k (bI (askP S set lw fa Fc k))) 75 19 (gI m3 75 19 + 1)) 78 w = bI (askP S set lw fa Fc w) := by
              intro w hw
              have := is4 w hw
              rw [gII, if_neg (by intro q; exact absurd q.1 (by decide))]
              exact this
            have o5 : ∀ j, gI (pI (pI m3 78 k (bI (askP S set lw fa Fc k))) 75 19 (gI m3 75 19 + 1)) 79 j = gI m3 79 j := by
              intro j
              simp (config := { decide := true }) only [gII, false_and, if_false]
            generalize pI (pI m3 78 k (bI (askP S set lw fa Fc k))) 75 19 (gI m3 75 19 + 1) = m5 at f5 q5 g5 is5 o5
            have key2 : ∀ d' j : Nat, j + d' = cT S → ∀ m6, Fr [79] m5 m6 → (∀ q, q < cT S → ∀ a, a < 4 → gI m6 79 (4 * q + a) = if q < j then nI (fb_ct (fun w => askP S set lw fa Fc w && (ans S w q == a)) (k + 1)) else nI (fb_ct (fun w => askP S set lw fa Fc w && (ans S w q == a)) k)) → ∀ x : Int32, x = nI j → wX12_asks_L109 t 75 (nI set) (nI lw) (bI fa) (nI k) Q (fun m26 => wX12_asks_J149 t m26 75 (nI set) (nI lw) (bI fa) (nI k) Q (wX12_asks_L35 t 75 (nI set) (nI lw) (bI fa) Q (fun m32 => Q m32) (d + 1))) (d' + 1) x m6 := by
              intro d'
              induction d' with
              | zero =>
                intro j hj m6 f6 g6 x hx
                have e : j = cT S := by omega
                subst e
                have F6 := f5.tr (f6.mono (T := [75, 78, 79]) (by decide))
                have c6 := c.fr F6 oT (by decide)
                rw [hx, wX12_asks_L109, c6.told, c6.sm.things]
                refine ⟨lk75 L, RLc.k, fun _ => ?_, fun hh => absurd (nI_le (Nat.le_refl _) (by omega)) hh⟩
                unfold wX12_asks_J149
                refine ih (k + 1) (by omega) m6 F6 (fun j hj => (f6.I (by decide) _).trans (g5 j hj)) ⟨(f6.I (by decide) _).trans q5, fun w hw => (f6.I (by decide) _).trans (is5 w hw), fun q hq a ha => ?_⟩ _ (nI_1 k)
                rw [g6 q hq a ha, if_pos hq]
              | succ d' ih2 =>
                intro j hj m6 f6 g6 x hx
                have hj1 : j < cT S := by omega
                have F6 := f5.tr (f6.mono (T := [75, 78, 79]) (by decide))
                have c6 := c.fr F6 oT (by decide)
                have a4 := ans_4 v (w := k) hj1
                rw [hx, wX12_asks_L109, c6.told, c6.sm.things]
                refine ⟨lk75 L, RLc.k, fun hh => absurd hh (nI_ge (by omega) (by omega)), fun _ => rsp_answerOf c6 hk1 hj1 ?_⟩
                rw [lr75_18 c6.lay, lk79 L, ll79 L, show (4 : Int32) = nI 4 from rfl, pk_mul, nI_add, nI_cl (by omega)]
                refine ⟨rfl, vp_nI (by omega) (by decide), ih2 (j + 1) (by omega) _ (Fr.pI f6 (by decide)) (fun q hq a ha => ?_) _ (nI_1 j)⟩
                by_cases z : q = j ∧ a = ans S k j
                · obtain ⟨z1, z2⟩ := z
                  subst z1
                  rw [z2]
                  simp only [gII, and_self, if_true]
                  rw [if_pos (by omega), g6 q hq _ a4, if_neg (by omega), show (1 : Int32) = nI 1 from rfl, nI_add, fb_ct_succ]
                  simp [hz]
                · have ne : ¬ 4 * q + a = 4 * j + ans S k j := fun e => z (by omega)
                  simp only [gII, ne, and_false, if_false]
                  rw [g6 q hq a ha]
                  by_cases z1 : q < j
                  · rw [if_pos z1, if_pos (by omega)]
                  · rw [if_neg z1]
                    by_cases z2 : q = j
                    · subst z2
                      rw [if_pos (by omega), fb_ct_succ]
                      have : ¬ ans S k q = a := fun e => z ⟨rfl, e.symm⟩
                      simp [this]
                    · rw [if_neg (by omega)]
            exact key2 (cT S) 0 (by omega) m5 Fr.rf (fun q hq a ha => by rw [if_neg (by omega), o5]; exact a3.often q hq a ha) 0 rfl
        rw [hx, wX12_asks_L35, c3.told, c3.sm.ways, lr75_17 L3]
        unfold wX12_asks_J81 wX12_asks_J77
        refine ⟨lk75 L, RLc.k, fun hh => absurd hh (nI_ge (by omega) (by omega)), fun _ => rsp_isLawful c3 y3 hk1 hset hN hsz hlw ⟨fun hz => body 0 ?_, fun hz => ⟨fun hfa => body 1 ?_, fun hfa => rsp_isFactual (Fc := Fc) c3 hk1 (fun q hq => ?_) ⟨fun hz2 => body 0 ?_, fun hz2 => body 1 ?_⟩⟩⟩⟩
        · rw [askP_eq, bI_0.mp hz]; rfl
        · rw [askP_eq, ts_false (fun q => hz (bI_0.mpr q)), bI_0.mp hfa]; rfl
        · have := hF (ts_false (fun q => hfa (bI_0.mpr q))) q hq
          exact ⟨(f3.I (by decide) _).trans this.1, this.2⟩
        · rw [askP_eq, ts_false (fun q => hz (bI_0.mpr q)), ts_false (fun q => hfa (bI_0.mpr q)), bI_0.mp hz2]; rfl
        · rw [askP_eq, ts_false (fun q => hz (bI_0.mpr q)), ts_false (fun q => hfa (bI_0.mpr q)), ts_false (fun q => hz2 (bI_0.mpr q))]; rfl
    exact key (cnt S) 0 (by omega) m2 f2 g2 ⟨g2a, fun w hw => absurd hw (by omega), fun j hj a ha => g2b _ (by omega)⟩ 0 rfl
  have f0 : Fr [75, 78, 79] m (pI m 75 19 0) := Fr.pI Fr.rf (by decide)
  have key0 : ∀ d k : Nat, k + d = 32 → ∀ m1, Fr [79] (pI m 75 19 0) m1 → (∀ j, j < k → gI m1 79 j = 0) → ∀ x : Int32, x = nI k → wX12_asks_L8 t 75 (nI set) (nI lw) (bI fa) Q (fun m6 => ∃ n33, wX12_asks_L35 t 75 (nI set) (nI lw) (bI fa) Q (fun m32 => Q m32) n33 0 m6) (d + 1) x m1 := by
    intro d
    induction d with
    | zero =>
      intro k hk m1 f1 g1 x hx
      have e : k = 32 := by omega
      subst e
      have F1 := f0.tr (f1.mono (T := [75, 78, 79]) (by decide))
      have L1 := L.fr F1
      rw [hx, wX12_asks_L8, lr75_18 L1, ll79 L]
      refine ⟨lk75 L, lk79 L, fun _ => main m1 F1 (fun j hj => ?_) ?_ g1, fun hh => absurd (by decide) hh⟩
      · rw [f1.I (by decide), gII, if_neg (fun q => hj q.2)]
      · rw [f1.I (by decide), gII, if_pos ⟨rfl, rfl⟩]
    | succ d ih =>
      intro k hk m1 f1 g1 x hx
      have F1 := f0.tr (f1.mono (T := [75, 78, 79]) (by decide))
      have L1 := L.fr F1
      rw [hx, wX12_asks_L8, lr75_18 L1, ll79 L, nI_cl (by omega)]
      refine ⟨lk75 L, lk79 L, fun hh => absurd hh (nI_ge (b := 32) (by omega) (by decide)), fun _ => ⟨vp_nI (by omega) (by decide), ih (k + 1) (by omega) _ (Fr.pI f1 (by decide)) (fun j hj => ?_) _ (nI_1 k)⟩⟩
      by_cases z : j = k
      · subst z; simp only [gII, and_self, if_true]
      · simp only [gII, z, and_false, if_false]; exact g1 j (by omega)
  exact key0 32 0 (by omega) _ Fr.rf (fun j hj => absurd hj (by omega)) 0 rfl
/-- the one answer of a thing -/
def onI (S : Sc) (P : Nat → Bool) (tt : Nat) : Int32 := if sureB S P tt then nI (fa_first (hasA S P tt) 4) else -2
theorem hasA_out (v : Vs S) (ht : tt < cT S) {a : Nat} (ha : cA S tt ≤ a) : hasA S P tt a = false := by
  refine decide_eq_false (fun h => ?_)
  obtain ⟨w, hw, hp⟩ := fb_ct_pos.mp h
  rw [Bool.and_eq_true, beq_iff_eq] at hp
  have := ans_lt v (w := w) ht
  omega
theorem oft_all_iff {a : Nat} : oft S P tt a = mny S P ↔ ∀ w, w < cnt S → P w = true → ans S w tt = a := by
  constructor
  · intro h w hw hp
    have u := fb_ct_split
    refine Classical.byContradiction fun hn => ?_
    have lt : fb_ct (fun w => P w && (ans S w tt == a)) (cnt S) < fb_ct P (cnt S) := by
      have e := fb_ct_upd P false hw
      simp only [hp, if_true, Bool.false_eq_true, if_false] at e
      have l : fb_ct (fun w => P w && (ans S w tt == a)) (cnt S) ≤ fb_ct (fun k => if k = w then false else P k) (cnt S) := fb_ct_sub (fun k _ hk => by
        rw [Bool.and_eq_true, beq_iff_eq] at hk
        by_cases z : k = w
        · subst z; exact absurd hk.2 hn
        · simp only [z, if_false]; exact hk.1)
      omega
    unfold oft mny at h
    omega
  · intro h
    exact fb_ct_cong (fun w hw => by
      cases hp : P w with
      | false => rfl
      | true => simp [h w hw hp])
theorem sure_iff (v : Vs S) (ht : tt < cT S) : sureB S P tt = true ↔ ∃ a, a < cA S tt ∧ 0 < mny S P ∧ oft S P tt a = mny S P := by
  unfold sureB
  rw [beq_iff_eq, ct_one]
  constructor
  · rintro ⟨a, ha, hp, hall⟩
    have h0 : 0 < oft S P tt a := of_decide_eq_true hp
    refine ⟨a, ha, Nat.lt_of_lt_of_le h0 oft_le, oft_all_iff.mpr (fun w hw hpw => ?_)⟩
    exact hall _ (ans_lt v ht) (decide_eq_true (fb_ct_pos.mpr ⟨w, hw, by simp [hpw]⟩))
  · rintro ⟨a, ha, h0, he⟩
    have hall := oft_all_iff.mp he
    refine ⟨a, ha, decide_eq_true (by rw [he]; exact h0), fun q hq hpq => ?_⟩
    obtain ⟨w, hw, hp⟩ := fb_ct_pos.mp (of_decide_eq_true hpq)
    rw [Bool.and_eq_true, beq_iff_eq] at hp
    rw [← hp.2]
    exact hall w hw hp.1
theorem on_val (v : Vs S) (ht : tt < cT S) {a : Nat} (h0 : 0 < mny S P) (he : oft S P tt a = mny S P) : sureB S P tt = true ∧ fa_first (hasA S P tt) 4 = a ∧ a < cA S tt := by
  have a4 := (v.a2 tt ht).2
  have ha : hasA S P tt a = true := decide_eq_true (by rw [he]; exact h0)
  have hac : a < cA S tt := by
    rcases Nat.lt_or_ge a (cA S tt) with q | q
    · exact q
    · rw [hasA_out v ht q] at ha; cases ha
  refine ⟨(sure_iff v ht).mpr ⟨a, hac, h0, he⟩, ?_, hac⟩
  have le : fa_first (hasA S P tt) 4 ≤ a := by
    rcases Nat.lt_or_ge a (fa_first (hasA S P tt) 4) with q | q
    · rw [fa_first_no _ 4 a q] at ha; cases ha
    · exact q
  have y := fa_first_yes (hasA S P tt) 4 (by omega)
  obtain ⟨w, hw, hp⟩ := fb_ct_pos.mp (of_decide_eq_true y)
  rw [Bool.and_eq_true, beq_iff_eq] at hp
  rw [← hp.2]
  exact oft_all_iff.mp he w hw hp.1
theorem rsp_one (c : RC t m u S) (A : AskM m S P) (ht : tt < cT S) {Q : Int32 → zM → Prop} (hQ : Q (onI S P tt) m) : wX12_one t m 75 (nI tt) Q := by
  have L := c.lay
  have v := c.vs
  have t8 := v.t8
  have hc := v.cnt
  have ml : mny S P ≤ cnt S := fb_ct_le _ _
  have ol : ∀ a, oft S P tt a ≤ cnt S := fun a => fb_ct_le _ _
  unfold wX12_one
  refine ⟨5, ?_⟩
  have key : ∀ d k : Nat, k + d = 4 → (∀ q, q < k → ¬ (0 < mny S P ∧ oft S P tt q = mny S P)) → ∀ x : Int32, x = nI k → wX12_one_L2 t 75 (nI tt) Q (fun m7 => Q (-2) m7) (d + 1) x m := by
    intro d
    induction d with
    | zero =>
      intro k hk g x hx
      have e : k = 4 := by omega
      subst e
      have ns : sureB S P tt = false := by
        cases hb : sureB S P tt with
        | false => rfl
        | true =>
          obtain ⟨a, h1, h2, h3⟩ := (sure_iff v ht).mp hb
          have := (v.a2 tt ht).2
          exact absurd ⟨h2, h3⟩ (g a (by omega))
      rw [onI, ns] at hQ
      rw [hx, wX12_one_L2]
      exact ⟨fun _ => hQ, fun hh => absurd (nI_le (a := 4) (b := 4) (Nat.le_refl _) (by decide)) hh⟩
    | succ d ih =>
      intro k hk g x hx
      rw [hx, wX12_one_L2, lr75_18 L, lk79 L, ll79 L, A.many]
      unfold wX12_one_J33
      refine ⟨fun hh => absurd hh (nI_ge (b := 4) (by omega) (by decide)), fun _ => ⟨lk75 L, fun h0 => ih (k + 1) (by omega) (fun q hq hh => ?_) _ (nI_1 k), fun h0 => ?_⟩⟩
      · exact absurd h0 (nI_nle hh.1 (by omega))
      · have pos : 0 < mny S P := by
          rcases Nat.eq_zero_or_pos (mny S P) with q | q
          · exact absurd (by rw [q]; decide) h0
          · exact q
        rw [show (4 : Int32) = nI 4 from rfl, pk_mul, nI_add, nI_cl (by omega), A.often tt ht k (by omega), nI_eq (by have := ol k; omega) (by omega)]
        refine ⟨rfl, vp_nI (by omega) (by decide), fun he => ?_, fun he => ih (k + 1) (by omega) (fun q hq hh => ?_) _ (nI_1 k)⟩
        · have o := on_val v ht pos he
          rw [onI, o.1, o.2.1] at hQ
          exact hQ
        · rcases (show q < k ∨ q = k by omega) with z | z
          · exact g q z hh
          · subst z; exact he hh.2
  exact key 4 0 (by omega) (fun q hq => absurd hq (by omega)) 0 rfl
theorem onI_m2 (v : Vs S) (ht : tt < cT S) : onI S P tt = -2 ↔ sureB S P tt = false := by
  unfold onI
  cases hb : sureB S P tt with
  | false => simp
  | true =>
    obtain ⟨a, h1, h2, h3⟩ := (sure_iff v ht).mp hb
    have o := on_val v ht h2 h3
    have a4 := (v.a2 tt ht).2
    rw [o.2.1]
    rcases (show a = 0 ∨ a = 1 ∨ a = 2 ∨ a = 3 by omega) with q | q | q | q <;> rw [q] <;> decide
theorem rsp_oneBits (c : RC t m u S) (A : AskM m S P) {Q : Int32 → zM → Prop} (hQ : Q (nI (bts (sureB S P) (cT S))) m) : wX12_oneBits t m 75 Q := by
  have L := c.lay
  have v := c.vs
  have t8 := v.t8
  unfold wX12_oneBits
  refine ⟨cT S + 1, ?_⟩
  have key : ∀ d k : Nat, k + d = cT S → ∀ x y : Int32, x = nI k → y = nI (bts (sureB S P) k) → wX12_oneBits_L4 t 75 Q (fun v8 m9 => Q v8 m9) (d + 1) y x m := by
    intro d
    induction d with
    | zero =>
      intro k hk x y hx hy
      have e : k = cT S := by omega
      subst e
      rw [hx, hy, wX12_oneBits_L4, c.told, c.sm.things]
      exact ⟨lk75 L, c.rl.k, fun _ => hQ, fun hh => absurd (nI_le (Nat.le_refl _) (by omega)) hh⟩
    | succ d ih =>
      intro k hk x y hx hy
      rw [hx, hy, wX12_oneBits_L4, c.told, c.sm.things]
      refine ⟨lk75 L, c.rl.k, fun hh => absurd hh (nI_ge (by omega) (by omega)), fun _ => rsp_one c A (by omega) ?_⟩
      rw [onI_m2 v (by omega)]
      unfold wX12_oneBits_J33
      refine ⟨fun h2 x7 h7 => ih (k + 1) (by omega) _ _ (nI_1 k) ?_, fun h2 x7 h7 => ih (k + 1) (by omega) _ _ (nI_1 k) ?_⟩
      · rw [h7, show (0 : Int32) = nI 0 from rfl, fa_or, Nat.or_zero, ← bts_no h2]
      · rw [h7, bts_up _ (by omega), bts_yes (ts_false h2)]
  exact key (cT S) 0 (by omega) 0 0 rfl rfl
end
