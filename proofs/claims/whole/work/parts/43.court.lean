/-! Court.pairUp, watch, fitByKind, fewWrongs -/
theorem nI_mask0 {x : Nat} : (nI x &&& 1 = 0) ↔ x.testBit 0 = false := fa_bit (n := x) (j := 0) (by decide)
theorem nI_mask1 {x : Nat} : (nI x &&& 2 = 0) ↔ x.testBit 1 = false := fa_bit (n := x) (j := 1) (by decide)
theorem nI_mask2 {x : Nat} : (nI x &&& 4 = 0) ↔ x.testBit 2 = false := fa_bit (n := x) (j := 2) (by decide)
theorem nI_shl1 {k : Nat} (hk : k < 31) : (1 : Int32) <<< (nI k &&& 31) = nI (2 ^ k) := by
  have h := pk_shlN (n := 1) (nI k &&& 31) k (s_l k (by omega)) (by
    rw [Nat.one_mul]
    exact Nat.pow_lt_pow_right (by decide) (by omega))
  rw [Nat.one_mul] at h
  exact h
theorem ts_false {b : Bool} (h : ¬ b = false) : b = true := by cases b <;> simp_all
section
variable {t : zT} {m : zM} {s : Nat} {S : Sc} {set h G lw : Nat} {sd bf go gm gt : Nat → Nat}
theorem sp_pairUp (L : Lay t m) (hs : isSch s) (ht : gR m 20 0 = s) (hlw : gI m 19 2 = nI lw) (hT : cT S ≤ 8) (hT0 : gI m s 0 = nI (cT S)) (hG : G ≤ 17) (q2 : gI m 19 9 = nI G) (q4 : ∀ q, q < G → gI m 42 q = nI (gm q) ∧ gI m 43 q = nI (gt q)) (hgm : ∀ q, q < G → gm q < 6 ∧ gt q < 2 ^ 31) (hkd : ∀ k, k < 6 → (∃ q, q < G ∧ gm q = k) → gI m (s + 7) k = nI (cKd S k) ∧ cKd S k < 4) {Q : zM → Prop}
    (hQ : ∀ m', Fr [19, 46, 47] m m' → (∀ j, j ≠ 14 → gI m' 19 j = gI m 19 j) → (∃ pn po pq, Pm m' pn po pq ∧ (lw.testBit 0 = false → pn = 0) ∧ (lw.testBit 0 = true → Pp S G gm gt (cT S) pn po pq) ∧ pn ≤ 8) → Q m') : wX0_pairUp t m 19 Q := by
  unfold wX0_pairUp
  have hs19 : s ≠ 19 := by rcases hs with rfl | rfl <;> decide
  have hs7 : s + 7 ∉ [19, 46, 47] ∧ s ∉ [19, 46, 47] := by rcases hs with rfl | rfl <;> decide
  have f0 : Fr [19, 46, 47] m (pI m 19 14 0) := Fr.pI Fr.rf (by decide)
  have g0 : ∀ j, j ≠ 14 → gI (pI m 19 14 0) 19 j = gI m 19 j := fun j hj => by simp (config := { decide := true }) only [gII, hj, and_false, if_false]
  have pm0 : Pm (pI m 19 14 0) 0 (fun _ => 0) (fun _ => 0) := ⟨by simp (config := { decide := true }) only [gII, and_self, if_true, nI_0], fun i hi => absurd hi (by omega)⟩
  rw [g0 2 (by decide), hlw, nI_mask0]
  refine ⟨lk19 L, fun e => hQ _ f0 g0 ⟨0, _, _, pm0, fun _ => rfl, fun z => absurd (e.symm.trans z) (by decide), by omega⟩, fun e => ⟨cT S + 1, ?_⟩⟩
  have key : ∀ d i : Nat, i + d = cT S → ∀ m1, Fr [19, 46, 47] m m1 → (∀ j, j ≠ 14 → gI m1 19 j = gI m 19 j) → (∃ pn po pq, Pp S G gm gt i pn po pq ∧ Pm m1 pn po pq) → ∀ x : Int32, x = nI i → wX0_pairUp_L17 t 19 Q (fun m9 => Q m9) (d + 1) x m1 := by
    intro d
    induction d with
    | zero =>
      intro i hi m1 f1 f2 f3 x hx
      have hi : i = cT S := by omega
      subst hi
      rw [hx, wX0_pairUp_L17]
      have L1 := L.fr f1
      rw [lr19_0 L1, f1.2, ht, f1.I hs7.2, hT0]
      refine ⟨lk19 L, lk20 L, ls_k L hs, fun _ => ?_, fun hh => absurd (nI_le (Nat.le_refl _) (by omega)) hh⟩
      obtain ⟨pn, po, pq, g1, g2⟩ := f3
      exact hQ m1 f1 f2 ⟨pn, po, pq, g2, fun z => absurd z e, fun _ => g1, by have := g1.2.2; omega⟩
    | succ d ih =>
      intro i hi m1 f1 f2 f3 x hx
      rw [hx, wX0_pairUp_L17]
      have L1 := L.fr f1
      rw [lr19_0 L1, f1.2, ht, f1.I hs7.2, hT0]
      refine ⟨lk19 L, lk20 L, ls_k L hs, fun hh => absurd hh (nI_ge (by omega) (by omega)), fun _ => ?_⟩
      obtain ⟨pn, po, pq, g1, g2⟩ := f3
      refine sp_pairUpThing L1 hs (by rw [f1.2]; exact ht) (by omega) hG (by rw [f2 9 (by decide)]; exact q2) (fun q hq => ⟨by rw [f1.I (by decide)]; exact (q4 q hq).1, by rw [f1.I (by decide)]; exact (q4 q hq).2⟩) hgm (fun k hk hex => ⟨by rw [f1.I hs7.1]; exact (hkd k hk hex).1, (hkd k hk hex).2⟩) g1 g2 (fun m2 k1 k2 k3 => ?_)
      exact ih (i + 1) (by omega) m2 (f1.tr k1) (fun j hj => (k2 j hj).trans (f2 j hj)) k3 _ (nI_1 i)
  exact key (cT S) 0 (by omega) _ f0 g0 ⟨0, fun _ => 0, fun _ => 0, ⟨fun i hi => absurd hi (by omega), fun tt ht => absurd ht (by omega), Nat.le_refl _⟩, pm0⟩ 0 rfl
/-- watch: the plain masters with more groups than law wrong lets them be wrong in -/
theorem sp_watch (L : Lay t m) (hs : isSch s) (ht : gR m 20 0 = s) (hlw : gI m 19 2 = nI lw) (hM : cM S ≤ 6) (hM0 : gI m s 10 = nI (cM S)) (hwr : lw.testBit 1 = true → gI m s 13 = nI (cWr S) ∧ cWr S ≤ 8) (hG : G ≤ 17) (q2 : gI m 19 9 = nI G) (q4 : ∀ q, q < G → gI m 42 q = nI (gm q)) (hgm : ∀ q, q < G → gm q < 2 ^ 31) (hkd : ∀ k, k < cM S → gI m (s + 7) k = nI (cKd S k) ∧ cKd S k < 4) {Q : zM → Prop}
    (hQ : ∀ wt, wt < 64 → (∀ k, k < cM S → (wt.testBit k = true ↔ lw.testBit 1 = true ∧ cKd S k = 0 ∧ cWr S < fb_ct (fun q => gm q == k) G)) → (∀ k, cM S ≤ k → wt.testBit k = false) → Q (pI m 19 3 (nI wt))) : wX0_watch t m 19 Q := by
  unfold wX0_watch
  have hs19 : ¬ s = 19 := by rcases hs with rfl | rfl <;> decide
  have hs26 : ¬ s + 7 = 19 := by rcases hs with rfl | rfl <;> decide
  have g0 : gI (pI m 19 3 0) 19 2 = gI m 19 2 := by simp (config := { decide := true }) only [gII, and_false, if_false]
  rw [g0, hlw, nI_mask1]
  refine ⟨lk19 L, fun e => ?_, fun e => ⟨cM S + 1, ?_⟩⟩
  · have := hQ 0 (by omega) (fun k _ => by rw [Nat.zero_testBit, e]; simp) (fun k _ => Nat.zero_testBit k)
    exact this
  have e := ts_false e
  obtain ⟨w1, w2⟩ := hwr e
  have inner : ∀ (wt k : Nat), k < 2 ^ 31 → ∀ (kk : Int32 → zM → Prop), kk (nI (fb_ct (fun q => gm q == k) G)) (pI m 19 3 (nI wt)) → ∀ d i c : Nat, i + d = G → c = fb_ct (fun q => gm q == k) i → ∀ x y : Int32, x = nI c → y = nI i → wX0_watch_L35 t 19 (nI k) Q kk (d + 1) x y (pI m 19 3 (nI wt)) := by
    intro wt k hk kk hkk d
    induction d with
    | zero =>
      intro i c hi hc x y hx hy
      have hi : i = G := by omega
      subst hi
      rw [hx, hy, wX0_watch_L35]
      simp (config := { decide := true }) only [gII, and_false, if_false, q2]
      exact ⟨lk19 L, fun _ => by rw [hc]; exact hkk, fun hh => absurd (nI_le (Nat.le_refl _) (by omega)) hh⟩
    | succ d ih =>
      intro i c hi hc x y hx hy
      have hiG : i < G := by omega
      have hcl : c ≤ i := by rw [hc]; exact fb_ct_le _ _
      rw [hx, hy, wX0_watch_L35]
      simp (config := { decide := true }) only [wX0_watch_J59, lk19 L, lr19_0 L, lr19_1 L, lr19_5 L, lr19_6 L, lr19_7 L, lr19_8 L, lr19_10 L, lr19_11 L, lr19_12 L, lr19_13 L, lr19_15 L, lr19_16 L, lk20 L, lr20_3 L, lr20_4 L, lr20_5 L, lk33 L, ll33 L, lk34 L, ll34 L, lk35 L, ll35 L, lk36 L, lr36_0 L, lk37 L, ll37 L, lk38 L, ll38 L, lk39 L, ll39 L, lk40 L, ll40 L, lk41 L, ll41 L, lk42 L, ll42 L, lk43 L, ll43 L, lk44 L, ll44 L, lk45 L, ll45 L, lk46 L, ll46 L, lk47 L, ll47 L, gRI, gII, and_false, false_and, if_false, q2, q4 i hiG, nI_cl (show i < 2 ^ 31 by omega), nI_eq (hgm i hiG) hk, true_and]
      refine ⟨fun hh => absurd hh (nI_ge hiG (by omega)), fun _ => ⟨vp_nI (by omega) (by omega), fun z => ?_, fun z => ?_⟩⟩
      · refine ih (i + 1) (c + 1) (by omega) ?_ _ _ (nI_1 c) (nI_1 i)
        rw [fb_ct_succ, ← hc]; simp [z]
      · refine ih (i + 1) c (by omega) ?_ _ _ (by rw [show (0 : Int32) = nI 0 from rfl, nI_add]; rfl) (nI_1 i)
        rw [fb_ct_succ, ← hc]; simp [z]
  have key : ∀ d k wt : Nat, k + d = cM S → wt < 64 → (∀ j, j < k → (wt.testBit j = true ↔ lw.testBit 1 = true ∧ cKd S j = 0 ∧ cWr S < fb_ct (fun q => gm q == j) G)) → (∀ j, k ≤ j → wt.testBit j = false) → ∀ (x : Int32) (m1 : zM), x = nI k → m1 = pI m 19 3 (nI wt) → wX0_watch_L17 t 19 Q (fun m21 => Q m21) (d + 1) x m1 := by
    intro d
    induction d with
    | zero =>
      intro k wt hk h1 h2 h3 x m1 hx hm1
      have hk : k = cM S := by omega
      subst hk
      rw [hx, hm1, wX0_watch_L17]
      simp (config := { decide := true }) only [lr19_0 L, gRI, gII, ht, hs19, false_and, if_false, hM0]
      exact ⟨lk19 L, lk20 L, ls_k L hs, fun _ => hQ wt h1 h2 h3, fun hh => absurd (nI_le (Nat.le_refl _) (by omega)) hh⟩
    | succ d ih =>
      intro k wt hk h1 h2 h3 x m1 hx hm1
      have hkM : k < cM S := by omega
      rw [hx, hm1, wX0_watch_L17]
      simp (config := { decide := true }) only [lr19_0 L, gRI, gII, ht, hs19, false_and, if_false, hM0]
      refine ⟨lk19 L, lk20 L, ls_k L hs, fun hh => absurd hh (nI_ge hkM (by omega)), fun _ => ⟨G + 1, ?_⟩⟩
      refine inner wt k (by omega) _ ?_ G 0 0 (by omega) rfl 0 0 rfl rfl
      have hcG : fb_ct (fun q => gm q == k) G ≤ G := fb_ct_le _ _
      obtain ⟨k1, k2⟩ := hkd k hkM
      simp (config := { decide := true }) only [wX0_watch_J108, lr19_0 L, lk20 L, ls_k L hs, ls_r1 L hs, ls_k1 L hs, ls_l1 L hs, ls_r3 L hs, ls_k3 L hs, ls_l3 L hs, ls_r6 L hs, ls_k6 L hs, ls_l6 L hs, ls_r7 L hs, ls_k7 L hs, ls_l7 L hs, ls_r8 L hs, ls_k8 L hs, ls_l8 L hs, ls_r9 L hs, ls_k9 L hs, ls_l9 L hs, ls_r11 L hs, ls_k11 L hs, ls_l11 L hs, ls_r15 L hs, ls_k15 L hs, ls_l15 L hs, ls_r16 L hs, ls_k16 L hs, ls_l16 L hs, ls_r17 L hs, ls_k17 L hs, ls_l17 L hs, ls_r19 L hs, ls_k19 L hs, ls_l19 L hs, gRI, gII, ht, hs19, hs26, false_and, and_false, if_false, and_self, if_true, k1, w1, nI_cl (show k < 2 ^ 31 by omega), nI_leI (show fb_ct (fun q => gm q == k) G < 2 ^ 31 by omega) (show cWr S < 2 ^ 31 by omega), true_and]
      rw [show (0 : Int32) = nI 0 from rfl, nI_eq (show cKd S k < 2 ^ 31 by omega) (by omega)]
      refine ⟨vp_nI (by omega) (by omega), fun z => ⟨fun y => ?_, fun y => ?_⟩, fun z => ?_⟩
      · refine ih (k + 1) wt (by omega) h1 (fun j hj => ?_) (fun j hj => h3 j (by omega)) _ _ (nI_1 k) rfl
        rcases (show j < k ∨ j = k by omega) with q | q
        · exact h2 j q
        · subst q
          rw [h3 j (Nat.le_refl _)]
          constructor
          · intro q; cases q
          · intro q; omega
      · rw [nI_shl1 (by omega), fa_or, pI_pI]
        have hb := fb_bit_set wt k
        have hlt : wt ||| 2 ^ k < 64 := by
          have e2 : (2 : Nat) ^ k < 2 ^ 6 := Nat.pow_lt_pow_right (by decide) (by omega)
          exact Nat.or_lt_two_pow (n := 6) h1 e2
        refine ih (k + 1) (wt ||| 2 ^ k) (by omega) hlt (fun j hj => ?_) (fun j hj => ?_) _ _ (nI_1 k) rfl
        · rw [hb j]
          rcases (show j < k ∨ j = k by omega) with q | q
          · rw [decide_eq_false (show ¬ j = k by omega), Bool.or_false]; exact h2 j q
          · subst q
            rw [decide_eq_true rfl, Bool.or_true]
            exact ⟨fun _ => ⟨e, z, by omega⟩, fun _ => rfl⟩
        · rw [hb j, h3 j (by omega), decide_eq_false (by omega)]; rfl
      · refine ih (k + 1) wt (by omega) h1 (fun j hj => ?_) (fun j hj => h3 j (by omega)) _ _ (nI_1 k) rfl
        rcases (show j < k ∨ j = k by omega) with q | q
        · exact h2 j q
        · subst q
          rw [h3 j (Nat.le_refl _)]
          constructor
          · intro q; cases q
          · intro q; exact absurd q.2.1 z
  exact key (cM S) 0 0 (by omega) (by omega) (fun j hj => absurd hj (by omega)) (fun j _ => Nat.zero_testBit j) 0 _ rfl rfl
/-- what a saying asks by its master's kind, a bit at a time -/
def fkB (kd lw b : Nat) (rk rj : Bool) : Bool := if kd = 1 then !rk else if b = 0 then true else if kd = 3 then rj ^^ rk else if kd = 0 ∧ lw.testBit 2 = true then rj || rk else true
theorem sp_fitByKind (L : Lay t m) (hs : isSch s) (ht : gR m 20 0 = s) (hlw : gI m 19 2 = nI lw) (hh : h ≤ 17) (hm : Hm m h G sd bf go gm gt) (hsd : ∀ k, k < h → sd k < 17) (hbf : ∀ k, k < h → bf k ≤ k) (hby : ∀ k, k < h → gI m (s + 8) (sd k) = nI (cBy S (sd k)) ∧ cBy S (sd k) < 6) (hkd : ∀ k, k < h → gI m (s + 7) (cBy S (sd k)) = nI (cKd S (cBy S (sd k))) ∧ cKd S (cBy S (sd k)) < 4) {k : Nat} (hk : k < h) {Q : Int64 → zM → Prop}
    (hQ : ∀ r : Int64, (∀ i, i < 64 → bw r i = fkB (cKd S (cBy S (sd k))) lw (bf k) (bw (gJ m 41 k) i) (bw (gJ m 41 (bf k - 1)) i)) → Q r m) : wX0_fitByKind t m 19 (nI k) Q := by
  unfold wX0_fitByKind
  obtain ⟨q1, q2, q3, q4⟩ := hm
  obtain ⟨a1, a2, a3⟩ := q3 k hk
  have b1 := hsd k hk
  obtain ⟨c1, c2⟩ := hby k hk
  obtain ⟨d1, d2⟩ := hkd k hk
  have b2 := hbf k hk
  simp only [lk19 L, lr19_0 L, lr19_1 L, lr19_5 L, lr19_6 L, lr19_7 L, lr19_8 L, lr19_10 L, lr19_11 L, lr19_12 L, lr19_13 L, lr19_15 L, lr19_16 L, lk20 L, lr20_3 L, lr20_4 L, lr20_5 L, lk33 L, ll33 L, lk34 L, ll34 L, lk35 L, ll35 L, lk36 L, lr36_0 L, lk37 L, ll37 L, lk38 L, ll38 L, lk39 L, ll39 L, lk40 L, ll40 L, lk41 L, ll41 L, lk42 L, ll42 L, lk43 L, ll43 L, lk44 L, ll44 L, lk45 L, ll45 L, lk46 L, ll46 L, lk47 L, ll47 L, ls_k L hs, ls_r1 L hs, ls_k1 L hs, ls_l1 L hs, ls_r3 L hs, ls_k3 L hs, ls_l3 L hs, ls_r6 L hs, ls_k6 L hs, ls_l6 L hs, ls_r7 L hs, ls_k7 L hs, ls_l7 L hs, ls_r8 L hs, ls_k8 L hs, ls_l8 L hs, ls_r9 L hs, ls_k9 L hs, ls_l9 L hs, ls_r11 L hs, ls_k11 L hs, ls_l11 L hs, ls_r15 L hs, ls_k15 L hs, ls_l15 L hs, ls_r16 L hs, ls_k16 L hs, ls_l16 L hs, ls_r17 L hs, ls_k17 L hs, ls_l17 L hs, ls_r19 L hs, ls_k19 L hs, ls_l19 L hs, ht, a1, c1, d1, hlw, nI_cl (show k < 2 ^ 31 by omega), nI_cl (show sd k < 2 ^ 31 by omega), nI_cl (show cBy S (sd k) < 2 ^ 31 by omega), forall_eq, nI_mask2, true_and]
  have v1 : vp_in (nI k) 17 := vp_nI (by omega) (by omega)
  have n1 : (nI (cKd S (cBy S (sd k))) = 1) ↔ cKd S (cBy S (sd k)) = 1 := nI_eq (b := 1) (by omega) (by omega)
  have n3 : (nI (cKd S (cBy S (sd k))) = 3) ↔ cKd S (cBy S (sd k)) = 3 := nI_eq (b := 3) (by omega) (by omega)
  have n0 : (nI (cKd S (cBy S (sd k))) = 0) ↔ cKd S (cBy S (sd k)) = 0 := nI_eq (b := 0) (by omega) (by omega)
  rw [n1, n3, n0, a2]
  refine ⟨v1, vp_nI (by omega) (by omega), vp_nI (by omega) (by omega), fun e1 => ⟨v1, ?_⟩, fun e1 => ⟨v1, fun e2 => ?_, fun e2 => ?_⟩⟩
  · refine hQ _ (fun i hi => ?_)
    rw [bw_not _ hi, fkB, if_pos e1]
  · have hb0 : bf k = 0 := by
      rcases Nat.eq_zero_or_pos (bf k) with q | q
      · exact q
      · exfalso
        have : bfI (bf k) = nI (bf k - 1) := if_neg (by omega)
        rw [this] at e2
        exact nI_pos (by omega) e2
    refine hQ _ (fun i hi => ?_)
    rw [bw_m1 hi, fkB, if_neg e1, if_pos hb0]
  · have hb0 : bf k ≠ 0 := by
      intro q
      apply e2
      rw [q]; decide
    have e3 : bfI (bf k) = nI (bf k - 1) := if_neg hb0
    rw [e3, nI_cl (show bf k - 1 < 2 ^ 31 by omega)]
    refine ⟨vp_nI (by omega) (by omega), fun e4 => ⟨v1, hQ _ (fun i hi => ?_)⟩, fun e4 => ⟨fun e5 => ⟨fun e6 => hQ _ (fun i hi => ?_), fun e6 => ⟨v1, hQ _ (fun i hi => ?_)⟩⟩, fun e5 => hQ _ (fun i hi => ?_)⟩⟩
    · rw [bw_xor, fkB, if_neg e1, if_neg hb0, if_pos e4]
    · rw [bw_m1 hi, fkB, if_neg e1, if_neg hb0, if_neg e4, if_neg (fun q => by rw [e6] at q; exact absurd q.2 (by decide))]
    · rw [bw_or, fkB, if_neg e1, if_neg hb0, if_neg e4, if_pos ⟨e5, ts_false e6⟩]
    · rw [bw_m1 hi, fkB, if_neg e1, if_neg hb0, if_neg e4, if_neg (fun q => e5 q.1)]
end
