/-! Court.lawfulWord, Court.judge -/
section
variable {t : zT} {m m' : zM} {s r : Nat} {S : Sc} {set h G lw wt pn W N : Nat} {sd bf go gm gt po pq : Nat → Nat} {T : List Nat}
noncomputable def LfB (S : Sc) (set lw w : Nat) : Bool := @decide (Lf S set lw w) (Classical.propDecidable _)
theorem LfB_iff {w : Nat} : LfB S set lw w = true ↔ Lf S set lw w := by
  unfold LfB
  exact @decide_eq_true_iff _ (Classical.propDecidable _)
theorem bt_iff {a b : Bool} : (a = true ↔ b = true) ↔ a = b := by cases a <;> cases b <;> simp
set_option maxHeartbeats 1000000 in
theorem sp_lawfulWord (L : Lay t m) (hs : isSch s) (v : Vs S) (j : Jd m s S N set lw h G sd bf go gm gt pn po pq wt) (hW : W < wds S) {Q : Int64 → zM → Prop}
    (hQ : ∀ (y : Int64) (m' : zM), Fr [37, 41, 44, 45] m m' → (∀ i, i < 64 → (bw y i = true ↔ 64 * W + i < cnt S ∧ LfB S set lw (64 * W + i) = true)) → Q y m') : wX0_lawfulWord t m 19 (nI W) Q := by
  have hw64 := wds_le v
  have W64 : W < 64 := by omega
  have hp := j.hp
  have hh : h ≤ 17 := hp.2.2.2.2.2.2.2.2
  have hG : G ≤ 17 := Nat.le_trans hp.2.2.2.2.2.2.2.1 hh
  have sdN : ∀ k, k < h → sd k < N := fun k hk => j.sN _ (hp.1 k hk).2
  have bd := j.say.bd
  have tab := j.say.tab
  have t8 := v.t8
  have m6 := v.m6
  have n17 := j.say.le
  unfold wX0_lawfulWord
  rw [lr19_0 L, lr20_5 L, lk20 L, lk35 L, ll35 L, nI_cl (show W < 2 ^ 31 by omega)]
  refine ⟨lk19 L, rfl, rfl, vp_nI W64 (by decide), fun x5 hx5 => ⟨G + 1, sp_lw13 L hG j.hm.2.1 (fun m1 f1 g1 => ⟨h + 1, ?_⟩)⟩⟩
  have L1 := L.fr f1
  have oT : ∀ j, j ≤ 11 → s + j ∉ [37, 41, 44, 45] := by
    intro j hj
    unfold isSch at hs
    simp only [List.mem_cons, List.not_mem_nil, or_false]
    omega
  have j1 := j.fr hs f1 oT (by decide)
  have tweq : ∀ q, q < h → tw m1 S W (sd q) = tw m S W (sd q) := fun q hq => f1.J (by decide) _
  refine sp_lw51 (S := S) (lw := lw) L1 hs j1.told j1.law hh j1.hm hG (fun k hk => (hp.1 k hk).1) (fun k hk => ?_) (fun k hk => (hp.2.2.2.2.1 k hk).1) (fun k hk => ⟨(j1.say.tab _ (sdN k hk)).1, by have := (bd _ (sdN k hk)).1; omega⟩) (fun k hk => ⟨j1.sch.kind _ (bd _ (sdN k hk)).1, v.kd _ (bd _ (sdN k hk)).1⟩) (fun k hk => ⟨(j1.say.tab _ (sdN k hk)).2.1, by have := (bd _ (sdN k hk)).2.1; omega⟩) (fun k hk => ⟨(j1.say.tab _ (sdN k hk)).2.2, (bd _ (sdN k hk)).2.2⟩) W64 g1 (fun y1 m2 f2 g2 y1e => ⟨pn + 1, ?_⟩)
  · by_cases z : bf k = 0
    · omega
    · have := ((hp.2.2.2.1 k hk).2 (bf k - 1) (by omega)).1; omega
  have L2 := L1.fr f2
  have j2 := j1.fr hs f2 oT (by decide)
  have pG : ∀ i, i < pn → po i < G ∧ pq i < G := by
    intro i hi
    cases hl : lw.testBit 0 with
    | false => rw [j.p0 hl] at hi; omega
    | true => have := (j.p1 hl).1 i hi; omega
  -- what the words say
  have R : ∀ i, i < 64 → 64 * W + i < cnt S → ∀ q, q < h → bw (tw m1 S W (sd q)) i = rt S (64 * W + i) (sd q) := by
    intro i hi hc q hq
    rw [← bt_iff, tweq q hq, tw, j.way.truth _ (bd _ (sdN q hq)).2.1 _ (bd _ (sdN q hq)).2.2 W W64 i hi]
    simp [rt, hc]
  have gAe : ∀ i, i < 64 → 64 * W + i < cnt S → ∀ q b, gAll h go (fun j => tw m1 S W (sd j)) q i b ↔ gA S (64 * W + i) h sd go q b := by
    intro i hi hc q b
    constructor
    · intro H k hk e
      rw [← R i hi hc k hk]
      exact H k hk e
    · intro H k hk e
      show bw (tw m1 S W (sd k)) i = b
      rw [R i hi hc k hk]
      exact H k hk e
  refine sp_lw171 L2 j.p8 j2.pm hG pG (fun y2 y2e => ?_)
  have E : ∀ i, i < 64 → ∀ B : Prop, ((B ↔ ∀ k, k < cM S → wt.testBit k = true → fb_ct (fun q => (gm q == k) && !bw (gJ m2 44 q) i) G ≤ cWr S)) → ((bw y2 i = true ∧ B) ↔ 64 * W + i < cnt S ∧ LfB S set lw (64 * W + i) = true) := by
    intro i hi B hB
    rw [hB, y2e i hi, y1e i hi, hx5, j.way.follow W hW i hi]
    constructor
    · rintro ⟨⟨⟨⟨hc, hf⟩, hk⟩, hpr⟩, hwr⟩
      refine ⟨hc, LfB_iff.mpr ⟨hf, (lf_kind hp).mp (fun k hk1 => ?_), (lf_pair hp j.p0 j.p1).mp (fun q hq => ?_), (lf_wrong hp (fun k hk => by have := (bd _ (sdN k hk)).2.1; omega) j.w1 (R := fun q => bw (gJ m2 44 q) i) (fun q hq => ((g2 q hq i hi).1.trans (gAe i hi hc q true)))).mp hwr⟩⟩
      · have a := hk k hk1
        rw [R i hi hc k hk1] at a
        by_cases z : bf k = 0
        · simp only [fkB, z, if_true] at a ⊢
          exact a
        · have := ((hp.2.2.2.1 k hk1).2 (bf k - 1) (by omega)).1
          rw [R i hi hc (bf k - 1) (by omega)] at a
          exact a
      · have a := hpr q hq
        have b := pG q hq
        rw [(g2 _ b.1 i hi).1, (g2 _ b.1 i hi).2, (g2 _ b.2 i hi).1, (g2 _ b.2 i hi).2, gAe i hi hc, gAe i hi hc, gAe i hi hc, gAe i hi hc] at a
        exact a
    · rintro ⟨hc, hl⟩
      obtain ⟨hf, hk, hpr, hwr⟩ := LfB_iff.mp hl
      refine ⟨⟨⟨⟨hc, hf⟩, fun k hk1 => ?_⟩, fun q hq => ?_⟩, (lf_wrong hp (fun k hk => by have := (bd _ (sdN k hk)).2.1; omega) j.w1 (R := fun q => bw (gJ m2 44 q) i) (fun q hq => ((g2 q hq i hi).1.trans (gAe i hi hc q true)))).mpr hwr⟩
      · have a := (lf_kind hp).mpr hk k hk1
        rw [R i hi hc k hk1]
        by_cases z : bf k = 0
        · simp only [fkB, z, if_true] at a ⊢
          exact a
        · have := ((hp.2.2.2.1 k hk1).2 (bf k - 1) (by omega)).1
          rw [R i hi hc (bf k - 1) (by omega)]
          exact a
      · have a := (lf_pair hp j.p0 j.p1).mpr hpr q hq
        have b := pG q hq
        rw [(g2 _ b.1 i hi).1, (g2 _ b.1 i hi).2, (g2 _ b.2 i hi).1, (g2 _ b.2 i hi).2, gAe i hi hc, gAe i hi hc, gAe i hi hc, gAe i hi hc]
        exact a
  refine ⟨fun hz => hQ y2 m2 (f1.tr f2) (fun i hi => ?_), fun hz => ?_⟩
  · rw [j2.wat] at hz
    have wz : wt = 0 := (nI_eq (b := 0) (by have := j.w64; omega) (by decide)).mp hz
    rw [← E i hi True ⟨fun _ k _ hb => by rw [wz] at hb; simp at hb, fun _ => trivial⟩]
    simp
  · rw [j2.wat] at hz
    have nz : wt ≠ 0 := fun e => hz (by rw [e]; rfl)
    obtain ⟨k, hk⟩ := Nat.exists_testBit_of_ne_zero nz
    have hkM : k < cM S := by
      rcases Nat.lt_or_ge k (cM S) with x | x
      · exact x
      · rw [j.w2 k x] at hk; cases hk
    have lb := j.lwr ((j.w1 k hkM).mp hk).1
    have hgm : ∀ q, q < G → gm q < 2 ^ 31 := by
      intro q hq
      obtain ⟨k', hk', e⟩ := hp.2.2.2.2.2.1 q hq
      have g := hp.2.2.2.2.1 k' hk'
      have := (bd _ (sdN k' hk')).1
      rw [e] at g
      omega
    refine sp_fewWrongs (S := S) L2 hs j2.told m6 j2.sch.masters ⟨by rw [j2.sch.wrong, wrI, if_pos lb], v.wr lb⟩ hG j2.hm.2.1 (fun q hq => (j2.hm.2.2.2 q hq).1) hgm j2.wat j.w64 (lf_g8 hp (fun k hk => by have := (bd _ (sdN k hk)).2.1; omega)) (fun y3 m3 f3 g3 => hQ _ m3 ((f1.tr f2).tr (f3.mono (by decide))) (fun i hi => ?_))
    rw [bw_and, Bool.and_eq_true]
    exact E i hi _ (g3 i hi)
theorem sp_judge (L : Lay t m) (hs : isSch s) (hr : isRow r) (v : Vs S) (ht : gR m 20 0 = s) (hS : SchM m s S) (hY : SayM m s S N) (hW : WayM m S) (hset : ∀ i, set.testBit i = true → i < N) (hsz : set < 2 ^ 17) (hlw : lw.testBit 1 = true → (cLw S).testBit 1 = true) {Q : zM → Prop}
    (hQ : ∀ m', Fr (jT r) m m' → RowM m' r S (LfB S set lw) → Q m') : wX0_judge t m 19 (nI set) (nI lw) r Q := by
  have hw64 := wds_le v
  have t8 := v.t8
  have m6 := v.m6
  have n17 := hY.le
  have oT := fun j hj => jT_sch hs hr (j := j) hj
  have s19 : s ≠ 19 := by rcases hs with rfl | rfl <;> decide
  have r19 : r ≠ 19 := by rcases hr with rfl | rfl | rfl | rfl <;> decide
  have r20 : r ≠ 20 := by rcases hr with rfl | rfl | rfl | rfl <;> decide
  have oW : ∀ a, a ∈ [20, 33, 34, 35] → a ∉ jT r := by
    intro a ha
    unfold isRow at hr
    simp only [jT, List.mem_cons, List.not_mem_nil, or_false] at ha ⊢
    omega
  unfold wX0_judge
  refine ⟨lk19 L, ?_⟩
  have f0 : Fr (jT r) m (pI m 19 2 (nI lw)) := Fr.pI Fr.rf (by simp [jT])
  have L0 := L.fr f0
  have S0 := hS.fr f0 oT
  have Y0 := hY.fr f0 oT
  refine sp_hear (S := S) L0 hs ht n17 hset hsz (fun i hi => ⟨(Y0.tab i hi).1, (Y0.tab i hi).2.1⟩) (fun i hi => by have := hY.bd i hi; omega) (fun m1 f1 g1 hex => ?_)
  obtain ⟨h, G, sd, bf, go, gm, gt, hp, hm⟩ := hex
  have hh : h ≤ 17 := hp.2.2.2.2.2.2.2.2
  have hG : G ≤ 17 := Nat.le_trans hp.2.2.2.2.2.2.2.1 hh
  have sdN : ∀ k, k < h → sd k < N := fun k hk => hset _ (hp.1 k hk).2
  have gq : ∀ q, q < G → gm q < cM S ∧ gt q < cT S := by
    intro q hq
    obtain ⟨k, hk, e⟩ := hp.2.2.2.2.2.1 q hq
    have g := hp.2.2.2.2.1 k hk
    have b := hY.bd _ (sdN k hk)
    rw [e] at g
    omega
  have F1 : Fr (jT r) m m1 := f0.tr (f1.mono (fun a ha => by simp only [jT, List.mem_cons, List.not_mem_nil, or_false] at ha ⊢; omega))
  have L1 := L.fr F1
  have S1 := hS.fr F1 oT
  have law1 : gI m1 19 2 = nI lw := by
    rw [g1 2 (by decide) (by decide)]
    simp (config := { decide := true }) only [gII, if_true]
  have told1 : gR m1 20 0 = s := (F1.2 _ _).trans ht
  refine sp_pairUp (S := S) (lw := lw) L1 hs told1 law1 t8 S1.things hG hm.2.1 hm.2.2.2 (fun q hq => by have := gq q hq; omega) (fun k hk he => ?_) (fun m2 f2 g2 hex => ?_)
  · obtain ⟨q, hq, e⟩ := he
    have := (gq q hq).1
    rw [e] at this
    exact ⟨S1.kind k this, v.kd k this⟩
  obtain ⟨pn, po, pq, hPm, hP0, hP1, hP8⟩ := hex
  have F2 : Fr (jT r) m m2 := F1.tr (f2.mono (fun a ha => by simp only [jT, List.mem_cons, List.not_mem_nil, or_false] at ha ⊢; omega))
  have L2 := L.fr F2
  have S2 := hS.fr F2 oT
  have law2 : gI m2 19 2 = nI lw := (g2 2 (by decide)).trans law1
  have hm2 : Hm m2 h G sd bf go gm gt := by
    obtain ⟨q1, q2, q3, q4⟩ := hm
    exact ⟨(g2 4 (by decide)).trans q1, (g2 9 (by decide)).trans q2, fun k hk => ⟨(f2.I (by decide) _).trans (q3 k hk).1, (f2.I (by decide) _).trans (q3 k hk).2.1, (f2.I (by decide) _).trans (q3 k hk).2.2⟩, fun q hq => ⟨(f2.I (by decide) _).trans (q4 q hq).1, (f2.I (by decide) _).trans (q4 q hq).2⟩⟩
  have told2 : gR m2 20 0 = s := (F2.2 _ _).trans ht
  refine sp_watch (S := S) (lw := lw) L2 hs told2 law2 m6 S2.masters (fun hb => ⟨by rw [S2.wrong, wrI, if_pos (hlw hb)], v.wr (hlw hb)⟩) hG hm2.2.1 (fun q hq => (hm2.2.2.2 q hq).1) (fun q hq => by have := gq q hq; omega) (fun k hk => ⟨S2.kind k hk, v.kd k hk⟩) (fun wt w64 w1 w2 => ?_)
  have F3 : Fr (jT r) m (pI m2 19 3 (nI wt)) := Fr.pI F2 (by simp [jT])
  have L3 := L.fr F3
  have W3 := hW.fr F3 oW
  refine ⟨?_, rw_k L hr, wds S + 1, ?_⟩
  · rw [lr19_0 L3]; exact lk20 L
  rw [lr19_0 L3, W3.words]
  have F4 : Fr (jT r) m (pI (pI m2 19 3 (nI wt)) r 1 (nI (wds S))) := Fr.pI F3 (by simp [jT])
  have L4 := L.fr F4
  have J4 : Jd (pI (pI m2 19 3 (nI wt)) r 1 (nI (wds S))) s S N set lw h G sd bf go gm gt pn po pq wt := by
    have r38 : ¬ 38 = r ∧ ¬ 39 = r ∧ ¬ 40 = r ∧ ¬ 42 = r ∧ ¬ 43 = r ∧ ¬ 46 = r ∧ ¬ 47 = r := by unfold isRow at hr; omega
    have q19 : ∀ j, j ≠ 3 → gI (pI (pI m2 19 3 (nI wt)) r 1 (nI (wds S))) 19 j = gI m2 19 j := by
      intro j hj
      simp only [gII, hj, and_false, if_false, show ¬ 19 = r from fun e => r19 e.symm, false_and]
    have qo : ∀ a j, a ≠ 19 → a ≠ r → gI (pI (pI m2 19 3 (nI wt)) r 1 (nI (wds S))) a j = gI m2 a j := by
      intro a j h1 h2
      simp only [gII, h1, h2, false_and, if_false]
    refine ⟨(F4.2 _ _).trans ht, (q19 2 (by decide)).trans law2, hp, ⟨(q19 4 (by decide)).trans hm2.1, (q19 9 (by decide)).trans hm2.2.1, fun k hk => ⟨(qo 38 k (by decide) r38.1).trans (hm2.2.2.1 k hk).1, (qo 39 k (by decide) r38.2.1).trans (hm2.2.2.1 k hk).2.1, (qo 40 k (by decide) r38.2.2.1).trans (hm2.2.2.1 k hk).2.2⟩, fun q hq => ⟨(qo 42 q (by decide) r38.2.2.2.1).trans (hm2.2.2.2 q hq).1, (qo 43 q (by decide) r38.2.2.2.2.1).trans (hm2.2.2.2 q hq).2⟩⟩, hP8, ⟨(q19 14 (by decide)).trans hPm.1, fun i hi => ⟨(qo 46 i (by decide) r38.2.2.2.2.2.1).trans (hPm.2 i hi).1, (qo 47 i (by decide) r38.2.2.2.2.2.2).trans (hPm.2 i hi).2⟩⟩, hP0, hP1, ?_, w64, w1, w2, hS.fr F4 oT, hY.fr F4 oT, hW.fr F4 oW, hset, hlw⟩
    simp (config := { decide := true }) only [gII, show ¬ 19 = r from fun e => r19 e.symm, false_and, if_false, if_true]
  have w4 : gI (pI (pI m2 19 3 (nI wt)) r 1 (nI (wds S))) r 1 = nI (wds S) := by
    simp only [gII, and_self, if_true]
  generalize pI (pI m2 19 3 (nI wt)) r 1 (nI (wds S)) = m4 at F4 L4 J4 w4
  have key : ∀ d W : Nat, W + d = wds S → ∀ m5, Fr [37, 41, 44, 45, r + 1] m4 m5 → (∀ W', W' < W → ∀ i, i < 64 → (bw (gJ m5 (r + 1) W') i = true ↔ 64 * W' + i < cnt S ∧ LfB S set lw (64 * W' + i) = true)) → ∀ x : Int32, x = nI W → wX0_judge_L32 t 19 r Q (fun m18 => wX4_recount t m18 r (fun m20 => Q m20)) (d + 1) x m5 := by
    intro d
    induction d with
    | zero =>
      intro W hW1 m5 f5 g5 x hx
      have e : W = wds S := by omega
      subst e
      have L5 := L4.fr f5
      have W5 : gI m5 20 2 = nI (wds S) := (f5.I (by simp only [List.mem_cons, List.not_mem_nil, or_false]; unfold isRow at hr; omega) _).trans J4.way.words
      rw [hx, wX0_judge_L32, lr19_0 L5, W5]
      refine ⟨lk19 L, lk20 L, fun _ => ?_, fun hh => absurd (nI_le (Nat.le_refl _) (by omega)) hh⟩
      have nr : r ∉ [37, 41, 44, 45, r + 1] := by simp only [List.mem_cons, List.not_mem_nil, or_false]; unfold isRow at hr; omega
      refine sp_recount (rw_k L hr) (rw_r L5 hr) (rw_bk L hr) (rw_bl L hr) ((f5.I nr _).trans w4) hw64 (hQ _ (Fr.pI (F4.tr (f5.mono (fun a ha => by simp only [jT, List.mem_cons, List.not_mem_nil, or_false] at ha ⊢; omega))) (by simp [jT])) ⟨?_, ?_, ?_⟩)
      · simp (config := { decide := true }) only [gII, and_false, if_false]
        exact (f5.I nr _).trans w4
      · simp only [gII, and_self, if_true]
        rw [row_ct g5]
      · exact g5
    | succ d ih =>
      intro W hW1 m5 f5 g5 x hx
      have L5 := L4.fr f5
      have o20 : 20 ∉ [37, 41, 44, 45, r + 1] := by simp only [List.mem_cons, List.not_mem_nil, or_false]; unfold isRow at hr; omega
      have W5 : gI m5 20 2 = nI (wds S) := (f5.I o20 _).trans J4.way.words
      have J5 := J4.fr hs f5 (fun j hj => by unfold isSch at hs; unfold isRow at hr; simp only [List.mem_cons, List.not_mem_nil, or_false]; omega) (fun a ha => by unfold isRow at hr; simp only [List.mem_cons, List.not_mem_nil, or_false] at ha ⊢; omega)
      rw [hx, wX0_judge_L32, lr19_0 L5, W5, rw_r L5 hr, rw_bk L hr, rw_bl L hr, nI_cl (show W < 2 ^ 31 by omega)]
      refine ⟨lk19 L, lk20 L, fun hh => absurd hh (nI_ge (by omega) (by omega)), fun _ => ⟨rw_k L hr, sp_lawfulWord L5 hs v J5 (by omega) (fun y m6 f6 g6 => ⟨rfl, vp_nI (by omega) (by decide), ih (W + 1) (by omega) _ (Fr.pJ (f5.tr (f6.mono (fun a ha => by simp only [jT, List.mem_cons, List.not_mem_nil, or_false] at ha ⊢; omega))) (by simp)) (fun W' hW' i hi => ?_) _ (nI_1 W)⟩)⟩⟩
      by_cases z : W' = W
      · subst z
        simp only [gJJ, and_self, if_true]
        exact g6 i hi
      · simp only [gJJ, z, and_false, if_false]
        rw [f6.J (by unfold isRow at hr; simp only [List.mem_cons, List.not_mem_nil, or_false]; omega)]
        exact g5 W' (by omega) i hi
  exact key (wds S) 0 (by omega) m4 Fr.rf (fun W' h => absurd h (by omega)) 0 rfl
end
