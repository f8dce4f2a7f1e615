/-! The term: seed, draw, tries, mark, back -/
def mkM (T : Ts) : Ts := (fun j i => if j = tmk T ∧ j ≠ 3 then T.1 3 i else if j = 3 ∧ i = 3 then tmk T + 1 else T.1 j i, fun j => if j = tmk T then T.2 3 else T.2 j)
section
variable {t : zT} {m m' m1 m2 : zM} {s u r : Nat} {S : Sc} {T T' : Ts} {P P' : Nat → Bool} {x x2 x3 : Int32} {Tl : List Nat} {hd fb : Nat}
theorem cl8 : (8 : Int32).toNatClampNeg = 8 := by decide
theorem cl9 : (9 : Int32).toNatClampNeg = 9 := by decide
theorem cl10 : (10 : Int32).toNatClampNeg = 10 := by decide
theorem tm_hfV (h : TmV S T 3) : hfV S (thd T 3) (tfb T 3) := h.2
/-- the term has changed, but no fact -/
theorem co_same (c : CO t m s S T) (f : CT m m1) (h13 : gI m1 1 13 = gI m 1 13) (h68 : ∀ k, gI m1 68 k = gI m 68 k) (h69 : ∀ k, gJ m1 69 k = gJ m 69 k) (tm : TmC m1 S T') (e1 : thd T' 3 = thd T 3) (e2 : tfb T' 3 = tfb T 3) : CO t m1 s S T' := by
  have w := c.wor
  refine c.up f tm ?_ ?_
  · unfold RowM at w ⊢
    simp only [h68, h69, Wd, e1, e2]
    exact w
  · rw [h13, c.rec_, e1, e2]
theorem call_seed (c : CO t m s S T) (d : RO t m u S T) : wX9_seed t m 1 x (fun r m1 => wX12_seed t m1 75 x (fun r2 m2 => Fin m m2 r r2 ∨ FinT t s u S T m m2 r r2)) := by
  have L := c.cor.lay
  have no : (∀ n, n ≤ 65536 → x ≠ nI n) → wX9_seed_J26 t m 1 (fun r m1 => wX12_seed t m1 75 x (fun r2 m2 => Fin m m2 r r2 ∨ FinT t s u S T m m2 r r2)) := by
    intro hn
    have q1 : QF m (pI m 1 14 2) := QF.rf.why 2
    have d1 := d.c q1
    unfold wX9_seed_J26
    refine ⟨lk1 L, cx_refuse L ?_⟩
    unfold wX12_seed wX12_denied
    refine ⟨lk75 L, fun h => absurd h (u_ne d1), fun _ => rx_in0 (hi := 65536) (by decide) (fun n h1 h2 => absurd h2 (hn n h1)) (fun _ => ⟨fun _ => ⟨lk75 L, rx_refused L ⟨Or.inl rfl, Or.inl (fin_raw L q1 (w14 m 2) (thr _) (by decide) 0)⟩⟩, fun h => absurd rfl h⟩)⟩
  unfold wX9_seed
  refine ⟨lk1 L, cx_isOpen c ⟨fun h => absurd h (by decide), fun _ => ⟨fun hx => no (fun n hn e => by rw [e] at hx; exact nI_pos (by omega) hx), fun hx => ⟨fun hlt => ?_, fun hlt => no (fun n hn e => hlt (by rw [e]; exact nI_lt (show n < 65537 by omega) (by decide)))⟩⟩⟩⟩
  obtain ⟨k, hk, e⟩ := nI_of hx
  subst e
  have kl : k < 65537 := (nI_ltI hk (by decide)).mp hlt
  rw [lr1_6 L]
  refine ⟨lk61 L, cx_accept L ?_⟩
  have f : CT m (pI (pI m 61 0 (nI k)) 1 14 0) := ⟨Fr.pI (Fr.pI Fr.rf (by decide)) (by decide), fun j a b g => by simp (config := { decide := true }) only [gII, g, and_false, false_and, if_false], fun j a => by simp (config := { decide := true }) only [gII, and_false, false_and, if_false]⟩
  have tm1 : TmC (pI (pI m 61 0 (nI k)) 1 14 0) S (mkT T k (thd T 3) (tfb T 3) (tcs T 3)) := by
    refine c.tm.up (fun j hj k => ?_) ?_ ?_ ?_ ?_ ?_ kl (tm_hfV c.tm.val)
    · have : j ≠ 61 ∧ j ≠ 1 := by simp only [List.mem_cons, List.not_mem_nil, or_false] at hj; omega
      simp only [gII, this.1, this.2, false_and, if_false]
    all_goals simp (config := { decide := true }) only [gII, and_false, false_and, if_false, and_self, if_true]
    · exact c.tm.hidden
    · exact c.tm.facts
    · exact c.tm.costs
  have c1 := co_same (T' := mkT T k (thd T 3) (tfb T 3) (tcs T 3)) c f (by simp (config := { decide := true }) only [gII, and_false, false_and, if_false]) (fun _ => by simp (config := { decide := true }) only [gII, and_false, false_and, if_false]) (fun _ => rfl) tm1 rfl rfl
  have d1 := f.ro d
  unfold wX12_seed wX12_granted
  refine ⟨lk75 L, fun h => absurd h (u_ne d1), fun _ => rx_in0 (hi := 65536) (by decide) (fun _ _ _ => ⟨fun h => absurd h (by decide), fun _ => ?_⟩) (fun h => absurd rfl (h k (by omega)))⟩
  have d2 := d1.q (thr _)
  rw [lr75_26 d2.rc.lay, lk82 L, ll82 L, cl10]
  refine ⟨rfl, vp_nI (n := 10) (by decide) (by decide), lk75 L, rx_good L ⟨Or.inr rfl, Or.inr ?_⟩⟩
  have f2 : RT (pI (pI m 61 0 (nI k)) 1 14 0) (pI (pI (pI (pI (pI (pI m 61 0 (nI k)) 1 14 0) 75 0 0) 82 10 (nI k)) 75 1 0) 75 2 (-1)) := ⟨Fr.pI (Fr.pI (Fr.pI (Fr.pI Fr.rf (by decide)) (by decide)) (by decide)) (by decide), fun j a b g h i => by simp (config := { decide := true }) only [gII, a, b, g, and_false, false_and, if_false]⟩
  refine fin_T f c1 (Or.inl ⟨rfl, ?_, ?_⟩) (w := 0) ?_ f2 ?_ ?_ ?_ (by decide)
  · simp (config := { decide := true }) only [gII, and_false, false_and, if_false]
  · simp (config := { decide := true }) only [gII, and_false, false_and, if_false]
  · simp (config := { decide := true }) only [gII, and_self, if_true]
  · have o : ∀ a, a ∈ [75, 82] → a < 75 ∨ (85 ≤ a ∧ (a < u ∨ u + 15 ≤ a)) → False := by intro a ha; simp only [List.mem_cons, List.not_mem_nil, or_false] at ha; omega
    have u85 := d1.rc.rl.u85
    have F : Fr [75, 82] (pI (pI m 61 0 (nI k)) 1 14 0) (pI (pI (pI (pI (pI (pI m 61 0 (nI k)) 1 14 0) 75 0 0) 82 10 (nI k)) 75 1 0) 75 2 (-1)) := Fr.pI (Fr.pI (Fr.pI (Fr.pI Fr.rf (by decide)) (by decide)) (by decide)) (by decide)
    have oj : ∀ j, j ≤ 14 → u + j ∉ [75, 82] := by intro j hj; simp only [List.mem_cons, List.not_mem_nil, or_false]; omega
    refine ⟨d1.rc.fr2 F oj (by decide), d1.sy.fr2 F oj, d1.tm.up (fun k => ?_) ?_ ?_ (fun j hj => ?_) ?_ ?_ kl (tm_hfV c.tm.val)⟩
    all_goals simp (config := { decide := true }) only [gII, and_false, false_and, if_false, and_self, if_true]
    · exact (f.1.I (show 82 ∉ cTl by decide) _).symm.trans (d1.tm.hidden)
    · rw [if_neg (by omega)]
      exact (f.1.I (show 82 ∉ cTl by decide) _).symm.trans (d1.tm.fact j hj)
    · exact (f.1.I (show 82 ∉ cTl by decide) _).symm.trans (d1.tm.spent)
  · simp (config := { decide := true }) only [gII, and_false, false_and, if_false, and_self, if_true]
  · simp (config := { decide := true }) only [gII, and_false, false_and, if_false, and_self, if_true]
/-- the reference behind its own fields -/
theorem ro_up (d : RO t m u S T) (f : RT m m2) (tm : TmR m2 S T') : RO t m2 u S T' := by
  have u85 := d.rc.rl.u85
  have oj : ∀ j, j ≤ 14 → u + j ∉ rTl := by intro j hj; simp only [rTl, List.mem_cons, List.not_mem_nil, or_false]; omega
  exact ⟨d.rc.fr2 f.1 oj (by decide), d.sy.fr2 f.1 oj, tm⟩
theorem RT.good (f : RT m m2) (w : Int32) : RT m (pI (pI m2 75 1 w) 75 2 (-1)) := ⟨Fr.pI (Fr.pI f.1 (by decide)) (by decide), fun j a b g h i => by simp (config := { decide := true }) only [gII, b, g, and_false, false_and, if_false]; exact f.2 j a b g h i⟩
theorem RT.thr (f : RT m m2) : RT m (pI m2 75 0 0) := ⟨Fr.pI f.1 (by decide), fun j a b g h i => by simp (config := { decide := true }) only [gII, a, and_false, false_and, if_false]; exact f.2 j a b g h i⟩
theorem RT.rf : RT m m := ⟨Fr.rf, fun _ _ _ _ _ _ => rfl⟩
theorem RT.tr (h1 : RT m m1) (h2 : RT m1 m2) : RT m m2 := ⟨h1.1.tr h2.1, fun j a b c d e => (h2.2 j a b c d e).trans (h1.2 j a b c d e)⟩
theorem RT.q (h : QR m m1) (h81 : Fr [75, 78, 79] m m1) : RT m m1 := ⟨h81.mono (by decide), fun j a b c d _ => h.2 j a b c d⟩
theorem TmR.gd (h : TmR m S T) (w : Int32) : TmR (pI (pI m 75 1 w) 75 2 (-1)) S T := by
  unfold TmR at h ⊢
  simp (config := { decide := true }) only [gII, and_false, false_and, if_false]
  exact h
theorem TmR.fr (h : TmR m S T) (f : Fr Tl m m') (h1 : 82 ∉ Tl) (h2 : 83 ∉ Tl) (h3 : gI m' 75 28 = gI m 75 28) : TmR m' S T := by
  unfold TmR at h ⊢
  simp only [f.I h1, f.I h2, h3]
  exact h
theorem CT.tr (h1 : CT m m1) (h2 : CT m1 m2) : CT m m2 := ⟨h1.1.tr h2.1, fun j a b c => (h2.2.1 j a b c).trans (h1.2.1 j a b c), fun j a => (h2.2.2 j a).trans (h1.2.2 j a)⟩
theorem CT.why (h : CT m m1) (v : Int32) : CT m (pI m1 1 14 v) := ⟨Fr.pI h.1 (by decide), fun j a b c => by rw [gII, if_neg (fun q => c q.2)]; exact h.2.1 j a b c, fun j a => by rw [gII, if_neg (fun q => absurd q.1 (by decide))]; exact h.2.2 j a⟩
theorem CT.p61 (h : CT m m1) (j : Nat) (v : Int32) : CT m (pI m1 61 j v) := ⟨Fr.pI h.1 (by decide), fun i a b c => by rw [gII, if_neg (fun q => absurd q.1 (by decide))]; exact h.2.1 i a b c, fun i a => by rw [gII, if_neg (fun q => absurd q.1 (by decide))]; exact h.2.2 i a⟩
theorem Rk.ct (h : Rk m m' S hd fb) : CT m m' := ⟨h.fr.mono (by decide), fun j a b _ => h.x j a b, fun j a => h.p j a⟩
theorem TmC.fr (h : TmC m S T) (f : Fr Tl m m') (hT : ∀ a, a ∈ [61, 62, 63, 64, 65] → a ∉ Tl) : TmC m' S T := by
  unfold TmC at h ⊢
  simp only [f.I (hT 61 (by decide)), f.I (hT 62 (by decide)), f.I (hT 63 (by decide)), f.I (hT 64 (by decide)), f.I (hT 65 (by decide))]
  exact h
/-- the class behind a change of the hidden way or of the facts: then it is reckoned again if need be -/
theorem co_reckon (c : CO t m s S T) (f : CT m m1) (hx : gI m1 1 12 = gI m 1 12) (h52 : gI m1 52 0 = gI m 52 0) (h13 : gI m1 1 13 = gI m 1 13) (h68 : Fr [61] m m1) (tm : TmC m1 S T') {Q : zM → Prop} (hQ : ∀ m2, Fr [1, 52, 68, 69] m1 m2 → CT m m2 → CO t m2 s S T' → Kp S T T' m m2 → Q m2) : wX9_reckonIfChanged t m1 1 Q := by
  have c1 := c.cor.fr h68 (fun a h1 h2 h3 => by simp only [List.mem_cons, List.not_mem_nil, or_false]; omega)
  refine sp_reckonIf c1 ((h68.2 _ _).trans c.x3) tm.hidden tm.facts (tm_hfV tm.val) (c.law.fr h68 (by decide) (by decide)) (tm_hfV c.tm.val) (h13.trans c.rec_) (fun e e13 => ?_) (fun m2 k2 => ?_)
  · refine hQ m1 Fr.rf f (c.up f tm ?_ e13) (Or.inl ⟨e, hx, h52⟩)
    have w := c.wor.fr h68 (by decide) (by decide)
    unfold Wd at w ⊢
    rw [e]
    exact w
  · have f2 := f.tr k2.ct
    exact hQ m2 k2.fr f2 (c.up f2 (tm.fr k2.fr (by decide)) k2.row k2.x13) (Or.inr ⟨k2.x12, k2.p0⟩)
theorem mul75 {k : Nat} (hk : k < 65537) : (((75 : Int32) * nI k) + (74 : Int32)) - (((75 : Int32) * nI k) + (74 : Int32)) / 65537 * 65537 = nI ((75 * k + 74) % 65537) := by
  rw [show (75 : Int32) = nI 75 from rfl, show (74 : Int32) = nI 74 from rfl, pk_mul, nI_add, show (65537 : Int32) = nI 65537 from rfl, pk_rem (by omega) (by decide) (by decide)]
theorem mul75L {k : Nat} (hk : k < 65537) : (((75 * (nI k).toInt64) + 74) - ((75 * (nI k).toInt64) + 74) / 65537 * 65537).toInt32 = nI ((75 * k + 74) % 65537) := by
  rw [nI_l (by omega), show (75 : Int64) = lN 75 from rfl, show (74 : Int64) = lN 74 from rfl, lN_mul, lN_add, show (65537 : Int64) = lN 65537 from rfl, pk_lRem (by omega) (by decide) (by decide), lN_i]
theorem no_fact (S : Sc) (h : Nat) : Fcf S h 0 = fun _ => 0 := by funext k; simp [Fcf]
theorem wd_none (h : tfb T 3 = 0) : Wd S T = Lw S := by
  funext w
  unfold Wd
  rw [askP_eq, h, no_fact]
  have : FacB S (fun _ => 0) w = true := FacB_iff.mpr (fun k _ => Or.inl rfl)
  rw [this]
  simp [Lw]
/-- the drawn way -/
def isDr (S : Sc) (T : Ts) (sd j : Nat) : Prop := sd = (75 * tsd T 3 + 74) % 65537 ∧ j < cnt S ∧ Lw S j = true ∧ fb_ct (Lw S) j = sd % mny S (Lw S)
theorem isDr_one {a b j k : Nat} (h1 : isDr S T a j) (h2 : isDr S T b k) : a = b ∧ j = k := by
  have e : a = b := h1.1.trans h2.1.symm
  subst e
  exact ⟨rfl, fb_ct_kth_one h1.2.2.1 h2.2.2.1 (h1.2.2.2.trans h2.2.2.2.symm)⟩
theorem sp_draw (c : CO t m s S T) {Q : Int32 → zM → Prop} (h0 : mny S (Lw S) = 0 → Q (-1) (pI m 1 14 6)) (h1 : ∀ sd j m2, 0 < mny S (Lw S) → isDr S T sd j → CT m m2 → CO t m2 s S (mkT T sd (j + 1) 0 0) → Kp S T (mkT T sd (j + 1) 0 0) m m2 → gI m2 1 14 = 0 → Q (nI (mny S (Lw S))) m2) : wX9_draw t m 1 Q := by
  have L := c.cor.lay
  have v := c.cor.vs
  have hc := v.cnt
  have ml := mny_le (S := S) (Lw S)
  have em : gI m 66 2 = nI (mny S (Lw S)) := c.law.members
  unfold wX9_draw
  refine ⟨lk1 L, cx_isOpen c ⟨fun h => absurd h (by decide), fun _ => ?_⟩⟩
  rw [lr1_7 L, lr1_6 L, em, nI_small v ml, c.tm.seed, mul75 c.tm.val.1]
  refine ⟨lk66 L, fun hz => cx_refuse L (h0 hz), fun hz => ⟨lk61 L, ?_⟩⟩
  have sl : (75 * tsd T 3 + 74) % 65537 < 65537 := Nat.mod_lt _ (by decide)
  generalize es : (75 * tsd T 3 + 74) % 65537 = sd at sl ⊢
  have pos : 0 < mny S (Lw S) := by omega
  have il := Nat.mod_lt sd pos
  obtain ⟨j, j1, j2, j3⟩ := fb_ct_kth (p := Lw S) (n := cnt S) il
  rw [gII, gII, if_pos ⟨rfl, rfl⟩, if_neg (fun q => absurd q.1 (by decide)), em]
  unfold wX9_remainder
  refine ⟨fun h => absurd h (nI_nle pos (by omega)), fun _ => ⟨nI_ne0 pos (by omega), ?_⟩⟩
  rw [pk_rem (by omega) pos (by omega)]
  have F1 : Fr [61] m (pI m 61 0 (nI sd)) := Fr.pI Fr.rf (by decide)
  have R1 := c.law.fr F1 (by decide) (by decide)
  refine sp_memberAt (lk66 L) (lr66_0 (L.fr F1)) (lk67 L) (ll67 L) R1.words (wds_le v) (Nat.lt_of_lt_of_le j1 cnt_wds) ((R1.rbc j1).trans j2) ((R1.rbct (by omega)).trans j3) ?_
  refine ⟨lk61 L, ?_⟩
  have F2 : Fr [61] m (pI (pI (pI (pI m 61 0 (nI sd)) 61 1 (nI j)) 61 2 0) 61 3 0) := Fr.pI (Fr.pI (Fr.pI F1 (by decide)) (by decide)) (by decide)
  have f2 : CT m (pI (pI (pI (pI m 61 0 (nI sd)) 61 1 (nI j)) 61 2 0) 61 3 0) := (((CT.rf.p61 _ _).p61 _ _).p61 _ _).p61 _ _
  have tm : TmC (pI (pI (pI (pI m 61 0 (nI sd)) 61 1 (nI j)) 61 2 0) 61 3 0) S (mkT T sd (j + 1) 0 0) := by
    refine c.tm.up (fun a ha k => F2.I ?_ k) ?_ ?_ ?_ ?_ ?_ sl ⟨j1, Nat.two_pow_pos _, fun _ => rfl⟩
    · simp only [List.mem_cons, List.not_mem_nil, or_false] at ha ⊢; omega
    all_goals simp (config := { decide := true }) only [gII, and_false, false_and, if_false, and_self, if_true]
    all_goals first | rfl | (simp [m1I])
  refine co_reckon c f2 (F2.I (by decide) _) (F2.I (by decide) _) (F2.I (by decide) _) F2 tm (fun m3 g3 f3 c3 k3 => ?_)
  have w : Wd S (mkT T sd (j + 1) 0 0) = Lw S := wd_none rfl
  have em3 : gI m3 68 2 = nI (mny S (Lw S)) := by
    have := c3.wor.members
    rw [w] at this
    exact this
  rw [lr1_8 c3.cor.lay, em3]
  have q4 : QF m3 (pI m3 1 14 0) := QF.rf.why 0
  refine ⟨lk68 L, cx_accept L (h1 sd j _ pos ⟨es.symm, j1, j2, j3⟩ (f3.why 0) (c3.q q4) ?_ (w14 _ _))⟩
  rcases k3 with ⟨a, b, e⟩ | ⟨a, b⟩
  · exact Or.inl ⟨a, by simp (config := { decide := true }) only [gII, and_false, false_and, if_false]; exact b, by simp (config := { decide := true }) only [gII, and_false, false_and, if_false]; exact e⟩
  · exact Or.inr ⟨by simp (config := { decide := true }) only [gII, and_false, false_and, if_false]; exact a, by simp (config := { decide := true }) only [gII, and_false, false_and, if_false]; exact b⟩
end
