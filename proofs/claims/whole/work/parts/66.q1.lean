/-! Queries: ways, worlds, world, lawful, sure, may, likely, settled, right -/
section
variable {t : zT} {m m' m1 m2 : zM} {s u r : Nat} {S : Sc} {T : Ts} {P : Nat → Bool} {x x2 x3 : Int32}
theorem RowM.rb_ (R : RowM m r S P) {w : Nat} (hw : w < 64 * wds S) : rb m (r + 1) w = (decide (w < cnt S) && P w) := by
  have a := R.bit (w / 64) (by omega) (w % 64) (by omega)
  rw [show 64 * (w / 64) + w % 64 = w by omega] at a
  rw [rb, ← bt_iff, a, Bool.and_eq_true, decide_eq_true_eq]
theorem cnt_wds : cnt S ≤ 64 * wds S := by unfold wds; omega
theorem RowM.rbc (R : RowM m r S P) {w : Nat} (hw : w < cnt S) : rb m (r + 1) w = P w := by
  rw [R.rb_ (Nat.lt_of_lt_of_le hw cnt_wds)]
  simp [hw]
theorem RowM.rbct (R : RowM m r S P) {w : Nat} (hw : w ≤ cnt S) : fb_ct (rb m (r + 1)) w = fb_ct P w := fb_ct_cong (fun k hk => R.rbc (by omega))
theorem call_ways (c : CO t m s S T) (d : RO t m u S T) : wX9_ways t m 1 (fun r m1 => wX12_ways t m1 75 (fun r2 m2 => Fin m m2 r r2)) := by
  have L := c.cor.lay
  unfold wX9_ways
  refine ⟨lk1 L, cx_isOpen c ⟨fun h => absurd h (by decide), fun _ => ⟨by rw [lr1_2 L]; exact lk20 L, cx_accept L ?_⟩⟩⟩
  rw [lr1_2 L, c.cor.way.count]
  have q1 : QF m (pI m 1 14 0) := QF.rf.why 0
  have d1 := d.c q1
  have d2 := d1.q (thr _)
  unfold wX12_ways
  refine ⟨lk75 L, fun h => absurd h (u_ne d1), fun _ => ⟨by rw [d1.rc.told]; exact d1.rc.rl.k, fin_good L ?_ q1 (w14 m 0) (thr _)⟩⟩
  rw [d1.rc.told, d2.rc.sm.ways]
theorem call_worlds (c : CO t m s S T) (d : RO t m u S T) : wX9_worlds t m 1 (fun r m1 => wX12_worlds t m1 75 (fun r2 m2 => Fin m m2 r r2)) := by
  have L := c.cor.lay
  unfold wX9_worlds
  refine ⟨lk1 L, cx_isOpen c ⟨fun h => absurd h (by decide), fun _ => ⟨by rw [lr1_8 L]; exact lk68 L, cx_accept L ?_⟩⟩⟩
  rw [lr1_8 L, c.wor.members]
  have q1 : QF m (pI m 1 14 0) := QF.rf.why 0
  have d1 := d.c q1
  have d2 := d1.q (thr _)
  unfold wX12_worlds
  refine ⟨lk75 L, fun h => absurd h (u_ne d1), fun _ => rx_asksWorlds d2 (fun m3 q3 _ d3 A => fin_good L ?_ q1 (w14 m 0) ((thr _).tr q3))⟩
  rw [A.many]; rfl
theorem call_world (c : CO t m s S T) (d : RO t m u S T) : wX9_world t m 1 x (fun r m1 => wX12_world t m1 75 x (fun r2 m2 => Fin m m2 r r2)) := by
  have L := c.cor.lay
  have hc := c.cor.vs.cnt
  have ml := mny_le (S := S) (Wd S T)
  -- the reference
  have refs : ∀ (r1 w : Int32), gI (pI m 1 14 w) 1 14 = w → (∀ m3, QR (pI m 1 14 w) m3 → (x < 0 ∨ ∀ i, x = nI i → mny S (Wd S T) ≤ i) → wX12_refused t m3 75 1 (fun r2 m2 => Fin m m2 r1 r2)) → (∀ m3 i j, QR (pI m 1 14 w) m3 → x = nI i → i < 2 ^ 31 → j < cnt S → Wd S T j = true → fb_ct (Wd S T) j = i → wX12_good t m3 75 (nI j) (fun r2 m2 => Fin m m2 r1 r2)) → wX12_world t (pI m 1 14 w) 75 x (fun r2 m2 => Fin m m2 r1 r2) := by
    intro r1 w hw h1 h2
    have q1 : QF m (pI m 1 14 w) := QF.rf.why w
    have d1 := d.c q1
    have d2 := d1.q (thr _)
    unfold wX12_world wX12_world_J16
    refine ⟨lk75 L, fun h => absurd h (u_ne d1), fun _ => ⟨fun h0 => rx_asksWorlds d2 (fun m3 q3 _ d3 A => ⟨cnt S + 1, ?_⟩), fun h0 => ⟨lk75 L, h1 _ (thr _) (Or.inl (fa_of_nle h0))⟩⟩⟩
    obtain ⟨i, hi, e⟩ := nI_of (x := x) (fun q => absurd (fa_trans q h0) (fun z => by rw [fa_lt] at z; omega))
    have Q3 := (thr (pI m 1 14 w)).tr q3
    have key : ∀ dd k n : Nat, k + dd = cnt S → n = fb_ct (Wd S T) k → (∀ j, j < k → Wd S T j = true → fb_ct (Wd S T) j ≠ i) → ∀ z4 z5 : Int32, z4 = nI n → z5 = nI k → wX12_world_L30 t 75 x (fun r2 m2 => Fin m m2 r1 r2) (fun m18 => wX12_refused t m18 75 1 (fun r19 m20 => Fin m m20 r1 r19)) (dd + 1) z4 z5 m3 := by
      intro dd
      induction dd with
      | zero =>
        intro k n hk hn g z4 z5 h4 h5
        have ek : k = cnt S := by omega
        subst ek
        rw [h5, wX12_world_L30, d3.rc.told, d3.rc.sm.ways]
        refine ⟨lk75 L, d3.rc.rl.k, fun _ => h1 m3 Q3 (Or.inr (fun i' hi' => ?_)), fun hh => absurd (nI_le (Nat.le_refl _) (by omega)) hh⟩
        rcases Nat.lt_or_ge i' (mny S (Wd S T)) with q | q
        · have : i' = i := (nI_eq (by omega) hi).mp (hi'.symm.trans e)
          subst this
          obtain ⟨j, j1, j2, j3⟩ := fb_ct_kth q
          exact absurd j3 (g j j1 j2)
        · exact q
      | succ dd ih =>
        intro k n hk hn g z4 z5 h4 h5
        have nl : n ≤ k := by rw [hn]; exact fb_ct_le _ _
        rw [h4, h5, wX12_world_L30, d3.rc.told, d3.rc.sm.ways, lr75_17 d3.rc.lay, lk78 L, ll78 L, nI_cl (show k < 2 ^ 31 by omega), A.is_ k (by omega), bI_0, e, nI_eq (by omega) hi]
        unfold wX12_world_J67
        refine ⟨lk75 L, d3.rc.rl.k, fun hh => absurd hh (nI_ge (by omega) (by omega)), fun _ => ⟨rfl, vp_nI (by omega) (by decide), fun hz => ?_, fun hz => ⟨fun he => h2 m3 i k Q3 e hi (by omega) (ts_false hz) (by rw [← hn]; exact he), fun he => ?_⟩⟩⟩
        · rw [← e]
          refine ih (k + 1) n (by omega) (by rw [fb_ct_succ, hz]; simpa using hn) (fun j hj hj1 => ?_) _ _ rfl (nI_1 k)
          rcases (show j < k ∨ j = k by omega) with q | q
          · exact g j q hj1
          · subst q; rw [hz] at hj1; cases hj1
        · rw [← e]
          refine ih (k + 1) (n + 1) (by omega) (by rw [fb_ct_succ, ts_false hz, hn]; rfl) (fun j hj hj1 => ?_) _ _ (nI_1 n) (nI_1 k)
          rcases (show j < k ∨ j = k by omega) with q | q
          · exact g j q hj1
          · subst q; rw [← hn]; exact he
    exact key (cnt S) 0 0 (by omega) rfl (fun j hj => absurd hj (by omega)) 0 0 rfl rfl
  have no : (x < 0 ∨ ∀ i, i < mny S (Wd S T) → x ≠ nI i) → wX9_world_J22 t m 1 (fun r m1 => wX12_world t m1 75 x (fun r2 m2 => Fin m m2 r r2)) := by
    intro hx
    unfold wX9_world_J22
    refine ⟨lk1 L, cx_refuse L (refs (-1) 1 (w14 m 1) (fun m3 q3 _ => fin_refused L (QF.rf.why 1) (w14 m 1) q3 (by decide)) (fun m3 i j q3 h1 h2 h3 h4 h5 => ?_))⟩
    rcases hx with hx | hx
    · rw [h1] at hx; exact absurd hx (nI_pos h2)
    · exact absurd h1 (hx i (by
        have : fb_ct (Wd S T) j + 1 ≤ fb_ct (Wd S T) (cnt S) := by
          have e := fb_ct_mono (Wd S T) (show j + 1 ≤ cnt S by omega)
          rw [fb_ct_succ, h4] at e
          simpa using e
        unfold mny
        omega))
  unfold wX9_world
  refine ⟨lk1 L, cx_isOpen c ⟨fun h => absurd h (by decide), fun _ => ⟨fun hx => no (Or.inl hx), fun hx => ?_⟩⟩⟩
  rw [lr1_8 L, c.wor.members]
  obtain ⟨i, hi, e⟩ := nI_of hx
  have ml2 : fb_ct (Wd S T) (cnt S) ≤ cnt S := ml
  refine ⟨lk68 L, fun hlt => ?_, fun hlt => no (Or.inr (fun i' hi' e' => hlt (by rw [e']; exact nI_lt hi' (by unfold mny at hi'; omega))))⟩
  rw [e] at hlt
  have hlt := (nI_ltI hi (by omega)).mp hlt
  obtain ⟨j, j1, j2, j3⟩ := fb_ct_kth hlt
  rw [e]
  refine sp_memberAt (lk68 L) (lr68_0 L) (lk69 L) (ll69 L) c.wor.words (wds_le c.cor.vs) (Nat.lt_of_lt_of_le j1 cnt_wds) ((c.wor.rbc j1).trans j2) ((c.wor.rbct (by omega)).trans j3) (cx_accept L ?_)
  rw [← e]
  refine refs (nI j) 0 (w14 m 0) (fun m3 q3 hh => ?_) (fun m3 i' j' q3 h1 h2 h3 h4 h5 => fin_good L ?_ (QF.rf.why 0) (w14 m 0) q3)
  · rcases hh with hh | hh
    · exact absurd hh hx
    · have := hh i e
      unfold mny at this
      omega
  · have : i' = i := (nI_eq h2 hi).mp (h1.symm.trans e)
    subst this
    rw [fb_ct_kth_one j2 h4 (j3.trans h5.symm)]
theorem call_lawful (c : CO t m s S T) (d : RO t m u S T) : wX9_lawful t m 1 x (fun r m1 => wX12_lawful t m1 75 x (fun r2 m2 => Fin m m2 r r2)) := by
  have L := c.cor.lay
  have v := c.cor.vs
  have hc := v.cnt
  have n16 := v.n16
  have no : (∀ k, k < cnt S → x ≠ nI k) → wX9_lawful_J22 t m 1 (fun r m1 => wX12_lawful t m1 75 x (fun r2 m2 => Fin m m2 r r2)) := by
    intro hx
    unfold wX9_lawful_J22
    refine ⟨lk1 L, cx_refuse L ?_⟩
    have q1 : QF m (pI m 1 14 1) := QF.rf.why 1
    have d1 := d.c q1
    have d2 := d1.q (thr _)
    unfold wX12_lawful wX12_lawful_J61
    have fr := fin_refused (m2 := pI (pI m 1 14 1) 75 0 0) L q1 (w14 m 1) (thr _) (by decide)
    refine ⟨lk75 L, fun h => ⟨lk75 L, fr⟩, fun _ => ⟨fun h => ⟨lk75 L, fr⟩, fun h0 => ?_⟩⟩
    rw [d1.rc.told, d2.rc.sm.ways]
    refine ⟨d1.rc.rl.k, fun h => ⟨lk75 L, fr⟩, fun h => ?_⟩
    obtain ⟨k, hk, e⟩ := nI_of h0
    rw [e] at h
    exact absurd e (hx k (by
      rcases Nat.lt_or_ge k (cnt S) with q | q
      · exact q
      · exact absurd (nI_le q hk) h))
  unfold wX9_lawful
  refine ⟨lk1 L, cx_isOpen c ⟨fun h => absurd h (by decide), fun _ => ⟨fun hx => no (fun k hk e => by rw [e] at hx; exact nI_pos (by omega) hx), fun hx => ?_⟩⟩⟩
  rw [lr1_2 L, c.cor.way.count, lr1_7 L]
  refine ⟨lk20 L, fun hlt => ⟨lk66 L, ?_⟩, fun hlt => no (fun k hk e => hlt (by rw [e]; exact nI_lt hk (by omega)))⟩
  obtain ⟨k, hk, e⟩ := nI_of hx
  subst e
  have hlt := (nI_ltI hk (by omega)).mp hlt
  have yes : ∀ b : Bool, b = Lw S k → wX9_lawful_J45 t m (bI b) 1 (fun r m1 => wX12_lawful t m1 75 (nI k) (fun r2 m2 => Fin m m2 r r2)) := by
    intro b hb
    unfold wX9_lawful_J45
    refine ⟨lk1 L, cx_accept L ?_⟩
    have q1 : QF m (pI m 1 14 0) := QF.rf.why 0
    have d1 := d.c q1
    have d2 := d1.q (thr _)
    unfold wX12_lawful wX12_lawful_J55 wX11_allSayings
    refine ⟨lk75 L, fun h => absurd h (u_ne d1), fun _ => ⟨fun h => absurd h (nI_pos hk), fun h0 => ?_⟩⟩
    simp only [d1.rc.told, d2.rc.told, d2.rc.sm.ways, d2.rc.sm.sayings, d2.rc.sm.laws, all_bits (show cN S < 31 by omega)]
    refine ⟨d1.rc.rl.k, fun h => absurd h (nI_ge hlt (by omega)), fun _ => ⟨d1.rc.rl.k, d1.rc.rl.k, rsp_isLawful d2.rc d2.sy hlt (fun i hi => allS_tb hi) (by omega) (allS_lt v) (fun h => h) ?_⟩⟩
    have hb2 : b = LfB S (allS S) (cLw S) k := hb
    rw [← hb2, bI_0]
    refine ⟨fun h => ⟨lk75 L, fin_good L (by rw [h]; rfl) q1 (w14 m 0) (thr _)⟩, fun h => ⟨lk75 L, fin_good L (by rw [ts_false h]; rfl) q1 (w14 m 0) (thr _)⟩⟩
  refine sp_has (lk66 L) (lr66_0 L) (lk67 L) (ll67 L) (by omega) ?_
  have e1 : bw (gJ m 67 (k / 64)) (k % 64) = Lw S k := c.law.rbc hlt
  rw [e1]
  cases hb : Lw S k with
  | false => exact ⟨fun _ => yes false hb.symm, fun h => absurd rfl h⟩
  | true => exact ⟨fun h => absurd h (by decide), fun _ => yes true hb.symm⟩
theorem cx_onlyBit (v : Vs S) {tt : Nat} (ht : tt < cT S) {Q : Int32 → zM → Prop} (h : Q (onI S P tt) m) : wX9_onlyBit t m (nI (bts (hasA S P tt) (cA S tt))) Q := by
  have a4 := (v.a2 tt ht).2
  have b16 := bts_lt (hasA S P tt) (cA S tt)
  have b16' : 2 ^ cA S tt ≤ 2 ^ 4 := Nat.pow_le_pow_right (by decide) a4
  have fl := fb_ct_le (hasA S P tt) (cA S tt)
  unfold wX9_onlyBit
  refine sp_bc32 (by omega) ?_
  rw [bts_ct (by omega)]
  refine ⟨fun h1 => ?_, fun h1 => ?_⟩
  · have h1 : fb_ct (hasA S P tt) (cA S tt) = 1 := (nI_eq (b := 1) (by omega) (by decide)).mp h1
    have hs : sureB S P tt = true := by unfold sureB; rw [h1]; rfl
    obtain ⟨a, h2, h3, h4⟩ := (sure_iff v ht).mp hs
    have o := on_val v ht h3 h4
    obtain ⟨a', g1, g2, g3⟩ := ct_one.mp h1
    have ea : a = a' := g3 a h2 (decide_eq_true (by rw [h4]; exact h3))
    subst ea
    have eb : bts (hasA S P tt) (cA S tt) = 2 ^ a := by
      apply Nat.eq_of_testBit_eq
      intro i
      rw [bts_tb, Nat.testBit_two_pow, ← bt_iff, Bool.and_eq_true, decide_eq_true_eq, decide_eq_true_eq]
      constructor
      · rintro ⟨q1, q2⟩; exact (g3 i q1 q2).symm
      · rintro rfl; exact ⟨g1, g2⟩
    have p1 : 1 ≤ 2 ^ a := Nat.one_le_two_pow
    rw [eb, show (1 : Int32) = nI 1 from rfl, pk_sub p1]
    have e2 : 2 ^ a - 1 = bts (fun _ => true) a := by
      apply Nat.eq_of_testBit_eq
      intro i
      rw [bts_tb, Nat.testBit_two_pow_sub_one, Bool.and_true]
    have l2 : 2 ^ a < 2 ^ 4 := Nat.pow_lt_pow_right (by decide) (by omega)
    refine sp_bc32 (by omega) ?_
    rw [e2, bts_ct (by omega), fb_ct_all.mpr (fun _ _ => rfl)]
    rw [onI, hs, o.2.1] at h
    exact h
  · have hs : sureB S P tt = false := by
      unfold sureB
      exact beq_eq_false_iff_ne.mpr (fun e => h1 (by rw [e]; rfl))
    rw [onI, hs] at h
    exact h
theorem nI_small {n : Nat} (v : Vs S) (h : n ≤ cnt S) : (nI n = 0 ↔ n = 0) := nI_eq (b := 0) (by have := v.cnt; omega) (by decide)
theorem call_sure (c : CO t m s S T) (d : RO t m u S T) : wX9_sure t m 1 x (fun r m1 => wX12_sure t m1 75 x (fun r2 m2 => Fin m m2 r r2)) := by
  have L := c.cor.lay
  have v := c.cor.vs
  have ml := mny_le (S := S) (Wd S T)
  unfold wX9_sure
  refine ⟨lk1 L, cx_isThing c (fun k hk e => cx_without c (fun h => absurd h (by decide)) (fun _ hz => ⟨fun h => absurd h (by decide), fun _ => cx_refuse L ?_⟩) (fun _ hp => ⟨fun _ => ⟨by rw [lr1_2 L]; exact lk20 L, ?_⟩, fun h => absurd rfl h⟩)) (fun hn => cx_without c (fun _ => ⟨fun h => absurd h (by decide), fun _ => cx_refuse L ?_⟩) (fun h => absurd rfl h) (fun h => absurd rfl h))⟩
  · have q1 : QF m (pI m 1 14 6) := QF.rf.why 6
    have d2 := (d.c q1).q (thr _)
    unfold wX12_sure
    refine ⟨lk75 L, rx_isThing d2 (fun k' _ _ => ⟨fun h => absurd h (by decide), fun _ => rx_asksWorlds d2 (fun m3 q3 _ d3 A => ?_)⟩) (fun h => absurd e (h k hk))⟩
    rw [A.many, nI_small v ml]
    exact ⟨fun _ => fin_refused L q1 (w14 m 6) ((thr _).tr q3) (by decide), fun h => absurd hz h⟩
  · rw [lr1_2 L, lr1_8 L]
    subst e
    refine sp_answersIn c.cor (Or.inr (Or.inl rfl)) c.wor hk (cx_onlyBit v hk (cx_accept L ?_))
    have q1 : QF m (pI m 1 14 0) := QF.rf.why 0
    have d2 := (d.c q1).q (thr _)
    unfold wX12_sure
    refine ⟨lk75 L, rx_isThing d2 (fun k' _ _ => ⟨fun h => absurd h (by decide), fun _ => rx_asksWorlds d2 (fun m3 q3 _ d3 A => ?_)⟩) (fun h => absurd rfl (h k hk))⟩
    rw [A.many, nI_small v ml]
    exact ⟨fun h => by omega, fun _ => rsp_one d3.rc A hk (fin_good L rfl q1 (w14 m 0) ((thr _).tr q3))⟩
  · have q1 : QF m (pI m 1 14 1) := QF.rf.why 1
    have d2 := (d.c q1).q (thr _)
    unfold wX12_sure
    refine ⟨lk75 L, rx_isThing d2 (fun k hk e => absurd e (hn k hk)) (fun h => ⟨fun _ => fin_refused L q1 (w14 m 1) (thr _) (by decide), fun h => absurd rfl h⟩)⟩
theorem call_may (c : CO t m s S T) (d : RO t m u S T) : wX9_may t m 1 x (fun r m1 => wX12_may t m1 75 x (fun r2 m2 => Fin m m2 r r2)) := by
  have L := c.cor.lay
  have v := c.cor.vs
  have t8 := v.t8
  have hc := v.cnt
  unfold wX9_may
  refine ⟨lk1 L, cx_isThing c (fun k hk e => ⟨fun h => absurd h (by decide), fun _ => ⟨by rw [lr1_2 L]; exact lk20 L, ?_⟩⟩) (fun hn => ⟨fun _ => cx_refuse L ?_, fun h => absurd rfl h⟩)⟩
  · rw [lr1_2 L, lr1_8 L]
    subst e
    refine sp_answersIn c.cor (Or.inr (Or.inl rfl)) c.wor hk (cx_accept L ?_)
    have q1 : QF m (pI m 1 14 0) := QF.rf.why 0
    have d2 := (d.c q1).q (thr _)
    unfold wX12_may
    refine ⟨lk75 L, rx_isThing d2 (fun k' _ _ => ⟨fun h => absurd h (by decide), fun _ => rx_asksWorlds d2 (fun m3 q3 _ d3 A => ⟨5, ?_⟩)⟩) (fun h => absurd rfl (h k hk))⟩
    have eb : bts (hasA S (Wd S T) k) (cA S k) = bts (hasA S (Wd S T) k) 4 := bts_ext (fun i => by
      have a4 := (v.a2 k hk).2
      by_cases z : i < cA S k
      · simp [z, show i < 4 by omega]
      · rw [hasA_out v hk (show cA S k ≤ i by omega)]; simp)
    have key : ∀ dd j : Nat, j + dd = 4 → ∀ z2 z3 : Int32, z2 = nI (bts (hasA S (Wd S T) k) j) → z3 = nI j → wX12_may_L27 t 75 (nI k) (fun r2 m2 => Fin m m2 (nI (bts (hasA S (Wd S T) k) (cA S k))) r2) (fun v13 m14 => wX12_good t m14 75 v13 (fun r15 m16 => Fin m m16 (nI (bts (hasA S (Wd S T) k) (cA S k))) r15)) (dd + 1) z2 z3 m3 := by
      intro dd
      induction dd with
      | zero =>
        intro j hj z2 z3 h2 h3
        have ej : j = 4 := by omega
        subst ej
        rw [h2, h3, wX12_may_L27]
        exact ⟨fun _ => fin_good L (by rw [eb]) q1 (w14 m 0) ((thr _).tr q3), fun hh => absurd (nI_le (a := 4) (b := 4) (Nat.le_refl _) (by decide)) hh⟩
      | succ dd ih =>
        intro j hj z2 z3 h2 h3
        have ol : oft S (Wd S T) k j ≤ cnt S := fb_ct_le _ _
        rw [h2, h3, wX12_may_L27, lr75_18 d3.rc.lay, lk79 L, ll79 L, show (4 : Int32) = nI 4 from rfl, pk_mul, nI_add, nI_cl (by omega), A.often k hk j (by omega)]
        unfold wX12_may_J53
        refine ⟨fun hh => absurd hh (nI_ge (b := 4) (by omega) (by decide)), fun _ => ⟨lk75 L, rfl, vp_nI (by omega) (by decide), fun h0 x12 h12 => ih (j + 1) (by omega) _ _ ?_ (nI_1 j), fun h0 x12 h12 => ih (j + 1) (by omega) _ _ ?_ (nI_1 j)⟩⟩
        · have : hasA S (Wd S T) k j = false := decide_eq_false (fun q => nI_nle q (by omega) h0)
          rw [h12, show (0 : Int32) = nI 0 from rfl, fa_or, Nat.or_zero, ← bts_no this]
        · have : hasA S (Wd S T) k j = true := decide_eq_true (by
            rcases Nat.eq_zero_or_pos (oft S (Wd S T) k j) with q | q
            · exact absurd (by rw [q]; decide) h0
            · exact q)
          rw [h12, bts_up _ (by omega), bts_yes this]
    exact key 4 0 (by omega) 0 0 rfl rfl
  · have q1 : QF m (pI m 1 14 1) := QF.rf.why 1
    have d2 := (d.c q1).q (thr _)
    unfold wX12_may
    refine ⟨lk75 L, rx_isThing d2 (fun k hk e => absurd e (hn k hk)) (fun h => ⟨fun _ => fin_refused L q1 (w14 m 1) (thr _) (by decide), fun h => absurd rfl h⟩)⟩
theorem call_settled (c : CO t m s S T) (d : RO t m u S T) : wX9_settled t m 1 (fun r m1 => wX12_settled t m1 75 (fun r2 m2 => Fin m m2 r r2)) := by
  have L := c.cor.lay
  have v := c.cor.vs
  have ml := mny_le (S := S) (Wd S T)
  unfold wX9_settled
  refine ⟨lk1 L, cx_isOpen c (cx_without c (fun h => absurd h (by decide)) (fun _ hz => ⟨fun h => absurd h (by decide), fun _ => cx_refuse L ?_⟩) (fun _ hp => ⟨fun _ => ⟨by rw [lr1_2 L]; exact lk20 L, ?_⟩, fun h => absurd rfl h⟩))⟩
  · have q1 : QF m (pI m 1 14 6) := QF.rf.why 6
    have d1 := d.c q1
    have d2 := d1.q (thr _)
    unfold wX12_settled
    refine ⟨lk75 L, fun h => absurd h (u_ne d1), fun _ => rx_asksWorlds d2 (fun m3 q3 _ d3 A => ?_)⟩
    rw [A.many, nI_small v ml]
    exact ⟨fun _ => fin_refused L q1 (w14 m 6) ((thr _).tr q3) (by decide), fun h => absurd hz h⟩
  · rw [lr1_2 L, lr1_8 L]
    refine sp_sureIn c.cor (Or.inr (Or.inl rfl)) c.wor (cx_accept L ?_)
    have q1 : QF m (pI m 1 14 0) := QF.rf.why 0
    have d1 := d.c q1
    have d2 := d1.q (thr _)
    unfold wX12_settled
    refine ⟨lk75 L, fun h => absurd h (u_ne d1), fun _ => rx_asksWorlds d2 (fun m3 q3 _ d3 A => ?_)⟩
    rw [A.many, nI_small v ml]
    exact ⟨fun h => by omega, fun _ => rsp_oneBits d3.rc A (fin_good L rfl q1 (w14 m 0) ((thr _).tr q3))⟩
theorem call_right (c : CO t m s S T) (d : RO t m u S T) : wX9_right t m 1 x (fun r m1 => wX12_right t m1 75 x (fun r2 m2 => Fin m m2 r r2)) := by
  have L := c.cor.lay
  have v := c.cor.vs
  have hc := v.cnt
  have t8 := v.t8
  have n16 := v.n16
  have ml := mny_le (S := S) (Wd S T)
  have hs := c.cor.sch
  unfold wX9_right
  refine ⟨lk1 L, cx_isSaying c (fun k hk e => cx_without c (fun h => absurd h (by decide)) (fun _ hz => ⟨fun h => absurd h (by decide), fun _ => cx_refuse L ?_⟩) (fun _ hp => ⟨fun _ => ?_, fun h => absurd rfl h⟩)) (fun hn => cx_without c (fun _ => ⟨fun h => absurd h (by decide), fun _ => cx_refuse L ?_⟩) (fun h => absurd rfl h) (fun h => absurd rfl h))⟩
  · have q1 : QF m (pI m 1 14 6) := QF.rf.why 6
    have d2 := (d.c q1).q (thr _)
    unfold wX12_right
    refine ⟨lk75 L, rx_isSaying d2 (fun k' _ _ => ⟨fun h => absurd h (by decide), fun _ => rx_asksWorlds d2 (fun m3 q3 _ d3 A => ?_)⟩) (fun h => absurd e (h k hk))⟩
    rw [A.many, nI_small v ml]
    exact ⟨fun _ => fin_refused L q1 (w14 m 6) ((thr _).tr q3) (by decide), fun h => absurd hz h⟩
  · subst e
    obtain ⟨b1, b2, b3⟩ := v.say k hk
    obtain ⟨e1, e2, e3⟩ := c.cor.say.tab k hk
    have a4 := (v.a2 _ b2).2
    have ol : oft S (Wd S T) (cOf S k) (cWh S k) ≤ cnt S := fb_ct_le _ _
    have v1 : vp_in (nI k) 17 := vp_nI (by omega) (by decide)
    simp only [c.x3, ls_k L hs, ls_r1 L hs, ls_k1 L hs, ls_l1 L hs, ls_r3 L hs, ls_k3 L hs, ls_l3 L hs, ls_r6 L hs, ls_k6 L hs, ls_l6 L hs, ls_r7 L hs, ls_k7 L hs, ls_l7 L hs, ls_r8 L hs, ls_k8 L hs, ls_l8 L hs, ls_r9 L hs, ls_k9 L hs, ls_l9 L hs, ls_r11 L hs, ls_k11 L hs, ls_l11 L hs, ls_r15 L hs, ls_k15 L hs, ls_l15 L hs, ls_r16 L hs, ls_k16 L hs, ls_l16 L hs, ls_r17 L hs, ls_k17 L hs, ls_l17 L hs, ls_r19 L hs, ls_k19 L hs, ls_l19 L hs, nI_cl (show k < 2 ^ 31 by omega), e2, e3, lr1_2 L, lk20 L, lr1_8 L, true_and]
    refine ⟨v1, v1, sp_membersWith c.cor (Or.inr (Or.inl rfl)) c.wor b2 (by omega) ?_⟩
    rw [lr1_8 L, c.wor.members]
    have main : ∀ z : Int32, z = (if oft S (Wd S T) (cOf S k) (cWh S k) = mny S (Wd S T) then 1 else if oft S (Wd S T) (cOf S k) (cWh S k) = 0 then 0 else -2) → wX9_accept t m 1 z (fun r m1 => wX12_right t m1 75 (nI k) (fun r2 m2 => Fin m m2 r r2)) := by
      intro z hz
      refine cx_accept L ?_
      have q1 : QF m (pI m 1 14 0) := QF.rf.why 0
      have d2 := (d.c q1).q (thr _)
      unfold wX12_right wX12_right_J87
      refine ⟨lk75 L, rx_isSaying d2 (fun k' _ _ => ⟨fun h => absurd h (by decide), fun _ => rx_asksWorlds d2 (fun m3 q3 _ d3 A => ?_)⟩) (fun h => absurd rfl (h k hk))⟩
      obtain ⟨f1, f2, f3⟩ := d3.sy.tab k hk
      have RLc := d3.rc.rl
      rw [A.many, nI_small v ml]
      simp only [d3.rc.told, RLc.k, RLc.r1, RLc.k1, RLc.l1, RLc.r2, RLc.k2, RLc.l2, RLc.r3, RLc.k3, RLc.l3, RLc.r4, RLc.k4, RLc.l4, RLc.r5, RLc.k5, RLc.l5, RLc.r6, RLc.k6, RLc.l6, RLc.r7, RLc.k7, RLc.l7, RLc.r8, RLc.k8, RLc.l8, RLc.r9, RLc.k9, RLc.l9, RLc.r10, RLc.k10, RLc.l10, RLc.r11, RLc.k11, RLc.l11, RLc.r12, RLc.k12, RLc.l12, RLc.r13, RLc.k13, RLc.l13, RLc.r14, RLc.k14, RLc.l14, nI_cl (show k < 2 ^ 31 by omega), f2, f3, lr75_18 d3.rc.lay, lk79 L, ll79 L, show (4 : Int32) = nI 4 from rfl, pk_mul, nI_add, nI_cl (show 4 * cOf S k + cWh S k < 2 ^ 31 by omega), A.often _ b2 _ (show cWh S k < 4 by omega), true_and]
      refine ⟨fun h => by omega, fun _ => ⟨v1, v1, vp_nI (by omega) (by decide), fun x15 h15 => ?_⟩⟩
      rw [h15, nI_eq (by omega) (by omega), nI_small v ol]
      refine ⟨fun h => ⟨lk75 L, fin_good L ?_ q1 (w14 m 0) ((thr _).tr q3)⟩, fun h => ⟨fun h2 => ⟨lk75 L, fin_good L ?_ q1 (w14 m 0) ((thr _).tr q3)⟩, fun h2 => ⟨lk75 L, fin_good L ?_ q1 (w14 m 0) ((thr _).tr q3)⟩⟩⟩
      · rw [hz, if_pos h]
      · rw [hz, if_neg h, if_pos h2]
      · rw [hz, if_neg h, if_neg h2]
    have me : nI (oft S (Wd S T) (cOf S k) (cWh S k)) = nI (fb_ct (Wd S T) (cnt S)) ↔ oft S (Wd S T) (cOf S k) (cWh S k) = mny S (Wd S T) := nI_eq (by omega) (by unfold mny at ml; omega)
    rw [me, nI_small v ol]
    unfold wX9_right_J78
    refine ⟨lk68 L, fun h => main 1 (by rw [if_pos h]), fun h => ⟨fun h2 => ⟨lk1 L, main 0 (by rw [if_neg h, if_pos h2])⟩, fun h2 => ⟨lk1 L, main (-2) (by rw [if_neg h, if_neg h2])⟩⟩⟩
  · have q1 : QF m (pI m 1 14 1) := QF.rf.why 1
    have d2 := (d.c q1).q (thr _)
    unfold wX12_right
    refine ⟨lk75 L, rx_isSaying d2 (fun k hk e => absurd e (hn k hk)) (fun h => ⟨fun _ => fin_refused L q1 (w14 m 1) (thr _) (by decide), fun h => absurd rfl h⟩)⟩
theorem call_likely (c : CO t m s S T) (d : RO t m u S T) : wX9_likely t m 1 x x2 x3 (fun r m1 => wX12_likely t m1 75 x x2 x3 (fun r2 m2 => Fin m m2 r r2)) := by
  have L := c.cor.lay
  have v := c.cor.vs
  have hc := v.cnt
  have t8 := v.t8
  have ml := mny_le (S := S) (Wd S T)
  have hs := c.cor.sch
  -- the reference, when the answer is there or not
  have rno : ∀ {m0}, RO t m0 u S T → ∀ Q : Int32 → zM → Prop, (∀ k a, k < cT S → x = nI k → a < cA S k → x2 ≠ nI a) → (∀ m3, QR m0 m3 → wX12_refused t m3 75 1 (fun r6 m7 => Q r6 m7)) → wX12_likely t m0 75 x x2 x3 Q := by
    intro m0 d0 Q hn hQ
    have d2 := d0.q (thr _)
    have RLc := d2.rc.rl
    unfold wX12_likely wX12_likely_J32 wX12_in
    refine ⟨lk75 L, rx_isThing d2 (fun k hk e => ⟨fun h => absurd h (by decide), fun _ => ?_⟩) (fun _ => ⟨fun _ => ⟨lk75 L, hQ _ (thr _)⟩, fun h => absurd rfl h⟩)⟩
    subst e
    have a4 := v.a2 k hk
    simp only [d2.rc.told, RLc.k, RLc.r1, RLc.k1, RLc.l1, RLc.r2, RLc.k2, RLc.l2, RLc.r3, RLc.k3, RLc.l3, RLc.r4, RLc.k4, RLc.l4, RLc.r5, RLc.k5, RLc.l5, RLc.r6, RLc.k6, RLc.l6, RLc.r7, RLc.k7, RLc.l7, RLc.r8, RLc.k8, RLc.l8, RLc.r9, RLc.k9, RLc.l9, RLc.r10, RLc.k10, RLc.l10, RLc.r11, RLc.k11, RLc.l11, RLc.r12, RLc.k12, RLc.l12, RLc.r13, RLc.k13, RLc.l13, RLc.r14, RLc.k14, RLc.l14, nI_cl (show k < 2 ^ 31 by omega), d2.rc.sm.answers k hk, show (1 : Int32) = nI 1 from rfl, pk_sub (show 1 ≤ cA S k by omega), true_and]
    refine ⟨vp_nI (by omega) (by decide), fun _ => ⟨fun _ => ⟨lk75 L, hQ _ (thr _)⟩, fun h => absurd trivial h⟩, fun h0 => ⟨fun _ => ⟨fun _ => ⟨lk75 L, hQ _ (thr _)⟩, fun h => absurd trivial h⟩, fun h1 => ?_⟩⟩
    obtain ⟨a, ha, e⟩ := nI_of h0
    rw [e] at h1
    exact absurd e (hn k a hk rfl (by
      rcases Nat.lt_or_ge (cA S k - 1) a with q | q
      · exact absurd (nI_lt q ha) h1
      · omega))
  have ryes : ∀ {m0}, RO t m0 u S T → ∀ k a, k < cT S → x = nI k → a < cA S k → x2 = nI a → ∀ Q : Int32 → zM → Prop, (mny S (Wd S T) = 0 → ∀ m3, QR m0 m3 → wX12_refused t m3 75 6 (fun r6 m7 => Q r6 m7)) → (0 < mny S (Wd S T) → ∀ m3, QR m0 m3 → wX12_lowest t m3 75 (lN (oft S (Wd S T) k a)) (lN (mny S (Wd S T))) x3 (fun r6 m7 => Q r6 m7)) → wX12_likely t m0 75 x x2 x3 Q := by
    intro m0 d0 k a hk e ha e2 Q h6 h0
    subst e
    subst e2
    have d2 := d0.q (thr _)
    have RLc := d2.rc.rl
    have a4 := v.a2 k hk
    have ol : oft S (Wd S T) k a ≤ cnt S := fb_ct_le _ _
    unfold wX12_likely wX12_likely_J32 wX12_in
    refine ⟨lk75 L, rx_isThing d2 (fun k' hk' e' => ⟨fun h => absurd h (by decide), fun _ => ?_⟩) (fun h => absurd rfl (h k hk))⟩
    simp only [d2.rc.told, RLc.k, RLc.r1, RLc.k1, RLc.l1, RLc.r2, RLc.k2, RLc.l2, RLc.r3, RLc.k3, RLc.l3, RLc.r4, RLc.k4, RLc.l4, RLc.r5, RLc.k5, RLc.l5, RLc.r6, RLc.k6, RLc.l6, RLc.r7, RLc.k7, RLc.l7, RLc.r8, RLc.k8, RLc.l8, RLc.r9, RLc.k9, RLc.l9, RLc.r10, RLc.k10, RLc.l10, RLc.r11, RLc.k11, RLc.l11, RLc.r12, RLc.k12, RLc.l12, RLc.r13, RLc.k13, RLc.l13, RLc.r14, RLc.k14, RLc.l14, nI_cl (show k < 2 ^ 31 by omega), d2.rc.sm.answers k hk, show (1 : Int32) = nI 1 from rfl, pk_sub (show 1 ≤ cA S k by omega), true_and]
    refine ⟨vp_nI (by omega) (by decide), fun h => absurd h (nI_pos (by omega)), fun _ => ⟨fun h => absurd h (nI_nlt (by omega) (by omega)), fun _ => ⟨fun h => absurd h (by decide), fun _ => rx_asksWorlds d2 (fun m3 q3 _ d3 A => ?_)⟩⟩⟩
    simp only [A.many, nI_small v ml, lr75_18 d3.rc.lay, lk79 L, ll79 L, show (4 : Int32) = nI 4 from rfl, pk_mul, nI_add, nI_cl (show 4 * k + a < 2 ^ 31 by omega), A.often k hk a (show a < 4 by omega), nI_l (show oft S (Wd S T) k a < 2 ^ 31 by omega), nI_l (show mny S (Wd S T) < 2 ^ 31 by omega), true_and]
    exact ⟨fun hz => h6 hz m3 ((thr _).tr q3), fun hz => ⟨vp_nI (by omega) (by decide), h0 (by omega) m3 ((thr _).tr q3)⟩⟩
  have no : (∀ k a, k < cT S → x = nI k → a < cA S k → x2 ≠ nI a) → wX9_withoutWorlds t m 1 0 (fun r4 m5 => ((r4 = 0 → (tK t (gR m5 1 2) = 8 ∧ (wX8_membersWith t m5 (gR m5 1 2) (gR m5 1 8) x x2 (fun r8 m9 => (tK t (gR m9 1 8) = 4 ∧ (wX9_lowest t m9 r8 (gI m9 (gR m9 1 8) 2) x3 (fun r11 m12 => (wX9_accept t m12 1 r11 (fun r13 m14 => (wX12_likely t m14 75 x x2 x3 (fun r2 m2 => Fin m m2 r13 r2)))))))))) ) ∧ (¬ r4 = 0 → (wX9_refuse t m5 1 r4 (fun r15 m16 => (wX12_likely t m16 75 x x2 x3 (fun r2 m2 => Fin m m2 r15 r2))))))) := by
    intro hn
    refine cx_without c (fun _ => ⟨fun h => absurd h (by decide), fun _ => cx_refuse L ?_⟩) (fun h => absurd rfl h) (fun h => absurd rfl h)
    have q1 : QF m (pI m 1 14 1) := QF.rf.why 1
    exact rno (d.c q1) _ hn (fun m3 q3 => fin_refused L q1 (w14 m 1) q3 (by decide))
  unfold wX9_likely wX9_isAnswer
  refine ⟨lk1 L, lk1 L, cx_isThing c (fun k hk e => ⟨fun h => absurd h (by decide), fun _ => ?_⟩) (fun hn => ⟨fun _ => no (fun k a hk e _ => absurd e (hn k hk)), fun h => absurd rfl h⟩)⟩
  subst e
  have a4 := v.a2 k hk
  have kk : ∀ k', k' < cT S → nI k = nI k' → k' = k := fun k' hk' e => ((nI_eq (by omega) (by omega)).mp e).symm
  simp only [c.x3, ls_k L hs, ls_r1 L hs, ls_k1 L hs, ls_l1 L hs, ls_r3 L hs, ls_k3 L hs, ls_l3 L hs, ls_r6 L hs, ls_k6 L hs, ls_l6 L hs, ls_r7 L hs, ls_k7 L hs, ls_l7 L hs, ls_r8 L hs, ls_k8 L hs, ls_l8 L hs, ls_r9 L hs, ls_k9 L hs, ls_l9 L hs, ls_r11 L hs, ls_k11 L hs, ls_l11 L hs, ls_r15 L hs, ls_k15 L hs, ls_l15 L hs, ls_r16 L hs, ls_k16 L hs, ls_l16 L hs, ls_r17 L hs, ls_k17 L hs, ls_l17 L hs, ls_r19 L hs, ls_k19 L hs, ls_l19 L hs, nI_cl (show k < 2 ^ 31 by omega), c.cor.sm.answers k hk, true_and]
  refine ⟨fun h0 => no (fun k' a hk' e ha e2 => ?_), fun h0 => ⟨vp_nI (by omega) (by decide), fun hle => no (fun k' a hk' e ha e2 => ?_), fun hle => ?_⟩⟩
  · have := kk k' hk' e
    subst this
    rw [e2] at h0
    exact nI_pos (by omega) h0
  · have := kk k' hk' e
    subst this
    rw [e2] at hle
    exact nI_ge ha (by omega) hle
  · obtain ⟨a, ha, e⟩ := nI_of h0
    subst e
    have ha2 : a < cA S k := by
      rcases Nat.lt_or_ge a (cA S k) with q | q
      · exact q
      · exact absurd (nI_le q ha) hle
    have ol : oft S (Wd S T) k a ≤ cnt S := fb_ct_le _ _
    have q6 : QF m (pI m 1 14 6) := QF.rf.why 6
    have q0 : QF m (pI m 1 14 0) := QF.rf.why 0
    refine cx_without c (fun h => absurd h (by decide)) (fun _ hz => ⟨fun h => absurd h (by decide), fun _ => cx_refuse L (ryes (d.c q6) k a hk rfl ha2 rfl _ (fun _ m3 q3 => fin_refused L q6 (w14 m 6) q3 (by decide)) (fun h => by omega))⟩) (fun _ hp => ⟨fun _ => ⟨by rw [lr1_2 L]; exact lk20 L, ?_⟩, fun h => absurd rfl h⟩)
    rw [lr1_2 L, lr1_8 L]
    refine sp_membersWith c.cor (Or.inr (Or.inl rfl)) c.wor hk (by omega) ?_
    rw [lr1_8 L, c.wor.members]
    have e3 : fb_ct (Wd S T) (cnt S) = mny S (Wd S T) := rfl
    rw [e3]
    refine ⟨lk68 L, sp_lowest (by omega) (by omega) hp (cx_accept L (ryes (d.c q0) k a hk rfl ha2 rfl _ (fun h => by omega) (fun _ m3 q3 => fin_lowest L (by omega) (by omega) hp q0 (w14 m 0) q3)))⟩
end
