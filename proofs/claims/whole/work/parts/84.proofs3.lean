/-! Proofs: the reference's, and the calls -/
/-- what a call for a proof may touch in the class -/
def PF (m m' : zM) : Prop := Fr (1 :: pT) m m' ∧ ∀ j, j ≠ 14 → gI m' 1 j = gI m 1 j
def FinP (S : Sc) (m m2 : zM) (r1 r2 : Int32) : Prop := r1 = r2 ∧ ∃ m1, PF m m1 ∧ QR m1 m2 ∧ gI m1 48 1 = 1 ∧ (∀ k, k < cT S → isPf S k (gI m1 51 k)) ∧ gI m2 1 14 = gI m2 75 1 ∧ gI m2 75 2 = -1 ∧ gI m2 1 14 ≠ 4
section
variable {t : zT} {m m' m1 m2 : zM} {s u r : Nat} {S : Sc} {T T' : Ts} {P P' : Nat → Bool} {x x2 x3 : Int32} {Tl : List Nat}
theorem PF.ro (h : PF m m') (d : RO t m u S T) : RO t m' u S T := d.ct h.1 (fun a ha => Or.inl (by simp only [pT, List.mem_cons, List.not_mem_nil, or_false] at ha; omega))
theorem PF.co (h : PF m m') (c : CO t m s S T) : CO t m' s S T := by
  obtain ⟨f, g⟩ := h
  have o : ∀ a, a ≠ 1 → a ≠ 19 → (a < 37 ∨ 51 < a) → a ∉ (1 :: pT) := fun a h0 h1 h2 q => by simp only [pT, List.mem_cons, List.not_mem_nil, or_false] at q; omega
  refine ⟨c.cor.fr f (fun a h1 h2 h3 => o a (by omega) (by omega) (by omega)), (f.2 _ _).trans c.x3, c.tm.fr f (by decide), c.law.fr f (by decide) (by decide), c.wor.fr f (by decide) (by decide), (g 13 (by decide)).trans c.rec_⟩
theorem rsp_proves (d : RO t m u S T) {p k : Nat} (hp : p < 2 ^ cN S) (hk : k < cT S) {Q : Int32 → zM → Prop} (hQ : Q (bI (prv S p k)) m) : wX12_proves t m 75 (nI p) (nI k) Q := by
  have L := d.rc.lay
  have v := d.rc.vs
  have t8 := v.t8
  have hc := v.cnt
  have n16 := v.n16
  have p16 : 2 ^ cN S ≤ 2 ^ 16 := Nat.pow_le_pow_right (by decide) n16
  have hset : ∀ i, p.testBit i = true → i < cN S := fun i hi => by
    rcases Nat.lt_or_ge i (cN S) with q | q
    · exact q
    · rw [Nat.testBit_lt_two_pow (Nat.lt_of_lt_of_le hp (Nat.pow_le_pow_right (by decide) q))] at hi; cases hi
  unfold wX12_proves
  refine ⟨cnt S + 1, ?_⟩
  have key : ∀ dd w : Nat, w + dd = cnt S → ∀ z3 z4 : Int32, ((z3 = -2 ∧ ∀ j, j < w → LfB S p (cLw S) j = false) ∨ (∃ a, a < 4 ∧ z3 = nI a ∧ (∃ j, j < w ∧ LfB S p (cLw S) j = true ∧ ans S j k = a) ∧ ∀ j, j < w → LfB S p (cLw S) j = true → ans S j k = a)) → z4 = nI w → wX12_proves_L6 t 75 (nI p) (nI k) Q (fun v16 m17 => (v16 = -2 → Q 0 m17) ∧ (¬ v16 = -2 → Q 1 m17)) (dd + 1) z3 z4 m := by
    intro dd
    induction dd with
    | zero =>
      intro w hw z3 z4 g h4
      have e : w = cnt S := by omega
      subst e
      rw [h4, wX12_proves_L6, d.rc.told, d.rc.sm.ways]
      refine ⟨lk75 L, d.rc.rl.k, fun _ => ?_, fun hh => absurd (nI_le (Nat.le_refl _) (by omega)) hh⟩
      rcases g with ⟨g1, g2⟩ | ⟨a, a4, g1, ⟨j, j1, j2, j3⟩, g3⟩
      · have : prv S p k = false := by
          cases hb : prv S p k with
          | false => rfl
          | true =>
            obtain ⟨a, _, h2, _⟩ := (sure_iff v hk).mp hb
            obtain ⟨w, w1, w2⟩ := fb_ct_pos.mp h2
            rw [g2 w w1] at w2; cases w2
        rw [this] at hQ
        exact ⟨fun _ => hQ, fun h => absurd g1 h⟩
      · have : prv S p k = true := by
          refine (sure_iff v hk).mpr ⟨a, ?_, fb_ct_pos.mpr ⟨j, j1, j2⟩, oft_all_iff.mpr g3⟩
          rw [← j3]; exact ans_lt v hk
        rw [this] at hQ
        refine ⟨fun h => ?_, fun _ => hQ⟩
        rw [g1] at h
        exact absurd (show nI a < 0 by rw [h]; decide) (nI_pos (by omega))
    | succ dd ih =>
      intro w hw z3 z4 g h4
      have wl : w < cnt S := by omega
      have aw := ans_4 v (w := w) hk
      rw [h4, wX12_proves_L6, d.rc.told, d.rc.sm.ways]
      have body : (∀ a, z3 = nI a → a < 4 → ans S w k ≠ a) → wX12_proves_J35 t m 75 (nI p) (nI k) z3 (nI w) Q (wX12_proves_L6 t 75 (nI p) (nI k) Q (fun v16 m17 => (v16 = -2 → Q 0 m17) ∧ (¬ v16 = -2 → Q 1 m17)) (dd + 1)) := by
        intro hne
        unfold wX12_proves_J35 wX12_proves_J71
        rw [d.rc.told, d.rc.sm.laws]
        refine ⟨lk75 L, d.rc.rl.k, rsp_isLawful d.rc d.sy wl hset (by omega) (by omega) (fun h => h) ?_⟩
        rw [bI_0]
        refine ⟨fun hb => ih (w + 1) (by omega) _ _ ?_ (nI_1 w), fun hb => ⟨fun h2 => rsp_answerOf d.rc wl hk (ih (w + 1) (by omega) _ _ (Or.inr ⟨ans S w k, aw, rfl, ⟨w, by omega, ts_false hb, rfl⟩, fun j hj hl => ?_⟩) (nI_1 w)), fun h2 => ?_⟩⟩
        · rcases g with ⟨g1, g2⟩ | ⟨a, a4, g1, ⟨j, j1, j2, j3⟩, g3⟩
          · refine Or.inl ⟨g1, fun j hj => ?_⟩
            rcases (show j < w ∨ j = w by omega) with q | q
            · exact g2 j q
            · subst q; exact hb
          · refine Or.inr ⟨a, a4, g1, ⟨j, by omega, j2, j3⟩, fun j hj hl => ?_⟩
            rcases (show j < w ∨ j = w by omega) with q | q
            · exact g3 j q hl
            · subst q; rw [hb] at hl; cases hl
        · rcases g with ⟨g1, g2⟩ | ⟨a, a4, g1, _⟩
          · rcases (show j < w ∨ j = w by omega) with q | q
            · rw [g2 j q] at hl; cases hl
            · subst q; rfl
          · rw [g1] at h2
            exact absurd (show nI a < 0 by rw [h2]; decide) (nI_pos (by omega))
        · rcases g with ⟨g1, g2⟩ | ⟨a, a4, g1, ⟨j, j1, j2, j3⟩, g3⟩
          · exact absurd g1 h2
          · have : prv S p k = false := by
              cases hb2 : prv S p k with
              | false => rfl
              | true =>
                obtain ⟨a', _, h2, h3⟩ := (sure_iff v hk).mp hb2
                have al := oft_all_iff.mp h3
                have e1 := al j (by omega) j2
                have e2 := al w wl (ts_false hb)
                exact absurd (e2.trans (e1.symm.trans j3)) (hne a g1 a4)
            rw [this] at hQ
            exact hQ
      refine ⟨lk75 L, d.rc.rl.k, fun hh => absurd hh (nI_ge (by omega) (by omega)), fun _ => ⟨fun h2 => body (fun a ha a4 => ?_), fun h2 => rsp_answerOf d.rc wl hk ⟨fun he => ?_, fun he => body (fun a ha a4 q => he (by rw [ha, q]))⟩⟩⟩
      · rw [ha] at h2
        exact absurd (show nI a < 0 by rw [h2]; decide) (nI_pos (by omega))
      · unfold wX12_proves_J71
        refine ih (w + 1) (by omega) _ _ ?_ (nI_1 w)
        rcases g with ⟨g1, g2⟩ | ⟨a, a4, g1, ⟨j, j1, j2, j3⟩, g3⟩
        · exact absurd g1 h2
        · refine Or.inr ⟨a, a4, g1, ⟨j, by omega, j2, j3⟩, fun j hj hl => ?_⟩
          rcases (show j < w ∨ j = w by omega) with q | q
          · exact g3 j q hl
          · subst q
            rw [g1] at he
            exact (nI_eq (by omega) (by omega)).mp he
  exact key (cnt S) 0 (by omega) (-2) 0 (Or.inl ⟨rfl, fun j hj => absurd hj (by omega)⟩) rfl
theorem rsp_proofNow (d : RO t m u S T) {k : Nat} (hk : k < cT S) {Q : Int32 → zM → Prop} (hQ : ∀ r, isPf S k r → Q r m) : wX12_proofNow t m 75 (nI k) Q := by
  have L := d.rc.lay
  have v := d.rc.vs
  have n16 := v.n16
  have p16 : 2 ^ cN S ≤ 2 ^ 16 := Nat.pow_le_pow_right (by decide) n16
  have p1 : 1 ≤ 2 ^ cN S := Nat.one_le_two_pow
  unfold wX12_proofNow
  refine ⟨5, ?_⟩
  have key : ∀ dd n : Nat, n + dd = 4 → (∀ q, q < 2 ^ cN S → pop q < n → prv S q k = false) → ∀ z : Int32, z = nI n → wX12_proofNow_L2 t 75 (nI k) Q (fun m15 => Q (-2) m15) (dd + 1) z m := by
    intro dd
    induction dd with
    | zero =>
      intro n hn g z hz
      have e : n = 4 := by omega
      subst e
      rw [hz, wX12_proofNow_L2]
      exact ⟨fun _ => hQ _ (Or.inr ⟨rfl, fun q q1 q2 => g q q1 (by omega)⟩), fun hh => absurd (by decide) hh⟩
    | succ dd ih =>
      intro n hn g z hz
      rw [hz, wX12_proofNow_L2]
      refine ⟨fun hh => absurd hh (nI_nlt (b := n) (a := 3) (by omega) (by decide)), fun _ => ⟨2 ^ cN S + 1, ?_⟩⟩
      have key2 : ∀ d2 p : Nat, p + d2 = 2 ^ cN S → (∀ q, q < p → pop q = n → prv S q k = false) → ∀ y : Int32, y = nI p → wX12_proofNow_L9 t 75 (nI k) (nI n) Q (fun m13 => wX12_proofNow_L2 t 75 (nI k) Q (fun m15 => Q (-2) m15) (dd + 1) (nI n + 1) m13) (d2 + 1) y m := by
        intro d2
        induction d2 with
        | zero =>
          intro p hp g2 y hy
          have e : p = 2 ^ cN S := by omega
          subst e
          rw [hy, wX12_proofNow_L9]
          unfold wX11_allSayings
          simp only [d.rc.told, d.rc.sm.sayings, all_bits (show cN S < 31 by omega), nI_ltI (show 2 ^ cN S - 1 < 2 ^ 31 by omega) (show 2 ^ cN S < 2 ^ 31 by omega)]
          refine ⟨lk75 L, d.rc.rl.k, d.rc.rl.k, fun _ => ih (n + 1) (by omega) (fun q q1 q2 => ?_) _ (nI_1 n), fun hh => absurd (by omega) hh⟩
          rcases (show pop q < n ∨ pop q = n by omega) with z | z
          · exact g q q1 z
          · exact g2 q q1 z
        | succ d2 ih2 =>
          intro p hp g2 y hy
          have pl : p < 2 ^ cN S := by omega
          have pp : pop p ≤ 32 := fb_ct_le _ _
          have ep : fb_ct (fun i => p.testBit i) 32 = pop p := rfl
          rw [hy, wX12_proofNow_L9]
          unfold wX11_allSayings wX12_proofNow_J39
          simp only [d.rc.told, d.rc.sm.sayings, all_bits (show cN S < 31 by omega), nI_ltI (show 2 ^ cN S - 1 < 2 ^ 31 by omega) (show p < 2 ^ 31 by omega)]
          refine ⟨lk75 L, d.rc.rl.k, d.rc.rl.k, fun hh => by omega, fun _ => rsp_bits (by omega) ?_⟩
          rw [ep, nI_eq (by omega) (by omega)]
          have nx : (pop p = n → prv S p k = false) → ∀ q, q < p + 1 → pop q = n → prv S q k = false := by
            intro h q hq hn
            rcases (show q < p ∨ q = p by omega) with z | z
            · exact g2 q z hn
            · subst z; exact h hn
          refine ⟨fun he => rsp_proves d pl hk ?_, fun he => ih2 (p + 1) (by omega) (nx (fun h => absurd h he)) _ (nI_1 p)⟩
          rw [bI_0]
          refine ⟨fun hb => ih2 (p + 1) (by omega) (nx (fun _ => hb)) _ (nI_1 p), fun hb => hQ _ (Or.inl ⟨p, rfl, pl, by omega, ts_false hb, fun q q1 q2 q3 => ?_⟩)⟩
          rcases q3 with q3 | ⟨q3, q4⟩
          · exact g q q1 (by omega)
          · exact g2 q q4 (by omega)
      exact key2 (2 ^ cN S) 0 (by omega) (fun q hq => absurd hq (by omega)) 0 rfl
  exact key 4 0 (by omega) (fun q _ hq => absurd hq (by omega)) 0 rfl
theorem fin_P {w r1 : Int32} (f : PF m m1) (e1 : gI m1 48 1 = 1) (e2 : ∀ k, k < cT S → isPf S k (gI m1 51 k)) (hw : gI m1 1 14 = w) (q2 : QR m1 m2) (h4 : w ≠ 4) : FinP S m (pI (pI m2 75 1 w) 75 2 (-1)) r1 r1 := by
  refine ⟨rfl, m1, f, (q2.p (Or.inr (Or.inl rfl)) w).p (Or.inr (Or.inr (Or.inl rfl))) (-1), e1, e2, ?_, ?_, ?_⟩
  · simp (config := { decide := true }) only [gII, and_false, false_and, if_false, and_self, if_true]
    rw [q2.why, hw]
  · simp (config := { decide := true }) only [gII, and_self, if_true]
  · simp (config := { decide := true }) only [gII, and_false, false_and, if_false]
    rw [q2.why, hw]; exact h4
theorem isPf_dec (v : Vs S) {k : Nat} (h : isPf S k x) : x = -2 ∨ ∃ p, p < 65536 ∧ x = nI p := by
  have p16 : 2 ^ cN S ≤ 2 ^ 16 := Nat.pow_le_pow_right (by decide) v.n16
  rcases h with ⟨p, p1, p2, _⟩ | ⟨p1, _⟩
  · exact Or.inr ⟨p, by omega, p1⟩
  · exact Or.inl p1
theorem PF.mk_ (f : Fr pT m m1) (w : Int32) : PF m (pI m1 1 14 w) := ⟨Fr.pI (f.mono (fun a ha => List.mem_cons_of_mem _ ha)) (by simp), fun j hj => by rw [gII, if_neg (fun q => hj q.2)]; exact f.I (by decide) _⟩
theorem call_proofBy (c : CO t m s S T) (d : RO t m u S T) (h : pfOK S m) : wX9_proofBy t m 1 x (fun r m1 => wX12_proofBy t m1 75 x (fun r2 m2 => Fin m m2 r r2 ∨ FinP S m m2 r r2)) := by
  have L := c.cor.lay
  have v := c.cor.vs
  have t8 := v.t8
  unfold wX9_proofBy
  refine ⟨lk1 L, cx_isThing c (fun k hk e => ⟨fun h => absurd h (by decide), fun _ => ?_⟩) (fun hn => ⟨fun _ => cx_refuse L ?_, fun h => absurd rfl h⟩)⟩
  · subst e
    rw [lr1_4 L, lr1_1 L]
    refine ⟨lk48 L, sp_pprep c h (fun m1 f1 e1 g1 => ?_)⟩
    have L1 := (pT_co c f1).cor.lay
    rw [lr1_4 L1, lr48_3 L1, lk51 L, ll51 L, nI_cl (show k < 2 ^ 31 by omega)]
    refine ⟨lk48 L, rfl, vp_nI (by omega) (by decide), cx_accept L ?_⟩
    have pf := PF.mk_ f1 0
    have d2 := (pf.ro d).q (thr _)
    unfold wX12_proofBy
    refine ⟨lk75 L, rx_isThing d2 (fun _ _ _ => ⟨fun h => absurd h (by decide), fun _ => rsp_proofNow d2 hk (fun r hr => rx_good L (Or.inr ?_))⟩) (fun h => absurd rfl (h k hk))⟩
    rw [isPf_one hr (g1 k hk)]
    exact fin_P pf e1 g1 (w14 _ _) (thr _) (by decide)
  · have q1 : QF m (pI m 1 14 1) := QF.rf.why 1
    have d2 := (d.c q1).q (thr _)
    unfold wX12_proofBy
    exact ⟨lk75 L, rx_isThing d2 (fun k hk e => absurd e (hn k hk)) (fun _ => ⟨fun _ => rx_refused L (Or.inl (fin_raw L q1 (w14 m 1) (thr _) (by decide) _)), fun h => absurd rfl h⟩)⟩
theorem call_proof (c : CO t m s S T) (d : RO t m u S T) (h : pfOK S m) : wX9_proof t m 1 x (fun r m1 => wX12_proof t m1 75 x (fun r2 m2 => Fin m m2 r r2 ∨ FinP S m m2 r r2)) := by
  have L := c.cor.lay
  have v := c.cor.vs
  have t8 := v.t8
  unfold wX9_proof
  refine ⟨lk1 L, cx_isThing c (fun k hk e => ⟨fun h => absurd h (by decide), fun _ => ?_⟩) (fun hn => ⟨fun _ => cx_refuse L ?_, fun h => absurd rfl h⟩)⟩
  · subst e
    rw [lr1_4 L, lr1_1 L]
    refine ⟨lk48 L, sp_pprep c h (fun m1 f1 e1 g1 => ?_)⟩
    have L1 := (pT_co c f1).cor.lay
    have gk := g1 k hk
    have pf := PF.mk_ f1 0
    have d2 := (pf.ro d).q (thr _)
    -- both ends
    have fin : ∀ r1 : Int32, ((gI m1 51 k = -2 ∧ r1 = -2) ∨ ∃ p, p < 65536 ∧ gI m1 51 k = nI p ∧ r1 = nI (pop p)) → wX9_proof_J55 t m1 r1 1 (fun r m1 => wX12_proof t m1 75 (nI k) (fun r2 m2 => Fin m m2 r r2 ∨ FinP S m m2 r r2)) := by
      intro r1 hr1
      unfold wX9_proof_J55
      refine ⟨lk1 L, cx_accept L ?_⟩
      unfold wX12_proof wX12_proof_J41
      refine ⟨lk75 L, rx_isThing d2 (fun _ _ _ => ⟨fun h => absurd h (by decide), fun _ => rsp_proofNow d2 hk (fun r hr => ?_)⟩) (fun h => absurd rfl (h k hk))⟩
      rw [isPf_one hr gk]
      rcases hr1 with ⟨a, b⟩ | ⟨p, a, b, e⟩
      · rw [a, b]
        exact ⟨fun _ => ⟨lk75 L, rx_good L (Or.inr (fin_P pf e1 g1 (w14 _ _) (thr _) (by decide)))⟩, fun h => absurd rfl h⟩
      · rw [b, e]
        refine ⟨fun q => absurd (show nI p < 0 by rw [q]; decide) (nI_pos (by omega)), fun _ => rsp_bits (by omega) ⟨lk75 L, rx_good L (Or.inr (fin_P pf e1 g1 (w14 _ _) (thr _) (by decide)))⟩⟩
    rw [lr1_4 L1, lr48_3 L1, lk51 L, ll51 L, nI_cl (show k < 2 ^ 31 by omega)]
    refine ⟨lk48 L, rfl, vp_nI (by omega) (by decide), fun hge => ?_, fun hge => fin (-2) (Or.inl ⟨?_, rfl⟩)⟩
    · rcases isPf_dec v gk with q | ⟨p, p1, p2⟩
      · rw [q] at hge; exact absurd hge (by decide)
      · rw [p2]
        exact sp_bc32 (by omega) (fin _ (Or.inr ⟨p, p1, p2, rfl⟩))
    · rcases isPf_dec v gk with q | ⟨p, p1, p2⟩
      · exact q
      · rw [p2] at hge; exact absurd (nI_pos' (by omega)) hge
  · have q1 : QF m (pI m 1 14 1) := QF.rf.why 1
    have d2 := (d.c q1).q (thr _)
    unfold wX12_proof
    exact ⟨lk75 L, rx_isThing d2 (fun k hk e => absurd e (hn k hk)) (fun _ => ⟨fun _ => rx_refused L (Or.inl (fin_raw L q1 (w14 m 1) (thr _) (by decide) _)), fun h => absurd rfl h⟩)⟩
end
