/-! The term: tries, mark, back -/
section
variable {t : zT} {m m' m1 m2 : zM} {s u r : Nat} {S : Sc} {T T' : Ts} {P P' : Nat → Bool} {x x2 x3 : Int32} {Tl : List Nat} {hd fb : Nat}
theorem Kp.why {w : Int32} (k : Kp S T T' m m1) : Kp S T T' m (pI m1 1 14 w) := by
  have e12 : gI (pI m1 1 14 w) 1 12 = gI m1 1 12 := rfl
  have e52 : gI (pI m1 1 14 w) 52 0 = gI m1 52 0 := rfl
  unfold Kp
  rw [e12, e52]
  exact k
theorem fcI_m2 {n : Nat} (h : n < 2 ^ 31) : fcI n = -2 ↔ n = 0 := by
  unfold fcI
  by_cases z : n = 0
  · simp [z]
  · rw [if_neg z]
    exact ⟨fun e => absurd (show nI (n - 1) < 0 by rw [e]; decide) (nI_pos (by omega)), fun e => absurd e z⟩
theorem m2I_m2 {n : Nat} (h : n < 2 ^ 31) : m2I n = -2 ↔ n = 0 := fcI_m2 h
theorem m1I_ge {n : Nat} (h : n < 2 ^ 31) : (0 : Int32) ≤ m1I n ↔ n ≠ 0 := by
  unfold m1I
  by_cases z : n = 0
  · simp [z]
  · rw [if_neg z]
    exact ⟨fun _ => z, fun _ => nI_pos' (by omega)⟩
theorem call_tries (c : CO t m s S T) (d : RO t m u S T) : wX9_tries t m 1 x (fun r m1 => wX12_tries t m1 75 x (fun r2 m2 => Fin m m2 r r2 ∨ FinT t s u S T m m2 r r2)) := by
  have L := c.cor.lay
  have v := c.cor.vs
  have t8 := v.t8
  have hc := v.cnt
  have hs := c.cor.sch
  have hv := tm_hfV c.tm.val
  have f8 := tfb_lt v hv.2.1
  have hl := hv.1
  unfold wX9_tries
  refine ⟨lk1 L, cx_isThing c (fun k hk e => ⟨fun h => absurd h (by decide), fun _ => ?_⟩) (fun hn => ⟨fun _ => cx_refuse L ?_, fun h => absurd rfl h⟩)⟩
  · subst e
    have c99 := v.c99 k (by omega)
    have kc := nI_cl (show k < 2 ^ 31 by omega)
    have FL := Fcf_le v (hd := thd T 3) (fb := tfb T 3) hk
    have e0 : nI (cC S k) = 0 ↔ cC S k = 0 := nI_eq (b := 0) (by omega) (by decide)
    -- the reference, up to its last test
    have refs : ∀ (m1 : zM) (d1 : RO t m1 u S T) (Q : Int32 → zM → Prop), (cC S k = 0 ∨ Fcf S (thd T 3) (tfb T 3) k ≠ 0 → Q (-1) (pI (pI (pI m1 75 0 0) 75 1 5) 75 2 (-1))) → (cC S k ≠ 0 → Fcf S (thd T 3) (tfb T 3) k = 0 → thd T 3 = 0 → Q (-1) (pI (pI (pI m1 75 0 0) 75 1 6) 75 2 (-1))) → (cC S k ≠ 0 → Fcf S (thd T 3) (tfb T 3) k = 0 → thd T 3 ≠ 0 → Q (nI (ans S (thd T 3 - 1) k)) (pI (pI (pI (pI (pI m1 75 0 0) 82 k (nI (ans S (thd T 3 - 1) k))) 82 9 (tcs T 3 + nI (cC S k))) 75 1 0) 75 2 (-1))) → wX12_tries t m1 75 (nI k) Q := by
      intro m1 d1 Q h5 h6 h0
      have d2 := d1.q (thr _)
      have L2 := d2.rc.lay
      have RLc := d2.rc.rl
      have u85 := RLc.u85
      have vk : vp_in (nI k) 11 := vp_nI (by omega) (by decide)
      have v8 : vp_in (nI k) 8 := vp_nI (by omega) (by decide)
      unfold wX12_tries wX12_tries_J42
      refine ⟨lk75 L, rx_isThing d2 (fun _ _ _ => ⟨fun h => absurd h (by decide), fun _ => ?_⟩) (fun h => absurd rfl (h k hk))⟩
      simp only [d2.rc.told, RLc.k, RLc.r1, RLc.k1, RLc.l1, RLc.r2, RLc.k2, RLc.l2, RLc.r3, RLc.k3, RLc.l3, RLc.r4, RLc.k4, RLc.l4, RLc.r5, RLc.k5, RLc.l5, RLc.r6, RLc.k6, RLc.l6, RLc.r7, RLc.k7, RLc.l7, RLc.r8, RLc.k8, RLc.l8, RLc.r9, RLc.k9, RLc.l9, RLc.r10, RLc.k10, RLc.l10, RLc.r11, RLc.k11, RLc.l11, RLc.r12, RLc.k12, RLc.l12, RLc.r13, RLc.k13, RLc.l13, RLc.r14, RLc.k14, RLc.l14, kc, d2.rc.sm.cost k (by omega), true_and, e0]
      refine ⟨v8, fun h => ⟨lk75 L, rx_refused L (h5 (Or.inl h))⟩, fun hcz => ?_⟩
      rw [lr75_26 L2, lk82 L, ll82 L, d2.tm.fact k (by omega), fcI_m2 (by omega), cl8, d2.tm.hidden, m2I_m2 (by omega)]
      refine ⟨rfl, vk, fun hf => ⟨vp_nI (n := 8) (by decide) (by decide), fun h => rx_refused L (h6 hcz hf h), fun h => ?_⟩, fun hf => ⟨lk75 L, rx_refused L (h5 (Or.inr hf))⟩⟩
      rw [show m2I (thd T 3) = nI (thd T 3 - 1) from if_neg h]
      refine rsp_answerOf d2.rc (by omega) hk ?_
      simp only [d2.rc.told, RLc.k, RLc.r1, RLc.k1, RLc.l1, RLc.r2, RLc.k2, RLc.l2, RLc.r3, RLc.k3, RLc.l3, RLc.r4, RLc.k4, RLc.l4, RLc.r5, RLc.k5, RLc.l5, RLc.r6, RLc.k6, RLc.l6, RLc.r7, RLc.k7, RLc.l7, RLc.r8, RLc.k8, RLc.l8, RLc.r9, RLc.k9, RLc.l9, RLc.r10, RLc.k10, RLc.l10, RLc.r11, RLc.k11, RLc.l11, RLc.r12, RLc.k12, RLc.l12, RLc.r13, RLc.k13, RLc.l13, RLc.r14, RLc.k14, RLc.l14, lr75_26 L2, lk82 L, ll82 L, cl9, true_and]
      have g1 : gI (pI (pI m1 75 0 0) 82 k (nI (ans S (thd T 3 - 1) k))) 82 9 = tcs T 3 := by
        rw [gII, if_neg (by omega)]; exact d2.tm.spent
      have g2 : gI (pI (pI m1 75 0 0) 82 k (nI (ans S (thd T 3 - 1) k))) (u + 2) k = nI (cC S k) := by
        rw [gII, if_neg (by omega)]; exact d2.rc.sm.cost k (by omega)
      have g3 : gI (pI (pI (pI m1 75 0 0) 82 k (nI (ans S (thd T 3 - 1) k))) 82 9 (tcs T 3 + nI (cC S k))) 82 k = nI (ans S (thd T 3 - 1) k) := by
        rw [gII, if_neg (by omega), gII, if_pos ⟨rfl, rfl⟩]
      rw [g1, g2, g3]
      exact ⟨vp_nI (n := 9) (by decide) (by decide), v8, vk, rx_good L (h0 hcz hf h)⟩
    have no : ∀ w : Int32, w ≠ 4 → (w = 5 ↔ cC S k = 0 ∨ Fcf S (thd T 3) (tfb T 3) k ≠ 0) → (w = 6 ↔ cC S k ≠ 0 ∧ Fcf S (thd T 3) (tfb T 3) k = 0 ∧ thd T 3 = 0) → (w = 5 ∨ w = 6) → wX12_tries t (pI m 1 14 w) 75 (nI k) (fun r2 m2 => Fin m m2 (-1) r2 ∨ FinT t s u S T m m2 (-1) r2) := by
      intro w h4 h5 h6 hw
      have q1 : QF m (pI m 1 14 w) := QF.rf.why w
      refine refs _ (d.c q1) _ (fun h => ?_) (fun h1 h2 h3 => ?_) (fun h1 h2 h3 => ?_)
      · rw [← h5] at h
        subst h
        exact Or.inl (fin_raw L q1 (w14 m 5) (thr _) (by decide) _)
      · have := h6.mpr ⟨h1, h2, h3⟩
        subst this
        exact Or.inl (fin_raw L q1 (w14 m 6) (thr _) (by decide) _)
      · rcases hw with hw | hw
        · rcases h5.mp hw with q | q
          · exact absurd q h1
          · exact absurd h2 q
        · exact absurd (h6.mp hw).2.2 h3
    rw [c.x3]
    simp only [ls_k L hs, ls_r1 L hs, ls_k1 L hs, ls_l1 L hs, ls_r3 L hs, ls_k3 L hs, ls_l3 L hs, ls_r6 L hs, ls_k6 L hs, ls_l6 L hs, ls_r7 L hs, ls_k7 L hs, ls_l7 L hs, ls_r8 L hs, ls_k8 L hs, ls_l8 L hs, ls_r9 L hs, ls_k9 L hs, ls_l9 L hs, ls_r11 L hs, ls_k11 L hs, ls_l11 L hs, ls_r15 L hs, ls_k15 L hs, ls_l15 L hs, ls_r16 L hs, ls_k16 L hs, ls_l16 L hs, ls_r17 L hs, ls_k17 L hs, ls_l17 L hs, ls_r19 L hs, ls_k19 L hs, ls_l19 L hs, kc, c.cor.sm.cost k (by omega), true_and, e0, lr1_6 L]
    unfold wX9_tries_J37
    refine ⟨vp_nI (by omega) (by decide), fun h => ⟨lk1 L, cx_refuse L (no 5 (by decide) ⟨fun _ => Or.inl h, fun _ => rfl⟩ ⟨fun q => absurd q (by decide), fun q => absurd h q.1⟩ (Or.inl rfl))⟩, fun hcz => ⟨lk61 L, cx_isFact (lk61 L) c.tm.facts (by omega) (by omega) (fun hb => ⟨fun h => absurd h (by decide), fun _ => ⟨lk1 L, cx_refuse L ?_⟩⟩) (fun hb => ⟨fun _ => ?_, fun h => absurd rfl h⟩)⟩⟩
    · have hf : Fcf S (thd T 3) (tfb T 3) k ≠ 0 := by simp [Fcf, hb]
      exact no 5 (by decide) ⟨fun _ => Or.inr hf, fun _ => rfl⟩ ⟨fun q => absurd q (by decide), fun q => absurd q.2.1 hf⟩ (Or.inl rfl)
    · have hf : Fcf S (thd T 3) (tfb T 3) k = 0 := by simp [Fcf, hb]
      simp only [lr1_6 L, c.tm.hidden, m1I_ge (show thd T 3 < 2 ^ 31 by omega), c.x3, ls_k L hs, ls_r1 L hs, ls_k1 L hs, ls_l1 L hs, ls_r3 L hs, ls_k3 L hs, ls_l3 L hs, ls_r6 L hs, ls_k6 L hs, ls_l6 L hs, ls_r7 L hs, ls_k7 L hs, ls_l7 L hs, ls_r8 L hs, ls_k8 L hs, ls_l8 L hs, ls_r9 L hs, ls_k9 L hs, ls_l9 L hs, ls_r11 L hs, ls_k11 L hs, ls_l11 L hs, ls_r15 L hs, ls_k15 L hs, ls_l15 L hs, ls_r16 L hs, ls_k16 L hs, ls_l16 L hs, ls_r17 L hs, ls_k17 L hs, ls_l17 L hs, ls_r19 L hs, ls_k19 L hs, ls_l19 L hs, true_and, kc]
      refine ⟨lk61 L, fun hp => ⟨vp_nI (by omega) (by decide), ?_⟩, fun hp => cx_refuse L (no 6 (by decide) ⟨fun q => absurd q (by decide), fun q => by rcases q with q | q; exact absurd q hcz; exact absurd hf q⟩ ⟨fun _ => ⟨hcz, hf, by omega⟩, fun _ => rfl⟩ (Or.inr rfl))⟩
      have g1 : gI (pI m 61 2 (gI m 61 2 ||| ((1 : Int32) <<< (nI k &&& 31)))) (s + 2) k = nI (cC S k) := by
        rw [gII, if_neg (by have := hs; unfold isSch at this; omega)]; exact c.cor.sm.cost k (by omega)
      have g2 : gI (pI m 61 2 (gI m 61 2 ||| ((1 : Int32) <<< (nI k &&& 31)))) 61 3 = tcs T 3 := c.tm.costs
      rw [g1, g2, c.tm.facts, nI_shl1 (by omega), fa_or]
      have F2 : Fr [61] m (pI (pI m 61 2 (nI (tfb T 3 ||| 2 ^ k))) 61 3 (tcs T 3 + nI (cC S k))) := Fr.pI (Fr.pI Fr.rf (by decide)) (by decide)
      have f2 : CT m (pI (pI m 61 2 (nI (tfb T 3 ||| 2 ^ k))) 61 3 (tcs T 3 + nI (cC S k))) := (CT.rf.p61 _ _).p61 _ _
      have hv2 : hfV S (thd T 3) (tfb T 3 ||| 2 ^ k) := ⟨hv.1, Nat.or_lt_two_pow hv.2.1 (Nat.pow_lt_pow_right (by decide) hk), fun q => absurd q hp⟩
      have tm : TmC (pI (pI m 61 2 (nI (tfb T 3 ||| 2 ^ k))) 61 3 (tcs T 3 + nI (cC S k))) S (mkT T (tsd T 3) (thd T 3) (tfb T 3 ||| 2 ^ k) (tcs T 3 + nI (cC S k))) := by
        refine c.tm.up (fun a ha k => F2.I ?_ k) ?_ ?_ ?_ ?_ ?_ c.tm.val.1 hv2
        · simp only [List.mem_cons, List.not_mem_nil, or_false] at ha ⊢; omega
        all_goals simp (config := { decide := true }) only [gII, and_false, false_and, if_false, and_self, if_true]
        · exact c.tm.seed
        · exact c.tm.hidden
      refine co_reckon c f2 (F2.I (by decide) _) (F2.I (by decide) _) (F2.I (by decide) _) F2 tm (fun m3 g3 f3 c3 k3 => ?_)
      have L3 := c3.cor.lay
      have eh : gI m3 61 1 = nI (thd T 3 - 1) := c3.tm.hidden.trans (m1I_pos hp)
      rw [lr1_6 L3, lr1_2 L3, eh]
      refine ⟨lk61 L, lk20 L, sp_answerIn c3.cor (by omega) hk (cx_accept L ?_)⟩
      have q4 : QF m3 (pI m3 1 14 0) := QF.rf.why 0
      have f4 := f3.why 0
      have d4 := f4.ro d
      refine refs _ d4 _ (fun h => by rcases h with h | h; exact absurd h hcz; exact absurd hf h) (fun _ _ h => absurd h hp) (fun _ _ _ => Or.inr ?_)
      have R5 : RT (pI m3 1 14 0) (pI (pI (pI (pI m3 1 14 0) 75 0 0) 82 k (nI (ans S (thd T 3 - 1) k))) 82 9 (tcs T 3 + nI (cC S k))) := ⟨Fr.pI (Fr.pI (Fr.pI Fr.rf (by decide)) (by decide)) (by decide), fun j a b g h i => by simp (config := { decide := true }) only [gII, a, and_false, false_and, if_false]⟩
      have tm5 : TmR (pI (pI (pI (pI m3 1 14 0) 75 0 0) 82 k (nI (ans S (thd T 3 - 1) k))) 82 9 (tcs T 3 + nI (cC S k))) S (mkT T (tsd T 3) (thd T 3) (tfb T 3 ||| 2 ^ k) (tcs T 3 + nI (cC S k))) := by
        refine d4.tm.up (fun j => ?_) ?_ ?_ (fun j hj => ?_) ?_ ?_ c.tm.val.1 hv2
        · rw [gII, if_neg (by omega), gII, if_neg (by omega), gII, if_neg (by omega)]
        · rw [gII, if_neg (by omega), gII, if_neg (by omega), gII, if_neg (by omega)]; exact d4.tm.seed
        · rw [gII, if_neg (by omega), gII, if_neg (by omega), gII, if_neg (by omega)]; exact d4.tm.hidden
        · rw [gII, if_neg (by omega)]
          by_cases z : j = k
          · subst z
            rw [gII, if_pos ⟨rfl, rfl⟩]
            simp [Fcf, fcI, fb_bit_set]
          · rw [gII, if_neg (fun q => z q.2), gII, if_neg (by omega), d4.tm.fact j hj]
            unfold Fcf
            rw [fb_bit_set, decide_eq_false z, Bool.or_false]
        · rw [gII, if_pos ⟨rfl, rfl⟩]
        · rfl
      refine fin_T f4 (c3.q q4) k3.why (w14 _ _) (R5.good 0) (ro_up d4 (R5.good 0) (tm5.gd 0)) ?_ ?_ (by decide)
      · simp (config := { decide := true }) only [gII, and_false, if_false, and_self, if_true]
      · simp (config := { decide := true }) only [gII, and_self, if_true]
  · have q1 : QF m (pI m 1 14 1) := QF.rf.why 1
    have d2 := (d.c q1).q (thr _)
    unfold wX12_tries
    exact ⟨lk75 L, rx_isThing d2 (fun k hk e => absurd e (hn k hk)) (fun _ => ⟨fun _ => rx_refused L (Or.inl (fin_raw L q1 (w14 m 1) (thr _) (by decide) _)), fun h => absurd rfl h⟩)⟩
theorem mkM_row {j i : Nat} (hj : j ≠ tmk T) (h3 : j < 3) : (mkM T).1 j i = T.1 j i := by
  simp [mkM, hj, show ¬ j = 3 by omega]
theorem mkM_new {i : Nat} (h : tmk T < 3) : (mkM T).1 (tmk T) i = T.1 3 i := by
  have : tmk T ≠ 3 := by omega
  simp [mkM, this]
theorem mkM_3 {i : Nat} (h : tmk T < 3) (hi : i ≠ 3) : (mkM T).1 3 i = T.1 3 i := by
  simp [mkM, hi]
theorem mkM_mk (h : tmk T < 3) : tmk (mkM T) = tmk T + 1 := by
  show (mkM T).1 3 3 = _
  simp [mkM]
theorem mkM_c {j : Nat} (hj : j ≠ tmk T) : (mkM T).2 j = T.2 j := if_neg hj
theorem mkM_c0 : (mkM T).2 (tmk T) = T.2 3 := if_pos rfl
theorem mkM_val (h : tmk T < 3) (h3 : TmV S T 3) : TmV S (mkM T) 3 := by
  unfold TmV tsd thd tfb at h3 ⊢
  rw [mkM_3 h (by decide), mkM_3 h (by decide), mkM_3 h (by decide)]
  exact h3
theorem mkM_valk (h : tmk T < 3) (h3 : TmV S T 3) (hk : ∀ j, j < tmk T → TmV S T j) : ∀ j, j < tmk (mkM T) → TmV S (mkM T) j := by
  intro j hj
  rw [mkM_mk h] at hj
  unfold TmV tsd thd tfb at h3 hk ⊢
  rcases (show j < tmk T ∨ j = tmk T by omega) with q | q
  · rw [mkM_row (by omega) (by omega), mkM_row (by omega) (by omega), mkM_row (by omega) (by omega)]
    exact hk j q
  · rw [q, mkM_new h, mkM_new h, mkM_new h]
    exact h3
theorem rsp_mark_L {Q : Int32 → zM → Prop} {K : zM → Prop} {M : Nat} (hM : M < 3) (L : Lay t m) (hm : gI m 75 28 = nI M) (hK : ∀ m2, Fr [83] m m2 → (∀ k, k < 11 → gI m2 83 (11 * M + k) = gI m 82 k) → (∀ i, i < 11 * M → gI m2 83 i = gI m 83 i) → K m2) : ∀ dd k : Nat, k + dd = 11 → ∀ m1, Fr [83] m m1 → (∀ j, j < k → gI m1 83 (11 * M + j) = gI m 82 j) → (∀ i, i < 11 * M → gI m1 83 i = gI m 83 i) → ∀ z : Int32, z = nI k → wX12_mark_L34 t 75 Q K (dd + 1) z m1 := by
  intro dd
  induction dd with
  | zero =>
    intro k hk m1 f g1 g2 z e
    have ek : k = 11 := by omega
    subst ek
    rw [e, wX12_mark_L34]
    exact ⟨fun _ => hK m1 f g1 g2, fun h => absurd (by decide) h⟩
  | succ dd ih =>
    intro k hk m1 f g1 g2 z e
    have L1 := L.fr f
    rw [e, wX12_mark_L34, lr75_26 L1, lr75_27 L1, lk82 L, ll82 L, lk83 L, ll83 L, f.I (show 75 ∉ [83] by decide), hm, show (11 : Int32) = nI 11 from rfl, pk_mul, nI_add, nI_cl (show k < 2 ^ 31 by omega), nI_cl (show 11 * M + k < 2 ^ 31 by omega), f.I (show 82 ∉ [83] by decide)]
    refine ⟨fun h => absurd h (nI_ge (b := 11) (by omega) (by decide)), fun _ => ⟨lk75 L, rfl, vp_nI (by omega) (by decide), rfl, vp_nI (by omega) (by decide), ih (k + 1) (by omega) _ (Fr.pI f (by decide)) (fun j hj => ?_) (fun i hi => ?_) _ (nI_1 k)⟩⟩
    · by_cases z : j = k
      · subst z; simp only [gII, and_self, if_true]
      · rw [gII, if_neg (by omega)]; exact g1 j (by omega)
    · rw [gII, if_neg (by omega)]; exact g2 i hi
theorem call_mark (c : CO t m s S T) (d : RO t m u S T) : wX9_mark t m 1 (fun r m1 => wX12_mark t m1 75 (fun r2 m2 => Fin m m2 r r2 ∨ FinT t s u S T m m2 r r2)) := by
  have L := c.cor.lay
  have mk3 := c.tm.mk3
  unfold wX9_mark
  refine ⟨lk1 L, cx_isOpen c ⟨fun h => absurd h (by decide), fun _ => ?_⟩⟩
  rw [lr1_6 L, c.tm.marks, show (3 : Int32) = nI 3 from rfl, nI_leI (by decide) (by omega)]
  refine ⟨lk61 L, fun h => cx_refuse L ?_, fun h => ?_⟩
  · have q1 : QF m (pI m 1 14 (nI 3)) := QF.rf.why (nI 3)
    have d1 := d.c q1
    have d2 := d1.q (thr _)
    show wX12_mark _ _ _ _
    unfold wX12_mark
    rw [d2.tm.marks, show (3 : Int32) = nI 3 from rfl, nI_eq (by omega) (by decide)]
    exact ⟨lk75 L, fun h => absurd h (u_ne d1), fun _ => ⟨fun _ => rx_refused L (Or.inl (fin_raw L q1 (w14 m _) (thr _) (by decide) _)), fun h => by omega⟩⟩
  · have lt : tmk T < 3 := by omega
    have kc := nI_cl (show tmk T < 2 ^ 31 by omega)
    have vk : vp_in (nI (tmk T)) 3 := vp_nI lt (by decide)
    unfold wX7_keep
    simp (config := { decide := true }) only [lr61_5 L, lr61_6 L, lr61_7 L, lr61_8 L, lk61 L, lk62 L, lk63 L, lk64 L, lk65 L, ll62 L, ll63 L, ll64 L, ll65 L, c.tm.marks, kc, gII, and_false, false_and, if_false, true_and]
    refine ⟨vk, vk, vk, vk, cx_accept L ?_⟩
    rw [nI_1]
    generalize hm1 : pI (pI (pI (pI (pI m 62 (tmk T) (gI m 61 0)) 63 (tmk T) (gI m 61 1)) 64 (tmk T) (gI m 61 2)) 65 (tmk T) (gI m 61 3)) 61 4 (nI (tmk T + 1)) = m1
    have F : Fr [61, 62, 63, 64, 65] m m1 := by
      rw [← hm1]
      exact Fr.pI (Fr.pI (Fr.pI (Fr.pI (Fr.pI Fr.rf (by decide)) (by decide)) (by decide)) (by decide)) (by decide)
    have f1 : CT m (pI m1 1 14 0) := CT.why ⟨F.mono (by decide), fun j _ _ _ => F.I (by decide) _, fun j _ => F.I (by decide) _⟩ 0
    have tm1 : TmC m1 S (mkM T) := by
      refine ⟨?_, ?_, ?_, ?_, ?_, fun j hj => ?_, by rw [mkM_mk lt]; omega, mkM_val lt c.tm.val, mkM_valk lt c.tm.val c.tm.valk⟩
      · rw [tsd, mkM_3 lt (by decide), ← hm1]
        simp (config := { decide := true }) only [gII, and_false, false_and, if_false]; exact c.tm.seed
      · rw [thd, mkM_3 lt (by decide), ← hm1]
        simp (config := { decide := true }) only [gII, and_false, false_and, if_false]; exact c.tm.hidden
      · rw [tfb, mkM_3 lt (by decide), ← hm1]
        simp (config := { decide := true }) only [gII, and_false, false_and, if_false]; exact c.tm.facts
      · rw [tcs, mkM_c (by omega), ← hm1]
        simp (config := { decide := true }) only [gII, and_false, false_and, if_false]; exact c.tm.costs
      · rw [mkM_mk lt, ← hm1]
        simp (config := { decide := true }) only [gII, and_self, if_true]
      · rw [mkM_mk lt] at hj
        unfold tsd thd tfb tcs
        rcases (show j < tmk T ∨ j = tmk T by omega) with q | q
        · have nj : ¬ j = tmk T := by omega
          rw [mkM_row nj (by omega), mkM_row nj (by omega), mkM_row nj (by omega), mkM_c nj, ← hm1]
          simp (config := { decide := true }) only [gII, nj, and_false, false_and, if_false]
          exact c.tm.kept j q
        · rw [q, mkM_new lt, mkM_new lt, mkM_new lt, mkM_c0, ← hm1]
          simp (config := { decide := true }) only [gII, and_false, false_and, if_false, and_self, if_true]
          exact ⟨c.tm.seed, c.tm.hidden, c.tm.facts, c.tm.costs⟩
    have F1 : Fr [1] m1 (pI m1 1 14 0) := Fr.pI Fr.rf (by decide)
    have c1 : CO t (pI m1 1 14 0) s S (mkM T) := co_same c f1 (F.I (by decide) _) (fun k => F.I (by decide) _) (fun k => F.J (by decide) _) (tm1.fr F1 (by decide)) (mkM_3 lt (by decide)) (mkM_3 lt (by decide))
    have d1 := f1.ro d
    have d2 := d1.q (thr _)
    have L2 := d2.rc.lay
    have k1 : Kp S T (mkM T) m (pI m1 1 14 0) := by
      refine Or.inl ⟨?_, F.I (by decide) _, F.I (by decide) _⟩
      rw [thd, tfb, mkM_3 lt (by decide), mkM_3 lt (by decide)]
    unfold wX12_mark
    rw [d2.tm.marks, show (3 : Int32) = nI 3 from rfl, nI_eq (by omega) (by decide)]
    refine ⟨lk75 L, fun h => absurd h (u_ne d1), fun _ => ⟨fun h => by omega, fun _ => ⟨12, rsp_mark_L lt L2 d2.tm.marks (fun m4 f4 g4 g5 => ?_) 11 0 (by omega) _ Fr.rf (fun j hj => absurd hj (by omega)) (fun i _ => rfl) 0 rfl⟩⟩⟩
    have em : gI m4 75 28 = nI (tmk T) := (f4.I (by decide) _).trans d2.tm.marks
    have en : gI (pI m4 75 28 (gI m4 75 28 + 1)) 75 28 - 1 = nI (tmk T) := by
      rw [gII, if_pos ⟨rfl, rfl⟩, em, nI_1, nI_pred]
    rw [en, em, nI_1]
    refine rx_good L (Or.inr ?_)
    have R5 : RT (pI m1 1 14 0) (pI m4 75 28 (nI (tmk T + 1))) := ⟨Fr.pI ((Fr.pI Fr.rf (by decide)).tr (f4.mono (by decide))) (by decide), fun j a b g h i => by rw [gII, if_neg (fun q => i q.2), f4.I (by decide), gII, if_neg (fun q => a q.2)]⟩
    have tm5 : TmR (pI m4 75 28 (nI (tmk T + 1))) S (mkM T) := by
      have e82 : ∀ k, gI (pI m4 75 28 (nI (tmk T + 1))) 82 k = gI (pI (pI m1 1 14 0) 75 0 0) 82 k := fun k => f4.I (by decide) k
      have e83 : ∀ k, gI (pI m4 75 28 (nI (tmk T + 1))) 83 k = gI m4 83 k := fun k => rfl
      have n1 : thd (mkM T) 3 = thd T 3 := mkM_3 lt (by decide)
      have n2 : tfb (mkM T) 3 = tfb T 3 := mkM_3 lt (by decide)
      have n0 : tsd (mkM T) 3 = tsd T 3 := mkM_3 lt (by decide)
      have nc : tcs (mkM T) 3 = tcs T 3 := mkM_c (by omega)
      refine ⟨fun k hk => ?_, ?_, ?_, ?_, ?_, fun j hj => ?_, by rw [mkM_mk lt]; omega, mkM_val lt c.tm.val, mkM_valk lt c.tm.val c.tm.valk⟩
      · rw [e82, d2.tm.fact k hk, n1, n2]
      · rw [e82, d2.tm.hidden, n1]
      · rw [e82, d2.tm.spent, nc]
      · rw [e82, d2.tm.seed, n0]
      · rw [gII, if_pos ⟨rfl, rfl⟩, mkM_mk lt]
      · rw [mkM_mk lt] at hj
        simp only [e83]
        unfold tsd thd tfb tcs
        rcases (show j < tmk T ∨ j = tmk T by omega) with q | q
        · have nj : ¬ j = tmk T := by omega
          rw [mkM_row nj (by omega), mkM_row nj (by omega), mkM_row nj (by omega), mkM_c nj, g5 _ (by omega), g5 _ (by omega), g5 _ (by omega)]
          refine ⟨fun k hk => ?_, (d2.tm.kept j q).2⟩
          rw [g5 _ (by omega)]
          exact (d2.tm.kept j q).1 k hk
        · rw [q, mkM_new lt, mkM_new lt, mkM_new lt, mkM_c0, g4 8 (by decide), g4 9 (by decide), g4 10 (by decide)]
          refine ⟨fun k hk => ?_, d2.tm.hidden, d2.tm.spent, d2.tm.seed⟩
          rw [g4 k (by omega)]
          exact d2.tm.fact k hk
    refine fin_T f1 c1 k1 (w14 _ _) (R5.good 0) (ro_up d1 (R5.good 0) (tm5.gd 0)) ?_ ?_ (by decide)
    · simp (config := { decide := true }) only [gII, and_false, if_false, and_self, if_true]
    · simp (config := { decide := true }) only [gII, and_self, if_true]
theorem rsp_back_L {Q : Int32 → zM → Prop} {K : zM → Prop} {M : Nat} (hM : M < 3) (L : Lay t m) (hK : ∀ m2, Fr [82] m m2 → (∀ k, k < 11 → gI m2 82 k = gI m 83 (11 * M + k)) → K m2) : ∀ dd k : Nat, k + dd = 11 → ∀ m1, Fr [82] m m1 → (∀ j, j < k → gI m1 82 j = gI m 83 (11 * M + j)) → ∀ z : Int32, z = nI k → wX12_back_L32 t 75 (nI M) Q K (dd + 1) z m1 := by
  intro dd
  induction dd with
  | zero =>
    intro k hk m1 f g1 z e
    have ek : k = 11 := by omega
    subst ek
    rw [e, wX12_back_L32]
    exact ⟨fun _ => hK m1 f g1, fun h => absurd (by decide) h⟩
  | succ dd ih =>
    intro k hk m1 f g1 z e
    have L1 := L.fr f
    rw [e, wX12_back_L32, lr75_26 L1, lr75_27 L1, lk82 L, ll82 L, lk83 L, ll83 L, show (11 : Int32) = nI 11 from rfl, pk_mul, nI_add, nI_cl (show k < 2 ^ 31 by omega), nI_cl (show 11 * M + k < 2 ^ 31 by omega), f.I (show 83 ∉ [82] by decide)]
    refine ⟨fun h => absurd h (nI_ge (b := 11) (by omega) (by decide)), fun _ => ⟨lk75 L, rfl, vp_nI (by omega) (by decide), rfl, vp_nI (by omega) (by decide), ih (k + 1) (by omega) _ (Fr.pI f (by decide)) (fun j hj => ?_) _ (nI_1 k)⟩⟩
    by_cases z : j = k
    · subst z; simp only [gII, and_self, if_true]
    · rw [gII, if_neg (fun q => z q.2)]; exact g1 j (by omega)
theorem call_back (c : CO t m s S T) (d : RO t m u S T) : wX9_back t m 1 x (fun r m1 => wX12_back t m1 75 x (fun r2 m2 => Fin m m2 r r2 ∨ FinT t s u S T m m2 r r2)) := by
  have L := c.cor.lay
  have mk3 := c.tm.mk3
  have no : (∀ k, k < tmk T → x ≠ nI k) → wX9_back_J22 t m 1 (fun r m1 => wX12_back t m1 75 x (fun r2 m2 => Fin m m2 r r2 ∨ FinT t s u S T m m2 r r2)) := by
    intro hn
    have q1 : QF m (pI m 1 14 1) := QF.rf.why 1
    have d1 := d.c q1
    have d2 := d1.q (thr _)
    have fr : wX12_back_J24 t (pI (pI m 1 14 1) 75 0 0) 75 (fun r2 m2 => Fin m m2 0 r2 ∨ FinT t s u S T m m2 0 r2) := by
      unfold wX12_back_J24 wX12_denied
      exact ⟨lk75 L, lk75 L, rx_refused L ⟨Or.inl rfl, Or.inl (fin_raw L q1 (w14 m 1) (thr _) (by decide) 0)⟩⟩
    unfold wX9_back_J22
    refine ⟨lk1 L, cx_refuse L ?_⟩
    show wX12_back _ _ _ _ _
    unfold wX12_back
    rw [d2.tm.marks]
    refine ⟨lk75 L, fun h => absurd h (u_ne d1), fun _ => ⟨fun _ => fr, fun h0 => ⟨fun h => ?_, fun _ => fr⟩⟩⟩
    obtain ⟨k, hk, e⟩ := nI_of h0
    subst e
    exact absurd rfl (hn k ((nI_ltI hk (by omega)).mp h))
  unfold wX9_back
  refine ⟨lk1 L, cx_isOpen c ⟨fun h => absurd h (by decide), fun _ => ⟨fun hx => no (fun n hn e => by rw [e] at hx; exact nI_pos (by omega) hx), fun hx => ?_⟩⟩⟩
  rw [lr1_6 L, c.tm.marks]
  refine ⟨lk61 L, fun hlt => ?_, fun hlt => no (fun n hn e => hlt (by rw [e]; exact nI_lt hn (by omega)))⟩
  obtain ⟨k, hk, e⟩ := nI_of hx
  subst e
  have kl : k < tmk T := (nI_ltI hk (by omega)).mp hlt
  have kc := nI_cl hk
  have vk : vp_in (nI k) 3 := vp_nI (by omega) (by decide)
  have kv := c.tm.valk k kl
  obtain ⟨k0, k1, k2, k3⟩ := c.tm.kept k kl
  unfold wX7_restore
  simp (config := { decide := true }) only [lr61_5 L, lr61_6 L, lr61_7 L, lr61_8 L, lk61 L, lk62 L, lk63 L, lk64 L, lk65 L, ll62 L, ll63 L, ll64 L, ll65 L, kc, gII, and_false, false_and, if_false, true_and, k0, k1, k2, k3]
  refine ⟨vk, vk, vk, vk, ?_⟩
  generalize hm1 : pI (pI (pI (pI m 61 0 (nI (tsd T k))) 61 1 (m1I (thd T k))) 61 2 (nI (tfb T k))) 61 3 (tcs T k) = m1
  have F : Fr [61] m m1 := by
    rw [← hm1]
    exact Fr.pI (Fr.pI (Fr.pI (Fr.pI Fr.rf (by decide)) (by decide)) (by decide)) (by decide)
  have f1 : CT m m1 := ⟨F.mono (by decide), fun j _ _ _ => F.I (by decide) _, fun j _ => F.I (by decide) _⟩
  have tm1 : TmC m1 S (mkT T (tsd T k) (thd T k) (tfb T k) (tcs T k)) := by
    refine c.tm.up (fun a ha k => F.I ?_ k) ?_ ?_ ?_ ?_ ?_ kv.1 kv.2
    · simp only [List.mem_cons, List.not_mem_nil, or_false] at ha ⊢; omega
    all_goals rw [← hm1]
    all_goals simp (config := { decide := true }) only [gII, and_false, false_and, if_false, and_self, if_true]
  refine co_reckon c f1 (F.I (by decide) _) (F.I (by decide) _) (F.I (by decide) _) F tm1 (fun m3 g3 f3 c3 k3 => cx_accept L ?_)
  have q4 : QF m3 (pI m3 1 14 0) := QF.rf.why 0
  have f4 := f3.why 0
  have d4 := f4.ro d
  have d5 := d4.q (thr _)
  unfold wX12_back wX12_granted
  rw [d5.tm.marks]
  refine ⟨lk75 L, fun h => absurd h (u_ne d4), fun _ => ⟨fun h => absurd h hx, fun _ => ⟨fun _ => ⟨12, rsp_back_L (by omega) d5.rc.lay (fun m6 f6 g6 => ⟨lk75 L, rx_good L ⟨Or.inr rfl, Or.inr ?_⟩⟩) 11 0 (by omega) _ Fr.rf (fun j hj => absurd hj (by omega)) 0 rfl⟩, fun h => absurd hlt h⟩⟩⟩
  have R5 : RT (pI m3 1 14 0) m6 := ⟨(Fr.pI Fr.rf (by decide)).tr (f6.mono (by decide)), fun j a b g h i => by rw [f6.I (by decide), gII, if_neg (fun q => a q.2)]⟩
  obtain ⟨p0, p1, p2, p3⟩ := d5.tm.kept k kl
  have tm5 : TmR m6 S (mkT T (tsd T k) (thd T k) (tfb T k) (tcs T k)) := by
    refine d5.tm.up (fun k => f6.I (by decide) k) ?_ ?_ (fun j hj => ?_) ?_ (f6.I (by decide) _) kv.1 kv.2
    · exact (g6 10 (by decide)).trans p3
    · exact (g6 8 (by decide)).trans p1
    · exact (g6 j (by omega)).trans (p0 j hj)
    · exact (g6 9 (by decide)).trans p2
  refine fin_T f4 (c3.q q4) k3.why (w14 _ _) (R5.good 0) (ro_up d4 (R5.good 0) (tm5.gd 0)) ?_ ?_ (by decide)
  · simp (config := { decide := true }) only [gII, and_false, if_false, and_self, if_true]
  · simp (config := { decide := true }) only [gII, and_self, if_true]
end
