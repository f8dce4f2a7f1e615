/-! Ways.build -/
theorem dm_div {w g : Nat} (hg : 0 < g) : (w + 1) / g = if w % g + 1 = g then w / g + 1 else w / g := by
  have e := Nat.div_add_mod w g
  have l := Nat.mod_lt w hg
  by_cases z : w % g + 1 = g
  · rw [if_pos z]
    have : w + 1 = g * (w / g + 1) := by rw [Nat.mul_add, Nat.mul_one]; omega
    rw [this, Nat.mul_div_cancel_left _ hg]
  · rw [if_neg z]
    have : w + 1 = g * (w / g) + (w % g + 1) := by omega
    rw [this, Nat.mul_add_div hg, Nat.div_eq_of_lt (show w % g + 1 < g by omega), Nat.add_zero]
theorem dm_mod {w g : Nat} (hg : 0 < g) : (w + 1) % g = if w % g + 1 = g then 0 else w % g + 1 := by
  have e := Nat.div_add_mod w g
  have l := Nat.mod_lt w hg
  by_cases z : w % g + 1 = g
  · rw [if_pos z]
    have : w + 1 = g * (w / g + 1) := by rw [Nat.mul_add, Nat.mul_one]; omega
    rw [this, Nat.mul_mod_right]
  · rw [if_neg z]
    have : w + 1 = g * (w / g) + (w % g + 1) := by omega
    rw [this, Nat.mul_add_mod, Nat.mod_eq_of_lt (by omega)]
section
variable {t : zT} {m m' : zM} {s r : Nat} {S : Sc} {P : Nat → Bool} {T : List Nat}
theorem Lay.pR {v : Nat} (L : Lay t m) (a k : Nat) (h : ∀ q ∈ zR0, ¬ (q.1 = a ∧ q.2.1 = k)) : Lay t (pR m a k v) := ⟨L.1, L.2.1, fun q hq => by rw [gRR, if_neg (h q hq)]; exact L.2.2 q hq⟩
theorem sp_fillJ {a n : Nat} {y : Int64} (hK : tK t a = 15) (hL : tL t a = n) (hn : n < 2 ^ 31) {Q : zM → Prop} (hQ : ∀ m', Fr [a] m m' → (∀ k, k < n → gJ m' a k = y) → Q m') : wJ7_fill_d0a16 t m a y Q := by
  unfold wJ7_fill_d0a16
  refine ⟨hK, fun x2 hx2 => ⟨n + 1, ?_⟩⟩
  rw [hL] at hx2
  have hx2 : x2 = nI n := hx2
  have key : ∀ d k : Nat, k + d = n → ∀ m1, Fr [a] m m1 → (∀ j, j < k → gJ m1 a j = y) → ∀ x : Int32, x = nI k → wJ7_fill_d0a16_L6 t a y x2 Q (fun m6 => Q m6) (d + 1) x m1 := by
    intro d
    induction d with
    | zero =>
      intro k hk m1 f1 g1 x hx
      have e : k = n := by omega
      subst e
      rw [hx, wJ7_fill_d0a16_L6, hx2]
      exact ⟨fun _ => hQ m1 f1 g1, fun hh => absurd (nI_le (Nat.le_refl _) (by omega)) hh⟩
    | succ d ih =>
      intro k hk m1 f1 g1 x hx
      rw [hx, wJ7_fill_d0a16_L6, hx2, hL, nI_cl (by omega)]
      refine ⟨fun hh => absurd hh (nI_ge (by omega) (by omega)), fun _ => ⟨hK, vp_nI (by omega) hn, ?_⟩⟩
      rw [← hx2]
      refine ih (k + 1) (by omega) _ (Fr.pJ f1 (by simp)) (fun j hj => ?_) _ (nI_1 k)
      by_cases z : j = k
      · subst z; simp only [gJJ, and_self, if_true]
      · simp only [gJJ, z, and_false, if_false]; exact g1 j (by omega)
  exact key n 0 (by omega) m Fr.rf (fun j h => absurd h (by omega)) 0 rfl
set_option maxHeartbeats 1000000 in
theorem sp_spread (L : Lay t m) (hs : isSch s) (v : Vs S) (told : gR m 20 0 = s) (hc : gI m 20 1 = nI (cnt S)) {tt : Nat} (ht : tt < cT S) (hA : gI m (s + 1) tt = nI (cA S tt)) (hg : gI m 33 tt = nI (wgt S tt)) {Q : zM → Prop}
    (hQ : ∀ m', Fr [34] m m' → (∀ k, k < 2048 → ∀ i, i < 64 → (bw (gJ m' 34 k) i = true ↔ bw (gJ m 34 k) i = true ∨ (64 * (k % 64) + i < cnt S ∧ k / 64 = tt * 4 + ans S (64 * (k % 64) + i) tt))) → Q m') : wX8_spreadAnswers t m 20 (nI tt) Q := by
  have t8 := v.t8
  have a3 := v.a2 tt ht
  have c4 := v.cnt
  have g0 := wgt_pos v tt
  have g1 := wgt_le v ht
  have s34 : s + 1 ∉ [34] := by rcases hs with rfl | rfl <;> decide
  unfold wX8_spreadAnswers
  refine ⟨cnt S + 1, ?_⟩
  have key : ∀ d w : Nat, w + d = cnt S → ∀ m1, Fr [34] m m1 → (∀ k, k < 2048 → ∀ i, i < 64 → (bw (gJ m1 34 k) i = true ↔ bw (gJ m 34 k) i = true ∨ (64 * (k % 64) + i < w ∧ k / 64 = tt * 4 + ans S (64 * (k % 64) + i) tt))) → ∀ x y z : Int32, x = nI w → y = nI (ans S w tt) → z = nI (w % wgt S tt) → wX8_spreadAnswers_L7 t 20 (nI tt) Q (fun m14 => Q m14) (d + 1) y z x m1 := by
    intro d
    induction d with
    | zero =>
      intro w hw m1 f1 h1 x y z hx hy hz
      have e : w = cnt S := by omega
      subst e
      rw [hx, wX8_spreadAnswers_L7, f1.I (by decide), hc]
      exact ⟨lk20 L, fun _ => hQ m1 f1 h1, fun hh => absurd (nI_le (Nat.le_refl _) (by omega)) hh⟩
    | succ d ih =>
      intro w hw m1 f1 h1 x y z hx hy hz
      have L1 := L.fr f1
      have aw := ans_4 v (w := w) ht
      have al := ans_lt v (w := w) ht
      have ml := Nat.mod_lt w g0
      have ix : (nI tt * (4 : Int32) + nI (ans S w tt)) * (64 : Int32) + (nI w >>> ((6 : Int32) &&& 31)) = nI ((tt * 4 + ans S w tt) * 64 + w / 64) := by
        rw [pk_shrN (show w < 2 ^ 31 by omega) ((6 : Int32) &&& 31) 6 (by decide), row_off]
      have b63 : nI w &&& (63 : Int32) = nI (w % 64) := pk_andN (by omega) 6 (by decide)
      have told1 : gR m1 20 0 = s := (f1.2 _ _).trans told
      rw [hx, hy, hz, wX8_spreadAnswers_L7, f1.I (by decide), hc]
      unfold wX8_rowOf
      simp only [ix, b63, lr20_4 L1, lr20_3 L1, lk34 L, ll34 L, lk33 L, ll33 L, told1, ls_r1 L1 hs, ls_k1 L hs, ls_l1 L hs, nI_cl (show tt < 2 ^ 31 by omega), nI_cl (show (tt * 4 + ans S w tt) * 64 + w / 64 < 2 ^ 31 by omega), f1.I (show 33 ∉ [34] by decide), hg, f1.I s34, hA, nI_1, true_and]
      have v1 : vp_in (nI tt) 8 := vp_nI (by omega) (by decide)
      have new : ∀ k, k < 2048 → ∀ i, i < 64 → (bw (gJ (pJ m1 34 ((tt * 4 + ans S w tt) * 64 + w / 64) (gJ m1 34 ((tt * 4 + ans S w tt) * 64 + w / 64) ||| ((1 : Int64) <<< ((nI (w % 64)).toInt64 &&& 63)))) 34 k) i = true ↔ bw (gJ m 34 k) i = true ∨ (64 * (k % 64) + i < w + 1 ∧ k / 64 = tt * 4 + ans S (64 * (k % 64) + i) tt)) := by
        intro k hk i hi
        by_cases z : k = (tt * 4 + ans S w tt) * 64 + w / 64
        · simp only [gJJ, z, and_self, if_true]
          rw [bw_or, bw_shl1 (by omega), Bool.or_eq_true, ← z, h1 k hk i hi, decide_eq_true_eq]
          have k1 : k % 64 = w / 64 := by omega
          have k2 : k / 64 = tt * 4 + ans S w tt := by omega
          rw [k1, k2]
          by_cases zi : i = w % 64
          · have : 64 * (w / 64) + i = w := by omega
            rw [this]
            simp [zi]
          · have e1 : (64 * (w / 64) + i < w + 1) ↔ (64 * (w / 64) + i < w) := by omega
            rw [e1]
            simp [zi]
        · simp only [gJJ, z, and_false, if_false]
          rw [h1 k hk i hi]
          have e1 : (64 * (k % 64) + i < w + 1 ∧ k / 64 = tt * 4 + ans S (64 * (k % 64) + i) tt) ↔ (64 * (k % 64) + i < w ∧ k / 64 = tt * 4 + ans S (64 * (k % 64) + i) tt) := by
            constructor
            · rintro ⟨q1, q2⟩
              refine ⟨?_, q2⟩
              by_cases zz : 64 * (k % 64) + i = w
              · rw [zz] at q2; omega
              · omega
            · rintro ⟨q1, q2⟩; exact ⟨by omega, q2⟩
          rw [e1]
      have fn : Fr [34] m (pJ m1 34 ((tt * 4 + ans S w tt) * 64 + w / 64) (gJ m1 34 ((tt * 4 + ans S w tt) * 64 + w / 64) ||| ((1 : Int64) <<< ((nI (w % 64)).toInt64 &&& 63)))) := Fr.pJ f1 (by decide)
      have q1 : ans S (w + 1) tt = if w % wgt S tt + 1 = wgt S tt then (if ans S w tt + 1 = cA S tt then 0 else ans S w tt + 1) else ans S w tt := by
        unfold ans
        rw [dm_div g0]
        by_cases z : w % wgt S tt + 1 = wgt S tt
        · rw [if_pos z, if_pos z, dm_mod (by omega)]
        · rw [if_neg z, if_neg z]
      have q2 := dm_mod (w := w) g0
      unfold wX8_spreadAnswers_J79 wX8_spreadAnswers_J80
      refine ⟨lk20 L, fun hh => absurd hh (nI_ge (by omega) (by omega)), fun _ => ⟨vp_nI (by omega) (by decide), v1, fun hsm => ⟨ls_k L hs, v1, fun hle => ?_, fun hle => ?_⟩, fun hsm => ?_⟩⟩
      · have hsm := (nI_eq (by omega) (by omega)).mp hsm
        have hle := (nI_leI (by omega) (by omega)).mp hle
        refine ih (w + 1) (by omega) _ fn new _ _ _ (nI_1 w) ?_ ?_
        · rw [q1, if_pos hsm, if_pos (by omega)]; rfl
        · rw [q2, if_pos hsm]; rfl
      · have hsm := (nI_eq (by omega) (by omega)).mp hsm
        have hle : ¬ cA S tt ≤ ans S w tt + 1 := fun q => hle ((nI_leI (by omega) (by omega)).mpr q)
        refine ih (w + 1) (by omega) _ fn new _ _ _ (nI_1 w) ?_ ?_
        · rw [q1, if_pos hsm, if_neg (by omega)]
        · rw [q2, if_pos hsm]; rfl
      · have hsm : ¬ w % wgt S tt + 1 = wgt S tt := fun q => hsm ((nI_eq (by omega) (by omega)).mpr q)
        refine ih (w + 1) (by omega) _ fn new _ _ _ (nI_1 w) ?_ ?_
        · rw [q1, if_neg hsm]
        · rw [q2, if_neg hsm]
  exact key (cnt S) 0 (by omega) m Fr.rf (fun k hk i hi => ⟨fun q => Or.inl q, fun q => q.resolve_right (fun e => by omega)⟩) 0 0 0 rfl (by unfold ans; simp; rfl) (by simp; rfl)
theorem bw_ones {n : Nat} (hn : n < 64) {i : Nat} (hi : i < 64) : bw (((1 : Int64) <<< ((nI n).toInt64 &&& 63)) - 1) i = decide (i < n) := by
  rw [bw, uN_sub (by rw [uN_shl1 hn, uN_1]; exact Nat.one_le_two_pow), uN_shl1 hn, uN_1, Nat.testBit_two_pow_sub_one]
set_option maxHeartbeats 1000000 in
theorem sp_followingWord (L : Lay t m) (hs : isSch s) (v : Vs S) (told : gR m 20 0 = s) (hS : SchM m s S) (hc : gI m 20 1 = nI (cnt S)) (tr : ∀ t, t < cT S → ∀ a, a < 4 → ∀ W, W < 64 → ∀ i, i < 64 → (bw (gJ m 34 ((t * 4 + a) * 64 + W)) i = true ↔ 64 * W + i < cnt S ∧ ans S (64 * W + i) t = a)) {W : Nat} (hW : W < wds S) {Q : Int64 → zM → Prop}
    (hQ : ∀ y : Int64, (∀ i, i < 64 → (bw y i = true ↔ 64 * W + i < cnt S ∧ Fol S (64 * W + i))) → Q y m) : wX8_followingWord t m 20 (nI W) Q := by
  have w64 := wds_le v
  have c4 := v.cnt
  have t8 := v.t8
  have f6 := v.f6
  have wb : 64 * W < cnt S := by unfold wds at hW; omega
  unfold wX8_followingWord
  have hx : gI m 20 1 - nI W * (64 : Int32) = nI (cnt S - 64 * W) := by
    rw [hc, show (64 : Int32) = nI 64 from rfl, pk_mul, pk_sub (by omega), Nat.mul_comm]
  refine ⟨lk20 L, fun x2 hx2 => ?_⟩
  rw [hx] at hx2
  have main : ∀ y0 : Int64, (∀ i, i < 64 → (bw y0 i = true ↔ 64 * W + i < cnt S)) → wX8_followingWord_J27 t m 20 (nI W) y0 Q := by
    intro y0 h0
    unfold wX8_followingWord_J27
    refine ⟨cF S + 1, ?_⟩
    have key : ∀ d k : Nat, k + d = cF S → ∀ (y : Int64) (x : Int32), (∀ i, i < 64 → (bw y i = true ↔ 64 * W + i < cnt S ∧ ∀ j, j < k → ans S (64 * W + i) (cIt S j) = cIa S j → ans S (64 * W + i) (cTt S j) = cTa S j)) → x = nI k → wX8_followingWord_L31 t 20 (nI W) Q (fun v m => Q v m) (d + 1) y x m := by
      intro d
      induction d with
      | zero =>
        intro k hk y x g hx
        have e : k = cF S := by omega
        subst e
        rw [hx, wX8_followingWord_L31, told, hS.follows]
        exact ⟨lk20 L, ls_k L hs, fun _ => hQ y g, fun hh => absurd (nI_le (Nat.le_refl _) (by omega)) hh⟩
      | succ d ih =>
        intro k hk y x g hx
        have hk1 : k < cF S := by omega
        obtain ⟨e1, e2, e3, e4⟩ := hS.fol k hk1
        obtain ⟨b1, b2, b3, b4⟩ := v.fol k hk1
        have a1 := (v.a2 _ b1).2
        have a2 := (v.a2 _ b3).2
        have v1 : vp_in (nI k) 6 := vp_nI (by omega) (by decide)
        rw [hx, wX8_followingWord_L31, told, hS.follows]
        simp only [ls_k L hs, ls_r1 L hs, ls_k1 L hs, ls_l1 L hs, ls_r3 L hs, ls_k3 L hs, ls_l3 L hs, ls_r6 L hs, ls_k6 L hs, ls_l6 L hs, ls_r7 L hs, ls_k7 L hs, ls_l7 L hs, ls_r8 L hs, ls_k8 L hs, ls_l8 L hs, ls_r9 L hs, ls_k9 L hs, ls_l9 L hs, ls_r11 L hs, ls_k11 L hs, ls_l11 L hs, ls_r15 L hs, ls_k15 L hs, ls_l15 L hs, ls_r16 L hs, ls_k16 L hs, ls_l16 L hs, ls_r17 L hs, ls_k17 L hs, ls_l17 L hs, ls_r19 L hs, ls_k19 L hs, ls_l19 L hs, nI_cl (show k < 2 ^ 31 by omega), e1, e2, true_and]
        refine ⟨lk20 L, fun hh => absurd hh (nI_ge (by omega) (by omega)), fun _ => ⟨v1, v1, sp_truthWord L (by omega) (by omega) (by omega) ?_⟩⟩
        simp only [told, ls_k L hs, ls_r1 L hs, ls_k1 L hs, ls_l1 L hs, ls_r3 L hs, ls_k3 L hs, ls_l3 L hs, ls_r6 L hs, ls_k6 L hs, ls_l6 L hs, ls_r7 L hs, ls_k7 L hs, ls_l7 L hs, ls_r8 L hs, ls_k8 L hs, ls_l8 L hs, ls_r9 L hs, ls_k9 L hs, ls_l9 L hs, ls_r11 L hs, ls_k11 L hs, ls_l11 L hs, ls_r15 L hs, ls_k15 L hs, ls_l15 L hs, ls_r16 L hs, ls_k16 L hs, ls_l16 L hs, ls_r17 L hs, ls_k17 L hs, ls_l17 L hs, ls_r19 L hs, ls_k19 L hs, ls_l19 L hs, nI_cl (show k < 2 ^ 31 by omega), e3, e4, true_and]
        refine ⟨v1, v1, sp_truthWord L (by omega) (by omega) (by omega) (fun x20 h20 => ih (k + 1) (by omega) _ _ (fun i hi => ?_) (nI_1 k))⟩
        rw [h20, bw_and, Bool.and_eq_true, g i hi, bw_or, bw_not _ hi, Bool.or_eq_true, tr _ b3 _ (by omega) W (by omega) i hi]
        have ee : (!bw (gJ m 34 ((cIt S k * 4 + cIa S k) * 64 + W)) i) = true ↔ ¬ (64 * W + i < cnt S ∧ ans S (64 * W + i) (cIt S k) = cIa S k) := by
          rw [← tr _ b1 _ (by omega) W (by omega) i hi]
          cases bw (gJ m 34 ((cIt S k * 4 + cIa S k) * 64 + W)) i <;> simp
        rw [ee]
        constructor
        · rintro ⟨⟨q1, q2⟩, q3⟩
          refine ⟨q1, fun j hj h1 => ?_⟩
          rcases (show j < k ∨ j = k by omega) with u | u
          · exact q2 j u h1
          · subst u
            rcases q3 with q | q
            · exact absurd ⟨q1, h1⟩ q
            · exact q.2
        · rintro ⟨q1, q2⟩
          refine ⟨⟨q1, fun j hj => q2 j (by omega)⟩, ?_⟩
          by_cases z : ans S (64 * W + i) (cIt S k) = cIa S k
          · exact Or.inr ⟨q1, q2 k (by omega) z⟩
          · exact Or.inl (fun q => z q.2)
    exact key (cF S) 0 (by omega) y0 0 (fun i hi => by rw [h0 i hi]; exact ⟨fun q => ⟨q, fun j hj => absurd hj (by omega)⟩, fun q => q.1⟩) rfl
  rw [hx2]
  refine ⟨fun hlt => main _ (fun i hi => ?_), fun hge => main _ (fun i hi => ?_)⟩
  · have := (nI_ltI (b := 64) (by omega) (by decide)).mp hlt
    rw [bw_ones this hi, decide_eq_true_eq]
    omega
  · have : ¬ cnt S - 64 * W < 64 := fun q => hge ((nI_ltI (b := 64) (by omega) (by decide)).mpr q)
    rw [bw_m1 hi]
    simp only [true_iff]
    omega
set_option maxHeartbeats 1000000 in
theorem sp_build (L : Lay t m) (hs : isSch s) (v : Vs S) (hS : SchM m s S) {Q : zM → Prop} (hQ : ∀ m', Fr [20, 33, 34, 35] (pR m 20 0 s) m' → WayM m' S → Q m') : wX8_build t m 20 s Q := by
  have w64 := wds_le v
  have c4 := v.cnt
  have t8 := v.t8
  have t1 := v.t1
  have L0 : Lay t (pR m 20 0 s) := L.pR 20 0 (by decide)
  have told0 : gR (pR m 20 0 s) 20 0 = s := by simp [gRR]
  have S0 : SchM (pR m 20 0 s) s S := hS
  have c0 : gI (pR m 20 0 s) s 2 = nI (cnt S) := hS.count
  have mn : (if (4096 : Int32) < (gI m s 2) then (4096 : Int32) else (gI m s 2)) = nI (cnt S) := by
    rw [hS.count, show (4096 : Int32) = nI 4096 from rfl, if_neg]
    exact nI_nlt c4 (by decide)
  unfold wX8_build
  rw [mn]
  generalize pR m 20 0 s = m0 at L0 told0 S0 hQ
  have f0 : Fr [20, 33, 34, 35] m0 (pI (pI m0 20 1 (nI (cnt S))) 20 2 ((gI (pI m0 20 1 (nI (cnt S))) 20 1 + (63 : Int32)) / 64)) := Fr.pI (Fr.pI Fr.rf (by decide)) (by decide)
  have e1 : gI (pI (pI m0 20 1 (nI (cnt S))) 20 2 ((gI (pI m0 20 1 (nI (cnt S))) 20 1 + (63 : Int32)) / 64)) 20 1 = nI (cnt S) := by simp (config := { decide := true }) only [gII, if_true, if_false, and_self, and_false]
  have e2 : gI (pI (pI m0 20 1 (nI (cnt S))) 20 2 ((gI (pI m0 20 1 (nI (cnt S))) 20 1 + (63 : Int32)) / 64)) 20 2 = nI (wds S) := by
    simp (config := { decide := true }) only [gII, if_true, and_self]
    rw [show (63 : Int32) = nI 63 from rfl, nI_add, show (64 : Int32) = nI 64 from rfl, pk_div (by omega) (by decide) (by decide)]
    rfl
  generalize pI (pI m0 20 1 (nI (cnt S))) 20 2 ((gI (pI m0 20 1 (nI (cnt S))) 20 1 + (63 : Int32)) / 64) = m1 at f0 e1 e2
  have oT : ∀ {T : List Nat}, (∀ a, a ∈ T → a = 20 ∨ 33 ≤ a ∧ a ≤ 35) → ∀ j, j ≤ 11 → s + j ∉ T := by
    intro T hT j hj q
    have := hT _ q
    unfold isSch at hs
    omega
  have L1 := L0.fr f0
  rw [lr20_4 L0]
  refine ⟨lk20 L, ls_k L hs, sp_fillJ (lk34 L) (ll34 L) (by decide) (fun m2 f2 g2 => ?_)⟩
  have F2 : Fr [20, 33, 34, 35] m0 m2 := f0.tr (f2.mono (by decide))
  have L2 := L0.fr F2
  have told2 : gR m2 20 0 = s := (F2.2 _ _).trans told0
  have S2 := S0.fr F2 (oT (by decide))
  rw [told2, S2.things]
  refine ⟨ls_k L hs, fun x6 hx6 => ⟨cT S + 1, ?_⟩⟩
  rw [show (1 : Int32) = nI 1 from rfl, pk_sub t1] at hx6
  have key : ∀ d : Nat, d ≤ cT S → ∀ m3, Fr [33, 34] m2 m3 → (∀ k, d ≤ k → k < cT S → gI m3 33 k = nI (wgt S k)) → (∀ k, k < 2048 → ∀ i, i < 64 → (bw (gJ m3 34 k) i = true ↔ d ≤ k / 256 ∧ k / 256 < cT S ∧ 64 * (k % 64) + i < cnt S ∧ k / 64 % 4 = ans S (64 * (k % 64) + i) (k / 256))) → ∀ x y : Int32, (∀ e, d = e + 1 → x = nI e ∧ y = nI (wgt S e)) → (d = 0 → x = -1) → wX8_build_L53 t 20 Q (fun m17 => ∃ n25, wX8_build_L89 t 20 Q (fun m24 => Q m24) n25 0 m17) (d + 1) y x m3 := by
    intro d
    induction d with
    | zero =>
      intro hd m3 f3 g3 h3 x y hx hx0
      rw [wX8_build_L53, hx0 rfl]
      refine ⟨fun _ => ⟨wds S + 1, ?_⟩, fun hh => absurd (by decide) hh⟩
      have F3 : Fr [20, 33, 34, 35] m0 m3 := F2.tr (f3.mono (by decide))
      have L3 := L0.fr F3
      have told3 : gR m3 20 0 = s := (F3.2 _ _).trans told0
      have S3 := S0.fr F3 (oT (by decide))
      have c3 : gI m3 20 1 = nI (cnt S) := by rw [f3.I (by decide), f2.I (by decide)]; exact e1
      have w3 : gI m3 20 2 = nI (wds S) := by rw [f3.I (by decide), f2.I (by decide)]; exact e2
      have tr3 : ∀ t, t < cT S → ∀ a, a < 4 → ∀ W, W < 64 → ∀ i, i < 64 → (bw (gJ m3 34 ((t * 4 + a) * 64 + W)) i = true ↔ 64 * W + i < cnt S ∧ ans S (64 * W + i) t = a) := by
        intro tt htt a ha W hW i hi
        rw [h3 _ (by omega) i hi, show ((tt * 4 + a) * 64 + W) / 256 = tt by omega, show ((tt * 4 + a) * 64 + W) % 64 = W by omega, show ((tt * 4 + a) * 64 + W) / 64 % 4 = a by omega]
        constructor
        · rintro ⟨_, _, q1, q2⟩; exact ⟨q1, q2.symm⟩
        · rintro ⟨q1, q2⟩; exact ⟨by omega, htt, q1, q2.symm⟩
      have key2 : ∀ d W : Nat, W + d = wds S → ∀ m4, Fr [35] m3 m4 → (∀ W', W' < W → ∀ i, i < 64 → (bw (gJ m4 35 W') i = true ↔ 64 * W' + i < cnt S ∧ Fol S (64 * W' + i))) → ∀ x : Int32, x = nI W → wX8_build_L89 t 20 Q (fun m24 => Q m24) (d + 1) x m4 := by
        intro d
        induction d with
        | zero =>
          intro W hW m4 f4 g4 x hx
          have e : W = wds S := by omega
          subst e
          rw [hx, wX8_build_L89, f4.I (by decide), w3]
          refine ⟨lk20 L, fun _ => hQ m4 (F3.tr (f4.mono (by decide))) ⟨(f4.I (by decide) _).trans c3, (f4.I (by decide) _).trans w3, fun k hk => (f4.I (by decide) _).trans (g3 k (by omega) hk), fun tt htt a ha W hW i hi => by rw [f4.J (by decide)]; exact tr3 tt htt a ha W hW i hi, g4⟩, fun hh => absurd (nI_le (Nat.le_refl _) (by omega)) hh⟩
        | succ d ih =>
          intro W hW m4 f4 g4 x hx
          have L4 := L3.fr f4
          rw [hx, wX8_build_L89, f4.I (by decide), w3, lr20_5 L4, lk35 L, ll35 L, nI_cl (show W < 2 ^ 31 by omega)]
          refine ⟨lk20 L, fun hh => absurd hh (nI_ge (by omega) (by omega)), fun _ => sp_followingWord L4 hs v ((f4.2 _ _).trans told3) (S3.fr f4 (oT (by decide))) ((f4.I (by decide) _).trans c3) (fun tt htt a ha W hW i hi => by rw [f4.J (by decide)]; exact tr3 tt htt a ha W hW i hi) (show W < wds S by omega) (fun y hy => ⟨rfl, vp_nI (by omega) (by decide), ih (W + 1) (by omega) _ (Fr.pJ f4 (by decide)) (fun W' hW' i hi => ?_) _ (nI_1 W)⟩)⟩
          by_cases z : W' = W
          · subst z
            simp only [gJJ, and_self, if_true]
            exact hy i hi
          · simp only [gJJ, z, and_false, if_false]
            exact g4 W' (by omega) i hi
      exact key2 (wds S) 0 (by omega) m3 Fr.rf (fun W' h => absurd h (by omega)) 0 rfl
    | succ d ih =>
      intro hd m3 f3 g3 h3 x y hx _
      obtain ⟨hx, hy⟩ := hx d rfl
      have F3 : Fr [20, 33, 34, 35] m0 m3 := F2.tr (f3.mono (by decide))
      have L3 := L0.fr F3
      have wl := wgt_le v (show d < cT S by omega)
      rw [hx, hy, wX8_build_L53, lr20_3 L3, lk33 L, ll33 L, nI_cl (show d < 2 ^ 31 by omega)]
      refine ⟨fun hh => absurd hh (nI_pos (by omega)), fun _ => ⟨lk20 L, rfl, vp_nI (by omega) (by decide), ?_⟩⟩
      have fp : Fr [33, 34] m2 (pI m3 33 d (nI (wgt S d))) := Fr.pI f3 (by decide)
      have Fp : Fr [20, 33, 34, 35] m0 (pI m3 33 d (nI (wgt S d))) := F2.tr (fp.mono (by decide))
      have Lp := L0.fr Fp
      have toldp : gR (pI m3 33 d (nI (wgt S d))) 20 0 = s := (Fp.2 _ _).trans told0
      have Sp := S0.fr Fp (oT (by decide))
      have cp : gI (pI m3 33 d (nI (wgt S d))) 20 1 = nI (cnt S) := by rw [fp.I (by decide), f2.I (by decide)]; exact e1
      refine sp_spread Lp hs v toldp cp (show d < cT S by omega) (Sp.answers d (by omega)) (by simp only [gII, and_self, if_true]) (fun m5 f5 g5 => ?_)
      have told5 : gR m5 20 0 = s := (f5.2 _ _).trans toldp
      have F5 : Fr [20, 33, 34, 35] m0 m5 := Fp.tr (f5.mono (by decide))
      have L5 := L0.fr F5
      have S5 := S0.fr F5 (oT (by decide))
      rw [told5, ls_r1 L5 hs, ls_k1 L hs, ls_l1 L hs, S5.answers d (by omega)]
      refine ⟨ls_k L hs, rfl, vp_nI (by omega) (by decide), fun x16 hx16 => ih (by omega) m5 (fp.tr (f5.mono (by decide))) (fun k hk1 hk2 => ?_) (fun k hk i hi => ?_) _ _ (fun e he => ?_) (fun he => ?_)⟩
      · rw [f5.I (by decide)]
        by_cases z : k = d
        · subst z; simp only [gII, and_self, if_true]
        · simp only [gII, z, and_false, if_false]; exact g3 k (by omega) hk2
      · rw [g5 k hk i hi, gJI, h3 k hk i hi]
        have a4 := ans_4 v (w := 64 * (k % 64) + i) (show d < cT S by omega)
        constructor
        · rintro (⟨q1, q2, q3, q4⟩ | ⟨q1, q2⟩)
          · exact ⟨by omega, q2, q3, q4⟩
          · have kd : k / 256 = d := by omega
            rw [kd]
            exact ⟨by omega, by omega, q1, by omega⟩
        · rintro ⟨q1, q2, q3, q4⟩
          by_cases z : k / 256 = d
          · right
            rw [z] at q4
            exact ⟨q3, by omega⟩
          · left
            exact ⟨by omega, q2, q3, q4⟩
      · subst he
        refine ⟨pk_m1 e, ?_⟩
        rw [hx16, pk_mul, wgt_up (tt := e) (by omega), Nat.mul_comm]
      · subst he; rfl
  refine key (cT S) (Nat.le_refl _) m2 Fr.rf (fun k h1 h2 => absurd h1 (by omega)) (fun k hk i hi => ?_) x6 1 (fun e he => ?_) (fun h => by omega)
  · rw [g2 k hk, bw_0]
    constructor
    · intro q; cases q
    · rintro ⟨q1, q2, _⟩; omega
  · rw [hx6]
    refine ⟨congrArg nI (by omega), ?_⟩
    rcases wgt_last (S := S) with q | q
    · rw [show e = cT S - 1 by omega, q]; rfl
    · omega
end
