/-! TwoMasters.Row -/
/-- how many bits of the first n words of a long array are set -/
def cw (m : zM) (b n : Nat) : Nat := fb_sm (fun w => wpop (gJ m b w)) n
theorem cw_le (m : zM) (b n : Nat) : cw m b n ≤ n * 64 := fb_sm_bound (fun k _ => wpop_le _)
section
variable {t : zT} {m : zM} {a b n : Nat} {Q : zM → Prop}
theorem sp_recount_L (hK : tK t a = 4) (hb : gR m a 0 = b) (hKb : tK t b = 15) (hLb : tL t b = 64) (hw : gI m a 1 = nI n) (hn : n ≤ 64) (hQ : Q (pI m a 2 (nI (cw m b n)))) : ∀ d i : Nat, i + d = n → wX4_recount_L7 t a Q Q (d + 1) (nI i) (pI m a 2 (nI (cw m b i))) := by
  intro d
  induction d with
  | zero =>
    intro i hi
    have hi : i = n := by omega
    subst hi
    simp only [wX4_recount_L7, gII, gRI, gJI]
    refine ⟨hK, fun _ => hQ, fun h => absurd ?_ h⟩
    rw [if_neg (by omega), hw]
    exact nI_le (Nat.le_refl _) (by omega)
  | succ d ih =>
    intro i hi
    rw [wX4_recount_L7]
    simp only [gII, gRI, gJI]
    refine ⟨hK, fun h => ?_, fun _ => ⟨by rw [hb]; exact hKb, by rw [hb, hLb]; exact vp_nI (by omega) (by omega), ?_⟩⟩
    · rw [if_neg (by omega), hw] at h
      exact absurd h (nI_ge (by omega) (by omega))
    · apply sp_bc64
      simp only [and_self, if_true]
      rw [pI_pI, hb, nI_add, nI_1, nI_cl (by omega)]
      exact ih (i + 1) (by omega)
/-- recount: members becomes how many bits are set -/
theorem sp_recount (hK : tK t a = 4) (hb : gR m a 0 = b) (hKb : tK t b = 15) (hLb : tL t b = 64) (hw : gI m a 1 = nI n) (hn : n ≤ 64) (hQ : Q (pI m a 2 (nI (cw m b n)))) : wX4_recount t m a Q := by
  unfold wX4_recount
  exact ⟨hK, n + 1, sp_recount_L hK hb hKb hLb hw hn hQ n 0 (by omega)⟩
end
theorem ushrL_bit (x : Int64) {k : Nat} (hk : k < 64) : (((x.toUInt64 >>> ((nI k).toInt64.toUInt64 &&& Int64.toUInt64 63)).toInt64 &&& 1) = 0) ↔ bw x k = false := by
  rw [uN_bit, uN_sk x hk, bw, Nat.testBit_eq_decide_div_mod_eq]
  simp
section
variable {t : zT} {m : zM} {a b n : Nat} {Q : Int32 → zM → Prop}
/-- has: whether a bit is set -/
theorem sp_has {w : Nat} (hK : tK t a = 4) (hb : gR m a 0 = b) (hKb : tK t b = 15) (hLb : tL t b = 64) (hw : w < 4096) (hQ : Q (if bw (gJ m b (w / 64)) (w % 64) then 1 else 0) m) : wX4_has t m a (nI w) Q := by
  unfold wX4_has
  have e1 : nI w >>> ((6 : Int32) &&& 31) = nI (w / 64) := pk_shrN (by omega) _ 6 (by decide)
  have e2 : nI w &&& (63 : Int32) = nI (w % 64) := pk_andN (by omega) 6 (by decide)
  simp only [e1, e2, hb]
  refine ⟨hK, hKb, by rw [hLb]; exact vp_nI (by omega) (by omega), ?_⟩
  rw [nI_cl (by omega)]
  have hz := ushrL_bit (gJ m b (w / 64)) (k := w % 64) (by omega)
  rw [lg_cmp_eq]
  refine ⟨fun h => ?_, fun h => ?_⟩
  · rw [hz.mp h] at hQ; exact hQ
  · cases hbw : bw (gJ m b (w / 64)) (w % 64) with
    | false => exact absurd (hz.mpr hbw) h
    | true => rw [hbw] at hQ; exact hQ
end
section
variable {t : zT} {m : zM} {Q : Int32 → zM → Prop}
theorem uN_neg (x : Int64) (h : 0 < uN x) : uN (-x) = 2 ^ 64 - uN x := by
  show (-x.toUInt64).toNat = _
  have h1 : x.toUInt64.toNat < 18446744073709551616 := uN_lt x
  have h0 : 0 < x.toUInt64.toNat := h
  have h3 : (-x.toUInt64).toNat = (2 ^ 64 - x.toUInt64.toNat) % 2 ^ 64 := by
    first | exact UInt64.toNat_neg _ | simp [UInt64.toNat_neg]
  rw [h3]
  show _ = 2 ^ 64 - x.toUInt64.toNat
  rw [Nat.mod_eq_of_lt (by omega)]
/-- the lowest bit that is set -/
theorem sp_lowestBit {x : Int64} {k : Nat} (hk : k < 64) (hb : bw x k = true) (hlo : ∀ i, i < k → bw x i = false) (hQ : Q (nI k) m) : wX4_lowestBit t m x Q := by
  unfold wX4_lowestBit
  apply sp_bc64
  have hpos : 0 < uN x := by
    rcases Nat.eq_zero_or_pos (uN x) with h | h
    · rw [bw, h, Nat.zero_testBit] at hb; cases hb
    · exact h
  obtain ⟨k', q, hk', e⟩ := lb_split 64 (uN x) hpos (uN_lt x)
  have hkk : k' = k := by
    rcases Nat.lt_trichotomy k' k with h | h | h
    · have := hlo k' h
      rw [bw, e, lb_test] at this
      simp at this
    · exact h
    · rw [bw, e, lb_test] at hb
      simp [h] at hb
  subst hkk
  have e1 : uN ((x &&& -x) - 1) = 2 ^ k' - 1 := by
    have e2 : uN (x &&& -x) = 2 ^ k' := by
      rw [uN_and, uN_neg x hpos, e]
      exact lb_neg hk (by rw [← e]; exact uN_lt x)
    rw [uN_sub (by rw [e2, uN_1]; exact Nat.two_pow_pos k'), e2, uN_1]
  have e3 : wpop ((x &&& -x) - 1) = k' := by
    unfold wpop
    have : fb_ct (bw ((x &&& -x) - 1)) 64 = fb_ct (fun i => decide (i < k')) 64 := by
      apply fb_ct_cong
      intro i _
      rw [bw, e1, Nat.testBit_two_pow_sub_one]
    rw [this, show (64 : Nat) = k' + (64 - k') from by omega, fb_ct_split]
    have h1 : fb_ct (fun i => decide (i < k')) k' = k' := fb_ct_all.mpr (fun i hi => decide_eq_true hi)
    have h2 : fb_ct (fun j => decide (k' + j < k')) (64 - k') = 0 := fb_ct_zero.mpr (fun i _ => decide_eq_false (by omega))
    omega
  rw [e3]
  exact hQ
/-- the word without its lowest bit -/
theorem clr_low {x : Int64} {k : Nat} (hk : k < 64) (hb : bw x k = true) (hlo : ∀ i, i < k → bw x i = false) (i : Nat) : bw (x &&& (x - 1)) i = (bw x i && decide (i ≠ k)) := by
  have hpos : 0 < uN x := by
    rcases Nat.eq_zero_or_pos (uN x) with h | h
    · rw [bw, h, Nat.zero_testBit] at hb; cases hb
    · exact h
  obtain ⟨k', q, hk', e⟩ := lb_split 64 (uN x) hpos (uN_lt x)
  have hkk : k' = k := by
    rcases Nat.lt_trichotomy k' k with h | h | h
    · have := hlo k' h
      rw [bw, e, lb_test] at this
      simp at this
    · exact h
    · rw [bw, e, lb_test] at hb
      simp [h] at hb
  subst hkk
  have e2 : uN (x &&& (x - 1)) = 2 ^ k' * (2 * q) := by
    rw [uN_and, uN_sub (by rw [uN_1]; exact hpos), uN_1, e]
    exact lb_pred
  have e3 : (2 ^ k' * (2 * q)).testBit i = ((2 ^ k' * (1 + 2 * q)).testBit i && decide (i ≠ k')) := by
    rw [lb_test, Nat.testBit_two_pow_mul]
    by_cases h : i < k'
    · simp [h]; intro; omega
    · by_cases h2 : i = k'
      · subst h2; simp [Nat.testBit_zero]
      · obtain ⟨j, hj⟩ : ∃ j, i - k' = j + 1 := ⟨i - k' - 1, by omega⟩
        simp only [h, h2, if_false, ne_eq, not_false_eq_true, decide_true, Bool.and_true]
        rw [hj, Nat.testBit_succ, show 2 * q / 2 = q from by omega]
        simp; omega
  rw [bw, e2, e3, ← e]
  rfl
theorem low_ex {x : Int64} {n : Nat} (h : n < fb_ct (bw x) 64) : ∃ k, k < 64 ∧ bw x k = true ∧ ∀ i, i < k → bw x i = false := by
  have h0 : 0 < fb_ct (bw x) 64 := by omega
  obtain ⟨k, hk, hb⟩ := fb_ct_pos.mp h0
  obtain ⟨i, h1, h2, h3⟩ := fb_first (p := fun i => bw x i = true) ⟨k, hk, hb⟩
  exact ⟨i, h1, h2, fun j hj => by cases hx : bw x j with
    | false => rfl
    | true => exact absurd hx (h3 j hj)⟩
/-- the count below a place, without the lowest bit -/
theorem clr_ct {x : Int64} {k j : Nat} (hk : k < 64) (hb : bw x k = true) (hlo : ∀ i, i < k → bw x i = false) (hj : k < j) : fb_ct (bw x) j = fb_ct (bw (x &&& (x - 1))) j + 1 := by
  have h1 : fb_ct (bw (x &&& (x - 1))) j = fb_ct (fun i => if i = k then false else bw x i) j := by
    apply fb_ct_cong
    intro i _
    rw [clr_low hk hb hlo]
    by_cases h : i = k <;> simp [h]
  have h2 := fb_ct_upd (bw x) false (i := k) (n := j) hj
  rw [hb, if_pos rfl, if_neg (by decide)] at h2
  rw [h1]; omega
/-- the i-th bit that is set -/
theorem sp_bitAt_L {k : Int64 → zM → Prop} {n : Nat} (hn : n < 2 ^ 31) {Q' : Int32 → zM → Prop} {j : Nat} (hj : j < 64) : ∀ (d i : Nat) (x : Int64), i + d = n → bw x j = true → fb_ct (bw x) j = d → (∀ y : Int64, bw y j = true → (∀ l, l < j → bw y l = false) → k y m) → wX4_bitAt_L5 t (nI n) Q' k (d + 1) x (nI i) m := by
  intro d
  induction d with
  | zero =>
    intro i x hi hb hc hk
    rw [wX4_bitAt_L5]
    refine ⟨fun _ => hk x hb (fb_ct_zero.mp hc), fun h => absurd (nI_le (by omega) (by omega)) h⟩
  | succ d ih =>
    intro i x hi hb hc hk
    rw [wX4_bitAt_L5]
    refine ⟨fun h => absurd h (nI_ge (by omega) (by omega)), fun _ x2 h2 => ?_⟩
    obtain ⟨lo, l1, l2, l3⟩ : ∃ lo, lo < j ∧ bw x lo = true ∧ ∀ i, i < lo → bw x i = false := by
      obtain ⟨i0, h1, h2, h3⟩ := fb_first (p := fun i => bw x i = true) (fb_ct_pos.mp (show 0 < fb_ct (bw x) j by omega))
      exact ⟨i0, h1, h2, fun q hq => by cases hx : bw x q with
        | false => rfl
        | true => exact absurd hx (h3 q hq)⟩
    rw [nI_1, h2]
    refine ih (i + 1) _ (by omega) ?_ ?_ hk
    · rw [clr_low (by omega) l2 l3, hb]; simp; omega
    · have := clr_ct (by omega) l2 l3 l1; omega
theorem sp_bitAt {x : Int64} {n j : Nat} (hn : n < 2 ^ 31) (hj : j < 64) (hb : bw x j = true) (hc : fb_ct (bw x) j = n) (hQ : Q (nI j) m) : wX4_bitAt t m x (nI n) Q := by
  unfold wX4_bitAt
  exact ⟨n + 1, sp_bitAt_L hn hj n 0 x (by omega) hb hc (fun y h1 h2 => sp_lowestBit hj h1 h2 hQ)⟩
end
/-- the bits of a long array, one behind another -/
def rb (m : zM) (b w : Nat) : Bool := bw (gJ m b (w / 64)) (w % 64)
theorem rb_ct (m : zM) (b : Nat) : ∀ n, fb_ct (rb m b) (64 * n) = cw m b n := by
  intro n
  induction n with
  | zero => rfl
  | succ n ih =>
    rw [show 64 * (n + 1) = 64 * n + 64 from by omega, fb_ct_split, ih]
    unfold cw
    rw [fb_sm_succ]
    congr 1
    unfold wpop
    apply fb_ct_cong
    intro i hi
    show rb m b (64 * n + i) = _
    rw [rb, show (64 * n + i) / 64 = n from by omega, show (64 * n + i) % 64 = i from by omega]
section
variable {t : zT} {m : zM} {a b n : Nat} {Q : Int32 → zM → Prop}
theorem sp_memberAt_L (hK : tK t a = 4) (hb : gR m a 0 = b) (hKb : tK t b = 15) (hLb : tL t b = 64) (hw : gI m a 1 = nI n) (hn : n ≤ 64) {k : zM → Prop} {j : Nat} (hj : j < 64 * n) (hbit : rb m b j = true) (hQ : Q (nI j) m) : ∀ (d w i : Nat), w + d = n → w ≤ j / 64 → fb_ct (rb m b) j = cw m b w + i → wX4_memberAt_L4 t a Q k (d + 1) (nI i) (nI w) m := by
  intro d
  induction d with
  | zero => intro w i h1 h2; omega
  | succ d ih =>
    intro w i h1 h2 h3
    rw [wX4_memberAt_L4]
    simp only [hb, hw]
    have hcl : fb_ct (rb m b) j ≤ j := fb_ct_le _ _
    refine ⟨hK, fun h => absurd h (nI_ge (by omega) (by omega)), fun _ => ⟨hKb, by rw [hLb]; exact vp_nI (by omega) (by omega), ?_⟩⟩
    apply sp_bc64
    rw [nI_cl (by omega)]
    have hpl := wpop_le (gJ m b w)
    refine ⟨fun h => ?_, fun h => ⟨by rw [hb]; exact hKb, by rw [hb, hLb]; exact vp_nI (by omega) (by omega), ?_⟩⟩
    · have hle : wpop (gJ m b w) ≤ i := (nI_leI (by omega) (by omega)).mp h
      rw [pk_sub hle, nI_1]
      refine ih (w + 1) _ (by omega) ?_ ?_
      · -- the word is passed
        rcases Nat.lt_or_ge w (j / 64) with q | q
        · exact q
        · exfalso
          have hwj : w = j / 64 := by omega
          -- then fewer than wpop bits lie before j in its word
          have e1 : fb_ct (rb m b) j = cw m b w + fb_ct (bw (gJ m b w)) (j % 64) := by
            have e2 : j = 64 * w + j % 64 := by omega
            conv => lhs; rw [e2]
            rw [fb_ct_split, rb_ct]
            congr 1
            apply fb_ct_cong
            intro i hi
            show rb m b (64 * w + i) = _
            rw [rb, show (64 * w + i) / 64 = w from by omega, show (64 * w + i) % 64 = i from by omega]
          have e3 : fb_ct (bw (gJ m b w)) (j % 64) + 1 ≤ wpop (gJ m b w) := by
            have e4 : bw (gJ m b w) (j % 64) = true := by rw [rb, ← hwj] at hbit; exact hbit
            have e5 := fb_ct_succ (bw (gJ m b w)) (j % 64)
            rw [e4] at e5
            have e6 := fb_ct_mono (bw (gJ m b w)) (show j % 64 + 1 ≤ 64 by omega)
            simp at e5
            unfold wpop
            omega
          omega
      · rw [h3, cw, cw, fb_sm_succ]; omega
    · have hlt : i < wpop (gJ m b w) := by
        rcases Nat.lt_or_ge i (wpop (gJ m b w)) with q | q
        · exact q
        · exact absurd (nI_le q (by omega)) h
      have hwj : w = j / 64 := by
        rcases Nat.lt_or_ge w (j / 64) with q | q
        · exfalso
          have e1 : cw m b (w + 1) ≤ fb_ct (rb m b) j := by
            rw [← rb_ct]
            exact fb_ct_mono _ (by omega)
          rw [cw, fb_sm_succ] at e1
          rw [h3, cw] at e1
          omega
        · omega
      rw [hb]
      refine sp_bitAt (j := j % 64) (by omega) (by omega) ?_ ?_ ?_
      · rw [rb, ← hwj] at hbit; exact hbit
      · have e1 : fb_ct (rb m b) j = cw m b w + fb_ct (bw (gJ m b w)) (j % 64) := by
          have e2 : j = 64 * w + j % 64 := by omega
          conv => lhs; rw [e2]
          rw [fb_ct_split, rb_ct]
          congr 1
          apply fb_ct_cong
          intro i hi
          show rb m b (64 * w + i) = _
          rw [rb, show (64 * w + i) / 64 = w from by omega, show (64 * w + i) % 64 = i from by omega]
        omega
      · rw [show (64 : Int32) = nI 64 from rfl, pk_mul, nI_add, show w * 64 + j % 64 = j from by omega]
        exact hQ
/-- memberAt: the i-th that is set -/
theorem sp_memberAt (hK : tK t a = 4) (hb : gR m a 0 = b) (hKb : tK t b = 15) (hLb : tL t b = 64) (hw : gI m a 1 = nI n) (hn : n ≤ 64) {i j : Nat} (hj : j < 64 * n) (hbit : rb m b j = true) (hc : fb_ct (rb m b) j = i) (hQ : Q (nI j) m) : wX4_memberAt t m a (nI i) Q := by
  unfold wX4_memberAt
  exact ⟨n + 1, sp_memberAt_L hK hb hKb hLb hw hn hj hbit hQ n 0 i (by omega) (by omega) (by rw [hc]; simp [cw, fb_sm])⟩
end
