/-! How a query ends; lowest -/
/-- what stands when both have answered a query -/
def Fin (m m2 : zM) (r1 r2 : Int32) : Prop := r1 = r2 ∧ ∃ m1, QF m m1 ∧ QR m1 m2 ∧ gI m2 1 14 = gI m2 75 1 ∧ gI m2 75 2 = -1 ∧ gI m2 1 14 ≠ 4
section
variable {t : zT} {m m' m1 m2 : zM} {s u : Nat} {S : Sc} {T : Ts} {P : Nat → Bool}
theorem QR.why (h : QR m1 m2) : gI m2 1 14 = gI m1 1 14 := h.1.I (by decide) _
theorem fin_refused (L : Lay t m) {w : Int32} (q1 : QF m m1) (hw : gI m1 1 14 = w) (q2 : QR m1 m2) (h4 : w ≠ 4) : wX12_refused t m2 75 w (fun r2 m3 => Fin m m3 (-1) r2) := by
  refine ⟨lk75 L, rfl, m1, q1, (q2.p (Or.inr (Or.inl rfl)) w).p (Or.inr (Or.inr (Or.inl rfl))) (-1), ?_, ?_, ?_⟩
  · simp (config := { decide := true }) only [gII, and_false, false_and, if_false, and_self, if_true]
    rw [q2.why, hw]
  · simp (config := { decide := true }) only [gII, and_self, if_true]
  · simp (config := { decide := true }) only [gII, and_false, false_and, if_false]
    rw [q2.why, hw]; exact h4
theorem fin_good (L : Lay t m) {v v2 : Int32} (e : v = v2) (q1 : QF m m1) (hw : gI m1 1 14 = 0) (q2 : QR m1 m2) : wX12_good t m2 75 v2 (fun r2 m3 => Fin m m3 v r2) := by
  refine ⟨lk75 L, e, m1, q1, (q2.p (Or.inr (Or.inl rfl)) 0).p (Or.inr (Or.inr (Or.inl rfl))) (-1), ?_, ?_, ?_⟩
  · simp (config := { decide := true }) only [gII, and_false, false_and, if_false, and_self, if_true]
    rw [q2.why, hw]
  · simp (config := { decide := true }) only [gII, and_self, if_true]
  · simp (config := { decide := true }) only [gII, and_false, false_and, if_false]
    rw [q2.why, hw]; decide
theorem w14 (m : zM) (v : Int32) : gI (pI m 1 14 v) 1 14 = v := by simp [gII]
theorem thr (m : zM) : QR m (pI m 75 0 0) := QR.rf.p (Or.inl rfl) 0
-- the greatest common divisor
theorem gcd_step {a b : Nat} (hb : 0 < b) : Nat.gcd b (a % b) = Nat.gcd a b := by rw [Nat.gcd_comm b, ← Nat.gcd_rec, Nat.gcd_comm]
theorem half_mod {b r : Nat} (hr : 0 < r) (h : r < b) : 2 * (b % r) < b := by
  have h1 := Nat.mod_lt b hr
  have h2 := Nat.div_add_mod b r
  have h3 : 1 ≤ b / r := Nat.div_pos (by omega) hr
  have h4 : r * 1 ≤ r * (b / r) := Nat.mul_le_mul_left r h3
  omega
theorem sp_lowest_L {x0 x1 x2 : Int32} {Q : Int32 → zM → Prop} {K : Int32 → zM → Prop} : ∀ (k a b st : Nat) (x y z : Int32), a < 2 ^ 31 → b < 2 ^ k → k ≤ 31 → st + 2 * k ≤ 64 → x = nI a → y = nI b → z = nI st → K (nI (Nat.gcd a b)) m → wX9_lowest_L8 t x0 x1 x2 Q K (2 * k + 1) x y z m := by
  intro k
  induction k with
  | zero =>
    intro a b st x y z ha hb hk hs hx hy hz hK
    have b0 : b = 0 := by omega
    subst b0
    rw [Nat.gcd_zero_right] at hK
    rw [hx, hy, hz, wX9_lowest_L8]
    exact ⟨fun _ => hK, fun _ => ⟨fun _ => hK, fun hh => absurd (by decide) hh⟩⟩
  | succ k ih =>
    intro a b st x y z ha hb hk hs hx hy hz hK
    have p31 : 2 ^ (k + 1) ≤ 2 ^ 31 := Nat.pow_le_pow_right (by decide) hk
    rw [hx, hy, hz, show 2 * (k + 1) + 1 = (2 * k + 2) + 1 by omega, wX9_lowest_L8]
    rcases Nat.eq_zero_or_pos b with b0 | b0
    · subst b0
      rw [Nat.gcd_zero_right] at hK
      exact ⟨fun _ => hK, fun _ => ⟨fun _ => hK, fun hh => absurd (by decide) hh⟩⟩
    · refine ⟨fun hh => absurd hh (nI_ge (b := 64) (by omega) (by decide)), fun _ => ⟨fun hh => absurd hh (nI_nle b0 (by omega)), fun _ => ⟨nI_ne0 b0 (by omega), fun x4 h4 => ?_⟩⟩⟩
      rw [pk_rem ha b0 (by omega)] at h4
      have rl := Nat.mod_lt a b0
      rw [show 2 * k + 2 = (2 * k + 1) + 1 by omega, wX9_lowest_L8, h4, nI_1]
      rw [← gcd_step b0] at hK
      rcases Nat.eq_zero_or_pos (a % b) with r0 | r0
      · rw [r0] at hK ⊢
        rw [Nat.gcd_zero_right] at hK
        exact ⟨fun _ => hK, fun _ => ⟨fun _ => hK, fun hh => absurd (by decide) hh⟩⟩
      · refine ⟨fun hh => absurd hh (nI_ge (b := 64) (by omega) (by decide)), fun _ => ⟨fun hh => absurd hh (nI_nle r0 (by omega)), fun _ => ⟨nI_ne0 r0 (by omega), fun x5 h5 => ?_⟩⟩⟩
        rw [pk_rem (by omega) r0 (by omega)] at h5
        rw [← gcd_step r0] at hK
        have hm := half_mod r0 rl
        exact ih (a % b) (b % (a % b)) (st + 2) _ _ _ (by omega) (by rw [Nat.pow_succ] at hb; omega) (by omega) (by omega) rfl h5 (nI_1 (st + 1)) hK
theorem sp_lowest {a b : Nat} {f : Int32} (ha : a < 2 ^ 31) (hb : b < 2 ^ 31) (b0 : 0 < b) {Q : Int32 → zM → Prop} (hQ : Q (nI ((if f = 0 then a else b) / Nat.gcd a b)) m) : wX9_lowest t m (nI a) (nI b) f Q := by
  unfold wX9_lowest
  have g0 : 0 < Nat.gcd a b := Nat.gcd_pos_of_pos_right a b0
  have gl : Nat.gcd a b ≤ b := Nat.gcd_le_right a b0
  refine ⟨2 * 31 + 1, sp_lowest_L 31 a b 0 _ _ _ ha hb (by decide) (by decide) rfl rfl rfl ?_⟩
  unfold wX9_lowest_J39 wX9_lowest_J48
  refine ⟨fun hf => ⟨fun hh => absurd hh (nI_nle g0 (by omega)), fun _ => ⟨nI_ne0 g0 (by omega), ?_⟩⟩, fun hf => ⟨fun hh => absurd hh (nI_nle g0 (by omega)), fun _ => ⟨nI_ne0 g0 (by omega), ?_⟩⟩⟩
  · rw [if_pos hf] at hQ
    rw [pk_div ha g0 (by omega)]; exact hQ
  · rw [if_neg hf] at hQ
    rw [pk_div hb g0 (by omega)]; exact hQ
theorem rsp_divisor_L {Q : Int64 → zM → Prop} {K : Int64 → zM → Prop} : ∀ (n a b : Nat) (x y : Int64), b ≤ n → a < 2 ^ 31 → b < 2 ^ 31 → x = lN a → y = lN b → K (lN (Nat.gcd a b)) m → wX12_divisor_L6 t Q K (n + 1) x y m := by
  intro n
  induction n with
  | zero =>
    intro a b x y hb ha hb2 hx hy hK
    have b0 : b = 0 := by omega
    subst b0
    rw [Nat.gcd_zero_right] at hK
    rw [hx, hy, wX12_divisor_L6, lgc0]
    exact ⟨fun _ => hK, fun hh => absurd rfl hh⟩
  | succ n ih =>
    intro a b x y hb ha hb2 hx hy hK
    rw [hx, hy, wX12_divisor_L6, lgc0]
    rcases Nat.eq_zero_or_pos b with b0 | b0
    · subst b0
      rw [Nat.gcd_zero_right] at hK
      exact ⟨fun _ => hK, fun hh => absurd rfl hh⟩
    · have ne : ¬ lN b = 0 := fun e => by
        have := (pk_lEQ (b := 0) (show b < 2 ^ 63 by omega) (by decide)).mp e
        omega
      refine ⟨fun hh => absurd hh ne, fun _ => ⟨ne, fun x3 h3 => ?_⟩⟩
      rw [pk_lRem (by omega) b0 (by omega)] at h3
      have := Nat.mod_lt a b0
      rw [← gcd_step b0] at hK
      exact ih b (a % b) _ _ (by omega) hb2 (by omega) rfl h3 hK
theorem lN_nI {n : Nat} (h : n < 2 ^ 31) : (lN n).toInt32 = nI n := by rw [← nI_l h]; exact Int32.toInt32_toInt64 _
theorem fin_lowest (L : Lay t m) {a b : Nat} {f : Int32} (ha : a < 2 ^ 31) (hb : b < 2 ^ 31) (b0 : 0 < b) (q1 : QF m m1) (hw : gI m1 1 14 = 0) (q2 : QR m1 m2) : wX12_lowest t m2 75 (lN a) (lN b) f (fun r2 m3 => Fin m m3 (nI ((if f = 0 then a else b) / Nat.gcd a b)) r2) := by
  have g0 : 0 < Nat.gcd a b := Nat.gcd_pos_of_pos_right a b0
  have gl : Nat.gcd a b ≤ b := Nat.gcd_le_right a b0
  have ne : ¬ lN (Nat.gcd a b) = 0 := fun e => by
    have := (pk_lEQ (b := 0) (show Nat.gcd a b < 2 ^ 63 by omega) (by decide)).mp e
    omega
  have dl : ∀ x, x < 2 ^ 31 → x / Nat.gcd a b < 2 ^ 31 := fun x hx => Nat.lt_of_le_of_lt (Nat.div_le_self _ _) hx
  unfold wX12_lowest wX12_lowest_J11 wX12_divisor
  refine ⟨fun hf => ⟨b + 1, rsp_divisor_L b a b _ _ (Nat.le_refl _) ha hb rfl rfl ⟨ne, lk75 L, fin_good L ?_ q1 hw q2⟩⟩, fun hf => ⟨b + 1, rsp_divisor_L b a b _ _ (Nat.le_refl _) ha hb rfl rfl ⟨ne, lk75 L, fin_good L ?_ q1 hw q2⟩⟩⟩
  · rw [if_pos hf, pk_lDiv (by omega) g0 (by omega), lN_nI (dl a ha)]
  · rw [if_neg hf, pk_lDiv (by omega) g0 (by omega), lN_nI (dl b hb)]
end
