/-! counting bits: the JDK's two bitCounts -/
theorem pc_land (s u v p q : Nat) (hu : u < 2 ^ s) (hp : p < 2 ^ s) : (u + 2 ^ s * v) &&& (p + 2 ^ s * q) = (u &&& p) + 2 ^ s * (v &&& q) := by
  have hup : u &&& p < 2 ^ s := Nat.lt_of_le_of_lt Nat.and_le_left hu
  apply Nat.eq_of_testBit_eq
  intro j
  rw [Nat.testBit_and, Nat.add_comm u, Nat.add_comm p, Nat.add_comm (u &&& p), Nat.testBit_two_pow_mul_add _ hu, Nat.testBit_two_pow_mul_add _ hp, Nat.testBit_two_pow_mul_add _ hup]
  split <;> simp [Nat.testBit_and]
def pc_N : Nat → Nat → Nat
  | 0, _ => 0
  | k + 1, n => n % 2 + pc_N k (n / 2)
def pc_S (B : Nat) : Nat → Nat → Nat
  | 0, _ => 0
  | k + 1, n => n % B + pc_S B k (n / B)
def pc_mA : Nat → Nat
  | 0 => 0
  | k + 1 => 1 + 2 ^ 2 * pc_mA k
def pc_mB : Nat → Nat
  | 0 => 0
  | k + 1 => 3 + 2 ^ 4 * pc_mB k
def pc_mC : Nat → Nat
  | 0 => 0
  | k + 1 => 15 + 2 ^ 8 * pc_mC k
theorem pc_stepA : ∀ (k n : Nat), n < 4 ^ k → (n / 2 &&& pc_mA k) ≤ n ∧ n - (n / 2 &&& pc_mA k) < 4 ^ k ∧ pc_S 4 k (n - (n / 2 &&& pc_mA k)) = pc_N (2 * k) n := by
  intro k
  induction k with
  | zero => intro n hn; have : n = 0 := by simpa using hn
            subst this; simp [pc_mA, pc_S, pc_N]
  | succ k ih =>
    intro n hn
    have hq : n / 4 < 4 ^ k := by rw [Nat.pow_succ] at hn; omega
    obtain ⟨i1, i2, i3⟩ := ih (n / 4) hq
    have e1 : n / 2 = (n % 4 / 2 + 2 * (n / 4 % 2)) + 2 ^ 2 * (n / 4 / 2) := by omega
    have e2 : (n / 2 &&& pc_mA (k + 1)) = n % 4 / 2 + 4 * (n / 4 / 2 &&& pc_mA k) := by
      rw [e1, pc_mA, pc_land 2 _ _ _ _ (by omega) (by decide)]
      have : (n % 4 / 2 + 2 * (n / 4 % 2)) &&& 1 = n % 4 / 2 := by rw [Nat.and_one_is_mod]; omega
      rw [this]
    rw [e2]
    have e3 : n - (n % 4 / 2 + 4 * (n / 4 / 2 &&& pc_mA k)) = (n % 2 + n / 2 % 2) + 4 * (n / 4 - (n / 4 / 2 &&& pc_mA k)) := by omega
    refine ⟨by omega, ?_, ?_⟩
    · rw [e3, Nat.pow_succ]; omega
    · rw [e3, pc_S]
      have e4 : (n % 2 + n / 2 % 2 + 4 * (n / 4 - (n / 4 / 2 &&& pc_mA k))) % 4 = n % 2 + n / 2 % 2 := by omega
      have e5 : (n % 2 + n / 2 % 2 + 4 * (n / 4 - (n / 4 / 2 &&& pc_mA k))) / 4 = n / 4 - (n / 4 / 2 &&& pc_mA k) := by omega
      rw [e4, e5, i3, show 2 * (k + 1) = 2 * k + 1 + 1 from by omega, pc_N, pc_N, Nat.div_div_eq_div_mul]
      simp only [Nat.reduceMul]
      omega
/-- every digit of base B is at most b -/
def pc_D (B b : Nat) : Nat → Nat → Prop
  | 0, _ => True
  | k + 1, n => n % B ≤ b ∧ pc_D B b k (n / B)
theorem pc_stepA_D : ∀ (k n : Nat), n < 4 ^ k → pc_D 4 2 k (n - (n / 2 &&& pc_mA k)) := by
  intro k
  induction k with
  | zero => intro n hn; trivial
  | succ k ih =>
    intro n hn
    have hq : n / 4 < 4 ^ k := by rw [Nat.pow_succ] at hn; omega
    have i1 := (pc_stepA k (n / 4) hq).1
    have e1 : n / 2 = (n % 4 / 2 + 2 * (n / 4 % 2)) + 2 ^ 2 * (n / 4 / 2) := by omega
    have e2 : (n / 2 &&& pc_mA (k + 1)) = n % 4 / 2 + 4 * (n / 4 / 2 &&& pc_mA k) := by
      rw [e1, pc_mA, pc_land 2 _ _ _ _ (by omega) (by decide)]
      have : (n % 4 / 2 + 2 * (n / 4 % 2)) &&& 1 = n % 4 / 2 := by rw [Nat.and_one_is_mod]; omega
      rw [this]
    rw [e2]
    have e3 : n - (n % 4 / 2 + 4 * (n / 4 / 2 &&& pc_mA k)) = (n % 2 + n / 2 % 2) + 4 * (n / 4 - (n / 4 / 2 &&& pc_mA k)) := by omega
    rw [e3]
    refine ⟨by omega, ?_⟩
    rw [show (n % 2 + n / 2 % 2 + 4 * (n / 4 - (n / 4 / 2 &&& pc_mA k))) / 4 = n / 4 - (n / 4 / 2 &&& pc_mA k) from by omega]
    exact ih _ hq
theorem pc_stepB : ∀ (k a : Nat), a < 16 ^ k → pc_D 4 2 (2 * k) a → (a &&& pc_mB k) + (a / 4 &&& pc_mB k) < 16 ^ k ∧ pc_S 16 k ((a &&& pc_mB k) + (a / 4 &&& pc_mB k)) = pc_S 4 (2 * k) a ∧ pc_D 16 4 k ((a &&& pc_mB k) + (a / 4 &&& pc_mB k)) := by
  intro k
  induction k with
  | zero => intro a ha _; have : a = 0 := by simpa using ha
            subst this; simp [pc_mB, pc_S, pc_D]
  | succ k ih =>
    intro a ha hD
    rw [show 2 * (k + 1) = 2 * k + 1 + 1 from by omega] at hD ⊢
    obtain ⟨d1, d2, d3⟩ := hD
    rw [Nat.div_div_eq_div_mul] at d3
    simp only [Nat.reduceMul] at d3
    have hq : a / 16 < 16 ^ k := by rw [Nat.pow_succ] at ha; omega
    obtain ⟨i1, i2, i3⟩ := ih (a / 16) hq d3
    have e1 : (a &&& pc_mB (k + 1)) = a % 4 + 16 * (a / 16 &&& pc_mB k) := by
      have : a = a % 16 + 2 ^ 4 * (a / 16) := by omega
      conv => lhs; rw [this]
      rw [pc_mB, pc_land 4 _ _ _ _ (by omega) (by decide), show (3 : Nat) = 2 ^ 2 - 1 from rfl, Nat.and_two_pow_sub_one_eq_mod]
      omega
    have e2 : (a / 4 &&& pc_mB (k + 1)) = a / 4 % 4 + 16 * (a / 16 / 4 &&& pc_mB k) := by
      have : a / 4 = (a % 16 / 4 + 4 * (a / 16 % 4)) + 2 ^ 4 * (a / 16 / 4) := by omega
      conv => lhs; rw [this]
      rw [pc_mB, pc_land 4 _ _ _ _ (by omega) (by decide), show (3 : Nat) = 2 ^ 2 - 1 from rfl, Nat.and_two_pow_sub_one_eq_mod]
      omega
    rw [e1, e2]
    generalize (a / 16 &&& pc_mB k) = X at i1 i2 i3 ⊢
    generalize (a / 16 / 4 &&& pc_mB k) = Z at i1 i2 i3 ⊢
    have f1 : (a % 4 + 16 * X + (a / 4 % 4 + 16 * Z)) % 16 = a % 4 + a / 4 % 4 := by omega
    have f2 : (a % 4 + 16 * X + (a / 4 % 4 + 16 * Z)) / 16 = X + Z := by omega
    refine ⟨by rw [Nat.pow_succ]; omega, ?_, ?_⟩
    · rw [pc_S, f1, f2, i2, pc_S, pc_S, Nat.div_div_eq_div_mul]
      simp only [Nat.reduceMul]
      omega
    · refine ⟨by rw [f1]; omega, ?_⟩
      rw [f2]; exact i3
theorem pc_stepC : ∀ (k b : Nat), b < 256 ^ k → pc_D 16 4 (2 * k) b → ((b + b / 16) &&& pc_mC k) < 256 ^ k ∧ pc_S 256 k ((b + b / 16) &&& pc_mC k) = pc_S 16 (2 * k) b ∧ pc_D 256 8 k ((b + b / 16) &&& pc_mC k) := by
  intro k
  induction k with
  | zero => intro a ha _; have : a = 0 := by simpa using ha
            subst this; simp [pc_mC, pc_S, pc_D]
  | succ k ih =>
    intro b hb hD
    rw [show 2 * (k + 1) = 2 * k + 1 + 1 from by omega] at hD ⊢
    obtain ⟨d1, d2, d3⟩ := hD
    rw [Nat.div_div_eq_div_mul] at d3
    simp only [Nat.reduceMul] at d3
    have hq : b / 256 < 256 ^ k := by rw [Nat.pow_succ] at hb; omega
    obtain ⟨i1, i2, i3⟩ := ih (b / 256) hq d3
    have hn : b / 256 % 16 ≤ 4 := by
      cases k with
      | zero => have : b / 256 = 0 := by simpa using hq
                rw [this]; decide
      | succ k => exact d3.1
    have e1 : ((b + b / 16) &&& pc_mC (k + 1)) = (b % 16 + b / 16 % 16) + 256 * ((b / 256 + b / 256 / 16) &&& pc_mC k) := by
      have : b + b / 16 = ((b % 16 + b / 16 % 16) + 16 * (b / 16 % 16 + b / 256 % 16)) + 2 ^ 8 * (b / 256 + b / 256 / 16) := by omega
      rw [this, pc_mC, pc_land 8 _ _ _ _ (by omega) (by decide), show (15 : Nat) = 2 ^ 4 - 1 from rfl, Nat.and_two_pow_sub_one_eq_mod]
      omega
    rw [e1]
    generalize ((b / 256 + b / 256 / 16) &&& pc_mC k) = X at i1 i2 i3 ⊢
    have f1 : (b % 16 + b / 16 % 16 + 256 * X) % 256 = b % 16 + b / 16 % 16 := by omega
    have f2 : (b % 16 + b / 16 % 16 + 256 * X) / 256 = X := by omega
    refine ⟨by rw [Nat.pow_succ]; omega, ?_, ?_⟩
    · rw [pc_S, f1, f2, i2, pc_S, pc_S, Nat.div_div_eq_div_mul]
      simp only [Nat.reduceMul]
      omega
    · refine ⟨by rw [f1]; omega, ?_⟩
      rw [f2]; exact i3
theorem pc_mA32 : pc_mA 32 = 6148914691236517205 := by decide +kernel
theorem pc_mB16 : pc_mB 16 = 3689348814741910323 := by decide +kernel
theorem pc_mC8 : pc_mC 8 = 1085102592571150095 := by decide +kernel
theorem pc_mA16 : pc_mA 16 = 1431655765 := by decide +kernel
theorem pc_mB8 : pc_mB 8 = 858993459 := by decide +kernel
theorem pc_mC4 : pc_mC 4 = 252645135 := by decide +kernel
set_option maxHeartbeats 1000000 in
theorem pc_fin8 {p0 p1 p2 p3 p4 p5 p6 p7 c c1 c2 c3 c4 c5 c6 d e f : Nat} (h0 : p0 ≤ 8) (h1 : p1 ≤ 8) (h2 : p2 ≤ 8) (h3 : p3 ≤ 8) (h4 : p4 ≤ 8) (h5 : p5 ≤ 8) (h6 : p6 ≤ 8) (h7 : p7 ≤ 8)
    (e0 : c = p0 + 256 * c1) (e1 : c1 = p1 + 256 * c2) (e2 : c2 = p2 + 256 * c3) (e3 : c3 = p3 + 256 * c4) (e4 : c4 = p4 + 256 * c5) (e5 : c5 = p5 + 256 * c6) (e6 : c6 = p6 + 256 * p7)
    (hd : d = c + c / 256) (he : e = d + d / 65536) (hf : f = e + e / 4294967296) : d < 18446744073709551616 ∧ e < 18446744073709551616 ∧ f < 18446744073709551616 ∧ f % 128 = p0 + p1 + p2 + p3 + p4 + p5 + p6 + p7 := by
  have d1 : d = c + c1 := by omega
  have l6 : c6 ≤ 2056 := by omega
  have l5 : c5 ≤ 526344 := by omega
  have l4 : c4 ≤ 134744072 := by omega
  have l3 : c3 ≤ 34494482440 := by omega
  have l2 : c2 ≤ 8830587504648 := by omega
  have l1 : c1 ≤ 2260630401189896 := by omega
  have l0 : c ≤ 578721382704613384 := by omega
  have s1 : c + c1 = (p0 + p1 + 256 * (p1 + p2)) + 65536 * (c2 + c3) := by omega
  have d2 : d / 65536 = c2 + c3 := by rw [d1, s1, Nat.add_mul_div_left _ _ (by decide), Nat.div_eq_of_lt (by omega)]; omega
  have d3 : e = c + c1 + (c2 + c3) := by rw [he, d2, d1]
  clear hd he d2 s1
  have t0 : c = (p0 + 256 * p1 + 65536 * p2 + 16777216 * p3) + 4294967296 * c4 := by omega
  have t1 : c1 = (p1 + 256 * p2 + 65536 * p3 + 16777216 * p4) + 4294967296 * c5 := by omega
  have t2 : c2 = (p2 + 256 * p3 + 65536 * p4 + 16777216 * p5) + 4294967296 * c6 := by omega
  have t3 : c3 = (p3 + 256 * p4 + 65536 * p5 + 16777216 * p6) + 4294967296 * p7 := by omega
  have b0 : p0 + 256 * p1 + 65536 * p2 + 16777216 * p3 ≤ 134744072 := by omega
  have b1 : p1 + 256 * p2 + 65536 * p3 + 16777216 * p4 ≤ 134744072 := by omega
  have b2 : p2 + 256 * p3 + 65536 * p4 + 16777216 * p5 ≤ 134744072 := by omega
  have b3 : p3 + 256 * p4 + 65536 * p5 + 16777216 * p6 ≤ 134744072 := by omega
  generalize p0 + 256 * p1 + 65536 * p2 + 16777216 * p3 = u0 at t0 b0
  generalize p1 + 256 * p2 + 65536 * p3 + 16777216 * p4 = u1 at t1 b1
  generalize p2 + 256 * p3 + 65536 * p4 + 16777216 * p5 = u2 at t2 b2
  generalize p3 + 256 * p4 + 65536 * p5 + 16777216 * p6 = u3 at t3 b3
  have d4 : e / 4294967296 = c4 + c5 + (c6 + p7) := by
    have h9 : e = (u0 + u1 + u2 + u3) + 4294967296 * (c4 + c5 + (c6 + p7)) := by rw [d3, t0, t1, t2, t3]; omega
    clear e0 e1 e2 e3 e4 e5 e6 t0 t1 t2 t3
    rw [h9, Nat.add_mul_div_left _ _ (by decide), Nat.div_eq_of_lt (by omega)]; omega
  have d5 : f = c + c1 + (c2 + c3) + (c4 + c5 + (c6 + p7)) := by rw [hf, d4, d3]
  clear hf d4 t0 t1 t2 t3 b0 b1 b2 b3
  refine ⟨by omega, by omega, by omega, ?_⟩
  have d6 : f = (p0 + p1 + p2 + p3 + p4 + p5 + p6 + p7) + 256 * (c1 + c2 + c3 + c4 + c5 + c6 + p7) := by omega
  clear e0 e1 e2 e3 e4 e5 e6 d3 d5 l0 l1 l2 l3 l4 l5 l6
  rw [d6]; omega
theorem pc_sum8 {p0 p1 p2 p3 p4 p5 p6 p7 : Nat} (h0 : p0 ≤ 8) (h1 : p1 ≤ 8) (h2 : p2 ≤ 8) (h3 : p3 ≤ 8) (h4 : p4 ≤ 8) (h5 : p5 ≤ 8) (h6 : p6 ≤ 8) (h7 : p7 ≤ 8) : p0 + (p1 + (p2 + (p3 + (p4 + (p5 + (p6 + (p7 + 0))))))) ≤ 64 := by omega
theorem pc_sum4 {p0 p1 p2 p3 : Nat} (h0 : p0 ≤ 8) (h1 : p1 ≤ 8) (h2 : p2 ≤ 8) (h3 : p3 ≤ 8) : p0 + (p1 + (p2 + (p3 + 0))) ≤ 32 := by omega
theorem pc_bb {b : Nat} (h : b < 18446744073709551616) (h9 : b / 1152921504606846976 % 16 ≤ 4) : b + b / 16 < 18446744073709551616 := by omega
theorem pc_bb4 {b : Nat} (h : b < 4294967296) (h9 : b / 268435456 % 16 ≤ 4) : b + b / 16 < 4294967296 := by omega
set_option maxHeartbeats 1000000 in
/-- the 64-bit count over plain numbers -/
theorem pc_64 {n a b c d e f : Nat} (hn : n < 18446744073709551616) (ha : a = n - (n / 2 &&& 6148914691236517205)) (hb : b = (a &&& 3689348814741910323) + (a / 4 &&& 3689348814741910323)) (hc : c = (b + b / 16) &&& 1085102592571150095) (hd : d = c + c / 256) (he : e = d + d / 65536) (hf : f = e + e / 4294967296) :
    (n / 2 &&& 6148914691236517205) ≤ n ∧ a < 18446744073709551616 ∧ b < 18446744073709551616 ∧ b + b / 16 < 18446744073709551616 ∧ d < 18446744073709551616 ∧ e < 18446744073709551616 ∧ f < 18446744073709551616 ∧ f % 128 = pc_N 64 n ∧ pc_N 64 n ≤ 64 := by
  obtain ⟨a1, a2, a3⟩ := pc_stepA 32 n hn
  have a4 := pc_stepA_D 32 n hn
  rw [pc_mA32] at a1 a2 a3 a4
  rw [← ha] at a2 a3 a4
  obtain ⟨b1, b2, b3⟩ := pc_stepB 16 a a2 a4
  rw [pc_mB16, ← hb] at b1 b2 b3
  obtain ⟨c1, c2, c3⟩ := pc_stepC 8 b b1 b3
  rw [pc_mC8, ← hc] at c1 c2 c3
  have hT : pc_S 256 8 c = pc_N 64 n := by rw [c2, b2, a3]
  have hb9 : b / 16 / 16 / 16 / 16 / 16 / 16 / 16 / 16 / 16 / 16 / 16 / 16 / 16 / 16 / 16 % 16 ≤ 4 := by
    have := b3
    simp only [pc_D] at this
    exact this.2.2.2.2.2.2.2.2.2.2.2.2.2.2.2.1
  simp only [Nat.div_div_eq_div_mul, Nat.reduceMul] at hb9
  have hB : b < 18446744073709551616 := b1
  have hB2 : b + b / 16 < 18446744073709551616 := pc_bb hB hb9
  simp only [pc_S, pc_D] at hT c3
  obtain ⟨q0, q1, q2, q3, q4, q5, q6, q7, -⟩ := c3
  have hz : c / 256 / 256 / 256 / 256 / 256 / 256 / 256 / 256 = 0 := by
    simp only [Nat.div_div_eq_div_mul, Nat.reduceMul]; exact Nat.div_eq_of_lt c1
  have m0 := Nat.mod_add_div c 256
  have m1 := Nat.mod_add_div (c / 256) 256
  have m2 := Nat.mod_add_div (c / 256 / 256) 256
  have m3 := Nat.mod_add_div (c / 256 / 256 / 256) 256
  have m4 := Nat.mod_add_div (c / 256 / 256 / 256 / 256) 256
  have m5 := Nat.mod_add_div (c / 256 / 256 / 256 / 256 / 256) 256
  have m6 := Nat.mod_add_div (c / 256 / 256 / 256 / 256 / 256 / 256) 256
  have m7 := Nat.mod_add_div (c / 256 / 256 / 256 / 256 / 256 / 256 / 256) 256
  rw [hz] at m7
  have m7' : c / 256 / 256 / 256 / 256 / 256 / 256 / 256 = c / 256 / 256 / 256 / 256 / 256 / 256 / 256 % 256 := by rw [Nat.mul_zero, Nat.add_zero] at m7; exact m7.symm
  rw [m7'] at m6
  obtain ⟨f1, f2, f3, f4⟩ := pc_fin8 q0 q1 q2 q3 q4 q5 q6 q7 m0.symm m1.symm m2.symm m3.symm m4.symm m5.symm m6.symm hd he hf
  refine ⟨a1, a2, hB, hB2, f1, f2, f3, ?_, ?_⟩
  · rw [f4, ← hT]; simp only [Nat.add_assoc, Nat.add_zero]
  · rw [← hT]; exact pc_sum8 q0 q1 q2 q3 q4 q5 q6 q7
theorem pc_fin4 {p0 p1 p2 p3 c c1 c2 d e : Nat} (h0 : p0 ≤ 8) (h1 : p1 ≤ 8) (h2 : p2 ≤ 8) (h3 : p3 ≤ 8)
    (e0 : c = p0 + 256 * c1) (e1 : c1 = p1 + 256 * c2) (e2 : c2 = p2 + 256 * p3) (hd : d = c + c / 256) (he : e = d + d / 65536) : d < 4294967296 ∧ e < 4294967296 ∧ e % 64 = p0 + p1 + p2 + p3 := by
  have d1 : d = c + c1 := by omega
  have s1 : c + c1 = (p0 + p1 + 256 * (p1 + p2)) + 65536 * (c2 + p3) := by omega
  have d2 : d / 65536 = c2 + p3 := by rw [d1, s1]; omega
  have d3 : e = c + c1 + (c2 + p3) := by rw [he, d2, d1]
  clear hd he d2 s1
  refine ⟨by omega, by omega, ?_⟩
  have d6 : e = (p0 + p1 + p2 + p3) + 256 * (c1 + c2 + p3) := by omega
  rw [d6]; omega
theorem pc_32 {n a b c d e : Nat} (hn : n < 4294967296) (ha : a = n - (n / 2 &&& 1431655765)) (hb : b = (a &&& 858993459) + (a / 4 &&& 858993459)) (hc : c = (b + b / 16) &&& 252645135) (hd : d = c + c / 256) (he : e = d + d / 65536) :
    (n / 2 &&& 1431655765) ≤ n ∧ a < 4294967296 ∧ b < 4294967296 ∧ b + b / 16 < 4294967296 ∧ d < 4294967296 ∧ e < 4294967296 ∧ e % 64 = pc_N 32 n ∧ pc_N 32 n ≤ 32 := by
  obtain ⟨a1, a2, a3⟩ := pc_stepA 16 n hn
  have a4 := pc_stepA_D 16 n hn
  rw [pc_mA16] at a1 a2 a3 a4
  rw [← ha] at a2 a3 a4
  obtain ⟨b1, b2, b3⟩ := pc_stepB 8 a a2 a4
  rw [pc_mB8, ← hb] at b1 b2 b3
  obtain ⟨c1, c2, c3⟩ := pc_stepC 4 b b1 b3
  rw [pc_mC4, ← hc] at c1 c2 c3
  have hT : pc_S 256 4 c = pc_N 32 n := by rw [c2, b2, a3]
  have hb9 : b / 16 / 16 / 16 / 16 / 16 / 16 / 16 % 16 ≤ 4 := by
    have := b3
    simp only [pc_D] at this
    exact this.2.2.2.2.2.2.2.1
  simp only [Nat.div_div_eq_div_mul, Nat.reduceMul] at hb9
  have hB : b < 4294967296 := b1
  have hB2 : b + b / 16 < 4294967296 := pc_bb4 hB hb9
  simp only [pc_S, pc_D] at hT c3
  obtain ⟨q0, q1, q2, q3, -⟩ := c3
  have hz : c / 256 / 256 / 256 / 256 = 0 := by
    simp only [Nat.div_div_eq_div_mul, Nat.reduceMul]; exact Nat.div_eq_of_lt c1
  have m0 := Nat.mod_add_div c 256
  have m1 := Nat.mod_add_div (c / 256) 256
  have m2 := Nat.mod_add_div (c / 256 / 256) 256
  have m3 := Nat.mod_add_div (c / 256 / 256 / 256) 256
  rw [hz] at m3
  have m3' : c / 256 / 256 / 256 = c / 256 / 256 / 256 % 256 := by rw [Nat.mul_zero, Nat.add_zero] at m3; exact m3.symm
  rw [m3'] at m2
  obtain ⟨f1, f2, f4⟩ := pc_fin4 q0 q1 q2 q3 m0.symm m1.symm m2.symm hd he
  refine ⟨a1, a2, hB, hB2, f1, f2, ?_, ?_⟩
  · rw [f4, ← hT]; simp only [Nat.add_assoc, Nat.add_zero]
  · rw [← hT]; exact pc_sum4 q0 q1 q2 q3
