/-! words: an Int64 as 64 bits, an Int32 as a small number -/
def bw (x : Int64) (i : Nat) : Bool := (uN x).testBit i
theorem uN_and (x y : Int64) : uN (x &&& y) = uN x &&& uN y := by
  show (x.toUInt64 &&& y.toUInt64).toNat = _
  exact UInt64.toNat_and _ _
theorem uN_or2 (x y : Int64) : uN (x ||| y) = uN x ||| uN y := by
  show (x.toUInt64 ||| y.toUInt64).toNat = _
  exact UInt64.toNat_or _ _
theorem uN_xor2 (x y : Int64) : uN (x ^^^ y) = uN x ^^^ uN y := by
  show (x.toUInt64 ^^^ y.toUInt64).toNat = _
  exact UInt64.toNat_xor _ _
theorem uN_sub {x y : Int64} (h : uN y ≤ uN x) : uN (x - y) = uN x - uN y := by
  show (x.toUInt64 - y.toUInt64).toNat = _
  exact UInt64.toNat_sub_of_le _ _ h
theorem uN_m1 : uN (-1) = 2 ^ 64 - 1 := by decide
theorem uN_0 : uN 0 = 0 := by decide
theorem uN_1 : uN 1 = 1 := by decide
theorem bw_and (x y : Int64) (i : Nat) : bw (x &&& y) i = (bw x i && bw y i) := by rw [bw, uN_and, Nat.testBit_and]; rfl
theorem bw_or (x y : Int64) (i : Nat) : bw (x ||| y) i = (bw x i || bw y i) := by rw [bw, uN_or2, Nat.testBit_or]; rfl
theorem bw_xor (x y : Int64) (i : Nat) : bw (x ^^^ y) i = (bw x i ^^ bw y i) := by rw [bw, uN_xor2, Nat.testBit_xor]; rfl
theorem bw_m1 {i : Nat} (h : i < 64) : bw (-1) i = true := by rw [bw, uN_m1, Nat.testBit_two_pow_sub_one]; exact decide_eq_true h
theorem bw_0 (i : Nat) : bw 0 i = false := by rw [bw, uN_0]; exact Nat.zero_testBit i
theorem bw_not (x : Int64) {i : Nat} (h : i < 64) : bw (x ^^^ (-1)) i = !bw x i := by rw [bw_xor, bw_m1 h]; cases bw x i <;> rfl
theorem bw_big (x : Int64) {i : Nat} (h : 64 ≤ i) : bw x i = false := Nat.testBit_lt_two_pow (Nat.lt_of_lt_of_le (uN_lt x) (show 2 ^ 64 ≤ 2 ^ i from Nat.pow_le_pow_right (by decide) h))
theorem bw_ext {x y : Int64} (h : ∀ i, i < 64 → bw x i = bw y i) : x = y := by
  apply uN_inj
  apply Nat.eq_of_testBit_eq
  intro i
  by_cases hi : i < 64
  · exact h i hi
  · exact (bw_big x (by omega)).trans (bw_big y (by omega)).symm
theorem bw_zero {x : Int64} : x = 0 ↔ ∀ i, i < 64 → bw x i = false :=
  ⟨fun h i _ => by rw [h]; exact bw_0 i, fun h => bw_ext fun i hi => by rw [h i hi, bw_0]⟩
theorem uN_shl1 {k : Nat} (hk : k < 64) : uN ((1 : Int64) <<< ((nI k).toInt64 &&& 63)) = 2 ^ k := by
  have h := wb_shl 1 hk
  rw [show (1 : Int64) = lN 1 from rfl, h, Nat.one_mul]
  show (lN (2 ^ k)).toBitVec.toNat = 2 ^ k
  rw [wb_tn]
  exact Nat.pow_lt_pow_right (by decide) hk
theorem bw_shl1 {k : Nat} (hk : k < 64) (i : Nat) : bw ((1 : Int64) <<< ((nI k).toInt64 &&& 63)) i = decide (i = k) := by
  rw [bw, uN_shl1 hk, Nat.testBit_two_pow]
  simp [eq_comm]
theorem pc_ct : ∀ (k n : Nat), pc_N k n = fb_ct (fun i => n.testBit i) k := by
  intro k
  induction k with
  | zero => intro n; rfl
  | succ k ih =>
    intro n
    rw [pc_N, ih, show k + 1 = 1 + k from by omega, fb_ct_split]
    have e1 : fb_ct (fun i => n.testBit i) 1 = n % 2 := by
      simp only [fb_ct, Nat.testBit_zero, Nat.zero_add]
      rcases (show n % 2 = 0 ∨ n % 2 = 1 by omega) with h | h <;> simp [h]
    rw [e1]
    congr 1
    apply fb_ct_cong
    intro i _
    show (n / 2).testBit i = n.testBit (1 + i)
    rw [Nat.add_comm 1 i, Nat.testBit_succ]
/-- how many bits of a word are set -/
def wpop (x : Int64) : Nat := fb_ct (bw x) 64
theorem wpop_le (x : Int64) : wpop x ≤ 64 := fb_ct_le _ _
theorem nI_and127 (x : Int64) : x.toInt32 &&& 127 = nI (uN x % 128) := by
  rw [pk_and x.toInt32 7 (by decide)]
  congr 1
  have : x.toInt32.toBitVec.toNat = uN x % 4294967296 := by
    show (x.toBitVec.signExtend 32).toNat = _
    rw [BitVec.signExtend_eq_setWidth_of_le _ (by decide), BitVec.toNat_setWidth]
    rfl
  rw [this]; omega
set_option maxHeartbeats 1000000 in
/-- Long.bitCount -/
theorem sp_bc64 {t : zT} {m : zM} {x : Int64} {Q : Int32 → zM → Prop} (hQ : Q (nI (wpop x)) m) : wJ13_bitCount_95d88 t m x Q := by
  unfold wJ13_bitCount_95d88
  intro x1 h1 x2 h2 x3 h3 x4 h4 x5 h5 x6 h6
  have s1 : ∀ y : Int64, uN ((y.toUInt64 >>> ((1 : Int32).toInt64.toUInt64 &&& Int64.toUInt64 63)).toInt64) = uN y / 2 := fun y => uN_sk y (k := 1) (by decide)
  have s2 : ∀ y : Int64, uN ((y.toUInt64 >>> ((2 : Int32).toInt64.toUInt64 &&& Int64.toUInt64 63)).toInt64) = uN y / 4 := fun y => uN_sk y (k := 2) (by decide)
  have s4 : ∀ y : Int64, uN ((y.toUInt64 >>> ((4 : Int32).toInt64.toUInt64 &&& Int64.toUInt64 63)).toInt64) = uN y / 16 := fun y => uN_sk y (k := 4) (by decide)
  have s8 : ∀ y : Int64, uN ((y.toUInt64 >>> ((8 : Int32).toInt64.toUInt64 &&& Int64.toUInt64 63)).toInt64) = uN y / 256 := fun y => uN_sk y (k := 8) (by decide)
  have s16 : ∀ y : Int64, uN ((y.toUInt64 >>> ((16 : Int32).toInt64.toUInt64 &&& Int64.toUInt64 63)).toInt64) = uN y / 65536 := fun y => uN_sk y (k := 16) (by decide)
  have s32 : ∀ y : Int64, uN ((y.toUInt64 >>> ((32 : Int32).toInt64.toUInt64 &&& Int64.toUInt64 63)).toInt64) = uN y / 4294967296 := fun y => uN_sk y (k := 32) (by decide)
  have m5 : uN 6148914691236517205 = 6148914691236517205 := by decide
  have m3 : uN 3689348814741910323 = 3689348814741910323 := by decide
  have mf : uN 1085102592571150095 = 1085102592571150095 := by decide
  obtain ⟨g1, g2, g3, g4, g5, g6, g7, g8, -⟩ := pc_64 (n := uN x) (uN_lt x) rfl rfl rfl rfl rfl rfl
  have e1 : uN x1 = uN x - (uN x / 2 &&& 6148914691236517205) := by
    rw [h1, uN_sub (by rw [uN_and, s1, m5]; exact g1), uN_and, s1, m5]
  have e2 : uN x2 = (uN x1 &&& 3689348814741910323) + (uN x1 / 4 &&& 3689348814741910323) := by
    rw [h2, uN_add, uN_and, uN_and, s2, m3, e1]
    exact Nat.mod_eq_of_lt g3
  have e3 : uN x3 = (uN x2 + uN x2 / 16) &&& 1085102592571150095 := by
    rw [h3, uN_and, uN_add, s4, mf, Nat.mod_eq_of_lt (by rw [e2, e1]; exact g4)]
  have e4 : uN x4 = uN x3 + uN x3 / 256 := by
    rw [h4, uN_add, s8, Nat.mod_eq_of_lt (by rw [e3, e2, e1]; exact g5)]
  have e5 : uN x5 = uN x4 + uN x4 / 65536 := by
    rw [h5, uN_add, s16, Nat.mod_eq_of_lt (by rw [e4, e3, e2, e1]; exact g6)]
  have e6 : uN x6 = uN x5 + uN x5 / 4294967296 := by
    rw [h6, uN_add, s32, Nat.mod_eq_of_lt (by rw [e5, e4, e3, e2, e1]; exact g7)]
  rw [nI_and127, e6, e5, e4, e3, e2, e1, g8, pc_ct]
  exact hQ
set_option maxHeartbeats 1000000 in
/-- Integer.bitCount, of a number that isn't below 0 -/
theorem sp_bc32 {t : zT} {m : zM} {n : Nat} (hn : n < 2 ^ 31) {Q : Int32 → zM → Prop} (hQ : Q (nI (fb_ct (fun i => n.testBit i) 32)) m) : wJ6_bitCount_0f7a4 t m (nI n) Q := by
  unfold wJ6_bitCount_0f7a4
  intro x1 h1 x2 h2 x3 h3 x4 h4 x5 h5
  have s1 : ∀ k : Nat, k < 2 ^ 32 → ((nI k).toUInt32 >>> ((1 : Int32).toUInt32 &&& Int32.toUInt32 31)).toInt32 = nI (k / 2) := fun k hk => pk_ushrN hk 1 1 (by decide)
  have s2 : ∀ k : Nat, k < 2 ^ 32 → ((nI k).toUInt32 >>> ((2 : Int32).toUInt32 &&& Int32.toUInt32 31)).toInt32 = nI (k / 4) := fun k hk => pk_ushrN hk 2 2 (by decide)
  have s4 : ∀ k : Nat, k < 2 ^ 32 → ((nI k).toUInt32 >>> ((4 : Int32).toUInt32 &&& Int32.toUInt32 31)).toInt32 = nI (k / 16) := fun k hk => pk_ushrN hk 4 4 (by decide)
  have s8 : ∀ k : Nat, k < 2 ^ 32 → ((nI k).toUInt32 >>> ((8 : Int32).toUInt32 &&& Int32.toUInt32 31)).toInt32 = nI (k / 256) := fun k hk => pk_ushrN hk 8 8 (by decide)
  have s16 : ∀ k : Nat, k < 2 ^ 32 → ((nI k).toUInt32 >>> ((16 : Int32).toUInt32 &&& Int32.toUInt32 31)).toInt32 = nI (k / 65536) := fun k hk => pk_ushrN hk 16 16 (by decide)
  have hn2 : n < 4294967296 := by omega
  obtain ⟨g1, g2, g3, g4, g5, g6, g7, -⟩ := pc_32 (n := n) hn2 rfl rfl rfl rfl rfl
  have e1 : x1 = nI (n - (n / 2 &&& 1431655765)) := by
    rw [h1, s1 n hn2, show (1431655765 : Int32) = nI 1431655765 from rfl, nx_and, pk_sub g1]
  have e2 : x2 = nI (((n - (n / 2 &&& 1431655765)) &&& 858993459) + ((n - (n / 2 &&& 1431655765)) / 4 &&& 858993459)) := by
    rw [h2, e1, s2 _ g2, show (858993459 : Int32) = nI 858993459 from rfl, nx_and, nx_and, nI_add]
  generalize (n - (n / 2 &&& 1431655765)) = a at e1 e2 g2 g3 g4 g5 g6 g7
  generalize (a &&& 858993459) + (a / 4 &&& 858993459) = b at e2 g3 g4 g5 g6 g7
  have e3 : x3 = nI ((b + b / 16) &&& 252645135) := by
    rw [h3, e2, s4 _ g3, nI_add, show (252645135 : Int32) = nI 252645135 from rfl, nx_and]
  generalize (b + b / 16) &&& 252645135 = c at e3 g5 g6 g7
  have e4 : x4 = nI (c + c / 256) := by
    rw [h4, e3, s8 _ (by omega), nI_add]
  generalize c + c / 256 = d at e4 g5 g6 g7
  have e5 : x5 = nI (d + d / 65536) := by
    rw [h5, e4, s16 _ g5, nI_add]
  rw [e5, show (63 : Int32) = nI 63 from rfl, nx_and, show (63 : Nat) = 2 ^ 6 - 1 from rfl, Nat.and_two_pow_sub_one_eq_mod, show (2 : Nat) ^ 6 = 64 from rfl, g7, pc_ct]
  exact hQ
