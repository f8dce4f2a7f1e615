/-! reads behind writes; frames -/
theorem gII (m : zM) (a k : Nat) (v : Int32) (b j : Nat) : gI (pI m a k v) b j = if b = a ∧ j = k then v else gI m b j := rfl
theorem gIJ (m : zM) (a k : Nat) (v : Int64) (b j : Nat) : gI (pJ m a k v) b j = gI m b j := rfl
theorem gIR (m : zM) (a k : Nat) (v : Nat) (b j : Nat) : gI (pR m a k v) b j = gI m b j := rfl
theorem gJI (m : zM) (a k : Nat) (v : Int32) (b j : Nat) : gJ (pI m a k v) b j = gJ m b j := rfl
theorem gJJ (m : zM) (a k : Nat) (v : Int64) (b j : Nat) : gJ (pJ m a k v) b j = if b = a ∧ j = k then v else gJ m b j := rfl
theorem gJR (m : zM) (a k : Nat) (v : Nat) (b j : Nat) : gJ (pR m a k v) b j = gJ m b j := rfl
theorem gRI (m : zM) (a k : Nat) (v : Int32) (b j : Nat) : gR (pI m a k v) b j = gR m b j := rfl
theorem gRJ (m : zM) (a k : Nat) (v : Int64) (b j : Nat) : gR (pJ m a k v) b j = gR m b j := rfl
theorem gRR (m : zM) (a k : Nat) (v : Nat) (b j : Nat) : gR (pR m a k v) b j = if b = a ∧ j = k then v else gR m b j := rfl
theorem z_up2 {α : Type} (f : Nat → Nat → α) (a k : Nat) (v w : α) : z_up (z_up f a k v) a k w = z_up f a k w := by
  funext b j; simp only [z_up]; split <;> rfl
theorem pI_pI (m : zM) (a k : Nat) (v w : Int32) : pI (pI m a k v) a k w = pI m a k w := by simp only [pI, z_up2]
theorem pJ_pJ (m : zM) (a k : Nat) (v w : Int64) : pJ (pJ m a k v) a k w = pJ m a k w := by simp only [pJ, z_up2]
theorem pI_pJ (m : zM) (a k b j : Nat) (v : Int32) (w : Int64) : pI (pJ m b j w) a k v = pJ (pI m a k v) b j w := rfl
theorem z_upc {α : Type} (f : Nat → Nat → α) (a k b j : Nat) (v w : α) (h : ¬ (b = a ∧ j = k)) : z_up (z_up f a k v) b j w = z_up (z_up f b j w) a k v := by
  funext c i
  simp only [z_up]
  by_cases h1 : c = a ∧ i = k
  · by_cases h2 : c = b ∧ i = j
    · exact absurd ⟨h2.1.symm.trans h1.1, h2.2.symm.trans h1.2⟩ h
    · rw [if_neg h2, if_pos h1, if_pos h1]
  · by_cases h2 : c = b ∧ i = j
    · rw [if_pos h2, if_neg h1, if_pos h2]
    · rw [if_neg h2, if_neg h1, if_neg h1, if_neg h2]
theorem pI_swap (m : zM) (a k b j : Nat) (v w : Int32) (h : ¬ (b = a ∧ j = k)) : pI (pI m a k v) b j w = pI (pI m b j w) a k v := by simp only [pI, z_upc _ a k b j v w h]
/-- what isn't in S is as it was; all references are -/
def Fr (S : List Nat) (m m' : zM) : Prop := (∀ a, a ∉ S → ∀ k, gI m' a k = gI m a k ∧ gJ m' a k = gJ m a k) ∧ ∀ a k, gR m' a k = gR m a k
theorem Fr.rf {S : List Nat} {m : zM} : Fr S m m := ⟨fun _ _ _ => ⟨rfl, rfl⟩, fun _ _ => rfl⟩
theorem Fr.tr {S : List Nat} {m m1 m2 : zM} (h1 : Fr S m m1) (h2 : Fr S m1 m2) : Fr S m m2 := ⟨fun a ha k => ⟨((h2.1 a ha k).1).trans (h1.1 a ha k).1, ((h2.1 a ha k).2).trans (h1.1 a ha k).2⟩, fun a k => (h2.2 a k).trans (h1.2 a k)⟩
theorem Fr.mono {S T : List Nat} {m m' : zM} (h : Fr S m m') (hST : ∀ a, a ∈ S → a ∈ T) : Fr T m m' := ⟨fun a ha k => h.1 a (fun q => ha (hST a q)) k, h.2⟩
theorem Fr.pI {S : List Nat} {m m' : zM} (h : Fr S m m') {a k : Nat} {v : Int32} (ha : a ∈ S) : Fr S m (pI m' a k v) := by
  refine ⟨fun b hb j => ⟨?_, (h.1 b hb j).2⟩, h.2⟩
  rw [gII, if_neg (fun q => hb (by rw [q.1]; exact ha))]
  exact (h.1 b hb j).1
theorem Fr.pJ {S : List Nat} {m m' : zM} (h : Fr S m m') {a k : Nat} {v : Int64} (ha : a ∈ S) : Fr S m (pJ m' a k v) := by
  refine ⟨fun b hb j => ⟨(h.1 b hb j).1, ?_⟩, h.2⟩
  rw [gJJ, if_neg (fun q => hb (by rw [q.1]; exact ha))]
  exact (h.1 b hb j).2
theorem Fr.I {S : List Nat} {m m' : zM} (h : Fr S m m') {a : Nat} (ha : a ∉ S) (k : Nat) : gI m' a k = gI m a k := (h.1 a ha k).1
theorem Fr.J {S : List Nat} {m m' : zM} (h : Fr S m m') {a : Nat} (ha : a ∉ S) (k : Nat) : gJ m' a k = gJ m a k := (h.1 a ha k).2
theorem vp_nI {n N : Nat} (h : n < N) (hN : N < 2 ^ 31) : vp_in (nI n) N := vp_in_nI h hN
theorem nI_cl {n : Nat} (h : n < 2 ^ 31) : (nI n).toNatClampNeg = n := nI_clamp h
/-! the lowest bit of a number -/
theorem lb_split : ∀ (n x : Nat), 0 < x → x < 2 ^ n → ∃ k q, k < n ∧ x = 2 ^ k * (1 + 2 * q) := by
  intro n
  induction n with
  | zero => intro x h0 h1; simp at h1; omega
  | succ n ih =>
    intro x h0 h1
    by_cases hx : x % 2 = 1
    · exact ⟨0, x / 2, by omega, by simp; omega⟩
    · obtain ⟨k, q, hk, e⟩ := ih (x / 2) (by omega) (by rw [Nat.pow_succ] at h1; omega)
      refine ⟨k + 1, q, by omega, ?_⟩
      rw [Nat.pow_succ, Nat.mul_assoc, Nat.mul_left_comm, ← e]; omega
theorem lb_test {k q i : Nat} : (2 ^ k * (1 + 2 * q)).testBit i = if i < k then false else if i = k then true else q.testBit (i - k - 1) := by
  rw [Nat.testBit_two_pow_mul]
  by_cases h : i < k
  · simp [h]; intro; omega
  · by_cases h2 : i = k
    · subst h2
      simp [Nat.testBit_zero]
    · simp only [h, h2, if_false]
      obtain ⟨j, hj⟩ : ∃ j, i - k = j + 1 := ⟨i - k - 1, by omega⟩
      rw [hj, Nat.testBit_succ, show (1 + 2 * q) / 2 = q from by omega]
      simp; omega
theorem lb_neg {k q : Nat} (hk : k < 64) (hx : 2 ^ k * (1 + 2 * q) < 2 ^ 64) : (2 ^ k * (1 + 2 * q)) &&& (2 ^ 64 - 2 ^ k * (1 + 2 * q)) = 2 ^ k := by
  have e64 : (2 : Nat) ^ 64 = 2 ^ k * 2 ^ (64 - k) := by rw [← Nat.pow_add]; congr 1; omega
  have e63 : (2 : Nat) ^ (64 - k) = 2 * 2 ^ (63 - k) := by rw [show 64 - k = (63 - k) + 1 from by omega, Nat.pow_succ, Nat.mul_comm]
  have hq : q < 2 ^ (63 - k) := by
    rw [e64] at hx
    have := Nat.lt_of_mul_lt_mul_left hx
    omega
  have e : 2 ^ 64 - 2 ^ k * (1 + 2 * q) = 2 ^ k * (1 + 2 * (2 ^ (63 - k) - (q + 1))) := by
    rw [e64, ← Nat.mul_sub]
    congr 1
    omega
  rw [e]
  apply Nat.eq_of_testBit_eq
  intro i
  rw [Nat.testBit_and, lb_test, lb_test, Nat.testBit_two_pow]
  by_cases h : i < k
  · simp [h]; omega
  · by_cases h2 : i = k
    · simp [h2]
    · have h3 : ¬ k = i := fun q => h2 q.symm
      simp only [h, h2, h3, if_false, decide_false]
      rw [Nat.testBit_two_pow_sub_succ hq]
      cases q.testBit (i - k - 1) <;> simp
theorem lb_pred {k q : Nat} : (2 ^ k * (1 + 2 * q)) &&& (2 ^ k * (1 + 2 * q) - 1) = 2 ^ k * (2 * q) := by
  have hp : 0 < 2 ^ k := Nat.two_pow_pos k
  have e : 2 ^ k * (1 + 2 * q) - 1 = (2 ^ k - 1) + 2 ^ k * (2 * q) := by
    rw [Nat.mul_add, Nat.mul_one]; omega
  have e2 : 2 ^ k * (1 + 2 * q) = 0 + 2 ^ k * (1 + 2 * q) := by omega
  rw [e]
  conv => lhs; lhs; rw [e2]
  rw [pc_land k _ _ _ _ hp (by omega), Nat.zero_and, Nat.zero_add]
  congr 1
  have := pc_land 1 1 q 0 q (by decide) (by decide)
  simp only [Nat.pow_one, Nat.zero_add] at this
  rw [this, Nat.and_self]; simp
