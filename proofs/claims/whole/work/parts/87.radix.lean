/-! Numbers by digits; the things worth a trial -/
def pl (N : Nat → Nat) : Nat → Nat
  | 0 => 1
  | k + 1 => pl N k * N k
def vl (N d : Nat → Nat) (n : Nat) : Nat := fb_sm (fun k => d k * pl N k) n
def okd (N d : Nat → Nat) (n : Nat) : Prop := ∀ k, k < n → d k < N k
def upF (d : Nat → Nat) (k v : Nat) : Nat → Nat := fun j => if j = k then v else d j
def thU (U : Nat → Bool) (k : Nat) : Nat := fa_first (fun t => U t && (fb_ct U t == k)) 8
def NU (S : Sc) (U : Nat → Bool) (k : Nat) : Nat := cA S (thU U k) + 1
/-- the things worth a trial -/
def U0 (S : Sc) (P : Nat → Bool) (t : Nat) : Bool := decide (t < cT S) && decide (0 < cC S t) && !sureB S P t
section
variable {S : Sc} {N N' d d' : Nat → Nat} {n : Nat} {U : Nat → Bool} {P : Nat → Bool}
theorem pl_pos (h : ∀ k, k < n → 0 < N k) : 0 < pl N n := by
  induction n with
  | zero => exact Nat.one_pos
  | succ n ih => exact Nat.mul_pos (ih (fun k hk => h k (by omega))) (h n (by omega))
theorem okd_pos (h : okd N d n) : ∀ k, k < n → 0 < N k := fun k hk => by have := h k hk; omega
theorem vl_succ : vl N d (n + 1) = vl N d n + d n * pl N n := fb_sm_succ _ _
theorem vl_lt (h : okd N d n) : vl N d n < pl N n := by
  induction n with
  | zero => exact Nat.one_pos
  | succ n ih =>
    have a := ih (fun k hk => h k (by omega))
    have b := h n (by omega)
    rw [vl_succ, pl, Nat.mul_comm (pl N n)]
    have c : (d n + 1) * pl N n ≤ N n * pl N n := Nat.mul_le_mul_right _ b
    rw [Nat.add_mul] at c
    omega
theorem two_part {p a b a' b' : Nat} (ha : a < p) (ha' : a' < p) (h : a + b * p = a' + b' * p) : b = b' ∧ a = a' := by
  have e1 : (a + b * p) / p = b := by rw [Nat.add_mul_div_right _ _ (by omega), Nat.div_eq_of_lt ha, Nat.zero_add]
  have e2 : (a' + b' * p) / p = b' := by rw [Nat.add_mul_div_right _ _ (by omega), Nat.div_eq_of_lt ha', Nat.zero_add]
  have : b = b' := by rw [← e1, ← e2, h]
  subst this
  exact ⟨rfl, by omega⟩
theorem vl_inj : ∀ {n : Nat}, okd N d n → okd N d' n → vl N d n = vl N d' n → ∀ k, k < n → d k = d' k := by
  intro n
  induction n with
  | zero => intro _ _ _ k hk; omega
  | succ n ih =>
    intro h1 h2 e k hk
    rw [vl_succ, vl_succ] at e
    have g1 : okd N d n := fun k hk => h1 k (by omega)
    have g2 : okd N d' n := fun k hk => h2 k (by omega)
    obtain ⟨p, q⟩ := two_part (vl_lt g1) (vl_lt g2) e
    rcases (show k < n ∨ k = n by omega) with z | z
    · exact ih g1 g2 q k z
    · subst z; exact p
theorem vl_cong (h : ∀ k, k < n → d k = d' k) : vl N d n = vl N d' n := fb_sm_cong (fun k hk => by rw [h k hk])
theorem vl_sur : ∀ {n : Nat}, (∀ k, k < n → 0 < N k) → ∀ v, v < pl N n → ∃ d, okd N d n ∧ vl N d n = v := by
  intro n
  induction n with
  | zero => intro _ v hv; exact ⟨fun _ => 0, fun k hk => by omega, by rw [pl] at hv; show 0 = v; omega⟩
  | succ n ih =>
    intro h v hv
    have pp := pl_pos (N := N) (n := n) (fun k hk => h k (by omega))
    obtain ⟨d, h1, h2⟩ := ih (fun k hk => h k (by omega)) (v % pl N n) (Nat.mod_lt _ pp)
    refine ⟨upF d n (v / pl N n), fun k hk => ?_, ?_⟩
    · unfold upF
      by_cases z : k = n
      · rw [if_pos z, z]
        rw [pl, Nat.mul_comm] at hv
        exact (Nat.div_lt_iff_lt_mul pp).mpr hv
      · rw [if_neg z]; exact h1 k (by omega)
    · have e : vl N (upF d n (v / pl N n)) n = vl N d n := vl_cong (fun k hk => by unfold upF; rw [if_neg (by omega)])
      have e2 : upF d n (v / pl N n) n = v / pl N n := by unfold upF; rw [if_pos rfl]
      rw [vl_succ, e, h2, e2, Nat.mul_comm]
      exact Nat.mod_add_div _ _
theorem vl_up {k v : Nat} (hk : k < n) : vl N (upF d k v) n + d k * pl N k = vl N d n + v * pl N k := by
  have := fb_sm_upd (fun j => d j * pl N j) (v * pl N k) hk
  have e : vl N (upF d k v) n = fb_sm (fun j => if j = k then v * pl N k else d j * pl N j) n := fb_sm_cong (fun j _ => by
    unfold upF
    by_cases z : j = k
    · rw [if_pos z, if_pos z, z]
    · rw [if_neg z, if_neg z])
  rw [e]
  exact this
theorem okd_up {k v : Nat} (h : okd N d n) (hv : v < N k) : okd N (upF d k v) n := by
  intro j hj
  unfold upF
  by_cases z : j = k
  · rw [if_pos z, z]; exact hv
  · rw [if_neg z]; exact h j hj
theorem pl_split : ∀ {n k : Nat}, k < n → ∃ q, pl N n = pl N k * N k * q := by
  intro n
  induction n with
  | zero => intro k hk; omega
  | succ n ih =>
    intro k hk
    rcases (show k < n ∨ k = n by omega) with z | z
    · obtain ⟨q, e⟩ := ih z
      exact ⟨q * N n, by rw [pl, e, Nat.mul_assoc (pl N k * N k)]⟩
    · subst z; exact ⟨1, by rw [pl, Nat.mul_one]⟩
theorem vl_dg : ∀ {n : Nat}, okd N d n → ∀ k, k < n → vl N d n / pl N k % N k = d k := by
  intro n
  induction n with
  | zero => intro _ k hk; omega
  | succ n ih =>
    intro h k hk
    have g : okd N d n := fun k hk => h k (by omega)
    have pk : 0 < pl N k := pl_pos (fun j hj => okd_pos h j (by omega))
    rw [vl_succ]
    rcases (show k < n ∨ k = n by omega) with z | z
    · obtain ⟨q, e⟩ := pl_split (N := N) z
      have e2 : d n * pl N n = pl N k * (N k * (d n * q)) := by
        rw [e]
        simp only [Nat.mul_assoc, Nat.mul_left_comm, Nat.mul_comm]
      rw [e2, Nat.add_mul_div_left _ _ pk, Nat.add_mul_mod_self_left]
      exact ih g k z
    · subst z
      rw [Nat.add_mul_div_right _ _ pk, Nat.div_eq_of_lt (vl_lt g), Nat.zero_add]
      exact Nat.mod_eq_of_lt (h k (by omega))
theorem sm_max : ∀ k, (∀ j, j < k → 0 < N j) → fb_sm (fun j => (N j - 1) * pl N j) k + 1 = pl N k := by
  intro k
  induction k with
  | zero => intro _; rfl
  | succ k ih =>
    intro h
    have a := ih (fun j hj => h j (by omega))
    have b := h k (by omega)
    rw [fb_sm_succ, pl, Nat.mul_comm (pl N k)]
    have c : N k * pl N k = (N k - 1) * pl N k + pl N k := by
      rw [← Nat.succ_mul]
      congr 1
      omega
    omega
/-- the digits of one less -/
def dnF (N d : Nat → Nat) (k : Nat) : Nat → Nat := fun j => if j < k then N j - 1 else if j = k then d k - 1 else d j
theorem vl_dn {k : Nat} (h : okd N d n) (hk : k < n) (hz : ∀ j, j < k → d j = 0) (hp : 0 < d k) : vl N (dnF N d k) n + 1 = vl N d n := by
  obtain ⟨r, e⟩ : ∃ r, n = (k + 1) + r := ⟨n - (k + 1), by omega⟩
  have pos := okd_pos h
  have mx := sm_max (N := N) k (fun j hj => pos j (by omega))
  unfold vl
  rw [e, fb_sm_split _ (k + 1) r, fb_sm_split _ (k + 1) r]
  have rest : fb_sm (fun i => dnF N d k (k + 1 + i) * pl N (k + 1 + i)) r = fb_sm (fun i => d (k + 1 + i) * pl N (k + 1 + i)) r := fb_sm_cong (fun i _ => by
    unfold dnF
    rw [if_neg (by omega), if_neg (by omega)])
  have low1 : fb_sm (fun j => dnF N d k j * pl N j) k = fb_sm (fun j => (N j - 1) * pl N j) k := fb_sm_cong (fun j hj => by
    unfold dnF
    rw [if_pos hj])
  have low2 : fb_sm (fun j => d j * pl N j) k = 0 := by
    have : fb_sm (fun j => d j * pl N j) k = fb_sm (fun _ => 0) k := fb_sm_cong (fun j hj => by rw [hz j hj, Nat.zero_mul])
    rw [this, fb_sm_const]; rfl
  have hk2 : dnF N d k k = d k - 1 := by
    unfold dnF
    rw [if_neg (by omega), if_pos rfl]
  rw [fb_sm_succ, fb_sm_succ, rest, low1, low2, hk2]
  have c : d k * pl N k = (d k - 1) * pl N k + pl N k := by
    rw [← Nat.succ_mul]
    congr 1
    omega
  omega
theorem okd_dn {k : Nat} (h : okd N d n) : okd N (dnF N d k) n := by
  intro j hj
  have := h j hj
  unfold dnF
  by_cases z : j < k
  · rw [if_pos z]; omega
  · rw [if_neg z]
    by_cases z2 : j = k
    · rw [if_pos z2]
      subst z2; omega
    · rw [if_neg z2]; exact this
-- how many states there may be
theorem pow_fin : ∀ a, a < 9 → ∀ b, b < 9 → ∀ c, c < 9 → a + b + c ≤ 8 → 2 ^ a * 3 ^ b * 4 ^ c ≤ 4096 → 3 ^ a * 4 ^ b * 5 ^ c ≤ 50625 := by decide +kernel
theorem pl_counts (v : Vs S) : ∀ n, n ≤ cT S → ∃ a b c, a + b + c = n ∧ pw (cA S) 0 n = 2 ^ a * 3 ^ b * 4 ^ c ∧ pl (fun t => cA S t + 1) n = 3 ^ a * 4 ^ b * 5 ^ c := by
  intro n
  induction n with
  | zero => intro _; exact ⟨0, 0, 0, rfl, rfl, rfl⟩
  | succ n ih =>
    intro hn
    obtain ⟨a, b, c, h1, h2, h3⟩ := ih (by omega)
    have av := v.a2 n (by omega)
    have e : pw (cA S) 0 (n + 1) = pw (cA S) 0 n * cA S n := by
      rw [pw_split (cA S) n 0 1, Nat.zero_add, pw, pw, Nat.mul_one]
    rw [e, pl, h2, h3]
    rcases (show cA S n = 2 ∨ cA S n = 3 ∨ cA S n = 4 by omega) with q | q | q
    · refine ⟨a + 1, b, c, by omega, ?_, ?_⟩
      · rw [q, Nat.pow_succ]; simp only [Nat.mul_assoc, Nat.mul_comm, Nat.mul_left_comm]
      · simp only [q, Nat.pow_succ]; simp only [Nat.mul_assoc, Nat.mul_comm, Nat.mul_left_comm]
    · refine ⟨a, b + 1, c, by omega, ?_, ?_⟩
      · rw [q, Nat.pow_succ 3]; simp only [Nat.mul_assoc, Nat.mul_comm, Nat.mul_left_comm]
      · rw [Nat.pow_succ 4]; simp only [q, show 3 + 1 = 4 from rfl]; simp only [Nat.mul_assoc, Nat.mul_comm, Nat.mul_left_comm]
    · refine ⟨a, b, c + 1, by omega, ?_, ?_⟩
      · rw [q, Nat.pow_succ 4]; simp only [Nat.mul_assoc, Nat.mul_comm, Nat.mul_left_comm]
      · rw [Nat.pow_succ 5]; simp only [q, show 4 + 1 = 5 from rfl]; simp only [Nat.mul_assoc, Nat.mul_comm, Nat.mul_left_comm]
theorem pl_bound (v : Vs S) : pl (fun t => cA S t + 1) (cT S) ≤ 50625 := by
  obtain ⟨a, b, c, h1, h2, h3⟩ := pl_counts v (cT S) (Nat.le_refl _)
  have hc := v.cnt
  have t8 := v.t8
  unfold cnt at hc
  rw [h2] at hc
  rw [h3]
  exact pow_fin a (by omega) b (by omega) c (by omega) (by omega) hc
theorem thU_of {t : Nat} (ht : t < 8) (hu : U t = true) : thU U (fb_ct U t) = t := by
  have y : (fun j => U j && (fb_ct U j == fb_ct U t)) t = true := by simp [hu]
  have le : fa_first (fun j => U j && (fb_ct U j == fb_ct U t)) 8 ≤ t := by
    rcases Nat.lt_or_ge t (fa_first (fun j => U j && (fb_ct U j == fb_ct U t)) 8) with q | q
    · have z0 := fa_first_no _ 8 t q
      exact absurd (y.symm.trans z0) (by decide)
    · exact q
  have z := fa_first_yes (fun j => U j && (fb_ct U j == fb_ct U t)) 8 (by omega)
  simp only [Bool.and_eq_true, beq_iff_eq] at z
  exact fb_ct_kth_one z.1 hu z.2
theorem thU_k {k n : Nat} (hn : n ≤ 8) (hk : k < fb_ct U n) : thU U k < n ∧ U (thU U k) = true ∧ fb_ct U (thU U k) = k := by
  obtain ⟨i, i1, i2, i3⟩ := fb_ct_kth hk
  have e : thU U k = i := by rw [← i3]; exact thU_of (by omega) i2
  rw [e]
  exact ⟨i1, i2, i3⟩
theorem thU_lt {j k n : Nat} (hn : n ≤ 8) (hk : k < fb_ct U n) (hj : j < k) : thU U j < thU U k := by
  obtain ⟨a1, a2, a3⟩ := thU_k hn hk
  obtain ⟨b1, b2, b3⟩ := thU_k (U := U) (k := j) hn (by omega)
  rcases Nat.lt_or_ge (thU U j) (thU U k) with q | q
  · exact q
  · have := fb_ct_mono U q
    omega
theorem NU_le (v : Vs S) : ∀ n, n ≤ cT S → pl (NU S U) (fb_ct U n) ≤ pl (fun t => cA S t + 1) n := by
  have t8 := v.t8
  intro n
  induction n with
  | zero => intro _; exact Nat.le_refl _
  | succ n ih =>
    intro hn
    have a := ih (by omega)
    rw [fb_ct_succ, pl]
    cases hu : U n with
    | false =>
      simp only [Bool.false_eq_true, if_false, Nat.add_zero]
      have : pl (fun t => cA S t + 1) n * 1 ≤ pl (fun t => cA S t + 1) n * (cA S n + 1) := Nat.mul_le_mul_left _ (by omega)
      omega
    | true =>
      simp only [if_true]
      rw [pl]
      have e : NU S U (fb_ct U n) = cA S n + 1 := by unfold NU; rw [thU_of (by omega) hu]
      rw [e]
      exact Nat.mul_le_mul_right _ a
theorem NU_b (v : Vs S) : pl (NU S U) (ctU S U) ≤ 50625 := Nat.le_trans (NU_le v (cT S) (Nat.le_refl _)) (pl_bound v)
theorem NU_k (v : Vs S) {k : Nat} (hk : k < ctU S U) : 3 ≤ NU S U k ∧ NU S U k ≤ 5 := by
  have t8 := v.t8
  obtain ⟨a1, a2, a3⟩ := thU_k t8 hk
  have := v.a2 _ a1
  unfold NU
  omega
theorem pl_mono {k : Nat} (h : ∀ j, j < n → 0 < N j) (hk : k ≤ n) : pl N k ≤ pl N n := by
  induction n with
  | zero => have : k = 0 := by omega
            subst this; exact Nat.le_refl _
  | succ n ih =>
    rcases (show k ≤ n ∨ k = n + 1 by omega) with z | z
    · have a := ih (fun j hj => h j (by omega)) z
      have b := h n (by omega)
      have : pl N n * 1 ≤ pl N n * N n := Nat.mul_le_mul_left _ b
      rw [pl]; omega
    · rw [z]; exact Nat.le_refl _
theorem U0_iff {t : Nat} : U0 S P t = true ↔ t < cT S ∧ 0 < cC S t ∧ sureB S P t = false := by
  unfold U0
  simp only [Bool.and_eq_true, decide_eq_true_eq, Bool.not_eq_true', and_assoc]
end
