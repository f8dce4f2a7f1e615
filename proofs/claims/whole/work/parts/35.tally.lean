/-! TwoMasters.Tally: four planes, a count from 0 to 15 at each of 64 places -/
/-- the count at place i -/
def tv (m : zM) (b i : Nat) : Nat := (if bw (gJ m b 0) i then 1 else 0) + (if bw (gJ m b 1) i then 2 else 0) + (if bw (gJ m b 2) i then 4 else 0) + (if bw (gJ m b 3) i then 8 else 0)
section
variable {t : zT} {m : zM} {a b : Nat}
theorem sp_tclear {Q : zM → Prop} (hK : tK t a = 6) (hb : gR m a 0 = b) (hKb : tK t b = 15) (hLb : tL t b = 4) (hQ : ∀ m', Fr [b] m m' → (∀ i, tv m' b i = 0) → Q m') : wX6_clear t m a Q := by
  unfold wX6_clear
  refine ⟨5, ?_⟩
  have h0 : ¬ Int32.ofNat 4 ≤ 0 := by decide
  have h1 : ¬ Int32.ofNat 4 ≤ 0 + 1 := by decide
  have h2 : ¬ Int32.ofNat 4 ≤ 0 + 1 + 1 := by decide
  have h3 : ¬ Int32.ofNat 4 ≤ 0 + 1 + 1 + 1 := by decide
  have h4 : Int32.ofNat 4 ≤ 0 + 1 + 1 + 1 + 1 := by decide
  have v0 : vp_in 0 4 := by unfold vp_in; decide
  have v1 : vp_in (0 + 1) 4 := by unfold vp_in; decide
  have v2 : vp_in (0 + 1 + 1) 4 := by unfold vp_in; decide
  have v3 : vp_in (0 + 1 + 1 + 1) 4 := by unfold vp_in; decide
  simp only [wX6_clear_L2, gRJ, hb, hLb, h0, h1, h2, h3, h4, hK, hKb, v0, v1, v2, v3, not_true_eq_false, not_false_eq_true, true_and, false_implies, true_implies, and_true]
  apply hQ
  · exact ((((Fr.rf).pJ (by simp)).pJ (by simp)).pJ (by simp)).pJ (by simp)
  · intro i
    have n0 : (0 : Int32).toNatClampNeg = 0 := by decide
    have n1 : (0 + 1 : Int32).toNatClampNeg = 1 := by decide
    have n2 : (0 + 1 + 1 : Int32).toNatClampNeg = 2 := by decide
    have n3 : (0 + 1 + 1 + 1 : Int32).toNatClampNeg = 3 := by decide
    simp [tv, gJJ, n0, n1, n2, n3, bw_0]
theorem tally_bits (p0 p1 p2 p3 c : Bool) (h : ((if p0 then 1 else 0) + (if p1 then 2 else 0) + (if p2 then 4 else 0) + (if p3 then 8 else 0) : Nat) < 15) :
    ((if p0 ^^ c then 1 else 0) + (if p1 ^^ (c && p0) then 2 else 0) + (if p2 ^^ (c && p0 && p1) then 4 else 0) + (if p3 ^^ (c && p0 && p1 && p2) then 8 else 0) : Nat) = ((if p0 then 1 else 0) + (if p1 then 2 else 0) + (if p2 then 4 else 0) + (if p3 then 8 else 0)) + (if c then 1 else 0) := by
  revert h
  cases p0 <;> cases p1 <;> cases p2 <;> cases p3 <;> cases c <;> decide
theorem sp_tadd {Q : zM → Prop} {x : Int64} (hK : tK t a = 6) (hb : gR m a 0 = b) (hKb : tK t b = 15) (hLb : tL t b = 4) (hs : ∀ i, i < 64 → tv m b i < 15) (hQ : ∀ m', Fr [b] m m' → (∀ i, i < 64 → tv m' b i = tv m b i + if bw x i then 1 else 0) → Q m') : wX6_add t m a x Q := by
  unfold wX6_add
  refine ⟨5, ?_⟩
  have h0 : ¬ Int32.ofNat 4 ≤ 0 := by decide
  have h1 : ¬ Int32.ofNat 4 ≤ 0 + 1 := by decide
  have h2 : ¬ Int32.ofNat 4 ≤ 0 + 1 + 1 := by decide
  have h3 : ¬ Int32.ofNat 4 ≤ 0 + 1 + 1 + 1 := by decide
  have h4 : Int32.ofNat 4 ≤ 0 + 1 + 1 + 1 + 1 := by decide
  have v0 : vp_in 0 4 := by unfold vp_in; decide
  have v1 : vp_in (0 + 1) 4 := by unfold vp_in; decide
  have v2 : vp_in (0 + 1 + 1) 4 := by unfold vp_in; decide
  have v3 : vp_in (0 + 1 + 1 + 1) 4 := by unfold vp_in; decide
  have n0 : (0 : Int32).toNatClampNeg = 0 := by decide
  have n1 : (0 + 1 : Int32).toNatClampNeg = 1 := by decide
  have n2 : (0 + 1 + 1 : Int32).toNatClampNeg = 2 := by decide
  have n3 : (0 + 1 + 1 + 1 : Int32).toNatClampNeg = 3 := by decide
  simp only [wX6_add_L5, gRJ, hb, hLb, h0, h1, h2, h3, h4, hK, hKb, v0, v1, v2, v3, n0, n1, n2, n3, forall_eq, not_true_eq_false, not_false_eq_true, true_and, false_implies, true_implies, and_true, gJJ]
  apply hQ
  · exact ((((Fr.rf).pJ (by simp)).pJ (by simp)).pJ (by simp)).pJ (by simp)
  · intro i hi
    have hh := hs i hi
    unfold tv at hh ⊢
    rw [← tally_bits _ _ _ _ (bw x i) hh]
    simp [gJJ, bw_xor, bw_and, Bool.and_assoc]
set_option maxHeartbeats 2000000 in
theorem sp_atMost {Q : Int64 → zM → Prop} {L : Nat} (hL : L ≤ 8) (hK : tK t a = 6) (hb : gR m a 0 = b) (hKb : tK t b = 15) (hLb : tL t b = 4) (hQ : ∀ r, (∀ i, i < 64 → bw r i = decide (tv m b i ≤ L)) → Q r m) : wX6_atMost t m a (nI L) Q := by
  unfold wX6_atMost
  refine ⟨fun _ => ⟨hK, by rw [hb]; exact hKb, ?_⟩, fun h => absurd (nI_pos' (by omega)) h⟩
  intro x4 h4
  rw [hb, hLb] at h4
  have h4 : x4 = 3 := by rw [h4]; decide
  subst h4
  refine ⟨5, ?_⟩
  have c0 : ¬ (3 : Int32) < 0 := by decide
  have c1 : ¬ (3 + (-1) : Int32) < 0 := by decide
  have c2 : ¬ (3 + (-1) + (-1) : Int32) < 0 := by decide
  have c3 : ¬ (3 + (-1) + (-1) + (-1) : Int32) < 0 := by decide
  have c4 : (3 + (-1) + (-1) + (-1) + (-1) : Int32) < 0 := by decide
  have v0 : vp_in 3 4 := by unfold vp_in; decide
  have v1 : vp_in (3 + (-1)) 4 := by unfold vp_in; decide
  have v2 : vp_in (3 + (-1) + (-1)) 4 := by unfold vp_in; decide
  have v3 : vp_in (3 + (-1) + (-1) + (-1)) 4 := by unfold vp_in; decide
  have n0 : (3 : Int32).toNatClampNeg = 3 := by decide
  have n1 : (3 + (-1) : Int32).toNatClampNeg = 2 := by decide
  have n2 : (3 + (-1) + (-1) : Int32).toNatClampNeg = 1 := by decide
  have n3 : (3 + (-1) + (-1) + (-1) : Int32).toNatClampNeg = 0 := by decide
  have key : ∀ (q3 q2 q1 q0 : Bool), ((nI L >>> ((3 : Int32) &&& 31)) &&& 1 = 0 ↔ q3 = false) → ((nI L >>> ((3 + (-1) : Int32) &&& 31)) &&& 1 = 0 ↔ q2 = false) → ((nI L >>> ((3 + (-1) + (-1) : Int32) &&& 31)) &&& 1 = 0 ↔ q1 = false) → ((nI L >>> ((3 + (-1) + (-1) + (-1) : Int32) &&& 31)) &&& 1 = 0 ↔ q0 = false) → L = (if q0 then 1 else 0) + (if q1 then 2 else 0) + (if q2 then 4 else 0) + (if q3 then 8 else 0) → wX6_atMost_L22 t a (nI L) Q (fun v16 m17 => Q (v16 ^^^ (-1)) m17) 5 0 (-1) 3 m := by
    intro q3 q2 q1 q0 e3 e2 e1 e0 eL
    simp only [wX6_atMost_L22, wX6_atMost_J80, e3, e2, e1, e0, hb, hLb, hK, hKb, c0, c1, c2, c3, c4, v0, v1, v2, v3, n0, n1, n2, n3, forall_eq, not_true_eq_false, not_false_eq_true, true_and, false_implies, true_implies, and_true]
    have fin : ∀ r : Int64, (∀ i, i < 64 → bw r i = decide (tv m b i ≤ L)) → Q r m := hQ
    cases q3 <;> cases q2 <;> cases q1 <;> cases q0 <;> simp only [reduceCtorEq, not_true_eq_false, not_false_eq_true, false_implies, true_implies, and_true, true_and, if_true, if_false, Nat.zero_add, Nat.add_zero] at eL ⊢ <;>
      (apply fin; intro i hi; subst eL; unfold tv; simp only [bw_not _ hi, bw_or, bw_and, bw_0, bw_m1 hi]; cases bw (gJ m b 0) i <;> cases bw (gJ m b 1) i <;> cases bw (gJ m b 2) i <;> cases bw (gJ m b 3) i <;> decide)
  rcases (show L = 0 ∨ L = 1 ∨ L = 2 ∨ L = 3 ∨ L = 4 ∨ L = 5 ∨ L = 6 ∨ L = 7 ∨ L = 8 by omega) with rfl | rfl | rfl | rfl | rfl | rfl | rfl | rfl | rfl
  · exact key false false false false (by decide) (by decide) (by decide) (by decide) rfl
  · exact key false false false true (by decide) (by decide) (by decide) (by decide) rfl
  · exact key false false true false (by decide) (by decide) (by decide) (by decide) rfl
  · exact key false false true true (by decide) (by decide) (by decide) (by decide) rfl
  · exact key false true false false (by decide) (by decide) (by decide) (by decide) rfl
  · exact key false true false true (by decide) (by decide) (by decide) (by decide) rfl
  · exact key false true true false (by decide) (by decide) (by decide) (by decide) rfl
  · exact key false true true true (by decide) (by decide) (by decide) (by decide) rfl
  · exact key true false false false (by decide) (by decide) (by decide) (by decide) rfl
theorem sp_atMost_neg {Q : Int64 → zM → Prop} (hQ : Q 0 m) : wX6_atMost t m a (-1) Q := by
  unfold wX6_atMost
  exact ⟨fun h => absurd h (by decide), fun _ => hQ⟩
/-- the least count at the places of a word (8 or more: 8) -/
theorem sp_leastIn {Q : Int32 → zM → Prop} {x : Int64} (hK : tK t a = 6) (hb : gR m a 0 = b) (hKb : tK t b = 15) (hLb : tL t b = 4) (hQ : ∀ k, k ≤ 8 → (∀ i, i < 64 → bw x i = true → k ≤ tv m b i) → (k < 8 → ∃ i, i < 64 ∧ bw x i = true ∧ tv m b i = k) → Q (nI k) m) : wX6_leastIn t m a x Q := by
  unfold wX6_leastIn
  refine ⟨9, ?_⟩
  have key : ∀ d k : Nat, k + d = 8 → (∀ i, i < 64 → bw x i = true → k ≤ tv m b i) → wX6_leastIn_L2 t a x Q (fun m6 => Q 8 m6) (d + 1) (nI k) m := by
    intro d
    induction d with
    | zero =>
      intro k hk hlo
      have : k = 8 := by omega
      subst this
      rw [wX6_leastIn_L2]
      exact ⟨fun _ => hQ 8 (by omega) hlo (fun h => absurd h (by omega)), fun h => absurd (by decide) h⟩
    | succ d ih =>
      intro k hk hlo
      rw [wX6_leastIn_L2]
      refine ⟨fun h => absurd h (nI_ge (a := k) (b := 8) (by omega) (by omega)), fun _ => ⟨hK, ?_⟩⟩
      refine sp_atMost (by omega) hK hb hKb hLb (fun r hr => ?_)
      rw [lg_cmp_eq]
      refine ⟨fun h => ?_, fun h => ?_⟩
      · rw [nI_1]
        refine ih (k + 1) (by omega) (fun i hi hx => ?_)
        have h1 := bw_zero.mp h i hi
        rw [bw_and, hx, hr i hi, Bool.true_and] at h1
        have := of_decide_eq_false h1
        omega
      · refine hQ k (by omega) hlo (fun _ => ?_)
        have h2 : ∃ i, i < 64 ∧ bw (x &&& r) i = true := by
          apply Classical.byContradiction
          intro hn
          apply h
          apply bw_zero.mpr
          intro i hi
          cases hx : bw (x &&& r) i with
          | false => rfl
          | true => exact absurd ⟨i, hi, hx⟩ hn
        obtain ⟨i, hi, hx⟩ := h2
        rw [bw_and, hr i hi, Bool.and_eq_true] at hx
        have h3 := hlo i hi hx.1
        have h4 := of_decide_eq_true hx.2
        exact ⟨i, hi, hx.1, by omega⟩
  exact key 8 0 (by omega) (fun _ _ _ => Nat.zero_le _)
/-- the greatest count at the places of a word that has one (8 or more: 8) -/
theorem sp_mostIn {Q : Int32 → zM → Prop} {x : Int64} (hK : tK t a = 6) (hb : gR m a 0 = b) (hKb : tK t b = 15) (hLb : tL t b = 4) (hQ : ∀ k, k ≤ 8 → (k < 8 → ∀ i, i < 64 → bw x i = true → tv m b i ≤ k) → (0 < k → ∃ i, i < 64 ∧ bw x i = true ∧ k ≤ tv m b i) → Q (nI k) m) : wX6_mostIn t m a x Q := by
  unfold wX6_mostIn
  refine ⟨9, ?_⟩
  have key : ∀ d k : Nat, k + d = 8 → (0 < k → ∃ i, i < 64 ∧ bw x i = true ∧ k ≤ tv m b i) → wX6_mostIn_L2 t a x Q (fun m6 => Q 8 m6) (d + 1) (nI k) m := by
    intro d
    induction d with
    | zero =>
      intro k hk hlo
      have : k = 8 := by omega
      subst this
      rw [wX6_mostIn_L2]
      exact ⟨fun _ => hQ 8 (by omega) (fun h => absurd h (by omega)) hlo, fun h => absurd (by decide) h⟩
    | succ d ih =>
      intro k hk hlo
      rw [wX6_mostIn_L2]
      refine ⟨fun h => absurd h (nI_ge (a := k) (b := 8) (by omega) (by omega)), fun _ => ⟨hK, ?_⟩⟩
      refine sp_atMost (by omega) hK hb hKb hLb (fun r hr => ?_)
      rw [lg_cmp_eq]
      refine ⟨fun h => ?_, fun h => ?_⟩
      · refine hQ k (by omega) (fun _ i hi hx => ?_) hlo
        have h1 := bw_zero.mp h i hi
        rw [bw_and, hx, bw_not _ hi, hr i hi, Bool.true_and] at h1
        simpa using h1
      · rw [nI_1]
        refine ih (k + 1) (by omega) (fun _ => ?_)
        have h2 : ∃ i, i < 64 ∧ bw (x &&& (r ^^^ (-1))) i = true := by
          apply Classical.byContradiction
          intro hn
          apply h
          apply bw_zero.mpr
          intro i hi
          cases hx : bw (x &&& (r ^^^ (-1))) i with
          | false => rfl
          | true => exact absurd ⟨i, hi, hx⟩ hn
        obtain ⟨i, hi, hx⟩ := h2
        rw [bw_and, bw_not _ hi, hr i hi, Bool.and_eq_true] at hx
        refine ⟨i, hi, hx.1, ?_⟩
        have := hx.2
        simp at this
        omega
  exact key 8 0 (by omega) (fun h => absurd h (by omega))
end
