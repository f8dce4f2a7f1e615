/-! What reading keeps to -/
def c6 (x : Nat) : Nat := (if x.testBit 0 then 1 else 0) + (if x.testBit 1 then 1 else 0) + (if x.testBit 2 then 1 else 0) + (if x.testBit 3 then 1 else 0) + (if x.testBit 4 then 1 else 0) + (if x.testBit 5 then 1 else 0)
theorem c6_6 (x : Nat) : c6 x ≤ 6 := by
  unfold c6
  repeat' split
  all_goals omega
theorem c6_or : ∀ x, x < 64 → ∀ a, a < 6 → x.testBit a = false → c6 (x ||| 2 ^ a) = c6 x + 1 := by decide +kernel
section
variable {B : Nat → Nat} {n a : Nat} {S N S' N' : Sc} {k k' : Tk} {w v c s x : Nat}
theorem pw_cg {A A' : Nat → Nat} : ∀ (m lo : Nat), (∀ i, lo ≤ i → i < lo + m → A i = A' i) → pw A lo m = pw A' lo m := by
  intro m
  induction m with
  | zero => intro lo _; rfl
  | succ m ih => intro lo h; rw [pw, pw, h lo (Nat.le_refl _) (by omega), ih (lo + 1) (fun i h1 h2 => h i (by omega) (by omega))]
theorem cA_thing {t : Nat} : cA (stS (stS S 1 (cT S) v) 0 0 (cT S + 1)) t = if t = cT S then v else cA S t := by
  show (if 1 = 0 ∧ t = 0 then cT S + 1 else if 1 = 1 ∧ t = cT S then v else S 1 t) = _
  rw [if_neg (by omega)]
  by_cases h : t = cT S
  · rw [if_pos ⟨rfl, h⟩, if_pos h]
  · rw [if_neg (fun z => h z.2), if_neg h]
theorem cnt_thing : cnt (stS (stS S 1 (cT S) v) 0 0 (cT S + 1)) = cnt S * v := by
  show pw _ 0 (cT S + 1) = _
  rw [pw_split _ (cT S) 0 1, pw_cg (A' := cA S) (cT S) 0 (fun i h1 h2 => by rw [cA_thing, if_neg (by omega)])]
  show pw (cA S) 0 (cT S) * (cA _ (0 + cT S) * 1) = _
  rw [cA_thing, if_pos (by omega), Nat.mul_one]
  rfl
theorem Vq.aN (nw : ∀ i, i < N 0 0 → N 1 i < 1099511627776) (hw : w < 1099511627776) : ∀ i, i < aN N w s x 0 0 → aN N w s x 1 i < 1099511627776 := by
  intro i hi
  rw [aN_0] at hi
  rw [aN_1]
  split
  · exact hw
  · exact nw i (by omega)
theorem pThing_ok (V : Vq S N) (T : TO n k) (h : pThing B n S N k = .inr (S', N', k')) : Vq S' N' ∧ TO n k' ∧ k.2.2.1 < k'.2.2.1 := by
  unfold pThing at h
  have T1 := adv_ok (B := B) T
  have T2 := adv_ok (B := B) T1
  have T3 := adv_ok (B := B) T2
  have T4 := adv_ok (B := B) T3
  have l0 := adv_le (B := B) T
  have l1 := adv_le (B := B) T1
  have l2 := adv_le (B := B) T2
  have l3 := adv_le (B := B) T3
  have g1 := adv_lt (B := B) T
  obtain ⟨y1, e1, h⟩ := bd_inv h
  obtain ⟨w, e2, h⟩ := bd_inv h
  obtain ⟨y3, e3, h⟩ := bd_inv h
  obtain ⟨v, e4, h⟩ := bd_inv h
  have p1 := pMn_i e1
  have p2 := pNew_i e2
  have p4 := pWh_i e4
  have wb := T1.wd p2.1
  rw [← p2.2] at wb
  have gg := g1 (by rw [p2.1]; decide)
  by_cases hc : cnt S * v ≤ 4096
  · rw [if_pos hc] at h
    cases h
    have eA : ∀ t, t < cT S → cA (stS (stS S 1 (cT S) v) 0 0 (cT S + 1)) t = cA S t := fun t ht => by rw [cA_thing, if_neg (by omega)]
    refine ⟨⟨p1, fun t ht => ?_, by rw [cnt_thing]; exact hc, V.c99, V.f6, fun j hj => ?_, V.m6, V.kd, V.lw, V.wr, V.n16, fun j hj => ?_, V.ch5, V.he, ?_, V.nw |> fun z => Vq.aN z wb, fun i hi h2 => ?_, fun i hi h2 => ?_⟩, T4, by omega⟩
    · rw [cA_thing]
      split
      · exact ⟨p4.2.1, p4.2.2.1⟩
      · have ht' : t < cT S + 1 := ht
        exact V.a2 t (by omega)
    · obtain ⟨q1, q2, q3, q4⟩ := V.fol j hj
      refine ⟨Nat.lt_succ_of_lt q1, ?_, Nat.lt_succ_of_lt q3, ?_⟩
      · show cIa S j < cA _ (cIt S j)
        rw [eA _ q1]; exact q2
      · show cTa S j < cA _ (cTt S j)
        rw [eA _ q3]; exact q4
    · obtain ⟨q1, q2, q3⟩ := V.say j hj
      refine ⟨q1, Nat.lt_succ_of_lt q2, ?_⟩
      show cWh S j < cA _ (cOf S j)
      rw [eA _ q2]; exact q3
    · rw [aN_0, V.nc]
      show cT S + cM S + cCh S + 1 = (cT S + 1) + cM S + cCh S
      omega
    · rw [aN_0] at hi
      rw [aN_2] at h2
      rw [aN_3]
      show _ < cT S + 1
      by_cases z : i = N 0 0
      · rw [if_pos z]; omega
      · rw [if_neg z] at h2 ⊢
        have := V.n0 i (by omega) h2
        omega
    · rw [aN_0] at hi
      rw [aN_2] at h2
      rw [aN_3]
      by_cases z : i = N 0 0
      · rw [if_pos z] at h2; omega
      · rw [if_neg z] at h2 ⊢
        exact V.n1 i (by omega) h2
  · rw [if_neg hc] at h; cases h
theorem pMaster_ok (V : Vq S N) (T : TO n k) (h : pMaster B n S N k = .inr (S', N', k')) : Vq S' N' ∧ TO n k' ∧ k.2.2.1 < k'.2.2.1 := by
  unfold pMaster at h
  have T1 := adv_ok (B := B) T
  have T2 := adv_ok (B := B) T1
  have T3 := adv_ok (B := B) T2
  have l0 := adv_le (B := B) T
  have l1 := adv_le (B := B) T1
  have l2 := adv_le (B := B) T2
  have g1 := adv_lt (B := B) T
  obtain ⟨y1, e1, h⟩ := bd_inv h
  obtain ⟨w, e2, h⟩ := bd_inv h
  obtain ⟨d, e3, h⟩ := bd_inv h
  have p1 := pMn_i e1
  have p2 := pNew_i e2
  have p3 := pKd_i e3
  have wb := T1.wd p2.1
  rw [← p2.2] at wb
  have gg := g1 (by rw [p2.1]; decide)
  cases h
  refine ⟨⟨V.t8, V.a2, V.cnt, V.c99, V.f6, V.fol, p1, fun j hj => ?_, V.lw, V.wr, V.n16, fun j hj => ?_, V.ch5, fun j hj => ?_, ?_, V.nw |> fun z => Vq.aN z wb, fun i hi h2 => ?_, fun i hi h2 => ?_⟩, T3, by omega⟩
  · show (if 9 = 8 ∧ j = 0 then cM S + 1 else if 9 = 9 ∧ j = cM S then d else S 9 j) < 4
    have hj' : j < cM S + 1 := hj
    rw [if_neg (by omega)]
    by_cases z : j = cM S
    · rw [if_pos ⟨rfl, z⟩]; exact p3.2
    · rw [if_neg (fun y => z y.2)]; exact V.kd j (by omega)
  · obtain ⟨q1, q2, q3⟩ := V.say j hj
    exact ⟨Nat.lt_succ_of_lt q1, q2, q3⟩
  · have := V.he j hj
    show cHe S j < 2 ^ (cM S + 1)
    rw [Nat.pow_succ]; omega
  · rw [aN_0, V.nc]
    show cT S + cM S + cCh S + 1 = cT S + (cM S + 1) + cCh S
    omega
  · rw [aN_0] at hi
    rw [aN_2] at h2
    rw [aN_3]
    by_cases z : i = N 0 0
    · rw [if_pos z] at h2; omega
    · rw [if_neg z] at h2 ⊢
      exact V.n0 i (by omega) h2
  · rw [aN_0] at hi
    rw [aN_2] at h2
    rw [aN_3]
    show _ < cM S + 1
    by_cases z : i = N 0 0
    · rw [if_pos z]; omega
    · rw [if_neg z] at h2 ⊢
      have := V.n1 i (by omega) h2
      omega
theorem pHr_ok {M : Nat} (hM : ∀ k y, pKn N 1 k = .inr y → y < M) : ∀ (f set : Nat) (k : Tk) (q : Nat × Tk), set < 2 ^ M → TO n k → pHr B n N f set k = .inr q → q.1 < 2 ^ M ∧ TO n q.2 ∧ k.2.2.1 ≤ q.2.2.2.1 := by
  intro f
  induction f with
  | zero => intro set k q _ _ h; cases h
  | succ f ih =>
    intro set k q hs T h
    rw [pHr] at h
    obtain ⟨y, e1, h⟩ := bd_inv h
    have hy := hM k y e1
    have so : set ||| 2 ^ y < 2 ^ M := Nat.or_lt_two_pow hs (Nat.pow_lt_pow_right (by decide) hy)
    have T1 := adv_ok (B := B) T
    have l0 := adv_le (B := B) T
    by_cases h1 : set.testBit y = true
    · rw [if_pos h1] at h; cases h
    · rw [if_neg h1] at h
      by_cases h2 : (adv B n k).1 = 4
      · rw [if_pos h2] at h
        obtain ⟨q1, q2, q3⟩ := ih _ _ q so (adv_ok (B := B) T1) h
        have l1 := adv_le (B := B) T1
        exact ⟨q1, q2, by omega⟩
      · rw [if_neg h2] at h
        cases h
        exact ⟨so, T1, l0⟩
theorem pChild_ok (V : Vq S N) (T : TO n k) (h : pChild B n S N k = .inr (S', N', k')) : Vq S' N' ∧ TO n k' ∧ k.2.2.1 < k'.2.2.1 := by
  unfold pChild at h
  have T1 := adv_ok (B := B) T
  have T2 := adv_ok (B := B) T1
  have T3 := adv_ok (B := B) T2
  have l1 := adv_le (B := B) T1
  have l2 := adv_le (B := B) T2
  have g1 := adv_lt (B := B) T
  obtain ⟨y1, e1, h⟩ := bd_inv h
  obtain ⟨w, e2, h⟩ := bd_inv h
  obtain ⟨y3, e3, h⟩ := bd_inv h
  obtain ⟨q, e4, h⟩ := bd_inv h
  have p1 := pMn_i e1
  have p2 := pNew_i e2
  obtain ⟨q1, q2, q3⟩ := pHr_ok (fun k y e => pKn_1 V e) 7 0 _ q (Nat.two_pow_pos _) T3 e4
  have wb := T1.wd p2.1
  rw [← p2.2] at wb
  have gg := g1 (by rw [p2.1]; decide)
  cases h
  refine ⟨⟨V.t8, V.a2, V.cnt, V.c99, V.f6, V.fol, V.m6, V.kd, V.lw, V.wr, V.n16, V.say, p1, fun j hj => ?_, ?_, V.nw |> fun z => Vq.aN z wb, fun i hi h2 => ?_, fun i hi h2 => ?_⟩, q2, by omega⟩
  · show (if 17 = 16 ∧ j = 0 then cCh S + 1 else if 17 = 17 ∧ j = cCh S then q.1 else S 17 j) < 2 ^ cM S
    have hj' : j < cCh S + 1 := hj
    rw [if_neg (by omega)]
    by_cases z : j = cCh S
    · rw [if_pos ⟨rfl, z⟩]; exact q1
    · rw [if_neg (fun y => z y.2)]; exact V.he j (by omega)
  · rw [aN_0, V.nc]
    show cT S + cM S + cCh S + 1 = cT S + cM S + (cCh S + 1)
    omega
  · rw [aN_0] at hi
    rw [aN_2] at h2
    rw [aN_3]
    by_cases z : i = N 0 0
    · rw [if_pos z] at h2; omega
    · rw [if_neg z] at h2 ⊢
      exact V.n0 i (by omega) h2
  · rw [aN_0] at hi
    rw [aN_2] at h2
    rw [aN_3]
    by_cases z : i = N 0 0
    · rw [if_pos z] at h2; omega
    · rw [if_neg z] at h2 ⊢
      exact V.n1 i (by omega) h2
theorem pFollows_ok (V : Vq S N) (T : TO n k) (h : pFollows B n S N k = .inr (S', N', k')) : Vq S' N' ∧ TO n k' ∧ k.2.2.1 < k'.2.2.1 := by
  unfold pFollows at h
  have T1 := adv_ok (B := B) T
  have T2 := adv_ok (B := B) T1
  have T3 := adv_ok (B := B) T2
  have T4 := adv_ok (B := B) T3
  have T5 := adv_ok (B := B) T4
  have T6 := adv_ok (B := B) T5
  have l1 := adv_le (B := B) T1
  have l2 := adv_le (B := B) T2
  have l3 := adv_le (B := B) T3
  have l4 := adv_le (B := B) T4
  have l5 := adv_le (B := B) T5
  have g1 := adv_lt (B := B) T
  obtain ⟨y1, e1, h⟩ := bd_inv h
  obtain ⟨a, e2, h⟩ := bd_inv h
  obtain ⟨v, e3, h⟩ := bd_inv h
  by_cases hc : (adv B n (adv B n (adv B n k))).1 = 4
  · rw [if_pos hc] at h
    unfold pFollow2 at h
    obtain ⟨b, e4, h⟩ := bd_inv h
    by_cases hab : a = b
    · rw [if_pos hab] at h; cases h
    · rw [if_neg hab] at h
      obtain ⟨u, e5, h⟩ := bd_inv h
      have p1 := pMn_i e1
      have p2 := (pKn_i e2).1
      have p3 := pWh_i e3
      have p5 := pWh_i e5
      have a_ := pKn_0 V e2
      have b_ := pKn_0 V e4
      have aa := V.a2 a a_
      have ba := V.a2 b b_
      have gg := g1 (by rw [p2]; decide)
      cases h
      refine ⟨⟨V.t8, V.a2, V.cnt, V.c99, p1, fun j hj => ?_, V.m6, V.kd, V.lw, V.wr, V.n16, V.say, V.ch5, V.he, V.nc, V.nw, V.n0, V.n1⟩, T6, by omega⟩
      have hj' : j < cF S + 1 := hj
      show (if 4 = 3 ∧ j = 0 then cF S + 1 else if 4 = 7 ∧ j = cF S then u else if 4 = 6 ∧ j = cF S then b else if 4 = 5 ∧ j = cF S then v else if 4 = 4 ∧ j = cF S then a else S 4 j) < cT S ∧ (if 5 = 3 ∧ j = 0 then cF S + 1 else if 5 = 7 ∧ j = cF S then u else if 5 = 6 ∧ j = cF S then b else if 5 = 5 ∧ j = cF S then v else if 5 = 4 ∧ j = cF S then a else S 5 j) < cA S (if 4 = 3 ∧ j = 0 then cF S + 1 else if 4 = 7 ∧ j = cF S then u else if 4 = 6 ∧ j = cF S then b else if 4 = 5 ∧ j = cF S then v else if 4 = 4 ∧ j = cF S then a else S 4 j) ∧ (if 6 = 3 ∧ j = 0 then cF S + 1 else if 6 = 7 ∧ j = cF S then u else if 6 = 6 ∧ j = cF S then b else if 6 = 5 ∧ j = cF S then v else if 6 = 4 ∧ j = cF S then a else S 6 j) < cT S ∧ (if 7 = 3 ∧ j = 0 then cF S + 1 else if 7 = 7 ∧ j = cF S then u else if 7 = 6 ∧ j = cF S then b else if 7 = 5 ∧ j = cF S then v else if 7 = 4 ∧ j = cF S then a else S 7 j) < cA S (if 6 = 3 ∧ j = 0 then cF S + 1 else if 6 = 7 ∧ j = cF S then u else if 6 = 6 ∧ j = cF S then b else if 6 = 5 ∧ j = cF S then v else if 6 = 4 ∧ j = cF S then a else S 6 j)
      by_cases z : j = cF S
      · simp (config := { decide := true }) only [z, false_and, true_and, if_false, if_true]
        exact ⟨a_, by omega, b_, by omega⟩
      · simp (config := { decide := true }) only [z, false_and, and_false, if_false]
        exact V.fol j (by omega)
  · rw [if_neg hc] at h; cases h
theorem pSays_ok (V : Vq S N) (T : TO n k) (h : pSays B n S N k = .inr (S', N', k')) : Vq S' N' ∧ TO n k' ∧ k.2.2.1 < k'.2.2.1 := by
  unfold pSays at h
  have T1 := adv_ok (B := B) T
  have T2 := adv_ok (B := B) T1
  have T3 := adv_ok (B := B) T2
  have T4 := adv_ok (B := B) T3
  have l1 := adv_le (B := B) T1
  have l2 := adv_le (B := B) T2
  have l3 := adv_le (B := B) T3
  have g1 := adv_lt (B := B) T
  obtain ⟨y1, e1, h⟩ := bd_inv h
  obtain ⟨a, e2, h⟩ := bd_inv h
  obtain ⟨b, e3, h⟩ := bd_inv h
  obtain ⟨v, e4, h⟩ := bd_inv h
  have p1 := pMn_i e1
  have p2 := (pKn_i e2).1
  have p4 := pWh_i e4
  have a_ := pKn_1 V e2
  have b_ := pKn_0 V e3
  have ba := V.a2 b b_
  have gg := g1 (by rw [p2]; decide)
  cases h
  refine ⟨⟨V.t8, V.a2, V.cnt, V.c99, V.f6, V.fol, V.m6, V.kd, V.lw, V.wr, p1, fun j hj => ?_, V.ch5, V.he, V.nc, V.nw, V.n0, V.n1⟩, T4, by omega⟩
  have hj' : j < cN S + 1 := hj
  show (if 13 = 12 ∧ j = 0 then cN S + 1 else if 13 = 15 ∧ j = cN S then v else if 13 = 14 ∧ j = cN S then b else if 13 = 13 ∧ j = cN S then a else S 13 j) < cM S ∧ (if 14 = 12 ∧ j = 0 then cN S + 1 else if 14 = 15 ∧ j = cN S then v else if 14 = 14 ∧ j = cN S then b else if 14 = 13 ∧ j = cN S then a else S 14 j) < cT S ∧ (if 15 = 12 ∧ j = 0 then cN S + 1 else if 15 = 15 ∧ j = cN S then v else if 15 = 14 ∧ j = cN S then b else if 15 = 13 ∧ j = cN S then a else S 15 j) < cA S (if 14 = 12 ∧ j = 0 then cN S + 1 else if 14 = 15 ∧ j = cN S then v else if 14 = 14 ∧ j = cN S then b else if 14 = 13 ∧ j = cN S then a else S 14 j)
  by_cases z : j = cN S
  · simp (config := { decide := true }) only [z, false_and, true_and, if_false, if_true]
    exact ⟨a_, b_, by omega⟩
  · simp (config := { decide := true }) only [z, false_and, and_false, if_false]
    exact V.say j (by omega)
theorem pTrial_ok (V : Vq S N) (T : TO n k) (h : pTrial B n S N k = .inr (S', N', k')) : Vq S' N' ∧ TO n k' ∧ k.2.2.1 < k'.2.2.1 := by
  unfold pTrial at h
  have T1 := adv_ok (B := B) T
  have T2 := adv_ok (B := B) T1
  have T3 := adv_ok (B := B) T2
  have T4 := adv_ok (B := B) T3
  have l1 := adv_le (B := B) T1
  have l2 := adv_le (B := B) T2
  have l3 := adv_le (B := B) T3
  have g1 := adv_lt (B := B) T
  obtain ⟨a, e1, h⟩ := bd_inv h
  by_cases hc : cC S a = 0
  · rw [if_pos hc] at h
    obtain ⟨y2, e2, h⟩ := bd_inv h
    obtain ⟨v, e3, h⟩ := bd_inv h
    have p1 := (pKn_i e1).1
    have p3 := pWh_i e3
    have gg := g1 (by rw [p1]; decide)
    cases h
    refine ⟨⟨V.t8, V.a2, V.cnt, fun j hj => ?_, V.f6, V.fol, V.m6, V.kd, V.lw, V.wr, V.n16, V.say, V.ch5, V.he, V.nc, V.nw, V.n0, V.n1⟩, T4, by omega⟩
    show (if 2 = 18 ∧ j = 0 then cTr S + 1 else if 2 = 2 ∧ j = a then v else S 2 j) ≤ 99
    rw [if_neg (by omega)]
    by_cases z : j = a
    · rw [if_pos ⟨rfl, z⟩]; exact p3.2.2.1
    · rw [if_neg (fun y => z y.2)]; exact V.c99 j hj
  · rw [if_neg hc] at h; cases h
theorem lw_or {l j : Nat} (h : l < 8) (hj : j < 3) : l ||| 2 ^ j < 8 := Nat.or_lt_two_pow (n := 3) h (Nat.pow_lt_pow_right (by decide) hj)
theorem pLaw_ok (V : Vq S N) (T : TO n k) (h : pLaw B n S N k = .inr (S', N', k')) : Vq S' N' ∧ TO n k' ∧ k.2.2.1 < k'.2.2.1 := by
  unfold pLaw at h
  have T1 := adv_ok (B := B) T
  have T2 := adv_ok (B := B) T1
  have T3 := adv_ok (B := B) T2
  have l1 := adv_le (B := B) T1
  have l2 := adv_le (B := B) T2
  have g1 := adv_lt (B := B) T
  obtain ⟨j, e1, h⟩ := bd_inv h
  have p1 := pLx_i e1
  have gg := g1 (by rw [p1.1]; decide)
  have lo := lw_or V.lw p1.2
  by_cases hc : (cLw S).testBit j = true
  · rw [if_pos hc] at h; cases h
  · rw [if_neg hc] at h
    by_cases hj : j = 1
    · rw [if_pos hj] at h
      obtain ⟨v, e2, h⟩ := bd_inv h
      have p2 := pWh_i e2
      cases h
      exact ⟨⟨V.t8, V.a2, V.cnt, V.c99, V.f6, V.fol, V.m6, V.kd, lo, fun _ => p2.2.2.1, V.n16, V.say, V.ch5, V.he, V.nc, V.nw, V.n0, V.n1⟩, T3, by omega⟩
    · rw [if_neg hj] at h
      cases h
      refine ⟨⟨V.t8, V.a2, V.cnt, V.c99, V.f6, V.fol, V.m6, V.kd, lo, fun z => V.wr ?_, V.n16, V.say, V.ch5, V.he, V.nc, V.nw, V.n0, V.n1⟩, T2, by omega⟩
      have z' : (cLw S ||| 2 ^ j).testBit 1 = true := z
      rw [Nat.testBit_or, Nat.testBit_two_pow_of_ne hj, Bool.or_false] at z'
      exact z'
theorem pLine_ok (V : Vq S N) (T : TO n k) (h : pLine B n S N k = .inr (S', N', k')) : Vq S' N' ∧ TO n k' ∧ k.2.2.1 < k'.2.2.1 := by
  unfold pLine at h
  by_cases z1 : isW k 21243335 = true
  · rw [if_pos z1] at h; exact pThing_ok V T h
  rw [if_neg z1] at h
  by_cases z2 : isW k 6958759667 = true
  · rw [if_pos z2] at h; exact pFollows_ok V T h
  rw [if_neg z2] at h
  by_cases z3 : isW k 437899442 = true
  · rw [if_pos z3] at h; exact pMaster_ok V T h
  rw [if_neg z3] at h
  by_cases z4 : isW k 12343 = true
  · rw [if_pos z4] at h; exact pLaw_ok V T h
  rw [if_neg z4] at h
  by_cases z5 : isW k 624435 = true
  · rw [if_pos z5] at h; exact pSays_ok V T h
  rw [if_neg z5] at h
  by_cases z6 : isW k 3417476 = true
  · rw [if_pos z6] at h; exact pChild_ok V T h
  rw [if_neg z6] at h
  by_cases z7 : isW k 21570604 = true
  · rw [if_pos z7] at h; exact pTrial_ok V T h
  rw [if_neg z7] at h
  cases h
end
