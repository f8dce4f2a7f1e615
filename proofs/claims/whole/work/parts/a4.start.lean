/-! Both constructors, and the law's row: what holds before the first call -/
def RTn (t : zT) : zT := tNew (tNew (tNew (tNew (tNew (tNew (tNew (tNew (tNew t 12 0) 13 900) 13 32768) 16 4096) 14 32) 14 8) 14 8) 14 11) 14 33
def RMn (m : zM) : zM := pR (zClr (pR (zClr (pR (zClr (pR (zClr (pR (zClr (pR (zClr (pR (zClr (pR (zClr (pI (zClr m 75) 75 2 (-1)) 76) 75 5 76) 77) 75 16 77) 78) 75 17 78) 79) 75 18 79) 80) 75 20 80) 81) 75 25 81) 82) 75 26 82) 83) 75 27 83
section
variable {t : zT} {m : zM} {Q : zT → zM → Prop}
theorem ini_r (hN : tN t = 75) (h : Q (RTn t) (RMn m)) : wX12_init (8, 37856) (tNew t 12 0) (zClr m (tN t)) (tN t) Q := by
  obtain ⟨n, k, l⟩ := t
  have e : n = 75 := hN
  subst e
  unfold wX12_init
  exact ⟨Nat.le_of_ble_eq_true rfl, rfl, ⟨Nat.le_of_ble_eq_true rfl, Nat.le_of_ble_eq_true rfl⟩, fun _ => ⟨rfl, ⟨Nat.le_of_ble_eq_true rfl, Nat.le_of_ble_eq_true rfl⟩, fun _ => ⟨rfl, ⟨Nat.le_of_ble_eq_true rfl, Nat.le_of_ble_eq_true rfl⟩, fun _ => ⟨rfl, ⟨Nat.le_of_ble_eq_true rfl, Nat.le_of_ble_eq_true rfl⟩, fun _ => ⟨rfl, ⟨Nat.le_of_ble_eq_true rfl, Nat.le_of_ble_eq_true rfl⟩, fun _ => ⟨rfl, ⟨Nat.le_of_ble_eq_true rfl, Nat.le_of_ble_eq_true rfl⟩, fun _ => ⟨rfl, ⟨Nat.le_of_ble_eq_true rfl, Nat.le_of_ble_eq_true rfl⟩, fun _ => ⟨rfl, ⟨Nat.le_of_ble_eq_true rfl, Nat.le_of_ble_eq_true rfl⟩, fun _ => ⟨rfl, h⟩⟩⟩⟩⟩⟩⟩⟩⟩
theorem rm_I {a j : Nat} (h : a < 75) : gI (zClr (RMn m) 84) a j = gI m a j := by
  unfold RMn
  rw [zcI, if_neg (by omega), gIR, zcI, if_neg (by omega), gIR, zcI, if_neg (by omega), gIR, zcI, if_neg (by omega), gIR, zcI, if_neg (by omega), gIR, zcI, if_neg (by omega), gIR, zcI, if_neg (by omega), gIR, zcI, if_neg (by omega), gIR, zcI, if_neg (by omega), gII, if_neg (by omega), zcI, if_neg (by omega)]
theorem rm_R {a j : Nat} (h : a < 75) : gR (zClr (RMn m) 84) a j = gR m a j := by
  unfold RMn
  rw [zcR, if_neg (by omega), gRR, if_neg (by omega), zcR, if_neg (by omega), gRR, if_neg (by omega), zcR, if_neg (by omega), gRR, if_neg (by omega), zcR, if_neg (by omega), gRR, if_neg (by omega), zcR, if_neg (by omega), gRR, if_neg (by omega), zcR, if_neg (by omega), gRR, if_neg (by omega), zcR, if_neg (by omega), gRR, if_neg (by omega), zcR, if_neg (by omega), gRR, if_neg (by omega), zcR, if_neg (by omega), gRI, zcR, if_neg (by omega)]
theorem rt_K (hN : tN t = 75) {i : Nat} (h : i < 75) : tK (tNew (RTn t) 15 1) i = tK t i ∧ tL (tNew (RTn t) 15 1) i = tL t i := by
  obtain ⟨n, k, l⟩ := t
  have e : n = 75 := hN
  subst e
  refine ⟨?_, ?_⟩
  · change (if i = 84 then 15 else if i = 83 then 14 else if i = 82 then 14 else if i = 81 then 14 else if i = 80 then 14 else if i = 79 then 14 else if i = 78 then 16 else if i = 77 then 13 else if i = 76 then 13 else if i = 75 then 12 else k i) = k i
    rw [if_neg (by omega), if_neg (by omega), if_neg (by omega), if_neg (by omega), if_neg (by omega), if_neg (by omega), if_neg (by omega), if_neg (by omega), if_neg (by omega), if_neg (by omega)]
  · change (if i = 84 then 1 else if i = 83 then 33 else if i = 82 then 11 else if i = 81 then 8 else if i = 80 then 8 else if i = 79 then 32 else if i = 78 then 4096 else if i = 77 then 32768 else if i = 76 then 900 else if i = 75 then 0 else l i) = l i
    rw [if_neg (by omega), if_neg (by omega), if_neg (by omega), if_neg (by omega), if_neg (by omega), if_neg (by omega), if_neg (by omega), if_neg (by omega), if_neg (by omega), if_neg (by omega)]
theorem zR75 : zR0.filter (fun q => !decide (q.1 < 75)) = [(75, 5, 76), (75, 16, 77), (75, 17, 78), (75, 18, 79), (75, 20, 80), (75, 25, 81), (75, 26, 82), (75, 27, 83)] := by decide
theorem ini_inv (f : fcx t m) : Inv (tNew (RTn t) 15 1) (zClr (RMn m) 84) 0 := by
  obtain ⟨hN, hk, hr, x3, i24, t20, p13, p14, p15, s0, s1, s4, e21, e14, e15, z⟩ := f
  have tn : tN (tNew (RTn t) 15 1) = 85 := by
    obtain ⟨n, k, l⟩ := t
    have e : n = 75 := hN
    subst e
    rfl
  have K : ∀ i, i < 85 → tK (tNew (RTn t) 15 1) i = zK0.getD i 99 ∧ tL (tNew (RTn t) 15 1) i = zL0.getD i 0 := by
    intro i hi
    by_cases h : i < 75
    · rw [(rt_K hN h).1, (rt_K hN h).2]; exact hk i h
    · obtain ⟨n, k, l⟩ := t
      have e : n = 75 := hN
      subst e
      rcases (show i = 75 ∨ i = 76 ∨ i = 77 ∨ i = 78 ∨ i = 79 ∨ i = 80 ∨ i = 81 ∨ i = 82 ∨ i = 83 ∨ i = 84 by omega) with rfl | rfl | rfl | rfl | rfl | rfl | rfl | rfl | rfl | rfl <;> exact ⟨rfl, rfl⟩
  have L : Lay (tNew (RTn t) 15 1) (zClr (RMn m) 84) := by
    refine ⟨by rw [tn]; decide, K, fun q hq => ?_⟩
    by_cases h : q.1 < 75
    · rw [rm_R h]
      exact hr q (List.mem_filter.mpr ⟨hq, decide_eq_true h⟩)
    · have q2 : q ∈ zR0.filter (fun q => !decide (q.1 < 75)) := List.mem_filter.mpr ⟨hq, by rw [decide_eq_false h]; rfl⟩
      rw [zR75] at q2
      simp only [List.mem_cons, List.not_mem_nil, or_false] at q2
      rcases q2 with rfl | rfl | rfl | rfl | rfl | rfl | rfl | rfl <;> rfl
  have r21 : gR (zClr (RMn m) 84) 75 21 = 0 := rfl
  refine ⟨⟨⟨0, fun _ => 0, by decide, (rm_I (by decide)).trans e21, rfl, fun k hk => absurd hk (Nat.not_lt_zero _), fun k hk => absurd hk (Nat.not_lt_zero _)⟩, ((rm_I (by decide)).trans e15).trans rfl, ((rm_I (by decide)).trans e14).trans rfl, Or.inr ⟨by rw [rm_I (by decide), e14]; decide, rfl⟩⟩, Or.inr ⟨58, 59, 60, 0, ⟨⟨L, (rm_R (by decide)).trans x3, fun j hj => (rm_I (by decide)).trans (z j hj), rfl⟩, (rm_R (by decide)).trans i24, (rm_R (by decide)).trans t20, ⟨(rm_R (by decide)).trans p13, (rm_R (by decide)).trans p14, (rm_R (by decide)).trans p15, (K 58 (by decide)).1, (K 59 (by decide)).1, (K 60 (by decide)).1, (K 58 (by decide)).2, (K 59 (by decide)).2, (K 60 (by decide)).2, by decide, by decide, by decide, by decide, by decide, by decide, by decide⟩, ⟨by rw [tn]; decide, by rw [tn]; decide, by rw [tn]; decide⟩, r21, (rm_I (by decide)).trans s0, (rm_I (by decide)).trans s1, (rm_I (by decide)).trans s4⟩, ?_⟩⟩
  rw [us_0 r21]
  rfl
end
