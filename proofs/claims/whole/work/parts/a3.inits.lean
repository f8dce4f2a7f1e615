/-! What the class's constructor lays -/
def t0 : zT := (1, fun _ => 99, fun _ => 0)
def m0 : zM := (fun _ _ => 0, fun _ _ => 0, fun _ _ => 0)
abbrev fcx (t : zT) (m : zM) : Prop := tN t = 75 ∧ (∀ i, i < 75 → tK t i = zK0.getD i 99 ∧ tL t i = zL0.getD i 0) ∧ (∀ q ∈ zR0.filter (fun q => decide (q.1 < 75)), gR m q.1 q.2.1 = q.2.2) ∧ gR m 1 3 = 21 ∧ gR m 2 4 = 4 ∧ gR m 20 0 = 21 ∧ gR m 52 13 = 58 ∧ gR m 52 14 = 59 ∧ gR m 52 15 = 60 ∧ gI m 61 0 = 0 ∧ gI m 61 1 = -1 ∧ gI m 61 4 = 0 ∧ gI m 2 1 = 0 ∧ gI m 1 14 = 0 ∧ gI m 1 15 = 0 ∧ ∀ j, j < 20 → gI m 21 j = 0
set_option maxHeartbeats 4000000 in
set_option maxRecDepth 40000 in
theorem ini_x {Q : zT → zM → Prop} (h : ∀ t m, fcx t m → Q t m) : wX9_init (73, 3886) (tNew t0 9 0) (zClr m0 1) 1 Q := by
  try unfold wX9_init
  refine ⟨(by decide +kernel), ⟨⟨Nat.le_of_ble_eq_true rfl, Nat.le_of_ble_eq_true rfl⟩, fun _ => ⟨(by decide +kernel), ⟨(16, 1079), ⟨Nat.le_of_ble_eq_true rfl, Nat.le_of_ble_eq_true rfl⟩, ?_⟩⟩⟩⟩
  try unfold wX3_init
  refine ⟨(by decide +kernel), ⟨⟨Nat.le_of_ble_eq_true rfl, Nat.le_of_ble_eq_true rfl⟩, fun _ => ⟨(by decide +kernel), ⟨⟨Nat.le_of_ble_eq_true rfl, Nat.le_of_ble_eq_true rfl⟩, fun _ => ⟨(by decide +kernel), ⟨(11, 102), ⟨Nat.le_of_ble_eq_true rfl, Nat.le_of_ble_eq_true rfl⟩, ?_⟩⟩⟩⟩⟩⟩
  try unfold wX5_init
  refine ⟨(by decide +kernel), ⟨⟨Nat.le_of_ble_eq_true rfl, Nat.le_of_ble_eq_true rfl⟩, fun _ => ⟨(by decide +kernel), ⟨⟨Nat.le_of_ble_eq_true rfl, Nat.le_of_ble_eq_true rfl⟩, fun _ => ⟨(by decide +kernel), ⟨⟨Nat.le_of_ble_eq_true rfl, Nat.le_of_ble_eq_true rfl⟩, fun _ => ⟨(by decide +kernel), ⟨⟨Nat.le_of_ble_eq_true rfl, Nat.le_of_ble_eq_true rfl⟩, fun _ => ⟨(by decide +kernel), ⟨⟨Nat.le_of_ble_eq_true rfl, Nat.le_of_ble_eq_true rfl⟩, fun _ => ⟨(by decide +kernel), ⟨⟨Nat.le_of_ble_eq_true rfl, Nat.le_of_ble_eq_true rfl⟩, fun _ => ⟨(by decide +kernel), ⟨⟨Nat.le_of_ble_eq_true rfl, Nat.le_of_ble_eq_true rfl⟩, fun _ => ⟨(by decide +kernel), ⟨⟨Nat.le_of_ble_eq_true rfl, Nat.le_of_ble_eq_true rfl⟩, fun _ => ⟨(by decide +kernel), ⟨⟨Nat.le_of_ble_eq_true rfl, Nat.le_of_ble_eq_true rfl⟩, fun _ => ⟨(by decide +kernel), ⟨⟨Nat.le_of_ble_eq_true rfl, Nat.le_of_ble_eq_true rfl⟩, fun _ => ⟨(by decide +kernel), ⟨⟨Nat.le_of_ble_eq_true rfl, Nat.le_of_ble_eq_true rfl⟩, fun _ => ⟨(by decide +kernel), ?_⟩⟩⟩⟩⟩⟩⟩⟩⟩⟩⟩⟩⟩⟩⟩⟩⟩⟩⟩⟩⟩⟩⟩
  refine ⟨(by decide +kernel), ⟨⟨Nat.le_of_ble_eq_true rfl, Nat.le_of_ble_eq_true rfl⟩, fun _ => ⟨(by decide +kernel), ⟨⟨Nat.le_of_ble_eq_true rfl, Nat.le_of_ble_eq_true rfl⟩, fun _ => ⟨(by decide +kernel), ⟨⟨Nat.le_of_ble_eq_true rfl, Nat.le_of_ble_eq_true rfl⟩, fun _ => ⟨(by decide +kernel), ?_⟩⟩⟩⟩⟩⟩⟩
  refine ⟨(by decide +kernel), ⟨⟨Nat.le_of_ble_eq_true rfl, Nat.le_of_ble_eq_true rfl⟩, fun _ => ⟨(by decide +kernel), ⟨(28, 2405), ⟨Nat.le_of_ble_eq_true rfl, Nat.le_of_ble_eq_true rfl⟩, ?_⟩⟩⟩⟩
  try unfold wX0_init
  refine ⟨(by decide +kernel), ⟨⟨Nat.le_of_ble_eq_true rfl, Nat.le_of_ble_eq_true rfl⟩, fun _ => ⟨(by decide +kernel), ⟨(15, 2242), ⟨Nat.le_of_ble_eq_true rfl, Nat.le_of_ble_eq_true rfl⟩, ?_⟩⟩⟩⟩
  try unfold wX8_init
  refine ⟨(by decide +kernel), ⟨⟨Nat.le_of_ble_eq_true rfl, Nat.le_of_ble_eq_true rfl⟩, fun _ => ⟨(by decide +kernel), ⟨(11, 102), ⟨Nat.le_of_ble_eq_true rfl, Nat.le_of_ble_eq_true rfl⟩, ?_⟩⟩⟩⟩
  try unfold wX5_init
  refine ⟨(by decide +kernel), ⟨⟨Nat.le_of_ble_eq_true rfl, Nat.le_of_ble_eq_true rfl⟩, fun _ => ⟨(by decide +kernel), ⟨⟨Nat.le_of_ble_eq_true rfl, Nat.le_of_ble_eq_true rfl⟩, fun _ => ⟨(by decide +kernel), ⟨⟨Nat.le_of_ble_eq_true rfl, Nat.le_of_ble_eq_true rfl⟩, fun _ => ⟨(by decide +kernel), ⟨⟨Nat.le_of_ble_eq_true rfl, Nat.le_of_ble_eq_true rfl⟩, fun _ => ⟨(by decide +kernel), ⟨⟨Nat.le_of_ble_eq_true rfl, Nat.le_of_ble_eq_true rfl⟩, fun _ => ⟨(by decide +kernel), ⟨⟨Nat.le_of_ble_eq_true rfl, Nat.le_of_ble_eq_true rfl⟩, fun _ => ⟨(by decide +kernel), ⟨⟨Nat.le_of_ble_eq_true rfl, Nat.le_of_ble_eq_true rfl⟩, fun _ => ⟨(by decide +kernel), ⟨⟨Nat.le_of_ble_eq_true rfl, Nat.le_of_ble_eq_true rfl⟩, fun _ => ⟨(by decide +kernel), ⟨⟨Nat.le_of_ble_eq_true rfl, Nat.le_of_ble_eq_true rfl⟩, fun _ => ⟨(by decide +kernel), ⟨⟨Nat.le_of_ble_eq_true rfl, Nat.le_of_ble_eq_true rfl⟩, fun _ => ⟨(by decide +kernel), ⟨⟨Nat.le_of_ble_eq_true rfl, Nat.le_of_ble_eq_true rfl⟩, fun _ => ⟨(by decide +kernel), ?_⟩⟩⟩⟩⟩⟩⟩⟩⟩⟩⟩⟩⟩⟩⟩⟩⟩⟩⟩⟩⟩⟩⟩
  refine ⟨(by decide +kernel), ⟨⟨Nat.le_of_ble_eq_true rfl, Nat.le_of_ble_eq_true rfl⟩, fun _ => ⟨(by decide +kernel), ⟨⟨Nat.le_of_ble_eq_true rfl, Nat.le_of_ble_eq_true rfl⟩, fun _ => ⟨(by decide +kernel), ⟨⟨Nat.le_of_ble_eq_true rfl, Nat.le_of_ble_eq_true rfl⟩, fun _ => ⟨(by decide +kernel), ?_⟩⟩⟩⟩⟩⟩⟩
  refine ⟨(by decide +kernel), ⟨⟨Nat.le_of_ble_eq_true rfl, Nat.le_of_ble_eq_true rfl⟩, fun _ => ⟨(by decide +kernel), ⟨(1, 4), ⟨Nat.le_of_ble_eq_true rfl, Nat.le_of_ble_eq_true rfl⟩, ?_⟩⟩⟩⟩
  try unfold wX6_init
  refine ⟨(by decide +kernel), ⟨⟨Nat.le_of_ble_eq_true rfl, Nat.le_of_ble_eq_true rfl⟩, fun _ => ⟨(by decide +kernel), ?_⟩⟩⟩
  refine ⟨(by decide +kernel), ⟨⟨Nat.le_of_ble_eq_true rfl, Nat.le_of_ble_eq_true rfl⟩, fun _ => ⟨(by decide +kernel), ⟨⟨Nat.le_of_ble_eq_true rfl, Nat.le_of_ble_eq_true rfl⟩, fun _ => ⟨(by decide +kernel), ⟨⟨Nat.le_of_ble_eq_true rfl, Nat.le_of_ble_eq_true rfl⟩, fun _ => ⟨(by decide +kernel), ⟨⟨Nat.le_of_ble_eq_true rfl, Nat.le_of_ble_eq_true rfl⟩, fun _ => ⟨(by decide +kernel), ⟨⟨Nat.le_of_ble_eq_true rfl, Nat.le_of_ble_eq_true rfl⟩, fun _ => ⟨(by decide +kernel), ⟨⟨Nat.le_of_ble_eq_true rfl, Nat.le_of_ble_eq_true rfl⟩, fun _ => ⟨(by decide +kernel), ⟨⟨Nat.le_of_ble_eq_true rfl, Nat.le_of_ble_eq_true rfl⟩, fun _ => ⟨(by decide +kernel), ⟨⟨Nat.le_of_ble_eq_true rfl, Nat.le_of_ble_eq_true rfl⟩, fun _ => ⟨(by decide +kernel), ⟨⟨Nat.le_of_ble_eq_true rfl, Nat.le_of_ble_eq_true rfl⟩, fun _ => ⟨(by decide +kernel), ⟨⟨Nat.le_of_ble_eq_true rfl, Nat.le_of_ble_eq_true rfl⟩, fun _ => ⟨(by decide +kernel), ?_⟩⟩⟩⟩⟩⟩⟩⟩⟩⟩⟩⟩⟩⟩⟩⟩⟩⟩⟩⟩⟩
  refine ⟨(by decide +kernel), ⟨(by decide +kernel), ⟨(by decide +kernel), ⟨⟨Nat.le_of_ble_eq_true rfl, Nat.le_of_ble_eq_true rfl⟩, fun _ => ⟨(by decide +kernel), ⟨(3, 75), ⟨Nat.le_of_ble_eq_true rfl, Nat.le_of_ble_eq_true rfl⟩, ?_⟩⟩⟩⟩⟩⟩
  try unfold wX2_init
  refine ⟨(by decide +kernel), ⟨⟨Nat.le_of_ble_eq_true rfl, Nat.le_of_ble_eq_true rfl⟩, fun _ => ⟨(by decide +kernel), ⟨(1, 64), ⟨Nat.le_of_ble_eq_true rfl, Nat.le_of_ble_eq_true rfl⟩, ?_⟩⟩⟩⟩
  try unfold wX4_init
  refine ⟨(by decide +kernel), ⟨⟨Nat.le_of_ble_eq_true rfl, Nat.le_of_ble_eq_true rfl⟩, fun _ => ⟨(by decide +kernel), ?_⟩⟩⟩
  refine ⟨(by decide +kernel), ⟨⟨Nat.le_of_ble_eq_true rfl, Nat.le_of_ble_eq_true rfl⟩, fun _ => ⟨(by decide +kernel), ?_⟩⟩⟩
  refine ⟨(by decide +kernel), ⟨⟨Nat.le_of_ble_eq_true rfl, Nat.le_of_ble_eq_true rfl⟩, fun _ => ⟨(by decide +kernel), ⟨(8, 40), ⟨Nat.le_of_ble_eq_true rfl, Nat.le_of_ble_eq_true rfl⟩, ?_⟩⟩⟩⟩
  try unfold wX1_init
  refine ⟨(by decide +kernel), ⟨⟨Nat.le_of_ble_eq_true rfl, Nat.le_of_ble_eq_true rfl⟩, fun _ => ⟨(by decide +kernel), ⟨⟨Nat.le_of_ble_eq_true rfl, Nat.le_of_ble_eq_true rfl⟩, fun _ => ⟨(by decide +kernel), ⟨⟨Nat.le_of_ble_eq_true rfl, Nat.le_of_ble_eq_true rfl⟩, fun _ => ⟨(by decide +kernel), ⟨⟨Nat.le_of_ble_eq_true rfl, Nat.le_of_ble_eq_true rfl⟩, fun _ => ⟨(by decide +kernel), ⟨⟨Nat.le_of_ble_eq_true rfl, Nat.le_of_ble_eq_true rfl⟩, fun _ => ⟨(by decide +kernel), ⟨⟨Nat.le_of_ble_eq_true rfl, Nat.le_of_ble_eq_true rfl⟩, fun _ => ⟨(by decide +kernel), ⟨⟨Nat.le_of_ble_eq_true rfl, Nat.le_of_ble_eq_true rfl⟩, fun _ => ⟨(by decide +kernel), ⟨⟨Nat.le_of_ble_eq_true rfl, Nat.le_of_ble_eq_true rfl⟩, fun _ => ⟨(by decide +kernel), ?_⟩⟩⟩⟩⟩⟩⟩⟩⟩⟩⟩⟩⟩⟩⟩⟩⟩
  refine ⟨(by decide +kernel), ⟨⟨Nat.le_of_ble_eq_true rfl, Nat.le_of_ble_eq_true rfl⟩, fun _ => ⟨(by decide +kernel), ⟨(4, 12), ⟨Nat.le_of_ble_eq_true rfl, Nat.le_of_ble_eq_true rfl⟩, ?_⟩⟩⟩⟩
  try unfold wX7_init
  refine ⟨(by decide +kernel), ⟨(by decide +kernel), ⟨⟨Nat.le_of_ble_eq_true rfl, Nat.le_of_ble_eq_true rfl⟩, fun _ => ⟨(by decide +kernel), ⟨⟨Nat.le_of_ble_eq_true rfl, Nat.le_of_ble_eq_true rfl⟩, fun _ => ⟨(by decide +kernel), ⟨⟨Nat.le_of_ble_eq_true rfl, Nat.le_of_ble_eq_true rfl⟩, fun _ => ⟨(by decide +kernel), ⟨⟨Nat.le_of_ble_eq_true rfl, Nat.le_of_ble_eq_true rfl⟩, fun _ => ⟨(by decide +kernel), ?_⟩⟩⟩⟩⟩⟩⟩⟩⟩⟩
  refine ⟨(by decide +kernel), ⟨⟨Nat.le_of_ble_eq_true rfl, Nat.le_of_ble_eq_true rfl⟩, fun _ => ⟨(by decide +kernel), ⟨(1, 64), ⟨Nat.le_of_ble_eq_true rfl, Nat.le_of_ble_eq_true rfl⟩, ?_⟩⟩⟩⟩
  try unfold wX4_init
  refine ⟨(by decide +kernel), ⟨⟨Nat.le_of_ble_eq_true rfl, Nat.le_of_ble_eq_true rfl⟩, fun _ => ⟨(by decide +kernel), ?_⟩⟩⟩
  refine ⟨(by decide +kernel), ⟨⟨Nat.le_of_ble_eq_true rfl, Nat.le_of_ble_eq_true rfl⟩, fun _ => ⟨(by decide +kernel), ⟨(1, 64), ⟨Nat.le_of_ble_eq_true rfl, Nat.le_of_ble_eq_true rfl⟩, ?_⟩⟩⟩⟩
  try unfold wX4_init
  refine ⟨(by decide +kernel), ⟨⟨Nat.le_of_ble_eq_true rfl, Nat.le_of_ble_eq_true rfl⟩, fun _ => ⟨(by decide +kernel), ?_⟩⟩⟩
  refine ⟨(by decide +kernel), ⟨⟨Nat.le_of_ble_eq_true rfl, Nat.le_of_ble_eq_true rfl⟩, fun _ => ⟨(by decide +kernel), ⟨(1, 64), ⟨Nat.le_of_ble_eq_true rfl, Nat.le_of_ble_eq_true rfl⟩, ?_⟩⟩⟩⟩
  try unfold wX4_init
  refine ⟨(by decide +kernel), ⟨⟨Nat.le_of_ble_eq_true rfl, Nat.le_of_ble_eq_true rfl⟩, fun _ => ⟨(by decide +kernel), ?_⟩⟩⟩
  refine ⟨(by decide +kernel), ⟨⟨Nat.le_of_ble_eq_true rfl, Nat.le_of_ble_eq_true rfl⟩, fun _ => ⟨(by decide +kernel), ⟨(1, 4), ⟨Nat.le_of_ble_eq_true rfl, Nat.le_of_ble_eq_true rfl⟩, ?_⟩⟩⟩⟩
  try unfold wX6_init
  refine ⟨(by decide +kernel), ⟨⟨Nat.le_of_ble_eq_true rfl, Nat.le_of_ble_eq_true rfl⟩, fun _ => ⟨(by decide +kernel), ?_⟩⟩⟩
  refine ⟨(by decide +kernel), ⟨⟨Nat.le_of_ble_eq_true rfl, Nat.le_of_ble_eq_true rfl⟩, fun _ => ⟨(by decide +kernel), ?_⟩⟩⟩
  exact h _ _ (by decide +kernel)
