/-! Queries: years, still, saying, fact, spent -/
def ysB (y : Int64) : Int64 := ((2 * y) * (1000000 - y)) / 1000000
def ysC (x1 : Int32) (y : Int64) : Int64 := (ysB y * x1.toInt64) / 100
def ysT (x1 : Int32) (y : Int64) : Int64 := ((y * y) / 1000000 + ysC x1 y) + ((ysB y - ysC x1 y) / 2)
def itr (f : Int64 → Int64) : Nat → Int64 → Int64
  | 0, y => y
  | n + 1, y => itr f n (f y)
theorem itr_0 (f : Int64 → Int64) (y : Int64) : itr f 0 y = y := by rw [itr]
theorem itr_1 (f : Int64 → Int64) (n : Nat) (y : Int64) : itr f (n + 1) y = itr f n (f y) := by rw [itr]
def aft (x1 : Int32) (n : Nat) (y : Int64) : Int64 := itr (ysT x1) n y
theorem aft_0 (x1 : Int32) (y : Int64) : aft x1 0 y = y := itr_0 _ _
theorem aft_1 (x1 : Int32) (n : Nat) (y : Int64) : aft x1 (n + 1) y = aft x1 n (ysT x1 y) := itr_1 _ _ _
section
variable {t : zT} {m m' m1 m2 : zM} {s u r : Nat} {S : Sc} {T : Ts} {P : Nat → Bool} {x x2 x3 : Int32}
theorem ys_sq {v : Nat} (hv : v ≤ 1000000) : v * v + 2 * v * (1000000 - v) ≤ 1000000 * 1000000 := by
  obtain ⟨w, hw⟩ : ∃ w, v + w = 1000000 := ⟨1000000 - v, by omega⟩
  rw [show 1000000 - v = w by omega]
  have e : 1000000 * 1000000 = (v + w) * (v + w) := by rw [hw]
  rw [e, Nat.add_mul, Nat.mul_add, Nat.mul_add, Nat.mul_comm w v, Nat.mul_assoc 2 v w]
  have : 0 ≤ w * w := Nat.zero_le _
  omega
theorem ysT_val {h v : Nat} (hh : h ≤ 100) (hv : v ≤ 1000000) : ∃ v', v' ≤ 1000000 ∧ ysT (nI h) (lN v) = lN v' := by
  have sq := ys_sq hv
  have vv : v * v ≤ 1000000 * 1000000 := by omega
  have mm : 2 * v * (1000000 - v) ≤ 1000000 * 1000000 := by omega
  generalize ea : v * v = a at *
  generalize eb : 2 * v * (1000000 - v) = b at *
  have e1 : lN v * lN v = lN a := by rw [lN_mul, ea]
  have e2 : (2 : Int64) * lN v * (1000000 - lN v) = lN b := by
    rw [show (2 : Int64) = lN 2 from rfl, lN_mul, show (1000000 : Int64) = lN 1000000 from rfl, lN_sub hv, lN_mul, eb]
  have eB : ysB (lN v) = lN (b / 1000000) := by
    unfold ysB
    rw [e2, show (1000000 : Int64) = lN 1000000 from rfl, pk_lDiv (by omega) (by decide) (by decide)]
  have bl : b / 1000000 ≤ 1000000 := by omega
  generalize eq : b / 1000000 = q at *
  have ch : q * h ≤ q * 100 := Nat.mul_le_mul_left q hh
  have eC : ysC (nI h) (lN v) = lN (q * h / 100) := by
    unfold ysC
    rw [eB, nI_l (by omega), lN_mul, show (100 : Int64) = lN 100 from rfl, pk_lDiv (by omega) (by decide) (by decide)]
  have cl : q * h / 100 ≤ q := by omega
  generalize q * h / 100 = c at *
  refine ⟨a / 1000000 + c + (q - c) / 2, by omega, ?_⟩
  unfold ysT
  rw [e1, eB, eC, show (1000000 : Int64) = lN 1000000 from rfl, pk_lDiv (by omega) (by decide) (by decide), lN_add, lN_sub cl, show (2 : Int64) = lN 2 from rfl, pk_lDiv (by omega) (by decide) (by decide), lN_add]
theorem aft_val {h : Nat} (hh : h ≤ 100) : ∀ n v, v ≤ 1000000 → ∃ v', v' ≤ 1000000 ∧ aft (nI h) n (lN v) = lN v' := by
  intro n
  induction n with
  | zero => intro v hv; exact ⟨v, hv, aft_0 _ _⟩
  | succ n ih =>
    intro v hv
    obtain ⟨v', h1, h2⟩ := ysT_val hh hv
    rw [aft_1, h2]
    exact ih v' h1
theorem sp_after_L {x1 : Int32} {N : Nat} (hN : N < 2 ^ 31) {Q : Int32 → zM → Prop} {K : Int64 → zM → Prop} : ∀ (d k : Nat) (y : Int64) (z : Int32), k + d = N → z = nI k → K (aft x1 d y) m → wX9_afterYears_L6 t x1 (nI N) Q K (d + 1) y z m := by
  intro d
  induction d with
  | zero =>
    intro k y z hk hz hK
    have e : k = N := by omega
    subst e
    rw [hz, wX9_afterYears_L6]
    rw [aft_0] at hK
    exact ⟨fun _ => hK, fun hh => absurd (nI_le (Nat.le_refl _) hN) hh⟩
  | succ d ih =>
    intro k y z hk hz hK
    rw [hz, wX9_afterYears_L6]
    refine ⟨fun hh => absurd hh (nI_ge (by omega) hN), fun _ a2 h2 a3 h3 a4 h4 a5 h5 => ih (k + 1) a5 _ (by omega) (nI_1 k) ?_⟩
    rw [aft_1] at hK
    rw [h5, h4, h3, h2]
    exact hK
theorem rsp_after_L {x1 : Int32} {N : Nat} (hN : N < 2 ^ 31) {Q : Int64 → zM → Prop} {K : Int64 → zM → Prop} : ∀ (d k : Nat) (y : Int64) (z : Int32), k + d = N → z = nI k → K (aft x1 d y) m → wX12_after_L6 t x1 (nI N) Q K (d + 1) y z m := by
  intro d
  induction d with
  | zero =>
    intro k y z hk hz hK
    have e : k = N := by omega
    subst e
    rw [hz, wX12_after_L6]
    rw [aft_0] at hK
    exact ⟨fun _ => hK, fun hh => absurd (nI_le (Nat.le_refl _) hN) hh⟩
  | succ d ih =>
    intro k y z hk hz hK
    rw [hz, wX12_after_L6]
    refine ⟨fun hh => absurd hh (nI_ge (by omega) hN), fun _ a2 h2 a3 h3 a4 h4 a5 h5 => ih (k + 1) a5 _ (by omega) (nI_1 k) ?_⟩
    rw [aft_1] at hK
    rw [h5, h4, h3, h2]
    exact hK
theorem sp_afterYears {x1 : Int32} {v N : Nat} (hv : v < 2 ^ 31) (hN : N < 2 ^ 31) {Q : Int32 → zM → Prop} (hQ : Q (aft x1 N (lN v)).toInt32 m) : wX9_afterYears t m (nI v) x1 (nI N) Q := by
  unfold wX9_afterYears
  rw [nI_l hv]
  exact ⟨N + 1, sp_after_L hN N 0 _ _ (by omega) rfl hQ⟩
theorem rsp_after {x1 : Int32} {v N : Nat} (hv : v < 2 ^ 31) (hN : N < 2 ^ 31) {Q : Int64 → zM → Prop} (hQ : Q (aft x1 N (lN v)) m) : wX12_after t m (nI v) x1 (nI N) Q := by
  unfold wX12_after
  rw [nI_l hv]
  exact ⟨N + 1, rsp_after_L hN N 0 _ _ (by omega) rfl hQ⟩
theorem cx_within {hi : Nat} (hhi : hi < 2 ^ 31) {Q : Int32 → zM → Prop} (h1 : ∀ n, n ≤ hi → x = nI n → Q 1 m) (h0 : (∀ n, n ≤ hi → x ≠ nI n) → Q 0 m) : wX9_within t m x (nI hi) Q := by
  unfold wX9_within
  refine ⟨fun h => h0 (fun n hn e => by rw [e] at h; exact nI_pos (by omega) h), fun h => ?_⟩
  obtain ⟨n, hn, e⟩ := nI_of h
  subst e
  rw [nI_ltI hhi hn]
  exact ⟨fun h => h0 (fun k hk e => by have := (nI_eq hn (by omega)).mp e; omega), fun h => h1 n (by omega) rfl⟩
theorem call_years (L : Lay t m) : wX9_years t m 1 x x2 x3 (fun r m1 => wX12_years t m1 75 x x2 x3 (fun r2 m2 => Fin m m2 r r2)) := by
  have no : ¬ (∃ a b c, a ≤ 1000000 ∧ b ≤ 100 ∧ c ≤ 40 ∧ x = nI a ∧ x2 = nI b ∧ x3 = nI c) → wX9_years_J28 t m 1 (fun r m1 => wX12_years t m1 75 x x2 x3 (fun r2 m2 => Fin m m2 r r2)) := by
    intro hn
    have q1 : QF m (pI m 1 14 2) := QF.rf.why 2
    have fr := fin_refused (m2 := pI (pI m 1 14 2) 75 0 0) L q1 (w14 m 2) (thr _) (by decide)
    unfold wX9_years_J28
    refine ⟨lk1 L, cx_refuse L ?_⟩
    unfold wX12_years wX12_years_J50
    exact ⟨lk75 L, rx_in0 (hi := 1000000) (by decide) (fun a ha e => ⟨fun h => absurd h (by decide), fun _ => rx_in0 (hi := 100) (by decide) (fun b hb e2 => ⟨fun h => absurd h (by decide), fun _ => rx_in0 (hi := 40) (by decide) (fun c hc e3 => absurd ⟨a, b, c, ha, hb, hc, e, e2, e3⟩ hn) (fun _ => ⟨fun _ => ⟨lk75 L, fr⟩, fun h => absurd rfl h⟩)⟩) (fun _ => ⟨fun _ => ⟨lk75 L, fr⟩, fun h => absurd rfl h⟩)⟩) (fun _ => ⟨fun _ => ⟨lk75 L, fr⟩, fun h => absurd rfl h⟩)⟩
  unfold wX9_years
  refine cx_within (hi := 1000000) (by decide) (fun a ha e => ⟨fun h => absurd h (by decide), fun _ => cx_within (hi := 100) (by decide) (fun b hb e2 => ⟨fun h => absurd h (by decide), fun _ => cx_within (hi := 40) (by decide) (fun c hc e3 => ⟨fun h => absurd h (by decide), fun _ => ?_⟩) (fun hn => ⟨fun _ => no (fun ⟨_, _, c, _, _, hc, _, _, e3⟩ => hn c hc e3), fun h => absurd rfl h⟩)⟩) (fun hn => ⟨fun _ => no (fun ⟨_, b, _, _, hb, _, _, e2, _⟩ => hn b hb e2), fun h => absurd rfl h⟩)⟩) (fun hn => ⟨fun _ => no (fun ⟨a, _, _, ha, _, _, e, _, _⟩ => hn a ha e), fun h => absurd rfl h⟩)
  subst e e2 e3
  refine sp_afterYears (by omega) (by omega) ⟨lk1 L, cx_accept L ?_⟩
  have q1 : QF m (pI m 1 14 0) := QF.rf.why 0
  unfold wX12_years
  exact ⟨lk75 L, rx_in0 (hi := 1000000) (by decide) (fun _ _ _ => ⟨fun h => absurd h (by decide), fun _ => rx_in0 (hi := 100) (by decide) (fun _ _ _ => ⟨fun h => absurd h (by decide), fun _ => rx_in0 (hi := 40) (by decide) (fun _ _ _ => ⟨fun h => absurd h (by decide), fun _ => rsp_after (by omega) (by omega) (fin_good L rfl q1 (w14 m 0) (thr _))⟩) (fun h => absurd rfl (h c hc))⟩) (fun h => absurd rfl (h b hb))⟩) (fun h => absurd rfl (h a ha))⟩
end
