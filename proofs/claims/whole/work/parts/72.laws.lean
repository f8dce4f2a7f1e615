/-! Queries: byLaws, cheapest -/
noncomputable def lwP (S : Sc) (lw : Nat) : Nat → Bool := LfB S (allS S) (lw &&& cLw S)
noncomputable def sbI (S : Sc) (lw : Nat) : Int32 := if mny S (lwP S lw) = 0 then -1 else nI (fb_ct (sureB S (lwP S lw)) (cT S))
def pop (b : Nat) : Nat := fb_ct (fun i => b.testBit i) 32
/-- the cheapest laws, from those with number below k -/
noncomputable def chp (S : Sc) (all : Int32) : Nat → Nat → Nat
  | 0, b => b
  | k + 1, b => chp S all k (if nI k &&& (nI (cLw S) ^^^ (-1)) = 0 ∧ pop k ≤ pop b ∧ sbI S k = all then k else b)
section
variable {t : zT} {m m' m1 m2 : zM} {s u r : Nat} {S : Sc} {T : Ts} {P : Nat → Bool} {x x2 x3 : Int32}
theorem sbI_m1 (v : Vs S) {lw : Nat} : sbI S lw = -1 ↔ mny S (lwP S lw) = 0 := by
  unfold sbI
  by_cases z : mny S (lwP S lw) = 0
  · simp [z]
  · rw [if_neg z]
    have := fb_ct_le (sureB S (lwP S lw)) (cT S)
    have := v.t8
    exact ⟨fun h => absurd (show nI (fb_ct (sureB S (lwP S lw)) (cT S)) < 0 by rw [h]; decide) (nI_pos (by omega)), fun h => absurd h z⟩
theorem sbI_neg (v : Vs S) {lw : Nat} : (0 : Int32) ≤ sbI S lw ↔ ¬ mny S (lwP S lw) = 0 := by
  unfold sbI
  by_cases z : mny S (lwP S lw) = 0
  · rw [if_pos z]; exact ⟨fun h => absurd h (by decide), fun h => absurd z h⟩
  · rw [if_neg z]
    have := fb_ct_le (sureB S (lwP S lw)) (cT S)
    have := v.t8
    exact ⟨fun _ => z, fun _ => nI_pos' (by omega)⟩
theorem lw_and1 {lw : Nat} : (lw &&& cLw S).testBit 1 = true → (cLw S).testBit 1 = true := by
  rw [Nat.testBit_and, Bool.and_eq_true]
  exact fun h => h.2
theorem sureb_lt (v : Vs S) {P : Nat → Bool} : bts (sureB S P) (cT S) < 2 ^ 31 := Nat.lt_of_lt_of_le (bts_lt _ _) (Nat.pow_le_pow_right (by decide) (by have := v.t8; omega))
theorem sp_suresBy (c : CO t m s S T) {lw : Nat} {Q : Int32 → zM → Prop} (hQ : ∀ m', QF m m' → Q (sbI S lw) m') : wX9_suresBy t m 1 (nI lw) Q := by
  have L := c.cor.lay
  have v := c.cor.vs
  have t8 := v.t8
  have n16 := v.n16
  have hs := c.cor.sch
  unfold wX9_suresBy wX5_allSayings
  simp only [c.x3, c.cor.sm.sayings, all_bits (show cN S < 31 by omega), c.cor.sm.laws, lr1_1 L, lr1_9 L, fa_and]
  refine ⟨lk1 L, ls_k L hs, ls_k L hs, ls_k L hs, lk19 L, cx_judge c QF.rf c.cor c.cor.say (fun i hi => allS_tb hi) (allS_lt v) lw_and1 (fun m2 q2 R => ?_)⟩
  have c2 := c.q q2
  have R' : RowM m2 70 S (lwP S lw) := R
  have ml := mny_le (S := S) (lwP S lw)
  have e : nI (fb_ct (lwP S lw) (cnt S)) = 0 ↔ mny S (lwP S lw) = 0 := nI_small v ml
  rw [lr1_9 c2.cor.lay, R'.members, e, lr1_2 c2.cor.lay]
  refine ⟨lk70 L, fun h0 => ?_, fun h0 => ⟨lk20 L, sp_sureIn c2.cor (Or.inr (Or.inr (Or.inl rfl))) R' (sp_bc32 (sureb_lt v) ?_)⟩⟩
  · have := hQ m2 q2
    unfold sbI at this
    rw [if_pos h0] at this
    exact this
  · rw [bts_ct (by omega)]
    have := hQ m2 q2
    unfold sbI at this
    rw [if_neg h0] at this
    exact this
theorem rsp_settledBy (d : RO t m u S T) {lw : Nat} {Q : Int32 → zM → Prop} (hQ : ∀ m', QR m m' → Q (sbI S lw) m') : wX12_settledBy t m 75 (nI lw) Q := by
  have L := d.rc.lay
  have v := d.rc.vs
  have t8 := v.t8
  have n16 := v.n16
  unfold wX12_settledBy wX11_allSayings
  simp only [d.rc.told, d.rc.sm.sayings, all_bits (show cN S < 31 by omega), d.rc.sm.laws, fa_and]
  refine ⟨lk75 L, d.rc.rl.k, d.rc.rl.k, d.rc.rl.k, rsp_asks (fa := false) (Fc := fun _ => 0) d.rc d.sy (fun i hi => allS_tb hi) (by omega) (allS_lt v) lw_and1 (fun h => by cases h) (fun m' f g A => ?_)⟩
  rw [askP_f] at A
  have A' : AskM m' S (lwP S lw) := A
  have q : QR m m' := QR.rf.of f (by decide) g
  have d' := d.q q
  have ml := mny_le (S := S) (lwP S lw)
  rw [A'.many, nI_small v ml]
  refine ⟨fun h0 => ?_, fun h0 => rsp_oneBits d'.rc A' (rsp_bits (sureb_lt v) ?_)⟩
  · have := hQ m' q
    unfold sbI at this
    rw [if_pos h0] at this
    exact this
  · rw [bts_ct (by omega)]
    have := hQ m' q
    unfold sbI at this
    rw [if_neg h0] at this
    exact this
theorem call_byLaws (c : CO t m s S T) (d : RO t m u S T) : wX9_byLaws t m 1 x (fun r m1 => wX12_byLaws t m1 75 x (fun r2 m2 => Fin m m2 r r2)) := by
  have L := c.cor.lay
  have v := c.cor.vs
  have no : (∀ n, n ≤ 7 → x ≠ nI n) → wX9_byLaws_J23 t m 1 (fun r m1 => wX12_byLaws t m1 75 x (fun r2 m2 => Fin m m2 r r2)) := by
    intro hn
    have q1 : QF m (pI m 1 14 2) := QF.rf.why 2
    have d1 := d.c q1
    unfold wX9_byLaws_J23
    refine ⟨lk1 L, cx_refuse L ?_⟩
    unfold wX12_byLaws
    exact ⟨lk75 L, fun h => absurd h (u_ne d1), fun _ => rx_in0 (hi := 7) (by decide) (fun n h1 h2 => absurd h2 (hn n h1)) (fun _ => ⟨fun _ => fin_refused L q1 (w14 m 2) (thr _) (by decide), fun h => absurd rfl h⟩)⟩
  unfold wX9_byLaws
  refine ⟨lk1 L, cx_isOpen c ⟨fun h => absurd h (by decide), fun _ => ⟨fun h0 => no (fun n hn e => by rw [e] at h0; exact nI_pos (by omega) h0), fun h0 => ⟨fun hle => ?_, fun hle => no (fun n h1 h2 => hle (by rw [h2]; exact nI_le (b := 7) h1 (by decide)))⟩⟩⟩⟩
  obtain ⟨n, hn, e⟩ := nI_of h0
  subst e
  have n7 : n ≤ 7 := (nI_leI (b := 7) hn (by decide)).mp hle
  have refs : ∀ m1 (w : Int32), QF m m1 → gI m1 1 14 = (if mny S (lwP S n) = 0 then 6 else 0) → wX12_byLaws t m1 75 (nI n) (fun r2 m2 => Fin m m2 (sbI S n) r2) := by
    intro m1 w q1 hw
    have d1 := d.c q1
    have d2 := d1.q (thr _)
    unfold wX12_byLaws
    refine ⟨lk75 L, fun h => absurd h (u_ne d1), fun _ => rx_in0 (hi := 7) (by decide) (fun n' h1 h2 => ⟨fun h => absurd h (by decide), fun _ => rsp_settledBy d2 (fun m' q => ?_)⟩) (fun h => absurd rfl (h n n7))⟩
    rw [sbI_m1 v]
    refine ⟨fun hz => ?_, fun hz => ?_⟩
    · rw [if_pos hz] at hw
      rw [(sbI_m1 v).mpr hz]
      exact fin_refused L q1 hw ((thr _).tr q) (by decide)
    · rw [if_neg hz] at hw
      exact fin_good L rfl q1 hw ((thr _).tr q)
  refine sp_suresBy c (fun m3 q3 => ?_)
  rw [sbI_neg v]
  refine ⟨fun hz => cx_accept L (refs _ 0 (q3.why 0) ?_), fun hz => cx_refuse L ?_⟩
  · rw [w14, if_neg hz]
  · have hz' : mny S (lwP S n) = 0 := Classical.not_not.mp hz
    have := refs _ 0 (q3.why 6) (by rw [w14, if_pos hz'])
    rw [(sbI_m1 v).mpr hz'] at this
    exact this
theorem dn_step (k : Nat) : nI (k + 1) + (-1 : Int32) = nI k := by
  rw [← nI_1, Int32.add_assoc]
  show nI k + ((1 : Int32) + -1) = nI k
  rw [show (1 : Int32) + -1 = 0 by decide, Int32.add_zero]
/-- the number ahead of k, -1 at 0 -/
def dnI : Nat → Int32
  | 0 => -1
  | k + 1 => nI k
theorem dnI_dn (k : Nat) : nI k + (-1 : Int32) = dnI k := by
  cases k with
  | zero => decide
  | succ k => exact dn_step k
theorem sp_cheap_L (c : CO t m s S T) {all : Int32} {Q : Int32 → zM → Prop} {K : Int32 → zM → Prop} {res : Nat} (hK : ∀ m', QF m m' → K (nI res) m') : ∀ k b m1, k ≤ 8 → b < 8 → QF m m1 → chp S all k b = res → wX9_cheapest_L47 t 1 all Q K (k + 1) (nI b) (dnI k) m1 := by
  have L := c.cor.lay
  have v := c.cor.vs
  have hs := c.cor.sch
  intro k
  induction k with
  | zero =>
    intro b m1 hk hb q1 hr
    rw [wX9_cheapest_L47]
    refine ⟨fun _ => ?_, fun h => absurd (show dnI 0 < 0 by decide) h⟩
    have : b = res := hr
    rw [this]; exact hK m1 q1
  | succ k ih =>
    intro b m1 hk hb q1 hr
    have c1 := c.q q1
    rw [wX9_cheapest_L47, show dnI (k + 1) = nI k from rfl, c1.x3, c1.cor.sm.laws]
    unfold wX9_cheapest_J70 wX9_cheapest_J99
    rw [dnI_dn]
    rw [chp] at hr
    have pl : ∀ n, pop n ≤ 32 := fun n => fb_ct_le _ _
    refine ⟨fun h => absurd h (nI_pos (by omega)), fun _ => ⟨lk1 L, ls_k L hs, fun hz => ⟨fun h => absurd h (by decide), fun _ => sp_bc32 (by omega) (sp_bc32 (by omega) ?_)⟩, fun hz => ⟨fun _ => ih b m1 (by omega) hb q1 (by rw [if_neg (fun q => hz q.1)] at hr; exact hr), fun h => absurd rfl h⟩⟩⟩
    have el : nI (fb_ct (fun i => b.testBit i) 32) < nI (fb_ct (fun i => k.testBit i) 32) ↔ pop b < pop k := nI_ltI (by have := pl b; unfold pop at this; omega) (by have := pl k; unfold pop at this; omega)
    rw [el]
    refine ⟨fun hl => ih b m1 (by omega) hb q1 (by rw [if_neg (fun q => by have := q.2.1; omega)] at hr; exact hr), fun hl => ⟨lk1 L, sp_suresBy c1 (fun m3 q3 => ⟨fun he => ih k m3 (by omega) (by omega) (q1.tr q3) (by rw [if_pos ⟨hz, by omega, he⟩] at hr; exact hr), fun he => ih b m3 (by omega) hb (q1.tr q3) (by rw [if_neg (fun q => he q.2.2)] at hr; exact hr)⟩)⟩⟩
theorem rsp_cheap_L (d : RO t m u S T) {all : Int32} {Q : Int32 → zM → Prop} {K : Int32 → zM → Prop} {res : Nat} (hK : ∀ m', QR m m' → K (nI res) m') : ∀ k b m1, k ≤ 8 → b < 8 → QR m m1 → chp S all k b = res → wX12_cheapest_L53 t 75 all Q K (k + 1) (nI b) (dnI k) m1 := by
  have L := d.rc.lay
  have v := d.rc.vs
  intro k
  induction k with
  | zero =>
    intro b m1 hk hb q1 hr
    rw [wX12_cheapest_L53]
    refine ⟨fun _ => ?_, fun h => absurd (show dnI 0 < 0 by decide) h⟩
    have : b = res := hr
    rw [this]; exact hK m1 q1
  | succ k ih =>
    intro b m1 hk hb q1 hr
    have d1 := d.q q1
    rw [wX12_cheapest_L53, show dnI (k + 1) = nI k from rfl, d1.rc.told, d1.rc.sm.laws]
    unfold wX12_cheapest_J93
    rw [dnI_dn]
    rw [chp] at hr
    have pl : ∀ n, pop n ≤ 32 := fun n => fb_ct_le _ _
    refine ⟨fun h => absurd h (nI_pos (by omega)), fun _ => ⟨lk75 L, d1.rc.rl.k, fun hz => rsp_bits (by omega) (rsp_bits (by omega) ?_), fun hz => ih b m1 (by omega) hb q1 (by rw [if_neg (fun q => hz q.1)] at hr; exact hr)⟩⟩
    have el : nI (fb_ct (fun i => b.testBit i) 32) < nI (fb_ct (fun i => k.testBit i) 32) ↔ pop b < pop k := nI_ltI (by have := pl b; unfold pop at this; omega) (by have := pl k; unfold pop at this; omega)
    rw [el]
    refine ⟨fun hl => ih b m1 (by omega) hb q1 (by rw [if_neg (fun q => by have := q.2.1; omega)] at hr; exact hr), fun hl => rsp_settledBy d1 (fun m3 q3 => ⟨fun he => ih k m3 (by omega) (by omega) (q1.tr q3) (by rw [if_pos ⟨hz, by omega, he⟩] at hr; exact hr), fun he => ih b m3 (by omega) hb (q1.tr q3) (by rw [if_neg (fun q => he q.2.2)] at hr; exact hr)⟩)⟩
theorem call_cheapest (c : CO t m s S T) (d : RO t m u S T) : wX9_cheapest t m 1 (fun r m1 => wX12_cheapest t m1 75 (fun r2 m2 => Fin m m2 r r2)) := by
  have L := c.cor.lay
  have v := c.cor.vs
  have hs := c.cor.sch
  have l8 := v.lw
  unfold wX9_cheapest
  refine ⟨lk1 L, cx_isOpen c ⟨fun h => absurd h (by decide), fun _ => ⟨by rw [c.x3]; exact ls_k L hs, ?_⟩⟩⟩
  rw [c.x3, c.cor.sm.laws]
  refine sp_suresBy c (fun m3 q3 => ?_)
  have c3 := c.q q3
  rw [sbI_neg v, c3.x3, c3.cor.sm.laws]
  refine ⟨fun hz => ⟨ls_k L hs, fun x10 h10 => ⟨8 + 1, ?_⟩⟩, fun hz => cx_refuse L ?_⟩
  · rw [h10]
    refine sp_cheap_L c3 (fun m4 q4 => cx_accept L ?_) 8 (cLw S) m3 (Nat.le_refl _) l8 QF.rf rfl
    have q1 : QF m (pI m4 1 14 0) := (q3.tr q4).why 0
    have d1 := d.c q1
    have d2 := d1.q (thr _)
    show wX12_cheapest t (pI m4 1 14 0) 75 _
    unfold wX12_cheapest
    rw [d1.rc.told, d2.rc.sm.laws]
    refine ⟨lk75 L, fun h => absurd h (by have := d1.rc.rl.u85; omega), fun _ => ⟨d1.rc.rl.k, rsp_settledBy d2 (fun m5 q5 => ?_)⟩⟩
    have d5 := d2.q q5
    rw [sbI_m1 v, d5.rc.told, d5.rc.sm.laws]
    refine ⟨fun h => absurd h hz, fun _ => ⟨d5.rc.rl.k, fun x11 h11 => ⟨8 + 1, ?_⟩⟩⟩
    rw [h11]
    exact rsp_cheap_L d5 (fun m6 q6 => fin_good L rfl q1 (w14 _ 0) (((thr _).tr q5).tr q6)) 8 (cLw S) m5 (Nat.le_refl _) l8 QR.rf rfl
  · have hz' : mny S (lwP S (cLw S)) = 0 := Classical.not_not.mp hz
    have q1 : QF m (pI m3 1 14 6) := q3.why 6
    have d1 := d.c q1
    have d2 := d1.q (thr _)
    show wX12_cheapest t (pI m3 1 14 6) 75 _
    unfold wX12_cheapest
    rw [d1.rc.told, d2.rc.sm.laws]
    refine ⟨lk75 L, fun h => absurd h (by have := d1.rc.rl.u85; omega), fun _ => ⟨d1.rc.rl.k, rsp_settledBy d2 (fun m5 q5 => ?_)⟩⟩
    rw [sbI_m1 v]
    exact ⟨fun _ => fin_refused L q1 (w14 _ 6) ((thr _).tr q5) (by decide), fun h => absurd hz' h⟩
end
