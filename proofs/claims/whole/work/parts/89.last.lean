/-! Plans: the last states -/
def PR (t : zT) (m : zM) (a1 : Nat) (a2 : Nat) (a3 : Nat) (len : Nat) : Prop := (gR m 52 13 = a1) ∧ (gR m 52 14 = a2) ∧ (gR m 52 15 = a3) ∧ (tK t a1 = 14) ∧ (tK t a2 = 14) ∧ (tK t a3 = 14) ∧ (tL t a1 = len) ∧ (tL t a2 = len) ∧ (tL t a3 = len) ∧ (len ≤ 50625) ∧ (a1 ≠ a2) ∧ (a1 ≠ a3) ∧ (a2 ≠ a3) ∧ (58 ≤ a1 ∧ (a1 ≤ 60 ∨ 85 ≤ a1)) ∧ (58 ≤ a2 ∧ (a2 ≤ 60 ∨ 85 ≤ a2)) ∧ (58 ≤ a3 ∧ (a3 ≤ 60 ∨ 85 ≤ a3))
theorem PR.r1 {t : zT} {m : zM} {a1 : Nat} {a2 : Nat} {a3 : Nat} {len : Nat} (h_ : PR t m a1 a2 a3 len) : gR m 52 13 = a1 := h_.1
theorem PR.r2 {t : zT} {m : zM} {a1 : Nat} {a2 : Nat} {a3 : Nat} {len : Nat} (h_ : PR t m a1 a2 a3 len) : gR m 52 14 = a2 := h_.2.1
theorem PR.r3 {t : zT} {m : zM} {a1 : Nat} {a2 : Nat} {a3 : Nat} {len : Nat} (h_ : PR t m a1 a2 a3 len) : gR m 52 15 = a3 := h_.2.2.1
theorem PR.k1 {t : zT} {m : zM} {a1 : Nat} {a2 : Nat} {a3 : Nat} {len : Nat} (h_ : PR t m a1 a2 a3 len) : tK t a1 = 14 := h_.2.2.2.1
theorem PR.k2 {t : zT} {m : zM} {a1 : Nat} {a2 : Nat} {a3 : Nat} {len : Nat} (h_ : PR t m a1 a2 a3 len) : tK t a2 = 14 := h_.2.2.2.2.1
theorem PR.k3 {t : zT} {m : zM} {a1 : Nat} {a2 : Nat} {a3 : Nat} {len : Nat} (h_ : PR t m a1 a2 a3 len) : tK t a3 = 14 := h_.2.2.2.2.2.1
theorem PR.l1 {t : zT} {m : zM} {a1 : Nat} {a2 : Nat} {a3 : Nat} {len : Nat} (h_ : PR t m a1 a2 a3 len) : tL t a1 = len := h_.2.2.2.2.2.2.1
theorem PR.l2 {t : zT} {m : zM} {a1 : Nat} {a2 : Nat} {a3 : Nat} {len : Nat} (h_ : PR t m a1 a2 a3 len) : tL t a2 = len := h_.2.2.2.2.2.2.2.1
theorem PR.l3 {t : zT} {m : zM} {a1 : Nat} {a2 : Nat} {a3 : Nat} {len : Nat} (h_ : PR t m a1 a2 a3 len) : tL t a3 = len := h_.2.2.2.2.2.2.2.2.1
theorem PR.le {t : zT} {m : zM} {a1 : Nat} {a2 : Nat} {a3 : Nat} {len : Nat} (h_ : PR t m a1 a2 a3 len) : len ≤ 50625 := h_.2.2.2.2.2.2.2.2.2.1
theorem PR.n12 {t : zT} {m : zM} {a1 : Nat} {a2 : Nat} {a3 : Nat} {len : Nat} (h_ : PR t m a1 a2 a3 len) : a1 ≠ a2 := h_.2.2.2.2.2.2.2.2.2.2.1
theorem PR.n13 {t : zT} {m : zM} {a1 : Nat} {a2 : Nat} {a3 : Nat} {len : Nat} (h_ : PR t m a1 a2 a3 len) : a1 ≠ a3 := h_.2.2.2.2.2.2.2.2.2.2.2.1
theorem PR.n23 {t : zT} {m : zM} {a1 : Nat} {a2 : Nat} {a3 : Nat} {len : Nat} (h_ : PR t m a1 a2 a3 len) : a2 ≠ a3 := h_.2.2.2.2.2.2.2.2.2.2.2.2.1
theorem PR.o1 {t : zT} {m : zM} {a1 : Nat} {a2 : Nat} {a3 : Nat} {len : Nat} (h_ : PR t m a1 a2 a3 len) : 58 ≤ a1 ∧ (a1 ≤ 60 ∨ 85 ≤ a1) := h_.2.2.2.2.2.2.2.2.2.2.2.2.2.1
theorem PR.o2 {t : zT} {m : zM} {a1 : Nat} {a2 : Nat} {a3 : Nat} {len : Nat} (h_ : PR t m a1 a2 a3 len) : 58 ≤ a2 ∧ (a2 ≤ 60 ∨ 85 ≤ a2) := h_.2.2.2.2.2.2.2.2.2.2.2.2.2.2.1
theorem PR.o3 {t : zT} {m : zM} {a1 : Nat} {a2 : Nat} {a3 : Nat} {len : Nat} (h_ : PR t m a1 a2 a3 len) : 58 ≤ a3 ∧ (a3 ≤ 60 ∨ 85 ≤ a3) := h_.2.2.2.2.2.2.2.2.2.2.2.2.2.2.2
/-- the last digits of a way -/
def lsd (S : Sc) (U : Nat → Bool) (w k : Nat) : Nat := ans S w (thU U k) + 1
def lsv (S : Sc) (U : Nat → Bool) (w : Nat) : Nat := vl (NU S U) (lsd S U w) (ctU S U)
/-- the worlds that have been seen, of a word and what is left of it -/
def Dp (P : Nat → Bool) (W : Nat) (y : Int64) (w : Nat) : Bool := P w && (decide (w < 64 * W) || (decide (w / 64 = W) && !bw y (w % 64)))
def hcn (S : Sc) (U D : Nat → Bool) (v : Nat) : Nat := fb_ct (fun w => D w && (lsv S U w == v)) (cnt S)
def injD (S : Sc) (U D : Nat → Bool) : Prop := ∀ w w', w < cnt S → w' < cnt S → D w = true → D w' = true → lsv S U w = lsv S U w' → w = w'
section
variable {t : zT} {m m' m1 m2 : zM} {s u r : Nat} {S : Sc} {T T' : Ts} {P P' : Nat → Bool} {x x2 x3 : Int32} {Tl : List Nat} {U D : Nat → Bool} {a1 a2 a3 len : Nat}
theorem PR.fr (h : PR t m a1 a2 a3 len) (f : Fr Tl m m') : PR t m' a1 a2 a3 len := by
  unfold PR at h ⊢
  simp only [f.2]
  exact h
theorem SlK.fr {n : Nat} (h : SlK m S U n) (f : Fr Tl m m') (h2 : gI m' 52 6 = gI m 52 6) (h3 : gI m' 52 7 = gI m 52 7) (hT : ∀ a, a ∈ [53, 54, 55, 56] → a ∉ Tl) : SlK m' S U n := by
  unfold SlK at h ⊢
  simp only [h2, h3, f.I (hT 53 (by decide)), f.I (hT 54 (by decide)), f.I (hT 55 (by decide)), f.I (hT 56 (by decide))]
  exact h
theorem lsd_ok (v : Vs S) {w : Nat} : okd (NU S U) (lsd S U w) (ctU S U) := by
  intro k hk
  obtain ⟨h1, _, _⟩ := thU_k v.t8 hk
  unfold lsd NU
  have := ans_lt v (w := w) h1
  omega
theorem lsv_lt (v : Vs S) {w : Nat} : lsv S U w < pl (NU S U) (ctU S U) := vl_lt (lsd_ok v)
theorem sp_lastState (c : Cor t m s S) (sk : SlK m S U (cT S)) {w : Nat} (hw : w < cnt S) {Q : Int32 → zM → Prop} (hQ : Q (nI (lsv S U w)) m) : wX1_lastState t m 52 20 (nI w) Q := by
  have L := c.lay
  have v := c.vs
  have t8 := v.t8
  have c8 : fb_ct U (cT S) ≤ cT S := fb_ct_le _ _
  unfold wX1_lastState
  refine ⟨fb_ct U (cT S) + 1, ?_⟩
  have key : ∀ dd k : Nat, k + dd = fb_ct U (cT S) → ∀ z3 z4 : Int32, z3 = nI (vl (NU S U) (lsd S U w) k) → z4 = nI k → wX1_lastState_L5 t 52 20 (nI w) Q (fun v11 m12 => Q v11 m12) (dd + 1) z3 z4 m := by
    intro dd
    induction dd with
    | zero =>
      intro k hk z3 z4 h3 h4
      have e : k = fb_ct U (cT S) := by omega
      subst e
      rw [h3, h4, wX1_lastState_L5, sk.sl]
      exact ⟨lk52 L, fun _ => hQ, fun hh => absurd (nI_le (Nat.le_refl _) (by omega)) hh⟩
    | succ dd ih =>
      intro k hk z3 z4 h3 h4
      have kl : k < fb_ct U (cT S) := by omega
      obtain ⟨q1, q2, q3⟩ := thU_k t8 kl
      obtain ⟨e1, e2, e3, e4⟩ := sk.th k kl
      rw [h3, h4, wX1_lastState_L5, sk.sl, lr52_8 L, lk53 L, ll53 L, nI_cl (show k < 2 ^ 31 by omega), e1]
      refine ⟨lk52 L, fun hh => absurd hh (nI_ge (by omega) (by omega)), fun _ => ⟨rfl, vp_nI (by omega) (by decide), lk20 L, sp_answerIn c hw q1 ?_⟩⟩
      rw [lr52_11 L, lk56 L, ll56 L, e4]
      refine ⟨rfl, vp_nI (by omega) (by decide), fun x10 h10 => ih (k + 1) (by omega) _ _ ?_ (nI_1 k)⟩
      rw [h10, nI_1, pk_mul, nI_add, vl_succ]
      rfl
  exact key (fb_ct U (cT S)) 0 (by omega) 0 0 rfl rfl
theorem hcn_up {w0 v : Nat} (hw : w0 < cnt S) (D0 : D w0 = false) {D' : Nat → Bool} (hD : ∀ w, w < cnt S → D' w = if w = w0 then true else D w) : hcn S U D' v = hcn S U D v + if lsv S U w0 = v then 1 else 0 := by
  unfold hcn
  have c : fb_ct (fun w => D' w && (lsv S U w == v)) (cnt S) = fb_ct (fun w => if w = w0 then (lsv S U w0 == v) else D w && (lsv S U w == v)) (cnt S) := fb_ct_cong (fun w hw2 => by
    show (D' w && (lsv S U w == v)) = _
    rw [hD w hw2]
    by_cases z : w = w0
    · simp [z]
    · simp [z])
  have u := fb_ct_upd (fun w => D w && (lsv S U w == v)) (lsv S U w0 == v) hw
  simp only [D0, Bool.false_and, Bool.false_eq_true, if_false, Nat.add_zero, beq_iff_eq] at u
  rw [c, u]
theorem injD_up {w0 : Nat} (hw : w0 < cnt S) (D0 : D w0 = false) {D' : Nat → Bool} (hD : ∀ w, w < cnt S → D' w = if w = w0 then true else D w) : injD S U D' ↔ injD S U D ∧ hcn S U D (lsv S U w0) = 0 := by
  constructor
  · intro h
    refine ⟨fun w w' h1 h2 h3 h4 h5 => h w w' h1 h2 ?_ ?_ h5, fb_ct_zero.mpr (fun w hw2 => ?_)⟩
    · rw [hD w h1]; split; rfl; exact h3
    · rw [hD w' h2]; split; rfl; exact h4
    · cases hb : D w with
      | false => rfl
      | true =>
        by_cases e : lsv S U w = lsv S U w0
        · have := h w w0 hw2 hw (by rw [hD w hw2]; split; rfl; exact hb) (by rw [hD w0 hw, if_pos rfl]) e
          subst this
          rw [hb] at D0; cases D0
        · simp [e]
  · rintro ⟨h1, h2⟩ w w' a1 a2 a3 a4 a5
    have z := fb_ct_zero.mp h2
    rw [hD w a1] at a3
    rw [hD w' a2] at a4
    by_cases e1 : w = w0
    · by_cases e2 : w' = w0
      · rw [e1, e2]
      · rw [if_neg e2] at a4
        have := z w' a2
        rw [a4, Bool.true_and, ← a5, e1] at this
        simp at this
    · rw [if_neg e1] at a3
      by_cases e2 : w' = w0
      · have := z w a1
        rw [a3, Bool.true_and, a5, e2] at this
        simp at this
      · rw [if_neg e2] at a4
        exact h1 w w' a1 a2 a3 a4 a5
theorem hcn_le (v : Nat) : hcn S U D v ≤ cnt S := fb_ct_le _ _
set_option maxHeartbeats 1000000 in
theorem sp_fillLast (c : Cor t m s S) (R : RowM m 68 S P) (sk : SlK m S U (cT S)) (pr : PR t m a1 a2 a3 len) (hl : pl (NU S U) (ctU S U) ≤ len) (h0 : ∀ i, i < len → gI m a1 i = 0) {Q : Int32 → zM → Prop} (hQ : ∀ (b : Bool) m', Fr [a1] m m' → (b = true ↔ injD S U P) → (∀ v, v < pl (NU S U) (ctU S U) → gI m' a1 v = nI (hcn S U P v)) → Q (bI b) m') : wX1_fillLast t m 52 20 68 Q := by
  have L := c.lay
  have v := c.vs
  have hc := v.cnt
  have hwd := wds_le v
  have o1 := pr.o1
  have len5 := pr.le
  have o : ∀ a, a < 58 ∨ (60 < a ∧ a < 85) → a ∉ [a1] := by
    intro a ha
    simp only [List.mem_cons, List.not_mem_nil, or_false]
    omega
  unfold wX1_fillLast
  refine ⟨wds S + 1, ?_⟩
  have key : ∀ dd W : Nat, W + dd = wds S → ∀ m1, Fr [a1] m m1 → ∀ b : Bool, (b = true ↔ injD S U (fun w => P w && decide (w < 64 * W))) → (∀ i, i < pl (NU S U) (ctU S U) → gI m1 a1 i = nI (hcn S U (fun w => P w && decide (w < 64 * W)) i)) → ∀ z3 z4 : Int32, z3 = bI b → z4 = nI W → wX1_fillLast_L5 t 52 20 68 Q (fun v21 m22 => (v21 = 0 ∨ v21 = 1) ∧ Q v21 m22) (dd + 1) z3 z4 m1 := by
    intro dd
    induction dd with
    | zero =>
      intro W hW m1 f1 b hb hh z3 z4 h3 h4
      have e : W = wds S := by omega
      subst e
      have R1 := R.fr f1 (o _ (by omega)) (o _ (by omega))
      have eD : ∀ w, w < cnt S → (P w && decide (w < 64 * wds S)) = P w := fun w hw => by
        have := cnt_wds (S := S)
        simp [show w < 64 * wds S by omega]
      have eh : ∀ i, hcn S U (fun w => P w && decide (w < 64 * wds S)) i = hcn S U P i := fun i => fb_ct_cong (fun w hw => by
        show ((P w && decide (w < 64 * wds S)) && _) = _
        rw [eD w hw])
      rw [h3, h4, wX1_fillLast_L5, R1.words]
      refine ⟨lk68 L, fun _ => ⟨by cases b <;> decide, hQ b m1 f1 (hb.trans ⟨fun h w w' q1 q2 q3 q4 q5 => h w w' q1 q2 ?_ ?_ q5, fun h w w' q1 q2 q3 q4 q5 => h w w' q1 q2 ?_ ?_ q5⟩) (fun i hi => by rw [hh i hi, eh])⟩, fun hh => absurd (nI_le (Nat.le_refl _) (by omega)) hh⟩
      · exact (eD w q1).trans q3
      · exact (eD w' q2).trans q4
      · exact (eD w q1).symm.trans q3
      · exact (eD w' q2).symm.trans q4
    | succ dd ih =>
      intro W hW m1 f1 b hb hh z3 z4 h3 h4
      have Wl : W < wds S := by omega
      have R1 := R.fr f1 (o _ (by omega)) (o _ (by omega))
      have L1 := L.fr f1
      rw [h3, h4, wX1_fillLast_L5, R1.words, lr68_0 L1, lk69 L, ll69 L, nI_cl (show W < 2 ^ 31 by omega)]
      refine ⟨lk68 L, fun hh => absurd hh (nI_ge (by omega) (by omega)), fun _ => ⟨rfl, vp_nI (by omega) (by decide), fun y0 hy0 => ⟨wpop y0 + 1, ?_⟩⟩⟩
      have yb : ∀ i, i < 64 → (bw y0 i = true ↔ 64 * W + i < cnt S ∧ P (64 * W + i) = true) := fun i hi => by rw [hy0]; exact R1.bit W Wl i hi
      -- within a word
      have key2 : ∀ n k : Nat, k + n ≤ 64 → ∀ (y : Int64) m2, wpop y = n → (∀ i, bw y i = true → bw y0 i = true) → Fr [a1] m m2 → ∀ b2 : Bool, (b2 = true ↔ injD S U (Dp P W y)) → (∀ i, i < pl (NU S U) (ctU S U) → gI m2 a1 i = nI (hcn S U (Dp P W y) i)) → ∀ w3 w7 : Int32, w3 = bI b2 → w7 = nI k → wX1_fillLast_L26 t 52 20 68 (nI W) Q (fun v18 m19 => wX1_fillLast_J105 t m19 52 20 68 v18 (nI W) Q (wX1_fillLast_L5 t 52 20 68 Q (fun v21 m22 => (v21 = 0 ∨ v21 = 1) ∧ Q v21 m22) (dd + 1))) (n + 1) w3 y w7 m2 := by
        intro n
        induction n with
        | zero =>
          intro k hk y m2 hn hy f2 b2 hb2 hh2 w3 w7 e3 e7
          have y0' : y = 0 := bw_zero.mpr (fb_ct_zero.mp hn)
          have done : wX1_fillLast_J105 t m2 52 20 68 w3 (nI W) Q (wX1_fillLast_L5 t 52 20 68 Q (fun v21 m22 => (v21 = 0 ∨ v21 = 1) ∧ Q v21 m22) (dd + 1)) := by
            unfold wX1_fillLast_J105
            have eD : Dp P W y = fun w => P w && decide (w < 64 * (W + 1)) := by
              funext w
              unfold Dp
              rw [y0', bw_0]
              congr 1
              rw [← bt_iff]
              simp only [Bool.not_false, Bool.and_true, Bool.or_eq_true, decide_eq_true_eq]
              omega
            rw [eD] at hb2 hh2
            exact ih (W + 1) (by omega) m2 f2 b2 hb2 hh2 _ _ e3 (nI_1 W)
          rw [e7, wX1_fillLast_L26, lgc0, y0']
          exact ⟨fun _ => done, fun _ => ⟨fun _ => done, fun h => absurd rfl h⟩⟩
        | succ n ih2 =>
          intro k hk y m2 hn hy f2 b2 hb2 hh2 w3 w7 e3 e7
          obtain ⟨q, q1, q2, q3⟩ := low_ex (x := y) (n := 0) (by unfold wpop at hn; omega)
          have yn : ¬ y = 0 := fun e => by rw [e, bw_0] at q2; cases q2
          obtain ⟨wc, wp⟩ := (yb q q1).mp (hy q q2)
          have L2 := L.fr f2
          have c2 := c.fr f2 (fun a g1 g2 g3 => o a (by omega))
          have sk2 : SlK m2 S U (cT S) := sk.fr f2 (f2.I (o _ (by omega)) _) (f2.I (o _ (by omega)) _) (fun a ha => o a (by simp only [List.mem_cons, List.not_mem_nil, or_false] at ha; omega))
          have pr2 := pr.fr f2
          rw [e3, e7, wX1_fillLast_L26, lgc0]
          refine ⟨fun hh => absurd hh (nI_ge (b := 64) (by omega) (by decide)), fun _ => ⟨fun h => absurd h yn, fun _ => sp_lowestBit q1 q2 q3 ⟨lk52 L, ?_⟩⟩⟩
          have ew : nI W * (64 : Int32) + nI q = nI (64 * W + q) := by
            rw [show (64 : Int32) = nI 64 from rfl, pk_mul, nI_add, Nat.mul_comm]
          rw [ew]
          refine sp_lastState c2 sk2 wc ?_
          have ll := lsv_lt (U := U) v (w := 64 * W + q)
          have hcl := hcn_le (S := S) (U := U) (D := Dp P W y) (lsv S U (64 * W + q))
          rw [pr2.r1, pr2.k1, pr2.l1, nI_cl (show lsv S U (64 * W + q) < 2 ^ 31 by omega), hh2 _ ll, nI_1]
          refine ⟨rfl, vp_nI (by omega) (by omega), ?_⟩
          have D0 : Dp P W y (64 * W + q) = false := by
            unfold Dp
            rw [wp, show (64 * W + q) % 64 = q by omega, q2]
            simp
          have clr := clr_low q1 q2 q3
          have hD : ∀ w, w < cnt S → Dp P W (y &&& (y - 1)) w = if w = 64 * W + q then true else Dp P W y w := by
            intro w hw
            unfold Dp
            by_cases z : w = 64 * W + q
            · rw [if_pos z, z, wp, clr, show (64 * W + q) % 64 = q by omega, show (64 * W + q) / 64 = W by omega]
              simp
            · rw [if_neg z, clr]
              congr 2
              by_cases z2 : w / 64 = W
              · have : w % 64 ≠ q := by omega
                simp [z2, this]
              · simp [z2]
          have nx : ∀ b3 : Bool, (b3 = true ↔ injD S U (Dp P W (y &&& (y - 1)))) → ∀ w4 : Int32, w4 = bI b3 → wX1_fillLast_J89 t (pI m2 a1 (lsv S U (64 * W + q)) (nI (hcn S U (Dp P W y) (lsv S U (64 * W + q)) + 1))) 52 20 68 (nI W) y (nI k) w4 Q (wX1_fillLast_L26 t 52 20 68 (nI W) Q (fun v18 m19 => wX1_fillLast_J105 t m19 52 20 68 v18 (nI W) Q (wX1_fillLast_L5 t 52 20 68 Q (fun v21 m22 => (v21 = 0 ∨ v21 = 1) ∧ Q v21 m22) (dd + 1))) (n + 1)) := by
            intro b3 hb3 w4 h4
            unfold wX1_fillLast_J89
            intro x16 h16
            rw [h16]
            refine ih2 (k + 1) (by omega) _ _ ?_ (fun i hi => hy i ?_) (Fr.pI f2 (by simp)) b3 hb3 (fun i hi => ?_) _ _ h4 (nI_1 k)
            · have := clr_ct (j := 64) q1 q2 q3 q1
              unfold wpop at hn ⊢
              omega
            · rw [clr, Bool.and_eq_true] at hi; exact hi.1
            · rw [hcn_up wc D0 hD]
              by_cases z : i = lsv S U (64 * W + q)
              · rw [gII, if_pos ⟨rfl, z⟩, if_pos z.symm, z]
              · rw [gII, if_neg (fun qq => z qq.2), if_neg (fun qq => z qq.symm)]
                exact hh2 i hi
          have iu := injD_up (U := U) wc D0 hD
          unfold wX1_fillLast_J88
          have eg : gI (pI m2 a1 (lsv S U (64 * W + q)) (nI (hcn S U (Dp P W y) (lsv S U (64 * W + q)) + 1))) a1 (lsv S U (64 * W + q)) = nI (hcn S U (Dp P W y) (lsv S U (64 * W + q)) + 1) := by rw [gII, if_pos ⟨rfl, rfl⟩]
          have e1 : nI (hcn S U (Dp P W y) (lsv S U (64 * W + q)) + 1) = 1 ↔ hcn S U (Dp P W y) (lsv S U (64 * W + q)) = 0 := by
            have := nI_eq (a := hcn S U (Dp P W y) (lsv S U (64 * W + q)) + 1) (b := 1) (by omega) (by decide)
            exact this.trans (by omega)
          rw [bI_0, eg, e1]
          refine ⟨fun hz => nx false ?_ 0 rfl, fun hz => ⟨fun h1 => nx true ?_ 1 rfl, fun h1 => nx false ?_ 0 rfl⟩⟩
          · refine ⟨fun h => absurd h (by decide), fun h => ?_⟩
            have := hb2.mpr (iu.mp h).1
            rw [hz] at this; cases this
          · exact ⟨fun _ => iu.mpr ⟨hb2.mp (ts_false hz), h1⟩, fun _ => rfl⟩
          · exact ⟨fun h => absurd h (by decide), fun h => absurd (iu.mp h).2 h1⟩
      have eD : ∀ w, w < cnt S → Dp P W y0 w = (P w && decide (w < 64 * W)) := by
        intro w hw
        unfold Dp
        cases hp : P w with
        | false => rfl
        | true =>
          congr 1
          by_cases z : w / 64 = W
          · have : bw y0 (w % 64) = true := (yb _ (by omega)).mpr ⟨by omega, by rw [show 64 * W + w % 64 = w by omega]; exact hp⟩
            rw [this]
            simp
          · simp [z]
      have eh : ∀ i, hcn S U (Dp P W y0) i = hcn S U (fun w => P w && decide (w < 64 * W)) i := fun i => fb_ct_cong (fun w hw => by
        show (Dp P W y0 w && _) = _
        rw [eD w hw])
      refine key2 (wpop y0) 0 (by have := wpop_le y0; omega) y0 m1 rfl (fun i h => h) f1 b ?_ (fun i hi => by rw [hh i hi, eh]) _ _ rfl rfl
      refine hb.trans ⟨fun h w w' q1 q2 q3 q4 q5 => h w w' q1 q2 ?_ ?_ q5, fun h w w' q1 q2 q3 q4 q5 => h w w' q1 q2 ?_ ?_ q5⟩
      · exact (eD w q1).symm.trans q3
      · exact (eD w' q2).symm.trans q4
      · exact (eD w q1).trans q3
      · exact (eD w' q2).trans q4
  refine key (wds S) 0 (by omega) m Fr.rf true ⟨fun _ w w' q1 q2 q3 => ?_, fun _ => rfl⟩ (fun i hi => ?_) 1 0 rfl rfl
  · simp at q3
  · have : hcn S U (fun w => P w && decide (w < 64 * 0)) i = 0 := fb_ct_zero.mpr (fun w _ => by simp)
    rw [this]
    exact h0 i (by omega)
end
