/-! The term: what was reckoned, and when it is reckoned again -/
def cTl : List Nat := [1, 52, 61, 62, 63, 64, 65, 68, 69]
/-- what a call that changes the term may touch in the class -/
def CT (m m' : zM) : Prop := Fr cTl m m' ∧ (∀ j, j ≠ 12 → j ≠ 13 → j ≠ 14 → gI m' 1 j = gI m 1 j) ∧ ∀ j, j ≠ 0 → gI m' 52 j = gI m 52 j
def rTl : List Nat := [75, 78, 79, 82, 83]
/-- what it may touch in the reference -/
def RT (m m' : zM) : Prop := Fr rTl m m' ∧ ∀ j, j ≠ 0 → j ≠ 1 → j ≠ 2 → j ≠ 19 → j ≠ 28 → gI m' 75 j = gI m 75 j
/-- lesson and plan stay, and so do the facts; or they are forgotten -/
def Kp (S : Sc) (T T' : Ts) (m m' : zM) : Prop := (Fcf S (thd T' 3) (tfb T' 3) = Fcf S (thd T 3) (tfb T 3) ∧ gI m' 1 12 = gI m 1 12 ∧ gI m' 52 0 = gI m 52 0) ∨ (gI m' 1 12 = -2 ∧ gI m' 52 0 = 0)
/-- what stands when both have changed the term -/
def FinT (t : zT) (s u : Nat) (S : Sc) (T : Ts) (m m2 : zM) (r1 r2 : Int32) : Prop := r1 = r2 ∧ ∃ T' m1, CT m m1 ∧ RT m1 m2 ∧ CO t m2 s S T' ∧ RO t m2 u S T' ∧ Kp S T T' m m1 ∧ gI m2 1 14 = gI m2 75 1 ∧ gI m2 75 2 = -1 ∧ gI m2 1 14 ≠ 4
def mkT (T : Ts) (a b c : Nat) (e : Int32) : Ts := (fun j i => if j = 3 then (if i = 0 then a else if i = 1 then b else if i = 2 then c else T.1 3 i) else T.1 j i, fun j => if j = 3 then e else T.2 j)
/-- what is so by the first n facts -/
def FacK (S : Sc) (Fc : Nat → Nat) (n w : Nat) : Bool := (List.range n).all fun k => (Fc k == 0) || (Fc k == ans S w k + 1)
def Rk (m : zM) (m' : zM) (S : Sc) (hd : Nat) (fb : Nat) : Prop := (Fr [1, 52, 68, 69] m m') ∧ (∀ j, j ≠ 12 → j ≠ 13 → gI m' 1 j = gI m 1 j) ∧ (gI m' 1 12 = -2) ∧ (gI m' 1 13 = nI (facN S hd fb (cT S))) ∧ (∀ j, j ≠ 0 → gI m' 52 j = gI m 52 j) ∧ (gI m' 52 0 = 0) ∧ (RowM m' 68 S (askP S (allS S) (cLw S) true (Fcf S hd fb)))
theorem Rk.fr {m : zM} {m' : zM} {S : Sc} {hd : Nat} {fb : Nat} (h_ : Rk m m' S hd fb) : Fr [1, 52, 68, 69] m m' := h_.1
theorem Rk.x {m : zM} {m' : zM} {S : Sc} {hd : Nat} {fb : Nat} (h_ : Rk m m' S hd fb) : ∀ j, j ≠ 12 → j ≠ 13 → gI m' 1 j = gI m 1 j := h_.2.1
theorem Rk.x12 {m : zM} {m' : zM} {S : Sc} {hd : Nat} {fb : Nat} (h_ : Rk m m' S hd fb) : gI m' 1 12 = -2 := h_.2.2.1
theorem Rk.x13 {m : zM} {m' : zM} {S : Sc} {hd : Nat} {fb : Nat} (h_ : Rk m m' S hd fb) : gI m' 1 13 = nI (facN S hd fb (cT S)) := h_.2.2.2.1
theorem Rk.p {m : zM} {m' : zM} {S : Sc} {hd : Nat} {fb : Nat} (h_ : Rk m m' S hd fb) : ∀ j, j ≠ 0 → gI m' 52 j = gI m 52 j := h_.2.2.2.2.1
theorem Rk.p0 {m : zM} {m' : zM} {S : Sc} {hd : Nat} {fb : Nat} (h_ : Rk m m' S hd fb) : gI m' 52 0 = 0 := h_.2.2.2.2.2.1
theorem Rk.row {m : zM} {m' : zM} {S : Sc} {hd : Nat} {fb : Nat} (h_ : Rk m m' S hd fb) : RowM m' 68 S (askP S (allS S) (cLw S) true (Fcf S hd fb)) := h_.2.2.2.2.2.2
/-- a hidden way and facts that may be -/
def hfV (S : Sc) (hd fb : Nat) : Prop := hd ≤ cnt S ∧ fb < 2 ^ cT S ∧ (hd = 0 → fb = 0)
section
variable {t : zT} {m m' m1 m2 : zM} {s u r : Nat} {S : Sc} {T T' : Ts} {P P' : Nat → Bool} {x x2 x3 : Int32} {Tl : List Nat} {hd fb : Nat}
theorem CO.rt (c : CO t m s S T) (f : Fr Tl m m') (h : ∀ a, a ∈ Tl → 75 ≤ a) : CO t m' s S T := by
  have o : ∀ a, a < 75 → a ∉ Tl := fun a ha q => by have := h a q; omega
  have e : ∀ a, a < 75 → ∀ k, gI m' a k = gI m a k := fun a ha k => f.I (o a ha) k
  have tm := c.tm
  refine ⟨c.cor.fr f (fun a h1 h2 h3 => o a (by omega)), (f.2 _ _).trans c.x3, ?_, c.law.fr f (o _ (by decide)) (o _ (by decide)), c.wor.fr f (o _ (by decide)) (o _ (by decide)), (e 1 (by decide) _).trans c.rec_⟩
  unfold TmC at tm ⊢
  simp only [e 61 (by decide), e 62 (by decide), e 63 (by decide), e 64 (by decide), e 65 (by decide)]
  exact tm
theorem RSm.fr2 (h : RSm m u S) (f : Fr Tl m m') (hT : ∀ j, j ≤ 14 → u + j ∉ Tl) : RSm m' u S := by
  have e : ∀ j k, j ≤ 14 → gI m' (u + j) k = gI m (u + j) k := fun j k hj => f.I (hT j hj) k
  have e0 : ∀ k, gI m' u k = gI m u k := fun k => e 0 k (by decide)
  unfold RSm at h ⊢
  simp only [e 1 _ (by decide), e 2 _ (by decide), e 3 _ (by decide), e 4 _ (by decide), e 5 _ (by decide), e 6 _ (by decide), e 7 _ (by decide), e 8 _ (by decide), e0]
  exact h
theorem RSy.fr2 {N : Nat} (h : RSy m u S N) (f : Fr Tl m m') (hT : ∀ j, j ≤ 14 → u + j ∉ Tl) : RSy m' u S N := by
  have e : ∀ j k, j ≤ 14 → gI m' (u + j) k = gI m (u + j) k := fun j k hj => f.I (hT j hj) k
  unfold RSy at h ⊢
  simp only [e 9 _ (by decide), e 10 _ (by decide), e 11 _ (by decide)]
  exact h
theorem RC.fr2 (h : RC t m u S) (f : Fr Tl m m') (hT : ∀ j, j ≤ 14 → u + j ∉ Tl) (h77 : 77 ∉ Tl) : RC t m' u S :=
  ⟨h.lay.fr f, h.rl.fr f, h.vs, (f.2 _ _).trans h.told, h.sm.fr2 f hT, fun w hw k hk => (f.I h77 _).trans (h.ans w hw k hk)⟩
theorem RO.ct (d : RO t m u S T) (f : Fr Tl m m') (h : ∀ a, a ∈ Tl → a < 75 ∨ (85 ≤ a ∧ (a < u ∨ u + 15 ≤ a))) : RO t m' u S T := by
  have u85 := d.rc.rl.u85
  have o : ∀ a, 75 ≤ a → a < 85 → a ∉ Tl := fun a h1 h2 q => by have := h a q; omega
  have oj : ∀ j, j ≤ 14 → u + j ∉ Tl := fun j hj q => by have := h _ q; omega
  have tm := d.tm
  refine ⟨d.rc.fr2 f oj (o _ (by decide) (by decide)), d.sy.fr2 f oj, ?_⟩
  unfold TmR at tm ⊢
  simp only [f.I (o 82 (by decide) (by decide)), f.I (o 83 (by decide) (by decide)), f.I (o 75 (by decide) (by decide))]
  exact tm
theorem CT.rf : CT m m := ⟨Fr.rf, fun _ _ _ _ => rfl, fun _ _ => rfl⟩
theorem CT.ro (h : CT m m') (d : RO t m u S T) : RO t m' u S T := d.ct h.1 (fun a ha => Or.inl (by simp only [cTl, List.mem_cons, List.not_mem_nil, or_false] at ha; omega))
theorem RT.co (h : RT m m') (c : CO t m s S T) : CO t m' s S T := c.rt h.1 (fun a ha => by simp only [rTl, List.mem_cons, List.not_mem_nil, or_false] at ha; omega)
theorem CO.up (c : CO t m s S T) (f : CT m m') (tm : TmC m' S T') (wor : RowM m' 68 S (Wd S T')) (rc : gI m' 1 13 = nI (facN S (thd T' 3) (tfb T' 3) (cT S))) : CO t m' s S T' :=
  ⟨c.cor.fr f.1 (fun a h1 h2 h3 => by simp only [cTl, List.mem_cons, List.not_mem_nil, or_false]; omega), (f.1.2 _ _).trans c.x3, tm, c.law.fr f.1 (by decide) (by decide), wor, rc⟩
theorem fin_raw (L : Lay t m) {w : Int32} (q1 : QF m m1) (hw : gI m1 1 14 = w) (q2 : QR m1 m2) (h4 : w ≠ 4) (r : Int32) : Fin m (pI (pI m2 75 1 w) 75 2 (-1)) r r := ⟨rfl, (fin_refused L q1 hw q2 h4).2.2⟩
theorem fin_T {w r1 : Int32} (f : CT m m1) (c1 : CO t m1 s S T') (k : Kp S T T' m m1) (hw : gI m1 1 14 = w) (q : RT m1 m2) (d : RO t m2 u S T') (e1 : gI m2 75 1 = w) (e2 : gI m2 75 2 = -1) (h4 : w ≠ 4) : FinT t s u S T m m2 r1 r1 := by
  have e : gI m2 1 14 = w := (q.1.I (by decide) _).trans hw
  exact ⟨rfl, T', m1, f, q, q.co c1, d, k, e.trans e1.symm, e2, by rw [e]; exact h4⟩
theorem mk_mk {a b c : Nat} {e : Int32} : tmk (mkT T a b c e) = tmk T := rfl
theorem TmC.up (h : TmC m S T) {a b c : Nat} {e : Int32} (hk : ∀ j, j ∈ [62, 63, 64, 65] → ∀ k, gI m' j k = gI m j k) (h0 : gI m' 61 0 = nI a) (h1 : gI m' 61 1 = m1I b) (h2 : gI m' 61 2 = nI c) (h3 : gI m' 61 3 = e) (h4 : gI m' 61 4 = gI m 61 4) (ha : a < 65537) (hv : hfV S b c) : TmC m' S (mkT T a b c e) := by
  have k3 := h.mk3
  refine ⟨h0, h1, h2, h3, h4.trans h.marks, fun j hj => ?_, k3, ⟨ha, hv⟩, fun j hj => ?_⟩
  · have hj : j < tmk T := hj
    have n3 : ¬ j = 3 := by omega
    have := h.kept j hj
    simp only [mkT, tsd, thd, tfb, tcs, n3, if_false, hk 62 (by decide), hk 63 (by decide), hk 64 (by decide), hk 65 (by decide)]
    exact this
  · have hj : j < tmk T := hj
    have n3 : ¬ j = 3 := by omega
    have := h.valk j hj
    simp only [TmV, mkT, tsd, thd, tfb, n3, if_false]
    exact this
theorem TmR.up (h : TmR m S T) {a b c : Nat} {e : Int32} (hk : ∀ k, gI m' 83 k = gI m 83 k) (h0 : gI m' 82 10 = nI a) (h1 : gI m' 82 8 = m2I b) (h2 : ∀ k, k < 8 → gI m' 82 k = fcI (Fcf S b c k)) (h3 : gI m' 82 9 = e) (h4 : gI m' 75 28 = gI m 75 28) (ha : a < 65537) (hv : hfV S b c) : TmR m' S (mkT T a b c e) := by
  have k3 := h.mk3
  refine ⟨h2, h1, h3, h0, h4.trans h.marks, fun j hj => ?_, k3, ⟨ha, hv⟩, fun j hj => ?_⟩
  · have hj : j < tmk T := hj
    have n3 : ¬ j = 3 := by omega
    have := h.kept j hj
    simp only [mkT, tsd, thd, tfb, tcs, n3, if_false, hk]
    exact this
  · have hj : j < tmk T := hj
    have n3 : ¬ j = 3 := by omega
    have := h.valk j hj
    simp only [TmV, mkT, tsd, thd, tfb, n3, if_false]
    exact this
theorem RowM.cg (R : RowM m r S P) (h : ∀ w, P w = P' w) : RowM m r S P' := by rw [← (funext h : P = P')]; exact R
-- the facts as a number
theorem facN_lt (v : Vs S) (hf : fb < 256) : ∀ n, n ≤ cT S → facN S hd fb n < 2 ^ (8 + 2 * n) := by
  intro n
  induction n with
  | zero => intro _; exact hf
  | succ n ih =>
    intro hn
    have h1 := ih (by omega)
    have a4 := ans_4 v (w := hd - 1) (show n < cT S by omega)
    have e : 2 ^ (8 + 2 * (n + 1)) = 4 * 2 ^ (8 + 2 * n) := by rw [show 8 + 2 * (n + 1) = (8 + 2 * n) + 2 by omega, Nat.pow_add]; omega
    have p := Nat.two_pow_pos (8 + 2 * n)
    rw [facN]
    refine Nat.or_lt_two_pow (by omega) ?_
    split
    · rw [e]; exact Nat.mul_lt_mul_of_pos_right a4 p
    · omega
theorem facN_31 (v : Vs S) (hf : fb < 256) : facN S hd fb (cT S) < 2 ^ 31 := by
  have := facN_lt (hd := hd) v hf (cT S) (Nat.le_refl _)
  have t8 := v.t8
  have : 2 ^ (8 + 2 * cT S) ≤ 2 ^ 24 := Nat.pow_le_pow_right (by decide) (by omega)
  omega
theorem facN_tb (v : Vs S) (hf : fb < 256) : ∀ n, n ≤ cT S → ∀ i, (facN S hd fb n).testBit i = if i < 8 then fb.testBit i else (decide ((i - 8) / 2 < n) && fb.testBit ((i - 8) / 2) && (ans S (hd - 1) ((i - 8) / 2)).testBit ((i - 8) % 2)) := by
  intro n
  induction n with
  | zero =>
    intro _ i
    rw [facN]
    split
    · rfl
    · have : fb.testBit i = false := Nat.testBit_lt_two_pow (Nat.lt_of_lt_of_le hf (show 2 ^ 8 ≤ 2 ^ i from Nat.pow_le_pow_right (by decide) (by omega)))
      simp [this]
  | succ n ih =>
    intro hn i
    have a4 := ans_4 v (w := hd - 1) (show n < cT S by omega)
    rw [facN, Nat.testBit_or, ih (by omega)]
    by_cases hi : i < 8
    · have : ((if fb.testBit n then ans S (hd - 1) n * 2 ^ (8 + 2 * n) else 0) : Nat).testBit i = false := by
        split
        · rw [Nat.testBit_mul_two_pow]; simp [show ¬ 8 + 2 * n ≤ i by omega]
        · exact Nat.zero_testBit i
      simp [hi, this]
    · rw [if_neg hi, if_neg hi]
      by_cases hq : (i - 8) / 2 = n
      · have e2 : i - (8 + 2 * n) = (i - 8) % 2 := by omega
        rw [hq]
        cases hb : fb.testBit n with
        | false => simp
        | true =>
          simp only [if_true, Nat.testBit_mul_two_pow, e2, show 8 + 2 * n ≤ i by omega, decide_true, Bool.true_and, Nat.lt_irrefl, decide_false, Bool.false_and, Bool.false_or, Nat.lt_succ_self, show n < n + 1 by omega]
      · have z : ((if fb.testBit n then ans S (hd - 1) n * 2 ^ (8 + 2 * n) else 0) : Nat).testBit i = false := by
          split
          · rw [Nat.testBit_mul_two_pow]
            by_cases hl : 8 + 2 * n ≤ i
            · have : (ans S (hd - 1) n).testBit (i - (8 + 2 * n)) = false := Nat.testBit_lt_two_pow (Nat.lt_of_lt_of_le a4 (show 2 ^ 2 ≤ 2 ^ (i - (8 + 2 * n)) from Nat.pow_le_pow_right (by decide) (by omega)))
              simp [this]
            · simp [hl]
          · exact Nat.zero_testBit i
        rw [z, Bool.or_false]
        congr 2
        exact decide_eq_decide.mpr (by omega)
theorem facN_inj (v : Vs S) {hd' fb' : Nat} (h1 : hfV S hd fb) (h2 : hfV S hd' fb') (e : facN S hd fb (cT S) = facN S hd' fb' (cT S)) : Fcf S hd fb = Fcf S hd' fb' := by
  have f1 := tfb_lt v h1.2.1
  have f2 := tfb_lt v h2.2.1
  have E : ∀ i, (facN S hd fb (cT S)).testBit i = (facN S hd' fb' (cT S)).testBit i := fun i => by rw [e]
  have hb : ∀ k, fb.testBit k = fb'.testBit k := by
    intro k
    by_cases hk : k < 8
    · have := E k
      rw [facN_tb v f1 _ (Nat.le_refl _), facN_tb v f2 _ (Nat.le_refl _), if_pos hk, if_pos hk] at this
      exact this
    · rw [Nat.testBit_lt_two_pow (Nat.lt_of_lt_of_le f1 (show 2 ^ 8 ≤ 2 ^ k from Nat.pow_le_pow_right (by decide) (by omega))), Nat.testBit_lt_two_pow (Nat.lt_of_lt_of_le f2 (show 2 ^ 8 ≤ 2 ^ k from Nat.pow_le_pow_right (by decide) (by omega)))]
  funext k
  unfold Fcf
  rw [← hb k]
  cases hk : fb.testBit k with
  | false => rfl
  | true =>
    have kl : k < cT S := by
      rcases Nat.lt_or_ge k (cT S) with q | q
      · exact q
      · rw [Nat.testBit_lt_two_pow (Nat.lt_of_lt_of_le h1.2.1 (Nat.pow_le_pow_right (by decide) q))] at hk; cases hk
    have a1 := ans_4 v (w := hd - 1) kl
    have a2 := ans_4 v (w := hd' - 1) kl
    simp only [if_true]
    congr 1
    apply Nat.eq_of_testBit_eq
    intro j
    by_cases hj : j < 2
    · have := E (8 + 2 * k + j)
      rw [facN_tb v f1 _ (Nat.le_refl _), facN_tb v f2 _ (Nat.le_refl _), if_neg (by omega), if_neg (by omega), show (8 + 2 * k + j - 8) / 2 = k by omega, show (8 + 2 * k + j - 8) % 2 = j by omega, ← hb k, hk] at this
      simpa [kl] using this
    · rw [Nat.testBit_lt_two_pow (Nat.lt_of_lt_of_le a1 (show 2 ^ 2 ≤ 2 ^ j from Nat.pow_le_pow_right (by decide) (by omega))), Nat.testBit_lt_two_pow (Nat.lt_of_lt_of_le a2 (show 2 ^ 2 ≤ 2 ^ j from Nat.pow_le_pow_right (by decide) (by omega)))]
theorem shl_fac {a k : Nat} (ha : a < 4) (hk : k < 8) : nI a <<< (((8 : Int32) + ((2 : Int32) * nI k)) &&& 31) = nI (a * 2 ^ (8 + 2 * k)) := by
  rw [show (8 : Int32) = nI 8 from rfl, show (2 : Int32) = nI 2 from rfl, pk_mul, nI_add]
  refine pk_shlN _ (8 + 2 * k) (s_l _ (by omega)) ?_
  have p : 2 ^ (8 + 2 * k) ≤ 2 ^ 22 := Nat.pow_le_pow_right (by decide) (by omega)
  have : a * 2 ^ (8 + 2 * k) ≤ 3 * 2 ^ 22 := Nat.mul_le_mul (by omega) p
  omega
theorem hd_pos {k : Nat} (hv : hfV S hd fb) (hb : fb.testBit k = true) : hd ≠ 0 := fun q => by rw [hv.2.2 q, Nat.zero_testBit] at hb; cases hb
theorem sp_factsNo (c : Cor t m s S) (x3 : gR m 1 3 = s) (h1 : gI m 61 1 = m1I hd) (h2 : gI m 61 2 = nI fb) (hv : hfV S hd fb) {Q : Int32 → zM → Prop} (hQ : Q (nI (facN S hd fb (cT S))) m) : wX9_factsAsNumber t m 1 Q := by
  have L := c.lay
  have v := c.vs
  have t8 := v.t8
  have f8 := tfb_lt v hv.2.1
  have hs := c.sch
  unfold wX9_factsAsNumber
  rw [lr1_6 L, h2]
  refine ⟨lk1 L, lk61 L, fun x0 hx0 => ⟨cT S + 1, ?_⟩⟩
  have key : ∀ dd k : Nat, k + dd = cT S → ∀ z1 z2 : Int32, z1 = nI (facN S hd fb k) → z2 = nI k → wX9_factsAsNumber_L10 t 1 Q (fun v16 m17 => Q v16 m17) (dd + 1) z1 z2 m := by
    intro dd
    induction dd with
    | zero =>
      intro k hk z1 z2 e1 e2
      have e : k = cT S := by omega
      subst e
      rw [e1, e2, wX9_factsAsNumber_L10, x3, c.sm.things]
      exact ⟨lk1 L, ls_k L hs, fun _ => hQ, fun hh => absurd (nI_le (Nat.le_refl _) (by omega)) hh⟩
    | succ dd ih =>
      intro k hk z1 z2 e1 e2
      have hk1 : k < cT S := by omega
      rw [e1, e2, wX9_factsAsNumber_L10, x3, c.sm.things, lr1_6 L]
      unfold wX9_factsAsNumber_J57
      refine ⟨lk1 L, ls_k L hs, fun hh => absurd hh (nI_ge (by omega) (by omega)), fun _ => ⟨lk61 L, cx_isFact (lk61 L) h2 (by omega) (by omega) (fun hb => ⟨fun h => absurd h (by decide), fun _ => ?_⟩) (fun hb => ⟨fun _ => ih (k + 1) (by omega) _ _ ?_ (nI_1 k), fun h => absurd rfl h⟩)⟩⟩
      · have hp := hd_pos hv hb
        have hl := hv.1
        rw [lr1_6 L, lr1_2 L, h1, m1I_pos hp]
        refine ⟨lk61 L, lk20 L, sp_answerIn c (by omega) hk1 (fun x15 h15 => ih (k + 1) (by omega) _ _ ?_ (nI_1 k))⟩
        rw [h15, shl_fac (ans_4 v hk1) (by omega), fa_or, facN, hb]
        rfl
      · rw [facN, hb]; simp
  exact key (cT S) 0 (by omega) x0 0 hx0 rfl
theorem FacK_succ {Fc : Nat → Nat} {n w : Nat} : FacK S Fc (n + 1) w = (FacK S Fc n w && ((Fc n == 0) || (Fc n == ans S w n + 1))) := by
  simp [FacK, List.range_succ]
theorem sp_keepFacts (c : Cor t m s S) (hr : isRow r) (x3 : gR m 1 3 = s) (h1 : gI m 61 1 = m1I hd) (h2 : gI m 61 2 = nI fb) (hv : hfV S hd fb) (R : RowM m r S P) {Q : zM → Prop} (hQ : ∀ m', Fr [r, r + 1] m m' → RowM m' r S (fun w => P w && FacB S (Fcf S hd fb) w) → Q m') : wX9_keepFacts t m 1 r Q := by
  have L := c.lay
  have v := c.vs
  have t8 := v.t8
  have f8 := tfb_lt v hv.2.1
  have hs := c.sch
  have hr' := hr
  unfold isRow at hr'
  have n61 : 61 ∉ [r, r + 1] := by
    simp only [List.mem_cons, List.not_mem_nil, or_false]; omega
  unfold wX9_keepFacts
  refine ⟨cT S + 1, ?_⟩
  have key : ∀ dd k : Nat, k + dd = cT S → ∀ m1, Fr [r, r + 1] m m1 → RowM m1 r S (fun w => P w && FacK S (Fcf S hd fb) k w) → ∀ z2 : Int32, z2 = nI k → wX9_keepFacts_L2 t 1 r Q (fun m14 => Q m14) (dd + 1) z2 m1 := by
    intro dd
    induction dd with
    | zero =>
      intro k hk m1 f1 R1 z2 e2
      have e : k = cT S := by omega
      subst e
      have c1 := c.fr f1 (fun a h1 h2 h3 => by simp only [List.mem_cons, List.not_mem_nil, or_false]; omega)
      rw [e2, wX9_keepFacts_L2, f1.2, x3, c1.sm.things]
      exact ⟨lk1 L, ls_k L hs, fun _ => hQ m1 f1 R1, fun hh => absurd (nI_le (Nat.le_refl _) (by omega)) hh⟩
    | succ dd ih =>
      intro k hk m1 f1 R1 z2 e2
      have hk1 : k < cT S := by omega
      have c1 := c.fr f1 (fun a h1 h2 h3 => by simp only [List.mem_cons, List.not_mem_nil, or_false]; omega)
      have L1 := c1.lay
      rw [e2, wX9_keepFacts_L2, f1.2, x3, c1.sm.things, lr1_6 L1]
      unfold wX9_keepFacts_J48
      refine ⟨lk1 L, ls_k L hs, fun hh => absurd hh (nI_ge (by omega) (by omega)), fun _ => ⟨lk61 L, cx_isFact (fb := fb) (lk61 L) ((f1.I n61 _).trans h2) (by omega) (by omega) (fun hb => ⟨fun h => absurd h (by decide), fun _ => ?_⟩) (fun hb => ⟨fun _ => ih (k + 1) (by omega) m1 f1 (R1.cg (fun w => ?_)) _ (nI_1 k), fun h => absurd rfl h⟩)⟩⟩
      · have hp := hd_pos hv hb
        have hl := hv.1
        rw [lr1_6 L1, lr1_2 L1, f1.I n61, h1, m1I_pos hp]
        refine ⟨lk61 L, lk20 L, sp_answerIn c1 (by omega) hk1 (sp_keepOnly c1 hr R1 hk1 (ans_4 v hk1) (fun m2 f2 R2 => ih (k + 1) (by omega) m2 (f1.tr f2) (R2.cg (fun w => ?_)) _ (nI_1 k)))⟩
        rw [FacK_succ, Bool.and_assoc]
        congr 2
        simp only [Fcf, hb, if_true]
        rw [← bt_iff]
        simp only [Bool.or_eq_true, beq_iff_eq]
        omega
      · rw [FacK_succ]
        simp [Fcf, hb]
  exact key (cT S) 0 (by omega) m Fr.rf (R.cg (fun w => by simp [FacK])) 0 rfl
theorem sp_reckon (c : Cor t m s S) (x3 : gR m 1 3 = s) (h1 : gI m 61 1 = m1I hd) (h2 : gI m 61 2 = nI fb) (hv : hfV S hd fb) (R : RowM m 66 S (Lw S)) {Q : zM → Prop} (hQ : ∀ m', Rk m m' S hd fb → Q m') : wX9_reckonWorlds t m 1 Q := by
  have L := c.lay
  have v := c.vs
  unfold wX9_reckonWorlds
  rw [lr1_8 L, lr1_7 L]
  refine ⟨lk1 L, lk68 L, sp_copy L (Or.inr (Or.inl rfl)) (Or.inl rfl) (by decide) v R (fun m2 f2 R2 => ?_)⟩
  have c2 := c.fr f2 (fun a h1 h2 h3 => by simp only [List.mem_cons, List.not_mem_nil, or_false]; omega)
  have L2 := c2.lay
  rw [lr1_8 L2]
  refine sp_keepFacts c2 (Or.inr (Or.inl rfl)) ((f2.2 _ _).trans x3) ((f2.I (by decide) _).trans h1) ((f2.I (by decide) _).trans h2) hv R2 (fun m3 f3 R3 => ?_)
  have F3 : Fr [68, 69] m m3 := f2.tr f3
  have F4 : Fr [1, 52, 68, 69] m (pI (pI m3 52 0 0) 1 12 (-2)) := Fr.pI (Fr.pI (F3.mono (by decide)) (by decide)) (by decide)
  have c4 := c.fr F4 (fun a h1 h2 h3 => by simp only [List.mem_cons, List.not_mem_nil, or_false]; omega)
  rw [lr1_5 (L.fr F3)]
  refine ⟨lk52 L, sp_factsNo c4 ((F4.2 _ _).trans x3) ((F4.I (by decide) _).trans h1) ((F4.I (by decide) _).trans h2) hv (hQ _ ?_)⟩
  refine ⟨Fr.pI F4 (by decide), fun j a b => ?_, ?_, ?_, fun j a => ?_, ?_, ?_⟩
  · simp (config := { decide := true }) only [gII, a, b, and_false, false_and, if_false]
    exact F3.I (by decide) _
  · simp (config := { decide := true }) only [gII, and_false, false_and, if_false, and_self, if_true]
  · simp (config := { decide := true }) only [gII, and_self, if_true]
  · simp (config := { decide := true }) only [gII, a, and_false, false_and, if_false]
    exact F3.I (by decide) _
  · simp (config := { decide := true }) only [gII, and_false, false_and, if_false, and_self, if_true]
  · have f5 : Fr [1, 52] m3 (pI (pI (pI m3 52 0 0) 1 12 (-2)) 1 13 (nI (facN S hd fb (cT S)))) := Fr.pI (Fr.pI (Fr.pI Fr.rf (by decide)) (by decide)) (by decide)
    exact (R3.fr f5 (by decide) (by decide)).cg (fun w => by rw [askP_eq]; rfl)
theorem sp_reckonIf (c : Cor t m s S) (x3 : gR m 1 3 = s) (h1 : gI m 61 1 = m1I hd) (h2 : gI m 61 2 = nI fb) (hv : hfV S hd fb) (R : RowM m 66 S (Lw S)) {hd' fb' : Nat} (hv' : hfV S hd' fb') (hrec : gI m 1 13 = nI (facN S hd' fb' (cT S))) {Q : zM → Prop} (hs : Fcf S hd fb = Fcf S hd' fb' → gI m 1 13 = nI (facN S hd fb (cT S)) → Q m) (hQ : ∀ m', Rk m m' S hd fb → Q m') : wX9_reckonIfChanged t m 1 Q := by
  have v := c.vs
  unfold wX9_reckonIfChanged
  refine ⟨lk1 c.lay, sp_factsNo c x3 h1 h2 hv ?_⟩
  rw [hrec, nI_eq (facN_31 v (tfb_lt v hv.2.1)) (facN_31 v (tfb_lt v hv'.2.1))]
  exact ⟨fun e => hs (facN_inj v hv hv' e) (by rw [hrec, e]), fun _ => sp_reckon c x3 h1 h2 hv R hQ⟩
end
