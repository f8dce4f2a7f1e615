/-! Lessons: left, listen -/
/-- a school with one saying more, behind all -/
def addS (S : Sc) (mm tt a : Nat) : Sc := fun f i => if f = 13 ∧ i = cN S then mm else if f = 14 ∧ i = cN S then tt else if f = 15 ∧ i = cN S then a else S f i
def lT : List Nat := [1, 19, 37, 38, 39, 40, 41, 42, 43, 44, 45, 46, 47, 70, 71, 73, 74, 12, 13, 14, 29, 30, 31]
/-- what listening may touch in the class -/
def LF (S : Sc) (m m' : zM) : Prop := Fr lT m m' ∧ (∀ j, j ≠ 12 → j ≠ 14 → gI m' 1 j = gI m 1 j) ∧ ∀ a, a ∈ [12, 13, 14, 29, 30, 31] → ∀ i, i ≠ cN S → gI m' a i = gI m a i
def rlT (u : Nat) : List Nat := [75, 78, 79, 81, u + 9, u + 10, u + 11]
/-- what it may touch in the reference -/
def RLf (u : Nat) (S : Sc) (m m' : zM) : Prop := Fr (rlT u) m m' ∧ (∀ j, j ≠ 0 → j ≠ 1 → j ≠ 2 → j ≠ 19 → gI m' 75 j = gI m 75 j) ∧ ∀ j, 9 ≤ j → j ≤ 11 → ∀ i, i ≠ cN S → gI m' (u + j) i = gI m (u + j) i
def canB (S : Sc) (mm tt : Nat) : Bool := (!(cKd S mm == 2)) && (List.range (cN S)).all (fun i => !((cBy S i == mm) && (cOf S i == tt)))
/-- the worlds with one saying more -/
noncomputable def lf1 (S : Sc) (Fc : Nat → Nat) (mm tt a : Nat) : Nat := mny S (askP (addS S mm tt a) (2 ^ (cN S + 1) - 1) (cLw S) true Fc)
noncomputable def lfM (S : Sc) (Fc : Nat → Nat) (mm tt : Nat) : Nat → Nat
  | 0 => 0
  | n + 1 => if lfM S Fc mm tt n < lf1 S Fc mm tt n then lf1 S Fc mm tt n else lfM S Fc mm tt n
noncomputable def lfV (S : Sc) (Fc : Nat → Nat) (mm tt : Nat) : Nat := lfM S Fc mm tt (cA S tt)
noncomputable def lsS (S : Sc) (Fc : Nat → Nat) (mm tt : Nat) (st : Option (Nat × Nat)) : Option (Nat × Nat) := if canB S mm tt then (match st with | none => some (8 * mm + tt, lfV S Fc mm tt) | some (b, l) => if lfV S Fc mm tt < l then some (8 * mm + tt, lfV S Fc mm tt) else some (b, l)) else st
noncomputable def lsI (S : Sc) (Fc : Nat → Nat) (mm : Nat) : Nat → Option (Nat × Nat) → Option (Nat × Nat)
  | 0, st => st
  | n + 1, st => lsS S Fc mm n (lsI S Fc mm n st)
noncomputable def lsO (S : Sc) (Fc : Nat → Nat) : Nat → Option (Nat × Nat)
  | 0 => none
  | n + 1 => lsI S Fc n (cT S) (lsO S Fc n)
def bI1 : Option (Nat × Nat) → Int32
  | none => -1
  | some (b, _) => nI b
def bI2 : Option (Nat × Nat) → Int32
  | none => 1000000000
  | some (_, l) => nI l
/-- the best lesson -/
noncomputable def blI (S : Sc) (Fc : Nat → Nat) : Int32 := bI1 (lsO S Fc (cM S))
def stOK (st : Option (Nat × Nat)) : Prop := ∀ b l, st = some (b, l) → b < 48 ∧ l ≤ 4096
abbrev Fct (S : Sc) (T : Ts) : Nat → Nat := Fcf S (thd T 3) (tfb T 3)
/-- what stands when both have listened -/
def FinL (u : Nat) (S : Sc) (T : Ts) (m m2 : zM) (r1 r2 : Int32) : Prop := r1 = r2 ∧ ∃ m1, LF S m m1 ∧ RLf u S m1 m2 ∧ (gI m1 1 12 = gI m 1 12 ∨ gI m1 1 12 = blI S (Fct S T)) ∧ gI m2 1 14 = gI m2 75 1 ∧ gI m2 75 2 = -1 ∧ gI m2 1 14 ≠ 4
section
variable {t : zT} {m m' m1 m2 : zM} {s u r : Nat} {S : Sc} {T T' : Ts} {P P' : Nat → Bool} {x x2 x3 : Int32} {Tl : List Nat} {mm tt a : Nat} {Fc : Nat → Nat}
theorem canB_iff : canB S mm tt = true ↔ cKd S mm ≠ 2 ∧ ∀ i, i < cN S → ¬ (cBy S i = mm ∧ cOf S i = tt) := by
  unfold canB
  rw [Bool.and_eq_true, List.all_eq_true]
  simp only [List.mem_range, Bool.not_eq_true', Bool.and_eq_false_iff, beq_eq_false_iff_ne, ne_eq]
  refine and_congr Iff.rfl ⟨fun h i hi q => ?_, fun h i hi => ?_⟩
  · rcases h i hi with z | z
    · exact z q.1
    · exact z q.2
  · by_cases z : cBy S i = mm
    · exact Or.inr (fun q => h i hi ⟨z, q⟩)
    · exact Or.inl z
theorem aS_by {i : Nat} (h : i ≠ cN S) : cBy (addS S mm tt a) i = cBy S i := by simp [addS, h]
theorem aS_of {i : Nat} (h : i ≠ cN S) : cOf (addS S mm tt a) i = cOf S i := by simp [addS, h]
theorem aS_wh {i : Nat} (h : i ≠ cN S) : cWh (addS S mm tt a) i = cWh S i := by simp [addS, h]
theorem aS_by0 : cBy (addS S mm tt a) (cN S) = mm := by simp [addS]
theorem aS_of0 : cOf (addS S mm tt a) (cN S) = tt := by simp [addS]
theorem aS_wh0 : cWh (addS S mm tt a) (cN S) = a := by simp [addS]
theorem aS_n : cN (addS S mm tt a) = cN S := rfl
theorem aS_vs (v : Vs S) : Vs (addS S mm tt a) := ⟨v.t1, v.t8, v.a2, v.cnt, v.c99, v.f6, v.fol, v.m6, v.kd, v.lw, v.wr, v.n16, fun i hi => by
  have hi : i < cN S := hi
  rw [aS_by (by omega), aS_of (by omega), aS_wh (by omega)]
  exact v.say i hi, v.ch5, v.he⟩
theorem LF.rf : LF S m m := ⟨Fr.rf, fun _ _ _ => rfl, fun _ _ _ _ => rfl⟩
theorem LF.tr (h1 : LF S m m1) (h2 : LF S m1 m2) : LF S m m2 := ⟨h1.1.tr h2.1, fun j a b => (h2.2.1 j a b).trans (h1.2.1 j a b), fun a ha i hi => (h2.2.2 a ha i hi).trans (h1.2.2 a ha i hi)⟩
theorem LF.of (h1 : LF S m m1) (h2 : Fr Tl m1 m2) (hT : ∀ a, a ∈ Tl → a ∈ lT ∧ a ≠ 1 ∧ a ∉ [12, 13, 14, 29, 30, 31]) : LF S m m2 := ⟨h1.1.tr (h2.mono (fun a ha => (hT a ha).1)), fun j a b => (h2.I (fun q => (hT 1 q).2.1 rfl) j).trans (h1.2.1 j a b), fun a ha i hi => (h2.I (fun q => (hT a q).2.2 ha) i).trans (h1.2.2 a ha i hi)⟩
theorem LF.px (h : LF S m m1) {j : Nat} (hj : j = 12 ∨ j = 14) (v : Int32) : LF S m (pI m1 1 j v) := ⟨Fr.pI h.1 (by decide), fun i a b => by rw [gII, if_neg (by omega)]; exact h.2.1 i a b, fun a ha i hi => by rw [gII, if_neg (by simp only [List.mem_cons, List.not_mem_nil, or_false] at ha; omega)]; exact h.2.2 a ha i hi⟩
theorem LF.ps (h : LF S m m1) {b : Nat} (hb : b ∈ [12, 13, 14, 29, 30, 31]) (v : Int32) : LF S m (pI m1 b (cN S) v) := ⟨Fr.pI h.1 (by simp only [lT, List.mem_cons, List.not_mem_nil, or_false] at hb ⊢; omega), fun i a c => by rw [gII, if_neg (by simp only [List.mem_cons, List.not_mem_nil, or_false] at hb; omega)]; exact h.2.1 i a c, fun a ha i hi => by rw [gII, if_neg (fun q => hi q.2)]; exact h.2.2 a ha i hi⟩
theorem CO.l (c : CO t m s S T) (h : LF S m m') : CO t m' s S T := by
  obtain ⟨f, g, g2⟩ := h
  have hs := c.cor.sch
  have hs' := hs
  unfold isSch at hs'
  have sm := c.cor.sm
  have way := c.cor.way
  have tm := c.tm
  have o : ∀ a, a ∈ [20, 33, 34, 35, 61, 62, 63, 64, 65, 66, 67, 68, 69] → a ∉ lT := by decide
  have e : ∀ a, a ∈ [20, 33, 34, 35, 61, 62, 63, 64, 65, 66, 67, 68, 69] → ∀ k, gI m' a k = gI m a k := fun a ha k => f.I (o a ha) k
  have es : ∀ j, (j ≤ 7 ∨ j = 11) → ∀ k, gI m' (s + j) k = gI m (s + j) k := fun j hj k => f.I (by simp only [lT, List.mem_cons, List.not_mem_nil, or_false]; omega) k
  have es0 : ∀ k, gI m' s k = gI m s k := fun k => es 0 (by omega) k
  refine ⟨⟨c.cor.lay.fr f, hs, c.cor.vs, (f.2 _ _).trans c.cor.told, ?_, ⟨c.cor.say.le, fun i hi => ?_, c.cor.say.bd⟩, way.fr f (fun a ha => o a (by simp only [List.mem_cons, List.not_mem_nil, or_false] at ha ⊢; omega))⟩, (f.2 _ _).trans c.x3, tm.fr f (by decide), c.law.fr f (by decide) (by decide), c.wor.fr f (by decide) (by decide), (g 13 (by decide) (by decide)).trans c.rec_⟩
  · unfold SchM at sm ⊢
    simp only [es 1 (by decide), es 2 (by decide), es 3 (by decide), es 4 (by decide), es 5 (by decide), es 6 (by decide), es 7 (by decide), es 11 (by decide), es0]
    exact sm
  · have hn : i ≠ cN S := by omega
    rw [g2 (s + 8) (by simp only [List.mem_cons, List.not_mem_nil, or_false]; omega) i hn, g2 (s + 9) (by simp only [List.mem_cons, List.not_mem_nil, or_false]; omega) i hn, g2 (s + 10) (by simp only [List.mem_cons, List.not_mem_nil, or_false]; omega) i hn]
    exact c.cor.say.tab i hi
theorem LF.ro (h : LF S m m') (d : RO t m u S T) : RO t m' u S T := d.ct h.1 (fun a ha => Or.inl (by simp only [lT, List.mem_cons, List.not_mem_nil, or_false] at ha; omega))
theorem RLf.rf : RLf u S m m := ⟨Fr.rf, fun _ _ _ _ _ => rfl, fun _ _ _ _ _ => rfl⟩
theorem RLf.tr (h1 : RLf u S m m1) (h2 : RLf u S m1 m2) : RLf u S m m2 := ⟨h1.1.tr h2.1, fun j a b c d => (h2.2.1 j a b c d).trans (h1.2.1 j a b c d), fun j a b i hi => (h2.2.2 j a b i hi).trans (h1.2.2 j a b i hi)⟩
theorem RLf.q (u85 : 85 ≤ u) (h : QR m m1) : RLf u S m m1 := ⟨h.1.mono (fun a ha => by simp only [rT, rlT, List.mem_cons, List.not_mem_nil, or_false] at ha ⊢; omega), h.2, fun j a b i hi => h.1.I (by simp only [rT, List.mem_cons, List.not_mem_nil, or_false]; omega) i⟩
theorem RLf.ps (u85 : 85 ≤ u) (h : RLf u S m m1) {j : Nat} (h1 : 9 ≤ j) (h2 : j ≤ 11) (v : Int32) : RLf u S m (pI m1 (u + j) (cN S) v) := ⟨Fr.pI h.1 (by simp only [rlT, List.mem_cons, List.not_mem_nil, or_false]; omega), fun i a b c d => by rw [gII, if_neg (by omega)]; exact h.2.1 i a b c d, fun i a b k hk => by rw [gII, if_neg (fun q => hk q.2)]; exact h.2.2 i a b k hk⟩
theorem RLf.co (h : RLf u S m m') (u85 : 85 ≤ u) (c : CO t m s S T) : CO t m' s S T := c.rt h.1 (fun a ha => by simp only [rlT, List.mem_cons, List.not_mem_nil, or_false] at ha; omega)
theorem RO.l (d : RO t m u S T) (h : RLf u S m m') : RO t m' u S T := by
  obtain ⟨f, g, g2⟩ := h
  have u85 := d.rc.rl.u85
  have sm := d.rc.sm
  have tm := d.tm
  have es : ∀ j, j ≤ 8 → ∀ k, gI m' (u + j) k = gI m (u + j) k := fun j hj k => f.I (by simp only [rlT, List.mem_cons, List.not_mem_nil, or_false]; omega) k
  have es0 : ∀ k, gI m' u k = gI m u k := fun k => es 0 (by omega) k
  have o : ∀ a, a ∈ [77, 82, 83] → ∀ k, gI m' a k = gI m a k := fun a ha k => f.I (by simp only [rlT, List.mem_cons, List.not_mem_nil, or_false] at ha ⊢; omega) k
  refine ⟨⟨d.rc.lay.fr f, d.rc.rl.fr f, d.rc.vs, (f.2 _ _).trans d.rc.told, ?_, fun w hw k hk => (o 77 (by decide) _).trans (d.rc.ans w hw k hk)⟩, ⟨d.sy.le, fun i hi => ?_, d.sy.bd⟩, ?_⟩
  · unfold RSm at sm ⊢
    simp only [es 1 (by decide), es 2 (by decide), es 3 (by decide), es 4 (by decide), es 5 (by decide), es 6 (by decide), es 7 (by decide), es 8 (by decide), es0]
    exact sm
  · have hn : i ≠ cN S := by omega
    rw [g2 9 (by decide) (by decide) i hn, g2 10 (by decide) (by decide) i hn, g2 11 (by decide) (by decide) i hn]
    exact d.sy.tab i hi
  · unfold TmR at tm ⊢
    simp only [o 82 (by decide), o 83 (by decide), g 28 (by decide) (by decide) (by decide) (by decide)]
    exact tm
theorem lf1_le : lf1 S Fc mm tt a ≤ cnt S := mny_le _
theorem lfM_le : ∀ n, lfM S Fc mm tt n ≤ cnt S := by
  intro n
  induction n with
  | zero => exact Nat.zero_le _
  | succ n ih => rw [lfM]; split; exact lf1_le; exact ih
theorem lfV_le (v : Vs S) : lfV S Fc mm tt ≤ 4096 := Nat.le_trans (lfM_le _) v.cnt
theorem cx_canListen (c : CO t m s S T) (hm : mm < cM S) (ht : tt < cT S) {Q : Int32 → zM → Prop} (h1 : canB S mm tt = true → Q 1 m) (h0 : canB S mm tt = false → Q 0 m) : wX9_canListen t m 1 (nI mm) (nI tt) Q := by
  have L := c.cor.lay
  have hs := c.cor.sch
  have v := c.cor.vs
  have m6 := v.m6
  have t8 := v.t8
  have n16 := v.n16
  have kd := v.kd mm hm
  have no : ¬ (cKd S mm ≠ 2 ∧ ∀ i, i < cN S → ¬ (cBy S i = mm ∧ cOf S i = tt)) → Q 0 m := fun h => h0 (by
    cases hb : canB S mm tt with
    | false => rfl
    | true => exact absurd (canB_iff.mp hb) h)
  unfold wX9_canListen
  rw [c.x3]
  simp only [ls_k L hs, ls_r1 L hs, ls_k1 L hs, ls_l1 L hs, ls_r3 L hs, ls_k3 L hs, ls_l3 L hs, ls_r6 L hs, ls_k6 L hs, ls_l6 L hs, ls_r7 L hs, ls_k7 L hs, ls_l7 L hs, ls_r8 L hs, ls_k8 L hs, ls_l8 L hs, ls_r9 L hs, ls_k9 L hs, ls_l9 L hs, ls_r11 L hs, ls_k11 L hs, ls_l11 L hs, ls_r15 L hs, ls_k15 L hs, ls_l15 L hs, ls_r16 L hs, ls_k16 L hs, ls_l16 L hs, ls_r17 L hs, ls_k17 L hs, ls_l17 L hs, ls_r19 L hs, ls_k19 L hs, ls_l19 L hs, nI_cl (show mm < 2 ^ 31 by omega), c.cor.sm.kind mm hm, true_and]
  have e2 : nI (cKd S mm) = 2 ↔ cKd S mm = 2 := nI_eq (b := 2) (by omega) (by decide)
  rw [e2]
  refine ⟨lk1 L, vp_nI (by omega) (by decide), fun h => no (fun q => q.1 h), fun h => sp_firstSaying c.cor (by omega) (by omega) (fun i hi => ⟨fun _ => no (fun q => q.2 i hi.1 hi.2.1), fun hh => absurd (nI_pos' (by have := hi.1; omega)) hh⟩) (fun hn => ⟨fun hh => absurd hh (by decide), fun _ => h1 (canB_iff.mpr ⟨h, hn⟩)⟩)⟩
theorem rsp_saysOf (d : RO t m u S T) (hm : mm < 2 ^ 31) (ht : tt < 2 ^ 31) {Q : Int32 → zM → Prop} (h1 : ∀ i, i < cN S → cBy S i = mm → cOf S i = tt → Q 1 m) (h0 : (∀ i, i < cN S → ¬ (cBy S i = mm ∧ cOf S i = tt)) → Q 0 m) : wX12_saysOf t m 75 (nI mm) (nI tt) Q := by
  have L := d.rc.lay
  have v := d.rc.vs
  have n16 := v.n16
  have m6 := v.m6
  have t8 := v.t8
  have RLc := d.rc.rl
  unfold wX12_saysOf
  refine ⟨cN S + 1, ?_⟩
  have key : ∀ dd k : Nat, k + dd = cN S → (∀ j, j < k → ¬ (cBy S j = mm ∧ cOf S j = tt)) → ∀ z : Int32, z = nI k → wX12_saysOf_L2 t 75 (nI mm) (nI tt) Q (fun m10 => Q 0 m10) (dd + 1) z m := by
    intro dd
    induction dd with
    | zero =>
      intro k hk g z hz
      have e : k = cN S := by omega
      subst e
      rw [hz, wX12_saysOf_L2, d.rc.told, d.rc.sm.sayings]
      exact ⟨lk75 L, RLc.k, fun _ => h0 g, fun hh => absurd (nI_le (Nat.le_refl _) (by omega)) hh⟩
    | succ dd ih =>
      intro k hk g z hz
      have hk1 : k < cN S := by omega
      obtain ⟨b1, b2, b3⟩ := v.say k hk1
      obtain ⟨e1, e3, e4⟩ := d.sy.tab k hk1
      rw [hz, wX12_saysOf_L2]
      simp only [d.rc.told, d.rc.sm.sayings, RLc.k, RLc.r1, RLc.k1, RLc.l1, RLc.r2, RLc.k2, RLc.l2, RLc.r3, RLc.k3, RLc.l3, RLc.r4, RLc.k4, RLc.l4, RLc.r5, RLc.k5, RLc.l5, RLc.r6, RLc.k6, RLc.l6, RLc.r7, RLc.k7, RLc.l7, RLc.r8, RLc.k8, RLc.l8, RLc.r9, RLc.k9, RLc.l9, RLc.r10, RLc.k10, RLc.l10, RLc.r11, RLc.k11, RLc.l11, RLc.r12, RLc.k12, RLc.l12, RLc.r13, RLc.k13, RLc.l13, RLc.r14, RLc.k14, RLc.l14, nI_cl (show k < 2 ^ 31 by omega), e1, e3, true_and, nI_eq (show cBy S k < 2 ^ 31 by omega) hm, nI_eq (show cOf S k < 2 ^ 31 by omega) ht]
      unfold wX12_saysOf_J41
      have vk : vp_in (nI k) 17 := vp_nI (by omega) (by decide)
      have nx : ¬ (cBy S k = mm ∧ cOf S k = tt) → ∀ j, j < k + 1 → ¬ (cBy S j = mm ∧ cOf S j = tt) := by
        intro hh j hj
        rcases (show j < k ∨ j = k by omega) with q | q
        · exact g j q
        · subst q; exact hh
      refine ⟨lk75 L, fun hh => absurd hh (nI_ge (by omega) (by omega)), fun _ => ⟨vk, fun ha => ⟨vk, fun hb => h1 k hk1 ha hb, fun hb => ih (k + 1) (by omega) (nx (fun q => hb q.2)) _ (nI_1 k)⟩, fun ha => ih (k + 1) (by omega) (nx (fun q => ha q.1)) _ (nI_1 k)⟩⟩
  exact key (cN S) 0 (by omega) (fun j hj => absurd hj (by omega)) 0 rfl
theorem rx_canListen (d : RO t m u S T) (hm : mm < cM S) (ht : tt < cT S) {Q : Int32 → zM → Prop} (h1 : canB S mm tt = true → Q 1 m) (h0 : canB S mm tt = false → Q 0 m) : wX12_canListen t m 75 (nI mm) (nI tt) Q := by
  have L := d.rc.lay
  have v := d.rc.vs
  have m6 := v.m6
  have t8 := v.t8
  have n16 := v.n16
  have kd := v.kd mm hm
  have RLc := d.rc.rl
  have no : ¬ (cKd S mm ≠ 2 ∧ ∀ i, i < cN S → ¬ (cBy S i = mm ∧ cOf S i = tt)) → Q 0 m := fun h => h0 (by
    cases hb : canB S mm tt with
    | false => rfl
    | true => exact absurd (canB_iff.mp hb) h)
  unfold wX12_canListen
  simp only [d.rc.told, RLc.k, RLc.r1, RLc.k1, RLc.l1, RLc.r2, RLc.k2, RLc.l2, RLc.r3, RLc.k3, RLc.l3, RLc.r4, RLc.k4, RLc.l4, RLc.r5, RLc.k5, RLc.l5, RLc.r6, RLc.k6, RLc.l6, RLc.r7, RLc.k7, RLc.l7, RLc.r8, RLc.k8, RLc.l8, RLc.r9, RLc.k9, RLc.l9, RLc.r10, RLc.k10, RLc.l10, RLc.r11, RLc.k11, RLc.l11, RLc.r12, RLc.k12, RLc.l12, RLc.r13, RLc.k13, RLc.l13, RLc.r14, RLc.k14, RLc.l14, nI_cl (show mm < 2 ^ 31 by omega), d.rc.sm.kind mm hm, true_and]
  have e2 : nI (cKd S mm) = 2 ↔ cKd S mm = 2 := nI_eq (b := 2) (by omega) (by decide)
  rw [e2]
  exact ⟨lk75 L, vp_nI (by omega) (by decide), fun h => no (fun q => q.1 h), fun h => rsp_saysOf d (by omega) (by omega) (fun i hi a b => ⟨fun h => absurd h (by decide), fun _ => no (fun q => q.2 i hi ⟨a, b⟩)⟩) (fun hn => ⟨fun _ => h1 (canB_iff.mpr ⟨h, hn⟩), fun h => absurd rfl h⟩)⟩
end
