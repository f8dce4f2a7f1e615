/-! The state of both, and what a query may touch -/
abbrev Ts : Type := (Nat → Nat → Nat) × (Nat → Int32)
abbrev tsd (T : Ts) (j : Nat) : Nat := T.1 j 0
abbrev thd (T : Ts) (j : Nat) : Nat := T.1 j 1
abbrev tfb (T : Ts) (j : Nat) : Nat := T.1 j 2
abbrev tmk (T : Ts) : Nat := T.1 3 3
abbrev tcs (T : Ts) (j : Nat) : Int32 := T.2 j
def m2I (b : Nat) : Int32 := if b = 0 then -2 else nI (b - 1)
def Fcf (S : Sc) (hd fb k : Nat) : Nat := if fb.testBit k then ans S (hd - 1) k + 1 else 0
def TmV (S : Sc) (T : Ts) (j : Nat) : Prop := tsd T j < 65537 ∧ thd T j ≤ cnt S ∧ tfb T j < 2 ^ cT S ∧ (thd T j = 0 → tfb T j = 0)
def TmC (m : zM) (S : Sc) (T : Ts) : Prop := (gI m 61 0 = nI (tsd T 3)) ∧ (gI m 61 1 = m1I (thd T 3)) ∧ (gI m 61 2 = nI (tfb T 3)) ∧ (gI m 61 3 = tcs T 3) ∧ (gI m 61 4 = nI (tmk T)) ∧ (∀ j, j < tmk T → gI m 62 j = nI (tsd T j) ∧ gI m 63 j = m1I (thd T j) ∧ gI m 64 j = nI (tfb T j) ∧ gI m 65 j = tcs T j) ∧ (tmk T ≤ 3) ∧ (TmV S T 3) ∧ (∀ j, j < tmk T → TmV S T j)
theorem TmC.seed {m : zM} {S : Sc} {T : Ts} (h_ : TmC m S T) : gI m 61 0 = nI (tsd T 3) := h_.1
theorem TmC.hidden {m : zM} {S : Sc} {T : Ts} (h_ : TmC m S T) : gI m 61 1 = m1I (thd T 3) := h_.2.1
theorem TmC.facts {m : zM} {S : Sc} {T : Ts} (h_ : TmC m S T) : gI m 61 2 = nI (tfb T 3) := h_.2.2.1
theorem TmC.costs {m : zM} {S : Sc} {T : Ts} (h_ : TmC m S T) : gI m 61 3 = tcs T 3 := h_.2.2.2.1
theorem TmC.marks {m : zM} {S : Sc} {T : Ts} (h_ : TmC m S T) : gI m 61 4 = nI (tmk T) := h_.2.2.2.2.1
theorem TmC.kept {m : zM} {S : Sc} {T : Ts} (h_ : TmC m S T) : ∀ j, j < tmk T → gI m 62 j = nI (tsd T j) ∧ gI m 63 j = m1I (thd T j) ∧ gI m 64 j = nI (tfb T j) ∧ gI m 65 j = tcs T j := h_.2.2.2.2.2.1
theorem TmC.mk3 {m : zM} {S : Sc} {T : Ts} (h_ : TmC m S T) : tmk T ≤ 3 := h_.2.2.2.2.2.2.1
theorem TmC.val {m : zM} {S : Sc} {T : Ts} (h_ : TmC m S T) : TmV S T 3 := h_.2.2.2.2.2.2.2.1
theorem TmC.valk {m : zM} {S : Sc} {T : Ts} (h_ : TmC m S T) : ∀ j, j < tmk T → TmV S T j := h_.2.2.2.2.2.2.2.2
def TmR (m : zM) (S : Sc) (T : Ts) : Prop := (∀ k, k < 8 → gI m 82 k = fcI (Fcf S (thd T 3) (tfb T 3) k)) ∧ (gI m 82 8 = m2I (thd T 3)) ∧ (gI m 82 9 = tcs T 3) ∧ (gI m 82 10 = nI (tsd T 3)) ∧ (gI m 75 28 = nI (tmk T)) ∧ (∀ j, j < tmk T → (∀ k, k < 8 → gI m 83 (11 * j + k) = fcI (Fcf S (thd T j) (tfb T j) k)) ∧ gI m 83 (11 * j + 8) = m2I (thd T j) ∧ gI m 83 (11 * j + 9) = tcs T j ∧ gI m 83 (11 * j + 10) = nI (tsd T j)) ∧ (tmk T ≤ 3) ∧ (TmV S T 3) ∧ (∀ j, j < tmk T → TmV S T j)
theorem TmR.fact {m : zM} {S : Sc} {T : Ts} (h_ : TmR m S T) : ∀ k, k < 8 → gI m 82 k = fcI (Fcf S (thd T 3) (tfb T 3) k) := h_.1
theorem TmR.hidden {m : zM} {S : Sc} {T : Ts} (h_ : TmR m S T) : gI m 82 8 = m2I (thd T 3) := h_.2.1
theorem TmR.spent {m : zM} {S : Sc} {T : Ts} (h_ : TmR m S T) : gI m 82 9 = tcs T 3 := h_.2.2.1
theorem TmR.seed {m : zM} {S : Sc} {T : Ts} (h_ : TmR m S T) : gI m 82 10 = nI (tsd T 3) := h_.2.2.2.1
theorem TmR.marks {m : zM} {S : Sc} {T : Ts} (h_ : TmR m S T) : gI m 75 28 = nI (tmk T) := h_.2.2.2.2.1
theorem TmR.kept {m : zM} {S : Sc} {T : Ts} (h_ : TmR m S T) : ∀ j, j < tmk T → (∀ k, k < 8 → gI m 83 (11 * j + k) = fcI (Fcf S (thd T j) (tfb T j) k)) ∧ gI m 83 (11 * j + 8) = m2I (thd T j) ∧ gI m 83 (11 * j + 9) = tcs T j ∧ gI m 83 (11 * j + 10) = nI (tsd T j) := h_.2.2.2.2.2.1
theorem TmR.mk3 {m : zM} {S : Sc} {T : Ts} (h_ : TmR m S T) : tmk T ≤ 3 := h_.2.2.2.2.2.2.1
theorem TmR.val {m : zM} {S : Sc} {T : Ts} (h_ : TmR m S T) : TmV S T 3 := h_.2.2.2.2.2.2.2.1
theorem TmR.valk {m : zM} {S : Sc} {T : Ts} (h_ : TmR m S T) : ∀ j, j < tmk T → TmV S T j := h_.2.2.2.2.2.2.2.2
def allS (S : Sc) : Nat := 2 ^ cN S - 1
noncomputable def Lw (S : Sc) : Nat → Bool := LfB S (allS S) (cLw S)
noncomputable def Wd (S : Sc) (T : Ts) : Nat → Bool := askP S (allS S) (cLw S) true (Fcf S (thd T 3) (tfb T 3))
/-- the facts as a number -/
def facN (S : Sc) (hd fb : Nat) : Nat → Nat
  | 0 => fb
  | n + 1 => facN S hd fb n ||| (if fb.testBit n then ans S (hd - 1) n * 2 ^ (8 + 2 * n) else 0)
def CO (t : zT) (m : zM) (s : Nat) (S : Sc) (T : Ts) : Prop := (Cor t m s S) ∧ (gR m 1 3 = s) ∧ (TmC m S T) ∧ (RowM m 66 S (Lw S)) ∧ (RowM m 68 S (Wd S T)) ∧ (gI m 1 13 = nI (facN S (thd T 3) (tfb T 3) (cT S)))
theorem CO.cor {t : zT} {m : zM} {s : Nat} {S : Sc} {T : Ts} (h_ : CO t m s S T) : Cor t m s S := h_.1
theorem CO.x3 {t : zT} {m : zM} {s : Nat} {S : Sc} {T : Ts} (h_ : CO t m s S T) : gR m 1 3 = s := h_.2.1
theorem CO.tm {t : zT} {m : zM} {s : Nat} {S : Sc} {T : Ts} (h_ : CO t m s S T) : TmC m S T := h_.2.2.1
theorem CO.law {t : zT} {m : zM} {s : Nat} {S : Sc} {T : Ts} (h_ : CO t m s S T) : RowM m 66 S (Lw S) := h_.2.2.2.1
theorem CO.wor {t : zT} {m : zM} {s : Nat} {S : Sc} {T : Ts} (h_ : CO t m s S T) : RowM m 68 S (Wd S T) := h_.2.2.2.2.1
theorem CO.rec_ {t : zT} {m : zM} {s : Nat} {S : Sc} {T : Ts} (h_ : CO t m s S T) : gI m 1 13 = nI (facN S (thd T 3) (tfb T 3) (cT S)) := h_.2.2.2.2.2
def RO (t : zT) (m : zM) (u : Nat) (S : Sc) (T : Ts) : Prop := (RC t m u S) ∧ (RSy m u S (cN S)) ∧ (TmR m S T)
theorem RO.rc {t : zT} {m : zM} {u : Nat} {S : Sc} {T : Ts} (h_ : RO t m u S T) : RC t m u S := h_.1
theorem RO.sy {t : zT} {m : zM} {u : Nat} {S : Sc} {T : Ts} (h_ : RO t m u S T) : RSy m u S (cN S) := h_.2.1
theorem RO.tm {t : zT} {m : zM} {u : Nat} {S : Sc} {T : Ts} (h_ : RO t m u S T) : TmR m S T := h_.2.2
def qT : List Nat := [1, 19, 37, 38, 39, 40, 41, 42, 43, 44, 45, 46, 47, 70, 71, 73, 74]
/-- what a query of the class may touch -/
def QF (m m' : zM) : Prop := Fr qT m m' ∧ ∀ j, j ≠ 14 → gI m' 1 j = gI m 1 j
def rT : List Nat := [75, 78, 79, 81]
/-- what a query of the reference may touch -/
def QR (m m' : zM) : Prop := Fr rT m m' ∧ ∀ j, j ≠ 0 → j ≠ 1 → j ≠ 2 → j ≠ 19 → gI m' 75 j = gI m 75 j
section
variable {t : zT} {m m' m1 m2 : zM} {s u : Nat} {S : Sc} {T : Ts} {P : Nat → Bool}
theorem QF.rf : QF m m := ⟨Fr.rf, fun _ _ => rfl⟩
theorem QF.tr (h1 : QF m m1) (h2 : QF m1 m2) : QF m m2 := ⟨h1.1.tr h2.1, fun j hj => (h2.2 j hj).trans (h1.2 j hj)⟩
theorem QF.of {Tl : List Nat} (h1 : QF m m1) (h2 : Fr Tl m1 m2) (hT : ∀ a, a ∈ Tl → a ∈ qT ∧ a ≠ 1) : QF m m2 := ⟨h1.1.tr (h2.mono (fun a ha => (hT a ha).1)), fun j hj => (h2.I (fun q => (hT 1 q).2 rfl) j).trans (h1.2 j hj)⟩
theorem QF.why (h : QF m m1) (v : Int32) : QF m (pI m1 1 14 v) := ⟨Fr.pI h.1 (by decide), fun j hj => by rw [gII, if_neg (fun q => hj q.2)]; exact h.2 j hj⟩
theorem QR.rf : QR m m := ⟨Fr.rf, fun _ _ _ _ _ => rfl⟩
theorem QR.tr (h1 : QR m m1) (h2 : QR m1 m2) : QR m m2 := ⟨h1.1.tr h2.1, fun j a b c d => (h2.2 j a b c d).trans (h1.2 j a b c d)⟩
theorem QR.of {Tl : List Nat} (h1 : QR m m1) (h2 : Fr Tl m1 m2) (hT : ∀ a, a ∈ Tl → a ∈ rT) (h3 : ∀ j, j ≠ 19 → gI m2 75 j = gI m1 75 j) : QR m m2 := ⟨h1.1.tr (h2.mono hT), fun j a b c d => (h3 j d).trans (h1.2 j a b c d)⟩
theorem QR.p {j : Nat} (h : QR m m1) (hj : j = 0 ∨ j = 1 ∨ j = 2 ∨ j = 19) (v : Int32) : QR m (pI m1 75 j v) := ⟨Fr.pI h.1 (by decide), fun k a b c d => by rw [gII, if_neg (by omega)]; exact h.2 k a b c d⟩
theorem CO.q (c : CO t m s S T) (h : QF m m') : CO t m' s S T := by
  obtain ⟨f, g⟩ := h
  have o : ∀ a, a ∈ [61, 62, 63, 64, 65, 66, 67, 68, 69] → a ∉ qT := by decide
  have e : ∀ a, a ∈ [61, 62, 63, 64, 65, 66, 67, 68, 69] → ∀ k, gI m' a k = gI m a k := fun a ha k => f.I (o a ha) k
  have tm := c.tm
  refine ⟨c.cor.fr f (fun a h1 h2 h3 => ?_), (f.2 _ _).trans c.x3, ?_, c.law.fr f (by decide) (by decide), c.wor.fr f (by decide) (by decide), (g 13 (by decide)).trans c.rec_⟩
  · simp only [qT, List.mem_cons, List.not_mem_nil, or_false]; omega
  · unfold TmC at tm ⊢
    simp only [e 61 (by decide), e 62 (by decide), e 63 (by decide), e 64 (by decide), e 65 (by decide)]
    exact tm
theorem RO.q (c : RO t m u S T) (h : QR m m') : RO t m' u S T := by
  obtain ⟨f, g⟩ := h
  have tm := c.tm
  have oT : ∀ a, 85 ≤ a → a ∉ rT := by
    intro a ha
    simp only [rT, List.mem_cons, List.not_mem_nil, or_false]
    omega
  have u85 := c.rc.rl.u85
  refine ⟨c.rc.fr f oT (by decide), c.sy.fr f (fun a ha => oT a (by omega)), ?_⟩
  unfold TmR at tm ⊢
  simp only [f.I (show 82 ∉ rT by decide), f.I (show 83 ∉ rT by decide), g 28 (by decide) (by decide) (by decide) (by decide)]
  exact tm
/-- the class's state doesn't hang on the reference's memory -/
theorem CO.r (c : CO t m s S T) (h : QR m m') : CO t m' s S T := by
  obtain ⟨f, g⟩ := h
  have e : ∀ a, a < 75 → ∀ k, gI m' a k = gI m a k := fun a ha k => f.I (by simp only [rT, List.mem_cons, List.not_mem_nil, or_false]; omega) k
  have tm := c.tm
  refine ⟨c.cor.fr f (fun a h1 h2 h3 => ?_), (f.2 _ _).trans c.x3, ?_, c.law.fr f (by decide) (by decide), c.wor.fr f (by decide) (by decide), (e 1 (by decide) _).trans c.rec_⟩
  · simp only [rT, List.mem_cons, List.not_mem_nil, or_false]; omega
  · unfold TmC at tm ⊢
    simp only [e 61 (by decide), e 62 (by decide), e 63 (by decide), e 64 (by decide), e 65 (by decide)]
    exact tm
theorem RO.c (c : RO t m u S T) (h : QF m m') : RO t m' u S T := by
  obtain ⟨f, g⟩ := h
  have e : ∀ a, 75 ≤ a → ∀ k, gI m' a k = gI m a k := fun a ha k => f.I (by simp only [qT, List.mem_cons, List.not_mem_nil, or_false]; omega) k
  have tm := c.tm
  have u85 := c.rc.rl.u85
  have oT : ∀ a, 75 ≤ a → a ∉ qT := by
    intro a ha
    simp only [qT, List.mem_cons, List.not_mem_nil, or_false]
    omega
  refine ⟨c.rc.fr f (fun a ha => oT a (by omega)) (by decide), c.sy.fr f (fun a ha => oT a (by omega)), ?_⟩
  unfold TmR at tm ⊢
  simp only [e 82 (by decide), e 83 (by decide), e 75 (by decide)]
  exact tm
-- the class's small helps
theorem cx_refuse {m0 : zM} (L : Lay t m0) {w : Int32} {Q : Int32 → zM → Prop} (h : Q (-1) (pI m 1 14 w)) : wX9_refuse t m 1 w Q := ⟨lk1 L, h⟩
theorem cx_accept {m0 : zM} (L : Lay t m0) {v : Int32} {Q : Int32 → zM → Prop} (h : Q v (pI m 1 14 0)) : wX9_accept t m 1 v Q := ⟨lk1 L, h⟩
theorem cx_isOpen (c : CO t m s S T) {Q : Int32 → zM → Prop} (h : Q 1 m) : wX9_isOpen t m 1 Q := by
  unfold wX9_isOpen
  have := c.cor.vs.t1
  have := c.cor.vs.t8
  rw [c.x3, c.cor.sm.things]
  exact ⟨lk1 c.cor.lay, ls_k c.cor.lay c.cor.sch, fun hh => absurd hh (nI_nle (by omega) (by omega)), fun _ => h⟩
theorem cx_isThing (c : CO t m s S T) {x : Int32} {Q : Int32 → zM → Prop} (h1 : ∀ k, k < cT S → x = nI k → Q 1 m) (h0 : (∀ k, k < cT S → x ≠ nI k) → Q 0 m) : wX9_isThing t m 1 x Q := by
  unfold wX9_isThing
  have t8 := c.cor.vs.t8
  rw [c.x3, c.cor.sm.things]
  refine ⟨fun hx => h0 (fun k hk e => ?_), fun hx => ⟨lk1 c.cor.lay, ls_k c.cor.lay c.cor.sch, fun hle => h0 (fun k hk e => ?_), fun hle => ?_⟩⟩
  · rw [e] at hx; exact nI_pos (by omega) hx
  · rw [e] at hle; exact nI_ge hk (by omega) hle
  · rcases pk_ix x (n := cT S) (by omega) with q | q | ⟨k, hk, e⟩
    · exact absurd q hx
    · exact absurd q hle
    · exact h1 k hk e
theorem cx_isMaster (c : CO t m s S T) {x : Int32} {Q : Int32 → zM → Prop} (h1 : ∀ k, k < cM S → x = nI k → Q 1 m) (h0 : (∀ k, k < cM S → x ≠ nI k) → Q 0 m) : wX9_isMaster t m 1 x Q := by
  unfold wX9_isMaster
  have t8 := c.cor.vs.m6
  rw [c.x3, c.cor.sm.masters]
  refine ⟨fun hx => h0 (fun k hk e => ?_), fun hx => ⟨lk1 c.cor.lay, ls_k c.cor.lay c.cor.sch, fun hle => h0 (fun k hk e => ?_), fun hle => ?_⟩⟩
  · rw [e] at hx; exact nI_pos (by omega) hx
  · rw [e] at hle; exact nI_ge hk (by omega) hle
  · rcases pk_ix x (n := cM S) (by omega) with q | q | ⟨k, hk, e⟩
    · exact absurd q hx
    · exact absurd q hle
    · exact h1 k hk e
theorem cx_isSaying (c : CO t m s S T) {x : Int32} {Q : Int32 → zM → Prop} (h1 : ∀ k, k < cN S → x = nI k → Q 1 m) (h0 : (∀ k, k < cN S → x ≠ nI k) → Q 0 m) : wX9_isSaying t m 1 x Q := by
  unfold wX9_isSaying
  have t8 := c.cor.vs.n16
  rw [c.x3, c.cor.sm.sayings]
  refine ⟨fun hx => h0 (fun k hk e => ?_), fun hx => ⟨lk1 c.cor.lay, ls_k c.cor.lay c.cor.sch, fun hle => h0 (fun k hk e => ?_), fun hle => ?_⟩⟩
  · rw [e] at hx; exact nI_pos (by omega) hx
  · rw [e] at hle; exact nI_ge hk (by omega) hle
  · rcases pk_ix x (n := cN S) (by omega) with q | q | ⟨k, hk, e⟩
    · exact absurd q hx
    · exact absurd q hle
    · exact h1 k hk e
theorem cx_isChild (c : CO t m s S T) {x : Int32} {Q : Int32 → zM → Prop} (h1 : ∀ k, k < cCh S → x = nI k → Q 1 m) (h0 : (∀ k, k < cCh S → x ≠ nI k) → Q 0 m) : wX9_isChild t m 1 x Q := by
  unfold wX9_isChild
  have t8 := c.cor.vs.ch5
  rw [c.x3, c.cor.sm.children]
  refine ⟨fun hx => h0 (fun k hk e => ?_), fun hx => ⟨lk1 c.cor.lay, ls_k c.cor.lay c.cor.sch, fun hle => h0 (fun k hk e => ?_), fun hle => ?_⟩⟩
  · rw [e] at hx; exact nI_pos (by omega) hx
  · rw [e] at hle; exact nI_ge hk (by omega) hle
  · rcases pk_ix x (n := cCh S) (by omega) with q | q | ⟨k, hk, e⟩
    · exact absurd q hx
    · exact absurd q hle
    · exact h1 k hk e
theorem mny_le (P : Nat → Bool) : mny S P ≤ cnt S := fb_ct_le _ _
theorem cx_without (c : CO t m s S T) {b : Int32} {Q : Int32 → zM → Prop} (h1 : b = 0 → Q 1 m) (h6 : b ≠ 0 → mny S (Wd S T) = 0 → Q 6 m) (h0 : b ≠ 0 → 0 < mny S (Wd S T) → Q 0 m) : wX9_withoutWorlds t m 1 b Q := by
  unfold wX9_withoutWorlds
  have L := c.cor.lay
  have hc := c.cor.vs.cnt
  have ml := mny_le (S := S) (Wd S T)
  have e : nI (fb_ct (Wd S T) (cnt S)) = 0 ↔ mny S (Wd S T) = 0 := nI_eq (b := 0) (by unfold mny at ml; omega) (by decide)
  rw [lr1_8 L, c.wor.members, e]
  exact ⟨h1, fun hb => ⟨lk1 L, lk68 L, fun q => h6 hb q, fun q => h0 hb (by omega)⟩⟩
-- the reference's
theorem rx_refused {m0 : zM} (L : Lay t m0) {w : Int32} {Q : Int32 → zM → Prop} (h : Q (-1) (pI (pI m 75 1 w) 75 2 (-1))) : wX12_refused t m 75 w Q := ⟨lk75 L, h⟩
theorem rx_good {m0 : zM} (L : Lay t m0) {v : Int32} {Q : Int32 → zM → Prop} (h : Q v (pI (pI m 75 1 0) 75 2 (-1))) : wX12_good t m 75 v Q := ⟨lk75 L, h⟩
theorem u_ne (c : RO t m u S T) : ¬ gR m 75 3 = 0 := by rw [c.rc.told]; have := c.rc.rl.u85; omega
theorem rx_isThing (c : RO t m u S T) {x : Int32} {Q : Int32 → zM → Prop} (h1 : ∀ k, k < cT S → x = nI k → Q 1 m) (h0 : (∀ k, k < cT S → x ≠ nI k) → Q 0 m) : wX12_isThing t m 75 x Q := by
  unfold wX12_isThing
  have t8 := c.rc.vs.t8
  refine ⟨lk75 c.rc.lay, fun h => absurd h (u_ne c), fun _ => ?_⟩
  rw [c.rc.told, c.rc.sm.things]
  refine ⟨fun hx => h0 (fun k hk e => ?_), fun hx => ⟨c.rc.rl.k, fun hle => h0 (fun k hk e => ?_), fun hle => ?_⟩⟩
  · rw [e] at hx; exact nI_pos (by omega) hx
  · rw [e] at hle; exact nI_ge hk (by omega) hle
  · rcases pk_ix x (n := cT S) (by omega) with q | q | ⟨k, hk, e⟩
    · exact absurd q hx
    · exact absurd q hle
    · exact h1 k hk e
theorem rx_isMaster (c : RO t m u S T) {x : Int32} {Q : Int32 → zM → Prop} (h1 : ∀ k, k < cM S → x = nI k → Q 1 m) (h0 : (∀ k, k < cM S → x ≠ nI k) → Q 0 m) : wX12_isMaster t m 75 x Q := by
  unfold wX12_isMaster
  have t8 := c.rc.vs.m6
  refine ⟨lk75 c.rc.lay, fun h => absurd h (u_ne c), fun _ => ?_⟩
  rw [c.rc.told, c.rc.sm.masters]
  refine ⟨fun hx => h0 (fun k hk e => ?_), fun hx => ⟨c.rc.rl.k, fun hle => h0 (fun k hk e => ?_), fun hle => ?_⟩⟩
  · rw [e] at hx; exact nI_pos (by omega) hx
  · rw [e] at hle; exact nI_ge hk (by omega) hle
  · rcases pk_ix x (n := cM S) (by omega) with q | q | ⟨k, hk, e⟩
    · exact absurd q hx
    · exact absurd q hle
    · exact h1 k hk e
theorem rx_isSaying (c : RO t m u S T) {x : Int32} {Q : Int32 → zM → Prop} (h1 : ∀ k, k < cN S → x = nI k → Q 1 m) (h0 : (∀ k, k < cN S → x ≠ nI k) → Q 0 m) : wX12_isSaying t m 75 x Q := by
  unfold wX12_isSaying
  have t8 := c.rc.vs.n16
  refine ⟨lk75 c.rc.lay, fun h => absurd h (u_ne c), fun _ => ?_⟩
  rw [c.rc.told, c.rc.sm.sayings]
  refine ⟨fun hx => h0 (fun k hk e => ?_), fun hx => ⟨c.rc.rl.k, fun hle => h0 (fun k hk e => ?_), fun hle => ?_⟩⟩
  · rw [e] at hx; exact nI_pos (by omega) hx
  · rw [e] at hle; exact nI_ge hk (by omega) hle
  · rcases pk_ix x (n := cN S) (by omega) with q | q | ⟨k, hk, e⟩
    · exact absurd q hx
    · exact absurd q hle
    · exact h1 k hk e
theorem rx_isChild (c : RO t m u S T) {x : Int32} {Q : Int32 → zM → Prop} (h1 : ∀ k, k < cCh S → x = nI k → Q 1 m) (h0 : (∀ k, k < cCh S → x ≠ nI k) → Q 0 m) : wX12_isChild t m 75 x Q := by
  unfold wX12_isChild
  have t8 := c.rc.vs.ch5
  refine ⟨lk75 c.rc.lay, fun h => absurd h (u_ne c), fun _ => ?_⟩
  rw [c.rc.told, c.rc.sm.children]
  refine ⟨fun hx => h0 (fun k hk e => ?_), fun hx => ⟨c.rc.rl.k, fun hle => h0 (fun k hk e => ?_), fun hle => ?_⟩⟩
  · rw [e] at hx; exact nI_pos (by omega) hx
  · rw [e] at hle; exact nI_ge hk (by omega) hle
  · rcases pk_ix x (n := cCh S) (by omega) with q | q | ⟨k, hk, e⟩
    · exact absurd q hx
    · exact absurd q hle
    · exact h1 k hk e
theorem all_bits {n : Nat} (hn : n < 31) : ((1 : Int32) <<< (nI n &&& 31)) - (1 : Int32) = nI (2 ^ n - 1) := by
  rw [nI_shl1 hn, show (1 : Int32) = nI 1 from rfl, pk_sub Nat.one_le_two_pow]
theorem allS_lt (v : Vs S) : allS S < 2 ^ 17 := by
  have := v.n16
  have : 2 ^ cN S ≤ 2 ^ 16 := Nat.pow_le_pow_right (by decide) this
  unfold allS
  omega
theorem allS_tb {i : Nat} : (allS S).testBit i = true → i < cN S := by
  unfold allS
  rw [Nat.testBit_two_pow_sub_one]
  exact of_decide_eq_true
theorem Fcf_le (v : Vs S) {hd fb k : Nat} (hk : k < cT S) : Fcf S hd fb k ≤ 4 := by
  unfold Fcf
  have := ans_4 v (w := hd - 1) hk
  split <;> omega
theorem rx_asksWorlds (c : RO t m u S T) {Q : zM → Prop} (hQ : ∀ m', QR m m' → gI m' 75 0 = gI m 75 0 → RO t m' u S T → AskM m' S (Wd S T) → Q m') : wX12_asksWorlds t m 75 Q := by
  have v := c.rc.vs
  have n16 := v.n16
  have t8 := v.t8
  unfold wX12_asksWorlds wX11_allSayings
  simp only [c.rc.told, c.rc.sm.sayings, all_bits (show cN S < 31 by omega), c.rc.sm.laws]
  refine ⟨lk75 c.rc.lay, c.rc.rl.k, c.rc.rl.k, c.rc.rl.k, rsp_asks (fa := true) (Fc := Fcf S (thd T 3) (tfb T 3)) c.rc c.sy (fun i hi => allS_tb hi) (by omega) (allS_lt v) (fun h => h) (fun _ k hk => ⟨c.tm.fact k (by omega), Fcf_le v hk⟩) (fun m' f g A => ?_)⟩
  have q : QR m m' := QR.rf.of f (by decide) g
  exact hQ m' q (g 0 (by decide)) (c.q q) A
end
