/-! The reference's school -/
def RLy (t : zT) (m : zM) (u : Nat) : Prop := (85 ≤ u) ∧ (tK t u = 11) ∧ (gR m u 10 = u + 1) ∧ (tK t (u + 1) = 14) ∧ (tL t (u + 1) = 8) ∧ (gR m u 11 = u + 2) ∧ (tK t (u + 2) = 14) ∧ (tL t (u + 2) = 8) ∧ (gR m u 12 = u + 3) ∧ (tK t (u + 3) = 14) ∧ (tL t (u + 3) = 6) ∧ (gR m u 13 = u + 4) ∧ (tK t (u + 4) = 14) ∧ (tL t (u + 4) = 5) ∧ (gR m u 14 = u + 5) ∧ (tK t (u + 5) = 14) ∧ (tL t (u + 5) = 6) ∧ (gR m u 15 = u + 6) ∧ (tK t (u + 6) = 14) ∧ (tL t (u + 6) = 6) ∧ (gR m u 16 = u + 7) ∧ (tK t (u + 7) = 14) ∧ (tL t (u + 7) = 6) ∧ (gR m u 17 = u + 8) ∧ (tK t (u + 8) = 14) ∧ (tL t (u + 8) = 6) ∧ (gR m u 18 = u + 9) ∧ (tK t (u + 9) = 14) ∧ (tL t (u + 9) = 17) ∧ (gR m u 19 = u + 10) ∧ (tK t (u + 10) = 14) ∧ (tL t (u + 10) = 17) ∧ (gR m u 20 = u + 11) ∧ (tK t (u + 11) = 14) ∧ (tL t (u + 11) = 17) ∧ (gR m u 21 = u + 12) ∧ (tK t (u + 12) = 15) ∧ (tL t (u + 12) = 19) ∧ (gR m u 22 = u + 13) ∧ (tK t (u + 13) = 14) ∧ (tL t (u + 13) = 19) ∧ (gR m u 23 = u + 14) ∧ (tK t (u + 14) = 14) ∧ (tL t (u + 14) = 19)
theorem RLy.u85 {t : zT} {m : zM} {u : Nat} (h_ : RLy t m u) : 85 ≤ u := h_.1
theorem RLy.k {t : zT} {m : zM} {u : Nat} (h_ : RLy t m u) : tK t u = 11 := h_.2.1
theorem RLy.r1 {t : zT} {m : zM} {u : Nat} (h_ : RLy t m u) : gR m u 10 = u + 1 := h_.2.2.1
theorem RLy.k1 {t : zT} {m : zM} {u : Nat} (h_ : RLy t m u) : tK t (u + 1) = 14 := h_.2.2.2.1
theorem RLy.l1 {t : zT} {m : zM} {u : Nat} (h_ : RLy t m u) : tL t (u + 1) = 8 := h_.2.2.2.2.1
theorem RLy.r2 {t : zT} {m : zM} {u : Nat} (h_ : RLy t m u) : gR m u 11 = u + 2 := h_.2.2.2.2.2.1
theorem RLy.k2 {t : zT} {m : zM} {u : Nat} (h_ : RLy t m u) : tK t (u + 2) = 14 := h_.2.2.2.2.2.2.1
theorem RLy.l2 {t : zT} {m : zM} {u : Nat} (h_ : RLy t m u) : tL t (u + 2) = 8 := h_.2.2.2.2.2.2.2.1
theorem RLy.r3 {t : zT} {m : zM} {u : Nat} (h_ : RLy t m u) : gR m u 12 = u + 3 := h_.2.2.2.2.2.2.2.2.1
theorem RLy.k3 {t : zT} {m : zM} {u : Nat} (h_ : RLy t m u) : tK t (u + 3) = 14 := h_.2.2.2.2.2.2.2.2.2.1
theorem RLy.l3 {t : zT} {m : zM} {u : Nat} (h_ : RLy t m u) : tL t (u + 3) = 6 := h_.2.2.2.2.2.2.2.2.2.2.1
theorem RLy.r4 {t : zT} {m : zM} {u : Nat} (h_ : RLy t m u) : gR m u 13 = u + 4 := h_.2.2.2.2.2.2.2.2.2.2.2.1
theorem RLy.k4 {t : zT} {m : zM} {u : Nat} (h_ : RLy t m u) : tK t (u + 4) = 14 := h_.2.2.2.2.2.2.2.2.2.2.2.2.1
theorem RLy.l4 {t : zT} {m : zM} {u : Nat} (h_ : RLy t m u) : tL t (u + 4) = 5 := h_.2.2.2.2.2.2.2.2.2.2.2.2.2.1
theorem RLy.r5 {t : zT} {m : zM} {u : Nat} (h_ : RLy t m u) : gR m u 14 = u + 5 := h_.2.2.2.2.2.2.2.2.2.2.2.2.2.2.1
theorem RLy.k5 {t : zT} {m : zM} {u : Nat} (h_ : RLy t m u) : tK t (u + 5) = 14 := h_.2.2.2.2.2.2.2.2.2.2.2.2.2.2.2.1
theorem RLy.l5 {t : zT} {m : zM} {u : Nat} (h_ : RLy t m u) : tL t (u + 5) = 6 := h_.2.2.2.2.2.2.2.2.2.2.2.2.2.2.2.2.1
theorem RLy.r6 {t : zT} {m : zM} {u : Nat} (h_ : RLy t m u) : gR m u 15 = u + 6 := h_.2.2.2.2.2.2.2.2.2.2.2.2.2.2.2.2.2.1
theorem RLy.k6 {t : zT} {m : zM} {u : Nat} (h_ : RLy t m u) : tK t (u + 6) = 14 := h_.2.2.2.2.2.2.2.2.2.2.2.2.2.2.2.2.2.2.1
theorem RLy.l6 {t : zT} {m : zM} {u : Nat} (h_ : RLy t m u) : tL t (u + 6) = 6 := h_.2.2.2.2.2.2.2.2.2.2.2.2.2.2.2.2.2.2.2.1
theorem RLy.r7 {t : zT} {m : zM} {u : Nat} (h_ : RLy t m u) : gR m u 16 = u + 7 := h_.2.2.2.2.2.2.2.2.2.2.2.2.2.2.2.2.2.2.2.2.1
theorem RLy.k7 {t : zT} {m : zM} {u : Nat} (h_ : RLy t m u) : tK t (u + 7) = 14 := h_.2.2.2.2.2.2.2.2.2.2.2.2.2.2.2.2.2.2.2.2.2.1
theorem RLy.l7 {t : zT} {m : zM} {u : Nat} (h_ : RLy t m u) : tL t (u + 7) = 6 := h_.2.2.2.2.2.2.2.2.2.2.2.2.2.2.2.2.2.2.2.2.2.2.1
theorem RLy.r8 {t : zT} {m : zM} {u : Nat} (h_ : RLy t m u) : gR m u 17 = u + 8 := h_.2.2.2.2.2.2.2.2.2.2.2.2.2.2.2.2.2.2.2.2.2.2.2.1
theorem RLy.k8 {t : zT} {m : zM} {u : Nat} (h_ : RLy t m u) : tK t (u + 8) = 14 := h_.2.2.2.2.2.2.2.2.2.2.2.2.2.2.2.2.2.2.2.2.2.2.2.2.1
theorem RLy.l8 {t : zT} {m : zM} {u : Nat} (h_ : RLy t m u) : tL t (u + 8) = 6 := h_.2.2.2.2.2.2.2.2.2.2.2.2.2.2.2.2.2.2.2.2.2.2.2.2.2.1
theorem RLy.r9 {t : zT} {m : zM} {u : Nat} (h_ : RLy t m u) : gR m u 18 = u + 9 := h_.2.2.2.2.2.2.2.2.2.2.2.2.2.2.2.2.2.2.2.2.2.2.2.2.2.2.1
theorem RLy.k9 {t : zT} {m : zM} {u : Nat} (h_ : RLy t m u) : tK t (u + 9) = 14 := h_.2.2.2.2.2.2.2.2.2.2.2.2.2.2.2.2.2.2.2.2.2.2.2.2.2.2.2.1
theorem RLy.l9 {t : zT} {m : zM} {u : Nat} (h_ : RLy t m u) : tL t (u + 9) = 17 := h_.2.2.2.2.2.2.2.2.2.2.2.2.2.2.2.2.2.2.2.2.2.2.2.2.2.2.2.2.1
theorem RLy.r10 {t : zT} {m : zM} {u : Nat} (h_ : RLy t m u) : gR m u 19 = u + 10 := h_.2.2.2.2.2.2.2.2.2.2.2.2.2.2.2.2.2.2.2.2.2.2.2.2.2.2.2.2.2.1
theorem RLy.k10 {t : zT} {m : zM} {u : Nat} (h_ : RLy t m u) : tK t (u + 10) = 14 := h_.2.2.2.2.2.2.2.2.2.2.2.2.2.2.2.2.2.2.2.2.2.2.2.2.2.2.2.2.2.2.1
theorem RLy.l10 {t : zT} {m : zM} {u : Nat} (h_ : RLy t m u) : tL t (u + 10) = 17 := h_.2.2.2.2.2.2.2.2.2.2.2.2.2.2.2.2.2.2.2.2.2.2.2.2.2.2.2.2.2.2.2.1
theorem RLy.r11 {t : zT} {m : zM} {u : Nat} (h_ : RLy t m u) : gR m u 20 = u + 11 := h_.2.2.2.2.2.2.2.2.2.2.2.2.2.2.2.2.2.2.2.2.2.2.2.2.2.2.2.2.2.2.2.2.1
theorem RLy.k11 {t : zT} {m : zM} {u : Nat} (h_ : RLy t m u) : tK t (u + 11) = 14 := h_.2.2.2.2.2.2.2.2.2.2.2.2.2.2.2.2.2.2.2.2.2.2.2.2.2.2.2.2.2.2.2.2.2.1
theorem RLy.l11 {t : zT} {m : zM} {u : Nat} (h_ : RLy t m u) : tL t (u + 11) = 17 := h_.2.2.2.2.2.2.2.2.2.2.2.2.2.2.2.2.2.2.2.2.2.2.2.2.2.2.2.2.2.2.2.2.2.2.1
theorem RLy.r12 {t : zT} {m : zM} {u : Nat} (h_ : RLy t m u) : gR m u 21 = u + 12 := h_.2.2.2.2.2.2.2.2.2.2.2.2.2.2.2.2.2.2.2.2.2.2.2.2.2.2.2.2.2.2.2.2.2.2.2.1
theorem RLy.k12 {t : zT} {m : zM} {u : Nat} (h_ : RLy t m u) : tK t (u + 12) = 15 := h_.2.2.2.2.2.2.2.2.2.2.2.2.2.2.2.2.2.2.2.2.2.2.2.2.2.2.2.2.2.2.2.2.2.2.2.2.1
theorem RLy.l12 {t : zT} {m : zM} {u : Nat} (h_ : RLy t m u) : tL t (u + 12) = 19 := h_.2.2.2.2.2.2.2.2.2.2.2.2.2.2.2.2.2.2.2.2.2.2.2.2.2.2.2.2.2.2.2.2.2.2.2.2.2.1
theorem RLy.r13 {t : zT} {m : zM} {u : Nat} (h_ : RLy t m u) : gR m u 22 = u + 13 := h_.2.2.2.2.2.2.2.2.2.2.2.2.2.2.2.2.2.2.2.2.2.2.2.2.2.2.2.2.2.2.2.2.2.2.2.2.2.2.1
theorem RLy.k13 {t : zT} {m : zM} {u : Nat} (h_ : RLy t m u) : tK t (u + 13) = 14 := h_.2.2.2.2.2.2.2.2.2.2.2.2.2.2.2.2.2.2.2.2.2.2.2.2.2.2.2.2.2.2.2.2.2.2.2.2.2.2.2.1
theorem RLy.l13 {t : zT} {m : zM} {u : Nat} (h_ : RLy t m u) : tL t (u + 13) = 19 := h_.2.2.2.2.2.2.2.2.2.2.2.2.2.2.2.2.2.2.2.2.2.2.2.2.2.2.2.2.2.2.2.2.2.2.2.2.2.2.2.2.1
theorem RLy.r14 {t : zT} {m : zM} {u : Nat} (h_ : RLy t m u) : gR m u 23 = u + 14 := h_.2.2.2.2.2.2.2.2.2.2.2.2.2.2.2.2.2.2.2.2.2.2.2.2.2.2.2.2.2.2.2.2.2.2.2.2.2.2.2.2.2.1
theorem RLy.k14 {t : zT} {m : zM} {u : Nat} (h_ : RLy t m u) : tK t (u + 14) = 14 := h_.2.2.2.2.2.2.2.2.2.2.2.2.2.2.2.2.2.2.2.2.2.2.2.2.2.2.2.2.2.2.2.2.2.2.2.2.2.2.2.2.2.2.1
theorem RLy.l14 {t : zT} {m : zM} {u : Nat} (h_ : RLy t m u) : tL t (u + 14) = 19 := h_.2.2.2.2.2.2.2.2.2.2.2.2.2.2.2.2.2.2.2.2.2.2.2.2.2.2.2.2.2.2.2.2.2.2.2.2.2.2.2.2.2.2.2
def RSm (m : zM) (u : Nat) (S : Sc) : Prop := (gI m u 0 = nI (cT S)) ∧ (∀ t, t < cT S → gI m (u + 1) t = nI (cA S t)) ∧ (gI m u 9 = nI (cnt S)) ∧ (∀ t, t < 8 → gI m (u + 2) t = nI (cC S t)) ∧ (gI m u 5 = nI (cTr S)) ∧ (gI m u 1 = nI (cF S)) ∧ (∀ k, k < cF S → gI m (u + 5) k = nI (cIt S k) ∧ gI m (u + 6) k = nI (cIa S k) ∧ gI m (u + 7) k = nI (cTt S k) ∧ gI m (u + 8) k = nI (cTa S k)) ∧ (gI m u 2 = nI (cM S)) ∧ (∀ k, k < cM S → gI m (u + 3) k = nI (cKd S k)) ∧ (gI m u 6 = nI (cLw S)) ∧ (gI m u 7 = wrI S) ∧ (gI m u 3 = nI (cN S)) ∧ (gI m u 4 = nI (cCh S)) ∧ (∀ k, k < cCh S → gI m (u + 4) k = nI (cHe S k))
theorem RSm.things {m : zM} {u : Nat} {S : Sc} (h_ : RSm m u S) : gI m u 0 = nI (cT S) := h_.1
theorem RSm.answers {m : zM} {u : Nat} {S : Sc} (h_ : RSm m u S) : ∀ t, t < cT S → gI m (u + 1) t = nI (cA S t) := h_.2.1
theorem RSm.ways {m : zM} {u : Nat} {S : Sc} (h_ : RSm m u S) : gI m u 9 = nI (cnt S) := h_.2.2.1
theorem RSm.cost {m : zM} {u : Nat} {S : Sc} (h_ : RSm m u S) : ∀ t, t < 8 → gI m (u + 2) t = nI (cC S t) := h_.2.2.2.1
theorem RSm.trials {m : zM} {u : Nat} {S : Sc} (h_ : RSm m u S) : gI m u 5 = nI (cTr S) := h_.2.2.2.2.1
theorem RSm.follows {m : zM} {u : Nat} {S : Sc} (h_ : RSm m u S) : gI m u 1 = nI (cF S) := h_.2.2.2.2.2.1
theorem RSm.fol {m : zM} {u : Nat} {S : Sc} (h_ : RSm m u S) : ∀ k, k < cF S → gI m (u + 5) k = nI (cIt S k) ∧ gI m (u + 6) k = nI (cIa S k) ∧ gI m (u + 7) k = nI (cTt S k) ∧ gI m (u + 8) k = nI (cTa S k) := h_.2.2.2.2.2.2.1
theorem RSm.masters {m : zM} {u : Nat} {S : Sc} (h_ : RSm m u S) : gI m u 2 = nI (cM S) := h_.2.2.2.2.2.2.2.1
theorem RSm.kind {m : zM} {u : Nat} {S : Sc} (h_ : RSm m u S) : ∀ k, k < cM S → gI m (u + 3) k = nI (cKd S k) := h_.2.2.2.2.2.2.2.2.1
theorem RSm.laws {m : zM} {u : Nat} {S : Sc} (h_ : RSm m u S) : gI m u 6 = nI (cLw S) := h_.2.2.2.2.2.2.2.2.2.1
theorem RSm.wrong {m : zM} {u : Nat} {S : Sc} (h_ : RSm m u S) : gI m u 7 = wrI S := h_.2.2.2.2.2.2.2.2.2.2.1
theorem RSm.sayings {m : zM} {u : Nat} {S : Sc} (h_ : RSm m u S) : gI m u 3 = nI (cN S) := h_.2.2.2.2.2.2.2.2.2.2.2.1
theorem RSm.children {m : zM} {u : Nat} {S : Sc} (h_ : RSm m u S) : gI m u 4 = nI (cCh S) := h_.2.2.2.2.2.2.2.2.2.2.2.2.1
theorem RSm.hears {m : zM} {u : Nat} {S : Sc} (h_ : RSm m u S) : ∀ k, k < cCh S → gI m (u + 4) k = nI (cHe S k) := h_.2.2.2.2.2.2.2.2.2.2.2.2.2
def RSy (m : zM) (u : Nat) (S : Sc) (N : Nat) : Prop := (N ≤ 17) ∧ (∀ i, i < N → gI m (u + 9) i = nI (cBy S i) ∧ gI m (u + 10) i = nI (cOf S i) ∧ gI m (u + 11) i = nI (cWh S i)) ∧ (∀ i, i < N → cBy S i < cM S ∧ cOf S i < cT S ∧ cWh S i < 4)
theorem RSy.le {m : zM} {u : Nat} {S : Sc} {N : Nat} (h_ : RSy m u S N) : N ≤ 17 := h_.1
theorem RSy.tab {m : zM} {u : Nat} {S : Sc} {N : Nat} (h_ : RSy m u S N) : ∀ i, i < N → gI m (u + 9) i = nI (cBy S i) ∧ gI m (u + 10) i = nI (cOf S i) ∧ gI m (u + 11) i = nI (cWh S i) := h_.2.1
theorem RSy.bd {m : zM} {u : Nat} {S : Sc} {N : Nat} (h_ : RSy m u S N) : ∀ i, i < N → cBy S i < cM S ∧ cOf S i < cT S ∧ cWh S i < 4 := h_.2.2
def RC (t : zT) (m : zM) (u : Nat) (S : Sc) : Prop := (Lay t m) ∧ (RLy t m u) ∧ (Vs S) ∧ (gR m 75 3 = u) ∧ (RSm m u S) ∧ (∀ w, w < cnt S → ∀ k, k < cT S → gI m 77 (8 * w + k) = nI (ans S w k))
theorem RC.lay {t : zT} {m : zM} {u : Nat} {S : Sc} (h_ : RC t m u S) : Lay t m := h_.1
theorem RC.rl {t : zT} {m : zM} {u : Nat} {S : Sc} (h_ : RC t m u S) : RLy t m u := h_.2.1
theorem RC.vs {t : zT} {m : zM} {u : Nat} {S : Sc} (h_ : RC t m u S) : Vs S := h_.2.2.1
theorem RC.told {t : zT} {m : zM} {u : Nat} {S : Sc} (h_ : RC t m u S) : gR m 75 3 = u := h_.2.2.2.1
theorem RC.sm {t : zT} {m : zM} {u : Nat} {S : Sc} (h_ : RC t m u S) : RSm m u S := h_.2.2.2.2.1
theorem RC.ans {t : zT} {m : zM} {u : Nat} {S : Sc} (h_ : RC t m u S) : ∀ w, w < cnt S → ∀ k, k < cT S → gI m 77 (8 * w + k) = nI (ans S w k) := h_.2.2.2.2.2
section
variable {t : zT} {m m' : zM} {u : Nat} {S : Sc} {T : List Nat} {set lw w N : Nat}
theorem RLy.fr (h : RLy t m u) (f : Fr T m m') : RLy t m' u := by
  unfold RLy at h ⊢
  simp only [f.2]
  exact h
theorem RSm.fr (h : RSm m u S) (f : Fr T m m') (hT : ∀ a, u ≤ a → a ∉ T) : RSm m' u S := by
  have e0 : ∀ j k, gI m' (u + j) k = gI m (u + j) k := fun j k => f.I (hT _ (by omega)) k
  have e1 : ∀ k, gI m' u k = gI m u k := e0 0
  unfold RSm at h ⊢
  simp only [e0, e1]
  exact h
theorem RSy.fr (h : RSy m u S N) (f : Fr T m m') (hT : ∀ a, u ≤ a → a ∉ T) : RSy m' u S N := by
  have e0 : ∀ j k, gI m' (u + j) k = gI m (u + j) k := fun j k => f.I (hT _ (by omega)) k
  unfold RSy at h ⊢
  simp only [e0]
  exact h
theorem RC.fr (h : RC t m u S) (f : Fr T m m') (hT : ∀ a, 85 ≤ a → a ∉ T) (h77 : 77 ∉ T) : RC t m' u S :=
  ⟨h.lay.fr f, h.rl.fr f, h.vs, (f.2 _ _).trans h.told, h.sm.fr f (fun a ha => hT a (by have := h.rl.u85; omega)), fun w hw k hk => (f.I h77 _).trans (h.ans w hw k hk)⟩
theorem rsp_answerOf (c : RC t m u S) (hw : w < cnt S) {k : Nat} (hk : k < cT S) {Q : Int32 → zM → Prop} (hQ : Q (nI (ans S w k)) m) : wX12_answerOf t m 75 (nI w) (nI k) Q := by
  have L := c.lay
  have h1 := c.vs.cnt
  have h2 := c.vs.t8
  unfold wX12_answerOf
  rw [show (8 : Int32) = nI 8 from rfl, pk_mul, nI_add, nI_cl (by omega), lr75_16 L, ll77 L, c.ans w hw k hk]
  exact ⟨lk75 L, lk77 L, vp_nI (by omega) (by decide), hQ⟩
theorem rsp_isRight (c : RC t m u S) (y : RSy m u S N) (hw : w < cnt S) {k : Nat} (hk : k < N) {Q : Int32 → zM → Prop} (hQ : Q (if rt S w k then 1 else 0) m) : wX12_isRight t m 75 (nI w) (nI k) Q := by
  have L := c.lay
  have hc := c.vs.cnt
  have h2 := c.vs.t8
  have n17 := y.le
  obtain ⟨b1, b2, b3⟩ := y.bd k hk
  obtain ⟨e1, e2, e3⟩ := y.tab k hk
  have a4 := ans_4 c.vs (w := w) b2
  have RLc := c.rl
  have v1 : vp_in (nI k) 17 := vp_nI (by omega) (by decide)
  unfold wX12_isRight
  simp only [c.told, RLc.k, RLc.r1, RLc.k1, RLc.l1, RLc.r2, RLc.k2, RLc.l2, RLc.r3, RLc.k3, RLc.l3, RLc.r4, RLc.k4, RLc.l4, RLc.r5, RLc.k5, RLc.l5, RLc.r6, RLc.k6, RLc.l6, RLc.r7, RLc.k7, RLc.l7, RLc.r8, RLc.k8, RLc.l8, RLc.r9, RLc.k9, RLc.l9, RLc.r10, RLc.k10, RLc.l10, RLc.r11, RLc.k11, RLc.l11, RLc.r12, RLc.k12, RLc.l12, RLc.r13, RLc.k13, RLc.l13, RLc.r14, RLc.k14, RLc.l14, nI_cl (show k < 2 ^ 31 by omega), e2, e3, true_and]
  refine ⟨lk75 L, v1, rsp_answerOf c hw b2 ?_⟩
  simp only [c.told, RLc.k, RLc.r1, RLc.k1, RLc.l1, RLc.r2, RLc.k2, RLc.l2, RLc.r3, RLc.k3, RLc.l3, RLc.r4, RLc.k4, RLc.l4, RLc.r5, RLc.k5, RLc.l5, RLc.r6, RLc.k6, RLc.l6, RLc.r7, RLc.k7, RLc.l7, RLc.r8, RLc.k8, RLc.l8, RLc.r9, RLc.k9, RLc.l9, RLc.r10, RLc.k10, RLc.l10, RLc.r11, RLc.k11, RLc.l11, RLc.r12, RLc.k12, RLc.l12, RLc.r13, RLc.k13, RLc.l13, RLc.r14, RLc.k14, RLc.l14, nI_cl (show k < 2 ^ 31 by omega), e2, e3, true_and]
  rw [nI_eq (by omega) (by omega)]
  refine ⟨v1, fun h => ?_, fun h => ?_⟩
  · have : rt S w k = true := by simp [rt, h]
    rw [this] at hQ; exact hQ
  · have : rt S w k = false := by simp [rt, h]
    rw [this] at hQ; exact hQ
theorem rsp_has {x k : Nat} (hx : x < 2 ^ 31) (hk : k < 31) {Q : Int32 → zM → Prop} (hQ : Q (if x.testBit k then 1 else 0) m) : wX12_has t m (nI x) (nI k) Q := by
  unfold wX12_has
  have h := nI_bit0 hx hk
  have h2 : (nI x >>> (nI k &&& 31)) &&& (1 : Int32) = 0 ∨ (nI x >>> (nI k &&& 31)) &&& (1 : Int32) = 1 := by
    obtain ⟨j, hj, e⟩ := pk_andE (nI x >>> (nI k &&& 31)) (m := (1 : Int32)) 1 (by decide)
    rw [e]
    rcases (show j = 0 ∨ j = 1 by omega) with rfl | rfl
    · exact Or.inl rfl
    · exact Or.inr rfl
  cases hb : x.testBit k with
  | false =>
    rw [hb] at hQ
    rw [h.mpr hb]
    exact ⟨fun e => absurd e (by decide), fun _ => hQ⟩
  | true =>
    rw [hb] at hQ
    rcases h2 with e | e
    · rw [h.mp e] at hb; cases hb
    · rw [e]; exact ⟨fun _ => hQ, fun e => absurd rfl e⟩
theorem and_pred_ct {n : Nat} (h0 : 0 < n) (hn : n < 2 ^ 31) : fb_ct (fun i => n.testBit i) 32 = fb_ct (fun i => (n &&& (n - 1)).testBit i) 32 + 1 := by
  obtain ⟨k, q, hk, e⟩ := lb_split 31 n h0 hn
  have u := fb_ct_upd (fun i => n.testBit i) false (i := k) (n := 32) (by omega)
  have b1 : n.testBit k = true := by rw [e, lb_test]; simp
  have c := fb_ct_cong (p := fun i => (n &&& (n - 1)).testBit i) (q := fun i => if i = k then false else n.testBit i) (n := 32) (fun i _ => by
    show (n &&& (n - 1)).testBit i = _
    rw [e, lb_pred, lb_test, Nat.mul_comm (2 ^ k) (2 * q), Nat.testBit_mul_two_pow]
    by_cases z1 : i < k
    · simp [z1, show ¬ k ≤ i by omega]
    · by_cases z2 : i = k
      · subst z2; simp
      · simp only [z1, z2, if_false, show k ≤ i by omega, decide_true, Bool.true_and]
        rw [show i - k = (i - k - 1) + 1 by omega, Nat.testBit_succ, Nat.mul_div_cancel_left _ (by decide)]
        simp)
  rw [c]
  simp only [b1, if_true, Bool.false_eq_true, if_false] at u
  omega
theorem rsp_bits {x : Nat} (hx : x < 2 ^ 31) {Q : Int32 → zM → Prop} (hQ : Q (nI (fb_ct (fun i => x.testBit i) 32)) m) : wX12_bits t m (nI x) Q := by
  unfold wX12_bits
  have key : ∀ (d n c : Nat) (y z : Int32), n < 2 ^ 31 → fb_ct (fun i => n.testBit i) 32 = d → c + d = fb_ct (fun i => x.testBit i) 32 → y = nI c → z = nI n → wX12_bits_L4 t Q (fun v m => Q v m) (d + 1) y z m := by
    intro d
    induction d with
    | zero =>
      intro n c y z hn hd hc hy hz
      have n0 : n = 0 := by
        apply Nat.eq_of_testBit_eq
        intro i
        rw [Nat.zero_testBit]
        rcases Nat.lt_or_ge i 32 with q | q
        · exact fb_ct_zero.mp hd i q
        · exact Nat.testBit_lt_two_pow (Nat.lt_of_lt_of_le hn (Nat.pow_le_pow_right (by decide) (by omega)))
      rw [wX12_bits_L4, hz, hy, n0]
      refine ⟨fun _ => ?_, fun h => absurd rfl h⟩
      rw [show c = fb_ct (fun i => x.testBit i) 32 by omega]
      exact hQ
    | succ d ih =>
      intro n c y z hn hd hc hy hz
      have n0 : 0 < n := by
        rcases Nat.eq_zero_or_pos n with q | q
        · rw [q] at hd
          rw [fb_ct_zero.mpr (fun i _ => Nat.zero_testBit i)] at hd
          omega
        · exact q
      have e := and_pred_ct n0 hn
      rw [wX12_bits_L4, hz, hy]
      refine ⟨fun h => absurd h (nI_ne0 n0 hn), fun _ x2 hx2 => ih (n &&& (n - 1)) (c + 1) _ _ (Nat.lt_of_le_of_lt Nat.and_le_left hn) (by omega) (by omega) (nI_1 c) ?_⟩
      rw [hx2, show (1 : Int32) = nI 1 from rfl, pk_sub n0, fa_and]
  exact ⟨_, key _ x 0 0 (nI x) hx rfl (by omega) rfl rfl⟩
theorem rsp_isFollowed (c : RC t m u S) (hw : w < cnt S) {Q : Int32 → zM → Prop} (h1 : Fol S w → Q 1 m) (h0 : ¬ Fol S w → Q 0 m) : wX12_isFollowed t m 75 (nI w) Q := by
  have L := c.lay
  have v := c.vs
  have f6 := v.f6
  have hc := v.cnt
  have t8 := v.t8
  have RLc := c.rl
  unfold wX12_isFollowed
  refine ⟨cF S + 1, ?_⟩
  have key : ∀ d k : Nat, k + d = cF S → (∀ j, j < k → ans S w (cIt S j) = cIa S j → ans S w (cTt S j) = cTa S j) → ∀ x : Int32, x = nI k → wX12_isFollowed_L2 t 75 (nI w) Q (fun m20 => Q 1 m20) (d + 1) x m := by
    intro d
    induction d with
    | zero =>
      intro k hk g x hx
      have e : k = cF S := by omega
      subst e
      rw [hx, wX12_isFollowed_L2, c.told, c.sm.follows]
      exact ⟨lk75 L, RLc.k, fun _ => h1 g, fun hh => absurd (nI_le (Nat.le_refl _) (by omega)) hh⟩
    | succ d ih =>
      intro k hk g x hx
      have hk1 : k < cF S := by omega
      obtain ⟨e1, e2, e3, e4⟩ := c.sm.fol k hk1
      obtain ⟨b1, b2, b3, b4⟩ := v.fol k hk1
      have a1 := (v.a2 _ b1).2
      have a2 := (v.a2 _ b3).2
      have q1 := ans_4 v (w := w) b1
      have q2 := ans_4 v (w := w) b3
      have v1 : vp_in (nI k) 6 := vp_nI (by omega) (by decide)
      rw [hx, wX12_isFollowed_L2, c.told, c.sm.follows]
      simp only [RLc.k, RLc.r1, RLc.k1, RLc.l1, RLc.r2, RLc.k2, RLc.l2, RLc.r3, RLc.k3, RLc.l3, RLc.r4, RLc.k4, RLc.l4, RLc.r5, RLc.k5, RLc.l5, RLc.r6, RLc.k6, RLc.l6, RLc.r7, RLc.k7, RLc.l7, RLc.r8, RLc.k8, RLc.l8, RLc.r9, RLc.k9, RLc.l9, RLc.r10, RLc.k10, RLc.l10, RLc.r11, RLc.k11, RLc.l11, RLc.r12, RLc.k12, RLc.l12, RLc.r13, RLc.k13, RLc.l13, RLc.r14, RLc.k14, RLc.l14, nI_cl (show k < 2 ^ 31 by omega), e1, true_and]
      refine ⟨lk75 L, fun hh => absurd hh (nI_ge (by omega) (by omega)), fun _ => ⟨v1, rsp_answerOf c hw b1 ?_⟩⟩
      simp only [c.told, RLc.k, RLc.r1, RLc.k1, RLc.l1, RLc.r2, RLc.k2, RLc.l2, RLc.r3, RLc.k3, RLc.l3, RLc.r4, RLc.k4, RLc.l4, RLc.r5, RLc.k5, RLc.l5, RLc.r6, RLc.k6, RLc.l6, RLc.r7, RLc.k7, RLc.l7, RLc.r8, RLc.k8, RLc.l8, RLc.r9, RLc.k9, RLc.l9, RLc.r10, RLc.k10, RLc.l10, RLc.r11, RLc.k11, RLc.l11, RLc.r12, RLc.k12, RLc.l12, RLc.r13, RLc.k13, RLc.l13, RLc.r14, RLc.k14, RLc.l14, nI_cl (show k < 2 ^ 31 by omega), e2, e3, true_and]
      rw [nI_eq (by omega) (by omega)]
      unfold wX12_isFollowed_J67
      refine ⟨v1, fun ha => ⟨v1, rsp_answerOf c hw b3 ?_⟩, fun ha => ih (k + 1) (by omega) (fun j hj hj1 => ?_) _ (nI_1 k)⟩
      · simp only [c.told, RLc.k, RLc.r1, RLc.k1, RLc.l1, RLc.r2, RLc.k2, RLc.l2, RLc.r3, RLc.k3, RLc.l3, RLc.r4, RLc.k4, RLc.l4, RLc.r5, RLc.k5, RLc.l5, RLc.r6, RLc.k6, RLc.l6, RLc.r7, RLc.k7, RLc.l7, RLc.r8, RLc.k8, RLc.l8, RLc.r9, RLc.k9, RLc.l9, RLc.r10, RLc.k10, RLc.l10, RLc.r11, RLc.k11, RLc.l11, RLc.r12, RLc.k12, RLc.l12, RLc.r13, RLc.k13, RLc.l13, RLc.r14, RLc.k14, RLc.l14, nI_cl (show k < 2 ^ 31 by omega), e4, true_and]
        rw [nI_eq (by omega) (by omega)]
        refine ⟨v1, fun hb => ih (k + 1) (by omega) (fun j hj hj1 => ?_) _ (nI_1 k), fun hb => h0 (fun hf => hb (hf k hk1 ha))⟩
        rcases (show j < k ∨ j = k by omega) with q | q
        · exact g j q hj1
        · subst q; exact hb
      · rcases (show j < k ∨ j = k by omega) with q | q
        · exact g j q hj1
        · subst q; exact absurd hj1 ha
  exact key (cF S) 0 (by omega) (fun j hj => absurd hj (by omega)) 0 rfl
end
