/-! What the memory holds of a school; Court.judge -/
def wds (S : Sc) : Nat := (cnt S + 63) / 64
def wrI (S : Sc) : Int32 := if (cLw S).testBit 1 then nI (cWr S) else -2
def SchM (m : zM) (s : Nat) (S : Sc) : Prop := (gI m s 0 = nI (cT S)) ∧ (∀ t, t < cT S → gI m (s + 1) t = nI (cA S t)) ∧ (gI m s 2 = nI (cnt S)) ∧ (∀ t, t < 8 → gI m (s + 2) t = nI (cC S t)) ∧ (gI m s 4 = nI (cTr S)) ∧ (gI m s 5 = nI (cF S)) ∧ (∀ k, k < cF S → gI m (s + 3) k = nI (cIt S k) ∧ gI m (s + 4) k = nI (cIa S k) ∧ gI m (s + 5) k = nI (cTt S k) ∧ gI m (s + 6) k = nI (cTa S k)) ∧ (gI m s 10 = nI (cM S)) ∧ (∀ k, k < cM S → gI m (s + 7) k = nI (cKd S k)) ∧ (gI m s 12 = nI (cLw S)) ∧ (gI m s 13 = wrI S) ∧ (gI m s 14 = nI (cN S)) ∧ (gI m s 18 = nI (cCh S)) ∧ (∀ k, k < cCh S → gI m (s + 11) k = nI (cHe S k))
theorem SchM.things {m : zM} {s : Nat} {S : Sc} (h_ : SchM m s S) : gI m s 0 = nI (cT S) := h_.1
theorem SchM.answers {m : zM} {s : Nat} {S : Sc} (h_ : SchM m s S) : ∀ t, t < cT S → gI m (s + 1) t = nI (cA S t) := h_.2.1
theorem SchM.count {m : zM} {s : Nat} {S : Sc} (h_ : SchM m s S) : gI m s 2 = nI (cnt S) := h_.2.2.1
theorem SchM.cost {m : zM} {s : Nat} {S : Sc} (h_ : SchM m s S) : ∀ t, t < 8 → gI m (s + 2) t = nI (cC S t) := h_.2.2.2.1
theorem SchM.trials {m : zM} {s : Nat} {S : Sc} (h_ : SchM m s S) : gI m s 4 = nI (cTr S) := h_.2.2.2.2.1
theorem SchM.follows {m : zM} {s : Nat} {S : Sc} (h_ : SchM m s S) : gI m s 5 = nI (cF S) := h_.2.2.2.2.2.1
theorem SchM.fol {m : zM} {s : Nat} {S : Sc} (h_ : SchM m s S) : ∀ k, k < cF S → gI m (s + 3) k = nI (cIt S k) ∧ gI m (s + 4) k = nI (cIa S k) ∧ gI m (s + 5) k = nI (cTt S k) ∧ gI m (s + 6) k = nI (cTa S k) := h_.2.2.2.2.2.2.1
theorem SchM.masters {m : zM} {s : Nat} {S : Sc} (h_ : SchM m s S) : gI m s 10 = nI (cM S) := h_.2.2.2.2.2.2.2.1
theorem SchM.kind {m : zM} {s : Nat} {S : Sc} (h_ : SchM m s S) : ∀ k, k < cM S → gI m (s + 7) k = nI (cKd S k) := h_.2.2.2.2.2.2.2.2.1
theorem SchM.laws {m : zM} {s : Nat} {S : Sc} (h_ : SchM m s S) : gI m s 12 = nI (cLw S) := h_.2.2.2.2.2.2.2.2.2.1
theorem SchM.wrong {m : zM} {s : Nat} {S : Sc} (h_ : SchM m s S) : gI m s 13 = wrI S := h_.2.2.2.2.2.2.2.2.2.2.1
theorem SchM.sayings {m : zM} {s : Nat} {S : Sc} (h_ : SchM m s S) : gI m s 14 = nI (cN S) := h_.2.2.2.2.2.2.2.2.2.2.2.1
theorem SchM.children {m : zM} {s : Nat} {S : Sc} (h_ : SchM m s S) : gI m s 18 = nI (cCh S) := h_.2.2.2.2.2.2.2.2.2.2.2.2.1
theorem SchM.hears {m : zM} {s : Nat} {S : Sc} (h_ : SchM m s S) : ∀ k, k < cCh S → gI m (s + 11) k = nI (cHe S k) := h_.2.2.2.2.2.2.2.2.2.2.2.2.2
def SayM (m : zM) (s : Nat) (S : Sc) (N : Nat) : Prop := (N ≤ 17) ∧ (∀ i, i < N → gI m (s + 8) i = nI (cBy S i) ∧ gI m (s + 9) i = nI (cOf S i) ∧ gI m (s + 10) i = nI (cWh S i)) ∧ (∀ i, i < N → cBy S i < cM S ∧ cOf S i < cT S ∧ cWh S i < 4)
theorem SayM.le {m : zM} {s : Nat} {S : Sc} {N : Nat} (h_ : SayM m s S N) : N ≤ 17 := h_.1
theorem SayM.tab {m : zM} {s : Nat} {S : Sc} {N : Nat} (h_ : SayM m s S N) : ∀ i, i < N → gI m (s + 8) i = nI (cBy S i) ∧ gI m (s + 9) i = nI (cOf S i) ∧ gI m (s + 10) i = nI (cWh S i) := h_.2.1
theorem SayM.bd {m : zM} {s : Nat} {S : Sc} {N : Nat} (h_ : SayM m s S N) : ∀ i, i < N → cBy S i < cM S ∧ cOf S i < cT S ∧ cWh S i < 4 := h_.2.2
def WayM (m : zM) (S : Sc) : Prop := (gI m 20 1 = nI (cnt S)) ∧ (gI m 20 2 = nI (wds S)) ∧ (∀ t, t < cT S → gI m 33 t = nI (wgt S t)) ∧ (∀ t, t < cT S → ∀ a, a < 4 → ∀ W, W < 64 → ∀ i, i < 64 → (bw (gJ m 34 ((t * 4 + a) * 64 + W)) i = true ↔ 64 * W + i < cnt S ∧ ans S (64 * W + i) t = a)) ∧ (∀ W, W < wds S → ∀ i, i < 64 → (bw (gJ m 35 W) i = true ↔ 64 * W + i < cnt S ∧ Fol S (64 * W + i)))
theorem WayM.count {m : zM} {S : Sc} (h_ : WayM m S) : gI m 20 1 = nI (cnt S) := h_.1
theorem WayM.words {m : zM} {S : Sc} (h_ : WayM m S) : gI m 20 2 = nI (wds S) := h_.2.1
theorem WayM.weight {m : zM} {S : Sc} (h_ : WayM m S) : ∀ t, t < cT S → gI m 33 t = nI (wgt S t) := h_.2.2.1
theorem WayM.truth {m : zM} {S : Sc} (h_ : WayM m S) : ∀ t, t < cT S → ∀ a, a < 4 → ∀ W, W < 64 → ∀ i, i < 64 → (bw (gJ m 34 ((t * 4 + a) * 64 + W)) i = true ↔ 64 * W + i < cnt S ∧ ans S (64 * W + i) t = a) := h_.2.2.2.1
theorem WayM.follow {m : zM} {S : Sc} (h_ : WayM m S) : ∀ W, W < wds S → ∀ i, i < 64 → (bw (gJ m 35 W) i = true ↔ 64 * W + i < cnt S ∧ Fol S (64 * W + i)) := h_.2.2.2.2
def RowM (m : zM) (r : Nat) (S : Sc) (P : Nat → Bool) : Prop := (gI m r 1 = nI (wds S)) ∧ (gI m r 2 = nI (fb_ct P (cnt S))) ∧ (∀ W, W < wds S → ∀ i, i < 64 → (bw (gJ m (r + 1) W) i = true ↔ 64 * W + i < cnt S ∧ P (64 * W + i) = true))
theorem RowM.words {m : zM} {r : Nat} {S : Sc} {P : Nat → Bool} (h_ : RowM m r S P) : gI m r 1 = nI (wds S) := h_.1
theorem RowM.members {m : zM} {r : Nat} {S : Sc} {P : Nat → Bool} (h_ : RowM m r S P) : gI m r 2 = nI (fb_ct P (cnt S)) := h_.2.1
theorem RowM.bit {m : zM} {r : Nat} {S : Sc} {P : Nat → Bool} (h_ : RowM m r S P) : ∀ W, W < wds S → ∀ i, i < 64 → (bw (gJ m (r + 1) W) i = true ↔ 64 * W + i < cnt S ∧ P (64 * W + i) = true) := h_.2.2
/-- what every school keeps to, a piece a name -/
def Vs (S : Sc) : Prop := (1 ≤ cT S) ∧ (cT S ≤ 8) ∧ (∀ t, t < cT S → 2 ≤ cA S t ∧ cA S t ≤ 4) ∧ (cnt S ≤ 4096) ∧ (∀ t, t < 8 → cC S t ≤ 99) ∧ (cF S ≤ 6) ∧ (∀ k, k < cF S → cIt S k < cT S ∧ cIa S k < cA S (cIt S k) ∧ cTt S k < cT S ∧ cTa S k < cA S (cTt S k)) ∧ (cM S ≤ 6) ∧ (∀ k, k < cM S → cKd S k < 4) ∧ (cLw S < 8) ∧ ((cLw S).testBit 1 = true → cWr S ≤ 8) ∧ (cN S ≤ 16) ∧ (∀ i, i < cN S → cBy S i < cM S ∧ cOf S i < cT S ∧ cWh S i < cA S (cOf S i)) ∧ (cCh S ≤ 5) ∧ (∀ k, k < cCh S → cHe S k < 2 ^ cM S)
theorem Vs.t1 {S : Sc} (h_ : Vs S) : 1 ≤ cT S := h_.1
theorem Vs.t8 {S : Sc} (h_ : Vs S) : cT S ≤ 8 := h_.2.1
theorem Vs.a2 {S : Sc} (h_ : Vs S) : ∀ t, t < cT S → 2 ≤ cA S t ∧ cA S t ≤ 4 := h_.2.2.1
theorem Vs.cnt {S : Sc} (h_ : Vs S) : cnt S ≤ 4096 := h_.2.2.2.1
theorem Vs.c99 {S : Sc} (h_ : Vs S) : ∀ t, t < 8 → cC S t ≤ 99 := h_.2.2.2.2.1
theorem Vs.f6 {S : Sc} (h_ : Vs S) : cF S ≤ 6 := h_.2.2.2.2.2.1
theorem Vs.fol {S : Sc} (h_ : Vs S) : ∀ k, k < cF S → cIt S k < cT S ∧ cIa S k < cA S (cIt S k) ∧ cTt S k < cT S ∧ cTa S k < cA S (cTt S k) := h_.2.2.2.2.2.2.1
theorem Vs.m6 {S : Sc} (h_ : Vs S) : cM S ≤ 6 := h_.2.2.2.2.2.2.2.1
theorem Vs.kd {S : Sc} (h_ : Vs S) : ∀ k, k < cM S → cKd S k < 4 := h_.2.2.2.2.2.2.2.2.1
theorem Vs.lw {S : Sc} (h_ : Vs S) : cLw S < 8 := h_.2.2.2.2.2.2.2.2.2.1
theorem Vs.wr {S : Sc} (h_ : Vs S) : (cLw S).testBit 1 = true → cWr S ≤ 8 := h_.2.2.2.2.2.2.2.2.2.2.1
theorem Vs.n16 {S : Sc} (h_ : Vs S) : cN S ≤ 16 := h_.2.2.2.2.2.2.2.2.2.2.2.1
theorem Vs.say {S : Sc} (h_ : Vs S) : ∀ i, i < cN S → cBy S i < cM S ∧ cOf S i < cT S ∧ cWh S i < cA S (cOf S i) := h_.2.2.2.2.2.2.2.2.2.2.2.2.1
theorem Vs.ch5 {S : Sc} (h_ : Vs S) : cCh S ≤ 5 := h_.2.2.2.2.2.2.2.2.2.2.2.2.2.1
theorem Vs.he {S : Sc} (h_ : Vs S) : ∀ k, k < cCh S → cHe S k < 2 ^ cM S := h_.2.2.2.2.2.2.2.2.2.2.2.2.2.2
def isRow (r : Nat) : Prop := r = 66 ∨ r = 68 ∨ r = 70 ∨ r = 49
def jT (r : Nat) : List Nat := [19, 37, 38, 39, 40, 41, 42, 43, 44, 45, 46, 47, r, r + 1]
section
variable {t : zT} {m m' : zM} {s r : Nat} {S : Sc} {set h G lw wt pn W N : Nat} {sd bf go gm gt po pq : Nat → Nat} {T : List Nat}
theorem rw_k (L : Lay t m) (h : isRow r) : tK t r = 4 := by rcases h with rfl | rfl | rfl | rfl; exact lk66 L; exact lk68 L; exact lk70 L; exact lk49 L
theorem rw_r (L : Lay t m) (h : isRow r) : gR m r 0 = r + 1 := by rcases h with rfl | rfl | rfl | rfl; exact lr66_0 L; exact lr68_0 L; exact lr70_0 L; exact lr49_0 L
theorem rw_bk (L : Lay t m) (h : isRow r) : tK t (r + 1) = 15 := by rcases h with rfl | rfl | rfl | rfl; exact lk67 L; exact lk69 L; exact lk71 L; exact lk50 L
theorem rw_bl (L : Lay t m) (h : isRow r) : tL t (r + 1) = 64 := by rcases h with rfl | rfl | rfl | rfl; exact ll67 L; exact ll69 L; exact ll71 L; exact ll50 L
theorem jT_sch (hs : isSch s) (hr : isRow r) {j : Nat} (hj : j ≤ 11) : s + j ∉ jT r := by
  unfold isSch at hs
  unfold isRow at hr
  simp only [jT, List.mem_cons, List.not_mem_nil, or_false]
  omega
theorem SchM.fr (h : SchM m s S) (f : Fr T m m') (hT : ∀ j, j ≤ 11 → s + j ∉ T) : SchM m' s S := by
  have e0 : ∀ k, gI m' s k = gI m s k := f.I (hT 0 (by decide))
  have e1 : ∀ k, gI m' (s + 1) k = gI m (s + 1) k := f.I (hT 1 (by decide))
  have e2 : ∀ k, gI m' (s + 2) k = gI m (s + 2) k := f.I (hT 2 (by decide))
  have e3 : ∀ k, gI m' (s + 3) k = gI m (s + 3) k := f.I (hT 3 (by decide))
  have e4 : ∀ k, gI m' (s + 4) k = gI m (s + 4) k := f.I (hT 4 (by decide))
  have e5 : ∀ k, gI m' (s + 5) k = gI m (s + 5) k := f.I (hT 5 (by decide))
  have e6 : ∀ k, gI m' (s + 6) k = gI m (s + 6) k := f.I (hT 6 (by decide))
  have e7 : ∀ k, gI m' (s + 7) k = gI m (s + 7) k := f.I (hT 7 (by decide))
  have e11 : ∀ k, gI m' (s + 11) k = gI m (s + 11) k := f.I (hT 11 (by decide))
  unfold SchM at h ⊢
  simp only [e0, e1, e2, e3, e4, e5, e6, e7, e11]
  exact h
theorem SayM.fr (h : SayM m s S N) (f : Fr T m m') (hT : ∀ j, j ≤ 11 → s + j ∉ T) : SayM m' s S N := by
  have e8 : ∀ k, gI m' (s + 8) k = gI m (s + 8) k := f.I (hT 8 (by decide))
  have e9 : ∀ k, gI m' (s + 9) k = gI m (s + 9) k := f.I (hT 9 (by decide))
  have e10 : ∀ k, gI m' (s + 10) k = gI m (s + 10) k := f.I (hT 10 (by decide))
  unfold SayM at h ⊢
  simp only [e8, e9, e10]
  exact h
theorem WayM.fr (h : WayM m S) (f : Fr T m m') (hT : ∀ a, a ∈ [20, 33, 34, 35] → a ∉ T) : WayM m' S := by
  have e0 : ∀ k, gI m' 20 k = gI m 20 k := f.I (hT 20 (by decide))
  have e1 : ∀ k, gI m' 33 k = gI m 33 k := f.I (hT 33 (by decide))
  have e2 : ∀ k, gJ m' 34 k = gJ m 34 k := f.J (hT 34 (by decide))
  have e3 : ∀ k, gJ m' 35 k = gJ m 35 k := f.J (hT 35 (by decide))
  unfold WayM at h ⊢
  simp only [e0, e1, e2, e3]
  exact h
theorem RowM.fr {P : Nat → Bool} (h : RowM m r S P) (f : Fr T m m') (hT : r ∉ T) (hT1 : r + 1 ∉ T) : RowM m' r S P := by
  have e0 : ∀ k, gI m' r k = gI m r k := f.I hT
  have e1 : ∀ k, gJ m' (r + 1) k = gJ m (r + 1) k := f.J hT1
  unfold RowM at h ⊢
  simp only [e0, e1]
  exact h
theorem row_ct {P : Nat → Bool} {b : Nat} (h : ∀ W, W < wds S → ∀ i, i < 64 → (bw (gJ m b W) i = true ↔ 64 * W + i < cnt S ∧ P (64 * W + i) = true)) : cw m b (wds S) = fb_ct P (cnt S) := by
  rw [← rb_ct]
  have hw : cnt S ≤ 64 * wds S := by unfold wds; omega
  have e : ∀ w, w < 64 * wds S → rb m b w = (decide (w < cnt S) && P w) := by
    intro w hw1
    have a := h (w / 64) (by omega) (w % 64) (by omega)
    rw [show 64 * (w / 64) + w % 64 = w by omega] at a
    rw [rb]
    cases h1 : bw (gJ m b (w / 64)) (w % 64) with
    | true => have := a.mp h1; simp [this.1, this.2]
    | false =>
      cases h2 : (decide (w < cnt S) && P w) with
      | false => rfl
      | true => rw [Bool.and_eq_true, decide_eq_true_eq] at h2; rw [a.mpr h2] at h1; cases h1
  rw [fb_ct_cong e]
  have hs := fb_ct_split (fun w => decide (w < cnt S) && P w) (cnt S) (64 * wds S - cnt S)
  rw [show cnt S + (64 * wds S - cnt S) = 64 * wds S by omega] at hs
  rw [hs, fb_ct_cong (q := P) (fun k hk => by simp [hk]), Nat.add_eq_left]
  have h0 : fb_ct (fun k => decide (cnt S + k < cnt S) && P (cnt S + k)) (64 * wds S - cnt S) = 0 := fb_ct_zero.mpr (fun k _ => by simp only [show ¬ cnt S + k < cnt S by omega, decide_false, Bool.false_and])
  exact h0
def Jd (m : zM) (s : Nat) (S : Sc) (N set lw h G : Nat) (sd bf go gm gt : Nat → Nat) (pn : Nat) (po pq : Nat → Nat) (wt : Nat) : Prop := (gR m 20 0 = s) ∧ (gI m 19 2 = nI lw) ∧ (Hp S set 17 h G sd bf go gm gt) ∧ (Hm m h G sd bf go gm gt) ∧ (pn ≤ 8) ∧ (Pm m pn po pq) ∧ (lw.testBit 0 = false → pn = 0) ∧ (lw.testBit 0 = true → Pp S G gm gt (cT S) pn po pq) ∧ (gI m 19 3 = nI wt) ∧ (wt < 64) ∧ (∀ k, k < cM S → (wt.testBit k = true ↔ lw.testBit 1 = true ∧ cKd S k = 0 ∧ cWr S < fb_ct (fun q => gm q == k) G)) ∧ (∀ k, cM S ≤ k → wt.testBit k = false) ∧ (SchM m s S) ∧ (SayM m s S N) ∧ (WayM m S) ∧ (∀ i, set.testBit i = true → i < N) ∧ (lw.testBit 1 = true → (cLw S).testBit 1 = true)
theorem Jd.told {m : zM} {s : Nat} {S : Sc} {N set lw h G : Nat} {sd bf go gm gt : Nat → Nat} {pn : Nat} {po pq : Nat → Nat} {wt : Nat} (h_ : Jd m s S N set lw h G sd bf go gm gt pn po pq wt) : gR m 20 0 = s := h_.1
theorem Jd.law {m : zM} {s : Nat} {S : Sc} {N set lw h G : Nat} {sd bf go gm gt : Nat → Nat} {pn : Nat} {po pq : Nat → Nat} {wt : Nat} (h_ : Jd m s S N set lw h G sd bf go gm gt pn po pq wt) : gI m 19 2 = nI lw := h_.2.1
theorem Jd.hp {m : zM} {s : Nat} {S : Sc} {N set lw h G : Nat} {sd bf go gm gt : Nat → Nat} {pn : Nat} {po pq : Nat → Nat} {wt : Nat} (h_ : Jd m s S N set lw h G sd bf go gm gt pn po pq wt) : Hp S set 17 h G sd bf go gm gt := h_.2.2.1
theorem Jd.hm {m : zM} {s : Nat} {S : Sc} {N set lw h G : Nat} {sd bf go gm gt : Nat → Nat} {pn : Nat} {po pq : Nat → Nat} {wt : Nat} (h_ : Jd m s S N set lw h G sd bf go gm gt pn po pq wt) : Hm m h G sd bf go gm gt := h_.2.2.2.1
theorem Jd.p8 {m : zM} {s : Nat} {S : Sc} {N set lw h G : Nat} {sd bf go gm gt : Nat → Nat} {pn : Nat} {po pq : Nat → Nat} {wt : Nat} (h_ : Jd m s S N set lw h G sd bf go gm gt pn po pq wt) : pn ≤ 8 := h_.2.2.2.2.1
theorem Jd.pm {m : zM} {s : Nat} {S : Sc} {N set lw h G : Nat} {sd bf go gm gt : Nat → Nat} {pn : Nat} {po pq : Nat → Nat} {wt : Nat} (h_ : Jd m s S N set lw h G sd bf go gm gt pn po pq wt) : Pm m pn po pq := h_.2.2.2.2.2.1
theorem Jd.p0 {m : zM} {s : Nat} {S : Sc} {N set lw h G : Nat} {sd bf go gm gt : Nat → Nat} {pn : Nat} {po pq : Nat → Nat} {wt : Nat} (h_ : Jd m s S N set lw h G sd bf go gm gt pn po pq wt) : lw.testBit 0 = false → pn = 0 := h_.2.2.2.2.2.2.1
theorem Jd.p1 {m : zM} {s : Nat} {S : Sc} {N set lw h G : Nat} {sd bf go gm gt : Nat → Nat} {pn : Nat} {po pq : Nat → Nat} {wt : Nat} (h_ : Jd m s S N set lw h G sd bf go gm gt pn po pq wt) : lw.testBit 0 = true → Pp S G gm gt (cT S) pn po pq := h_.2.2.2.2.2.2.2.1
theorem Jd.wat {m : zM} {s : Nat} {S : Sc} {N set lw h G : Nat} {sd bf go gm gt : Nat → Nat} {pn : Nat} {po pq : Nat → Nat} {wt : Nat} (h_ : Jd m s S N set lw h G sd bf go gm gt pn po pq wt) : gI m 19 3 = nI wt := h_.2.2.2.2.2.2.2.2.1
theorem Jd.w64 {m : zM} {s : Nat} {S : Sc} {N set lw h G : Nat} {sd bf go gm gt : Nat → Nat} {pn : Nat} {po pq : Nat → Nat} {wt : Nat} (h_ : Jd m s S N set lw h G sd bf go gm gt pn po pq wt) : wt < 64 := h_.2.2.2.2.2.2.2.2.2.1
theorem Jd.w1 {m : zM} {s : Nat} {S : Sc} {N set lw h G : Nat} {sd bf go gm gt : Nat → Nat} {pn : Nat} {po pq : Nat → Nat} {wt : Nat} (h_ : Jd m s S N set lw h G sd bf go gm gt pn po pq wt) : ∀ k, k < cM S → (wt.testBit k = true ↔ lw.testBit 1 = true ∧ cKd S k = 0 ∧ cWr S < fb_ct (fun q => gm q == k) G) := h_.2.2.2.2.2.2.2.2.2.2.1
theorem Jd.w2 {m : zM} {s : Nat} {S : Sc} {N set lw h G : Nat} {sd bf go gm gt : Nat → Nat} {pn : Nat} {po pq : Nat → Nat} {wt : Nat} (h_ : Jd m s S N set lw h G sd bf go gm gt pn po pq wt) : ∀ k, cM S ≤ k → wt.testBit k = false := h_.2.2.2.2.2.2.2.2.2.2.2.1
theorem Jd.sch {m : zM} {s : Nat} {S : Sc} {N set lw h G : Nat} {sd bf go gm gt : Nat → Nat} {pn : Nat} {po pq : Nat → Nat} {wt : Nat} (h_ : Jd m s S N set lw h G sd bf go gm gt pn po pq wt) : SchM m s S := h_.2.2.2.2.2.2.2.2.2.2.2.2.1
theorem Jd.say {m : zM} {s : Nat} {S : Sc} {N set lw h G : Nat} {sd bf go gm gt : Nat → Nat} {pn : Nat} {po pq : Nat → Nat} {wt : Nat} (h_ : Jd m s S N set lw h G sd bf go gm gt pn po pq wt) : SayM m s S N := h_.2.2.2.2.2.2.2.2.2.2.2.2.2.1
theorem Jd.way {m : zM} {s : Nat} {S : Sc} {N set lw h G : Nat} {sd bf go gm gt : Nat → Nat} {pn : Nat} {po pq : Nat → Nat} {wt : Nat} (h_ : Jd m s S N set lw h G sd bf go gm gt pn po pq wt) : WayM m S := h_.2.2.2.2.2.2.2.2.2.2.2.2.2.2.1
theorem Jd.sN {m : zM} {s : Nat} {S : Sc} {N set lw h G : Nat} {sd bf go gm gt : Nat → Nat} {pn : Nat} {po pq : Nat → Nat} {wt : Nat} (h_ : Jd m s S N set lw h G sd bf go gm gt pn po pq wt) : ∀ i, set.testBit i = true → i < N := h_.2.2.2.2.2.2.2.2.2.2.2.2.2.2.2.1
theorem Jd.lwr {m : zM} {s : Nat} {S : Sc} {N set lw h G : Nat} {sd bf go gm gt : Nat → Nat} {pn : Nat} {po pq : Nat → Nat} {wt : Nat} (h_ : Jd m s S N set lw h G sd bf go gm gt pn po pq wt) : lw.testBit 1 = true → (cLw S).testBit 1 = true := h_.2.2.2.2.2.2.2.2.2.2.2.2.2.2.2.2
theorem Jd.fr (j : Jd m s S N set lw h G sd bf go gm gt pn po pq wt) (hs : isSch s) (f : Fr T m m') (hT : ∀ j, j ≤ 11 → s + j ∉ T) (hT2 : ∀ a, a ∈ [19, 20, 33, 34, 35, 38, 39, 40, 42, 43, 46, 47] → a ∉ T) : Jd m' s S N set lw h G sd bf go gm gt pn po pq wt := by
  refine ⟨(f.2 _ _).trans j.told, (f.I (hT2 19 (by decide)) _).trans j.law, j.hp, j.hm.fr f (by intro a ha; rcases ha with rfl | rfl | rfl | rfl | rfl | rfl <;> exact hT2 _ (by decide)), j.p8, ?_, j.p0, j.p1, (f.I (hT2 19 (by decide)) _).trans j.wat, j.w64, j.w1, j.w2, j.sch.fr f hT, j.say.fr f hT, j.way.fr f (fun a ha => hT2 a (by simp only [List.mem_cons, List.not_mem_nil, or_false] at ha ⊢; omega)), j.sN, j.lwr⟩
  refine ⟨(f.I (hT2 19 (by decide)) _).trans j.pm.1, fun i hi => ⟨(f.I (hT2 46 (by decide)) _).trans (j.pm.2 i hi).1, (f.I (hT2 47 (by decide)) _).trans (j.pm.2 i hi).2⟩⟩
theorem wds_le (v : Vs S) : wds S ≤ 64 := by have := v.cnt; unfold wds; omega
end
