/-! The open state of both, with all that is kept -/
def dsj (u a : Nat) : Prop := a < u ∨ u + 15 ≤ a
def knO (t : zT) (m : zM) (u a1 a2 a3 : Nat) : Prop := gR m 75 21 = 0 ∨ ∃ kk kw kl, KR t m kk kw kl ∧ dsj u kk ∧ dsj u kw ∧ dsj u kl ∧ kw ≠ a1 ∧ kw ≠ a2 ∧ kw ≠ a3 ∧ kl ≠ a1 ∧ kl ≠ a2 ∧ kl ≠ a3
def Op (t : zT) (m : zM) (s : Nat) (u : Nat) (S : Sc) (T : Ts) (a1 : Nat) (a2 : Nat) (a3 : Nat) (len : Nat) : Prop := (CO t m s S T) ∧ (RO t m u S T) ∧ (gR m 2 4 = 25 - s) ∧ (u + 15 ≤ tN t) ∧ (PR t m a1 a2 a3 len) ∧ (a1 < tN t ∧ a2 < tN t ∧ a3 < tN t) ∧ (dsj u a1 ∧ dsj u a2 ∧ dsj u a3) ∧ (knO t m u a1 a2 a3) ∧ (gI m 1 12 = -2 ∨ gI m 1 12 = blI S (Fct S T)) ∧ (pfOK S m) ∧ (plOK S (Wd S T) m)
theorem Op.co {t : zT} {m : zM} {s : Nat} {u : Nat} {S : Sc} {T : Ts} {a1 : Nat} {a2 : Nat} {a3 : Nat} {len : Nat} (h_ : Op t m s u S T a1 a2 a3 len) : CO t m s S T := h_.1
theorem Op.ro {t : zT} {m : zM} {s : Nat} {u : Nat} {S : Sc} {T : Ts} {a1 : Nat} {a2 : Nat} {a3 : Nat} {len : Nat} (h_ : Op t m s u S T a1 a2 a3 len) : RO t m u S T := h_.2.1
theorem Op.into {t : zT} {m : zM} {s : Nat} {u : Nat} {S : Sc} {T : Ts} {a1 : Nat} {a2 : Nat} {a3 : Nat} {len : Nat} (h_ : Op t m s u S T a1 a2 a3 len) : gR m 2 4 = 25 - s := h_.2.2.1
theorem Op.un {t : zT} {m : zM} {s : Nat} {u : Nat} {S : Sc} {T : Ts} {a1 : Nat} {a2 : Nat} {a3 : Nat} {len : Nat} (h_ : Op t m s u S T a1 a2 a3 len) : u + 15 ≤ tN t := h_.2.2.2.1
theorem Op.pr {t : zT} {m : zM} {s : Nat} {u : Nat} {S : Sc} {T : Ts} {a1 : Nat} {a2 : Nat} {a3 : Nat} {len : Nat} (h_ : Op t m s u S T a1 a2 a3 len) : PR t m a1 a2 a3 len := h_.2.2.2.2.1
theorem Op.an {t : zT} {m : zM} {s : Nat} {u : Nat} {S : Sc} {T : Ts} {a1 : Nat} {a2 : Nat} {a3 : Nat} {len : Nat} (h_ : Op t m s u S T a1 a2 a3 len) : a1 < tN t ∧ a2 < tN t ∧ a3 < tN t := h_.2.2.2.2.2.1
theorem Op.au {t : zT} {m : zM} {s : Nat} {u : Nat} {S : Sc} {T : Ts} {a1 : Nat} {a2 : Nat} {a3 : Nat} {len : Nat} (h_ : Op t m s u S T a1 a2 a3 len) : dsj u a1 ∧ dsj u a2 ∧ dsj u a3 := h_.2.2.2.2.2.2.1
theorem Op.kn {t : zT} {m : zM} {s : Nat} {u : Nat} {S : Sc} {T : Ts} {a1 : Nat} {a2 : Nat} {a3 : Nat} {len : Nat} (h_ : Op t m s u S T a1 a2 a3 len) : knO t m u a1 a2 a3 := h_.2.2.2.2.2.2.2.1
theorem Op.les {t : zT} {m : zM} {s : Nat} {u : Nat} {S : Sc} {T : Ts} {a1 : Nat} {a2 : Nat} {a3 : Nat} {len : Nat} (h_ : Op t m s u S T a1 a2 a3 len) : gI m 1 12 = -2 ∨ gI m 1 12 = blI S (Fct S T) := h_.2.2.2.2.2.2.2.2.1
theorem Op.pf {t : zT} {m : zM} {s : Nat} {u : Nat} {S : Sc} {T : Ts} {a1 : Nat} {a2 : Nat} {a3 : Nat} {len : Nat} (h_ : Op t m s u S T a1 a2 a3 len) : pfOK S m := h_.2.2.2.2.2.2.2.2.2.1
theorem Op.pk {t : zT} {m : zM} {s : Nat} {u : Nat} {S : Sc} {T : Ts} {a1 : Nat} {a2 : Nat} {a3 : Nat} {len : Nat} (h_ : Op t m s u S T a1 a2 a3 len) : plOK S (Wd S T) m := h_.2.2.2.2.2.2.2.2.2.2
/-- what no call but feed and school touches -/
def Kee (m : zM) (m' : zM) : Prop := (∀ k, gI m' 2 k = gI m 2 k) ∧ (∀ k, gI m' 3 k = gI m 3 k) ∧ (∀ k, gI m' 76 k = gI m 76 k) ∧ (gI m' 1 15 = gI m 1 15) ∧ (gI m' 1 16 = gI m 1 16) ∧ (gI m' 75 6 = gI m 75 6) ∧ (gI m' 75 13 = gI m 75 13)
theorem Kee.k2 {m : zM} {m' : zM} (h_ : Kee m m') : ∀ k, gI m' 2 k = gI m 2 k := h_.1
theorem Kee.k3 {m : zM} {m' : zM} (h_ : Kee m m') : ∀ k, gI m' 3 k = gI m 3 k := h_.2.1
theorem Kee.k76 {m : zM} {m' : zM} (h_ : Kee m m') : ∀ k, gI m' 76 k = gI m 76 k := h_.2.2.1
theorem Kee.x15 {m : zM} {m' : zM} (h_ : Kee m m') : gI m' 1 15 = gI m 1 15 := h_.2.2.2.1
theorem Kee.x16 {m : zM} {m' : zM} (h_ : Kee m m') : gI m' 1 16 = gI m 1 16 := h_.2.2.2.2.1
theorem Kee.y6 {m : zM} {m' : zM} (h_ : Kee m m') : gI m' 75 6 = gI m 75 6 := h_.2.2.2.2.2.1
theorem Kee.y13 {m : zM} {m' : zM} (h_ : Kee m m') : gI m' 75 13 = gI m 75 13 := h_.2.2.2.2.2.2
def tbl (m : zM) : Prop := gI m 1 14 = gI m 75 1 ∧ gI m 75 2 = -1 ∧ gI m 1 14 ≠ 4
/-- what the rows of both have taken -/
noncomputable def us (m : zM) (len : Nat) : Nat := pot len + @ite _ (gR m 75 21 = 0) (Classical.propDecidable _) 0 101252
/-- what stands behind a call in the open state -/
def Res (t : zT) (m : zM) (s u : Nat) (S : Sc) (len : Nat) (c1 c2 : Nat × Nat) (r1 r2 : Int32) (t2 : zT) (m2 : zM) : Prop := r1 = r2 ∧ (∃ T' a1 a2 a3 len', Op t2 m2 s u S T' a1 a2 a3 len' ∧ us m len + c1.2 + c2.2 ≤ us m2 len') ∧ Kee m m2 ∧ tbl m2
section
variable {t t' t1 t2 : zT} {m m' m1 m2 : zM} {s u r : Nat} {S : Sc} {T T' : Ts} {P P' : Nat → Bool} {x x2 x3 r1 r2 : Int32} {Tl X : List Nat} {R : Nat → Nat → Prop} {a1 a2 a3 len kk kw kl : Nat}
theorem us_0 (h : gR m 75 21 = 0) : us m len = pot len := by unfold us; rw [if_pos h]; rfl
theorem us_1 (h : gR m 75 21 ≠ 0) : us m len = pot len + 101252 := by unfold us; rw [if_neg h]
theorem us_e (h : gR m' 75 21 = gR m 75 21) : us m' len = us m len := by unfold us; rw [h]
theorem KR.fr (h : KR t m kk kw kl) (f : Fr Tl m m') : KR t m' kk kw kl := by
  unfold KR at h ⊢
  simp only [f.2]
  exact h
theorem knO.fr (h : knO t m u a1 a2 a3) (f : Fr Tl m m') : knO t m' u a1 a2 a3 := by
  rcases h with h | ⟨kk, kw, kl, h1, h2⟩
  · exact Or.inl ((f.2 _ _).trans h)
  · exact Or.inr ⟨kk, kw, kl, h1.fr f, h2⟩
theorem Kee.rf : Kee m m := ⟨fun _ => rfl, fun _ => rfl, fun _ => rfl, rfl, rfl, rfl, rfl⟩
theorem Kee.tr (h1 : Kee m m1) (h2 : Kee m1 m2) : Kee m m2 := ⟨fun k => (h2.k2 k).trans (h1.k2 k), fun k => (h2.k3 k).trans (h1.k3 k), fun k => (h2.k76 k).trans (h1.k76 k), h2.x15.trans h1.x15, h2.x16.trans h1.x16, h2.y6.trans h1.y6, h2.y13.trans h1.y13⟩
/-- all references as they were -/
def rfE (m m' : zM) : Prop := ∀ a k, gR m' a k = gR m a k
theorem op_same (o : Op t m s u S T a1 a2 a3 len) (co : CO t m2 s S T') (ro : RO t m2 u S T') (e : rfE m m2) (les : gI m2 1 12 = -2 ∨ gI m2 1 12 = blI S (Fct S T')) (pf : pfOK S m2) (pk : plOK S (Wd S T') m2) : Op t m2 s u S T' a1 a2 a3 len := by
  have pr := o.pr
  have kn := o.kn
  refine ⟨co, ro, (e _ _).trans o.into, o.un, ?_, o.an, o.au, ?_, les, pf, pk⟩
  · unfold PR at pr ⊢
    simp only [e _ _]
    exact pr
  · unfold knO KR at kn ⊢
    simp only [e _ _]
    exact kn
theorem res_of (o : Op t m2 s u S T' a1 a2 a3 len) (e : rfE m m2) (k : Kee m m2) (tb : tbl m2) : Res t m s u S len (0, 0) (0, 0) r1 r1 t m2 := ⟨rfl, ⟨T', a1, a2, a3, len, o, by rw [us_e (e _ _)]; exact Nat.le_refl _⟩, k, tb⟩
theorem res_fin (o : Op t m s u S T a1 a2 a3 len) (h : Fin m m2 r1 r2) : Res t m s u S len (0, 0) (0, 0) r1 r2 t m2 := by
  obtain ⟨e, m1, q1, q2, t1, t2, t3⟩ := h
  subst e
  have rr : rfE m m2 := fun a k => (q2.1.2 a k).trans (q1.1.2 a k)
  have ei : ∀ a, a ∉ qT → a ∉ rT → ∀ k, gI m2 a k = gI m a k := fun a h1 h2 k => (q2.1.I h2 k).trans (q1.1.I h1 k)
  have e1 : ∀ j, j ≠ 14 → gI m2 1 j = gI m 1 j := fun j hj => (q2.1.I (by decide) j).trans (q1.2 j hj)
  have e75 : ∀ j, j ≠ 0 → j ≠ 1 → j ≠ 2 → j ≠ 19 → gI m2 75 j = gI m 75 j := fun j a b c d => (q2.2 j a b c d).trans (q1.1.I (by decide) j)
  have co := (o.co.q q1).r q2
  have ro := (o.ro.c q1).q q2
  have pf := o.pf
  have pk := o.pk
  refine res_of (op_same o co ro rr ?_ ?_ ?_) rr ⟨fun k => ei 2 (by decide) (by decide) k, fun k => ei 3 (by decide) (by decide) k, fun k => ei 76 (by decide) (by decide) k, e1 15 (by decide), e1 16 (by decide), e75 6 (by decide) (by decide) (by decide) (by decide), e75 13 (by decide) (by decide) (by decide) (by decide)⟩ ⟨t1, t2, t3⟩
  · rw [e1 12 (by decide)]; exact o.les
  · unfold pfOK at pf ⊢
    simp only [ei 48 (by decide) (by decide), ei 51 (by decide) (by decide)]
    exact pf
  · unfold plOK PlV at pk ⊢
    simp only [ei 52 (by decide) (by decide)]
    exact pk
theorem Fct_wd (h : Fct S T' = Fct S T) : Wd S T' = Wd S T := by
  unfold Wd
  rw [show Fcf S (thd T' 3) (tfb T' 3) = Fcf S (thd T 3) (tfb T 3) from h]
theorem res_finT (o : Op t m s u S T a1 a2 a3 len) (h : FinT t s u S T m m2 r1 r2) : Res t m s u S len (0, 0) (0, 0) r1 r2 t m2 := by
  obtain ⟨e, T', m1, q1, q2, co, ro, kp, t1, t2, t3⟩ := h
  subst e
  have rr : rfE m m2 := fun a k => (q2.1.2 a k).trans (q1.1.2 a k)
  have ei : ∀ a, a ∉ cTl → a ∉ rTl → ∀ k, gI m2 a k = gI m a k := fun a h1 h2 k => (q2.1.I h2 k).trans (q1.1.I h1 k)
  have e1 : ∀ j, gI m2 1 j = gI m1 1 j := fun j => q2.1.I (by decide) j
  have e52 : ∀ j, gI m2 52 j = gI m1 52 j := fun j => q2.1.I (by decide) j
  have e75 : ∀ j, j ≠ 0 → j ≠ 1 → j ≠ 2 → j ≠ 19 → j ≠ 28 → gI m2 75 j = gI m 75 j := fun j a b c d e => (q2.2 j a b c d e).trans (q1.1.I (by decide) j)
  have pf := o.pf
  refine res_of (T' := T') (op_same o co ro rr ?_ ?_ ?_) rr ⟨fun k => ei 2 (by decide) (by decide) k, fun k => ei 3 (by decide) (by decide) k, fun k => ei 76 (by decide) (by decide) k, (e1 15).trans (q1.2.1 15 (by decide) (by decide) (by decide)), (e1 16).trans (q1.2.1 16 (by decide) (by decide) (by decide)), e75 6 (by decide) (by decide) (by decide) (by decide) (by decide), e75 13 (by decide) (by decide) (by decide) (by decide) (by decide)⟩ ⟨t1, t2, t3⟩
  · rcases kp with ⟨a, b, c⟩ | ⟨a, b⟩
    · have a' : Fct S T' = Fct S T := a
      rw [e1, b, a']; exact o.les
    · exact Or.inl ((e1 12).trans a)
  · unfold pfOK at pf ⊢
    simp only [ei 48 (by decide) (by decide), ei 51 (by decide) (by decide)]
    exact pf
  · rcases kp with ⟨a, b, c⟩ | ⟨a, b⟩
    · have a' : Fct S T' = Fct S T := a
      have pk := o.pk
      rw [Fct_wd a']
      unfold plOK PlV at pk ⊢
      have z : ∀ j, gI m2 52 j = gI m 52 j := fun j => by
        rw [e52]
        by_cases y : j = 0
        · rw [y]; exact c
        · exact q1.2.2 j y
      simp only [z]
      exact pk
    · exact Or.inl ((e52 0).trans b)
theorem res_finL (o : Op t m s u S T a1 a2 a3 len) (h : FinL u S T m m2 r1 r2) : Res t m s u S len (0, 0) (0, 0) r1 r2 t m2 := by
  obtain ⟨e, m1, q1, q2, ls, t1, t2, t3⟩ := h
  subst e
  have u85 := o.ro.rc.rl.u85
  have rr : rfE m m2 := fun a k => (q2.1.2 a k).trans (q1.1.2 a k)
  have or : ∀ a, a < 75 ∨ a = 76 → a ∉ rlT u := fun a ha q => by simp only [rlT, List.mem_cons, List.not_mem_nil, or_false] at q; omega
  have ei : ∀ a, a ∉ lT → a < 75 ∨ a = 76 → ∀ k, gI m2 a k = gI m a k := fun a h1 h2 k => (q2.1.I (or a h2) k).trans (q1.1.I h1 k)
  have e1 : ∀ j, gI m2 1 j = gI m1 1 j := fun j => q2.1.I (or 1 (by decide)) j
  have e75 : ∀ j, j ≠ 0 → j ≠ 1 → j ≠ 2 → j ≠ 19 → gI m2 75 j = gI m 75 j := fun j a b c d => (q2.2.1 j a b c d).trans (q1.1.I (by decide) j)
  have co := q2.co u85 (o.co.l q1)
  have ro := (q1.ro o.ro).l q2
  have pf := o.pf
  have pk := o.pk
  refine res_of (op_same o co ro rr ?_ ?_ ?_) rr ⟨fun k => ei 2 (by decide) (by decide) k, fun k => ei 3 (by decide) (by decide) k, fun k => ei 76 (by decide) (by decide) k, (e1 15).trans (q1.2.1 15 (by decide) (by decide)), (e1 16).trans (q1.2.1 16 (by decide) (by decide)), e75 6 (by decide) (by decide) (by decide) (by decide), e75 13 (by decide) (by decide) (by decide) (by decide)⟩ ⟨t1, t2, t3⟩
  · rw [e1]
    rcases ls with z | z
    · rw [z]; exact o.les
    · exact Or.inr z
  · unfold pfOK at pf ⊢
    simp only [ei 48 (by decide) (by decide), ei 51 (by decide) (by decide)]
    exact pf
  · unfold plOK PlV at pk ⊢
    simp only [ei 52 (by decide) (by decide)]
    exact pk
theorem res_finP (o : Op t m s u S T a1 a2 a3 len) (h : FinP S m m2 r1 r2) : Res t m s u S len (0, 0) (0, 0) r1 r2 t m2 := by
  obtain ⟨e, m1, q1, q2, p1, p2, t1, t2, t3⟩ := h
  subst e
  have rr : rfE m m2 := fun a k => (q2.1.2 a k).trans (q1.1.2 a k)
  have ei : ∀ a, a ∉ (1 :: pT) → a ∉ rT → ∀ k, gI m2 a k = gI m a k := fun a h1 h2 k => (q2.1.I h2 k).trans (q1.1.I h1 k)
  have e1 : ∀ j, j ≠ 14 → gI m2 1 j = gI m 1 j := fun j hj => (q2.1.I (by decide) j).trans (q1.2 j hj)
  have e75 : ∀ j, j ≠ 0 → j ≠ 1 → j ≠ 2 → j ≠ 19 → gI m2 75 j = gI m 75 j := fun j a b c d => (q2.2 j a b c d).trans (q1.1.I (by decide) j)
  have co := (q1.co o.co).r q2
  have ro := (q1.ro o.ro).q q2
  have pk := o.pk
  refine res_of (op_same o co ro rr ?_ ?_ ?_) rr ⟨fun k => ei 2 (by decide) (by decide) k, fun k => ei 3 (by decide) (by decide) k, fun k => ei 76 (by decide) (by decide) k, e1 15 (by decide), e1 16 (by decide), e75 6 (by decide) (by decide) (by decide) (by decide), e75 13 (by decide) (by decide) (by decide) (by decide)⟩ ⟨t1, t2, t3⟩
  · rw [e1 12 (by decide)]; exact o.les
  · refine Or.inr ⟨(q2.1.I (by decide) _).trans p1, fun k hk => ?_⟩
    rw [q2.1.I (by decide)]
    exact p2 k hk
  · unfold plOK PlV at pk ⊢
    simp only [ei 52 (by decide) (by decide)]
    exact pk
end
