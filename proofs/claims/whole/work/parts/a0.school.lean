/-! The call school -/
/-- what school needs of the state before it -/
def Bs (t : zT) (m : zM) (s : Nat) (a1 : Nat) (a2 : Nat) (a3 : Nat) (len : Nat) : Prop := (Lay t m) ∧ (isSch s) ∧ (gR m 1 3 = s) ∧ (gR m 2 4 = 25 - s) ∧ (PR t m a1 a2 a3 len) ∧ (a1 < tN t ∧ a2 < tN t ∧ a3 < tN t) ∧ (gR m 75 21 = 0 ∨ ∃ kk kw kl, KR t m kk kw kl ∧ kw ≠ a1 ∧ kw ≠ a2 ∧ kw ≠ a3 ∧ kl ≠ a1 ∧ kl ≠ a2 ∧ kl ≠ a3)
theorem Bs.lay {t : zT} {m : zM} {s : Nat} {a1 : Nat} {a2 : Nat} {a3 : Nat} {len : Nat} (h_ : Bs t m s a1 a2 a3 len) : Lay t m := h_.1
theorem Bs.sch {t : zT} {m : zM} {s : Nat} {a1 : Nat} {a2 : Nat} {a3 : Nat} {len : Nat} (h_ : Bs t m s a1 a2 a3 len) : isSch s := h_.2.1
theorem Bs.x3 {t : zT} {m : zM} {s : Nat} {a1 : Nat} {a2 : Nat} {a3 : Nat} {len : Nat} (h_ : Bs t m s a1 a2 a3 len) : gR m 1 3 = s := h_.2.2.1
theorem Bs.into {t : zT} {m : zM} {s : Nat} {a1 : Nat} {a2 : Nat} {a3 : Nat} {len : Nat} (h_ : Bs t m s a1 a2 a3 len) : gR m 2 4 = 25 - s := h_.2.2.2.1
theorem Bs.pr {t : zT} {m : zM} {s : Nat} {a1 : Nat} {a2 : Nat} {a3 : Nat} {len : Nat} (h_ : Bs t m s a1 a2 a3 len) : PR t m a1 a2 a3 len := h_.2.2.2.2.1
theorem Bs.an {t : zT} {m : zM} {s : Nat} {a1 : Nat} {a2 : Nat} {a3 : Nat} {len : Nat} (h_ : Bs t m s a1 a2 a3 len) : a1 < tN t ∧ a2 < tN t ∧ a3 < tN t := h_.2.2.2.2.2.1
theorem Bs.kn {t : zT} {m : zM} {s : Nat} {a1 : Nat} {a2 : Nat} {a3 : Nat} {len : Nat} (h_ : Bs t m s a1 a2 a3 len) : gR m 75 21 = 0 ∨ ∃ kk kw kl, KR t m kk kw kl ∧ kw ≠ a1 ∧ kw ≠ a2 ∧ kw ≠ a3 ∧ kl ≠ a1 ∧ kl ≠ a2 ∧ kl ≠ a3 := h_.2.2.2.2.2.2
section
variable {t t' t1 t2 : zT} {m m' m1 m2 : zM} {s s2 u w f n : Nat} {S N : Sc} {T : Ts} {X : List Nat} {a1 a2 a3 len : Nat} {r1 r2 x : Int32} {B : Nat → Nat} {R : Nat → Nat → Prop}
theorem Op.bs (o : Op t m s u S T a1 a2 a3 len) : Bs t m s a1 a2 a3 len := ⟨o.co.cor.lay, o.co.cor.sch, o.co.x3, o.into, o.pr, o.an, by
  rcases o.kn with h | ⟨kk, kw, kl, K, d1, d2, d3, n1⟩
  · exact Or.inl h
  · exact Or.inr ⟨kk, kw, kl, K, n1⟩⟩
theorem Cl.bs (o : Cl t m a1 a2 a3 len) : Bs t m 21 a1 a2 a3 len := ⟨o.cb.lay, Or.inr rfl, o.cb.x3, o.into, o.pr, o.an, Or.inl o.kn⟩
theorem CO.fr2 (c : CO t m s S T) (f : Fr X m m') (hX : ∀ a, a ∈ X → a ≠ 20 ∧ ¬ (33 ≤ a ∧ a ≤ 35) ∧ ¬ (s ≤ a ∧ a ≤ s + 11) ∧ ¬ (61 ≤ a ∧ a ≤ 69)) (h13 : gI m' 1 13 = gI m 1 13) : CO t m' s S T := by
  have o : ∀ a, 61 ≤ a → a ≤ 69 → a ∉ X := fun a h1 h2 q => (hX a q).2.2.2 ⟨h1, h2⟩
  have e : ∀ a, 61 ≤ a → a ≤ 69 → ∀ k, gI m' a k = gI m a k := fun a h1 h2 k => f.I (o a h1 h2) k
  have tm := c.tm
  have os : ∀ j, j ≤ 11 → s + j ∉ X := fun j hj q => (hX _ q).2.2.1 ⟨by omega, by omega⟩
  refine ⟨⟨c.cor.lay.fr f, c.cor.sch, c.cor.vs, (f.2 _ _).trans c.cor.told, c.cor.sm.fr f os, c.cor.say.fr f os, c.cor.way.fr f (fun a ha q => ?_)⟩, (f.2 _ _).trans c.x3, ?_, c.law.fr f (o 66 (by decide) (by decide)) (o 67 (by decide) (by decide)), c.wor.fr f (o 68 (by decide) (by decide)) (o 69 (by decide) (by decide)), h13.trans c.rec_⟩
  · have := hX a q
    simp only [List.mem_cons, List.not_mem_nil, or_false] at ha
    omega
  · unfold TmC at tm ⊢
    simp only [e 61 (by decide) (by decide), e 62 (by decide) (by decide), e 63 (by decide) (by decide), e 64 (by decide) (by decide), e 65 (by decide) (by decide)]
    exact tm
theorem RO.fr2 (d : RO t m u S T) (f : Fr X m m') (hX : ∀ a, a ∈ X → a < 77) (h28 : gI m' 75 28 = gI m 75 28) : RO t m' u S T := by
  have o : ∀ a, 77 ≤ a → a ∉ X := fun a h1 q => by have := hX a q; omega
  have e : ∀ a, 77 ≤ a → ∀ k, gI m' a k = gI m a k := fun a h1 k => f.I (o a h1) k
  have u85 := d.rc.rl.u85
  have tm := d.tm
  refine ⟨d.rc.fr f (fun a ha => o a (by omega)) (o 77 (by decide)), d.sy.fr f (fun a ha => o a (by omega)), ?_⟩
  unfold TmR at tm ⊢
  simp only [e 82 (by decide), e 83 (by decide), h28]
  exact tm
theorem KR.fr' {kk kw kl : Nat} (h : KR t m kk kw kl) (f : Fr X m m') : KR t m' kk kw kl := by
  unfold KR at h ⊢
  simp only [f.2]
  exact h
theorem rs4_lay : ∀ q ∈ zR0, ¬ rs4 q.1 q.2.1 := by unfold rs4; decide
theorem rsR_lay : ∀ q ∈ zR0, ¬ rsR q.1 q.2.1 := by unfold rsR; decide
/-- a faulty text changes nothing of an open school -/
theorem op_fault (o : Op t m s u S T a1 a2 a3 len) (f : Fr (1 :: prT (25 - s)) m m1) (h1 : ∀ j, j < 14 → gI m1 1 j = gI m 1 j) (g : Gx t t2 m1 m2 [75] rs4) (h75 : ∀ j, 14 < j → gI m2 75 j = gI m1 75 j) : Op t2 m2 s u S T a1 a2 a3 len := by
  have hs := o.co.cor.sch.ge
  have h85 := o.co.cor.lay.1
  have u85 := o.ro.rc.rl.u85
  have un := o.un
  have gn := g.gn
  have oX : ∀ a, a ∈ 1 :: prT (25 - s) → a = 1 ∨ a = 2 ∨ (16 ≤ a ∧ a ≤ 18) ∨ (25 - s ≤ a ∧ a ≤ 25 - s + 11) := fun a ha => by
    rcases List.mem_cons.mp ha with q | q
    · exact Or.inl q
    · have := prT_m.mp q; omega
  have c1 : CO t m1 s S T := o.co.fr2 f (fun a ha => by have := oX a ha; omega) (h1 13 (by decide))
  have d1 : RO t m1 u S T := o.ro.fr2 f (fun a ha => by have := oX a ha; omega) (f.I (fun q => by have := oX _ q; omega) _)
  have e1 : ∀ a, a ≠ 1 → a ≠ 75 → 33 ≤ a → a < 85 → ∀ k, gI m2 a k = gI m a k := fun a n1 n75 h33 hlt k => (g.gi a (by omega) (o75 n75) k).1.trans (f.I (fun q => by have := oX _ q; omega) k)
  have x12 : gI m2 1 12 = gI m 1 12 := (g.gi 1 (by omega) (by decide) 12).1.trans (h1 12 (by decide))
  have pf := o.pf
  have pk := o.pk
  refine ⟨c1.gx g (fun a ha => by simp only [List.mem_cons, List.not_mem_nil, or_false] at ha; omega) rs4_lay (by unfold rs4; omega) (by unfold rs4; omega), d1.gx g un (fun a ha => by simp only [List.mem_cons, List.not_mem_nil, or_false] at ha; omega) (h75 28 (by decide)) rs4_lay (by unfold rs4; omega) (fun k => by unfold rs4; omega), (g.gr 2 (by omega) 4 (by unfold rs4; omega)).trans ((f.2 _ _).trans o.into), by omega, (o.pr.fr f).gx g (by omega) o.an (fun k => by unfold rs4; omega), ⟨by have := o.an; omega, by have := o.an; omega, by have := o.an; omega⟩, o.au, ?_, ?_, ?_, ?_⟩
  · rcases o.kn with h | ⟨kk, kw, kl, K, d1, d2, d3, n1⟩
    · exact Or.inl ((g.gr 75 (by omega) 21 (by unfold rs4; omega)).trans ((f.2 _ _).trans h))
    · have Kn := K.n
      have Ko := K.o
      have K1 := K.fr' f
      refine Or.inr ⟨kk, kw, kl, ⟨(g.gr 75 (by omega) 21 (by unfold rs4; omega)).trans K1.r21, (g.gk kk (by omega)).1.trans K.k0, (g.gr kk (by omega) 0 (by unfold rs4; omega)).trans K1.r0, (g.gr kk (by omega) 1 (by unfold rs4; omega)).trans K1.r1, (g.gk kw (by omega)).1.trans K.kkw, (g.gk kw (by omega)).2.trans K.lkw, (g.gk kl (by omega)).1.trans K.kkl, (g.gk kl (by omega)).2.trans K.lkl, K.ne, K.o, by omega, by omega, by omega⟩, d1, d2, d3, n1⟩
  · rw [x12]; exact o.les
  · unfold pfOK at pf ⊢
    simp only [e1 48 (by decide) (by decide) (by decide) (by decide), e1 51 (by decide) (by decide) (by decide) (by decide)]
    exact pf
  · unfold plOK PlV at pk ⊢
    simp only [e1 52 (by decide) (by decide) (by decide) (by decide)]
    exact pk
theorem cl_fault (o : Cl t m a1 a2 a3 len) (f : Fr (1 :: prT 4) m m1) (g : Gx t t2 m1 m2 [75] rs4) : Cl t2 m2 a1 a2 a3 len := by
  have h85 := o.cb.lay.1
  have gn := g.gn
  have oX : ∀ a, a ∈ 1 :: prT 4 → a = 1 ∨ a = 2 ∨ (16 ≤ a ∧ a ≤ 18) ∨ (4 ≤ a ∧ a ≤ 4 + 11) := fun a ha => by
    rcases List.mem_cons.mp ha with q | q
    · exact Or.inl q
    · have := prT_m.mp q; omega
  have c1 := o.fr f (fun q => by have := oX _ q; omega) (fun q => by have := oX _ q; omega)
  have e1 : ∀ a, a ≠ 75 → a < 85 → ∀ k, gI m2 a k = gI m1 a k := fun a n75 hlt k => (g.gi a (by omega) (o75 n75) k).1
  have er : ∀ a, a < 85 → ∀ k, ¬ rs4 a k → gR m2 a k = gR m1 a k := fun a ha k h => g.gr a (by omega) k h
  refine ⟨⟨c1.cb.lay.gx g rs4_lay, (er 1 (by decide) 3 (by unfold rs4; omega)).trans c1.cb.x3, fun j hj => (e1 21 (by decide) (by decide) j).trans (c1.cb.z j hj), (er 75 (by decide) 3 (by unfold rs4; omega)).trans c1.cb.r3⟩, (er 2 (by decide) 4 (by unfold rs4; omega)).trans c1.into, (er 20 (by decide) 0 (by unfold rs4; omega)).trans c1.told, c1.pr.gx g (by omega) c1.an (fun k => by unfold rs4; omega), ⟨by have := o.an; omega, by have := o.an; omega, by have := o.an; omega⟩, (er 75 (by decide) 21 (by unfold rs4; omega)).trans c1.kn, (e1 61 (by decide) (by decide) _).trans c1.sd, (e1 61 (by decide) (by decide) _).trans c1.hd, (e1 61 (by decide) (by decide) _).trans c1.mk⟩
end
