/-! What holds between calls -/
def Cl (t : zT) (m : zM) (a1 : Nat) (a2 : Nat) (a3 : Nat) (len : Nat) : Prop := (CB t m) ∧ (gR m 2 4 = 4) ∧ (gR m 20 0 = 21) ∧ (PR t m a1 a2 a3 len) ∧ (a1 < tN t ∧ a2 < tN t ∧ a3 < tN t) ∧ (gR m 75 21 = 0) ∧ (gI m 61 0 = 0) ∧ (gI m 61 1 = -1) ∧ (gI m 61 4 = 0)
theorem Cl.cb {t : zT} {m : zM} {a1 : Nat} {a2 : Nat} {a3 : Nat} {len : Nat} (h_ : Cl t m a1 a2 a3 len) : CB t m := h_.1
theorem Cl.into {t : zT} {m : zM} {a1 : Nat} {a2 : Nat} {a3 : Nat} {len : Nat} (h_ : Cl t m a1 a2 a3 len) : gR m 2 4 = 4 := h_.2.1
theorem Cl.told {t : zT} {m : zM} {a1 : Nat} {a2 : Nat} {a3 : Nat} {len : Nat} (h_ : Cl t m a1 a2 a3 len) : gR m 20 0 = 21 := h_.2.2.1
theorem Cl.pr {t : zT} {m : zM} {a1 : Nat} {a2 : Nat} {a3 : Nat} {len : Nat} (h_ : Cl t m a1 a2 a3 len) : PR t m a1 a2 a3 len := h_.2.2.2.1
theorem Cl.an {t : zT} {m : zM} {a1 : Nat} {a2 : Nat} {a3 : Nat} {len : Nat} (h_ : Cl t m a1 a2 a3 len) : a1 < tN t ∧ a2 < tN t ∧ a3 < tN t := h_.2.2.2.2.1
theorem Cl.kn {t : zT} {m : zM} {a1 : Nat} {a2 : Nat} {a3 : Nat} {len : Nat} (h_ : Cl t m a1 a2 a3 len) : gR m 75 21 = 0 := h_.2.2.2.2.2.1
theorem Cl.sd {t : zT} {m : zM} {a1 : Nat} {a2 : Nat} {a3 : Nat} {len : Nat} (h_ : Cl t m a1 a2 a3 len) : gI m 61 0 = 0 := h_.2.2.2.2.2.2.1
theorem Cl.hd {t : zT} {m : zM} {a1 : Nat} {a2 : Nat} {a3 : Nat} {len : Nat} (h_ : Cl t m a1 a2 a3 len) : gI m 61 1 = -1 := h_.2.2.2.2.2.2.2.1
theorem Cl.mk {t : zT} {m : zM} {a1 : Nat} {a2 : Nat} {a3 : Nat} {len : Nat} (h_ : Cl t m a1 a2 a3 len) : gI m 61 4 = 0 := h_.2.2.2.2.2.2.2.2
def Cmn (m : zM) : Prop := (∃ f B, Tpe m f B) ∧ (gI m 1 15 = gI m 75 13) ∧ (gI m 1 14 = gI m 75 1) ∧ ((gI m 1 14 = 4 ∧ gI m 75 2 = gI m 1 16) ∨ (gI m 1 14 ≠ 4 ∧ gI m 75 2 = -1))
theorem Cmn.tp {m : zM} (h_ : Cmn m) : ∃ f B, Tpe m f B := h_.1
theorem Cmn.fl {m : zM} (h_ : Cmn m) : gI m 1 15 = gI m 75 13 := h_.2.1
theorem Cmn.tr {m : zM} (h_ : Cmn m) : gI m 1 14 = gI m 75 1 := h_.2.2.1
theorem Cmn.wh {m : zM} (h_ : Cmn m) : (gI m 1 14 = 4 ∧ gI m 75 2 = gI m 1 16) ∨ (gI m 1 14 ≠ 4 ∧ gI m 75 2 = -1) := h_.2.2.2
/-- what holds between calls; w: what the rows of both have taken -/
def Inv (t : zT) (m : zM) (w : Nat) : Prop := Cmn m ∧ ((∃ s u S T a1 a2 a3 len, Op t m s u S T a1 a2 a3 len ∧ us m len = w) ∨ ∃ a1 a2 a3 len, Cl t m a1 a2 a3 len ∧ us m len = w)
section
variable {t t' t1 t2 : zT} {m m' m1 m2 : zM} {s u w : Nat} {S : Sc} {T : Ts} {X : List Nat} {a1 a2 a3 len : Nat} {r1 r2 : Int32} {c1 c2 : Nat × Nat}
theorem Cmn.kee (c : Cmn m) (k : Kee m m2) (h : tbl m2) : Cmn m2 := by
  obtain ⟨f, B, T⟩ := c.tp
  refine ⟨⟨f, B, T.f9, (k.k2 1).trans T.cl, k.y6.trans T.rf, fun j hj => by rw [k.k3]; exact T.tc j hj, fun j hj => by rw [k.k76]; exact T.tr j hj⟩, ?_, h.1, Or.inr ⟨h.2.2, h.2.1⟩⟩
  rw [k.x15, k.y13]; exact c.fl
theorem Cl.fr (c : Cl t m a1 a2 a3 len) (f : Fr X m m') (h21 : 21 ∉ X) (h61 : 61 ∉ X) : Cl t m' a1 a2 a3 len := by
  have pr := c.pr
  refine ⟨⟨c.cb.lay.fr f, (f.2 _ _).trans c.cb.x3, fun j hj => (f.I h21 j).trans (c.cb.z j hj), (f.2 _ _).trans c.cb.r3⟩, (f.2 _ _).trans c.into, (f.2 _ _).trans c.told, ?_, c.an, (f.2 _ _).trans c.kn, (f.I h61 _).trans c.sd, (f.I h61 _).trans c.hd, (f.I h61 _).trans c.mk⟩
  unfold PR at pr ⊢
  simp only [f.2]
  exact pr
theorem Op.fr (o : Op t m s u S T a1 a2 a3 len) (f : Fr X m m') (hX : ∀ a, a ∈ X → a = 2 ∨ a = 3 ∨ a = 75 ∨ a = 76 ∨ a = 84) (h28 : gI m' 75 28 = gI m 75 28) : Op t m' s u S T a1 a2 a3 len := by
  have oX : ∀ a, a ≠ 2 → a ≠ 3 → a ≠ 75 → a ≠ 76 → a ≠ 84 → a ∉ X := fun a h1 h2 h3 h4 h5 q => by have := hX a q; omega
  have ei : ∀ a, a ≠ 2 → a ≠ 3 → a ≠ 75 → a ≠ 76 → a ≠ 84 → ∀ k, gI m' a k = gI m a k := fun a h1 h2 h3 h4 h5 k => f.I (oX a h1 h2 h3 h4 h5) k
  have u85 := o.ro.rc.rl.u85
  have c := o.co
  have d := o.ro
  have tmc := c.tm
  have tmr := d.tm
  have les := o.les
  have pf := o.pf
  have pk := o.pk
  refine op_same o ⟨c.cor.fr f (fun a h1 h2 h3 => oX a (by omega) (by omega) (by omega) (by omega) (by omega)), (f.2 _ _).trans c.x3, ?_, c.law.fr f (oX _ (by decide) (by decide) (by decide) (by decide) (by decide)) (oX _ (by decide) (by decide) (by decide) (by decide) (by decide)), c.wor.fr f (oX _ (by decide) (by decide) (by decide) (by decide) (by decide)) (oX _ (by decide) (by decide) (by decide) (by decide) (by decide)), (ei 1 (by decide) (by decide) (by decide) (by decide) (by decide) _).trans c.rec_⟩ ⟨d.rc.fr f (fun a ha => oX a (by omega) (by omega) (by omega) (by omega) (by omega)) (oX _ (by decide) (by decide) (by decide) (by decide) (by decide)), d.sy.fr f (fun a ha => oX a (by omega) (by omega) (by omega) (by omega) (by omega)), ?_⟩ (fun a k => f.2 a k) ?_ ?_ ?_
  · unfold TmC at tmc ⊢
    simp only [ei 61 (by decide) (by decide) (by decide) (by decide) (by decide), ei 62 (by decide) (by decide) (by decide) (by decide) (by decide), ei 63 (by decide) (by decide) (by decide) (by decide) (by decide), ei 64 (by decide) (by decide) (by decide) (by decide) (by decide), ei 65 (by decide) (by decide) (by decide) (by decide) (by decide)]
    exact tmc
  · unfold TmR at tmr ⊢
    simp only [ei 82 (by decide) (by decide) (by decide) (by decide) (by decide), ei 83 (by decide) (by decide) (by decide) (by decide) (by decide), h28]
    exact tmr
  · rw [ei 1 (by decide) (by decide) (by decide) (by decide) (by decide)]; exact les
  · unfold pfOK at pf ⊢
    simp only [ei 48 (by decide) (by decide) (by decide) (by decide) (by decide), ei 51 (by decide) (by decide) (by decide) (by decide) (by decide)]
    exact pf
  · unfold plOK PlV at pk ⊢
    simp only [ei 52 (by decide) (by decide) (by decide) (by decide) (by decide)]
    exact pk
theorem inv_res (c : Cmn m) (h : Res t m s u S len c1 c2 r1 r2 t2 m2) : r1 = r2 ∧ ∃ w', Inv t2 m2 w' ∧ us m len + c1.2 + c2.2 ≤ w' := by
  obtain ⟨e, ⟨T', b1, b2, b3, len', o, hl⟩, k, tb⟩ := h
  exact ⟨e, us m2 len', ⟨c.kee k tb, Or.inl ⟨s, u, S, T', b1, b2, b3, len', o, rfl⟩⟩, hl⟩
theorem inv_cl (c : Cmn m) (o : Cl t m a1 a2 a3 len) (h : Fin m m2 r1 r2) : r1 = r2 ∧ ∃ w', Inv t m2 w' ∧ us m len ≤ w' := by
  obtain ⟨e, m1, q1, q2, t1, t2, t3⟩ := h
  have ei : ∀ a, a ∉ qT → a ∉ rT → ∀ k, gI m2 a k = gI m a k := fun a h1 h2 k => (q2.1.I h2 k).trans (q1.1.I h1 k)
  have e1 : ∀ j, j ≠ 14 → gI m2 1 j = gI m 1 j := fun j hj => (q2.1.I (by decide) j).trans (q1.2 j hj)
  have e75 : ∀ j, j ≠ 0 → j ≠ 1 → j ≠ 2 → j ≠ 19 → gI m2 75 j = gI m 75 j := fun j a b c d => (q2.2 j a b c d).trans (q1.1.I (by decide) j)
  have k : Kee m m2 := ⟨fun k => ei 2 (by decide) (by decide) k, fun k => ei 3 (by decide) (by decide) k, fun k => ei 76 (by decide) (by decide) k, e1 15 (by decide), e1 16 (by decide), e75 6 (by decide) (by decide) (by decide) (by decide), e75 13 (by decide) (by decide) (by decide) (by decide)⟩
  exact ⟨e, us m2 len, ⟨c.kee k ⟨t1, t2, t3⟩, Or.inr ⟨a1, a2, a3, len, (o.fr q1.1 (by decide) (by decide)).fr q2.1 (by decide) (by decide), rfl⟩⟩, by rw [us_e ((q2.1.2 75 21).trans (q1.1.2 75 21))]; exact Nat.le_refl _⟩
/-- rows take no more than this -/
theorem us_max (h : len ≤ 50625) : us m len ≤ 556877 := by
  have hp : pot len ≤ 455625 := by unfold pot; split <;> omega
  by_cases z : gR m 75 21 = 0
  · rw [us_0 z]; omega
  · rw [us_1 z]; omega
theorem Inv.max (i : Inv t m w) : w ≤ 556877 := by
  rcases i with ⟨_, ⟨s, u, S, T, a1, a2, a3, len, o, hw⟩ | ⟨a1, a2, a3, len, o, hw⟩⟩
  · rw [← hw]; exact us_max o.pr.le
  · rw [← hw]; exact us_max o.pr.le
theorem Inv.lay (i : Inv t m w) : Lay t m := by
  rcases i with ⟨_, ⟨s, u, S, T, a1, a2, a3, len, o, hw⟩ | ⟨a1, a2, a3, len, o, hw⟩⟩
  · exact o.co.cor.lay
  · exact o.cb.lay
/-- small changes: the tape, the reference's own numbers, the law's row -/
theorem Inv.fr (i : Inv t m w) (c : Cmn m') (f : Fr X m m') (hX : ∀ a, a ∈ X → a = 2 ∨ a = 3 ∨ a = 75 ∨ a = 76 ∨ a = 84) (h28 : gI m' 75 28 = gI m 75 28) : Inv t m' w := by
  have o : ∀ a, a = 21 ∨ a = 61 → a ∉ X := fun a ha q => by have := hX a q; omega
  rcases i with ⟨_, ⟨s, u, S, T, a1, a2, a3, len, op, hw⟩ | ⟨a1, a2, a3, len, cl, hw⟩⟩
  · exact ⟨c, Or.inl ⟨s, u, S, T, a1, a2, a3, len, op.fr f hX h28, by rw [us_e (f.2 _ _)]; exact hw⟩⟩
  · exact ⟨c, Or.inr ⟨a1, a2, a3, len, cl.fr f (o 21 (Or.inl rfl)) (o 61 (Or.inr rfl)), by rw [us_e (f.2 _ _)]; exact hw⟩⟩
theorem inv_finF {r1 r2 : Int32} (i : Inv t m w) (h : FinF m m2 r1 r2) : r1 = r2 ∧ ∃ w', Inv t m2 w' ∧ w ≤ w' := by
  obtain ⟨e, tp, f, k2, k75⟩ := h
  have c := i.1
  have e1 : ∀ j, gI m2 1 j = gI m 1 j := fun j => f.I (by decide) j
  have c2 : Cmn m2 := by
    refine ⟨tp, ?_, ?_, ?_⟩
    · rw [e1, k75 13 (by decide) (by decide)]; exact c.fl
    · rw [e1, k75 1 (by decide) (by decide)]; exact c.tr
    · rw [e1, e1, k75 2 (by decide) (by decide)]; exact c.wh
  exact ⟨e, w, i.fr c2 f (fun a ha => by simp only [List.mem_cons, List.not_mem_nil, or_false] at ha; omega) (k75 28 (by decide) (by decide)), Nat.le_refl _⟩
/-- thrown := 0 -/
theorem Inv.thr (i : Inv t m w) (v : Int32) : Inv t (pI m 75 0 v) w := by
  have c := i.1
  have f : Fr [75] m (pI m 75 0 v) := Fr.pI Fr.rf (by decide)
  have k75 : ∀ j, j ≠ 0 → gI (pI m 75 0 v) 75 j = gI m 75 j := fun j hj => by rw [gII, if_neg (fun q => hj q.2)]
  have ea : ∀ a, a ≠ 75 → ∀ j, gI (pI m 75 0 v) a j = gI m a j := fun a ha j => by rw [gII, if_neg (fun q => ha q.1)]
  obtain ⟨f0, B, T⟩ := c.tp
  have c2 : Cmn (pI m 75 0 v) := by
    refine ⟨⟨f0, B, T.f9, (ea 2 (by decide) 1).trans T.cl, (k75 6 (by decide)).trans T.rf, fun j hj => by rw [ea 3 (by decide)]; exact T.tc j hj, fun j hj => by rw [ea 76 (by decide)]; exact T.tr j hj⟩, ?_, ?_, ?_⟩
    · rw [ea 1 (by decide), k75 13 (by decide)]; exact c.fl
    · rw [ea 1 (by decide), k75 1 (by decide)]; exact c.tr
    · rw [ea 1 (by decide), ea 1 (by decide), k75 2 (by decide)]; exact c.wh
  exact i.fr c2 f (fun a ha => by simp only [List.mem_cons, List.not_mem_nil, or_false] at ha; omega) (k75 28 (by decide))
end
