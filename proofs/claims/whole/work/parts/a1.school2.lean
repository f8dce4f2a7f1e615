/-! The call school, of both -/
section
variable {t t' t1 t2 : zT} {m m' m1 m2 m3 m4 : zM} {s s2 u w f n : Nat} {S N : Sc} {T : Ts} {X : List Nat} {a1 a2 a3 len : Nat} {r1 r2 x : Int32} {B : Nat → Nat} {R : Nat → Nat → Prop}
theorem op_opened (b : Bs t m s a1 a2 a3 len) (f : Fr (1 :: prT (25 - s)) m m1) (g1 : Gx t t m1 m2 opT opR) (into : gR m2 2 4 = s) (co : CO t m2 (25 - s) S T0) (x12 : gI m2 1 12 = -2) (p48 : gI m2 48 1 = 0) (p52 : gI m2 52 0 = 0) (F : Fr [1] m2 m3) (h3 : ∀ j, j ≠ 14 → gI m3 1 j = gI m2 1 j) (g2 : Gx t t2 m3 m4 [75, 77, 82] rsR) (ro : RO t2 m4 (tN t) S T0) (tn : tN t2 = tN t + 15) : Op t2 m4 (25 - s) (tN t) S T0 a1 a2 a3 len ∧ gR m4 75 21 = gR m 75 21 := by
  have hs := b.sch.ge
  have h85 := b.lay.1
  have an := b.an
  have er : ∀ a, a < tN t → ∀ k, ¬ rsR a k → ¬ opR a k → gR m4 a k = gR m a k := fun a ha k h1 h2 => (g2.gr a ha k h1).trans ((F.2 a k).trans ((g1.gr a ha k h2).trans (f.2 a k)))
  have c3 : CO t m3 (25 - s) S T0 := co.fr2 F (fun a ha => by simp only [List.mem_cons, List.not_mem_nil, or_false] at ha; omega) (h3 13 (by decide))
  have e4 : ∀ a, a < 75 → a ≠ 1 → ∀ k, gI m4 a k = gI m2 a k := fun a ha n1 k => (g2.gi a (by omega) (fun q => by simp only [List.mem_cons, List.not_mem_nil, or_false] at q; omega) k).1.trans (F.I (fun q => by simp only [List.mem_cons, List.not_mem_nil, or_false] at q; omega) k)
  have r21 : gR m4 75 21 = gR m 75 21 := er 75 (by omega) 21 (by unfold rsR; omega) (by unfold opR; omega)
  have e1 : gI m4 1 12 = -2 := (g2.gi 1 (by omega) (by decide) 12).1.trans ((h3 12 (by decide)).trans x12)
  refine ⟨⟨c3.gx g2 (fun a ha => by simp only [List.mem_cons, List.not_mem_nil, or_false] at ha; omega) rsR_lay (by unfold rsR; omega) (by unfold rsR; omega), ro, ?_, by omega, ((((b.pr.fr f).gx g1 (by omega) an (fun k => by unfold opR; omega)).fr F).gx g2 (by omega) an (fun k => by unfold rsR; omega)), ⟨by omega, by omega, by omega⟩, ⟨Or.inl an.1, Or.inl an.2.1, Or.inl an.2.2⟩, ?_, Or.inl e1, Or.inl ((e4 48 (by decide) (by decide) _).trans p48), Or.inl ((e4 52 (by decide) (by decide) _).trans p52)⟩, r21⟩
  · rw [g2.gr 2 (by omega) 4 (by unfold rsR; omega), F.2, into]
    omega
  · rcases b.kn with h | ⟨kk, kw, kl, K, n1⟩
    · exact Or.inl (r21.trans h)
    · have Kn := K.n
      have Ko := K.o
      have gk := g2.gk
      refine Or.inr ⟨kk, kw, kl, ⟨r21.trans K.r21, (gk kk (by omega)).1.trans K.k0, (er kk (by omega) 0 (by unfold rsR; omega) (by unfold opR; omega)).trans K.r0, (er kk (by omega) 1 (by unfold rsR; omega) (by unfold opR; omega)).trans K.r1, (gk kw (by omega)).1.trans K.kkw, (gk kw (by omega)).2.trans K.lkw, (gk kl (by omega)).1.trans K.kkl, (gk kl (by omega)).2.trans K.lkl, K.ne, K.o, by omega, by omega, by omega⟩, Or.inl Kn.1, Or.inl Kn.2.1, Or.inl Kn.2.2, n1⟩
theorem inv_bs (i : Inv t m w) : ∃ s a1 a2 a3 len, Bs t m s a1 a2 a3 len ∧ us m len = w := by
  rcases i with ⟨_, ⟨s, u, S, T, a1, a2, a3, len, o, hw⟩ | ⟨a1, a2, a3, len, o, hw⟩⟩
  · exact ⟨s, a1, a2, a3, len, o.bs, hw⟩
  · exact ⟨21, a1, a2, a3, len, o.bs, hw⟩
theorem inv_fin (i : Inv t m w) (h : Fin m m2 r1 r2) : r1 = r2 ∧ ∃ w', Inv t m2 w' ∧ w ≤ w' := by
  rcases i with ⟨c, ⟨s, u, S, T, a1, a2, a3, len, o, rfl⟩ | ⟨a1, a2, a3, len, o, rfl⟩⟩
  · exact inv_res c (res_fin o h)
  · exact inv_cl c o h
theorem fr1 (h : Fr X m m1) (hX : ∀ a, a ∈ X → a ∈ 1 :: X) : Fr (1 :: X) m m1 := h.mono hX
theorem inv_faulted (i : Inv t m w) (f : ∀ s, gR m 2 4 = 25 - s → isSch s → Fr (1 :: prT (25 - s)) m m1) (h1 : ∀ j, j < 14 → gI m1 1 j = gI m 1 j) (g : Gx t t2 m1 m2 [75] rs4) (h75 : ∀ j, 14 < j → gI m2 75 j = gI m1 75 j) (c : Cmn m2) (r21 : gR m2 75 21 = gR m 75 21) : Inv t2 m2 w := by
  rcases i with ⟨_, ⟨s, u, S, T, a1, a2, a3, len, o, hw⟩ | ⟨a1, a2, a3, len, o, hw⟩⟩
  · exact ⟨c, Or.inl ⟨s, u, S, T, a1, a2, a3, len, op_fault o (f s o.into o.co.cor.sch) h1 g h75, by rw [us_e r21]; exact hw⟩⟩
  · exact ⟨c, Or.inr ⟨a1, a2, a3, len, cl_fault o (f 21 o.into (Or.inr rfl)) g, by rw [us_e r21]; exact hw⟩⟩
theorem st_school (i : Inv t m w) : ∃ P : Int32 → Int32 → zT → zM → Prop, wX9_school t m 1 x (fun r m1 => wX12_school (15, 183) t m1 75 x (fun r2 t2 m2 => P r r2 t2 m2)) ∧ ∀ r r2 t2 m2, P r r2 t2 m2 → r = r2 ∧ ∃ w', Inv t2 m2 w' ∧ w ≤ w' := by
  refine ⟨fun r r2 t2 m2 => r = r2 ∧ ∃ w', Inv t2 m2 w' ∧ w ≤ w', ?_, fun _ _ _ _ h => h⟩
  obtain ⟨s, a1, a2, a3, len, b, hw⟩ := inv_bs i
  obtain ⟨f, B, Tp⟩ := i.1.tp
  have L := b.lay
  have h85 := L.1
  have f9 := Tp.f9
  have hs := b.sch.ge
  have h2 : isSch (25 - s) := by unfold isSch; omega
  have bad : (x < 0 ∨ ¬ x ≤ nI f) → wX9_school_J15 t m 1 (fun r m1 => wX12_school (15, 183) t m1 75 x (fun r2 t2 m2 => r = r2 ∧ ∃ w', Inv t2 m2 w' ∧ w ≤ w')) := by
    intro hb
    refine ⟨lk1 L, lk1 L, ?_⟩
    have F1 : Fr [1] m (pI m 1 14 2) := Fr.pI Fr.rf (by decide)
    refine rsp_school (f := f) (B := B) (L.fr F1) ((F1.I (by decide) _).trans Tp.rf) f9 (fun k hk => by rw [F1.I (by decide)]; exact Tp.tr k hk) (fun _ => ?_) (fun n e t' m' en nf => ?_) (fun n S N k t' m' en nf => ?_)
    · refine inv_fin i ⟨rfl, pI m 1 14 2, QF.rf.why 2, ((QR.rf.p (Or.inl rfl) 0).p (Or.inr (Or.inl rfl)) 2).p (Or.inr (Or.inr (Or.inl rfl))) (-1), ?_, ?_, ?_⟩
      · simp (config := { decide := true }) only [gII, and_false, false_and, if_false, and_self, if_true]
      · simp (config := { decide := true }) only [gII, and_self, if_true]
      · simp (config := { decide := true }) only [gII, and_false, false_and, if_false, and_self, if_true]
    · exfalso
      rw [en, nI_leI (by omega) (by omega)] at hb
      rcases hb with q | q
      · exact nI_pos (by omega) q
      · exact q nf
    · exfalso
      rw [en, nI_leI (by omega) (by omega)] at hb
      rcases hb with q | q
      · exact nI_pos (by omega) q
      · exact q nf
  unfold wX9_school
  rw [lr1_0 L, Tp.cl]
  refine ⟨fun z => bad (Or.inl z), fun z => ⟨lk1 L, lk2 L, fun hx => ?_, fun hx => bad (Or.inr hx)⟩⟩
  obtain ⟨n, n31, en⟩ := x_nat z
  have nf : n ≤ f := by rw [en, nI_leI n31 (by omega)] at hx; exact hx
  have nn : ∀ n', x = nI n' → n' ≤ f → n' = n := fun n' e h => by
    rw [en, nI_eq (by omega) (by omega)] at e
    exact e.symm
  have oP : ∀ a, 75 ≤ a → a ∉ prT (25 - s) := fun a ha q => by have := prT_m.mp q; omega
  have oP' : ∀ a, a = 1 ∨ a = 3 → a ∉ prT (25 - s) := fun a ha q => by have := prT_m.mp q; omega
  rw [en]
  refine sp_read L h2 b.into (by omega) (fun k hk => Tp.tc k (by omega)) (fun e m9 he f9' g21 fl => ?_) (fun S N k m9 he f9' g21 sg V nz => ?_)
  · have L9 := L.fr f9'
    have e8 := fl.2.2
    have q15 : gI (pI m9 1 15 (nI e.1)) 1 15 = nI e.1 := by rw [gII, if_pos ⟨rfl, rfl⟩]
    have q25 : gI (pI m9 1 15 (nI e.1)) 2 5 = nI e.2 := by rw [gII, if_neg (by decide)]; exact fl.2.1
    rw [q15, show (0 : Int32) = nI 0 from rfl, nI_eq (by omega) (by decide), lr1_0 L9, q25]
    refine ⟨fun q => by omega, fun _ => ⟨lk2 L, lk1 L, ?_⟩⟩
    have F1 : Fr [1] m9 (pI (pI (pI m9 1 15 (nI e.1)) 1 16 (nI e.2)) 1 14 4) := Fr.pI (Fr.pI (Fr.pI Fr.rf (by decide)) (by decide)) (by decide)
    have k1 : ∀ j, j < 14 → gI (pI (pI (pI m9 1 15 (nI e.1)) 1 16 (nI e.2)) 1 14 4) 1 j = gI m 1 j := fun j hj => by rw [gII, if_neg (by omega), gII, if_neg (by omega), gII, if_neg (by omega)]; exact f9'.I (oP' 1 (Or.inl rfl)) _
    have k14 : gI (pI (pI (pI m9 1 15 (nI e.1)) 1 16 (nI e.2)) 1 14 4) 1 14 = 4 := by rw [gII, if_pos ⟨rfl, rfl⟩]
    have k15 : gI (pI (pI (pI m9 1 15 (nI e.1)) 1 16 (nI e.2)) 1 14 4) 1 15 = nI e.1 := by rw [gII, if_neg (by decide), gII, if_neg (by decide)]; exact q15
    have k16 : gI (pI (pI (pI m9 1 15 (nI e.1)) 1 16 (nI e.2)) 1 14 4) 1 16 = nI e.2 := by rw [gII, if_neg (by decide), gII, if_pos ⟨rfl, rfl⟩]
    generalize pI (pI (pI m9 1 15 (nI e.1)) 1 16 (nI e.2)) 1 14 4 = mc at *
    have k75 : ∀ a, 75 ≤ a → ∀ j, gI mc a j = gI m a j := fun a ha j => (F1.I (fun q => by simp only [List.mem_cons, List.not_mem_nil, or_false] at q; omega) j).trans (f9'.I (oP a ha) j)
    refine rsp_school (f := f) (B := B) (L9.fr F1) ((k75 75 (by decide) 6).trans Tp.rf) f9 (fun k hk => by rw [k75 76 (by decide)]; exact Tp.tr k hk) (fun hb => ?_) (fun n' e' t2 m2 en' nf' he' eb tn gx h28 q1 q2 q13 q6 => ?_) (fun n' S N k t2 m2 en' nf' he' => ?_)
    · exfalso
      rw [← en] at hb
      rcases hb with q | q
      · exact z q
      · exact q hx
    · have := nn n' (en.trans en') nf'
      subst this
      have ee : e' = e := by rw [he] at he'; cases he'; rfl
      subst ee
      refine ⟨rfl, w, ?_, Nat.le_refl _⟩
      have gi2 : ∀ a, a < 75 → ∀ j, gI m2 a j = gI mc a j := fun a ha j => (gx.gi a (by omega) (o75 (by omega)) j).1
      have c2 : Cmn m2 := by
        refine ⟨⟨0, B, by omega, ?_, q6, fun j hj => absurd hj (Nat.not_lt_zero _), fun j hj => absurd hj (Nat.not_lt_zero _)⟩, ?_, ?_, Or.inl ⟨?_, ?_⟩⟩
        · rw [gi2 2 (by decide), F1.I (by decide)]; exact g21
        · rw [gi2 1 (by decide), k15, q13]
        · rw [gi2 1 (by decide), k14, q1]
        · rw [gi2 1 (by decide), k14]
        · rw [gi2 1 (by decide), k16, q2]
      refine inv_faulted i (fun s' hs' hsch => ?_) k1 gx h28 c2 ?_
      · have : 25 - s' = 25 - s := hs'.symm.trans b.into
        rw [this]
        exact (f9'.mono (fun a ha => List.mem_cons_of_mem _ ha)).tr (F1.mono (fun a ha => by simp only [List.mem_cons, List.not_mem_nil, or_false] at ha; rw [ha]; exact List.mem_cons_self ..))
      · rw [gx.gr 75 (by omega) 21 (by unfold rs4; omega), F1.2, f9'.2]
    · exfalso
      have := nn n' (en.trans en') nf'
      subst this
      rw [he] at he'
      cases he'
  · have L9 := L.fr f9'
    have q15 : gI (pI m9 1 15 0) 1 15 = 0 := by rw [gII, if_pos ⟨rfl, rfl⟩]
    rw [q15]
    refine ⟨fun _ => ?_, fun q => absurd rfl q⟩
    have F1 : Fr [1] m9 (pI m9 1 15 0) := Fr.pI Fr.rf (by decide)
    have oS : ∀ j, j ≤ 11 → 25 - s + j ∉ [1] := fun j hj q => by simp only [List.mem_cons, List.not_mem_nil, or_false] at q; omega
    refine sp_open (L9.fr F1) ((F1.2 _ _).trans ((f9'.2 _ _).trans b.x3)) ((F1.2 _ _).trans ((f9'.2 _ _).trans b.into)) h2 (sg.fr EOc F1 oS) V nz (fun m20 co into gx x1 x12 p48 p52 => ?_)
    rw [co.x3, show gI m20 (25 - s) 0 = nI (cT S) from co.cor.sm.things]
    refine ⟨ls_k L h2, lk1 L, ?_⟩
    have F2 : Fr [1] m20 (pI m20 1 14 0) := Fr.pI Fr.rf (by decide)
    have h3 : ∀ j, j ≠ 14 → gI (pI m20 1 14 0) 1 j = gI m20 1 j := fun j hj => by rw [gII, if_neg (fun q => hj q.2)]
    have h14 : gI (pI m20 1 14 0) 1 14 = 0 := by rw [gII, if_pos ⟨rfl, rfl⟩]
    generalize pI m20 1 14 0 = m21 at *
    have oO : ∀ a, 75 ≤ a → a ∉ opT := fun a ha q => by simp only [opT, List.mem_cons, List.not_mem_nil, or_false] at q; omega
    have k75 : ∀ a, 75 ≤ a → a < 85 → ∀ j, gI m21 a j = gI m a j := fun a ha hlt j => (F2.I (fun q => by simp only [List.mem_cons, List.not_mem_nil, or_false] at q; omega) j).trans ((gx.gi a (by omega) (oO a ha) j).1.trans ((F1.I (fun q => by simp only [List.mem_cons, List.not_mem_nil, or_false] at q; omega) j).trans (f9'.I (oP a ha) j)))
    refine rsp_school (f := f) (B := B) (co.cor.lay.fr F2) ((k75 75 (by decide) (by decide) 6).trans Tp.rf) f9 (fun k hk => by rw [k75 76 (by decide) (by decide)]; exact Tp.tr k hk) (fun hb => ?_) (fun n' e' t2 m2 en' nf' he' => ?_) (fun n' S' N' k' t2 m2 en' nf' he' ro tn g2 q1 q2 q13 q6 => ?_)
    · exfalso
      rw [← en] at hb
      rcases hb with q | q
      · exact z q
      · exact q hx
    · exfalso
      have := nn n' (en.trans en') nf'
      subst this
      rw [he] at he'
      cases he'
    · have := nn n' (en.trans en') nf'
      subst this
      have ee : S' = S := by rw [he] at he'; cases he'; rfl
      subst ee
      have FF : Fr (1 :: prT (25 - s)) m (pI m9 1 15 0) := (f9'.mono (fun a ha => List.mem_cons_of_mem _ ha)).tr (F1.mono (fun a ha => by simp only [List.mem_cons, List.not_mem_nil, or_false] at ha; rw [ha]; exact List.mem_cons_self ..))
      obtain ⟨op, r21⟩ := op_opened b FF gx into co x12 p48 p52 F2 h3 g2 ro tn
      refine ⟨rfl, w, ⟨?_, Or.inl ⟨25 - s, tN t, S', T0, a1, a2, a3, len, op, by rw [us_e r21]; exact hw⟩⟩, Nat.le_refl _⟩
      have gi2 : ∀ a, a < 75 → ∀ j, gI m2 a j = gI m21 a j := fun a ha j => (g2.gi a (by omega) (fun q => by simp only [List.mem_cons, List.not_mem_nil, or_false] at q; omega) j).1
      have e1 : ∀ j, j ≠ 14 → j ≠ 12 → j ≠ 13 → gI m2 1 j = gI (pI m9 1 15 0) 1 j := fun j j1 j2 j3 => (gi2 1 (by decide) j).trans ((h3 j j1).trans (x1 j j2 j3))
      refine ⟨⟨0, B, by omega, ?_, q6, fun j hj => absurd hj (Nat.not_lt_zero _), fun j hj => absurd hj (Nat.not_lt_zero _)⟩, ?_, ?_, Or.inr ⟨?_, q2⟩⟩
      · rw [gi2 2 (by decide), F2.I (by decide), (gx.gi 2 (by omega) (by decide) 1).1, F1.I (by decide)]; exact g21
      · rw [e1 15 (by decide) (by decide) (by decide), q15, q13]
      · rw [gi2 1 (by decide), h14, q1]
      · rw [gi2 1 (by decide), h14]; decide
end
