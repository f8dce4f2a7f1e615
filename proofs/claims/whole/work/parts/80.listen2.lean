/-! Lessons: left, listen -/
section
variable {t : zT} {m m' m1 m2 : zM} {s u r : Nat} {S : Sc} {T T' : Ts} {P P' : Nat → Bool} {x x2 x3 : Int32} {Tl : List Nat} {mm tt a : Nat} {Fc : Nat → Nat}
/-- the class with one saying more -/
theorem cor_add (c : Cor t m s S) (hm : mm < cM S) (ht : tt < cT S) (ha : a < 4) : Cor t (pI (pI (pI m (s + 8) (cN S) (nI mm)) (s + 9) (cN S) (nI tt)) (s + 10) (cN S) (nI a)) s (addS S mm tt a) ∧ SayM (pI (pI (pI m (s + 8) (cN S) (nI mm)) (s + 9) (cN S) (nI tt)) (s + 10) (cN S) (nI a)) s (addS S mm tt a) (cN S + 1) := by
  have hs := c.sch
  have hs' := hs
  unfold isSch at hs'
  have n16 := c.vs.n16
  have sm := c.sm
  have way := c.way
  have y : SayM (pI (pI (pI m (s + 8) (cN S) (nI mm)) (s + 9) (cN S) (nI tt)) (s + 10) (cN S) (nI a)) s (addS S mm tt a) (cN S + 1) := by
    refine ⟨by omega, fun i hi => ?_, fun i hi => ?_⟩
    · by_cases z : i = cN S
      · subst z
        rw [aS_by0, aS_of0, aS_wh0]
        refine ⟨?_, ?_, ?_⟩
        · rw [gII, if_neg (by omega), gII, if_neg (by omega), gII, if_pos ⟨rfl, rfl⟩]
        · rw [gII, if_neg (by omega), gII, if_pos ⟨rfl, rfl⟩]
        · rw [gII, if_pos ⟨rfl, rfl⟩]
      · rw [aS_by z, aS_of z, aS_wh z]
        have := c.say.tab i (by omega)
        refine ⟨?_, ?_, ?_⟩
        · rw [gII, if_neg (by omega), gII, if_neg (by omega), gII, if_neg (by omega)]; exact this.1
        · rw [gII, if_neg (by omega), gII, if_neg (by omega), gII, if_neg (by omega)]; exact this.2.1
        · rw [gII, if_neg (by omega), gII, if_neg (by omega), gII, if_neg (by omega)]; exact this.2.2
    · by_cases z : i = cN S
      · subst z
        rw [aS_by0, aS_of0, aS_wh0]
        exact ⟨hm, ht, ha⟩
      · rw [aS_by z, aS_of z, aS_wh z]
        exact c.say.bd i (by omega)
  have F : Fr [s + 8, s + 9, s + 10] m (pI (pI (pI m (s + 8) (cN S) (nI mm)) (s + 9) (cN S) (nI tt)) (s + 10) (cN S) (nI a)) := Fr.pI (Fr.pI (Fr.pI Fr.rf (by simp)) (by simp)) (by simp)
  have es : ∀ j, (j ≤ 7 ∨ j = 11) → ∀ k, gI (pI (pI (pI m (s + 8) (cN S) (nI mm)) (s + 9) (cN S) (nI tt)) (s + 10) (cN S) (nI a)) (s + j) k = gI m (s + j) k := fun j hj k => F.I (by simp only [List.mem_cons, List.not_mem_nil, or_false]; omega) k
  have es0 : ∀ k, gI (pI (pI (pI m (s + 8) (cN S) (nI mm)) (s + 9) (cN S) (nI tt)) (s + 10) (cN S) (nI a)) s k = gI m s k := fun k => es 0 (by omega) k
  refine ⟨⟨c.lay.fr F, hs, aS_vs c.vs, (F.2 _ _).trans c.told, ?_, ⟨by show cN S ≤ 17; omega, fun i hi => y.tab i (by have : i < cN S := hi; omega), fun i hi => y.bd i (by have : i < cN S := hi; omega)⟩, ?_⟩, y⟩
  · show SchM _ s S
    unfold SchM at sm ⊢
    simp only [es 1 (by decide), es 2 (by decide), es 3 (by decide), es 4 (by decide), es 5 (by decide), es 6 (by decide), es 7 (by decide), es 11 (by decide), es0]
    exact sm
  · show WayM _ S
    exact way.fr F (fun b hb => by simp only [List.mem_cons, List.not_mem_nil, or_false] at hb ⊢; omega)
theorem sp_mostLeft (c : CO t m s S T) (hm : mm < cM S) (ht : tt < cT S) {Q : Int32 → zM → Prop} (hQ : ∀ m', LF S m m' → gI m' 1 12 = gI m 1 12 → Q (nI (lfV S (Fct S T) mm tt)) m') : wX9_mostLeft t m 1 (nI mm) (nI tt) Q := by
  have L := c.cor.lay
  have hs := c.cor.sch
  have hs' := hs
  unfold isSch at hs'
  have v := c.cor.vs
  have m6 := v.m6
  have t8 := v.t8
  have n16 := v.n16
  have hc := v.cnt
  have a4 := v.a2 tt ht
  unfold wX9_mostLeft
  refine ⟨cA S tt + 1, ?_⟩
  have key : ∀ dd k : Nat, k + dd = cA S tt → ∀ m1, LF S m m1 → gI m1 1 12 = gI m 1 12 → ∀ z3 z4 : Int32, z3 = nI (lfM S (Fct S T) mm tt k) → z4 = nI k → wX9_mostLeft_L5 t 1 (nI mm) (nI tt) Q (fun v16 m17 => Q v16 m17) (dd + 1) z3 z4 m1 := by
    intro dd
    induction dd with
    | zero =>
      intro k hk m1 f1 g1 z3 z4 h3 h4
      have e : k = cA S tt := by omega
      subst e
      have c1 := c.l f1
      have L1 := c1.cor.lay
      rw [h3, h4, wX9_mostLeft_L5, c1.x3]
      simp only [ls_k L1 hs, ls_r1 L1 hs, ls_k1 L1 hs, ls_l1 L1 hs, ls_r3 L1 hs, ls_k3 L1 hs, ls_l3 L1 hs, ls_r6 L1 hs, ls_k6 L1 hs, ls_l6 L1 hs, ls_r7 L1 hs, ls_k7 L1 hs, ls_l7 L1 hs, ls_r8 L1 hs, ls_k8 L1 hs, ls_l8 L1 hs, ls_r9 L1 hs, ls_k9 L1 hs, ls_l9 L1 hs, ls_r11 L1 hs, ls_k11 L1 hs, ls_l11 L1 hs, ls_r15 L1 hs, ls_k15 L1 hs, ls_l15 L1 hs, ls_r16 L1 hs, ls_k16 L1 hs, ls_l16 L1 hs, ls_r17 L1 hs, ls_k17 L1 hs, ls_l17 L1 hs, ls_r19 L1 hs, ls_k19 L1 hs, ls_l19 L1 hs, nI_cl (show tt < 2 ^ 31 by omega), c1.cor.sm.answers tt ht, true_and]
      exact ⟨lk1 L, vp_nI (by omega) (by decide), fun _ => hQ m1 f1 g1, fun hh => absurd (nI_le (Nat.le_refl _) (by omega)) hh⟩
    | succ dd ih =>
      intro k hk m1 f1 g1 z3 z4 h3 h4
      have c1 := c.l f1
      have L1 := c1.cor.lay
      rw [h3, h4, wX9_mostLeft_L5, c1.x3]
      simp only [ls_k L1 hs, ls_r1 L1 hs, ls_k1 L1 hs, ls_l1 L1 hs, ls_r3 L1 hs, ls_k3 L1 hs, ls_l3 L1 hs, ls_r6 L1 hs, ls_k6 L1 hs, ls_l6 L1 hs, ls_r7 L1 hs, ls_k7 L1 hs, ls_l7 L1 hs, ls_r8 L1 hs, ls_k8 L1 hs, ls_l8 L1 hs, ls_r9 L1 hs, ls_k9 L1 hs, ls_l9 L1 hs, ls_r11 L1 hs, ls_k11 L1 hs, ls_l11 L1 hs, ls_r15 L1 hs, ls_k15 L1 hs, ls_l15 L1 hs, ls_r16 L1 hs, ls_k16 L1 hs, ls_l16 L1 hs, ls_r17 L1 hs, ls_k17 L1 hs, ls_l17 L1 hs, ls_r19 L1 hs, ls_k19 L1 hs, ls_l19 L1 hs, nI_cl (show tt < 2 ^ 31 by omega), c1.cor.sm.answers tt ht, true_and]
      refine ⟨lk1 L, vp_nI (by omega) (by decide), fun hh => absurd hh (nI_ge (by omega) (by omega)), fun _ => ?_⟩
      have ka : k < 4 := by omega
      obtain ⟨ca, ya⟩ := cor_add (a := k) c1.cor hm ht ka
      have f2 : LF S m (pI (pI (pI m1 (s + 8) (cN S) (nI mm)) (s + 9) (cN S) (nI tt)) (s + 10) (cN S) (nI k)) := ((f1.ps (by simp only [List.mem_cons, List.not_mem_nil, or_false]; omega) _).ps (by simp only [List.mem_cons, List.not_mem_nil, or_false]; omega) _).ps (by simp only [List.mem_cons, List.not_mem_nil, or_false]; omega) _
      have g2 : gI (pI (pI (pI m1 (s + 8) (cN S) (nI mm)) (s + 9) (cN S) (nI tt)) (s + 10) (cN S) (nI k)) 1 12 = gI m 1 12 := by
        rw [gII, if_neg (by omega), gII, if_neg (by omega), gII, if_neg (by omega)]; exact g1
      have p1 : gI (pI m1 (s + 8) (cN S) (nI mm)) s 14 = nI (cN S) := by rw [gII, if_neg (by omega)]; exact c1.cor.sm.sayings
      have p2 : gI (pI (pI m1 (s + 8) (cN S) (nI mm)) (s + 9) (cN S) (nI tt)) s 14 = nI (cN S) := by rw [gII, if_neg (by omega)]; exact p1
      have p3 : gI (pI (pI (pI m1 (s + 8) (cN S) (nI mm)) (s + 9) (cN S) (nI tt)) (s + 10) (cN S) (nI k)) s 14 = nI (cN S) := by rw [gII, if_neg (by omega)]; exact p2
      have kN := nI_cl (show cN S < 2 ^ 31 by omega)
      have vN : vp_in (nI (cN S)) 17 := vp_nI (by omega) (by decide)
      unfold wX5_withOneMore
      simp only [c1.cor.sm.sayings, ls_k L1 hs, ls_r1 L1 hs, ls_k1 L1 hs, ls_l1 L1 hs, ls_r3 L1 hs, ls_k3 L1 hs, ls_l3 L1 hs, ls_r6 L1 hs, ls_k6 L1 hs, ls_l6 L1 hs, ls_r7 L1 hs, ls_k7 L1 hs, ls_l7 L1 hs, ls_r8 L1 hs, ls_k8 L1 hs, ls_l8 L1 hs, ls_r9 L1 hs, ls_k9 L1 hs, ls_l9 L1 hs, ls_r11 L1 hs, ls_k11 L1 hs, ls_l11 L1 hs, ls_r15 L1 hs, ls_k15 L1 hs, ls_l15 L1 hs, ls_r16 L1 hs, ls_k16 L1 hs, ls_l16 L1 hs, ls_r17 L1 hs, ls_k17 L1 hs, ls_l17 L1 hs, ls_r19 L1 hs, ls_k19 L1 hs, ls_l19 L1 hs, kN, p1, p2, p3, two_bits (show cN S < 29 by omega), true_and]
      refine ⟨fun hh => absurd hh (nI_ge (b := 17) (by omega) (by decide)), fun _ => ⟨vN, vN, vN, ?_⟩⟩
      have c2 := c.l f2
      generalize pI (pI (pI m1 (s + 8) (cN S) (nI mm)) (s + 9) (cN S) (nI tt)) (s + 10) (cN S) (nI k) = ma at ca ya f2 g2 c2 ⊢
      have La := c2.cor.lay
      rw [c2.x3, lr1_1 La, lr1_9 La, c2.cor.sm.laws]
      refine ⟨ls_k L hs, lk19 L, sp_judge (S := addS S mm tt k) (lw := cLw S) La hs (Or.inr (Or.inr (Or.inl rfl))) ca.vs ca.told ca.sm ya ca.way (fun i hi => pre_tb hi) (pre_lt (by omega)) (fun h => h) (fun m3 f3 R3 => ?_)⟩
      have F3 : LF S m m3 := f2.of f3 (by decide)
      have c3 := c.l F3
      have cb : Cor t m3 s (addS S mm tt k) := ca.fr f3 (jT_cor (Or.inr (Or.inr (Or.inl rfl))))
      rw [lr1_9 c3.cor.lay]
      refine sp_keepFacts (S := addS S mm tt k) (hd := thd T 3) (fb := tfb T 3) cb (Or.inr (Or.inr (Or.inl rfl))) c3.x3 c3.tm.hidden c3.tm.facts (tm_hfV c3.tm.val) R3 (fun m4 f4 R4 => ?_)
      have F4 : LF S m m4 := F3.of f4 (by decide)
      have c4 := c.l F4
      have em : gI m4 70 2 = nI (lf1 S (Fct S T) mm tt k) := by
        rw [R4.members]
        congr 1
      have g4 : gI m4 1 12 = gI m 1 12 := (f4.I (by decide) _).trans ((f3.I (by decide) _).trans g2)
      have l1 := lf1_le (S := S) (Fc := Fct S T) (mm := mm) (tt := tt) (a := k)
      have l2 := lfM_le (S := S) (Fc := Fct S T) (mm := mm) (tt := tt) k
      rw [lr1_9 c4.cor.lay, em]
      refine ⟨lk70 L, fun x15 h15 => ih (k + 1) (by omega) m4 F4 g4 _ _ ?_ (nI_1 k)⟩
      rw [h15, lfM]
      by_cases q : lfM S (Fct S T) mm tt k < lf1 S (Fct S T) mm tt k
      · rw [if_pos q, if_pos (nI_lt q (by omega))]
      · rw [if_neg q, if_neg (nI_nlt (by omega) (by omega))]
  exact key (cA S tt) 0 (by omega) m LF.rf rfl 0 0 rfl rfl
theorem rsp_leaves (d : RO t m u S T) (hm : mm < cM S) (ht : tt < cT S) {Q : Int32 → zM → Prop} (hQ : ∀ m', RLf u S m m' → Q (nI (lfV S (Fct S T) mm tt)) m') : wX12_leaves t m 75 (nI mm) (nI tt) Q := by
  have L := d.rc.lay
  have v := d.rc.vs
  have m6 := v.m6
  have t8 := v.t8
  have n16 := v.n16
  have hc := v.cnt
  have a4 := v.a2 tt ht
  have RLc := d.rc.rl
  have u85 := RLc.u85
  have kN := nI_cl (show cN S < 2 ^ 31 by omega)
  have vN : vp_in (nI (cN S)) 17 := vp_nI (by omega) (by decide)
  unfold wX12_leaves
  simp only [d.rc.told, d.rc.sm.sayings, RLc.k, RLc.r1, RLc.k1, RLc.l1, RLc.r2, RLc.k2, RLc.l2, RLc.r3, RLc.k3, RLc.l3, RLc.r4, RLc.k4, RLc.l4, RLc.r5, RLc.k5, RLc.l5, RLc.r6, RLc.k6, RLc.l6, RLc.r7, RLc.k7, RLc.l7, RLc.r8, RLc.k8, RLc.l8, RLc.r9, RLc.k9, RLc.l9, RLc.r10, RLc.k10, RLc.l10, RLc.r11, RLc.k11, RLc.l11, RLc.r12, RLc.k12, RLc.l12, RLc.r13, RLc.k13, RLc.l13, RLc.r14, RLc.k14, RLc.l14, true_and]
  refine ⟨lk75 L, fun y3 hy3 => ?_⟩
  subst hy3
  rw [kN]
  refine ⟨vN, vN, cA S tt + 1, ?_⟩
  have key : ∀ dd k : Nat, k + dd = cA S tt → ∀ m1, RLf u S m m1 → gI m1 (u + 9) (cN S) = nI mm → gI m1 (u + 10) (cN S) = nI tt → ∀ z3 z5 : Int32, z3 = nI (lfM S (Fct S T) mm tt k) → z5 = nI k → wX12_leaves_L36 t 75 (nI tt) (nI (cN S)) Q (fun v18 m19 => Q v18 m19) (dd + 1) z3 z5 m1 := by
    intro dd
    induction dd with
    | zero =>
      intro k hk m1 f1 g1 g2 z3 z5 h3 h5
      have e : k = cA S tt := by omega
      subst e
      have d1 := d.l f1
      have RLd := d1.rc.rl
      rw [h3, h5, wX12_leaves_L36]
      simp only [d1.rc.told, RLd.k, RLd.r1, RLd.k1, RLd.l1, RLd.r2, RLd.k2, RLd.l2, RLd.r3, RLd.k3, RLd.l3, RLd.r4, RLd.k4, RLd.l4, RLd.r5, RLd.k5, RLd.l5, RLd.r6, RLd.k6, RLd.l6, RLd.r7, RLd.k7, RLd.l7, RLd.r8, RLd.k8, RLd.l8, RLd.r9, RLd.k9, RLd.l9, RLd.r10, RLd.k10, RLd.l10, RLd.r11, RLd.k11, RLd.l11, RLd.r12, RLd.k12, RLd.l12, RLd.r13, RLd.k13, RLd.l13, RLd.r14, RLd.k14, RLd.l14, nI_cl (show tt < 2 ^ 31 by omega), d1.rc.sm.answers tt ht, true_and]
      exact ⟨lk75 L, vp_nI (by omega) (by decide), fun _ => hQ m1 f1, fun hh => absurd (nI_le (Nat.le_refl _) (by omega)) hh⟩
    | succ dd ih =>
      intro k hk m1 f1 g1 g2 z3 z5 h3 h5
      have d1 := d.l f1
      have RLd := d1.rc.rl
      rw [h3, h5, wX12_leaves_L36]
      simp only [d1.rc.told, RLd.k, RLd.r1, RLd.k1, RLd.l1, RLd.r2, RLd.k2, RLd.l2, RLd.r3, RLd.k3, RLd.l3, RLd.r4, RLd.k4, RLd.l4, RLd.r5, RLd.k5, RLd.l5, RLd.r6, RLd.k6, RLd.l6, RLd.r7, RLd.k7, RLd.l7, RLd.r8, RLd.k8, RLd.l8, RLd.r9, RLd.k9, RLd.l9, RLd.r10, RLd.k10, RLd.l10, RLd.r11, RLd.k11, RLd.l11, RLd.r12, RLd.k12, RLd.l12, RLd.r13, RLd.k13, RLd.l13, RLd.r14, RLd.k14, RLd.l14, nI_cl (show tt < 2 ^ 31 by omega), d1.rc.sm.answers tt ht, kN, true_and, two_bits (show cN S < 29 by omega)]
      refine ⟨lk75 L, vp_nI (by omega) (by decide), fun hh => absurd hh (nI_ge (by omega) (by omega)), fun _ => ⟨vN, ?_⟩⟩
      have f2 : RLf u S m (pI m1 (u + 11) (cN S) (nI k)) := f1.ps u85 (by decide) (by decide) _
      have d2 := d.l f2
      have w1 : gI (pI m1 (u + 11) (cN S) (nI k)) (u + 9) (cN S) = nI mm := by rw [gII, if_neg (by omega)]; exact g1
      have w2 : gI (pI m1 (u + 11) (cN S) (nI k)) (u + 10) (cN S) = nI tt := by rw [gII, if_neg (by omega)]; exact g2
      have w3 : gI (pI m1 (u + 11) (cN S) (nI k)) (u + 11) (cN S) = nI k := by rw [gII, if_pos ⟨rfl, rfl⟩]
      rw [d2.rc.sm.laws]
      generalize pI m1 (u + 11) (cN S) (nI k) = ma at f2 d2 w1 w2 w3 ⊢
      have ca : RC t ma u (addS S mm tt k) := ⟨d2.rc.lay, d2.rc.rl, aS_vs v, d2.rc.told, d2.rc.sm, d2.rc.ans⟩
      have ya : RSy ma u (addS S mm tt k) (cN S + 1) := by
        refine ⟨by omega, fun i hi => ?_, fun i hi => ?_⟩
        · by_cases z : i = cN S
          · subst z
            rw [aS_by0, aS_of0, aS_wh0]
            exact ⟨w1, w2, w3⟩
          · rw [aS_by z, aS_of z, aS_wh z]
            exact d2.sy.tab i (by omega)
        · by_cases z : i = cN S
          · subst z
            rw [aS_by0, aS_of0, aS_wh0]
            exact ⟨hm, ht, by omega⟩
          · rw [aS_by z, aS_of z, aS_wh z]
            exact d2.sy.bd i (by omega)
      refine rsp_asks (S := addS S mm tt k) (lw := cLw S) (fa := true) (Fc := Fct S T) ca ya (fun i hi => pre_tb hi) (Nat.le_refl _) (pre_lt (by omega)) (fun h => h) (fun _ j hj => ?_) (fun m3 f3 g3 A => ?_)
      · have hj : j < cT S := hj
        exact ⟨d2.tm.fact j (by omega), Fcf_le v hj⟩
      · have f4 : RLf u S m m3 := f2.tr (RLf.q u85 (QR.rf.of f3 (by decide) g3))
        have em : gI m3 75 19 = nI (lf1 S (Fct S T) mm tt k) := A.many
        have l1 := lf1_le (S := S) (Fc := Fct S T) (mm := mm) (tt := tt) (a := k)
        have l2 := lfM_le (S := S) (Fc := Fct S T) (mm := mm) (tt := tt) k
        have o : ∀ j, 9 ≤ j → u + j ∉ [75, 78, 79] := fun j hj => by simp only [List.mem_cons, List.not_mem_nil, or_false]; omega
        have q1 : gI m3 (u + 9) (cN S) = nI mm := (f3.I (o 9 (by decide)) _).trans w1
        have q2 : gI m3 (u + 10) (cN S) = nI tt := (f3.I (o 10 (by decide)) _).trans w2
        unfold wX12_leaves_J96
        rw [em, nI_leI (by omega) (by omega)]
        refine ⟨fun h => ih (k + 1) (by omega) m3 f4 q1 q2 _ _ ?_ (nI_1 k), fun h => ih (k + 1) (by omega) m3 f4 q1 q2 _ _ ?_ (nI_1 k)⟩
        · rw [lfM, if_neg (by omega)]
        · rw [lfM, if_pos (by omega)]
  have f0 : RLf u S m (pI (pI m (u + 9) (cN S) (nI mm)) (u + 10) (cN S) (nI tt)) := (RLf.rf.ps u85 (by decide) (by decide) _).ps u85 (by decide) (by decide) _
  refine key (cA S tt) 0 (by omega) _ f0 ?_ ?_ 0 0 rfl rfl
  · rw [gII, if_neg (by omega), gII, if_pos ⟨rfl, rfl⟩]
  · rw [gII, if_pos ⟨rfl, rfl⟩]
theorem fin_L {w r1 : Int32} (u85 : 85 ≤ u) (f : LF S m m1) (hw : gI m1 1 14 = w) (hl : gI m1 1 12 = gI m 1 12 ∨ gI m1 1 12 = blI S (Fct S T)) (q : RLf u S m1 m2) (h4 : w ≠ 4) : FinL u S T m (pI (pI m2 75 1 w) 75 2 (-1)) r1 r1 := by
  have q2 : RLf u S m1 (pI (pI m2 75 1 w) 75 2 (-1)) := q.tr (RLf.q u85 ((QR.rf.p (Or.inr (Or.inl rfl)) w).p (Or.inr (Or.inr (Or.inl rfl))) (-1)))
  have e : gI (pI (pI m2 75 1 w) 75 2 (-1)) 1 14 = w := (q2.1.I (by simp only [rlT, List.mem_cons, List.not_mem_nil, or_false]; omega) _).trans hw
  refine ⟨rfl, m1, f, q2, hl, ?_, ?_, by rw [e]; exact h4⟩
  · rw [e]; simp (config := { decide := true }) only [gII, and_false, if_false, and_self, if_true]
  · simp (config := { decide := true }) only [gII, and_self, if_true]
theorem call_left (c : CO t m s S T) (d : RO t m u S T) : wX9_left t m 1 x x2 (fun r m1 => wX12_left t m1 75 x x2 (fun r2 m2 => Fin m m2 r r2 ∨ FinL u S T m m2 r r2)) := by
  have L := c.cor.lay
  have u85 := d.rc.rl.u85
  have q1 : QF m (pI m 1 14 1) := QF.rf.why 1
  have d2 := (d.c q1).q (thr _)
  have fr : wX12_left_J21 t (pI (pI m 1 14 1) 75 0 0) 75 (fun r2 m2 => Fin m m2 (-1) r2 ∨ FinL u S T m m2 (-1) r2) := ⟨lk75 L, rx_refused L (Or.inl (fin_raw L q1 (w14 m 1) (thr _) (by decide) _))⟩
  unfold wX9_left wX9_left_J16
  refine ⟨lk1 L, cx_isMaster c (fun a ha ea => ⟨fun h => absurd h (by decide), fun _ => cx_isThing c (fun b hb eb => ⟨fun h => absurd h (by decide), fun _ => ?_⟩) (fun hn => ⟨fun _ => ⟨lk1 L, cx_refuse L ?_⟩, fun h => absurd rfl h⟩)⟩) (fun hn => ⟨fun _ => ⟨lk1 L, cx_refuse L ?_⟩, fun h => absurd rfl h⟩)⟩
  · subst ea eb
    refine cx_canListen c ha hb (fun hb1 => ⟨fun h => absurd h (by decide), fun _ => sp_mostLeft c ha hb (fun m1 f1 g1 => cx_accept L ?_)⟩) (fun hb0 => ⟨fun _ => cx_refuse L ?_, fun h => absurd rfl h⟩)
    · have f2 := f1.px (Or.inr rfl) 0
      have e2 := f2.ro d
      have e3 := e2.q (thr _)
      unfold wX12_left
      refine ⟨lk75 L, rx_isMaster e3 (fun _ _ _ => ⟨fun h => absurd h (by decide), fun _ => rx_isThing e3 (fun _ _ _ => ⟨fun h => absurd h (by decide), fun _ => rx_canListen e3 ha hb (fun _ => ⟨fun h => absurd h (by decide), fun _ => rsp_leaves e3 ha hb (fun m4 f4 => rx_good L (Or.inr (fin_L u85 f2 (w14 _ _) (Or.inl ?_) ((RLf.q u85 (thr _)).tr f4) (by decide))))⟩) (fun h => by rw [hb1] at h; cases h)⟩) (fun h => absurd rfl (h b hb))⟩) (fun h => absurd rfl (h a ha))⟩
      exact g1
    · have p1 : QF m (pI m 1 14 5) := QF.rf.why 5
      have e3 := (d.c p1).q (thr _)
      unfold wX12_left
      exact ⟨lk75 L, rx_isMaster e3 (fun _ _ _ => ⟨fun h => absurd h (by decide), fun _ => rx_isThing e3 (fun _ _ _ => ⟨fun h => absurd h (by decide), fun _ => rx_canListen e3 ha hb (fun h => by rw [hb0] at h; cases h) (fun _ => ⟨fun _ => rx_refused L (Or.inl (fin_raw L p1 (w14 m 5) (thr _) (by decide) _)), fun h => absurd rfl h⟩)⟩) (fun h => absurd rfl (h b hb))⟩) (fun h => absurd rfl (h a ha))⟩
  · unfold wX12_left
    exact ⟨lk75 L, rx_isMaster d2 (fun _ _ _ => ⟨fun h => absurd h (by decide), fun _ => rx_isThing d2 (fun k hk e => absurd e (hn k hk)) (fun _ => ⟨fun _ => fr, fun h => absurd rfl h⟩)⟩) (fun _ => ⟨fun _ => fr, fun h => absurd rfl h⟩)⟩
  · unfold wX12_left
    exact ⟨lk75 L, rx_isMaster d2 (fun k hk e => absurd e (hn k hk)) (fun _ => ⟨fun _ => fr, fun h => absurd rfl h⟩)⟩
end
