/-! Lessons: listen -/
section
variable {t : zT} {m m' m1 m2 : zM} {s u r : Nat} {S : Sc} {T T' : Ts} {P P' : Nat → Bool} {x x2 x3 : Int32} {Tl : List Nat} {mm tt a : Nat} {Fc : Nat → Nat}
theorem lsS_no {st : Option (Nat × Nat)} (h : canB S mm tt = false) : lsS S Fc mm tt st = st := by
  unfold lsS
  rw [h]
  rfl
theorem lsS_ok (v : Vs S) (hm : mm < cM S) (ht : tt < cT S) {st : Option (Nat × Nat)} (h : stOK st) : stOK (lsS S Fc mm tt st) := by
  have m6 := v.m6
  have t8 := v.t8
  have lv := lfV_le (Fc := Fc) (mm := mm) (tt := tt) v
  intro b l e
  unfold lsS at e
  cases hc : canB S mm tt with
  | false => rw [hc] at e; exact h b l e
  | true =>
    rw [hc, if_pos rfl] at e
    cases st with
    | none =>
      simp only [Option.some.injEq, Prod.mk.injEq] at e
      omega
    | some p =>
      obtain ⟨b0, l0⟩ := p
      simp only at e
      split at e
      · simp only [Option.some.injEq, Prod.mk.injEq] at e
        omega
      · exact h b l e
theorem lsI_ok (v : Vs S) (hm : mm < cM S) {st : Option (Nat × Nat)} (h : stOK st) : ∀ n, n ≤ cT S → stOK (lsI S Fc mm n st) := by
  intro n
  induction n with
  | zero => intro _; exact h
  | succ n ih => intro hn; exact lsS_ok v hm (by omega) (ih (by omega))
theorem lsO_ok (v : Vs S) : ∀ n, n ≤ cM S → stOK (lsO S Fc n) := by
  intro n
  induction n with
  | zero => intro _ b l e; cases e
  | succ n ih => intro hn; exact lsI_ok v (by omega) (ih (by omega)) _ (Nat.le_refl _)
theorem sp_bestLesson (c : CO t m s S T) {Q : Int32 → zM → Prop} (hQ : ∀ m', LF S m m' → gI m' 1 12 = gI m 1 12 → Q (blI S (Fct S T)) m') : wX9_bestLesson t m 1 Q := by
  have L := c.cor.lay
  have hs := c.cor.sch
  have v := c.cor.vs
  have m6 := v.m6
  have t8 := v.t8
  unfold wX9_bestLesson
  refine ⟨cM S + 1, ?_⟩
  have key : ∀ dd k : Nat, k + dd = cM S → ∀ m1, LF S m m1 → gI m1 1 12 = gI m 1 12 → ∀ z1 z2 z3 : Int32, z1 = bI1 (lsO S (Fct S T) k) → z2 = bI2 (lsO S (Fct S T) k) → z3 = nI k → wX9_bestLesson_L8 t 1 Q (fun v18 m19 => Q v18 m19) (dd + 1) z1 z2 z3 m1 := by
    intro dd
    induction dd with
    | zero =>
      intro k hk m1 f1 g1 z1 z2 z3 h1 h2 h3
      have e : k = cM S := by omega
      subst e
      have c1 := c.l f1
      rw [h1, h2, h3, wX9_bestLesson_L8, c1.x3, c1.cor.sm.masters]
      exact ⟨lk1 L, ls_k L hs, fun _ => hQ m1 f1 g1, fun hh => absurd (nI_le (Nat.le_refl _) (by omega)) hh⟩
    | succ dd ih =>
      intro k hk m1 f1 g1 z1 z2 z3 h1 h2 h3
      have km : k < cM S := by omega
      have ok := lsO_ok (Fc := Fct S T) v k (by omega)
      have c1 := c.l f1
      rw [h3, wX9_bestLesson_L8, c1.x3, c1.cor.sm.masters]
      refine ⟨lk1 L, ls_k L hs, fun hh => absurd hh (nI_ge (by omega) (by omega)), fun _ => ⟨cT S + 1, ?_⟩⟩
      have key2 : ∀ d2 j : Nat, j + d2 = cT S → ∀ m2, LF S m m2 → gI m2 1 12 = gI m 1 12 → ∀ w1 w2 w4 : Int32, w1 = bI1 (lsI S (Fct S T) k j (lsO S (Fct S T) k)) → w2 = bI2 (lsI S (Fct S T) k j (lsO S (Fct S T) k)) → w4 = nI j → wX9_bestLesson_L22 t 1 (nI k) Q (fun v14 v15 m16 => wX9_bestLesson_L8 t 1 Q (fun v18 m19 => Q v18 m19) (dd + 1) v14 v15 (nI k + 1) m16) (d2 + 1) w1 w2 w4 m2 := by
        intro d2
        induction d2 with
        | zero =>
          intro j hj m2 f2 g2 w1 w2 w4 e1 e2 e4
          have e : j = cT S := by omega
          subst e
          have c2 := c.l f2
          rw [e4, wX9_bestLesson_L22, c2.x3, c2.cor.sm.things]
          exact ⟨lk1 L, ls_k L hs, fun _ => ih (k + 1) (by omega) m2 f2 g2 _ _ _ e1 e2 (nI_1 k), fun hh => absurd (nI_le (Nat.le_refl _) (by omega)) hh⟩
        | succ d2 ih2 =>
          intro j hj m2 f2 g2 w1 w2 w4 e1 e2 e4
          have jt : j < cT S := by omega
          have c2 := c.l f2
          have ok2 := lsI_ok (Fc := Fct S T) v km ok j (by omega)
          rw [e4, wX9_bestLesson_L22, c2.x3, c2.cor.sm.things]
          unfold wX9_bestLesson_J55 wX9_bestLesson_J74
          refine ⟨lk1 L, ls_k L hs, fun hh => absurd hh (nI_ge (by omega) (by omega)), fun _ => cx_canListen c2 km jt (fun hb => ⟨fun h => absurd h (by decide), fun _ => sp_mostLeft c2 km jt (fun m3 f3 g3 => ?_)⟩) (fun hb => ⟨fun _ => ⟨fun _ => ih2 (j + 1) (by omega) m2 f2 g2 _ _ _ ?_ ?_ (nI_1 j), fun hh => absurd (by rw [fa_le]; exact Int.le_refl _) hh⟩, fun h => absurd rfl h⟩)⟩
          · have F3 := f2.tr f3
            have G3 := g3.trans g2
            have lv := lfV_le (Fc := Fct S T) (mm := k) (tt := j) v
            have em : nI k * (8 : Int32) + nI j = nI (8 * k + j) := by rw [show (8 : Int32) = nI 8 from rfl, pk_mul, nI_add, Nat.mul_comm]
            rw [e2, em]
            cases hst : lsI S (Fct S T) k j (lsO S (Fct S T) k) with
            | none =>
              have en : lsI S (Fct S T) k (j + 1) (lsO S (Fct S T) k) = some (8 * k + j, lfV S (Fct S T) k j) := by
                rw [lsI, hst, lsS, hb]; rfl
              refine ⟨fun hh => absurd hh (nI_ge (b := 1000000000) (by omega) (by decide)), fun _ x11 h11 => ih2 (j + 1) (by omega) m3 F3 G3 _ _ _ ?_ ?_ (nI_1 j)⟩
              · rw [en]; exact h11
              · rw [en]; rfl
            | some p =>
              obtain ⟨b0, l0⟩ := p
              have ol := (ok2 b0 l0 hst).2
              show (nI l0 ≤ nI (lfV S (Fct S T) k j) → _) ∧ (¬ nI l0 ≤ nI (lfV S (Fct S T) k j) → _)
              rw [nI_leI (by omega) (by omega)]
              refine ⟨fun hle => ih2 (j + 1) (by omega) m3 F3 G3 _ _ _ ?_ ?_ (nI_1 j), fun hle x11 h11 => ih2 (j + 1) (by omega) m3 F3 G3 _ _ _ ?_ ?_ (nI_1 j)⟩
              all_goals rw [lsI, hst, lsS, hb, if_pos rfl]
              · rw [e1, hst]; simp only [if_neg (show ¬ lfV S (Fct S T) k j < l0 by omega)]
              · simp only [if_neg (show ¬ lfV S (Fct S T) k j < l0 by omega)]
              · simp only [if_pos (show lfV S (Fct S T) k j < l0 by omega)]; exact h11
              · simp only [if_pos (show lfV S (Fct S T) k j < l0 by omega)]; rfl
          · rw [lsI, lsS_no hb]; exact e1
          · rw [lsI, lsS_no hb]; exact e2
      exact key2 (cT S) 0 (by omega) m1 f1 g1 z1 z2 0 h1 h2 rfl
  exact key (cM S) 0 (by omega) m LF.rf rfl (-1) 1000000000 0 rfl rfl rfl
theorem rsp_listen (d : RO t m u S T) {Q : Int32 → zM → Prop} (h0 : blI S (Fct S T) = -1 → ∀ m', RLf u S m m' → Q (-1) (pI (pI m' 75 1 6) 75 2 (-1))) (h1 : blI S (Fct S T) ≠ -1 → ∀ m', RLf u S m m' → Q (blI S (Fct S T)) (pI (pI m' 75 1 0) 75 2 (-1))) : wX12_listen t m 75 Q := by
  have L := d.rc.lay
  have v := d.rc.vs
  have m6 := v.m6
  have t8 := v.t8
  have RLc := d.rc.rl
  have u85 := RLc.u85
  unfold wX12_listen
  refine ⟨lk75 L, fun h => absurd h (u_ne d), fun _ => ⟨cM S + 1, ?_⟩⟩
  have fin : ∀ m1, RLf u S m m1 → (blI S (Fct S T) = -1 → wX12_refused t m1 75 6 (fun r28 m29 => Q r28 m29)) ∧ (¬ blI S (Fct S T) = -1 → wX12_good t m1 75 (blI S (Fct S T)) (fun r26 m27 => Q r26 m27)) := fun m1 f1 => ⟨fun h => rx_refused L (h0 h m1 f1), fun h => rx_good L (h1 h m1 f1)⟩
  have key : ∀ dd k : Nat, k + dd = cM S → ∀ m1, RLf u S m m1 → ∀ z1 z2 z3 : Int32, z1 = bI1 (lsO S (Fct S T) k) → (∀ b l, lsO S (Fct S T) k = some (b, l) → z2 = nI l) → z3 = nI k → wX12_listen_L24 t 75 Q (fun v23 m24 => (v23 = -1 → wX12_refused t m24 75 6 (fun r28 m29 => Q r28 m29)) ∧ (¬ v23 = -1 → wX12_good t m24 75 v23 (fun r26 m27 => Q r26 m27))) (dd + 1) z1 z2 z3 m1 := by
    intro dd
    induction dd with
    | zero =>
      intro k hk m1 f1 z1 z2 z3 h1 h2 h3
      have e : k = cM S := by omega
      subst e
      have d1 := d.l f1
      rw [h1, h3, wX12_listen_L24, d1.rc.told, d1.rc.sm.masters]
      exact ⟨lk75 L, d1.rc.rl.k, fun _ => fin m1 f1, fun hh => absurd (nI_le (Nat.le_refl _) (by omega)) hh⟩
    | succ dd ih =>
      intro k hk m1 f1 z1 z2 z3 h1 h2 h3
      have km : k < cM S := by omega
      have ok := lsO_ok (Fc := Fct S T) v k (by omega)
      have d1 := d.l f1
      rw [h3, wX12_listen_L24, d1.rc.told, d1.rc.sm.masters]
      refine ⟨lk75 L, d1.rc.rl.k, fun hh => absurd hh (nI_ge (by omega) (by omega)), fun _ => ⟨cT S + 1, ?_⟩⟩
      have key2 : ∀ d2 j : Nat, j + d2 = cT S → ∀ m2, RLf u S m m2 → ∀ w1 w2 w4 : Int32, w1 = bI1 (lsI S (Fct S T) k j (lsO S (Fct S T) k)) → (∀ b l, lsI S (Fct S T) k j (lsO S (Fct S T) k) = some (b, l) → w2 = nI l) → w4 = nI j → wX12_listen_L38 t 75 (nI k) Q (fun v19 v20 m21 => wX12_listen_L24 t 75 Q (fun v23 m24 => (v23 = -1 → wX12_refused t m24 75 6 (fun r28 m29 => Q r28 m29)) ∧ (¬ v23 = -1 → wX12_good t m24 75 v23 (fun r26 m27 => Q r26 m27))) (dd + 1) v19 v20 (nI k + 1) m21) (d2 + 1) w1 w2 w4 m2 := by
        intro d2
        induction d2 with
        | zero =>
          intro j hj m2 f2 w1 w2 w4 e1 e2 e4
          have e : j = cT S := by omega
          subst e
          have dd2 := d.l f2
          rw [e4, wX12_listen_L38, dd2.rc.told, dd2.rc.sm.things]
          exact ⟨lk75 L, dd2.rc.rl.k, fun _ => ih (k + 1) (by omega) m2 f2 _ _ _ e1 e2 (nI_1 k), fun hh => absurd (nI_le (Nat.le_refl _) (by omega)) hh⟩
        | succ d2 ih2 =>
          intro j hj m2 f2 w1 w2 w4 e1 e2 e4
          have jt : j < cT S := by omega
          have dd2 := d.l f2
          have ok2 := lsI_ok (Fc := Fct S T) v km ok j (by omega)
          rw [e4, wX12_listen_L38, dd2.rc.told, dd2.rc.sm.things]
          unfold wX12_listen_J86 wX12_listen_J97
          refine ⟨lk75 L, dd2.rc.rl.k, fun hh => absurd hh (nI_ge (by omega) (by omega)), fun _ => rx_canListen dd2 km jt (fun hb => ⟨fun h => absurd h (by decide), fun _ => rsp_leaves dd2 km jt (fun m3 f3 => ?_)⟩) (fun hb => ⟨fun _ => ih2 (j + 1) (by omega) m2 f2 _ _ _ ?_ ?_ (nI_1 j), fun h => absurd rfl h⟩)⟩
          · have F3 := f2.tr f3
            have lv := lfV_le (Fc := Fct S T) (mm := k) (tt := j) v
            have em : (8 : Int32) * nI k + nI j = nI (8 * k + j) := by rw [show (8 : Int32) = nI 8 from rfl, pk_mul, nI_add]
            rw [e1, em]
            cases hst : lsI S (Fct S T) k j (lsO S (Fct S T) k) with
            | none =>
              have en : lsI S (Fct S T) k (j + 1) (lsO S (Fct S T) k) = some (8 * k + j, lfV S (Fct S T) k j) := by
                rw [lsI, hst, lsS, hb]; rfl
              refine ⟨fun _ x17 h17 => ih2 (j + 1) (by omega) m3 F3 _ _ _ ?_ (fun b l e => ?_) (nI_1 j), fun hh => absurd rfl hh⟩
              · rw [en]; exact h17
              · rw [en] at e
                simp only [Option.some.injEq, Prod.mk.injEq] at e
                rw [e.2]
            | some p =>
              obtain ⟨b0, l0⟩ := p
              have ob := ok2 b0 l0 hst
              have eb : bI1 (some (b0, l0)) = nI b0 := rfl
              have nb : ¬ nI b0 = -1 := fun q => absurd (show nI b0 < 0 by rw [q]; decide) (nI_pos (by omega))
              rw [e2 b0 l0 hst, eb, nI_ltI (by omega) (by omega)]
              refine ⟨fun hh => absurd hh nb, fun _ => ⟨fun hlt x17 h17 => ih2 (j + 1) (by omega) m3 F3 _ _ _ ?_ ?_ (nI_1 j), fun hlt => ih2 (j + 1) (by omega) m3 F3 _ _ _ ?_ ?_ (nI_1 j)⟩⟩
              all_goals rw [lsI, hst, lsS, hb, if_pos rfl]
              · simp only [if_pos hlt]; exact h17
              · simp only [if_pos hlt]
                intro b l e
                simp only [Option.some.injEq, Prod.mk.injEq] at e
                rw [e.2]
              · simp only [if_neg hlt]; rfl
              · simp only [if_neg hlt]
                intro b l e
                simp only [Option.some.injEq, Prod.mk.injEq] at e
                rw [e.2]
          · rw [lsI, lsS_no hb]; exact e1
          · rw [lsI, lsS_no hb]; exact e2
      exact key2 (cT S) 0 (by omega) m1 f1 z1 z2 0 h1 h2 rfl
  exact key (cM S) 0 (by omega) _ (RLf.q u85 (thr _)) (-1) 0 0 rfl (fun b l e => by cases e) rfl
theorem blI_dec (v : Vs S) : blI S Fc = -1 ∨ ∃ b, b < 48 ∧ blI S Fc = nI b := by
  have ok := lsO_ok (Fc := Fc) v (cM S) (Nat.le_refl _)
  unfold blI
  cases h : lsO S Fc (cM S) with
  | none => exact Or.inl rfl
  | some p =>
    obtain ⟨b, l⟩ := p
    exact Or.inr ⟨b, (ok b l h).1, rfl⟩
theorem call_listen (c : CO t m s S T) (d : RO t m u S T) (hl : gI m 1 12 = -2 ∨ gI m 1 12 = blI S (Fct S T)) : wX9_listen t m 1 (fun r m1 => wX12_listen t m1 75 (fun r2 m2 => FinL u S T m m2 r r2)) := by
  have L := c.cor.lay
  have v := c.cor.vs
  have u85 := d.rc.rl.u85
  have bd := blI_dec (Fc := Fct S T) v
  have fin : ∀ m1, LF S m m1 → gI m1 1 12 = blI S (Fct S T) → wX9_listen_J30 t m1 1 (fun r m1 => wX12_listen t m1 75 (fun r2 m2 => FinL u S T m m2 r r2)) := by
    intro m1 f1 h12
    unfold wX9_listen_J30
    rw [h12]
    refine ⟨lk1 L, fun h => cx_accept L ?_, fun h => cx_refuse L ?_⟩
    · have f2 := f1.px (Or.inr rfl) 0
      refine rsp_listen (f2.ro d) (fun hn => ?_) (fun hn m4 f4 => fin_L u85 f2 (w14 _ _) (Or.inr h12) f4 (by decide))
      rw [hn] at h; exact absurd h (by decide)
    · have f2 := f1.px (Or.inr rfl) 6
      refine rsp_listen (f2.ro d) (fun hn m4 f4 => fin_L u85 f2 (w14 _ _) (Or.inr h12) f4 (by decide)) (fun hn => ?_)
      rcases bd with q | ⟨b, b1, b2⟩
      · exact absurd q hn
      · rw [b2] at h; exact absurd (nI_pos' (by omega)) h
  unfold wX9_listen
  refine ⟨lk1 L, cx_isOpen c ⟨fun h => absurd h (by decide), fun _ => ⟨fun _ => sp_bestLesson c (fun m1 f1 g1 => fin _ (f1.px (Or.inl rfl) _) ?_), fun hn => fin m LF.rf ?_⟩⟩⟩
  · rw [gII, if_pos ⟨rfl, rfl⟩]
  · rcases hl with q | q
    · exact absurd q hn
    · exact q
end
