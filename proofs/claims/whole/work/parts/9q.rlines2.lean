/-! The reference's lines, and its reading of a whole text -/
section
variable {t : zT} {m m' m1 m2 : zM} {B : Nat → Nat} {n a b c s u : Nat} {k : Tk} {x y : Int32} {z : Int64} {N S : Sc} {e : Er} {Q : zM → Prop}
theorem rsp_readLaw (C : RQ t m B n u S N k) (hk : k.1 ≠ 5) (h0 : ∀ e m', pLaw B n S N k = .inl e → RwF u m m' → RDd t m' u e → Q m') (h1 : ∀ S' N' k' m', pLaw B n S N k = .inr (S', N', k') → RwF u m m' → RQ t m' B n u S' N' k' → Q m') : wX12_readLaw t m 75 Q := by
  have V := C.vq
  have P := C.rp
  have L := P.rb.lay
  have R := P.rb.rl
  have hu := R.u85
  have lw8 := V.lw
  have dJ95 : ∀ e m1 x y, RDd t m1 u e → Q m1 → wX12_readLaw_J95 t m1 75 x y Q := fun e m1 x y D h => ⟨lk75 L, fun _ => h, fun w => absurd D.s5 w⟩
  have dJ74 : ∀ e m1 x, RDd t m1 u e → Q m1 → wX12_readLaw_J74 t m1 75 x Q := fun e m1 x D h => ⟨lk75 L, rd_go D ⟨fun _ => rd_readWhole D (fun r => dJ95 e m1 x r D h), fun _ => dJ95 e m1 x _ D h⟩⟩
  have dJ57 : ∀ e m1 x, RDd t m1 u e → Q m1 → wX12_readLaw_J57 t m1 75 x Q := fun e m1 x D h => ⟨lk75 L, by rw [D.rb.rd]; exact D.rb.rl.k, fun _ => dJ74 e m1 x D h, fun _ => rd_flaw D (dJ74 e m1 x D h)⟩
  refine ⟨lk75 L, rsp_go P hk (fun m3 f3 P3 => ?_)⟩
  have S3 := C.sg.rF f3 hu
  have fin : ∀ j, pLx (adv B n k) = .inr j → wX12_readLaw_J47 t m3 75 (nI (2 ^ j)) Q := by
    intro j hj
    have j3 := (pLx_i hj).2
    have j1 := (pLx_i hj).1
    have hp : 2 ^ j < 2 ^ 31 := Nat.pow_lt_pow_right (by decide) (by omega)
    have e2 : nI (2 ^ j) = (2 : Int32) ↔ j = 1 := by
      rw [show (2 : Int32) = nI (2 ^ 1) from rfl, nI_eq hp (by decide)]
      clear hj hp j1
      rcases (show j = 0 ∨ j = 1 ∨ j = 2 by omega) with rfl | rfl | rfl <;> decide
    unfold wX12_readLaw_J47 wX12_readLaw_J57
    rw [P3.rb.rd, show gI m3 u 6 = nI (cLw S) from S3.1 5 (by decide), lw_and j3]
    refine ⟨fun w => ?_, fun _ => ⟨lk75 L, R.k, fun w => ⟨lk75 L, rsp_go P3 (by omega) (fun m19 f19 P19 => ?_)⟩, fun w => rsp_flaw P3 (c := 3) rfl (fun m' f d => dJ74 _ m' _ d (h0 _ m' ((bd_r hj).trans (if_pos ?_)) (f3.tr f).wd d))⟩⟩
    · exfalso
      rw [show (0 : Int32) = nI 0 from rfl, nI_eq hp (by decide)] at w
      exact Nat.ne_of_gt (Nat.two_pow_pos j) w
    · rw [e2]
      have F19 := f3.tr f19
      refine ⟨fun y => rsp_readWhole P19 (lo := 0) (hi := 8) rfl rfl (by decide) (by decide) (fun r e m' he f d => dJ95 e m' _ r d (h0 e m' ((bd_r hj).trans ((if_neg (by rw [w]; decide)).trans ((if_pos y).trans (bd_l he)))) (F19.tr f).wd d)) (fun v m26 hv f26 P26 => ⟨lk75 L, fun q => absurd q P26.s5, fun _ => ?_⟩), fun y => ⟨lk75 L, fun q => absurd q P19.s5, fun _ => ?_⟩⟩
      · have F26 := F19.tr f26
        have S26 := C.sg.rF F26 hu
        rw [P26.rb.rd, show gI m26 u 6 = nI (cLw S) from S26.1 5 (by decide), fa_or, e2]
        refine ⟨R.k, fun _ => ?_, fun q => absurd y q⟩
        have eq : pLaw B n S N k = .inr _ := (bd_r hj).trans ((if_neg (by rw [w]; decide)).trans ((if_pos y).trans (bd_r hv)))
        have PP := (P26.out (j := 0) (by decide) (i := 6) (fun _ => by decide) (nI (cLw S ||| 2 ^ j))).out (j := 0) (by decide) (i := 7) (fun _ => by decide) (nI v)
        have vq := (pLaw_ok V P.ok eq).1
        subst y
        have SS : SG (pI (pI m26 u 6 (nI (cLw S ||| 2 ^ 1))) u 7 (nI v)) u er or_ (stS (stS S 10 0 (cLw S ||| 2 ^ 1)) 11 0 v) := by
          refine S26.lwr EOr ?_ ?_ (fun i h5 h6 => ?_) (fun i hi q => ?_)
          · rw [gII, if_neg (fun y => absurd y.2 (by decide)), gII, if_pos ⟨rfl, rfl⟩]
          · rw [gII, if_pos ⟨rfl, rfl⟩]
          · rw [gII, if_neg (fun y => h6 y.2), gII, if_neg (fun y => h5 y.2)]
          · have := (EOr.2.2 i hi).1
            rw [gII, if_neg (by omega), gII, if_neg (by omega)]
        exact h1 _ _ _ _ eq ((F26.wd.pw hu (j := 0) (by decide) _ _).pw hu (j := 0) (by decide) _ _) ⟨PP, SS, vq⟩
      · have S19 := C.sg.rF F19 hu
        rw [P19.rb.rd, show gI m19 u 6 = nI (cLw S) from S19.1 5 (by decide), fa_or, e2]
        refine ⟨R.k, fun q => absurd q y, fun _ => ?_⟩
        have eq : pLaw B n S N k = .inr _ := (bd_r hj).trans ((if_neg (by rw [w]; decide)).trans (if_neg y))
        have PP := P19.out (j := 0) (by decide) (i := 6) (fun _ => by decide) (nI (cLw S ||| 2 ^ j))
        exact h1 _ _ _ _ eq (F19.wd.pw hu (j := 0) (by decide) _ _) ⟨PP, S19.law EOr y, (pLaw_ok V P.ok eq).1⟩
    · cases q : (cLw S).testBit j with
      | true => rfl
      | false => exact absurd q w
  refine rsp_isWord P3 (by decide) zw_13 (by decide) (fun q => q1 (fin 0 (by unfold pLx; rw [q]; rfl))) (fun w1 => q0 ?_)
  refine rsp_isWord P3 (by decide) zw_14 (by decide) (fun q => q1 (fin 1 (by unfold pLx; rw [w1, q]; rfl))) (fun w2 => q0 ?_)
  refine rsp_isWord P3 (by decide) zw_15 (by decide) (fun q => q1 (fin 2 (by unfold pLx; rw [w1, w2, q]; rfl))) (fun w3 => q0 ?_)
  refine ⟨fun _ => ⟨lk75 L, rsp_flaw P3 (c := 1) rfl (fun m' f d => dJ57 _ m' _ d (h0 _ m' (bd_l ?_) (f3.tr f).wd d))⟩, fun w => absurd rfl w⟩
  unfold pLx
  rw [w1, w2, w3]
  rfl
theorem rsp_readSays (C : RQ t m B n u S N k) (hk : k.1 ≠ 5) (h0 : ∀ e m', pSays B n S N k = .inl e → RwF u m m' → RDd t m' u e → Q m') (h1 : ∀ S' N' k' m', pSays B n S N k = .inr (S', N', k') → RwF u m m' → RQ t m' B n u S' N' k' → Q m') : wX12_readSays t m 75 Q := by
  have V := C.vq
  have P := C.rp
  have L := P.rb.lay
  have R := P.rb.rl
  have hu := R.u85
  unfold wX12_readSays
  rw [P.rb.rd, show gI m u 3 = nI (cN S) from C.sg.1 7 (by decide)]
  refine ⟨lk75 L, R.k, rsp_begins P hk rfl rfl V.n16 (by decide) (fun e m' he f d => rd_readKnown d (fun r => rd_readKnown d (fun r' => rd_readAnswer d (fun r'' => ⟨fun _ => h0 e m' (bd_l he) f.wd d, fun w => absurd d.s5 w⟩)))) (fun m4 hm f4 P4 => ?_)⟩
  refine rsp_readKnown P4 (s := 1) rfl (by decide) (fun r e m' he f d => rd_readKnown d (fun r' => rd_readAnswer d (fun r'' => ⟨fun _ => h0 e m' ((bd_r hm).trans (bd_l he)) (f4.tr f).wd d, fun w => absurd d.s5 w⟩))) (fun a m6 ha f6 P6 => ?_)
  refine rsp_readKnown P6 (s := 0) rfl (by decide) (fun r e m' he f d => rd_readAnswer d (fun r'' => ⟨fun _ => h0 e m' ((bd_r hm).trans ((bd_r ha).trans (bd_l he))) (f4.tr (f6.tr f)).wd d, fun w => absurd d.s5 w⟩)) (fun b m8 hb f8 P8 => ?_)
  have F8 := f4.tr (f6.tr f8)
  refine rsp_readAnswer P8 V (C.sg.rF F8 hu) (pKn_0 V hb) rfl (fun r e m' he f d => ⟨fun _ => h0 e m' ((bd_r hm).trans ((bd_r ha).trans ((bd_r hb).trans (bd_l he)))) (F8.tr f).wd d, fun w => absurd d.s5 w⟩) (fun v m10 hv f10 P10 => ⟨fun w => absurd w P10.s5, fun _ => ?_⟩)
  have F10 := F8.tr f10
  have S10 := C.sg.rF F10 hu
  have R10 := P10.rb.rl
  have c8 := pMn_i hm
  have e3 : gI m10 u 3 = nI (cN S) := S10.1 7 (by decide)
  rw [P10.rb.rd, R10.r9, R10.r10, R10.r11, R10.l9, R10.l10, R10.l11, e3, nI_cl (show cN S < 2 ^ 31 by omega)]
  have w1 : gI (pI m10 (u + 9) (cN S) (nI a)) u 3 = nI (cN S) := by rw [gII, if_neg (by omega)]; exact e3
  rw [w1, nI_cl (show cN S < 2 ^ 31 by omega)]
  have w2 : gI (pI (pI m10 (u + 9) (cN S) (nI a)) (u + 10) (cN S) (nI b)) u 3 = nI (cN S) := by rw [gII, if_neg (by omega)]; exact w1
  rw [w2, nI_cl (show cN S < 2 ^ 31 by omega)]
  have w3 : gI (pI (pI (pI m10 (u + 9) (cN S) (nI a)) (u + 10) (cN S) (nI b)) (u + 11) (cN S) (nI v)) u 3 = nI (cN S) := by rw [gII, if_neg (by omega)]; exact w2
  rw [w3, nI_1]
  have eq : pSays B n S N k = .inr _ := (bd_r hm).trans ((bd_r ha).trans ((bd_r hb).trans (bd_r hv)))
  have PP := (((P10.out (j := 9) (by decide) (i := cN S) (fun h => absurd h (by decide)) (nI a)).out (j := 10) (by decide) (i := cN S) (fun h => absurd h (by decide)) (nI b)).out (j := 11) (by decide) (i := cN S) (fun h => absurd h (by decide)) (nI v)).out (j := 0) (by decide) (i := 3) (fun _ => by decide) (nI (cN S + 1))
  have SS := (((S10.out EOr (j := 7) (k := cN S) (by decide) (Nat.le_refl _) (nI a)).out EOr (j := 8) (k := cN S) (by decide) (Nat.le_refl _) (nI b)).out EOr (j := 9) (k := cN S) (by decide) (Nat.le_refl _) (nI v)).say EOr (a := a) (b := b) (v := v) (by show gI (pI (pI (pI m10 (u + 9) (cN S) (nI a)) (u + 10) (cN S) (nI b)) (u + 11) (cN S) (nI v)) (u + 9) (cN S) = nI a; rw [gII, if_neg (by omega), gII, if_neg (by omega), gII, if_pos ⟨rfl, rfl⟩]) (by show gI (pI (pI (pI m10 (u + 9) (cN S) (nI a)) (u + 10) (cN S) (nI b)) (u + 11) (cN S) (nI v)) (u + 10) (cN S) = nI b; rw [gII, if_neg (by omega), gII, if_pos ⟨rfl, rfl⟩]) (by rw [gII, if_pos ⟨rfl, rfl⟩])
  exact ⟨R.k, R.k9, vp_nI (by omega) (by decide), R.k10, vp_nI (by omega) (by decide), R.k11, vp_nI (by omega) (by decide), h1 _ _ _ _ eq ((((F10.wd.pw hu (j := 9) (by decide) _ _).pw hu (j := 10) (by decide) _ _).pw hu (j := 11) (by decide) _ _).pw hu (j := 0) (by decide) _ _) ⟨PP, SS, (pSays_ok V P.ok eq).1⟩⟩
theorem rsp_readFollows (C : RQ t m B n u S N k) (hk : k.1 ≠ 5) (h0 : ∀ e m', pFollows B n S N k = .inl e → RwF u m m' → RDd t m' u e → Q m') (h1 : ∀ S' N' k' m', pFollows B n S N k = .inr (S', N', k') → RwF u m m' → RQ t m' B n u S' N' k' → Q m') : wX12_readFollows t m 75 Q := by
  have V := C.vq
  have P := C.rp
  have L := P.rb.lay
  have R := P.rb.rl
  have hu := R.u85
  have t8 := V.t8
  have dJ : ∀ e m1 x y z, RDd t m1 u e → Q m1 → wX12_readFollows_J47 t m1 75 x y z Q := fun e m1 x y z D h => ⟨lk75 L, rd_go D (rd_readAnswer D (fun r => ⟨fun _ => h, fun w => absurd D.s5 w⟩))⟩
  have d4 : ∀ e m1 x y, RDd t m1 u e → Q m1 → wX12_known t m1 75 0 (fun r11 m12 => ((x = r11 → (wX12_flaw t m12 75 3 (fun m31 => (wX12_readFollows_J47 t m31 75 x y r11 Q)))) ∧ (¬ x = r11 → (wX12_readFollows_J47 t m12 75 x y r11 Q)))) := fun e m1 x y D h => rd_known D (fun r => ⟨fun _ => rd_flaw D (dJ e m1 x y r D h), fun _ => dJ e m1 x y r D h⟩)
  unfold wX12_readFollows
  rw [P.rb.rd, show gI m u 1 = nI (cF S) from C.sg.1 3 (by decide)]
  refine ⟨lk75 L, R.k, rsp_begins P hk rfl rfl V.f6 (by decide) (fun e m' he f d => rd_readKnown d (fun r => rd_readAnswer d (fun r' => rd_needsSign d (d4 e m' r r' d (h0 e m' (bd_l he) f.wd d))))) (fun m4 hm f4 P4 => ?_)⟩
  refine rsp_readKnown P4 (s := 0) rfl (by decide) (fun r e m' he f d => rd_readAnswer d (fun r' => rd_needsSign d (d4 e m' r r' d (h0 e m' ((bd_r hm).trans (bd_l he)) (f4.tr f).wd d)))) (fun a m6 ha f6 P6 => ?_)
  have F6 := f4.tr f6
  have a8 := pKn_0 V ha
  refine rsp_readAnswer P6 V (C.sg.rF F6 hu) a8 rfl (fun r e m' he f d => rd_needsSign d (d4 e m' _ r d (h0 e m' ((bd_r hm).trans ((bd_r ha).trans (bd_l he))) (F6.tr f).wd d))) (fun v m8 hv f8 P8 => ?_)
  have F8 := F6.tr f8
  refine rsp_needsSign P8 (fun m' hq f d => d4 _ m' _ _ d (h0 _ m' ((bd_r hm).trans ((bd_r ha).trans ((bd_r hv).trans (if_neg hq)))) (F8.tr f).wd d)) (fun m10 hq f10 P10 => ?_)
  have F10 := F8.tr f10
  have base : pFollows B n S N k = pFollow2 B n S N (adv B n (adv B n (adv B n (adv B n k)))) a v := (bd_r hm).trans ((bd_r ha).trans ((bd_r hv).trans (if_pos hq)))
  refine rsp_known P10 (s := 0) rfl (by decide) (fun r e m' he f d => ⟨fun _ => rd_flaw d (dJ e m' _ _ r d (h0 e m' (base.trans (bd_l he)) (F10.tr f).wd d)), fun _ => dJ e m' _ _ r d (h0 e m' (base.trans (bd_l he)) (F10.tr f).wd d)⟩) (fun b hb => ?_)
  have b8 := pKn_0 V hb
  rw [nI_eq (by omega) (by omega)]
  refine ⟨fun w => rsp_flaw P10 (c := 3) rfl (fun m' f d => dJ _ m' _ _ _ d (h0 _ m' (base.trans ((bd_r hb).trans (if_pos w))) (F10.tr f).wd d)), fun w => ⟨lk75 L, rsp_go P10 (by have := (pKn_i hb).1; omega) (fun m16 f16 P16 => ?_)⟩⟩
  have F16 := F10.tr f16
  refine rsp_readAnswer P16 V (C.sg.rF F16 hu) b8 rfl (fun r e m' he f d => ⟨fun _ => h0 e m' (base.trans ((bd_r hb).trans ((if_neg w).trans (bd_l he)))) (F16.tr f).wd d, fun w => absurd d.s5 w⟩) (fun g m18 hg f18 P18 => ⟨fun w => absurd w P18.s5, fun _ => ?_⟩)
  have F18 := F16.tr f18
  have S18 := C.sg.rF F18 hu
  have R18 := P18.rb.rl
  have c8 := pMn_i hm
  have e1 : gI m18 u 1 = nI (cF S) := S18.1 3 (by decide)
  rw [P18.rb.rd, R18.r5, R18.r6, R18.r7, R18.r8, R18.l5, R18.l6, R18.l7, R18.l8, e1]
  refine ⟨R.k, fun x21 hx => ?_⟩
  rw [hx, nI_cl (show cF S < 2 ^ 31 by omega)]
  have w1 : gI (pI (pI (pI (pI m18 (u + 5) (cF S) (nI a)) (u + 6) (cF S) (nI v)) (u + 7) (cF S) (nI b)) (u + 8) (cF S) (nI g)) u 1 = nI (cF S) := by rw [gII, if_neg (by omega), gII, if_neg (by omega), gII, if_neg (by omega), gII, if_neg (by omega)]; exact e1
  rw [w1, nI_1]
  have eq : pFollows B n S N k = .inr _ := base.trans ((bd_r hb).trans ((if_neg w).trans (bd_r hg)))
  have PP := ((((P18.out (j := 5) (by decide) (i := cF S) (fun h => absurd h (by decide)) (nI a)).out (j := 6) (by decide) (i := cF S) (fun h => absurd h (by decide)) (nI v)).out (j := 7) (by decide) (i := cF S) (fun h => absurd h (by decide)) (nI b)).out (j := 8) (by decide) (i := cF S) (fun h => absurd h (by decide)) (nI g)).out (j := 0) (by decide) (i := 1) (fun _ => by decide) (nI (cF S + 1))
  have SS := ((((S18.out EOr (j := 2) (k := cF S) (by decide) (Nat.le_refl _) (nI a)).out EOr (j := 3) (k := cF S) (by decide) (Nat.le_refl _) (nI v)).out EOr (j := 4) (k := cF S) (by decide) (Nat.le_refl _) (nI b)).out EOr (j := 5) (k := cF S) (by decide) (Nat.le_refl _) (nI g)).fol EOr (a := a) (v := v) (b := b) (u := g) (by show gI (pI (pI (pI (pI m18 (u + 5) (cF S) (nI a)) (u + 6) (cF S) (nI v)) (u + 7) (cF S) (nI b)) (u + 8) (cF S) (nI g)) (u + 5) (cF S) = nI a; rw [gII, if_neg (by omega), gII, if_neg (by omega), gII, if_neg (by omega), gII, if_pos ⟨rfl, rfl⟩]) (by show gI (pI (pI (pI (pI m18 (u + 5) (cF S) (nI a)) (u + 6) (cF S) (nI v)) (u + 7) (cF S) (nI b)) (u + 8) (cF S) (nI g)) (u + 6) (cF S) = nI v; rw [gII, if_neg (by omega), gII, if_neg (by omega), gII, if_pos ⟨rfl, rfl⟩]) (by show gI (pI (pI (pI (pI m18 (u + 5) (cF S) (nI a)) (u + 6) (cF S) (nI v)) (u + 7) (cF S) (nI b)) (u + 8) (cF S) (nI g)) (u + 7) (cF S) = nI b; rw [gII, if_neg (by omega), gII, if_pos ⟨rfl, rfl⟩]) (by rw [gII, if_pos ⟨rfl, rfl⟩])
  exact ⟨R.k5, vp_nI (by omega) (by decide), R.k6, vp_nI (by omega) (by decide), R.k7, vp_nI (by omega) (by decide), R.k8, vp_nI (by omega) (by decide), h1 _ _ _ _ eq (((((F18.wd.pw hu (j := 5) (by decide) _ _).pw hu (j := 6) (by decide) _ _).pw hu (j := 7) (by decide) _ _).pw hu (j := 8) (by decide) _ _).pw hu (j := 0) (by decide) _ _) ⟨PP, SS, (pFollows_ok V P.ok eq).1⟩⟩
end
