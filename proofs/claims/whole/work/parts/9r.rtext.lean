/-! The reference reads a whole text -/
section
variable {t : zT} {m m' m1 m2 : zM} {B : Nat → Nat} {n a b c s u : Nat} {k : Tk} {x y : Int32} {z : Int64} {N S : Sc} {e : Er} {Q : zM → Prop}
theorem rsp_hears {M : Nat} (hM : ∀ k y, pKn N 1 k = .inr y → y < M) (M6 : M ≤ 6) {K : Int32 → zM → Prop} : ∀ (f set : Nat) (k : Tk) (m : zM), f ≤ 7 → c6 set = 7 - f → set < 2 ^ M → RP t m B n u N k → (∀ r e m', pHr B n N f set k = .inl e → RF m m' → RDd t m' u e → K r m') → (∀ q m', pHr B n N f set k = .inr q → RF m m' → RP t m' B n u N q.2 → K (nI q.1) m') → wX12_readChild_L29 t 75 z Q K (f + 1) (nI set) 1 m := by
  have pM : (2 : Nat) ^ M ≤ 2 ^ 6 := Nat.pow_le_pow_right (by decide) M6
  intro f
  induction f with
  | zero =>
    intro set k m f6 hc hs P h0 h1
    have := c6_6 set
    omega
  | succ f ih =>
    intro set k m f6 hc hs P h0 h1
    have L := P.rb.lay
    have stop : ∀ (x : Int32) (m' : zM), K x m' → wX12_readChild_L29 t 75 z Q K (f + 1) x 0 m' := by
      intro x m' hK
      rw [wX12_readChild_L29]
      exact ⟨fun _ => hK, fun w => absurd rfl w⟩
    have dead : ∀ x y e m', RDd t m' u e → (∀ r, K r m') → wX12_readChild_J63 t m' 75 z x y Q (wX12_readChild_L29 t 75 z Q K (f + 1)) := fun x y e m' D h => ⟨lk75 L, rd_go D (fun x20 _ => rd_eatsSign D (stop x20 m' (h _)))⟩
    rw [wX12_readChild_L29]
    refine ⟨fun w => absurd w (by decide), fun _ => ⟨lk75 L, fun w => absurd w P.s5, fun _ => ?_⟩⟩
    refine rsp_known P (s := 1) rfl (by decide) (fun r e m' he f' d => ?_) (fun v hv => ?_)
    · have hK : ∀ r, K r m' := fun r => h0 r e m' (bd_l he) f' d
      refine ⟨fun w => q1 (rd_flaw d (dead _ _ e m' d hK)), fun w => q0 (dead _ _ e m' d hK)⟩
    · have v6 := hM _ _ hv
      have k1 := (pKn_i hv).1
      unfold wX12_has
      rw [nI_bit1 (by omega) (by omega), show (bI (set.testBit v) = 1 ↔ set.testBit v = true) by cases set.testBit v <;> decide]
      refine ⟨fun w => q1 (rsp_flaw P (c := 3) rfl (fun m' f' d => dead _ _ _ m' d (fun r => h0 r _ m' ((bd_r hv).trans (if_pos w)) f' d))), fun w => q0 ⟨lk75 L, rsp_go P (by omega) (fun m19 f19 P19 x20 hx => ?_)⟩⟩
      rw [hx, nI_or2 (by omega)]
      have base : pHr B n N (f + 1) set k = if (adv B n k).1 = 4 then pHr B n N f (set ||| 2 ^ v) (adv B n (adv B n k)) else .inr (set ||| 2 ^ v, adv B n k) := (bd_r hv).trans (if_neg w)
      refine rsp_eatsSign P19 (s := 4) (Or.inr ⟨rfl, rfl⟩) (fun m22 h4 f22 P22 => ?_) (fun h4 => stop _ m19 (h1 _ m19 (base.trans (if_neg h4)) f19 P19))
      have eq := base.trans (if_pos h4)
      refine ih (set ||| 2 ^ v) _ m22 (by omega) ?_ (Nat.or_lt_two_pow hs (Nat.pow_lt_pow_right (by decide) v6)) P22 (fun r e m' he f' d => h0 r e m' (eq.trans he) (f19.tr (f22.tr f')) d) (fun q m' hq f' p => h1 q m' (eq.trans hq) (f19.tr (f22.tr f')) p)
      have wf : set.testBit v = false := by
        cases q : set.testBit v with
        | true => exact absurd q w
        | false => rfl
      rw [c6_or set (by omega) v (by omega) wf, hc]
      omega
theorem rsp_readChild (C : RQ t m B n u S N k) (hk : k.1 ≠ 5) (h0 : ∀ e m', pChild B n S N k = .inl e → RwF u m m' → RDd t m' u e → Q m') (h1 : ∀ S' N' k' m', pChild B n S N k = .inr (S', N', k') → RwF u m m' → RQ t m' B n u S' N' k' → Q m') : wX12_readChild t m 75 Q := by
  have V := C.vq
  have P := C.rp
  have L := P.rb.lay
  have R := P.rb.rl
  have hu := R.u85
  have nc := V.nc
  have t8 := V.t8
  have m6 := V.m6
  have dJ : ∀ e m1 y x, RDd t m1 u e → Q m1 → wX12_readChild_J85 t m1 75 y x Q := fun e m1 y x D h => ⟨lk75 L, fun _ => h, fun w => absurd D.s5 w⟩
  have dL : ∀ e m1 y, RDd t m1 u e → Q m1 → ∃ n35, wX12_readChild_L29 t 75 y Q (fun v25 m26 => wX12_readChild_J85 t m26 75 y v25 Q) n35 0 1 m1 := by
    intro e m1 y D h
    refine ⟨0 + 1, ?_⟩
    rw [wX12_readChild_L29]
    exact ⟨fun _ => dJ e m1 y _ D h, fun _ => ⟨lk75 L, fun _ => dJ e m1 y _ D h, fun w => absurd D.s5 w⟩⟩
  unfold wX12_readChild
  rw [P.rb.rd, show gI m u 4 = nI (cCh S) from C.sg.1 8 (by decide)]
  refine ⟨lk75 L, R.k, rsp_begins P hk rfl rfl V.ch5 (by decide) (fun e m' he f d => rd_readFresh d (fun y => rd_needs d (dL e m' y d (h0 e m' (bd_l he) f.wd d)))) (fun m4 hm f4 P4 => ?_)⟩
  refine rsp_readFresh P4 (fun y e m' he f d => rd_needs d (dL e m' y d (h0 e m' ((bd_r hm).trans (bd_l he)) (f4.tr f).wd d))) (fun w m6_ hw w40 f6 P6 => ?_)
  refine rsp_needs P6 (by decide) zw_16 (by decide) (fun e m' he f d => dL e m' _ d (h0 e m' ((bd_r hm).trans ((bd_r hw).trans (bd_l he))) (f4.tr (f6.tr f)).wd d)) (fun m8 hp f8 P8 => ?_)
  have F8 : RF m m8 := f4.tr (f6.tr f8)
  have base : ∀ r, pHr B n N 7 0 (adv B n (adv B n (adv B n k))) = r → pChild B n S N k = bd r fun q => .inr (stS (stS S 17 (cCh S) q.1) 16 0 (cCh S + 1), aN N w 2 (cCh S), q.2) := fun r hr => by rw [← hr]; exact (bd_r hm).trans ((bd_r hw).trans (bd_r hp))
  have c8 := pMn_i hm
  refine ⟨7 + 1, rsp_hears (N := N) (M := cM S) (fun k y e => pKn_1 V e) m6 7 0 _ m8 (Nat.le_refl _) (by decide) (Nat.two_pow_pos _) P8 (fun r e m' he f d => dJ e m' _ r d (h0 e m' (base _ he) (F8.tr f).wd d)) (fun q m10 hq f10 P10 => ⟨lk75 L, fun w => absurd w P10.s5, fun _ => ?_⟩)⟩
  have S10 := C.sg.rF (F8.tr f10) hu
  rw [P10.rb.rd, show gI m10 u 4 = nI (cCh S) from S10.1 8 (by decide)]
  refine ⟨R.k, rsp_names P10 S10 (by omega) rfl w40 (s := 2) rfl (by decide) rfl (fun m19 f19 P19 S19 => ?_)⟩
  have R19 := P19.rb.rl
  rw [P19.rb.rd, R19.r4, R19.l4, show gI m19 u 4 = nI (cCh S) from S19.1 8 (by decide), nI_cl (show cCh S < 2 ^ 31 by omega)]
  have w0 : gI (pI m19 (u + 4) (cCh S) (nI q.1)) u 4 = nI (cCh S) := by rw [gII, if_neg (by omega)]; exact S19.1 8 (by decide)
  rw [w0, nI_1]
  have eq : pChild B n S N k = .inr _ := base _ hq
  have PP := (P19.out (j := 4) (by decide) (i := cCh S) (fun h => absurd h (by decide)) (nI q.1)).out (j := 0) (by decide) (i := 4) (fun _ => by decide) (nI (cCh S + 1))
  have SS := (S19.out EOr (j := 10) (k := cCh S) (by decide) (Nat.le_refl _) (nI q.1)).chd EOr (d := q.1) (by rw [gII, if_pos ⟨rfl, rfl⟩])
  exact ⟨R.k, R19.k4, vp_nI (by omega) (by decide), h1 _ _ _ _ eq ((((F8.tr f10).wd.tr f19).pw hu (j := 4) (by decide) _ _).pw hu (j := 0) (by decide) _ _) ⟨PP, SS, (pChild_ok V P.ok eq).1⟩⟩
theorem rsp_readLine (C : RQ t m B n u S N k) (h0 : ∀ e m', pLine B n S N k = .inl e → RwF u m m' → RDd t m' u e → Q m') (h1 : ∀ S' N' k' m', pLine B n S N k = .inr (S', N', k') → RwF u m m' → RQ t m' B n u S' N' k' → Q m') : wX12_readLine t m 75 Q := by
  have P := C.rp
  have L := P.rb.lay
  unfold pLine at h0 h1
  unfold wX12_readLine
  refine ⟨lk75 L, rsp_isWord P (by decide) zw_1 (by decide) (fun q => q1 (rsp_readThing C (isW_5 q) (fun e m' he => h0 e m' (by rw [q]; exact he)) (fun S' N' k' m' he => h1 S' N' k' m' (by rw [q]; exact he)))) (fun w1 => q0 ?_)⟩
  rw [w1] at h0 h1
  refine rsp_isWord P (by decide) zw_2 (by decide) (fun q => q1 (rsp_readFollows C (isW_5 q) (fun e m' he => h0 e m' (by rw [q]; exact he)) (fun S' N' k' m' he => h1 S' N' k' m' (by rw [q]; exact he)))) (fun w2 => q0 ?_)
  rw [w2] at h0 h1
  refine rsp_isWord P (by decide) zw_3 (by decide) (fun q => q1 (rsp_readMaster C (isW_5 q) (fun e m' he => h0 e m' (by rw [q]; exact he)) (fun S' N' k' m' he => h1 S' N' k' m' (by rw [q]; exact he)))) (fun w3 => q0 ?_)
  rw [w3] at h0 h1
  refine rsp_isWord P (by decide) zw_4 (by decide) (fun q => q1 (rsp_readLaw C (isW_5 q) (fun e m' he => h0 e m' (by rw [q]; exact he)) (fun S' N' k' m' he => h1 S' N' k' m' (by rw [q]; exact he)))) (fun w4 => q0 ?_)
  rw [w4] at h0 h1
  refine rsp_isWord P (by decide) zw_5 (by decide) (fun q => q1 (rsp_readSays C (isW_5 q) (fun e m' he => h0 e m' (by rw [q]; exact he)) (fun S' N' k' m' he => h1 S' N' k' m' (by rw [q]; exact he)))) (fun w5 => q0 ?_)
  rw [w5] at h0 h1
  refine rsp_isWord P (by decide) zw_6 (by decide) (fun q => q1 (rsp_readChild C (isW_5 q) (fun e m' he => h0 e m' (by rw [q]; exact he)) (fun S' N' k' m' he => h1 S' N' k' m' (by rw [q]; exact he)))) (fun w6 => q0 ?_)
  rw [w6] at h0 h1
  refine rsp_isWord P (by decide) zw_7 (by decide) (fun q => q1 (rsp_readTrial C (isW_5 q) (fun e m' he => h0 e m' (by rw [q]; exact he)) (fun S' N' k' m' he => h1 S' N' k' m' (by rw [q]; exact he)))) (fun w7 => q0 ?_)
  rw [w7] at h0
  exact rsp_flaw P (c := 1) rfl (fun m' f d => h0 _ m' rfl f.wd d)
theorem rsp_lines {K : zM → Prop} : ∀ (f x : Nat) (S N : Sc) (k : Tk) (m : zM), f + x = 499 → 2 * x + 1 ≤ k.2.2.1 → RQ t m B n u S N k → (∀ e m', lnT B n f S N k = .inl e → RwF u m m' → RDd t m' u e → K m') → (∀ S' N' k' m', lnT B n f S N k = .inr (S', N', k') → RwF u m m' → RQ t m' B n u S' N' k' → K m') → wX12_eatsSign t m 75 59 (fun r5 m6 => wX12_readSchool_L2 t 75 Q K (f + 2) r5 m6) := by
  intro f
  induction f with
  | zero =>
    intro x S N k m hf hx C h0 h1
    have := C.rp.ok.nx_
    have := C.rp.n9
    omega
  | succ f ih =>
    intro x S N k m hf hx C h0 h1
    have L := C.rp.rb.lay
    have hu := C.rp.rb.rl.u85
    have stop : ∀ (r : Nat) (m' : zM), K m' → wX12_readSchool_L2 t 75 Q K (r + 1) 0 m' := by
      intro r m' hK
      rw [wX12_readSchool_L2]
      exact ⟨fun _ => hK, fun w => absurd rfl w⟩
    refine rsp_eatsSign C.rp (s := 3) (Or.inl ⟨rfl, rfl⟩) (fun m6 hk f6 P6 => ?_) (fun hk => stop (f + 2) m (h1 S N k m (if_neg hk) RwF.rf C))
    have C6 : RQ t m6 B n u S N (adv B n k) := ⟨P6, C.sg.rF f6 hu, C.vq⟩
    have base : lnT B n (f + 1) S N k = bd (pLine B n S N (adv B n k)) fun q => lnT B n f q.1 q.2.1 q.2.2 := if_pos hk
    rw [wX12_readSchool_L2]
    refine ⟨fun w => absurd w (by decide), fun _ => ⟨lk75 L, rsp_readLine C6 (fun e m' he f' d => rd_eatsSign d (stop (f + 1) m' (h0 e m' (base.trans (bd_l he)) (f6.wd.tr f') d))) (fun S' N' k' m' he f' C' => ?_)⟩⟩
    have eq : lnT B n (f + 1) S N k = lnT B n f S' N' k' := base.trans (bd_r he)
    have ok := (pLine_ok C.vq P6.ok he).2.2
    have nz : (adv B n k).1 ≠ 0 := by
      intro z
      unfold pLine isW at he
      rw [z] at he
      cases he
    have al := adv_lt (B := B) C.rp.ok nz
    exact ih (x + 1) S' N' k' m' (by omega) (by omega) C' (fun e m2 he' f2 g => h0 e m2 (eq.trans he') (f6.wd.tr (f'.tr f2)) g) (fun S2 N2 k2 m2 he' f2 c2 => h1 S2 N2 k2 m2 (eq.trans he') (f6.wd.tr (f'.tr f2)) c2)
theorem rsp_readSchool (C : RQ t m B n u zSc zSc (tkn B n 0)) (h0 : ∀ e m', pAll B n = .inl e → RwF u m m' → RDd t m' u e → Q m') (h1 : ∀ S N k m', pAll B n = .inr (S, N, k) → RwF u m m' → RQ t m' B n u S N k → cT S ≠ 0 → Q m') : wX12_readSchool t m 75 Q := by
  have L := C.rp.rb.lay
  have R := C.rp.rb.rl
  have hu := R.u85
  unfold wX12_readSchool
  have d33 : ∀ e m1, RDd t m1 u e → Q m1 → wX12_readSchool_J33 t m1 75 Q := fun e m1 D h => by
    unfold wX12_readSchool_J33
    rw [D.rb.rd]
    exact ⟨lk75 L, R.k, fun _ => rd_flaw D h, fun _ => h⟩
  have K0 : ∀ e m1, RDd t m1 u e → Q m1 → (tK t 75 = 12 ∧ ((gI m1 75 9 = 1 → wX12_readSchool_J33 t m1 75 Q) ∧ (¬ gI m1 75 9 = 1 → wX12_flaw t m1 75 1 (fun m16 => wX12_readSchool_J33 t m16 75 Q)))) := fun e m1 D h => ⟨lk75 L, fun _ => d33 e m1 D h, fun _ => rd_flaw D (d33 e m1 D h)⟩
  have K1 : ∀ S N k m1, pLines B n 500 zSc zSc (tkn B n 0) = .inr (S, N, k) → RwF u m m1 → RQ t m1 B n u S N k → (tK t 75 = 12 ∧ ((gI m1 75 9 = 1 → wX12_readSchool_J33 t m1 75 Q) ∧ (¬ gI m1 75 9 = 1 → wX12_flaw t m1 75 1 (fun m16 => wX12_readSchool_J33 t m16 75 Q)))) := by
    intro S N k m1 he f C1
    have base : pAll B n = if k.1 = 0 then (if cT S = 0 then .inl (6, k.2.1) else .inr (S, N, k)) else .inl (1, k.2.1) := bd_r he
    have t8 := C1.vq.t8
    rw [C1.rp.tk.kd, (rs_all k.1 (by have := C1.rp.ok.kd; omega)).2.1]
    refine ⟨lk75 L, fun hk => ?_, fun hk => rsp_flaw C1.rp (c := 1) rfl (fun m' f' d => d33 _ m' d (h0 _ m' (base.trans (if_neg hk)) (f.tr f'.wd) d))⟩
    rw [if_pos hk] at base
    unfold wX12_readSchool_J33
    rw [C1.rp.rb.rd, show gI m1 u 0 = nI (cT S) from C1.sg.1 0 (by decide), show (0 : Int32) = nI 0 from rfl, nI_eq (by omega) (by decide)]
    exact ⟨lk75 L, R.k, fun w => rsp_flaw C1.rp (c := 6) rfl (fun m' f' d => h0 _ m' (base.trans (if_pos w)) (f.tr f'.wd) d), fun w => h1 S N k m1 (base.trans (if_neg w)) f C1 w⟩
  refine ⟨499 + 2 + 1, ?_⟩
  rw [wX12_readSchool_L2]
  refine ⟨fun w => absurd w (by decide), fun _ => ⟨lk75 L, rsp_readLine C (fun e m' he f' d => rd_eatsSign d ?_) (fun S' N' k' m' he f' C' => ?_)⟩⟩
  · rw [wX12_readSchool_L2]
    exact ⟨fun _ => K0 e m' d (h0 e m' (bd_l (bd_l he)) f' d), fun w => absurd rfl w⟩
  · have ok := (pLine_ok Vq.z C.rp.ok he).2.2
    have eq : pLines B n 500 zSc zSc (tkn B n 0) = lnT B n 499 S' N' k' := bd_r he
    exact rsp_lines 499 0 S' N' k' m' rfl (by omega) C' (fun e m2 he2 f2 g => K0 e m2 g (h0 e m2 (bd_l (eq.trans he2)) (f'.tr f2) g)) (fun S2 N2 k2 m2 he2 f2 C2 => K1 S2 N2 k2 m2 (eq.trans he2) (f'.tr f2) C2)
end
