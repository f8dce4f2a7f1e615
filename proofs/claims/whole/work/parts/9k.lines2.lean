/-! The class's lines: follows, says, child; all of a text -/
section
variable {t : zT} {m m' m1 m2 : zM} {B : Nat → Nat} {n a b c s : Nat} {k : Tk} {x y : Int32} {N S : Sc} {Q : Int32 → zM → Prop}
theorem PFr.kp (f : PFr m m') {q : Nat} (hq : 4 ≤ q) (i : Nat) : gI m' q i = gI m q i := f.1.I (by simp only [List.mem_cons, List.not_mem_nil, or_false]; omega) i
theorem sp_isAnswerOf (P : PB t m B n k) (hin : gR m 2 4 = s) (hs : isSch s) (V : Vq S N) (sg : SG m s ec oc S) (ha : a < cT S) (hx : x = nI a) (h0 : ∀ e m', pWh 0 (cA S a - 1) k = .inl e → PFr m m' → Fl m' e → Q 0 m') (h1 : ∀ v, pWh 0 (cA S a - 1) k = .inr v → gI m 2 8 = nI v → Q 1 m) : wX3_isAnswerOf t m 2 x Q := by
  unfold wX3_isAnswerOf
  have L := P.lay
  have t8 := V.t8
  have a4 := V.a2 a ha
  rw [hin, ls_r1 L hs, ls_l1 L hs, hx, nI_cl (by omega), show gI m (s + 1) a = nI (cA S a) from sg.2 0 (by decide) a ha, show (1 : Int32) = nI 1 from rfl, pk_sub (by omega)]
  refine ⟨lk2 L, ls_k L hs, ls_k1 L hs, vp_nI (by omega) (by decide), sp_isWhole P (lo := 0) rfl rfl (by decide) (by omega) (fun e m' he f g => ⟨Or.inl rfl, h0 e m' he f g⟩) (fun v hv e8 => ⟨Or.inr rfl, h1 v hv e8⟩)⟩
theorem sp_readSaying (C : PC t m B n s S N (adv B n k)) (T : TO n k) (hm : pMn (cN S) 16 k = .inr ()) (h0 : ∀ e m', pSays B n S N k = .inl e → FrP s m m' → Fl m' e → Q 0 m') (h1 : ∀ S' N' k' m', pSays B n S N k = .inr (S', N', k') → FrP s m m' → PC t m' B n s S' N' k' → Q 1 m') : wX3_readSaying t m 2 Q := by
  unfold wX3_readSaying
  have V := C.vq
  have hs := C.sch
  have h4 : 4 ≤ s := by have := hs.ge; omega
  have c8 := pMn_i hm
  refine ⟨lk2 C.pb.lay, by rw [C.into]; exact ls_k C.pb.lay hs, fun x3 hx3 => ?_⟩
  rw [C.into, show gI m s 14 = nI (cN S) from C.sg.1 7 (by decide)] at hx3
  rw [hx3]
  refine sp_isNameOf C.pb C.nm (s := 1) rfl (by decide) (fun e m' he f g => q0 (h0 e m' ((bd_r hm).trans (bd_l he)) f.p g)) (fun a m5 ha f5 P5 e10 => q1 ?_)
  have in5 : gR m5 2 4 = s := (f5.1.2 _ _).trans C.into
  have S5 := (C.sg.pf EOc f5 h4).out EOc (j := 7) (k := cN S) (by decide) (Nat.le_refl _) (nI a)
  have P5' := P5.out hs (j := 8) (by decide) (cN S) (nI a)
  have N5 := (C.nm.fr f5).out hs (j := 8) (by decide) (cN S) (nI a)
  have F5 : FrP s m (pI m5 (s + 8) (cN S) (nI a)) := f5.p.w h4 (j := 8) (by decide) _ _
  rw [in5, ls_r15 P5.lay hs, ls_l15 P5.lay hs, e10, nI_cl (show cN S < 2 ^ 31 by omega)]
  refine ⟨ls_k P5.lay hs, ls_k15 P5.lay hs, vp_nI (by omega) (by decide), sp_nx P5' (fun m11 f11 P11 => ?_)⟩
  have w1 : gI m11 (s + 8) (cN S) = nI a := by rw [f11.pf.kp (by omega), gII, if_pos ⟨rfl, rfl⟩]
  have F11 := F5.tr f11.pf.p
  refine sp_isNameOf P11 (N5.fr f11.pf) (s := 0) rfl (by decide) (fun e m' he f g => q0 (h0 e m' ((bd_r hm).trans ((bd_r ha).trans (bd_l he))) (F11.tr f.p) g)) (fun b m13 hb f13 P13 e10' => q1 ?_)
  have in13 : gR m13 2 4 = s := (f13.1.2 _ _).trans ((f11.1.2 _ _).trans in5)
  have S13 := ((S5.pf EOc f11.pf h4).pf EOc f13 h4).out EOc (j := 8) (k := cN S) (by decide) (Nat.le_refl _) (nI b)
  have P13' := P13.out hs (j := 9) (by decide) (cN S) (nI b)
  have N13 := ((N5.fr f11.pf).fr f13).out hs (j := 9) (by decide) (cN S) (nI b)
  have F13 : FrP s m (pI m13 (s + 9) (cN S) (nI b)) := (F11.tr f13.p).w h4 (j := 9) (by decide) _ _
  rw [in13, ls_r16 P13.lay hs, ls_l16 P13.lay hs, e10']
  refine ⟨ls_k P13.lay hs, ls_k16 P13.lay hs, vp_nI (by omega) (by decide), sp_nx P13' (fun m19 f19 P19 => ?_)⟩
  have in19 : gR m19 2 4 = s := (f19.1.2 _ _).trans in13
  have w2 : gI m19 (s + 9) (cN S) = nI b := by rw [f19.pf.kp (by omega), gII, if_pos ⟨rfl, rfl⟩]
  have w1' : gI m19 (s + 8) (cN S) = nI a := by rw [f19.pf.kp (by omega), gII, if_neg (by omega), f13.kp (by omega)]; exact w1
  have F19 := F13.tr f19.pf.p
  have S19 := S13.pf EOc f19.pf h4
  have N19 := N13.fr f19.pf
  rw [in19, ls_r16 P19.lay hs, ls_l16 P19.lay hs, w2]
  refine ⟨ls_k P19.lay hs, ls_k16 P19.lay hs, vp_nI (by omega) (by decide), sp_isAnswerOf P19 in19 hs V S19 (pKn_0 V hb) rfl (fun e m' he f g => q0 (h0 e m' ((bd_r hm).trans ((bd_r ha).trans ((bd_r hb).trans (bd_l he)))) (F19.tr f.p) g)) (fun v hv e8 => q1 ?_)⟩
  rw [in19, ls_r17 P19.lay hs, ls_l17 P19.lay hs, e8]
  have w0 : gI (pI m19 (s + 10) (cN S) (nI v)) s 14 = nI (cN S) := by rw [gII, if_neg (by omega)]; exact S19.1 7 (by decide)
  rw [w0, nI_1]
  refine ⟨ls_k P19.lay hs, ls_k17 P19.lay hs, vp_nI (by omega) (by decide), ?_⟩
  have P8 := (P19.out hs (j := 10) (by decide) (cN S) (nI v)).out hs (j := 0) (by decide) 14 (nI (cN S + 1))
  have N8 := (N19.out hs (j := 10) (by decide) (cN S) (nI v)).out hs (j := 0) (by decide) 14 (nI (cN S + 1))
  have nq : ∀ j, j < 10 → gI (pI m19 (s + 10) (cN S) (nI v)) (s + j) (cN S) = gI m19 (s + j) (cN S) := fun j hj => by rw [gII, if_neg (by omega)]
  have S8 := (S19.out EOc (j := 9) (k := cN S) (by decide) (Nat.le_refl _) (nI v)).say EOc (a := a) (b := b) (v := v) ((nq 8 (by decide)).trans w1') ((nq 9 (by decide)).trans w2) (by rw [gII, if_pos ⟨rfl, rfl⟩])
  have F8 : FrP s m (pI (pI m19 (s + 10) (cN S) (nI v)) s 14 (nI (cN S + 1))) := (F19.w h4 (j := 10) (by decide) _ _).w h4 (j := 0) (by decide) _ _
  refine sp_nx P8 (fun m' f p => ?_)
  have eq : pSays B n S N k = .inr _ := (bd_r hm).trans ((bd_r ha).trans ((bd_r hb).trans (bd_r hv)))
  exact h1 _ _ _ m' eq (F8.tr f.pf.p) ⟨p, (f.1.2 _ _).trans in19, hs, S8.pf EOc f.pf h4, N8.fr f.pf, (pSays_ok V T eq).1⟩
theorem sp_readFollows (C : PC t m B n s S N (adv B n k)) (T : TO n k) (hm : pMn (cF S) 6 k = .inr ()) (h0 : ∀ e m', pFollows B n S N k = .inl e → FrP s m m' → Fl m' e → Q 0 m') (h1 : ∀ S' N' k' m', pFollows B n S N k = .inr (S', N', k') → FrP s m m' → PC t m' B n s S' N' k' → Q 1 m') : wX3_readFollows t m 2 Q := by
  unfold wX3_readFollows
  have V := C.vq
  have hs := C.sch
  have h4 : 4 ≤ s := by have := hs.ge; omega
  have c8 := pMn_i hm
  refine ⟨lk2 C.pb.lay, by rw [C.into]; exact ls_k C.pb.lay hs, fun x3 hx3 => ?_⟩
  rw [C.into, show gI m s 5 = nI (cF S) from C.sg.1 3 (by decide)] at hx3
  rw [hx3]
  refine sp_isNameOf C.pb C.nm (s := 0) rfl (by decide) (fun e m' he f g => q0 (h0 e m' ((bd_r hm).trans (bd_l he)) f.p g)) (fun a m5 ha f5 P5 e10 => q1 ?_)
  have in5 : gR m5 2 4 = s := (f5.1.2 _ _).trans C.into
  have a_ := pKn_0 V ha
  have t8 := V.t8
  have S5 := (C.sg.pf EOc f5 h4).out EOc (j := 2) (k := cF S) (by decide) (Nat.le_refl _) (nI a)
  have P5' := P5.out hs (j := 3) (by decide) (cF S) (nI a)
  have N5 := (C.nm.fr f5).out hs (j := 3) (by decide) (cF S) (nI a)
  have F5 : FrP s m (pI m5 (s + 3) (cF S) (nI a)) := f5.p.w h4 (j := 3) (by decide) _ _
  rw [in5, ls_r6 P5.lay hs, ls_l6 P5.lay hs, e10, nI_cl (show cF S < 2 ^ 31 by omega)]
  refine ⟨ls_k P5.lay hs, ls_k6 P5.lay hs, vp_nI (by omega) (by decide), sp_nx P5' (fun m11 f11 P11 => ?_)⟩
  have in11 : gR m11 2 4 = s := (f11.1.2 _ _).trans in5
  have w1 : gI m11 (s + 3) (cF S) = nI a := by rw [f11.pf.kp (by omega), gII, if_pos ⟨rfl, rfl⟩]
  have F11 := F5.tr f11.pf.p
  have S11 := S5.pf EOc f11.pf h4
  have N11 := N5.fr f11.pf
  rw [in11, ls_r6 P11.lay hs, ls_l6 P11.lay hs, w1]
  refine ⟨ls_k P11.lay hs, ls_k6 P11.lay hs, vp_nI (by omega) (by decide), sp_isAnswerOf P11 in11 hs V S11 a_ rfl (fun e m' he f g => q0 (h0 e m' ((bd_r hm).trans ((bd_r ha).trans (bd_l he))) (F11.tr f.p) g)) (fun v hv e8 => q1 ?_)⟩
  rw [in11, ls_r7 P11.lay hs, ls_l7 P11.lay hs, e8]
  have S11' := S11.out EOc (j := 3) (k := cF S) (by decide) (Nat.le_refl _) (nI v)
  have P11' := P11.out hs (j := 4) (by decide) (cF S) (nI v)
  have N11' := N11.out hs (j := 4) (by decide) (cF S) (nI v)
  have F11' : FrP s m (pI m11 (s + 4) (cF S) (nI v)) := F11.w h4 (j := 4) (by decide) _ _
  refine ⟨ls_k P11.lay hs, ls_k7 P11.lay hs, vp_nI (by omega) (by decide), sp_nx P11' (fun m22 f22 P22 => ?_)⟩
  have k5 := P22.ok.kd
  rw [P22.tk.kd, show (4 : Int32) = nI 4 from rfl, nI_eq (by omega) (by decide)]
  have e1 : ∀ (G : Unit → Sum Er PS), bd (pMn (cF S) 6 k) G = G () := fun G => bd_r hm
  refine ⟨fun hc => ?_, fun hc => sp_fail P22 (c := 1) rfl (fun m' f g => ⟨Or.inl rfl, h0 _ m' ((bd_r hm).trans ((bd_r ha).trans ((bd_r hv).trans (if_neg hc)))) (F11'.tr (f22.pf.p.tr f.p)) g⟩)⟩
  refine sp_nx P22 (fun m25 f25 P25 => ?_)
  have F25 := F11'.tr (f22.pf.p.tr f25.pf.p)
  have N25 := (N11'.fr f22.pf).fr f25.pf
  have base : pFollows B n S N k = pFollow2 B n S N (adv B n (adv B n (adv B n (adv B n k)))) a v := (bd_r hm).trans ((bd_r ha).trans ((bd_r hv).trans (if_pos hc)))
  refine sp_isNameOf P25 N25 (s := 0) rfl (by decide) (fun e m' he f g => q0 (h0 e m' (base.trans (bd_l he)) (F25.tr f.p) g)) (fun b m27 hb f27 P27 e10' => q1 ?_)
  have b_ := pKn_0 V hb
  have in27 : gR m27 2 4 = s := (f27.1.2 _ _).trans ((f25.1.2 _ _).trans ((f22.1.2 _ _).trans in11))
  have w1' : gI m27 (s + 3) (cF S) = nI a := by rw [f27.kp (by omega), f25.pf.kp (by omega), f22.pf.kp (by omega), gII, if_neg (by omega)]; exact w1
  have w2 : gI m27 (s + 4) (cF S) = nI v := by rw [f27.kp (by omega), f25.pf.kp (by omega), f22.pf.kp (by omega), gII, if_pos ⟨rfl, rfl⟩]
  have F27 := F25.tr f27.p
  rw [in27, ls_r6 P27.lay hs, ls_l6 P27.lay hs, w1', e10', ls_r8 P27.lay hs, ls_l8 P27.lay hs, nI_eq (by omega) (by omega)]
  refine ⟨ls_k P27.lay hs, ls_k6 P27.lay hs, vp_nI (by omega) (by decide), fun hab => sp_fail P27 (c := 3) rfl (fun m' f g => ⟨Or.inl rfl, h0 _ m' (base.trans ((bd_r hb).trans (if_pos hab.symm))) (F27.tr f.p) g⟩), fun hab => ⟨ls_k8 P27.lay hs, vp_nI (by omega) (by decide), ?_⟩⟩
  have S27 := (((S11'.pf EOc f22.pf h4).pf EOc f25.pf h4).pf EOc f27 h4).out EOc (j := 4) (k := cF S) (by decide) (Nat.le_refl _) (nI b)
  have P27' := P27.out hs (j := 5) (by decide) (cF S) (nI b)
  have N27 := (N25.fr f27).out hs (j := 5) (by decide) (cF S) (nI b)
  have F27' : FrP s m (pI m27 (s + 5) (cF S) (nI b)) := F27.w h4 (j := 5) (by decide) _ _
  refine sp_nx P27' (fun m36 f36 P36 => ?_)
  have in36 : gR m36 2 4 = s := (f36.1.2 _ _).trans in27
  have v1 : gI m36 (s + 3) (cF S) = nI a := by rw [f36.pf.kp (by omega), gII, if_neg (by omega)]; exact w1'
  have v2 : gI m36 (s + 4) (cF S) = nI v := by rw [f36.pf.kp (by omega), gII, if_neg (by omega)]; exact w2
  have v3 : gI m36 (s + 5) (cF S) = nI b := by rw [f36.pf.kp (by omega), gII, if_pos ⟨rfl, rfl⟩]
  have F36 := F27'.tr f36.pf.p
  have S36 := S27.pf EOc f36.pf h4
  have N36 := N27.fr f36.pf
  rw [in36, ls_r8 P36.lay hs, ls_l8 P36.lay hs, v3]
  refine ⟨ls_k P36.lay hs, ls_k8 P36.lay hs, vp_nI (by omega) (by decide), sp_isAnswerOf P36 in36 hs V S36 b_ rfl (fun e m' he f g => q0 (h0 e m' (base.trans ((bd_r hb).trans ((if_neg (fun z => hab z.symm)).trans (bd_l he)))) (F36.tr f.p) g)) (fun u hu e8' => q1 ?_)⟩
  rw [in36, ls_r9 P36.lay hs, ls_l9 P36.lay hs, e8']
  have w0 : gI (pI m36 (s + 6) (cF S) (nI u)) s 5 = nI (cF S) := by rw [gII, if_neg (by omega)]; exact S36.1 3 (by decide)
  rw [w0, nI_1]
  refine ⟨ls_k P36.lay hs, ls_k9 P36.lay hs, vp_nI (by omega) (by decide), ?_⟩
  have P8 := (P36.out hs (j := 6) (by decide) (cF S) (nI u)).out hs (j := 0) (by decide) 5 (nI (cF S + 1))
  have N8 := (N36.out hs (j := 6) (by decide) (cF S) (nI u)).out hs (j := 0) (by decide) 5 (nI (cF S + 1))
  have nq : ∀ j, j < 6 → gI (pI m36 (s + 6) (cF S) (nI u)) (s + j) (cF S) = gI m36 (s + j) (cF S) := fun j hj => by rw [gII, if_neg (by omega)]
  have S8 := (S36.out EOc (j := 5) (k := cF S) (by decide) (Nat.le_refl _) (nI u)).fol EOc (a := a) (v := v) (b := b) (u := u) ((nq 3 (by decide)).trans v1) ((nq 4 (by decide)).trans v2) ((nq 5 (by decide)).trans v3) (by rw [gII, if_pos ⟨rfl, rfl⟩])
  have F8 : FrP s m (pI (pI m36 (s + 6) (cF S) (nI u)) s 5 (nI (cF S + 1))) := (F36.w h4 (j := 6) (by decide) _ _).w h4 (j := 0) (by decide) _ _
  refine sp_nx P8 (fun m' f p => ?_)
  have eq : pFollows B n S N k = .inr _ := base.trans ((bd_r hb).trans ((if_neg (fun z => hab z.symm)).trans (bd_r hu)))
  exact h1 _ _ _ m' eq (F8.tr f.pf.p) ⟨p, (f.1.2 _ _).trans in36, hs, S8.pf EOc f.pf h4, N8.fr f.pf, (pFollows_ok V T eq).1⟩
end
