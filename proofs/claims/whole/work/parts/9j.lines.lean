/-! The class's lines -/
def PC (t : zT) (m : zM) (B : Nat → Nat) (n : Nat) (s : Nat) (S : Sc) (N : Sc) (k : Tk) : Prop := (PB t m B n k) ∧ (gR m 2 4 = s) ∧ (isSch s) ∧ (SG m s ec oc S) ∧ (CNm m N) ∧ (Vq S N)
theorem PC.pb {t : zT} {m : zM} {B : Nat → Nat} {n : Nat} {s : Nat} {S : Sc} {N : Sc} {k : Tk} (h_ : PC t m B n s S N k) : PB t m B n k := h_.1
theorem PC.into {t : zT} {m : zM} {B : Nat → Nat} {n : Nat} {s : Nat} {S : Sc} {N : Sc} {k : Tk} (h_ : PC t m B n s S N k) : gR m 2 4 = s := h_.2.1
theorem PC.sch {t : zT} {m : zM} {B : Nat → Nat} {n : Nat} {s : Nat} {S : Sc} {N : Sc} {k : Tk} (h_ : PC t m B n s S N k) : isSch s := h_.2.2.1
theorem PC.sg {t : zT} {m : zM} {B : Nat → Nat} {n : Nat} {s : Nat} {S : Sc} {N : Sc} {k : Tk} (h_ : PC t m B n s S N k) : SG m s ec oc S := h_.2.2.2.1
theorem PC.nm {t : zT} {m : zM} {B : Nat → Nat} {n : Nat} {s : Nat} {S : Sc} {N : Sc} {k : Tk} (h_ : PC t m B n s S N k) : CNm m N := h_.2.2.2.2.1
theorem PC.vq {t : zT} {m : zM} {B : Nat → Nat} {n : Nat} {s : Nat} {S : Sc} {N : Sc} {k : Tk} (h_ : PC t m B n s S N k) : Vq S N := h_.2.2.2.2.2
def prT (s : Nat) : List Nat := [2, 16, 17, 18, s, s + 1, s + 2, s + 3, s + 4, s + 5, s + 6, s + 7, s + 8, s + 9, s + 10, s + 11]
/-- what reading a school may touch -/
def FrP (s : Nat) (m m' : zM) : Prop := Fr (prT s) m m' ∧ gI m' 2 1 = gI m 2 1
section
variable {t : zT} {m m' m1 m2 : zM} {B : Nat → Nat} {n a b c s : Nat} {k : Tk} {x y : Int32} {N S : Sc} {Q : Int32 → zM → Prop}
theorem q0 {A C : Prop} (h : A) : ((0 : Int32) = 0 → A) ∧ (¬ (0 : Int32) = 0 → C) := ⟨fun _ => h, fun y => absurd rfl y⟩
theorem q1 {A C : Prop} (h : C) : ((1 : Int32) = 0 → A) ∧ (¬ (1 : Int32) = 0 → C) := ⟨fun y => absurd y (by decide), fun _ => h⟩
theorem prT_m {q : Nat} : q ∈ prT s ↔ q = 2 ∨ (16 ≤ q ∧ q ≤ 18) ∨ (s ≤ q ∧ q ≤ s + 11) := by
  unfold prT
  simp only [List.mem_cons, List.not_mem_nil, or_false]
  omega
theorem FrP.rf : FrP s m m := ⟨Fr.rf, rfl⟩
theorem FrP.tr (h1 : FrP s m m1) (h2 : FrP s m1 m2) : FrP s m m2 := ⟨h1.1.tr h2.1, h2.2.trans h1.2⟩
theorem PFr.p (h : PFr m m') : FrP s m m' := ⟨h.1.mono (fun q hq => prT_m.mpr (by simp only [List.mem_cons, List.not_mem_nil, or_false] at hq; omega)), h.2.2⟩
theorem NFr.p (h : NFr m m') : FrP s m m' := ⟨h.1.mono (fun q hq => prT_m.mpr (by simp only [List.mem_cons, List.not_mem_nil, or_false] at hq; omega)), h.2⟩
theorem FrP.w (h : FrP s m m1) (h4 : 4 ≤ s) {j : Nat} (hj : j ≤ 11) (i : Nat) (v : Int32) : FrP s m (pI m1 (s + j) i v) := ⟨Fr.pI h.1 (prT_m.mpr (by omega)), by rw [gII, if_neg (by omega)]; exact h.2⟩
theorem isSch.ge (h : isSch s) : s = 4 ∨ s = 21 := h
theorem SG.pf {e o : Nat → Nat} (h : SG m s e o S) (E : EO e o) (f : PFr m m') (hs : 4 ≤ s) : SG m' s e o S := h.fr E f.1 (fun j hj q => by simp only [List.mem_cons, List.not_mem_nil, or_false] at q; omega)
theorem SG.nf {e o : Nat → Nat} (h : SG m s e o S) (E : EO e o) (f : NFr m m') (hs : isSch s) : SG m' s e o S := h.fr E f.1 (fun j hj q => by have := hs.ge; simp only [List.mem_cons, List.not_mem_nil, or_false] at q; omega)
theorem CNm.out (h : CNm m N) (hs : isSch s) {j : Nat} (hj : j ≤ 11) (i : Nat) (v : Int32) : CNm (pI m (s + j) i v) N := by
  have := hs.ge
  refine ⟨?_, h.c19, fun q hq => h.wo q hq, fun q hq => ?_, fun q hq => ?_⟩
  · rw [gII, if_neg (by omega)]; exact h.cn
  · rw [gII, if_neg (by omega)]; exact h.so q hq
  · rw [gII, if_neg (by omega)]; exact h.nu q hq
theorem PB.out (h : PB t m B n k) (hs : isSch s) {j : Nat} (hj : j ≤ 11) (i : Nat) (v : Int32) : PB t (pI m (s + j) i v) B n k := by
  have := hs.ge
  exact h.fr (Fr.pI (S := [s + j]) Fr.rf (List.mem_cons_self ..)) (by simp only [List.mem_cons, List.not_mem_nil, or_false]; omega) (by simp only [List.mem_cons, List.not_mem_nil, or_false]; omega)
theorem sp_readThing (C : PC t m B n s S N (adv B n k)) (T : TO n k) (hm : pMn (cT S) 8 k = .inr ()) (h0 : ∀ e m', pThing B n S N k = .inl e → FrP s m m' → Fl m' e → Q 0 m') (h1 : ∀ S' N' k' m', pThing B n S N k = .inr (S', N', k') → FrP s m m' → PC t m' B n s S' N' k' → Q 1 m') : wX3_readThing t m 2 Q := by
  unfold wX3_readThing
  have V := C.vq
  have L := C.pb.lay
  have hs := C.sch
  have h4 : 4 ≤ s := by have := hs.ge; omega
  have c8 := pMn_i hm
  have nc := V.nc
  have m6 := V.m6
  have ch5 := V.ch5
  rw [C.into, show gI m s 0 = nI (cT S) from C.sg.1 0 (by decide)]
  refine ⟨lk2 L, ls_k L hs, sp_newName C.pb C.nm (by omega) (s := 0) rfl (by decide) rfl (fun e m' he f g => q0 (h0 e m' ((bd_r hm).trans (bd_l he)) f.p g)) (fun w m4 hw f4 P4 N4 => q1 ?_)⟩
  refine sp_passWord P4 (c := 1564186195) (by decide) (by decide) (fun e m' he f g => q0 (h0 e m' ((bd_r hm).trans ((bd_r hw).trans (bd_l he))) (f4.p.tr f.p) g)) (fun m7 hp f7 P7 => q1 ?_)
  refine sp_isWhole P7 (lo := 2) (hi := 4) rfl rfl (by decide) (by decide) (fun e m' he f g => q0 (h0 e m' ((bd_r hm).trans ((bd_r hw).trans ((bd_r hp).trans (bd_l he)))) (f4.p.tr (f7.p.tr f.p)) g)) (fun v hv e8 => q1 ?_)
  have S7 := (C.sg.nf EOc f4 hs).pf EOc f7 h4
  have in7 : gR m7 2 4 = s := (f7.1.2 _ _).trans ((f4.1.2 _ _).trans C.into)
  have L7 := P7.lay
  have N7 := N4.fr f7
  have pv := pWh_i hv
  have cb := V.cnt
  have cv : cnt S * v ≤ 4096 * 4 := Nat.mul_le_mul cb pv.2.2.1
  rw [in7, ls_r1 L7 hs, show gI m7 s 2 = nI (cnt S) from S7.1 1 (by decide), show gI m7 s 0 = nI (cT S) from S7.1 0 (by decide), nI_cl (show cT S < 2 ^ 31 by omega), e8, pk_mul, show (4096 : Int32) = nI 4096 from rfl, nI_leI (by omega) (by decide), ls_l1 L7 hs]
  have w2 : gI (pI m7 (s + 1) (cT S) (nI v)) s 2 = nI (cnt S) := by rw [gII, if_neg (by omega)]; exact S7.1 1 (by decide)
  have w8 : gI (pI m7 (s + 1) (cT S) (nI v)) 2 8 = nI v := by rw [gII, if_neg (by omega)]; exact e8
  rw [w2, w8, pk_mul]
  have w0 : gI (pI (pI m7 (s + 1) (cT S) (nI v)) s 2 (nI (cnt S * v))) s 0 = nI (cT S) := by rw [gII, if_neg (by omega), gII, if_neg (by omega)]; exact S7.1 0 (by decide)
  rw [w0, nI_1]
  refine ⟨ls_k L7 hs, fun hle => ⟨ls_k1 L7 hs, vp_nI (by omega) (by decide), ?_⟩, fun hgt => sp_fail P7 (c := 7) rfl (fun m' f g => ⟨Or.inl rfl, h0 _ m' ((bd_r hm).trans ((bd_r hw).trans ((bd_r hp).trans ((bd_r hv).trans (if_neg hgt))))) (f4.p.tr (f7.p.tr f.p)) g⟩)⟩
  have P8 := ((P7.out hs (j := 1) (by decide) (cT S) (nI v)).out hs (j := 0) (by decide) 2 (nI (cnt S * v))).out hs (j := 0) (by decide) 0 (nI (cT S + 1))
  have N8 := ((N7.out hs (j := 1) (by decide) (cT S) (nI v)).out hs (j := 0) (by decide) 2 (nI (cnt S * v))).out hs (j := 0) (by decide) 0 (nI (cT S + 1))
  have S8 := (S7.out EOc (j := 0) (by decide) (Nat.le_refl _) (nI v)).thing EOc (v := v) (by rw [gII, if_pos ⟨rfl, rfl⟩])
  have F8 : FrP s m (pI (pI (pI m7 (s + 1) (cT S) (nI v)) s 2 (nI (cnt S * v))) s 0 (nI (cT S + 1))) := (((f4.p.tr f7.p).w h4 (j := 1) (by decide) _ _).w h4 (j := 0) (by decide) _ _).w h4 (j := 0) (by decide) _ _
  refine sp_nx P8 (fun m' f p => ?_)
  have eq : pThing B n S N k = .inr _ := (bd_r hm).trans ((bd_r hw).trans ((bd_r hp).trans ((bd_r hv).trans (if_pos hle))))
  exact h1 _ _ _ m' eq (F8.tr f.pf.p) ⟨p, (f.1.2 _ _).trans in7, hs, S8.pf EOc f.pf h4, N8.fr f.pf, (pThing_ok V T eq).1⟩
theorem sp_readMaster (C : PC t m B n s S N (adv B n k)) (T : TO n k) (hm : pMn (cM S) 6 k = .inr ()) (h0 : ∀ e m', pMaster B n S N k = .inl e → FrP s m m' → Fl m' e → Q 0 m') (h1 : ∀ S' N' k' m', pMaster B n S N k = .inr (S', N', k') → FrP s m m' → PC t m' B n s S' N' k' → Q 1 m') : wX3_readMaster t m 2 Q := by
  unfold wX3_readMaster
  have V := C.vq
  have L := C.pb.lay
  have hs := C.sch
  have h4 : 4 ≤ s := by have := hs.ge; omega
  have c8 := pMn_i hm
  have nc := V.nc
  have t8 := V.t8
  have ch5 := V.ch5
  rw [C.into, show gI m s 10 = nI (cM S) from C.sg.1 4 (by decide)]
  refine ⟨lk2 L, ls_k L hs, sp_newName C.pb C.nm (by omega) (s := 1) rfl (by decide) rfl (fun e m' he f g => q0 (h0 e m' ((bd_r hm).trans (bd_l he)) f.p g)) (fun w m4 hw f4 P4 N4 => q1 ?_)⟩
  refine sp_kind P4 (fun he => ⟨fun z => absurd z (by decide), fun _ => sp_fail P4 (c := 1) rfl (fun m' f g => ⟨Or.inl rfl, h0 _ m' ((bd_r hm).trans ((bd_r hw).trans (bd_l he))) (f4.p.tr f.p) g⟩)⟩) (fun d hd => ⟨fun _ => ?_, fun z => absurd (nI_pos' (by have := (pKd_i hd).2; omega)) z⟩)
  have S4 := C.sg.nf EOc f4 hs
  have in4 : gR m4 2 4 = s := (f4.1.2 _ _).trans C.into
  have L4 := P4.lay
  rw [in4, ls_r11 L4 hs, show gI m4 s 10 = nI (cM S) from S4.1 4 (by decide), nI_cl (show cM S < 2 ^ 31 by omega), ls_l11 L4 hs]
  have w0 : gI (pI m4 (s + 7) (cM S) (nI d)) s 10 = nI (cM S) := by rw [gII, if_neg (by omega)]; exact S4.1 4 (by decide)
  rw [w0, nI_1]
  refine ⟨ls_k L4 hs, ls_k11 L4 hs, vp_nI (by omega) (by decide), ?_⟩
  have P8 := (P4.out hs (j := 7) (by decide) (cM S) (nI d)).out hs (j := 0) (by decide) 10 (nI (cM S + 1))
  have N8 := (N4.out hs (j := 7) (by decide) (cM S) (nI d)).out hs (j := 0) (by decide) 10 (nI (cM S + 1))
  have S8 := (S4.out EOc (j := 6) (by decide) (Nat.le_refl _) (nI d)).mas EOc (d := d) (by rw [gII, if_pos ⟨rfl, rfl⟩])
  have F8 : FrP s m (pI (pI m4 (s + 7) (cM S) (nI d)) s 10 (nI (cM S + 1))) := (f4.p.w h4 (j := 7) (by decide) _ _).w h4 (j := 0) (by decide) _ _
  refine sp_nx P8 (fun m' f p => ?_)
  have eq : pMaster B n S N k = .inr _ := (bd_r hm).trans ((bd_r hw).trans (bd_r hd))
  exact h1 _ _ _ m' eq (F8.tr f.pf.p) ⟨p, (f.1.2 _ _).trans in4, hs, S8.pf EOc f.pf h4, N8.fr f.pf, (pMaster_ok V T eq).1⟩
theorem lw_and {l j : Nat} (hj : j < 3) : (nI l &&& nI (2 ^ j) = 0) ↔ l.testBit j = false := by
  rcases (show j = 0 ∨ j = 1 ∨ j = 2 by omega) with rfl | rfl | rfl
  · exact nI_mask0
  · exact nI_mask1
  · exact nI_mask2
theorem sp_readLaw (C : PC t m B n s S N (adv B n k)) (T : TO n k) (h0 : ∀ e m', pLaw B n S N k = .inl e → FrP s m m' → Fl m' e → Q 0 m') (h1 : ∀ S' N' k' m', pLaw B n S N k = .inr (S', N', k') → FrP s m m' → PC t m' B n s S' N' k' → Q 1 m') : wX3_readLaw t m 2 Q := by
  unfold wX3_readLaw
  have V := C.vq
  have P := C.pb
  have L := P.lay
  have hs := C.sch
  have h4 : 4 ≤ s := by have := hs.ge; omega
  have lw8 := V.lw
  refine ⟨lk2 L, sp_law P (fun he => q0 (sp_fail P (c := 1) rfl (fun m' f g => ⟨Or.inl rfl, h0 _ m' (bd_l he) f.p g⟩))) (fun j hj => ?_)⟩
  have j3 := (pLx_i hj).2
  have hp : 2 ^ j < 2 ^ 31 := Nat.pow_lt_pow_right (by decide) (by omega)
  rw [C.into, show gI m s 12 = nI (cLw S) from C.sg.1 5 (by decide), lw_and j3, fa_or]
  refine ⟨fun z => ?_, fun _ => ⟨ls_k L hs, fun z => ?_, fun z => sp_fail P (c := 3) rfl (fun m' f g => ⟨Or.inl rfl, h0 _ m' ((bd_r hj).trans (if_pos ?_)) f.p g⟩)⟩⟩
  · exfalso
    rw [show (0 : Int32) = nI 0 from rfl, nI_eq hp (by decide)] at z
    exact Nat.ne_of_gt (Nat.two_pow_pos j) z
  · have P1 := P.out hs (j := 0) (by decide) 12 (nI (cLw S ||| 2 ^ j))
    have N1 := C.nm.out hs (j := 0) (by decide) 12 (nI (cLw S ||| 2 ^ j))
    have F1 : FrP s m (pI m s 12 (nI (cLw S ||| 2 ^ j))) := FrP.rf.w h4 (j := 0) (by decide) _ _
    refine sp_nx P1 (fun m8 f p => ?_)
    have in8 : gR m8 2 4 = s := (f.1.2 _ _).trans C.into
    rw [show (2 : Int32) = nI (2 ^ 1) from rfl, nI_eq hp (by decide)]
    have e2 : (2 ^ j = 2 ^ 1) ↔ j = 1 := by clear hj z hp P1 N1 F1 f p in8; rcases (show j = 0 ∨ j = 1 ∨ j = 2 by omega) with rfl | rfl | rfl <;> decide
    rw [e2]
    refine ⟨fun y => ?_, fun y => ?_⟩
    · refine sp_isWhole p (lo := 0) (hi := 8) rfl rfl (by decide) (by decide) (fun e m' he f' g => q0 (h0 e m' ((bd_r hj).trans ((if_neg (by rw [z]; decide)).trans ((if_pos y).trans (bd_l he)))) (F1.tr (f.pf.p.tr f'.p)) g)) (fun v hv e8 => q1 ?_)
      rw [in8, e8]
      refine ⟨ls_k p.lay hs, ?_⟩
      have P2 := p.out hs (j := 0) (by decide) 13 (nI v)
      have N2 := (N1.fr f.pf).out hs (j := 0) (by decide) 13 (nI v)
      refine sp_nx P2 (fun m' f' p' => ?_)
      have eq : pLaw B n S N k = .inr _ := (bd_r hj).trans ((if_neg (by rw [z]; decide)).trans ((if_pos y).trans (bd_r hv)))
      have hq : ∀ i, i ∈ [2] → ¬ s ≤ i := fun i hi => by simp only [List.mem_cons, List.not_mem_nil, or_false] at hi; omega
      have e1 : ∀ q i, s ≤ q → gI m8 q i = gI (pI m s 12 (nI (cLw S ||| 2 ^ j))) q i := fun q i hq' => f.1.I (fun z => hq q z hq') i
      have S2 : SG (pI m8 s 13 (nI v)) s ec oc (stS (stS S 10 0 (cLw S ||| 2 ^ 1)) 11 0 v) := by
        refine C.sg.lwr EOc ?_ ?_ (fun i h5 h6 => ?_) (fun i hi q => ?_)
        · rw [gII, if_neg (fun y => absurd y.2 (by decide)), e1 _ _ (Nat.le_refl _), gII, if_pos ⟨rfl, rfl⟩, y]
        · rw [gII, if_pos ⟨rfl, rfl⟩]
        · rw [gII, if_neg (fun y => h6 y.2), e1 _ _ (Nat.le_refl _), gII, if_neg (fun y => h5 y.2)]
        · have := (EOc.2.2 i hi).1
          rw [gII, if_neg (by omega), e1 _ _ (by omega), gII, if_neg (by omega)]
      have F2 : FrP s m (pI m8 s 13 (nI v)) := (F1.tr f.pf.p).w h4 (j := 0) (by decide) _ _
      have vq := (pLaw_ok V T eq).1
      subst y
      exact h1 _ _ _ m' eq (F2.tr f'.pf.p) ⟨p', (f'.1.2 _ _).trans in8, hs, S2.pf EOc f'.pf h4, N2.fr f'.pf, vq⟩
    · have eq : pLaw B n S N k = .inr _ := (bd_r hj).trans ((if_neg (by rw [z]; decide)).trans (if_neg y))
      exact h1 _ _ _ m8 eq (F1.tr f.pf.p) ⟨p, in8, hs, (C.sg.law EOc y).pf EOc f.pf h4, N1.fr f.pf, (pLaw_ok V T eq).1⟩
  · cases q : (cLw S).testBit j with
    | true => rfl
    | false => exact absurd q z
theorem sp_readTrial (C : PC t m B n s S N (adv B n k)) (T : TO n k) (h0 : ∀ e m', pTrial B n S N k = .inl e → FrP s m m' → Fl m' e → Q 0 m') (h1 : ∀ S' N' k' m', pTrial B n S N k = .inr (S', N', k') → FrP s m m' → PC t m' B n s S' N' k' → Q 1 m') : wX3_readTrial t m 2 Q := by
  unfold wX3_readTrial
  have V := C.vq
  have hs := C.sch
  have h4 : 4 ≤ s := by have := hs.ge; omega
  have t8 := V.t8
  refine ⟨lk2 C.pb.lay, sp_isNameOf C.pb C.nm (s := 0) rfl (by decide) (fun e m' he f g => q0 (h0 e m' (bd_l he) f.p g)) (fun a m3 ha f3 P3 e10 => q1 ?_)⟩
  intro x5 hx5
  have a_ := pKn_0 V ha
  have S3 := C.sg.pf EOc f3 h4
  have in3 : gR m3 2 4 = s := (f3.1.2 _ _).trans C.into
  have L3 := P3.lay
  have c99 := V.c99 a (by omega)
  rw [hx5, e10, in3, ls_r3 L3 hs, ls_l3 L3 hs, nI_cl (show a < 2 ^ 31 by omega), show gI m3 (s + 2) a = nI (cC S a) from S3.2 1 (by decide) a (show a < 8 by omega), show (0 : Int32) = nI 0 from rfl, nI_eq (by omega) (by decide)]
  refine ⟨ls_k L3 hs, ls_k3 L3 hs, vp_nI (by omega) (by decide), fun hc => ?_, fun hc => sp_fail P3 (c := 3) rfl (fun m' f g => ⟨Or.inl rfl, h0 _ m' ((bd_r ha).trans (if_neg hc)) (f3.p.tr f.p) g⟩)⟩
  refine sp_nx P3 (fun m11 f11 P11 => ?_)
  refine sp_passWord P11 (c := 114292) (by decide) (by decide) (fun e m' he f g => q0 (h0 e m' ((bd_r ha).trans ((if_pos hc).trans (bd_l he))) (f3.p.tr (f11.pf.p.tr f.p)) g)) (fun m13 hp f13 P13 => q1 ?_)
  refine sp_isWhole P13 (lo := 1) (hi := 99) rfl rfl (by decide) (by decide) (fun e m' he f g => q0 (h0 e m' ((bd_r ha).trans ((if_pos hc).trans ((bd_r hp).trans (bd_l he)))) (f3.p.tr (f11.pf.p.tr (f13.p.tr f.p))) g)) (fun v hv e8 => q1 ?_)
  have S13 := (S3.pf EOc f11.pf h4).pf EOc f13 h4
  have in13 : gR m13 2 4 = s := (f13.1.2 _ _).trans ((f11.1.2 _ _).trans in3)
  have L13 := P13.lay
  have N13 := ((C.nm.fr f3).fr f11.pf).fr f13
  rw [in13, ls_r3 L13 hs, ls_l3 L13 hs, e8]
  have w4 : gI (pI m13 (s + 2) a (nI v)) s 4 = nI (cTr S) := by rw [gII, if_neg (by omega)]; exact S13.1 2 (by decide)
  rw [w4, nI_1]
  refine ⟨ls_k L13 hs, ls_k3 L13 hs, vp_nI (by omega) (by decide), ?_⟩
  have P8 := (P13.out hs (j := 2) (by decide) a (nI v)).out hs (j := 0) (by decide) 4 (nI (cTr S + 1))
  have N8 := (N13.out hs (j := 2) (by decide) a (nI v)).out hs (j := 0) (by decide) 4 (nI (cTr S + 1))
  have S8 := S13.tri EOc (v := v) (show a < 8 by omega)
  have F8 : FrP s m (pI (pI m13 (s + 2) a (nI v)) s 4 (nI (cTr S + 1))) := ((f3.p.tr (f11.pf.p.tr f13.p)).w h4 (j := 2) (by decide) _ _).w h4 (j := 0) (by decide) _ _
  refine sp_nx P8 (fun m' f p => ?_)
  have eq : pTrial B n S N k = .inr _ := (bd_r ha).trans ((if_pos hc).trans ((bd_r hp).trans (bd_r hv)))
  exact h1 _ _ _ m' eq (F8.tr f.pf.p) ⟨p, (f.1.2 _ _).trans in13, hs, S8.pf EOc f.pf h4, N8.fr f.pf, (pTrial_ok V T eq).1⟩
end
