/-! The class's child line, and the whole text -/
section
variable {t : zT} {m m' m1 m2 : zM} {B : Nat → Nat} {n a b c s : Nat} {k : Tk} {x y : Int32} {N S : Sc} {Q : Int32 → zM → Prop}
/-- behind a master that a child hears -/
def hT (B : Nat → Nat) (n : Nat) (N : Sc) (f set : Nat) (k : Tk) : Sum Er (Nat × Tk) := if k.1 = 4 then pHr B n N f set (adv B n k) else .inr (set, k)
theorem pHr_s {f set : Nat} : pHr B n N (f + 1) set k = bd (pKn N 1 k) fun a => if set.testBit a then .inl (3, k.2.1) else hT B n N f (set ||| 2 ^ a) (adv B n k) := rfl
theorem nI_or2 {set v : Nat} (hv : v < 31) : nI set ||| ((1 : Int32) <<< (nI v &&& 31)) = nI (set ||| 2 ^ v) := by rw [nI_shl1 hv, fa_or]
theorem sp_hears {N' : Sc} {M : Nat} (hM : ∀ k y, pKn N 1 k = .inr y → y < M) (M6 : M ≤ 6) (hN : ∀ k, pKn N' 1 k = pKn N 1 k) {K : Int32 → zM → Prop} : ∀ (f set : Nat) (k : Tk) (m : zM), f ≤ 6 → c6 set = 7 - f → set < 2 ^ M → PB t m B n k → CNm m N' → (∀ e m', hT B n N f set k = .inl e → PFr m m' → Fl m' e → Q 0 m') → (∀ q m', hT B n N f set k = .inr q → PFr m m' → PB t m' B n q.2 → K (nI q.1) m') → wX3_readChild_L48 t 2 Q K (f + 1) (nI set) (nI (6 - f)) m := by
  have pM : (2 : Nat) ^ M ≤ 2 ^ 6 := Nat.pow_le_pow_right (by decide) M6
  intro f
  induction f with
  | zero =>
    intro set k m f6 hc hs P C h0 h1
    have := c6_6 set
    omega
  | succ f ih =>
    intro set k m f6 hc hs P C h0 h1
    have k5 := P.ok.kd
    have L := P.lay
    rw [wX3_readChild_L48, P.tk.kd, show (4 : Int32) = nI 4 from rfl, nI_eq (by omega) (by decide), show (6 : Int32) = nI 6 from rfl, nI_leI (by decide) (by omega)]
    refine ⟨fun z => by omega, fun _ => ⟨lk2 L, fun hk => ?_, fun hk => h1 (set, k) m (if_neg hk) PFr.rf P⟩⟩
    have base : hT B n N (f + 1) set k = pHr B n N (f + 1) set (adv B n k) := if_pos hk
    refine sp_nx P (fun m19 f19 P19 => ?_)
    refine sp_isNameOf P19 (C.fr f19.pf) (s := 1) rfl (by decide) (fun e m' he f g => q0 (h0 e m' (base.trans (bd_l ((hN _).symm.trans he))) (f19.pf.tr f) g)) (fun v m21 hv f21 P21 e10 => q1 ?_)
    rw [hN] at hv
    have hv6 := hM _ _ hv
    rw [e10, nI_bit0 (by omega) (by omega), nI_or2 (by omega)]
    refine ⟨fun hb x24 hx => ?_, fun hb => sp_fail P21 (c := 3) rfl (fun m' f g => ⟨Or.inl rfl, h0 _ m' (base.trans ((bd_r hv).trans (if_pos ?_))) (f19.pf.tr (f21.tr f)) g⟩)⟩
    · refine sp_nx P21 (fun m26 f26 P26 => ?_)
      have F26 := f19.pf.tr (f21.tr f26.pf)
      have eq : hT B n N (f + 1) set k = hT B n N f (set ||| 2 ^ v) (adv B n (adv B n k)) := base.trans ((bd_r hv).trans (if_neg (by rw [hb]; decide)))
      rw [hx, nI_1, show 6 - (f + 1) + 1 = 6 - f by omega]
      refine ih (set ||| 2 ^ v) _ m26 (by omega) ?_ (Nat.or_lt_two_pow hs (Nat.pow_lt_pow_right (by decide) hv6)) P26 (((C.fr f19.pf).fr f21).fr f26.pf) (fun e m' he f g => h0 e m' (eq.trans he) (F26.tr f) g) (fun q m' hq f p => h1 q m' (eq.trans hq) (F26.tr f) p)
      rw [c6_or set (by omega) v (by omega) hb, hc]
      omega
    · cases q : set.testBit v with
      | true => rfl
      | false => exact absurd q hb
theorem sp_readChild (C : PC t m B n s S N (adv B n k)) (T : TO n k) (hm : pMn (cCh S) 5 k = .inr ()) (h0 : ∀ e m', pChild B n S N k = .inl e → FrP s m m' → Fl m' e → Q 0 m') (h1 : ∀ S' N' k' m', pChild B n S N k = .inr (S', N', k') → FrP s m m' → PC t m' B n s S' N' k' → Q 1 m') : wX3_readChild t m 2 Q := by
  unfold wX3_readChild
  have V := C.vq
  have L := C.pb.lay
  have hs := C.sch
  have h4 : 4 ≤ s := by have := hs.ge; omega
  have c8 := pMn_i hm
  have nc := V.nc
  have t8 := V.t8
  have m6 := V.m6
  rw [C.into, show gI m s 18 = nI (cCh S) from C.sg.1 8 (by decide)]
  refine ⟨lk2 L, ls_k L hs, sp_newName C.pb C.nm (by omega) (s := 2) rfl (by decide) rfl (fun e m' he f g => q0 (h0 e m' ((bd_r hm).trans (bd_l he)) f.p g)) (fun w m4 hw f4 P4 N4 => q1 ?_)⟩
  refine sp_passWord P4 (c := 8554067) (by decide) (by decide) (fun e m' he f g => q0 (h0 e m' ((bd_r hm).trans ((bd_r hw).trans (bd_l he))) (f4.p.tr f.p) g)) (fun m7 hp f7 P7 => q1 ?_)
  have base : ∀ r, pHr B n N 7 0 (adv B n (adv B n (adv B n k))) = r → pChild B n S N k = bd r fun q => .inr (stS (stS S 17 (cCh S) q.1) 16 0 (cCh S + 1), aN N w 2 (cCh S), q.2) := fun r hr => by rw [← hr]; exact (bd_r hm).trans ((bd_r hw).trans (bd_r hp))
  refine sp_isNameOf P7 (N4.fr f7) (s := 1) rfl (by decide) (fun e m' he f g => q0 (h0 e m' (base _ (bd_l ((pKn_aN (by decide)).symm.trans he))) (f4.p.tr (f7.p.tr f.p)) g)) (fun v m10 hv f10 P10 e10 => q1 ?_)
  rw [pKn_aN (by decide)] at hv
  have v6 := pKn_1 V hv
  intro x12 hx
  rw [e10, nI_shl1 (by omega)] at hx
  rw [hx]
  refine sp_nx P10 (fun m14 f14 P14 => ?_)
  have F14 : FrP s m m14 := f4.p.tr (f7.p.tr (f10.p.tr f14.pf.p))
  have N14 := ((N4.fr f7).fr f10).fr f14.pf
  have e1 : pHr B n N 7 0 (adv B n (adv B n (adv B n k))) = hT B n N 6 (2 ^ v) (adv B n (adv B n (adv B n (adv B n k)))) := by
    rw [pHr_s, bd_r hv, Nat.zero_testBit, if_neg (by decide), Nat.zero_or]
  refine ⟨6 + 1, sp_hears (N := N) (M := cM S) (fun k y e => pKn_1 V e) m6 (fun k => pKn_aN (by decide)) 6 (2 ^ v) _ m14 (Nat.le_refl _) ?_ (Nat.pow_lt_pow_right (by decide) v6) P14 N14 (fun e m' he f g => h0 e m' (base _ (e1.trans he)) (F14.tr f.p) g) (fun q m' hq f p => ?_)⟩
  · rcases (show v = 0 ∨ v = 1 ∨ v = 2 ∨ v = 3 ∨ v = 4 ∨ v = 5 by omega) with z | z | z | z | z | z <;> rw [z] <;> decide
  · have eq : pChild B n S N k = .inr _ := base _ (e1.trans hq)
    have S' := (((C.sg.nf EOc f4 hs).pf EOc f7 h4).pf EOc f10 h4).pf EOc f14.pf h4 |>.pf EOc f h4
    have in' : gR m' 2 4 = s := (f.1.2 _ _).trans ((f14.1.2 _ _).trans ((f10.1.2 _ _).trans ((f7.1.2 _ _).trans ((f4.1.2 _ _).trans C.into))))
    unfold wX3_readChild_J112
    rw [in', ls_r19 p.lay hs, ls_l19 p.lay hs, show gI m' s 18 = nI (cCh S) from S'.1 8 (by decide), nI_cl (show cCh S < 2 ^ 31 by omega)]
    have w0 : gI (pI m' (s + 11) (cCh S) (nI q.1)) s 18 = nI (cCh S) := by rw [gII, if_neg (by omega)]; exact S'.1 8 (by decide)
    rw [w0, nI_1]
    refine ⟨lk2 p.lay, ls_k p.lay hs, ls_k19 p.lay hs, vp_nI (by omega) (by decide), ?_⟩
    have P8 := (p.out hs (j := 11) (by decide) (cCh S) (nI q.1)).out hs (j := 0) (by decide) 18 (nI (cCh S + 1))
    have N8 := ((N14.fr f).out hs (j := 11) (by decide) (cCh S) (nI q.1)).out hs (j := 0) (by decide) 18 (nI (cCh S + 1))
    have S8 := (S'.out EOc (j := 10) (k := cCh S) (by decide) (Nat.le_refl _) (nI q.1)).chd EOc (d := q.1) (by rw [gII, if_pos ⟨rfl, rfl⟩])
    have F8 : FrP s m (pI (pI m' (s + 11) (cCh S) (nI q.1)) s 18 (nI (cCh S + 1))) := ((F14.tr f.p).w h4 (j := 11) (by decide) _ _).w h4 (j := 0) (by decide) _ _
    exact h1 _ _ _ _ eq F8 ⟨P8, in', hs, S8, N8, (pChild_ok V T eq).1⟩
theorem sp_readLine (C : PC t m B n s S N k) (h0 : ∀ e m', pLine B n S N k = .inl e → FrP s m m' → Fl m' e → Q 0 m') (h1 : ∀ S' N' k' m', pLine B n S N k = .inr (S', N', k') → FrP s m m' → PC t m' B n s S' N' k' → Q 1 m') : wX3_readLine t m 2 Q := by
  unfold wX3_readLine
  have V := C.vq
  have P := C.pb
  have L := P.lay
  have hs := C.sch
  have h4 : 4 ≤ s := by have := hs.ge; omega
  have T := P.ok
  have t8 := V.t8
  have f6 := V.f6
  have m6 := V.m6
  have n16 := V.n16
  have ch5 := V.ch5
  have nx : ∀ m', PFr m m' → PB t m' B n (adv B n k) → PC t m' B n s S N (adv B n k) := fun m' f p => ⟨p, (f.1.2 _ _).trans C.into, hs, C.sg.pf EOc f h4, C.nm.fr f, V⟩
  unfold pLine at h0 h1
  refine ⟨lk2 L, sp_stands P (c := 21243335) (by decide) (by decide) (fun q => q1 ?_) (fun z1 => q0 ?_)⟩
  · rw [q] at h0 h1
    rw [C.into, show gI m s 0 = nI (cT S) from C.sg.1 0 (by decide)]
    refine ⟨ls_k L hs, sp_hasRoom P (h := cT S) (most := 8) rfl rfl (by omega) (by decide) (fun e m' he f g => q0 (h0 e m' (bd_l he) f.p g)) (fun m1 hm f p => q1 (sp_readThing (nx m1 f p) T hm (fun e m' he f' g => q0 (h0 e m' he (f.p.tr f') g)) (fun S' N' k' m' he f' c => q1 (h1 S' N' k' m' he (f.p.tr f') c))))⟩
  rw [z1] at h0 h1
  refine sp_stands P (c := 6958759667) (by decide) (by decide) (fun q => q1 ?_) (fun z2 => q0 ?_)
  · rw [q] at h0 h1
    rw [C.into, show gI m s 5 = nI (cF S) from C.sg.1 3 (by decide)]
    refine ⟨ls_k L hs, sp_hasRoom P (h := cF S) (most := 6) rfl rfl (by omega) (by decide) (fun e m' he f g => q0 (h0 e m' (bd_l he) f.p g)) (fun m1 hm f p => q1 (sp_readFollows (nx m1 f p) T hm (fun e m' he f' g => q0 (h0 e m' he (f.p.tr f') g)) (fun S' N' k' m' he f' c => q1 (h1 S' N' k' m' he (f.p.tr f') c))))⟩
  rw [z2] at h0 h1
  refine sp_stands P (c := 437899442) (by decide) (by decide) (fun q => q1 ?_) (fun z3 => q0 ?_)
  · rw [q] at h0 h1
    rw [C.into, show gI m s 10 = nI (cM S) from C.sg.1 4 (by decide)]
    refine ⟨ls_k L hs, sp_hasRoom P (h := cM S) (most := 6) rfl rfl (by omega) (by decide) (fun e m' he f g => q0 (h0 e m' (bd_l he) f.p g)) (fun m1 hm f p => q1 (sp_readMaster (nx m1 f p) T hm (fun e m' he f' g => q0 (h0 e m' he (f.p.tr f') g)) (fun S' N' k' m' he f' c => q1 (h1 S' N' k' m' he (f.p.tr f') c))))⟩
  rw [z3] at h0 h1
  refine sp_stands P (c := 12343) (by decide) (by decide) (fun q => q1 ?_) (fun z4 => q0 ?_)
  · rw [q] at h0 h1
    exact sp_nx P (fun m1 f p => sp_readLaw (nx m1 f.pf p) T (fun e m' he f' g => ⟨Or.inl rfl, h0 e m' he (f.pf.p.tr f') g⟩) (fun S' N' k' m' he f' c => ⟨Or.inr rfl, h1 S' N' k' m' he (f.pf.p.tr f') c⟩))
  rw [z4] at h0 h1
  refine sp_stands P (c := 624435) (by decide) (by decide) (fun q => q1 ?_) (fun z5 => q0 ?_)
  · rw [q] at h0 h1
    rw [C.into, show gI m s 14 = nI (cN S) from C.sg.1 7 (by decide)]
    refine ⟨ls_k L hs, sp_hasRoom P (h := cN S) (most := 16) rfl rfl (by omega) (by decide) (fun e m' he f g => q0 (h0 e m' (bd_l he) f.p g)) (fun m1 hm f p => q1 (sp_readSaying (nx m1 f p) T hm (fun e m' he f' g => q0 (h0 e m' he (f.p.tr f') g)) (fun S' N' k' m' he f' c => q1 (h1 S' N' k' m' he (f.p.tr f') c))))⟩
  rw [z5] at h0 h1
  refine sp_stands P (c := 3417476) (by decide) (by decide) (fun q => q1 ?_) (fun z6 => q0 ?_)
  · rw [q] at h0 h1
    rw [C.into, show gI m s 18 = nI (cCh S) from C.sg.1 8 (by decide)]
    refine ⟨ls_k L hs, sp_hasRoom P (h := cCh S) (most := 5) rfl rfl (by omega) (by decide) (fun e m' he f g => q0 (h0 e m' (bd_l he) f.p g)) (fun m1 hm f p => q1 (sp_readChild (nx m1 f p) T hm (fun e m' he f' g => q0 (h0 e m' he (f.p.tr f') g)) (fun S' N' k' m' he f' c => q1 (h1 S' N' k' m' he (f.p.tr f') c))))⟩
  rw [z6] at h0 h1
  refine sp_stands P (c := 21570604) (by decide) (by decide) (fun q => q1 ?_) (fun z7 => q0 ?_)
  · rw [q] at h0 h1
    exact sp_nx P (fun m1 f p => sp_readTrial (nx m1 f.pf p) T (fun e m' he f' g => ⟨Or.inl rfl, h0 e m' he (f.pf.p.tr f') g⟩) (fun S' N' k' m' he f' c => ⟨Or.inr rfl, h1 S' N' k' m' he (f.pf.p.tr f') c⟩))
  rw [z7] at h0
  exact sp_fail P (c := 1) rfl (fun m' f g => ⟨Or.inl rfl, h0 _ m' rfl f.p g⟩)
/-- behind a line -/
def lnT (B : Nat → Nat) (n f : Nat) (S N : Sc) (k : Tk) : Sum Er PS := if k.1 = 3 then pLines B n f S N (adv B n k) else .inr (S, N, k)
theorem pLines_s {f : Nat} : pLines B n (f + 1) S N k = bd (pLine B n S N k) fun q => lnT B n f q.1 q.2.1 q.2.2 := rfl
theorem sp_lines {K : zM → Prop} : ∀ (f x : Nat) (S N : Sc) (k : Tk) (m : zM), f + x = 499 → 2 * x + 1 ≤ k.2.2.1 → PC t m B n s S N k → (∀ e m', lnT B n f S N k = .inl e → FrP s m m' → Fl m' e → K m') → (∀ S' N' k' m', lnT B n f S N k = .inr (S', N', k') → FrP s m m' → PC t m' B n s S' N' k' → K m') → wX3_read_L49 t 2 Q K (f + 2) 1 (nI x) m := by
  intro f
  induction f with
  | zero =>
    intro x S N k m hf hx C h0 h1
    have := C.pb.ok.nx_
    have := C.pb.n9
    omega
  | succ f ih =>
    intro x S N k m hf hx C h0 h1
    have k5 := C.pb.ok.kd
    have nxn := C.pb.ok.nx_
    have n9 := C.pb.n9
    have L := C.pb.lay
    have stop : ∀ (r : Nat) (xx : Int32) (m' : zM), K m' → wX3_read_L49 t 2 Q K (r + 1) 0 xx m' := by
      intro r xx m' hK
      rw [wX3_read_L49]
      exact ⟨fun _ => hK, fun _ => ⟨fun _ => hK, fun z => absurd rfl z⟩⟩
    rw [wX3_read_L49, C.pb.tk.kd, show (3 : Int32) = nI 3 from rfl, nI_eq (by omega) (by decide), show (900 : Int32) = nI 900 from rfl, nI_leI (by decide) (by omega)]
    refine ⟨fun z => by omega, fun _ => ⟨fun z => absurd z (by decide), fun _ => ⟨lk2 L, fun hk => ?_, fun hk => ?_⟩⟩⟩
    · unfold wX3_read_J73
      refine ⟨fun z => absurd z (by decide), fun _ => ⟨lk2 L, sp_nx C.pb (fun m16 f16 P16 => ?_)⟩⟩
      have hs := C.sch
      have h4 : 4 ≤ s := by have := hs.ge; omega
      have C16 : PC t m16 B n s S N (adv B n k) := ⟨P16, (f16.1.2 _ _).trans C.into, hs, C.sg.pf EOc f16.pf h4, C.nm.fr f16.pf, C.vq⟩
      have base : lnT B n (f + 1) S N k = bd (pLine B n S N (adv B n k)) fun q => lnT B n f q.1 q.2.1 q.2.2 := if_pos hk
      refine sp_readLine C16 (fun e m' he f' g => ?_) (fun S' N' k' m' he f' C' => ?_)
      · unfold wX3_read_J87
        exact stop (f + 1) _ m' (h0 e m' (base.trans (bd_l he)) (f16.pf.p.tr f') g)
      · unfold wX3_read_J87
        rw [nI_1]
        have eq : lnT B n (f + 1) S N k = lnT B n f S' N' k' := base.trans (bd_r he)
        have ok := (pLine_ok C.vq P16.ok he).2.2
        have nz : (adv B n k).1 ≠ 0 := by
          intro z
          unfold pLine isW at he
          rw [z] at he
          cases he
        have al := adv_lt (B := B) C.pb.ok nz
        exact ih (x + 1) S' N' k' m' (by omega) (by omega) C' (fun e m2 he' f2 g => h0 e m2 (eq.trans he') (f16.pf.p.tr (f'.tr f2)) g) (fun S2 N2 k2 m2 he' f2 c2 => h1 S2 N2 k2 m2 (eq.trans he') (f16.pf.p.tr (f'.tr f2)) c2)
    · unfold wX3_read_J73
      refine ⟨fun _ => ?_, fun z => absurd rfl z⟩
      unfold wX3_read_J87
      exact stop (f + 1) _ m (h1 S N k m (if_neg hk) FrP.rf C)
end
