/-! Plans: worst, first, mean, meanFirst -/
noncomputable def cpC (S : Sc) (T : Ts) (m : zM) (len : Nat) : Nat × Nat := if 0 < mny S (Wd S T) then plCap S (Wd S T) m len else (0, 0)
noncomputable def cpR (S : Sc) (T : Ts) (m : zM) : Nat × Nat := @ite _ (0 < mny S (Wd S T) ∧ gR m 75 21 = 0) (Classical.propDecidable _) (3, 101252) (0, 0)
section
variable {t t' t1 t2 : zT} {m m' m1 m2 : zM} {s u r : Nat} {S : Sc} {T T' : Ts} {P P' : Nat → Bool} {x x2 x3 r1 r2 w : Int32} {Tl X : List Nat} {R : Nat → Nat → Prop} {a1 a2 a3 b1 b2 b3 len len' kk kw kl : Nat} {mn : Bool}
theorem cpC_0 (h : mny S (Wd S T) = 0) : cpC S T m len = (0, 0) := by unfold cpC; rw [if_neg (by omega)]
theorem cpC_1 (h : 0 < mny S (Wd S T)) : cpC S T m len = plCap S (Wd S T) m len := by unfold cpC; rw [if_pos h]
theorem cpC_3 : (cpC S T m len).1 ≤ 3 := by
  unfold cpC
  split
  · exact plCap_3
  · exact Nat.zero_le _
theorem cpR_0 (h : mny S (Wd S T) = 0) : cpR S T m = (0, 0) := by unfold cpR; rw [if_neg (by omega)]
theorem cpR_1 (h : 0 < mny S (Wd S T)) (h0 : gR m 75 21 = 0) : cpR S T m = (3, 101252) := by unfold cpR; rw [if_pos ⟨h, h0⟩]
theorem cpR_2 (h0 : gR m 75 21 ≠ 0) : cpR S T m = (0, 0) := by unfold cpR; rw [if_neg (fun q => h0 q.2)]
theorem cpR_3 : (cpR S T m).1 ≤ 3 := by
  by_cases h : 0 < mny S (Wd S T) ∧ gR m 75 21 = 0
  · rw [cpR_1 h.1 h.2]; exact Nat.le_refl _
  · unfold cpR; rw [if_neg h]; exact Nat.zero_le _
theorem op_class (o : Op t m s u S T a1 a2 a3 len) (pf : PlF t t1 m m1 a1 a2 a3 b1 b2 b3) (prb : PR t1 m1 b1 b2 b3 len') (pv : PlV S (Wd S T) m1) : Op t1 (pI m1 1 14 w) s u S T b1 b2 b3 len' ∧ Kee m (pI m1 1 14 w) ∧ gR (pI m1 1 14 w) 75 21 = gR m 75 21 := by
  have h85 := o.co.cor.lay.1
  have o1 := o.pr.o1
  have o2 := o.pr.o2
  have o3 := o.pr.o3
  have un := o.un
  have u85 := o.ro.rc.rl.u85
  have au := o.au
  unfold dsj at au
  have gx := pf.gx
  have gn := gx.gn
  have q1 : QF m1 (pI m1 1 14 w) := QF.rf.why w
  have F1 : Fr [1] m1 (pI m1 1 14 w) := Fr.pI Fr.rf (by decide)
  have oX : ∀ a, (a < 52 ∨ 57 < a) → (a < 58 ∨ 60 < a) → a < 85 → a ∉ plX a1 a2 a3 := by
    intro a h1 h2 h3 q
    simp only [plX, List.mem_cons, List.not_mem_nil, or_false] at q
    omega
  have ei : ∀ a, (a < 52 ∨ 57 < a) → (a < 58 ∨ 60 < a) → a < 85 → ∀ k, gI m1 a k = gI m a k := fun a h1 h2 h3 k => (gx.gi a (by omega) (oX a h1 h2 h3) k).1
  have e21 : gR m1 75 21 = gR m 75 21 := gx.gr 75 (by omega) 21 (by unfold plR; omega)
  have les := o.les
  have pfo := o.pf
  refine ⟨⟨(pf.co o.pr o.co).q q1, ?_, ?_, by omega, prb.fr F1, pf.bn, ?_, ?_, ?_, ?_, ?_⟩, ⟨fun k => ei 2 (by decide) (by decide) (by decide) k, fun k => ei 3 (by decide) (by decide) (by decide) k, fun k => ei 76 (by decide) (by decide) (by decide) k, ei 1 (by decide) (by decide) (by decide) 15, ei 1 (by decide) (by decide) (by decide) 16, ei 75 (by decide) (by decide) (by decide) 6, ei 75 (by decide) (by decide) (by decide) 13⟩, e21⟩
  · refine (o.ro.gx gx un (fun a ha => ?_) (ei 75 (by decide) (by decide) (by decide) 28) plR_lay (by unfold plR; omega) (fun k => by unfold plR; omega)).c q1
    simp only [plX, List.mem_cons, List.not_mem_nil, or_false] at ha
    omega
  · exact (gx.gr 2 (by omega) 4 (by unfold plR; omega)).trans o.into
  · unfold dsj
    rcases pf.ab with ⟨_, p1, p2, p3⟩ | p
    · omega
    · omega
  · rcases o.kn with h | ⟨kk, kw, kl, K, d1, d2, d3, n1⟩
    · exact Or.inl (e21.trans h)
    · have Kn := K.n
      have Ko := K.o
      refine Or.inr ⟨kk, kw, kl, (K.gx gx (by omega) (fun k => by unfold plR; omega) (fun k => by unfold plR; omega)).fr F1, d1, d2, d3, ?_⟩
      rcases pf.ab with ⟨_, p1, p2, p3⟩ | p
      · rw [p1, p2, p3]; exact n1
      · omega
  · have : gI (pI m1 1 14 w) 1 12 = gI m 1 12 := ei 1 (by decide) (by decide) (by decide) 12
    rw [this]; exact les
  · unfold pfOK at pfo ⊢
    have e48 : gI (pI m1 1 14 w) 48 1 = gI m 48 1 := ei 48 (by decide) (by decide) (by decide) 1
    have e51 : ∀ k, gI (pI m1 1 14 w) 51 k = gI m 51 k := fun k => ei 51 (by decide) (by decide) (by decide) k
    simp only [e48, e51]
    exact pfo
  · exact Or.inr pv
theorem op_ref (o : Op t m s u S T a1 a2 a3 len) (hw : gI m 1 14 = w) (h4 : w ≠ 4) (rp : RPl t t2 (pI m 75 0 0) m2 u S T mn kk kw kl) : Op t2 (pI (pI m2 75 1 w) 75 2 (-1)) s u S T a1 a2 a3 len ∧ Kee m (pI (pI m2 75 1 w) 75 2 (-1)) ∧ tbl (pI (pI m2 75 1 w) 75 2 (-1)) ∧ gR (pI (pI m2 75 1 w) 75 2 (-1)) 75 21 ≠ 0 := by
  have h85 := o.co.cor.lay.1
  have un := o.un
  have an := o.an
  have Ko := rp.kr.o
  have gx := rp.gx
  have gn := gx.gn
  have u85 := o.ro.rc.rl.u85
  have q2 : QR m2 (pI (pI m2 75 1 w) 75 2 (-1)) := (QR.rf.p (Or.inr (Or.inl rfl)) w).p (Or.inr (Or.inr (Or.inl rfl))) (-1)
  have F2 : Fr [75] m2 (pI (pI m2 75 1 w) 75 2 (-1)) := Fr.pI (Fr.pI Fr.rf (by decide)) (by decide)
  have oX : ∀ a, a < 75 ∨ a = 76 → a ∉ [75, 78, 79, 80, kw, kl] := by
    intro a h1 q
    simp only [List.mem_cons, List.not_mem_nil, or_false] at q
    omega
  have ei : ∀ a, a < 75 ∨ a = 76 → ∀ k, gI (pI (pI m2 75 1 w) 75 2 (-1)) a k = gI m a k := fun a h1 k => by
    rw [F2.I (by simp only [List.mem_cons, List.not_mem_nil, or_false]; omega), (gx.gi a (by omega) (oX a h1) k).1, gII, if_neg (by omega)]
  have e75 : ∀ j, j ≠ 0 → j ≠ 1 → j ≠ 2 → j ≠ 19 → j ≠ 24 → gI (pI (pI m2 75 1 w) 75 2 (-1)) 75 j = gI m 75 j := fun j a b c d e => by
    rw [gII, if_neg (fun q => c q.2), gII, if_neg (fun q => b q.2), rp.x75 j a b c d e, gII, if_neg (fun q => a q.2)]
  have co0 : CO t (pI m 75 0 0) s S T := o.co.r (thr m)
  have les := o.les
  have pfo := o.pf
  have pko := o.pk
  have e21 : gR (pI (pI m2 75 1 w) 75 2 (-1)) 75 21 = kk := rp.kr.r21
  refine ⟨⟨(co0.gx gx (fun a ha => ?_) krR_lay (by unfold krR; omega) (by unfold krR; omega)).r q2, rp.ro.q q2, ?_, by omega, ?_, ⟨by omega, by omega, by omega⟩, o.au, ?_, ?_, ?_, ?_⟩, ⟨fun k => ei 2 (by decide) k, fun k => ei 3 (by decide) k, fun k => ei 76 (by decide) k, ei 1 (by decide) 15, ei 1 (by decide) 16, e75 6 (by decide) (by decide) (by decide) (by decide) (by decide), e75 13 (by decide) (by decide) (by decide) (by decide) (by decide)⟩, ⟨?_, ?_, ?_⟩, ?_⟩
  · simp only [List.mem_cons, List.not_mem_nil, or_false] at ha
    omega
  · exact (gx.gr 2 (by omega) 4 (by unfold krR; omega)).trans o.into
  · exact ((o.pr.fr (thr m).1).gx gx (by omega) an (fun k => by unfold krR; omega)).fr F2
  · refine Or.inr ⟨kk, kw, kl, rp.kr.fr F2, ?_⟩
    rcases rp.cs with ⟨_, p1, p2, p3, _⟩ | ⟨K, _⟩
    · unfold dsj; omega
    · have K' : KR t m kk kw kl := K
      rcases o.kn with h | ⟨kk', kw', kl', K2, d1⟩
      · have := K'.r21
        omega
      · have e1 : kk = kk' := K'.r21.symm.trans K2.r21
        subst e1
        have e2 : kw = kw' := K'.r0.symm.trans K2.r0
        have e3 : kl = kl' := K'.r1.symm.trans K2.r1
        subst e2 e3
        exact d1
  · rw [ei 1 (by decide)]; exact les
  · unfold pfOK at pfo ⊢
    simp only [ei 48 (by decide), ei 51 (by decide)]
    exact pfo
  · unfold plOK PlV at pko ⊢
    simp only [ei 52 (by decide)]
    exact pko
  · rw [ei 1 (by decide), hw]
    simp (config := { decide := true }) only [gII, and_false, if_false, and_self, if_true]
  · simp (config := { decide := true }) only [gII, and_self, if_true]
  · rw [ei 1 (by decide), hw]; exact h4
  · rw [e21]; omega
/-- how many the class's and the reference's rows take together -/
theorem us_plan (v : Vs S) (hp : 0 < mny S (Wd S T)) (e1 : gR m1 75 21 = gR m 75 21) (e2 : gR m2 75 21 ≠ 0) : us m len + (cpC S T m len).2 + (cpR S T m).2 ≤ us m2 (plLen S (Wd S T) m len) := by
  have pp := plCap_pot (P := Wd S T) (m := m) (len := len) v
  rw [us_1 e2, cpC_1 hp]
  by_cases z : gR m 75 21 = 0
  · rw [us_0 z, cpR_1 hp z]
    show pot len + (plCap S (Wd S T) m len).2 + 101252 ≤ _
    omega
  · rw [us_1 z, cpR_2 z]
    show pot len + 101252 + (plCap S (Wd S T) m len).2 + 0 ≤ _
    omega
/-- the class has its plan; the reference follows -/
theorem plan_go (o : Op t m s u S T a1 a2 a3 len) (hp : 0 < mny S (Wd S T)) (pf : PlF t t1 m m1 a1 a2 a3 b1 b2 b3) (prb : PR t1 m1 b1 b2 b3 (plLen S (Wd S T) m len)) (pv : PlV S (Wd S T) m1) (h4 : w ≠ 4) {Q : Int32 → zT → zM → Prop} (hQ : ∀ t2 m2 kk kw kl, RPl t1 t2 (pI (pI m1 1 14 w) 75 0 0) m2 u S T mn kk kw kl → (∀ r1, Res t m s u S len (cpC S T m len) (cpR S T m) r1 r1 t2 (pI (pI m2 75 1 w) 75 2 (-1))) → Q 0 t2 m2) : wX12_refusesPlan (cpR S T m) t1 (pI (pI m1 1 14 w) 75 0 0) 75 (bI mn) Q := by
  obtain ⟨o1, k1, e21⟩ := op_class (w := w) o pf prb pv
  have v := o.co.cor.vs
  have d1 := o1.ro.q (thr _)
  have f0 := (thr (pI m1 1 14 w)).1
  refine rsp_refusesPlan d1 o1.un ?_ (fun hz => by omega) (fun _ t2 m2 kk kw kl rp => ?_)
  · rcases o1.kn with h | ⟨kk, kw, kl, K, d1, d2, d3, _⟩
    · refine Or.inl ⟨h, fun _ => ?_⟩
      rw [cpR_1 hp (e21.symm.trans h)]
      exact ⟨Nat.le_refl _, Nat.le_refl _⟩
    · exact Or.inr ⟨kk, kw, kl, K.fr f0, d1, d2, d3⟩
  · obtain ⟨o2, k2, t2', ne⟩ := op_ref o1 (w14 _ _) h4 rp
    exact hQ t2 m2 kk kw kl rp (fun r1 => ⟨rfl, ⟨T, b1, b2, b3, _, o2, us_plan v hp e21 ne⟩, k1.tr k2, t2'⟩)
/-- no worlds: both refuse -/
theorem plan_no (o : Op t m s u S T a1 a2 a3 len) (hz : mny S (Wd S T) = 0) {Q : Int32 → zT → zM → Prop} (hQ : ∀ m2, (∀ r1, Res t m s u S len (cpC S T m len) (cpR S T m) r1 r1 t (pI (pI m2 75 1 6) 75 2 (-1))) → Q 6 t m2) : wX12_refusesPlan (cpR S T m) t (pI (pI m 1 14 6) 75 0 0) 75 (bI mn) Q := by
  have q1 : QF m (pI m 1 14 6) := QF.rf.why 6
  have d1 := (o.ro.c q1).q (thr _)
  have L := o.co.cor.lay
  refine rsp_refusesPlan d1 o.un ?_ (fun _ m2 q2 => hQ m2 (fun r1 => ?_)) (fun hp => by omega)
  · rcases o.kn with h | ⟨kk, kw, kl, K, d1, d2, d3, _⟩
    · exact Or.inl ⟨h, fun q => by omega⟩
    · exact Or.inr ⟨kk, kw, kl, (K.fr q1.1).fr (thr _).1, d1, d2, d3⟩
  · rw [cpC_0 hz, cpR_0 hz]
    exact res_fin o (fin_raw L q1 (w14 m 6) ((thr _).tr q2) (by decide) r1)
/-- the reference's least cost now -/
theorem least_now (v : Vs S) (hp : 0 < mny S (Wd S T)) (rp : RPl t t2 m m2 u S T mn kk kw kl) : gI m2 kl (vr S (dF S T)) = nI (FF S mn (U0 S (Wd S T)) (Wd S T)) := by
  rw [rp.hL _ (dF_ok v), Xr_dF, FF_both v hp]
theorem sx_prepare (o : Op t m s u S T a1 a2 a3 len) (hp : 0 < mny S (Wd S T)) {Q : zT → zM → Prop} (hQ : ∀ t1 m1 b1 b2 b3, PlF t t1 m m1 a1 a2 a3 b1 b2 b3 → PR t1 m1 b1 b2 b3 (plLen S (Wd S T) m len) → PlV S (Wd S T) m1 → tK t1 1 = 9 → tK t1 52 = 1 → gR m1 1 5 = 52 → Q t1 m1) : wX1_prepare (cpC S T m len) t m 52 20 68 Q := by
  have h85 := o.co.cor.lay.1
  have L := o.co.cor.lay
  refine sp_prepare o.co o.pr o.an o.pk (cpC_1 hp) (fun t1 m1 b1 b2 b3 p1 p2 p3 => ?_)
  have L1 := (p2.co o.pr o.co).cor.lay
  exact hQ t1 m1 b1 b2 b3 p2 p1 p3 (lk1 L1) (lk52 L1) (lr1_5 L1)
theorem call_worst (o : Op t m s u S T a1 a2 a3 len) : wX9_worst (cpC S T m len) t m 1 (fun r t1 m1 => wX12_worst (cpR S T m) t1 m1 75 (fun r2 t2 m2 => Res t m s u S len (cpC S T m len) (cpR S T m) r r2 t2 m2)) := by
  have c := o.co
  have L := c.cor.lay
  have v := c.cor.vs
  unfold wX9_worst
  refine ⟨lk1 L, cx_isOpen c (cx_without c (fun h => absurd h (by decide)) (fun _ hz => ⟨fun h => absurd h (by decide), fun _ => cx_refuse L ?_⟩) (fun _ hp => ⟨fun _ => ?_, fun h => absurd rfl h⟩))⟩
  · unfold wX12_worst
    refine ⟨lk75 L, cpR S T m, ⟨by omega, by omega⟩, plan_no (mn := false) o hz (fun m2 h => ⟨fun h => absurd h (by decide), fun _ => ⟨lk75 L, rx_refused L (h _)⟩⟩)⟩
  · rw [lr1_5 L, lr1_2 L, lr1_8 L]
    refine ⟨lk52 L, cpC S T m len, ⟨by omega, by omega⟩, sx_prepare o hp (fun t1 m1 b1 b2 b3 pf prb pv k1 k52 r5 => ?_)⟩
    have L1 := (pf.co o.pr c).cor.lay
    rw [r5]
    refine ⟨k1, k52, ?_⟩
    have ref : ∀ ra : Int32, (∀ f : Nat, f = FF S false (U0 S (Wd S T)) (Wd S T) → (f < INF → ra = nI f) ∧ (INF ≤ f → ra = -2)) → wX9_worst_J57 t1 m1 ra 1 (fun r t1 m1 => wX12_worst (cpR S T m) t1 m1 75 (fun r2 t2 m2 => Res t m s u S len (cpC S T m len) (cpR S T m) r r2 t2 m2)) := by
      intro ra hra
      unfold wX9_worst_J57
      refine ⟨k1, cx_accept L1 ?_⟩
      unfold wX12_worst wX12_worst_J45
      refine ⟨lk75 L1, cpR S T m, ⟨by omega, by omega⟩, plan_go (mn := false) o hp pf prb pv (by decide) (fun t2 m2 kk kw kl rp res => ⟨fun _ => ⟨lk75 rp.rwk.rc.lay, rsp_knownNow rp.rwk rp.ro.tm ?_⟩, fun h => absurd (by decide) h⟩)⟩
      have fi : FF S false (U0 S (Wd S T)) (Wd S T) ≤ 268435456 := FF_inf
      have vlt := vr_lt v (dF_ok (T := T) v)
      obtain ⟨h1, h2⟩ := hra _ rfl
      rw [rp.rwk.r23, rp.rwk.kkl, rp.rwk.lkl, nI_cl (show vr S (dF S T) < 2 ^ 31 by omega), least_now v hp rp]
      refine ⟨rfl, vp_nI vlt (by decide), fun x12 h12 => ?_⟩
      rw [h12, nI_inf, nI_ltI (by omega) (by decide)]
      refine ⟨fun hlt => ⟨lk75 rp.rwk.rc.lay, rx_good rp.rwk.rc.lay ?_⟩, fun hlt => ⟨lk75 rp.rwk.rc.lay, rx_good rp.rwk.rc.lay ?_⟩⟩
      · rw [h1 hlt]; exact res _
      · rw [h2 (by omega)]; exact res _
    rcases pv.2 with ⟨p1, p2⟩ | ⟨p1, p2, p3, _⟩
    · rw [p1]
      refine ⟨fun _ => ref (-2) (fun f hf => ⟨fun hlt => ?_, fun _ => rfl⟩), fun h => absurd rfl h⟩
      rw [FF_no (mn := false) (ctU S (U0 S (Wd S T))) (Nat.le_refl _) p2 v] at hf
      omega
    · rw [p1, p3]
      refine ⟨fun h => absurd h (by decide), fun _ => ref _ (fun f hf => ⟨fun _ => by rw [hf], fun hge => ?_⟩)⟩
      have := FF_fin2 (mn := false) v p2
      unfold INF at hge
      omega
end
