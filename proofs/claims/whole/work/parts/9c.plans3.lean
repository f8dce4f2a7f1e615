/-! Plans: first, mean, meanFirst -/
section
variable {t t' t1 t2 : zT} {m m' m1 m2 : zM} {s u r : Nat} {S : Sc} {T T' : Ts} {P P' : Nat → Bool} {x x2 x3 r1 r2 w : Int32} {Tl X : List Nat} {R : Nat → Nat → Prop} {a1 a2 a3 b1 b2 b3 len len' kk kw kl : Nat} {mn : Bool}
theorem rx_lowest {m0 : zM} (L : Lay t m0) {a b : Nat} {f : Int32} (ha : a < 2 ^ 31) (hb : b < 2 ^ 31) (b0 : 0 < b) {Q : Int32 → zM → Prop} (hQ : Q (nI ((if f = 0 then a else b) / Nat.gcd a b)) (pI (pI m 75 1 0) 75 2 (-1))) : wX12_lowest t m 75 (lN a) (lN b) f Q := by
  have g0 : 0 < Nat.gcd a b := Nat.gcd_pos_of_pos_right a b0
  have gl : Nat.gcd a b ≤ b := Nat.gcd_le_right a b0
  have ne : ¬ lN (Nat.gcd a b) = 0 := fun e => by
    have := (pk_lEQ (b := 0) (show Nat.gcd a b < 2 ^ 63 by omega) (by decide)).mp e
    omega
  have dl : ∀ x, x < 2 ^ 31 → x / Nat.gcd a b < 2 ^ 31 := fun x hx => Nat.lt_of_le_of_lt (Nat.div_le_self _ _) hx
  unfold wX12_lowest wX12_lowest_J11 wX12_divisor
  refine ⟨fun hf => ⟨b + 1, rsp_divisor_L b a b _ _ (Nat.le_refl _) ha hb rfl rfl ⟨ne, lk75 L, rx_good L ?_⟩⟩, fun hf => ⟨b + 1, rsp_divisor_L b a b _ _ (Nat.le_refl _) ha hb rfl rfl ⟨ne, lk75 L, rx_good L ?_⟩⟩⟩
  · rw [if_pos hf] at hQ
    rw [pk_lDiv (by omega) g0 (by omega), lN_nI (dl a ha)]; exact hQ
  · rw [if_neg hf] at hQ
    rw [pk_lDiv (by omega) g0 (by omega), lN_nI (dl b hb)]; exact hQ
theorem sx_withoutPlan (o : Op t m s u S T a1 a2 a3 len) {Q : Int32 → zT → zM → Prop} (h6 : mny S (Wd S T) = 0 → Q 6 t m) (h5 : 0 < mny S (Wd S T) → ¬ sep S (U0 S (Wd S T)) (Wd S T) → ∀ t1 m1 b1 b2 b3, PlF t t1 m m1 a1 a2 a3 b1 b2 b3 → PR t1 m1 b1 b2 b3 (plLen S (Wd S T) m len) → PlV S (Wd S T) m1 → Lay t1 m1 → Q 5 t1 m1) (h0 : 0 < mny S (Wd S T) → sep S (U0 S (Wd S T)) (Wd S T) → ∀ t1 m1 b1 b2 b3, PlF t t1 m m1 a1 a2 a3 b1 b2 b3 → PR t1 m1 b1 b2 b3 (plLen S (Wd S T) m len) → PlV S (Wd S T) m1 → Lay t1 m1 → gI m1 52 3 = fsI S false (U0 S (Wd S T)) (Wd S T) → gI m1 52 4 = nI (FF S true (U0 S (Wd S T)) (Wd S T)) → gI m1 52 5 = fsI S true (U0 S (Wd S T)) (Wd S T) → Q 0 t1 m1) : wX9_withoutPlan (cpC S T m len) t m 1 Q := by
  have c := o.co
  have L := c.cor.lay
  unfold wX9_withoutPlan
  refine ⟨lk1 L, cx_isOpen c (cx_without c (fun h => absurd h (by decide)) (fun _ hz => ⟨fun h => absurd h (by decide), fun _ => h6 hz⟩) (fun _ hp => ⟨fun _ => ?_, fun h => absurd rfl h⟩))⟩
  rw [lr1_5 L, lr1_2 L, lr1_8 L]
  refine ⟨lk52 L, cpC S T m len, ⟨by omega, by omega⟩, sx_prepare o hp (fun t1 m1 b1 b2 b3 pf prb pv k1 k52 r5 => ?_)⟩
  have L1 := (pf.co o.pr c).cor.lay
  rw [r5]
  refine ⟨k1, k52, ?_⟩
  rcases pv.2 with ⟨p1, p2⟩ | ⟨p1, p2, _, p4, p5, p6⟩
  · rw [p1]
    exact ⟨fun _ => h5 hp p2 t1 m1 b1 b2 b3 pf prb pv L1, fun h => absurd rfl h⟩
  · rw [p1]
    exact ⟨fun h => absurd h (by decide), fun _ => h0 hp p2 t1 m1 b1 b2 b3 pf prb pv L1 p4 p5 p6⟩
theorem ref_first_no (o : Op t m s u S T a1 a2 a3 len) (hz : mny S (Wd S T) = 0) : wX12_firstBy (cpR S T m) t (pI (pI m 1 14 6) 75 0 0) 75 (bI mn) (fun r2 t2 m2 => Res t m s u S len (cpC S T m len) (cpR S T m) (-1) r2 t2 m2) := by
  have L := o.co.cor.lay
  unfold wX12_firstBy
  exact ⟨lk75 L, cpR S T m, ⟨by omega, by omega⟩, plan_no (mn := mn) o hz (fun m2 h => ⟨fun h => absurd h (by decide), fun _ => ⟨lk75 L, rx_refused L (h _)⟩⟩)⟩
theorem ref_first (o : Op t m s u S T a1 a2 a3 len) (hp : 0 < mny S (Wd S T)) (pf : PlF t t1 m m1 a1 a2 a3 b1 b2 b3) (prb : PR t1 m1 b1 b2 b3 (plLen S (Wd S T) m len)) (pv : PlV S (Wd S T) m1) (L1 : Lay t1 m1) (h : (sep S (U0 S (Wd S T)) (Wd S T) ∧ w = 0 ∧ r1 = fsI S mn (U0 S (Wd S T)) (Wd S T)) ∨ (¬ sep S (U0 S (Wd S T)) (Wd S T) ∧ w = 5 ∧ r1 = -1)) : wX12_firstBy (cpR S T m) t1 (pI (pI m1 1 14 w) 75 0 0) 75 (bI mn) (fun r2 t2 m2 => Res t m s u S len (cpC S T m len) (cpR S T m) r1 r2 t2 m2) := by
  have v := o.co.cor.vs
  have h4 : w ≠ 4 := by
    rcases h with ⟨_, a, _⟩ | ⟨_, a, _⟩
    · rw [a]; decide
    · rw [a]; decide
  unfold wX12_firstBy
  refine ⟨lk75 L1, cpR S T m, ⟨by omega, by omega⟩, plan_go (mn := mn) o hp pf prb pv h4 (fun t2 m2 kk kw kl rp res => ⟨fun _ => ⟨lk75 rp.rwk.rc.lay, rsp_knownNow rp.rwk rp.ro.tm ?_⟩, fun h => absurd (by decide) h⟩)⟩
  have L2 := rp.rwk.rc.lay
  have fi : FF S mn (U0 S (Wd S T)) (Wd S T) ≤ 268435456 := FF_inf
  have vlt := vr_lt v (dF_ok (T := T) v)
  rw [rp.rwk.r23, rp.rwk.kkl, rp.rwk.lkl, nI_cl (show vr S (dF S T) < 2 ^ 31 by omega), least_now v hp rp, nI_inf, nI_ltI (by omega) (by decide)]
  refine ⟨rfl, vp_nI vlt (by decide), fun hlt => ?_, fun hlt => rx_refused L2 ?_⟩
  · rcases h with ⟨a, b, e⟩ | ⟨a, _⟩
    · refine rsp_firstNow rp.rwk rp.ro.tm rp.hW rp.hL (by rw [Xr_dF, FF_both v hp]; exact hlt) (rx_good L2 ?_)
      rw [Xr_dF, fs_both v hp a, ← e, ← b]
      exact res _
    · have := FF_no (mn := mn) (ctU S (U0 S (Wd S T))) (Nat.le_refl _) a v
      omega
  · rcases h with ⟨a, _⟩ | ⟨a, b, e⟩
    · have := FF_fin2 (mn := mn) v a
      unfold INF at hlt
      omega
    · rw [e, ← b]
      exact res _
theorem call_first (o : Op t m s u S T a1 a2 a3 len) : wX9_first (cpC S T m len) t m 1 (fun r t1 m1 => wX12_first (cpR S T m) t1 m1 75 (fun r2 t2 m2 => Res t m s u S len (cpC S T m len) (cpR S T m) r r2 t2 m2)) := by
  have L := o.co.cor.lay
  unfold wX9_first
  refine ⟨lk1 L, cpC S T m len, ⟨by omega, by omega⟩, sx_withoutPlan o (fun hz => ⟨fun h => absurd h (by decide), fun _ => ⟨lk1 L, cx_refuse L ?_⟩⟩) (fun hp hs t1 m1 b1 b2 b3 pf prb pv L1 => ⟨fun h => absurd h (by decide), fun _ => ⟨lk1 L1, cx_refuse L1 ?_⟩⟩) (fun hp hs t1 m1 b1 b2 b3 pf prb pv L1 e3 e4 e5 => ⟨fun _ => ?_, fun h => absurd rfl h⟩)⟩
  · unfold wX12_first
    exact ⟨lk75 L, cpR S T m, ⟨by omega, by omega⟩, ref_first_no (mn := false) o hz⟩
  · unfold wX12_first
    exact ⟨lk75 L1, cpR S T m, ⟨by omega, by omega⟩, ref_first (mn := false) o hp pf prb pv L1 (Or.inr ⟨hs, rfl, rfl⟩)⟩
  · rw [lr1_5 L1, e3]
    refine ⟨lk1 L1, lk52 L1, cx_accept L1 ?_⟩
    unfold wX12_first
    exact ⟨lk75 L1, cpR S T m, ⟨by omega, by omega⟩, ref_first (mn := false) o hp pf prb pv L1 (Or.inl ⟨hs, rfl, rfl⟩)⟩
theorem call_meanFirst (o : Op t m s u S T a1 a2 a3 len) : wX9_meanFirst (cpC S T m len) t m 1 (fun r t1 m1 => wX12_meanFirst (cpR S T m) t1 m1 75 (fun r2 t2 m2 => Res t m s u S len (cpC S T m len) (cpR S T m) r r2 t2 m2)) := by
  have L := o.co.cor.lay
  unfold wX9_meanFirst
  refine ⟨lk1 L, cpC S T m len, ⟨by omega, by omega⟩, sx_withoutPlan o (fun hz => ⟨fun h => absurd h (by decide), fun _ => ⟨lk1 L, cx_refuse L ?_⟩⟩) (fun hp hs t1 m1 b1 b2 b3 pf prb pv L1 => ⟨fun h => absurd h (by decide), fun _ => ⟨lk1 L1, cx_refuse L1 ?_⟩⟩) (fun hp hs t1 m1 b1 b2 b3 pf prb pv L1 e3 e4 e5 => ⟨fun _ => ?_, fun h => absurd rfl h⟩)⟩
  · unfold wX12_meanFirst
    exact ⟨lk75 L, cpR S T m, ⟨by omega, by omega⟩, ref_first_no (mn := true) o hz⟩
  · unfold wX12_meanFirst
    exact ⟨lk75 L1, cpR S T m, ⟨by omega, by omega⟩, ref_first (mn := true) o hp pf prb pv L1 (Or.inr ⟨hs, rfl, rfl⟩)⟩
  · rw [lr1_5 L1, e5]
    refine ⟨lk1 L1, lk52 L1, cx_accept L1 ?_⟩
    unfold wX12_meanFirst
    exact ⟨lk75 L1, cpR S T m, ⟨by omega, by omega⟩, ref_first (mn := true) o hp pf prb pv L1 (Or.inl ⟨hs, rfl, rfl⟩)⟩
theorem call_mean (o : Op t m s u S T a1 a2 a3 len) : wX9_mean (cpC S T m len) t m 1 x (fun r t1 m1 => wX12_mean (cpR S T m) t1 m1 75 x (fun r2 t2 m2 => Res t m s u S len (cpC S T m len) (cpR S T m) r r2 t2 m2)) := by
  have L := o.co.cor.lay
  have v := o.co.cor.vs
  have ml := mny_le (S := S) (Wd S T)
  have hc := v.cnt
  -- the reference
  have ref : ∀ t1 m1 b1 b2 b3, 0 < mny S (Wd S T) → PlF t t1 m m1 a1 a2 a3 b1 b2 b3 → PR t1 m1 b1 b2 b3 (plLen S (Wd S T) m len) → PlV S (Wd S T) m1 → Lay t1 m1 → ∀ w r1 : Int32, ((sep S (U0 S (Wd S T)) (Wd S T) ∧ w = 0 ∧ r1 = nI ((if x = 0 then FF S true (U0 S (Wd S T)) (Wd S T) else mny S (Wd S T)) / Nat.gcd (FF S true (U0 S (Wd S T)) (Wd S T)) (mny S (Wd S T)))) ∨ (¬ sep S (U0 S (Wd S T)) (Wd S T) ∧ w = 5 ∧ r1 = -1)) → wX12_mean (cpR S T m) t1 (pI m1 1 14 w) 75 x (fun r2 t2 m2 => Res t m s u S len (cpC S T m len) (cpR S T m) r1 r2 t2 m2) := by
    intro t1 m1 b1 b2 b3 hp pf prb pv L1 w r1 h
    have h4 : w ≠ 4 := by
      rcases h with ⟨_, a, _⟩ | ⟨_, a, _⟩
      · rw [a]; decide
      · rw [a]; decide
    unfold wX12_mean
    refine ⟨lk75 L1, cpR S T m, ⟨by omega, by omega⟩, plan_go (mn := true) o hp pf prb pv h4 (fun t2 m2 kk kw kl rp res => ⟨fun _ => ⟨lk75 rp.rwk.rc.lay, rsp_knownNow rp.rwk rp.ro.tm ?_⟩, fun h => absurd (by decide) h⟩)⟩
    have L2 := rp.rwk.rc.lay
    have fi : FF S true (U0 S (Wd S T)) (Wd S T) ≤ 268435456 := FF_inf
    have vlt := vr_lt v (dF_ok (T := T) v)
    rw [rp.rwk.r23, rp.rwk.kkl, rp.rwk.lkl, nI_cl (show vr S (dF S T) < 2 ^ 31 by omega), least_now v hp rp, rp.many, nI_l (show mny S (Wd S T) < 2 ^ 31 by omega)]
    refine ⟨rfl, vp_nI vlt (by decide), fun x12 h12 => ?_⟩
    rw [h12, nI_inf, nI_ltI (by omega) (by decide), nI_l (by omega)]
    refine ⟨fun hlt => ?_, fun hlt => rx_refused L2 ?_⟩
    · rcases h with ⟨a, b, e⟩ | ⟨a, _⟩
      · refine rx_lowest L2 (by omega) (by omega) hp ?_
        rw [← e, ← b]
        exact res _
      · have := FF_no (mn := true) (ctU S (U0 S (Wd S T))) (Nat.le_refl _) a v
        omega
    · rcases h with ⟨a, _⟩ | ⟨a, b, e⟩
      · have := FF_fin2 (mn := true) v a
        unfold INF at hlt
        omega
      · rw [e, ← b]
        exact res _
  unfold wX9_mean
  refine ⟨lk1 L, cpC S T m len, ⟨by omega, by omega⟩, sx_withoutPlan o (fun hz => ⟨fun h => absurd h (by decide), fun _ => ⟨lk1 L, cx_refuse L ?_⟩⟩) (fun hp hs t1 m1 b1 b2 b3 pf prb pv L1 => ⟨fun h => absurd h (by decide), fun _ => ⟨lk1 L1, cx_refuse L1 ?_⟩⟩) (fun hp hs t1 m1 b1 b2 b3 pf prb pv L1 e3 e4 e5 => ⟨fun _ => ?_, fun h => absurd rfl h⟩)⟩
  · unfold wX12_mean
    exact ⟨lk75 L, cpR S T m, ⟨by omega, by omega⟩, plan_no (mn := true) o hz (fun m2 h => ⟨fun h => absurd h (by decide), fun _ => ⟨lk75 L, rx_refused L (h _)⟩⟩)⟩
  · exact ref t1 m1 b1 b2 b3 hp pf prb pv L1 5 (-1) (Or.inr ⟨hs, rfl, rfl⟩)
  · have c1 := pf.co o.pr o.co
    have fin := FF_fin2 (mn := true) v hs
    have em : gI m1 68 2 = nI (mny S (Wd S T)) := c1.wor.members
    rw [lr1_5 L1, lr1_8 L1, e4, em]
    refine ⟨lk1 L1, lk52 L1, lk68 L1, sp_lowest (by omega) (by omega) hp (cx_accept L1 ?_)⟩
    exact ref t1 m1 b1 b2 b3 hp pf prb pv L1 0 _ (Or.inl ⟨hs, rfl, rfl⟩)
end
