/-! Plans: the reference's tables, made or not -/
/-- what stands behind the reference's tables -/
def RPl (t : zT) (t' : zT) (m : zM) (m' : zM) (u : Nat) (S : Sc) (T : Ts) (mn : Bool) (kk : Nat) (kw : Nat) (kl : Nat) : Prop := (KR t' m' kk kw kl) ∧ ((gR m 75 21 = 0 ∧ kk = tN t ∧ kw = tN t + 1 ∧ kl = tN t + 2 ∧ tN t' = tN t + 3) ∨ (KR t m kk kw kl ∧ t' = t)) ∧ (RW t' m' S u kw kl) ∧ (Gx t t' m m' [75, 78, 79, 80, kw, kl] krR) ∧ (∀ j, j ≠ 0 → j ≠ 1 → j ≠ 2 → j ≠ 19 → j ≠ 24 → gI m' 75 j = gI m 75 j) ∧ (∀ d, okd (NR S) d (cT S) → gI m' kw (vr S d) = nI (mny S (Xr S (Wd S T) d))) ∧ (∀ d, okd (NR S) d (cT S) → gI m' kl (vr S d) = nI (FF S mn (Ur S d) (Xr S (Wd S T) d))) ∧ (RO t' m' u S T) ∧ (gI m' 75 19 = nI (mny S (Wd S T)))
theorem RPl.kr {t : zT} {t' : zT} {m : zM} {m' : zM} {u : Nat} {S : Sc} {T : Ts} {mn : Bool} {kk : Nat} {kw : Nat} {kl : Nat} (h_ : RPl t t' m m' u S T mn kk kw kl) : KR t' m' kk kw kl := h_.1
theorem RPl.cs {t : zT} {t' : zT} {m : zM} {m' : zM} {u : Nat} {S : Sc} {T : Ts} {mn : Bool} {kk : Nat} {kw : Nat} {kl : Nat} (h_ : RPl t t' m m' u S T mn kk kw kl) : (gR m 75 21 = 0 ∧ kk = tN t ∧ kw = tN t + 1 ∧ kl = tN t + 2 ∧ tN t' = tN t + 3) ∨ (KR t m kk kw kl ∧ t' = t) := h_.2.1
theorem RPl.rwk {t : zT} {t' : zT} {m : zM} {m' : zM} {u : Nat} {S : Sc} {T : Ts} {mn : Bool} {kk : Nat} {kw : Nat} {kl : Nat} (h_ : RPl t t' m m' u S T mn kk kw kl) : RW t' m' S u kw kl := h_.2.2.1
theorem RPl.gx {t : zT} {t' : zT} {m : zM} {m' : zM} {u : Nat} {S : Sc} {T : Ts} {mn : Bool} {kk : Nat} {kw : Nat} {kl : Nat} (h_ : RPl t t' m m' u S T mn kk kw kl) : Gx t t' m m' [75, 78, 79, 80, kw, kl] krR := h_.2.2.2.1
theorem RPl.x75 {t : zT} {t' : zT} {m : zM} {m' : zM} {u : Nat} {S : Sc} {T : Ts} {mn : Bool} {kk : Nat} {kw : Nat} {kl : Nat} (h_ : RPl t t' m m' u S T mn kk kw kl) : ∀ j, j ≠ 0 → j ≠ 1 → j ≠ 2 → j ≠ 19 → j ≠ 24 → gI m' 75 j = gI m 75 j := h_.2.2.2.2.1
theorem RPl.hW {t : zT} {t' : zT} {m : zM} {m' : zM} {u : Nat} {S : Sc} {T : Ts} {mn : Bool} {kk : Nat} {kw : Nat} {kl : Nat} (h_ : RPl t t' m m' u S T mn kk kw kl) : ∀ d, okd (NR S) d (cT S) → gI m' kw (vr S d) = nI (mny S (Xr S (Wd S T) d)) := h_.2.2.2.2.2.1
theorem RPl.hL {t : zT} {t' : zT} {m : zM} {m' : zM} {u : Nat} {S : Sc} {T : Ts} {mn : Bool} {kk : Nat} {kw : Nat} {kl : Nat} (h_ : RPl t t' m m' u S T mn kk kw kl) : ∀ d, okd (NR S) d (cT S) → gI m' kl (vr S d) = nI (FF S mn (Ur S d) (Xr S (Wd S T) d)) := h_.2.2.2.2.2.2.1
theorem RPl.ro {t : zT} {t' : zT} {m : zM} {m' : zM} {u : Nat} {S : Sc} {T : Ts} {mn : Bool} {kk : Nat} {kw : Nat} {kl : Nat} (h_ : RPl t t' m m' u S T mn kk kw kl) : RO t' m' u S T := h_.2.2.2.2.2.2.2.1
theorem RPl.many {t : zT} {t' : zT} {m : zM} {m' : zM} {u : Nat} {S : Sc} {T : Ts} {mn : Bool} {kk : Nat} {kw : Nat} {kl : Nat} (h_ : RPl t t' m m' u S T mn kk kw kl) : gI m' 75 19 = nI (mny S (Wd S T)) := h_.2.2.2.2.2.2.2.2
section
variable {t t' t1 t2 : zT} {m m' m1 m2 : zM} {s u r : Nat} {S : Sc} {T T' : Ts} {P P' : Nat → Bool} {x x2 x3 r1 r2 : Int32} {Tl X : List Nat} {R : Nat → Nat → Prop} {a1 a2 a3 len kk kw kl : Nat} {mn : Bool}
theorem PR.gx (h : PR t m a1 a2 a3 len) (g : Gx t t' m m' X R) (h52 : 52 < tN t) (an : a1 < tN t ∧ a2 < tN t ∧ a3 < tN t) (hR : ∀ k, ¬ R 52 k) : PR t' m' a1 a2 a3 len := by
  obtain ⟨p1, q1⟩ := g.gk a1 an.1
  obtain ⟨p2, q2⟩ := g.gk a2 an.2.1
  obtain ⟨p3, q3⟩ := g.gk a3 an.2.2
  exact ⟨(g.gr 52 h52 _ (hR _)).trans h.r1, (g.gr 52 h52 _ (hR _)).trans h.r2, (g.gr 52 h52 _ (hR _)).trans h.r3, p1.trans h.k1, p2.trans h.k2, p3.trans h.k3, q1.trans h.l1, q2.trans h.l2, q3.trans h.l3, h.le, h.n12, h.n13, h.n23, h.o1, h.o2, h.o3⟩
theorem KR.gx (h : KR t m kk kw kl) (g : Gx t t' m m' X R) (h75 : 75 < tN t) (hR : ∀ k, ¬ R 75 k) (hk : ∀ k, ¬ R kk k) : KR t' m' kk kw kl := by
  have n := h.n
  have gn := g.gn
  obtain ⟨p0, q0⟩ := g.gk kk n.1
  obtain ⟨p1, q1⟩ := g.gk kw n.2.1
  obtain ⟨p2, q2⟩ := g.gk kl n.2.2
  exact ⟨(g.gr 75 h75 _ (hR _)).trans h.r21, p0.trans h.k0, (g.gr kk n.1 _ (hk _)).trans h.r0, (g.gr kk n.1 _ (hk _)).trans h.r1, p1.trans h.kkw, q1.trans h.lkw, p2.trans h.kkl, q2.trans h.lkl, h.ne, h.o, ⟨by omega, by omega, by omega⟩⟩
theorem rsp_laysKnown {cap : Nat × Nat} (c : RC t m u S) (hu : u + 15 ≤ tN t) (A : ∀ w, w < cnt S → gI m 78 w = bI (P w)) (hk : (gR m 75 21 = 0 ∧ 3 ≤ cap.1 ∧ 101252 ≤ cap.2) ∨ ∃ kk kw kl, KR t m kk kw kl ∧ dsj u kw ∧ dsj u kl) {Q : zT → zM → Prop} (hQ : ∀ t' m' kk kw kl, KR t' m' kk kw kl → ((gR m 75 21 = 0 ∧ kk = tN t ∧ kw = tN t + 1 ∧ kl = tN t + 2 ∧ tN t' = tN t + 3) ∨ (KR t m kk kw kl ∧ t' = t)) → RW t' m' S u kw kl → Gx t t' m m' [75, 80, kw] krR → (∀ j, j ≠ 24 → gI m' 75 j = gI m 75 j) → (∀ d, okd (NR S) d (cT S) → gI m' kw (vr S d) = nI (mny S (Xr S P d))) → Q t' m') : wX12_laysKnown cap t m 75 Q := by
  have L := c.lay
  have h85 := L.1
  unfold wX12_laysKnown
  refine ⟨lk75 L, fun h0 => ?_, fun h0 => ?_⟩
  · have hc : 3 ≤ cap.1 ∧ 101252 ≤ cap.2 := by
      rcases hk with ⟨_, h⟩ | ⟨kk, kw, kl, h, _⟩
      · exact h
      · have := h.r21
        have := h.o
        omega
    refine ⟨⟨by omega, by omega⟩, fun _ => ⟨by omega, (2, 101250), ⟨by show 0 + 1 + 2 ≤ cap.1; omega, by show 0 + 2 + 101250 ≤ cap.2; omega⟩, ?_⟩⟩
    unfold wX10_init
    have eN1 : tN (tNew t 10 0) = tN t + 1 := rfl
    have eN2 : tN (tNew (tNew t 10 0) 14 50625) = tN t + 2 := rfl
    rw [eN1, eN2]
    refine ⟨by omega, ⟨by decide, by decide⟩, fun _ => ⟨?_, ⟨by decide, by decide⟩, fun _ => ⟨?_, ?_, ?_⟩⟩⟩
    · rw [tK_new (by rw [tN_new]; omega), tK_nw]
    · rw [tK_new (by rw [tN_new, tN_new]; omega), tK_new (by rw [tN_new]; omega), tK_nw]
    · rw [tK_new (by rw [tN_new, tN_new]; omega), tK_new (by rw [tN_new]; omega), tK_new (by omega)]; exact lk75 L
    · generalize htt : tNew (tNew (tNew t 10 0) 14 50625) 14 50625 = t3
      have tn3 : tN t3 = tN t + 3 := by rw [← htt]; rfl
      have kq : ∀ a, a < tN t → tK t3 a = tK t a ∧ tL t3 a = tL t a := fun a ha => by
        rw [← htt]
        exact ⟨by rw [tK_new (by rw [tN_new, tN_new]; omega), tK_new (by rw [tN_new]; omega), tK_new (by omega)], by rw [tL_new (by rw [tN_new, tN_new]; omega), tL_new (by rw [tN_new]; omega), tL_new (by omega)]⟩
      have k1 : tK t3 (tN t) = 10 := by
        rw [← htt, tK_new (by rw [tN_new, tN_new]; omega), tK_new (by rw [tN_new]; omega), tK_nw]
      have k2 : tK t3 (tN t + 1) = 14 ∧ tL t3 (tN t + 1) = 50625 := by
        rw [← htt, ← eN1]
        exact ⟨by rw [tK_new (by rw [tN_new, tN_new]; omega), tK_nw], by rw [tL_new (by rw [tN_new, tN_new]; omega), tL_nw]⟩
      have k3 : tK t3 (tN t + 2) = 14 ∧ tL t3 (tN t + 2) = 50625 := by
        rw [← htt, ← eN2]
        exact ⟨tK_nw, tL_nw⟩
      generalize hmm : pR (pR (zClr (pR (zClr (zClr m (tN t)) (tN t + 1)) (tN t) 0 (tN t + 1)) (tN t + 2)) (tN t) 1 (tN t + 2)) 75 21 (tN t) = m3
      have ri : ∀ a, a < tN t → ∀ k, gI m3 a k = gI m a k ∧ gJ m3 a k = gJ m a k := fun a ha k => by
        rw [← hmm]
        simp only [gIR, gJR, zcI, zcJ, show ¬ a = tN t + 2 by omega, show ¬ a = tN t + 1 by omega, show ¬ a = tN t by omega, if_false, and_self]
      have rr : ∀ a, a < tN t → ∀ k, ¬ krR a k → gR m3 a k = gR m a k := fun a ha k hk => by
        unfold krR at hk
        rw [← hmm]
        simp only [gRR, zcR, show ¬ a = tN t + 2 by omega, show ¬ a = tN t + 1 by omega, show ¬ a = tN t by omega, show ¬ (a = 75 ∧ k = 21) by omega, false_and, if_false]
      have q0 : gR m3 75 21 = tN t := by
        rw [← hmm, gRR, if_pos ⟨rfl, rfl⟩]
      have q1 : gR m3 (tN t) 0 = tN t + 1 := by
        rw [← hmm, gRR, if_neg (by omega), gRR, if_neg (by omega), zcR, if_neg (by omega), gRR, if_pos ⟨rfl, rfl⟩]
      have q2 : gR m3 (tN t) 1 = tN t + 2 := by
        rw [← hmm, gRR, if_neg (by omega), gRR, if_pos ⟨rfl, rfl⟩]
      have K3 : KR t3 m3 (tN t) (tN t + 1) (tN t + 2) := ⟨q0, k1, q1, q2, k2.1, k2.2, k3.1, k3.2, by omega, by omega, by omega⟩
      have g3 : Gx t t3 m m3 [] krR := ⟨by omega, kq, fun a ha _ k => ri a ha k, fun a ha k hk => rr a ha k hk⟩
      have c3 : RC t3 m3 u S := c.gx g3 hu (fun a ha => absurd ha (by simp)) krR_lay (by unfold krR; omega) (fun k => by have := c.rl.u85; unfold krR; omega)
      refine rk_J18 (P := P) c3 (by omega) (fun w hw => (ri 78 (by omega) w).1.trans (A w hw)) K3 (Or.inr (by omega)) (Or.inr (by omega)) (fun m4 h4 K4 G4 e4 v4 => ?_)
      refine hQ t3 m4 _ _ _ K4 (Or.inl ⟨h0, rfl, rfl, rfl, tn3⟩) h4 ((g3.mono (by simp) (fun _ _ h => h)).tr G4 (fun a ha => Or.inl ha) (fun a k h => Or.inl (by unfold kR2 at h; unfold krR; omega))) (fun j hj => (e4 j hj).trans (ri 75 (by omega) j).1) v4
  · rcases hk with ⟨h, _⟩ | ⟨kk, kw, kl, K, d1, d2⟩
    · exact absurd h h0
    · exact rk_J18 (P := P) c hu A K d1 d2 (fun m4 h4 K4 G4 e4 v4 => hQ t m4 kk kw kl K4 (Or.inr ⟨K, rfl⟩) h4 (G4.mono (fun _ h => h) (fun a k h => by unfold kR2 at h; unfold krR; omega)) e4 v4)
theorem rsp_refusesPlan {cap : Nat × Nat} (d : RO t m u S T) (hu : u + 15 ≤ tN t) (hk : (gR m 75 21 = 0 ∧ (0 < mny S (Wd S T) → 3 ≤ cap.1 ∧ 101252 ≤ cap.2)) ∨ ∃ kk kw kl, KR t m kk kw kl ∧ dsj u kk ∧ dsj u kw ∧ dsj u kl) {Q : Int32 → zT → zM → Prop} (h6 : mny S (Wd S T) = 0 → ∀ m', QR m m' → Q 6 t m') (h0 : 0 < mny S (Wd S T) → ∀ t' m' kk kw kl, RPl t t' m m' u S T mn kk kw kl → Q 0 t' m') : wX12_refusesPlan cap t m 75 (bI mn) Q := by
  have L := d.rc.lay
  have v := d.rc.vs
  have ml := mny_le (S := S) (Wd S T)
  have u85 := d.rc.rl.u85
  have h85 := L.1
  unfold wX12_refusesPlan
  refine ⟨lk75 L, fun h => absurd h (u_ne d), fun _ => rx_asksW d (fun m1 f1 q1 d1 A => ?_)⟩
  rw [A.many, nI_small v ml]
  refine ⟨fun hz => h6 hz m1 q1, fun hz => ⟨cap, ⟨by omega, by omega⟩, ?_⟩⟩
  have pos : 0 < mny S (Wd S T) := by omega
  refine rsp_laysKnown (P := Wd S T) d1.rc hu A.is_ ?_ (fun t2 m2 kk kw kl K2 cs h2 g2 e2 v2 => ?_)
  · rcases hk with ⟨a, b⟩ | ⟨kk, kw, kl, K, _, d2, d3⟩
    · exact Or.inl ⟨(f1.2 _ _).trans a, b pos⟩
    · exact Or.inr ⟨kk, kw, kl, K.fr f1, d2, d3⟩
  · have Ko := K2.o
    refine ⟨lk75 h2.rc.lay, rsp_laysLeast (P := Wd S T) h2 v2 (fun m3 f3 g3 => ?_)⟩
    have ne := h2.ne
    have okl : ∀ a, a < 85 → a ∉ [kl] := fun a ha => by simp only [List.mem_cons, List.not_mem_nil, or_false]; omega
    have okw : kw ∉ [kl] := by simp only [List.mem_cons, List.not_mem_nil, or_false]; exact ne
    have cs' : (gR m 75 21 = 0 ∧ kk = tN t ∧ kw = tN t + 1 ∧ kl = tN t + 2 ∧ tN t2 = tN t + 3) ∨ (KR t m kk kw kl ∧ t2 = t) := by
      rcases cs with ⟨p, q⟩ | ⟨p, q⟩
      · exact Or.inl ⟨(f1.2 _ _).symm.trans p, q⟩
      · refine Or.inr ⟨?_, q⟩
        unfold KR at p ⊢
        simp only [f1.2] at p
        exact p
    have dd : dsj u kk ∧ dsj u kw ∧ dsj u kl := by
      rcases cs' with ⟨_, q1, q2, q3, _⟩ | ⟨p, _⟩
      · unfold dsj; omega
      · rcases hk with ⟨a, _⟩ | ⟨kk', kw', kl', K, d1, d2, d3⟩
        · have := p.r21
          have := p.o
          omega
        · have e1 : kk = kk' := p.r21.symm.trans K.r21
          subst e1
          have e2 : kw = kw' := p.r0.symm.trans K.r0
          have e3 : kl = kl' := p.r1.symm.trans K.r1
          subst e2 e3
          exact ⟨d1, d2, d3⟩
    have G1 : Gx t t2 m m2 [75, 78, 79, 80, kw, kl] krR := (Gx.of_fr (f1.mono (by intro a ha; simp only [List.mem_cons, List.not_mem_nil, or_false] at ha ⊢; omega))).tr g2 (by intro a ha; simp only [List.mem_cons, List.not_mem_nil, or_false] at ha ⊢; omega) (fun a k h => Or.inl h)
    have G3 : Gx t t2 m m3 [75, 78, 79, 80, kw, kl] krR := G1.fr f3 (by intro a ha; simp only [List.mem_cons, List.not_mem_nil, or_false] at ha ⊢; omega)
    have x75 : ∀ j, j ≠ 19 → j ≠ 24 → gI m3 75 j = gI m1 75 j := fun j _ b => (f3.I (okl 75 (by decide)) _).trans (e2 j b)
    refine h0 pos t2 m3 kk kw kl ⟨K2.fr f3, cs', h2.fl f3, G3, fun j a b c e f => (x75 j e f).trans (q1.2 j a b c e), fun d hd => (f3.I okw _).trans (v2 d hd), g3, ?_, ?_⟩
    · refine d.gx G3 hu (fun a ha => ?_) ((x75 28 (by decide) (by decide)).trans (q1.2 28 (by decide) (by decide) (by decide) (by decide))) krR_lay (by unfold krR; omega) (fun k => by unfold krR; omega)
      simp only [List.mem_cons, List.not_mem_nil, or_false] at ha
      unfold dsj at dd
      omega
    · exact ((f3.I (okl 75 (by decide)) _).trans (e2 19 (by decide))).trans A.many
-- what both hold of the things to try
theorem Xr_dF : Xr S (Wd S T) (dF S T) = Wd S T := by
  funext w
  rw [← bt_iff, Xr_t]
  refine ⟨fun h => h.1, fun h => ⟨h, fun k hk => ?_⟩⟩
  have hf : FacB S (Fct S T) w = true := by
    unfold Wd at h
    rw [askP_eq, Bool.and_eq_true] at h
    exact h.2
  have := FacB_iff.mp hf k hk
  unfold dF
  split
  · exact Or.inl rfl
  · omega
theorem sub1 (v : Vs S) (hp : 0 < mny S (Wd S T)) : ∀ k, k < cT S → U0 S (Wd S T) k = true → Ur S (dF S T) k = true := by
  intro k hk hu
  obtain ⟨_, h2, h3⟩ := U0_iff.mp hu
  refine Ur_t.mpr ⟨hk, h2, ?_⟩
  unfold dF
  by_cases z : Fct S T k = 0
  · rw [if_pos z]
  · exfalso
    have fl := Fct_lt (T := T) v hk
    have : sureB S (Wd S T) k = true := by
      refine (sure_iff v hk).mpr ⟨Fct S T k - 1, by omega, hp, oft_all_iff.mpr (fun w hw hpw => ?_)⟩
      have hf : FacB S (Fct S T) w = true := by
        unfold Wd at hpw
        rw [askP_eq, Bool.and_eq_true] at hpw
        exact hpw.2
      have := FacB_iff.mp hf k hk
      omega
    rw [h3] at this; cases this
theorem sub2 (v : Vs S) : ∀ k, k < cT S → Ur S (dF S T) k = true → U0 S (Wd S T) k = false → con S (Wd S T) k := by
  intro k hk hu h0
  obtain ⟨_, h2, _⟩ := Ur_t.mp hu
  have hs : sureB S (Wd S T) k = true := by
    cases hb : sureB S (Wd S T) k with
    | true => rfl
    | false =>
      have := U0_iff.mpr ⟨hk, h2, hb⟩
      rw [h0] at this; cases this
  obtain ⟨a, _, _, h⟩ := (sure_iff v hk).mp hs
  exact con_of h
theorem FF_both (v : Vs S) (hp : 0 < mny S (Wd S T)) : FF S mn (Ur S (dF S T)) (Wd S T) = FF S mn (U0 S (Wd S T)) (Wd S T) := (FF_drop v (ctU S (Ur S (dF S T))) (Nat.le_refl _) (sub1 v hp) (sub2 v)).1
theorem fs_both (v : Vs S) (hp : 0 < mny S (Wd S T)) (hs : sep S (U0 S (Wd S T)) (Wd S T)) : fsI S mn (Ur S (dF S T)) (Wd S T) = fsI S mn (U0 S (Wd S T)) (Wd S T) := fsI_drop v hs (sub1 v hp) (sub2 v)
end
