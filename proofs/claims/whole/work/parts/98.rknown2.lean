/-! Plans: what the reference knows of all states, added up -/
section
variable {t t' t1 t2 : zT} {m m' m1 m2 : zM} {s u r : Nat} {S : Sc} {T T' : Ts} {P P' : Nat → Bool} {x x2 x3 : Int32} {Tl X : List Nat} {R : Nat → Nat → Prop} {kk kw kl : Nat} {d d' : Nat → Nat} {mn : Bool}
theorem Xk_cong {n : Nat} (h : ∀ k, k < cT S → d k = d' k) : Xk S P n d = Xk S P n d' := by
  funext w
  rw [← bt_iff, Xk_t, Xk_t]
  exact and_congr Iff.rfl ⟨fun q k hk => by rw [← h k hk]; exact q k hk, fun q k hk => by rw [h k hk]; exact q k hk⟩
/-- one state of one thing -/
theorem rk_L238 (h : RW t m S u kw kl) (hd : okd (NR S) d (cT S)) {k : Nat} (hk : k < cT S) (hop : d k = cA S k) (h0 : gI m kw (vr S d) = 0) (hch : ∀ a, a < cA S k → gI m kw (vr S (upF d k a)) = nI (oft S (Xk S P (k + 1) d) k a)) {Q : zT → zM → Prop} {K : zM → Prop} (hK : ∀ m', Fr [kw] m m' → (∀ i, i ≠ vr S d → gI m' kw i = gI m kw i) → gI m' kw (vr S d) = nI (mny S (Xk S P (k + 1) d)) → K m') : ∀ dd a : Nat, a + dd = cA S k → ∀ m1, Fr [kw] m m1 → (∀ i, i ≠ vr S d → gI m1 kw i = gI m kw i) → gI m1 kw (vr S d) = nI (fb_sm (oft S (Xk S P (k + 1) d) k) a) → ∀ z : Int32, z = nI a → wX12_laysKnown_L238 t 75 (nI k) (nI (vr S d)) Q K (dd + 1) z m1 := by
  have v := h.rc.vs
  have L := h.rc.lay
  have t8 := v.t8
  have av := v.a2 k hk
  have vlt := vr_lt v hd
  have kc := nI_cl (show k < 2 ^ 31 by omega)
  have vc := nI_cl (show vr S d < 2 ^ 31 by omega)
  have v8 : vp_in (nI k) 8 := vp_nI (by omega) (by decide)
  have pp := pl_pos (N := NR S) (n := k) (fun j _ => NR_pos j)
  intro dd
  induction dd with
  | zero =>
    intro a ha m1 f1 g1 g2 z hz
    have e : a = cA S k := by omega
    subst e
    have h1 := h.fw f1
    have RLc := h1.rc.rl
    rw [hz, wX12_laysKnown_L238]
    simp only [h1.rc.told, RLc.k, RLc.r1, RLc.k1, RLc.l1, RLc.r2, RLc.k2, RLc.l2, RLc.r3, RLc.k3, RLc.l3, RLc.r4, RLc.k4, RLc.l4, RLc.r5, RLc.k5, RLc.l5, RLc.r6, RLc.k6, RLc.l6, RLc.r7, RLc.k7, RLc.l7, RLc.r8, RLc.k8, RLc.l8, RLc.r9, RLc.k9, RLc.l9, RLc.r10, RLc.k10, RLc.l10, RLc.r11, RLc.k11, RLc.l11, RLc.r12, RLc.k12, RLc.l12, RLc.r13, RLc.k13, RLc.l13, RLc.r14, RLc.k14, RLc.l14, kc, h1.rc.sm.answers k hk, true_and]
    refine ⟨lk75 L, v8, fun _ => hK m1 f1 g1 ?_, fun hh => absurd (nI_le (Nat.le_refl _) (by omega)) hh⟩
    rw [g2, oft_sum v hk]
  | succ dd ih =>
    intro a ha m1 f1 g1 g2 z hz
    have al : a < cA S k := by omega
    have h1 := h.fw f1
    have RLc := h1.rc.rl
    have ok' : okd (NR S) (upF d k a) (cT S) := okd_up hd (by unfold NR; omega)
    have vlt' := vr_lt v ok'
    have e := vr_ch hk hop al
    have p1 : 1 * 1 ≤ pl (NR S) k * (cA S k - a) := Nat.mul_le_mul pp (by omega)
    have ec : gI m1 kw (vr S (upF d k a)) = nI (oft S (Xk S P (k + 1) d) k a) := (g1 _ (by omega)).trans (hch a al)
    rw [hz, wX12_laysKnown_L238]
    simp only [h1.rc.told, RLc.k, RLc.r1, RLc.k1, RLc.l1, RLc.r2, RLc.k2, RLc.l2, RLc.r3, RLc.k3, RLc.l3, RLc.r4, RLc.k4, RLc.l4, RLc.r5, RLc.k5, RLc.l5, RLc.r6, RLc.k6, RLc.l6, RLc.r7, RLc.k7, RLc.l7, RLc.r8, RLc.k8, RLc.l8, RLc.r9, RLc.k9, RLc.l9, RLc.r10, RLc.k10, RLc.l10, RLc.r11, RLc.k11, RLc.l11, RLc.r12, RLc.k12, RLc.l12, RLc.r13, RLc.k13, RLc.l13, RLc.r14, RLc.k14, RLc.l14, kc, h1.rc.sm.answers k hk, lr75_20 h1.rc.lay, lk80 L, ll80 L, h1.step k hk, h1.r22, h.kkw, h.lkw, vr_sub v hd hk hop al, vc, nI_cl (show vr S (upF d k a) < 2 ^ 31 by omega), g2, ec, nI_add, true_and]
    refine ⟨lk75 L, v8, fun hh => absurd hh (nI_ge (by omega) (by omega)), fun _ => ⟨vp_nI vlt (by decide), v8, vp_nI vlt' (by decide), ih (a + 1) (by omega) _ (Fr.pI f1 (by simp)) (fun i hi => ?_) ?_ _ (nI_1 a)⟩⟩
    · rw [gII, if_neg (fun q => hi q.2)]; exact g1 i hi
    · rw [gII, if_pos ⟨rfl, rfl⟩, fb_sm_succ]
/-- all states of one thing -/
theorem rk_L207 (h : RW t m S u kw kl) {k : Nat} (hk : k < cT S) {Q : zT → zM → Prop} {K : zM → Prop} (hK : ∀ m', Fr [kw] m m' → (∀ d, okd (NR S) d (cT S) → gI m' kw (vr S d) = nI (mny S (Xk S P (k + 1) d))) → K m') : ∀ dd q : Nat, q + dd = pl (NR S) (cT S) → ∀ m1, Fr [kw] m m1 → (∀ d, okd (NR S) d (cT S) → vr S d < q → gI m1 kw (vr S d) = nI (mny S (Xk S P (k + 1) d))) → (∀ d, okd (NR S) d (cT S) → q ≤ vr S d → gI m1 kw (vr S d) = nI (mny S (Xk S P k d))) → ∀ z : Int32, z = nI q → wX12_laysKnown_L207 t 75 (nI k) Q K (dd + 1) z m1 := by
  have v := h.rc.vs
  have L := h.rc.lay
  have t8 := v.t8
  have av := v.a2 k hk
  have nb := NR_b v
  have kc := nI_cl (show k < 2 ^ 31 by omega)
  have v8 : vp_in (nI k) 8 := vp_nI (by omega) (by decide)
  have pp := pl_pos (N := NR S) (n := k) (fun j _ => NR_pos j)
  intro dd
  induction dd with
  | zero =>
    intro q hq m1 f1 g1 g2 z hz
    have e : q = pl (NR S) (cT S) := by omega
    subst e
    rw [hz, wX12_laysKnown_L207, (h.fw f1).kn]
    exact ⟨lk75 L, fun _ => hK m1 f1 (fun d hd => g1 d hd (vl_lt hd)), fun hh => absurd (nI_le (Nat.le_refl _) (by omega)) hh⟩
  | succ dd ih =>
    intro q hq m1 f1 g1 g2 z hz
    have h1 := h.fw f1
    have RLc := h1.rc.rl
    obtain ⟨d, hd, ed⟩ := vl_sur (N := NR S) (n := cT S) (fun k _ => NR_pos k) q (by omega)
    have ed : vr S d = q := ed
    have dk := hd k hk
    unfold NR at dk
    rw [hz, wX12_laysKnown_L207, h1.kn]
    unfold wX12_laysKnown_J291
    refine ⟨lk75 L, fun hh => absurd hh (nI_ge (by omega) (by omega)), fun _ => ?_⟩
    -- behind a state
    have nx : ∀ m2, Fr [kw] m m2 → (∀ i, i ≠ q → gI m2 kw i = gI m1 kw i) → gI m2 kw q = nI (mny S (Xk S P (k + 1) d)) → wX12_laysKnown_L207 t 75 (nI k) Q K (dd + 1) (nI q + 1) m2 := by
      intro m2 f2 e2 e3
      refine ih (q + 1) (by omega) m2 f2 (fun d' hd' lt => ?_) (fun d' hd' ge => ?_) _ (nI_1 q)
      · rcases (show vr S d' < q ∨ vr S d' = q by omega) with y | y
        · rw [e2 _ (by omega)]; exact g1 d' hd' y
        · have eq := vl_inj hd' hd (show vl (NR S) d' (cT S) = vl (NR S) d (cT S) from y.trans ed.symm)
          rw [y, e3, Xk_cong eq]
      · rw [e2 _ (by omega)]; exact g2 d' hd' (by omega)
    rw [← ed]
    refine rsp_digit h1 hd hk ?_
    simp only [h1.rc.told, RLc.k, RLc.r1, RLc.k1, RLc.l1, RLc.r2, RLc.k2, RLc.l2, RLc.r3, RLc.k3, RLc.l3, RLc.r4, RLc.k4, RLc.l4, RLc.r5, RLc.k5, RLc.l5, RLc.r6, RLc.k6, RLc.l6, RLc.r7, RLc.k7, RLc.l7, RLc.r8, RLc.k8, RLc.l8, RLc.r9, RLc.k9, RLc.l9, RLc.r10, RLc.k10, RLc.l10, RLc.r11, RLc.k11, RLc.l11, RLc.r12, RLc.k12, RLc.l12, RLc.r13, RLc.k13, RLc.l13, RLc.r14, RLc.k14, RLc.l14, kc, h1.rc.sm.answers k hk, true_and]
    rw [nI_eq (by omega) (by omega)]
    refine ⟨v8, fun hop => ⟨cA S k + 1, ?_⟩, fun hop => ?_⟩
    · refine rk_L238 (P := P) h1 hd hk hop ?_ (fun a ha => ?_) (fun m2 f2 e2 e3 => ?_) (cA S k) 0 (by omega) m1 Fr.rf (fun _ _ => rfl) ?_ 0 rfl
      · rw [g2 d hd (by omega), Xk_none v hk hop]; rfl
      · have ok' : okd (NR S) (upF d k a) (cT S) := okd_up hd (by unfold NR; omega)
        have e := vr_ch hk hop ha
        have p1 : 1 * 1 ≤ pl (NR S) k * (cA S k - a) := Nat.mul_le_mul pp (by omega)
        have ne : upF d k a k ≠ cA S k := by unfold upF; rw [if_pos rfl]; omega
        rw [g1 _ ok' (by omega), Xk_same hk ne, Xk_ch hk hop ha, mny_wAns]
      · rw [ed] at e2 e3 ⊢
        exact nx m2 (f1.tr f2) e2 e3
      · rw [g2 d hd (by omega), Xk_none v hk hop]; rfl
    · rw [ed]
      refine nx m1 f1 (fun _ _ => rfl) ?_
      have := g2 d hd (by omega)
      rw [ed] at this
      rw [this, Xk_same hk hop]
/-- all things -/
theorem rk_L194 (h : RW t m S u kw kl) {Q : zT → zM → Prop} {K : zM → Prop} (hK : ∀ m', Fr [kw] m m' → (∀ d, okd (NR S) d (cT S) → gI m' kw (vr S d) = nI (mny S (Xr S P d))) → K m') : ∀ dd k : Nat, k + dd = cT S → ∀ m1, Fr [kw] m m1 → (∀ d, okd (NR S) d (cT S) → gI m1 kw (vr S d) = nI (mny S (Xk S P k d))) → ∀ z : Int32, z = nI k → wX12_laysKnown_L194 t 75 Q K (dd + 1) z m1 := by
  have v := h.rc.vs
  have L := h.rc.lay
  have t8 := v.t8
  intro dd
  induction dd with
  | zero =>
    intro k hk m1 f1 g1 z hz
    have e : k = cT S := by omega
    subst e
    have h1 := h.fw f1
    rw [hz, wX12_laysKnown_L194, h1.rc.told, h1.rc.sm.things]
    exact ⟨lk75 L, h1.rc.rl.k, fun _ => hK m1 f1 (fun d hd => by rw [g1 d hd, Xk_end]), fun hh => absurd (nI_le (Nat.le_refl _) (by omega)) hh⟩
  | succ dd ih =>
    intro k hk m1 f1 g1 z hz
    have h1 := h.fw f1
    rw [hz, wX12_laysKnown_L194, h1.rc.told, h1.rc.sm.things]
    exact ⟨lk75 L, h1.rc.rl.k, fun hh => absurd hh (nI_ge (by omega) (by omega)), fun _ => ⟨pl (NR S) (cT S) + 1, rk_L207 (P := P) h1 (by omega) (fun m2 f2 g2 => ih (k + 1) (by omega) m2 (f1.tr f2) g2 _ (nI_1 k)) (pl (NR S) (cT S)) 0 (by omega) m1 Fr.rf (fun d _ lt => absurd lt (by omega)) (fun d hd _ => g1 d hd) 0 rfl⟩⟩
def kR2 (a k : Nat) : Prop := a = 75 ∧ 22 ≤ k ∧ k ≤ 23
theorem kR2_lay : ∀ q ∈ zR0, ¬ kR2 q.1 q.2.1 := by unfold kR2; decide
theorem rk_J18 (c : RC t m u S) (hu : u + 15 ≤ tN t) (A : ∀ w, w < cnt S → gI m 78 w = bI (P w)) (K : KR t m kk kw kl) (dw : kw < u ∨ u + 15 ≤ kw) (dl : kl < u ∨ u + 15 ≤ kl) {Q : zT → zM → Prop} (hQ : ∀ m', RW t m' S u kw kl → KR t m' kk kw kl → Gx t t m m' [75, 80, kw] kR2 → (∀ j, j ≠ 24 → gI m' 75 j = gI m 75 j) → (∀ d, okd (NR S) d (cT S) → gI m' kw (vr S d) = nI (mny S (Xr S P d))) → Q t m') : wX12_laysKnown_J18 t m 75 Q := by
  have L := c.lay
  have v := c.vs
  have t8 := v.t8
  have u85 := c.rl.u85
  have Ko := K.o
  have Kn := K.n
  have ne := K.ne
  have h85 := L.1
  have nkk : kk ≠ 75 := by omega
  unfold wX12_laysKnown_J18
  have e21 : gR (pR m 75 22 (gR m (gR m 75 21) 0)) 75 21 = kk := by rw [gRR, if_neg (by decide)]; exact K.r21
  rw [e21, K.r21, K.r0, K.k0]
  have er1 : gR (pR m 75 22 kw) kk 1 = kl := by rw [gRR, if_neg (by omega)]; exact K.r1
  rw [er1]
  refine ⟨lk75 L, rfl, rfl, cT S + 1, ?_⟩
  have g0 : Gx t t m (pI (pR (pR m 75 22 kw) 75 23 kl) 75 24 1) [75, 80, kw] kR2 := by
    refine ⟨Nat.le_refl _, fun _ _ => ⟨rfl, rfl⟩, fun a _ ha k => ⟨?_, rfl⟩, fun a _ k hk => ?_⟩
    · have : a ≠ 75 := fun q => ha (by simp [q])
      rw [gII, if_neg (fun q => this q.1)]
      rfl
    · unfold kR2 at hk
      rw [gRI, gRR, if_neg (by omega), gRR, if_neg (by omega)]
  have e22 : gR (pI (pR (pR m 75 22 kw) 75 23 kl) 75 24 1) 75 22 = kw := by rw [gRI, gRR, if_neg (by decide), gRR, if_pos ⟨rfl, rfl⟩]
  have e23 : gR (pI (pR (pR m 75 22 kw) 75 23 kl) 75 24 1) 75 23 = kl := by rw [gRI, gRR, if_pos ⟨rfl, rfl⟩]
  have ei : ∀ j, j ≠ 24 → gI (pI (pR (pR m 75 22 kw) 75 23 kl) 75 24 1) 75 j = gI m 75 j := fun j hj => by rw [gII, if_neg (fun q => hj q.2)]; rfl
  have e24 : gI (pI (pR (pR m 75 22 kw) 75 23 kl) 75 24 1) 75 24 = nI (pl (NR S) 0) := by rw [gII, if_pos ⟨rfl, rfl⟩]; rfl
  have K0 : KR t (pI (pR (pR m 75 22 kw) 75 23 kl) 75 24 1) kk kw kl := by
    refine ⟨?_, K.k0, ?_, ?_, K.kkw, K.lkw, K.kkl, K.lkl, ne, Ko, Kn⟩
    · rw [gRI, gRR, if_neg (by decide), gRR, if_neg (by decide)]; exact K.r21
    · rw [gRI, gRR, if_neg (by omega), gRR, if_neg (by omega)]; exact K.r0
    · rw [gRI, gRR, if_neg (by omega), gRR, if_neg (by omega)]; exact K.r1
  generalize pI (pR (pR m 75 22 kw) 75 23 kl) 75 24 1 = m0 at g0 e22 e23 ei e24 K0 ⊢
  have cx : RC t m0 u S := c.gx g0 hu (fun a ha => by simp only [List.mem_cons, List.not_mem_nil, or_false] at ha; omega) kR2_lay (by unfold kR2; omega) (fun k => by unfold kR2; omega)
  have A0 : ∀ w, w < cnt S → gI m0 78 w = bI (P w) := fun w hw => ((g0.gi 78 (by omega) (by simp only [List.mem_cons, List.not_mem_nil, or_false]; omega) w).1).trans (A w hw)
  have o85 : ∀ j, j ≤ 14 → u + j ∉ [75, 80] := fun j hj => by simp only [List.mem_cons, List.not_mem_nil, or_false]; omega
  have nb := NR_b v
  -- steps
  have key : ∀ K : zM → Prop, (∀ m', Fr [75, 80] m0 m' → (∀ j, j ≠ 24 → gI m' 75 j = gI m0 75 j) → (∀ k, k < cT S → gI m' 80 k = nI (pl (NR S) k)) → gI m' 75 24 = nI (pl (NR S) (cT S)) → K m') → ∀ dd k : Nat, k + dd = cT S → ∀ m1, Fr [75, 80] m0 m1 → (∀ j, j ≠ 24 → gI m1 75 j = gI m0 75 j) → (∀ j, j < k → gI m1 80 j = nI (pl (NR S) j)) → gI m1 75 24 = nI (pl (NR S) k) → ∀ z : Int32, z = nI k → wX12_laysKnown_L47 t 75 Q K (dd + 1) z m1 := by
    intro K hK dd
    induction dd with
    | zero =>
      intro k hk m1 f1 p1 g1 g2 z hz
      have e : k = cT S := by omega
      subst e
      have c1 := cx.fr2 f1 o85 (by decide)
      rw [hz, wX12_laysKnown_L47, c1.told, c1.sm.things]
      exact ⟨lk75 L, c1.rl.k, fun _ => hK m1 f1 p1 g1 g2, fun hh => absurd (nI_le (Nat.le_refl _) (by omega)) hh⟩
    | succ dd ih =>
      intro k hk m1 f1 p1 g1 g2 z hz
      have kt : k < cT S := by omega
      have av := v.a2 k kt
      have c1 := cx.fr2 f1 o85 (by decide)
      have L1 := c1.lay
      have RLc := c1.rl
      have kc := nI_cl (show k < 2 ^ 31 by omega)
      have v8 : vp_in (nI k) 8 := vp_nI (by omega) (by decide)
      have ea : gI (pI m1 80 k (nI (pl (NR S) k))) (u + 1) k = nI (cA S k) := by rw [gII, if_neg (by omega)]; exact c1.sm.answers k kt
      have eb : gI (pI m1 80 k (nI (pl (NR S) k))) 75 24 = nI (pl (NR S) k) := by rw [gII, if_neg (by omega)]; exact g2
      rw [hz, wX12_laysKnown_L47]
      simp only [c1.told, c1.sm.things, RLc.k, RLc.r1, RLc.k1, RLc.l1, RLc.r2, RLc.k2, RLc.l2, RLc.r3, RLc.k3, RLc.l3, RLc.r4, RLc.k4, RLc.l4, RLc.r5, RLc.k5, RLc.l5, RLc.r6, RLc.k6, RLc.l6, RLc.r7, RLc.k7, RLc.l7, RLc.r8, RLc.k8, RLc.l8, RLc.r9, RLc.k9, RLc.l9, RLc.r10, RLc.k10, RLc.l10, RLc.r11, RLc.k11, RLc.l11, RLc.r12, RLc.k12, RLc.l12, RLc.r13, RLc.k13, RLc.l13, RLc.r14, RLc.k14, RLc.l14, lr75_20 L1, lk80 L, ll80 L, kc, g2, ea, eb, nI_1, pk_mul, true_and]
      refine ⟨lk75 L, fun hh => absurd hh (nI_ge (by omega) (by omega)), fun _ => ⟨v8, v8, ih (k + 1) (by omega) _ (Fr.pI (Fr.pI f1 (by decide)) (by decide)) (fun j hj => ?_) (fun j hj => ?_) ?_ _ rfl⟩⟩
      · rw [gII, if_neg (fun q => hj q.2), gII, if_neg (by omega)]; exact p1 j hj
      · rw [gII, if_neg (by omega)]
        by_cases y : j = k
        · rw [gII, if_pos ⟨rfl, y⟩, y]
        · rw [gII, if_neg (fun q => y q.2)]; exact g1 j (by omega)
      · rw [gII, if_pos ⟨rfl, rfl⟩]; rfl
  refine key _ (fun m1 f1 p1 g1 g2 => ⟨pl (NR S) (cT S) + 1, ?_⟩) (cT S) 0 (by omega) m0 Fr.rf (fun _ _ => rfl) (fun j hj => absurd hj (by omega)) e24 0 rfl
  have h1 : RW t m1 S u kw kl := ⟨cx.fr2 f1 o85 (by decide), (f1.2 _ _).trans e22, (f1.2 _ _).trans e23, K.kkw, K.lkw, K.kkl, K.lkl, ne, ⟨by omega, dw⟩, ⟨by omega, dl⟩, g1, g2⟩
  refine rk_L96 h1 (fun m2 f2 z2 => ⟨cnt S + 1, ?_⟩) (pl (NR S) (cT S)) 0 (by omega) m1 Fr.rf (fun i hi => absurd hi (by omega)) 0 rfl
  have o : ∀ a, a < 85 → a ∉ [kw] := fun a ha => by simp only [List.mem_cons, List.not_mem_nil, or_false]; omega
  have h2 := h1.fw f2
  refine rk_L119 (P := P) h2 (fun w hw => ((f2.I (o 78 (by decide)) _).trans (f1.I (by decide) _)).trans (A0 w hw)) (fun m3 f3 g3 => ⟨cT S + 1, ?_⟩) (cnt S) 0 (by omega) m2 Fr.rf (fun d hd => ?_) 0 rfl
  · rw [z2 _ (vl_lt hd)]
    rfl
  · have h3 := h2.fw f3
    refine rk_L194 (P := P) h3 (fun m4 f4 g4 => ?_) (cT S) 0 (by omega) m3 Fr.rf g3 0 rfl
    have h4 := h3.fw f4
    have F4 : Fr [kw] m1 m4 := (f2.tr f3).tr f4
    have F0 : Fr [75, 80, kw] m0 m4 := (f1.mono (by simp)).tr (F4.mono (by simp))
    have K4 : KR t m4 kk kw kl := ⟨(F0.2 _ _).trans K0.r21, K.k0, (F0.2 _ _).trans K0.r0, (F0.2 _ _).trans K0.r1, K.kkw, K.lkw, K.kkl, K.lkl, ne, Ko, Kn⟩
    exact hQ m4 h4 K4 (g0.fr F0 (fun a ha => Or.inl ha)) (fun j hj => ((F4.I (o 75 (by decide)) _).trans (p1 j hj)).trans (ei j hj)) g4
end
