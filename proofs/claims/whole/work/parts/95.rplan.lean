/-! Plans: the reference's states -/
def NR (S : Sc) (k : Nat) : Nat := cA S k + 1
def Xr (S : Sc) (P : Nat → Bool) (d : Nat → Nat) (w : Nat) : Bool := P w && (List.range (cT S)).all (fun k => (d k == cA S k) || (d k == ans S w k))
def Ur (S : Sc) (d : Nat → Nat) (k : Nat) : Bool := decide (k < cT S) && decide (0 < cC S k) && (d k == cA S k)
abbrev vr (S : Sc) (d : Nat → Nat) : Nat := vl (NR S) d (cT S)
def RW (t : zT) (m : zM) (S : Sc) (u : Nat) (kw : Nat) (kl : Nat) : Prop := (RC t m u S) ∧ (gR m 75 22 = kw) ∧ (gR m 75 23 = kl) ∧ (tK t kw = 14) ∧ (tL t kw = 50625) ∧ (tK t kl = 14) ∧ (tL t kl = 50625) ∧ (kw ≠ kl) ∧ (85 ≤ kw ∧ (kw < u ∨ u + 15 ≤ kw)) ∧ (85 ≤ kl ∧ (kl < u ∨ u + 15 ≤ kl)) ∧ (∀ k, k < cT S → gI m 80 k = nI (pl (NR S) k)) ∧ (gI m 75 24 = nI (pl (NR S) (cT S)))
theorem RW.rc {t : zT} {m : zM} {S : Sc} {u : Nat} {kw : Nat} {kl : Nat} (h_ : RW t m S u kw kl) : RC t m u S := h_.1
theorem RW.r22 {t : zT} {m : zM} {S : Sc} {u : Nat} {kw : Nat} {kl : Nat} (h_ : RW t m S u kw kl) : gR m 75 22 = kw := h_.2.1
theorem RW.r23 {t : zT} {m : zM} {S : Sc} {u : Nat} {kw : Nat} {kl : Nat} (h_ : RW t m S u kw kl) : gR m 75 23 = kl := h_.2.2.1
theorem RW.kkw {t : zT} {m : zM} {S : Sc} {u : Nat} {kw : Nat} {kl : Nat} (h_ : RW t m S u kw kl) : tK t kw = 14 := h_.2.2.2.1
theorem RW.lkw {t : zT} {m : zM} {S : Sc} {u : Nat} {kw : Nat} {kl : Nat} (h_ : RW t m S u kw kl) : tL t kw = 50625 := h_.2.2.2.2.1
theorem RW.kkl {t : zT} {m : zM} {S : Sc} {u : Nat} {kw : Nat} {kl : Nat} (h_ : RW t m S u kw kl) : tK t kl = 14 := h_.2.2.2.2.2.1
theorem RW.lkl {t : zT} {m : zM} {S : Sc} {u : Nat} {kw : Nat} {kl : Nat} (h_ : RW t m S u kw kl) : tL t kl = 50625 := h_.2.2.2.2.2.2.1
theorem RW.ne {t : zT} {m : zM} {S : Sc} {u : Nat} {kw : Nat} {kl : Nat} (h_ : RW t m S u kw kl) : kw ≠ kl := h_.2.2.2.2.2.2.2.1
theorem RW.ow {t : zT} {m : zM} {S : Sc} {u : Nat} {kw : Nat} {kl : Nat} (h_ : RW t m S u kw kl) : 85 ≤ kw ∧ (kw < u ∨ u + 15 ≤ kw) := h_.2.2.2.2.2.2.2.2.1
theorem RW.ol {t : zT} {m : zM} {S : Sc} {u : Nat} {kw : Nat} {kl : Nat} (h_ : RW t m S u kw kl) : 85 ≤ kl ∧ (kl < u ∨ u + 15 ≤ kl) := h_.2.2.2.2.2.2.2.2.2.1
theorem RW.step {t : zT} {m : zM} {S : Sc} {u : Nat} {kw : Nat} {kl : Nat} (h_ : RW t m S u kw kl) : ∀ k, k < cT S → gI m 80 k = nI (pl (NR S) k) := h_.2.2.2.2.2.2.2.2.2.2.1
theorem RW.kn {t : zT} {m : zM} {S : Sc} {u : Nat} {kw : Nat} {kl : Nat} (h_ : RW t m S u kw kl) : gI m 75 24 = nI (pl (NR S) (cT S)) := h_.2.2.2.2.2.2.2.2.2.2.2
section
variable {t t' t1 t2 : zT} {m m' m1 m2 : zM} {s u r : Nat} {S : Sc} {T T' : Ts} {P P' : Nat → Bool} {x x2 x3 : Int32} {Tl : List Nat} {kw kl : Nat} {d d' : Nat → Nat} {mn : Bool} {X : Nat → Bool}
theorem NR_b (v : Vs S) : pl (NR S) (cT S) ≤ 50625 := pl_bound v
theorem NR_pos : ∀ k, 0 < NR S k := fun k => Nat.succ_pos _
theorem vr_lt (v : Vs S) (h : okd (NR S) d (cT S)) : vr S d < 50625 := Nat.lt_of_lt_of_le (vl_lt h) (NR_b v)
theorem RW.fr (h : RW t m S u kw kl) (f : Fr Tl m m') (hT : ∀ j, j ≤ 14 → u + j ∉ Tl) (h77 : 77 ∉ Tl) (h80 : 80 ∉ Tl) (h24 : gI m' 75 24 = gI m 75 24) : RW t m' S u kw kl :=
  ⟨h.rc.fr2 f hT h77, (f.2 _ _).trans h.r22, (f.2 _ _).trans h.r23, h.kkw, h.lkw, h.kkl, h.lkl, h.ne, h.ow, h.ol, fun k hk => (f.I h80 _).trans (h.step k hk), h24.trans h.kn⟩
theorem RW.fl (h : RW t m S u kw kl) (f : Fr [kl] m m') : RW t m' S u kw kl := by
  have ol := h.ol
  have o : ∀ a, a < 85 → a ∉ [kl] := fun a ha => by simp only [List.mem_cons, List.not_mem_nil, or_false]; omega
  exact h.fr f (fun j hj => by simp only [List.mem_cons, List.not_mem_nil, or_false]; omega) (o _ (by decide)) (o _ (by decide)) (f.I (o _ (by decide)) _)
theorem Xr_t {w : Nat} : Xr S P d w = true ↔ P w = true ∧ ∀ k, k < cT S → d k = cA S k ∨ d k = ans S w k := by
  unfold Xr
  rw [Bool.and_eq_true, List.all_eq_true]
  simp only [List.mem_range, Bool.or_eq_true, beq_iff_eq]
theorem Ur_t {k : Nat} : Ur S d k = true ↔ k < cT S ∧ 0 < cC S k ∧ d k = cA S k := by
  unfold Ur
  simp only [Bool.and_eq_true, decide_eq_true_eq, beq_iff_eq, and_assoc]
theorem Xr_up {k a : Nat} (hk : k < cT S) (h0 : d k = cA S k) (ha : a < cA S k) : Xr S P (upF d k a) = wAns S (Xr S P d) k a := by
  funext w
  rw [← bt_iff, wAns_t, Xr_t, Xr_t]
  constructor
  · rintro ⟨h1, h2⟩
    refine ⟨⟨h1, fun j hj => ?_⟩, ?_⟩
    · by_cases z : j = k
      · rw [z]; exact Or.inl h0
      · have := h2 j hj
        unfold upF at this
        rw [if_neg z] at this
        exact this
    · have := h2 k hk
      unfold upF at this
      rw [if_pos rfl] at this
      omega
  · rintro ⟨⟨h1, h2⟩, h3⟩
    refine ⟨h1, fun j hj => ?_⟩
    unfold upF
    by_cases z : j = k
    · rw [if_pos z, z]; exact Or.inr h3.symm
    · rw [if_neg z]; exact h2 j hj
theorem Ur_up {k a : Nat} (ha : a < cA S k) : Ur S (upF d k a) = rmU (Ur S d) k := by
  funext j
  rw [← bt_iff, Ur_t]
  unfold rmU
  rw [Bool.and_eq_true, Ur_t, Bool.not_eq_true', beq_eq_false_iff_ne]
  unfold upF
  by_cases z : j = k
  · subst z
    rw [if_pos rfl]
    constructor
    · rintro ⟨_, _, h⟩; omega
    · rintro ⟨_, h⟩; exact absurd rfl h
  · rw [if_neg z]
    exact ⟨fun h => ⟨h, z⟩, fun h => h.1⟩
theorem nx_r {k a : Nat} (hk : k < cT S) (h0 : d k = cA S k) (ha : a < cA S k) : nxF S mn (Ur S d) (Xr S P d) k a = FF S mn (Ur S (upF d k a)) (Xr S P (upF d k a)) := by
  unfold nxF
  rw [Xr_up hk h0 ha, Ur_up ha]
theorem vr_ch {k a : Nat} (hk : k < cT S) (h0 : d k = cA S k) (ha : a < cA S k) : vr S (upF d k a) + pl (NR S) k * (cA S k - a) = vr S d := by
  have e := vl_up (N := NR S) (d := d) (v := a) hk
  rw [h0] at e
  have : pl (NR S) k * (cA S k - a) + a * pl (NR S) k = cA S k * pl (NR S) k := by
    rw [Nat.mul_comm (pl (NR S) k), ← Nat.add_mul]
    congr 1
    omega
  unfold vr
  omega
theorem vr_sub (v : Vs S) (hd : okd (NR S) d (cT S)) {k a : Nat} (hk : k < cT S) (h0 : d k = cA S k) (ha : a < cA S k) : nI (vr S d) - nI (pl (NR S) k) * (nI (cA S k) - nI a) = nI (vr S (upF d k a)) := by
  have e := vr_ch hk h0 ha
  rw [pk_sub (by omega), pk_mul, pk_sub (by omega)]
  congr 1
  omega
theorem rsp_digit (h : RW t m S u kw kl) (hd : okd (NR S) d (cT S)) {k : Nat} (hk : k < cT S) {Q : Int32 → zM → Prop} (hQ : Q (nI (d k)) m) : wX12_digit t m 75 (nI (vr S d)) (nI k) Q := by
  have c := h.rc
  have L := c.lay
  have v := c.vs
  have t8 := v.t8
  have av := v.a2 k hk
  have RLc := c.rl
  have kc := nI_cl (show k < 2 ^ 31 by omega)
  have pp := pl_pos (N := NR S) (n := k) (fun j _ => NR_pos j)
  have pm := pl_mono (N := NR S) (n := cT S) (k := k) (fun j _ => NR_pos j) (by omega)
  have nb := NR_b v
  have vlt := vr_lt v hd
  have dl : vr S d / pl (NR S) k ≤ vr S d := Nat.div_le_self _ _
  unfold wX12_digit
  simp only [c.told, RLc.k, RLc.r1, RLc.k1, RLc.l1, RLc.r2, RLc.k2, RLc.l2, RLc.r3, RLc.k3, RLc.l3, RLc.r4, RLc.k4, RLc.l4, RLc.r5, RLc.k5, RLc.l5, RLc.r6, RLc.k6, RLc.l6, RLc.r7, RLc.k7, RLc.l7, RLc.r8, RLc.k8, RLc.l8, RLc.r9, RLc.k9, RLc.l9, RLc.r10, RLc.k10, RLc.l10, RLc.r11, RLc.k11, RLc.l11, RLc.r12, RLc.k12, RLc.l12, RLc.r13, RLc.k13, RLc.l13, RLc.r14, RLc.k14, RLc.l14, lr75_20 L, lk80 L, ll80 L, kc, h.step k hk, c.sm.answers k hk, true_and, nI_1]
  rw [pk_div (by omega) pp (by omega), pk_rem (by omega) (by omega) (by omega)]
  refine ⟨lk75 L, vp_nI (by omega) (by decide), nI_ne0 pp (by omega), vp_nI (by omega) (by decide), nI_ne0 (by omega) (by omega), ?_⟩
  have e := vl_dg hd k hk
  unfold NR at e
  unfold vr NR
  rw [e]
  exact hQ
theorem rsp_isOpen (h : RW t m S u kw kl) (hd : okd (NR S) d (cT S)) {k : Nat} (hk : k < cT S) {Q : Int32 → zM → Prop} (hQ : Q (bI (Ur S d k)) m) : wX12_isOpen t m 75 (nI (vr S d)) (nI k) Q := by
  have c := h.rc
  have L := c.lay
  have v := c.vs
  have t8 := v.t8
  have av := v.a2 k hk
  have RLc := c.rl
  have c99 := v.c99 k (by omega)
  have dk := hd k hk
  have kc := nI_cl (show k < 2 ^ 31 by omega)
  have v8 : vp_in (nI k) 8 := vp_nI (by omega) (by decide)
  unfold wX12_isOpen
  simp only [c.told, RLc.k, RLc.r1, RLc.k1, RLc.l1, RLc.r2, RLc.k2, RLc.l2, RLc.r3, RLc.k3, RLc.l3, RLc.r4, RLc.k4, RLc.l4, RLc.r5, RLc.k5, RLc.l5, RLc.r6, RLc.k6, RLc.l6, RLc.r7, RLc.k7, RLc.l7, RLc.r8, RLc.k8, RLc.l8, RLc.r9, RLc.k9, RLc.l9, RLc.r10, RLc.k10, RLc.l10, RLc.r11, RLc.k11, RLc.l11, RLc.r12, RLc.k12, RLc.l12, RLc.r13, RLc.k13, RLc.l13, RLc.r14, RLc.k14, RLc.l14, kc, c.sm.cost k (by omega), true_and]
  refine ⟨lk75 L, v8, fun h0 => ?_, fun h0 => rsp_digit h hd hk ?_⟩
  · have : Ur S d k = false := by
      have : ¬ 0 < cC S k := fun q => absurd h0 (nI_nle q (by omega))
      unfold Ur
      simp [this]
    rw [this] at hQ
    exact hQ
  · have pos : 0 < cC S k := by
      rcases Nat.eq_zero_or_pos (cC S k) with q | q
      · rw [q] at h0; exact absurd (by decide) h0
      · exact q
    unfold NR at dk
    simp only [c.told, RLc.k, RLc.r1, RLc.k1, RLc.l1, RLc.r2, RLc.k2, RLc.l2, RLc.r3, RLc.k3, RLc.l3, RLc.r4, RLc.k4, RLc.l4, RLc.r5, RLc.k5, RLc.l5, RLc.r6, RLc.k6, RLc.l6, RLc.r7, RLc.k7, RLc.l7, RLc.r8, RLc.k8, RLc.l8, RLc.r9, RLc.k9, RLc.l9, RLc.r10, RLc.k10, RLc.l10, RLc.r11, RLc.k11, RLc.l11, RLc.r12, RLc.k12, RLc.l12, RLc.r13, RLc.k13, RLc.l13, RLc.r14, RLc.k14, RLc.l14, kc, c.sm.answers k hk, true_and]
    rw [nI_eq (by omega) (by omega)]
    refine ⟨v8, fun e => ?_, fun e => ?_⟩
    · have : Ur S d k = true := Ur_t.mpr ⟨hk, pos, e⟩
      rw [this] at hQ
      exact hQ
    · have : Ur S d k = false := by
        unfold Ur
        simp [e]
      rw [this] at hQ
      exact hQ
theorem nI_inf : (268435456 : Int32) = nI INF := rfl
theorem cmb_skip {f : Nat → Nat} {a : Nat} (h : f a = 0) : cmb mn f (a + 1) = cmb mn f a := by
  rw [cmb, h]
  split
  · omega
  · split <;> omega
theorem rsp_costOf (h : RW t m S u kw kl) (hd : okd (NR S) d (cT S)) {k : Nat} (hk : k < cT S) (hop : d k = cA S k) {f : Nat → Nat} (hf : ∀ a, a < cA S k → f a ≤ INF) (hz : ∀ a, a < cA S k → oft S X k a = 0 → f a = 0) (hw : gI m kw (vr S d) = nI (mny S X)) (hc : ∀ a, a < cA S k → gI m kw (vr S (upF d k a)) = nI (oft S X k a) ∧ gI m kl (vr S (upF d k a)) = nI (f a)) {Q : Int32 → zM → Prop} (hQ : Q (nI (fcs S mn X k f)) m) : wX12_costOf t m 75 (nI (vr S d)) (nI k) (bI mn) Q := by
  have c := h.rc
  have L := c.lay
  have v := c.vs
  have t8 := v.t8
  have av := v.a2 k hk
  have RLc := c.rl
  have c99 := v.c99 k (by omega)
  have hcn := v.cnt
  have ml := mny_le (S := S) X
  have kc := nI_cl (show k < 2 ^ 31 by omega)
  have v8 : vp_in (nI k) 8 := vp_nI (by omega) (by decide)
  have vlt := vr_lt v hd
  have vc := nI_cl (show vr S d < 2 ^ 31 by omega)
  have cb : ∀ n, n ≤ cA S k → cmb mn f n ≤ 1073741824 := fun n hn => by
    have x1 := cmb_b (mn := mn) (f := f) (b := INF) n (fun a ha => hf a (by omega))
    have x2 : n * INF ≤ 4 * INF := Nat.mul_le_mul_right _ (by omega)
    unfold INF at x1 x2
    omega
  unfold wX12_costOf
  refine ⟨cA S k + 1, ?_⟩
  have key : ∀ K : Int32 → zM → Prop, ((∀ b, b < cA S k → ¬ (oft S X k b ≠ 0 ∧ (oft S X k b = mny S X ∨ INF ≤ f b))) → K (nI (cmb mn f (cA S k))) m) → ∀ dd a : Nat, a + dd = cA S k → (∀ b, b < a → ¬ (oft S X k b ≠ 0 ∧ (oft S X k b = mny S X ∨ INF ≤ f b))) → ∀ z4 z5 : Int32, z4 = nI (cmb mn f a) → z5 = nI a → wX12_costOf_L6 t 75 (nI (vr S d)) (nI k) (bI mn) Q K (dd + 1) z4 z5 m := by
    intro K hK dd
    induction dd with
    | zero =>
      intro a ha g z4 z5 h4 h5
      have e : a = cA S k := by omega
      subst e
      rw [h4, h5, wX12_costOf_L6]
      simp only [c.told, RLc.k, RLc.r1, RLc.k1, RLc.l1, RLc.r2, RLc.k2, RLc.l2, RLc.r3, RLc.k3, RLc.l3, RLc.r4, RLc.k4, RLc.l4, RLc.r5, RLc.k5, RLc.l5, RLc.r6, RLc.k6, RLc.l6, RLc.r7, RLc.k7, RLc.l7, RLc.r8, RLc.k8, RLc.l8, RLc.r9, RLc.k9, RLc.l9, RLc.r10, RLc.k10, RLc.l10, RLc.r11, RLc.k11, RLc.l11, RLc.r12, RLc.k12, RLc.l12, RLc.r13, RLc.k13, RLc.l13, RLc.r14, RLc.k14, RLc.l14, kc, c.sm.answers k hk, true_and]
      exact ⟨lk75 L, v8, fun _ => hK g, fun hh => absurd (nI_le (Nat.le_refl _) (by omega)) hh⟩
    | succ dd ih =>
      intro a ha g z4 z5 h4 h5
      have al : a < cA S k := by omega
      obtain ⟨w1, w2⟩ := hc a al
      have ok' : okd (NR S) (upF d k a) (cT S) := okd_up hd (by unfold NR; omega)
      have vlt' := vr_lt v ok'
      have ol : oft S X k a ≤ mny S X := oft_le
      have fa := hf a al
      have ca := cb a (by omega)
      have vch : vp_in (nI (vr S (upF d k a))) 50625 := vp_nI vlt' (by decide)
      rw [h4, h5, wX12_costOf_L6]
      simp only [c.told, RLc.k, RLc.r1, RLc.k1, RLc.l1, RLc.r2, RLc.k2, RLc.l2, RLc.r3, RLc.k3, RLc.l3, RLc.r4, RLc.k4, RLc.l4, RLc.r5, RLc.k5, RLc.l5, RLc.r6, RLc.k6, RLc.l6, RLc.r7, RLc.k7, RLc.l7, RLc.r8, RLc.k8, RLc.l8, RLc.r9, RLc.k9, RLc.l9, RLc.r10, RLc.k10, RLc.l10, RLc.r11, RLc.k11, RLc.l11, RLc.r12, RLc.k12, RLc.l12, RLc.r13, RLc.k13, RLc.l13, RLc.r14, RLc.k14, RLc.l14, kc, c.sm.answers k hk, lr75_20 L, lk80 L, ll80 L, h.step k hk, h.r22, h.kkw, h.lkw, h.r23, h.kkl, h.lkl, vr_sub v hd hk hop al, true_and]
      refine ⟨lk75 L, v8, fun hh => absurd hh (nI_ge (by omega) (by omega)), fun _ => ⟨v8, fun x8 h8 => ?_⟩⟩
      subst h8
      rw [nI_cl (show vr S (upF d k a) < 2 ^ 31 by omega), w1, w2, vc, hw, nI_eq (show oft S X k a < 2 ^ 31 by omega) (show mny S X < 2 ^ 31 by omega), nI_inf]
      have e0 : nI (oft S X k a) = 0 ↔ oft S X k a = 0 := nI_eq (b := 0) (by omega) (by decide)
      rw [e0, nI_ltI (show f a < 2 ^ 31 by unfold INF at fa; omega) (by decide), bI_0, nI_leI (show f a < 2 ^ 31 by unfold INF at fa; omega) (show cmb mn f a < 2 ^ 31 by omega)]
      unfold wX12_costOf_J134 wX12_costOf_J136
      have nx : ¬ (oft S X k a ≠ 0 ∧ (oft S X k a = mny S X ∨ INF ≤ f a)) → ∀ b, b < a + 1 → ¬ (oft S X k b ≠ 0 ∧ (oft S X k b = mny S X ∨ INF ≤ f b)) := by
        intro hh b hb
        rcases (show b < a ∨ b = a by omega) with q | q
        · exact g b q
        · rw [q]; exact hh
      have bad : oft S X k a ≠ 0 ∧ (oft S X k a = mny S X ∨ INF ≤ f a) → Q (nI INF) m := by
        intro hh
        have e : fcs S mn X k f = INF := by
          unfold fcs
          rw [badB_iff.mpr ⟨a, al, hh.1, hh.2⟩]
          rfl
        rw [e] at hQ
        exact hQ
      refine ⟨vch, fun h0 => ih (a + 1) (by omega) (nx (fun q => q.1 h0)) _ _ ?_ (nI_1 a), fun h0 => ⟨vp_nI vlt (by decide), fun he => bad ⟨h0, Or.inl he⟩, fun he => ⟨vch, fun hlt => ⟨fun hmn => ⟨fun hle => ih (a + 1) (by omega) (nx (fun q => ?_)) _ _ ?_ (nI_1 a), fun hle => ih (a + 1) (by omega) (nx (fun q => ?_)) _ _ ?_ (nI_1 a)⟩, fun hmn => ih (a + 1) (by omega) (nx (fun q => ?_)) _ _ ?_ (nI_1 a)⟩, fun hlt => bad ⟨h0, Or.inr (by omega)⟩⟩⟩⟩
      · rw [cmb_skip (hz a al h0)]
      · rcases q.2 with z | z
        · exact he z
        · omega
      · rw [cmb, hmn]
        simp only [Bool.false_eq_true, if_false]
        rw [hmn] at hle
        rw [if_neg (by omega)]
      · rcases q.2 with z | z
        · exact he z
        · omega
      · rw [cmb, hmn]
        simp only [Bool.false_eq_true, if_false]
        rw [hmn] at hle
        rw [if_pos (by omega)]
      · rcases q.2 with z | z
        · exact he z
        · omega
      · have hmn := ts_false hmn
        rw [cmb, hmn, nI_add]
        simp only [if_true]
  refine key _ (fun g => ?_) (cA S k) 0 (by omega) (fun b hb => absurd hb (by omega)) 0 0 rfl rfl
  have nb : badB S X k f = false := by
    cases hb : badB S X k f with
    | false => rfl
    | true =>
      obtain ⟨a, a1, a2, a3⟩ := badB_iff.mp hb
      exact absurd ⟨a2, a3⟩ (g a a1)
  have ca := cb (cA S k) (Nat.le_refl _)
  have wl : cC S k * mny S X ≤ 99 * 4096 := Nat.mul_le_mul c99 (by omega)
  rw [nI_inf, nI_ltI (by omega) (by decide), bI_0]
  simp only [c.told, RLc.k, RLc.r1, RLc.k1, RLc.l1, RLc.r2, RLc.k2, RLc.l2, RLc.r3, RLc.k3, RLc.l3, RLc.r4, RLc.k4, RLc.l4, RLc.r5, RLc.k5, RLc.l5, RLc.r6, RLc.k6, RLc.l6, RLc.r7, RLc.k7, RLc.l7, RLc.r8, RLc.k8, RLc.l8, RLc.r9, RLc.k9, RLc.l9, RLc.r10, RLc.k10, RLc.l10, RLc.r11, RLc.k11, RLc.l11, RLc.r12, RLc.k12, RLc.l12, RLc.r13, RLc.k13, RLc.l13, RLc.r14, RLc.k14, RLc.l14, kc, c.sm.cost k (by omega), h.r22, h.kkw, h.lkw, vc, hw, true_and]
  unfold fcs wgm at hQ
  rw [nb] at hQ
  simp only [Bool.false_eq_true, if_false] at hQ
  refine ⟨fun hlt => ⟨lk75 L, v8, fun hmn => ?_, fun hmn => ⟨vp_nI vlt (by decide), ?_⟩⟩, fun hlt => ?_⟩
  · rw [if_neg (by omega), hmn] at hQ
    simp only [Bool.false_eq_true, if_false] at hQ
    rw [show (1 : Int32) = nI 1 from rfl, pk_mul, nI_add, hmn]
    exact hQ
  · have hmn := ts_false hmn
    rw [if_neg (by omega), hmn] at hQ
    simp only [if_true] at hQ
    rw [pk_mul, nI_add, hmn]
    exact hQ
  · rw [if_pos (by omega)] at hQ
    exact hQ
end
