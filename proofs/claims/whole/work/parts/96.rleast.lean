/-! Plans: the reference's least costs -/
/-- the digits of what is known -/
def dF (S : Sc) (T : Ts) (k : Nat) : Nat := if Fct S T k = 0 then cA S k else Fct S T k - 1
section
variable {t t' t1 t2 : zT} {m m' m1 m2 : zM} {s u r : Nat} {S : Sc} {T T' : Ts} {P P' : Nat → Bool} {x x2 x3 : Int32} {Tl : List Nat} {kw kl : Nat} {d d' : Nat → Nat} {mn : Bool} {X : Nat → Bool}
theorem fcs_lt (v : Vs S) {k : Nat} (hk : k < cT S) {f : Nat → Nat} : fcs S mn X k f ≤ 268840960 := by
  have t8 := v.t8
  have c99 := v.c99 k (by omega)
  have ml := mny_le (S := S) X
  have hc := v.cnt
  have w : wgm S mn X ≤ 4096 := by unfold wgm; split <;> omega
  have g : cC S k * wgm S mn X ≤ 99 * 4096 := Nat.mul_le_mul c99 w
  unfold fcs
  split
  · decide
  · split
    · decide
    · rename_i h
      unfold INF at h
      omega
/-- what the children of a state give -/
theorem cost_at (h : RW t m S u kw kl) (hd : okd (NR S) d (cT S)) {k : Nat} (hk : k < cT S) (hop : d k = cA S k) (hW : ∀ d, okd (NR S) d (cT S) → gI m kw (vr S d) = nI (mny S (Xr S P d))) (hL : ∀ d', okd (NR S) d' (cT S) → vr S d' < vr S d → gI m kl (vr S d') = nI (FF S mn (Ur S d') (Xr S P d'))) {Q : Int32 → zM → Prop} (hQ : Q (nI (fcs S mn (Xr S P d) k (nxF S mn (Ur S d) (Xr S P d) k))) m) : wX12_costOf t m 75 (nI (vr S d)) (nI k) (bI mn) Q := by
  have v := h.rc.vs
  have av := v.a2 k hk
  have pp := pl_pos (N := NR S) (n := k) (fun j _ => NR_pos j)
  refine rsp_costOf h hd hk hop (fun a _ => FF_inf) (fun a _ ho => FF_0 (by rw [mny_wAns]; omega)) (hW d hd) (fun a ha => ?_) hQ
  have ok' : okd (NR S) (upF d k a) (cT S) := okd_up hd (by unfold NR; omega)
  have e := vr_ch hk hop ha
  have p1 : 1 * 1 ≤ pl (NR S) k * (cA S k - a) := Nat.mul_le_mul pp (by omega)
  refine ⟨?_, ?_⟩
  · rw [hW _ ok', Xr_up hk hop ha, mny_wAns]
  · rw [hL _ ok' (by omega), Xr_up hk hop ha, Ur_up ha]
theorem rsp_laysLeast (h : RW t m S u kw kl) (hW : ∀ d, okd (NR S) d (cT S) → gI m kw (vr S d) = nI (mny S (Xr S P d))) {Q : zM → Prop} (hQ : ∀ m', Fr [kl] m m' → (∀ d, okd (NR S) d (cT S) → gI m' kl (vr S d) = nI (FF S mn (Ur S d) (Xr S P d))) → Q m') : wX12_laysLeast t m 75 (bI mn) Q := by
  have c := h.rc
  have L := c.lay
  have v := c.vs
  have t8 := v.t8
  have hcn := v.cnt
  have nb := NR_b v
  have ne := h.ne
  have ow := h.ow
  have ol := h.ol
  have o : ∀ a, a < 85 → a ∉ [kl] := fun a ha => by simp only [List.mem_cons, List.not_mem_nil, or_false]; omega
  have okw : kw ∉ [kl] := by simp only [List.mem_cons, List.not_mem_nil, or_false]; exact ne
  unfold wX12_laysLeast
  refine ⟨pl (NR S) (cT S) + 1, ?_⟩
  have key : ∀ dd q : Nat, q + dd = pl (NR S) (cT S) → ∀ m1, Fr [kl] m m1 → (∀ d, okd (NR S) d (cT S) → vr S d < q → gI m1 kl (vr S d) = nI (FF S mn (Ur S d) (Xr S P d))) → ∀ z : Int32, z = nI q → wX12_laysLeast_L2 t 75 (bI mn) Q (fun m26 => Q m26) (dd + 1) z m1 := by
    intro dd
    induction dd with
    | zero =>
      intro q hq m1 f1 g1 z hz
      have e : q = pl (NR S) (cT S) := by omega
      subst e
      have h1 := h.fl f1
      rw [hz, wX12_laysLeast_L2, h1.kn]
      exact ⟨lk75 L, fun _ => hQ m1 f1 (fun d hd => g1 d hd (vl_lt hd)), fun hh => absurd (nI_le (Nat.le_refl _) (by omega)) hh⟩
    | succ dd ih =>
      intro q hq m1 f1 g1 z hz
      have h1 := h.fl f1
      obtain ⟨d, hd, ed⟩ := vl_sur (N := NR S) (n := cT S) (fun k _ => NR_pos k) q (by omega)
      have ed : vr S d = q := ed
      have ml := mny_le (S := S) (Xr S P d)
      have W1 : ∀ m2, Fr [kl] m m2 → ∀ d, okd (NR S) d (cT S) → gI m2 kw (vr S d) = nI (mny S (Xr S P d)) := fun m2 f2 d hd => (f2.I okw _).trans (hW d hd)
      have ew := W1 m1 f1 d hd
      rw [ed] at ew
      have qc := nI_cl (show q < 2 ^ 31 by omega)
      have vq : vp_in (nI q) 50625 := vp_nI (by omega) (by decide)
      have e2' : (2 : Int32) ≤ nI (mny S (Xr S P d)) ↔ 2 ≤ mny S (Xr S P d) := nI_leI (a := 2) (by decide) (by omega)
      rw [hz, wX12_laysLeast_L2, h1.kn, h1.r22, h.kkw, h.lkw, qc, ew, h1.r23, e2']
      unfold wX12_laysLeast_J32 wX12_laysLeast_J111
      rw [h.kkl, h.lkl, qc]
      -- behind a state
      have nx : ∀ m2, Fr [kl] m m2 → (∀ i, i ≠ q → gI m2 kl i = gI m1 kl i) → gI m2 kl q = nI (FF S mn (Ur S d) (Xr S P d)) → wX12_laysLeast_L2 t 75 (bI mn) Q (fun m26 => Q m26) (dd + 1) (nI q + 1) m2 := by
        intro m2 f2 e2 e3
        refine ih (q + 1) (by omega) m2 f2 (fun d' hd' lt => ?_) _ (nI_1 q)
        rcases (show vr S d' < q ∨ vr S d' = q by omega) with z | z
        · rw [e2 _ (by omega)]; exact g1 d' hd' z
        · have eq := vl_inj hd' hd (show vl (NR S) d' (cT S) = vl (NR S) d (cT S) from z.trans ed.symm)
          have x1 : Xr S P d' = Xr S P d := by
            funext w
            rw [← bt_iff, Xr_t, Xr_t]
            exact and_congr Iff.rfl ⟨fun y k hk => by rw [← eq k hk]; exact y k hk, fun y k hk => by rw [eq k hk]; exact y k hk⟩
          have x2 : Ur S d' = Ur S d := by
            funext k
            rw [← bt_iff, Ur_t, Ur_t]
            constructor
            · rintro ⟨y1, y2, y3⟩; exact ⟨y1, y2, by rw [← eq k y1]; exact y3⟩
            · rintro ⟨y1, y2, y3⟩; exact ⟨y1, y2, by rw [eq k y1]; exact y3⟩
          rw [z, e3, x1, x2]
      -- the loop over things
      have inner : 2 ≤ mny S (Xr S P d) → ∀ d2 k : Nat, k + d2 = cT S → ∀ m2, Fr [kl] m m2 → (∀ i, i ≠ q → gI m2 kl i = gI m1 kl i) → gI m2 kl q = nI (mins (fun k => if Ur S d k then fcs S mn (Xr S P d) k (nxF S mn (Ur S d) (Xr S P d) k) else INF) k) → ∀ y : Int32, y = nI k → wX12_laysLeast_L35 t 75 (bI mn) (nI q) Q (fun m24 => wX12_laysLeast_L2 t 75 (bI mn) Q (fun m26 => Q m26) (dd + 1) (nI q + 1) m24) (d2 + 1) y m2 := by
        intro hx d2
        induction d2 with
        | zero =>
          intro k hk m2 f2 e2 e3 y hy
          have e : k = cT S := by omega
          subst e
          have h2 := h.fl f2
          rw [hy, wX12_laysLeast_L35, h2.rc.told, h2.rc.sm.things]
          refine ⟨lk75 L, h2.rc.rl.k, fun _ => nx m2 f2 e2 ?_, fun hh => absurd (nI_le (Nat.le_refl _) (by omega)) hh⟩
          rw [e3, FF_eq, if_neg (by omega)]
        | succ d2 ih2 =>
          intro k hk m2 f2 e2 e3 y hy
          have kt : k < cT S := by omega
          have h2 := h.fl f2
          have ew2 := W1 m2 f2 d hd
          rw [ed] at ew2
          have e1 : nI (mny S (Xr S P d)) ≤ 1 ↔ mny S (Xr S P d) ≤ 1 := nI_leI (b := 1) (by omega) (by decide)
          have mi : mins (fun k => if Ur S d k then fcs S mn (Xr S P d) k (nxF S mn (Ur S d) (Xr S P d) k) else INF) k ≤ 268435456 := mins_inf k
          rw [hy, wX12_laysLeast_L35, h2.rc.told, h2.rc.sm.things, h2.r22, h.kkw, h.lkw, qc, ew2, e1]
          refine ⟨lk75 L, h2.rc.rl.k, fun hh => absurd hh (nI_ge (by omega) (by omega)), fun _ => ⟨rfl, vq, fun hle => by omega, fun _ => ?_⟩⟩
          rw [← ed]
          refine rsp_isOpen h2 hd kt ?_
          rw [bI_0]
          unfold wX12_laysLeast_J104 wX12_laysLeast_J105
          refine ⟨fun hb => ?_, fun hb => cost_at (P := P) h2 hd kt (Ur_t.mp (ts_false hb)).2.2 (W1 m2 f2) (fun d' hd' lt => ?_) ?_⟩
          · rw [ed]
            refine ih2 (k + 1) (by omega) m2 f2 e2 ?_ _ (nI_1 k)
            rw [e3, mins, hb]
            simp only [Bool.false_eq_true, if_false]
            rw [if_neg (Nat.not_lt.mpr mi)]
          · rw [e2 _ (by omega)]
            exact g1 d' hd' (by omega)
          · have fl := fcs_lt (mn := mn) (X := Xr S P d) v kt (f := nxF S mn (Ur S d) (Xr S P d) k)
            have hb := ts_false hb
            rw [ed, h2.r23, h.kkl, h.lkl, qc, e3, nI_leI (by omega) (by omega)]
            refine ⟨rfl, vq, fun hle => ⟨rfl, vq, ih2 (k + 1) (by omega) _ (Fr.pI f2 (by simp)) (fun i hi => ?_) ?_ _ (nI_1 k)⟩, fun hle => ⟨rfl, vq, ih2 (k + 1) (by omega) _ (Fr.pI f2 (by simp)) (fun i hi => ?_) ?_ _ (nI_1 k)⟩⟩
            · rw [gII, if_neg (fun y => hi y.2)]; exact e2 i hi
            · rw [gII, if_pos ⟨rfl, rfl⟩, mins, hb]
              simp only [if_true]
              rw [if_neg (by omega)]
            · rw [gII, if_neg (fun y => hi y.2)]; exact e2 i hi
            · rw [gII, if_pos ⟨rfl, rfl⟩, mins, hb]
              simp only [if_true]
              rw [if_pos (by omega)]
      refine ⟨lk75 L, fun hh => absurd hh (nI_ge (by omega) (by omega)), fun _ => ⟨rfl, vq, fun hx => ⟨rfl, vq, cT S + 1, inner hx (cT S) 0 (by omega) _ (Fr.pI f1 (by simp)) (fun i hi => ?_) ?_ 0 rfl⟩, fun hx => ⟨rfl, vq, 1, ?_⟩⟩⟩
      · rw [gII, if_neg (fun y => hi y.2)]
      · rw [gII, if_pos ⟨rfl, rfl⟩]; rfl
      · have F2 : Fr [kl] m (pI m1 kl q 0) := Fr.pI f1 (by simp)
        have h2 := h.fl F2
        have ew2 := W1 _ F2 d hd
        rw [ed] at ew2
        have e1 : nI (mny S (Xr S P d)) ≤ 1 ↔ mny S (Xr S P d) ≤ 1 := nI_leI (b := 1) (by omega) (by decide)
        have fin : wX12_laysLeast_L2 t 75 (bI mn) Q (fun m26 => Q m26) (dd + 1) (nI q + 1) (pI m1 kl q 0) := by
          refine nx _ F2 (fun i hi => ?_) ?_
          · rw [gII, if_neg (fun y => hi y.2)]
          · rw [gII, if_pos ⟨rfl, rfl⟩, FF_0 (by omega)]; rfl
        rw [wX12_laysLeast_L35, h2.rc.told, h2.rc.sm.things, h2.r22, h.kkw, h.lkw, qc, ew2, e1]
        exact ⟨lk75 L, h2.rc.rl.k, fun _ => fin, fun _ => ⟨rfl, vq, fun _ => fin, fun hh => by omega⟩⟩
  exact key (pl (NR S) (cT S)) 0 (by omega) m Fr.rf (fun d _ lt => absurd lt (by omega)) 0 rfl
theorem Fct_lt (v : Vs S) {k : Nat} (hk : k < cT S) : Fct S T k ≤ cA S k := by
  have := ans_lt v (w := thd T 3 - 1) hk
  unfold Fct Fcf
  split <;> omega
theorem dF_ok (v : Vs S) : okd (NR S) (dF S T) (cT S) := by
  intro k hk
  have := Fct_lt (T := T) v hk
  unfold dF NR
  split <;> omega
theorem rsp_knownNow (h : RW t m S u kw kl) (tm : TmR m S T) {Q : Int32 → zM → Prop} (hQ : Q (nI (vr S (dF S T))) m) : wX12_knownNow t m 75 Q := by
  have c := h.rc
  have L := c.lay
  have v := c.vs
  have t8 := v.t8
  have RLc := c.rl
  unfold wX12_knownNow
  refine ⟨cT S + 1, ?_⟩
  have key : ∀ dd k : Nat, k + dd = cT S → ∀ z1 z2 : Int32, z1 = nI (vl (NR S) (dF S T) k) → z2 = nI k → wX12_knownNow_L4 t 75 Q (fun v12 m13 => Q v12 m13) (dd + 1) z1 z2 m := by
    intro dd
    induction dd with
    | zero =>
      intro k hk z1 z2 e1 e2
      have e : k = cT S := by omega
      subst e
      rw [e1, e2, wX12_knownNow_L4, c.told, c.sm.things]
      exact ⟨lk75 L, RLc.k, fun _ => hQ, fun hh => absurd (nI_le (Nat.le_refl _) (by omega)) hh⟩
    | succ dd ih =>
      intro k hk z1 z2 e1 e2
      have kt : k < cT S := by omega
      have fl := Fct_lt (T := T) v kt
      have av := v.a2 k kt
      have kc := nI_cl (show k < 2 ^ 31 by omega)
      have ef : gI m 82 k = fcI (Fct S T k) := tm.fact k (by omega)
      rw [e1, e2, wX12_knownNow_L4]
      simp only [c.told, c.sm.things, RLc.k, RLc.r1, RLc.k1, RLc.l1, RLc.r2, RLc.k2, RLc.l2, RLc.r3, RLc.k3, RLc.l3, RLc.r4, RLc.k4, RLc.l4, RLc.r5, RLc.k5, RLc.l5, RLc.r6, RLc.k6, RLc.l6, RLc.r7, RLc.k7, RLc.l7, RLc.r8, RLc.k8, RLc.l8, RLc.r9, RLc.k9, RLc.l9, RLc.r10, RLc.k10, RLc.l10, RLc.r11, RLc.k11, RLc.l11, RLc.r12, RLc.k12, RLc.l12, RLc.r13, RLc.k13, RLc.l13, RLc.r14, RLc.k14, RLc.l14, kc, c.sm.answers k kt, lr75_20 L, lk80 L, ll80 L, h.step k kt, lr75_26 L, lk82 L, ll82 L, ef, fcI_m2 (show Fct S T k < 2 ^ 31 by omega), true_and]
      unfold wX12_knownNow_J51
      have v8 : vp_in (nI k) 8 := vp_nI (by omega) (by decide)
      refine ⟨lk75 L, fun hh => absurd hh (nI_ge (by omega) (by omega)), fun _ => ⟨v8, vp_nI (by omega) (by decide), fun h0 => ⟨v8, fun x9 h9 => ih (k + 1) (by omega) _ _ ?_ (nI_1 k)⟩, fun h0 x9 h9 => ih (k + 1) (by omega) _ _ ?_ (nI_1 k)⟩⟩
      · have ed : dF S T k = cA S k := by unfold dF; rw [if_pos h0]
        rw [h9, vl_succ, ed, pk_mul, nI_add, Nat.mul_comm (cA S k)]
      · have ed : dF S T k = Fct S T k - 1 := by unfold dF; rw [if_neg h0]
        have ei : fcI (Fct S T k) = nI (Fct S T k - 1) := by unfold fcI; rw [if_neg h0]
        rw [h9, vl_succ, ed, ei, pk_mul, nI_add, Nat.mul_comm (Fct S T k - 1)]
  exact key (cT S) 0 (by omega) 0 0 rfl rfl
theorem rsp_firstNow (h : RW t m S u kw kl) (tm : TmR m S T) (hW : ∀ d, okd (NR S) d (cT S) → gI m kw (vr S d) = nI (mny S (Xr S P d))) (hL : ∀ d, okd (NR S) d (cT S) → gI m kl (vr S d) = nI (FF S mn (Ur S d) (Xr S P d))) (hfin : FF S mn (Ur S (dF S T)) (Xr S P (dF S T)) < INF) {Q : Int32 → zM → Prop} (hQ : Q (fsI S mn (Ur S (dF S T)) (Xr S P (dF S T))) m) : wX12_firstNow t m 75 (bI mn) Q := by
  have c := h.rc
  have L := c.lay
  have v := c.vs
  have t8 := v.t8
  have hcn := v.cnt
  have hd := dF_ok (T := T) v
  have vlt := vr_lt v hd
  have ml := mny_le (S := S) (Xr S P (dF S T))
  have vc := nI_cl (show vr S (dF S T) < 2 ^ 31 by omega)
  have vq : vp_in (nI (vr S (dF S T))) 50625 := vp_nI (by omega) (by decide)
  have e1 : nI (mny S (Xr S P (dF S T))) ≤ 1 ↔ mny S (Xr S P (dF S T)) ≤ 1 := nI_leI (b := 1) (by omega) (by decide)
  unfold wX12_firstNow
  refine ⟨lk75 L, rsp_knownNow h tm ⟨cT S + 1, ?_⟩⟩
  have key : ∀ dd k : Nat, k + dd = cT S → (2 ≤ mny S (Xr S P (dF S T)) → ∀ j, j < k → (Ur S (dF S T) j && (fcs S mn (Xr S P (dF S T)) j (nxF S mn (Ur S (dF S T)) (Xr S P (dF S T)) j) == FF S mn (Ur S (dF S T)) (Xr S P (dF S T)))) = false) → ∀ z : Int32, z = nI k → wX12_firstNow_L7 t 75 (bI mn) (nI (vr S (dF S T))) Q (fun m18 => Q (-2) m18) (dd + 1) z m := by
    intro dd
    induction dd with
    | zero =>
      intro k hk g z hz
      have e : k = cT S := by omega
      subst e
      rw [hz, wX12_firstNow_L7, c.told, c.sm.things]
      refine ⟨lk75 L, c.rl.k, fun _ => ?_, fun hh => absurd (nI_le (Nat.le_refl _) (by omega)) hh⟩
      have lt2 : mny S (Xr S P (dF S T)) < 2 := by
        rcases Nat.lt_or_ge (mny S (Xr S P (dF S T))) 2 with q | q
        · exact q
        · exfalso
          have g := g q
          rw [FF_eq, if_neg (by omega)] at hfin
          rcases mins_att (f := fun k => if Ur S (dF S T) k then fcs S mn (Xr S P (dF S T)) k (nxF S mn (Ur S (dF S T)) (Xr S P (dF S T)) k) else INF) (cT S) with y | ⟨j, j1, j2⟩
          · omega
          · have gj := g j j1
            have e : mins (fun k => if Ur S (dF S T) k then fcs S mn (Xr S P (dF S T)) k (nxF S mn (Ur S (dF S T)) (Xr S P (dF S T)) k) else INF) (cT S) = FF S mn (Ur S (dF S T)) (Xr S P (dF S T)) := by rw [FF_eq, if_neg (by omega)]
            cases hu : Ur S (dF S T) j with
            | false =>
              rw [hu] at j2
              simp only [Bool.false_eq_true, if_false] at j2
              omega
            | true =>
              rw [hu] at j2 gj
              simp only [if_true] at j2
              rw [Bool.true_and, beq_eq_false_iff_ne] at gj
              exact gj (j2.trans e)
      rw [fsI, if_pos lt2] at hQ
      exact hQ
    | succ dd ih =>
      intro k hk g z hz
      have kt : k < cT S := by omega
      rw [hz, wX12_firstNow_L7, c.told, c.sm.things, h.r22, h.kkw, h.lkw, vc, hW _ hd, e1]
      unfold wX12_firstNow_J55
      have nx : (2 ≤ mny S (Xr S P (dF S T)) → (Ur S (dF S T) k && (fcs S mn (Xr S P (dF S T)) k (nxF S mn (Ur S (dF S T)) (Xr S P (dF S T)) k) == FF S mn (Ur S (dF S T)) (Xr S P (dF S T)))) = false) → wX12_firstNow_L7 t 75 (bI mn) (nI (vr S (dF S T))) Q (fun m18 => Q (-2) m18) (dd + 1) (nI k + 1) m := by
        intro hh
        refine ih (k + 1) (by omega) (fun h2 j hj => ?_) _ (nI_1 k)
        rcases (show j < k ∨ j = k by omega) with q | q
        · exact g h2 j q
        · rw [q]; exact hh h2
      refine ⟨lk75 L, c.rl.k, fun hh => absurd hh (nI_ge (by omega) (by omega)), fun _ => ⟨rfl, vq, fun hle => ?_, fun hle => rsp_isOpen h hd kt ?_⟩⟩
      · rw [fsI, if_pos (by omega)] at hQ
        exact hQ
      · rw [bI_0]
        refine ⟨fun hb => nx (fun _ => by rw [hb]; rfl), fun hb => cost_at (P := P) h hd kt (Ur_t.mp (ts_false hb)).2.2 hW (fun d' hd' _ => hL d' hd') ?_⟩
        have hb := ts_false hb
        have fl := fcs_lt (mn := mn) (X := Xr S P (dF S T)) v kt (f := nxF S mn (Ur S (dF S T)) (Xr S P (dF S T)) k)
        have hfin' : FF S mn (Ur S (dF S T)) (Xr S P (dF S T)) < 268435456 := hfin
        rw [h.r23, h.kkl, h.lkl, hL _ hd, nI_eq (by omega) (by omega)]
        refine ⟨rfl, vq, fun he => ?_, fun he => nx (fun _ => ?_)⟩
        · have ef : fa_first (fun t => Ur S (dF S T) t && (fcs S mn (Xr S P (dF S T)) t (nxF S mn (Ur S (dF S T)) (Xr S P (dF S T)) t) == FF S mn (Ur S (dF S T)) (Xr S P (dF S T)))) (cT S) = k := by
            have yes : (Ur S (dF S T) k && (fcs S mn (Xr S P (dF S T)) k (nxF S mn (Ur S (dF S T)) (Xr S P (dF S T)) k) == FF S mn (Ur S (dF S T)) (Xr S P (dF S T)))) = true := by rw [hb, he]; simp
            have le := fa_first_le (fun t => Ur S (dF S T) t && (fcs S mn (Xr S P (dF S T)) t (nxF S mn (Ur S (dF S T)) (Xr S P (dF S T)) t) == FF S mn (Ur S (dF S T)) (Xr S P (dF S T)))) (cT S)
            rcases Nat.lt_trichotomy (fa_first (fun t => Ur S (dF S T) t && (fcs S mn (Xr S P (dF S T)) t (nxF S mn (Ur S (dF S T)) (Xr S P (dF S T)) t) == FF S mn (Ur S (dF S T)) (Xr S P (dF S T)))) (cT S)) k with q | q | q
            · have y := fa_first_yes (fun t => Ur S (dF S T) t && (fcs S mn (Xr S P (dF S T)) t (nxF S mn (Ur S (dF S T)) (Xr S P (dF S T)) t) == FF S mn (Ur S (dF S T)) (Xr S P (dF S T)))) (cT S) (by omega)
              exact absurd (y.symm.trans (g (by omega) _ q)) (by decide)
            · exact q
            · have y := fa_first_no _ (cT S) k q
              exact absurd (yes.symm.trans y) (by decide)
          rw [fsI, if_neg (by omega), ef] at hQ
          exact hQ
        · rw [hb, Bool.true_and, beq_eq_false_iff_ne]
          exact he
  exact key (cT S) 0 (by omega) (fun _ j hj => absurd hj (by omega)) 0 rfl
end
