/-! Plans: what the reference knows of all states -/
def KR (t : zT) (m : zM) (kk : Nat) (kw : Nat) (kl : Nat) : Prop := (gR m 75 21 = kk) ∧ (tK t kk = 10) ∧ (gR m kk 0 = kw) ∧ (gR m kk 1 = kl) ∧ (tK t kw = 14) ∧ (tL t kw = 50625) ∧ (tK t kl = 14) ∧ (tL t kl = 50625) ∧ (kw ≠ kl) ∧ (85 ≤ kk ∧ 85 ≤ kw ∧ 85 ≤ kl) ∧ (kk < tN t ∧ kw < tN t ∧ kl < tN t)
theorem KR.r21 {t : zT} {m : zM} {kk : Nat} {kw : Nat} {kl : Nat} (h_ : KR t m kk kw kl) : gR m 75 21 = kk := h_.1
theorem KR.k0 {t : zT} {m : zM} {kk : Nat} {kw : Nat} {kl : Nat} (h_ : KR t m kk kw kl) : tK t kk = 10 := h_.2.1
theorem KR.r0 {t : zT} {m : zM} {kk : Nat} {kw : Nat} {kl : Nat} (h_ : KR t m kk kw kl) : gR m kk 0 = kw := h_.2.2.1
theorem KR.r1 {t : zT} {m : zM} {kk : Nat} {kw : Nat} {kl : Nat} (h_ : KR t m kk kw kl) : gR m kk 1 = kl := h_.2.2.2.1
theorem KR.kkw {t : zT} {m : zM} {kk : Nat} {kw : Nat} {kl : Nat} (h_ : KR t m kk kw kl) : tK t kw = 14 := h_.2.2.2.2.1
theorem KR.lkw {t : zT} {m : zM} {kk : Nat} {kw : Nat} {kl : Nat} (h_ : KR t m kk kw kl) : tL t kw = 50625 := h_.2.2.2.2.2.1
theorem KR.kkl {t : zT} {m : zM} {kk : Nat} {kw : Nat} {kl : Nat} (h_ : KR t m kk kw kl) : tK t kl = 14 := h_.2.2.2.2.2.2.1
theorem KR.lkl {t : zT} {m : zM} {kk : Nat} {kw : Nat} {kl : Nat} (h_ : KR t m kk kw kl) : tL t kl = 50625 := h_.2.2.2.2.2.2.2.1
theorem KR.ne {t : zT} {m : zM} {kk : Nat} {kw : Nat} {kl : Nat} (h_ : KR t m kk kw kl) : kw ≠ kl := h_.2.2.2.2.2.2.2.2.1
theorem KR.o {t : zT} {m : zM} {kk : Nat} {kw : Nat} {kl : Nat} (h_ : KR t m kk kw kl) : 85 ≤ kk ∧ 85 ≤ kw ∧ 85 ≤ kl := h_.2.2.2.2.2.2.2.2.2.1
theorem KR.n {t : zT} {m : zM} {kk : Nat} {kw : Nat} {kl : Nat} (h_ : KR t m kk kw kl) : kk < tN t ∧ kw < tN t ∧ kl < tN t := h_.2.2.2.2.2.2.2.2.2.2
def krR (a k : Nat) : Prop := a = 75 ∧ 21 ≤ k ∧ k ≤ 23
/-- the worlds of a state, when the first n things have been added up -/
def Xk (S : Sc) (P : Nat → Bool) (n : Nat) (d : Nat → Nat) (w : Nat) : Bool := P w && (List.range (cT S)).all (fun k => (d k == ans S w k) || (decide (k < n) && (d k == cA S k)))
/-- the ways seen so far with these answers -/
def c0 (S : Sc) (P : Nat → Bool) (d : Nat → Nat) (n : Nat) : Nat := fb_ct (fun w => P w && (vr S (ans S w) == vr S d)) n
section
variable {t t' t1 t2 : zT} {m m' m1 m2 : zM} {s u r : Nat} {S : Sc} {T T' : Ts} {P P' : Nat → Bool} {x x2 x3 : Int32} {Tl X : List Nat} {R : Nat → Nat → Prop} {kk kw kl : Nat} {d d' : Nat → Nat} {mn : Bool}
theorem krR_lay : ∀ q ∈ zR0, ¬ krR q.1 q.2.1 := by unfold krR; decide
theorem RC.gx (d : RC t m u S) (g : Gx t t' m m' X R) (hu : u + 15 ≤ tN t) (hX : ∀ a, a ∈ X → a < 77 ∨ (77 < a ∧ a < 85) ∨ (85 ≤ a ∧ (a < u ∨ u + 15 ≤ a))) (hL : ∀ q ∈ zR0, ¬ R q.1 q.2.1) (h3 : ¬ R 75 3) (hRu : ∀ k, ¬ R u k) : RC t' m' u S := by
  have u85 := d.rl.u85
  have rl := d.rl
  have sm := d.sm
  have o : ∀ j, j ≤ 14 → u + j ∉ X := fun j hj h => by have := hX _ h; omega
  have es : ∀ j, j ≤ 14 → ∀ k, gI m' (u + j) k = gI m (u + j) k := fun j hj k => (g.gi _ (by omega) (o j hj) k).1
  have es0 : ∀ k, gI m' u k = gI m u k := fun k => es 0 (by omega) k
  have ek : ∀ j, j ≤ 14 → tK t' (u + j) = tK t (u + j) := fun j hj => (g.gk _ (by omega)).1
  have ek0 : tK t' u = tK t u := ek 0 (by omega)
  have el : ∀ j, j ≤ 14 → tL t' (u + j) = tL t (u + j) := fun j hj => (g.gk _ (by omega)).2
  have er : ∀ k, gR m' u k = gR m u k := fun k => g.gr _ (by omega) k (hRu k)
  have e7 : ∀ k, gI m' 77 k = gI m 77 k := fun k => (g.gi 77 (by omega) (fun h => by have := hX _ h; omega) k).1
  refine ⟨d.lay.gx g hL, ?_, d.vs, (g.gr 75 (by omega) 3 h3).trans d.told, ?_, fun w hw k hk => (e7 _).trans (d.ans w hw k hk)⟩
  · unfold RLy at rl ⊢
    simp only [er, ek 1 (by decide), ek 2 (by decide), ek 3 (by decide), ek 4 (by decide), ek 5 (by decide), ek 6 (by decide), ek 7 (by decide), ek 8 (by decide), ek 9 (by decide), ek 10 (by decide), ek 11 (by decide), ek 12 (by decide), ek 13 (by decide), ek 14 (by decide), ek0, el 1 (by decide), el 2 (by decide), el 3 (by decide), el 4 (by decide), el 5 (by decide), el 6 (by decide), el 7 (by decide), el 8 (by decide), el 9 (by decide), el 10 (by decide), el 11 (by decide), el 12 (by decide), el 13 (by decide), el 14 (by decide)]
    exact rl
  · unfold RSm at sm ⊢
    simp only [es 1 (by decide), es 2 (by decide), es 3 (by decide), es 4 (by decide), es 5 (by decide), es 6 (by decide), es 7 (by decide), es 8 (by decide), es0]
    exact sm
theorem wgt_0 (v : Vs S) : wgt S (cT S - 1) = 1 := by
  have := v.t1
  unfold wgt
  rw [show cT S - (cT S - 1 + 1) = 0 by omega]
  rfl
/-- a way is told by its answers -/
theorem ans_inj (v : Vs S) {w w' : Nat} (h1 : w < cnt S) (h2 : w' < cnt S) (h : ∀ k, k < cT S → ans S w k = ans S w' k) : w = w' := by
  have t1 := v.t1
  have key : ∀ k, k < cT S → w / wgt S k = w' / wgt S k := by
    intro k
    induction k with
    | zero =>
      intro hk
      have c := cnt_wgt v
      have g := wgt_pos v 0
      have q1 : w / wgt S 0 < cA S 0 := (Nat.div_lt_iff_lt_mul g).mpr (by omega)
      have q2 : w' / wgt S 0 < cA S 0 := (Nat.div_lt_iff_lt_mul g).mpr (by omega)
      have := h 0 hk
      unfold ans at this
      rw [Nat.mod_eq_of_lt q1, Nat.mod_eq_of_lt q2] at this
      exact this
    | succ k ih =>
      intro hk
      have a := ih (by omega)
      rw [wgt_up hk, Nat.mul_comm, ← Nat.div_div_eq_div_mul, ← Nat.div_div_eq_div_mul] at a
      have b := h (k + 1) hk
      unfold ans at b
      rw [← Nat.div_add_mod (w / wgt S (k + 1)) (cA S (k + 1)), ← Nat.div_add_mod (w' / wgt S (k + 1)) (cA S (k + 1)), a, b]
  have e := key (cT S - 1) (by omega)
  rw [wgt_0 v, Nat.div_one, Nat.div_one] at e
  exact e
theorem ans_ok (v : Vs S) {w : Nat} : okd (NR S) (ans S w) (cT S) := fun k hk => by
  have := ans_lt v (w := w) hk
  unfold NR
  omega
theorem Xk_t {n w : Nat} : Xk S P n d w = true ↔ P w = true ∧ ∀ k, k < cT S → d k = ans S w k ∨ (k < n ∧ d k = cA S k) := by
  unfold Xk
  rw [Bool.and_eq_true, List.all_eq_true]
  simp only [List.mem_range, Bool.or_eq_true, Bool.and_eq_true, beq_iff_eq, decide_eq_true_eq]
theorem Xk_end : Xk S P (cT S) d = Xr S P d := by
  funext w
  rw [← bt_iff, Xk_t, Xr_t]
  refine and_congr Iff.rfl ⟨fun h k hk => ?_, fun h k hk => ?_⟩
  · rcases h k hk with q | q
    · exact Or.inr q
    · exact Or.inl q.2
  · rcases h k hk with q | q
    · exact Or.inr ⟨hk, q⟩
    · exact Or.inl q
theorem Xk_0 (v : Vs S) (hd : okd (NR S) d (cT S)) : mny S (Xk S P 0 d) = c0 S P d (cnt S) := by
  refine fb_ct_cong (fun w _ => ?_)
  rw [← bt_iff, Xk_t, Bool.and_eq_true, beq_iff_eq]
  refine and_congr Iff.rfl ⟨fun h => ?_, fun h k hk => Or.inl ?_⟩
  · refine vl_cong (fun k hk => ?_)
    rcases h k hk with q | q
    · exact q.symm
    · omega
  · exact (vl_inj (ans_ok v) hd h k hk).symm
theorem Xk_same {k : Nat} (hk : k < cT S) (h : d k ≠ cA S k) : Xk S P (k + 1) d = Xk S P k d := by
  funext w
  rw [← bt_iff, Xk_t, Xk_t]
  refine and_congr Iff.rfl ⟨fun q j hj => ?_, fun q j hj => ?_⟩
  · rcases q j hj with z | ⟨z1, z2⟩
    · exact Or.inl z
    · refine Or.inr ⟨?_, z2⟩
      rcases (show j < k ∨ j = k by omega) with y | y
      · exact y
      · rw [y] at z2; exact absurd z2 h
  · rcases q j hj with z | ⟨z1, z2⟩
    · exact Or.inl z
    · exact Or.inr ⟨by omega, z2⟩
theorem Xk_none (v : Vs S) {k : Nat} (hk : k < cT S) (h : d k = cA S k) : mny S (Xk S P k d) = 0 := by
  refine fb_ct_zero.mpr (fun w _ => ?_)
  cases hb : Xk S P k d w with
  | false => rfl
  | true =>
    have := (Xk_t.mp hb).2 k hk
    have := ans_lt v (w := w) hk
    omega
theorem Xk_ch {k a : Nat} (hk : k < cT S) (h : d k = cA S k) (ha : a < cA S k) : Xk S P k (upF d k a) = wAns S (Xk S P (k + 1) d) k a := by
  funext w
  rw [← bt_iff, wAns_t, Xk_t, Xk_t]
  constructor
  · rintro ⟨h1, h2⟩
    refine ⟨⟨h1, fun j hj => ?_⟩, ?_⟩
    · by_cases z : j = k
      · rw [z]; exact Or.inr ⟨by omega, h⟩
      · have := h2 j hj
        unfold upF at this
        rw [if_neg z] at this
        rcases this with y | ⟨y1, y2⟩
        · exact Or.inl y
        · exact Or.inr ⟨by omega, y2⟩
    · have := h2 k hk
      unfold upF at this
      rw [if_pos rfl] at this
      omega
  · rintro ⟨⟨h1, h2⟩, h3⟩
    refine ⟨h1, fun j hj => ?_⟩
    unfold upF
    by_cases z : j = k
    · rw [if_pos z, z]; exact Or.inl h3.symm
    · rw [if_neg z]
      rcases h2 j hj with y | ⟨y1, y2⟩
      · exact Or.inl y
      · exact Or.inr ⟨by omega, y2⟩
theorem RW.fw (h : RW t m S u kw kl) (f : Fr [kw] m m') : RW t m' S u kw kl := by
  have ol := h.ow
  have o : ∀ a, a < 85 → a ∉ [kw] := fun a ha => by simp only [List.mem_cons, List.not_mem_nil, or_false]; omega
  exact h.fr f (fun j hj => by simp only [List.mem_cons, List.not_mem_nil, or_false]; omega) (o _ (by decide)) (o _ (by decide)) (f.I (o _ (by decide)) _)
/-- the states without any world -/
theorem rk_L96 (h : RW t m S u kw kl) {Q : zT → zM → Prop} {K : zM → Prop} (hK : ∀ m', Fr [kw] m m' → (∀ i, i < pl (NR S) (cT S) → gI m' kw i = 0) → K m') : ∀ dd q : Nat, q + dd = pl (NR S) (cT S) → ∀ m1, Fr [kw] m m1 → (∀ i, i < q → gI m1 kw i = 0) → ∀ z : Int32, z = nI q → wX12_laysKnown_L96 t 75 Q K (dd + 1) z m1 := by
  have L := h.rc.lay
  have nb := NR_b h.rc.vs
  intro dd
  induction dd with
  | zero =>
    intro q hq m1 f1 g1 z hz
    have e : q = pl (NR S) (cT S) := by omega
    subst e
    rw [hz, wX12_laysKnown_L96, (h.fw f1).kn]
    exact ⟨lk75 L, fun _ => hK m1 f1 g1, fun hh => absurd (nI_le (Nat.le_refl _) (by omega)) hh⟩
  | succ dd ih =>
    intro q hq m1 f1 g1 z hz
    have h1 := h.fw f1
    rw [hz, wX12_laysKnown_L96, h1.kn, h1.r22, h.kkw, h.lkw, nI_cl (show q < 2 ^ 31 by omega)]
    refine ⟨lk75 L, fun hh => absurd hh (nI_ge (by omega) (by omega)), fun _ => ⟨rfl, vp_nI (by omega) (by decide), ih (q + 1) (by omega) _ (Fr.pI f1 (by simp)) (fun i hi => ?_) _ (nI_1 q)⟩⟩
    by_cases y : i = q
    · subst y; rw [gII, if_pos ⟨rfl, rfl⟩]
    · rw [gII, if_neg (fun q => y q.2)]; exact g1 i (by omega)
/-- the number of a way's own state -/
theorem rk_L146 (h : RW t m S u kw kl) {w : Nat} (hw : w < cnt S) {Q : zT → zM → Prop} {K : Int32 → zM → Prop} (hK : K (nI (vr S (ans S w))) m) : ∀ dd k : Nat, k + dd = cT S → ∀ z2 z3 : Int32, z2 = nI (vl (NR S) (ans S w) k) → z3 = nI k → wX12_laysKnown_L146 t 75 (nI w) Q K (dd + 1) z2 z3 m := by
  have c := h.rc
  have L := c.lay
  have v := c.vs
  have t8 := v.t8
  intro dd
  induction dd with
  | zero =>
    intro k hk z2 z3 h2 h3
    have e : k = cT S := by omega
    subst e
    rw [h2, h3, wX12_laysKnown_L146, c.told, c.sm.things]
    exact ⟨lk75 L, c.rl.k, fun _ => hK, fun hh => absurd (nI_le (Nat.le_refl _) (by omega)) hh⟩
  | succ dd ih =>
    intro k hk z2 z3 h2 h3
    have kt : k < cT S := by omega
    rw [h2, h3, wX12_laysKnown_L146, c.told, c.sm.things, lr75_20 L, lk80 L, ll80 L, nI_cl (show k < 2 ^ 31 by omega), h.step k kt]
    refine ⟨lk75 L, c.rl.k, fun hh => absurd hh (nI_ge (by omega) (by omega)), fun _ => ⟨rfl, vp_nI (by omega) (by decide), rsp_answerOf c hw kt (fun x37 h37 => ih (k + 1) (by omega) _ _ ?_ (nI_1 k))⟩⟩
    rw [h37, pk_mul, nI_add, vl_succ, Nat.mul_comm (ans S w k)]
/-- the worlds' own states -/
theorem rk_L119 (h : RW t m S u kw kl) (A : ∀ w, w < cnt S → gI m 78 w = bI (P w)) {Q : zT → zM → Prop} {K : zM → Prop} (hK : ∀ m', Fr [kw] m m' → (∀ d, okd (NR S) d (cT S) → gI m' kw (vr S d) = nI (mny S (Xk S P 0 d))) → K m') : ∀ dd w : Nat, w + dd = cnt S → ∀ m1, Fr [kw] m m1 → (∀ d, okd (NR S) d (cT S) → gI m1 kw (vr S d) = nI (c0 S P d w)) → ∀ z : Int32, z = nI w → wX12_laysKnown_L119 t 75 Q K (dd + 1) z m1 := by
  have L := h.rc.lay
  have v := h.rc.vs
  have hc := v.cnt
  have ow := h.ow
  have o : ∀ a, a < 85 → a ∉ [kw] := fun a ha => by simp only [List.mem_cons, List.not_mem_nil, or_false]; omega
  intro dd
  induction dd with
  | zero =>
    intro w hw m1 f1 g1 z hz
    have e : w = cnt S := by omega
    subst e
    have h1 := h.fw f1
    rw [hz, wX12_laysKnown_L119, h1.rc.told, h1.rc.sm.ways]
    exact ⟨lk75 L, h1.rc.rl.k, fun _ => hK m1 f1 (fun d hd => by rw [g1 d hd, Xk_0 v hd]), fun hh => absurd (nI_le (Nat.le_refl _) (by omega)) hh⟩
  | succ dd ih =>
    intro w hw m1 f1 g1 z hz
    have wl : w < cnt S := by omega
    have h1 := h.fw f1
    have L1 := h1.rc.lay
    have ei : gI m1 78 w = bI (P w) := (f1.I (o 78 (by decide)) _).trans (A w wl)
    rw [hz, wX12_laysKnown_L119, h1.rc.told, h1.rc.sm.ways, lr75_17 L1, lk78 L, ll78 L, nI_cl (show w < 2 ^ 31 by omega), ei, bI_0]
    unfold wX12_laysKnown_J186
    refine ⟨lk75 L, h1.rc.rl.k, fun hh => absurd hh (nI_ge (by omega) (by omega)), fun _ => ⟨rfl, vp_nI (by omega) (by decide), fun hb => ih (w + 1) (by omega) m1 f1 (fun d hd => ?_) _ (nI_1 w), fun hb => ⟨cT S + 1, rk_L146 h1 wl ?_ (cT S) 0 (by omega) 0 0 rfl rfl⟩⟩⟩
    · rw [g1 d hd]
      unfold c0
      rw [fb_ct_succ, hb]
      rfl
    · have hb := ts_false hb
      have oka := ans_ok v (w := w)
      have vlt := vr_lt v oka
      rw [h1.r22, h.kkw, h.lkw, nI_cl (show vr S (ans S w) < 2 ^ 31 by omega)]
      refine ⟨rfl, vp_nI vlt (by decide), ih (w + 1) (by omega) _ (Fr.pI f1 (by simp)) (fun d hd => ?_) _ (nI_1 w)⟩
      have e1 : c0 S P d (w + 1) = c0 S P d w + if vr S (ans S w) = vr S d then 1 else 0 := by
        unfold c0
        rw [fb_ct_succ, hb]
        simp
      rw [e1]
      by_cases z : vr S d = vr S (ans S w)
      · rw [gII, if_pos ⟨rfl, z⟩, if_pos z.symm]
        have : c0 S P d w = 0 := fb_ct_zero.mpr (fun w' hw' => by
          cases hp : P w' with
          | false => rfl
          | true =>
            by_cases y : vr S (ans S w') = vr S d
            · have := ans_inj v (show w' < cnt S by omega) wl (vl_inj (ans_ok v) oka (y.trans z))
              omega
            · simp [y])
        rw [this]; rfl
      · rw [gII, if_neg (fun q => z q.2), if_neg (fun q => z q.symm)]
        exact g1 d hd
end
