/-! Ways: what is asked of a row -/
def bts (p : Nat → Bool) : Nat → Nat
  | 0 => 0
  | n + 1 => bts p n ||| (if p n then 2 ^ n else 0)
theorem bts_tb (p : Nat → Bool) : ∀ n i, (bts p n).testBit i = (decide (i < n) && p i) := by
  intro n
  induction n with
  | zero => intro i; simp [bts]
  | succ n ih =>
    intro i
    rw [bts, Nat.testBit_or, ih]
    by_cases z : i = n
    · subst z
      cases h : p i <;> simp
    · have e : (if p n = true then 2 ^ n else 0).testBit i = false := by
        cases h : p n
        · simp
        · simp only [if_true, Nat.testBit_two_pow]; exact decide_eq_false (fun q => z q.symm)
      rw [e, Bool.or_false]
      congr 1
      exact decide_eq_decide.mpr (by omega)
theorem bts_lt (p : Nat → Bool) (n : Nat) : bts p n < 2 ^ n := Nat.lt_pow_two_of_testBit _ (fun i hi => by rw [bts_tb]; simp; omega)
theorem bts_ext {p q : Nat → Bool} {n k : Nat} (h : ∀ i, (decide (i < n) && p i) = (decide (i < k) && q i)) : bts p n = bts q k := Nat.eq_of_testBit_eq (fun i => by rw [bts_tb, bts_tb]; exact h i)
theorem bts_cong {p q : Nat → Bool} {n : Nat} (h : ∀ i, i < n → p i = q i) : bts p n = bts q n := bts_ext (fun i => by by_cases z : i < n; rw [h i z]; simp [z])
theorem bts_ct {p : Nat → Bool} {n : Nat} (hn : n ≤ 32) : fb_ct (fun i => (bts p n).testBit i) 32 = fb_ct p n := by
  have e := fb_ct_split (fun i => (bts p n).testBit i) n (32 - n)
  rw [show n + (32 - n) = 32 by omega] at e
  rw [e, fb_ct_cong (q := p) (fun k hk => by rw [bts_tb]; simp [hk]), Nat.add_eq_left]
  exact fb_ct_zero.mpr (fun k _ => by rw [bts_tb, decide_eq_false (show ¬ n + k < n by omega), Bool.false_and])
theorem bts_up (p : Nat → Bool) {n : Nat} (hn : n < 31) : nI (bts p n) ||| ((1 : Int32) <<< (nI n &&& 31)) = nI (bts p n ||| 2 ^ n) := by rw [nI_shl1 hn, fa_or]
theorem bts_yes {p : Nat → Bool} {n : Nat} (h : p n = true) : bts p n ||| 2 ^ n = bts p (n + 1) := by rw [bts, h]; simp
theorem bts_no {p : Nat → Bool} {n : Nat} (h : p n = false) : bts p n = bts p (n + 1) := by rw [bts, h]; simp
/-- how often a thing has an answer -/
def oft (S : Sc) (P : Nat → Bool) (tt a : Nat) : Nat := fb_ct (fun w => P w && (ans S w tt == a)) (cnt S)
def mny (S : Sc) (P : Nat → Bool) : Nat := fb_ct P (cnt S)
def hasA (S : Sc) (P : Nat → Bool) (tt a : Nat) : Bool := decide (0 < oft S P tt a)
def sureB (S : Sc) (P : Nat → Bool) (tt : Nat) : Bool := fb_ct (hasA S P tt) (cA S tt) == 1
def Cor (t : zT) (m : zM) (s : Nat) (S : Sc) : Prop := (Lay t m) ∧ (isSch s) ∧ (Vs S) ∧ (gR m 20 0 = s) ∧ (SchM m s S) ∧ (SayM m s S (cN S)) ∧ (WayM m S)
theorem Cor.lay {t : zT} {m : zM} {s : Nat} {S : Sc} (h_ : Cor t m s S) : Lay t m := h_.1
theorem Cor.sch {t : zT} {m : zM} {s : Nat} {S : Sc} (h_ : Cor t m s S) : isSch s := h_.2.1
theorem Cor.vs {t : zT} {m : zM} {s : Nat} {S : Sc} (h_ : Cor t m s S) : Vs S := h_.2.2.1
theorem Cor.told {t : zT} {m : zM} {s : Nat} {S : Sc} (h_ : Cor t m s S) : gR m 20 0 = s := h_.2.2.2.1
theorem Cor.sm {t : zT} {m : zM} {s : Nat} {S : Sc} (h_ : Cor t m s S) : SchM m s S := h_.2.2.2.2.1
theorem Cor.say {t : zT} {m : zM} {s : Nat} {S : Sc} (h_ : Cor t m s S) : SayM m s S (cN S) := h_.2.2.2.2.2.1
theorem Cor.way {t : zT} {m : zM} {s : Nat} {S : Sc} (h_ : Cor t m s S) : WayM m S := h_.2.2.2.2.2.2
section
variable {t : zT} {m m' : zM} {s r : Nat} {S : Sc} {P : Nat → Bool} {T : List Nat}
theorem Cor.fr (c : Cor t m s S) (f : Fr T m m') (hT : ∀ a, 4 ≤ a → a ≤ 35 → (a ≤ 15 ∨ 20 ≤ a) → a ∉ T) : Cor t m' s S := by
  have hs := c.sch
  unfold isSch at hs
  refine ⟨c.lay.fr f, c.sch, c.vs, (f.2 _ _).trans c.told, c.sm.fr f (fun j hj => hT _ (by omega) (by omega) (by omega)), c.say.fr f (fun j hj => hT _ (by omega) (by omega) (by omega)), c.way.fr f (fun a ha => ?_)⟩
  simp only [List.mem_cons, List.not_mem_nil, or_false] at ha
  exact hT a (by omega) (by omega) (by omega)
theorem jT_cor (hr : isRow r) : ∀ a, 4 ≤ a → a ≤ 35 → (a ≤ 15 ∨ 20 ≤ a) → a ∉ jT r := by
  intro a h1 h2 h3
  unfold isRow at hr
  simp only [jT, List.mem_cons, List.not_mem_nil, or_false]
  omega
theorem row_ctf {x : Nat → Int64} (h : ∀ W, W < wds S → ∀ i, i < 64 → (bw (x W) i = true ↔ 64 * W + i < cnt S ∧ P (64 * W + i) = true)) : fb_sm (fun W => wpop (x W)) (wds S) = fb_ct P (cnt S) :=
  row_ct (m := ((fun _ _ => 0), (fun _ W => x W), (fun _ _ => 0))) (b := 0) h
theorem row_off {tt a W : Nat} : (nI tt * (4 : Int32) + nI a) * (64 : Int32) + nI W = nI ((tt * 4 + a) * 64 + W) := by
  rw [show (4 : Int32) = nI 4 from rfl, pk_mul, nI_add, show (64 : Int32) = nI 64 from rfl, pk_mul, nI_add]
theorem row_off0 {tt a : Nat} : (nI tt * (4 : Int32) + nI a) * (64 : Int32) = nI ((tt * 4 + a) * 64) := by
  rw [show (4 : Int32) = nI 4 from rfl, pk_mul, nI_add, show (64 : Int32) = nI 64 from rfl, pk_mul]
theorem and_bits (c : Cor t m s S) (R : RowM m r S P) {tt a : Nat} (ht : tt < cT S) (ha : a < 4) : ∀ W, W < wds S → ∀ i, i < 64 → (bw (gJ m (r + 1) W &&& gJ m 34 ((tt * 4 + a) * 64 + W)) i = true ↔ 64 * W + i < cnt S ∧ (fun w => P w && (ans S w tt == a)) (64 * W + i) = true) := by
  intro W hW i hi
  have := wds_le c.vs
  rw [bw_and, Bool.and_eq_true, R.bit W hW i hi, c.way.truth tt ht a ha W (by omega) i hi]
  simp only [Bool.and_eq_true, beq_iff_eq]
  constructor
  · rintro ⟨⟨a1, a2⟩, a3, a4⟩; exact ⟨a1, a2, a4⟩
  · rintro ⟨a1, a2, a3⟩; exact ⟨⟨a1, a2⟩, a1, a3⟩
theorem sp_copy {r0 : Nat} (L : Lay t m) (hr : isRow r) (hr0 : isRow r0) (ne : r ≠ r0) (v : Vs S) (R : RowM m r0 S P) {Q : zM → Prop} (hQ : ∀ m', Fr [r, r + 1] m m' → RowM m' r S P → Q m') : wX4_copy t m r r0 Q := by
  have w64 := wds_le v
  have n1 : ¬ r0 = r := fun e => ne e.symm
  unfold wX4_copy
  refine ⟨rw_k L hr0, rw_k L hr, wds S + 1, ?_⟩
  rw [R.words]
  simp only [gII, n1, false_and, if_false, R.members]
  have f0 : Fr [r, r + 1] m (pI (pI m r 1 (nI (wds S))) r 2 (nI (fb_ct P (cnt S)))) := Fr.pI (Fr.pI Fr.rf (by simp)) (by simp)
  have e1 : gI (pI (pI m r 1 (nI (wds S))) r 2 (nI (fb_ct P (cnt S)))) r 1 = nI (wds S) := by simp (config := { decide := true }) only [gII, and_self, if_true, and_false, if_false]
  have e2 : gI (pI (pI m r 1 (nI (wds S))) r 2 (nI (fb_ct P (cnt S)))) r 2 = nI (fb_ct P (cnt S)) := by simp (config := { decide := true }) only [gII, and_self, if_true]
  generalize pI (pI m r 1 (nI (wds S))) r 2 (nI (fb_ct P (cnt S))) = m0 at f0 e1 e2
  have key : ∀ d W : Nat, W + d = wds S → ∀ m1, Fr [r + 1] m0 m1 → (∀ W', W' < W → gJ m1 (r + 1) W' = gJ m (r0 + 1) W') → ∀ x : Int32, x = nI W → wX4_copy_L18 t r r0 Q (fun m10 => Q m10) (d + 1) x m1 := by
    intro d
    induction d with
    | zero =>
      intro W hW m1 f1 g1 x hx
      have e : W = wds S := by omega
      subst e
      rw [hx, wX4_copy_L18, f1.I (by simp), e1]
      refine ⟨rw_k L hr, fun _ => hQ m1 (f0.tr (f1.mono (by simp))) ⟨(f1.I (by simp) _).trans e1, (f1.I (by simp) _).trans e2, fun W hW i hi => by rw [g1 W hW]; exact R.bit W hW i hi⟩, fun hh => absurd (nI_le (Nat.le_refl _) (by omega)) hh⟩
    | succ d ih =>
      intro W hW m1 f1 g1 x hx
      have L1 := (L.fr f0).fr f1
      rw [hx, wX4_copy_L18, f1.I (by simp), e1, rw_r L1 hr, rw_r L1 hr0, rw_bk L hr, rw_bk L hr0, rw_bl L hr, rw_bl L hr0, nI_cl (show W < 2 ^ 31 by omega)]
      have v1 : vp_in (nI W) 64 := vp_nI (by omega) (by decide)
      refine ⟨rw_k L hr, fun hh => absurd hh (nI_ge (by omega) (by omega)), fun _ => ⟨rw_k L hr0, rfl, v1, rfl, v1, ih (W + 1) (by omega) _ (Fr.pJ f1 (by simp)) (fun W' hW' => ?_) _ (nI_1 W)⟩⟩
      have n2 : r0 + 1 ∉ [r, r + 1] ∧ r0 + 1 ∉ [r + 1] := by unfold isRow at hr hr0; simp only [List.mem_cons, List.not_mem_nil, or_false]; omega
      by_cases z : W' = W
      · subst z
        simp only [gJJ, and_self, if_true]
        rw [f1.J n2.2, f0.J n2.1]
      · simp only [gJJ, z, and_false, if_false]
        exact g1 W' (by omega)
  exact key (wds S) 0 (by omega) m0 Fr.rf (fun W' h => absurd h (by omega)) 0 rfl
theorem sp_membersWith (c : Cor t m s S) (hr : isRow r) (R : RowM m r S P) {tt a : Nat} (ht : tt < cT S) (ha : a < 4) {Q : Int32 → zM → Prop} (hQ : Q (nI (oft S P tt a)) m) : wX8_membersWith t m 20 r (nI tt) (nI a) Q := by
  have L := c.lay
  have w64 := wds_le c.vs
  have t8 := c.vs.t8
  unfold wX8_membersWith wX8_rowOf
  refine ⟨wds S + 1, ?_⟩
  rw [row_off0]
  have hQ2 : Q (nI (fb_sm (fun W => wpop (gJ m (r + 1) W &&& gJ m 34 ((tt * 4 + a) * 64 + W))) (wds S))) m := by
    rw [row_ctf (P := fun w => P w && (ans S w tt == a)) (and_bits c R ht ha)]
    exact hQ
  have key : ∀ d W : Nat, W + d = wds S → ∀ x y : Int32, x = nI W → y = nI (fb_sm (fun W => wpop (gJ m (r + 1) W &&& gJ m 34 ((tt * 4 + a) * 64 + W))) W) → wX8_membersWith_L13 t 20 r (nI ((tt * 4 + a) * 64)) Q (fun v m => Q v m) (d + 1) y x m := by
    intro d
    induction d with
    | zero =>
      intro W hW x y hx hy
      have e : W = wds S := by omega
      subst e
      rw [hx, hy, wX8_membersWith_L13, R.words]
      exact ⟨rw_k L hr, fun _ => hQ2, fun hh => absurd (nI_le (Nat.le_refl _) (by omega)) hh⟩
    | succ d ih =>
      intro W hW x y hx hy
      rw [hx, hy, wX8_membersWith_L13, R.words, rw_r L hr, rw_bk L hr, rw_bl L hr, lr20_4 L, lk34 L, ll34 L, nI_cl (show W < 2 ^ 31 by omega), nI_add, nI_cl (by omega)]
      refine ⟨rw_k L hr, fun hh => absurd hh (nI_ge (by omega) (by omega)), fun _ => ⟨rfl, vp_nI (by omega) (by decide), lk20 L, rfl, vp_nI (by omega) (by decide), sp_bc64 (ih (W + 1) (by omega) _ _ (nI_1 W) ?_)⟩⟩
      rw [nI_add, fb_sm_succ]
  exact key (wds S) 0 (by omega) 0 0 rfl rfl
theorem sp_keepOnly (c : Cor t m s S) (hr : isRow r) (R : RowM m r S P) {tt a : Nat} (ht : tt < cT S) (ha : a < 4) {Q : zM → Prop} (hQ : ∀ m', Fr [r, r + 1] m m' → RowM m' r S (fun w => P w && (ans S w tt == a)) → Q m') : wX8_keepOnly t m 20 r (nI tt) (nI a) Q := by
  have L := c.lay
  have w64 := wds_le c.vs
  have t8 := c.vs.t8
  unfold wX8_keepOnly wX8_rowOf
  refine ⟨wds S + 1, ?_⟩
  rw [row_off0]
  have n34 : 34 ∉ [r + 1] := by unfold isRow at hr; simp only [List.mem_cons, List.not_mem_nil, or_false]; omega
  have ab := and_bits c R ht ha
  have key : ∀ d W : Nat, W + d = wds S → ∀ m1, Fr [r + 1] m m1 → (∀ W', gJ m1 (r + 1) W' = if W' < W then gJ m (r + 1) W' &&& gJ m 34 ((tt * 4 + a) * 64 + W') else gJ m (r + 1) W') → ∀ x : Int32, x = nI W → wX8_keepOnly_L10 t 20 r (nI ((tt * 4 + a) * 64)) Q (fun m10 => tK t r = 4 ∧ wX4_recount t m10 r (fun m13 => Q m13)) (d + 1) x m1 := by
    intro d
    induction d with
    | zero =>
      intro W hW m1 f1 g1 x hx
      have e : W = wds S := by omega
      subst e
      have L1 := L.fr f1
      have g2 : ∀ W, W < wds S → ∀ i, i < 64 → (bw (gJ m1 (r + 1) W) i = true ↔ 64 * W + i < cnt S ∧ (fun w => P w && (ans S w tt == a)) (64 * W + i) = true) := by
        intro W hW i hi
        rw [g1 W, if_pos hW]
        exact ab W hW i hi
      have ew : gI m1 r 1 = nI (wds S) := (f1.I (by simp) _).trans R.words
      rw [hx, wX8_keepOnly_L10, ew]
      refine ⟨rw_k L hr, fun _ => ⟨rw_k L hr, sp_recount (rw_k L hr) (rw_r L1 hr) (rw_bk L hr) (rw_bl L hr) ew w64 (hQ _ (Fr.pI (f1.mono (by simp)) (by simp)) ⟨?_, ?_, ?_⟩)⟩, fun hh => absurd (nI_le (Nat.le_refl _) (by omega)) hh⟩
      · simp (config := { decide := true }) only [gII, and_false, if_false]
        exact ew
      · simp only [gII, and_self, if_true]
        rw [row_ct (P := fun w => P w && (ans S w tt == a)) g2]
      · exact g2
    | succ d ih =>
      intro W hW m1 f1 g1 x hx
      have L1 := L.fr f1
      have ew : gI m1 r 1 = nI (wds S) := (f1.I (by simp) _).trans R.words
      rw [hx, wX8_keepOnly_L10, ew, rw_r L1 hr, rw_bk L hr, rw_bl L hr, lr20_4 L1, lk34 L, ll34 L, nI_cl (show W < 2 ^ 31 by omega), nI_add, nI_cl (by omega), f1.J n34, g1 W, if_neg (by omega)]
      refine ⟨rw_k L hr, fun hh => absurd hh (nI_ge (by omega) (by omega)), fun _ => ⟨rfl, vp_nI (by omega) (by decide), lk20 L, rfl, vp_nI (by omega) (by decide), ih (W + 1) (by omega) _ (Fr.pJ f1 (by simp)) (fun W' => ?_) _ (nI_1 W)⟩⟩
      by_cases z : W' = W
      · subst z
        simp only [gJJ, and_self, if_true]
        rw [if_pos (by omega)]
      · simp only [gJJ, z, and_false, if_false]
        rw [g1 W']
        by_cases z2 : W' < W
        · rw [if_pos z2, if_pos (by omega)]
        · rw [if_neg z2, if_neg (by omega)]
  exact key (wds S) 0 (by omega) m Fr.rf (fun W' => by rw [if_neg (by omega)]) 0 rfl
theorem lgc0 {x : Int64} : lg_cmp x 0 = 0 ↔ x = 0 := lg_cmp_eq _ _
theorem sp_answersIn (c : Cor t m s S) (hr : isRow r) (R : RowM m r S P) {tt : Nat} (ht : tt < cT S) {Q : Int32 → zM → Prop} (hQ : Q (nI (bts (hasA S P tt) (cA S tt))) m) : wX8_answersIn t m 20 r (nI tt) Q := by
  have L := c.lay
  have w64 := wds_le c.vs
  have t8 := c.vs.t8
  have a4 := (c.vs.a2 tt ht).2
  have told := c.told
  have hans := c.sm.answers tt ht
  unfold wX8_answersIn
  refine ⟨cA S tt + 1, ?_⟩
  have key : ∀ d a : Nat, a + d = cA S tt → ∀ x y : Int32, x = nI a → y = nI (bts (hasA S P tt) a) → wX8_answersIn_L5 t 20 r (nI tt) Q (fun v m => Q v m) (d + 1) y x m := by
    intro d
    induction d with
    | zero =>
      intro a ha x y hx hy
      have e : a = cA S tt := by omega
      subst e
      rw [hx, hy, wX8_answersIn_L5, told, ls_r1 L c.sch, nI_cl (show tt < 2 ^ 31 by omega), hans]
      exact ⟨lk20 L, ls_k L c.sch, ls_k1 L c.sch, by rw [ls_l1 L c.sch]; exact vp_nI (by omega) (by decide), fun _ => hQ, fun hh => absurd (nI_le (Nat.le_refl _) (by omega)) hh⟩
    | succ d ih =>
      intro a ha x y hx hy
      rw [hx, hy, wX8_answersIn_L5, told, ls_r1 L c.sch, nI_cl (show tt < 2 ^ 31 by omega), hans]
      refine ⟨lk20 L, ls_k L c.sch, ls_k1 L c.sch, by rw [ls_l1 L c.sch]; exact vp_nI (by omega) (by decide), fun hh => absurd hh (nI_ge (by omega) (by omega)), fun _ => ?_⟩
      unfold wX8_rowOf
      rw [row_off0]
      refine ⟨wds S + 1, ?_⟩
      have ab := and_bits c R ht (show a < 4 by omega)
      have key2 : ∀ d' W : Nat, W + d' = wds S → (∀ W', W' < W → gJ m (r + 1) W' &&& gJ m 34 ((tt * 4 + a) * 64 + W') = 0) → ∀ x : Int32, x = nI W → wX8_answersIn_L30 t 20 r (nI tt) (nI a) (nI ((tt * 4 + a) * 64)) Q (fun v17 m18 => wX8_answersIn_J78 t m18 20 r (nI tt) v17 (nI a) Q (wX8_answersIn_L5 t 20 r (nI tt) Q (fun v m => Q v m) (d + 1))) (d' + 1) (nI (bts (hasA S P tt) a)) x m := by
        intro d'
        induction d' with
        | zero =>
          intro W hW g1 x hx
          have e : W = wds S := by omega
          subst e
          rw [hx, wX8_answersIn_L30, R.words]
          refine ⟨rw_k L hr, fun _ => ?_, fun hh => absurd (nI_le (Nat.le_refl _) (by omega)) hh⟩
          unfold wX8_answersIn_J78
          refine ih (a + 1) (by omega) _ _ (nI_1 a) ?_
          rw [← bts_no]
          refine decide_eq_false (fun h => ?_)
          obtain ⟨w, hw, hp⟩ := fb_ct_pos.mp h
          have hW : w / 64 < wds S := by unfold wds; omega
          have q := (ab (w / 64) hW (w % 64) (by omega)).mpr ⟨by omega, by rw [show 64 * (w / 64) + w % 64 = w by omega]; exact hp⟩
          rw [g1 _ hW, bw_0] at q
          cases q
        | succ d' ih2 =>
          intro W hW g1 x hx
          rw [hx, wX8_answersIn_L30, R.words, rw_r L hr, rw_bk L hr, rw_bl L hr, lr20_4 L, lk34 L, ll34 L, nI_cl (show W < 2 ^ 31 by omega), nI_add, nI_cl (by omega), lgc0]
          refine ⟨rw_k L hr, fun hh => absurd hh (nI_ge (by omega) (by omega)), fun _ => ⟨rfl, vp_nI (by omega) (by decide), lk20 L, rfl, vp_nI (by omega) (by decide), fun hz => ?_, fun hz => ?_⟩⟩
          · exact ih2 (W + 1) (by omega) (fun W' hW' => by
              rcases (show W' < W ∨ W' = W by omega) with u | u
              · exact g1 W' u
              · subst u; exact hz) _ (nI_1 W)
          · intro x16 hx16
            unfold wX8_answersIn_J78
            refine ih (a + 1) (by omega) _ _ (nI_1 a) ?_
            rw [hx16, bts_up _ (by omega), bts_yes]
            refine decide_eq_true (fb_ct_pos.mpr ?_)
            have : ¬ ∀ i, i < 64 → bw (gJ m (r + 1) W &&& gJ m 34 ((tt * 4 + a) * 64 + W)) i = false := fun q => hz (bw_zero.mpr q)
            obtain ⟨i, hi⟩ := Classical.not_forall.mp this
            obtain ⟨hi1, hi2⟩ := Classical.not_imp.mp hi
            have q := (ab W (by omega) i hi1).mp (ts_false hi2)
            exact ⟨64 * W + i, q.1, q.2⟩
      exact key2 (wds S) 0 (by omega) (fun W' h => absurd h (by omega)) 0 rfl
  exact key (cA S tt) 0 (by omega) 0 0 rfl rfl
theorem sp_sureIn (c : Cor t m s S) (hr : isRow r) (R : RowM m r S P) {Q : Int32 → zM → Prop} (hQ : Q (nI (bts (sureB S P) (cT S))) m) : wX8_sureIn t m 20 r Q := by
  have L := c.lay
  have t8 := c.vs.t8
  have told := c.told
  unfold wX8_sureIn
  refine ⟨cT S + 1, ?_⟩
  have key : ∀ d a : Nat, a + d = cT S → ∀ x y : Int32, x = nI a → y = nI (bts (sureB S P) a) → wX8_sureIn_L4 t 20 r Q (fun v m => Q v m) (d + 1) y x m := by
    intro d
    induction d with
    | zero =>
      intro a ha x y hx hy
      have e : a = cT S := by omega
      subst e
      rw [hx, hy, wX8_sureIn_L4, told, c.sm.things]
      exact ⟨lk20 L, ls_k L c.sch, fun _ => hQ, fun hh => absurd (nI_le (Nat.le_refl _) (by omega)) hh⟩
    | succ d ih =>
      intro a ha x y hx hy
      have a4 := (c.vs.a2 a (by omega)).2
      have b16 := bts_lt (hasA S P a) (cA S a)
      have b16' : 2 ^ cA S a ≤ 2 ^ 4 := Nat.pow_le_pow_right (by decide) a4
      rw [hx, hy, wX8_sureIn_L4, told, c.sm.things]
      refine ⟨lk20 L, ls_k L c.sch, fun hh => absurd hh (nI_ge (by omega) (by omega)), fun _ => sp_answersIn c hr R (by omega) (sp_bc32 (by omega) ?_)⟩
      rw [bts_ct (by omega)]
      have fle := fb_ct_le (hasA S P a) (cA S a)
      unfold wX8_sureIn_J34
      refine ⟨fun h1 x9 hx9 => ih (a + 1) (by omega) _ _ (nI_1 a) ?_, fun h1 => ih (a + 1) (by omega) _ _ (nI_1 a) ?_⟩
      · have h1 := (nI_eq (b := 1) (by omega) (by decide)).mp h1
        rw [hx9, bts_up _ (by omega), bts_yes]
        unfold sureB
        rw [h1]; rfl
      · rw [← bts_no]
        unfold sureB
        exact beq_eq_false_iff_ne.mpr (fun e => h1 (by rw [e]; rfl))
  exact key (cT S) 0 (by omega) 0 0 rfl rfl
end
