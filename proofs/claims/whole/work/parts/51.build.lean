/-! Ways: the rest -/
theorem pw_split (A : Nat → Nat) : ∀ (a lo b : Nat), pw A lo (a + b) = pw A lo a * pw A (lo + a) b := by
  intro a
  induction a with
  | zero => intro lo b; simp [pw]
  | succ a ih =>
    intro lo b
    rw [show a + 1 + b = (a + b) + 1 by omega, pw, pw, ih, Nat.mul_assoc, show lo + 1 + a = lo + (a + 1) by omega]
section
variable {t : zT} {m m' : zM} {s r : Nat} {S : Sc} {P : Nat → Bool} {T : List Nat}
theorem wgt_pos (v : Vs S) (tt : Nat) : 0 < wgt S tt := pw_pos _ _ (fun i h1 h2 => by have := (v.a2 i (by omega)).1; omega)
theorem cnt_pos (v : Vs S) : 0 < cnt S := pw_pos _ _ (fun i h1 h2 => by have := (v.a2 i (by omega)).1; omega)
theorem wgt_le (v : Vs S) {tt : Nat} (h : tt < cT S) : wgt S tt ≤ cnt S := by
  have e := pw_split (cA S) (tt + 1) 0 (cT S - (tt + 1))
  rw [show tt + 1 + (cT S - (tt + 1)) = cT S by omega, Nat.zero_add] at e
  unfold cnt wgt
  rw [e]
  exact Nat.le_mul_of_pos_left _ (pw_pos _ _ (fun i h1 h2 => by have := (v.a2 i (by omega)).1; omega))
theorem wgt_up {tt : Nat} (h : tt + 1 < cT S) : wgt S tt = cA S (tt + 1) * wgt S (tt + 1) := by
  unfold wgt
  rw [show cT S - (tt + 1) = (cT S - (tt + 1 + 1)) + 1 by omega, pw]
theorem wgt_last : wgt S (cT S - 1) = 1 ∨ cT S = 0 := by
  by_cases z : cT S = 0
  · exact Or.inr z
  · left; unfold wgt; rw [show cT S - (cT S - 1 + 1) = 0 by omega, pw]
theorem cnt_wgt (v : Vs S) : cnt S = cA S 0 * wgt S 0 := by
  have := v.t1
  unfold cnt wgt
  rw [show cT S = (cT S - 1) + 1 by omega, pw]
  simp
theorem ans_lt (v : Vs S) {w tt : Nat} (h : tt < cT S) : ans S w tt < cA S tt := Nat.mod_lt _ (by have := (v.a2 tt h).1; omega)
theorem ans_4 (v : Vs S) {w tt : Nat} (h : tt < cT S) : ans S w tt < 4 := by have := ans_lt v (w := w) h; have := (v.a2 tt h).2; omega
theorem sp_answerIn (c : Cor t m s S) {w tt : Nat} (hw : w < cnt S) (ht : tt < cT S) {Q : Int32 → zM → Prop} (hQ : Q (nI (ans S w tt)) m) : wX8_answerIn t m 20 (nI w) (nI tt) Q := by
  have L := c.lay
  have v := c.vs
  have t8 := v.t8
  have hc := v.cnt
  have h1 := wgt_pos v tt
  have h2 := wgt_le v ht
  have h3 := v.a2 tt ht
  unfold wX8_answerIn wX9_remainder
  rw [lr20_3 L, lk33 L, ll33 L, nI_cl (show tt < 2 ^ 31 by omega), c.way.weight tt ht, c.told, ls_r1 L c.sch, ls_l1 L c.sch, c.sm.answers tt ht, pk_div (by omega) h1 (by omega)]
  have hd : w / wgt S tt < 2 ^ 31 := Nat.lt_of_le_of_lt (Nat.div_le_self _ _) (by omega)
  refine ⟨lk20 L, rfl, vp_nI (by omega) (by decide), fun hh => absurd hh (nI_nle h1 (by omega)), fun _ => ⟨nI_ne0 h1 (by omega), ls_k L c.sch, ls_k1 L c.sch, vp_nI (by omega) (by decide), fun hh => absurd hh (nI_nle (by omega) (by omega)), fun _ => ⟨nI_ne0 (by omega) (by omega), ?_⟩⟩⟩
  rw [pk_rem hd (by omega) (by omega)]
  exact hQ
/-- what a child believes -/
def isCm (S : Sc) (P : Nat → Bool) (tt : Nat) (r : Int32) : Prop := (mny S P = 0 ∧ r = -2) ∨ (0 < mny S P ∧ ∃ a, a < cA S tt ∧ r = nI a ∧ (∀ b, b < cA S tt → oft S P tt b ≤ oft S P tt a) ∧ ∀ b, b < a → oft S P tt b < oft S P tt a)
theorem isCm_one {tt : Nat} {x y : Int32} (h1 : isCm S P tt x) (h2 : isCm S P tt y) : x = y := by
  rcases h1 with ⟨a1, a2⟩ | ⟨a1, a, a2, a3, a4, a5⟩ <;> rcases h2 with ⟨b1, b2⟩ | ⟨b1, b, b2, b3, b4, b5⟩
  · rw [a2, b2]
  · omega
  · omega
  · have : a = b := by
      rcases Nat.lt_trichotomy a b with x | x | x
      · have := b5 a x; have := a4 b b2; omega
      · exact x
      · have := a5 b x; have := b4 a a2; omega
    rw [a3, b3, this]
theorem oft_le {tt a : Nat} : oft S P tt a ≤ mny S P := fb_ct_sub (fun k _ h => by rw [Bool.and_eq_true] at h; exact h.1)
theorem oft_ex (v : Vs S) {tt : Nat} (ht : tt < cT S) (h : 0 < mny S P) : ∃ a, a < cA S tt ∧ 0 < oft S P tt a := by
  obtain ⟨w, hw, hp⟩ := fb_ct_pos.mp h
  exact ⟨ans S w tt, ans_lt v ht, fb_ct_pos.mpr ⟨w, hw, by simp [hp]⟩⟩
theorem sp_commonest (c : Cor t m s S) (hr : isRow r) (R : RowM m r S P) {tt : Nat} (ht : tt < cT S) {Q : Int32 → zM → Prop} (hQ : ∀ x, isCm S P tt x → Q x m) : wX8_commonest t m 20 r (nI tt) Q := by
  have L := c.lay
  have v := c.vs
  have t8 := v.t8
  have h3 := v.a2 tt ht
  have hc := v.cnt
  have ol : ∀ a, oft S P tt a < 2 ^ 31 := fun a => by have := fb_ct_le (fun w => P w && (ans S w tt == a)) (cnt S); unfold oft; omega
  unfold wX8_commonest
  refine ⟨cA S tt + 1, ?_⟩
  have key : ∀ d a : Nat, a + d = cA S tt → ∀ (b M : Nat) (x y z : Int32), (∀ k, k < a → oft S P tt k ≤ M) → ((M = 0 ∧ y = -2) ∨ (0 < M ∧ b < a ∧ y = nI b ∧ oft S P tt b = M ∧ ∀ k, k < b → oft S P tt k < M)) → M < 2 ^ 31 → x = nI a → z = nI M → wX8_commonest_L9 t 20 r (nI tt) Q (fun v m => Q v m) (d + 1) y z x m := by
    intro d
    induction d with
    | zero =>
      intro a ha b M x y z g1 g2 g3 hx hz
      have e : a = cA S tt := by omega
      subst e
      rw [hx, wX8_commonest_L9, c.told, ls_r1 L c.sch, nI_cl (show tt < 2 ^ 31 by omega), c.sm.answers tt ht]
      refine ⟨lk20 L, ls_k L c.sch, ls_k1 L c.sch, by rw [ls_l1 L c.sch]; exact vp_nI (by omega) (by decide), fun _ => hQ y ?_, fun hh => absurd (nI_le (Nat.le_refl _) (by omega)) hh⟩
      rcases g2 with ⟨z1, z2⟩ | ⟨z1, z2, z3, z4, z5⟩
      · left
        refine ⟨?_, z2⟩
        rcases Nat.eq_zero_or_pos (mny S P) with u | u
        · exact u
        · obtain ⟨k, k1, k2⟩ := oft_ex v ht u
          have := g1 k k1
          omega
      · right
        exact ⟨Nat.lt_of_lt_of_le (by omega) (oft_le (tt := tt) (a := b)), b, z2, z3, fun k hk => by rw [z4]; exact g1 k hk, fun k hk => by rw [z4]; exact z5 k hk⟩
    | succ d ih =>
      intro a ha b M x y z g1 g2 g3 hx hz
      rw [hx, hz, wX8_commonest_L9, c.told, ls_r1 L c.sch, nI_cl (show tt < 2 ^ 31 by omega), c.sm.answers tt ht]
      refine ⟨lk20 L, ls_k L c.sch, ls_k1 L c.sch, by rw [ls_l1 L c.sch]; exact vp_nI (by omega) (by decide), fun hh => absurd hh (nI_ge (by omega) (by omega)), fun _ => sp_membersWith c hr R ht (by omega) ?_⟩
      unfold wX8_commonest_J47
      rw [nI_leI (ol a) g3]
      refine ⟨fun hle => ih (a + 1) (by omega) b M _ y _ (fun k hk => ?_) ?_ g3 (nI_1 a) rfl, fun hle => ih (a + 1) (by omega) a (oft S P tt a) _ _ _ (fun k hk => ?_) (Or.inr ⟨by omega, by omega, rfl, rfl, fun k hk => ?_⟩) (ol a) (nI_1 a) rfl⟩
      · rcases (show k < a ∨ k = a by omega) with u | u
        · exact g1 k u
        · subst u; exact hle
      · rcases g2 with g | ⟨z1, z2, z3⟩
        · exact Or.inl g
        · exact Or.inr ⟨z1, by omega, z3⟩
      · rcases (show k < a ∨ k = a by omega) with u | u
        · have := g1 k u; omega
        · subst u; omega
      · have := g1 k hk; omega
  exact key (cA S tt) 0 (by omega) 0 0 0 (-2) 0 (fun k hk => absurd hk (by omega)) (Or.inl ⟨rfl, rfl⟩) (by decide) rfl rfl
theorem sp_allRightWord (c : Cor t m s S) {mm tt W : Nat} (ht : tt < cT S) (hm : mm < 2 ^ 31) (hW : W < wds S) {Q : Int64 → zM → Prop} (hQ : ∀ y : Int64, (∀ i, i < 64 → 64 * W + i < cnt S → (bw y i = true ↔ ∀ k, k < cN S → cBy S k = mm → cOf S k = tt → rt S (64 * W + i) k = true)) → Q y m) : wX8_allRightWord t m 20 (nI mm) (nI tt) (nI W) Q := by
  have L := c.lay
  have v := c.vs
  have t8 := v.t8
  have m6 := v.m6
  have w64 := wds_le v
  have n16 := v.n16
  have hs := c.sch
  unfold wX8_allRightWord
  refine ⟨cN S + 1, ?_⟩
  have key : ∀ d k : Nat, k + d = cN S → ∀ (y : Int64) (x : Int32), (∀ i, i < 64 → 64 * W + i < cnt S → (bw y i = true ↔ ∀ j, j < k → cBy S j = mm → cOf S j = tt → rt S (64 * W + i) j = true)) → x = nI k → wX8_allRightWord_L8 t 20 (nI mm) (nI tt) (nI W) Q (fun v m => Q v m) (d + 1) y x m := by
    intro d
    induction d with
    | zero =>
      intro k hk y x g hx
      have e : k = cN S := by omega
      subst e
      rw [hx, wX8_allRightWord_L8, c.told, c.sm.sayings]
      exact ⟨lk20 L, ls_k L hs, fun _ => hQ y g, fun hh => absurd (nI_le (Nat.le_refl _) (by omega)) hh⟩
    | succ d ih =>
      intro k hk y x g hx
      have hk1 : k < cN S := by omega
      obtain ⟨b1, b2, b3⟩ := v.say k hk1
      obtain ⟨e1, e2, e3⟩ := c.say.tab k hk1
      have b4 := (v.a2 _ b2).2
      rw [hx, wX8_allRightWord_L8, c.told, c.sm.sayings]
      simp only [ls_k L hs, ls_r1 L hs, ls_k1 L hs, ls_l1 L hs, ls_r3 L hs, ls_k3 L hs, ls_l3 L hs, ls_r6 L hs, ls_k6 L hs, ls_l6 L hs, ls_r7 L hs, ls_k7 L hs, ls_l7 L hs, ls_r8 L hs, ls_k8 L hs, ls_l8 L hs, ls_r9 L hs, ls_k9 L hs, ls_l9 L hs, ls_r11 L hs, ls_k11 L hs, ls_l11 L hs, ls_r15 L hs, ls_k15 L hs, ls_l15 L hs, ls_r16 L hs, ls_k16 L hs, ls_l16 L hs, ls_r17 L hs, ls_k17 L hs, ls_l17 L hs, ls_r19 L hs, ls_k19 L hs, ls_l19 L hs, nI_cl (show k < 2 ^ 31 by omega), e1, e2, e3, nI_eq (show cBy S k < 2 ^ 31 by omega) hm, nI_eq (show cOf S k < 2 ^ 31 by omega) (show tt < 2 ^ 31 by omega), true_and]
      have v1 : vp_in (nI k) 17 := vp_nI (by omega) (by decide)
      unfold wX8_allRightWord_J69
      refine ⟨lk20 L, fun hh => absurd hh (nI_ge (by omega) (by omega)), fun _ => ⟨v1, fun h1 => ⟨v1, fun h2 => ⟨v1, sp_truthWord L (by omega) (by omega) (by omega) (fun x14 h14 => ih (k + 1) (by omega) _ _ (fun i hi hc => ?_) (nI_1 k))⟩, fun h2 => ih (k + 1) (by omega) _ _ (fun i hi hc => ?_) (nI_1 k)⟩, fun h1 => ih (k + 1) (by omega) _ _ (fun i hi hc => ?_) (nI_1 k)⟩⟩
      · rw [h14, bw_and, Bool.and_eq_true, g i hi hc, c.way.truth tt ht _ (by omega) W (by omega) i hi]
        constructor
        · rintro ⟨q1, _, q2⟩ j hj f1 f2
          rcases (show j < k ∨ j = k by omega) with u | u
          · exact q1 j u f1 f2
          · subst u; simp [rt, h2, q2]
        · intro q
          refine ⟨fun j hj => q j (by omega), hc, ?_⟩
          have := q k (by omega) h1 h2
          simpa [rt, h2] using this
      · rw [g i hi hc]
        constructor
        · intro q j hj f1 f2
          rcases (show j < k ∨ j = k by omega) with u | u
          · exact q j u f1 f2
          · subst u; exact absurd f2 h2
        · intro q j hj; exact q j (by omega)
      · rw [g i hi hc]
        constructor
        · intro q j hj f1 f2
          rcases (show j < k ∨ j = k by omega) with u | u
          · exact q j u f1 f2
          · subst u; exact absurd f1 h1
        · intro q j hj; exact q j (by omega)
  exact key (cN S) 0 (by omega) (-1) 0 (fun i hi _ => ⟨fun _ j hj => absurd hj (by omega), fun _ => bw_m1 hi⟩) rfl
end
