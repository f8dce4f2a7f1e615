/-! The best plan, as numbers: worlds X, things that may still be tried U -/
abbrev INF : Nat := 268435456
def rmU (U : Nat → Bool) (t : Nat) : Nat → Bool := fun j => U j && !(j == t)
def cmb (mn : Bool) (f : Nat → Nat) : Nat → Nat
  | 0 => 0
  | a + 1 => if mn then cmb mn f a + f a else (if cmb mn f a < f a then f a else cmb mn f a)
def mins (f : Nat → Nat) : Nat → Nat
  | 0 => INF
  | k + 1 => if f k < mins f k then f k else mins f k
/-- a trial that tells nothing, or after which there is no plan -/
def badB (S : Sc) (X : Nat → Bool) (t : Nat) (f : Nat → Nat) : Bool := (List.range (cA S t)).any fun a => !(oft S X t a == 0) && ((oft S X t a == mny S X) || decide (INF ≤ f a))
def wgm (S : Sc) (mn : Bool) (X : Nat → Bool) : Nat := if mn then mny S X else 1
def fcs (S : Sc) (mn : Bool) (X : Nat → Bool) (t : Nat) (f : Nat → Nat) : Nat := if badB S X t f then INF else if INF ≤ cmb mn f (cA S t) then INF else cmb mn f (cA S t) + cC S t * wgm S mn X
def gcs (S : Sc) (mn : Bool) (X : Nat → Bool) (t : Nat) (f : Nat → Nat) : Nat := cC S t * wgm S mn X + cmb mn f (cA S t)
def Ff (S : Sc) (mn : Bool) : Nat → (Nat → Bool) → (Nat → Bool) → Nat
  | 0, _, X => if mny S X < 2 then 0 else INF
  | n + 1, U, X => if mny S X < 2 then 0 else mins (fun t => if U t then fcs S mn X t (fun a => Ff S mn n (rmU U t) (wAns S X t a)) else INF) (cT S)
def ctU (S : Sc) (U : Nat → Bool) : Nat := fb_ct U (cT S)
def FF (S : Sc) (mn : Bool) (U X : Nat → Bool) : Nat := Ff S mn (ctU S U) U X
/-- what comes behind a trial -/
def nxF (S : Sc) (mn : Bool) (U X : Nat → Bool) (t a : Nat) : Nat := FF S mn (rmU U t) (wAns S X t a)
def con (S : Sc) (X : Nat → Bool) (t : Nat) : Prop := ∀ w w', w < cnt S → w' < cnt S → X w = true → X w' = true → ans S w t = ans S w' t
def sep (S : Sc) (U X : Nat → Bool) : Prop := ∀ w w', w < cnt S → w' < cnt S → X w = true → X w' = true → (∀ t, t < cT S → U t = true → ans S w t = ans S w' t) → w = w'
def trU (S : Sc) (U : Nat → Bool) : Prop := ∀ t, t < cT S → U t = true → 0 < cC S t
section
variable {S : Sc} {mn : Bool} {U U' X X' : Nat → Bool} {t a : Nat} {f g : Nat → Nat}
theorem mins_cong : ∀ {n : Nat}, (∀ k, k < n → f k = g k) → mins f n = mins g n := by
  intro n
  induction n with
  | zero => intro _; rfl
  | succ n ih => intro h; rw [mins, mins, ih (fun k hk => h k (by omega)), h n (by omega)]
theorem mins_inf : ∀ n, mins f n ≤ INF := by
  intro n
  induction n with
  | zero => exact Nat.le_refl _
  | succ n ih => rw [mins]; split <;> omega
theorem mins_le : ∀ {n k : Nat}, k < n → mins f n ≤ f k := by
  intro n
  induction n with
  | zero => intro k hk; omega
  | succ n ih =>
    intro k hk
    rw [mins]
    rcases (show k < n ∨ k = n by omega) with q | q
    · have := ih q; split <;> omega
    · subst q; split <;> omega
theorem mins_att : ∀ n, mins f n = INF ∨ ∃ k, k < n ∧ f k = mins f n := by
  intro n
  induction n with
  | zero => exact Or.inl rfl
  | succ n ih =>
    rw [mins]
    split
    · exact Or.inr ⟨n, by omega, rfl⟩
    · rcases ih with q | ⟨k, k1, k2⟩
      · exact Or.inl q
      · exact Or.inr ⟨k, by omega, k2⟩
theorem mins_all {n : Nat} (h : ∀ k, k < n → f k = INF) : mins f n = INF := by
  rcases mins_att (f := f) n with q | ⟨k, k1, k2⟩
  · exact q
  · rw [← k2]; exact h k k1
theorem cmb_cong : ∀ {n : Nat}, (∀ k, k < n → f k = g k) → cmb mn f n = cmb mn g n := by
  intro n
  induction n with
  | zero => intro _; rfl
  | succ n ih => intro h; rw [cmb, cmb, ih (fun k hk => h k (by omega)), h n (by omega)]
theorem cmb_le : ∀ n, cmb mn f n ≤ fb_sm f n := by
  intro n
  induction n with
  | zero => exact Nat.zero_le _
  | succ n ih =>
    rw [cmb, fb_sm_succ]
    split
    · omega
    · split <;> omega
theorem cmb_zero : ∀ n, (∀ k, k < n → f k = 0) → cmb mn f n = 0 := by
  intro n
  induction n with
  | zero => intro _; rfl
  | succ n ih =>
    intro h
    rw [cmb, ih (fun k hk => h k (by omega)), h n (by omega)]
    split <;> simp
theorem cmb_one {a0 : Nat} : ∀ n, a0 < n → (∀ k, k < n → k ≠ a0 → f k = 0) → cmb mn f n = f a0 := by
  intro n
  induction n with
  | zero => intro h; omega
  | succ n ih =>
    intro h1 h2
    rw [cmb]
    rcases (show a0 < n ∨ a0 = n by omega) with q | q
    · rw [ih q (fun k hk => h2 k (by omega)), h2 n (by omega) (by omega)]
      split <;> simp
    · subst q
      rw [cmb_zero _ (fun k hk => h2 k (by omega) (by omega))]
      split
      · omega
      · split <;> omega
theorem ct_rm (ht : t < cT S) (h : U t = true) : ctU S (rmU U t) + 1 = ctU S U := by
  have u := fb_ct_upd U false ht
  simp only [h, if_true, Bool.false_eq_true, if_false] at u
  have c : fb_ct (rmU U t) (cT S) = fb_ct (fun k => if k = t then false else U k) (cT S) := fb_ct_cong (fun k _ => by
    unfold rmU
    by_cases z : k = t <;> simp [z])
  unfold ctU
  omega
theorem FF_eq : FF S mn U X = if mny S X < 2 then 0 else mins (fun t => if U t then fcs S mn X t (nxF S mn U X t) else INF) (cT S) := by
  unfold FF
  cases h : ctU S U with
  | zero =>
    rw [Ff]
    split
    · rfl
    · symm
      refine mins_all (fun k hk => ?_)
      have := fb_ct_zero.mp h k hk
      simp [this]
  | succ n =>
    rw [Ff]
    split
    · rfl
    · refine mins_cong (fun k hk => ?_)
      cases hu : U k with
      | false => rfl
      | true =>
        have c := ct_rm hk hu
        have e : ctU S (rmU U k) = n := by omega
        simp only [if_true]
        unfold nxF FF
        rw [e]
theorem FF_inf : FF S mn U X ≤ INF := by
  rw [FF_eq]
  split
  · decide
  · exact mins_inf _
theorem FF_0 (h : mny S X < 2) : FF S mn U X = 0 := by rw [FF_eq, if_pos h]
theorem two_mem {p : Nat → Bool} {n i j : Nat} (h : fb_ct p n < 2) (hi : i < n) (hj : j < n) (pi : p i = true) (pj : p j = true) : i = j := by
  have key : ∀ {i j : Nat}, i < j → j < n → p i = true → p j = true → 2 ≤ fb_ct p n := by
    intro i j hij hj pi pj
    have a := fb_ct_mono p (show i + 1 ≤ j by omega)
    have b := fb_ct_mono p (show j + 1 ≤ n by omega)
    rw [fb_ct_succ, pi] at a
    rw [fb_ct_succ, pj] at b
    simp only [if_true] at a b
    omega
  rcases Nat.lt_trichotomy i j with q | q | q
  · have := key q hj pi pj; omega
  · exact q
  · have := key q hi pj pi; omega
theorem badB_iff : badB S X t f = true ↔ ∃ a, a < cA S t ∧ oft S X t a ≠ 0 ∧ (oft S X t a = mny S X ∨ INF ≤ f a) := by
  unfold badB
  rw [List.any_eq_true]
  simp only [List.mem_range, Bool.and_eq_true, Bool.not_eq_true', beq_eq_false_iff_ne, Bool.or_eq_true, beq_iff_eq, decide_eq_true_eq, ne_eq]
theorem con_bad (v : Vs S) (ht : t < cT S) (hc : con S X t) (h0 : 0 < mny S X) : badB S X t f = true := by
  obtain ⟨w, w1, w2⟩ := fb_ct_pos.mp h0
  have e : oft S X t (ans S w t) = mny S X := oft_all_iff.mpr (fun w' h1 h2 => hc w' w h1 w1 h2 w2)
  exact badB_iff.mpr ⟨ans S w t, ans_lt v ht, by omega, Or.inl e⟩
theorem con_of (h : oft S X t a = mny S X) : con S X t := by
  have al := oft_all_iff.mp h
  intro w w' h1 h2 h3 h4
  rw [al w h1 h3, al w' h2 h4]
theorem wAns_t {w : Nat} : wAns S X t a w = true ↔ X w = true ∧ ans S w t = a := by
  unfold wAns
  rw [Bool.and_eq_true, beq_iff_eq]
theorem con_sub (hc : con S X t) {t' : Nat} : con S (wAns S X t' a) t := fun w w' h1 h2 h3 h4 => hc w w' h1 h2 (wAns_t.mp h3).1 (wAns_t.mp h4).1
theorem sep_sub (hs : sep S U X) : sep S (rmU U t) (wAns S X t a) := by
  intro w w' h1 h2 h3 h4 h5
  obtain ⟨a1, a2⟩ := wAns_t.mp h3
  obtain ⟨b1, b2⟩ := wAns_t.mp h4
  refine hs w w' h1 h2 a1 b1 (fun k hk hu => ?_)
  by_cases z : k = t
  · subst z; rw [a2, b2]
  · exact h5 k hk (by unfold rmU; simp [hu, z])
theorem trU_rm (h : trU S U) : trU S (rmU U t) := fun k hk hu => h k hk (by unfold rmU at hu; rw [Bool.and_eq_true] at hu; exact hu.1)
theorem mny_cong (h : ∀ w, w < cnt S → X w = X' w) : mny S X = mny S X' := fb_ct_cong h
theorem oft_cong (h : ∀ w, w < cnt S → X w = X' w) : oft S X t a = oft S X' t a := fb_ct_cong (fun w hw => by rw [h w hw])
theorem Ff_cong : ∀ n {U X X' : Nat → Bool}, (∀ w, w < cnt S → X w = X' w) → Ff S mn n U X = Ff S mn n U X' := by
  intro n
  induction n with
  | zero => intro U X X' h; rw [Ff, Ff, mny_cong h]
  | succ n ih =>
    intro U X X' h
    rw [Ff, Ff, mny_cong h]
    split
    · rfl
    · refine mins_cong (fun k hk => ?_)
      have e : ∀ b, Ff S mn n (rmU U k) (wAns S X k b) = Ff S mn n (rmU U k) (wAns S X' k b) := fun b => ih (fun w hw => by unfold wAns; rw [h w hw])
      split
      · unfold fcs badB wgm
        simp only [e, oft_cong h, mny_cong h]
      · rfl
theorem FF_cong (h : ∀ w, w < cnt S → X w = X' w) : FF S mn U X = FF S mn U X' := Ff_cong _ h
/-- things that tell nothing may be left out -/
theorem FF_drop (v : Vs S) : ∀ n {U U' X : Nat → Bool}, ctU S U' ≤ n → (∀ t, t < cT S → U t = true → U' t = true) → (∀ t, t < cT S → U' t = true → U t = false → con S X t) → FF S mn U' X = FF S mn U X ∧ ∀ t, t < cT S → 2 ≤ mny S X → (if U' t then fcs S mn X t (nxF S mn U' X t) else INF) = (if U t then fcs S mn X t (nxF S mn U X t) else INF) := by
  intro n
  induction n with
  | zero =>
    intro U U' X hn h1 h2
    have z' : ∀ t, t < cT S → U' t = false := fb_ct_zero.mp (show ctU S U' = 0 by omega)
    have z : ∀ t, t < cT S → U t = false := fun t ht => by
      cases hu : U t with
      | false => rfl
      | true => rw [← h1 t ht hu]; exact (z' t ht).symm ▸ rfl
    have pt : ∀ t, t < cT S → 2 ≤ mny S X → (if U' t then fcs S mn X t (nxF S mn U' X t) else INF) = (if U t then fcs S mn X t (nxF S mn U X t) else INF) := fun t ht _ => by
      simp [z' t ht, z t ht]
    refine ⟨?_, pt⟩
    rw [FF_eq, FF_eq]
    split
    · rfl
    · exact mins_cong (fun k hk => pt k hk (by omega))
  | succ n ih =>
    intro U U' X hn h1 h2
    have pt : ∀ t, t < cT S → 2 ≤ mny S X → (if U' t then fcs S mn X t (nxF S mn U' X t) else INF) = (if U t then fcs S mn X t (nxF S mn U X t) else INF) := by
      intro t ht hx
      cases hu' : U' t with
      | false =>
        have : U t = false := by
          cases hu : U t with
          | false => rfl
          | true => rw [h1 t ht hu] at hu'; cases hu'
        simp [this]
      | true =>
        cases hu : U t with
        | false =>
          have := con_bad (f := nxF S mn U' X t) v ht (h2 t ht hu' hu) (by omega)
          simp [fcs, this]
        | true =>
          have c := ct_rm ht hu'
          have e : nxF S mn U' X t = nxF S mn U X t := by
            funext a
            refine (ih (U := rmU U t) (U' := rmU U' t) (X := wAns S X t a) (by omega) (fun k hk hk2 => ?_) (fun k hk hk2 hk3 => ?_)).1
            · unfold rmU at hk2 ⊢
              rw [Bool.and_eq_true] at hk2 ⊢
              exact ⟨h1 k hk hk2.1, hk2.2⟩
            · refine con_sub (h2 k hk ?_ ?_)
              · unfold rmU at hk2
                rw [Bool.and_eq_true] at hk2
                exact hk2.1
              · unfold rmU at hk2 hk3
                rw [Bool.and_eq_true] at hk2
                rw [hk2.2, Bool.and_true] at hk3
                exact hk3
          simp only [if_true, e]
    refine ⟨?_, pt⟩
    rw [FF_eq, FF_eq]
    split
    · rfl
    · exact mins_cong (fun k hk => pt k hk (by omega))
/-- worlds that no trial parts -/
theorem FF_no : ∀ n {U X : Nat → Bool}, ctU S U ≤ n → ¬ sep S U X → Vs S → FF S mn U X = INF := by
  intro n
  induction n with
  | zero =>
    intro U X hn hs v
    have two : ¬ mny S X < 2 := fun h => hs (fun w w' h1 h2 h3 h4 _ => two_mem h h1 h2 h3 h4)
    rw [FF_eq, if_neg two]
    refine mins_all (fun k hk => ?_)
    have := fb_ct_zero.mp (show ctU S U = 0 by omega) k hk
    simp [this]
  | succ n ih =>
    intro U X hn hs v
    have two : ¬ mny S X < 2 := fun h => hs (fun w w' h1 h2 h3 h4 _ => two_mem h h1 h2 h3 h4)
    rw [FF_eq, if_neg two]
    refine mins_all (fun k hk => ?_)
    cases hu : U k with
    | false => rfl
    | true =>
      have c := ct_rm hk hu
      have bad : badB S X k (nxF S mn U X k) = true := by
        refine Classical.byContradiction fun hb => hs (fun w w' h1 h2 h3 h4 h5 => ?_)
        refine Classical.byContradiction fun hne => hb ?_
        have e : ans S w k = ans S w' k := h5 k hk hu
        refine badB_iff.mpr ⟨ans S w k, ans_lt v hk, ?_, Or.inr ?_⟩
        · have : 0 < oft S X k (ans S w k) := fb_ct_pos.mpr ⟨w, h1, by simp [h3]⟩
          omega
        · refine Nat.le_of_eq (ih (by omega) (fun hs2 => hne ?_) v).symm
          refine hs2 w w' h1 h2 (wAns_t.mpr ⟨h3, rfl⟩) (wAns_t.mpr ⟨h4, e.symm⟩) (fun j hj hj2 => h5 j hj ?_)
          unfold rmU at hj2
          rw [Bool.and_eq_true] at hj2
          exact hj2.1
      simp [fcs, bad]
theorem sm_one {b A : Nat} (hb : b < A) : fb_sm (fun a => if b == a then 1 else 0) A = 1 := by
  have u := fb_sm_upd (fun _ => 0) 1 hb
  rw [fb_sm_const] at u
  have e : fb_sm (fun a => if b == a then 1 else 0) A = fb_sm (fun k => if k = b then 1 else 0) A := fb_sm_cong (fun k _ => by
    by_cases z : k = b
    · simp [z]
    · have : ¬ b = k := fun q => z q.symm
      simp [z, this])
  omega
theorem oft_sum (v : Vs S) (ht : t < cT S) : fb_sm (oft S X t) (cA S t) = mny S X := by
  have key : ∀ n, fb_sm (fun a => fb_ct (fun w => X w && (ans S w t == a)) n) (cA S t) = fb_ct X n := by
    intro n
    induction n with
    | zero => exact (fb_sm_cong (g := fun _ => 0) (fun k _ => rfl)).trans (by rw [fb_sm_const]; rfl)
    | succ n ih =>
      rw [fb_ct_succ, ← ih]
      have e : fb_sm (fun a => fb_ct (fun w => X w && (ans S w t == a)) (n + 1)) (cA S t) = fb_sm (fun a => fb_ct (fun w => X w && (ans S w t == a)) n + (if (X n && (ans S n t == a)) then 1 else 0)) (cA S t) := fb_sm_cong (fun k _ => fb_ct_succ _ _)
      rw [e, fb_sm_add]
      congr 1
      cases hx : X n with
      | false => simp only [Bool.false_and, Bool.false_eq_true, if_false]; rw [fb_sm_const]; rfl
      | true => simp only [Bool.true_and, if_true]; exact sm_one (ans_lt v ht)
  exact key (cnt S)
theorem sm_mul (c : Nat) (h : Nat → Nat) : ∀ n, fb_sm (fun k => c * h k) n = c * fb_sm h n := by
  intro n
  induction n with
  | zero => rfl
  | succ n ih => rw [fb_sm_succ, fb_sm_succ, ih, Nat.mul_add]
theorem wgm_le (h0 : 0 < mny S X) : 0 < wgm S mn X ∧ wgm S mn X ≤ mny S X := by
  unfold wgm
  split <;> omega
end
