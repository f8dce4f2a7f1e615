/-! The best plan: what the class reckons is the same -/
section
variable {S : Sc} {mn : Bool} {U U' X X' : Nat → Bool} {t a : Nat} {f g : Nat → Nat}
theorem ctU_8 (v : Vs S) : ctU S U ≤ 8 := Nat.le_trans (fb_ct_le _ _) v.t8
theorem two_ex {p : Nat → Bool} {n : Nat} (h : 2 ≤ fb_ct p n) : ∃ i j, i < n ∧ j < n ∧ p i = true ∧ p j = true ∧ i ≠ j := by
  obtain ⟨i, i1, i2, i3⟩ := fb_ct_kth (p := p) (n := n) (k := 0) (by omega)
  obtain ⟨j, j1, j2, j3⟩ := fb_ct_kth (p := p) (n := n) (k := 1) (by omega)
  exact ⟨i, j, i1, j1, i2, j2, fun e => by rw [e] at i3; omega⟩
theorem fcs_inf (v : Vs S) (ht : t < cT S) (hu : U t = true) (hx : 2 ≤ mny S X) (hnc : ¬ con S X t) (hfin : ∀ a, a < cA S t → nxF S mn U X t a ≤ 99 * ctU S (rmU U t) * oft S X t a) : fcs S mn X t (nxF S mn U X t) = gcs S mn X t (nxF S mn U X t) ∧ gcs S mn X t (nxF S mn U X t) ≤ 99 * ctU S U * mny S X := by
  have c := ct_rm ht hu
  have c8 := ctU_8 (U := U) v
  have ml := mny_le (S := S) X
  have hc := v.cnt
  have c99 := v.c99 t (by have := v.t8; omega)
  have w := wgm_le (mn := mn) (S := S) (X := X) (by omega)
  have sm : fb_sm (nxF S mn U X t) (cA S t) ≤ 99 * ctU S (rmU U t) * mny S X := by
    refine Nat.le_trans (fb_sm_le hfin) ?_
    rw [sm_mul, oft_sum v ht]
    exact Nat.le_refl _
  have cm := cmb_le (mn := mn) (f := nxF S mn U X t) (cA S t)
  have b7 : 99 * ctU S (rmU U t) * mny S X ≤ 99 * 7 * 4096 := Nat.mul_le_mul (Nat.mul_le_mul (Nat.le_refl _) (by omega)) (by omega)
  have nb : badB S X t (nxF S mn U X t) = false := by
    cases hb : badB S X t (nxF S mn U X t) with
    | false => rfl
    | true =>
      obtain ⟨a, a1, a2, a3⟩ := badB_iff.mp hb
      rcases a3 with q | q
      · exact absurd (con_of q) hnc
      · have h1 := hfin a a1
        have ol : oft S X t a ≤ mny S X := oft_le
        have b : 99 * ctU S (rmU U t) * oft S X t a ≤ 99 * 7 * 4096 := Nat.mul_le_mul (Nat.mul_le_mul (Nat.le_refl _) (by omega)) (by omega)
        unfold INF at q
        omega
  have ni : ¬ INF ≤ cmb mn (nxF S mn U X t) (cA S t) := by unfold INF; omega
  have wl : cC S t * wgm S mn X ≤ 99 * mny S X := Nat.mul_le_mul c99 w.2
  refine ⟨?_, ?_⟩
  · unfold fcs gcs
    rw [nb, if_neg ni]
    simp only [Bool.false_eq_true, if_false]
    omega
  · unfold gcs
    rw [← c, Nat.mul_add, Nat.add_mul]
    omega
theorem FF_fin (v : Vs S) : ∀ n {U X : Nat → Bool}, ctU S U ≤ n → sep S U X → FF S mn U X ≤ 99 * ctU S U * mny S X := by
  intro n
  induction n with
  | zero =>
    intro U X hn hs
    rcases Nat.lt_or_ge (mny S X) 2 with q | q
    · rw [FF_0 q]; exact Nat.zero_le _
    · obtain ⟨i, j, i1, j1, i2, j2, ne⟩ := two_ex q
      have z : ∀ t, t < cT S → U t = false := fb_ct_zero.mp (show ctU S U = 0 by omega)
      exact absurd (hs i j i1 j1 i2 j2 (fun t ht hu => by rw [z t ht] at hu; cases hu)) ne
  | succ n ih =>
    intro U X hn hs
    rcases Nat.lt_or_ge (mny S X) 2 with q | q
    · rw [FF_0 q]; exact Nat.zero_le _
    · have ex : ∃ t, t < cT S ∧ U t = true ∧ ¬ con S X t := by
        refine Classical.byContradiction fun hn => ?_
        obtain ⟨i, j, i1, j1, i2, j2, ne⟩ := two_ex q
        refine ne (hs i j i1 j1 i2 j2 (fun t ht hu => ?_))
        refine Classical.byContradiction fun hne => hn ⟨t, ht, hu, fun hc => hne (hc i j i1 j1 i2 j2)⟩
      obtain ⟨t, ht, hu, hnc⟩ := ex
      have c := ct_rm ht hu
      have k := fcs_inf (mn := mn) v ht hu q hnc (fun a _ => ih (by omega) (sep_sub hs))
      rw [FF_eq, if_neg (by omega)]
      refine Nat.le_trans (mins_le ht) ?_
      rw [hu, if_pos rfl, k.1]
      exact k.2
theorem FF_fin2 (v : Vs S) (hs : sep S U X) : FF S mn U X ≤ 3244032 := by
  have c8 := ctU_8 (U := U) v
  have ml := mny_le (S := S) X
  have hc := v.cnt
  refine Nat.le_trans (FF_fin v (ctU S U) (Nat.le_refl _) hs) ?_
  have : 99 * ctU S U * mny S X ≤ 99 * 8 * 4096 := Nat.mul_le_mul (Nat.mul_le_mul (Nat.le_refl _) c8) (by omega)
  omega
/-- the trial of a thing that tells nothing -/
theorem gcs_con (v : Vs S) (ht : t < cT S) (hu : U t = true) (hx : 2 ≤ mny S X) (hc : con S X t) : gcs S mn X t (nxF S mn U X t) = cC S t * wgm S mn X + FF S mn U X := by
  obtain ⟨w, w1, w2⟩ := fb_ct_pos.mp (show 0 < fb_ct X (cnt S) by unfold mny at hx; omega)
  have one : cmb mn (nxF S mn U X t) (cA S t) = nxF S mn U X t (ans S w t) := by
    refine cmb_one _ (ans_lt v ht) (fun k hk ne => ?_)
    refine FF_0 ?_
    rw [mny_wAns]
    have : oft S X t k = 0 := fb_ct_zero.mpr (fun w' hw' => by
      cases hb : X w' with
      | false => rfl
      | true =>
        have := hc w' w hw' w1 hb w2
        simp only [Bool.true_and, beq_eq_false_iff_ne, ne_eq]
        omega)
    omega
  have e1 : nxF S mn U X t (ans S w t) = FF S mn (rmU U t) X := FF_cong (fun w' hw' => by
    cases hb : X w' with
    | false => unfold wAns; rw [hb]; rfl
    | true => exact wAns_t.mpr ⟨hb, hc w' w hw' w1 hb w2⟩)
  have e2 : FF S mn U X = FF S mn (rmU U t) X := (FF_drop v (ctU S U) (Nat.le_refl _) (fun k hk h => by unfold rmU at h; rw [Bool.and_eq_true] at h; exact h.1) (fun k hk h1 h2 => by
    have : k = t := by
      unfold rmU at h2
      rw [h1, Bool.true_and] at h2
      simpa using h2
    subst this; exact hc)).1
  unfold gcs
  rw [one, e1, e2]
theorem FF_M (v : Vs S) (hs : sep S U X) (htr : trU S U) (hx : 2 ≤ mny S X) (ht : t < cT S) (hu : U t = true) : FF S mn U X ≤ gcs S mn X t (nxF S mn U X t) ∧ (gcs S mn X t (nxF S mn U X t) = FF S mn U X ↔ fcs S mn X t (nxF S mn U X t) = FF S mn U X) := by
  have fin := FF_fin2 (mn := mn) v hs
  by_cases hc : con S X t
  · have e := gcs_con (mn := mn) v ht hu hx hc
    have w := wgm_le (mn := mn) (S := S) (X := X) (by omega)
    have p : 0 < cC S t * wgm S mn X := Nat.mul_pos (htr t ht hu) w.1
    have b := con_bad (f := nxF S mn U X t) v ht hc (show 0 < mny S X by omega)
    have ei : fcs S mn X t (nxF S mn U X t) = INF := by simp [fcs, b]
    rw [e, ei]
    refine ⟨by omega, fun h => by omega, fun h => ?_⟩
    unfold INF at h
    omega
  · have k := fcs_inf (mn := mn) v ht hu hx hc (fun a _ => FF_fin v _ (Nat.le_refl _) (sep_sub hs))
    rw [k.1]
    refine ⟨?_, Iff.rfl⟩
    have : FF S mn U X ≤ fcs S mn X t (nxF S mn U X t) := by
      rw [FF_eq, if_neg (by omega)]
      have := mins_le (f := fun t => if U t then fcs S mn X t (nxF S mn U X t) else INF) ht
      simpa [hu] using this
    omega
theorem FF_ex (v : Vs S) (hs : sep S U X) (hx : 2 ≤ mny S X) : ∃ t, t < cT S ∧ U t = true ∧ fcs S mn X t (nxF S mn U X t) = FF S mn U X := by
  have fin := FF_fin2 (mn := mn) v hs
  rcases mins_att (f := fun t => if U t then fcs S mn X t (nxF S mn U X t) else INF) (cT S) with q | ⟨k, k1, k2⟩
  · rw [FF_eq, if_neg (by omega), q] at fin
    unfold INF at fin
    omega
  · have e : mins (fun t => if U t then fcs S mn X t (nxF S mn U X t) else INF) (cT S) = FF S mn U X := by rw [FF_eq, if_neg (by omega)]
    cases hu : U k with
    | false =>
      rw [hu] at k2
      simp only [Bool.false_eq_true, if_false] at k2
      rw [e] at k2
      unfold INF at k2
      omega
    | true =>
      rw [hu] at k2
      simp only [if_true] at k2
      exact ⟨k, k1, hu, k2.trans e⟩
/-- what is tried first -/
def fsI (S : Sc) (mn : Bool) (U X : Nat → Bool) : Int32 := if mny S X < 2 then -2 else nI (fa_first (fun t => U t && (fcs S mn X t (nxF S mn U X t) == FF S mn U X)) (cT S))
theorem fa_first_cong {p q : Nat → Bool} : ∀ {n : Nat}, (∀ k, k < n → p k = q k) → fa_first p n = fa_first q n := by
  intro n h
  have le1 := fa_first_le p n
  have le2 := fa_first_le q n
  rcases Nat.lt_trichotomy (fa_first p n) (fa_first q n) with z | z | z
  · have a := fa_first_yes p n (by omega)
    have b := fa_first_no q n _ z
    rw [h _ (by omega), b] at a; cases a
  · exact z
  · have a := fa_first_yes q n (by omega)
    have b := fa_first_no p n _ z
    rw [← h _ (by omega), b] at a; cases a
/-- with things that tell nothing it is the same -/
theorem fsI_drop (v : Vs S) (hs : sep S U X) (h1 : ∀ t, t < cT S → U t = true → U' t = true) (h2 : ∀ t, t < cT S → U' t = true → U t = false → con S X t) : fsI S mn U' X = fsI S mn U X := by
  have fin := FF_fin2 (mn := mn) v hs
  obtain ⟨e, pt⟩ := FF_drop (mn := mn) v (ctU S U') (Nat.le_refl _) h1 h2
  unfold fsI
  split
  · rfl
  · congr 1
    refine fa_first_cong (fun k hk => ?_)
    have p := pt k hk (by omega)
    rw [e, ← bt_iff]
    simp only [Bool.and_eq_true, beq_iff_eq]
    cases hu' : U' k with
    | false =>
      cases hu : U k with
      | false => simp
      | true => rw [h1 k hk hu] at hu'; cases hu'
    | true =>
      cases hu : U k with
      | false =>
        rw [hu', hu] at p
        simp only [if_true, Bool.false_eq_true, if_false] at p
        rw [p]
        unfold INF
        simp only [Bool.false_eq_true, false_and, true_and, iff_false]
        omega
      | true =>
        rw [hu', hu] at p
        simp only [if_true] at p
        rw [p]
theorem sep_drop (h1 : ∀ t, t < cT S → U t = true → U' t = true) (h2 : ∀ t, t < cT S → U' t = true → U t = false → con S X t) : sep S U' X ↔ sep S U X := by
  constructor
  · intro h w w' a1 a2 a3 a4 a5
    refine h w w' a1 a2 a3 a4 (fun t ht hu => ?_)
    cases hb : U t with
    | true => exact a5 t ht hb
    | false => exact h2 t ht hu hb w w' a1 a2 a3 a4
  · intro h w w' a1 a2 a3 a4 a5
    exact h w w' a1 a2 a3 a4 (fun t ht hu => a5 t ht (h1 t ht hu))
end
