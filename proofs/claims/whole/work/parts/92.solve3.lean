/-! Plans: all states -/
def SvF (m : zM) (m' : zM) (a1 : Nat) (a2 : Nat) (a3 : Nat) : Prop := (Fr [52, 57, a1, a2, a3] m m') ∧ (∀ j, j ≠ 3 → j ≠ 5 → gI m' 52 j = gI m 52 j)
theorem SvF.fr {m : zM} {m' : zM} {a1 : Nat} {a2 : Nat} {a3 : Nat} (h_ : SvF m m' a1 a2 a3) : Fr [52, 57, a1, a2, a3] m m' := h_.1
theorem SvF.px {m : zM} {m' : zM} {a1 : Nat} {a2 : Nat} {a3 : Nat} (h_ : SvF m m' a1 a2 a3) : ∀ j, j ≠ 3 → j ≠ 5 → gI m' 52 j = gI m 52 j := h_.2
def PIv (m : zM) (S : Sc) (U : Nat → Bool) (P : Nat → Bool) (a1 : Nat) (a2 : Nat) (a3 : Nat) (d : Nat → Nat) : Prop := (okd (NU S U) d (ctU S U)) ∧ (∀ k, k < ctU S U → gI m 57 k = nI (d k)) ∧ (∀ d', okd (NU S U) d' (ctU S U) → vl (NU S U) d (ctU S U) < vl (NU S U) d' (ctU S U) → DPv m S U P a1 a2 a3 d') ∧ (∀ d', okd (NU S U) d' (ctU S U) → vl (NU S U) d' (ctU S U) ≤ vl (NU S U) d (ctU S U) → (∀ k, k < ctU S U → d' k ≠ 0) → gI m a1 (vl (NU S U) d' (ctU S U)) = nI (mny S (Xd S U P d')))
theorem PIv.ok {m : zM} {S : Sc} {U : Nat → Bool} {P : Nat → Bool} {a1 : Nat} {a2 : Nat} {a3 : Nat} {d : Nat → Nat} (h_ : PIv m S U P a1 a2 a3 d) : okd (NU S U) d (ctU S U) := h_.1
theorem PIv.dg {m : zM} {S : Sc} {U : Nat → Bool} {P : Nat → Bool} {a1 : Nat} {a2 : Nat} {a3 : Nat} {d : Nat → Nat} (h_ : PIv m S U P a1 a2 a3 d) : ∀ k, k < ctU S U → gI m 57 k = nI (d k) := h_.2.1
theorem PIv.up {m : zM} {S : Sc} {U : Nat → Bool} {P : Nat → Bool} {a1 : Nat} {a2 : Nat} {a3 : Nat} {d : Nat → Nat} (h_ : PIv m S U P a1 a2 a3 d) : ∀ d', okd (NU S U) d' (ctU S U) → vl (NU S U) d (ctU S U) < vl (NU S U) d' (ctU S U) → DPv m S U P a1 a2 a3 d' := h_.2.2.1
theorem PIv.lo {m : zM} {S : Sc} {U : Nat → Bool} {P : Nat → Bool} {a1 : Nat} {a2 : Nat} {a3 : Nat} {d : Nat → Nat} (h_ : PIv m S U P a1 a2 a3 d) : ∀ d', okd (NU S U) d' (ctU S U) → vl (NU S U) d' (ctU S U) ≤ vl (NU S U) d (ctU S U) → (∀ k, k < ctU S U → d' k ≠ 0) → gI m a1 (vl (NU S U) d' (ctU S U)) = nI (mny S (Xd S U P d')) := h_.2.2.2
section
variable {t : zT} {m m' m1 m2 : zM} {s u r : Nat} {S : Sc} {P P' : Nat → Bool} {x x2 x3 : Int32} {Tl : List Nat} {U D : Nat → Bool} {a1 a2 a3 len : Nat} {d d' : Nat → Nat} {mn : Bool}
theorem DPv.fr {st : Nat} (h : DPv m S U P a1 a2 a3 d) (f : TrF m m' a2 a3 st) (pr : PR t m a1 a2 a3 len) (ne : vl (NU S U) d (ctU S U) ≠ st) : DPv m' S U P a1 a2 a3 d := by
  have o1 := pr.o1
  have n12 := pr.n12
  have n13 := pr.n13
  have oa : a1 ∉ [52, a2, a3] := by
    simp only [List.mem_cons, List.not_mem_nil, or_false]
    omega
  unfold DPv at h ⊢
  rw [f.fr.I oa, f.qw _ ne, f.qt _ ne]
  exact h
theorem sp_choose (L : Lay t m) (v : Vs S) (hs : sep S U P) (htr : trU S U) (hU : ∀ t, U t = true → t < cT S) (pr : PR t m a1 a2 a3 len) (sk : SlK m S U (cT S)) (hl : pl (NU S U) (ctU S U) ≤ len) (hd : okd (NU S U) d (ctU S U)) (dg : ∀ k, k < ctU S U → gI m 57 k = nI (d k)) {st : Nat} (hst : vl (NU S U) d (ctU S U) = st) (hx : 2 ≤ mny S (Xd S U P d)) (hh : gI m a1 st = nI (mny S (Xd S U P d))) (up : ∀ d', okd (NU S U) d' (ctU S U) → st < vl (NU S U) d' (ctU S U) → DPv m S U P a1 a2 a3 d') (h3 : gI m 52 3 = -2) (h5 : gI m 52 5 = -2) {Q : zM → Prop} (hQ : ∀ m', TrF m m' a2 a3 st → gI m' a2 st = nI (FF S false (Ud U d) (Xd S U P d)) → gI m' a3 st = nI (FF S true (Ud U d) (Xd S U P d)) → gI m' 52 3 = fsI S false (Ud U d) (Xd S U P d) → gI m' 52 5 = fsI S true (Ud U d) (Xd S U P d) → Q m') : wX1_choose t m 52 (nI st) Q := by
  have t8 := v.t8
  have c8 : ctU S U ≤ 8 := ctU_8 v
  have len5 := pr.le
  have o1 := pr.o1
  have o2 := pr.o2
  have o3 := pr.o3
  have n12 := pr.n12
  have n13 := pr.n13
  have n23 := pr.n23
  have vlt := vl_lt hd
  have sc := nI_cl (show st < 2 ^ 31 by omega)
  have vs : vp_in (nI st) len := vp_nI (by omega) (by omega)
  unfold wX1_choose
  rw [pr.r2, pr.k2, pr.l2, pr.r3, pr.k3, pr.l3, sc]
  refine ⟨lk52 L, rfl, vs, rfl, vs, ctU S U + 1, ?_⟩
  have key : ∀ dd k : Nat, k + dd = ctU S U → ∀ m1, TrF m m1 a2 a3 st → ∀ vw vt, gI m1 a2 st = nI vw → gI m1 a3 st = nI vt → vw ≤ 1000000000 → vt ≤ 1000000000 → bst S U P false d k vw (gI m1 52 3) → bst S U P true d k vt (gI m1 52 5) → ∀ z : Int32, z = nI k → wX1_choose_L18 t 52 (nI st) Q (fun m13 => Q m13) (dd + 1) z m1 := by
    intro dd
    induction dd with
    | zero =>
      intro k hk m1 f1 vw vt w1 w2 w3 w4 b1 b2 z hz
      have e : k = ctU S U := by omega
      subst e
      have esl : gI m1 52 6 = nI (ctU S U) := (f1.px 6 (by decide) (by decide)).trans sk.sl
      obtain ⟨e1, e2⟩ := bst_end v hs htr hx b1
      obtain ⟨e3, e4⟩ := bst_end v hs htr hx b2
      rw [hz, wX1_choose_L18, esl]
      exact ⟨lk52 L, fun _ => hQ m1 f1 (by rw [w1, e1]) (by rw [w2, e3]) e2 e4, fun hh => absurd (nI_le (Nat.le_refl _) (by omega)) hh⟩
    | succ dd ih =>
      intro k hk m1 f1 vw vt w1 w2 w3 w4 b1 b2 z hz
      have kl : k < ctU S U := by omega
      have L1 := L.fr f1.fr
      have pr1 := pr.fr f1.fr
      have o57 : ∀ a, a < 58 → a ≠ 52 → a ∉ [52, a2, a3] := by
        intro a ha hb
        simp only [List.mem_cons, List.not_mem_nil, or_false]
        omega
      have oa : a1 ∉ [52, a2, a3] := by
        simp only [List.mem_cons, List.not_mem_nil, or_false]
        omega
      have esl : gI m1 52 6 = nI (ctU S U) := (f1.px 6 (by decide) (by decide)).trans sk.sl
      have sk1 : SlK m1 S U (cT S) := sk.fr f1.fr (f1.px 6 (by decide) (by decide)) (f1.px 7 (by decide) (by decide)) (fun a ha => o57 a (by simp only [List.mem_cons, List.not_mem_nil, or_false] at ha; omega) (by simp only [List.mem_cons, List.not_mem_nil, or_false] at ha; omega))
      have nk := NU_k v kl
      have dk := hd k kl
      have ed : nI (d k) = 0 ↔ d k = 0 := nI_eq (b := 0) (by omega) (by decide)
      have e57 : gI m1 57 k = nI (d k) := (f1.fr.I (o57 57 (by decide) (by decide)) _).trans (dg k kl)
      rw [hz, wX1_choose_L18, esl, lr52_12 L1, lk57 L, ll57 L, nI_cl (show k < 2 ^ 31 by omega), e57, ed]
      unfold wX1_choose_J41
      refine ⟨lk52 L, fun hh => absurd hh (nI_ge (by omega) (by omega)), fun _ => ⟨rfl, vp_nI (by omega) (by decide), fun h0 => ?_, fun h0 => ih (k + 1) (by omega) m1 f1 vw vt w1 w2 w3 w4 (bst_skip b1 h0) (bst_skip b2 h0) _ (nI_1 k)⟩⟩
      have gf := (gcs_lt (mn := false) v hs hU kl h0).2
      have gt := (gcs_lt (mn := true) v hs hU kl h0).2
      refine sp_tryFirst L1 v hs hU pr1 sk1 hl hd kl h0 hst ((f1.fr.I oa _).trans hh) (fun d' ok' lt => (up d' ok' lt).fr f1 pr (by omega)) w1 w2 w3 w4 (fun m2 f2 g1 g2 g3 g4 => ?_)
      refine ih (k + 1) (by omega) m2 (f1.tr f2) _ _ g1 g3 (by split <;> omega) (by split <;> omega) ?_ ?_ _ (nI_1 k)
      · rw [g2]; exact bst_step b1 h0 gf
      · rw [g4]; exact bst_step b2 h0 gt
  refine key (ctU S U) 0 (by omega) _ ⟨Fr.pI (Fr.pI Fr.rf (by simp)) (by simp), fun j a b => ?_, fun i hi => ?_, fun i hi => ?_⟩ 1000000000 1000000000 ?_ ?_ (Nat.le_refl _) (Nat.le_refl _) (Or.inl ⟨rfl, ?_, fun j hj => absurd hj (by omega)⟩) (Or.inl ⟨rfl, ?_, fun j hj => absurd hj (by omega)⟩) 0 rfl
  · rw [gII, if_neg (by omega), gII, if_neg (by omega)]
  · rw [gII, if_neg (by omega), gII, if_neg (fun q => hi q.2)]
  · rw [gII, if_neg (fun q => hi q.2), gII, if_neg (by omega)]
  · rw [gII, if_neg (by omega), gII, if_pos ⟨rfl, rfl⟩]; rfl
  · rw [gII, if_pos ⟨rfl, rfl⟩]; rfl
  · rw [gII, if_neg (by omega), gII, if_neg (by omega)]; exact h3
  · rw [gII, if_neg (by omega), gII, if_neg (by omega)]; exact h5
theorem SvF.tr (h1 : SvF m m1 a1 a2 a3) (h2 : SvF m1 m2 a1 a2 a3) : SvF m m2 a1 a2 a3 := ⟨h1.fr.tr h2.fr, fun j a b => (h2.px j a b).trans (h1.px j a b)⟩
theorem vl_zero (hd : okd (NU S U) d (ctU S U)) (v : Vs S) (h : vl (NU S U) d (ctU S U) = 0) : ∀ k, k < ctU S U → d k = 0 := by
  have ok0 : okd (NU S U) (fun _ => 0) (ctU S U) := fun k hk => by
    have := NU_k (U := U) v hk
    show 0 < NU S U k
    omega
  have z0 : vl (NU S U) (fun _ => 0) (ctU S U) = 0 := by
    have : vl (NU S U) (fun _ => 0) (ctU S U) = fb_sm (fun _ => 0) (ctU S U) := fb_sm_cong (fun k _ => Nat.zero_mul _)
    rw [this, fb_sm_const]; rfl
  exact vl_inj hd ok0 (h.trans z0.symm)
theorem Xd_zero (h : ∀ k, k < ctU S U → d k = 0) : Xd S U P d = P := by
  funext w
  rw [← bt_iff, Xd_t]
  exact ⟨fun q => q.1, fun q => ⟨q, fun k hk => Or.inl (h k hk)⟩⟩
theorem Ud_zero (hU : ∀ t, U t = true → t < cT S) (h : ∀ k, k < ctU S U → d k = 0) : Ud U d = U := by
  funext t
  rw [← bt_iff, Ud_t]
  exact ⟨fun q => q.1, fun q => ⟨q, h _ (idx_lt (hU t q) q)⟩⟩
theorem Xd_cong (h : ∀ k, k < ctU S U → d k = d' k) : Xd S U P d = Xd S U P d' := by
  funext w
  rw [← bt_iff, Xd_t, Xd_t]
  exact and_congr Iff.rfl ⟨fun q k hk => by rw [← h k hk]; exact q k hk, fun q k hk => by rw [h k hk]; exact q k hk⟩
theorem Ud_cong (hU : ∀ t, U t = true → t < cT S) (h : ∀ k, k < ctU S U → d k = d' k) : Ud U d = Ud U d' := by
  funext t
  rw [← bt_iff, Ud_t, Ud_t]
  constructor
  · rintro ⟨a, b⟩; exact ⟨a, by rw [← h _ (idx_lt (hU t a) a)]; exact b⟩
  · rintro ⟨a, b⟩; exact ⟨a, by rw [h _ (idx_lt (hU t a) a)]; exact b⟩
theorem DPv_cong (hU : ∀ t, U t = true → t < cT S) (h : ∀ k, k < ctU S U → d k = d' k) (p : DPv m S U P a1 a2 a3 d) : DPv m S U P a1 a2 a3 d' := by
  have e1 := Xd_cong (P := P) h
  have e2 := Ud_cong hU h
  have e3 := vl_cong (N := NU S U) h
  unfold DPv at p ⊢
  rw [← e1, ← e2, ← e3]
  exact p
set_option maxHeartbeats 1000000 in
theorem sp_solve_step (L : Lay t m) (v : Vs S) (hs : sep S U P) (htr : trU S U) (hU : ∀ t, U t = true → t < cT S) (pr : PR t m a1 a2 a3 len) (sk : SlK m S U (cT S)) (hl : pl (NU S U) (ctU S U) ≤ len) {Q : zM → Prop} {K : zM → Prop} {st n : Nat} (f1 : SvF m m1 a1 a2 a3) (hst : vl (NU S U) d (ctU S U) = st) (pv : PIv m1 S U P a1 a2 a3 d) (cont : ∀ m2, SvF m m2 a1 a2 a3 → (∀ d', okd (NU S U) d' (ctU S U) → st ≤ vl (NU S U) d' (ctU S U) → DPv m2 S U P a1 a2 a3 d') → (∀ d', okd (NU S U) d' (ctU S U) → vl (NU S U) d' (ctU S U) < st → (∀ k, k < ctU S U → d' k ≠ 0) → gI m2 a1 (vl (NU S U) d' (ctU S U)) = nI (mny S (Xd S U P d'))) → gI m2 52 3 = fsI S false (Ud U d) (Xd S U P d) → gI m2 52 5 = fsI S true (Ud U d) (Xd S U P d) → (0 < st → ∃ d', okd (NU S U) d' (ctU S U) ∧ vl (NU S U) d' (ctU S U) + 1 = st ∧ ∀ k, k < ctU S U → gI m2 57 k = nI (d' k)) → wX1_solve_L37 t 52 Q K n (nI st + (-1)) m2) : wX1_solve_L37 t 52 Q K (n + 1) (nI st) m1 := by
  have t8 := v.t8
  have c8 : ctU S U ≤ 8 := ctU_8 v
  have hc := v.cnt
  have ml := mny_le (S := S) (Xd S U P d)
  have len5 := pr.le
  have o1 := pr.o1
  have o2 := pr.o2
  have o3 := pr.o3
  have n12 := pr.n12
  have n13 := pr.n13
  have n23 := pr.n23
  have vlt := vl_lt pv.ok
  have sc := nI_cl (show st < 2 ^ 31 by omega)
  have vs : vp_in (nI st) len := vp_nI (by omega) (by omega)
  have pr1 := pr.fr f1.fr
  have L1 := L.fr f1.fr
  rw [wX1_solve_L37, pr1.r2, pr1.k2, pr1.l2, pr1.r3, pr1.k3, pr1.l3, sc]
  refine ⟨fun hh => absurd hh (nI_pos (by omega)), fun _ => ⟨lk52 L, rfl, vs, rfl, vs, ?_⟩⟩
  have T0 : TrF m1 (pI (pI (pI (pI m1 a2 st 0) a3 st 0) 52 3 (-2)) 52 5 (-2)) a2 a3 st := by
    refine ⟨Fr.pI (Fr.pI (Fr.pI (Fr.pI Fr.rf (by simp)) (by simp)) (by simp)) (by simp), fun j a b => ?_, fun i hi => ?_, fun i hi => ?_⟩
    · rw [gII, if_neg (fun q => b q.2), gII, if_neg (fun q => a q.2), gII, if_neg (by omega), gII, if_neg (by omega)]
    · rw [gII, if_neg (by omega), gII, if_neg (by omega), gII, if_neg (by omega), gII, if_neg (fun q => hi q.2)]
    · rw [gII, if_neg (by omega), gII, if_neg (by omega), gII, if_neg (fun q => hi q.2), gII, if_neg (by omega)]
  have x3 : gI (pI (pI (pI (pI m1 a2 st 0) a3 st 0) 52 3 (-2)) 52 5 (-2)) 52 3 = -2 := by rw [gII, if_neg (by decide), gII, if_pos ⟨rfl, rfl⟩]
  have x5 : gI (pI (pI (pI (pI m1 a2 st 0) a3 st 0) 52 3 (-2)) 52 5 (-2)) 52 5 = -2 := by rw [gII, if_pos ⟨rfl, rfl⟩]
  have xw : gI (pI (pI (pI (pI m1 a2 st 0) a3 st 0) 52 3 (-2)) 52 5 (-2)) a2 st = 0 := by rw [gII, if_neg (by omega), gII, if_neg (by omega), gII, if_neg (by omega), gII, if_pos ⟨rfl, rfl⟩]
  have xt : gI (pI (pI (pI (pI m1 a2 st 0) a3 st 0) 52 3 (-2)) 52 5 (-2)) a3 st = 0 := by rw [gII, if_neg (by omega), gII, if_neg (by omega), gII, if_pos ⟨rfl, rfl⟩]
  generalize pI (pI (pI (pI m1 a2 st 0) a3 st 0) 52 3 (-2)) 52 5 (-2) = m2 at T0 x3 x5 xw xt ⊢
  have oa : a1 ∉ [52, a2, a3] := by
    simp only [List.mem_cons, List.not_mem_nil, or_false]
    omega
  have oq : ∀ a, a < 58 → a ≠ 52 → a ∉ [52, a2, a3] := by
    intro a ha hb
    simp only [List.mem_cons, List.not_mem_nil, or_false]
    omega
  have oa1 : ∀ a, a ≠ a1 → a ∉ [a1] := by
    intro a ha
    simp only [List.mem_cons, List.not_mem_nil, or_false]
    exact ha
  have S2 : SvF m m2 a1 a2 a3 := f1.tr ⟨T0.fr.mono (by intro a ha; simp only [List.mem_cons, List.not_mem_nil, or_false] at ha ⊢; omega), T0.px⟩
  have o56 : ∀ a, a ∈ [53, 54, 55, 56] → a ∉ [52, 57, a1, a2, a3] := by
    intro a ha
    simp only [List.mem_cons, List.not_mem_nil, or_false] at ha ⊢
    omega
  have sk2 : SlK m2 S U (cT S) := sk.fr S2.fr (S2.px 6 (by decide) (by decide)) (S2.px 7 (by decide) (by decide)) o56
  have dg2 : ∀ k, k < ctU S U → gI m2 57 k = nI (d k) := fun k hk => (T0.fr.I (oq 57 (by decide) (by decide)) _).trans (pv.dg k hk)
  rw [← hst]
  refine sp_addUp (L.fr S2.fr) v hU (pr.fr S2.fr) sk2 hl pv.ok dg2 (fun d' ok' lt => (T0.fr.I oa _).trans (pv.up d' ok' lt).1) (fun hz => (T0.fr.I oa _).trans (pv.lo d pv.ok (Nat.le_refl _) hz)) (fun m3 f3 g3 g4 => ?_)
  rw [hst] at g3 g4 ⊢
  have S3 : SvF m m3 a1 a2 a3 := S2.tr ⟨f3.mono (by intro a ha; simp only [List.mem_cons, List.not_mem_nil, or_false] at ha ⊢; omega), fun j _ _ => f3.I (oa1 52 (by omega)) _⟩
  have pr3 := pr.fr S3.fr
  have L3 := L.fr S3.fr
  have sk3 : SlK m3 S U (cT S) := sk.fr S3.fr (S3.px 6 (by decide) (by decide)) (S3.px 7 (by decide) (by decide)) o56
  have e1 : nI (mny S (Xd S U P d)) ≤ 1 ↔ mny S (Xd S U P d) ≤ 1 := nI_leI (b := 1) (by omega) (by decide)
  have up3 : ∀ d', okd (NU S U) d' (ctU S U) → st < vl (NU S U) d' (ctU S U) → DPv m3 S U P a1 a2 a3 d' := by
    intro d' ok' lt
    have p := (pv.up d' ok' (by omega)).fr T0 pr1 (by omega)
    unfold DPv at p ⊢
    rw [g4 _ (by omega), f3.I (oa1 a2 (by omega)), f3.I (oa1 a3 (by omega))]
    exact p
  have lo3 : ∀ d', okd (NU S U) d' (ctU S U) → vl (NU S U) d' (ctU S U) < st → (∀ k, k < ctU S U → d' k ≠ 0) → gI m3 a1 (vl (NU S U) d' (ctU S U)) = nI (mny S (Xd S U P d')) := by
    intro d' ok' lt hz
    rw [g4 _ (by omega), T0.fr.I oa]
    exact pv.lo d' ok' (by omega) hz
  have dg3 : ∀ k, k < ctU S U → gI m3 57 k = nI (d k) := fun k hk => (f3.I (oa1 57 (by omega)) _).trans (dg2 k hk)
  rw [pr3.r1, pr3.k1, pr3.l1, g3, e1]
  -- the end of a state
  have fin : ∀ m4, TrF m3 m4 a2 a3 st → gI m4 a2 st = nI (FF S false (Ud U d) (Xd S U P d)) → gI m4 a3 st = nI (FF S true (Ud U d) (Xd S U P d)) → gI m4 52 3 = fsI S false (Ud U d) (Xd S U P d) → gI m4 52 5 = fsI S true (Ud U d) (Xd S U P d) → wX1_solve_J87 t m4 52 (nI st) Q (wX1_solve_L37 t 52 Q K n) := by
    intro m4 T4 h1 h2 h3 h4
    have S4 : SvF m m4 a1 a2 a3 := S3.tr ⟨T4.fr.mono (by intro a ha; simp only [List.mem_cons, List.not_mem_nil, or_false] at ha ⊢; omega), T4.px⟩
    have L4 := L.fr S4.fr
    have sk4 : SlK m4 S U (cT S) := sk.fr S4.fr (S4.px 6 (by decide) (by decide)) (S4.px 7 (by decide) (by decide)) o56
    have dg4 : ∀ k, k < ctU S U → gI m4 57 k = nI (d k) := fun k hk => (T4.fr.I (oq 57 (by decide) (by decide)) _).trans (dg3 k hk)
    have P4 : DPv m4 S U P a1 a2 a3 d := by
      unfold DPv
      rw [hst]
      exact ⟨(T4.fr.I oa _).trans g3, h1, h2⟩
    unfold wX1_solve_J87
    refine ⟨lk52 L, sp_countDown L4 v sk4 pv.ok dg4 (fun m5 f5 g5 => ?_)⟩
    rw [hst] at g5
    have o57 : ∀ a, a ≠ 57 → a ∉ [57] := by
      intro a ha
      simp only [List.mem_cons, List.not_mem_nil, or_false]
      exact ha
    have S5 : SvF m m5 a1 a2 a3 := S4.tr ⟨f5.mono (by intro a ha; simp only [List.mem_cons, List.not_mem_nil, or_false] at ha ⊢; omega), fun j _ _ => f5.I (by decide) _⟩
    refine cont m5 S5 (fun d' ok' ge => ?_) (fun d' ok' lt hz => ?_) ((f5.I (by decide) _).trans h3) ((f5.I (by decide) _).trans h4) g5
    · have p4 : DPv m4 S U P a1 a2 a3 d' := by
        rcases (show vl (NU S U) d' (ctU S U) = st ∨ st < vl (NU S U) d' (ctU S U) by omega) with z | z
        · exact DPv_cong hU (vl_inj pv.ok ok' (by omega)) P4
        · exact (up3 d' ok' z).fr T4 pr3 (by omega)
      unfold DPv at p4 ⊢
      rw [f5.I (o57 a1 (by omega)), f5.I (o57 a2 (by omega)), f5.I (o57 a3 (by omega))]
      exact p4
    · rw [f5.I (o57 a1 (by omega)), T4.fr.I oa]
      exact lo3 d' ok' lt hz
  refine ⟨rfl, vs, fun hle => fin m3 ⟨Fr.rf, fun _ _ _ => rfl, fun _ _ => rfl, fun _ _ => rfl⟩ ?_ ?_ ?_ ?_, fun hle => sp_choose L3 v hs htr hU pr3 sk3 hl pv.ok dg3 hst (by omega) g3 up3 ?_ ?_ (fun m4 T4 h1 h2 h3 h4 => fin m4 T4 h1 h2 h3 h4)⟩
  · rw [FF_0 (by omega)]; exact (f3.I (oa1 a2 (by omega)) _).trans xw
  · rw [FF_0 (by omega)]; exact (f3.I (oa1 a3 (by omega)) _).trans xt
  · rw [fsI, if_pos (by omega)]; exact (f3.I (oa1 52 (by omega)) _).trans x3
  · rw [fsI, if_pos (by omega)]; exact (f3.I (oa1 52 (by omega)) _).trans x5
  · exact (f3.I (oa1 52 (by omega)) _).trans x3
  · exact (f3.I (oa1 52 (by omega)) _).trans x5
theorem sp_solve_L (L : Lay t m) (v : Vs S) (hs : sep S U P) (htr : trU S U) (hU : ∀ t, U t = true → t < cT S) (pr : PR t m a1 a2 a3 len) (sk : SlK m S U (cT S)) (hl : pl (NU S U) (ctU S U) ≤ len) {Q : zM → Prop} {K : zM → Prop} (hK : ∀ m', SvF m m' a1 a2 a3 → gI m' a2 0 = nI (FF S false U P) → gI m' a3 0 = nI (FF S true U P) → gI m' 52 3 = fsI S false U P → gI m' 52 5 = fsI S true U P → K m') : ∀ (st : Nat) (m1 : zM) (d : Nat → Nat), SvF m m1 a1 a2 a3 → vl (NU S U) d (ctU S U) = st → PIv m1 S U P a1 a2 a3 d → wX1_solve_L37 t 52 Q K (st + 2) (nI st) m1 := by
  intro st
  induction st with
  | zero =>
    intro m1 d f1 hst pv
    refine sp_solve_step L v hs htr hU pr sk hl f1 hst pv (fun m2 f2 up lo h3 h5 _ => ?_)
    have dz := vl_zero pv.ok v hst
    have e1 := Xd_zero (P := P) dz
    have e2 := Ud_zero hU dz
    have p := up d pv.ok (by omega)
    unfold DPv at p
    rw [hst, e1, e2] at p
    rw [e1, e2] at h3 h5
    rw [wX1_solve_L37]
    exact ⟨fun _ => hK m2 f2 p.2.1 p.2.2 h3 h5, fun h => absurd (by decide) h⟩
  | succ st ih =>
    intro m1 d f1 hst pv
    refine sp_solve_step L v hs htr hU pr sk hl f1 hst pv (fun m2 f2 up lo h3 h5 dn => ?_)
    obtain ⟨d', ok', e', dg'⟩ := dn (by omega)
    rw [pk_m1]
    refine ih m2 d' f2 (by omega) ⟨ok', dg', fun d2 ok2 lt => up d2 ok2 (by omega), fun d2 ok2 le hz => lo d2 ok2 (by omega) hz⟩
theorem sp_solve (L : Lay t m) (v : Vs S) (hs : sep S U P) (htr : trU S U) (hU : ∀ t, U t = true → t < cT S) (pr : PR t m a1 a2 a3 len) (sk : SlK m S U (cT S)) (hl : pl (NU S U) (ctU S U) ≤ len) (hh : ∀ i, i < pl (NU S U) (ctU S U) → gI m a1 i = nI (hcn S U P i)) {Q : zM → Prop} (hQ : ∀ m', Fr [52, 57, a1, a2, a3] m m' → (∀ j, j ≠ 2 → j ≠ 3 → j ≠ 4 → j ≠ 5 → gI m' 52 j = gI m 52 j) → gI m' 52 2 = nI (FF S false U P) → gI m' 52 3 = fsI S false U P → gI m' 52 4 = nI (FF S true U P) → gI m' 52 5 = fsI S true U P → Q m') : wX1_solve t m 52 Q := by
  have c8 : ctU S U ≤ 8 := ctU_8 v
  have len5 := pr.le
  have o1 := pr.o1
  have o2 := pr.o2
  have o3 := pr.o3
  have esl : gI m 52 6 = nI (ctU S U) := sk.sl
  have est : gI m 52 7 = nI (pl (NU S U) (ctU S U)) := sk.st
  have Npos : ∀ k, k < ctU S U → 0 < NU S U k := fun k hk => by have := NU_k (U := U) v hk; omega
  have pp := pl_pos (N := NU S U) (n := ctU S U) Npos
  have mx := sm_max (N := NU S U) (ctU S U) Npos
  unfold wX1_solve
  refine ⟨ctU S U + 1, ?_⟩
  have key : ∀ K : zM → Prop, (∀ m1, Fr [57] m m1 → (∀ k, k < ctU S U → gI m1 57 k = nI (NU S U k - 1)) → K m1) → ∀ dd k : Nat, k + dd = ctU S U → ∀ m1, Fr [57] m m1 → (∀ j, j < k → gI m1 57 j = nI (NU S U j - 1)) → ∀ z : Int32, z = nI k → wX1_solve_L2 t 52 Q K (dd + 1) z m1 := by
    intro K hK dd
    induction dd with
    | zero =>
      intro k hk m1 f1 g1 z hz
      have e : k = ctU S U := by omega
      subst e
      rw [hz, wX1_solve_L2, f1.I (by decide), esl]
      exact ⟨lk52 L, fun _ => hK m1 f1 g1, fun hh => absurd (nI_le (Nat.le_refl _) (by omega)) hh⟩
    | succ dd ih =>
      intro k hk m1 f1 g1 z hz
      have kl : k < ctU S U := by omega
      have L1 := L.fr f1
      have np := Npos k kl
      have e55 : gI m1 55 k = nI (NU S U k) := (f1.I (by decide) _).trans (sk.th k kl).2.2.1
      have vk : vp_in (nI k) 8 := vp_nI (by omega) (by decide)
      rw [hz, wX1_solve_L2, f1.I (by decide), esl, lr52_10 L1, lr52_12 L1, lk55 L, ll55 L, lk57 L, ll57 L, nI_cl (show k < 2 ^ 31 by omega), e55, show (1 : Int32) = nI 1 from rfl, pk_sub (show 1 ≤ NU S U k by omega)]
      refine ⟨lk52 L, fun hh => absurd hh (nI_ge (by omega) (by omega)), fun _ => ⟨rfl, vk, rfl, vk, ih (k + 1) (by omega) _ (Fr.pI f1 (by decide)) (fun j hj => ?_) _ (nI_1 k)⟩⟩
      by_cases z : j = k
      · subst z; rw [gII, if_pos ⟨rfl, rfl⟩]
      · rw [gII, if_neg (fun q => z q.2)]; exact g1 j (by omega)
  refine key _ (fun m1 f1 g1 => ?_) (ctU S U) 0 (by omega) m Fr.rf (fun j hj => absurd hj (by omega)) 0 rfl
  have e7 : gI m1 52 7 = nI (pl (NU S U) (ctU S U)) := (f1.I (by decide) _).trans est
  rw [e7, show (1 : Int32) = nI 1 from rfl, pk_sub (by omega)]
  refine ⟨lk52 L, fun x9 h9 => ⟨pl (NU S U) (ctU S U) - 1 + 2, ?_⟩⟩
  rw [h9]
  have okm : okd (NU S U) (fun k => NU S U k - 1) (ctU S U) := fun k hk => by
    have := Npos k hk
    show NU S U k - 1 < NU S U k
    omega
  have evm : vl (NU S U) (fun k => NU S U k - 1) (ctU S U) = pl (NU S U) (ctU S U) - 1 := by
    have : vl (NU S U) (fun k => NU S U k - 1) (ctU S U) = fb_sm (fun j => (NU S U j - 1) * pl (NU S U) j) (ctU S U) := rfl
    omega
  have S1 : SvF m m1 a1 a2 a3 := ⟨f1.mono (by intro a ha; simp only [List.mem_cons, List.not_mem_nil, or_false] at ha ⊢; omega), fun j _ _ => f1.I (by decide) _⟩
  have oa : a1 ∉ [57] := by
    simp only [List.mem_cons, List.not_mem_nil, or_false]
    omega
  refine sp_solve_L L v hs htr hU pr sk hl (fun m2 f2 h1 h2 h3 h4 => ?_) (pl (NU S U) (ctU S U) - 1) m1 _ S1 evm ⟨okm, g1, fun d' ok' lt => ?_, fun d' ok' le hz => ?_⟩
  · have pr2 := pr.fr f2.fr
    have c0 : (0 : Int32).toNatClampNeg = 0 := by decide
    rw [pr2.r2, pr2.k2, pr2.l2, pr2.r3, pr2.k3, pr2.l3, c0, h1]
    have v0 : vp_in 0 len := vp_nI (n := 0) (by omega) (by omega)
    have e3 : gI (pI m2 52 2 (nI (FF S false U P))) a3 0 = nI (FF S true U P) := by rw [gII, if_neg (by omega)]; exact h2
    rw [e3]
    refine ⟨rfl, v0, rfl, v0, hQ _ (Fr.pI (Fr.pI f2.fr (by simp)) (by simp)) (fun j a b c d => ?_) ?_ ?_ ?_ ?_⟩
    · rw [gII, if_neg (fun q => c q.2), gII, if_neg (fun q => a q.2)]; exact f2.px j b d
    · rw [gII, if_neg (by decide), gII, if_pos ⟨rfl, rfl⟩]
    · rw [gII, if_neg (by decide), gII, if_neg (by decide)]; exact h3
    · rw [gII, if_pos ⟨rfl, rfl⟩]
    · rw [gII, if_neg (by decide), gII, if_neg (by decide)]; exact h4
  · have := vl_lt ok'
    omega
  · rw [f1.I oa, hh _ (vl_lt ok'), Xd_last v ok' hz]
end
