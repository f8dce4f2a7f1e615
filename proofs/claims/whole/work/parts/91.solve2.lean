/-! Plans: the best trial of a state -/
/-- what a trial of a state leaves -/
def TrF (m : zM) (m' : zM) (a2 : Nat) (a3 : Nat) (st : Nat) : Prop := (Fr [52, a2, a3] m m') ∧ (∀ j, j ≠ 3 → j ≠ 5 → gI m' 52 j = gI m 52 j) ∧ (∀ i, i ≠ st → gI m' a2 i = gI m a2 i) ∧ (∀ i, i ≠ st → gI m' a3 i = gI m a3 i)
theorem TrF.fr {m : zM} {m' : zM} {a2 : Nat} {a3 : Nat} {st : Nat} (h_ : TrF m m' a2 a3 st) : Fr [52, a2, a3] m m' := h_.1
theorem TrF.px {m : zM} {m' : zM} {a2 : Nat} {a3 : Nat} {st : Nat} (h_ : TrF m m' a2 a3 st) : ∀ j, j ≠ 3 → j ≠ 5 → gI m' 52 j = gI m 52 j := h_.2.1
theorem TrF.qw {m : zM} {m' : zM} {a2 : Nat} {a3 : Nat} {st : Nat} (h_ : TrF m m' a2 a3 st) : ∀ i, i ≠ st → gI m' a2 i = gI m a2 i := h_.2.2.1
theorem TrF.qt {m : zM} {m' : zM} {a2 : Nat} {a3 : Nat} {st : Nat} (h_ : TrF m m' a2 a3 st) : ∀ i, i ≠ st → gI m' a3 i = gI m a3 i := h_.2.2.2
section
variable {t : zT} {m m' m1 m2 : zM} {s u r : Nat} {S : Sc} {P P' : Nat → Bool} {x x2 x3 : Int32} {Tl : List Nat} {U D : Nat → Bool} {a1 a2 a3 len : Nat} {d d' : Nat → Nat} {mn : Bool}
theorem bst_step {k val : Nat} {th : Int32} (h : bst S U P mn d k val th) (h0 : d k = 0) (hg : gcs S mn (Xd S U P d) (thU U k) (nxF S mn (Ud U d) (Xd S U P d) (thU U k)) < 1000000000) : bst S U P mn d (k + 1) (if gcs S mn (Xd S U P d) (thU U k) (nxF S mn (Ud U d) (Xd S U P d) (thU U k)) < val then gcs S mn (Xd S U P d) (thU U k) (nxF S mn (Ud U d) (Xd S U P d) (thU U k)) else val) (if gcs S mn (Xd S U P d) (thU U k) (nxF S mn (Ud U d) (Xd S U P d) (thU U k)) < val then nI (thU U k) else th) := by
  rcases h with ⟨q1, q2, q3⟩ | ⟨j, j1, j2, j3, j4, j5, j6⟩
  · rw [q1, if_pos hg, if_pos hg]
    refine Or.inr ⟨k, by omega, h0, rfl, rfl, fun i hi hi0 => ?_, fun i hi hi0 => absurd hi0 (q3 i hi)⟩
    rcases (show i < k ∨ i = k by omega) with z | z
    · exact absurd hi0 (q3 i z)
    · rw [z]; exact Nat.le_refl _
  · by_cases z : gcs S mn (Xd S U P d) (thU U k) (nxF S mn (Ud U d) (Xd S U P d) (thU U k)) < val
    · rw [if_pos z, if_pos z]
      refine Or.inr ⟨k, by omega, h0, rfl, rfl, fun i hi hi0 => ?_, fun i hi hi0 => ?_⟩
      · rcases (show i < k ∨ i = k by omega) with q | q
        · have := j5 i q hi0; omega
        · rw [q]; exact Nat.le_refl _
      · have := j5 i hi hi0; omega
    · rw [if_neg z, if_neg z]
      refine Or.inr ⟨j, by omega, j2, j3, j4, fun i hi hi0 => ?_, j6⟩
      rcases (show i < k ∨ i = k by omega) with q | q
      · exact j5 i q hi0
      · rw [q]; omega
theorem bst_skip {k val : Nat} {th : Int32} (h : bst S U P mn d k val th) (h0 : d k ≠ 0) : bst S U P mn d (k + 1) val th := by
  rcases h with ⟨q1, q2, q3⟩ | ⟨j, j1, j2, j3, j4, j5, j6⟩
  · refine Or.inl ⟨q1, q2, fun j hj => ?_⟩
    rcases (show j < k ∨ j = k by omega) with z | z
    · exact q3 j z
    · rw [z]; exact h0
  · refine Or.inr ⟨j, by omega, j2, j3, j4, fun i hi hi0 => ?_, j6⟩
    rcases (show i < k ∨ i = k by omega) with q | q
    · exact j5 i q hi0
    · rw [q] at hi0; exact absurd hi0 h0
theorem bst_end (v : Vs S) (hs : sep S U P) (htr : trU S U) (hx : 2 ≤ mny S (Xd S U P d)) {val : Nat} {th : Int32} (h : bst S U P mn d (ctU S U) val th) : val = FF S mn (Ud U d) (Xd S U P d) ∧ th = fsI S mn (Ud U d) (Xd S U P d) := by
  have t8 := v.t8
  have hs' := sep_Xd (d := d) v hs
  have htr' := trU_Ud (d := d) htr
  obtain ⟨t, t1, t2, t3⟩ := FF_ex (mn := mn) v hs' hx
  obtain ⟨u1, u2⟩ := Ud_t.mp t2
  have il := idx_lt t1 u1
  have et := thU_of (show t < 8 by omega) u1
  have opn : ∀ i, i < ctU S U → d i = 0 → thU U i < cT S ∧ Ud U d (thU U i) = true := fun i hi h0 => by
    obtain ⟨q1, q2, q3⟩ := thU_k t8 hi
    exact ⟨q1, Ud_t.mpr ⟨q2, by rw [q3]; exact h0⟩⟩
  rcases h with ⟨q1, q2, q3⟩ | ⟨j, j1, j2, j3, j4, j5, j6⟩
  · exact absurd u2 (q3 _ il)
  · obtain ⟨o1, o2⟩ := opn j j1 j2
    have mj := FF_M (mn := mn) v hs' htr' hx o1 o2
    have mt := FF_M (mn := mn) v hs' htr' hx t1 t2
    have gt := mt.2.mpr t3
    have le := j5 _ il u2
    rw [et, gt] at le
    have ev : val = FF S mn (Ud U d) (Xd S U P d) := by have := mj.1; omega
    refine ⟨ev, ?_⟩
    rw [j4, fsI, if_neg (by omega)]
    refine congrArg nI ?_
    have fj := mj.2.mp (by rw [← j3, ev])
    have yes : (fun t => Ud U d t && (fcs S mn (Xd S U P d) t (nxF S mn (Ud U d) (Xd S U P d) t) == FF S mn (Ud U d) (Xd S U P d))) (thU U j) = true := by
      show (Ud U d (thU U j) && (fcs S mn (Xd S U P d) (thU U j) (nxF S mn (Ud U d) (Xd S U P d) (thU U j)) == FF S mn (Ud U d) (Xd S U P d))) = true
      rw [o2, fj]; simp
    have lef := fa_first_le (fun t => Ud U d t && (fcs S mn (Xd S U P d) t (nxF S mn (Ud U d) (Xd S U P d) t) == FF S mn (Ud U d) (Xd S U P d))) (cT S)
    rcases Nat.lt_trichotomy (thU U j) (fa_first (fun t => Ud U d t && (fcs S mn (Xd S U P d) t (nxF S mn (Ud U d) (Xd S U P d) t) == FF S mn (Ud U d) (Xd S U P d))) (cT S)) with z | z | z
    · have := fa_first_no _ (cT S) _ z
      exact absurd (yes.symm.trans this) (by decide)
    · exact z
    · have y := fa_first_yes (fun t => Ud U d t && (fcs S mn (Xd S U P d) t (nxF S mn (Ud U d) (Xd S U P d) t) == FF S mn (Ud U d) (Xd S U P d))) (cT S) (by omega)
      generalize fa_first (fun t => Ud U d t && (fcs S mn (Xd S U P d) t (nxF S mn (Ud U d) (Xd S U P d) t) == FF S mn (Ud U d) (Xd S U P d))) (cT S) = q at y z
      have y : Ud U d q = true ∧ fcs S mn (Xd S U P d) q (nxF S mn (Ud U d) (Xd S U P d) q) = FF S mn (Ud U d) (Xd S U P d) := by
        simpa [Bool.and_eq_true, beq_iff_eq] using y
      obtain ⟨y1, y2⟩ := y
      obtain ⟨z1, z2⟩ := Ud_t.mp y1
      have eq := thU_of (show q < 8 by omega) z1
      have qc : q < cT S := by omega
      have iq := idx_lt qc z1
      have lt : fb_ct U q < j := by
        rcases Nat.lt_or_ge (fb_ct U q) j with w | w
        · exact w
        · rcases (show fb_ct U q = j ∨ j < fb_ct U q by omega) with w2 | w2
          · rw [w2] at eq; omega
          · have := thU_lt (U := U) t8 (show fb_ct U q < fb_ct U (cT S) from iq) w2
            rw [eq] at this; omega
      have := j6 _ lt z2
      rw [eq] at this
      have g := (FF_M (mn := mn) v hs' htr' hx qc y1).2.mpr y2
      omega
theorem TrF.tr {st : Nat} (h1 : TrF m m1 a2 a3 st) (h2 : TrF m1 m2 a2 a3 st) : TrF m m2 a2 a3 st := ⟨h1.fr.tr h2.fr, fun j a b => (h2.px j a b).trans (h1.px j a b), fun i hi => (h2.qw i hi).trans (h1.qw i hi), fun i hi => (h2.qt i hi).trans (h1.qt i hi)⟩
theorem cmb_b {f : Nat → Nat} {b : Nat} : ∀ n, (∀ a, a < n → f a ≤ b) → cmb mn f n ≤ n * b := by
  intro n h
  exact Nat.le_trans (cmb_le n) (fb_sm_bound h)
theorem try_raw (L : Lay t m) (pr : PR t m a1 a2 a3 len) {k A C H q pk st vw vt : Nat} {f0 f1 : Nat → Nat} (k8 : k < 8) (e53 : gI m 53 k = nI q) (e54 : gI m 54 k = nI C) (e55 : gI m 55 k = nI (A + 1)) (e56 : gI m 56 k = nI pk) (A4 : A ≤ 4) (C99 : C ≤ 99) (hH : gI m a1 st = nI H) (H4 : H ≤ 4096) (hst : st < len) (hch : ∀ a, a < A → st + (a + 1) * pk < len ∧ gI m a2 (st + (a + 1) * pk) = nI (f0 a) ∧ gI m a3 (st + (a + 1) * pk) = nI (f1 a)) (b0 : ∀ a, a < A → f0 a ≤ 3244032) (b1 : ∀ a, a < A → f1 a ≤ 3244032) (hw : gI m a2 st = nI vw) (ht : gI m a3 st = nI vt) (lw : vw ≤ 1000000000) (lt : vt ≤ 1000000000) {Q : zM → Prop} (hQ : ∀ m', TrF m m' a2 a3 st → gI m' a2 st = nI (if C + cmb false f0 A < vw then C + cmb false f0 A else vw) → gI m' 52 3 = (if C + cmb false f0 A < vw then nI q else gI m 52 3) → gI m' a3 st = nI (if C * H + cmb true f1 A < vt then C * H + cmb true f1 A else vt) → gI m' 52 5 = (if C * H + cmb true f1 A < vt then nI q else gI m 52 5) → Q m') : wX1_tryFirst t m 52 (nI st) (nI k) Q := by
  have len5 := pr.le
  have o1 := pr.o1
  have o2 := pr.o2
  have o3 := pr.o3
  have n12 := pr.n12
  have n13 := pr.n13
  have n23 := pr.n23
  have vk : vp_in (nI k) 8 := vp_nI (by omega) (by decide)
  have kc := nI_cl (show k < 2 ^ 31 by omega)
  have sc := nI_cl (show st < 2 ^ 31 by omega)
  have vs : vp_in (nI st) len := vp_nI hst (by omega)
  have bf : ∀ n, n ≤ A → cmb false f0 n ≤ 12976128 := fun n hn => by
    have := cmb_b (mn := false) (f := f0) n (fun a ha => b0 a (by omega))
    have : n * 3244032 ≤ 4 * 3244032 := Nat.mul_le_mul_right _ (by omega)
    omega
  have bt : ∀ n, n ≤ A → cmb true f1 n ≤ 12976128 := fun n hn => by
    have := cmb_b (mn := true) (f := f1) n (fun a ha => b1 a (by omega))
    have : n * 3244032 ≤ 4 * 3244032 := Nat.mul_le_mul_right _ (by omega)
    omega
  have cf := bf A (Nat.le_refl _)
  have ct := bt A (Nat.le_refl _)
  have ch : C * H ≤ 99 * 4096 := Nat.mul_le_mul C99 H4
  -- the second half
  have half : ∀ m1, TrF m m1 a2 a3 st → gI m1 a2 st = nI (if C + cmb false f0 A < vw then C + cmb false f0 A else vw) → gI m1 52 3 = (if C + cmb false f0 A < vw then nI q else gI m 52 3) → gI m1 a3 st = nI vt → gI m1 52 5 = gI m 52 5 → wX1_tryFirst_J103 t m1 52 (nI st) (nI k) (nI (cmb true f1 A)) Q := by
    intro m1 h1 g1 g2 g3 g4
    have L1 := L.fr h1.fr
    have pr1 := pr.fr h1.fr
    have o54 : ∀ a, a < 58 → a ≠ 52 → a ∉ [52, a2, a3] := by
      intro a ha hb
      simp only [List.mem_cons, List.not_mem_nil, or_false]
      omega
    have oa : a1 ∉ [52, a2, a3] := by
      simp only [List.mem_cons, List.not_mem_nil, or_false]
      omega
    have e54' : gI m1 54 k = nI C := (h1.fr.I (o54 54 (by decide) (by decide)) _).trans e54
    have e53' : gI m1 53 k = nI q := (h1.fr.I (o54 53 (by decide) (by decide)) _).trans e53
    have eh : gI m1 a1 st = nI H := (h1.fr.I oa _).trans hH
    unfold wX1_tryFirst_J103
    rw [lr52_9 L1, lk54 L, ll54 L, kc, e54', pr1.r1, pr1.k1, pr1.l1, sc, eh, pr1.r3, pr1.k3, pr1.l3, g3, pk_mul, nI_add, nI_leI (by omega) (by omega), lr52_8 L1, lk53 L, ll53 L]
    refine ⟨lk52 L, rfl, vk, rfl, vs, rfl, vs, fun hle => hQ m1 h1 g1 g2 ?_ ?_, fun hle => ⟨rfl, vk, ?_⟩⟩
    · rw [g3, if_neg (by omega)]
    · rw [g4, if_neg (by omega)]
    · have e53'' : gI (pI m1 a3 st (nI (C * H + cmb true f1 A))) 53 k = nI q := by rw [gII, if_neg (by omega)]; exact e53'
      rw [e53'']
      refine hQ _ ⟨Fr.pI (Fr.pI h1.fr (by simp)) (by simp), fun j a b => ?_, fun i hi => ?_, fun i hi => ?_⟩ ?_ ?_ ?_ ?_
      · rw [gII, if_neg (fun z => b z.2), gII, if_neg (by omega)]; exact h1.px j a b
      · rw [gII, if_neg (by omega), gII, if_neg (by omega)]; exact h1.qw i hi
      · rw [gII, if_neg (by omega), gII, if_neg (fun z => hi z.2)]; exact h1.qt i hi
      · rw [gII, if_neg (by omega), gII, if_neg (by omega)]; exact g1
      · rw [gII, if_neg (by decide), gII, if_neg (by omega)]; exact g2
      · rw [gII, if_neg (by omega), gII, if_pos ⟨rfl, rfl⟩, if_pos (by omega)]
      · rw [gII, if_pos ⟨rfl, rfl⟩, if_pos (by omega)]
  unfold wX1_tryFirst
  refine ⟨A + 1, ?_⟩
  have key : ∀ K : Int32 → Int32 → zM → Prop, K (nI (cmb false f0 A)) (nI (cmb true f1 A)) m → ∀ d2 a : Nat, a + d2 = A → ∀ w3 w4 w5 : Int32, w3 = nI (cmb false f0 a) → w4 = nI (cmb true f1 a) → w5 = nI (a + 1) → wX1_tryFirst_L8 t 52 (nI st) (nI k) Q K (d2 + 1) w3 w4 w5 m := by
    intro K hK
    intro d2
    induction d2 with
    | zero =>
      intro a ha w3 w4 w5 h3 h4 h5
      have e : a = A := by omega
      subst e
      rw [h3, h4, h5, wX1_tryFirst_L8, lr52_10 L, lk55 L, ll55 L, kc, e55]
      exact ⟨lk52 L, rfl, vk, fun _ => hK, fun hh => absurd (nI_le (Nat.le_refl _) (by omega)) hh⟩
    | succ d2 ih2 =>
      intro a ha w3 w4 w5 h3 h4 h5
      have al : a < A := by omega
      obtain ⟨u0, u1, u2⟩ := hch a al
      have x1 := b0 a al
      have x2 := bf a (by omega)
      rw [h3, h4, h5, wX1_tryFirst_L8, lr52_10 L, lk55 L, ll55 L, kc, e55, lr52_11 L, lk56 L, ll56 L, e56, pr.r2, pr.k2, pr.l2, pr.r3, pr.k3, pr.l3, pk_mul, nI_add]
      refine ⟨lk52 L, rfl, vk, fun hh => absurd hh (nI_ge (by omega) (by omega)), fun _ => ⟨rfl, vk, fun x7 h7 => ?_⟩⟩
      rw [h7, nI_cl (show st + (a + 1) * pk < 2 ^ 31 by omega), u1, u2]
      have vch : vp_in (nI (st + (a + 1) * pk)) len := vp_nI (by omega) (by omega)
      refine ⟨rfl, vch, fun x10 h10 => ⟨rfl, vch, fun x13 h13 => ih2 (a + 1) (by omega) x10 x13 (nI (a + 1) + 1) ?_ ?_ (nI_1 (a + 1))⟩⟩
      · rw [h10, cmb]
        simp only [Bool.false_eq_true, if_false]
        by_cases z : cmb false f0 a < f0 a
        · rw [if_pos z, if_pos (nI_lt z (by omega))]
        · rw [if_neg z, if_neg (nI_nlt (by omega) (by omega))]
      · rw [h13, nI_add, cmb]
        simp only [if_true]
  refine key _ ?_ A 0 (by omega) 0 0 1 rfl rfl rfl
  rw [kc, sc, lr52_9 L, lk54 L, ll54 L, e54, pr.r2, pr.k2, pr.l2, hw, nI_add, lr52_8 L, lk53 L, ll53 L, nI_leI (by omega) (by omega)]
  refine ⟨lk52 L, rfl, vk, rfl, vs, fun hle => half m ⟨Fr.rf, fun _ _ _ => rfl, fun _ _ => rfl, fun _ _ => rfl⟩ ?_ ?_ ht rfl, fun hle => ⟨rfl, vk, ?_⟩⟩
  · rw [hw, if_neg (by omega)]
  · rw [if_neg (by omega)]
  · have e53' : gI (pI m a2 st (nI (C + cmb false f0 A))) 53 k = nI q := by rw [gII, if_neg (by omega)]; exact e53
    rw [e53']
    refine half _ ⟨Fr.pI (Fr.pI Fr.rf (by simp)) (by simp), fun j a b => ?_, fun i hi => ?_, fun i hi => ?_⟩ ?_ ?_ ?_ ?_
    · rw [gII, if_neg (fun z => a z.2), gII, if_neg (by omega)]
    · rw [gII, if_neg (by omega), gII, if_neg (fun z => hi z.2)]
    · rw [gII, if_neg (by omega), gII, if_neg (by omega)]
    · rw [gII, if_neg (by omega), gII, if_pos ⟨rfl, rfl⟩, if_pos (by omega)]
    · rw [gII, if_pos ⟨rfl, rfl⟩, if_pos (by omega)]
    · rw [gII, if_neg (by omega), gII, if_neg (by omega)]; exact ht
    · rw [gII, if_neg (by decide), gII, if_neg (by omega)]
theorem gcs_f {X : Nat → Bool} {k : Nat} {f : Nat → Nat} : cC S k + cmb false f (cA S k) = gcs S false X k f := by
  unfold gcs wgm
  rw [if_neg (by decide), Nat.mul_one]
theorem gcs_t {X : Nat → Bool} {k : Nat} {f : Nat → Nat} : cC S k * mny S X + cmb true f (cA S k) = gcs S true X k f := by
  unfold gcs wgm
  rw [if_pos rfl]
theorem sp_tryFirst (L : Lay t m) (v : Vs S) (hs : sep S U P) (hU : ∀ t, U t = true → t < cT S) (pr : PR t m a1 a2 a3 len) (sk : SlK m S U (cT S)) (hl : pl (NU S U) (ctU S U) ≤ len) (hd : okd (NU S U) d (ctU S U)) {k : Nat} (hk : k < ctU S U) (h0 : d k = 0) {st : Nat} (hst : vl (NU S U) d (ctU S U) = st) (hh : gI m a1 st = nI (mny S (Xd S U P d))) (up : ∀ d', okd (NU S U) d' (ctU S U) → st < vl (NU S U) d' (ctU S U) → DPv m S U P a1 a2 a3 d') {vw vt : Nat} (hw : gI m a2 st = nI vw) (ht : gI m a3 st = nI vt) (lw : vw ≤ 1000000000) (lt : vt ≤ 1000000000) {Q : zM → Prop} (hQ : ∀ m', TrF m m' a2 a3 st → gI m' a2 st = nI (if gcs S false (Xd S U P d) (thU U k) (nxF S false (Ud U d) (Xd S U P d) (thU U k)) < vw then gcs S false (Xd S U P d) (thU U k) (nxF S false (Ud U d) (Xd S U P d) (thU U k)) else vw) → gI m' 52 3 = (if gcs S false (Xd S U P d) (thU U k) (nxF S false (Ud U d) (Xd S U P d) (thU U k)) < vw then nI (thU U k) else gI m 52 3) → gI m' a3 st = nI (if gcs S true (Xd S U P d) (thU U k) (nxF S true (Ud U d) (Xd S U P d) (thU U k)) < vt then gcs S true (Xd S U P d) (thU U k) (nxF S true (Ud U d) (Xd S U P d) (thU U k)) else vt) → gI m' 52 5 = (if gcs S true (Xd S U P d) (thU U k) (nxF S true (Ud U d) (Xd S U P d) (thU U k)) < vt then nI (thU U k) else gI m 52 5) → Q m') : wX1_tryFirst t m 52 (nI st) (nI k) Q := by
  have t8 := v.t8
  have c8 : ctU S U ≤ 8 := ctU_8 v
  obtain ⟨q1, q2, q3⟩ := thU_k t8 hk
  obtain ⟨e1, e2, e3, e4⟩ := sk.th k hk
  have av := v.a2 _ q1
  have hc := v.cnt
  have ml := mny_le (S := S) (Xd S U P d)
  have vlt := vl_lt hd
  have nb : ∀ mn a, nxF S mn (Ud U d) (Xd S U P d) (thU U k) a ≤ 3244032 := fun mn a => by
    rw [nx_up v hU hk h0]; exact FF_fin2 v (sep_Xd v hs)
  refine try_raw (A := cA S (thU U k)) (C := cC S (thU U k)) (H := mny S (Xd S U P d)) (q := thU U k) (pk := pl (NU S U) k) (f0 := nxF S false (Ud U d) (Xd S U P d) (thU U k)) (f1 := nxF S true (Ud U d) (Xd S U P d) (thU U k)) L pr (by omega) e1 e2 e3 e4 av.2 (v.c99 _ (by omega)) hh (by omega) (by omega) (fun a ha => ?_) (fun a _ => nb false a) (fun a _ => nb true a) hw ht lw lt (fun m' f g1 g2 g3 g4 => ?_)
  · have ok' : okd (NU S U) (upF d k (a + 1)) (ctU S U) := okd_up hd (by unfold NU; omega)
    have ev := vl_ch hd (a := a + 1) hk h0
    rw [hst] at ev
    have vlt' := vl_lt ok'
    have pp := pl_pos (N := NU S U) (n := k) (fun j hj => by have := NU_k (U := U) v (show j < ctU S U by omega); omega)
    have l1 : 1 * 1 ≤ (a + 1) * pl (NU S U) k := Nat.mul_le_mul (by omega) pp
    obtain ⟨_, u1, u2⟩ := up _ ok' (by omega)
    rw [← nx_up v hU hk h0, ev] at u1 u2
    exact ⟨by omega, u1, u2⟩
  · rw [gcs_f (X := Xd S U P d)] at g1 g2
    rw [gcs_t (X := Xd S U P d)] at g3 g4
    exact hQ m' f g1 g2 g3 g4
end
