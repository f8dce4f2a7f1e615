/-! Plans: the states, from the last to the first -/
def Xd (S : Sc) (U P : Nat → Bool) (d : Nat → Nat) (w : Nat) : Bool := P w && (List.range (ctU S U)).all (fun k => (d k == 0) || (d k == ans S w (thU U k) + 1))
def Ud (U : Nat → Bool) (d : Nat → Nat) (t : Nat) : Bool := U t && (d (fb_ct U t) == 0)
/-- a state is reckoned -/
def DPv (m : zM) (S : Sc) (U P : Nat → Bool) (a1 a2 a3 : Nat) (d : Nat → Nat) : Prop := gI m a1 (vl (NU S U) d (ctU S U)) = nI (mny S (Xd S U P d)) ∧ gI m a2 (vl (NU S U) d (ctU S U)) = nI (FF S false (Ud U d) (Xd S U P d)) ∧ gI m a3 (vl (NU S U) d (ctU S U)) = nI (FF S true (Ud U d) (Xd S U P d))
/-- the least of the trials of the first k, and what is tried -/
def bst (S : Sc) (U P : Nat → Bool) (mn : Bool) (d : Nat → Nat) (k val : Nat) (th : Int32) : Prop := (val = 1000000000 ∧ th = -2 ∧ ∀ j, j < k → d j ≠ 0) ∨ ∃ j, j < k ∧ d j = 0 ∧ val = gcs S mn (Xd S U P d) (thU U j) (nxF S mn (Ud U d) (Xd S U P d) (thU U j)) ∧ th = nI (thU U j) ∧ (∀ i, i < k → d i = 0 → val ≤ gcs S mn (Xd S U P d) (thU U i) (nxF S mn (Ud U d) (Xd S U P d) (thU U i))) ∧ ∀ i, i < j → d i = 0 → val < gcs S mn (Xd S U P d) (thU U i) (nxF S mn (Ud U d) (Xd S U P d) (thU U i))
section
variable {t : zT} {m m' m1 m2 : zM} {s u r : Nat} {S : Sc} {P P' : Nat → Bool} {x x2 x3 : Int32} {Tl : List Nat} {U D : Nat → Bool} {a1 a2 a3 len : Nat} {d d' : Nat → Nat} {mn : Bool}
theorem Xd_t {w : Nat} : Xd S U P d w = true ↔ P w = true ∧ ∀ k, k < ctU S U → d k = 0 ∨ d k = ans S w (thU U k) + 1 := by
  unfold Xd
  rw [Bool.and_eq_true, List.all_eq_true]
  simp only [List.mem_range, Bool.or_eq_true, beq_iff_eq]
theorem Ud_t {k : Nat} : Ud U d k = true ↔ U k = true ∧ d (fb_ct U k) = 0 := by
  unfold Ud
  rw [Bool.and_eq_true, beq_iff_eq]
theorem Xd_up {k a : Nat} (hk : k < ctU S U) (h0 : d k = 0) : Xd S U P (upF d k (a + 1)) = wAns S (Xd S U P d) (thU U k) a := by
  funext w
  rw [← bt_iff, wAns_t, Xd_t, Xd_t]
  constructor
  · rintro ⟨h1, h2⟩
    refine ⟨⟨h1, fun j hj => ?_⟩, ?_⟩
    · by_cases z : j = k
      · rw [z]; exact Or.inl h0
      · have := h2 j hj
        unfold upF at this
        rw [if_neg z] at this
        exact this
    · have := h2 k hk
      unfold upF at this
      rw [if_pos rfl] at this
      omega
  · rintro ⟨⟨h1, h2⟩, h3⟩
    refine ⟨h1, fun j hj => ?_⟩
    unfold upF
    by_cases z : j = k
    · rw [if_pos z, z]; omega
    · rw [if_neg z]; exact h2 j hj
theorem Ud_up (v : Vs S) (hU : ∀ t, U t = true → t < cT S) {k a : Nat} (hk : k < ctU S U) : Ud U (upF d k (a + 1)) = rmU (Ud U d) (thU U k) := by
  have t8 := v.t8
  obtain ⟨q1, q2, q3⟩ := thU_k t8 hk
  funext t
  rw [← bt_iff, Ud_t]
  unfold rmU
  rw [Bool.and_eq_true, Ud_t, Bool.not_eq_true', beq_eq_false_iff_ne]
  unfold upF
  constructor
  · rintro ⟨h1, h2⟩
    have ne : fb_ct U t ≠ k := fun e => by rw [if_pos e] at h2; omega
    rw [if_neg ne] at h2
    exact ⟨⟨h1, h2⟩, fun e => ne (by rw [e]; exact q3)⟩
  · rintro ⟨⟨h1, h2⟩, h3⟩
    have ne : fb_ct U t ≠ k := fun e => h3 (by rw [← e]; exact (thU_of (by have := hU t h1; omega) h1).symm)
    rw [if_neg ne]
    exact ⟨h1, h2⟩
theorem nx_up (v : Vs S) (hU : ∀ t, U t = true → t < cT S) {k a : Nat} (hk : k < ctU S U) (h0 : d k = 0) : nxF S mn (Ud U d) (Xd S U P d) (thU U k) a = FF S mn (Ud U (upF d k (a + 1))) (Xd S U P (upF d k (a + 1))) := by
  unfold nxF
  rw [Xd_up hk h0, Ud_up v hU hk]
theorem idx_lt {t : Nat} (ht : t < cT S) (hu : U t = true) : fb_ct U t < ctU S U := by
  have := fb_ct_mono U (show t + 1 ≤ cT S by omega)
  rw [fb_ct_succ, hu] at this
  simp only [if_true] at this
  unfold ctU
  omega
theorem sep_Xd (v : Vs S) (hs : sep S U P) : sep S (Ud U d) (Xd S U P d) := by
  have t8 := v.t8
  intro w w' h1 h2 h3 h4 h5
  obtain ⟨p1, p2⟩ := Xd_t.mp h3
  obtain ⟨q1, q2⟩ := Xd_t.mp h4
  refine hs w w' h1 h2 p1 q1 (fun t ht hu => ?_)
  have il := idx_lt ht hu
  have et := thU_of (show t < 8 by omega) hu
  by_cases z : d (fb_ct U t) = 0
  · exact h5 t ht (Ud_t.mpr ⟨hu, z⟩)
  · have e1 := p2 _ il
    have e2 := q2 _ il
    rw [et] at e1 e2
    omega
theorem trU_Ud (h : trU S U) : trU S (Ud U d) := fun t ht hu => h t ht (Ud_t.mp hu).1
theorem Xd_last (v : Vs S) (hd : okd (NU S U) d (ctU S U)) (hz : ∀ k, k < ctU S U → d k ≠ 0) : mny S (Xd S U P d) = hcn S U P (vl (NU S U) d (ctU S U)) := by
  refine fb_ct_cong (fun w hw => ?_)
  rw [← bt_iff, Xd_t, Bool.and_eq_true, beq_iff_eq]
  refine and_congr Iff.rfl ⟨fun h => ?_, fun h k hk => Or.inr ?_⟩
  · refine vl_cong (fun k hk => ?_)
    have := h k hk
    have := hz k hk
    unfold lsd
    omega
  · exact (vl_inj (lsd_ok v) hd h k hk).symm
theorem gcs_lt (v : Vs S) (hs : sep S U P) (hU : ∀ t, U t = true → t < cT S) {k : Nat} (hk : k < ctU S U) (h0 : d k = 0) : cmb mn (nxF S mn (Ud U d) (Xd S U P d) (thU U k)) (cA S (thU U k)) ≤ 12976128 ∧ gcs S mn (Xd S U P d) (thU U k) (nxF S mn (Ud U d) (Xd S U P d) (thU U k)) < 1000000000 := by
  have t8 := v.t8
  obtain ⟨q1, q2, q3⟩ := thU_k t8 hk
  have av := v.a2 _ q1
  have c99 := v.c99 _ (show thU U k < 8 by omega)
  have ml := mny_le (S := S) (Xd S U P d)
  have hc := v.cnt
  have b : ∀ a, a < cA S (thU U k) → nxF S mn (Ud U d) (Xd S U P d) (thU U k) a ≤ 3244032 := fun a _ => by
    rw [nx_up v hU hk h0]
    exact FF_fin2 v (sep_Xd v hs)
  have sm := fb_sm_bound b
  have cl := cmb_le (mn := mn) (f := nxF S mn (Ud U d) (Xd S U P d) (thU U k)) (cA S (thU U k))
  have m4 : cA S (thU U k) * 3244032 ≤ 4 * 3244032 := Nat.mul_le_mul_right _ av.2
  have w : wgm S mn (Xd S U P d) ≤ 4096 := by unfold wgm; split <;> omega
  have g : cC S (thU U k) * wgm S mn (Xd S U P d) ≤ 99 * 4096 := Nat.mul_le_mul c99 w
  unfold gcs
  omega
theorem sp_countDown (L : Lay t m) (v : Vs S) (sk : SlK m S U (cT S)) (hd : okd (NU S U) d (ctU S U)) (dg : ∀ k, k < ctU S U → gI m 57 k = nI (d k)) {Q : zM → Prop} (hQ : ∀ m', Fr [57] m m' → (0 < vl (NU S U) d (ctU S U) → ∃ d', okd (NU S U) d' (ctU S U) ∧ vl (NU S U) d' (ctU S U) + 1 = vl (NU S U) d (ctU S U) ∧ ∀ k, k < ctU S U → gI m' 57 k = nI (d' k)) → Q m') : wX1_countDown t m 52 Q := by
  have t8 := v.t8
  have c8 : ctU S U ≤ 8 := ctU_8 v
  have esl : gI m 52 6 = nI (ctU S U) := sk.sl
  unfold wX1_countDown
  refine ⟨ctU S U + 1, ?_⟩
  have key : ∀ dd k : Nat, k + dd = ctU S U → ∀ m1, Fr [57] m m1 → (∀ j, j < k → d j = 0) → (∀ j, j < k → gI m1 57 j = nI (NU S U j - 1)) → (∀ j, k ≤ j → gI m1 57 j = gI m 57 j) → ∀ z : Int32, z = nI k → wX1_countDown_L2 t 52 Q (fun m8 => Q m8) (dd + 1) z m1 := by
    intro dd
    induction dd with
    | zero =>
      intro k hk m1 f g1 g2 g3 z hz
      have e : k = ctU S U := by omega
      subst e
      rw [hz, wX1_countDown_L2, f.I (by decide), esl]
      refine ⟨lk52 L, fun _ => hQ m1 f (fun hp => ?_), fun hh => absurd (nI_le (Nat.le_refl _) (by omega)) hh⟩
      have : vl (NU S U) d (ctU S U) = vl (NU S U) (fun _ => 0) (ctU S U) := vl_cong g1
      rw [this] at hp
      have z0 : vl (NU S U) (fun _ => 0) (ctU S U) = 0 := by
        have : vl (NU S U) (fun _ => 0) (ctU S U) = fb_sm (fun _ => 0) (ctU S U) := fb_sm_cong (fun k _ => Nat.zero_mul _)
        rw [this, fb_sm_const]; rfl
      omega
    | succ dd ih =>
      intro k hk m1 f g1 g2 g3 z hz
      have kl : k < ctU S U := by omega
      have L1 := L.fr f
      have nk := NU_k v kl
      have dk := hd k kl
      have e55 : gI m1 55 k = nI (NU S U k) := (f.I (by decide) _).trans (sk.th k kl).2.2.1
      have e57 : gI m1 57 k = nI (d k) := (g3 k (Nat.le_refl _)).trans (dg k kl)
      have vk : vp_in (nI k) 8 := vp_nI (by omega) (by decide)
      rw [hz, wX1_countDown_L2, f.I (by decide), esl, lr52_12 L1, lr52_10 L1, lk57 L, ll57 L, lk55 L, ll55 L, nI_cl (show k < 2 ^ 31 by omega), e55, e57, show (1 : Int32) = nI 1 from rfl, pk_sub (show 1 ≤ NU S U k by omega)]
      refine ⟨lk52 L, fun hh => absurd hh (nI_ge (by omega) (by omega)), fun _ => ⟨rfl, vk, fun h0 => ⟨rfl, vk, ih (k + 1) (by omega) _ (Fr.pI f (by decide)) (fun j hj => ?_) (fun j hj => ?_) (fun j hj => ?_) _ (nI_1 k)⟩, fun h0 => hQ _ (Fr.pI f (by decide)) (fun _ => ?_)⟩⟩
      · have d0 : d k = 0 := by
          rcases Nat.eq_zero_or_pos (d k) with q | q
          · exact q
          · exact absurd h0 (nI_nle q (by omega))
        rcases (show j < k ∨ j = k by omega) with q | q
        · exact g1 j q
        · rw [q]; exact d0
      · by_cases z : j = k
        · subst z; rw [gII, if_pos ⟨rfl, rfl⟩]
        · rw [gII, if_neg (fun q => z q.2)]; exact g2 j (by omega)
      · rw [gII, if_neg (by omega)]; exact g3 j (by omega)
      · have dp : 0 < d k := by
          rcases Nat.eq_zero_or_pos (d k) with q | q
          · rw [q] at h0; exact absurd (by decide) h0
          · exact q
        refine ⟨dnF (NU S U) d k, okd_dn hd, vl_dn hd kl g1 dp, fun j hj => ?_⟩
        unfold dnF
        by_cases z : j = k
        · subst z
          rw [gII, if_pos ⟨rfl, rfl⟩, if_neg (by omega), if_pos rfl, pk_sub (by omega)]
        · rw [gII, if_neg (fun q => z q.2)]
          by_cases z2 : j < k
          · rw [if_pos z2]; exact g2 j z2
          · rw [if_neg z2, if_neg z, g3 j (by omega)]; exact dg j hj
  exact key (ctU S U) 0 (by omega) m Fr.rf (fun j hj => absurd hj (by omega)) (fun j hj => absurd hj (by omega)) (fun j _ => rfl) 0 rfl
theorem vl_ch (hd : okd (NU S U) d (ctU S U)) {k a : Nat} (hk : k < ctU S U) (h0 : d k = 0) : vl (NU S U) (upF d k a) (ctU S U) = vl (NU S U) d (ctU S U) + a * pl (NU S U) k := by
  have := vl_up (N := NU S U) (d := d) (v := a) hk
  rw [h0, Nat.zero_mul, Nat.add_zero] at this
  exact this
theorem sp_addUp (c : Lay t m) (v : Vs S) (hU : ∀ t, U t = true → t < cT S) (pr : PR t m a1 a2 a3 len) (sk : SlK m S U (cT S)) (hl : pl (NU S U) (ctU S U) ≤ len) (hd : okd (NU S U) d (ctU S U)) (dg : ∀ k, k < ctU S U → gI m 57 k = nI (d k)) (up : ∀ d', okd (NU S U) d' (ctU S U) → vl (NU S U) d (ctU S U) < vl (NU S U) d' (ctU S U) → gI m a1 (vl (NU S U) d' (ctU S U)) = nI (mny S (Xd S U P d'))) (low : (∀ k, k < ctU S U → d k ≠ 0) → gI m a1 (vl (NU S U) d (ctU S U)) = nI (mny S (Xd S U P d))) {Q : zM → Prop} (hQ : ∀ m', Fr [a1] m m' → gI m' a1 (vl (NU S U) d (ctU S U)) = nI (mny S (Xd S U P d)) → (∀ i, i ≠ vl (NU S U) d (ctU S U) → gI m' a1 i = gI m a1 i) → Q m') : wX1_addUp t m 52 (nI (vl (NU S U) d (ctU S U))) Q := by
  have L := c
  have t8 := v.t8
  have hc := v.cnt
  have c8 : ctU S U ≤ 8 := ctU_8 v
  have esl : gI m 52 6 = nI (ctU S U) := sk.sl
  have len5 := pr.le
  have o1 := pr.o1
  have vlt := vl_lt hd
  unfold wX1_addUp
  refine ⟨ctU S U + 1, ?_⟩
  have key : ∀ dd k : Nat, k + dd = ctU S U → (∀ j, j < k → d j ≠ 0) → ∀ z : Int32, z = nI k → wX1_addUp_L2 t 52 (nI (vl (NU S U) d (ctU S U))) Q (fun m20 => Q m20) (dd + 1) z m := by
    intro dd
    induction dd with
    | zero =>
      intro k hk g z hz
      have e : k = ctU S U := by omega
      subst e
      rw [hz, wX1_addUp_L2, esl]
      exact ⟨lk52 L, fun _ => hQ m Fr.rf (low g) (fun _ _ => rfl), fun hh => absurd (nI_le (Nat.le_refl _) (by omega)) hh⟩
    | succ dd ih =>
      intro k hk g z hz
      have kl : k < ctU S U := by omega
      have nk := NU_k v kl
      have dk := hd k kl
      obtain ⟨q1, q2, q3⟩ := thU_k t8 kl
      obtain ⟨e1, e2, e3, e4⟩ := sk.th k kl
      have vk : vp_in (nI k) 8 := vp_nI (by omega) (by decide)
      have kc := nI_cl (show k < 2 ^ 31 by omega)
      have ed : nI (d k) = 0 ↔ d k = 0 := nI_eq (b := 0) (by omega) (by decide)
      rw [hz, wX1_addUp_L2, esl, lr52_12 L, lk57 L, ll57 L, kc, dg k kl, ed]
      refine ⟨lk52 L, fun hh => absurd hh (nI_ge (by omega) (by omega)), fun _ => ⟨rfl, vk, fun h0 => ⟨cA S (thU U k) + 1, ?_⟩, fun h0 => ih (k + 1) (by omega) (fun j hj => ?_) _ (nI_1 k)⟩⟩
      · have eN : NU S U k = cA S (thU U k) + 1 := rfl
        have av := v.a2 _ q1
        have key2 : ∀ d2 a : Nat, a + d2 = cA S (thU U k) → ∀ w3 w4 : Int32, w3 = nI (fb_sm (oft S (Xd S U P d) (thU U k)) a) → w4 = nI (a + 1) → wX1_addUp_L24 t 52 (nI (vl (NU S U) d (ctU S U))) (nI k) Q (fun v15 m16 => tK t (gR m16 52 13) = 14 ∧ vp_in (nI (vl (NU S U) d (ctU S U))) (tL t (gR m16 52 13)) ∧ Q (pI m16 (gR m16 52 13) (nI (vl (NU S U) d (ctU S U))).toNatClampNeg v15)) (d2 + 1) w3 w4 m := by
          intro d2
          induction d2 with
          | zero =>
            intro a ha w3 w4 h3 h4
            have e : a = cA S (thU U k) := by omega
            subst e
            rw [h3, h4, wX1_addUp_L24, lr52_10 L, lk55 L, ll55 L, kc, e3, eN, oft_sum v q1, pr.r1, pr.k1, pr.l1, nI_cl (show vl (NU S U) d (ctU S U) < 2 ^ 31 by omega)]
            refine ⟨lk52 L, rfl, vk, fun _ => ⟨rfl, vp_nI (by omega) (by omega), hQ _ (Fr.pI Fr.rf (by simp)) ?_ (fun i hi => ?_)⟩, fun hh => absurd (nI_le (Nat.le_refl _) (by omega)) hh⟩
            · rw [gII, if_pos ⟨rfl, rfl⟩]
            · rw [gII, if_neg (fun q => hi q.2)]
          | succ d2 ih2 =>
            intro a ha w3 w4 h3 h4
            have al : a < cA S (thU U k) := by omega
            have ok' : okd (NU S U) (upF d k (a + 1)) (ctU S U) := okd_up hd (by omega)
            have ev := vl_ch hd (a := a + 1) kl h0
            have vlt' := vl_lt ok'
            have pp := pl_pos (N := NU S U) (n := k) (fun j hj => by have := NU_k (U := U) v (show j < ctU S U by omega); omega)
            have lt : vl (NU S U) d (ctU S U) < vl (NU S U) (upF d k (a + 1)) (ctU S U) := by
              rw [ev]
              have : 1 * 1 ≤ (a + 1) * pl (NU S U) k := Nat.mul_le_mul (by omega) pp
              omega
            have eh := up _ ok' lt
            rw [Xd_up kl h0, mny_wAns] at eh
            rw [h3, h4, wX1_addUp_L24, lr52_10 L, lk55 L, ll55 L, kc, e3, lr52_11 L, lk56 L, ll56 L, e4, pr.r1, pr.k1, pr.l1, pk_mul, nI_add, ← ev, nI_cl (show vl (NU S U) (upF d k (a + 1)) (ctU S U) < 2 ^ 31 by omega), eh, nI_add]
            refine ⟨lk52 L, rfl, vk, fun hh => absurd hh (nI_ge (by omega) (by omega)), fun _ => ⟨rfl, vk, rfl, vp_nI (by omega) (by omega), fun x14 h14 => ih2 (a + 1) (by omega) _ _ ?_ (nI_1 _)⟩⟩
            rw [h14, fb_sm_succ]
        exact key2 (cA S (thU U k)) 0 (by omega) 0 1 rfl rfl
      · rcases (show j < k ∨ j = k by omega) with q | q
        · exact g j q
        · rw [q]; exact h0
  exact key (ctU S U) 0 (by omega) (fun j hj => absurd hj (by omega)) 0 rfl
end
