/-! Court.pairUp, watch: over the groups -/
section
variable {t : zT} {m : zM} {s : Nat} {S : Sc} {set h G : Nat} {sd bf go gm gt : Nat → Nat}
/-- a group of a thing by one who isn't blind -/
def spk (S : Sc) (gm gt : Nat → Nat) (tt q : Nat) : Bool := (gt q == tt) && !(cKd S (gm q) == 2)
def m1I (b : Nat) : Int32 := if b = 0 then -1 else nI (b - 1)
theorem sp_pairUpThing_L (L : Lay t m) (hs : isSch s) (ht : gR m 20 0 = s) {tt : Nat} (htt : tt < 8) (hG : G ≤ 17) (q2 : gI m 19 9 = nI G) (q4 : ∀ q, q < G → gI m 42 q = nI (gm q) ∧ gI m 43 q = nI (gt q)) (hgm : ∀ q, q < G → gm q < 6 ∧ gt q < 2 ^ 31) (hkd : ∀ k, k < 6 → (∃ q, q < G ∧ gm q = k) → gI m (s + 7) k = nI (cKd S k) ∧ cKd S k < 4) {Q : zM → Prop} {kk : Int32 → Int32 → Int32 → zM → Prop}
    (hk : ∀ a b c : Nat, c = fb_ct (spk S gm gt tt) G → (c = 2 → ∃ x y, a = x + 1 ∧ b = y + 1 ∧ x < y ∧ y < G ∧ spk S gm gt tt x = true ∧ spk S gm gt tt y = true) → kk (m1I a) (m1I b) (nI c) m) :
    ∀ d i a b c : Nat, i + d = G → c = fb_ct (spk S gm gt tt) i → (1 ≤ c → ∃ y, b = y + 1 ∧ y < i ∧ spk S gm gt tt y = true) → (2 ≤ c → ∃ x y, a = x + 1 ∧ b = y + 1 ∧ x < y ∧ spk S gm gt tt x = true) → (c = 0 → b = 0) → wX0_pairUpThing_L10 t 19 (nI tt) Q kk (d + 1) (m1I a) (m1I b) (nI c) (nI i) m := by
  intro d
  induction d with
  | zero =>
    intro i a b c hi h1 h2 h3 h4
    have hi : i = G := by omega
    subst hi
    rw [wX0_pairUpThing_L10]
    refine ⟨lk19 L, fun _ => hk a b c h1 (fun hc => ?_), fun hh => absurd (by rw [q2]; exact nI_le (Nat.le_refl _) (by omega)) hh⟩
    obtain ⟨y, e1, e2, e3⟩ := h2 (by omega)
    obtain ⟨x, y', f1, f2, f3, f4⟩ := h3 (by omega)
    have : y' = y := by omega
    subst this
    exact ⟨x, y', f1, f2, f3, e2, f4, e3⟩
  | succ d ih =>
    intro i a b c hi h1 h2 h3 h4
    have hiG : i < G := by omega
    obtain ⟨a1, a2⟩ := q4 i hiG
    obtain ⟨c1, c2⟩ := hgm i hiG
    obtain ⟨b1, b2⟩ := hkd (gm i) c1 ⟨i, hiG, rfl⟩
    have hcl : c ≤ i := by rw [h1]; exact fb_ct_le _ _
    rw [wX0_pairUpThing_L10]
    simp only [wX0_pairUpThing_J60, lk19 L, lr19_0 L, lr19_1 L, lr19_5 L, lr19_6 L, lr19_7 L, lr19_8 L, lr19_10 L, lr19_11 L, lr19_12 L, lr19_13 L, lr19_15 L, lr19_16 L, lk20 L, lr20_3 L, lr20_4 L, lr20_5 L, lk33 L, ll33 L, lk34 L, ll34 L, lk35 L, ll35 L, lk36 L, lr36_0 L, lk37 L, ll37 L, lk38 L, ll38 L, lk39 L, ll39 L, lk40 L, ll40 L, lk41 L, ll41 L, lk42 L, ll42 L, lk43 L, ll43 L, lk44 L, ll44 L, lk45 L, ll45 L, lk46 L, ll46 L, lk47 L, ll47 L, ls_k L hs, ls_r1 L hs, ls_k1 L hs, ls_l1 L hs, ls_r3 L hs, ls_k3 L hs, ls_l3 L hs, ls_r6 L hs, ls_k6 L hs, ls_l6 L hs, ls_r7 L hs, ls_k7 L hs, ls_l7 L hs, ls_r8 L hs, ls_k8 L hs, ls_l8 L hs, ls_r9 L hs, ls_k9 L hs, ls_l9 L hs, ls_r11 L hs, ls_k11 L hs, ls_l11 L hs, ls_r15 L hs, ls_k15 L hs, ls_l15 L hs, ls_r16 L hs, ls_k16 L hs, ls_l16 L hs, ls_r17 L hs, ls_k17 L hs, ls_l17 L hs, ls_r19 L hs, ls_k19 L hs, ls_l19 L hs, ht, q2, a1, a2, b1, nI_cl (show i < 2 ^ 31 by omega), nI_cl (show gm i < 2 ^ 31 by omega), nI_eq c2 (show tt < 2 ^ 31 by omega), show (2 : Int32) = nI 2 from rfl, nI_eq (show cKd S (gm i) < 2 ^ 31 by omega) (show 2 < 2 ^ 31 by omega), nI_1, true_and]
    have v1 : vp_in (nI i) 17 := vp_nI (by omega) (by omega)
    have v2 : vp_in (nI (gm i)) 6 := vp_nI c1 (by omega)
    have step : ∀ v : Bool, spk S gm gt tt i = v → fb_ct (spk S gm gt tt) (i + 1) = c + if v then 1 else 0 := fun v hv => by rw [fb_ct_succ, ← h1, hv]
    refine ⟨fun hh => absurd hh (nI_ge hiG (by omega)), fun _ => ⟨v1, fun e1 => ⟨v1, v2, fun e2 => ?_, fun e2 => ?_⟩, fun e1 => ?_⟩⟩
    · have hv : spk S gm gt tt i = false := by simp [spk, e1, e2]
      refine ih (i + 1) a b c (by omega) (by rw [step _ hv]; simp) (fun z => ?_) h3 h4
      obtain ⟨y, x1, x2, x3⟩ := h2 z
      exact ⟨y, x1, by omega, x3⟩
    · have hv : spk S gm gt tt i = true := by simp [spk, e1, e2]
      have := ih (i + 1) b (i + 1) (c + 1) (by omega) (by rw [step _ hv]; simp) (fun z => ⟨i, rfl, by omega, hv⟩) (fun z => by
        obtain ⟨y, x1, x2, x3⟩ := h2 (by omega)
        exact ⟨y, i, x1, rfl, x2, x3⟩) (fun z => absurd z (by omega))
      exact this
    · have hv : spk S gm gt tt i = false := by simp [spk, e1]
      refine ih (i + 1) a b c (by omega) (by rw [step _ hv]; simp) (fun z => ?_) h3 h4
      obtain ⟨y, x1, x2, x3⟩ := h2 z
      exact ⟨y, x1, by omega, x3⟩
/-- the pairs of the things below n: pn of them, one and other -/
def Pp (S : Sc) (G : Nat) (gm gt : Nat → Nat) (n pn : Nat) (po pq : Nat → Nat) : Prop := (∀ i, i < pn → po i < pq i ∧ pq i < G ∧ ∃ tt, tt < n ∧ fb_ct (spk S gm gt tt) G = 2 ∧ spk S gm gt tt (po i) = true ∧ spk S gm gt tt (pq i) = true) ∧ (∀ tt, tt < n → fb_ct (spk S gm gt tt) G = 2 → ∃ i, i < pn ∧ spk S gm gt tt (po i) = true ∧ spk S gm gt tt (pq i) = true) ∧ pn ≤ n
def Pm (m : zM) (pn : Nat) (po pq : Nat → Nat) : Prop := gI m 19 14 = nI pn ∧ ∀ i, i < pn → gI m 46 i = nI (po i) ∧ gI m 47 i = nI (pq i)
theorem sp_pairUpThing (L : Lay t m) (hs : isSch s) (ht : gR m 20 0 = s) {tt pn : Nat} {po pq : Nat → Nat} (htt : tt < 8) (hG : G ≤ 17) (q2 : gI m 19 9 = nI G) (q4 : ∀ q, q < G → gI m 42 q = nI (gm q) ∧ gI m 43 q = nI (gt q)) (hgm : ∀ q, q < G → gm q < 6 ∧ gt q < 2 ^ 31) (hkd : ∀ k, k < 6 → (∃ q, q < G ∧ gm q = k) → gI m (s + 7) k = nI (cKd S k) ∧ cKd S k < 4) (hp : Pp S G gm gt tt pn po pq) (hm : Pm m pn po pq) {Q : zM → Prop}
    (hQ : ∀ m', Fr [19, 46, 47] m m' → (∀ j, j ≠ 14 → gI m' 19 j = gI m 19 j) → (∃ pn' po' pq', Pp S G gm gt (tt + 1) pn' po' pq' ∧ Pm m' pn' po' pq') → Q m') : wX0_pairUpThing t m 19 (nI tt) Q := by
  unfold wX0_pairUpThing
  refine ⟨G + 1, ?_⟩
  obtain ⟨p1, p2, p3⟩ := hp
  obtain ⟨r1, r2⟩ := hm
  have zz : ∀ (kk : Int32 → Int32 → Int32 → zM → Prop) (x2 x3 x4 x5 : Int32), x2 = m1I 0 → x3 = m1I 0 → x4 = nI 0 → x5 = nI 0 → (∀ a b c : Nat, c = fb_ct (spk S gm gt tt) G → (c = 2 → ∃ x y, a = x + 1 ∧ b = y + 1 ∧ x < y ∧ y < G ∧ spk S gm gt tt x = true ∧ spk S gm gt tt y = true) → kk (m1I a) (m1I b) (nI c) m) → wX0_pairUpThing_L10 t 19 (nI tt) Q kk (G + 1) x2 x3 x4 x5 m := by
    intro kk x2 x3 x4 x5 e2 e3 e4 e5 hk
    rw [e2, e3, e4, e5]
    exact sp_pairUpThing_L L hs ht htt hG q2 q4 hgm hkd hk G 0 0 0 0 (by omega) rfl (fun z => absurd z (by omega)) (fun z => absurd z (by omega)) (fun _ => rfl)
  refine zz _ (-1) (-1) 0 0 rfl rfl rfl rfl (fun a b c hc h2 => ?_)
  have hcl : c ≤ G := by rw [hc]; exact fb_ct_le _ _
  rw [show (2 : Int32) = nI 2 from rfl, nI_eq (show c < 2 ^ 31 by omega) (by omega)]
  refine ⟨fun e => ?_, fun e => ?_⟩
  · obtain ⟨x, y, f1, f2, f3, f4, f5, f6⟩ := h2 e
    have vp : vp_in (nI pn) 8 := vp_nI (by omega) (by omega)
    have cp : (nI pn).toNatClampNeg = pn := nI_cl (by omega)
    have ma : m1I a = nI x := by rw [f1]; rfl
    have mb : m1I b = nI y := by rw [f2]; rfl
    simp (config := { decide := true }) only [lk19 L, lr19_0 L, lr19_1 L, lr19_5 L, lr19_6 L, lr19_7 L, lr19_8 L, lr19_10 L, lr19_11 L, lr19_12 L, lr19_13 L, lr19_15 L, lr19_16 L, lk20 L, lr20_3 L, lr20_4 L, lr20_5 L, lk33 L, ll33 L, lk34 L, ll34 L, lk35 L, ll35 L, lk36 L, lr36_0 L, lk37 L, ll37 L, lk38 L, ll38 L, lk39 L, ll39 L, lk40 L, ll40 L, lk41 L, ll41 L, lk42 L, ll42 L, lk43 L, ll43 L, lk44 L, ll44 L, lk45 L, ll45 L, lk46 L, ll46 L, lk47 L, ll47 L, gRI, gII, r1, vp, cp, true_and, false_and, and_false, if_false, if_true]
    refine hQ _ ?_ ?_ ⟨pn + 1, (fun i => if i = pn then x else po i), (fun i => if i = pn then y else pq i), ⟨fun i hi => ?_, fun u hu hu2 => ?_, by omega⟩, ?_, fun i hi => ?_⟩
    · exact Fr.pI (Fr.pI (Fr.pI Fr.rf (by decide)) (by decide)) (by decide)
    · intro j j1
      simp (config := { decide := true }) only [gII, j1, false_and, and_false, if_false]
    · by_cases z : i = pn
      · simp only [z, if_true]
        exact ⟨f3, f4, tt, by omega, by rw [← hc]; exact e, f5, f6⟩
      · simp only [z, if_false]
        obtain ⟨g1, g2, u, g3, g4⟩ := p1 i (by omega)
        exact ⟨g1, g2, u, by omega, g4⟩
    · rcases (show u < tt ∨ u = tt by omega) with z | z
      · obtain ⟨i, i1, i2⟩ := p2 u z hu2
        refine ⟨i, by omega, ?_⟩
        simp only [show ¬ i = pn from by omega, if_false]
        exact i2
      · subst z
        exact ⟨pn, by omega, by simp only [if_true]; exact ⟨f5, f6⟩⟩
    · simp (config := { decide := true }) only [gII, and_self, if_true, nI_1, false_and, and_false, if_false, true_and]
    · by_cases z : i = pn
      · simp (config := { decide := true }) only [gII, z, and_self, if_true, false_and, and_false, if_false, true_and, ma, mb]
      · simp (config := { decide := true }) only [gII, z, false_and, and_false, if_false]
        exact r2 i (by omega)
  · refine hQ m Fr.rf (fun _ _ => rfl) ⟨pn, po, pq, ⟨fun i hi => ?_, fun u hu hu2 => ?_, by omega⟩, r1, r2⟩
    · obtain ⟨g1, g2, u, g3, g4⟩ := p1 i hi
      exact ⟨g1, g2, u, by omega, g4⟩
    · rcases (show u < tt ∨ u = tt by omega) with z | z
      · exact p2 u z hu2
      · subst z
        exact absurd (hc.trans hu2) e
end
