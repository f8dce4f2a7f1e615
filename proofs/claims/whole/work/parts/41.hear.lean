/-! Court.hear: who is heard, in which order, in which groups -/
def Hp (S : Sc) (set n h G : Nat) (sd bf go gm gt : Nat → Nat) : Prop :=
  (∀ k, k < h → sd k < n ∧ set.testBit (sd k) = true) ∧ (∀ j k, j < k → k < h → sd j < sd k) ∧ (∀ i, i < n → set.testBit i = true → ∃ k, k < h ∧ sd k = i) ∧
  (∀ k, k < h → (bf k = 0 → ∀ j, j < k → cBy S (sd j) ≠ cBy S (sd k)) ∧ ∀ j, bf k = j + 1 → j < k ∧ cBy S (sd j) = cBy S (sd k) ∧ ∀ l, j < l → l < k → cBy S (sd l) ≠ cBy S (sd k)) ∧
  (∀ k, k < h → go k < G ∧ gm (go k) = cBy S (sd k) ∧ gt (go k) = cOf S (sd k)) ∧ (∀ q, q < G → ∃ k, k < h ∧ go k = q) ∧ (∀ q r, q < G → r < G → gm q = gm r → gt q = gt r → q = r) ∧ G ≤ h ∧ h ≤ n
def bfI (b : Nat) : Int32 := if b = 0 then -1 else nI (b - 1)
def Hm (m : zM) (h G : Nat) (sd bf go gm gt : Nat → Nat) : Prop := gI m 19 4 = nI h ∧ gI m 19 9 = nI G ∧ (∀ k, k < h → gI m 38 k = nI (sd k) ∧ gI m 39 k = bfI (bf k) ∧ gI m 40 k = nI (go k)) ∧ ∀ q, q < G → gI m 42 q = nI (gm q) ∧ gI m 43 q = nI (gt q)
section
variable {t : zT} {m : zM} {s : Nat} {S : Sc} {set n h G : Nat} {sd bf go gm gt : Nat → Nat}
/-- the loop over those that were heard before -/
theorem sp_hearOne_L (L : Lay t m) (hs : isSch s) (hby : ∀ i, i ≤ n → gI m (s + 8) i = nI (cBy S i) ∧ gI m (s + 9) i = nI (cOf S i)) (hbd : ∀ i, i ≤ n → cBy S i < 2 ^ 31 ∧ cOf S i < 2 ^ 31) (hn : n < 17) (hp : Hp S set n h G sd bf go gm gt) (hm : Hm m h G sd bf go gm gt) {Q : zM → Prop} {kk : Int32 → Int32 → zM → Prop}
    (hk : ∀ l gr : Nat, (l = 0 → ∀ j, j < h → cBy S (sd j) ≠ cBy S n) → (∀ j, l = j + 1 → j < h ∧ cBy S (sd j) = cBy S n ∧ ∀ i, j < i → i < h → cBy S (sd i) ≠ cBy S n) → ((gr = G ∧ ∀ j, j < h → cBy S (sd j) = cBy S n → cOf S (sd j) ≠ cOf S n) ∨ (gr < G ∧ gm gr = cBy S n ∧ gt gr = cOf S n)) → kk (bfI l) (nI gr) m) :
    ∀ d i l gr : Nat, i + d = h → (l = 0 → ∀ j, j < i → cBy S (sd j) ≠ cBy S n) → (∀ j, l = j + 1 → j < i ∧ cBy S (sd j) = cBy S n ∧ ∀ q, j < q → q < i → cBy S (sd q) ≠ cBy S n) → ((gr = G ∧ ∀ j, j < i → cBy S (sd j) = cBy S n → cOf S (sd j) ≠ cOf S n) ∨ (gr < G ∧ gm gr = cBy S n ∧ gt gr = cOf S n)) → wX0_hearOne_L19 t 19 (nI n) s Q kk (d + 1) (bfI l) (nI gr) (nI i) m := by
  obtain ⟨p1, p2, p3, p4, p5, p6, p7, p8, p9⟩ := hp
  obtain ⟨q1, q2, q3, q4⟩ := hm
  intro d
  induction d with
  | zero =>
    intro i l gr hi h1 h2 h3
    have hi : i = h := by omega
    subst hi
    rw [wX0_hearOne_L19]
    exact ⟨lk19 L, fun _ => hk l gr h1 h2 h3, fun hh => absurd (by rw [q1]; exact nI_le (Nat.le_refl _) (by omega)) hh⟩
  | succ d ih =>
    intro i l gr hi h1 h2 h3
    have hih : i < h := by omega
    obtain ⟨a1, a2⟩ := p1 i hih
    obtain ⟨b1, b2, b3⟩ := q3 i hih
    rw [wX0_hearOne_L19]
    simp only [wX0_hearOne_J87, wX0_hearOne_J85, lk19 L, lr19_0 L, lr19_1 L, lr19_5 L, lr19_6 L, lr19_7 L, lr19_8 L, lr19_10 L, lr19_11 L, lr19_12 L, lr19_13 L, lr19_15 L, lr19_16 L, lk20 L, lr20_3 L, lr20_4 L, lr20_5 L, lk33 L, ll33 L, lk34 L, ll34 L, lk35 L, ll35 L, lk36 L, lr36_0 L, lk37 L, ll37 L, lk38 L, ll38 L, lk39 L, ll39 L, lk40 L, ll40 L, lk41 L, ll41 L, lk42 L, ll42 L, lk43 L, ll43 L, lk44 L, ll44 L, lk45 L, ll45 L, lk46 L, ll46 L, lk47 L, ll47 L, ls_k L hs, ls_r1 L hs, ls_k1 L hs, ls_l1 L hs, ls_r3 L hs, ls_k3 L hs, ls_l3 L hs, ls_r6 L hs, ls_k6 L hs, ls_l6 L hs, ls_r7 L hs, ls_k7 L hs, ls_l7 L hs, ls_r8 L hs, ls_k8 L hs, ls_l8 L hs, ls_r9 L hs, ls_k9 L hs, ls_l9 L hs, ls_r11 L hs, ls_k11 L hs, ls_l11 L hs, ls_r15 L hs, ls_k15 L hs, ls_l15 L hs, ls_r16 L hs, ls_k16 L hs, ls_l16 L hs, ls_r17 L hs, ls_k17 L hs, ls_l17 L hs, ls_r19 L hs, ls_k19 L hs, ls_l19 L hs, q1, b1, b3, nI_cl (show i < 2 ^ 31 by omega), nI_cl (show sd i < 2 ^ 31 by omega), nI_cl (show n < 2 ^ 31 by omega), (hby (sd i) (by omega)).1, (hby (sd i) (by omega)).2, (hby n (by omega)).1, (hby n (by omega)).2, nI_eq (hbd (sd i) (by omega)).1 (hbd n (by omega)).1, nI_eq (hbd (sd i) (by omega)).2 (hbd n (by omega)).2, nI_1, true_and]
    have v1 : vp_in (nI i) 17 := vp_nI (by omega) (by omega)
    have v2 : vp_in (nI (sd i)) 17 := vp_nI (by omega) (by omega)
    have v3 : vp_in (nI n) 17 := vp_nI (by omega) (by omega)
    refine ⟨fun hh => absurd hh (nI_ge hih (by omega)), fun _ => ⟨v1, v2, v3, fun e1 => ⟨v2, v3, fun e2 => ⟨v1, ?_⟩, fun e2 => ?_⟩, fun e1 => ?_⟩⟩
    · have := ih (i + 1) (i + 1) (go i) (by omega) (fun z => absurd z (by omega)) (fun j hj => by
        have : j = i := by omega
        subst this
        exact ⟨by omega, e1, fun q z1 z2 => absurd z2 (by omega)⟩) (Or.inr ⟨(p5 i hih).1, by rw [(p5 i hih).2.1, e1], by rw [(p5 i hih).2.2, e2]⟩)
      exact this
    · have := ih (i + 1) (i + 1) gr (by omega) (fun z => absurd z (by omega)) (fun j hj => by
        have : j = i := by omega
        subst this
        exact ⟨by omega, e1, fun q z1 z2 => absurd z2 (by omega)⟩) (by
        rcases h3 with ⟨z1, z2⟩ | z
        · refine Or.inl ⟨z1, fun j hj => ?_⟩
          rcases (show j < i ∨ j = i by omega) with y | y
          · exact z2 j y
          · subst y; exact fun _ => e2
        · exact Or.inr z)
      exact this
    · refine ih (i + 1) l gr (by omega) (fun z j hj => ?_) (fun j hj => ?_) ?_
      · rcases (show j < i ∨ j = i by omega) with y | y
        · exact h1 z j y
        · subst y; exact e1
      · obtain ⟨z1, z2, z3⟩ := h2 j hj
        refine ⟨by omega, z2, fun q y1 y2 => ?_⟩
        rcases (show q < i ∨ q = i by omega) with y | y
        · exact z3 q y1 y
        · subst y; exact e1
      · rcases h3 with ⟨z1, z2⟩ | z
        · refine Or.inl ⟨z1, fun j hj => ?_⟩
          rcases (show j < i ∨ j = i by omega) with y | y
          · exact z2 j y
          · subst y; exact fun z => absurd z e1
        · exact Or.inr z
/-- up1 f k v: f, but v at k -/
theorem if_ne {α : Type} {k h : Nat} (hk : k ≠ h) (a b : α) : (if k = h then a else b) = b := if_neg hk
set_option maxHeartbeats 1000000 in
theorem sp_hearOne (L : Lay t m) (hs : isSch s) (ht : gR m 20 0 = s) (hby : ∀ i, i ≤ n → gI m (s + 8) i = nI (cBy S i) ∧ gI m (s + 9) i = nI (cOf S i)) (hbd : ∀ i, i ≤ n → cBy S i < 2 ^ 31 ∧ cOf S i < 2 ^ 31) (hn : n < 17) (hset : set.testBit n = true) (hp : Hp S set n h G sd bf go gm gt) (hm : Hm m h G sd bf go gm gt) {Q : zM → Prop}
    (hQ : ∀ m', Fr [19, 38, 39, 40, 42, 43] m m' → (∀ j, j ≠ 4 → j ≠ 9 → gI m' 19 j = gI m 19 j) → (∃ G' sd' bf' go' gm' gt', Hp S set (n + 1) (h + 1) G' sd' bf' go' gm' gt' ∧ Hm m' (h + 1) G' sd' bf' go' gm' gt') → Q m') : wX0_hearOne t m 19 (nI n) Q := by
  unfold wX0_hearOne
  refine ⟨lk19 L, by rw [lr19_0 L]; exact lk20 L, fun a3 h3 => ⟨h + 1, ?_⟩⟩
  rw [lr19_0 L, ht] at h3
  rw [h3]
  have hp' := hp
  have hm' := hm
  obtain ⟨p1, p2, p3, p4, p5, p6, p7, p8, p9⟩ := hp'
  obtain ⟨q1, q2, q3, q4⟩ := hm'
  rw [q2]
  have zz : ∀ (kk : Int32 → Int32 → zM → Prop) (x3 x5 : Int32), x3 = bfI 0 → x5 = nI 0 → (∀ l gr : Nat, (l = 0 → ∀ j, j < h → cBy S (sd j) ≠ cBy S n) → (∀ j, l = j + 1 → j < h ∧ cBy S (sd j) = cBy S n ∧ ∀ i, j < i → i < h → cBy S (sd i) ≠ cBy S n) → ((gr = G ∧ ∀ j, j < h → cBy S (sd j) = cBy S n → cOf S (sd j) ≠ cOf S n) ∨ (gr < G ∧ gm gr = cBy S n ∧ gt gr = cOf S n)) → kk (bfI l) (nI gr) m) → wX0_hearOne_L19 t 19 (nI n) s Q kk (h + 1) x3 (nI G) x5 m := by
    intro kk x3 x5 y3 y5 hk
    rw [y3, y5]
    exact sp_hearOne_L L hs hby hbd hn hp hm hk h 0 0 G (by omega) (fun _ j hj => absurd hj (by omega)) (fun j hj => absurd hj (by omega)) (Or.inl ⟨rfl, fun j hj => absurd hj (by omega)⟩)
  refine zz _ (-1) 0 rfl rfl (fun l gr e1 e2 e3 => ?_)
  have sd1 : ∀ k, k < h → (if k = h then n else sd k) = sd k := fun k hk => if_neg (by omega)
  have hps : ∀ (G' : Nat) (gm' gt' : Nat → Nat), G ≤ G' → G' ≤ h + 1 → gr < G' → (∀ q, q < G → gm' q = gm q ∧ gt' q = gt q) → gm' gr = cBy S n → gt' gr = cOf S n → (∀ q, q < G' → q < G ∨ q = gr) → (∀ q r, q < G' → r < G' → gm' q = gm' r → gt' q = gt' r → q = r) → Hp S set (n + 1) (h + 1) G' (fun k => if k = h then n else sd k) (fun k => if k = h then l else bf k) (fun k => if k = h then gr else go k) gm' gt' := by
    intro G' gm' gt' g1 g2 g3 g4 g5 g6 g7 g8
    refine ⟨fun k hk => ?_, fun j k hj hk => ?_, fun i hi hti => ?_, fun k hk => ?_, fun k hk => ?_, fun q hq => ?_, g8, g2, by omega⟩
    · by_cases z : k = h
      · simp only [z, if_true]; exact ⟨by omega, hset⟩
      · simp only [z, if_false]; exact ⟨by have := (p1 k (by omega)).1; omega, (p1 k (by omega)).2⟩
    · have z : j ≠ h := by omega
      by_cases y : k = h
      · simp only [y, z, if_true, if_false]; exact (p1 j (by omega)).1
      · simp only [y, z, if_false]; exact p2 j k hj (by omega)
    · rcases (show i < n ∨ i = n by omega) with y | y
      · obtain ⟨k, k1, k2⟩ := p3 i y hti
        exact ⟨k, by omega, (sd1 k k1).trans k2⟩
      · exact ⟨h, by omega, by simp [y]⟩
    · by_cases z : k = h
      · subst z
        simp only [if_true]
        refine ⟨fun y j hj => ?_, fun j hj => ?_⟩
        · rw [sd1 j hj]; exact e1 y j hj
        · obtain ⟨y1, y2, y3⟩ := e2 j hj
          refine ⟨y1, by rw [sd1 j y1]; exact y2, fun i i1 i2 => ?_⟩
          rw [sd1 i i2]; exact y3 i i1 i2
      · simp only [z, if_false]
        have hk' : k < h := by omega
        obtain ⟨y1, y2⟩ := p4 k hk'
        refine ⟨fun y j hj => ?_, fun j hj => ?_⟩
        · rw [sd1 j (by omega)]; exact y1 y j hj
        · obtain ⟨x1, x2, x3⟩ := y2 j hj
          refine ⟨x1, by rw [sd1 j (by omega)]; exact x2, fun i i1 i2 => ?_⟩
          rw [sd1 i (by omega)]; exact x3 i i1 i2
    · by_cases z : k = h
      · simp only [z, if_true]; exact ⟨g3, g5, g6⟩
      · simp only [z, if_false]
        obtain ⟨y1, y2, y3⟩ := p5 k (by omega)
        exact ⟨by omega, by rw [(g4 _ y1).1]; exact y2, by rw [(g4 _ y1).2]; exact y3⟩
    · rcases g7 q hq with y | y
      · obtain ⟨k, k1, k2⟩ := p6 q y
        exact ⟨k, by omega, (if_neg (show ¬ k = h by omega)).trans k2⟩
      · exact ⟨h, by omega, by simp [y]⟩
  have vh : vp_in (nI h) 17 := vp_nI (by omega) (by omega)
  have vn : vp_in (nI n) 17 := vp_nI (by omega) (by omega)
  have ch : (nI h).toNatClampNeg = h := nI_cl (by omega)
  have cn : (nI n).toNatClampNeg = n := nI_cl (by omega)
  refine ⟨fun hg => ?_, fun hg => ?_⟩
  · rw [q2] at hg
    rcases e3 with ⟨z1, z2⟩ | ⟨z1, -, -⟩
    · subst z1
      have vG : vp_in (nI gr) 17 := vp_nI (by omega) (by omega)
      have cG : (nI gr).toNatClampNeg = gr := nI_cl (by omega)
      unfold wX0_hearOne_J138
      have ns9 : ¬ (s + 9 = 42) := by rcases hs with rfl | rfl <;> decide
      simp (config := { decide := true }) only [lk19 L, lr19_0 L, lr19_1 L, lr19_5 L, lr19_6 L, lr19_7 L, lr19_8 L, lr19_10 L, lr19_11 L, lr19_12 L, lr19_13 L, lr19_15 L, lr19_16 L, lk20 L, lr20_3 L, lr20_4 L, lr20_5 L, lk33 L, ll33 L, lk34 L, ll34 L, lk35 L, ll35 L, lk36 L, lr36_0 L, lk37 L, ll37 L, lk38 L, ll38 L, lk39 L, ll39 L, lk40 L, ll40 L, lk41 L, ll41 L, lk42 L, ll42 L, lk43 L, ll43 L, lk44 L, ll44 L, lk45 L, ll45 L, lk46 L, ll46 L, lk47 L, ll47 L, ls_k L hs, ls_r1 L hs, ls_k1 L hs, ls_l1 L hs, ls_r3 L hs, ls_k3 L hs, ls_l3 L hs, ls_r6 L hs, ls_k6 L hs, ls_l6 L hs, ls_r7 L hs, ls_k7 L hs, ls_l7 L hs, ls_r8 L hs, ls_k8 L hs, ls_l8 L hs, ls_r9 L hs, ls_k9 L hs, ls_l9 L hs, ls_r11 L hs, ls_k11 L hs, ls_l11 L hs, ls_r15 L hs, ls_k15 L hs, ls_l15 L hs, ls_r16 L hs, ls_k16 L hs, ls_l16 L hs, ls_r17 L hs, ls_k17 L hs, ls_l17 L hs, ls_r19 L hs, ls_k19 L hs, ls_l19 L hs, gRI, gII, q1, q2, vh, vn, vG, ch, cn, cG, true_and, false_and, and_false, if_false, if_true, (hby n (Nat.le_refl n)).1, (hby n (Nat.le_refl n)).2, ns9]
      refine hQ _ ?_ ?_ ⟨gr + 1, _, _, _, (fun q => if q = gr then cBy S n else gm q), (fun q => if q = gr then cOf S n else gt q), hps (gr + 1) _ _ (by omega) (by omega) (by omega) (fun q hq => ?_) ?_ ?_ (fun q hq => by omega) (fun q r hq hr y1 y2 => ?_), ?_⟩
      · exact Fr.pI (Fr.pI (Fr.pI (Fr.pI (Fr.pI (Fr.pI (Fr.pI Fr.rf (by decide)) (by decide)) (by decide)) (by decide)) (by decide)) (by decide)) (by decide)
      · intro j j1 j2
        simp (config := { decide := true }) only [gII, j1, j2, false_and, and_false, if_false]
      · have : q ≠ gr := by omega
        simp only [this, if_false, and_self]
      · simp
      · simp
      · by_cases a1 : q = gr <;> by_cases a2 : r = gr
        · rw [a1, a2]
        · exfalso
          simp only [a1, a2, if_true, if_false] at y1 y2
          obtain ⟨k, k1, k2⟩ := p6 r (by omega)
          obtain ⟨c1, c2, c3⟩ := p5 k k1
          rw [k2] at c2 c3
          exact z2 k k1 (by rw [← c2, y1]) (by rw [← c3, y2])
        · exfalso
          simp only [a1, a2, if_true, if_false] at y1 y2
          obtain ⟨k, k1, k2⟩ := p6 q (by omega)
          obtain ⟨c1, c2, c3⟩ := p5 k k1
          rw [k2] at c2 c3
          exact z2 k k1 (by rw [← c2, y1]) (by rw [← c3, y2])
        · simp only [a1, a2, if_false] at y1 y2
          exact p7 q r (by omega) (by omega) y1 y2
      · refine ⟨?_, ?_, fun k hk => ?_, fun q hq => ?_⟩
        · simp (config := { decide := true }) only [gII, and_self, if_true, nI_1, false_and, and_false, if_false, true_and]
        · simp (config := { decide := true }) only [gII, and_self, if_true, nI_1, false_and, and_false, if_false, true_and]
        · by_cases z : k = h
          · simp (config := { decide := true }) only [gII, z, and_self, if_true, false_and, and_false, if_false, true_and, ns9]
          · obtain ⟨y1, y2, y3⟩ := q3 k (by omega)
            simp (config := { decide := true }) only [gII, z, false_and, and_false, if_false]
            exact ⟨y1, y2, y3⟩
        · by_cases z : q = gr
          · simp (config := { decide := true }) only [gII, z, and_self, if_true, false_and, and_false, if_false, true_and, ns9]
          · obtain ⟨y1, y2⟩ := q4 q (by omega)
            simp (config := { decide := true }) only [gII, z, false_and, and_false, if_false]
            exact ⟨y1, y2⟩
    · exact absurd ((nI_eq (by omega) (by omega)).mp hg) (by omega)
  · rw [q2] at hg
    rcases e3 with ⟨z1, z2⟩ | ⟨z1, z2, z3⟩
    · exact absurd (by rw [z1]) hg
    · unfold wX0_hearOne_J138
      simp (config := { decide := true }) only [lk19 L, lr19_0 L, lr19_1 L, lr19_5 L, lr19_6 L, lr19_7 L, lr19_8 L, lr19_10 L, lr19_11 L, lr19_12 L, lr19_13 L, lr19_15 L, lr19_16 L, lk20 L, lr20_3 L, lr20_4 L, lr20_5 L, lk33 L, ll33 L, lk34 L, ll34 L, lk35 L, ll35 L, lk36 L, lr36_0 L, lk37 L, ll37 L, lk38 L, ll38 L, lk39 L, ll39 L, lk40 L, ll40 L, lk41 L, ll41 L, lk42 L, ll42 L, lk43 L, ll43 L, lk44 L, ll44 L, lk45 L, ll45 L, lk46 L, ll46 L, lk47 L, ll47 L, gRI, gII, q1, q2, vh, ch, true_and, false_and, and_false, if_false, if_true]
      refine hQ _ ?_ ?_ ⟨G, _, _, _, gm, gt, hps G _ _ (Nat.le_refl _) (by omega) z1 (fun q hq => ⟨rfl, rfl⟩) z2 z3 (fun q hq => Or.inl hq) p7, ?_⟩
      · exact Fr.pI (Fr.pI (Fr.pI (Fr.pI Fr.rf (by decide)) (by decide)) (by decide)) (by decide)
      · intro j j1 j2
        simp (config := { decide := true }) only [gII, j1, j2, false_and, and_false, if_false]
      · refine ⟨?_, ?_, fun k hk => ?_, fun q hq => ?_⟩
        · simp (config := { decide := true }) only [gII, and_self, if_true, nI_1, false_and, and_false, if_false, true_and]
        · simp (config := { decide := true }) only [gII, false_and, and_false, if_false]; exact q2
        · by_cases z : k = h
          · simp (config := { decide := true }) only [gII, z, and_self, if_true, false_and, and_false, if_false, true_and]
          · obtain ⟨y1, y2, y3⟩ := q3 k (by omega)
            simp (config := { decide := true }) only [gII, z, false_and, and_false, if_false]
            exact ⟨y1, y2, y3⟩
        · simp (config := { decide := true }) only [gII, false_and, and_false, if_false]
          exact q4 q hq
theorem nI_bit0 {x k : Nat} (hx : x < 2 ^ 31) (hk : k < 31) : ((nI x >>> (nI k &&& 31)) &&& 1 = 0) ↔ x.testBit k = false := by
  have e1 : nI k &&& 31 = nI k := by
    rw [show (31 : Int32) = nI 31 from rfl, nx_and, show (31 : Nat) = 2 ^ 5 - 1 from rfl, Nat.and_two_pow_sub_one_eq_mod, Nat.mod_eq_of_lt (by omega)]
  have e2 : nI x >>> nI k = nI (x / 2 ^ k) := pk_shrN hx (nI k) k (by
    have : ∀ j, j < 31 → ((nI j).toBitVec.smod 32).toNat = j := by decide
    exact this k hk)
  have h3 : x / 2 ^ k < 2 ^ 31 := Nat.lt_of_le_of_lt (Nat.div_le_self _ _) hx
  rw [e1, e2, show (1 : Int32) = nI 1 from rfl, nx_and, Nat.and_one_is_mod, show (0 : Int32) = nI 0 from rfl, nI_eq (by omega) (by omega), Nat.testBit_eq_decide_div_mod_eq]
  simp
/-- hear: those of the set, in order -/
theorem sp_hear (L : Lay t m) (hs : isSch s) (ht : gR m 20 0 = s) {N : Nat} (hN : N ≤ 17) (hset : ∀ i, set.testBit i = true → i < N) (hsz : set < 2 ^ 17) (hby : ∀ i, i < N → gI m (s + 8) i = nI (cBy S i) ∧ gI m (s + 9) i = nI (cOf S i)) (hbd : ∀ i, i < N → cBy S i < 2 ^ 31 ∧ cOf S i < 2 ^ 31) {Q : zM → Prop}
    (hQ : ∀ m', Fr [19, 38, 39, 40, 42, 43] m m' → (∀ j, j ≠ 4 → j ≠ 9 → gI m' 19 j = gI m 19 j) → (∃ h G sd bf go gm gt, Hp S set 17 h G sd bf go gm gt ∧ Hm m' h G sd bf go gm gt) → Q m') : wX0_hear t m 19 (nI set) Q := by
  unfold wX0_hear
  refine ⟨lk19 L, 18, ?_⟩
  have key : ∀ d i : Nat, i + d = 17 → ∀ m1, Fr [19, 38, 39, 40, 42, 43] m m1 → (∀ j, j ≠ 4 → j ≠ 9 → gI m1 19 j = gI m 19 j) → (∃ h G sd bf go gm gt, Hp S set i h G sd bf go gm gt ∧ Hm m1 h G sd bf go gm gt) → wX0_hear_L12 t 19 (nI set) Q (fun m7 => Q m7) (d + 1) (nI i) m1 := by
    intro d
    induction d with
    | zero =>
      intro i hi m1 f1 f2 f3
      have : i = 17 := by omega
      subst this
      rw [wX0_hear_L12]
      exact ⟨fun _ => hQ m1 f1 f2 f3, fun hh => absurd (by decide) hh⟩
    | succ d ih =>
      intro i hi m1 f1 f2 f3
      rw [wX0_hear_L12]
      refine ⟨fun hh => absurd hh (nI_ge (a := i) (b := 17) (by omega) (by omega)), fun _ => ?_⟩
      simp only [wX0_hear_J31, nI_1]
      rw [nI_bit0 (by omega) (by omega)]
      obtain ⟨h, G, sd, bf, go, gm, gt, hp, hm⟩ := f3
      refine ⟨fun hb => ?_, fun hb => ⟨lk19 L, ?_⟩⟩
      · refine ih (i + 1) (by omega) m1 f1 f2 ⟨h, G, sd, bf, go, gm, gt, ?_, hm⟩
        obtain ⟨p1, p2, p3, p4, p5, p6, p7, p8, p9⟩ := hp
        refine ⟨fun k hk => ⟨by have := (p1 k hk).1; omega, (p1 k hk).2⟩, p2, fun j hj hjb => ?_, p4, p5, p6, p7, p8, by omega⟩
        rcases (show j < i ∨ j = i by omega) with y | y
        · exact p3 j y hjb
        · rw [y, hb] at hjb; cases hjb
      · have hb' : set.testBit i = true := by
          cases hx : set.testBit i with
          | false => exact absurd hx hb
          | true => rfl
        have hiN := hset i hb'
        have L1 := L.fr f1
        have hs8 : s + 8 ∉ [19, 38, 39, 40, 42, 43] ∧ s + 9 ∉ [19, 38, 39, 40, 42, 43] := by rcases hs with rfl | rfl <;> decide
        refine sp_hearOne L1 hs (by rw [f1.2]; exact ht) (fun j hj => ⟨by rw [f1.I hs8.1]; exact (hby j (by omega)).1, by rw [f1.I hs8.2]; exact (hby j (by omega)).2⟩) (fun j hj => hbd j (by omega)) (by omega) hb' hp hm (fun m2 g1 g2 g3 => ?_)
        obtain ⟨G', sd', bf', go', gm', gt', hp2, hm2⟩ := g3
        exact ih (i + 1) (by omega) m2 (f1.tr g1) (fun j j1 j2 => (g2 j j1 j2).trans (f2 j j1 j2)) ⟨h + 1, G', sd', bf', go', gm', gt', hp2, hm2⟩
  refine key 17 0 (by omega) _ (Fr.pI (Fr.pI Fr.rf (by decide)) (by decide)) (fun j j1 j2 => ?_) ⟨0, 0, fun _ => 0, fun _ => 0, fun _ => 0, fun _ => 0, fun _ => 0, ?_, ?_⟩
  · simp (config := { decide := true }) only [gII, j1, j2, and_false, if_false]
  · exact ⟨fun k hk => absurd hk (by omega), fun j k _ hk => absurd hk (by omega), fun i hi => absurd hi (by omega), fun k hk => absurd hk (by omega), fun k hk => absurd hk (by omega), fun q hq => absurd hq (by omega), fun q r hq => absurd hq (by omega), Nat.le_refl _, Nat.le_refl _⟩
  · refine ⟨?_, ?_, fun k hk => absurd hk (by omega), fun q hq => absurd hq (by omega)⟩
    · simp (config := { decide := true }) only [gII, and_self, if_true, and_false, if_false, nI_0]
    · simp (config := { decide := true }) only [gII, and_self, if_true, and_false, if_false, nI_0]
end
