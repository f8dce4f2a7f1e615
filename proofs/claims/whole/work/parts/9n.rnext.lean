/-! The reference's next token -/
def rsI (k : Nat) : Int32 := if k = 0 then 1 else if k = 1 then 2 else if k = 2 then 3 else if k = 5 then 0 else 4
def RTk (m : zM) (k : Tk) : Prop := (gI m 75 9 = rsI k.1) ∧ (gI m 75 10 = nI k.2.1) ∧ (k.1 ≠ 5 → gI m 75 8 = nI k.2.2.1) ∧ (k.1 = 1 → gJ m 75 15 = lN k.2.2.2) ∧ (k.1 = 2 → gI m 75 12 = nI k.2.2.2) ∧ (k.1 = 3 → gI m 75 11 = 59) ∧ (k.1 = 4 → gI m 75 11 = 44)
theorem RTk.kd {m : zM} {k : Tk} (h_ : RTk m k) : gI m 75 9 = rsI k.1 := h_.1
theorem RTk.pl_ {m : zM} {k : Tk} (h_ : RTk m k) : gI m 75 10 = nI k.2.1 := h_.2.1
theorem RTk.nx_ {m : zM} {k : Tk} (h_ : RTk m k) : k.1 ≠ 5 → gI m 75 8 = nI k.2.2.1 := h_.2.2.1
theorem RTk.wd {m : zM} {k : Tk} (h_ : RTk m k) : k.1 = 1 → gJ m 75 15 = lN k.2.2.2 := h_.2.2.2.1
theorem RTk.wh {m : zM} {k : Tk} (h_ : RTk m k) : k.1 = 2 → gI m 75 12 = nI k.2.2.2 := h_.2.2.2.2.1
theorem RTk.s3 {m : zM} {k : Tk} (h_ : RTk m k) : k.1 = 3 → gI m 75 11 = 59 := h_.2.2.2.2.2.1
theorem RTk.s4 {m : zM} {k : Tk} (h_ : RTk m k) : k.1 = 4 → gI m 75 11 = 44 := h_.2.2.2.2.2.2
/-- what reading a token may touch in the reference -/
def RkF (m m' : zM) : Prop := Fr [75] m m' ∧ ∀ j, j ≠ 8 → j ≠ 9 → j ≠ 10 → j ≠ 11 → j ≠ 12 → gI m' 75 j = gI m 75 j
def rbI (B : Nat → Nat) (n q : Nat) : Int32 := if q < n then nI (B q) else -1
section
variable {t : zT} {m m' m1 m2 : zM} {B : Nat → Nat} {n a b : Nat} {p : Nat → Bool} {x : Int32} {k : Tk}
theorem RkF.rf : RkF m m := ⟨Fr.rf, fun _ _ _ _ _ _ => rfl⟩
theorem RkF.tr (h1 : RkF m m1) (h2 : RkF m1 m2) : RkF m m2 := ⟨h1.1.tr h2.1, fun j a b c d e => (h2.2 j a b c d e).trans (h1.2 j a b c d e)⟩
theorem RkF.pp (h : RkF m m1) {j : Nat} (hj : j = 8 ∨ j = 9 ∨ j = 10 ∨ j = 11 ∨ j = 12) (v : Int32) : RkF m (pI m1 75 j v) := ⟨Fr.pI h.1 (by decide), fun i a b c d e => by rw [gII, if_neg (by omega)]; exact h.2 i a b c d e⟩
theorem RkF.w (h : RkF m m1) (j : Nat) (v : Int64) : RkF m (pJ m1 75 j v) := ⟨Fr.pJ h.1 (by decide), h.2⟩
theorem tb_all : ∀ b : Nat, b < 256 → (Int32.ofInt (if b < 128 then (b : Int) else (b : Int) - 256)) &&& (255 : Int32) = nI b := by decide +kernel
theorem TB.and255 (h : TB x b) : x &&& (255 : Int32) = nI b := by
  have e : x = Int32.ofInt x.toInt := (Int32.ofInt_toInt x).symm
  rw [e, h.2]
  exact tb_all b h.1
theorem rb_eq {q c : Nat} (hb : q < n → B q < 256) (hc : c < 256) : rbI B n q = nI c ↔ q < n ∧ B q = c := by
  unfold rbI
  by_cases h : q < n
  · rw [if_pos h, nI_eq (by have := hb h; omega) (by omega)]
    exact ⟨fun z => ⟨h, z⟩, fun z => z.2⟩
  · rw [if_neg h]
    refine ⟨fun z => ?_, fun z => absurd z.1 h⟩
    have := congrArg Int32.toInt z
    rw [nI_toInt (by omega)] at this
    have e : (-1 : Int32).toInt = -1 := by decide
    omega
theorem rb_no {q : Nat} (hb : q < n → B q < 256) : rbI B n q = -1 ↔ n ≤ q := by
  unfold rbI
  by_cases h : q < n
  · rw [if_pos h]
    refine ⟨fun z => ?_, fun z => by omega⟩
    have := congrArg Int32.toInt z
    rw [nI_toInt (by have := hb h; omega)] at this
    have e : (-1 : Int32).toInt = -1 := by decide
    omega
  · rw [if_neg h]
    exact ⟨fun _ => by omega, fun _ => rfl⟩
theorem rsp_byteAt (L : Lay t m) (en : gI m 75 7 = nI n) (n9 : n ≤ 900) (tp : ∀ k, k < n → TB (gI m 76 k) (B k)) {q : Nat} (hq : q < 2 ^ 31) {Q : Int32 → zM → Prop} (h : Q (rbI B n q) m) : wX12_byteAt t m 75 (nI q) Q := by
  unfold wX12_byteAt
  rw [en, nI_leI (by omega) hq, lr75_5 L, ll76 L, nI_cl hq]
  unfold rbI at h
  refine ⟨lk75 L, fun z => ?_, fun z => ⟨lk76 L, vp_nI (by omega) (by decide), ?_⟩⟩
  · rw [if_neg (by omega)] at h; exact h
  · rw [if_pos (by omega)] at h
    rw [(tp q (by omega)).and255]
    exact h
theorem rb_lt {q c : Nat} (hb : q < n → B q < 256) (hc : c < 256) : rbI B n q < nI c ↔ n ≤ q ∨ B q < c := by
  unfold rbI
  by_cases h : q < n
  · rw [if_pos h, nI_ltI (by have := hb h; omega) (by omega)]
    exact ⟨fun z => Or.inr z, fun z => by omega⟩
  · rw [if_neg h, fa_lt, nI_toInt (by omega)]
    have e : (-1 : Int32).toInt = -1 := by decide
    exact ⟨fun _ => Or.inl (by omega), fun _ => by omega⟩
theorem rb_gt {q c : Nat} (hb : q < n → B q < 256) (hc : c < 256) : nI c < rbI B n q ↔ q < n ∧ c < B q := by
  unfold rbI
  by_cases h : q < n
  · rw [if_pos h, nI_ltI (by omega) (by have := hb h; omega)]
    exact ⟨fun z => ⟨h, z⟩, fun z => z.2⟩
  · rw [if_neg h, fa_lt, nI_toInt (by omega)]
    have e : (-1 : Int32).toInt = -1 := by decide
    exact ⟨fun _ => by omega, fun z => absurd z.1 h⟩
theorem rsp_isLetter {q : Nat} (hb : q < n → B q < 256) {Q : Int32 → zM → Prop} (h1 : q < n → isLt (B q) = true → Q 1 m) (h0 : ¬ (q < n ∧ isLt (B q) = true) → Q 0 m) : wX12_isLetter t m (rbI B n q) Q := by
  unfold wX12_isLetter
  rw [show (97 : Int32) = nI 97 from rfl, show (122 : Int32) = nI 122 from rfl, rb_lt hb (by decide), rb_gt hb (by decide)]
  refine ⟨fun z => h0 (fun y => ?_), fun z => ⟨fun z2 => h0 (fun y => ?_), fun z2 => h1 (by omega) (isLt_t.mpr (by omega))⟩⟩
  · have := isLt_t.mp y.2; omega
  · have := isLt_t.mp y.2; omega
theorem rsp_isDigit {q : Nat} (hb : q < n → B q < 256) {Q : Int32 → zM → Prop} (h1 : q < n → isDg (B q) = true → Q 1 m) (h0 : ¬ (q < n ∧ isDg (B q) = true) → Q 0 m) : wX12_isDigit t m (rbI B n q) Q := by
  unfold wX12_isDigit
  rw [show (48 : Int32) = nI 48 from rfl, show (57 : Int32) = nI 57 from rfl, rb_lt hb (by decide), rb_gt hb (by decide)]
  refine ⟨fun z => h0 (fun y => ?_), fun z => ⟨fun z2 => h0 (fun y => ?_), fun z2 => h1 (by omega) (isDg_t.mpr (by omega))⟩⟩
  · have := isDg_t.mp y.2; omega
  · have := isDg_t.mp y.2; omega
theorem lN_mul32 (w : Nat) : (32 : Int64) * lN w = lN (32 * w) := (Int64.ofNat_mul 32 w).symm
theorem rsp_letters (L : Lay t m) (en : gI m 75 7 = nI n) (n9 : n ≤ 900) (tp : ∀ k, k < n → TB (gI m 76 k) (B k)) {q : Nat} (hq : q ≤ n) (e8 : gI m 75 8 = nI q) (e15 : gJ m 75 15 = 0) {Q : zM → Prop} {K : Int32 → zM → Prop} (hK : ∀ m', RkF m m' → (∀ j, j ≠ 8 → gI m' 75 j = gI m 75 j) → gI m' 75 8 = nI (run isLt B n q) → (run isLt B n q - q ≤ 8 → gJ m' 75 15 = lN (wv B q (run isLt B n q - q))) → K (nI (run isLt B n q - q)) m') : ∃ f, wX12_goesOn_L89 t 75 Q K f 0 m := by
  obtain ⟨b1, b2, b3, b4⟩ := run_bd (p := isLt) (B := B) hq
  refine ⟨run isLt B n q - q + 1, ?_⟩
  have key : ∀ dd a : Nat, a + dd = run isLt B n q → q ≤ a → ∀ m1, RkF m m1 → (∀ j, j ≠ 8 → gI m1 75 j = gI m 75 j) → gI m1 75 8 = nI a → (a - q ≤ 8 → gJ m1 75 15 = lN (wv B q (a - q))) → wX12_goesOn_L89 t 75 Q K (dd + 1) (nI (a - q)) m1 := by
    intro dd
    induction dd with
    | zero =>
      intro a ha qa m1 f1 k1 g8 g15
      have e : a = run isLt B n q := by omega
      have L1 := L.fr f1.1
      have E : gI m1 75 7 = nI n := (f1.2 7 (by decide) (by decide) (by decide) (by decide) (by decide)).trans en
      have T1 : ∀ k, k < n → TB (gI m1 76 k) (B k) := fun k hk => by rw [f1.1.I (by decide)]; exact tp k hk
      rw [wX12_goesOn_L89, g8]
      refine ⟨lk75 L1, rsp_byteAt L1 E n9 T1 (by omega) (rsp_isLetter (fun h => (T1 a h).1) (fun h1 h2 => ?_) (fun _ => ⟨fun _ => ?_, fun z => absurd rfl z⟩))⟩
      · have := b3 (by omega)
        rw [← e, h2] at this
        cases this
      · rw [e]; exact hK m1 f1 k1 (by rw [← e]; exact g8) (by rw [← e]; exact g15)
    | succ dd ih =>
      intro a ha qa m1 f1 k1 g8 g15
      have L1 := L.fr f1.1
      have E : gI m1 75 7 = nI n := (f1.2 7 (by decide) (by decide) (by decide) (by decide) (by decide)).trans en
      have T1 : ∀ k, k < n → TB (gI m1 76 k) (B k) := fun k hk => by rw [f1.1.I (by decide)]; exact tp k hk
      have yl := b4 a qa (by omega)
      have yl' := isLt_t.mp yl
      have an : a < n := by omega
      rw [wX12_goesOn_L89, g8]
      refine ⟨lk75 L1, rsp_byteAt L1 E n9 T1 (by omega) (rsp_isLetter (fun h => (T1 a h).1) (fun h1 h2 => ⟨fun z => absurd z (by decide), fun _ => ?_⟩) (fun h => absurd ⟨an, yl⟩ h))⟩
      rw [show (8 : Int32) = nI 8 from rfl, nI_leI (by decide) (by omega)]
      refine ⟨fun z => ?_, fun z => ?_⟩
      · unfold wX12_goesOn_J136
        rw [nI_1, show a - q + 1 = a + 1 - q by omega, g8, nI_1]
        refine ⟨lk75 L1, ih (a + 1) (by omega) (by omega) _ (f1.pp (Or.inl rfl) _) (fun j hj => ?_) (by rw [gII, if_pos ⟨rfl, rfl⟩]) (fun y => by omega)⟩
        rw [gII, if_neg (fun y => hj y.2)]; exact k1 j hj
      · rw [g8]
        refine rsp_byteAt L1 E n9 T1 (by omega) ?_
        unfold wX12_goesOn_J136
        have ev : rbI B n a = nI (B a) := by unfold rbI; rw [if_pos an]
        rw [nI_1, show a - q + 1 = a + 1 - q by omega, gIJ, g8, nI_1, ev, g15 (by omega), lN_mul32, show (97 : Int32) = nI 97 from rfl, pk_sub (by omega), nI_1, nI_l (show B a - 97 + 1 < 2 ^ 31 by omega), lN_add]
        refine ⟨lk75 L1, ih (a + 1) (by omega) (by omega) _ ((f1.w 15 _).pp (Or.inl rfl) _) (fun j hj => ?_) (by rw [gII, if_pos ⟨rfl, rfl⟩]) (fun y => ?_)⟩
        · rw [gII, if_neg (fun y => hj y.2)]; exact k1 j hj
        · rw [gJI, gJJ, if_pos ⟨rfl, rfl⟩, show a + 1 - q = (a - q) + 1 by omega, wv, show q + (a - q) = a by omega, show B a - 97 + 1 = B a - 96 by omega]
  have := key (run isLt B n q - q) q (by omega) (Nat.le_refl _) m RkF.rf (fun _ _ => rfl) e8 (fun _ => by rw [e15, Nat.sub_self]; rfl)
  rw [Nat.sub_self] at this
  exact this
theorem rsp_digits (L : Lay t m) (en : gI m 75 7 = nI n) (n9 : n ≤ 900) (tp : ∀ k, k < n → TB (gI m 76 k) (B k)) {q : Nat} (hq : q ≤ n) (e8 : gI m 75 8 = nI q) (e12 : gI m 75 12 = 0) {Q : zM → Prop} {K : Int32 → zM → Prop} (hK : ∀ m', RkF m m' → (∀ j, j ≠ 8 → j ≠ 12 → gI m' 75 j = gI m 75 j) → gI m' 75 8 = nI (run isDg B n q) → (run isDg B n q - q ≤ 3 → gI m' 75 12 = nI (dv B q (run isDg B n q - q))) → K (nI (run isDg B n q - q)) m') : ∃ f, wX12_goesOn_L178 t 75 Q K f 0 m := by
  obtain ⟨b1, b2, b3, b4⟩ := run_bd (p := isDg) (B := B) hq
  refine ⟨run isDg B n q - q + 1, ?_⟩
  have key : ∀ dd a : Nat, a + dd = run isDg B n q → q ≤ a → ∀ m1, RkF m m1 → (∀ j, j ≠ 8 → j ≠ 12 → gI m1 75 j = gI m 75 j) → gI m1 75 8 = nI a → (a - q ≤ 3 → gI m1 75 12 = nI (dv B q (a - q))) → wX12_goesOn_L178 t 75 Q K (dd + 1) (nI (a - q)) m1 := by
    intro dd
    induction dd with
    | zero =>
      intro a ha qa m1 f1 k1 g8 g12
      have e : a = run isDg B n q := by omega
      have L1 := L.fr f1.1
      have E : gI m1 75 7 = nI n := (f1.2 7 (by decide) (by decide) (by decide) (by decide) (by decide)).trans en
      have T1 : ∀ k, k < n → TB (gI m1 76 k) (B k) := fun k hk => by rw [f1.1.I (by decide)]; exact tp k hk
      rw [wX12_goesOn_L178, g8]
      refine ⟨lk75 L1, rsp_byteAt L1 E n9 T1 (by omega) (rsp_isDigit (fun h => (T1 a h).1) (fun h1 h2 => ?_) (fun _ => ⟨fun _ => ?_, fun z => absurd rfl z⟩))⟩
      · have := b3 (by omega)
        rw [← e, h2] at this
        cases this
      · rw [e]; exact hK m1 f1 k1 (by rw [← e]; exact g8) (by rw [← e]; exact g12)
    | succ dd ih =>
      intro a ha qa m1 f1 k1 g8 g12
      have L1 := L.fr f1.1
      have E : gI m1 75 7 = nI n := (f1.2 7 (by decide) (by decide) (by decide) (by decide) (by decide)).trans en
      have T1 : ∀ k, k < n → TB (gI m1 76 k) (B k) := fun k hk => by rw [f1.1.I (by decide)]; exact tp k hk
      have yl := b4 a qa (by omega)
      have yl' := isDg_t.mp yl
      have an : a < n := by omega
      rw [wX12_goesOn_L178, g8]
      refine ⟨lk75 L1, rsp_byteAt L1 E n9 T1 (by omega) (rsp_isDigit (fun h => (T1 a h).1) (fun h1 h2 => ⟨fun z => absurd z (by decide), fun _ => ?_⟩) (fun h => absurd ⟨an, yl⟩ h))⟩
      rw [show (3 : Int32) = nI 3 from rfl, nI_leI (by decide) (by omega)]
      refine ⟨fun z => ?_, fun z => ?_⟩
      · unfold wX12_goesOn_J220
        rw [nI_1, show a - q + 1 = a + 1 - q by omega, g8, nI_1]
        refine ⟨lk75 L1, ih (a + 1) (by omega) (by omega) _ (f1.pp (Or.inl rfl) _) (fun j hj hj' => ?_) (by rw [gII, if_pos ⟨rfl, rfl⟩]) (fun y => by omega)⟩
        rw [gII, if_neg (fun y => hj y.2)]; exact k1 j hj hj'
      · rw [g8]
        refine rsp_byteAt L1 E n9 T1 (by omega) ?_
        unfold wX12_goesOn_J220
        have ev : rbI B n a = nI (B a) := by unfold rbI; rw [if_pos an]
        rw [nI_1, show a - q + 1 = a + 1 - q by omega, ev, g12 (by omega), show (10 : Int32) = nI 10 from rfl, pk_mul, nI_add, show (48 : Int32) = nI 48 from rfl, pk_sub (by omega)]
        have e8' : ∀ v, gI (pI m1 75 12 v) 75 8 = nI a := fun v => by rw [gII, if_neg (by decide)]; exact g8
        rw [e8', nI_1]
        refine ⟨lk75 L1, ih (a + 1) (by omega) (by omega) _ ((f1.pp (Or.inr (Or.inr (Or.inr (Or.inr rfl)))) _).pp (Or.inl rfl) _) (fun j hj hj' => ?_) (by rw [gII, if_pos ⟨rfl, rfl⟩]) (fun y => ?_)⟩
        · rw [gII, if_neg (fun y => hj y.2), gII, if_neg (fun y => hj' y.2)]; exact k1 j hj hj'
        · rw [gII, if_neg (by decide), gII, if_pos ⟨rfl, rfl⟩, show a + 1 - q = (a - q) + 1 by omega, dv, show q + (a - q) = a by omega]
          congr 1
          omega
  have := key (run isDg B n q - q) q (by omega) (Nat.le_refl _) m RkF.rf (fun _ _ _ => rfl) e8 (fun _ => by rw [e12, Nat.sub_self]; rfl)
  rw [Nat.sub_self] at this
  exact this
theorem rsp_goesOn (L : Lay t m) (en : gI m 75 7 = nI n) (n9 : n ≤ 900) (tp : ∀ k, k < n → TB (gI m 76 k) (B k)) (e8 : gI m 75 8 = nI a) (ha : a ≤ n) (h5 : ¬ gI m 75 9 = 5) {Q : zM → Prop} (hQ : ∀ m', RkF m m' → RTk m' (tkn B n a) → Q m') : wX12_goesOn t m 75 Q := by
  obtain ⟨b1, b2, b3, b4⟩ := run_bd (p := isBl) (B := B) ha
  generalize hq : run isBl B n a = q at *
  unfold wX12_goesOn
  refine ⟨lk75 L, fun z => absurd z h5, fun _ => ⟨q - a + 1, ?_⟩⟩
  generalize hK : (fun m7 => wX12_byteAt t (pI (pI (pI m7 75 10 (gI m7 75 8)) 75 9 0) 75 11 0) 75 (gI (pI (pI (pI m7 75 10 (gI m7 75 8)) 75 9 0) 75 11 0) 75 8) _) = K
  have fin : ∀ m1, RkF m m1 → gI m1 75 8 = nI q → K m1 := by
    intro m1 f1 g8
    rw [← hK]
    show wX12_byteAt t (pI (pI (pI m1 75 10 (gI m1 75 8)) 75 9 0) 75 11 0) 75 (gI (pI (pI (pI m1 75 10 (gI m1 75 8)) 75 9 0) 75 11 0) 75 8) _
    have F : RkF m (pI (pI (pI m1 75 10 (gI m1 75 8)) 75 9 0) 75 11 0) := ((f1.pp (Or.inr (Or.inr (Or.inl rfl))) _).pp (Or.inr (Or.inl rfl)) _).pp (Or.inr (Or.inr (Or.inr (Or.inl rfl)))) _
    have H8 : gI (pI (pI (pI m1 75 10 (gI m1 75 8)) 75 9 0) 75 11 0) 75 8 = nI q := by rw [gII, if_neg (by decide), gII, if_neg (by decide), gII, if_neg (by decide)]; exact g8
    have H10 : gI (pI (pI (pI m1 75 10 (gI m1 75 8)) 75 9 0) 75 11 0) 75 10 = nI q := by rw [gII, if_neg (by decide), gII, if_neg (by decide), gII, if_pos ⟨rfl, rfl⟩]; exact g8
    have H9 : gI (pI (pI (pI m1 75 10 (gI m1 75 8)) 75 9 0) 75 11 0) 75 9 = 0 := by rw [gII, if_neg (by decide), gII, if_pos ⟨rfl, rfl⟩]
    generalize pI (pI (pI m1 75 10 (gI m1 75 8)) 75 9 0) 75 11 0 = m3 at *
    have L3 := L.fr F.1
    have E : gI m3 75 7 = nI n := (F.2 7 (by decide) (by decide) (by decide) (by decide) (by decide)).trans en
    have T3 : ∀ k, k < n → TB (gI m3 76 k) (B k) := fun k hk => by rw [F.1.I (by decide)]; exact tp k hk
    have hb : q < n → B q < 256 := fun h => (T3 q h).1
    rw [H8]
    refine rsp_byteAt L3 E n9 T3 (by omega) ?_
    rw [rb_no hb]
    refine ⟨fun z => hQ _ (F.pp (Or.inr (Or.inl rfl)) _) ?_, fun z => rsp_isLetter hb (fun h1 h2 => ⟨fun z => absurd z (by decide), fun _ => ?_⟩) (fun h1 => ⟨fun _ => rsp_isDigit hb (fun h3 h4 => ⟨fun z => absurd z (by decide), fun _ => ?_⟩) (fun h3 => ⟨fun _ => ?_, fun z => absurd rfl z⟩), fun z => absurd rfl z⟩)⟩
    · rw [tkn_end hq (by omega)]
      refine ⟨?_, ?_, fun _ => ?_, fun h => absurd (show (0 : Nat) = 1 from h) (by decide), fun h => absurd (show (0 : Nat) = 2 from h) (by decide), fun h => absurd (show (0 : Nat) = 3 from h) (by decide), fun h => absurd (show (0 : Nat) = 4 from h) (by decide)⟩
      · rw [gII, if_pos ⟨rfl, rfl⟩]; rfl
      · rw [gII, if_neg (by decide)]; exact H10
      · rw [gII, if_neg (by decide)]; exact H8
    · have F4 : RkF m (pJ m3 75 15 0) := F.w 15 0
      refine rsp_letters (L.fr F4.1) E n9 T3 b2 H8 (by rw [gJJ, if_pos ⟨rfl, rfl⟩]) (fun m' f' k' g8' g15' => ?_)
      have c := run_bd (p := isLt) (B := B) b2
      rw [show (8 : Int32) = nI 8 from rfl, nI_ltI (by decide) (by omega)]
      refine ⟨fun y => hQ m' (F4.tr f') ?_, fun y => hQ _ ((F4.tr f').pp (Or.inr (Or.inl rfl)) _) ?_⟩
      · rw [tkn_word hq h1 h2, if_neg (by omega)]
        exact ⟨(k' 9 (by decide)).trans H9, (k' 10 (by decide)).trans H10, fun w => absurd rfl w, fun h => absurd (show (5 : Nat) = 1 from h) (by decide), fun h => absurd (show (5 : Nat) = 2 from h) (by decide), fun h => absurd (show (5 : Nat) = 3 from h) (by decide), fun h => absurd (show (5 : Nat) = 4 from h) (by decide)⟩
      · rw [tkn_word hq h1 h2, if_pos (by omega)]
        refine ⟨?_, ?_, fun _ => ?_, fun _ => g15' (by omega), fun h => absurd (show (1 : Nat) = 2 from h) (by decide), fun h => absurd (show (1 : Nat) = 3 from h) (by decide), fun h => absurd (show (1 : Nat) = 4 from h) (by decide)⟩
        · rw [gII, if_pos ⟨rfl, rfl⟩]; rfl
        · rw [gII, if_neg (by decide)]; exact (k' 10 (by decide)).trans H10
        · rw [gII, if_neg (by decide)]; exact g8'
    · have hl : isLt (B q) = false := by
        cases y : isLt (B q) with
        | false => rfl
        | true => exact absurd ⟨h3, y⟩ h1
      have F4 : RkF m (pI m3 75 12 0) := F.pp (Or.inr (Or.inr (Or.inr (Or.inr rfl)))) 0
      refine rsp_digits (L.fr F4.1) (by rw [gII, if_neg (by decide)]; exact E) n9 T3 b2 (by rw [gII, if_neg (by decide)]; exact H8) (by rw [gII, if_pos ⟨rfl, rfl⟩]) (fun m' f' k' g8' g12' => ?_)
      have c := run_bd (p := isDg) (B := B) b2
      have k9 : gI m' 75 9 = 0 := (k' 9 (by decide) (by decide)).trans (by rw [gII, if_neg (by decide)]; exact H9)
      have k10 : gI m' 75 10 = nI q := (k' 10 (by decide) (by decide)).trans (by rw [gII, if_neg (by decide)]; exact H10)
      rw [show (3 : Int32) = nI 3 from rfl, nI_ltI (by decide) (by omega)]
      refine ⟨fun y => hQ m' (F4.tr f') ?_, fun y => hQ _ ((F4.tr f').pp (Or.inr (Or.inl rfl)) _) ?_⟩
      · rw [tkn_whole hq h3 hl h4, if_neg (by omega)]
        exact ⟨k9, k10, fun w => absurd rfl w, fun h => absurd (show (5 : Nat) = 1 from h) (by decide), fun h => absurd (show (5 : Nat) = 2 from h) (by decide), fun h => absurd (show (5 : Nat) = 3 from h) (by decide), fun h => absurd (show (5 : Nat) = 4 from h) (by decide)⟩
      · rw [tkn_whole hq h3 hl h4, if_pos (by omega)]
        refine ⟨?_, ?_, fun _ => ?_, fun h => absurd (show (2 : Nat) = 1 from h) (by decide), fun _ => ?_, fun h => absurd (show (2 : Nat) = 3 from h) (by decide), fun h => absurd (show (2 : Nat) = 4 from h) (by decide)⟩
        · rw [gII, if_pos ⟨rfl, rfl⟩]; rfl
        · rw [gII, if_neg (by decide)]; exact k10
        · rw [gII, if_neg (by decide)]; exact g8'
        · rw [gII, if_neg (by decide)]; exact g12' (by omega)
    · have hn : q < n := by omega
      have hl : isLt (B q) = false := by
        cases y : isLt (B q) with
        | false => rfl
        | true => exact absurd ⟨hn, y⟩ h1
      have hd : isDg (B q) = false := by
        cases y : isDg (B q) with
        | false => rfl
        | true => exact absurd ⟨hn, y⟩ h3
      rw [show (59 : Int32) = nI 59 from rfl, show (44 : Int32) = nI 44 from rfl, rb_eq hb (by decide), rb_eq hb (by decide)]
      have ev : rbI B n q = nI (B q) := by unfold rbI; rw [if_pos hn]
      have g8 : ∀ v w, gI (pI (pI m3 75 9 v) 75 11 w) 75 8 = nI q := fun v w => by rw [gII, if_neg (by decide), gII, if_neg (by decide)]; exact H8
      have FF : ∀ v w y, RkF m (pI (pI (pI m3 75 9 v) 75 11 w) 75 8 y) := fun v w y => ((F.pp (Or.inr (Or.inl rfl)) _).pp (Or.inr (Or.inr (Or.inr (Or.inl rfl)))) _).pp (Or.inl rfl) _
      have r10 : ∀ v w y, gI (pI (pI (pI m3 75 9 v) 75 11 w) 75 8 y) 75 10 = nI q := fun v w y => by rw [gII, if_neg (by decide), gII, if_neg (by decide), gII, if_neg (by decide)]; exact H10
      have r9 : ∀ v w y, gI (pI (pI (pI m3 75 9 v) 75 11 w) 75 8 y) 75 9 = v := fun v w y => by rw [gII, if_neg (by decide), gII, if_neg (by decide), gII, if_pos ⟨rfl, rfl⟩]
      have r11 : ∀ v w y, gI (pI (pI (pI m3 75 9 v) 75 11 w) 75 8 y) 75 11 = w := fun v w y => by rw [gII, if_neg (by decide), gII, if_pos ⟨rfl, rfl⟩]
      have r8 : ∀ v w y, gI (pI (pI (pI m3 75 9 v) 75 11 w) 75 8 y) 75 8 = y := fun v w y => by rw [gII, if_pos ⟨rfl, rfl⟩]
      refine ⟨fun y => ?_, fun y => ⟨fun y2 => ?_, fun y2 => hQ m3 F ?_⟩⟩
      · unfold wX12_goesOn_J261
        rw [g8, nI_1]
        refine ⟨lk75 L3, hQ _ (FF _ _ _) ?_⟩
        rw [tkn_sign hq hn hl hd, if_pos y.2]
        exact ⟨r9 _ _ _, r10 _ _ _, fun _ => r8 _ _ _, fun h => absurd (show (3 : Nat) = 1 from h) (by decide), fun h => absurd (show (3 : Nat) = 2 from h) (by decide), fun _ => (r11 _ _ _).trans (by rw [ev, y.2]; rfl), fun h => absurd (show (3 : Nat) = 4 from h) (by decide)⟩
      · unfold wX12_goesOn_J261
        rw [g8, nI_1]
        refine ⟨lk75 L3, hQ _ (FF _ _ _) ?_⟩
        rw [tkn_sign hq hn hl hd, if_neg (fun w => y ⟨hn, w⟩), if_pos y2.2]
        exact ⟨r9 _ _ _, r10 _ _ _, fun _ => r8 _ _ _, fun h => absurd (show (4 : Nat) = 1 from h) (by decide), fun h => absurd (show (4 : Nat) = 2 from h) (by decide), fun h => absurd (show (4 : Nat) = 3 from h) (by decide), fun _ => (r11 _ _ _).trans (by rw [ev, y2.2]; rfl)⟩
      · rw [tkn_sign hq hn hl hd, if_neg (fun w => y ⟨hn, w⟩), if_neg (fun w => y2 ⟨hn, w⟩)]
        exact ⟨H9, H10, fun w => absurd rfl w, fun h => absurd (show (5 : Nat) = 1 from h) (by decide), fun h => absurd (show (5 : Nat) = 2 from h) (by decide), fun h => absurd (show (5 : Nat) = 3 from h) (by decide), fun h => absurd (show (5 : Nat) = 4 from h) (by decide)⟩
  have key : ∀ dd i : Nat, i + dd = q → a ≤ i → ∀ m1, RkF m m1 → gI m1 75 8 = nI i → wX12_goesOn_L9 t 75 Q K (dd + 1) m1 := by
    intro dd
    induction dd with
    | zero =>
      intro i hi ai m1 f1 g8
      have e : i = q := by omega
      have L1 := L.fr f1.1
      have E : gI m1 75 7 = nI n := (f1.2 7 (by decide) (by decide) (by decide) (by decide) (by decide)).trans en
      have T1 : ∀ k, k < n → TB (gI m1 76 k) (B k) := fun k hk => by rw [f1.1.I (by decide)]; exact tp k hk
      rw [wX12_goesOn_L9, g8]
      refine ⟨lk75 L1, rsp_byteAt L1 E n9 T1 (by omega) ?_⟩
      rw [show (32 : Int32) = nI 32 from rfl, rb_eq (fun h => (T1 i h).1) (by decide)]
      refine ⟨fun z => ?_, fun _ => fin m1 f1 (by rw [← e]; exact g8)⟩
      have := b3 (by omega)
      rw [← e, isBl_t.mpr z.2] at this
      cases this
    | succ dd ih =>
      intro i hi ai m1 f1 g8
      have L1 := L.fr f1.1
      have E : gI m1 75 7 = nI n := (f1.2 7 (by decide) (by decide) (by decide) (by decide) (by decide)).trans en
      have T1 : ∀ k, k < n → TB (gI m1 76 k) (B k) := fun k hk => by rw [f1.1.I (by decide)]; exact tp k hk
      rw [wX12_goesOn_L9, g8]
      refine ⟨lk75 L1, rsp_byteAt L1 E n9 T1 (by omega) ?_⟩
      rw [show (32 : Int32) = nI 32 from rfl, rb_eq (fun h => (T1 i h).1) (by decide), g8, nI_1]
      refine ⟨fun _ => ih (i + 1) (by omega) (by omega) _ (f1.pp (Or.inl rfl) _) (by rw [gII, if_pos ⟨rfl, rfl⟩]), fun z => absurd ⟨by omega, isBl_t.mp (b4 i ai (by omega))⟩ z⟩
  exact key (q - a) a (by omega) (Nat.le_refl _) m RkF.rf e8
end
