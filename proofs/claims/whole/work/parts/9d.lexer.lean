/-! Texts: tokens as numbers, and the class's reading of them -/
abbrev Tk : Type := Nat × Nat × Nat × Nat
def isLt (b : Nat) : Bool := decide (97 ≤ b) && decide (b ≤ 122)
def isDg (b : Nat) : Bool := decide (48 ≤ b) && decide (b ≤ 57)
def isBl (b : Nat) : Bool := b == 32
def rn (p : Nat → Bool) (B : Nat → Nat) (n : Nat) : Nat → Nat → Nat
  | 0, a => a
  | f + 1, a => if decide (a < n) && p (B a) then rn p B n f (a + 1) else a
/-- the end of a run -/
def run (p : Nat → Bool) (B : Nat → Nat) (n a : Nat) : Nat := rn p B n (n - a) a
/-- a word, five bits a letter -/
def wv (B : Nat → Nat) (s : Nat) : Nat → Nat
  | 0 => 0
  | l + 1 => 32 * wv B s l + (B (s + l) - 96)
/-- a word, eight bits a letter -/
def cv (B : Nat → Nat) (s : Nat) : Nat → Nat
  | 0 => 0
  | l + 1 => 256 * cv B s l + B (s + l)
def dv (B : Nat → Nat) (s : Nat) : Nat → Nat
  | 0 => 0
  | l + 1 => 10 * dv B s l + (B (s + l) - 48)
/-- from five bits to eight -/
def cvf : Nat → Nat → Nat
  | 0, _ => 0
  | f + 1, w => if w = 0 then 0 else 256 * cvf f (w / 32) + (w % 32 + 96)
/-- the token at a place: what it is (0 the end, 1 a word, 2 a whole, 3 and 4 signs, 5 none), where, what comes behind, its worth -/
def tkn (B : Nat → Nat) (n a : Nat) : Tk :=
  if n ≤ run isBl B n a then (0, run isBl B n a, run isBl B n a, 0)
  else if isLt (B (run isBl B n a)) then
    (if run isLt B n (run isBl B n a) - run isBl B n a ≤ 8 then 1 else 5, run isBl B n a, run isLt B n (run isBl B n a), wv B (run isBl B n a) (run isLt B n (run isBl B n a) - run isBl B n a))
  else if isDg (B (run isBl B n a)) then
    (if run isDg B n (run isBl B n a) - run isBl B n a ≤ 3 then 2 else 5, run isBl B n a, run isDg B n (run isBl B n a), dv B (run isBl B n a) (run isDg B n (run isBl B n a) - run isBl B n a))
  else (if B (run isBl B n a) = 59 then 3 else if B (run isBl B n a) = 44 then 4 else 5, run isBl B n a, run isBl B n a + 1, 0)
/-- a byte of the tape -/
def TB (x : Int32) (b : Nat) : Prop := b < 256 ∧ x.toInt = if b < 128 then (b : Int) else (b : Int) - 256
/-- the token in the class -/
def CTk (m : zM) (k : Tk) : Prop := (gI m 2 6 = nI k.1) ∧ (gI m 2 5 = nI k.2.1) ∧ (gI m 2 3 = nI k.2.2.1) ∧ (k.1 = 1 → gJ m 2 7 = lN (cvf 8 k.2.2.2) ∧ k.2.2.2 < 1099511627776) ∧ (k.1 = 2 → gI m 2 8 = nI k.2.2.2 ∧ k.2.2.2 < 1000)
theorem CTk.kd {m : zM} {k : Tk} (h_ : CTk m k) : gI m 2 6 = nI k.1 := h_.1
theorem CTk.pl_ {m : zM} {k : Tk} (h_ : CTk m k) : gI m 2 5 = nI k.2.1 := h_.2.1
theorem CTk.nx_ {m : zM} {k : Tk} (h_ : CTk m k) : gI m 2 3 = nI k.2.2.1 := h_.2.2.1
theorem CTk.wd {m : zM} {k : Tk} (h_ : CTk m k) : k.1 = 1 → gJ m 2 7 = lN (cvf 8 k.2.2.2) ∧ k.2.2.2 < 1099511627776 := h_.2.2.2.1
theorem CTk.wh {m : zM} {k : Tk} (h_ : CTk m k) : k.1 = 2 → gI m 2 8 = nI k.2.2.2 ∧ k.2.2.2 < 1000 := h_.2.2.2.2
/-- what reading a token may touch in the class -/
def TkF (m m' : zM) : Prop := Fr [2] m m' ∧ ∀ j, j ≠ 3 → j ≠ 5 → j ≠ 6 → j ≠ 8 → gI m' 2 j = gI m 2 j
section
variable {t : zT} {m m' m1 m2 : zM} {B : Nat → Nat} {n a b : Nat} {p : Nat → Bool} {x : Int32}
theorem run_go (h : a < n) (hp : p (B a) = true) : run p B n a = run p B n (a + 1) := by
  unfold run
  rw [show n - a = (n - (a + 1)) + 1 by omega, rn, hp, decide_eq_true h]
  rfl
theorem run_st (h : ¬ (a < n ∧ p (B a) = true)) : run p B n a = a := by
  unfold run
  cases hf : n - a with
  | zero => rfl
  | succ f =>
    rw [rn]
    cases hb : decide (a < n) && p (B a) with
    | false => rfl
    | true =>
      rw [Bool.and_eq_true, decide_eq_true_eq] at hb
      exact absurd hb h
theorem run_b : ∀ (f a : Nat), n - a = f → a ≤ n → a ≤ run p B n a ∧ run p B n a ≤ n ∧ (run p B n a < n → p (B (run p B n a)) = false) ∧ ∀ i, a ≤ i → i < run p B n a → p (B i) = true := by
  intro f
  induction f with
  | zero =>
    intro a hf ha
    have e : a = n := by omega
    rw [run_st (by omega)]
    exact ⟨Nat.le_refl _, ha, fun h => by omega, fun i h1 h2 => by omega⟩
  | succ f ih =>
    intro a hf ha
    by_cases h : a < n ∧ p (B a) = true
    · obtain ⟨q1, q2, q3, q4⟩ := ih (a + 1) (by omega) (by omega)
      rw [run_go h.1 h.2]
      refine ⟨by omega, q2, q3, fun i h1 h2 => ?_⟩
      rcases (show i = a ∨ a + 1 ≤ i by omega) with z | z
      · rw [z]; exact h.2
      · exact q4 i z h2
    · rw [run_st h]
      refine ⟨Nat.le_refl _, ha, fun hn => ?_, fun i h1 h2 => by omega⟩
      cases hb : p (B a) with
      | false => rfl
      | true => exact absurd ⟨hn, hb⟩ h
theorem run_bd (ha : a ≤ n) : a ≤ run p B n a ∧ run p B n a ≤ n ∧ (run p B n a < n → p (B (run p B n a)) = false) ∧ ∀ i, a ≤ i → i < run p B n a → p (B i) = true := run_b (n - a) a rfl ha
theorem TB.lt (h : TB x b) (c : Nat) (hc : c < 128) : x < nI c ↔ b < c ∨ 128 ≤ b := by
  obtain ⟨h1, h2⟩ := h
  rw [fa_lt, nI_toInt (by omega), h2]
  split <;> omega
theorem TB.gt (h : TB x b) (c : Nat) (hc : c < 128) : nI c < x ↔ c < b ∧ b < 128 := by
  obtain ⟨h1, h2⟩ := h
  rw [fa_lt, nI_toInt (by omega), h2]
  split <;> omega
theorem TB.eq (h : TB x b) (c : Nat) (hc : c < 128) : x = nI c ↔ b = c := by
  obtain ⟨h1, h2⟩ := h
  rw [fa_eq, nI_toInt (by omega), h2]
  split <;> omega
theorem TB.val (h : TB x b) (hb : b < 128) : x = nI b := (h.eq b hb).mpr rfl
theorem isLt_t : isLt b = true ↔ 97 ≤ b ∧ b ≤ 122 := by unfold isLt; rw [Bool.and_eq_true, decide_eq_true_eq, decide_eq_true_eq]
theorem isDg_t : isDg b = true ↔ 48 ≤ b ∧ b ≤ 57 := by unfold isDg; rw [Bool.and_eq_true, decide_eq_true_eq, decide_eq_true_eq]
theorem isBl_t : isBl b = true ↔ b = 32 := by unfold isBl; exact beq_iff_eq
-- words in five bits and in eight
theorem wv_lt {s : Nat} : ∀ l, (∀ i, i < l → isLt (B (s + i)) = true) → wv B s l < 32 ^ l := by
  intro l
  induction l with
  | zero => intro _; exact Nat.one_pos
  | succ l ih =>
    intro h
    have a := ih (fun i hi => h i (by omega))
    have b := isLt_t.mp (h l (by omega))
    rw [wv, Nat.pow_succ]
    omega
theorem cvf_wv {s : Nat} : ∀ l f, l ≤ f → (∀ i, i < l → isLt (B (s + i)) = true) → cvf f (wv B s l) = cv B s l := by
  intro l
  induction l with
  | zero =>
    intro f _ _
    cases f with
    | zero => rfl
    | succ f => rw [wv, cvf, if_pos rfl]; rfl
  | succ l ih =>
    intro f hf h
    obtain ⟨f', rfl⟩ : ∃ f', f = f' + 1 := ⟨f - 1, by omega⟩
    have b := isLt_t.mp (h l (by omega))
    rw [wv, cvf, if_neg (by omega), show (32 * wv B s l + (B (s + l) - 96)) / 32 = wv B s l by omega, show (32 * wv B s l + (B (s + l) - 96)) % 32 = B (s + l) - 96 by omega, ih f' (by omega) (fun i hi => h i (by omega)), cv]
    omega
theorem cvf_inj : ∀ f w w', w < 32 ^ f → w' < 32 ^ f → cvf f w = cvf f w' → w = w' := by
  intro f
  induction f with
  | zero => intro w w' h1 h2 _; rw [Nat.pow_zero] at h1 h2; omega
  | succ f ih =>
    intro w w' h1 h2 e
    rw [cvf, cvf] at e
    rw [Nat.pow_succ] at h1 h2
    by_cases z : w = 0
    · by_cases z' : w' = 0
      · rw [z, z']
      · rw [if_pos z, if_neg z'] at e; omega
    · by_cases z' : w' = 0
      · rw [if_neg z, if_pos z'] at e; omega
      · rw [if_neg z, if_neg z'] at e
        have m1 : w % 32 < 32 := Nat.mod_lt _ (by decide)
        have m2 : w' % 32 < 32 := Nat.mod_lt _ (by decide)
        have e1 : w % 32 = w' % 32 := by omega
        have e2 := ih (w / 32) (w' / 32) (by omega) (by omega) (by omega)
        omega
theorem cvf_b : ∀ f w, 255 * cvf f w ≤ 127 * (256 ^ f - 1) := by
  intro f
  induction f with
  | zero => intro w; exact Nat.le_refl _
  | succ f ih =>
    intro w
    have a := ih (w / 32)
    have p := Nat.one_le_two_pow (n := 8 * f)
    have e : 256 ^ f = 2 ^ (8 * f) := by rw [Nat.pow_mul]
    have m1 : w % 32 < 32 := Nat.mod_lt _ (by decide)
    rw [cvf, Nat.pow_succ]
    split <;> omega
theorem cvf_63 (w : Nat) : cvf 8 w < 2 ^ 63 := by
  have := cvf_b 8 w
  omega
theorem cvf_eq {w w' : Nat} (h1 : w < 1099511627776) (h2 : w' < 1099511627776) : lN (cvf 8 w) = lN (cvf 8 w') ↔ w = w' := by
  rw [pk_lEQ (cvf_63 w) (cvf_63 w')]
  exact ⟨fun e => cvf_inj 8 w w' (by omega) (by omega) e, fun e => by rw [e]⟩
theorem wv_40 {s l : Nat} (hl : l ≤ 8) (h : ∀ i, i < l → isLt (B (s + i)) = true) : wv B s l < 1099511627776 := by
  have a := wv_lt l h
  have : 32 ^ l ≤ 32 ^ 8 := Nat.pow_le_pow_right (by decide) hl
  omega
theorem dv_lt {s : Nat} : ∀ l, (∀ i, i < l → isDg (B (s + i)) = true) → dv B s l < 10 ^ l := by
  intro l
  induction l with
  | zero => intro _; exact Nat.one_pos
  | succ l ih =>
    intro h
    have a := ih (fun i hi => h i (by omega))
    have b := isDg_t.mp (h l (by omega))
    rw [dv, Nat.pow_succ]
    omega
theorem dv_3 {s l : Nat} (hl : l ≤ 3) (h : ∀ i, i < l → isDg (B (s + i)) = true) : dv B s l < 1000 := by
  have a := dv_lt l h
  have : 10 ^ l ≤ 10 ^ 3 := Nat.pow_le_pow_right (by decide) hl
  omega
theorem TkF.rf : TkF m m := ⟨Fr.rf, fun _ _ _ _ _ => rfl⟩
theorem TkF.tr (h1 : TkF m m1) (h2 : TkF m1 m2) : TkF m m2 := ⟨h1.1.tr h2.1, fun j a b c d => (h2.2 j a b c d).trans (h1.2 j a b c d)⟩
theorem TkF.pp (h : TkF m m1) {j : Nat} (hj : j = 3 ∨ j = 5 ∨ j = 6 ∨ j = 8) (v : Int32) : TkF m (pI m1 2 j v) := ⟨Fr.pI h.1 (by decide), fun i a b c d => by rw [gII, if_neg (by omega)]; exact h.2 i a b c d⟩
theorem TkF.w (h : TkF m m1) (j : Nat) (v : Int64) : TkF m (pJ m1 2 j v) := ⟨Fr.pJ h.1 (by decide), h.2⟩
theorem TkF.tape (h : TkF m m1) (k : Nat) : gI m1 3 k = gI m 3 k := h.1.I (by decide) k
-- the class's tokens
theorem sp_nextWord (L : Lay t m) (e2 : gI m 2 2 = nI n) (n9 : n ≤ 900) (tp : ∀ k, k < n → TB (gI m 3 k) (B k)) {q : Nat} (e3 : gI m 2 3 = nI q) (e5 : gI m 2 5 = nI q) (hq : q ≤ n) {Q : zM → Prop} (hQ : ∀ m', TkF m m' → gI m' 2 5 = nI q → gI m' 2 3 = nI (run isLt B n q) → gJ m' 2 7 = lN (cv B q (run isLt B n q - q)) → gI m' 2 6 = nI (if run isLt B n q - q ≤ 8 then 1 else 5) → Q m') : wX3_nextWord t m 2 Q := by
  obtain ⟨b1, b2, b3, b4⟩ := run_bd (p := isLt) (B := B) hq
  unfold wX3_nextWord
  refine ⟨lk2 L, run isLt B n q - q + 1, ?_⟩
  have key : ∀ dd a : Nat, a + dd = run isLt B n q → q ≤ a → ∀ m1, TkF m m1 → gI m1 2 5 = nI q → gI m1 2 3 = nI a → gJ m1 2 7 = lN (cv B q (a - q)) → wX3_nextWord_L5 t 2 Q (fun m8 => wX3_nextWord_J79 t m8 2 Q) (dd + 1) m1 := by
    intro dd
    induction dd with
    | zero =>
      intro a ha qa m1 f1 g5 g3 g7
      have e : a = run isLt B n q := by omega
      have L1 := L.fr f1.1
      have E2 : gI m1 2 2 = nI n := (f1.2 2 (by decide) (by decide) (by decide) (by decide)).trans e2
      have fin : wX3_nextWord_J79 t m1 2 Q := by
        unfold wX3_nextWord_J79
        rw [g3, g5, pk_sub qa, show (8 : Int32) = nI 8 from rfl, nI_ltI (by decide) (by omega)]
        refine ⟨lk2 L, fun h => hQ _ (f1.pp (Or.inr (Or.inr (Or.inl rfl))) _) ?_ ?_ ?_ ?_, fun h => hQ _ (f1.pp (Or.inr (Or.inr (Or.inl rfl))) _) ?_ ?_ ?_ ?_⟩
        · exact g5
        · rw [← e]; exact g3
        · rw [← e]; exact g7
        · rw [gII, if_pos ⟨rfl, rfl⟩, ← e, if_neg (by omega)]; rfl
        · exact g5
        · rw [← e]; exact g3
        · rw [← e]; exact g7
        · rw [gII, if_pos ⟨rfl, rfl⟩, ← e, if_pos (by omega)]; rfl
      rw [wX3_nextWord_L5, E2, g3, nI_leI (by omega) (by omega), lr2_0 L1, lk3 L, ll3 L, nI_cl (show a < 2 ^ 31 by omega)]
      refine ⟨lk2 L, fun _ => fin, fun hn => ⟨rfl, vp_nI (by omega) (by decide), ?_⟩⟩
      have an : a < n := by omega
      have tb : TB (gI m1 3 a) (B a) := by rw [f1.tape]; exact tp a an
      have nl := b3 (by omega)
      rw [← e] at nl
      have hlt := tb.lt 97 (by decide)
      have hgt := tb.gt 122 (by decide)
      have nl' : ¬ (97 ≤ B a ∧ B a ≤ 122) := fun z => by rw [isLt_t.mpr z] at nl; cases nl
      refine ⟨fun _ => fin, fun h1 => ⟨fun _ => fin, fun h2 => ?_⟩⟩
      exfalso
      have h1' : ¬ (B a < 97 ∨ 128 ≤ B a) := fun z => h1 (hlt.mpr z)
      have h2' : ¬ (122 < B a ∧ B a < 128) := fun z => h2 (hgt.mpr z)
      omega
    | succ dd ih =>
      intro a ha qa m1 f1 g5 g3 g7
      have L1 := L.fr f1.1
      have E2 : gI m1 2 2 = nI n := (f1.2 2 (by decide) (by decide) (by decide) (by decide)).trans e2
      have an : a < n := by omega
      have tb : TB (gI m1 3 a) (B a) := by rw [f1.tape]; exact tp a an
      have yl := isLt_t.mp (b4 a qa (by omega))
      have hlt := tb.lt 97 (by decide)
      have hgt := tb.gt 122 (by decide)
      have ev := tb.val (show B a < 128 by omega)
      rw [wX3_nextWord_L5, E2, g3, nI_leI (by omega) (by omega), lr2_0 L1, lk3 L, ll3 L, nI_cl (show a < 2 ^ 31 by omega), ev, g7, nI_l (show B a < 2 ^ 31 by omega)]
      rw [ev] at hlt hgt
      refine ⟨lk2 L, fun h => by omega, fun _ => ⟨rfl, vp_nI (by omega) (by decide), fun h => ?_, fun _ => ⟨fun h => ?_, fun _ => ih (a + 1) (by omega) (by omega) _ ((f1.w 7 _).pp (Or.inl rfl) _) g5 ?_ ?_⟩⟩⟩
      · have := hlt.mp h; omega
      · have := hgt.mp h; omega
      · rw [gII, if_pos ⟨rfl, rfl⟩, nI_1]
      · rw [gJI, gJJ, if_pos ⟨rfl, rfl⟩, show (8 : Int32) = nI 8 from rfl, wb_shl _ (by decide), Nat.mul_comm, fb_or_sumL _ (show B a < 2 ^ 8 by omega), show a + 1 - q = (a - q) + 1 by omega, cv, show q + (a - q) = a by omega]
  exact key (run isLt B n q - q) q (by omega) (Nat.le_refl _) _ (TkF.rf.w 7 0) e5 e3 (by rw [gJJ, if_pos ⟨rfl, rfl⟩, Nat.sub_self]; rfl)
theorem sp_nextWhole (L : Lay t m) (e2 : gI m 2 2 = nI n) (n9 : n ≤ 900) (tp : ∀ k, k < n → TB (gI m 3 k) (B k)) {q : Nat} (e3 : gI m 2 3 = nI q) (e5 : gI m 2 5 = nI q) (hq : q ≤ n) {Q : zM → Prop} (hQ : ∀ m', TkF m m' → gI m' 2 5 = nI q → gI m' 2 3 = nI (run isDg B n q) → gI m' 2 8 = nI (dv B q (run isDg B n q - q)) → gI m' 2 6 = nI (if run isDg B n q - q ≤ 3 then 2 else 5) → Q m') : wX3_nextWhole t m 2 Q := by
  obtain ⟨b1, b2, b3, b4⟩ := run_bd (p := isDg) (B := B) hq
  unfold wX3_nextWhole
  refine ⟨lk2 L, run isDg B n q - q + 1, ?_⟩
  have key : ∀ dd a : Nat, a + dd = run isDg B n q → q ≤ a → ∀ m1, TkF m m1 → gI m1 2 5 = nI q → gI m1 2 3 = nI a → gI m1 2 8 = nI (dv B q (a - q)) → wX3_nextWhole_L5 t 2 Q (fun m8 => wX3_nextWhole_J81 t m8 2 Q) (dd + 1) m1 := by
    intro dd
    induction dd with
    | zero =>
      intro a ha qa m1 f1 g5 g3 g7
      have e : a = run isDg B n q := by omega
      have L1 := L.fr f1.1
      have E2 : gI m1 2 2 = nI n := (f1.2 2 (by decide) (by decide) (by decide) (by decide)).trans e2
      have fin : wX3_nextWhole_J81 t m1 2 Q := by
        unfold wX3_nextWhole_J81
        rw [g3, g5, pk_sub qa, show (3 : Int32) = nI 3 from rfl, nI_ltI (by decide) (by omega)]
        refine ⟨lk2 L, fun h => hQ _ (f1.pp (Or.inr (Or.inr (Or.inl rfl))) _) ?_ ?_ ?_ ?_, fun h => hQ _ (f1.pp (Or.inr (Or.inr (Or.inl rfl))) _) ?_ ?_ ?_ ?_⟩
        · exact g5
        · rw [← e]; exact g3
        · rw [← e]; exact g7
        · rw [gII, if_pos ⟨rfl, rfl⟩, ← e, if_neg (by omega)]; rfl
        · exact g5
        · rw [← e]; exact g3
        · rw [← e]; exact g7
        · rw [gII, if_pos ⟨rfl, rfl⟩, ← e, if_pos (by omega)]; rfl
      rw [wX3_nextWhole_L5, E2, g3, nI_leI (by omega) (by omega), lr2_0 L1, lk3 L, ll3 L, nI_cl (show a < 2 ^ 31 by omega)]
      refine ⟨lk2 L, fun _ => fin, fun hn => ⟨rfl, vp_nI (by omega) (by decide), ?_⟩⟩
      have an : a < n := by omega
      have tb : TB (gI m1 3 a) (B a) := by rw [f1.tape]; exact tp a an
      have nl := b3 (by omega)
      rw [← e] at nl
      have hlt := tb.lt 48 (by decide)
      have hgt := tb.gt 57 (by decide)
      have nl' : ¬ (48 ≤ B a ∧ B a ≤ 57) := fun z => by rw [isDg_t.mpr z] at nl; cases nl
      refine ⟨fun _ => fin, fun h1 => ⟨fun _ => fin, fun h2 => ?_⟩⟩
      exfalso
      have h1' : ¬ (B a < 48 ∨ 128 ≤ B a) := fun z => h1 (hlt.mpr z)
      have h2' : ¬ (57 < B a ∧ B a < 128) := fun z => h2 (hgt.mpr z)
      omega
    | succ dd ih =>
      intro a ha qa m1 f1 g5 g3 g7
      have L1 := L.fr f1.1
      have E2 : gI m1 2 2 = nI n := (f1.2 2 (by decide) (by decide) (by decide) (by decide)).trans e2
      have an : a < n := by omega
      have tb : TB (gI m1 3 a) (B a) := by rw [f1.tape]; exact tp a an
      have yl := isDg_t.mp (b4 a qa (by omega))
      have hlt := tb.lt 48 (by decide)
      have hgt := tb.gt 57 (by decide)
      have ev := tb.val (show B a < 128 by omega)
      rw [wX3_nextWhole_L5, E2, g3, nI_leI (by omega) (by omega), lr2_0 L1, lk3 L, ll3 L, nI_cl (show a < 2 ^ 31 by omega), ev, g7]
      rw [ev] at hlt hgt
      have e10 : nI (dv B q (a - q)) * (10 : Int32) + nI (B a) - (48 : Int32) = nI (dv B q (a + 1 - q)) := by
        rw [show (10 : Int32) = nI 10 from rfl, show (48 : Int32) = nI 48 from rfl, pk_mul, nI_add, pk_sub (by omega), show a + 1 - q = (a - q) + 1 by omega, dv, show q + (a - q) = a by omega]
        congr 1
        omega
      rw [e10]
      have e3' : gI (pI m1 2 8 (nI (dv B q (a + 1 - q)))) 2 3 = nI a := by rw [gII, if_neg (by decide)]; exact g3
      rw [e3']
      refine ⟨lk2 L, fun h => by omega, fun _ => ⟨rfl, vp_nI (by omega) (by decide), fun h => ?_, fun _ => ⟨fun h => ?_, fun _ => ih (a + 1) (by omega) (by omega) _ ((f1.pp (Or.inr (Or.inr (Or.inr rfl))) _).pp (Or.inl rfl) _) g5 ?_ ?_⟩⟩⟩
      · have := hlt.mp h; omega
      · have := hgt.mp h; omega
      · rw [gII, if_pos ⟨rfl, rfl⟩, nI_1]
      · rw [gII, if_neg (by decide), gII, if_pos ⟨rfl, rfl⟩]
  exact key (run isDg B n q - q) q (by omega) (Nat.le_refl _) _ (TkF.rf.pp (Or.inr (Or.inr (Or.inr rfl))) 0) e5 e3 (by rw [gII, if_pos ⟨rfl, rfl⟩, Nat.sub_self]; rfl)
end
