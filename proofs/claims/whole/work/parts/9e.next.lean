/-! The class's next token -/
def adv (B : Nat → Nat) (n : Nat) (k : Tk) : Tk := tkn B n k.2.2.1
/-- what a token keeps to -/
def TO (n : Nat) (k : Tk) : Prop := (k.2.1 ≤ k.2.2.1) ∧ (k.2.2.1 ≤ n) ∧ (k.1 ≠ 0 → k.2.1 < k.2.2.1) ∧ (k.1 = 1 → k.2.2.2 < 1099511627776) ∧ (k.1 = 2 → k.2.2.2 < 1000) ∧ (k.1 ≤ 5)
theorem TO.le {n : Nat} {k : Tk} (h_ : TO n k) : k.2.1 ≤ k.2.2.1 := h_.1
theorem TO.nx_ {n : Nat} {k : Tk} (h_ : TO n k) : k.2.2.1 ≤ n := h_.2.1
theorem TO.lt_ {n : Nat} {k : Tk} (h_ : TO n k) : k.1 ≠ 0 → k.2.1 < k.2.2.1 := h_.2.2.1
theorem TO.wd {n : Nat} {k : Tk} (h_ : TO n k) : k.1 = 1 → k.2.2.2 < 1099511627776 := h_.2.2.2.1
theorem TO.wh {n : Nat} {k : Tk} (h_ : TO n k) : k.1 = 2 → k.2.2.2 < 1000 := h_.2.2.2.2.1
theorem TO.kd {n : Nat} {k : Tk} (h_ : TO n k) : k.1 ≤ 5 := h_.2.2.2.2.2
/-- what the class's reader stands on -/
def PB (t : zT) (m : zM) (B : Nat → Nat) (n : Nat) (k : Tk) : Prop := (Lay t m) ∧ (n ≤ 900) ∧ (gI m 2 2 = nI n) ∧ (∀ j, j < n → TB (gI m 3 j) (B j)) ∧ (CTk m k) ∧ (TO n k) ∧ (gI m 2 9 = 0)
theorem PB.lay {t : zT} {m : zM} {B : Nat → Nat} {n : Nat} {k : Tk} (h_ : PB t m B n k) : Lay t m := h_.1
theorem PB.n9 {t : zT} {m : zM} {B : Nat → Nat} {n : Nat} {k : Tk} (h_ : PB t m B n k) : n ≤ 900 := h_.2.1
theorem PB.en {t : zT} {m : zM} {B : Nat → Nat} {n : Nat} {k : Tk} (h_ : PB t m B n k) : gI m 2 2 = nI n := h_.2.2.1
theorem PB.tape {t : zT} {m : zM} {B : Nat → Nat} {n : Nat} {k : Tk} (h_ : PB t m B n k) : ∀ j, j < n → TB (gI m 3 j) (B j) := h_.2.2.2.1
theorem PB.tk {t : zT} {m : zM} {B : Nat → Nat} {n : Nat} {k : Tk} (h_ : PB t m B n k) : CTk m k := h_.2.2.2.2.1
theorem PB.ok {t : zT} {m : zM} {B : Nat → Nat} {n : Nat} {k : Tk} (h_ : PB t m B n k) : TO n k := h_.2.2.2.2.2.1
theorem PB.fl {t : zT} {m : zM} {B : Nat → Nat} {n : Nat} {k : Tk} (h_ : PB t m B n k) : gI m 2 9 = 0 := h_.2.2.2.2.2.2
section
variable {t : zT} {m m' m1 m2 : zM} {B : Nat → Nat} {n a b : Nat} {k : Tk} {x : Int32}
theorem tkn_end {q : Nat} (e : run isBl B n a = q) (h : n ≤ q) : tkn B n a = (0, q, q, 0) := by
  unfold tkn
  rw [e, if_pos h]
theorem tkn_word {q : Nat} (e : run isBl B n a = q) (h : q < n) (hl : isLt (B q) = true) : tkn B n a = (if run isLt B n q - q ≤ 8 then 1 else 5, q, run isLt B n q, wv B q (run isLt B n q - q)) := by
  unfold tkn
  rw [e, if_neg (by omega), if_pos hl]
theorem tkn_whole {q : Nat} (e : run isBl B n a = q) (h : q < n) (hl : isLt (B q) = false) (hd : isDg (B q) = true) : tkn B n a = (if run isDg B n q - q ≤ 3 then 2 else 5, q, run isDg B n q, dv B q (run isDg B n q - q)) := by
  unfold tkn
  rw [e, if_neg (by omega), hl, if_neg (by decide), if_pos hd]
theorem tkn_sign {q : Nat} (e : run isBl B n a = q) (h : q < n) (hl : isLt (B q) = false) (hd : isDg (B q) = false) : tkn B n a = (if B q = 59 then 3 else if B q = 44 then 4 else 5, q, q + 1, 0) := by
  unfold tkn
  rw [e, if_neg (by omega), hl, if_neg (by decide), hd, if_neg (by decide)]
theorem run_lt (h : a < n) {p : Nat → Bool} (hp : p (B a) = true) : a < run p B n a := by
  rw [run_go h hp]
  have := (run_bd (p := p) (B := B) (show a + 1 ≤ n by omega)).1
  omega
/-- where a token stands -/
theorem tkn_bd (ha : a ≤ n) : a ≤ (tkn B n a).2.1 ∧ (tkn B n a).2.1 ≤ (tkn B n a).2.2.1 ∧ (tkn B n a).2.2.1 ≤ n ∧ ((tkn B n a).1 ≠ 0 → (tkn B n a).2.1 < (tkn B n a).2.2.1) := by
  obtain ⟨b1, b2, b3, b4⟩ := run_bd (p := isBl) (B := B) ha
  generalize hq : run isBl B n a = q at *
  by_cases h : n ≤ q
  · rw [tkn_end hq h]
    exact ⟨b1, Nat.le_refl _, b2, fun z => absurd rfl z⟩
  · have h' : q < n := by omega
    cases hl : isLt (B q) with
    | true =>
      rw [tkn_word hq h' hl]
      have c := run_bd (p := isLt) (B := B) b2
      have d := run_lt h' hl
      exact ⟨b1, c.1, c.2.1, fun _ => d⟩
    | false =>
      cases hd : isDg (B q) with
      | true =>
        rw [tkn_whole hq h' hl hd]
        have c := run_bd (p := isDg) (B := B) b2
        have d := run_lt h' hd
        exact ⟨b1, c.1, c.2.1, fun _ => d⟩
      | false =>
        rw [tkn_sign hq h' hl hd]
        exact ⟨b1, Nat.le_succ _, h', fun _ => Nat.lt_succ_self _⟩
theorem tkn_ok (ha : a ≤ n) : TO n (tkn B n a) := by
  obtain ⟨q1, q2, q3, q4⟩ := tkn_bd (B := B) ha
  refine ⟨q2, q3, q4, ?_⟩
  obtain ⟨b1, b2, b3, b4⟩ := run_bd (p := isBl) (B := B) ha
  generalize hq : run isBl B n a = q at *
  by_cases h : n ≤ q
  · rw [tkn_end hq h]
    exact ⟨fun z => absurd (show (0 : Nat) = 1 from z) (by decide), fun z => absurd (show (0 : Nat) = 2 from z) (by decide), Nat.zero_le _⟩
  · have h' : q < n := by omega
    cases hl : isLt (B q) with
    | true =>
      rw [tkn_word hq h' hl]
      have c := run_bd (p := isLt) (B := B) b2
      by_cases y : run isLt B n q - q ≤ 8
      · rw [if_pos y]
        exact ⟨fun _ => wv_40 y (fun i hi => c.2.2.2 _ (by omega) (by omega)), fun z => absurd (show (1 : Nat) = 2 from z) (by decide), show (1 : Nat) ≤ 5 by decide⟩
      · rw [if_neg y]
        exact ⟨fun z => absurd (show (5 : Nat) = 1 from z) (by decide), fun z => absurd (show (5 : Nat) = 2 from z) (by decide), Nat.le_refl _⟩
    | false =>
      cases hd : isDg (B q) with
      | true =>
        rw [tkn_whole hq h' hl hd]
        have c := run_bd (p := isDg) (B := B) b2
        by_cases y : run isDg B n q - q ≤ 3
        · rw [if_pos y]
          exact ⟨fun z => absurd (show (2 : Nat) = 1 from z) (by decide), fun _ => dv_3 y (fun i hi => c.2.2.2 _ (by omega) (by omega)), show (2 : Nat) ≤ 5 by decide⟩
        · rw [if_neg y]
          exact ⟨fun z => absurd (show (5 : Nat) = 1 from z) (by decide), fun z => absurd (show (5 : Nat) = 2 from z) (by decide), Nat.le_refl _⟩
      | false =>
        rw [tkn_sign hq h' hl hd]
        split
        · exact ⟨fun z => absurd (show (3 : Nat) = 1 from z) (by decide), fun z => absurd (show (3 : Nat) = 2 from z) (by decide), show (3 : Nat) ≤ 5 by decide⟩
        · split
          · exact ⟨fun z => absurd (show (4 : Nat) = 1 from z) (by decide), fun z => absurd (show (4 : Nat) = 2 from z) (by decide), show (4 : Nat) ≤ 5 by decide⟩
          · exact ⟨fun z => absurd (show (5 : Nat) = 1 from z) (by decide), fun z => absurd (show (5 : Nat) = 2 from z) (by decide), Nat.le_refl _⟩
theorem sp_next (L : Lay t m) (e2 : gI m 2 2 = nI n) (n9 : n ≤ 900) (tp : ∀ k, k < n → TB (gI m 3 k) (B k)) (e3 : gI m 2 3 = nI a) (ha : a ≤ n) {Q : zM → Prop} (hQ : ∀ m', TkF m m' → CTk m' (tkn B n a) → Q m') : wX3_next t m 2 Q := by
  obtain ⟨b1, b2, b3, b4⟩ := run_bd (p := isBl) (B := B) ha
  generalize hq : run isBl B n a = q at *
  unfold wX3_next
  refine ⟨q - a + 1, ?_⟩
  have fin : ∀ m1, TkF m m1 → gI m1 2 3 = nI q → wX3_next_J38 t m1 2 Q := by
    intro m1 f1 g3
    have F : TkF m (pI m1 2 5 (gI m1 2 3)) := f1.pp (Or.inr (Or.inl rfl)) _
    have H3 : gI (pI m1 2 5 (gI m1 2 3)) 2 3 = nI q := by rw [gII, if_neg (by decide)]; exact g3
    have H5 : gI (pI m1 2 5 (gI m1 2 3)) 2 5 = nI q := by rw [gII, if_pos ⟨rfl, rfl⟩]; exact g3
    unfold wX3_next_J38
    rw [show gR m1 2 0 = 3 from lr2_0 (L.fr f1.1)]
    generalize pI m1 2 5 (gI m1 2 3) = m3 at *
    have L3 := L.fr F.1
    have E2 : gI m3 2 2 = nI n := (F.2 2 (by decide) (by decide) (by decide) (by decide)).trans e2
    have T3 : ∀ k, k < n → TB (gI m3 3 k) (B k) := fun k hk => by rw [F.tape]; exact tp k hk
    rw [H3, E2, nI_ltI (by omega) (by omega), ll3 L3, nI_cl (show q < 2 ^ 31 by omega)]
    refine ⟨lk2 L3, fun hn => ⟨lk3 L3, vp_nI (by omega) (by decide), ?_⟩, fun hn => ?_⟩
    · have tb := T3 q hn
      have hlt := tb.lt 97 (by decide)
      have hgt := tb.gt 122 (by decide)
      have J100 : isLt (B q) = false → wX3_next_J100 t m3 2 Q := by
        intro hl
        unfold wX3_next_J100
        rw [lr2_0 L3, ll3 L3, H3, nI_cl (show q < 2 ^ 31 by omega)]
        have dlt := tb.lt 48 (by decide)
        have dgt := tb.gt 57 (by decide)
        have J135 : isDg (B q) = false → wX3_next_J135 t m3 2 Q := by
          intro hd
          unfold wX3_next_J135
          rw [lr2_0 L3, ll3 L3, H3, nI_cl (show q < 2 ^ 31 by omega)]
          have s1 := tb.eq 59 (by decide)
          have s2 := tb.eq 44 (by decide)
          have key : ∀ c, (if B q = 59 then 3 else if B q = 44 then 4 else 5) = c → Q (pI (pI m3 2 6 (nI c)) 2 3 (gI (pI m3 2 6 (nI c)) 2 3 + 1)) := by
            intro c hc
            refine hQ _ ((F.pp (Or.inr (Or.inr (Or.inl rfl))) _).pp (Or.inl rfl) _) ?_
            rw [tkn_sign hq hn hl hd, hc]
            refine ⟨?_, ?_, ?_, fun h => ?_, fun h => ?_⟩
            · rw [gII, if_neg (by decide), gII, if_pos ⟨rfl, rfl⟩]
            · rw [gII, if_neg (by decide), gII, if_neg (by decide)]; exact H5
            · rw [gII, if_pos ⟨rfl, rfl⟩, gII, if_neg (by decide), H3, nI_1]
            · exfalso
              have h' : c = 1 := h
              rw [h'] at hc
              split at hc
              · omega
              · split at hc <;> omega
            · exfalso
              have h' : c = 2 := h
              rw [h'] at hc
              split at hc
              · omega
              · split at hc <;> omega
          refine ⟨lk2 L3, lk3 L3, vp_nI (by omega) (by decide), fun z => ?_, fun z => ⟨fun z2 => ?_, fun z2 => ?_⟩⟩
          · exact key 3 (by rw [if_pos (s1.mp z)])
          · exact key 4 (by rw [if_neg (fun y => z (s1.mpr y)), if_pos (s2.mp z2)])
          · exact key 5 (by rw [if_neg (fun y => z (s1.mpr y)), if_neg (fun y => z2 (s2.mpr y))])
        refine ⟨lk2 L3, lk3 L3, vp_nI (by omega) (by decide), fun z => J135 ?_, fun z => ⟨fun z2 => J135 ?_, fun z2 => ?_⟩⟩
        · have := dlt.mp z
          cases hd : isDg (B q) with
          | false => rfl
          | true => have := isDg_t.mp hd; omega
        · have := dgt.mp z2
          cases hd : isDg (B q) with
          | false => rfl
          | true => have := isDg_t.mp hd; omega
        · have hd : isDg (B q) = true := isDg_t.mpr (by
            have y1 : ¬ (B q < 48 ∨ 128 ≤ B q) := fun y => z (dlt.mpr y)
            have y2 : ¬ (57 < B q ∧ B q < 128) := fun y => z2 (dgt.mpr y)
            omega)
          refine sp_nextWhole L3 E2 n9 T3 H3 H5 b2 (fun m' f' g5 g3 g8 g6 => hQ m' (F.tr f') ?_)
          rw [tkn_whole hq hn hl hd]
          refine ⟨g6, g5, g3, fun h => ?_, fun h => ⟨g8, ?_⟩⟩
          · exfalso
            have h' : (if run isDg B n q - q ≤ 3 then 2 else 5) = 1 := h
            split at h' <;> omega
          · have h' : (if run isDg B n q - q ≤ 3 then 2 else 5) = 2 := h
            by_cases y : run isDg B n q - q ≤ 3
            · have c := run_bd (p := isDg) (B := B) b2
              exact dv_3 y (fun i hi => c.2.2.2 _ (by omega) (by omega))
            · rw [if_neg y] at h'; omega
      refine ⟨fun z => J100 ?_, fun z => ⟨fun z2 => J100 ?_, fun z2 => ?_⟩⟩
      · have := hlt.mp z
        cases hd : isLt (B q) with
        | false => rfl
        | true => have := isLt_t.mp hd; omega
      · have := hgt.mp z2
        cases hd : isLt (B q) with
        | false => rfl
        | true => have := isLt_t.mp hd; omega
      · have hl : isLt (B q) = true := isLt_t.mpr (by
          have y1 : ¬ (B q < 97 ∨ 128 ≤ B q) := fun y => z (hlt.mpr y)
          have y2 : ¬ (122 < B q ∧ B q < 128) := fun y => z2 (hgt.mpr y)
          omega)
        refine sp_nextWord L3 E2 n9 T3 H3 H5 b2 (fun m' f' g5 g3 g7 g6 => hQ m' (F.tr f') ?_)
        rw [tkn_word hq hn hl]
        refine ⟨g6, g5, g3, fun h => ?_, fun h => ?_⟩
        · have h' : (if run isLt B n q - q ≤ 8 then 1 else 5) = 1 := h
          by_cases y : run isLt B n q - q ≤ 8
          · have c := run_bd (p := isLt) (B := B) b2
            have al : ∀ i, i < run isLt B n q - q → isLt (B (q + i)) = true := fun i hi => c.2.2.2 _ (by omega) (by omega)
            refine ⟨?_, wv_40 y al⟩
            rw [cvf_wv _ 8 y al]
            exact g7
          · rw [if_neg y] at h'; omega
        · exfalso
          have h' : (if run isLt B n q - q ≤ 8 then 1 else 5) = 2 := h
          split at h' <;> omega
    · refine hQ _ (F.pp (Or.inr (Or.inr (Or.inl rfl))) _) ?_
      rw [tkn_end hq (by omega)]
      refine ⟨?_, ?_, ?_, fun h => absurd (show (0 : Nat) = 1 from h) (by decide), fun h => absurd (show (0 : Nat) = 2 from h) (by decide)⟩
      · rw [gII, if_pos ⟨rfl, rfl⟩]; rfl
      · rw [gII, if_neg (by decide)]; exact H5
      · rw [gII, if_neg (by decide)]; exact H3
  have key : ∀ dd i : Nat, i + dd = q → a ≤ i → ∀ m1, TkF m m1 → gI m1 2 3 = nI i → wX3_next_L0 t 2 Q (fun m6 => wX3_next_J38 t m6 2 Q) (dd + 1) m1 := by
    intro dd
    induction dd with
    | zero =>
      intro i hi ai m1 f1 g3
      have e : i = q := by omega
      have L1 := L.fr f1.1
      have E2 : gI m1 2 2 = nI n := (f1.2 2 (by decide) (by decide) (by decide) (by decide)).trans e2
      rw [wX3_next_L0, E2, g3, nI_leI (by omega) (by omega), lr2_0 L1, lk3 L, ll3 L, nI_cl (show i < 2 ^ 31 by omega)]
      refine ⟨lk2 L, fun _ => fin m1 f1 (by rw [← e]; exact g3), fun hn => ⟨rfl, vp_nI (by omega) (by decide), fun z => ?_, fun _ => fin m1 f1 (by rw [← e]; exact g3)⟩⟩
      have tb : TB (gI m1 3 i) (B i) := by rw [f1.tape]; exact tp i (by omega)
      have y := (tb.eq 32 (by decide)).mp z
      have := b3 (by omega)
      rw [← e, isBl_t.mpr y] at this
      cases this
    | succ dd ih =>
      intro i hi ai m1 f1 g3
      have L1 := L.fr f1.1
      have E2 : gI m1 2 2 = nI n := (f1.2 2 (by decide) (by decide) (by decide) (by decide)).trans e2
      rw [wX3_next_L0, E2, g3, nI_leI (by omega) (by omega), lr2_0 L1, lk3 L, ll3 L, nI_cl (show i < 2 ^ 31 by omega)]
      refine ⟨lk2 L, fun h => by omega, fun hn => ⟨rfl, vp_nI (by omega) (by decide), fun _ => ih (i + 1) (by omega) (by omega) _ (f1.pp (Or.inl rfl) _) (by rw [gII, if_pos ⟨rfl, rfl⟩, nI_1]), fun z => ?_⟩⟩
      have tb : TB (gI m1 3 i) (B i) := by rw [f1.tape]; exact tp i (by omega)
      exact absurd ((tb.eq 32 (by decide)).mpr (isBl_t.mp (b4 i ai (by omega)))) z
  exact key (q - a) a (by omega) (Nat.le_refl _) m TkF.rf e3
theorem PB.adv (P : PB t m B n k) {m' : zM} (f : TkF m m') (c : CTk m' (adv B n k)) : PB t m' B n (adv B n k) :=
  ⟨P.lay.fr f.1, P.n9, (f.2 2 (by decide) (by decide) (by decide) (by decide)).trans P.en, fun j hj => by rw [f.tape]; exact P.tape j hj, c, tkn_ok P.ok.nx_, (f.2 9 (by decide) (by decide) (by decide) (by decide)).trans P.fl⟩
theorem sp_nx (P : PB t m B n k) {Q : zM → Prop} (hQ : ∀ m', TkF m m' → PB t m' B n (adv B n k) → Q m') : wX3_next t m 2 Q :=
  sp_next P.lay P.en P.n9 P.tape P.tk.nx_ P.ok.nx_ (fun m' f c => hQ m' f (P.adv f c))
theorem PB.fr {X : List Nat} (P : PB t m B n k) (f : Fr X m m') (h2 : 2 ∉ X) (h3 : 3 ∉ X) : PB t m' B n k := by
  have tk := P.tk
  refine ⟨P.lay.fr f, P.n9, (f.I h2 _).trans P.en, fun j hj => by rw [f.I h3]; exact P.tape j hj, ?_, P.ok, (f.I h2 _).trans P.fl⟩
  unfold CTk at tk ⊢
  simp only [f.I h2, f.J h2]
  exact tk
theorem PB.p10 (P : PB t m B n k) (j : Nat) (hj : j = 10 ∨ j = 11) (v : Int32) : PB t (pI m 2 j v) B n k := by
  have tk := P.tk
  have e : ∀ i, i ≠ j → gI (pI m 2 j v) 2 i = gI m 2 i := fun i hi => by rw [gII, if_neg (fun z => hi z.2)]
  refine ⟨P.lay.fr (Fr.pI (S := [2]) Fr.rf (by decide)), P.n9, (e 2 (by omega)).trans P.en, fun i hi => P.tape i hi, ?_, P.ok, (e 9 (by omega)).trans P.fl⟩
  exact ⟨(e 6 (by omega)).trans tk.kd, (e 5 (by omega)).trans tk.pl_, (e 3 (by omega)).trans tk.nx_, tk.wd, fun h => by rw [e 8 (by omega)]; exact tk.wh h⟩
end
