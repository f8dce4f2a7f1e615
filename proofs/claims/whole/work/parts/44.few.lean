/-! Court.fewWrongs, lawfulWord -/
section
variable {t : zT} {m : zM} {s : Nat} {S : Sc} {set h G lw wt : Nat} {sd bf go gm gt : Nat → Nat}
theorem sp_fewWrongs (L : Lay t m) (hs : isSch s) (ht : gR m 20 0 = s) (hM : cM S ≤ 6) (hM0 : gI m s 10 = nI (cM S)) (hwr : gI m s 13 = nI (cWr S) ∧ cWr S ≤ 8) (hG : G ≤ 17) (q2 : gI m 19 9 = nI G) (q4 : ∀ q, q < G → gI m 42 q = nI (gm q)) (hgm : ∀ q, q < G → gm q < 2 ^ 31) (hwt : gI m 19 3 = nI wt) (hwt2 : wt < 64) (h8 : ∀ k, fb_ct (fun q => gm q == k) G ≤ 8) {Q : Int64 → zM → Prop}
    (hQ : ∀ (r : Int64) (m' : zM), Fr [37] m m' → (∀ i, i < 64 → (bw r i = true ↔ ∀ k, k < cM S → wt.testBit k = true → fb_ct (fun q => (gm q == k) && !bw (gJ m 44 q) i) G ≤ cWr S)) → Q r m') : wX0_fewWrongs t m 19 Q := by
  unfold wX0_fewWrongs
  refine ⟨cM S + 1, ?_⟩
  have hs37 : s ∉ [37] := by rcases hs with rfl | rfl <;> decide
  have n37 : ∀ a, a = 19 ∨ a = 42 ∨ a = 44 → a ∉ [37] := by intro a ha; rcases ha with rfl | rfl | rfl <;> decide
  have inner : ∀ (y1 : Int64) (k : Nat), k < 6 → ∀ kk : zM → Prop, (∀ m2, Fr [37] m m2 → (∀ i, i < 64 → tv m2 37 i = fb_ct (fun q => (gm q == k) && !bw (gJ m 44 q) i) G) → kk m2) → ∀ d j : Nat, j + d = G → ∀ m1, Fr [37] m m1 → (∀ i, i < 64 → tv m1 37 i = fb_ct (fun q => (gm q == k) && !bw (gJ m 44 q) i) j) → ∀ x : Int32, x = nI j → wX0_fewWrongs_L41 t 19 y1 (nI k) Q kk (d + 1) x m1 := by
    intro y1 k hk kk hkk d
    induction d with
    | zero =>
      intro j hj m1 f1 f2 x hx
      have hj : j = G := by omega
      subst hj
      rw [hx, wX0_fewWrongs_L41, f1.I (n37 19 (by simp)), q2]
      exact ⟨lk19 L, fun _ => hkk m1 f1 f2, fun hh => absurd (nI_le (Nat.le_refl _) (by omega)) hh⟩
    | succ d ih =>
      intro j hj m1 f1 f2 x hx
      have hjG : j < G := by omega
      have L1 := L.fr f1
      rw [hx, wX0_fewWrongs_L41]
      simp only [wX0_fewWrongs_J79, lk19 L1, lr19_0 L1, lr19_1 L1, lr19_5 L1, lr19_6 L1, lr19_7 L1, lr19_8 L1, lr19_10 L1, lr19_11 L1, lr19_12 L1, lr19_13 L1, lr19_15 L1, lr19_16 L1, lk20 L1, lr20_3 L1, lr20_4 L1, lr20_5 L1, lk33 L1, ll33 L1, lk34 L1, ll34 L1, lk35 L1, ll35 L1, lk36 L1, lr36_0 L1, lk37 L1, ll37 L1, lk38 L1, ll38 L1, lk39 L1, ll39 L1, lk40 L1, ll40 L1, lk41 L1, ll41 L1, lk42 L1, ll42 L1, lk43 L1, ll43 L1, lk44 L1, ll44 L1, lk45 L1, ll45 L1, lk46 L1, ll46 L1, lk47 L1, ll47 L1, f1.I (n37 19 (by simp)), f1.I (n37 42 (by simp)), f1.J (n37 44 (by simp)), q2, q4 j hjG, nI_cl (show j < 2 ^ 31 by omega), nI_eq (hgm j hjG) (show k < 2 ^ 31 by omega), nI_1, true_and]
      have v1 : vp_in (nI j) 17 := vp_nI (by omega) (by omega)
      refine ⟨fun hh => absurd hh (nI_ge hjG (by omega)), fun _ => ⟨v1, fun e => ⟨v1, ?_⟩, fun e => ?_⟩⟩
      · refine sp_tadd (lk36 L) (lr36_0 L1) (lk37 L) (ll37 L) (fun i hi => ?_) (fun m2 g1 g2 => ?_)
        · rw [f2 i hi]
          have a1 : fb_ct (fun q => (gm q == k) && !bw (gJ m 44 q) i) j ≤ fb_ct (fun q => gm q == k) j := fb_ct_sub (fun q _ hq => (Bool.and_eq_true _ _ ▸ hq).1)
          have a2 := fb_ct_mono (fun q => gm q == k) (show j ≤ G by omega)
          have a3 := h8 k
          omega
        · refine ih (j + 1) (by omega) m2 (f1.tr g1) (fun i hi => ?_) _ rfl
          rw [g2 i hi, f2 i hi, fb_ct_succ, bw_not _ hi]
          simp [e]
      · refine ih (j + 1) (by omega) m1 f1 (fun i hi => ?_) _ rfl
        rw [f2 i hi, fb_ct_succ]
        simp [e]
  have key : ∀ d k : Nat, k + d = cM S → ∀ (y : Int64) (m1 : zM), Fr [37] m m1 → (∀ i, i < 64 → (bw y i = true ↔ ∀ j, j < k → wt.testBit j = true → fb_ct (fun q => (gm q == j) && !bw (gJ m 44 q) i) G ≤ cWr S)) → ∀ x : Int32, x = nI k → wX0_fewWrongs_L6 t 19 Q (fun v m28 => Q v m28) (d + 1) y x m1 := by
    intro d
    induction d with
    | zero =>
      intro k hk y m1 f1 f2 x hx
      have hk : k = cM S := by omega
      subst hk
      have L1 := L.fr f1
      rw [hx, wX0_fewWrongs_L6, lr19_0 L1, f1.2, ht, f1.I hs37, hM0]
      exact ⟨lk19 L, lk20 L, ls_k L hs, fun _ => hQ y m1 f1 f2, fun hh => absurd (nI_le (Nat.le_refl _) (by omega)) hh⟩
    | succ d ih =>
      intro k hk y m1 f1 f2 x hx
      have L1 := L.fr f1
      rw [hx, wX0_fewWrongs_L6, lr19_0 L1, f1.2, ht, f1.I hs37, hM0, f1.I (n37 19 (by simp)), hwt, nI_bit0 (by omega) (by omega), lr19_1 L1]
      refine ⟨lk19 L, lk20 L, ls_k L hs, fun hh => absurd hh (nI_ge (by omega) (by omega)), fun _ => ⟨fun e => ?_, fun e => ⟨lk36 L, ?_⟩⟩⟩
      · unfold wX0_fewWrongs_J105
        refine ih (k + 1) (by omega) y m1 f1 (fun i hi => ?_) _ (nI_1 k)
        rw [f2 i hi]
        constructor
        · intro z j hj hb
          rcases (show j < k ∨ j = k by omega) with q | q
          · exact z j q hb
          · subst q; exact absurd (e.symm.trans hb) (by decide)
        · intro z j hj hb
          exact z j (by omega) hb
      · refine sp_tclear (lk36 L) (lr36_0 L1) (lk37 L) (ll37 L) (fun m2 g1 g2 => ⟨G + 1, ?_⟩)
        have f3 := f1.tr g1
        refine inner y k (by omega) _ (fun m3 k1 k2 => ?_) G 0 (by omega) m2 f3 (fun i hi => by rw [g2 i]; rfl) 0 rfl
        have L3 := L.fr k1
        rw [lr19_0 L3, k1.2, ht, lr19_1 L3, k1.I hs37, hwr.1]
        refine ⟨lk20 L, ls_k L hs, lk36 L, sp_atMost hwr.2 (lk36 L) (lr36_0 L3) (lk37 L) (ll37 L) (fun r hr x25 h25 => ?_)⟩
        unfold wX0_fewWrongs_J105
        refine ih (k + 1) (by omega) x25 m3 k1 (fun i hi => ?_) _ (nI_1 k)
        rw [h25, bw_and, Bool.and_eq_true, f2 i hi, hr i hi, decide_eq_true_eq, k2 i hi]
        constructor
        · intro z j hj hb
          rcases (show j < k ∨ j = k by omega) with q | q
          · exact z.1 j q hb
          · subst q; exact z.2
        · intro z
          exact ⟨fun j hj hb => z j (by omega) hb, z k (by omega) (ts_false e)⟩
  exact key (cM S) 0 (by omega) (-1) m Fr.rf (fun i hi => ⟨fun _ j hj => absurd hj (by omega), fun _ => bw_m1 hi⟩) 0 rfl
/-- the word of a saying: in which of these 64 ways it is right -/
def tw (m : zM) (S : Sc) (W i : Nat) : Int64 := gJ m 34 ((cOf S i * 4 + cWh S i) * 64 + W)
theorem sp_truthWord (L : Lay t m) {a b W : Nat} (ha : a < 8) (hb : b < 4) (hW : W < 64) {Q : Int64 → zM → Prop} (hQ : Q (gJ m 34 ((a * 4 + b) * 64 + W)) m) : wX8_truthWord t m 20 (nI a) (nI b) (nI W) Q := by
  unfold wX8_truthWord
  unfold wX8_rowOf
  have e : (nI a * (4 : Int32) + nI b) * (64 : Int32) + nI W = nI ((a * 4 + b) * 64 + W) := by
    rw [show (4 : Int32) = nI 4 from rfl, pk_mul, nI_add, show (64 : Int32) = nI 64 from rfl, pk_mul, nI_add]
  simp only [lk19 L, lr19_0 L, lr19_1 L, lr19_5 L, lr19_6 L, lr19_7 L, lr19_8 L, lr19_10 L, lr19_11 L, lr19_12 L, lr19_13 L, lr19_15 L, lr19_16 L, lk20 L, lr20_3 L, lr20_4 L, lr20_5 L, lk33 L, ll33 L, lk34 L, ll34 L, lk35 L, ll35 L, lk36 L, lr36_0 L, lk37 L, ll37 L, lk38 L, ll38 L, lk39 L, ll39 L, lk40 L, ll40 L, lk41 L, ll41 L, lk42 L, ll42 L, lk43 L, ll43 L, lk44 L, ll44 L, lk45 L, ll45 L, lk46 L, ll46 L, lk47 L, ll47 L, e, true_and]
  refine ⟨vp_nI (by omega) (by omega), ?_⟩
  rw [nI_cl (by omega)]
  exact hQ
end
