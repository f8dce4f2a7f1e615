/-! Court.lawfulWord -/
section
variable {t : zT} {m : zM} {s : Nat} {S : Sc} {set h G lw wt pn W : Nat} {sd bf go gm gt po pq : Nat → Nat}
/-- all sayings of a group are right (b true) or wrong (b false) at place i -/
def gAll (h : Nat) (go : Nat → Nat) (R : Nat → Int64) (q i : Nat) (b : Bool) : Prop := ∀ j, j < h → go j = q → bw (R j) i = b
theorem Hm.fr {m' : zM} {T : List Nat} (hm : Hm m h G sd bf go gm gt) (f : Fr T m m') (hT : ∀ a, a = 19 ∨ a = 38 ∨ a = 39 ∨ a = 40 ∨ a = 42 ∨ a = 43 → a ∉ T) : Hm m' h G sd bf go gm gt := by
  obtain ⟨q1, q2, q3, q4⟩ := hm
  refine ⟨by rw [f.I (hT 19 (by simp))]; exact q1, by rw [f.I (hT 19 (by simp))]; exact q2, fun k hk => ⟨by rw [f.I (hT 38 (by simp))]; exact (q3 k hk).1, by rw [f.I (hT 39 (by simp))]; exact (q3 k hk).2.1, by rw [f.I (hT 40 (by simp))]; exact (q3 k hk).2.2⟩, fun q hq => ⟨by rw [f.I (hT 42 (by simp))]; exact (q4 q hq).1, by rw [f.I (hT 43 (by simp))]; exact (q4 q hq).2⟩⟩
theorem sp_lw13 (L : Lay t m) (hG : G ≤ 17) (q2 : gI m 19 9 = nI G) {p1 : Int32} {y : Int64} {Q : Int64 → zM → Prop} {kk : zM → Prop} (hk : ∀ m', Fr [37, 41, 44, 45] m m' → (∀ q, q < G → gJ m' 44 q = -1 ∧ gJ m' 45 q = -1) → kk m') : wX0_lawfulWord_L13 t 19 p1 y Q kk (G + 1) 0 m := by
  have key : ∀ d j : Nat, j + d = G → ∀ m1, Fr [37, 41, 44, 45] m m1 → (∀ q, q < j → gJ m1 44 q = -1 ∧ gJ m1 45 q = -1) → ∀ x : Int32, x = nI j → wX0_lawfulWord_L13 t 19 p1 y Q kk (d + 1) x m1 := by
    intro d
    induction d with
    | zero =>
      intro j hj m1 f1 f2 x hx
      have hj : j = G := by omega
      subst hj
      rw [hx, wX0_lawfulWord_L13, f1.I (by decide), q2]
      exact ⟨lk19 L, fun _ => hk m1 f1 f2, fun hh => absurd (nI_le (Nat.le_refl _) (by omega)) hh⟩
    | succ d ih =>
      intro j hj m1 f1 f2 x hx
      have L1 := L.fr f1
      have v1 : vp_in (nI j) 17 := vp_nI (by omega) (by omega)
      rw [hx, wX0_lawfulWord_L13, f1.I (by decide), q2]
      simp only [lk19 L1, lr19_0 L1, lr19_1 L1, lr19_5 L1, lr19_6 L1, lr19_7 L1, lr19_8 L1, lr19_10 L1, lr19_11 L1, lr19_12 L1, lr19_13 L1, lr19_15 L1, lr19_16 L1, lk20 L1, lr20_3 L1, lr20_4 L1, lr20_5 L1, lk33 L1, ll33 L1, lk34 L1, ll34 L1, lk35 L1, ll35 L1, lk36 L1, lr36_0 L1, lk37 L1, ll37 L1, lk38 L1, ll38 L1, lk39 L1, ll39 L1, lk40 L1, ll40 L1, lk41 L1, ll41 L1, lk42 L1, ll42 L1, lk43 L1, ll43 L1, lk44 L1, ll44 L1, lk45 L1, ll45 L1, lk46 L1, ll46 L1, lk47 L1, ll47 L1, nI_cl (show j < 2 ^ 31 by omega), true_and]
      refine ⟨fun hh => absurd hh (nI_ge (by omega) (by omega)), fun _ => ⟨v1, v1, ih (j + 1) (by omega) _ (Fr.pJ (Fr.pJ f1 (by decide)) (by decide)) (fun q hq => ?_) _ (nI_1 j)⟩⟩
      by_cases z : q = j
      · simp (config := { decide := true }) only [gJJ, z, and_self, if_true, false_and, if_false]
      · simp (config := { decide := true }) only [gJJ, z, and_false, false_and, if_false]
        exact f2 q (by omega)
  exact key G 0 (by omega) m Fr.rf (fun q hq => absurd hq (by omega)) 0 rfl
set_option maxHeartbeats 1000000 in
theorem sp_lw51 (L : Lay t m) (hs : isSch s) (ht : gR m 20 0 = s) (hlw : gI m 19 2 = nI lw) (hh : h ≤ 17) (hm : Hm m h G sd bf go gm gt) (hG : G ≤ 17) (hsd : ∀ k, k < h → sd k < 17) (hbf : ∀ k, k < h → bf k ≤ k) (hgo : ∀ k, k < h → go k < G) (hby : ∀ k, k < h → gI m (s + 8) (sd k) = nI (cBy S (sd k)) ∧ cBy S (sd k) < 6) (hkd : ∀ k, k < h → gI m (s + 7) (cBy S (sd k)) = nI (cKd S (cBy S (sd k))) ∧ cKd S (cBy S (sd k)) < 4) (hof : ∀ k, k < h → gI m (s + 9) (sd k) = nI (cOf S (sd k)) ∧ cOf S (sd k) < 8) (hwh : ∀ k, k < h → gI m (s + 10) (sd k) = nI (cWh S (sd k)) ∧ cWh S (sd k) < 4) (hW : W < 64)
    (h44 : ∀ q, q < G → gJ m 44 q = -1 ∧ gJ m 45 q = -1) {y0 : Int64} {Q : Int64 → zM → Prop} {kk : Int64 → zM → Prop}
    (hk : ∀ (y : Int64) (m' : zM), Fr [37, 41, 44, 45] m m' → (∀ q, q < G → ∀ i, i < 64 → (bw (gJ m' 44 q) i = true ↔ gAll h go (fun j => tw m S W (sd j)) q i true) ∧ (bw (gJ m' 45 q) i = true ↔ gAll h go (fun j => tw m S W (sd j)) q i false)) → (∀ i, i < 64 → (bw y i = true ↔ bw y0 i = true ∧ ∀ j, j < h → fkB (cKd S (cBy S (sd j))) lw (bf j) (bw (tw m S W (sd j)) i) (bw (tw m S W (sd (bf j - 1))) i) = true)) → kk y m') : wX0_lawfulWord_L51 t 19 (nI W) Q kk (h + 1) y0 0 m := by
  have n8 : ∀ a, a = s + 7 ∨ a = s + 8 ∨ a = s + 9 ∨ a = s + 10 → a ∉ [37, 41, 44, 45] := by
    intro a ha
    rcases hs with rfl | rfl <;> rcases ha with rfl | rfl | rfl | rfl <;> decide
  have key : ∀ d k : Nat, k + d = h → ∀ (y : Int64) (m1 : zM), Fr [37, 41, 44, 45] m m1 → (∀ j, j < k → gJ m1 41 j = tw m S W (sd j)) → (∀ q, q < G → ∀ i, i < 64 → (bw (gJ m1 44 q) i = true ↔ gAll k go (fun j => tw m S W (sd j)) q i true) ∧ (bw (gJ m1 45 q) i = true ↔ gAll k go (fun j => tw m S W (sd j)) q i false)) → (∀ i, i < 64 → (bw y i = true ↔ bw y0 i = true ∧ ∀ j, j < k → fkB (cKd S (cBy S (sd j))) lw (bf j) (bw (tw m S W (sd j)) i) (bw (tw m S W (sd (bf j - 1))) i) = true)) → ∀ x : Int32, x = nI k → wX0_lawfulWord_L51 t 19 (nI W) Q kk (d + 1) y x m1 := by
    intro d
    induction d with
    | zero =>
      intro k hk1 y m1 f1 f2 f3 f4 x hx
      have hk1 : k = h := by omega
      subst hk1
      rw [hx, wX0_lawfulWord_L51, f1.I (by decide), hm.1]
      exact ⟨lk19 L, fun _ => hk y m1 f1 f3 f4, fun hh => absurd (nI_le (Nat.le_refl _) (by omega)) hh⟩
    | succ d ih =>
      intro k hk1 y m1 f1 f2 f3 f4 x hx
      have hkh : k < h := by omega
      have L1 := L.fr f1
      have hm1 := hm.fr f1 (by intro a ha; rcases ha with rfl | rfl | rfl | rfl | rfl | rfl <;> decide)
      obtain ⟨a1, a2, a3⟩ := hm1.2.2.1 k hkh
      have b1 := hsd k hkh
      have b2 := hgo k hkh
      obtain ⟨c1, c2⟩ := hof k hkh
      obtain ⟨e1, e2⟩ := hwh k hkh
      have v1 : vp_in (nI k) 17 := vp_nI (by omega) (by omega)
      have v2 : vp_in (nI (sd k)) 17 := vp_nI (by omega) (by omega)
      have v3 : vp_in (nI (go k)) 17 := vp_nI (by omega) (by omega)
      have ck : (nI k).toNatClampNeg = k := nI_cl (by omega)
      have cs : (nI (sd k)).toNatClampNeg = sd k := nI_cl (by omega)
      have cg : (nI (go k)).toNatClampNeg = go k := nI_cl (by omega)
      have ht1 : gR m1 20 0 = s := by rw [f1.2]; exact ht
      rw [hx, wX0_lawfulWord_L51, hm1.1]
      simp only [lk19 L1, lr19_0 L1, lr19_1 L1, lr19_5 L1, lr19_6 L1, lr19_7 L1, lr19_8 L1, lr19_10 L1, lr19_11 L1, lr19_12 L1, lr19_13 L1, lr19_15 L1, lr19_16 L1, lk20 L1, lr20_3 L1, lr20_4 L1, lr20_5 L1, lk33 L1, ll33 L1, lk34 L1, ll34 L1, lk35 L1, ll35 L1, lk36 L1, lr36_0 L1, lk37 L1, ll37 L1, lk38 L1, ll38 L1, lk39 L1, ll39 L1, lk40 L1, ll40 L1, lk41 L1, ll41 L1, lk42 L1, ll42 L1, lk43 L1, ll43 L1, lk44 L1, ll44 L1, lk45 L1, ll45 L1, lk46 L1, ll46 L1, lk47 L1, ll47 L1, ls_k L1 hs, ls_r1 L1 hs, ls_k1 L1 hs, ls_l1 L1 hs, ls_r3 L1 hs, ls_k3 L1 hs, ls_l3 L1 hs, ls_r6 L1 hs, ls_k6 L1 hs, ls_l6 L1 hs, ls_r7 L1 hs, ls_k7 L1 hs, ls_l7 L1 hs, ls_r8 L1 hs, ls_k8 L1 hs, ls_l8 L1 hs, ls_r9 L1 hs, ls_k9 L1 hs, ls_l9 L1 hs, ls_r11 L1 hs, ls_k11 L1 hs, ls_l11 L1 hs, ls_r15 L1 hs, ls_k15 L1 hs, ls_l15 L1 hs, ls_r16 L1 hs, ls_k16 L1 hs, ls_l16 L1 hs, ls_r17 L1 hs, ls_k17 L1 hs, ls_l17 L1 hs, ls_r19 L1 hs, ls_k19 L1 hs, ls_l19 L1 hs, ht1, a1, f1.I (n8 (s + 9) (by simp)), f1.I (n8 (s + 10) (by simp)), ck, cs, c1, e1, true_and]
      refine ⟨fun hh => absurd hh (nI_ge hkh (by omega)), fun _ => ⟨v1, v2, v2, sp_truthWord L1 c2 e2 hW ?_⟩⟩
      have etw : gJ m1 34 ((cOf S (sd k) * 4 + cWh S (sd k)) * 64 + W) = tw m S W (sd k) := by rw [f1.J (by decide)]; rfl
      rw [etw]
      simp only [lk19 L1, lr19_0 L1, lr19_1 L1, lr19_5 L1, lr19_6 L1, lr19_7 L1, lr19_8 L1, lr19_10 L1, lr19_11 L1, lr19_12 L1, lr19_13 L1, lr19_15 L1, lr19_16 L1, lk20 L1, lr20_3 L1, lr20_4 L1, lr20_5 L1, lk33 L1, ll33 L1, lk34 L1, ll34 L1, lk35 L1, ll35 L1, lk36 L1, lr36_0 L1, lk37 L1, ll37 L1, lk38 L1, ll38 L1, lk39 L1, ll39 L1, lk40 L1, ll40 L1, lk41 L1, ll41 L1, lk42 L1, ll42 L1, lk43 L1, ll43 L1, lk44 L1, ll44 L1, lk45 L1, ll45 L1, lk46 L1, ll46 L1, lk47 L1, ll47 L1, ck, a3, cg, true_and]
      refine ⟨v1, v1, v3, v3, ?_⟩
      simp (config := { decide := true }) only [gJJ, false_and, if_false]
      generalize hm2 : pJ (pJ (pJ m1 41 k (tw m S W (sd k))) 44 (go k) (gJ m1 44 (go k) &&& tw m S W (sd k))) 45 (go k) (gJ m1 45 (go k) &&& (tw m S W (sd k) ^^^ (-1))) = m2
      have g1 : Fr [37, 41, 44, 45] m m2 := by rw [← hm2]; exact Fr.pJ (Fr.pJ (Fr.pJ f1 (by decide)) (by decide)) (by decide)
      have L2 := L.fr g1
      have r41 : ∀ j, j < k + 1 → gJ m2 41 j = tw m S W (sd j) := by
        intro j hj
        rw [← hm2]
        by_cases z : j = k
        · simp (config := { decide := true }) only [gJJ, z, and_self, if_true, false_and, if_false]
        · simp (config := { decide := true }) only [gJJ, z, and_false, false_and, if_false]
          exact f2 j (by omega)
      have r44 : ∀ q, q < G → ∀ i, i < 64 → (bw (gJ m2 44 q) i = true ↔ gAll (k + 1) go (fun j => tw m S W (sd j)) q i true) ∧ (bw (gJ m2 45 q) i = true ↔ gAll (k + 1) go (fun j => tw m S W (sd j)) q i false) := by
        intro q hq i hi
        obtain ⟨x1, x2⟩ := f3 q hq i hi
        rw [← hm2]
        by_cases z : q = go k
        · subst z
          simp (config := { decide := true }) only [gJJ, and_self, if_true, false_and, if_false, bw_and, bw_not _ hi, Bool.and_eq_true, x1, x2]
          refine ⟨⟨fun w j hj hg => ?_, fun w => ⟨fun j hj hg => w j (by omega) hg, w k (by omega) rfl⟩⟩, ⟨fun w j hj hg => ?_, fun w => ⟨fun j hj hg => w j (by omega) hg, by rw [w k (by omega) rfl]; rfl⟩⟩⟩
          · rcases (show j < k ∨ j = k by omega) with u | u
            · exact w.1 j u hg
            · subst u; exact w.2
          · rcases (show j < k ∨ j = k by omega) with u | u
            · exact w.1 j u hg
            · subst u
              have := w.2
              show bw (tw m S W (sd j)) i = false
              cases hb : bw (tw m S W (sd j)) i with
              | false => rfl
              | true => rw [hb] at this; cases this
        · simp (config := { decide := true }) only [gJJ, z, and_false, false_and, if_false, x1, x2]
          refine ⟨⟨fun w j hj hg => ?_, fun w j hj hg => w j (by omega) hg⟩, ⟨fun w j hj hg => ?_, fun w j hj hg => w j (by omega) hg⟩⟩
          · rcases (show j < k ∨ j = k by omega) with u | u
            · exact w j u hg
            · subst u; exact absurd hg.symm z
          · rcases (show j < k ∨ j = k by omega) with u | u
            · exact w j u hg
            · subst u; exact absurd hg.symm z
      refine sp_fitByKind (S := S) (lw := lw) L2 hs (by rw [g1.2]; exact ht) (by rw [g1.I (by decide)]; exact hlw) hh (hm.fr g1 (by intro a ha; rcases ha with rfl | rfl | rfl | rfl | rfl | rfl <;> decide)) hsd hbf (fun j hj => ⟨by rw [g1.I (n8 (s + 8) (by simp))]; exact (hby j hj).1, (hby j hj).2⟩) (fun j hj => ⟨by rw [g1.I (n8 (s + 7) (by simp))]; exact (hkd j hj).1, (hkd j hj).2⟩) hkh (fun r hr x35 h35 => ?_)
      refine ih (k + 1) (by omega) x35 m2 g1 r41 r44 (fun i hi => ?_) _ (nI_1 k)
      rw [h35, bw_and, Bool.and_eq_true, f4 i hi, hr i hi, r41 k (by omega)]
      have hfix : fkB (cKd S (cBy S (sd k))) lw (bf k) (bw (tw m S W (sd k)) i) (bw (gJ m2 41 (bf k - 1)) i) = fkB (cKd S (cBy S (sd k))) lw (bf k) (bw (tw m S W (sd k)) i) (bw (tw m S W (sd (bf k - 1))) i) := by
        by_cases z : bf k = 0
        · simp [fkB, z]
        · have := hbf k hkh
          rw [r41 (bf k - 1) (by omega)]
      rw [hfix]
      constructor
      · intro w
        refine ⟨w.1.1, fun j hj => ?_⟩
        rcases (show j < k ∨ j = k by omega) with u | u
        · exact w.1.2 j u
        · subst u; exact w.2
      · intro w
        exact ⟨⟨w.1, fun j hj => w.2 j (by omega)⟩, w.2 k (by omega)⟩
  exact key h 0 (by omega) y0 m Fr.rf (fun j hj => absurd hj (by omega)) (fun q hq i hi => by
    rw [(h44 q hq).1, (h44 q hq).2, bw_m1 hi]
    exact ⟨⟨fun _ j hj => absurd hj (by omega), fun _ => rfl⟩, ⟨fun _ j hj => absurd hj (by omega), fun _ => rfl⟩⟩) (fun i hi => ⟨fun w => ⟨w, fun j hj => absurd hj (by omega)⟩, fun w => w.1⟩) 0 rfl
theorem sp_lw171 (L : Lay t m) (hpn : pn ≤ 8) (hp : Pm m pn po pq) (hG : G ≤ 17) (hpG : ∀ i, i < pn → po i < G ∧ pq i < G) {y0 : Int64} {Q : Int64 → zM → Prop} {kk : Int64 → zM → Prop}
    (hk : ∀ y : Int64, (∀ i, i < 64 → (bw y i = true ↔ bw y0 i = true ∧ ∀ j, j < pn → (bw (gJ m 44 (po j)) i = true ∧ bw (gJ m 45 (pq j)) i = true) ∨ (bw (gJ m 45 (po j)) i = true ∧ bw (gJ m 44 (pq j)) i = true))) → kk y m) : wX0_lawfulWord_L171 t 19 Q kk (pn + 1) y0 0 m := by
  have key : ∀ d k : Nat, k + d = pn → ∀ y : Int64, (∀ i, i < 64 → (bw y i = true ↔ bw y0 i = true ∧ ∀ j, j < k → (bw (gJ m 44 (po j)) i = true ∧ bw (gJ m 45 (pq j)) i = true) ∨ (bw (gJ m 45 (po j)) i = true ∧ bw (gJ m 44 (pq j)) i = true))) → ∀ x : Int32, x = nI k → wX0_lawfulWord_L171 t 19 Q kk (d + 1) y x m := by
    intro d
    induction d with
    | zero =>
      intro k hk1 y f1 x hx
      have hk1 : k = pn := by omega
      subst hk1
      rw [hx, wX0_lawfulWord_L171, hp.1]
      exact ⟨lk19 L, fun _ => hk y f1, fun hh => absurd (nI_le (Nat.le_refl _) (by omega)) hh⟩
    | succ d ih =>
      intro k hk1 y f1 x hx
      obtain ⟨a1, a2⟩ := hp.2 k (by omega)
      obtain ⟨b1, b2⟩ := hpG k (by omega)
      have v1 : vp_in (nI k) 8 := vp_nI (by omega) (by omega)
      have v2 : vp_in (nI (po k)) 17 := vp_nI (by omega) (by omega)
      have v3 : vp_in (nI (pq k)) 17 := vp_nI (by omega) (by omega)
      rw [hx, wX0_lawfulWord_L171, hp.1]
      simp only [lk19 L, lr19_0 L, lr19_1 L, lr19_5 L, lr19_6 L, lr19_7 L, lr19_8 L, lr19_10 L, lr19_11 L, lr19_12 L, lr19_13 L, lr19_15 L, lr19_16 L, lk20 L, lr20_3 L, lr20_4 L, lr20_5 L, lk33 L, ll33 L, lk34 L, ll34 L, lk35 L, ll35 L, lk36 L, lr36_0 L, lk37 L, ll37 L, lk38 L, ll38 L, lk39 L, ll39 L, lk40 L, ll40 L, lk41 L, ll41 L, lk42 L, ll42 L, lk43 L, ll43 L, lk44 L, ll44 L, lk45 L, ll45 L, lk46 L, ll46 L, lk47 L, ll47 L, nI_cl (show k < 2 ^ 31 by omega), a1, a2, forall_eq, nI_cl (show po k < 2 ^ 31 by omega), nI_cl (show pq k < 2 ^ 31 by omega), true_and]
      refine ⟨fun hh => absurd hh (nI_ge (by omega) (by omega)), fun _ => ⟨v1, v1, v2, v3, v2, v3, ih (k + 1) (by omega) _ (fun i hi => ?_) _ (nI_1 k)⟩⟩
      simp only [bw_and, bw_or, Bool.and_eq_true, Bool.or_eq_true, f1 i hi]
      constructor
      · intro w
        refine ⟨w.1.1, fun j hj => ?_⟩
        rcases (show j < k ∨ j = k by omega) with u | u
        · exact w.1.2 j u
        · subst u; exact w.2
      · intro w
        exact ⟨⟨w.1, fun j hj => w.2 j (by omega)⟩, w.2 k (by omega)⟩
  exact key pn 0 (by omega) y0 (fun i hi => ⟨fun w => ⟨w, fun j hj => absurd hj (by omega)⟩, fun w => w.1⟩) 0 rfl
end
