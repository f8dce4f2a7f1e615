/-! Plans: the class lays out its states -/
def SlK (m : zM) (S : Sc) (U : Nat → Bool) (n : Nat) : Prop := (gI m 52 6 = nI (fb_ct U n)) ∧ (gI m 52 7 = nI (pl (NU S U) (fb_ct U n))) ∧ (∀ k, k < fb_ct U n → gI m 53 k = nI (thU U k) ∧ gI m 54 k = nI (cC S (thU U k)) ∧ gI m 55 k = nI (NU S U k) ∧ gI m 56 k = nI (pl (NU S U) k))
theorem SlK.sl {m : zM} {S : Sc} {U : Nat → Bool} {n : Nat} (h_ : SlK m S U n) : gI m 52 6 = nI (fb_ct U n) := h_.1
theorem SlK.st {m : zM} {S : Sc} {U : Nat → Bool} {n : Nat} (h_ : SlK m S U n) : gI m 52 7 = nI (pl (NU S U) (fb_ct U n)) := h_.2.1
theorem SlK.th {m : zM} {S : Sc} {U : Nat → Bool} {n : Nat} (h_ : SlK m S U n) : ∀ k, k < fb_ct U n → gI m 53 k = nI (thU U k) ∧ gI m 54 k = nI (cC S (thU U k)) ∧ gI m 55 k = nI (NU S U k) ∧ gI m 56 k = nI (pl (NU S U) k) := h_.2.2
section
variable {t : zT} {m m' m1 m2 : zM} {s u r : Nat} {S : Sc} {T T' : Ts} {P P' : Nat → Bool} {x x2 x3 : Int32} {Tl : List Nat} {U : Nat → Bool}
theorem ctU0_8 : fb_ct (U0 S P) (cT S) ≤ cT S := fb_ct_le _ _
set_option maxHeartbeats 1000000 in
theorem sp_layOut (c : Cor t m s S) {Q : zM → Prop} (hQ : ∀ m', Fr [52, 53, 54, 55, 56] m m' → (∀ j, j ≠ 6 → j ≠ 7 → gI m' 52 j = gI m 52 j) → SlK m' S (U0 S P) (cT S) → Q m') : wX1_layOut t m 52 s (nI (bts (sureB S P) (cT S))) Q := by
  have L := c.lay
  have v := c.vs
  have t8 := v.t8
  have hs := c.sch
  have hs' := hs
  unfold isSch at hs'
  have bl : bts (sureB S P) (cT S) < 2 ^ 31 := sureb_lt v
  have oT : ∀ a, 4 ≤ a → a ≤ 35 → (a ≤ 15 ∨ 20 ≤ a) → a ∉ [52, 53, 54, 55, 56] := by
    intro a h1 h2 h3
    simp only [List.mem_cons, List.not_mem_nil, or_false]
    omega
  unfold wX1_layOut
  refine ⟨lk52 L, cT S + 1, ?_⟩
  have key : ∀ dd k : Nat, k + dd = cT S → ∀ m1, Fr [52, 53, 54, 55, 56] m m1 → (∀ j, j ≠ 6 → j ≠ 7 → gI m1 52 j = gI m 52 j) → SlK m1 S (U0 S P) k → ∀ z : Int32, z = nI k → wX1_layOut_L12 t 52 s (nI (bts (sureB S P) (cT S))) Q (fun m18 => Q m18) (dd + 1) z m1 := by
    intro dd
    induction dd with
    | zero =>
      intro k hk m1 f1 g1 s1 z hz
      have e : k = cT S := by omega
      subst e
      have c1 := c.fr f1 oT
      rw [hz, wX1_layOut_L12, c1.sm.things]
      exact ⟨ls_k L hs, fun _ => hQ m1 f1 g1 s1, fun hh => absurd (nI_le (Nat.le_refl _) (by omega)) hh⟩
    | succ dd ih =>
      intro k hk m1 f1 g1 s1 z hz
      have kt : k < cT S := by omega
      have c1 := c.fr f1 oT
      have L1 := c1.lay
      have c99 := v.c99 k (by omega)
      have av := v.a2 k kt
      have bt := bts_tb (sureB S P) (cT S) k
      rw [decide_eq_true kt, Bool.true_and] at bt
      have no : U0 S P k = false → wX1_layOut_L12 t 52 s (nI (bts (sureB S P) (cT S))) Q (fun m18 => Q m18) (dd + 1) (nI k + 1) m1 := by
        intro hu
        have ec : fb_ct (U0 S P) (k + 1) = fb_ct (U0 S P) k := by rw [fb_ct_succ, hu]; rfl
        refine ih (k + 1) (by omega) m1 f1 g1 ?_ _ (nI_1 k)
        unfold SlK at s1 ⊢
        rw [ec]
        exact s1
      have cl := fb_ct_le (U0 S P) k
      have kc := nI_cl (show k < 2 ^ 31 by omega)
      have cc := nI_cl (show fb_ct (U0 S P) k < 2 ^ 31 by omega)
      have n1 : (s + 1 = 53) = False := eq_false (by omega)
      have n2 : (s + 1 = 54) = False := eq_false (by omega)
      have n3 : (s + 2 = 53) = False := eq_false (by omega)
      rw [hz, wX1_layOut_L12]
      simp (config := { decide := true }) only [c1.sm.things, c1.sm.cost k (by omega), c1.sm.answers k kt, ls_k L1 hs, ls_r1 L1 hs, ls_k1 L1 hs, ls_l1 L1 hs, ls_r3 L1 hs, ls_k3 L1 hs, ls_l3 L1 hs, ls_r6 L1 hs, ls_k6 L1 hs, ls_l6 L1 hs, ls_r7 L1 hs, ls_k7 L1 hs, ls_l7 L1 hs, ls_r8 L1 hs, ls_k8 L1 hs, ls_l8 L1 hs, ls_r9 L1 hs, ls_k9 L1 hs, ls_l9 L1 hs, ls_r11 L1 hs, ls_k11 L1 hs, ls_l11 L1 hs, ls_r15 L1 hs, ls_k15 L1 hs, ls_l15 L1 hs, ls_r16 L1 hs, ls_k16 L1 hs, ls_l16 L1 hs, ls_r17 L1 hs, ls_k17 L1 hs, ls_l17 L1 hs, ls_r19 L1 hs, ls_k19 L1 hs, ls_l19 L1 hs, lr52_8 L1, lr52_9 L1, lr52_10 L1, lr52_11 L1, lk52 L, lk53 L, lk54 L, lk55 L, lk56 L, ll53 L, ll54 L, ll55 L, ll56 L, s1.sl, s1.st, kc, cc, gII, n1, n2, n3, and_false, false_and, if_false, and_self, if_true, true_and, nI_bit0 bl (show k < 31 by omega), bt]
      unfold wX1_layOut_J120
      refine ⟨fun hh => absurd hh (nI_ge (by omega) (by omega)), fun _ => ⟨vp_nI (by omega) (by decide), fun h0 => no ?_, fun h0 => ⟨fun hb => ?_, fun hb => no ?_⟩⟩⟩
      · have : ¬ 0 < cC S k := fun q => absurd h0 (nI_nle q (by omega))
        unfold U0
        simp [this]
      · have pos : 0 < cC S k := by
          rcases Nat.eq_zero_or_pos (cC S k) with q | q
          · rw [q] at h0; exact absurd (by decide) h0
          · exact q
        have hu : U0 S P k = true := U0_iff.mpr ⟨kt, pos, hb⟩
        have ec : fb_ct (U0 S P) (k + 1) = fb_ct (U0 S P) k + 1 := by rw [fb_ct_succ, hu]; rfl
        have et := thU_of (show k < 8 by omega) hu
        have eN : NU S (U0 S P) (fb_ct (U0 S P) k) = cA S k + 1 := by unfold NU; rw [et]
        have vc : vp_in (nI (fb_ct (U0 S P) k)) 8 := vp_nI (by omega) (by decide)
        refine ⟨vc, vc, vp_nI (by omega) (by decide), vc, vc, vc, ih (k + 1) (by omega) _ ?_ (fun j a b => ?_) ⟨?_, ?_, fun j hj => ?_⟩ _ (nI_1 k)⟩
        · exact Fr.pI (Fr.pI (Fr.pI (Fr.pI (Fr.pI (Fr.pI f1 (by decide)) (by decide)) (by decide)) (by decide)) (by decide)) (by decide)
        · simp (config := { decide := true }) only [gII, a, b, and_false, false_and, if_false]
          exact g1 j a b
        · simp (config := { decide := true }) only [gII, and_self, if_true]
          rw [ec, nI_1]
        · simp (config := { decide := true }) only [gII, and_false, if_false, and_self, if_true]
          rw [ec, pl, eN, nI_1, pk_mul]
        · simp (config := { decide := true }) only [gII, and_false, false_and, if_false, true_and]
          rw [ec] at hj
          by_cases z : j = fb_ct (U0 S P) k
          · subst z
            rw [if_pos rfl, if_pos rfl, if_pos rfl, if_pos rfl, et, eN, nI_1]
            exact ⟨rfl, rfl, rfl, rfl⟩
          · rw [if_neg z, if_neg z, if_neg z, if_neg z]
            exact s1.th j (by omega)
      · have hb' : sureB S P k = true := ts_false hb
        unfold U0
        simp [hb']
  refine key (cT S) 0 (by omega) _ (Fr.pI (Fr.pI Fr.rf (by decide)) (by decide)) (fun j a b => ?_) ⟨?_, ?_, fun j hj => ?_⟩ 0 rfl
  · simp (config := { decide := true }) only [gII, a, b, and_false, false_and, if_false]
  · simp (config := { decide := true }) only [gII, and_false, if_false, and_self, if_true]; rfl
  · simp (config := { decide := true }) only [gII, and_self, if_true]; rfl
  · have hj : j < 0 := hj
    omega
end
