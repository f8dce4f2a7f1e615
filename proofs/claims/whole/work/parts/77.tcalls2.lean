/-! The term: draw of the reference, tries, mark, back -/
section
variable {t : zT} {m m' m1 m2 : zM} {s u r : Nat} {S : Sc} {T T' : Ts} {P P' : Nat → Bool} {x x2 x3 : Int32} {Tl : List Nat} {hd fb : Nat}
theorem rsp_draw_L {Q : Int32 → zM → Prop} {K : Int32 → zM → Prop} (L : Lay t m) (A : ∀ w, w < cnt S → gI m 78 w = bI (P w)) (hc : cnt S ≤ 4096) {i j : Nat} (j1 : j < cnt S) (j2 : P j = true) (j3 : fb_ct P j = i) (hK : K (nI j) m) : ∀ dd k : Nat, k + dd = j → ∀ z1 z2 : Int32, z1 = nI (i - fb_ct P k) → z2 = nI k → wX12_draw_L94 t 75 Q K (dd + 1) z1 z2 m := by
  have il : i ≤ 4096 := by rw [← j3]; have := fb_ct_le P j; omega
  intro dd
  induction dd with
  | zero =>
    intro k hk z1 z2 e1 e2
    have e : k = j := by omega
    subst e
    rw [e1, e2, wX12_draw_L94, lr75_17 L, lk78 L, ll78 L, nI_cl (show k < 2 ^ 31 by omega), A k j1, bI_0, j2, j3, Nat.sub_self]
    exact ⟨lk75 L, rfl, vp_nI (by omega) (by decide), fun h => absurd h (by decide), fun _ => ⟨fun _ => hK, fun h => absurd (by decide) h⟩⟩
  | succ dd ih =>
    intro k hk z1 z2 e1 e2
    have kl : k < cnt S := by omega
    rw [e1, e2, wX12_draw_L94, lr75_17 L, lk78 L, ll78 L, nI_cl (show k < 2 ^ 31 by omega), A k kl, bI_0]
    unfold wX12_draw_J107 wX12_draw_J122
    rw [lr75_17 L, lk78 L, ll78 L, nI_cl (show k < 2 ^ 31 by omega), A k kl, bI_0]
    have vp : vp_in (nI k) 4096 := vp_nI (by omega) (by decide)
    refine ⟨lk75 L, rfl, vp, fun h => ⟨lk75 L, rfl, vp, fun _ => ih (k + 1) (by omega) _ _ ?_ (nI_1 k), fun h2 => absurd h h2⟩, fun h => ?_⟩
    · rw [fb_ct_succ, h, show (0 : Int32) = nI 0 from rfl, pk_sub (Nat.zero_le _)]; rfl
    · have hp := ts_false h
      have lt : fb_ct P k < i := by
        have := fb_ct_mono P (show k + 1 ≤ j by omega)
        rw [fb_ct_succ, hp, j3] at this
        simp only [if_true] at this
        omega
      refine ⟨fun h0 => absurd h0 (nI_nle (by omega) (by omega)), fun _ => ⟨lk75 L, rfl, vp, fun h2 => absurd h2 h, fun _ => ih (k + 1) (by omega) _ _ ?_ (nI_1 k)⟩⟩
      rw [fb_ct_succ, hp, show (1 : Int32) = nI 1 from rfl, pk_sub (by omega)]
      congr 1
theorem rsp_draw_L2 {Q : Int32 → zM → Prop} {K : zM → Prop} {x : Int32} (L : Lay t m) (hK : ∀ m2, Fr [82] m m2 → (∀ k, k < 8 → gI m2 82 k = -2) → (∀ k, 8 ≤ k → gI m2 82 k = gI m 82 k) → K m2) : ∀ dd k : Nat, k + dd = 8 → ∀ m1, Fr [82] m m1 → (∀ j, j < k → gI m1 82 j = -2) → (∀ j, k ≤ j → gI m1 82 j = gI m 82 j) → ∀ z : Int32, z = nI k → wX12_draw_L132 t 75 x Q K (dd + 1) z m1 := by
  intro dd
  induction dd with
  | zero =>
    intro k hk m1 f g1 g2 z e
    have ek : k = 8 := by omega
    subst ek
    rw [e, wX12_draw_L132]
    exact ⟨fun _ => hK m1 f g1 g2, fun h => absurd (by decide) h⟩
  | succ dd ih =>
    intro k hk m1 f g1 g2 z e
    rw [e, wX12_draw_L132, lr75_26 (L.fr f), lk82 L, ll82 L, nI_cl (show k < 2 ^ 31 by omega)]
    refine ⟨fun h => absurd h (nI_ge (b := 8) (by omega) (by decide)), fun _ => ⟨lk75 L, rfl, vp_nI (by omega) (by decide), ih (k + 1) (by omega) _ (Fr.pI f (by decide)) (fun j hj => ?_) (fun j hj => ?_) _ (nI_1 k)⟩⟩
    · by_cases z : j = k
      · subst z; simp only [gII, and_self, if_true]
      · simp only [gII, z, and_false, if_false]; exact g1 j (by omega)
    · simp only [gII, show ¬ j = k by omega, and_false, if_false]; exact g2 j (by omega)
theorem rsp_draw (d : RO t m u S T) {Q : Int32 → zM → Prop} (h0 : mny S (Lw S) = 0 → ∀ m2, QR m m2 → Q (-1) (pI (pI m2 75 1 6) 75 2 (-1))) (h1 : ∀ sd j m2, 0 < mny S (Lw S) → isDr S T sd j → RT m m2 → RO t m2 u S (mkT T sd (j + 1) 0 0) → gI m2 75 1 = 0 → gI m2 75 2 = -1 → Q (nI (mny S (Lw S))) m2) : wX12_draw t m 75 Q := by
  have L := d.rc.lay
  have v := d.rc.vs
  have n16 := v.n16
  have t8 := v.t8
  have hc := v.cnt
  have ml := mny_le (S := S) (Lw S)
  have d1 := d.q (thr _)
  unfold wX12_draw wX11_allSayings
  simp only [d.rc.told, d1.rc.told, d1.rc.sm.sayings, all_bits (show cN S < 31 by omega), d1.rc.sm.laws]
  refine ⟨lk75 L, fun h => by have := d.rc.rl.u85; omega, fun _ => ⟨d.rc.rl.k, d.rc.rl.k, d.rc.rl.k, rsp_asks (fa := false) (Fc := fun _ => 0) d1.rc d1.sy (fun i hi => allS_tb hi) (by omega) (allS_lt v) (fun h => h) (fun h => by cases h) (fun m2 f2 g2 A => ?_)⟩⟩
  rw [askP_f] at A
  have A' : AskM m2 S (Lw S) := A
  have q2 : QR m m2 := (thr _).tr (QR.rf.of f2 (by decide) g2)
  have d2 := d.q q2
  have F2 : RT m m2 := (RT.rf.thr).tr ⟨f2.mono (by decide), fun j _ _ _ e _ => g2 j e⟩
  rw [A'.many, nI_small v ml, lr75_26 d2.rc.lay, lk82 L, ll82 L, cl10, d2.tm.seed, mul75L d2.tm.val.1]
  refine ⟨fun hz => rx_refused L (h0 hz m2 q2), fun hz => ?_⟩
  have pos : 0 < mny S (Lw S) := by omega
  have sl : (75 * tsd T 3 + 74) % 65537 < 65537 := Nat.mod_lt _ (by decide)
  generalize es : (75 * tsd T 3 + 74) % 65537 = sd at sl ⊢
  have il := Nat.mod_lt sd pos
  obtain ⟨j, j1, j2, j3⟩ := fb_ct_kth (p := Lw S) (n := cnt S) il
  have ga : gI (pI m2 82 10 (nI sd)) 75 19 = nI (mny S (Lw S)) := A'.many
  have gb : gI (pI m2 82 10 (nI sd)) 82 10 = nI sd := by rw [gII, if_pos ⟨rfl, rfl⟩]
  rw [ga, gb]
  refine ⟨rfl, vp_nI (n := 10) (by decide) (by decide), nI_ne0 pos (by omega), fun x15 h15 => ⟨j + 1, ?_⟩⟩
  rw [pk_rem (by omega) pos (by omega)] at h15
  have F3 : Fr [82] m2 (pI m2 82 10 (nI sd)) := Fr.pI Fr.rf (by decide)
  have L3 := d2.rc.lay.fr F3
  refine rsp_draw_L (i := sd % mny S (Lw S)) L3 (fun w hw => (F3.I (by decide) _).trans (A'.is_ w hw)) hc j1 j2 j3 ⟨9, ?_⟩ j 0 (by omega) _ _ (by rw [h15]; rfl) rfl
  refine rsp_draw_L2 L3 (fun m4 f4 g4 g5 => ?_) 8 0 (by omega) _ Fr.rf (fun k hk => absurd hk (by omega)) (fun k _ => rfl) 0 rfl
  have L4 := L3.fr f4
  rw [lr75_26 L4, lk82 L, ll82 L, cl8, cl9]
  refine ⟨rfl, vp_nI (n := 8) (by decide) (by decide), vp_nI (n := 9) (by decide) (by decide), ?_⟩
  have F5 : Fr [82] m2 (pI (pI m4 82 8 (nI j)) 82 9 0) := Fr.pI (Fr.pI (F3.tr f4) (by decide)) (by decide)
  have R5 : RT m (pI (pI m4 82 8 (nI j)) 82 9 0) := F2.tr ⟨F5.mono (by decide), fun k _ _ _ _ _ => F5.I (by decide) _⟩
  have e19 : gI (pI (pI m4 82 8 (nI j)) 82 9 0) 75 19 = nI (mny S (Lw S)) := (F5.I (by decide) _).trans A'.many
  have tm : TmR (pI (pI m4 82 8 (nI j)) 82 9 0) S (mkT T sd (j + 1) 0 0) := by
    refine d2.tm.up (fun k => F5.I (by decide) k) ?_ ?_ (fun k hk => ?_) ?_ (F5.I (by decide) _) sl ⟨j1, Nat.two_pow_pos _, fun _ => rfl⟩
    · simp (config := { decide := true }) only [gII, and_false, if_false]
      rw [g5 10 (by decide), gII, if_pos ⟨rfl, rfl⟩]
    · simp (config := { decide := true }) only [gII, and_false, if_false, and_self, if_true]
      simp [m2I]
    · simp only [gII, show ¬ k = 8 by omega, show ¬ k = 9 by omega, and_false, if_false]
      rw [g4 k hk, no_fact]; rfl
    · simp (config := { decide := true }) only [gII, and_self, if_true]
  rw [e19]
  refine rx_good L (h1 sd j _ pos ⟨es.symm, j1, j2, j3⟩ (R5.good 0) (ro_up d (R5.good 0) (tm.gd 0)) ?_ ?_)
  · simp (config := { decide := true }) only [gII, and_false, if_false, and_self, if_true]
  · simp (config := { decide := true }) only [gII, and_self, if_true]
theorem call_draw (c : CO t m s S T) (d : RO t m u S T) : wX9_draw t m 1 (fun r m1 => wX12_draw t m1 75 (fun r2 m2 => Fin m m2 r r2 ∨ FinT t s u S T m m2 r r2)) := by
  have L := c.cor.lay
  have q1 : QF m (pI m 1 14 6) := QF.rf.why 6
  refine sp_draw c (fun hz => rsp_draw (d.c q1) (fun _ m2 q2 => Or.inl (fin_raw L q1 (w14 m 6) q2 (by decide) _)) (fun sd j m2 hp => by omega)) (fun sd j m1 hp hr f1 c1 k1 w1 => rsp_draw (f1.ro d) (fun hz => by omega) (fun sd' j' m2 _ hr' f2 d2 e1 e2 => Or.inr ?_))
  obtain ⟨a, b⟩ := isDr_one hr hr'
  subst a b
  exact fin_T f1 c1 k1 w1 f2 d2 e1 e2 (by decide)
end
