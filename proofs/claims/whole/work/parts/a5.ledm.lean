/-! led: what both answer -/
def ldN (U : Nat → Bool) (x : Int32) : Nat → Nat → Nat → Option Nat
  | 0, _, _ => none
  | d + 1, k, n => if U k then (if nI n = x then some k else ldN U x d (k + 1) (n + 1)) else ldN U x d (k + 1) n
def wX9_led_L17 (t : zT) (a : Nat) (p1 r : Int32) (Q : Int32 → zM → Prop) (X : zM → Prop) : Nat → Int32 → Int32 → zM → Prop
  | 0, _, _, _ => False
  | n + 1, x_3, x_4, m => tK t a = 9 ∧ tK t (gR m a 3) = 5 ∧ ((gI m (gR m a 3) 0 ≤ x_4 → X m) ∧ (¬ gI m (gR m a 3) 0 ≤ x_4 → ((((r >>> (x_4 &&& 31)) &&& (1 : Int32)) = 0 → ((x_3 = p1 → Q x_4 m) ∧ (¬ x_3 = p1 → wX9_led_L17 t a p1 r Q X n (x_3 + 1) (x_4 + 1) m))) ∧ (¬ ((r >>> (x_4 &&& 31)) &&& (1 : Int32)) = 0 → wX9_led_L17 t a p1 r Q X n x_3 (x_4 + 1) m))))
def wX9_led (t : zT) (m : zM) (a : Nat) (p1 : Int32) (Q : Int32 → zM → Prop) (X : zM → Prop) : Prop := tK t a = 9 ∧ tK t (gR m a 2) = 8 ∧ wX8_sureIn t m (gR m a 2) (gR m a 8) (fun r m' => ∃ n, wX9_led_L17 t a p1 r Q X n 0 0 m')
section
variable {t : zT} {m m' m1 m2 : zM} {s u w k : Nat} {S : Sc} {T : Ts} {x : Int32} {Q : Int32 → zM → Prop} {X : zM → Prop} {a1 a2 a3 len : Nat}
theorem rx_asksWorlds2 (c : RO t m u S T) {Q : zM → Prop} (hQ : ∀ m', Fr [75, 78, 79] m m' → (∀ j, j ≠ 19 → gI m' 75 j = gI m 75 j) → RO t m' u S T → AskM m' S (Wd S T) → Q m') : wX12_asksWorlds t m 75 Q := by
  have v := c.rc.vs
  have n16 := v.n16
  have t8 := v.t8
  unfold wX12_asksWorlds wX11_allSayings
  simp only [c.rc.told, c.rc.sm.sayings, all_bits (show cN S < 31 by omega), c.rc.sm.laws]
  refine ⟨lk75 c.rc.lay, c.rc.rl.k, c.rc.rl.k, c.rc.rl.k, rsp_asks (fa := true) (Fc := Fcf S (thd T 3) (tfb T 3)) c.rc c.sy (fun i hi => allS_tb hi) (by omega) (allS_lt v) (fun h => h) (fun _ k hk => ⟨c.tm.fact k (by omega), Fcf_le v hk⟩) (fun m' f g A => ?_)⟩
  have q : QR m m' := QR.rf.of f (by decide) g
  exact hQ m' f g (c.q q) A
theorem sp_ledO (c : CO t m s S T) (h1 : ∀ k, ldN (fun k => !sureB S (Wd S T) k) x (cT S) 0 0 = some k → Q (nI k) m) (h0 : ldN (fun k => !sureB S (Wd S T) k) x (cT S) 0 0 = none → X m) : wX9_led t m 1 x Q X := by
  have L := c.cor.lay
  have v := c.cor.vs
  have t8 := v.t8
  have hs := c.cor.sch
  unfold wX9_led
  rw [lr1_2 L, lr1_8 L]
  refine ⟨lk1 L, lk20 L, sp_sureIn c.cor (Or.inr (Or.inl rfl)) c.wor ⟨cT S + 1, ?_⟩⟩
  have bl := bts_lt (sureB S (Wd S T)) (cT S)
  have p8 : (2 : Nat) ^ cT S ≤ 2 ^ 8 := Nat.pow_le_pow_right (by decide) t8
  have key : ∀ d k n : Nat, k + d = cT S → n ≤ k → ldN (fun k => !sureB S (Wd S T) k) x (cT S) 0 0 = ldN (fun k => !sureB S (Wd S T) k) x d k n → wX9_led_L17 t 1 x (nI (bts (sureB S (Wd S T)) (cT S))) Q X (d + 1) (nI n) (nI k) m := by
    intro d
    induction d with
    | zero =>
      intro k n hk hn he
      have e : k = cT S := by omega
      subst e
      rw [wX9_led_L17, c.x3, c.cor.sm.things, nI_leI (by omega) (by omega)]
      exact ⟨lk1 L, ls_k L hs, fun _ => h0 he, fun z => absurd (Nat.le_refl _) z⟩
    | succ d ih =>
      intro k n hk hn he
      rw [ldN] at he
      rw [wX9_led_L17, c.x3, c.cor.sm.things, nI_leI (by omega) (by omega), nI_bit0 (by omega) (by omega), bts_tb, decide_eq_true (show k < cT S by omega), Bool.true_and, nI_1, nI_1]
      refine ⟨lk1 L, ls_k L hs, fun z => by omega, fun _ => ⟨fun z => ?_, fun z => ?_⟩⟩
      · rw [z] at he
        refine ⟨fun y => h1 k (he.trans (if_pos y)), fun y => ih (k + 1) (n + 1) (by omega) (by omega) (he.trans (if_neg y))⟩
      · rw [ts_false z] at he
        exact ih (k + 1) n (by omega) (by omega) he
  exact key (cT S) 0 0 (by omega) (Nat.le_refl _) rfl
theorem rsp_ledO (d : RO t m u S T) (h1 : ∀ k m', ldN (fun k => !sureB S (Wd S T) k) x (cT S) 0 0 = some k → Fr [75, 78, 79] m m' → (∀ j, j ≠ 0 → j ≠ 19 → gI m' 75 j = gI m 75 j) → gI m' 75 0 = 0 → Q (nI k) m') (h0 : ∀ m', ldN (fun k => !sureB S (Wd S T) k) x (cT S) 0 0 = none → Fr [75, 78, 79] m m' → (∀ j, j ≠ 0 → j ≠ 19 → gI m' 75 j = gI m 75 j) → gI m' 75 0 = 1 → Q 0 m') : wX12_led t m 75 x Q := by
  have L := d.rc.lay
  have v := d.rc.vs
  have t8 := v.t8
  have d0 := d.q (thr m)
  have F0 : Fr [75, 78, 79] m (pI m 75 0 0) := Fr.pI Fr.rf (by decide)
  have z0 : gI (pI m 75 0 0) 75 0 = 0 := by rw [gII, if_pos ⟨rfl, rfl⟩]
  have k0 : ∀ j, j ≠ 0 → gI (pI m 75 0 0) 75 j = gI m 75 j := fun j hj => by rw [gII, if_neg (fun q => hj q.2)]
  unfold wX12_led
  refine ⟨lk75 L, fun h => absurd h (u_ne d), fun _ => rx_asksWorlds2 d0 (fun m3 f3 g3 d3 A => ?_)⟩
  generalize pI m 75 0 0 = mz at *
  have F3 := F0.tr f3
  have z3 : gI m3 75 0 = 0 := (g3 0 (by decide)).trans z0
  have k3 : ∀ j, j ≠ 0 → j ≠ 19 → gI m3 75 j = gI m 75 j := fun j j0 j19 => (g3 j j19).trans (k0 j j0)
  unfold wX12_led_J18
  refine ⟨cT S + 1, ?_⟩
  have key : ∀ d' k n : Nat, k + d' = cT S → n ≤ k → ldN (fun k => !sureB S (Wd S T) k) x (cT S) 0 0 = ldN (fun k => !sureB S (Wd S T) k) x d' k n → wX12_led_L20 t 75 x Q (fun m11 => (tK t 75 = 12 ∧ (Q 0 (pI m11 75 0 1)))) (d' + 1) (nI n) (nI k) m3 := by
    intro d'
    induction d' with
    | zero =>
      intro k n hk hn he
      have e : k = cT S := by omega
      subst e
      rw [wX12_led_L20, d3.rc.told, d3.rc.sm.things, nI_leI (by omega) (by omega)]
      have fin : Q 0 (pI m3 75 0 1) := h0 _ he (Fr.pI F3 (by decide)) (fun j j0 j19 => by rw [gII, if_neg (fun q => j0 q.2)]; exact k3 j j0 j19) (by rw [gII, if_pos ⟨rfl, rfl⟩])
      exact ⟨lk75 L, fun _ => ⟨lk75 L, fin⟩, fun _ => ⟨d3.rc.rl.k, fun _ => ⟨lk75 L, fin⟩, fun z => absurd (Nat.le_refl _) z⟩⟩
    | succ d' ih =>
      intro k n hk hn he
      have u85 := d3.rc.rl.u85
      rw [ldN] at he
      rw [wX12_led_L20, d3.rc.told, d3.rc.sm.things, nI_leI (by omega) (by omega)]
      refine ⟨lk75 L, fun z => by omega, fun _ => ⟨d3.rc.rl.k, fun z => by omega, fun _ => rsp_one d3.rc A (by omega) ?_⟩⟩
      unfold wX12_led_J61
      rw [onI_m2 v (by omega), nI_1, nI_1]
      refine ⟨fun z => ?_, fun z => ?_⟩
      · rw [z] at he
        refine ⟨fun y => h1 k m3 (he.trans (if_pos y)) F3 k3 z3, fun y => ih (k + 1) (n + 1) (by omega) (by omega) (he.trans (if_neg y))⟩
      · rw [ts_false z] at he
        exact ih (k + 1) n (by omega) (by omega) he
  exact key (cT S) 0 0 (by omega) (Nat.le_refl _) rfl
theorem sp_ledC (c : Cl t m a1 a2 a3 len) (h0 : X m) : wX9_led t m 1 x Q X := by
  have L := c.cb.lay
  unfold wX9_led wX8_sureIn
  rw [lr1_2 L]
  refine ⟨lk1 L, lk20 L, 0 + 1, ?_⟩
  rw [wX8_sureIn_L4, c.told, c.cb.z 0 (by decide)]
  refine ⟨lk20 L, lk21 L, fun _ => ⟨0 + 1, ?_⟩, fun z => absurd (by decide) z⟩
  rw [wX9_led_L17, c.cb.x3, c.cb.z 0 (by decide)]
  exact ⟨lk1 L, lk21 L, fun _ => h0, fun z => absurd (by decide) z⟩
theorem rsp_ledC (K : tK t 75 = 12) (r : gR m 75 3 = 0) (h : Q 0 (pI (pI m 75 0 0) 75 0 1)) : wX12_led t m 75 x Q := by
  unfold wX12_led wX12_led_J18
  refine ⟨K, fun _ => ⟨0 + 1, ?_⟩, fun z => absurd r z⟩
  rw [wX12_led_L20]
  exact ⟨K, fun _ => ⟨K, h⟩, fun z => absurd r z⟩
theorem Gx.exc {X : List Nat} {R : Nat → Nat → Prop} : Gx t (tNew t 99 0) m m X R := ⟨by rw [tN_new]; omega, fun a ha => ⟨tK_new (by omega), tL_new (by omega)⟩, fun _ _ _ _ => ⟨rfl, rfl⟩, fun _ _ _ _ => rfl⟩
theorem Inv.exc (i : Inv t m w) : Inv (tNew t 99 0) m w := inv_faulted i (fun _ _ _ => Fr.rf) (fun _ _ => rfl) Gx.exc (fun _ _ => rfl) i.1 rfl
theorem Cmn.fr (c : Cmn m) (h2 : ∀ j, gI m' 2 j = gI m 2 j) (h3 : ∀ j, gI m' 3 j = gI m 3 j) (h76 : ∀ j, gI m' 76 j = gI m 76 j) (h1 : ∀ j, gI m' 1 j = gI m 1 j) (h75 : ∀ j, j ≠ 0 → j ≠ 19 → gI m' 75 j = gI m 75 j) : Cmn m' := by
  obtain ⟨f, B, T⟩ := c.tp
  refine ⟨⟨f, B, T.f9, (h2 1).trans T.cl, (h75 6 (by decide) (by decide)).trans T.rf, fun j hj => by rw [h3]; exact T.tc j hj, fun j hj => by rw [h76]; exact T.tr j hj⟩, ?_, ?_, ?_⟩
  · rw [h1, h75 13 (by decide) (by decide)]; exact c.fl
  · rw [h1, h75 1 (by decide) (by decide)]; exact c.tr
  · rw [h1, h1, h75 2 (by decide) (by decide)]; exact c.wh
theorem Inv.row (i : Inv t m w) (v : Int64) : Inv t (pJ m 84 0 v) w := i.fr (i.1.fr (fun _ => rfl) (fun _ => rfl) (fun _ => rfl) (fun _ => rfl) (fun _ _ _ => rfl)) (X := [84]) (Fr.pJ Fr.rf (by decide)) (fun a ha => by simp only [List.mem_cons, List.not_mem_nil, or_false] at ha; omega) rfl
theorem op_asked (c : Cmn m) (o : Op t m s u S T a1 a2 a3 len) (f : Fr [75, 78, 79] m m') (g : ∀ j, j ≠ 0 → j ≠ 19 → gI m' 75 j = gI m 75 j) : Inv t m' (us m len) := by
  have q : QR m m' := ⟨f.mono (by decide), fun j j0 _ _ j19 => g j j0 j19⟩
  have ei : ∀ a, a ∉ [75, 78, 79] → ∀ k, gI m' a k = gI m a k := fun a ha k => f.I ha k
  have les := o.les
  have pf := o.pf
  have pk := o.pk
  refine ⟨c.fr (ei 2 (by decide)) (ei 3 (by decide)) (ei 76 (by decide)) (ei 1 (by decide)) g, Or.inl ⟨s, u, S, T, a1, a2, a3, len, op_same o (o.co.r q) (o.ro.q q) (fun a k => f.2 a k) ?_ ?_ ?_, us_e (f.2 _ _)⟩⟩
  · rw [ei 1 (by decide)]; exact les
  · unfold pfOK at pf ⊢
    simp only [ei 48 (by decide), ei 51 (by decide)]
    exact pf
  · unfold plOK PlV at pk ⊢
    simp only [ei 52 (by decide)]
    exact pk
theorem st_led (i : Inv t m w) : wX9_led t m 1 x (fun r m1 => m1 = m ∧ wX12_led t (pJ m 84 0 r.toInt64) 75 x (fun b m2 => gI m2 75 0 = 0 ∧ b = r ∧ gJ m2 84 0 = r.toInt64 ∧ Inv t m2 w)) (fun m1 => m1 = m ∧ wX12_led (tNew t 99 0) m 75 x (fun b m2 => gI m2 75 0 = 1 ∧ Inv (tNew t 99 0) m2 w)) := by
  rcases i with ⟨c, ⟨s, u, S, T, a1, a2, a3, len, o, rfl⟩ | ⟨a1, a2, a3, len, o, rfl⟩⟩
  · refine sp_ledO o.co (fun k hk => ⟨rfl, ?_⟩) (fun hn => ⟨rfl, ?_⟩)
    · have f84 : Fr [84] m (pJ m 84 0 (nI k).toInt64) := Fr.pJ Fr.rf (by decide)
      have o' := o.fr f84 (fun a ha => by simp only [List.mem_cons, List.not_mem_nil, or_false] at ha; omega) rfl
      have c' : Cmn (pJ m 84 0 (nI k).toInt64) := c.fr (fun _ => rfl) (fun _ => rfl) (fun _ => rfl) (fun _ => rfl) (fun _ _ _ => rfl)
      refine rsp_ledO o'.ro (fun k' m' hk' f g z => ?_) (fun m' hn' => ?_)
      · rw [hk] at hk'
        cases hk'
        refine ⟨z, rfl, ?_, ?_⟩
        · rw [f.J (by decide), gJJ, if_pos ⟨rfl, rfl⟩]
        · have y := op_asked c' o' f g
          rw [us_e (f84.2 _ _)] at y
          exact y
      · rw [hk] at hn'
        cases hn'
    · have o' : Op (tNew t 99 0) m s u S T a1 a2 a3 len := op_fault o Fr.rf (fun _ _ => rfl) Gx.exc (fun _ _ => rfl)
      refine rsp_ledO o'.ro (fun k' m' hk' => ?_) (fun m' _ f g z => ⟨z, op_asked c o' f g⟩)
      rw [hn] at hk'
      cases hk'
  · refine sp_ledC o ⟨rfl, ?_⟩
    have i0 : Inv (tNew t 99 0) m (us m len) := Inv.exc ⟨c, Or.inr ⟨a1, a2, a3, len, o, rfl⟩⟩
    refine rsp_ledC (lk75 i0.lay) o.cb.r3 ⟨by rw [gII, if_pos ⟨rfl, rfl⟩], (i0.thr 0).thr 1⟩
end
