/-! The reference's call school -/
def rsR (a k : Nat) : Prop := a = 75 ∧ (k = 3 ∨ k = 4)
section
variable {t t1 : zT} {m m' m1 m2 : zM} {u n f : Nat} {S : Sc} {B : Nat → Nat} {x : Int32}
theorem nI_dec {k : Nat} : nI (k + 1) + (-1 : Int32) = nI k := by
  rw [← nI_1, Int32.add_assoc, show (1 : Int32) + (-1) = 0 by decide, Int32.add_zero]
theorem rsp_termNew (L : Lay t m) {Q : Int32 → zT → zM → Prop} {K : zM → Prop} (hK : ∀ m', Fr [82] m m' → (∀ k, k < 11 → gI m' 82 k = if k < 8 then -2 else 0) → K m') : ∃ n, wX12_school_L180 t 75 Q K n 0 m := by
  refine ⟨11 + 1, ?_⟩
  have key : ∀ d k : Nat, k + d = 11 → ∀ m1, Fr [82] m m1 → (∀ j, j < k → gI m1 82 j = if j < 8 then -2 else 0) → wX12_school_L180 t 75 Q K (d + 1) (nI k) m1 := by
    intro d
    induction d with
    | zero =>
      intro k hk m1 f1 h1
      have e : k = 11 := by omega
      subst e
      rw [wX12_school_L180]
      exact ⟨fun _ => hK m1 f1 h1, fun z => absurd (by decide) z⟩
    | succ d ih =>
      intro k hk m1 f1 h1
      have L1 := L.fr f1
      have J : ∀ v, v = (if k < 8 then (-2 : Int32) else 0) → wX12_school_J203 t m1 75 (nI k) v (nI k) (gR m1 75 26) Q (wX12_school_L180 t 75 Q K (d + 1)) := by
        intro v hv
        unfold wX12_school_J203
        rw [lr75_26 L1, ll82 L, nI_cl (by omega), nI_1]
        refine ⟨lk82 L, vp_nI (by omega) (by decide), ih (k + 1) (by omega) _ (Fr.pI f1 (by decide)) (fun j hj => ?_)⟩
        rw [gII]
        by_cases z : j = k
        · rw [if_pos ⟨rfl, z⟩, z, hv]
        · rw [if_neg (fun y => z y.2)]; exact h1 j (by omega)
      rw [wX12_school_L180, show (11 : Int32) = nI 11 from rfl, show (8 : Int32) = nI 8 from rfl, nI_leI (by decide) (by omega), nI_leI (by decide) (by omega)]
      exact ⟨fun z => by omega, fun _ => ⟨lk75 L, fun z => J 0 (by rw [if_neg (by omega)]), fun z => J (-2) (by rw [if_pos (by omega)])⟩⟩
  exact key 11 0 rfl m Fr.rf (fun j hj => absurd hj (Nat.not_lt_zero _))
theorem rsp_table (L : Lay t m) (R : RLy t m u) (h3 : gR m 75 3 = u) (v : Vs S) (sm : RSm m u S) {Q : Int32 → zT → zM → Prop} {K : zM → Prop} (hK : ∀ m', Fr [77] m m' → (∀ w, w < cnt S → ∀ k, k < cT S → gI m' 77 (8 * w + k) = nI (ans S w k)) → K m') : ∃ n, wX12_school_L99 t 75 Q K n 0 m := by
  have c4 := v.cnt
  have t8 := v.t8
  have t1 := v.t1
  have u85 := R.u85
  have o77 : ∀ a, u ≤ a → a ∉ [77] := fun a ha z => by simp only [List.mem_cons, List.not_mem_nil, or_false] at z; omega
  refine ⟨cnt S + 1, ?_⟩
  have key : ∀ d w : Nat, w + d = cnt S → ∀ m1, Fr [77] m m1 → (∀ w', w' < w → ∀ k, k < cT S → gI m1 77 (8 * w' + k) = nI (ans S w' k)) → wX12_school_L99 t 75 Q K (d + 1) (nI w) m1 := by
    intro d
    induction d with
    | zero =>
      intro w hw m1 f1 h1
      have e : w = cnt S := by omega
      subst e
      rw [wX12_school_L99, f1.2, h3, f1.I (o77 u (Nat.le_refl _)), sm.ways, nI_leI (by omega) (by omega)]
      exact ⟨lk75 L, R.k, fun _ => hK m1 f1 h1, fun z => absurd (Nat.le_refl _) z⟩
    | succ d ih =>
      intro w hw m1 f1 h1
      rw [wX12_school_L99, f1.2, h3, f1.I (o77 u (Nat.le_refl _)), f1.I (o77 u (Nat.le_refl _)), sm.ways, sm.things, nI_leI (by omega) (by omega), nI_1]
      refine ⟨lk75 L, R.k, fun z => by omega, fun _ x20 hx => ⟨cT S + 1, ?_⟩⟩
      have in_ : ∀ q : Nat, q ≤ cT S → ∀ (m2 : zM) (x3 x4 : Int32), Fr [77] m m2 → (∀ k, q ≤ k → k < cT S → gI m2 77 (8 * w + k) = nI (ans S w k)) → (∀ w', w' < w → ∀ k, k < cT S → gI m2 77 (8 * w' + k) = nI (ans S w' k)) → (q = 0 → x4 = -1) → (∀ tt, q = tt + 1 → x4 = nI tt ∧ x3 = nI (w / wgt S tt)) → wX12_school_L123 t 75 (nI w) Q (fun m31 => wX12_school_L99 t 75 Q K (d + 1) (nI (w + 1)) m31) (q + 1) x3 x4 m2 := by
        intro q
        induction q with
        | zero =>
          intro _ m2 x3 x4 f2 g1 g2 e1 e2
          rw [wX12_school_L123, e1 rfl]
          refine ⟨fun _ => ih (w + 1) (by omega) m2 f2 (fun w' hw' k hk => ?_), fun z => absurd (by decide) z⟩
          rcases (show w' < w ∨ w' = w by omega) with y | y
          · exact g2 w' y k hk
          · rw [y]; exact g1 k (Nat.zero_le _) hk
        | succ q iq =>
          intro hq m2 x3 x4 f2 g1 g2 e1 e2
          obtain ⟨ex4, ex3⟩ := e2 q rfl
          have aq := v.a2 q (by omega)
          have a4 := ans_4 v (w := w) (show q < cT S by omega)
          have ea : gI m2 (u + 1) q = nI (cA S q) := (f2.I (o77 _ (by omega)) _).trans (sm.answers q (by omega))
          have wl : w / wgt S q ≤ w := Nat.div_le_self _ _
          have L2 := L.fr f2
          rw [wX12_school_L123, f2.2, h3, show gR m2 u 10 = u + 1 from (f2.2 _ _).trans R.r1, R.l1, lr75_16 L2, ll77 L, ex4, ex3, nI_cl (show q < 2 ^ 31 by omega), ea]
          have e77 : ∀ i y, gI (pI m2 77 i y) (u + 1) q = nI (cA S q) := fun i y => by rw [gII, if_neg (by omega)]; exact ea
          rw [show (8 : Int32) = nI 8 from rfl, pk_mul, nI_add, nI_cl (show 8 * w + q < 2 ^ 31 by omega), e77, pk_rem (by omega) (by omega) (by omega), pk_div (by omega) (by omega) (by omega)]
          have ev : (nI (w / wgt S q % cA S q)).toInt8.toInt32.toInt8.toInt32 = nI (ans S w q) := by
            rw [show w / wgt S q % cA S q = ans S w q from rfl, fa_byte_small (by omega), fa_byte_small (by omega)]
          rw [ev]
          have nz : ¬ nI (cA S q) = 0 := fun y => by
            rw [show (0 : Int32) = nI 0 from rfl, nI_eq (by omega) (by decide)] at y
            omega
          refine ⟨fun y => absurd y (nI_pos (by omega)), fun _ => ⟨lk75 L, R.k, R.k1, vp_nI (by omega) (by decide), nz, lk77 L, vp_nI (by omega) (by decide), nz, fun x30 hx30 => ?_⟩⟩
          refine iq (by omega) _ _ _ (Fr.pI f2 (by decide)) (fun k h1 h2 => ?_) (fun w' hw' k hk => ?_) (fun y => by rw [y]; decide) (fun tt htt => ?_)
          · rw [gII]
            by_cases z : k = q
            · rw [if_pos ⟨rfl, by rw [z]⟩, z]
            · rw [if_neg (by omega)]; exact g1 k (by omega) h2
          · rw [gII, if_neg (by omega)]; exact g2 w' hw' k hk
          · rw [htt]
            refine ⟨nI_dec, hx30.trans ?_⟩
            rw [htt, wgt_up (show tt + 1 < cT S by omega), Nat.div_div_eq_div_mul, Nat.mul_comm]
      refine in_ (cT S) (Nat.le_refl _) m1 (nI w) x20 f1 (fun k h1 h2 => by omega) h1 (fun y => by omega) (fun tt htt => ⟨?_, ?_⟩)
      · rw [hx, htt, show (1 : Int32) = nI 1 from rfl, pk_sub (by omega)]
        congr 1
      · have := wgt_0 v
        rw [show cT S - 1 = tt by omega] at this
        rw [this, Nat.div_one]
  exact key (cnt S) 0 (by omega) m Fr.rf (fun w' hw' => absurd hw' (Nat.not_lt_zero _))
end
