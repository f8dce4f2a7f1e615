/-! The reference makes a new school to read into -/
def alk (j : Nat) : Nat := if j = 12 then 15 else 14
def aln (j : Nat) : Nat := [0, 8, 8, 6, 5, 6, 6, 6, 6, 17, 17, 17, 19, 19, 19].getD j 0
def Al (t0 : zT) (m0 : zM) (t : zT) (m : zM) (u : Nat) (n : Nat) : Prop := (u = tN t0) ∧ (tN t = u + 1 + n) ∧ (tK t u = 11) ∧ (∀ a, a < u → tK t a = tK t0 a ∧ tL t a = tL t0 a) ∧ (∀ a, a < u → ∀ k, gI m a k = gI m0 a k ∧ gJ m a k = gJ m0 a k ∧ gR m a k = gR m0 a k) ∧ (∀ k, gI m u k = if k = 7 then -2 else if k = 9 then 1 else 0) ∧ (∀ j, 1 ≤ j → j ≤ n → tK t (u + j) = alk j ∧ tL t (u + j) = aln j ∧ gR m u (9 + j) = u + j) ∧ (∀ j, 1 ≤ j → j ≤ n → ∀ k, gI m (u + j) k = 0)
theorem Al.un {t0 : zT} {m0 : zM} {t : zT} {m : zM} {u : Nat} {n : Nat} (h_ : Al t0 m0 t m u n) : u = tN t0 := h_.1
theorem Al.tn {t0 : zT} {m0 : zM} {t : zT} {m : zM} {u : Nat} {n : Nat} (h_ : Al t0 m0 t m u n) : tN t = u + 1 + n := h_.2.1
theorem Al.ku {t0 : zT} {m0 : zM} {t : zT} {m : zM} {u : Nat} {n : Nat} (h_ : Al t0 m0 t m u n) : tK t u = 11 := h_.2.2.1
theorem Al.ok {t0 : zT} {m0 : zM} {t : zT} {m : zM} {u : Nat} {n : Nat} (h_ : Al t0 m0 t m u n) : ∀ a, a < u → tK t a = tK t0 a ∧ tL t a = tL t0 a := h_.2.2.2.1
theorem Al.om {t0 : zT} {m0 : zM} {t : zT} {m : zM} {u : Nat} {n : Nat} (h_ : Al t0 m0 t m u n) : ∀ a, a < u → ∀ k, gI m a k = gI m0 a k ∧ gJ m a k = gJ m0 a k ∧ gR m a k = gR m0 a k := h_.2.2.2.2.1
theorem Al.iu {t0 : zT} {m0 : zM} {t : zT} {m : zM} {u : Nat} {n : Nat} (h_ : Al t0 m0 t m u n) : ∀ k, gI m u k = if k = 7 then -2 else if k = 9 then 1 else 0 := h_.2.2.2.2.2.1
theorem Al.ar {t0 : zT} {m0 : zM} {t : zT} {m : zM} {u : Nat} {n : Nat} (h_ : Al t0 m0 t m u n) : ∀ j, 1 ≤ j → j ≤ n → tK t (u + j) = alk j ∧ tL t (u + j) = aln j ∧ gR m u (9 + j) = u + j := h_.2.2.2.2.2.2.1
theorem Al.az {t0 : zT} {m0 : zM} {t : zT} {m : zM} {u : Nat} {n : Nat} (h_ : Al t0 m0 t m u n) : ∀ j, 1 ≤ j → j ≤ n → ∀ k, gI m (u + j) k = 0 := h_.2.2.2.2.2.2.2
section
variable {t0 t : zT} {m0 m : zM} {u n : Nat}
theorem Al.step (A : Al t0 m0 t m u n) {k len f : Nat} (hk : alk (n + 1) = k) (hl : aln (n + 1) = len) (hf : f = 10 + n) : Al t0 m0 (tNew t k len) (pR (zClr m (tN t)) u f (tN t)) u (n + 1) := by
  have tn := A.tn
  have eI : ∀ a j, a ≠ tN t → gI (pR (zClr m (tN t)) u f (tN t)) a j = gI m a j := fun a j ha => by rw [gIR, zcI, if_neg ha]
  have eJ : ∀ a j, a ≠ tN t → gJ (pR (zClr m (tN t)) u f (tN t)) a j = gJ m a j := fun a j ha => by rw [gJR, zcJ, if_neg ha]
  refine ⟨A.un, by rw [tN_new]; omega, (tK_new (by omega)).trans A.ku, fun a ha => ?_, fun a ha j => ?_, fun j => ?_, fun j h1 h2 => ?_, fun j h1 h2 q => ?_⟩
  · rw [tK_new (by omega), tL_new (by omega)]; exact A.ok a ha
  · rw [eI a j (by omega), eJ a j (by omega), gRR, if_neg (by omega), zcR, if_neg (by omega)]; exact A.om a ha j
  · rw [eI u j (by omega)]; exact A.iu j
  · by_cases z : j = n + 1
    · subst z
      rw [show u + (n + 1) = tN t by omega, tK_nw, tL_nw, gRR, if_pos ⟨rfl, by omega⟩]
      exact ⟨hk.symm, hl.symm, rfl⟩
    · rw [tK_new (by omega), tL_new (by omega), gRR, if_neg (by omega), zcR, if_neg (by omega)]
      exact A.ar j h1 (by omega)
  · by_cases z : j = n + 1
    · subst z
      rw [gIR, zcI, if_pos (by omega)]
    · rw [eI _ _ (by omega)]; exact A.az j h1 (by omega) q
theorem Al.base (h0 : 0 < tN t) : Al t m (tNew t 11 0) (pI (pI (zClr m (tN t)) (tN t) 7 (-2)) (tN t) 9 1) (tN t) 0 := by
  refine ⟨rfl, tN_new, tK_nw, fun a ha => ?_, fun a ha j => ?_, fun j => ?_, fun j h1 h2 => by omega, fun j h1 h2 => by omega⟩
  · rw [tK_new (by omega), tL_new (by omega)]; exact ⟨rfl, rfl⟩
  · rw [gII, if_neg (by omega), gII, if_neg (by omega), zcI, if_neg (by omega), gJI, gJI, zcJ, if_neg (by omega), gRI, gRI, zcR, if_neg (by omega)]; exact ⟨rfl, rfl, rfl⟩
  · rw [gII, gII, zcI, if_pos rfl]
    by_cases z9 : j = 9
    · rw [if_pos ⟨rfl, z9⟩, if_neg (by omega), if_pos z9]
    · rw [if_neg (fun q => z9 q.2)]
      by_cases z7 : j = 7
      · rw [if_pos ⟨rfl, z7⟩, if_pos z7]
      · rw [if_neg (fun q => z7 q.2), if_neg z7, if_neg z9]
set_option maxHeartbeats 4000000 in
set_option maxRecDepth 20000 in
theorem rsp_init (h0 : 0 < tN t) {Q : zT → zM → Prop} (h : ∀ t' m', Al t m t' m' (tN t) 14 → Q t' m') : wX11_init (14, 159) (tNew t 11 0) (zClr m (tN t)) (tN t) Q := by
  have A0 := Al.base (t := t) (m := m) h0
  have A1 := A0.step (k := 14) (len := 8) (f := 10) rfl rfl rfl
  have A2 := A1.step (k := 14) (len := 8) (f := 11) rfl rfl rfl
  have A3 := A2.step (k := 14) (len := 6) (f := 12) rfl rfl rfl
  have A4 := A3.step (k := 14) (len := 5) (f := 13) rfl rfl rfl
  have A5 := A4.step (k := 14) (len := 6) (f := 14) rfl rfl rfl
  have A6 := A5.step (k := 14) (len := 6) (f := 15) rfl rfl rfl
  have A7 := A6.step (k := 14) (len := 6) (f := 16) rfl rfl rfl
  have A8 := A7.step (k := 14) (len := 6) (f := 17) rfl rfl rfl
  have A9 := A8.step (k := 14) (len := 17) (f := 18) rfl rfl rfl
  have A10 := A9.step (k := 14) (len := 17) (f := 19) rfl rfl rfl
  have A11 := A10.step (k := 14) (len := 17) (f := 20) rfl rfl rfl
  have A12 := A11.step (k := 15) (len := 19) (f := 21) rfl rfl rfl
  have A13 := A12.step (k := 14) (len := 19) (f := 22) rfl rfl rfl
  have A14 := A13.step (k := 14) (len := 19) (f := 23) rfl rfl rfl
  unfold wX11_init
  exact ⟨h0, A0.ku, ⟨by decide, by decide⟩, fun _ => ⟨A1.ku, ⟨by decide, by decide⟩, fun _ => ⟨A2.ku, ⟨by decide, by decide⟩, fun _ => ⟨A3.ku, ⟨by decide, by decide⟩, fun _ => ⟨A4.ku, ⟨by decide, by decide⟩, fun _ => ⟨A5.ku, ⟨by decide, by decide⟩, fun _ => ⟨A6.ku, ⟨by decide, by decide⟩, fun _ => ⟨A7.ku, ⟨by decide, by decide⟩, fun _ => ⟨A8.ku, ⟨by decide, by decide⟩, fun _ => ⟨A9.ku, ⟨by decide, by decide⟩, fun _ => ⟨A10.ku, ⟨by decide, by decide⟩, fun _ => ⟨A11.ku, ⟨by decide, by decide⟩, fun _ => ⟨A12.ku, ⟨by decide, by decide⟩, fun _ => ⟨A13.ku, ⟨by decide, by decide⟩, fun _ => ⟨A14.ku, h _ _ A14⟩⟩⟩⟩⟩⟩⟩⟩⟩⟩⟩⟩⟩⟩⟩
theorem Al.rly (A : Al t0 m0 t m u 14) (h85 : 85 ≤ u) : RLy t m u := by
  have a := fun j h1 h2 => A.ar j h1 h2
  exact ⟨h85, A.ku, (a 1 (by decide) (by decide)).2.2, (a 1 (by decide) (by decide)).1, (a 1 (by decide) (by decide)).2.1, (a 2 (by decide) (by decide)).2.2, (a 2 (by decide) (by decide)).1, (a 2 (by decide) (by decide)).2.1, (a 3 (by decide) (by decide)).2.2, (a 3 (by decide) (by decide)).1, (a 3 (by decide) (by decide)).2.1, (a 4 (by decide) (by decide)).2.2, (a 4 (by decide) (by decide)).1, (a 4 (by decide) (by decide)).2.1, (a 5 (by decide) (by decide)).2.2, (a 5 (by decide) (by decide)).1, (a 5 (by decide) (by decide)).2.1, (a 6 (by decide) (by decide)).2.2, (a 6 (by decide) (by decide)).1, (a 6 (by decide) (by decide)).2.1, (a 7 (by decide) (by decide)).2.2, (a 7 (by decide) (by decide)).1, (a 7 (by decide) (by decide)).2.1, (a 8 (by decide) (by decide)).2.2, (a 8 (by decide) (by decide)).1, (a 8 (by decide) (by decide)).2.1, (a 9 (by decide) (by decide)).2.2, (a 9 (by decide) (by decide)).1, (a 9 (by decide) (by decide)).2.1, (a 10 (by decide) (by decide)).2.2, (a 10 (by decide) (by decide)).1, (a 10 (by decide) (by decide)).2.1, (a 11 (by decide) (by decide)).2.2, (a 11 (by decide) (by decide)).1, (a 11 (by decide) (by decide)).2.1, (a 12 (by decide) (by decide)).2.2, (a 12 (by decide) (by decide)).1, (a 12 (by decide) (by decide)).2.1, (a 13 (by decide) (by decide)).2.2, (a 13 (by decide) (by decide)).1, (a 13 (by decide) (by decide)).2.1, (a 14 (by decide) (by decide)).2.2, (a 14 (by decide) (by decide)).1, (a 14 (by decide) (by decide)).2.1⟩
theorem Al.gx (A : Al t0 m0 t m u 14) : Gx t0 t m0 m [] (fun _ _ => False) := by
  have un := A.un
  exact ⟨by rw [A.tn]; omega, fun a ha => A.ok a (by omega), fun a ha _ k => ⟨(A.om a (by omega) k).1, (A.om a (by omega) k).2.1⟩, fun a ha k _ => (A.om a (by omega) k).2.2⟩
theorem Al.sg (A : Al t0 m0 t m u 14) : SG m u er or_ zSc := by
  refine ⟨fun i hi => ?_, fun j hj k hk => ?_⟩
  · rcases c9 hi with rfl | rfl | rfl | rfl | rfl | rfl | rfl | rfl | rfl <;> rw [A.iu] <;> decide
  · have b := EOr.2.2 j hj
    rw [A.az (or_ j) b.1 (by omega) k]
    rfl
end
