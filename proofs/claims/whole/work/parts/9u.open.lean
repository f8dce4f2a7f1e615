/-! The class opens a school -/
def T0 : Ts := (fun _ _ => 0, fun _ => 0)
def opT : List Nat := [1, 19, 20, 33, 34, 35, 37, 38, 39, 40, 41, 42, 43, 44, 45, 46, 47, 48, 52, 61, 66, 67, 68, 69]
def opR (a k : Nat) : Prop := (a = 1 ∧ k = 3) ∨ (a = 2 ∧ k = 4) ∨ (a = 20 ∧ k = 0)
section
variable {t : zT} {m m' m1 m2 : zM} {s s2 u : Nat} {S N : Sc} {T : Ts}
theorem TmV0 (v : Vs S) : TmV S T0 3 := ⟨by decide, Nat.zero_le _, Nat.two_pow_pos _, fun _ => rfl⟩
theorem Wd0 : Wd S T0 = askP S (allS S) (cLw S) true (Fcf S 0 0) := rfl
theorem sp_open (L : Lay t m) (x3 : gR m 1 3 = s) (hin : gR m 2 4 = s2) (h2 : isSch s2) (sg : SG m s2 ec oc S) (V : Vq S N) (nz : cT S ≠ 0) {Q : zM → Prop} (hQ : ∀ m', CO t m' s2 S T0 → gR m' 2 4 = s → Gx t t m m' opT opR → (∀ j, j ≠ 12 → j ≠ 13 → gI m' 1 j = gI m 1 j) → gI m' 1 12 = -2 → gI m' 48 1 = 0 → gI m' 52 0 = 0 → Q m') : wX9_openSchool t m 1 Q := by
  have v := V.vs nz
  obtain ⟨sm, say⟩ := sg.cls V
  have n16 := v.n16
  have sge := h2.ge
  have h20 : (∀ j, j ≤ 11 → s2 + j ∉ [20, 33, 34, 35]) := fun j hj q => by simp only [List.mem_cons, List.not_mem_nil, or_false] at q; omega
  have hjT : (∀ j, j ≤ 11 → s2 + j ∉ jT 66) := fun j hj q => by simp only [jT, List.mem_cons, List.not_mem_nil, or_false] at q; omega
  have LB : Lay t (pR (pR m 1 3 s2) 2 4 s) := (L.pR 1 3 (by decide)).pR 2 4 (by decide)
  have LC : Lay t (pR (pR (pR m 1 3 s2) 2 4 s) 20 0 s2) := LB.pR 20 0 (by decide)
  have b13 : gR (pR (pR m 1 3 s2) 2 4 s) 1 3 = s2 := by rw [gRR, if_neg (by decide), gRR, if_pos ⟨rfl, rfl⟩]
  have c13 : gR (pR (pR (pR m 1 3 s2) 2 4 s) 20 0 s2) 1 3 = s2 := by rw [gRR, if_neg (by decide)]; exact b13
  have c24 : gR (pR (pR (pR m 1 3 s2) 2 4 s) 20 0 s2) 2 4 = s := by rw [gRR, if_neg (by decide), gRR, if_pos ⟨rfl, rfl⟩]
  have c20 : gR (pR (pR (pR m 1 3 s2) 2 4 s) 20 0 s2) 20 0 = s2 := by rw [gRR, if_pos ⟨rfl, rfl⟩]
  unfold wX9_openSchool
  refine ⟨lk1 L, fun a2 ha => ?_⟩
  rw [x3] at ha
  subst ha
  rw [lr1_0 L, hin, lr1_0 (L.pR (v := s2) 1 3 (by decide)), lr1_2 LB, b13]
  refine ⟨lk2 L, lk2 L, lk20 L, sp_build LB h2 v sm (fun m7 f7 W7 => ?_)⟩
  have gc : ∀ a k, gI (pR (pR (pR m 1 3 s2) 2 4 a2) 20 0 s2) a k = gI m a k := fun _ _ => rfl
  have gcJ : ∀ a k, gJ (pR (pR (pR m 1 3 s2) 2 4 a2) 20 0 s2) a k = gJ m a k := fun _ _ => rfl
  have gcR : ∀ a k, ¬ opR a k → gR (pR (pR (pR m 1 3 s2) 2 4 a2) 20 0 s2) a k = gR m a k := fun a k h => by
    unfold opR at h
    rw [gRR, if_neg (by omega), gRR, if_neg (by omega), gRR, if_neg (by omega)]
  have smc : SchM (pR (pR (pR m 1 3 s2) 2 4 a2) 20 0 s2) s2 S := sm
  have sayc : SayM (pR (pR (pR m 1 3 s2) 2 4 a2) 20 0 s2) s2 S (cN S) := say
  generalize pR (pR (pR m 1 3 s2) 2 4 a2) 20 0 s2 = mc at *
  have L7 := LC.fr f7
  have x7 : gR m7 1 3 = s2 := (f7.2 _ _).trans c13
  have S7 := smc.fr f7 h20
  have Y7 := sayc.fr f7 h20
  unfold wX5_allSayings
  simp only [x7, S7.sayings, all_bits (show cN S < 31 by omega), S7.laws, lr1_1 L7, lr1_7 L7]
  refine ⟨ls_k L h2, ls_k L h2, ls_k L h2, lk19 L, sp_judge L7 h2 (Or.inl rfl) v ((f7.2 _ _).trans c20) S7 Y7 W7 (fun i hi => allS_tb hi) (allS_lt v) (fun h => h) (fun m14 f14 R14 => ?_)⟩
  have L14 := L7.fr f14
  rw [lr1_4 L14, lr1_6 L14]
  refine ⟨lk48 L, lk61 L, lk61 L, lk61 L, ?_⟩
  show wX9_reckonWorlds t (pI (pI (pI (pI (pI (pI m14 48 1 0) 61 0 0) 61 1 (-1)) 61 2 0) 61 3 0) 61 4 0) 1 (fun m20 => Q m20)
  have f18 : Fr [48, 61] m14 (pI (pI (pI (pI (pI (pI m14 48 1 0) 61 0 0) 61 1 (-1)) 61 2 0) 61 3 0) 61 4 0) := Fr.pI (Fr.pI (Fr.pI (Fr.pI (Fr.pI (Fr.pI Fr.rf (by decide)) (by decide)) (by decide)) (by decide)) (by decide)) (by decide)
  have t0 : gI (pI (pI (pI (pI (pI (pI m14 48 1 0) 61 0 0) 61 1 (-1)) 61 2 0) 61 3 0) 61 4 0) 61 0 = 0 := by simp (config := { decide := true }) only [gII, true_and, if_true, if_false]
  have t1 : gI (pI (pI (pI (pI (pI (pI m14 48 1 0) 61 0 0) 61 1 (-1)) 61 2 0) 61 3 0) 61 4 0) 61 1 = -1 := by simp (config := { decide := true }) only [gII, true_and, if_true, if_false]
  have t2 : gI (pI (pI (pI (pI (pI (pI m14 48 1 0) 61 0 0) 61 1 (-1)) 61 2 0) 61 3 0) 61 4 0) 61 2 = 0 := by simp (config := { decide := true }) only [gII, true_and, if_true, if_false]
  have t3 : gI (pI (pI (pI (pI (pI (pI m14 48 1 0) 61 0 0) 61 1 (-1)) 61 2 0) 61 3 0) 61 4 0) 61 3 = 0 := by simp (config := { decide := true }) only [gII, true_and, if_true, if_false]
  have t4 : gI (pI (pI (pI (pI (pI (pI m14 48 1 0) 61 0 0) 61 1 (-1)) 61 2 0) 61 3 0) 61 4 0) 61 4 = 0 := by simp (config := { decide := true }) only [gII, true_and, if_true, if_false]
  have t8 : gI (pI (pI (pI (pI (pI (pI m14 48 1 0) 61 0 0) 61 1 (-1)) 61 2 0) 61 3 0) 61 4 0) 48 1 = 0 := by simp (config := { decide := true }) only [gII, true_and, and_true, false_and, and_false, if_true, if_false]
  generalize pI (pI (pI (pI (pI (pI m14 48 1 0) 61 0 0) 61 1 (-1)) 61 2 0) 61 3 0) 61 4 0 = m18 at *
  have o48 : ∀ j, j ≤ 11 → s2 + j ∉ [48, 61] := fun j hj q => by simp only [List.mem_cons, List.not_mem_nil, or_false] at q; omega
  have C18 : Cor t m18 s2 S := ⟨L14.fr f18, h2, v, (f18.2 _ _).trans ((f14.2 _ _).trans ((f7.2 _ _).trans c20)), (S7.fr f14 hjT).fr f18 o48, (Y7.fr f14 hjT).fr f18 o48, (W7.fr f14 (by decide)).fr f18 (by decide)⟩
  have x18 : gR m18 1 3 = s2 := (f18.2 _ _).trans ((f14.2 _ _).trans x7)
  have R18 : RowM m18 66 S (Lw S) := RowM.fr (show RowM m14 66 S (Lw S) from R14) f18 (by decide) (by decide)
  refine sp_reckon C18 x18 (hd := 0) (fb := 0) t1 t2 ⟨Nat.zero_le _, Nat.two_pow_pos _, fun _ => rfl⟩ R18 (fun m20 rk => ?_)
  have F : Fr opT mc m20 := (((f7.mono (by decide)).tr (f14.mono (by decide))).tr (f18.mono (by decide))).tr (rk.fr.mono (by decide))
  have e61 : ∀ j, gI m20 61 j = gI m18 61 j := fun j => rk.fr.I (by decide) j
  have C20 : Cor t m20 s2 S := C18.fr rk.fr (fun a h1 h2 h3 => by simp only [List.mem_cons, List.not_mem_nil, or_false]; omega)
  refine hQ m20 ⟨C20, (rk.fr.2 _ _).trans x18, ⟨(e61 0).trans t0, (e61 1).trans t1, (e61 2).trans t2, (e61 3).trans t3, (e61 4).trans t4, fun j hj => absurd hj (Nat.not_lt_zero _), Nat.zero_le _, TmV0 v, fun j hj => absurd hj (Nat.not_lt_zero _)⟩, R18.fr rk.fr (by decide) (by decide), rk.row, rk.x13⟩ ((F.2 _ _).trans c24) ⟨Nat.le_refl _, fun _ _ => ⟨rfl, rfl⟩, fun a _ ha k => ⟨(F.1 a ha k).1.trans (gc a k), (F.1 a ha k).2.trans (gcJ a k)⟩, fun a _ k h => (F.2 a k).trans (gcR a k h)⟩ (fun j j2 j3 => ?_) rk.x12 ((rk.fr.I (by decide) _).trans t8) rk.p0
  rw [rk.x j j2 j3, f18.I (by decide), f14.I (by decide), f7.I (by decide)]
  exact gc 1 j
end
