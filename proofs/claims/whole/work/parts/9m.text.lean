/-! The class reads a text -/
section
variable {t : zT} {m m' m1 m2 : zM} {B : Nat → Nat} {n a b c s : Nat} {k : Tk} {x y : Int32} {N S : Sc} {Q : Int32 → zM → Prop}
theorem sp_sclear (L : Lay t m) (hs : isSch s) {Q : zM → Prop} (hQ : ∀ m', Fr (prT s) m m' → (∀ j, gI m' 2 j = gI m 2 j) → SG m' s ec oc zSc → Q m') : wX5_clear t m s Q := by
  unfold wX5_clear
  have h4 : 4 ≤ s := by have := hs.ge; omega
  have f1 : Fr (prT s) m (pI (pI m s 0 0) s 2 1) := Fr.pI (Fr.pI Fr.rf (prT_m.mpr (by omega))) (prT_m.mpr (by omega))
  have L1 := L.fr f1
  refine ⟨ls_k L hs, ?_⟩
  rw [show gR m s 3 = s + 2 from ls_r3 L hs]
  refine sp_fillI (ls_k3 L1 hs) (ls_l3 L1 hs) (by decide) (fun m3 f3 z3 _ => ?_)
  have f3' : Fr (prT s) m m3 := f1.tr (f3.mono (fun a ha => prT_m.mpr (by simp only [List.mem_cons, List.not_mem_nil, or_false] at ha; omega)))
  have f4 : Fr (prT s) m (pI (pI (pI (pI (pI (pI (pI m3 s 4 0) s 5 0) s 10 0) s 12 0) s 13 (-2)) s 14 0) s 18 0) := Fr.pI (Fr.pI (Fr.pI (Fr.pI (Fr.pI (Fr.pI (Fr.pI f3' (prT_m.mpr (by omega))) (prT_m.mpr (by omega))) (prT_m.mpr (by omega))) (prT_m.mpr (by omega))) (prT_m.mpr (by omega))) (prT_m.mpr (by omega))) (prT_m.mpr (by omega))
  have e0 : ∀ j, gI m3 s j = gI (pI (pI m s 0 0) s 2 1) s j := fun j => f3.I (by simp only [List.mem_cons, List.not_mem_nil, or_false]; omega) j
  refine hQ _ f4 (fun j => ?_) ⟨fun i hi => ?_, fun j hj q hq => ?_⟩
  · have s2 : 2 ≠ s := by omega
    simp only [gII, s2, false_and, if_false]
    rw [f3.I (by simp only [List.mem_cons, List.not_mem_nil, or_false]; omega)]
    simp only [gII, s2, false_and, if_false]
  · rcases c9 hi with rfl | rfl | rfl | rfl | rfl | rfl | rfl | rfl | rfl
    · show gI _ s 0 = nI 0
      simp (config := { decide := true }) only [gII, e0, true_and, if_true, if_false]
    · show gI _ s 2 = nI 1
      simp (config := { decide := true }) only [gII, e0, true_and, if_true, if_false]
    · show gI _ s 4 = nI 0
      simp (config := { decide := true }) only [gII, true_and, if_true, if_false]
    · show gI _ s 5 = nI 0
      simp (config := { decide := true }) only [gII, true_and, if_true, if_false]
    · show gI _ s 10 = nI 0
      simp (config := { decide := true }) only [gII, true_and, if_true, if_false]
    · show gI _ s 12 = nI 0
      simp (config := { decide := true }) only [gII, true_and, if_true, if_false]
    · show gI _ s 13 = -2
      simp (config := { decide := true }) only [gII, true_and, if_true, if_false]
    · show gI _ s 14 = nI 0
      simp (config := { decide := true }) only [gII, true_and, if_true, if_false]
    · show gI _ s 18 = nI 0
      simp (config := { decide := true }) only [gII, true_and, if_true, if_false]
  · rcases c11 hj with rfl | rfl | rfl | rfl | rfl | rfl | rfl | rfl | rfl | rfl | rfl
    · exact absurd hq (Nat.not_lt_zero _)
    · show gI _ (s + 2) q = nI 0
      have s2 : s + 2 ≠ s := by omega
      simp only [gII, s2, false_and, if_false]
      exact z3 q hq
    all_goals exact absurd hq (Nat.not_lt_zero _)
/-- what reading a text touches -/
theorem sp_read (L : Lay t m) (hs : isSch s) (hin : gR m 2 4 = s) (n9 : n ≤ 900) (tp : ∀ j, j < n → TB (gI m 3 j) (B j)) (h0 : ∀ e m', pAll B n = .inl e → Fr (prT s) m m' → gI m' 2 1 = 0 → Fl m' e → Q (nI e.1) m') (h1 : ∀ S N k m', pAll B n = .inr (S, N, k) → Fr (prT s) m m' → gI m' 2 1 = 0 → SG m' s ec oc S → Vq S N → cT S ≠ 0 → Q 0 m') : wX3_read t m 2 (nI n) Q := by
  unfold wX3_read
  have h4 : 4 ≤ s := by have := hs.ge; omega
  have e9 : (if (900 : Int32) < nI n then (900 : Int32) else nI n) = nI n := if_neg (fun z => by have := (nI_ltI (a := 900) (b := n) (by decide) (by omega)).mp z; omega)
  rw [hin, e9]
  refine ⟨lk2 L, ls_k L hs, ?_⟩
  have f1 : Fr [2] m (pI (pI (pI (pI (pI m 2 2 (nI n)) 2 1 0) 2 3 0) 2 11 0) 2 9 0) := Fr.pI (Fr.pI (Fr.pI (Fr.pI (Fr.pI Fr.rf (by decide)) (by decide)) (by decide)) (by decide)) (by decide)
  have a2 : gI (pI (pI (pI (pI (pI m 2 2 (nI n)) 2 1 0) 2 3 0) 2 11 0) 2 9 0) 2 2 = nI n := by simp (config := { decide := true }) only [gII, true_and, if_true, if_false]
  have a1 : gI (pI (pI (pI (pI (pI m 2 2 (nI n)) 2 1 0) 2 3 0) 2 11 0) 2 9 0) 2 1 = 0 := by simp (config := { decide := true }) only [gII, true_and, if_true, if_false]
  have a3 : gI (pI (pI (pI (pI (pI m 2 2 (nI n)) 2 1 0) 2 3 0) 2 11 0) 2 9 0) 2 3 = 0 := by simp (config := { decide := true }) only [gII, true_and, if_true, if_false]
  have a11 : gI (pI (pI (pI (pI (pI m 2 2 (nI n)) 2 1 0) 2 3 0) 2 11 0) 2 9 0) 2 11 = 0 := by simp (config := { decide := true }) only [gII, true_and, if_true, if_false]
  have a9 : gI (pI (pI (pI (pI (pI m 2 2 (nI n)) 2 1 0) 2 3 0) 2 11 0) 2 9 0) 2 9 = 0 := by simp (config := { decide := true }) only [gII, true_and, if_true, if_false]
  generalize pI (pI (pI (pI (pI m 2 2 (nI n)) 2 1 0) 2 3 0) 2 11 0) 2 9 0 = ma at *
  refine sp_sclear (L.fr f1) hs (fun m4 f4 e4 S4 => ?_)
  have F4 : Fr (prT s) m m4 := (f1.mono (fun a ha => prT_m.mpr (by simp only [List.mem_cons, List.not_mem_nil, or_false] at ha; omega))).tr f4
  have L4 := L.fr F4
  have T4 : ∀ j, j < n → TB (gI m4 3 j) (B j) := fun j hj => by
    rw [F4.I (fun z => by have := prT_m.mp z; have := hs.ge; omega)]
    exact tp j hj
  refine sp_next L4 ((e4 2).trans a2) n9 T4 (a := 0) ((e4 3).trans a3) (Nat.zero_le _) (fun m6 f6 tk6 => ?_)
  have P6 : PB t m6 B n (tkn B n 0) := ⟨L4.fr f6.1, n9, (f6.2 2 (by decide) (by decide) (by decide) (by decide)).trans ((e4 2).trans a2), fun j hj => by rw [f6.tape]; exact T4 j hj, tk6, tkn_ok (Nat.zero_le _), (f6.2 9 (by decide) (by decide) (by decide) (by decide)).trans ((e4 9).trans a9)⟩
  have N6 : CNm m6 zSc := ⟨f6.pf.2.1.trans ((e4 11).trans a11), by decide, fun i hi => absurd hi (Nat.not_lt_zero _), fun i hi => absurd hi (Nat.not_lt_zero _), fun i hi => absurd hi (Nat.not_lt_zero _)⟩
  have C6 : PC t m6 B n s zSc zSc (tkn B n 0) := ⟨P6, (f6.1.2 _ _).trans ((F4.2 _ _).trans hin), hs, S4.pf EOc f6.pf h4, N6, Vq.z⟩
  have F6 : Fr (prT s) m m6 := F4.tr f6.pf.p.1
  have g6 : gI m6 2 1 = 0 := f6.pf.2.2.trans ((e4 1).trans a1)
  have J0 : ∀ e m', pAll B n = .inl e → FrP s m6 m' → Fl m' e → wX3_read_J93 t m' 2 Q := by
    intro e m' he f g
    have e8 := g.2.2.2
    have nz : ¬ gI m' 2 9 = 0 := by
      rw [g.1, show (0 : Int32) = nI 0 from rfl, nI_eq (by omega) (by decide)]
      have := g.2.2.1
      omega
    unfold wX3_read_J93 wX3_read_J113
    refine ⟨lk2 L, fun z => absurd z nz, fun _ => ⟨lk2 L, fun z => absurd z nz, fun _ => ?_⟩⟩
    rw [g.1]
    exact h0 e m' he (F6.tr f.1) (f.2.trans g6) g
  have J1 : ∀ S N k m', pLines B n 500 zSc zSc (tkn B n 0) = .inr (S, N, k) → FrP s m6 m' → PC t m' B n s S N k → wX3_read_J93 t m' 2 Q := by
    intro S N k m' he f C
    have base : pAll B n = if k.1 = 0 then (if cT S = 0 then .inl (6, k.2.1) else .inr (S, N, k)) else .inl (1, k.2.1) := bd_r he
    have k5 := C.pb.ok.kd
    have fl := C.pb.fl
    have t8 := C.vq.t8
    have J113 : gI m' 2 9 = 0 → k.1 = 0 → wX3_read_J113 t m' 2 Q := by
      intro _ hk
      rw [if_pos hk] at base
      unfold wX3_read_J113
      rw [C.into, show gI m' s 0 = nI (cT S) from C.sg.1 0 (by decide), show (0 : Int32) = nI 0 from rfl, nI_eq (by omega) (by decide)]
      refine ⟨lk2 L, fun _ => ⟨ls_k C.pb.lay hs, fun z => sp_fail C.pb (c := 6) rfl (fun m2 f2 g2 => ?_), fun z => ?_⟩, fun z => absurd fl z⟩
      · rw [g2.1]
        exact h0 (6, k.2.1) m2 (base.trans (if_pos z)) (F6.tr (f.tr f2.p).1) ((f.tr f2.p).2.trans g6) g2
      · rw [fl]
        exact h1 S N k m' (base.trans (if_neg z)) (F6.tr f.1) (f.2.trans g6) C.sg C.vq z
    unfold wX3_read_J93
    rw [C.pb.tk.kd]
    refine ⟨lk2 L, fun _ => ⟨fun z => J113 fl ?_, fun z => sp_fail C.pb (c := 1) rfl (fun m2 f2 g2 => ?_)⟩, fun z => absurd fl z⟩
    · rw [show (0 : Int32) = nI 0 from rfl, nI_eq (by omega) (by decide)] at z
      exact z
    · have hk : ¬ k.1 = 0 := fun y => z (by rw [y]; rfl)
      rw [if_neg hk] at base
      have nz : ¬ gI m2 2 9 = 0 := by rw [g2.1]; exact (show ¬ nI 1 = 0 by decide)
      unfold wX3_read_J113
      refine ⟨lk2 L, fun z => absurd z nz, fun _ => ?_⟩
      rw [g2.1]
      exact h0 (1, k.2.1) m2 base (F6.tr (f.tr f2.p).1) ((f.tr f2.p).2.trans g6) g2
  refine sp_readLine C6 (fun e m' he f g => ?_) (fun S' N' k' m' he f C => ?_)
  · refine ⟨0 + 1, ?_⟩
    rw [wX3_read_L49]
    have J := J0 e m' (bd_l (bd_l he)) f g
    exact ⟨fun _ => J, fun _ => ⟨fun _ => J, fun z => absurd rfl z⟩⟩
  · have ok := (pLine_ok Vq.z P6.ok he).2.2
    have eq : pLines B n 500 zSc zSc (tkn B n 0) = lnT B n 499 S' N' k' := bd_r he
    refine ⟨499 + 2, sp_lines 499 0 S' N' k' m' rfl (by omega) C (fun e m2 he2 f2 g => J0 e m2 ?_ (f.tr f2) g) (fun S2 N2 k2 m2 he2 f2 C2 => J1 S2 N2 k2 m2 (eq.trans he2) (f.tr f2) C2)⟩
    exact bd_l (eq.trans he2)
end
