def wX12_home (t : zT) (m : zM) (a : Nat) (p1 : Int32) (Q : Int32 → zM → Prop) : Prop := (tK t a = 12 ∧ (wX12_isThing t (pI m a 0 0) a p1 (fun r2 m3 => ((r2 = 0 → (wX12_refused t m3 a 1 (fun r12 m13 => (Q r12 m13)))) ∧ (¬ r2 = 0 → (wX12_homeNow t m3 a p1 (fun r5 m6 => ((r5 = (-1) → (wX12_refused t m6 a 6 (fun r10 m11 => (Q r10 m11)))) ∧ (¬ r5 = (-1) → (wX12_good t m6 a r5 (fun r8 m9 => (Q r8 m9))))))))))))
set_option maxHeartbeats 4000000 in
set_option maxRecDepth 20000 in
theorem kX12_home {l : Launch} {t : zT} {m : zM} {a : Nat} {p1 : Int32} {Q : Int32 → zM → Prop} (H : wX12_home t m a p1 Q) : zMet l yX12_home cX12_home 3 (some .int) 7 0 0 t m [.ref a, .int p1] (zPi t Q) := by
  refine zmet (by decide +kernel) (Nat.le_of_ble_eq_true rfl) ?_
  intro p e s mt args below meth c g C hr hm
  unfold wX12_home at H
  have hu1 : ((0, 0) : Nat × Nat).1 ≤ 0 := Nat.le_refl 0
  have hu2 : ((0, 0) : Nat × Nat).2 ≤ 0 := Nat.le_refl 0
  refine z_aload_n (pc := 0) C (dX12_home 0 rfl) rfl 0 rfl ?_
  refine z_iconst (pc := 1) (v := 0) C (dX12_home 1 rfl) (by decide) ?_
  obtain ⟨h1, H⟩ := H
  refine z_putI (pc := 2) C zc12 h1 0 (by decide) rfl rfl wf_X12_41 (dX12_home 2 rfl) ?_
  refine z_aload_n (pc := 5) C (dX12_home 3 rfl) rfl 0 rfl ?_
  refine z_iload_n (pc := 6) C (dX12_home 4 rfl) rfl 1 rfl ?_
  refine zc_Vi (pc := 7) (rest := []) C YX12_isThing wl_X12_364 (kX12_isThing H) (by decide) h1 rfl (by decide) (dX12_home 5 rfl) rfl hu1 hu2 (Nat.le_of_ble_eq_true rfl) rfl (fun r2 m3 H => ?_)
  refine z_if_ne (pc := 10) (tgt := 19) C (dX12_home 6 rfl) (by decide) (fun c4 => ?_) (fun c4 => ?_)
  · replace H := H.2 c4
    refine z_aload_n (pc := 19) C (dX12_home 11 rfl) rfl 0 rfl ?_
    refine z_iload_n (pc := 20) C (dX12_home 12 rfl) rfl 1 rfl ?_
    refine zc_Vi (pc := 21) (rest := []) C YX12_homeNow wl_X12_462 (kX12_homeNow H) (by decide) h1 rfl (by decide) (dX12_home 13 rfl) rfl hu1 hu2 (Nat.le_of_ble_eq_true rfl) rfl (fun r5 m6 H => ?_)
    refine z_istore_n (pc := 24) (i := 2) (lv2 := [(2, .int r5), (0, .ref a), (1, .int p1)]) C (dX12_home 14 rfl) rfl (by decide) rfl ?_
    refine z_iload_n (pc := 25) C (dX12_home 15 rfl) rfl 0 rfl ?_
    refine z_iconst (pc := 26) (v := (-1)) C (dX12_home 16 rfl) (by decide) ?_
    refine z_icmp_ne (pc := 27) (tgt := 39) C (dX12_home 17 rfl) (by decide) (fun c7 => ?_) (fun c7 => ?_)
    · replace H := H.2 c7
      refine z_aload_n (pc := 39) C (dX12_home 22 rfl) rfl 1 rfl ?_
      refine z_iload_n (pc := 40) C (dX12_home 23 rfl) rfl 0 rfl ?_
      refine zc_Vi (pc := 41) (rest := []) C YX12_good wl_X12_51 (kX12_good H) (by decide) h1 rfl (by decide) (dX12_home 24 rfl) rfl hu1 hu2 (Nat.le_of_ble_eq_true rfl) rfl (fun r8 m9 H => ?_)
      exact z_iret (pc := 44) C hr hu1 hu2 (dX12_home 25 rfl) ⟨rfl, _, rfl, H⟩
    · replace H := H.1 c7
      refine z_aload_n (pc := 30) C (dX12_home 18 rfl) rfl 1 rfl ?_
      refine z_bipush (pc := 31) (v := 6) C (dX12_home 19 rfl) (by decide) ?_
      refine zc_Vi (pc := 33) (rest := []) C YX12_refused wl_X12_47 (kX12_refused H) (by decide) h1 rfl (by decide) (dX12_home 20 rfl) rfl hu1 hu2 (Nat.le_of_ble_eq_true rfl) rfl (fun r10 m11 H => ?_)
      refine z_goto (pc := 36) (tgt := 44) C (dX12_home 21 rfl) (by decide) ?_
      exact z_iret (pc := 44) C hr hu1 hu2 (dX12_home 25 rfl) ⟨rfl, _, rfl, H⟩
  · replace H := H.1 c4
    refine z_aload_n (pc := 13) C (dX12_home 7 rfl) rfl 0 rfl ?_
    refine z_iconst (pc := 14) (v := 1) C (dX12_home 8 rfl) (by decide) ?_
    refine zc_Vi (pc := 15) (rest := []) C YX12_refused wl_X12_47 (kX12_refused H) (by decide) h1 rfl (by decide) (dX12_home 9 rfl) rfl hu1 hu2 (Nat.le_of_ble_eq_true rfl) rfl (fun r12 m13 H => ?_)
    exact z_iret (pc := 18) C hr hu1 hu2 (dX12_home 10 rfl) ⟨rfl, _, rfl, H⟩
def wX12_bestHome_J56 (t : zT) (m : zM) (a_0 : Nat) (x_1 : Int32) (x_2 : Int32) (x_3 : Int32) (Q : Int32 → zM → Prop) (r24 : Int32 → Int32 → Int32 → zM → Prop) : Prop := (r24 x_1 x_2 (x_3 + 1) m)
set_option maxHeartbeats 4000000 in
set_option maxRecDepth 20000 in
theorem sX12_bestHome_J56 {p : Program} {l : Launch} {e : Env} {s : State} {mt : MethodId} {args : Array Value} {below : List Frame} {meth : Method} {c : Code} {g : zG} {u : Nat × Nat} {mc ms : Nat} {t : zT} {m : zM} {a_0 : Nat} {x_1 : Int32} {x_2 : Int32} {x_3 : Int32} {Q : Int32 → zM → Prop} {r24 : Int32 → Int32 → Int32 → zM → Prop} (C : zC p (zRm 7 mc ms) s mt args meth c g cX12_bestHome 5 yX12_bestHome.cls 7) (hr : meth.sig.returnType = (some .int)) (hm : meth.name = yX12_bestHome.name) (hu1 : u.1 ≤ mc) (hu2 : u.2 ≤ ms)
    (R24 : ∀ (v0 : Int32) (v1 : Int32) (v2 : Int32) (m : zM), r24 v0 v1 v2 m → zW p l e (zRm 7 mc ms) s mt args below meth c g (MQ below (zQc g (zPi t Q)) args s mc ms (zFar g)) u 5 t m 24 [(0, .ref a_0), (1, .int v0), (2, .int v1), (3, .int v2)] []) (H : wX12_bestHome_J56 t m a_0 x_1 x_2 x_3 Q r24) : zW p l e (zRm 7 mc ms) s mt args below meth c g (MQ below (zQc g (zPi t Q)) args s mc ms (zFar g)) u 5 t m 56 [(0, .ref a_0), (1, .int x_1), (2, .int x_2), (3, .int x_3)] [] := by
  unfold wX12_bestHome_J56 at H
  refine z_iinc (pc := 56) (i := 3) (v := x_3 + 1) (lv2 := [(3, .int (x_3 + 1)), (0, .ref a_0), (1, .int x_1), (2, .int x_2)]) C (dX12_bestHome 33 rfl) 3 rfl (by rfl) (by decide) rfl ?_
  refine z_goto (pc := 59) (tgt := 24) C (dX12_bestHome 34 rfl) (by decide) ?_
  refine z_sub [1, 2, 3, 0] rfl ?_
  exact R24 x_1 x_2 (x_3 + 1) m H
def wX12_bestHome_L24 (t : zT) (a_0 : Nat) (Q : Int32 → zM → Prop) (k62 : Int32 → zM → Prop) : Nat → Int32 → Int32 → Int32 → zM → Prop
  | 0, _, _, _, _ => False
  | n + 1, x_1, x_2, x_3, m => (tK t a_0 = 12 ∧ (tK t (gR m a_0 3) = 11 ∧ (((gI m (gR m a_0 3) 0) ≤ x_3 → (k62 x_1 m)) ∧ (¬ (gI m (gR m a_0 3) 0) ≤ x_3 → (wX12_homeNow t m a_0 x_3 (fun r8 m9 => ((x_2 < r8 → (wX12_bestHome_J56 t m9 a_0 x_3 r8 x_3 Q (wX12_bestHome_L24 t a_0 Q k62 n))) ∧ (¬ x_2 < r8 → (wX12_bestHome_J56 t m9 a_0 x_1 x_2 x_3 Q (wX12_bestHome_L24 t a_0 Q k62 n))))))))))
set_option maxHeartbeats 4000000 in
set_option maxRecDepth 20000 in
theorem sX12_bestHome_L24 {p : Program} {l : Launch} {e : Env} {s : State} {mt : MethodId} {args : Array Value} {below : List Frame} {meth : Method} {c : Code} {g : zG} {u : Nat × Nat} {mc ms : Nat} {t : zT} {a_0 : Nat} {Q : Int32 → zM → Prop} {k62 : Int32 → zM → Prop} (C : zC p (zRm 7 mc ms) s mt args meth c g cX12_bestHome 5 yX12_bestHome.cls 7) (hr : meth.sig.returnType = (some .int)) (hm : meth.name = yX12_bestHome.name) (hu1 : u.1 ≤ mc) (hu2 : u.2 ≤ ms)
    (K62 : ∀ (v0 : Int32) (m : zM), k62 v0 m → zW p l e (zRm 7 mc ms) s mt args below meth c g (MQ below (zQc g (zPi t Q)) args s mc ms (zFar g)) u 5 t m 62 [(0, .ref a_0), (1, .int v0)] []) : ∀ (n : Nat) (x_1 : Int32) (x_2 : Int32) (x_3 : Int32) (m : zM), wX12_bestHome_L24 t a_0 Q k62 n x_1 x_2 x_3 m → zW p l e (zRm 7 mc ms) s mt args below meth c g (MQ below (zQc g (zPi t Q)) args s mc ms (zFar g)) u 5 t m 24 [(0, .ref a_0), (1, .int x_1), (2, .int x_2), (3, .int x_3)] [] := by
  intro n
  induction n with
  | zero => intro x_1 x_2 x_3 m H; exact H.elim
  | succ n ih =>
    intro x_1 x_2 x_3 m H
    simp only [wX12_bestHome_L24] at H
    refine z_iload_n (pc := 24) C (dX12_bestHome 16 rfl) rfl 3 rfl ?_
    refine z_aload_n (pc := 25) C (dX12_bestHome 17 rfl) rfl 0 rfl ?_
    obtain ⟨h5, H⟩ := H
    refine z_getR (pc := 26) C zc12 h5 3 (by decide) rfl wf_X12_314 (dX12_bestHome 18 rfl) ?_
    obtain ⟨h6, H⟩ := H
    refine z_getIN (pc := 29) C zc11 h6 0 (by decide) rfl wn_X12_180 (dX12_bestHome 19 rfl) ?_
    refine z_icmp_ge (pc := 32) (tgt := 62) C (dX12_bestHome 20 rfl) (by decide) (fun c7 => ?_) (fun c7 => ?_)
    · replace H := H.1 c7
      refine z_sub [0, 1] rfl ?_
      exact K62 x_1 m H
    · replace H := H.2 c7
      refine z_aload_n (pc := 35) C (dX12_bestHome 21 rfl) rfl 0 rfl ?_
      refine z_iload_n (pc := 36) C (dX12_bestHome 22 rfl) rfl 3 rfl ?_
      refine zc_Vi (pc := 37) (rest := []) C YX12_homeNow wl_X12_462 (kX12_homeNow H) (by decide) h5 rfl (by decide) (dX12_bestHome 23 rfl) rfl hu1 hu2 (Nat.le_of_ble_eq_true rfl) rfl (fun r8 m9 H => ?_)
      refine z_istore (pc := 40) (i := 4) (lv2 := [(4, .int r8), (0, .ref a_0), (1, .int x_1), (2, .int x_2), (3, .int x_3)]) C (dX12_bestHome 24 rfl) (by decide) rfl ?_
      refine z_iload (pc := 42) C (dX12_bestHome 25 rfl) 0 rfl ?_
      refine z_iload_n (pc := 44) C (dX12_bestHome 26 rfl) rfl 3 rfl ?_
      refine z_icmp_gt (pc := 45) (tgt := 51) C (dX12_bestHome 27 rfl) (by decide) (fun c10 => ?_) (fun c10 => ?_)
      · replace H := H.1 c10
        refine z_iload (pc := 51) C (dX12_bestHome 29 rfl) 0 rfl ?_
        refine z_istore_n (pc := 53) (i := 2) (lv2 := [(2, .int r8), (4, .int r8), (0, .ref a_0), (1, .int x_1), (3, .int x_3)]) C (dX12_bestHome 30 rfl) rfl (by decide) rfl ?_
        refine z_iload_n (pc := 54) C (dX12_bestHome 31 rfl) rfl 4 rfl ?_
        refine z_istore_n (pc := 55) (i := 1) (lv2 := [(1, .int x_3), (2, .int r8), (4, .int r8), (0, .ref a_0), (3, .int x_3)]) C (dX12_bestHome 32 rfl) rfl (by decide) rfl ?_
        refine z_sub [3, 0, 1, 4] rfl ?_
        exact sX12_bestHome_J56 C hr hm hu1 hu2 ih H
      · replace H := H.2 c10
        refine z_goto (pc := 48) (tgt := 56) C (dX12_bestHome 28 rfl) (by decide) ?_
        refine z_sub [1, 2, 3, 4] rfl ?_
        exact sX12_bestHome_J56 C hr hm hu1 hu2 ih H
def wX12_bestHome (t : zT) (m : zM) (a : Nat) (Q : Int32 → zM → Prop) : Prop := (tK t a = 12 ∧ (((gR m a 3) = 0 → (wX12_refused t (pI m a 0 0) a 1 (fun r3 m4 => (Q r3 m4)))) ∧ (¬ (gR m a 3) = 0 → (∃ n18, wX12_bestHome_L24 t a Q (fun v11 m12 => ((v11 = (-1) → (wX12_refused t m12 a 6 (fun r16 m17 => (Q r16 m17)))) ∧ (¬ v11 = (-1) → (wX12_good t m12 a v11 (fun r14 m15 => (Q r14 m15)))))) n18 (-1) (-1) 0 (pI m a 0 0)))))
set_option maxHeartbeats 4000000 in
set_option maxRecDepth 20000 in
theorem kX12_bestHome {l : Launch} {t : zT} {m : zM} {a : Nat} {Q : Int32 → zM → Prop} (H : wX12_bestHome t m a Q) : zMet l yX12_bestHome cX12_bestHome 5 (some .int) 7 0 0 t m [.ref a] (zPi t Q) := by
  refine zmet (by decide +kernel) (Nat.le_of_ble_eq_true rfl) ?_
  intro p e s mt args below meth c g C hr hm
  unfold wX12_bestHome at H
  have hu1 : ((0, 0) : Nat × Nat).1 ≤ 0 := Nat.le_refl 0
  have hu2 : ((0, 0) : Nat × Nat).2 ≤ 0 := Nat.le_refl 0
  refine z_aload_n (pc := 0) C (dX12_bestHome 0 rfl) rfl 0 rfl ?_
  refine z_iconst (pc := 1) (v := 0) C (dX12_bestHome 1 rfl) (by decide) ?_
  obtain ⟨h1, H⟩ := H
  refine z_putI (pc := 2) C zc12 h1 0 (by decide) rfl rfl wf_X12_41 (dX12_bestHome 2 rfl) ?_
  refine z_aload_n (pc := 5) C (dX12_bestHome 3 rfl) rfl 0 rfl ?_
  refine z_getR (pc := 6) C zc12 h1 3 (by decide) rfl wf_X12_314 (dX12_bestHome 4 rfl) ?_
  refine z_ifnonnull (pc := 9) (tgt := 18) C (dX12_bestHome 5 rfl) (by decide) (fun c2 => ?_) (fun c2 => ?_)
  · replace H := H.1 c2
    refine z_aload_n (pc := 12) C (dX12_bestHome 6 rfl) rfl 0 rfl ?_
    refine z_iconst (pc := 13) (v := 1) C (dX12_bestHome 7 rfl) (by decide) ?_
    refine zc_Vi (pc := 14) (rest := []) C YX12_refused wl_X12_47 (kX12_refused H) (by decide) h1 rfl (by decide) (dX12_bestHome 8 rfl) rfl hu1 hu2 (Nat.le_of_ble_eq_true rfl) rfl (fun r3 m4 H => ?_)
    exact z_iret (pc := 17) C hr hu1 hu2 (dX12_bestHome 9 rfl) ⟨rfl, _, rfl, H⟩
  · replace H := H.2 c2
    refine z_iconst (pc := 18) (v := (-1)) C (dX12_bestHome 10 rfl) (by decide) ?_
    refine z_istore_n (pc := 19) (i := 1) (lv2 := [(1, .int (-1)), (0, .ref a)]) C (dX12_bestHome 11 rfl) rfl (by decide) rfl ?_
    refine z_iconst (pc := 20) (v := (-1)) C (dX12_bestHome 12 rfl) (by decide) ?_
    refine z_istore_n (pc := 21) (i := 2) (lv2 := [(2, .int (-1)), (1, .int (-1)), (0, .ref a)]) C (dX12_bestHome 13 rfl) rfl (by decide) rfl ?_
    refine z_iconst (pc := 22) (v := 0) C (dX12_bestHome 14 rfl) (by decide) ?_
    refine z_istore_n (pc := 23) (i := 3) (lv2 := [(3, .int 0), (2, .int (-1)), (1, .int (-1)), (0, .ref a)]) C (dX12_bestHome 15 rfl) rfl (by decide) rfl ?_
    obtain ⟨n18, H⟩ := H
    refine z_sub [3, 2, 1, 0] rfl ?_
    refine sX12_bestHome_L24 C hr hm hu1 hu2 (fun v11 m12 H => ?_) n18 (-1) (-1) 0 (pI m a 0 0) H
    refine z_iload_n (pc := 62) C (dX12_bestHome 35 rfl) rfl 1 rfl ?_
    refine z_iconst (pc := 63) (v := (-1)) C (dX12_bestHome 36 rfl) (by decide) ?_
    refine z_icmp_ne (pc := 64) (tgt := 76) C (dX12_bestHome 37 rfl) (by decide) (fun c13 => ?_) (fun c13 => ?_)
    · replace H := H.2 c13
      refine z_aload_n (pc := 76) C (dX12_bestHome 42 rfl) rfl 0 rfl ?_
      refine z_iload_n (pc := 77) C (dX12_bestHome 43 rfl) rfl 1 rfl ?_
      refine zc_Vi (pc := 78) (rest := []) C YX12_good wl_X12_51 (kX12_good H) (by decide) h1 rfl (by decide) (dX12_bestHome 44 rfl) rfl hu1 hu2 (Nat.le_of_ble_eq_true rfl) rfl (fun r14 m15 H => ?_)
      exact z_iret (pc := 81) C hr hu1 hu2 (dX12_bestHome 45 rfl) ⟨rfl, _, rfl, H⟩
    · replace H := H.1 c13
      refine z_aload_n (pc := 67) C (dX12_bestHome 38 rfl) rfl 0 rfl ?_
      refine z_bipush (pc := 68) (v := 6) C (dX12_bestHome 39 rfl) (by decide) ?_
      refine zc_Vi (pc := 70) (rest := []) C YX12_refused wl_X12_47 (kX12_refused H) (by decide) h1 rfl (by decide) (dX12_bestHome 40 rfl) rfl hu1 hu2 (Nat.le_of_ble_eq_true rfl) rfl (fun r16 m17 H => ?_)
      refine z_goto (pc := 73) (tgt := 81) C (dX12_bestHome 41 rfl) (by decide) ?_
      exact z_iret (pc := 81) C hr hu1 hu2 (dX12_bestHome 45 rfl) ⟨rfl, _, rfl, H⟩
def wX12_settledBy (t : zT) (m : zM) (a : Nat) (p1 : Int32) (Q : Int32 → zM → Prop) : Prop := (tK t a = 12 ∧ (tK t (gR m a 3) = 11 ∧ (wX11_allSayings t m (gR m a 3) (fun r3 m4 => (tK t (gR m4 a 3) = 11 ∧ (wX12_asks t m4 a r3 (p1 &&& (gI m4 (gR m4 a 3) 6)) 0 (fun m7 => (((gI m7 a 19) = 0 → (Q (-1) m7)) ∧ (¬ (gI m7 a 19) = 0 → (wX12_oneBits t m7 a (fun r9 m10 => (wX12_bits t m10 r9 (fun r11 m12 => (Q r11 m12))))))))))))))
set_option maxHeartbeats 4000000 in
set_option maxRecDepth 20000 in
theorem kX12_settledBy {l : Launch} {t : zT} {m : zM} {a : Nat} {p1 : Int32} {Q : Int32 → zM → Prop} (H : wX12_settledBy t m a p1 Q) : zMet l yX12_settledBy cX12_settledBy 2 (some .int) 5 0 0 t m [.ref a, .int p1] (zPi t Q) := by
  refine zmet (by decide +kernel) (Nat.le_of_ble_eq_true rfl) ?_
  intro p e s mt args below meth c g C hr hm
  unfold wX12_settledBy at H
  have hu1 : ((0, 0) : Nat × Nat).1 ≤ 0 := Nat.le_refl 0
  have hu2 : ((0, 0) : Nat × Nat).2 ≤ 0 := Nat.le_refl 0
  refine z_aload_n (pc := 0) C (dX12_settledBy 0 rfl) rfl 0 rfl ?_
  refine z_aload_n (pc := 1) C (dX12_settledBy 1 rfl) rfl 0 rfl ?_
  obtain ⟨h1, H⟩ := H
  refine z_getR (pc := 2) C zc12 h1 3 (by decide) rfl wf_X12_314 (dX12_settledBy 2 rfl) ?_
  obtain ⟨h2, H⟩ := H
  refine zc_Vi (pc := 5) (rest := [.ref a]) C YX11_allSayings wl_X12_348 (kX11_allSayings H) (by decide) h2 rfl (by decide) (dX12_settledBy 3 rfl) rfl hu1 hu2 (Nat.le_of_ble_eq_true rfl) rfl (fun r3 m4 H => ?_)
  refine z_iload_n (pc := 8) C (dX12_settledBy 4 rfl) rfl 1 rfl ?_
  refine z_aload_n (pc := 9) C (dX12_settledBy 5 rfl) rfl 0 rfl ?_
  refine z_getR (pc := 10) C zc12 h1 3 (by decide) rfl wf_X12_314 (dX12_settledBy 6 rfl) ?_
  obtain ⟨h5, H⟩ := H
  refine z_getIN (pc := 13) C zc11 h5 6 (by decide) rfl wn_X12_269 (dX12_settledBy 7 rfl) ?_
  refine z_iand (pc := 16) C (dX12_settledBy 8 rfl) ?_
  refine z_iconst (pc := 17) (v := 0) C (dX12_settledBy 9 rfl) (by decide) ?_
  refine zc_Vv (pc := 18) (rest := []) C YX12_asks wl_X12_351 (kX12_asks H) (by decide) h1 rfl (by decide) (dX12_settledBy 10 rfl) rfl hu1 hu2 (Nat.le_of_ble_eq_true rfl) rfl (fun m7 H => ?_)
  refine z_aload_n (pc := 21) C (dX12_settledBy 11 rfl) rfl 0 rfl ?_
  refine z_getI (pc := 22) C zc12 h1 19 (by decide) rfl wf_X12_339 (dX12_settledBy 12 rfl) ?_
  refine z_if_ne (pc := 25) (tgt := 32) C (dX12_settledBy 13 rfl) (by decide) (fun c8 => ?_) (fun c8 => ?_)
  · replace H := H.2 c8
    refine z_aload_n (pc := 32) C (dX12_settledBy 16 rfl) rfl 0 rfl ?_
    refine zc_Vi (pc := 33) (rest := []) C YX12_oneBits wl_X12_375 (kX12_oneBits H) (by decide) h1 rfl (by decide) (dX12_settledBy 17 rfl) rfl hu1 hu2 (Nat.le_of_ble_eq_true rfl) rfl (fun r9 m10 H => ?_)
    refine zc_Si (pc := 36) (rest := []) C YX12_bits wl_X12_326 (kX12_bits H) (by decide) (dX12_settledBy 18 rfl) rfl hu1 hu2 (Nat.le_of_ble_eq_true rfl) rfl (fun r11 m12 H => ?_)
    exact z_iret (pc := 39) C hr hu1 hu2 (dX12_settledBy 19 rfl) ⟨rfl, _, rfl, H⟩
  · replace H := H.1 c8
    refine z_iconst (pc := 28) (v := (-1)) C (dX12_settledBy 14 rfl) (by decide) ?_
    refine z_goto (pc := 29) (tgt := 39) C (dX12_settledBy 15 rfl) (by decide) ?_
    exact z_iret (pc := 39) C hr hu1 hu2 (dX12_settledBy 19 rfl) ⟨rfl, _, rfl, H⟩
def wX12_byLaws (t : zT) (m : zM) (a : Nat) (p1 : Int32) (Q : Int32 → zM → Prop) : Prop := (tK t a = 12 ∧ (((gR m a 3) = 0 → (wX12_refused t (pI m a 0 0) a 1 (fun r3 m4 => (Q r3 m4)))) ∧ (¬ (gR m a 3) = 0 → (wX12_in t (pI m a 0 0) p1 0 7 (fun r5 m6 => ((r5 = 0 → (wX12_refused t m6 a 2 (fun r15 m16 => (Q r15 m16)))) ∧ (¬ r5 = 0 → (wX12_settledBy t m6 a p1 (fun r8 m9 => ((r8 = (-1) → (wX12_refused t m9 a 6 (fun r13 m14 => (Q r13 m14)))) ∧ (¬ r8 = (-1) → (wX12_good t m9 a r8 (fun r11 m12 => (Q r11 m12))))))))))))))
set_option maxHeartbeats 4000000 in
set_option maxRecDepth 20000 in
theorem kX12_byLaws {l : Launch} {t : zT} {m : zM} {a : Nat} {p1 : Int32} {Q : Int32 → zM → Prop} (H : wX12_byLaws t m a p1 Q) : zMet l yX12_byLaws cX12_byLaws 3 (some .int) 6 0 0 t m [.ref a, .int p1] (zPi t Q) := by
  refine zmet (by decide +kernel) (Nat.le_of_ble_eq_true rfl) ?_
  intro p e s mt args below meth c g C hr hm
  unfold wX12_byLaws at H
  have hu1 : ((0, 0) : Nat × Nat).1 ≤ 0 := Nat.le_refl 0
  have hu2 : ((0, 0) : Nat × Nat).2 ≤ 0 := Nat.le_refl 0
  refine z_aload_n (pc := 0) C (dX12_byLaws 0 rfl) rfl 0 rfl ?_
  refine z_iconst (pc := 1) (v := 0) C (dX12_byLaws 1 rfl) (by decide) ?_
  obtain ⟨h1, H⟩ := H
  refine z_putI (pc := 2) C zc12 h1 0 (by decide) rfl rfl wf_X12_41 (dX12_byLaws 2 rfl) ?_
  refine z_aload_n (pc := 5) C (dX12_byLaws 3 rfl) rfl 0 rfl ?_
  refine z_getR (pc := 6) C zc12 h1 3 (by decide) rfl wf_X12_314 (dX12_byLaws 4 rfl) ?_
  refine z_ifnonnull (pc := 9) (tgt := 18) C (dX12_byLaws 5 rfl) (by decide) (fun c2 => ?_) (fun c2 => ?_)
  · replace H := H.1 c2
    refine z_aload_n (pc := 12) C (dX12_byLaws 6 rfl) rfl 0 rfl ?_
    refine z_iconst (pc := 13) (v := 1) C (dX12_byLaws 7 rfl) (by decide) ?_
    refine zc_Vi (pc := 14) (rest := []) C YX12_refused wl_X12_47 (kX12_refused H) (by decide) h1 rfl (by decide) (dX12_byLaws 8 rfl) rfl hu1 hu2 (Nat.le_of_ble_eq_true rfl) rfl (fun r3 m4 H => ?_)
    exact z_iret (pc := 17) C hr hu1 hu2 (dX12_byLaws 9 rfl) ⟨rfl, _, rfl, H⟩
  · replace H := H.2 c2
    refine z_iload_n (pc := 18) C (dX12_byLaws 10 rfl) rfl 1 rfl ?_
    refine z_iconst (pc := 19) (v := 0) C (dX12_byLaws 11 rfl) (by decide) ?_
    refine z_bipush (pc := 20) (v := 7) C (dX12_byLaws 12 rfl) (by decide) ?_
    refine zc_Si (pc := 22) (rest := []) C YX12_in wl_X12_119 (kX12_in H) (by decide) (dX12_byLaws 13 rfl) rfl hu1 hu2 (Nat.le_of_ble_eq_true rfl) rfl (fun r5 m6 H => ?_)
    refine z_if_ne (pc := 25) (tgt := 34) C (dX12_byLaws 14 rfl) (by decide) (fun c7 => ?_) (fun c7 => ?_)
    · replace H := H.2 c7
      refine z_aload_n (pc := 34) C (dX12_byLaws 19 rfl) rfl 0 rfl ?_
      refine z_iload_n (pc := 35) C (dX12_byLaws 20 rfl) rfl 1 rfl ?_
      refine zc_Vi (pc := 36) (rest := []) C YX12_settledBy wl_X12_465 (kX12_settledBy H) (by decide) h1 rfl (by decide) (dX12_byLaws 21 rfl) rfl hu1 hu2 (Nat.le_of_ble_eq_true rfl) rfl (fun r8 m9 H => ?_)
      refine z_istore_n (pc := 39) (i := 2) (lv2 := [(2, .int r8), (0, .ref a), (1, .int p1)]) C (dX12_byLaws 22 rfl) rfl (by decide) rfl ?_
      refine z_iload_n (pc := 40) C (dX12_byLaws 23 rfl) rfl 0 rfl ?_
      refine z_iconst (pc := 41) (v := (-1)) C (dX12_byLaws 24 rfl) (by decide) ?_
      refine z_icmp_ne (pc := 42) (tgt := 54) C (dX12_byLaws 25 rfl) (by decide) (fun c10 => ?_) (fun c10 => ?_)
      · replace H := H.2 c10
        refine z_aload_n (pc := 54) C (dX12_byLaws 30 rfl) rfl 1 rfl ?_
        refine z_iload_n (pc := 55) C (dX12_byLaws 31 rfl) rfl 0 rfl ?_
        refine zc_Vi (pc := 56) (rest := []) C YX12_good wl_X12_51 (kX12_good H) (by decide) h1 rfl (by decide) (dX12_byLaws 32 rfl) rfl hu1 hu2 (Nat.le_of_ble_eq_true rfl) rfl (fun r11 m12 H => ?_)
        exact z_iret (pc := 59) C hr hu1 hu2 (dX12_byLaws 33 rfl) ⟨rfl, _, rfl, H⟩
      · replace H := H.1 c10
        refine z_aload_n (pc := 45) C (dX12_byLaws 26 rfl) rfl 1 rfl ?_
        refine z_bipush (pc := 46) (v := 6) C (dX12_byLaws 27 rfl) (by decide) ?_
        refine zc_Vi (pc := 48) (rest := []) C YX12_refused wl_X12_47 (kX12_refused H) (by decide) h1 rfl (by decide) (dX12_byLaws 28 rfl) rfl hu1 hu2 (Nat.le_of_ble_eq_true rfl) rfl (fun r13 m14 H => ?_)
        refine z_goto (pc := 51) (tgt := 59) C (dX12_byLaws 29 rfl) (by decide) ?_
        exact z_iret (pc := 59) C hr hu1 hu2 (dX12_byLaws 33 rfl) ⟨rfl, _, rfl, H⟩
    · replace H := H.1 c7
      refine z_aload_n (pc := 28) C (dX12_byLaws 15 rfl) rfl 0 rfl ?_
      refine z_iconst (pc := 29) (v := 2) C (dX12_byLaws 16 rfl) (by decide) ?_
      refine zc_Vi (pc := 30) (rest := []) C YX12_refused wl_X12_47 (kX12_refused H) (by decide) h1 rfl (by decide) (dX12_byLaws 17 rfl) rfl hu1 hu2 (Nat.le_of_ble_eq_true rfl) rfl (fun r15 m16 H => ?_)
      exact z_iret (pc := 33) C hr hu1 hu2 (dX12_byLaws 18 rfl) ⟨rfl, _, rfl, H⟩
def wX12_cheapest_J93 (t : zT) (m : zM) (a_0 : Nat) (x_1 : Int32) (x_2 : Int32) (x_3 : Int32) (Q : Int32 → zM → Prop) (r53 : Int32 → Int32 → zM → Prop) : Prop := (r53 x_2 (x_3 + (-1)) m)
set_option maxHeartbeats 4000000 in
set_option maxRecDepth 20000 in
theorem sX12_cheapest_J93 {p : Program} {l : Launch} {e : Env} {s : State} {mt : MethodId} {args : Array Value} {below : List Frame} {meth : Method} {c : Code} {g : zG} {u : Nat × Nat} {mc ms : Nat} {t : zT} {m : zM} {a_0 : Nat} {x_1 : Int32} {x_2 : Int32} {x_3 : Int32} {Q : Int32 → zM → Prop} {r53 : Int32 → Int32 → zM → Prop} (C : zC p (zRm 6 mc ms) s mt args meth c g cX12_cheapest 4 yX12_cheapest.cls 6) (hr : meth.sig.returnType = (some .int)) (hm : meth.name = yX12_cheapest.name) (hu1 : u.1 ≤ mc) (hu2 : u.2 ≤ ms)
    (R53 : ∀ (v0 : Int32) (v1 : Int32) (m : zM), r53 v0 v1 m → zW p l e (zRm 6 mc ms) s mt args below meth c g (MQ below (zQc g (zPi t Q)) args s mc ms (zFar g)) u 4 t m 53 [(0, .ref a_0), (1, .int x_1), (2, .int v0), (3, .int v1)] []) (H : wX12_cheapest_J93 t m a_0 x_1 x_2 x_3 Q r53) : zW p l e (zRm 6 mc ms) s mt args below meth c g (MQ below (zQc g (zPi t Q)) args s mc ms (zFar g)) u 4 t m 93 [(0, .ref a_0), (1, .int x_1), (2, .int x_2), (3, .int x_3)] [] := by
  unfold wX12_cheapest_J93 at H
  refine z_iinc (pc := 93) (i := 3) (v := x_3 + (-1)) (lv2 := [(3, .int (x_3 + (-1))), (0, .ref a_0), (1, .int x_1), (2, .int x_2)]) C (dX12_cheapest 51 rfl) 3 rfl (by rfl) (by decide) rfl ?_
  refine z_goto (pc := 96) (tgt := 53) C (dX12_cheapest 52 rfl) (by decide) ?_
  refine z_sub [1, 2, 3, 0] rfl ?_
  exact R53 x_2 (x_3 + (-1)) m H
def wX12_cheapest_L53 (t : zT) (a_0 : Nat) (x_1 : Int32) (Q : Int32 → zM → Prop) (k99 : Int32 → zM → Prop) : Nat → Int32 → Int32 → zM → Prop
  | 0, _, _, _ => False
  | n + 1, x_2, x_3, m => ((x_3 < 0 → (k99 x_2 m)) ∧ (¬ x_3 < 0 → (tK t a_0 = 12 ∧ (tK t (gR m a_0 3) = 11 ∧ (((x_3 &&& ((gI m (gR m a_0 3) 6) ^^^ (-1))) = 0 → (wX12_bits t m x_3 (fun r15 m16 => (wX12_bits t m16 x_2 (fun r17 m18 => ((r17 < r15 → (wX12_cheapest_J93 t m18 a_0 x_1 x_2 x_3 Q (wX12_cheapest_L53 t a_0 x_1 Q k99 n))) ∧ (¬ r17 < r15 → (wX12_settledBy t m18 a_0 x_3 (fun r20 m21 => ((r20 = x_1 → (wX12_cheapest_J93 t m21 a_0 x_1 x_3 x_3 Q (wX12_cheapest_L53 t a_0 x_1 Q k99 n))) ∧ (¬ r20 = x_1 → (wX12_cheapest_J93 t m21 a_0 x_1 x_2 x_3 Q (wX12_cheapest_L53 t a_0 x_1 Q k99 n))))))))))))) ∧ (¬ (x_3 &&& ((gI m (gR m a_0 3) 6) ^^^ (-1))) = 0 → (wX12_cheapest_J93 t m a_0 x_1 x_2 x_3 Q (wX12_cheapest_L53 t a_0 x_1 Q k99 n))))))))
set_option maxHeartbeats 4000000 in
set_option maxRecDepth 20000 in
theorem sX12_cheapest_L53 {p : Program} {l : Launch} {e : Env} {s : State} {mt : MethodId} {args : Array Value} {below : List Frame} {meth : Method} {c : Code} {g : zG} {u : Nat × Nat} {mc ms : Nat} {t : zT} {a_0 : Nat} {x_1 : Int32} {Q : Int32 → zM → Prop} {k99 : Int32 → zM → Prop} (C : zC p (zRm 6 mc ms) s mt args meth c g cX12_cheapest 4 yX12_cheapest.cls 6) (hr : meth.sig.returnType = (some .int)) (hm : meth.name = yX12_cheapest.name) (hu1 : u.1 ≤ mc) (hu2 : u.2 ≤ ms)
    (K99 : ∀ (v0 : Int32) (m : zM), k99 v0 m → zW p l e (zRm 6 mc ms) s mt args below meth c g (MQ below (zQc g (zPi t Q)) args s mc ms (zFar g)) u 4 t m 99 [(0, .ref a_0), (2, .int v0)] []) : ∀ (n : Nat) (x_2 : Int32) (x_3 : Int32) (m : zM), wX12_cheapest_L53 t a_0 x_1 Q k99 n x_2 x_3 m → zW p l e (zRm 6 mc ms) s mt args below meth c g (MQ below (zQc g (zPi t Q)) args s mc ms (zFar g)) u 4 t m 53 [(0, .ref a_0), (1, .int x_1), (2, .int x_2), (3, .int x_3)] [] := by
  intro n
  induction n with
  | zero => intro x_2 x_3 m H; exact H.elim
  | succ n ih =>
    intro x_2 x_3 m H
    simp only [wX12_cheapest_L53] at H
    refine z_iload_n (pc := 53) C (dX12_cheapest 29 rfl) rfl 3 rfl ?_
    refine z_if_lt (pc := 54) (tgt := 99) C (dX12_cheapest 30 rfl) (by decide) (fun c11 => ?_) (fun c11 => ?_)
    · replace H := H.1 c11
      refine z_sub [0, 2] rfl ?_
      exact K99 x_2 m H
    · replace H := H.2 c11
      refine z_iload_n (pc := 57) C (dX12_cheapest 31 rfl) rfl 3 rfl ?_
      refine z_aload_n (pc := 58) C (dX12_cheapest 32 rfl) rfl 0 rfl ?_
      obtain ⟨h12, H⟩ := H
      refine z_getR (pc := 59) C zc12 h12 3 (by decide) rfl wf_X12_314 (dX12_cheapest 33 rfl) ?_
      obtain ⟨h13, H⟩ := H
      refine z_getIN (pc := 62) C zc11 h13 6 (by decide) rfl wn_X12_269 (dX12_cheapest 34 rfl) ?_
      refine z_iconst (pc := 65) (v := (-1)) C (dX12_cheapest 35 rfl) (by decide) ?_
      refine z_ixor (pc := 66) C (dX12_cheapest 36 rfl) ?_
      refine z_iand (pc := 67) C (dX12_cheapest 37 rfl) ?_
      refine z_if_ne (pc := 68) (tgt := 93) C (dX12_cheapest 38 rfl) (by decide) (fun c14 => ?_) (fun c14 => ?_)
      · replace H := H.2 c14
        refine z_sub [0, 1, 2, 3] rfl ?_
        exact sX12_cheapest_J93 C hr hm hu1 hu2 ih H
      · replace H := H.1 c14
        refine z_iload_n (pc := 71) C (dX12_cheapest 39 rfl) rfl 3 rfl ?_
        refine zc_Si (pc := 72) (rest := []) C YX12_bits wl_X12_326 (kX12_bits H) (by decide) (dX12_cheapest 40 rfl) rfl hu1 hu2 (Nat.le_of_ble_eq_true rfl) rfl (fun r15 m16 H => ?_)
        refine z_iload_n (pc := 75) C (dX12_cheapest 41 rfl) rfl 2 rfl ?_
        refine zc_Si (pc := 76) (rest := [.int r15]) C YX12_bits wl_X12_326 (kX12_bits H) (by decide) (dX12_cheapest 42 rfl) rfl hu1 hu2 (Nat.le_of_ble_eq_true rfl) rfl (fun r17 m18 H => ?_)
        refine z_icmp_gt (pc := 79) (tgt := 93) C (dX12_cheapest 43 rfl) (by decide) (fun c19 => ?_) (fun c19 => ?_)
        · replace H := H.1 c19
          refine z_sub [0, 1, 2, 3] rfl ?_
          exact sX12_cheapest_J93 C hr hm hu1 hu2 ih H
        · replace H := H.2 c19
          refine z_aload_n (pc := 82) C (dX12_cheapest 44 rfl) rfl 0 rfl ?_
          refine z_iload_n (pc := 83) C (dX12_cheapest 45 rfl) rfl 3 rfl ?_
          refine zc_Vi (pc := 84) (rest := []) C YX12_settledBy wl_X12_465 (kX12_settledBy H) (by decide) h12 rfl (by decide) (dX12_cheapest 46 rfl) rfl hu1 hu2 (Nat.le_of_ble_eq_true rfl) rfl (fun r20 m21 H => ?_)
          refine z_iload_n (pc := 87) C (dX12_cheapest 47 rfl) rfl 1 rfl ?_
          refine z_icmp_ne (pc := 88) (tgt := 93) C (dX12_cheapest 48 rfl) (by decide) (fun c22 => ?_) (fun c22 => ?_)
          · replace H := H.2 c22
            refine z_sub [0, 1, 2, 3] rfl ?_
            exact sX12_cheapest_J93 C hr hm hu1 hu2 ih H
          · replace H := H.1 c22
            refine z_iload_n (pc := 91) C (dX12_cheapest 49 rfl) rfl 3 rfl ?_
            refine z_istore_n (pc := 92) (i := 2) (lv2 := [(2, .int x_3), (0, .ref a_0), (1, .int x_1), (3, .int x_3)]) C (dX12_cheapest 50 rfl) rfl (by decide) rfl ?_
            refine z_sub [1, 2, 0, 3] rfl ?_
            exact sX12_cheapest_J93 C hr hm hu1 hu2 ih H
def wX12_cheapest (t : zT) (m : zM) (a : Nat) (Q : Int32 → zM → Prop) : Prop := (tK t a = 12 ∧ (((gR m a 3) = 0 → (wX12_refused t (pI m a 0 0) a 1 (fun r3 m4 => (Q r3 m4)))) ∧ (¬ (gR m a 3) = 0 → (tK t (gR m a 3) = 11 ∧ (wX12_settledBy t (pI m a 0 0) a (gI (pI m a 0 0) (gR m a 3) 6) (fun r6 m7 => ((r6 = (-1) → (wX12_refused t m7 a 6 (fun r28 m29 => (Q r28 m29)))) ∧ (¬ r6 = (-1) → (tK t (gR m7 a 3) = 11 ∧ (∀ x10 : Int32, x10 = (gI m7 (gR m7 a 3) 6) → ((∃ n27, wX12_cheapest_L53 t a r6 Q (fun v23 m24 => (wX12_good t m24 a v23 (fun r25 m26 => (Q r25 m26)))) n27 x10 7 m7))))))))))))
set_option maxHeartbeats 4000000 in
set_option maxRecDepth 20000 in
theorem kX12_cheapest {l : Launch} {t : zT} {m : zM} {a : Nat} {Q : Int32 → zM → Prop} (H : wX12_cheapest t m a Q) : zMet l yX12_cheapest cX12_cheapest 4 (some .int) 6 0 0 t m [.ref a] (zPi t Q) := by
  refine zmet (by decide +kernel) (Nat.le_of_ble_eq_true rfl) ?_
  intro p e s mt args below meth c g C hr hm
  unfold wX12_cheapest at H
  have hu1 : ((0, 0) : Nat × Nat).1 ≤ 0 := Nat.le_refl 0
  have hu2 : ((0, 0) : Nat × Nat).2 ≤ 0 := Nat.le_refl 0
  refine z_aload_n (pc := 0) C (dX12_cheapest 0 rfl) rfl 0 rfl ?_
  refine z_iconst (pc := 1) (v := 0) C (dX12_cheapest 1 rfl) (by decide) ?_
  obtain ⟨h1, H⟩ := H
  refine z_putI (pc := 2) C zc12 h1 0 (by decide) rfl rfl wf_X12_41 (dX12_cheapest 2 rfl) ?_
  refine z_aload_n (pc := 5) C (dX12_cheapest 3 rfl) rfl 0 rfl ?_
  refine z_getR (pc := 6) C zc12 h1 3 (by decide) rfl wf_X12_314 (dX12_cheapest 4 rfl) ?_
  refine z_ifnonnull (pc := 9) (tgt := 18) C (dX12_cheapest 5 rfl) (by decide) (fun c2 => ?_) (fun c2 => ?_)
  · replace H := H.1 c2
    refine z_aload_n (pc := 12) C (dX12_cheapest 6 rfl) rfl 0 rfl ?_
    refine z_iconst (pc := 13) (v := 1) C (dX12_cheapest 7 rfl) (by decide) ?_
    refine zc_Vi (pc := 14) (rest := []) C YX12_refused wl_X12_47 (kX12_refused H) (by decide) h1 rfl (by decide) (dX12_cheapest 8 rfl) rfl hu1 hu2 (Nat.le_of_ble_eq_true rfl) rfl (fun r3 m4 H => ?_)
    exact z_iret (pc := 17) C hr hu1 hu2 (dX12_cheapest 9 rfl) ⟨rfl, _, rfl, H⟩
  · replace H := H.2 c2
    refine z_aload_n (pc := 18) C (dX12_cheapest 10 rfl) rfl 0 rfl ?_
    refine z_aload_n (pc := 19) C (dX12_cheapest 11 rfl) rfl 0 rfl ?_
    refine z_getR (pc := 20) C zc12 h1 3 (by decide) rfl wf_X12_314 (dX12_cheapest 12 rfl) ?_
    obtain ⟨h5, H⟩ := H
    refine z_getIN (pc := 23) C zc11 h5 6 (by decide) rfl wn_X12_269 (dX12_cheapest 13 rfl) ?_
    refine zc_Vi (pc := 26) (rest := []) C YX12_settledBy wl_X12_465 (kX12_settledBy H) (by decide) h1 rfl (by decide) (dX12_cheapest 14 rfl) rfl hu1 hu2 (Nat.le_of_ble_eq_true rfl) rfl (fun r6 m7 H => ?_)
    refine z_istore_n (pc := 29) (i := 1) (lv2 := [(1, .int r6), (0, .ref a)]) C (dX12_cheapest 15 rfl) rfl (by decide) rfl ?_
    refine z_iload_n (pc := 30) C (dX12_cheapest 16 rfl) rfl 0 rfl ?_
    refine z_iconst (pc := 31) (v := (-1)) C (dX12_cheapest 17 rfl) (by decide) ?_
    refine z_icmp_ne (pc := 32) (tgt := 42) C (dX12_cheapest 18 rfl) (by decide) (fun c8 => ?_) (fun c8 => ?_)
    · replace H := H.2 c8
      refine z_aload_n (pc := 42) C (dX12_cheapest 23 rfl) rfl 1 rfl ?_
      refine z_getR (pc := 43) C zc12 h1 3 (by decide) rfl wf_X12_314 (dX12_cheapest 24 rfl) ?_
      obtain ⟨h9, H⟩ := H
      refine z_getIN (pc := 46) C zc11 h9 6 (by decide) rfl wn_X12_269 (dX12_cheapest 25 rfl) ?_
      refine z_int (fun x10 hx10 => ?_)
      replace H := H x10 hx10
      refine z_istore_n (pc := 49) (i := 2) (lv2 := [(2, .int x10), (1, .int r6), (0, .ref a)]) C (dX12_cheapest 26 rfl) rfl (by decide) rfl ?_
      refine z_bipush (pc := 50) (v := 7) C (dX12_cheapest 27 rfl) (by decide) ?_
      refine z_istore_n (pc := 52) (i := 3) (lv2 := [(3, .int 7), (2, .int x10), (1, .int r6), (0, .ref a)]) C (dX12_cheapest 28 rfl) rfl (by decide) rfl ?_
      obtain ⟨n27, H⟩ := H
      refine z_sub [3, 2, 1, 0] rfl ?_
      refine sX12_cheapest_L53 C hr hm hu1 hu2 (fun v23 m24 H => ?_) n27 x10 7 m7 H
      refine z_aload_n (pc := 99) C (dX12_cheapest 53 rfl) rfl 0 rfl ?_
      refine z_iload_n (pc := 100) C (dX12_cheapest 54 rfl) rfl 1 rfl ?_
      refine zc_Vi (pc := 101) (rest := []) C YX12_good wl_X12_51 (kX12_good H) (by decide) h1 rfl (by decide) (dX12_cheapest 55 rfl) rfl hu1 hu2 (Nat.le_of_ble_eq_true rfl) rfl (fun r25 m26 H => ?_)
      exact z_iret (pc := 104) C hr hu1 hu2 (dX12_cheapest 56 rfl) ⟨rfl, _, rfl, H⟩
    · replace H := H.1 c8
      refine z_aload_n (pc := 35) C (dX12_cheapest 19 rfl) rfl 1 rfl ?_
      refine z_bipush (pc := 36) (v := 6) C (dX12_cheapest 20 rfl) (by decide) ?_
      refine zc_Vi (pc := 38) (rest := []) C YX12_refused wl_X12_47 (kX12_refused H) (by decide) h1 rfl (by decide) (dX12_cheapest 21 rfl) rfl hu1 hu2 (Nat.le_of_ble_eq_true rfl) rfl (fun r28 m29 H => ?_)
      exact z_iret (pc := 41) C hr hu1 hu2 (dX12_cheapest 22 rfl) ⟨rfl, _, rfl, H⟩
def wX12_after_L6 (t : zT) (x_1 : Int32) (x_2 : Int32) (Q : Int64 → zM → Prop) (k71 : Int64 → zM → Prop) : Nat → Int64 → Int32 → zM → Prop
  | 0, _, _, _ => False
  | n + 1, y_3, x_5, m => ((x_2 ≤ x_5 → (k71 y_3 m)) ∧ (¬ x_2 ≤ x_5 → (∀ x2 : Int64, x2 = ((y_3 * y_3) / 1000000) → ((∀ x3 : Int64, x3 = (((2 * y_3) * (1000000 - y_3)) / 1000000) → ((∀ x4 : Int64, x4 = ((x3 * x_1.toInt64) / 100) → ((∀ x5 : Int64, x5 = ((x2 + x4) + ((x3 - x4) / 2)) → ((wX12_after_L6 t x_1 x_2 Q k71 n x5 (x_5 + 1) m)))))))))))
set_option maxHeartbeats 4000000 in
set_option maxRecDepth 20000 in
theorem sX12_after_L6 {p : Program} {l : Launch} {e : Env} {s : State} {mt : MethodId} {args : Array Value} {below : List Frame} {meth : Method} {c : Code} {g : zG} {u : Nat × Nat} {mc ms : Nat} {t : zT} {x_1 : Int32} {x_2 : Int32} {Q : Int64 → zM → Prop} {k71 : Int64 → zM → Prop} (C : zC p (zRm 0 mc ms) s mt args meth c g cX12_after 12 yX12_after.cls 0) (hr : meth.sig.returnType = (some .long)) (hm : meth.name = yX12_after.name) (hu1 : u.1 ≤ mc) (hu2 : u.2 ≤ ms)
    (K71 : ∀ (v0 : Int64) (m : zM), k71 v0 m → zW p l e (zRm 0 mc ms) s mt args below meth c g (MQ below (zQc g (zPl t Q)) args s mc ms (zFar g)) u 12 t m 71 [(3, .long v0)] []) : ∀ (n : Nat) (y_3 : Int64) (x_5 : Int32) (m : zM), wX12_after_L6 t x_1 x_2 Q k71 n y_3 x_5 m → zW p l e (zRm 0 mc ms) s mt args below meth c g (MQ below (zQc g (zPl t Q)) args s mc ms (zFar g)) u 12 t m 6 [(1, .int x_1), (2, .int x_2), (3, .long y_3), (5, .int x_5)] [] := by
  intro n
  induction n with
  | zero => intro y_3 x_5 m H; exact H.elim
  | succ n ih =>
    intro y_3 x_5 m H
    simp only [wX12_after_L6] at H
    refine z_iload (pc := 6) C (dX12_after 5 rfl) 3 rfl ?_
    refine z_iload_n (pc := 8) C (dX12_after 6 rfl) rfl 1 rfl ?_
    refine z_icmp_ge (pc := 9) (tgt := 71) C (dX12_after 7 rfl) (by decide) (fun c1 => ?_) (fun c1 => ?_)
    · replace H := H.1 c1
      refine z_sub [2] rfl ?_
      exact K71 y_3 m H
    · replace H := H.2 c1
      refine z_lload_n (pc := 12) C (dX12_after 8 rfl) rfl 2 rfl ?_
      refine z_lload_n (pc := 13) C (dX12_after 9 rfl) rfl 2 rfl ?_
      refine z_lmul (pc := 14) C (dX12_after 10 rfl) ?_
      refine z_ldc2 (pc := 15) C wj_X12_468 (dX12_after 11 rfl) ?_
      refine z_ldiv (pc := 18) C (hne := by decide) (dX12_after 12 rfl) ?_
      refine z_long (fun x2 hx2 => ?_)
      replace H := H x2 hx2
      refine z_lstore (pc := 19) (i := 6) (lv2 := [(6, .long x2), (1, .int x_1), (2, .int x_2), (3, .long y_3), (5, .int x_5)]) C (dX12_after 13 rfl) (by decide) rfl ?_
      refine z_ldc2 (pc := 21) C wj_X12_470 (dX12_after 14 rfl) ?_
      refine z_lload_n (pc := 24) C (dX12_after 15 rfl) rfl 3 rfl ?_
      refine z_lmul (pc := 25) C (dX12_after 16 rfl) ?_
      refine z_ldc2 (pc := 26) C wj_X12_468 (dX12_after 17 rfl) ?_
      refine z_lload_n (pc := 29) C (dX12_after 18 rfl) rfl 3 rfl ?_
      refine z_lsub (pc := 30) C (dX12_after 19 rfl) ?_
      refine z_lmul (pc := 31) C (dX12_after 20 rfl) ?_
      refine z_ldc2 (pc := 32) C wj_X12_468 (dX12_after 21 rfl) ?_
      refine z_ldiv (pc := 35) C (hne := by decide) (dX12_after 22 rfl) ?_
      refine z_long (fun x3 hx3 => ?_)
      replace H := H x3 hx3
      refine z_lstore (pc := 36) (i := 8) (lv2 := [(8, .long x3), (6, .long x2), (1, .int x_1), (2, .int x_2), (3, .long y_3), (5, .int x_5)]) C (dX12_after 23 rfl) (by decide) rfl ?_
      refine z_lload (pc := 38) C (dX12_after 24 rfl) 0 rfl ?_
      refine z_iload_n (pc := 40) C (dX12_after 25 rfl) rfl 2 rfl ?_
      refine z_i2l (pc := 41) C (dX12_after 26 rfl) ?_
      refine z_lmul (pc := 42) C (dX12_after 27 rfl) ?_
      refine z_ldc2 (pc := 43) C wj_X12_472 (dX12_after 28 rfl) ?_
      refine z_ldiv (pc := 46) C (hne := by decide) (dX12_after 29 rfl) ?_
      refine z_long (fun x4 hx4 => ?_)
      replace H := H x4 hx4
      refine z_lstore (pc := 47) (i := 10) (lv2 := [(10, .long x4), (8, .long x3), (6, .long x2), (1, .int x_1), (2, .int x_2), (3, .long y_3), (5, .int x_5)]) C (dX12_after 30 rfl) (by decide) rfl ?_
      refine z_lload (pc := 49) C (dX12_after 31 rfl) 2 rfl ?_
      refine z_lload (pc := 51) C (dX12_after 32 rfl) 0 rfl ?_
      refine z_ladd (pc := 53) C (dX12_after 33 rfl) ?_
      refine z_lload (pc := 54) C (dX12_after 34 rfl) 1 rfl ?_
      refine z_lload (pc := 56) C (dX12_after 35 rfl) 0 rfl ?_
      refine z_lsub (pc := 58) C (dX12_after 36 rfl) ?_
      refine z_ldc2 (pc := 59) C wj_X12_470 (dX12_after 37 rfl) ?_
      refine z_ldiv (pc := 62) C (hne := by decide) (dX12_after 38 rfl) ?_
      refine z_ladd (pc := 63) C (dX12_after 39 rfl) ?_
      refine z_long (fun x5 hx5 => ?_)
      replace H := H x5 hx5
      refine z_lstore_n (pc := 64) (i := 3) (lv2 := [(3, .long x5), (10, .long x4), (8, .long x3), (6, .long x2), (1, .int x_1), (2, .int x_2), (5, .int x_5)]) C (dX12_after 40 rfl) rfl (by decide) rfl ?_
      refine z_iinc (pc := 65) (i := 5) (v := x_5 + 1) (lv2 := [(5, .int (x_5 + 1)), (3, .long x5), (10, .long x4), (8, .long x3), (6, .long x2), (1, .int x_1), (2, .int x_2)]) C (dX12_after 41 rfl) 6 rfl (by rfl) (by decide) rfl ?_
      refine z_goto (pc := 68) (tgt := 6) C (dX12_after 42 rfl) (by decide) ?_
      refine z_sub [5, 6, 1, 0] rfl ?_
      exact ih x5 (x_5 + 1) m H
def wX12_after (t : zT) (m : zM) (p1 : Int32) (p2 : Int32) (p3 : Int32) (Q : Int64 → zM → Prop) : Prop := (∃ n8, wX12_after_L6 t p2 p3 Q (fun v6 m7 => (Q v6 m7)) n8 p1.toInt64 0 m)
set_option maxHeartbeats 4000000 in
set_option maxRecDepth 20000 in
theorem kX12_after {l : Launch} {t : zT} {m : zM} {p1 : Int32} {p2 : Int32} {p3 : Int32} {Q : Int64 → zM → Prop} (H : wX12_after t m p1 p2 p3 Q) : zMet l yX12_after cX12_after 12 (some .long) 0 0 0 t m [.int p1, .int p2, .int p3] (zPl t Q) := by
  refine zmet (by decide +kernel) (Nat.le_of_ble_eq_true rfl) ?_
  intro p e s mt args below meth c g C hr hm
  unfold wX12_after at H
  have hu1 : ((0, 0) : Nat × Nat).1 ≤ 0 := Nat.le_refl 0
  have hu2 : ((0, 0) : Nat × Nat).2 ≤ 0 := Nat.le_refl 0
  refine z_iload_n (pc := 0) C (dX12_after 0 rfl) rfl 0 rfl ?_
  refine z_i2l (pc := 1) C (dX12_after 1 rfl) ?_
  refine z_lstore_n (pc := 2) (i := 3) (lv2 := [(3, .long p1.toInt64), (0, .int p1), (1, .int p2), (2, .int p3)]) C (dX12_after 2 rfl) rfl (by decide) rfl ?_
  refine z_iconst (pc := 3) (v := 0) C (dX12_after 3 rfl) (by decide) ?_
  refine z_istore (pc := 4) (i := 5) (lv2 := [(5, .int 0), (3, .long p1.toInt64), (0, .int p1), (1, .int p2), (2, .int p3)]) C (dX12_after 4 rfl) (by decide) rfl ?_
  obtain ⟨n8, H⟩ := H
  refine z_sub [3, 4, 1, 0] rfl ?_
  refine sX12_after_L6 C hr hm hu1 hu2 (fun v6 m7 H => ?_) n8 p1.toInt64 0 m H
  refine z_lload_n (pc := 71) C (dX12_after 43 rfl) rfl 0 rfl ?_
  exact z_lret (pc := 72) C hr hu1 hu2 (dX12_after 44 rfl) ⟨rfl, _, rfl, H⟩
def wX12_years_J50 (t : zT) (m : zM) (a_0 : Nat) (Q : Int32 → zM → Prop) : Prop := (tK t a_0 = 12 ∧ (wX12_refused t m a_0 2 (fun r6 m7 => (Q r6 m7))))
set_option maxHeartbeats 4000000 in
set_option maxRecDepth 20000 in
theorem sX12_years_J50 {p : Program} {l : Launch} {e : Env} {s : State} {mt : MethodId} {args : Array Value} {below : List Frame} {meth : Method} {c : Code} {g : zG} {u : Nat × Nat} {mc ms : Nat} {t : zT} {m : zM} {a_0 : Nat} {Q : Int32 → zM → Prop} (C : zC p (zRm 1 mc ms) s mt args meth c g cX12_years 4 yX12_years.cls 1) (hr : meth.sig.returnType = (some .int)) (hm : meth.name = yX12_years.name) (hu1 : u.1 ≤ mc) (hu2 : u.2 ≤ ms) (H : wX12_years_J50 t m a_0 Q) : zW p l e (zRm 1 mc ms) s mt args below meth c g (MQ below (zQc g (zPi t Q)) args s mc ms (zFar g)) u 4 t m 50 [(0, .ref a_0)] [] := by
  unfold wX12_years_J50 at H
  refine z_aload_n (pc := 50) C (dX12_years 26 rfl) rfl 0 rfl ?_
  refine z_iconst (pc := 51) (v := 2) C (dX12_years 27 rfl) (by decide) ?_
  obtain ⟨h5, H⟩ := H
  refine zc_Vi (pc := 52) (rest := []) C YX12_refused wl_X12_47 (kX12_refused H) (by decide) h5 rfl (by decide) (dX12_years 28 rfl) rfl hu1 hu2 (Nat.le_of_ble_eq_true rfl) rfl (fun r6 m7 H => ?_)
  exact z_iret (pc := 55) C hr hu1 hu2 (dX12_years 29 rfl) ⟨rfl, _, rfl, H⟩
def wX12_years (t : zT) (m : zM) (a : Nat) (p1 : Int32) (p2 : Int32) (p3 : Int32) (Q : Int32 → zM → Prop) : Prop := (tK t a = 12 ∧ (wX12_in t (pI m a 0 0) p1 0 1000000 (fun r2 m3 => ((r2 = 0 → (wX12_years_J50 t m3 a Q)) ∧ (¬ r2 = 0 → (wX12_in t m3 p2 0 100 (fun r8 m9 => ((r8 = 0 → (wX12_years_J50 t m9 a Q)) ∧ (¬ r8 = 0 → (wX12_in t m9 p3 0 40 (fun r11 m12 => ((r11 = 0 → (wX12_years_J50 t m12 a Q)) ∧ (¬ r11 = 0 → (wX12_after t m12 p1 p2 p3 (fun r14 m15 => (wX12_good t m15 a r14.toInt32 (fun r16 m17 => (Q r16 m17))))))))))))))))))
set_option maxHeartbeats 4000000 in
set_option maxRecDepth 20000 in
theorem kX12_years {l : Launch} {t : zT} {m : zM} {a : Nat} {p1 : Int32} {p2 : Int32} {p3 : Int32} {Q : Int32 → zM → Prop} (H : wX12_years t m a p1 p2 p3 Q) : zMet l yX12_years cX12_years 4 (some .int) 1 0 0 t m [.ref a, .int p1, .int p2, .int p3] (zPi t Q) := by
  refine zmet (by decide +kernel) (Nat.le_of_ble_eq_true rfl) ?_
  intro p e s mt args below meth c g C hr hm
  unfold wX12_years at H
  have hu1 : ((0, 0) : Nat × Nat).1 ≤ 0 := Nat.le_refl 0
  have hu2 : ((0, 0) : Nat × Nat).2 ≤ 0 := Nat.le_refl 0
  refine z_aload_n (pc := 0) C (dX12_years 0 rfl) rfl 0 rfl ?_
  refine z_iconst (pc := 1) (v := 0) C (dX12_years 1 rfl) (by decide) ?_
  obtain ⟨h1, H⟩ := H
  refine z_putI (pc := 2) C zc12 h1 0 (by decide) rfl rfl wf_X12_41 (dX12_years 2 rfl) ?_
  refine z_iload_n (pc := 5) C (dX12_years 3 rfl) rfl 1 rfl ?_
  refine z_iconst (pc := 6) (v := 0) C (dX12_years 4 rfl) (by decide) ?_
  refine z_ldcw (pc := 7) C wk_X12_474 (dX12_years 5 rfl) ?_
  refine zc_Si (pc := 10) (rest := []) C YX12_in wl_X12_119 (kX12_in H) (by decide) (dX12_years 6 rfl) rfl hu1 hu2 (Nat.le_of_ble_eq_true rfl) rfl (fun r2 m3 H => ?_)
  refine z_if_eq (pc := 13) (tgt := 50) C (dX12_years 7 rfl) (by decide) (fun c4 => ?_) (fun c4 => ?_)
  · replace H := H.1 c4
    refine z_sub [0] rfl ?_
    exact sX12_years_J50 C hr hm hu1 hu2 H
  · replace H := H.2 c4
    refine z_iload_n (pc := 16) C (dX12_years 8 rfl) rfl 2 rfl ?_
    refine z_iconst (pc := 17) (v := 0) C (dX12_years 9 rfl) (by decide) ?_
    refine z_bipush (pc := 18) (v := 100) C (dX12_years 10 rfl) (by decide) ?_
    refine zc_Si (pc := 20) (rest := []) C YX12_in wl_X12_119 (kX12_in H) (by decide) (dX12_years 11 rfl) rfl hu1 hu2 (Nat.le_of_ble_eq_true rfl) rfl (fun r8 m9 H => ?_)
    refine z_if_eq (pc := 23) (tgt := 50) C (dX12_years 12 rfl) (by decide) (fun c10 => ?_) (fun c10 => ?_)
    · replace H := H.1 c10
      refine z_sub [0] rfl ?_
      exact sX12_years_J50 C hr hm hu1 hu2 H
    · replace H := H.2 c10
      refine z_iload_n (pc := 26) C (dX12_years 13 rfl) rfl 3 rfl ?_
      refine z_iconst (pc := 27) (v := 0) C (dX12_years 14 rfl) (by decide) ?_
      refine z_bipush (pc := 28) (v := 40) C (dX12_years 15 rfl) (by decide) ?_
      refine zc_Si (pc := 30) (rest := []) C YX12_in wl_X12_119 (kX12_in H) (by decide) (dX12_years 16 rfl) rfl hu1 hu2 (Nat.le_of_ble_eq_true rfl) rfl (fun r11 m12 H => ?_)
      refine z_if_eq (pc := 33) (tgt := 50) C (dX12_years 17 rfl) (by decide) (fun c13 => ?_) (fun c13 => ?_)
      · replace H := H.1 c13
        refine z_sub [0] rfl ?_
        exact sX12_years_J50 C hr hm hu1 hu2 H
      · replace H := H.2 c13
        refine z_aload_n (pc := 36) C (dX12_years 18 rfl) rfl 0 rfl ?_
        refine z_iload_n (pc := 37) C (dX12_years 19 rfl) rfl 1 rfl ?_
        refine z_iload_n (pc := 38) C (dX12_years 20 rfl) rfl 2 rfl ?_
        refine z_iload_n (pc := 39) C (dX12_years 21 rfl) rfl 3 rfl ?_
        refine zc_Sl (pc := 40) (rest := [.ref a]) C YX12_after wl_X12_475 (kX12_after H) (by decide) (dX12_years 22 rfl) rfl hu1 hu2 (Nat.le_of_ble_eq_true rfl) rfl (fun r14 m15 H => ?_)
        refine z_l2i (pc := 43) C (dX12_years 23 rfl) ?_
        refine zc_Vi (pc := 44) (rest := []) C YX12_good wl_X12_51 (kX12_good H) (by decide) h1 rfl (by decide) (dX12_years 24 rfl) rfl hu1 hu2 (Nat.le_of_ble_eq_true rfl) rfl (fun r16 m17 H => ?_)
        refine z_goto (pc := 47) (tgt := 55) C (dX12_years 25 rfl) (by decide) ?_
        exact z_iret (pc := 55) C hr hu1 hu2 (dX12_years 29 rfl) ⟨rfl, _, rfl, H⟩
def wX12_still_J37 (t : zT) (m : zM) (a_0 : Nat) (Q : Int32 → zM → Prop) : Prop := (tK t a_0 = 12 ∧ (wX12_refused t m a_0 2 (fun r6 m7 => (Q r6 m7))))
set_option maxHeartbeats 4000000 in
set_option maxRecDepth 20000 in
theorem sX12_still_J37 {p : Program} {l : Launch} {e : Env} {s : State} {mt : MethodId} {args : Array Value} {below : List Frame} {meth : Method} {c : Code} {g : zG} {u : Nat × Nat} {mc ms : Nat} {t : zT} {m : zM} {a_0 : Nat} {Q : Int32 → zM → Prop} (C : zC p (zRm 1 mc ms) s mt args meth c g cX12_still 5 yX12_still.cls 1) (hr : meth.sig.returnType = (some .int)) (hm : meth.name = yX12_still.name) (hu1 : u.1 ≤ mc) (hu2 : u.2 ≤ ms) (H : wX12_still_J37 t m a_0 Q) : zW p l e (zRm 1 mc ms) s mt args below meth c g (MQ below (zQc g (zPi t Q)) args s mc ms (zFar g)) u 5 t m 37 [(0, .ref a_0)] [] := by
  unfold wX12_still_J37 at H
  refine z_aload_n (pc := 37) C (dX12_still 18 rfl) rfl 0 rfl ?_
  refine z_iconst (pc := 38) (v := 2) C (dX12_still 19 rfl) (by decide) ?_
  obtain ⟨h5, H⟩ := H
  refine zc_Vi (pc := 39) (rest := []) C YX12_refused wl_X12_47 (kX12_refused H) (by decide) h5 rfl (by decide) (dX12_still 20 rfl) rfl hu1 hu2 (Nat.le_of_ble_eq_true rfl) rfl (fun r6 m7 H => ?_)
  exact z_iret (pc := 42) C hr hu1 hu2 (dX12_still 21 rfl) ⟨rfl, _, rfl, H⟩
def wX12_still_L46 (t : zT) (a_0 : Nat) (x_1 : Int32) (x_2 : Int32) (x_3 : Int32) (Q : Int32 → zM → Prop) (k79 : zM → Prop) : Nat → Int32 → zM → Prop
  | 0, _, _ => False
  | n + 1, x_4, m => (((100 : Int32) < x_4 → (k79 m)) ∧ (¬ (100 : Int32) < x_4 → (wX12_after t m x_1 x_4 x_2 (fun r15 m16 => (((lg_cmp r15 x_3.toInt64) < 0 → (wX12_still_L46 t a_0 x_1 x_2 x_3 Q k79 n (x_4 + 1) m16)) ∧ (¬ (lg_cmp r15 x_3.toInt64) < 0 → (tK t a_0 = 12 ∧ (wX12_good t m16 a_0 x_4 (fun r19 m20 => (Q r19 m20))))))))))
set_option maxHeartbeats 4000000 in
set_option maxRecDepth 20000 in
theorem sX12_still_L46 {p : Program} {l : Launch} {e : Env} {s : State} {mt : MethodId} {args : Array Value} {below : List Frame} {meth : Method} {c : Code} {g : zG} {u : Nat × Nat} {mc ms : Nat} {t : zT} {a_0 : Nat} {x_1 : Int32} {x_2 : Int32} {x_3 : Int32} {Q : Int32 → zM → Prop} {k79 : zM → Prop} (C : zC p (zRm 1 mc ms) s mt args meth c g cX12_still 5 yX12_still.cls 1) (hr : meth.sig.returnType = (some .int)) (hm : meth.name = yX12_still.name) (hu1 : u.1 ≤ mc) (hu2 : u.2 ≤ ms)
    (K79 : ∀ (m : zM), k79 m → zW p l e (zRm 1 mc ms) s mt args below meth c g (MQ below (zQc g (zPi t Q)) args s mc ms (zFar g)) u 5 t m 79 [(0, .ref a_0)] []) : ∀ (n : Nat) (x_4 : Int32) (m : zM), wX12_still_L46 t a_0 x_1 x_2 x_3 Q k79 n x_4 m → zW p l e (zRm 1 mc ms) s mt args below meth c g (MQ below (zQc g (zPi t Q)) args s mc ms (zFar g)) u 5 t m 46 [(0, .ref a_0), (1, .int x_1), (2, .int x_2), (3, .int x_3), (4, .int x_4)] [] := by
  intro n
  induction n with
  | zero => intro x_4 m H; exact H.elim
  | succ n ih =>
    intro x_4 m H
    simp only [wX12_still_L46] at H
    refine z_iload (pc := 46) C (dX12_still 24 rfl) 4 rfl ?_
    refine z_bipush (pc := 48) (v := 100) C (dX12_still 25 rfl) (by decide) ?_
    refine z_icmp_gt (pc := 50) (tgt := 79) C (dX12_still 26 rfl) (by decide) (fun c14 => ?_) (fun c14 => ?_)
    · replace H := H.1 c14
      refine z_sub [0] rfl ?_
      exact K79 m H
    · replace H := H.2 c14
      refine z_iload_n (pc := 53) C (dX12_still 27 rfl) rfl 1 rfl ?_
      refine z_iload (pc := 54) C (dX12_still 28 rfl) 4 rfl ?_
      refine z_iload_n (pc := 56) C (dX12_still 29 rfl) rfl 2 rfl ?_
      refine zc_Sl (pc := 57) (rest := []) C YX12_after wl_X12_475 (kX12_after H) (by decide) (dX12_still 30 rfl) rfl hu1 hu2 (Nat.le_of_ble_eq_true rfl) rfl (fun r15 m16 H => ?_)
      refine z_iload_n (pc := 60) C (dX12_still 31 rfl) rfl 3 rfl ?_
      refine z_i2l (pc := 61) C (dX12_still 32 rfl) ?_
      refine z_lcmp (pc := 62) C (dX12_still 33 rfl) ?_
      refine z_if_lt (pc := 63) (tgt := 73) C (dX12_still 34 rfl) (by decide) (fun c17 => ?_) (fun c17 => ?_)
      · replace H := H.1 c17
        refine z_iinc (pc := 73) (i := 4) (v := x_4 + 1) (lv2 := [(4, .int (x_4 + 1)), (0, .ref a_0), (1, .int x_1), (2, .int x_2), (3, .int x_3)]) C (dX12_still 39 rfl) 4 rfl (by rfl) (by decide) rfl ?_
        refine z_goto (pc := 76) (tgt := 46) C (dX12_still 40 rfl) (by decide) ?_
        refine z_sub [1, 2, 3, 4, 0] rfl ?_
        exact ih (x_4 + 1) m16 H
      · replace H := H.2 c17
        refine z_aload_n (pc := 66) C (dX12_still 35 rfl) rfl 0 rfl ?_
        refine z_iload (pc := 67) C (dX12_still 36 rfl) 4 rfl ?_
        obtain ⟨h18, H⟩ := H
        refine zc_Vi (pc := 69) (rest := []) C YX12_good wl_X12_51 (kX12_good H) (by decide) h18 rfl (by decide) (dX12_still 37 rfl) rfl hu1 hu2 (Nat.le_of_ble_eq_true rfl) rfl (fun r19 m20 H => ?_)
        exact z_iret (pc := 72) C hr hu1 hu2 (dX12_still 38 rfl) ⟨rfl, _, rfl, H⟩
def wX12_still (t : zT) (m : zM) (a : Nat) (p1 : Int32) (p2 : Int32) (p3 : Int32) (Q : Int32 → zM → Prop) : Prop := (tK t a = 12 ∧ (wX12_in t (pI m a 0 0) p1 0 1000000 (fun r2 m3 => ((r2 = 0 → (wX12_still_J37 t m3 a Q)) ∧ (¬ r2 = 0 → (wX12_in t m3 p2 0 40 (fun r8 m9 => ((r8 = 0 → (wX12_still_J37 t m9 a Q)) ∧ (¬ r8 = 0 → (wX12_in t m9 p3 0 1000000 (fun r11 m12 => ((r11 = 0 → (wX12_still_J37 t m12 a Q)) ∧ (¬ r11 = 0 → (∃ n24, wX12_still_L46 t a p1 p2 p3 Q (fun m21 => (wX12_good t m21 a (-2) (fun r22 m23 => (Q r22 m23)))) n24 0 m12))))))))))))))
set_option maxHeartbeats 4000000 in
set_option maxRecDepth 20000 in
theorem kX12_still {l : Launch} {t : zT} {m : zM} {a : Nat} {p1 : Int32} {p2 : Int32} {p3 : Int32} {Q : Int32 → zM → Prop} (H : wX12_still t m a p1 p2 p3 Q) : zMet l yX12_still cX12_still 5 (some .int) 1 0 0 t m [.ref a, .int p1, .int p2, .int p3] (zPi t Q) := by
  refine zmet (by decide +kernel) (Nat.le_of_ble_eq_true rfl) ?_
  intro p e s mt args below meth c g C hr hm
  unfold wX12_still at H
  have hu1 : ((0, 0) : Nat × Nat).1 ≤ 0 := Nat.le_refl 0
  have hu2 : ((0, 0) : Nat × Nat).2 ≤ 0 := Nat.le_refl 0
  refine z_aload_n (pc := 0) C (dX12_still 0 rfl) rfl 0 rfl ?_
  refine z_iconst (pc := 1) (v := 0) C (dX12_still 1 rfl) (by decide) ?_
  obtain ⟨h1, H⟩ := H
  refine z_putI (pc := 2) C zc12 h1 0 (by decide) rfl rfl wf_X12_41 (dX12_still 2 rfl) ?_
  refine z_iload_n (pc := 5) C (dX12_still 3 rfl) rfl 1 rfl ?_
  refine z_iconst (pc := 6) (v := 0) C (dX12_still 4 rfl) (by decide) ?_
  refine z_ldcw (pc := 7) C wk_X12_474 (dX12_still 5 rfl) ?_
  refine zc_Si (pc := 10) (rest := []) C YX12_in wl_X12_119 (kX12_in H) (by decide) (dX12_still 6 rfl) rfl hu1 hu2 (Nat.le_of_ble_eq_true rfl) rfl (fun r2 m3 H => ?_)
  refine z_if_eq (pc := 13) (tgt := 37) C (dX12_still 7 rfl) (by decide) (fun c4 => ?_) (fun c4 => ?_)
  · replace H := H.1 c4
    refine z_sub [0] rfl ?_
    exact sX12_still_J37 C hr hm hu1 hu2 H
  · replace H := H.2 c4
    refine z_iload_n (pc := 16) C (dX12_still 8 rfl) rfl 2 rfl ?_
    refine z_iconst (pc := 17) (v := 0) C (dX12_still 9 rfl) (by decide) ?_
    refine z_bipush (pc := 18) (v := 40) C (dX12_still 10 rfl) (by decide) ?_
    refine zc_Si (pc := 20) (rest := []) C YX12_in wl_X12_119 (kX12_in H) (by decide) (dX12_still 11 rfl) rfl hu1 hu2 (Nat.le_of_ble_eq_true rfl) rfl (fun r8 m9 H => ?_)
    refine z_if_eq (pc := 23) (tgt := 37) C (dX12_still 12 rfl) (by decide) (fun c10 => ?_) (fun c10 => ?_)
    · replace H := H.1 c10
      refine z_sub [0] rfl ?_
      exact sX12_still_J37 C hr hm hu1 hu2 H
    · replace H := H.2 c10
      refine z_iload_n (pc := 26) C (dX12_still 13 rfl) rfl 3 rfl ?_
      refine z_iconst (pc := 27) (v := 0) C (dX12_still 14 rfl) (by decide) ?_
      refine z_ldcw (pc := 28) C wk_X12_474 (dX12_still 15 rfl) ?_
      refine zc_Si (pc := 31) (rest := []) C YX12_in wl_X12_119 (kX12_in H) (by decide) (dX12_still 16 rfl) rfl hu1 hu2 (Nat.le_of_ble_eq_true rfl) rfl (fun r11 m12 H => ?_)
      refine z_if_ne (pc := 34) (tgt := 43) C (dX12_still 17 rfl) (by decide) (fun c13 => ?_) (fun c13 => ?_)
      · replace H := H.2 c13
        refine z_iconst (pc := 43) (v := 0) C (dX12_still 22 rfl) (by decide) ?_
        refine z_istore (pc := 44) (i := 4) (lv2 := [(4, .int 0), (0, .ref a), (1, .int p1), (2, .int p2), (3, .int p3)]) C (dX12_still 23 rfl) (by decide) rfl ?_
        obtain ⟨n24, H⟩ := H
        refine z_sub [1, 2, 3, 4, 0] rfl ?_
        refine sX12_still_L46 C hr hm hu1 hu2 (fun m21 H => ?_) n24 0 m12 H
        refine z_aload_n (pc := 79) C (dX12_still 41 rfl) rfl 0 rfl ?_
        refine z_bipush (pc := 80) (v := (-2)) C (dX12_still 42 rfl) (by decide) ?_
        refine zc_Vi (pc := 82) (rest := []) C YX12_good wl_X12_51 (kX12_good H) (by decide) h1 rfl (by decide) (dX12_still 43 rfl) rfl hu1 hu2 (Nat.le_of_ble_eq_true rfl) rfl (fun r22 m23 H => ?_)
        exact z_iret (pc := 85) C hr hu1 hu2 (dX12_still 44 rfl) ⟨rfl, _, rfl, H⟩
      · replace H := H.1 c13
        refine z_sub [0] rfl ?_
        exact sX12_still_J37 C hr hm hu1 hu2 H
def wX12_seed (t : zT) (m : zM) (a : Nat) (p1 : Int32) (Q : Int32 → zM → Prop) : Prop := (tK t a = 12 ∧ (((gR m a 3) = 0 → (wX12_denied t (pI m a 0 0) a 1 (fun r3 m4 => ((r3 = 0 ∨ r3 = 1) ∧ (Q r3 m4))))) ∧ (¬ (gR m a 3) = 0 → (wX12_in t (pI m a 0 0) p1 0 65536 (fun r6 m7 => ((r6 = 0 → (wX12_denied t m7 a 2 (fun r14 m15 => ((r14 = 0 ∨ r14 = 1) ∧ (Q r14 m15))))) ∧ (¬ r6 = 0 → (tK t (gR m7 a 26) = 14 ∧ (vp_in 10 (tL t (gR m7 a 26)) ∧ (wX12_granted t (pI m7 (gR m7 a 26) ((10 : Int32).toNatClampNeg) p1) a (fun r11 m12 => ((r11 = 0 ∨ r11 = 1) ∧ (Q r11 m12)))))))))))))
set_option maxHeartbeats 4000000 in
set_option maxRecDepth 20000 in
theorem kX12_seed {l : Launch} {t : zT} {m : zM} {a : Nat} {p1 : Int32} {Q : Int32 → zM → Prop} (H : wX12_seed t m a p1 Q) : zMet l yX12_seed cX12_seed 2 (some .boolean) 2 0 0 t m [.ref a, .int p1] (zPi t Q) := by
  refine zmet (by decide +kernel) (Nat.le_of_ble_eq_true rfl) ?_
  intro p e s mt args below meth c g C hr hm
  unfold wX12_seed at H
  have hu1 : ((0, 0) : Nat × Nat).1 ≤ 0 := Nat.le_refl 0
  have hu2 : ((0, 0) : Nat × Nat).2 ≤ 0 := Nat.le_refl 0
  refine z_aload_n (pc := 0) C (dX12_seed 0 rfl) rfl 0 rfl ?_
  refine z_iconst (pc := 1) (v := 0) C (dX12_seed 1 rfl) (by decide) ?_
  obtain ⟨h1, H⟩ := H
  refine z_putI (pc := 2) C zc12 h1 0 (by decide) rfl rfl wf_X12_41 (dX12_seed 2 rfl) ?_
  refine z_aload_n (pc := 5) C (dX12_seed 3 rfl) rfl 0 rfl ?_
  refine z_getR (pc := 6) C zc12 h1 3 (by decide) rfl wf_X12_314 (dX12_seed 4 rfl) ?_
  refine z_ifnonnull (pc := 9) (tgt := 18) C (dX12_seed 5 rfl) (by decide) (fun c2 => ?_) (fun c2 => ?_)
  · replace H := H.1 c2
    refine z_aload_n (pc := 12) C (dX12_seed 6 rfl) rfl 0 rfl ?_
    refine z_iconst (pc := 13) (v := 1) C (dX12_seed 7 rfl) (by decide) ?_
    refine zc_Vi (pc := 14) (rest := []) C YX12_denied wl_X12_479 (kX12_denied H) (by decide) h1 rfl (by decide) (dX12_seed 8 rfl) rfl hu1 hu2 (Nat.le_of_ble_eq_true rfl) rfl (fun r3 m4 H => ?_)
    obtain ⟨h5, H⟩ := H
    exact z_zret (pc := 17) C hr h5 hu1 hu2 (dX12_seed 9 rfl) ⟨rfl, _, rfl, H⟩
  · replace H := H.2 c2
    refine z_iload_n (pc := 18) C (dX12_seed 10 rfl) rfl 1 rfl ?_
    refine z_iconst (pc := 19) (v := 0) C (dX12_seed 11 rfl) (by decide) ?_
    refine z_ldcw (pc := 20) C wk_X12_482 (dX12_seed 12 rfl) ?_
    refine zc_Si (pc := 23) (rest := []) C YX12_in wl_X12_119 (kX12_in H) (by decide) (dX12_seed 13 rfl) rfl hu1 hu2 (Nat.le_of_ble_eq_true rfl) rfl (fun r6 m7 H => ?_)
    refine z_if_ne (pc := 26) (tgt := 35) C (dX12_seed 14 rfl) (by decide) (fun c8 => ?_) (fun c8 => ?_)
    · replace H := H.2 c8
      refine z_aload_n (pc := 35) C (dX12_seed 19 rfl) rfl 0 rfl ?_
      refine z_getR (pc := 36) C zc12 h1 26 (by decide) rfl wf_X12_35 (dX12_seed 20 rfl) ?_
      refine z_bipush (pc := 39) (v := 10) C (dX12_seed 21 rfl) (by decide) ?_
      refine z_iload_n (pc := 41) C (dX12_seed 22 rfl) rfl 1 rfl ?_
      obtain ⟨h9, H⟩ := H
      obtain ⟨h10, H⟩ := H
      refine z_iastore (pc := 42) C h9 h10 (dX12_seed 23 rfl) ?_
      refine z_aload_n (pc := 43) C (dX12_seed 24 rfl) rfl 0 rfl ?_
      refine zc_Vi (pc := 44) (rest := []) C YX12_granted wl_X12_483 (kX12_granted H) (by decide) h1 rfl (by decide) (dX12_seed 25 rfl) rfl hu1 hu2 (Nat.le_of_ble_eq_true rfl) rfl (fun r11 m12 H => ?_)
      obtain ⟨h13, H⟩ := H
      exact z_zret (pc := 47) C hr h13 hu1 hu2 (dX12_seed 26 rfl) ⟨rfl, _, rfl, H⟩
    · replace H := H.1 c8
      refine z_aload_n (pc := 29) C (dX12_seed 15 rfl) rfl 0 rfl ?_
      refine z_iconst (pc := 30) (v := 2) C (dX12_seed 16 rfl) (by decide) ?_
      refine zc_Vi (pc := 31) (rest := []) C YX12_denied wl_X12_479 (kX12_denied H) (by decide) h1 rfl (by decide) (dX12_seed 17 rfl) rfl hu1 hu2 (Nat.le_of_ble_eq_true rfl) rfl (fun r14 m15 H => ?_)
      obtain ⟨h16, H⟩ := H
      exact z_zret (pc := 34) C hr h16 hu1 hu2 (dX12_seed 18 rfl) ⟨rfl, _, rfl, H⟩
def wX12_draw_J122 (t : zT) (m : zM) (a_0 : Nat) (x_2 : Int32) (s_0 : Int32) (s_1 : Int32) (Q : Int32 → zM → Prop) (r94 : Int32 → Int32 → zM → Prop) : Prop := (r94 (s_1 - s_0) (x_2 + 1) m)
set_option maxHeartbeats 4000000 in
set_option maxRecDepth 20000 in
theorem sX12_draw_J122 {p : Program} {l : Launch} {e : Env} {s : State} {mt : MethodId} {args : Array Value} {below : List Frame} {meth : Method} {c : Code} {g : zG} {u : Nat × Nat} {mc ms : Nat} {t : zT} {m : zM} {a_0 : Nat} {x_2 : Int32} {s_0 : Int32} {s_1 : Int32} {Q : Int32 → zM → Prop} {r94 : Int32 → Int32 → zM → Prop} (C : zC p (zRm 5 mc ms) s mt args meth c g cX12_draw 4 yX12_draw.cls 5) (hr : meth.sig.returnType = (some .int)) (hm : meth.name = yX12_draw.name) (hu1 : u.1 ≤ mc) (hu2 : u.2 ≤ ms)
    (R94 : ∀ (v0 : Int32) (v1 : Int32) (m : zM), r94 v0 v1 m → zW p l e (zRm 5 mc ms) s mt args below meth c g (MQ below (zQc g (zPi t Q)) args s mc ms (zFar g)) u 4 t m 94 [(0, .ref a_0), (1, .int v0), (2, .int v1)] []) (H : wX12_draw_J122 t m a_0 x_2 s_0 s_1 Q r94) : zW p l e (zRm 5 mc ms) s mt args below meth c g (MQ below (zQc g (zPi t Q)) args s mc ms (zFar g)) u 4 t m 122 [(0, .ref a_0), (2, .int x_2)] [.int s_0, .int s_1] := by
  unfold wX12_draw_J122 at H
  refine z_isub (pc := 122) C (dX12_draw 68 rfl) ?_
  refine z_istore_n (pc := 123) (i := 1) (lv2 := [(1, .int (s_1 - s_0)), (0, .ref a_0), (2, .int x_2)]) C (dX12_draw 69 rfl) rfl (by decide) rfl ?_
  refine z_iinc (pc := 124) (i := 2) (v := x_2 + 1) (lv2 := [(2, .int (x_2 + 1)), (1, .int (s_1 - s_0)), (0, .ref a_0)]) C (dX12_draw 70 rfl) 2 rfl (by rfl) (by decide) rfl ?_
  refine z_goto (pc := 127) (tgt := 94) C (dX12_draw 71 rfl) (by decide) ?_
  refine z_sub [2, 1, 0] rfl ?_
  exact R94 (s_1 - s_0) (x_2 + 1) m H
def wX12_draw_J107 (t : zT) (m : zM) (a_0 : Nat) (x_1 : Int32) (x_2 : Int32) (Q : Int32 → zM → Prop) (r94 : Int32 → Int32 → zM → Prop) : Prop := (tK t a_0 = 12 ∧ (tK t (gR m a_0 17) = 16 ∧ (vp_in x_2 (tL t (gR m a_0 17)) ∧ (((gI m (gR m a_0 17) x_2.toNatClampNeg) = 0 → (wX12_draw_J122 t m a_0 x_2 0 x_1 Q r94)) ∧ (¬ (gI m (gR m a_0 17) x_2.toNatClampNeg) = 0 → (wX12_draw_J122 t m a_0 x_2 1 x_1 Q r94))))))
set_option maxHeartbeats 4000000 in
set_option maxRecDepth 20000 in
theorem sX12_draw_J107 {p : Program} {l : Launch} {e : Env} {s : State} {mt : MethodId} {args : Array Value} {below : List Frame} {meth : Method} {c : Code} {g : zG} {u : Nat × Nat} {mc ms : Nat} {t : zT} {m : zM} {a_0 : Nat} {x_1 : Int32} {x_2 : Int32} {Q : Int32 → zM → Prop} {r94 : Int32 → Int32 → zM → Prop} (C : zC p (zRm 5 mc ms) s mt args meth c g cX12_draw 4 yX12_draw.cls 5) (hr : meth.sig.returnType = (some .int)) (hm : meth.name = yX12_draw.name) (hu1 : u.1 ≤ mc) (hu2 : u.2 ≤ ms)
    (R94 : ∀ (v0 : Int32) (v1 : Int32) (m : zM), r94 v0 v1 m → zW p l e (zRm 5 mc ms) s mt args below meth c g (MQ below (zQc g (zPi t Q)) args s mc ms (zFar g)) u 4 t m 94 [(0, .ref a_0), (1, .int v0), (2, .int v1)] []) (H : wX12_draw_J107 t m a_0 x_1 x_2 Q r94) : zW p l e (zRm 5 mc ms) s mt args below meth c g (MQ below (zQc g (zPi t Q)) args s mc ms (zFar g)) u 4 t m 107 [(0, .ref a_0), (1, .int x_1), (2, .int x_2)] [] := by
  unfold wX12_draw_J107 at H
  refine z_iload_n (pc := 107) C (dX12_draw 59 rfl) rfl 1 rfl ?_
  refine z_aload_n (pc := 108) C (dX12_draw 60 rfl) rfl 0 rfl ?_
  obtain ⟨h20, H⟩ := H
  refine z_getR (pc := 109) C zc12 h20 17 (by decide) rfl wf_X12_21 (dX12_draw 61 rfl) ?_
  refine z_iload_n (pc := 112) C (dX12_draw 62 rfl) rfl 2 rfl ?_
  obtain ⟨h21, H⟩ := H
  obtain ⟨h22, H⟩ := H
  refine z_zaload (pc := 113) C h21 h22 (dX12_draw 63 rfl) ?_
  refine z_if_eq (pc := 114) (tgt := 121) C (dX12_draw 64 rfl) (by decide) (fun c23 => ?_) (fun c23 => ?_)
  · replace H := H.1 c23
    refine z_iconst (pc := 121) (v := 0) C (dX12_draw 67 rfl) (by decide) ?_
    refine z_sub [0, 2] rfl ?_
    exact sX12_draw_J122 C hr hm hu1 hu2 R94 H
  · replace H := H.2 c23
    refine z_iconst (pc := 117) (v := 1) C (dX12_draw 65 rfl) (by decide) ?_
    refine z_goto (pc := 118) (tgt := 122) C (dX12_draw 66 rfl) (by decide) ?_
    refine z_sub [0, 2] rfl ?_
    exact sX12_draw_J122 C hr hm hu1 hu2 R94 H
def wX12_draw_L94 (t : zT) (a_0 : Nat) (Q : Int32 → zM → Prop) (k130 : Int32 → zM → Prop) : Nat → Int32 → Int32 → zM → Prop
  | 0, _, _, _ => False
  | n + 1, x_1, x_2, m => (tK t a_0 = 12 ∧ (tK t (gR m a_0 17) = 16 ∧ (vp_in x_2 (tL t (gR m a_0 17)) ∧ (((gI m (gR m a_0 17) x_2.toNatClampNeg) = 0 → (wX12_draw_J107 t m a_0 x_1 x_2 Q (wX12_draw_L94 t a_0 Q k130 n))) ∧ (¬ (gI m (gR m a_0 17) x_2.toNatClampNeg) = 0 → ((x_1 ≤ 0 → (k130 x_2 m)) ∧ (¬ x_1 ≤ 0 → (wX12_draw_J107 t m a_0 x_1 x_2 Q (wX12_draw_L94 t a_0 Q k130 n)))))))))
set_option maxHeartbeats 4000000 in
set_option maxRecDepth 20000 in
theorem sX12_draw_L94 {p : Program} {l : Launch} {e : Env} {s : State} {mt : MethodId} {args : Array Value} {below : List Frame} {meth : Method} {c : Code} {g : zG} {u : Nat × Nat} {mc ms : Nat} {t : zT} {a_0 : Nat} {Q : Int32 → zM → Prop} {k130 : Int32 → zM → Prop} (C : zC p (zRm 5 mc ms) s mt args meth c g cX12_draw 4 yX12_draw.cls 5) (hr : meth.sig.returnType = (some .int)) (hm : meth.name = yX12_draw.name) (hu1 : u.1 ≤ mc) (hu2 : u.2 ≤ ms)
    (K130 : ∀ (v0 : Int32) (m : zM), k130 v0 m → zW p l e (zRm 5 mc ms) s mt args below meth c g (MQ below (zQc g (zPi t Q)) args s mc ms (zFar g)) u 4 t m 130 [(0, .ref a_0), (2, .int v0)] []) : ∀ (n : Nat) (x_1 : Int32) (x_2 : Int32) (m : zM), wX12_draw_L94 t a_0 Q k130 n x_1 x_2 m → zW p l e (zRm 5 mc ms) s mt args below meth c g (MQ below (zQc g (zPi t Q)) args s mc ms (zFar g)) u 4 t m 94 [(0, .ref a_0), (1, .int x_1), (2, .int x_2)] [] := by
  intro n
  induction n with
  | zero => intro x_1 x_2 m H; exact H.elim
  | succ n ih =>
    intro x_1 x_2 m H
    simp only [wX12_draw_L94] at H
    refine z_aload_n (pc := 94) C (dX12_draw 52 rfl) rfl 0 rfl ?_
    obtain ⟨h16, H⟩ := H
    refine z_getR (pc := 95) C zc12 h16 17 (by decide) rfl wf_X12_21 (dX12_draw 53 rfl) ?_
    refine z_iload_n (pc := 98) C (dX12_draw 54 rfl) rfl 2 rfl ?_
    obtain ⟨h17, H⟩ := H
    obtain ⟨h18, H⟩ := H
    refine z_zaload (pc := 99) C h17 h18 (dX12_draw 55 rfl) ?_
    refine z_if_eq (pc := 100) (tgt := 107) C (dX12_draw 56 rfl) (by decide) (fun c19 => ?_) (fun c19 => ?_)
    · replace H := H.1 c19
      refine z_sub [0, 1, 2] rfl ?_
      exact sX12_draw_J107 C hr hm hu1 hu2 ih H
    · replace H := H.2 c19
      refine z_iload_n (pc := 103) C (dX12_draw 57 rfl) rfl 1 rfl ?_
      refine z_if_le (pc := 104) (tgt := 130) C (dX12_draw 58 rfl) (by decide) (fun c24 => ?_) (fun c24 => ?_)
      · replace H := H.1 c24
        refine z_sub [0, 2] rfl ?_
        exact K130 x_2 m H
      · replace H := H.2 c24
        refine z_sub [0, 1, 2] rfl ?_
        exact sX12_draw_J107 C hr hm hu1 hu2 ih H
def wX12_draw_L132 (t : zT) (a_0 : Nat) (x_2 : Int32) (Q : Int32 → zM → Prop) (k152 : zM → Prop) : Nat → Int32 → zM → Prop
  | 0, _, _ => False
  | n + 1, x_3, m => (((8 : Int32) ≤ x_3 → (k152 m)) ∧ (¬ (8 : Int32) ≤ x_3 → (tK t a_0 = 12 ∧ (tK t (gR m a_0 26) = 14 ∧ (vp_in x_3 (tL t (gR m a_0 26)) ∧ (wX12_draw_L132 t a_0 x_2 Q k152 n (x_3 + 1) (pI m (gR m a_0 26) x_3.toNatClampNeg (-2))))))))
set_option maxHeartbeats 4000000 in
set_option maxRecDepth 20000 in
theorem sX12_draw_L132 {p : Program} {l : Launch} {e : Env} {s : State} {mt : MethodId} {args : Array Value} {below : List Frame} {meth : Method} {c : Code} {g : zG} {u : Nat × Nat} {mc ms : Nat} {t : zT} {a_0 : Nat} {x_2 : Int32} {Q : Int32 → zM → Prop} {k152 : zM → Prop} (C : zC p (zRm 5 mc ms) s mt args meth c g cX12_draw 4 yX12_draw.cls 5) (hr : meth.sig.returnType = (some .int)) (hm : meth.name = yX12_draw.name) (hu1 : u.1 ≤ mc) (hu2 : u.2 ≤ ms)
    (K152 : ∀ (m : zM), k152 m → zW p l e (zRm 5 mc ms) s mt args below meth c g (MQ below (zQc g (zPi t Q)) args s mc ms (zFar g)) u 4 t m 152 [(0, .ref a_0), (2, .int x_2)] []) : ∀ (n : Nat) (x_3 : Int32) (m : zM), wX12_draw_L132 t a_0 x_2 Q k152 n x_3 m → zW p l e (zRm 5 mc ms) s mt args below meth c g (MQ below (zQc g (zPi t Q)) args s mc ms (zFar g)) u 4 t m 132 [(0, .ref a_0), (2, .int x_2), (3, .int x_3)] [] := by
  intro n
  induction n with
  | zero => intro x_3 m H; exact H.elim
  | succ n ih =>
    intro x_3 m H
    simp only [wX12_draw_L132] at H
    refine z_iload_n (pc := 132) C (dX12_draw 74 rfl) rfl 2 rfl ?_
    refine z_bipush (pc := 133) (v := 8) C (dX12_draw 75 rfl) (by decide) ?_
    refine z_icmp_ge (pc := 135) (tgt := 152) C (dX12_draw 76 rfl) (by decide) (fun c27 => ?_) (fun c27 => ?_)
    · replace H := H.1 c27
      refine z_sub [0, 1] rfl ?_
      exact K152 m H
    · replace H := H.2 c27
      refine z_aload_n (pc := 138) C (dX12_draw 77 rfl) rfl 0 rfl ?_
      obtain ⟨h28, H⟩ := H
      refine z_getR (pc := 139) C zc12 h28 26 (by decide) rfl wf_X12_35 (dX12_draw 78 rfl) ?_
      refine z_iload_n (pc := 142) C (dX12_draw 79 rfl) rfl 2 rfl ?_
      refine z_bipush (pc := 143) (v := (-2)) C (dX12_draw 80 rfl) (by decide) ?_
      obtain ⟨h29, H⟩ := H
      obtain ⟨h30, H⟩ := H
      refine z_iastore (pc := 145) C h29 h30 (dX12_draw 81 rfl) ?_
      refine z_iinc (pc := 146) (i := 3) (v := x_3 + 1) (lv2 := [(3, .int (x_3 + 1)), (0, .ref a_0), (2, .int x_2)]) C (dX12_draw 82 rfl) 2 rfl (by rfl) (by decide) rfl ?_
      refine z_goto (pc := 149) (tgt := 132) C (dX12_draw 83 rfl) (by decide) ?_
      refine z_sub [1, 2, 0] rfl ?_
      exact ih (x_3 + 1) (pI m (gR m a_0 26) x_3.toNatClampNeg (-2)) H
def wX12_draw (t : zT) (m : zM) (a : Nat) (Q : Int32 → zM → Prop) : Prop := (tK t a = 12 ∧ (((gR m a 3) = 0 → (wX12_refused t (pI m a 0 0) a 1 (fun r3 m4 => (Q r3 m4)))) ∧ (¬ (gR m a 3) = 0 → (tK t (gR m a 3) = 11 ∧ (wX11_allSayings t (pI m a 0 0) (gR m a 3) (fun r6 m7 => (tK t (gR m7 a 3) = 11 ∧ (wX12_asks t m7 a r6 (gI m7 (gR m7 a 3) 6) 0 (fun m10 => (((gI m10 a 19) = 0 → (wX12_refused t m10 a 6 (fun r39 m40 => (Q r39 m40)))) ∧ (¬ (gI m10 a 19) = 0 → (tK t (gR m10 a 26) = 14 ∧ (vp_in 10 (tL t (gR m10 a 26)) ∧ (¬ (gI (pI m10 (gR m10 a 26) ((10 : Int32).toNatClampNeg) ((((75 * ((gI m10 (gR m10 a 26) ((10 : Int32).toNatClampNeg)).toInt64)) + 74) - ((75 * ((gI m10 (gR m10 a 26) ((10 : Int32).toNatClampNeg)).toInt64)) + 74) / 65537 * 65537).toInt32)) a 19) = 0 ∧ (∀ x15 : Int32, x15 = ((gI (pI m10 (gR m10 a 26) ((10 : Int32).toNatClampNeg) ((((75 * ((gI m10 (gR m10 a 26) ((10 : Int32).toNatClampNeg)).toInt64)) + 74) - ((75 * ((gI m10 (gR m10 a 26) ((10 : Int32).toNatClampNeg)).toInt64)) + 74) / 65537 * 65537).toInt32)) (gR m10 a 26) ((10 : Int32).toNatClampNeg)) - (gI (pI m10 (gR m10 a 26) ((10 : Int32).toNatClampNeg) ((((75 * ((gI m10 (gR m10 a 26) ((10 : Int32).toNatClampNeg)).toInt64)) + 74) - ((75 * ((gI m10 (gR m10 a 26) ((10 : Int32).toNatClampNeg)).toInt64)) + 74) / 65537 * 65537).toInt32)) (gR m10 a 26) ((10 : Int32).toNatClampNeg)) / (gI (pI m10 (gR m10 a 26) ((10 : Int32).toNatClampNeg) ((((75 * ((gI m10 (gR m10 a 26) ((10 : Int32).toNatClampNeg)).toInt64)) + 74) - ((75 * ((gI m10 (gR m10 a 26) ((10 : Int32).toNatClampNeg)).toInt64)) + 74) / 65537 * 65537).toInt32)) a 19) * (gI (pI m10 (gR m10 a 26) ((10 : Int32).toNatClampNeg) ((((75 * ((gI m10 (gR m10 a 26) ((10 : Int32).toNatClampNeg)).toInt64)) + 74) - ((75 * ((gI m10 (gR m10 a 26) ((10 : Int32).toNatClampNeg)).toInt64)) + 74) / 65537 * 65537).toInt32)) a 19)) → ((∃ n38, wX12_draw_L94 t a Q (fun v25 m26 => (∃ n37, wX12_draw_L132 t a v25 Q (fun m31 => (tK t (gR m31 a 26) = 14 ∧ (vp_in 8 (tL t (gR m31 a 26)) ∧ (vp_in 9 (tL t (gR m31 a 26)) ∧ (wX12_good t (pI (pI m31 (gR m31 a 26) ((8 : Int32).toNatClampNeg) v25) (gR m31 a 26) ((9 : Int32).toNatClampNeg) 0) a (gI (pI (pI m31 (gR m31 a 26) ((8 : Int32).toNatClampNeg) v25) (gR m31 a 26) ((9 : Int32).toNatClampNeg) 0) a 19) (fun r35 m36 => (Q r35 m36))))))) n37 0 m26)) n38 x15 0 (pI m10 (gR m10 a 26) ((10 : Int32).toNatClampNeg) ((((75 * ((gI m10 (gR m10 a 26) ((10 : Int32).toNatClampNeg)).toInt64)) + 74) - ((75 * ((gI m10 (gR m10 a 26) ((10 : Int32).toNatClampNeg)).toInt64)) + 74) / 65537 * 65537).toInt32)))))))))))))))))))
set_option maxHeartbeats 4000000 in
set_option maxRecDepth 20000 in
theorem kX12_draw {l : Launch} {t : zT} {m : zM} {a : Nat} {Q : Int32 → zM → Prop} (H : wX12_draw t m a Q) : zMet l yX12_draw cX12_draw 4 (some .int) 5 0 0 t m [.ref a] (zPi t Q) := by
  refine zmet (by decide +kernel) (Nat.le_of_ble_eq_true rfl) ?_
  intro p e s mt args below meth c g C hr hm
  unfold wX12_draw at H
  have hu1 : ((0, 0) : Nat × Nat).1 ≤ 0 := Nat.le_refl 0
  have hu2 : ((0, 0) : Nat × Nat).2 ≤ 0 := Nat.le_refl 0
  refine z_aload_n (pc := 0) C (dX12_draw 0 rfl) rfl 0 rfl ?_
  refine z_iconst (pc := 1) (v := 0) C (dX12_draw 1 rfl) (by decide) ?_
  obtain ⟨h1, H⟩ := H
  refine z_putI (pc := 2) C zc12 h1 0 (by decide) rfl rfl wf_X12_41 (dX12_draw 2 rfl) ?_
  refine z_aload_n (pc := 5) C (dX12_draw 3 rfl) rfl 0 rfl ?_
  refine z_getR (pc := 6) C zc12 h1 3 (by decide) rfl wf_X12_314 (dX12_draw 4 rfl) ?_
  refine z_ifnonnull (pc := 9) (tgt := 18) C (dX12_draw 5 rfl) (by decide) (fun c2 => ?_) (fun c2 => ?_)
  · replace H := H.1 c2
    refine z_aload_n (pc := 12) C (dX12_draw 6 rfl) rfl 0 rfl ?_
    refine z_iconst (pc := 13) (v := 1) C (dX12_draw 7 rfl) (by decide) ?_
    refine zc_Vi (pc := 14) (rest := []) C YX12_refused wl_X12_47 (kX12_refused H) (by decide) h1 rfl (by decide) (dX12_draw 8 rfl) rfl hu1 hu2 (Nat.le_of_ble_eq_true rfl) rfl (fun r3 m4 H => ?_)
    exact z_iret (pc := 17) C hr hu1 hu2 (dX12_draw 9 rfl) ⟨rfl, _, rfl, H⟩
  · replace H := H.2 c2
    refine z_aload_n (pc := 18) C (dX12_draw 10 rfl) rfl 0 rfl ?_
    refine z_aload_n (pc := 19) C (dX12_draw 11 rfl) rfl 0 rfl ?_
    refine z_getR (pc := 20) C zc12 h1 3 (by decide) rfl wf_X12_314 (dX12_draw 12 rfl) ?_
    obtain ⟨h5, H⟩ := H
    refine zc_Vi (pc := 23) (rest := [.ref a]) C YX11_allSayings wl_X12_348 (kX11_allSayings H) (by decide) h5 rfl (by decide) (dX12_draw 13 rfl) rfl hu1 hu2 (Nat.le_of_ble_eq_true rfl) rfl (fun r6 m7 H => ?_)
    refine z_aload_n (pc := 26) C (dX12_draw 14 rfl) rfl 0 rfl ?_
    refine z_getR (pc := 27) C zc12 h1 3 (by decide) rfl wf_X12_314 (dX12_draw 15 rfl) ?_
    obtain ⟨h8, H⟩ := H
    refine z_getIN (pc := 30) C zc11 h8 6 (by decide) rfl wn_X12_269 (dX12_draw 16 rfl) ?_
    refine z_iconst (pc := 33) (v := 0) C (dX12_draw 17 rfl) (by decide) ?_
    refine zc_Vv (pc := 34) (rest := []) C YX12_asks wl_X12_351 (kX12_asks H) (by decide) h1 rfl (by decide) (dX12_draw 18 rfl) rfl hu1 hu2 (Nat.le_of_ble_eq_true rfl) rfl (fun m10 H => ?_)
    refine z_aload_n (pc := 37) C (dX12_draw 19 rfl) rfl 0 rfl ?_
    refine z_getI (pc := 38) C zc12 h1 19 (by decide) rfl wf_X12_339 (dX12_draw 20 rfl) ?_
    refine z_if_ne (pc := 41) (tgt := 51) C (dX12_draw 21 rfl) (by decide) (fun c11 => ?_) (fun c11 => ?_)
    · replace H := H.2 c11
      refine z_aload_n (pc := 51) C (dX12_draw 26 rfl) rfl 0 rfl ?_
      refine z_getR (pc := 52) C zc12 h1 26 (by decide) rfl wf_X12_35 (dX12_draw 27 rfl) ?_
      refine z_bipush (pc := 55) (v := 10) C (dX12_draw 28 rfl) (by decide) ?_
      refine z_ldc2 (pc := 57) C wj_X12_486 (dX12_draw 29 rfl) ?_
      refine z_aload_n (pc := 60) C (dX12_draw 30 rfl) rfl 0 rfl ?_
      refine z_getR (pc := 61) C zc12 h1 26 (by decide) rfl wf_X12_35 (dX12_draw 31 rfl) ?_
      refine z_bipush (pc := 64) (v := 10) C (dX12_draw 32 rfl) (by decide) ?_
      obtain ⟨h12, H⟩ := H
      obtain ⟨h13, H⟩ := H
      refine z_iaload (pc := 66) C h12 h13 (dX12_draw 33 rfl) ?_
      refine z_i2l (pc := 67) C (dX12_draw 34 rfl) ?_
      refine z_lmul (pc := 68) C (dX12_draw 35 rfl) ?_
      refine z_ldc2 (pc := 69) C wj_X12_488 (dX12_draw 36 rfl) ?_
      refine z_ladd (pc := 72) C (dX12_draw 37 rfl) ?_
      refine z_ldc2 (pc := 73) C wj_X12_490 (dX12_draw 38 rfl) ?_
      refine z_lrem (pc := 76) C (hne := by decide) (dX12_draw 39 rfl) ?_
      refine z_l2i (pc := 77) C (dX12_draw 40 rfl) ?_
      refine z_iastore (pc := 78) C h12 h13 (dX12_draw 41 rfl) ?_
      refine z_aload_n (pc := 79) C (dX12_draw 42 rfl) rfl 0 rfl ?_
      refine z_getR (pc := 80) C zc12 h1 26 (by decide) rfl wf_X12_35 (dX12_draw 43 rfl) ?_
      refine z_bipush (pc := 83) (v := 10) C (dX12_draw 44 rfl) (by decide) ?_
      refine z_iaload (pc := 85) C h12 h13 (dX12_draw 45 rfl) ?_
      refine z_aload_n (pc := 86) C (dX12_draw 46 rfl) rfl 0 rfl ?_
      refine z_getI (pc := 87) C zc12 h1 19 (by decide) rfl wf_X12_339 (dX12_draw 47 rfl) ?_
      obtain ⟨h14, H⟩ := H
      refine z_irem (pc := 90) C (hne := h14) (dX12_draw 48 rfl) ?_
      refine z_int (fun x15 hx15 => ?_)
      replace H := H x15 hx15
      refine z_istore_n (pc := 91) (i := 1) (lv2 := [(1, .int x15), (0, .ref a)]) C (dX12_draw 49 rfl) rfl (by decide) rfl ?_
      refine z_iconst (pc := 92) (v := 0) C (dX12_draw 50 rfl) (by decide) ?_
      refine z_istore_n (pc := 93) (i := 2) (lv2 := [(2, .int 0), (1, .int x15), (0, .ref a)]) C (dX12_draw 51 rfl) rfl (by decide) rfl ?_
      obtain ⟨n38, H⟩ := H
      refine z_sub [2, 1, 0] rfl ?_
      refine sX12_draw_L94 C hr hm hu1 hu2 (fun v25 m26 H => ?_) n38 x15 0 (pI m10 (gR m10 a 26) ((10 : Int32).toNatClampNeg) ((((75 * ((gI m10 (gR m10 a 26) ((10 : Int32).toNatClampNeg)).toInt64)) + 74) - ((75 * ((gI m10 (gR m10 a 26) ((10 : Int32).toNatClampNeg)).toInt64)) + 74) / 65537 * 65537).toInt32)) H
      refine z_iconst (pc := 130) (v := 0) C (dX12_draw 72 rfl) (by decide) ?_
      refine z_istore_n (pc := 131) (i := 3) (lv2 := [(3, .int 0), (0, .ref a), (2, .int v25)]) C (dX12_draw 73 rfl) rfl (by decide) rfl ?_
      obtain ⟨n37, H⟩ := H
      refine z_sub [1, 2, 0] rfl ?_
      refine sX12_draw_L132 C hr hm hu1 hu2 (fun m31 H => ?_) n37 0 m26 H
      refine z_aload_n (pc := 152) C (dX12_draw 84 rfl) rfl 0 rfl ?_
      refine z_getR (pc := 153) C zc12 h1 26 (by decide) rfl wf_X12_35 (dX12_draw 85 rfl) ?_
      refine z_bipush (pc := 156) (v := 8) C (dX12_draw 86 rfl) (by decide) ?_
      refine z_iload_n (pc := 158) C (dX12_draw 87 rfl) rfl 1 rfl ?_
      obtain ⟨h32, H⟩ := H
      obtain ⟨h33, H⟩ := H
      refine z_iastore (pc := 159) C h32 h33 (dX12_draw 88 rfl) ?_
      refine z_aload_n (pc := 160) C (dX12_draw 89 rfl) rfl 0 rfl ?_
      refine z_getR (pc := 161) C zc12 h1 26 (by decide) rfl wf_X12_35 (dX12_draw 90 rfl) ?_
      refine z_bipush (pc := 164) (v := 9) C (dX12_draw 91 rfl) (by decide) ?_
      refine z_iconst (pc := 166) (v := 0) C (dX12_draw 92 rfl) (by decide) ?_
      obtain ⟨h34, H⟩ := H
      refine z_iastore (pc := 167) C h32 h34 (dX12_draw 93 rfl) ?_
      refine z_aload_n (pc := 168) C (dX12_draw 94 rfl) rfl 0 rfl ?_
      refine z_aload_n (pc := 169) C (dX12_draw 95 rfl) rfl 0 rfl ?_
      refine z_getI (pc := 170) C zc12 h1 19 (by decide) rfl wf_X12_339 (dX12_draw 96 rfl) ?_
      refine zc_Vi (pc := 173) (rest := []) C YX12_good wl_X12_51 (kX12_good H) (by decide) h1 rfl (by decide) (dX12_draw 97 rfl) rfl hu1 hu2 (Nat.le_of_ble_eq_true rfl) rfl (fun r35 m36 H => ?_)
      exact z_iret (pc := 176) C hr hu1 hu2 (dX12_draw 98 rfl) ⟨rfl, _, rfl, H⟩
    · replace H := H.1 c11
      refine z_aload_n (pc := 44) C (dX12_draw 22 rfl) rfl 0 rfl ?_
      refine z_bipush (pc := 45) (v := 6) C (dX12_draw 23 rfl) (by decide) ?_
      refine zc_Vi (pc := 47) (rest := []) C YX12_refused wl_X12_47 (kX12_refused H) (by decide) h1 rfl (by decide) (dX12_draw 24 rfl) rfl hu1 hu2 (Nat.le_of_ble_eq_true rfl) rfl (fun r39 m40 H => ?_)
      exact z_iret (pc := 50) C hr hu1 hu2 (dX12_draw 25 rfl) ⟨rfl, _, rfl, H⟩
def wX12_tries_J42 (t : zT) (m : zM) (a_0 : Nat) (Q : Int32 → zM → Prop) : Prop := (tK t a_0 = 12 ∧ (wX12_refused t m a_0 5 (fun r10 m11 => (Q r10 m11))))
set_option maxHeartbeats 4000000 in
set_option maxRecDepth 20000 in
theorem sX12_tries_J42 {p : Program} {l : Launch} {e : Env} {s : State} {mt : MethodId} {args : Array Value} {below : List Frame} {meth : Method} {c : Code} {g : zG} {u : Nat × Nat} {mc ms : Nat} {t : zT} {m : zM} {a_0 : Nat} {Q : Int32 → zM → Prop} (C : zC p (zRm 1 mc ms) s mt args meth c g cX12_tries 2 yX12_tries.cls 1) (hr : meth.sig.returnType = (some .int)) (hm : meth.name = yX12_tries.name) (hu1 : u.1 ≤ mc) (hu2 : u.2 ≤ ms) (H : wX12_tries_J42 t m a_0 Q) : zW p l e (zRm 1 mc ms) s mt args below meth c g (MQ below (zQc g (zPi t Q)) args s mc ms (zFar g)) u 2 t m 42 [(0, .ref a_0)] [] := by
  unfold wX12_tries_J42 at H
  refine z_aload_n (pc := 42) C (dX12_tries 23 rfl) rfl 0 rfl ?_
  refine z_iconst (pc := 43) (v := 5) C (dX12_tries 24 rfl) (by decide) ?_
  obtain ⟨h9, H⟩ := H
  refine zc_Vi (pc := 44) (rest := []) C YX12_refused wl_X12_47 (kX12_refused H) (by decide) h9 rfl (by decide) (dX12_tries 25 rfl) rfl hu1 hu2 (Nat.le_of_ble_eq_true rfl) rfl (fun r10 m11 H => ?_)
  exact z_iret (pc := 47) C hr hu1 hu2 (dX12_tries 26 rfl) ⟨rfl, _, rfl, H⟩
def wX12_tries (t : zT) (m : zM) (a : Nat) (p1 : Int32) (Q : Int32 → zM → Prop) : Prop := (tK t a = 12 ∧ (wX12_isThing t (pI m a 0 0) a p1 (fun r2 m3 => ((r2 = 0 → (wX12_refused t m3 a 1 (fun r29 m30 => (Q r29 m30)))) ∧ (¬ r2 = 0 → (tK t (gR m3 a 3) = 11 ∧ (tK t (gR m3 (gR m3 a 3) 11) = 14 ∧ (vp_in p1 (tL t (gR m3 (gR m3 a 3) 11)) ∧ (((gI m3 (gR m3 (gR m3 a 3) 11) p1.toNatClampNeg) = 0 → (wX12_tries_J42 t m3 a Q)) ∧ (¬ (gI m3 (gR m3 (gR m3 a 3) 11) p1.toNatClampNeg) = 0 → (tK t (gR m3 a 26) = 14 ∧ (vp_in p1 (tL t (gR m3 a 26)) ∧ (((gI m3 (gR m3 a 26) p1.toNatClampNeg) = (-2) → (vp_in 8 (tL t (gR m3 a 26)) ∧ (((gI m3 (gR m3 a 26) ((8 : Int32).toNatClampNeg)) = (-2) → (wX12_refused t m3 a 6 (fun r27 m28 => (Q r27 m28)))) ∧ (¬ (gI m3 (gR m3 a 26) ((8 : Int32).toNatClampNeg)) = (-2) → (wX12_answerOf t m3 a (gI m3 (gR m3 a 26) ((8 : Int32).toNatClampNeg)) p1 (fun r17 m18 => (tK t (gR m18 a 26) = 14 ∧ (vp_in 9 (tL t (gR m18 a 26)) ∧ (tK t (gR m18 a 3) = 11 ∧ (tK t (gR m18 (gR m18 a 3) 11) = 14 ∧ (vp_in p1 (tL t (gR m18 (gR m18 a 3) 11)) ∧ (vp_in p1 (tL t (gR m18 a 26)) ∧ (wX12_good t (pI (pI m18 (gR m3 a 26) p1.toNatClampNeg r17) (gR m18 a 26) ((9 : Int32).toNatClampNeg) ((gI (pI m18 (gR m3 a 26) p1.toNatClampNeg r17) (gR m18 a 26) ((9 : Int32).toNatClampNeg)) + (gI (pI m18 (gR m3 a 26) p1.toNatClampNeg r17) (gR m18 (gR m18 a 3) 11) p1.toNatClampNeg))) a (gI (pI (pI m18 (gR m3 a 26) p1.toNatClampNeg r17) (gR m18 a 26) ((9 : Int32).toNatClampNeg) ((gI (pI m18 (gR m3 a 26) p1.toNatClampNeg r17) (gR m18 a 26) ((9 : Int32).toNatClampNeg)) + (gI (pI m18 (gR m3 a 26) p1.toNatClampNeg r17) (gR m18 (gR m18 a 3) 11) p1.toNatClampNeg))) (gR m18 a 26) p1.toNatClampNeg) (fun r25 m26 => (Q r25 m26))))))))))))))) ∧ (¬ (gI m3 (gR m3 a 26) p1.toNatClampNeg) = (-2) → (wX12_tries_J42 t m3 a Q)))))))))))))))
set_option maxHeartbeats 4000000 in
set_option maxRecDepth 20000 in
theorem kX12_tries {l : Launch} {t : zT} {m : zM} {a : Nat} {p1 : Int32} {Q : Int32 → zM → Prop} (H : wX12_tries t m a p1 Q) : zMet l yX12_tries cX12_tries 2 (some .int) 1 0 0 t m [.ref a, .int p1] (zPi t Q) := by
  refine zmet (by decide +kernel) (Nat.le_of_ble_eq_true rfl) ?_
  intro p e s mt args below meth c g C hr hm
  unfold wX12_tries at H
  have hu1 : ((0, 0) : Nat × Nat).1 ≤ 0 := Nat.le_refl 0
  have hu2 : ((0, 0) : Nat × Nat).2 ≤ 0 := Nat.le_refl 0
  refine z_aload_n (pc := 0) C (dX12_tries 0 rfl) rfl 0 rfl ?_
  refine z_iconst (pc := 1) (v := 0) C (dX12_tries 1 rfl) (by decide) ?_
  obtain ⟨h1, H⟩ := H
  refine z_putI (pc := 2) C zc12 h1 0 (by decide) rfl rfl wf_X12_41 (dX12_tries 2 rfl) ?_
  refine z_aload_n (pc := 5) C (dX12_tries 3 rfl) rfl 0 rfl ?_
  refine z_iload_n (pc := 6) C (dX12_tries 4 rfl) rfl 1 rfl ?_
  refine zc_Vi (pc := 7) (rest := []) C YX12_isThing wl_X12_364 (kX12_isThing H) (by decide) h1 rfl (by decide) (dX12_tries 5 rfl) rfl hu1 hu2 (Nat.le_of_ble_eq_true rfl) rfl (fun r2 m3 H => ?_)
  refine z_if_ne (pc := 10) (tgt := 19) C (dX12_tries 6 rfl) (by decide) (fun c4 => ?_) (fun c4 => ?_)
  · replace H := H.2 c4
    refine z_aload_n (pc := 19) C (dX12_tries 11 rfl) rfl 0 rfl ?_
    refine z_getR (pc := 20) C zc12 h1 3 (by decide) rfl wf_X12_314 (dX12_tries 12 rfl) ?_
    obtain ⟨h5, H⟩ := H
    refine z_getRN (pc := 23) C zc11 h5 11 (by decide) rfl wn_X12_300 (dX12_tries 13 rfl) ?_
    refine z_iload_n (pc := 26) C (dX12_tries 14 rfl) rfl 1 rfl ?_
    obtain ⟨h6, H⟩ := H
    obtain ⟨h7, H⟩ := H
    refine z_iaload (pc := 27) C h6 h7 (dX12_tries 15 rfl) ?_
    refine z_if_eq (pc := 28) (tgt := 42) C (dX12_tries 16 rfl) (by decide) (fun c8 => ?_) (fun c8 => ?_)
    · replace H := H.1 c8
      refine z_sub [0] rfl ?_
      exact sX12_tries_J42 C hr hm hu1 hu2 H
    · replace H := H.2 c8
      refine z_aload_n (pc := 31) C (dX12_tries 17 rfl) rfl 0 rfl ?_
      refine z_getR (pc := 32) C zc12 h1 26 (by decide) rfl wf_X12_35 (dX12_tries 18 rfl) ?_
      refine z_iload_n (pc := 35) C (dX12_tries 19 rfl) rfl 1 rfl ?_
      obtain ⟨h12, H⟩ := H
      obtain ⟨h13, H⟩ := H
      refine z_iaload (pc := 36) C h12 h13 (dX12_tries 20 rfl) ?_
      refine z_bipush (pc := 37) (v := (-2)) C (dX12_tries 21 rfl) (by decide) ?_
      refine z_icmp_eq (pc := 39) (tgt := 48) C (dX12_tries 22 rfl) (by decide) (fun c14 => ?_) (fun c14 => ?_)
      · replace H := H.1 c14
        refine z_aload_n (pc := 48) C (dX12_tries 27 rfl) rfl 0 rfl ?_
        refine z_getR (pc := 49) C zc12 h1 26 (by decide) rfl wf_X12_35 (dX12_tries 28 rfl) ?_
        refine z_bipush (pc := 52) (v := 8) C (dX12_tries 29 rfl) (by decide) ?_
        obtain ⟨h15, H⟩ := H
        refine z_iaload (pc := 54) C h12 h15 (dX12_tries 30 rfl) ?_
        refine z_bipush (pc := 55) (v := (-2)) C (dX12_tries 31 rfl) (by decide) ?_
        refine z_icmp_ne (pc := 57) (tgt := 67) C (dX12_tries 32 rfl) (by decide) (fun c16 => ?_) (fun c16 => ?_)
        · replace H := H.2 c16
          refine z_aload_n (pc := 67) C (dX12_tries 37 rfl) rfl 0 rfl ?_
          refine z_getR (pc := 68) C zc12 h1 26 (by decide) rfl wf_X12_35 (dX12_tries 38 rfl) ?_
          refine z_iload_n (pc := 71) C (dX12_tries 39 rfl) rfl 1 rfl ?_
          refine z_aload_n (pc := 72) C (dX12_tries 40 rfl) rfl 0 rfl ?_
          refine z_aload_n (pc := 73) C (dX12_tries 41 rfl) rfl 0 rfl ?_
          refine z_getR (pc := 74) C zc12 h1 26 (by decide) rfl wf_X12_35 (dX12_tries 42 rfl) ?_
          refine z_bipush (pc := 77) (v := 8) C (dX12_tries 43 rfl) (by decide) ?_
          refine z_iaload (pc := 79) C h12 h15 (dX12_tries 44 rfl) ?_
          refine z_iload_n (pc := 80) C (dX12_tries 45 rfl) rfl 1 rfl ?_
          refine zc_Vi (pc := 81) (rest := [.int p1, .ref (gR m3 a 26)]) C YX12_answerOf wl_X12_320 (kX12_answerOf H) (by decide) h1 rfl (by decide) (dX12_tries 46 rfl) rfl hu1 hu2 (Nat.le_of_ble_eq_true rfl) rfl (fun r17 m18 H => ?_)
          refine z_iastore (pc := 84) C h12 h13 (dX12_tries 47 rfl) ?_
          refine z_aload_n (pc := 85) C (dX12_tries 48 rfl) rfl 0 rfl ?_
          refine z_getR (pc := 86) C zc12 h1 26 (by decide) rfl wf_X12_35 (dX12_tries 49 rfl) ?_
          refine z_bipush (pc := 89) (v := 9) C (dX12_tries 50 rfl) (by decide) ?_
          refine z_dup2_11 (pc := 91) C (dX12_tries 51 rfl) rfl rfl ?_
          obtain ⟨h19, H⟩ := H
          obtain ⟨h20, H⟩ := H
          refine z_iaload (pc := 92) C h19 h20 (dX12_tries 52 rfl) ?_
          refine z_aload_n (pc := 93) C (dX12_tries 53 rfl) rfl 0 rfl ?_
          refine z_getR (pc := 94) C zc12 h1 3 (by decide) rfl wf_X12_314 (dX12_tries 54 rfl) ?_
          obtain ⟨h21, H⟩ := H
          refine z_getRN (pc := 97) C zc11 h21 11 (by decide) rfl wn_X12_300 (dX12_tries 55 rfl) ?_
          refine z_iload_n (pc := 100) C (dX12_tries 56 rfl) rfl 1 rfl ?_
          obtain ⟨h22, H⟩ := H
          obtain ⟨h23, H⟩ := H
          refine z_iaload (pc := 101) C h22 h23 (dX12_tries 57 rfl) ?_
          refine z_iadd (pc := 102) C (dX12_tries 58 rfl) ?_
          refine z_iastore (pc := 103) C h19 h20 (dX12_tries 59 rfl) ?_
          refine z_aload_n (pc := 104) C (dX12_tries 60 rfl) rfl 0 rfl ?_
          refine z_aload_n (pc := 105) C (dX12_tries 61 rfl) rfl 0 rfl ?_
          refine z_getR (pc := 106) C zc12 h1 26 (by decide) rfl wf_X12_35 (dX12_tries 62 rfl) ?_
          refine z_iload_n (pc := 109) C (dX12_tries 63 rfl) rfl 1 rfl ?_
          obtain ⟨h24, H⟩ := H
          refine z_iaload (pc := 110) C h19 h24 (dX12_tries 64 rfl) ?_
          refine zc_Vi (pc := 111) (rest := []) C YX12_good wl_X12_51 (kX12_good H) (by decide) h1 rfl (by decide) (dX12_tries 65 rfl) rfl hu1 hu2 (Nat.le_of_ble_eq_true rfl) rfl (fun r25 m26 H => ?_)
          exact z_iret (pc := 114) C hr hu1 hu2 (dX12_tries 66 rfl) ⟨rfl, _, rfl, H⟩
        · replace H := H.1 c16
          refine z_aload_n (pc := 60) C (dX12_tries 33 rfl) rfl 0 rfl ?_
          refine z_bipush (pc := 61) (v := 6) C (dX12_tries 34 rfl) (by decide) ?_
          refine zc_Vi (pc := 63) (rest := []) C YX12_refused wl_X12_47 (kX12_refused H) (by decide) h1 rfl (by decide) (dX12_tries 35 rfl) rfl hu1 hu2 (Nat.le_of_ble_eq_true rfl) rfl (fun r27 m28 H => ?_)
          exact z_iret (pc := 66) C hr hu1 hu2 (dX12_tries 36 rfl) ⟨rfl, _, rfl, H⟩
      · replace H := H.2 c14
        refine z_sub [0] rfl ?_
        exact sX12_tries_J42 C hr hm hu1 hu2 H
  · replace H := H.1 c4
    refine z_aload_n (pc := 13) C (dX12_tries 7 rfl) rfl 0 rfl ?_
    refine z_iconst (pc := 14) (v := 1) C (dX12_tries 8 rfl) (by decide) ?_
    refine zc_Vi (pc := 15) (rest := []) C YX12_refused wl_X12_47 (kX12_refused H) (by decide) h1 rfl (by decide) (dX12_tries 9 rfl) rfl hu1 hu2 (Nat.le_of_ble_eq_true rfl) rfl (fun r29 m30 H => ?_)
    exact z_iret (pc := 18) C hr hu1 hu2 (dX12_tries 10 rfl) ⟨rfl, _, rfl, H⟩
def wX12_fact (t : zT) (m : zM) (a : Nat) (p1 : Int32) (Q : Int32 → zM → Prop) : Prop := (tK t a = 12 ∧ (wX12_isThing t (pI m a 0 0) a p1 (fun r2 m3 => ((r2 = 0 → (wX12_refused t m3 a 1 (fun r5 m6 => (Q r5 m6)))) ∧ (¬ r2 = 0 → (tK t (gR m3 a 26) = 14 ∧ (vp_in p1 (tL t (gR m3 a 26)) ∧ (wX12_good t m3 a (gI m3 (gR m3 a 26) p1.toNatClampNeg) (fun r9 m10 => (Q r9 m10))))))))))
set_option maxHeartbeats 4000000 in
set_option maxRecDepth 20000 in
theorem kX12_fact {l : Launch} {t : zT} {m : zM} {a : Nat} {p1 : Int32} {Q : Int32 → zM → Prop} (H : wX12_fact t m a p1 Q) : zMet l yX12_fact cX12_fact 2 (some .int) 1 0 0 t m [.ref a, .int p1] (zPi t Q) := by
  refine zmet (by decide +kernel) (Nat.le_of_ble_eq_true rfl) ?_
  intro p e s mt args below meth c g C hr hm
  unfold wX12_fact at H
  have hu1 : ((0, 0) : Nat × Nat).1 ≤ 0 := Nat.le_refl 0
  have hu2 : ((0, 0) : Nat × Nat).2 ≤ 0 := Nat.le_refl 0
  refine z_aload_n (pc := 0) C (dX12_fact 0 rfl) rfl 0 rfl ?_
  refine z_iconst (pc := 1) (v := 0) C (dX12_fact 1 rfl) (by decide) ?_
  obtain ⟨h1, H⟩ := H
  refine z_putI (pc := 2) C zc12 h1 0 (by decide) rfl rfl wf_X12_41 (dX12_fact 2 rfl) ?_
  refine z_aload_n (pc := 5) C (dX12_fact 3 rfl) rfl 0 rfl ?_
  refine z_iload_n (pc := 6) C (dX12_fact 4 rfl) rfl 1 rfl ?_
  refine zc_Vi (pc := 7) (rest := []) C YX12_isThing wl_X12_364 (kX12_isThing H) (by decide) h1 rfl (by decide) (dX12_fact 5 rfl) rfl hu1 hu2 (Nat.le_of_ble_eq_true rfl) rfl (fun r2 m3 H => ?_)
  refine z_if_eq (pc := 10) (tgt := 26) C (dX12_fact 6 rfl) (by decide) (fun c4 => ?_) (fun c4 => ?_)
  · replace H := H.1 c4
    refine z_aload_n (pc := 26) C (dX12_fact 14 rfl) rfl 0 rfl ?_
    refine z_iconst (pc := 27) (v := 1) C (dX12_fact 15 rfl) (by decide) ?_
    refine zc_Vi (pc := 28) (rest := []) C YX12_refused wl_X12_47 (kX12_refused H) (by decide) h1 rfl (by decide) (dX12_fact 16 rfl) rfl hu1 hu2 (Nat.le_of_ble_eq_true rfl) rfl (fun r5 m6 H => ?_)
    exact z_iret (pc := 31) C hr hu1 hu2 (dX12_fact 17 rfl) ⟨rfl, _, rfl, H⟩
  · replace H := H.2 c4
    refine z_aload_n (pc := 13) C (dX12_fact 7 rfl) rfl 0 rfl ?_
    refine z_aload_n (pc := 14) C (dX12_fact 8 rfl) rfl 0 rfl ?_
    refine z_getR (pc := 15) C zc12 h1 26 (by decide) rfl wf_X12_35 (dX12_fact 9 rfl) ?_
    refine z_iload_n (pc := 18) C (dX12_fact 10 rfl) rfl 1 rfl ?_
    obtain ⟨h7, H⟩ := H
    obtain ⟨h8, H⟩ := H
    refine z_iaload (pc := 19) C h7 h8 (dX12_fact 11 rfl) ?_
    refine zc_Vi (pc := 20) (rest := []) C YX12_good wl_X12_51 (kX12_good H) (by decide) h1 rfl (by decide) (dX12_fact 12 rfl) rfl hu1 hu2 (Nat.le_of_ble_eq_true rfl) rfl (fun r9 m10 H => ?_)
    refine z_goto (pc := 23) (tgt := 31) C (dX12_fact 13 rfl) (by decide) ?_
    exact z_iret (pc := 31) C hr hu1 hu2 (dX12_fact 17 rfl) ⟨rfl, _, rfl, H⟩
def wX12_spent (t : zT) (m : zM) (a : Nat) (Q : Int32 → zM → Prop) : Prop := (tK t a = 12 ∧ (((gR m a 3) = 0 → (wX12_refused t (pI m a 0 0) a 1 (fun r3 m4 => (Q r3 m4)))) ∧ (¬ (gR m a 3) = 0 → (tK t (gR m a 26) = 14 ∧ (vp_in 9 (tL t (gR m a 26)) ∧ (wX12_good t (pI m a 0 0) a (gI (pI m a 0 0) (gR m a 26) ((9 : Int32).toNatClampNeg)) (fun r7 m8 => (Q r7 m8))))))))
set_option maxHeartbeats 4000000 in
set_option maxRecDepth 20000 in
theorem kX12_spent {l : Launch} {t : zT} {m : zM} {a : Nat} {Q : Int32 → zM → Prop} (H : wX12_spent t m a Q) : zMet l yX12_spent cX12_spent 1 (some .int) 1 0 0 t m [.ref a] (zPi t Q) := by
  refine zmet (by decide +kernel) (Nat.le_of_ble_eq_true rfl) ?_
  intro p e s mt args below meth c g C hr hm
  unfold wX12_spent at H
  have hu1 : ((0, 0) : Nat × Nat).1 ≤ 0 := Nat.le_refl 0
  have hu2 : ((0, 0) : Nat × Nat).2 ≤ 0 := Nat.le_refl 0
  refine z_aload_n (pc := 0) C (dX12_spent 0 rfl) rfl 0 rfl ?_
  refine z_iconst (pc := 1) (v := 0) C (dX12_spent 1 rfl) (by decide) ?_
  obtain ⟨h1, H⟩ := H
  refine z_putI (pc := 2) C zc12 h1 0 (by decide) rfl rfl wf_X12_41 (dX12_spent 2 rfl) ?_
  refine z_aload_n (pc := 5) C (dX12_spent 3 rfl) rfl 0 rfl ?_
  refine z_getR (pc := 6) C zc12 h1 3 (by decide) rfl wf_X12_314 (dX12_spent 4 rfl) ?_
  refine z_ifnonnull (pc := 9) (tgt := 20) C (dX12_spent 5 rfl) (by decide) (fun c2 => ?_) (fun c2 => ?_)
  · replace H := H.1 c2
    refine z_aload_n (pc := 12) C (dX12_spent 6 rfl) rfl 0 rfl ?_
    refine z_iconst (pc := 13) (v := 1) C (dX12_spent 7 rfl) (by decide) ?_
    refine zc_Vi (pc := 14) (rest := []) C YX12_refused wl_X12_47 (kX12_refused H) (by decide) h1 rfl (by decide) (dX12_spent 8 rfl) rfl hu1 hu2 (Nat.le_of_ble_eq_true rfl) rfl (fun r3 m4 H => ?_)
    refine z_goto (pc := 17) (tgt := 31) C (dX12_spent 9 rfl) (by decide) ?_
    exact z_iret (pc := 31) C hr hu1 hu2 (dX12_spent 16 rfl) ⟨rfl, _, rfl, H⟩
  · replace H := H.2 c2
    refine z_aload_n (pc := 20) C (dX12_spent 10 rfl) rfl 0 rfl ?_
    refine z_aload_n (pc := 21) C (dX12_spent 11 rfl) rfl 0 rfl ?_
    refine z_getR (pc := 22) C zc12 h1 26 (by decide) rfl wf_X12_35 (dX12_spent 12 rfl) ?_
    refine z_bipush (pc := 25) (v := 9) C (dX12_spent 13 rfl) (by decide) ?_
    obtain ⟨h5, H⟩ := H
    obtain ⟨h6, H⟩ := H
    refine z_iaload (pc := 27) C h5 h6 (dX12_spent 14 rfl) ?_
    refine zc_Vi (pc := 28) (rest := []) C YX12_good wl_X12_51 (kX12_good H) (by decide) h1 rfl (by decide) (dX12_spent 15 rfl) rfl hu1 hu2 (Nat.le_of_ble_eq_true rfl) rfl (fun r7 m8 H => ?_)
    exact z_iret (pc := 31) C hr hu1 hu2 (dX12_spent 16 rfl) ⟨rfl, _, rfl, H⟩
def wX12_mark_L34 (t : zT) (a_0 : Nat) (Q : Int32 → zM → Prop) (k66 : zM → Prop) : Nat → Int32 → zM → Prop
  | 0, _, _ => False
  | n + 1, x_1, m => (((11 : Int32) ≤ x_1 → (k66 m)) ∧ (¬ (11 : Int32) ≤ x_1 → (tK t a_0 = 12 ∧ (tK t (gR m a_0 26) = 14 ∧ (vp_in x_1 (tL t (gR m a_0 26)) ∧ (tK t (gR m a_0 27) = 14 ∧ (vp_in (((11 : Int32) * (gI m a_0 28)) + x_1) (tL t (gR m a_0 27)) ∧ (wX12_mark_L34 t a_0 Q k66 n (x_1 + 1) (pI m (gR m a_0 27) ((((11 : Int32) * (gI m a_0 28)) + x_1).toNatClampNeg) (gI m (gR m a_0 26) x_1.toNatClampNeg))))))))))
set_option maxHeartbeats 4000000 in
set_option maxRecDepth 20000 in
theorem sX12_mark_L34 {p : Program} {l : Launch} {e : Env} {s : State} {mt : MethodId} {args : Array Value} {below : List Frame} {meth : Method} {c : Code} {g : zG} {u : Nat × Nat} {mc ms : Nat} {t : zT} {a_0 : Nat} {Q : Int32 → zM → Prop} {k66 : zM → Prop} (C : zC p (zRm 1 mc ms) s mt args meth c g cX12_mark 2 yX12_mark.cls 1) (hr : meth.sig.returnType = (some .int)) (hm : meth.name = yX12_mark.name) (hu1 : u.1 ≤ mc) (hu2 : u.2 ≤ ms)
    (K66 : ∀ (m : zM), k66 m → zW p l e (zRm 1 mc ms) s mt args below meth c g (MQ below (zQc g (zPi t Q)) args s mc ms (zFar g)) u 2 t m 66 [(0, .ref a_0)] []) : ∀ (n : Nat) (x_1 : Int32) (m : zM), wX12_mark_L34 t a_0 Q k66 n x_1 m → zW p l e (zRm 1 mc ms) s mt args below meth c g (MQ below (zQc g (zPi t Q)) args s mc ms (zFar g)) u 2 t m 34 [(0, .ref a_0), (1, .int x_1)] [] := by
  intro n
  induction n with
  | zero => intro x_1 m H; exact H.elim
  | succ n ih =>
    intro x_1 m H
    simp only [wX12_mark_L34] at H
    refine z_iload_n (pc := 34) C (dX12_mark 20 rfl) rfl 1 rfl ?_
    refine z_bipush (pc := 35) (v := 11) C (dX12_mark 21 rfl) (by decide) ?_
    refine z_icmp_ge (pc := 37) (tgt := 66) C (dX12_mark 22 rfl) (by decide) (fun c6 => ?_) (fun c6 => ?_)
    · replace H := H.1 c6
      refine z_sub [0] rfl ?_
      exact K66 m H
    · replace H := H.2 c6
      refine z_aload_n (pc := 40) C (dX12_mark 23 rfl) rfl 0 rfl ?_
      obtain ⟨h7, H⟩ := H
      refine z_getR (pc := 41) C zc12 h7 27 (by decide) rfl wf_X12_38 (dX12_mark 24 rfl) ?_
      refine z_bipush (pc := 44) (v := 11) C (dX12_mark 25 rfl) (by decide) ?_
      refine z_aload_n (pc := 46) C (dX12_mark 26 rfl) rfl 0 rfl ?_
      refine z_getI (pc := 47) C zc12 h7 28 (by decide) rfl wf_X12_317 (dX12_mark 27 rfl) ?_
      refine z_imul (pc := 50) C (dX12_mark 28 rfl) ?_
      refine z_iload_n (pc := 51) C (dX12_mark 29 rfl) rfl 1 rfl ?_
      refine z_iadd (pc := 52) C (dX12_mark 30 rfl) ?_
      refine z_aload_n (pc := 53) C (dX12_mark 31 rfl) rfl 0 rfl ?_
      refine z_getR (pc := 54) C zc12 h7 26 (by decide) rfl wf_X12_35 (dX12_mark 32 rfl) ?_
      refine z_iload_n (pc := 57) C (dX12_mark 33 rfl) rfl 1 rfl ?_
      obtain ⟨h8, H⟩ := H
      obtain ⟨h9, H⟩ := H
      refine z_iaload (pc := 58) C h8 h9 (dX12_mark 34 rfl) ?_
      obtain ⟨h10, H⟩ := H
      obtain ⟨h11, H⟩ := H
      refine z_iastore (pc := 59) C h10 h11 (dX12_mark 35 rfl) ?_
      refine z_iinc (pc := 60) (i := 1) (v := x_1 + 1) (lv2 := [(1, .int (x_1 + 1)), (0, .ref a_0)]) C (dX12_mark 36 rfl) 1 rfl (by rfl) (by decide) rfl ?_
      refine z_goto (pc := 63) (tgt := 34) C (dX12_mark 37 rfl) (by decide) ?_
      refine z_sub [1, 0] rfl ?_
      exact ih (x_1 + 1) (pI m (gR m a_0 27) ((((11 : Int32) * (gI m a_0 28)) + x_1).toNatClampNeg) (gI m (gR m a_0 26) x_1.toNatClampNeg)) H
def wX12_mark (t : zT) (m : zM) (a : Nat) (Q : Int32 → zM → Prop) : Prop := (tK t a = 12 ∧ (((gR m a 3) = 0 → (wX12_refused t (pI m a 0 0) a 1 (fun r3 m4 => (Q r3 m4)))) ∧ (¬ (gR m a 3) = 0 → (((gI (pI m a 0 0) a 28) = 3 → (wX12_refused t (pI m a 0 0) a 3 (fun r16 m17 => (Q r16 m17)))) ∧ (¬ (gI (pI m a 0 0) a 28) = 3 → (∃ n15, wX12_mark_L34 t a Q (fun m12 => (wX12_good t (pI m12 a 28 ((gI m12 a 28) + (1 : Int32))) a ((gI (pI m12 a 28 ((gI m12 a 28) + (1 : Int32))) a 28) - (1 : Int32)) (fun r13 m14 => (Q r13 m14)))) n15 0 (pI m a 0 0)))))))
set_option maxHeartbeats 4000000 in
set_option maxRecDepth 20000 in
theorem kX12_mark {l : Launch} {t : zT} {m : zM} {a : Nat} {Q : Int32 → zM → Prop} (H : wX12_mark t m a Q) : zMet l yX12_mark cX12_mark 2 (some .int) 1 0 0 t m [.ref a] (zPi t Q) := by
  refine zmet (by decide +kernel) (Nat.le_of_ble_eq_true rfl) ?_
  intro p e s mt args below meth c g C hr hm
  unfold wX12_mark at H
  have hu1 : ((0, 0) : Nat × Nat).1 ≤ 0 := Nat.le_refl 0
  have hu2 : ((0, 0) : Nat × Nat).2 ≤ 0 := Nat.le_refl 0
  refine z_aload_n (pc := 0) C (dX12_mark 0 rfl) rfl 0 rfl ?_
  refine z_iconst (pc := 1) (v := 0) C (dX12_mark 1 rfl) (by decide) ?_
  obtain ⟨h1, H⟩ := H
  refine z_putI (pc := 2) C zc12 h1 0 (by decide) rfl rfl wf_X12_41 (dX12_mark 2 rfl) ?_
  refine z_aload_n (pc := 5) C (dX12_mark 3 rfl) rfl 0 rfl ?_
  refine z_getR (pc := 6) C zc12 h1 3 (by decide) rfl wf_X12_314 (dX12_mark 4 rfl) ?_
  refine z_ifnonnull (pc := 9) (tgt := 18) C (dX12_mark 5 rfl) (by decide) (fun c2 => ?_) (fun c2 => ?_)
  · replace H := H.1 c2
    refine z_aload_n (pc := 12) C (dX12_mark 6 rfl) rfl 0 rfl ?_
    refine z_iconst (pc := 13) (v := 1) C (dX12_mark 7 rfl) (by decide) ?_
    refine zc_Vi (pc := 14) (rest := []) C YX12_refused wl_X12_47 (kX12_refused H) (by decide) h1 rfl (by decide) (dX12_mark 8 rfl) rfl hu1 hu2 (Nat.le_of_ble_eq_true rfl) rfl (fun r3 m4 H => ?_)
    exact z_iret (pc := 17) C hr hu1 hu2 (dX12_mark 9 rfl) ⟨rfl, _, rfl, H⟩
  · replace H := H.2 c2
    refine z_aload_n (pc := 18) C (dX12_mark 10 rfl) rfl 0 rfl ?_
    refine z_getI (pc := 19) C zc12 h1 28 (by decide) rfl wf_X12_317 (dX12_mark 11 rfl) ?_
    refine z_iconst (pc := 22) (v := 3) C (dX12_mark 12 rfl) (by decide) ?_
    refine z_icmp_ne (pc := 23) (tgt := 32) C (dX12_mark 13 rfl) (by decide) (fun c5 => ?_) (fun c5 => ?_)
    · replace H := H.2 c5
      refine z_iconst (pc := 32) (v := 0) C (dX12_mark 18 rfl) (by decide) ?_
      refine z_istore_n (pc := 33) (i := 1) (lv2 := [(1, .int 0), (0, .ref a)]) C (dX12_mark 19 rfl) rfl (by decide) rfl ?_
      obtain ⟨n15, H⟩ := H
      refine z_sub [1, 0] rfl ?_
      refine sX12_mark_L34 C hr hm hu1 hu2 (fun m12 H => ?_) n15 0 (pI m a 0 0) H
      refine z_aload_n (pc := 66) C (dX12_mark 38 rfl) rfl 0 rfl ?_
      refine z_dup (pc := 67) C (dX12_mark 39 rfl) rfl ?_
      refine z_getI (pc := 68) C zc12 h1 28 (by decide) rfl wf_X12_317 (dX12_mark 40 rfl) ?_
      refine z_iconst (pc := 71) (v := 1) C (dX12_mark 41 rfl) (by decide) ?_
      refine z_iadd (pc := 72) C (dX12_mark 42 rfl) ?_
      refine z_putI (pc := 73) C zc12 h1 28 (by decide) rfl rfl wf_X12_317 (dX12_mark 43 rfl) ?_
      refine z_aload_n (pc := 76) C (dX12_mark 44 rfl) rfl 0 rfl ?_
      refine z_aload_n (pc := 77) C (dX12_mark 45 rfl) rfl 0 rfl ?_
      refine z_getI (pc := 78) C zc12 h1 28 (by decide) rfl wf_X12_317 (dX12_mark 46 rfl) ?_
      refine z_iconst (pc := 81) (v := 1) C (dX12_mark 47 rfl) (by decide) ?_
      refine z_isub (pc := 82) C (dX12_mark 48 rfl) ?_
      refine zc_Vi (pc := 83) (rest := []) C YX12_good wl_X12_51 (kX12_good H) (by decide) h1 rfl (by decide) (dX12_mark 49 rfl) rfl hu1 hu2 (Nat.le_of_ble_eq_true rfl) rfl (fun r13 m14 H => ?_)
      exact z_iret (pc := 86) C hr hu1 hu2 (dX12_mark 50 rfl) ⟨rfl, _, rfl, H⟩
    · replace H := H.1 c5
      refine z_aload_n (pc := 26) C (dX12_mark 14 rfl) rfl 0 rfl ?_
      refine z_iconst (pc := 27) (v := 3) C (dX12_mark 15 rfl) (by decide) ?_
      refine zc_Vi (pc := 28) (rest := []) C YX12_refused wl_X12_47 (kX12_refused H) (by decide) h1 rfl (by decide) (dX12_mark 16 rfl) rfl hu1 hu2 (Nat.le_of_ble_eq_true rfl) rfl (fun r16 m17 H => ?_)
      exact z_iret (pc := 31) C hr hu1 hu2 (dX12_mark 17 rfl) ⟨rfl, _, rfl, H⟩
def wX12_back_J24 (t : zT) (m : zM) (a_0 : Nat) (Q : Int32 → zM → Prop) : Prop := (tK t a_0 = 12 ∧ (wX12_denied t m a_0 1 (fun r4 m5 => ((r4 = 0 ∨ r4 = 1) ∧ (Q r4 m5)))))
set_option maxHeartbeats 4000000 in
set_option maxRecDepth 20000 in
theorem sX12_back_J24 {p : Program} {l : Launch} {e : Env} {s : State} {mt : MethodId} {args : Array Value} {below : List Frame} {meth : Method} {c : Code} {g : zG} {u : Nat × Nat} {mc ms : Nat} {t : zT} {m : zM} {a_0 : Nat} {Q : Int32 → zM → Prop} (C : zC p (zRm 2 mc ms) s mt args meth c g cX12_back 3 yX12_back.cls 2) (hr : meth.sig.returnType = (some .boolean)) (hm : meth.name = yX12_back.name) (hu1 : u.1 ≤ mc) (hu2 : u.2 ≤ ms) (H : wX12_back_J24 t m a_0 Q) : zW p l e (zRm 2 mc ms) s mt args below meth c g (MQ below (zQc g (zPi t Q)) args s mc ms (zFar g)) u 3 t m 24 [(0, .ref a_0)] [] := by
  unfold wX12_back_J24 at H
  refine z_aload_n (pc := 24) C (dX12_back 12 rfl) rfl 0 rfl ?_
  refine z_iconst (pc := 25) (v := 1) C (dX12_back 13 rfl) (by decide) ?_
  obtain ⟨h3, H⟩ := H
  refine zc_Vi (pc := 26) (rest := []) C YX12_denied wl_X12_479 (kX12_denied H) (by decide) h3 rfl (by decide) (dX12_back 14 rfl) rfl hu1 hu2 (Nat.le_of_ble_eq_true rfl) rfl (fun r4 m5 H => ?_)
  obtain ⟨h6, H⟩ := H
  exact z_zret (pc := 29) C hr h6 hu1 hu2 (dX12_back 15 rfl) ⟨rfl, _, rfl, H⟩
def wX12_back_L32 (t : zT) (a_0 : Nat) (x_1 : Int32) (Q : Int32 → zM → Prop) (k61 : zM → Prop) : Nat → Int32 → zM → Prop
  | 0, _, _ => False
  | n + 1, x_2, m => (((11 : Int32) ≤ x_2 → (k61 m)) ∧ (¬ (11 : Int32) ≤ x_2 → (tK t a_0 = 12 ∧ (tK t (gR m a_0 27) = 14 ∧ (vp_in (((11 : Int32) * x_1) + x_2) (tL t (gR m a_0 27)) ∧ (tK t (gR m a_0 26) = 14 ∧ (vp_in x_2 (tL t (gR m a_0 26)) ∧ (wX12_back_L32 t a_0 x_1 Q k61 n (x_2 + 1) (pI m (gR m a_0 26) x_2.toNatClampNeg (gI m (gR m a_0 27) ((((11 : Int32) * x_1) + x_2).toNatClampNeg)))))))))))
set_option maxHeartbeats 4000000 in
set_option maxRecDepth 20000 in
theorem sX12_back_L32 {p : Program} {l : Launch} {e : Env} {s : State} {mt : MethodId} {args : Array Value} {below : List Frame} {meth : Method} {c : Code} {g : zG} {u : Nat × Nat} {mc ms : Nat} {t : zT} {a_0 : Nat} {x_1 : Int32} {Q : Int32 → zM → Prop} {k61 : zM → Prop} (C : zC p (zRm 2 mc ms) s mt args meth c g cX12_back 3 yX12_back.cls 2) (hr : meth.sig.returnType = (some .boolean)) (hm : meth.name = yX12_back.name) (hu1 : u.1 ≤ mc) (hu2 : u.2 ≤ ms)
    (K61 : ∀ (m : zM), k61 m → zW p l e (zRm 2 mc ms) s mt args below meth c g (MQ below (zQc g (zPi t Q)) args s mc ms (zFar g)) u 3 t m 61 [(0, .ref a_0)] []) : ∀ (n : Nat) (x_2 : Int32) (m : zM), wX12_back_L32 t a_0 x_1 Q k61 n x_2 m → zW p l e (zRm 2 mc ms) s mt args below meth c g (MQ below (zQc g (zPi t Q)) args s mc ms (zFar g)) u 3 t m 32 [(0, .ref a_0), (1, .int x_1), (2, .int x_2)] [] := by
  intro n
  induction n with
  | zero => intro x_2 m H; exact H.elim
  | succ n ih =>
    intro x_2 m H
    simp only [wX12_back_L32] at H
    refine z_iload_n (pc := 32) C (dX12_back 18 rfl) rfl 2 rfl ?_
    refine z_bipush (pc := 33) (v := 11) C (dX12_back 19 rfl) (by decide) ?_
    refine z_icmp_ge (pc := 35) (tgt := 61) C (dX12_back 20 rfl) (by decide) (fun c9 => ?_) (fun c9 => ?_)
    · replace H := H.1 c9
      refine z_sub [0] rfl ?_
      exact K61 m H
    · replace H := H.2 c9
      refine z_aload_n (pc := 38) C (dX12_back 21 rfl) rfl 0 rfl ?_
      obtain ⟨h10, H⟩ := H
      refine z_getR (pc := 39) C zc12 h10 26 (by decide) rfl wf_X12_35 (dX12_back 22 rfl) ?_
      refine z_iload_n (pc := 42) C (dX12_back 23 rfl) rfl 2 rfl ?_
      refine z_aload_n (pc := 43) C (dX12_back 24 rfl) rfl 0 rfl ?_
      refine z_getR (pc := 44) C zc12 h10 27 (by decide) rfl wf_X12_38 (dX12_back 25 rfl) ?_
      refine z_bipush (pc := 47) (v := 11) C (dX12_back 26 rfl) (by decide) ?_
      refine z_iload_n (pc := 49) C (dX12_back 27 rfl) rfl 1 rfl ?_
      refine z_imul (pc := 50) C (dX12_back 28 rfl) ?_
      refine z_iload_n (pc := 51) C (dX12_back 29 rfl) rfl 2 rfl ?_
      refine z_iadd (pc := 52) C (dX12_back 30 rfl) ?_
      obtain ⟨h11, H⟩ := H
      obtain ⟨h12, H⟩ := H
      refine z_iaload (pc := 53) C h11 h12 (dX12_back 31 rfl) ?_
      obtain ⟨h13, H⟩ := H
      obtain ⟨h14, H⟩ := H
      refine z_iastore (pc := 54) C h13 h14 (dX12_back 32 rfl) ?_
      refine z_iinc (pc := 55) (i := 2) (v := x_2 + 1) (lv2 := [(2, .int (x_2 + 1)), (0, .ref a_0), (1, .int x_1)]) C (dX12_back 33 rfl) 2 rfl (by rfl) (by decide) rfl ?_
      refine z_goto (pc := 58) (tgt := 32) C (dX12_back 34 rfl) (by decide) ?_
      refine z_sub [1, 2, 0] rfl ?_
      exact ih (x_2 + 1) (pI m (gR m a_0 26) x_2.toNatClampNeg (gI m (gR m a_0 27) ((((11 : Int32) * x_1) + x_2).toNatClampNeg))) H
def wX12_back (t : zT) (m : zM) (a : Nat) (p1 : Int32) (Q : Int32 → zM → Prop) : Prop := (tK t a = 12 ∧ (((gR m a 3) = 0 → (wX12_back_J24 t (pI m a 0 0) a Q)) ∧ (¬ (gR m a 3) = 0 → ((p1 < 0 → (wX12_back_J24 t (pI m a 0 0) a Q)) ∧ (¬ p1 < 0 → ((p1 < (gI (pI m a 0 0) a 28) → (∃ n19, wX12_back_L32 t a p1 Q (fun m15 => (wX12_granted t m15 a (fun r16 m17 => ((r16 = 0 ∨ r16 = 1) ∧ (Q r16 m17))))) n19 0 (pI m a 0 0))) ∧ (¬ p1 < (gI (pI m a 0 0) a 28) → (wX12_back_J24 t (pI m a 0 0) a Q))))))))
set_option maxHeartbeats 4000000 in
set_option maxRecDepth 20000 in
theorem kX12_back {l : Launch} {t : zT} {m : zM} {a : Nat} {p1 : Int32} {Q : Int32 → zM → Prop} (H : wX12_back t m a p1 Q) : zMet l yX12_back cX12_back 3 (some .boolean) 2 0 0 t m [.ref a, .int p1] (zPi t Q) := by
  refine zmet (by decide +kernel) (Nat.le_of_ble_eq_true rfl) ?_
  intro p e s mt args below meth c g C hr hm
  unfold wX12_back at H
  have hu1 : ((0, 0) : Nat × Nat).1 ≤ 0 := Nat.le_refl 0
  have hu2 : ((0, 0) : Nat × Nat).2 ≤ 0 := Nat.le_refl 0
  refine z_aload_n (pc := 0) C (dX12_back 0 rfl) rfl 0 rfl ?_
  refine z_iconst (pc := 1) (v := 0) C (dX12_back 1 rfl) (by decide) ?_
  obtain ⟨h1, H⟩ := H
  refine z_putI (pc := 2) C zc12 h1 0 (by decide) rfl rfl wf_X12_41 (dX12_back 2 rfl) ?_
  refine z_aload_n (pc := 5) C (dX12_back 3 rfl) rfl 0 rfl ?_
  refine z_getR (pc := 6) C zc12 h1 3 (by decide) rfl wf_X12_314 (dX12_back 4 rfl) ?_
  refine z_ifnull (pc := 9) (tgt := 24) C (dX12_back 5 rfl) (by decide) (fun c2 => ?_) (fun c2 => ?_)
  · replace H := H.1 c2
    refine z_sub [0] rfl ?_
    exact sX12_back_J24 C hr hm hu1 hu2 H
  · replace H := H.2 c2
    refine z_iload_n (pc := 12) C (dX12_back 6 rfl) rfl 1 rfl ?_
    refine z_if_lt (pc := 13) (tgt := 24) C (dX12_back 7 rfl) (by decide) (fun c7 => ?_) (fun c7 => ?_)
    · replace H := H.1 c7
      refine z_sub [0] rfl ?_
      exact sX12_back_J24 C hr hm hu1 hu2 H
    · replace H := H.2 c7
      refine z_iload_n (pc := 16) C (dX12_back 8 rfl) rfl 1 rfl ?_
      refine z_aload_n (pc := 17) C (dX12_back 9 rfl) rfl 0 rfl ?_
      refine z_getI (pc := 18) C zc12 h1 28 (by decide) rfl wf_X12_317 (dX12_back 10 rfl) ?_
      refine z_icmp_lt (pc := 21) (tgt := 30) C (dX12_back 11 rfl) (by decide) (fun c8 => ?_) (fun c8 => ?_)
      · replace H := H.1 c8
        refine z_iconst (pc := 30) (v := 0) C (dX12_back 16 rfl) (by decide) ?_
        refine z_istore_n (pc := 31) (i := 2) (lv2 := [(2, .int 0), (0, .ref a), (1, .int p1)]) C (dX12_back 17 rfl) rfl (by decide) rfl ?_
        obtain ⟨n19, H⟩ := H
        refine z_sub [1, 2, 0] rfl ?_
        refine sX12_back_L32 C hr hm hu1 hu2 (fun m15 H => ?_) n19 0 (pI m a 0 0) H
        refine z_aload_n (pc := 61) C (dX12_back 35 rfl) rfl 0 rfl ?_
        refine zc_Vi (pc := 62) (rest := []) C YX12_granted wl_X12_483 (kX12_granted H) (by decide) h1 rfl (by decide) (dX12_back 36 rfl) rfl hu1 hu2 (Nat.le_of_ble_eq_true rfl) rfl (fun r16 m17 H => ?_)
        obtain ⟨h18, H⟩ := H
        exact z_zret (pc := 65) C hr h18 hu1 hu2 (dX12_back 37 rfl) ⟨rfl, _, rfl, H⟩
      · replace H := H.2 c8
        refine z_sub [0] rfl ?_
        exact sX12_back_J24 C hr hm hu1 hu2 H
def wX12_saying_J22 (t : zT) (m : zM) (a_0 : Nat) (Q : Int32 → zM → Prop) : Prop := (tK t a_0 = 12 ∧ (wX12_refused t m a_0 1 (fun r6 m7 => (Q r6 m7))))
set_option maxHeartbeats 4000000 in
set_option maxRecDepth 20000 in
theorem sX12_saying_J22 {p : Program} {l : Launch} {e : Env} {s : State} {mt : MethodId} {args : Array Value} {below : List Frame} {meth : Method} {c : Code} {g : zG} {u : Nat × Nat} {mc ms : Nat} {t : zT} {m : zM} {a_0 : Nat} {Q : Int32 → zM → Prop} (C : zC p (zRm 1 mc ms) s mt args meth c g cX12_saying 3 yX12_saying.cls 1) (hr : meth.sig.returnType = (some .int)) (hm : meth.name = yX12_saying.name) (hu1 : u.1 ≤ mc) (hu2 : u.2 ≤ ms) (H : wX12_saying_J22 t m a_0 Q) : zW p l e (zRm 1 mc ms) s mt args below meth c g (MQ below (zQc g (zPi t Q)) args s mc ms (zFar g)) u 3 t m 22 [(0, .ref a_0)] [] := by
  unfold wX12_saying_J22 at H
  refine z_aload_n (pc := 22) C (dX12_saying 12 rfl) rfl 0 rfl ?_
  refine z_iconst (pc := 23) (v := 1) C (dX12_saying 13 rfl) (by decide) ?_
  obtain ⟨h5, H⟩ := H
  refine zc_Vi (pc := 24) (rest := []) C YX12_refused wl_X12_47 (kX12_refused H) (by decide) h5 rfl (by decide) (dX12_saying 14 rfl) rfl hu1 hu2 (Nat.le_of_ble_eq_true rfl) rfl (fun r6 m7 H => ?_)
  exact z_iret (pc := 27) C hr hu1 hu2 (dX12_saying 15 rfl) ⟨rfl, _, rfl, H⟩
def wX12_saying_J71 (t : zT) (m : zM) (s_0 : Int32) (s_1 : Nat) (Q : Int32 → zM → Prop) : Prop := (tK t s_1 = 12 ∧ (wX12_good t m s_1 s_0 (fun r17 m18 => (Q r17 m18))))
set_option maxHeartbeats 4000000 in
set_option maxRecDepth 20000 in
theorem sX12_saying_J71 {p : Program} {l : Launch} {e : Env} {s : State} {mt : MethodId} {args : Array Value} {below : List Frame} {meth : Method} {c : Code} {g : zG} {u : Nat × Nat} {mc ms : Nat} {t : zT} {m : zM} {s_0 : Int32} {s_1 : Nat} {Q : Int32 → zM → Prop} (C : zC p (zRm 1 mc ms) s mt args meth c g cX12_saying 3 yX12_saying.cls 1) (hr : meth.sig.returnType = (some .int)) (hm : meth.name = yX12_saying.name) (hu1 : u.1 ≤ mc) (hu2 : u.2 ≤ ms) (H : wX12_saying_J71 t m s_0 s_1 Q) : zW p l e (zRm 1 mc ms) s mt args below meth c g (MQ below (zQc g (zPi t Q)) args s mc ms (zFar g)) u 3 t m 71 [] [.int s_0, .ref s_1] := by
  unfold wX12_saying_J71 at H
  obtain ⟨h16, H⟩ := H
  refine zc_Vi (pc := 71) (rest := []) C YX12_good wl_X12_51 (kX12_good H) (by decide) h16 rfl (by decide) (dX12_saying 39 rfl) rfl hu1 hu2 (Nat.le_of_ble_eq_true rfl) rfl (fun r17 m18 H => ?_)
  exact z_iret (pc := 74) C hr hu1 hu2 (dX12_saying 40 rfl) ⟨rfl, _, rfl, H⟩
def wX12_saying (t : zT) (m : zM) (a : Nat) (p1 : Int32) (p2 : Int32) (Q : Int32 → zM → Prop) : Prop := (tK t a = 12 ∧ (wX12_isSaying t (pI m a 0 0) a p1 (fun r2 m3 => ((r2 = 0 → (wX12_saying_J22 t m3 a Q)) ∧ (¬ r2 = 0 → (wX12_in t m3 p2 0 2 (fun r8 m9 => ((r8 = 0 → (wX12_saying_J22 t m9 a Q)) ∧ (¬ r8 = 0 → ((p2 = 0 → (tK t (gR m9 a 3) = 11 ∧ (tK t (gR m9 (gR m9 a 3) 18) = 14 ∧ (vp_in p1 (tL t (gR m9 (gR m9 a 3) 18)) ∧ (wX12_saying_J71 t m9 (gI m9 (gR m9 (gR m9 a 3) 18) p1.toNatClampNeg) a Q))))) ∧ (¬ p2 = 0 → ((p2 = 1 → (tK t (gR m9 a 3) = 11 ∧ (tK t (gR m9 (gR m9 a 3) 19) = 14 ∧ (vp_in p1 (tL t (gR m9 (gR m9 a 3) 19)) ∧ (wX12_saying_J71 t m9 (gI m9 (gR m9 (gR m9 a 3) 19) p1.toNatClampNeg) a Q))))) ∧ (¬ p2 = 1 → (tK t (gR m9 a 3) = 11 ∧ (tK t (gR m9 (gR m9 a 3) 20) = 14 ∧ (vp_in p1 (tL t (gR m9 (gR m9 a 3) 20)) ∧ (wX12_saying_J71 t m9 (gI m9 (gR m9 (gR m9 a 3) 20) p1.toNatClampNeg) a Q)))))))))))))))))
set_option maxHeartbeats 4000000 in
set_option maxRecDepth 20000 in
theorem kX12_saying {l : Launch} {t : zT} {m : zM} {a : Nat} {p1 : Int32} {p2 : Int32} {Q : Int32 → zM → Prop} (H : wX12_saying t m a p1 p2 Q) : zMet l yX12_saying cX12_saying 3 (some .int) 1 0 0 t m [.ref a, .int p1, .int p2] (zPi t Q) := by
  refine zmet (by decide +kernel) (Nat.le_of_ble_eq_true rfl) ?_
  intro p e s mt args below meth c g C hr hm
  unfold wX12_saying at H
  have hu1 : ((0, 0) : Nat × Nat).1 ≤ 0 := Nat.le_refl 0
  have hu2 : ((0, 0) : Nat × Nat).2 ≤ 0 := Nat.le_refl 0
  refine z_aload_n (pc := 0) C (dX12_saying 0 rfl) rfl 0 rfl ?_
  refine z_iconst (pc := 1) (v := 0) C (dX12_saying 1 rfl) (by decide) ?_
  obtain ⟨h1, H⟩ := H
  refine z_putI (pc := 2) C zc12 h1 0 (by decide) rfl rfl wf_X12_41 (dX12_saying 2 rfl) ?_
  refine z_aload_n (pc := 5) C (dX12_saying 3 rfl) rfl 0 rfl ?_
  refine z_iload_n (pc := 6) C (dX12_saying 4 rfl) rfl 1 rfl ?_
  refine zc_Vi (pc := 7) (rest := []) C YX12_isSaying wl_X12_378 (kX12_isSaying H) (by decide) h1 rfl (by decide) (dX12_saying 5 rfl) rfl hu1 hu2 (Nat.le_of_ble_eq_true rfl) rfl (fun r2 m3 H => ?_)
  refine z_if_eq (pc := 10) (tgt := 22) C (dX12_saying 6 rfl) (by decide) (fun c4 => ?_) (fun c4 => ?_)
  · replace H := H.1 c4
    refine z_sub [0] rfl ?_
    exact sX12_saying_J22 C hr hm hu1 hu2 H
  · replace H := H.2 c4
    refine z_iload_n (pc := 13) C (dX12_saying 7 rfl) rfl 2 rfl ?_
    refine z_iconst (pc := 14) (v := 0) C (dX12_saying 8 rfl) (by decide) ?_
    refine z_iconst (pc := 15) (v := 2) C (dX12_saying 9 rfl) (by decide) ?_
    refine zc_Si (pc := 16) (rest := []) C YX12_in wl_X12_119 (kX12_in H) (by decide) (dX12_saying 10 rfl) rfl hu1 hu2 (Nat.le_of_ble_eq_true rfl) rfl (fun r8 m9 H => ?_)
    refine z_if_ne (pc := 19) (tgt := 28) C (dX12_saying 11 rfl) (by decide) (fun c10 => ?_) (fun c10 => ?_)
    · replace H := H.2 c10
      refine z_aload_n (pc := 28) C (dX12_saying 16 rfl) rfl 0 rfl ?_
      refine z_iload_n (pc := 29) C (dX12_saying 17 rfl) rfl 2 rfl ?_
      refine z_if_ne (pc := 30) (tgt := 45) C (dX12_saying 18 rfl) (by decide) (fun c11 => ?_) (fun c11 => ?_)
      · replace H := H.2 c11
        refine z_iload_n (pc := 45) C (dX12_saying 25 rfl) rfl 2 rfl ?_
        refine z_iconst (pc := 46) (v := 1) C (dX12_saying 26 rfl) (by decide) ?_
        refine z_icmp_ne (pc := 47) (tgt := 62) C (dX12_saying 27 rfl) (by decide) (fun c12 => ?_) (fun c12 => ?_)
        · replace H := H.2 c12
          refine z_aload_n (pc := 62) C (dX12_saying 34 rfl) rfl 0 rfl ?_
          refine z_getR (pc := 63) C zc12 h1 3 (by decide) rfl wf_X12_314 (dX12_saying 35 rfl) ?_
          obtain ⟨h13, H⟩ := H
          refine z_getRN (pc := 66) C zc11 h13 20 (by decide) rfl wn_X12_286 (dX12_saying 36 rfl) ?_
          refine z_iload_n (pc := 69) C (dX12_saying 37 rfl) rfl 1 rfl ?_
          obtain ⟨h14, H⟩ := H
          obtain ⟨h15, H⟩ := H
          refine z_iaload (pc := 70) C h14 h15 (dX12_saying 38 rfl) ?_
          refine z_sub [] rfl ?_
          exact sX12_saying_J71 C hr hm hu1 hu2 H
        · replace H := H.1 c12
          refine z_aload_n (pc := 50) C (dX12_saying 28 rfl) rfl 0 rfl ?_
          refine z_getR (pc := 51) C zc12 h1 3 (by decide) rfl wf_X12_314 (dX12_saying 29 rfl) ?_
          obtain ⟨h19, H⟩ := H
          refine z_getRN (pc := 54) C zc11 h19 19 (by decide) rfl wn_X12_283 (dX12_saying 30 rfl) ?_
          refine z_iload_n (pc := 57) C (dX12_saying 31 rfl) rfl 1 rfl ?_
          obtain ⟨h20, H⟩ := H
          obtain ⟨h21, H⟩ := H
          refine z_iaload (pc := 58) C h20 h21 (dX12_saying 32 rfl) ?_
          refine z_goto (pc := 59) (tgt := 71) C (dX12_saying 33 rfl) (by decide) ?_
          refine z_sub [] rfl ?_
          exact sX12_saying_J71 C hr hm hu1 hu2 H
      · replace H := H.1 c11
        refine z_aload_n (pc := 33) C (dX12_saying 19 rfl) rfl 0 rfl ?_
        refine z_getR (pc := 34) C zc12 h1 3 (by decide) rfl wf_X12_314 (dX12_saying 20 rfl) ?_
        obtain ⟨h22, H⟩ := H
        refine z_getRN (pc := 37) C zc11 h22 18 (by decide) rfl wn_X12_280 (dX12_saying 21 rfl) ?_
        refine z_iload_n (pc := 40) C (dX12_saying 22 rfl) rfl 1 rfl ?_
        obtain ⟨h23, H⟩ := H
        obtain ⟨h24, H⟩ := H
        refine z_iaload (pc := 41) C h23 h24 (dX12_saying 23 rfl) ?_
        refine z_goto (pc := 42) (tgt := 71) C (dX12_saying 24 rfl) (by decide) ?_
        refine z_sub [] rfl ?_
        exact sX12_saying_J71 C hr hm hu1 hu2 H
    · replace H := H.1 c10
      refine z_sub [0] rfl ?_
      exact sX12_saying_J22 C hr hm hu1 hu2 H
def wX12_led_J61 (t : zT) (m : zM) (a_0 : Nat) (x_1 : Int32) (x_2 : Int32) (x_3 : Int32) (Q : Int32 → zM → Prop) (r20 : Int32 → Int32 → zM → Prop) : Prop := (r20 x_2 (x_3 + 1) m)
set_option maxHeartbeats 4000000 in
set_option maxRecDepth 20000 in
theorem sX12_led_J61 {p : Program} {l : Launch} {e : Env} {s : State} {mt : MethodId} {args : Array Value} {below : List Frame} {meth : Method} {c : Code} {g : zG} {u : Nat × Nat} {mc ms : Nat} {t : zT} {m : zM} {a_0 : Nat} {x_1 : Int32} {x_2 : Int32} {x_3 : Int32} {Q : Int32 → zM → Prop} {r20 : Int32 → Int32 → zM → Prop} (C : zC p (zRm 6 mc ms) s mt args meth c g cX12_led 4 yX12_led.cls 6) (hr : meth.sig.returnType = (some .int)) (hm : meth.name = yX12_led.name) (hu1 : u.1 ≤ mc) (hu2 : u.2 ≤ ms)
    (R20 : ∀ (v0 : Int32) (v1 : Int32) (m : zM), r20 v0 v1 m → zW p l e (zRm 6 mc ms) s mt args below meth c g (MQ below (zQc g (zPi t Q)) args s mc ms (zFar g)) u 4 t m 20 [(0, .ref a_0), (1, .int x_1), (2, .int v0), (3, .int v1)] []) (H : wX12_led_J61 t m a_0 x_1 x_2 x_3 Q r20) : zW p l e (zRm 6 mc ms) s mt args below meth c g (MQ below (zQc g (zPi t Q)) args s mc ms (zFar g)) u 4 t m 61 [(0, .ref a_0), (1, .int x_1), (2, .int x_2), (3, .int x_3)] [] := by
  unfold wX12_led_J61 at H
  refine z_iinc (pc := 61) (i := 3) (v := x_3 + 1) (lv2 := [(3, .int (x_3 + 1)), (0, .ref a_0), (1, .int x_1), (2, .int x_2)]) C (dX12_led 32 rfl) 3 rfl (by rfl) (by decide) rfl ?_
  refine z_goto (pc := 64) (tgt := 20) C (dX12_led 33 rfl) (by decide) ?_
  refine z_sub [1, 2, 3, 0] rfl ?_
  exact R20 x_2 (x_3 + 1) m H
def wX12_led_L20 (t : zT) (a_0 : Nat) (x_1 : Int32) (Q : Int32 → zM → Prop) (k67 : zM → Prop) : Nat → Int32 → Int32 → zM → Prop
  | 0, _, _, _ => False
  | n + 1, x_2, x_3, m => (tK t a_0 = 12 ∧ (((gR m a_0 3) = 0 → (k67 m)) ∧ (¬ (gR m a_0 3) = 0 → (tK t (gR m a_0 3) = 11 ∧ (((gI m (gR m a_0 3) 0) ≤ x_3 → (k67 m)) ∧ (¬ (gI m (gR m a_0 3) 0) ≤ x_3 → (wX12_one t m a_0 x_3 (fun r7 m8 => ((r7 = (-2) → ((x_2 = x_1 → (Q x_3 m8)) ∧ (¬ x_2 = x_1 → (wX12_led_J61 t m8 a_0 x_1 (x_2 + 1) x_3 Q (wX12_led_L20 t a_0 x_1 Q k67 n))))) ∧ (¬ r7 = (-2) → (wX12_led_J61 t m8 a_0 x_1 x_2 x_3 Q (wX12_led_L20 t a_0 x_1 Q k67 n))))))))))))
set_option maxHeartbeats 4000000 in
set_option maxRecDepth 20000 in
theorem sX12_led_L20 {p : Program} {l : Launch} {e : Env} {s : State} {mt : MethodId} {args : Array Value} {below : List Frame} {meth : Method} {c : Code} {g : zG} {u : Nat × Nat} {mc ms : Nat} {t : zT} {a_0 : Nat} {x_1 : Int32} {Q : Int32 → zM → Prop} {k67 : zM → Prop} (C : zC p (zRm 6 mc ms) s mt args meth c g cX12_led 4 yX12_led.cls 6) (hr : meth.sig.returnType = (some .int)) (hm : meth.name = yX12_led.name) (hu1 : u.1 ≤ mc) (hu2 : u.2 ≤ ms)
    (K67 : ∀ (m : zM), k67 m → zW p l e (zRm 6 mc ms) s mt args below meth c g (MQ below (zQc g (zPi t Q)) args s mc ms (zFar g)) u 4 t m 67 [(0, .ref a_0)] []) : ∀ (n : Nat) (x_2 : Int32) (x_3 : Int32) (m : zM), wX12_led_L20 t a_0 x_1 Q k67 n x_2 x_3 m → zW p l e (zRm 6 mc ms) s mt args below meth c g (MQ below (zQc g (zPi t Q)) args s mc ms (zFar g)) u 4 t m 20 [(0, .ref a_0), (1, .int x_1), (2, .int x_2), (3, .int x_3)] [] := by
  intro n
  induction n with
  | zero => intro x_2 x_3 m H; exact H.elim
  | succ n ih =>
    intro x_2 x_3 m H
    simp only [wX12_led_L20] at H
    refine z_aload_n (pc := 20) C (dX12_led 12 rfl) rfl 0 rfl ?_
    obtain ⟨h3, H⟩ := H
    refine z_getR (pc := 21) C zc12 h3 3 (by decide) rfl wf_X12_314 (dX12_led 13 rfl) ?_
    refine z_ifnull (pc := 24) (tgt := 67) C (dX12_led 14 rfl) (by decide) (fun c4 => ?_) (fun c4 => ?_)
    · replace H := H.1 c4
      refine z_sub [0] rfl ?_
      exact K67 m H
    · replace H := H.2 c4
      refine z_iload_n (pc := 27) C (dX12_led 15 rfl) rfl 3 rfl ?_
      refine z_aload_n (pc := 28) C (dX12_led 16 rfl) rfl 0 rfl ?_
      refine z_getR (pc := 29) C zc12 h3 3 (by decide) rfl wf_X12_314 (dX12_led 17 rfl) ?_
      obtain ⟨h5, H⟩ := H
      refine z_getIN (pc := 32) C zc11 h5 0 (by decide) rfl wn_X12_180 (dX12_led 18 rfl) ?_
      refine z_icmp_ge (pc := 35) (tgt := 67) C (dX12_led 19 rfl) (by decide) (fun c6 => ?_) (fun c6 => ?_)
      · replace H := H.1 c6
        refine z_sub [0] rfl ?_
        exact K67 m H
      · replace H := H.2 c6
        refine z_aload_n (pc := 38) C (dX12_led 20 rfl) rfl 0 rfl ?_
        refine z_iload_n (pc := 39) C (dX12_led 21 rfl) rfl 3 rfl ?_
        refine zc_Vi (pc := 40) (rest := []) C YX12_one wl_X12_355 (kX12_one H) (by decide) h3 rfl (by decide) (dX12_led 22 rfl) rfl hu1 hu2 (Nat.le_of_ble_eq_true rfl) rfl (fun r7 m8 H => ?_)
        refine z_bipush (pc := 43) (v := (-2)) C (dX12_led 23 rfl) (by decide) ?_
        refine z_icmp_eq (pc := 45) (tgt := 51) C (dX12_led 24 rfl) (by decide) (fun c9 => ?_) (fun c9 => ?_)
        · replace H := H.1 c9
          refine z_iload_n (pc := 51) C (dX12_led 26 rfl) rfl 2 rfl ?_
          refine z_iload_n (pc := 52) C (dX12_led 27 rfl) rfl 1 rfl ?_
          refine z_icmp_ne (pc := 53) (tgt := 58) C (dX12_led 28 rfl) (by decide) (fun c10 => ?_) (fun c10 => ?_)
          · replace H := H.2 c10
            refine z_iinc (pc := 58) (i := 2) (v := x_2 + 1) (lv2 := [(2, .int (x_2 + 1)), (0, .ref a_0), (1, .int x_1), (3, .int x_3)]) C (dX12_led 31 rfl) 2 rfl (by rfl) (by decide) rfl ?_
            refine z_sub [1, 2, 0, 3] rfl ?_
            exact sX12_led_J61 C hr hm hu1 hu2 ih H
          · replace H := H.1 c10
            refine z_iload_n (pc := 56) C (dX12_led 29 rfl) rfl 3 rfl ?_
            exact z_iret (pc := 57) C hr hu1 hu2 (dX12_led 30 rfl) ⟨rfl, _, rfl, H⟩
        · replace H := H.2 c9
          refine z_goto (pc := 48) (tgt := 61) C (dX12_led 25 rfl) (by decide) ?_
          refine z_sub [0, 1, 2, 3] rfl ?_
          exact sX12_led_J61 C hr hm hu1 hu2 ih H
def wX12_led_J18 (t : zT) (m : zM) (a_0 : Nat) (x_1 : Int32) (x_2 : Int32) (Q : Int32 → zM → Prop) : Prop := (∃ n13, wX12_led_L20 t a_0 x_1 Q (fun m11 => (tK t a_0 = 12 ∧ (Q 0 (pI m11 a_0 0 1)))) n13 x_2 0 m)
set_option maxHeartbeats 4000000 in
set_option maxRecDepth 20000 in
theorem sX12_led_J18 {p : Program} {l : Launch} {e : Env} {s : State} {mt : MethodId} {args : Array Value} {below : List Frame} {meth : Method} {c : Code} {g : zG} {u : Nat × Nat} {mc ms : Nat} {t : zT} {m : zM} {a_0 : Nat} {x_1 : Int32} {x_2 : Int32} {Q : Int32 → zM → Prop} (C : zC p (zRm 6 mc ms) s mt args meth c g cX12_led 4 yX12_led.cls 6) (hr : meth.sig.returnType = (some .int)) (hm : meth.name = yX12_led.name) (hu1 : u.1 ≤ mc) (hu2 : u.2 ≤ ms) (H : wX12_led_J18 t m a_0 x_1 x_2 Q) : zW p l e (zRm 6 mc ms) s mt args below meth c g (MQ below (zQc g (zPi t Q)) args s mc ms (zFar g)) u 4 t m 18 [(0, .ref a_0), (1, .int x_1), (2, .int x_2)] [] := by
  unfold wX12_led_J18 at H
  refine z_iconst (pc := 18) (v := 0) C (dX12_led 10 rfl) (by decide) ?_
  refine z_istore_n (pc := 19) (i := 3) (lv2 := [(3, .int 0), (0, .ref a_0), (1, .int x_1), (2, .int x_2)]) C (dX12_led 11 rfl) rfl (by decide) rfl ?_
  obtain ⟨n13, H⟩ := H
  refine z_sub [1, 2, 3, 0] rfl ?_
  refine sX12_led_L20 C hr hm hu1 hu2 (fun m11 H => ?_) n13 x_2 0 m H
  refine z_aload_n (pc := 67) C (dX12_led 34 rfl) rfl 0 rfl ?_
  refine z_iconst (pc := 68) (v := 1) C (dX12_led 35 rfl) (by decide) ?_
  obtain ⟨h12, H⟩ := H
  refine z_putI (pc := 69) C zc12 h12 0 (by decide) rfl rfl wf_X12_41 (dX12_led 36 rfl) ?_
  refine z_iconst (pc := 72) (v := 0) C (dX12_led 37 rfl) (by decide) ?_
  exact z_iret (pc := 73) C hr hu1 hu2 (dX12_led 38 rfl) ⟨rfl, _, rfl, H⟩
def wX12_led (t : zT) (m : zM) (a : Nat) (p1 : Int32) (Q : Int32 → zM → Prop) : Prop := (tK t a = 12 ∧ (((gR m a 3) = 0 → (wX12_led_J18 t (pI m a 0 0) a p1 0 Q)) ∧ (¬ (gR m a 3) = 0 → (wX12_asksWorlds t (pI m a 0 0) a (fun m15 => (wX12_led_J18 t m15 a p1 0 Q))))))
set_option maxHeartbeats 4000000 in
set_option maxRecDepth 20000 in
theorem kX12_led {l : Launch} {t : zT} {m : zM} {a : Nat} {p1 : Int32} {Q : Int32 → zM → Prop} (H : wX12_led t m a p1 Q) : zMet l yX12_led cX12_led 4 (some .int) 6 0 0 t m [.ref a, .int p1] (zPi t Q) := by
  refine zmet (by decide +kernel) (Nat.le_of_ble_eq_true rfl) ?_
  intro p e s mt args below meth c g C hr hm
  unfold wX12_led at H
  have hu1 : ((0, 0) : Nat × Nat).1 ≤ 0 := Nat.le_refl 0
  have hu2 : ((0, 0) : Nat × Nat).2 ≤ 0 := Nat.le_refl 0
  refine z_aload_n (pc := 0) C (dX12_led 0 rfl) rfl 0 rfl ?_
  refine z_iconst (pc := 1) (v := 0) C (dX12_led 1 rfl) (by decide) ?_
  obtain ⟨h1, H⟩ := H
  refine z_putI (pc := 2) C zc12 h1 0 (by decide) rfl rfl wf_X12_41 (dX12_led 2 rfl) ?_
  refine z_iconst (pc := 5) (v := 0) C (dX12_led 3 rfl) (by decide) ?_
  refine z_istore_n (pc := 6) (i := 2) (lv2 := [(2, .int 0), (0, .ref a), (1, .int p1)]) C (dX12_led 4 rfl) rfl (by decide) rfl ?_
  refine z_aload_n (pc := 7) C (dX12_led 5 rfl) rfl 1 rfl ?_
  refine z_getR (pc := 8) C zc12 h1 3 (by decide) rfl wf_X12_314 (dX12_led 6 rfl) ?_
  refine z_ifnull (pc := 11) (tgt := 18) C (dX12_led 7 rfl) (by decide) (fun c2 => ?_) (fun c2 => ?_)
  · replace H := H.1 c2
    refine z_sub [1, 2, 0] rfl ?_
    exact sX12_led_J18 C hr hm hu1 hu2 H
  · replace H := H.2 c2
    refine z_aload_n (pc := 14) C (dX12_led 8 rfl) rfl 1 rfl ?_
    refine zc_Vv (pc := 15) (rest := []) C YX12_asksWorlds wl_X12_358 (kX12_asksWorlds H) (by decide) h1 rfl (by decide) (dX12_led 9 rfl) rfl hu1 hu2 (Nat.le_of_ble_eq_true rfl) rfl (fun m15 H => ?_)
    refine z_sub [1, 2, 0] rfl ?_
    exact sX12_led_J18 C hr hm hu1 hu2 H
def wX12_size (t : zT) (m : zM) (a : Nat) (p1 : Int32) (Q : Int32 → zM → Prop) : Prop := (tK t a = 12 ∧ ((p1 = 11 → (Q (gI (pI m a 0 0) a 6) (pI m a 0 0))) ∧ (¬ p1 = 11 → (wX12_in t (pI m a 0 0) p1 0 10 (fun r3 m4 => ((r3 = 0 → (Q (-1) m4)) ∧ (¬ r3 = 0 → (((gR m4 a 3) = 0 → (Q 0 m4)) ∧ (¬ (gR m4 a 3) = 0 → ((∀ c7 : (p1.toInt < 0 ∨ 9 < p1.toInt), (tK t (gR m4 a 26) = 14 ∧ (vp_in 8 (tL t (gR m4 a 26)) ∧ (((gI m4 (gR m4 a 26) ((8 : Int32).toNatClampNeg)) = (-2) → (Q 0 m4)) ∧ (¬ (gI m4 (gR m4 a 26) ((8 : Int32).toNatClampNeg)) = (-2) → (Q 1 m4)))))) ∧ (p1 = 0 → (tK t (gR m4 a 3) = 11 ∧ (Q (gI m4 (gR m4 a 3) 0) m4))) ∧ (p1 = 1 → (tK t (gR m4 a 3) = 11 ∧ (Q (gI m4 (gR m4 a 3) 2) m4))) ∧ (p1 = 2 → (tK t (gR m4 a 3) = 11 ∧ (Q (gI m4 (gR m4 a 3) 3) m4))) ∧ (p1 = 3 → (tK t (gR m4 a 3) = 11 ∧ (Q (gI m4 (gR m4 a 3) 4) m4))) ∧ (p1 = 4 → (tK t (gR m4 a 3) = 11 ∧ (Q (gI m4 (gR m4 a 3) 5) m4))) ∧ (p1 = 5 → (tK t (gR m4 a 3) = 11 ∧ (Q (gI m4 (gR m4 a 3) 1) m4))) ∧ (p1 = 6 → (tK t (gR m4 a 3) = 11 ∧ (Q (gI m4 (gR m4 a 3) 6) m4))) ∧ (p1 = 7 → (tK t (gR m4 a 3) = 11 ∧ (Q (gI m4 (gR m4 a 3) 7) m4))) ∧ (p1 = 8 → (tK t (gR m4 a 26) = 14 ∧ (vp_in 10 (tL t (gR m4 a 26)) ∧ (Q (gI m4 (gR m4 a 26) ((10 : Int32).toNatClampNeg)) m4)))) ∧ (p1 = 9 → (Q (gI m4 a 28) m4))))))))))))
set_option maxHeartbeats 4000000 in
set_option maxRecDepth 20000 in
theorem kX12_size {l : Launch} {t : zT} {m : zM} {a : Nat} {p1 : Int32} {Q : Int32 → zM → Prop} (H : wX12_size t m a p1 Q) : zMet l yX12_size cX12_size 2 (some .int) 1 0 0 t m [.ref a, .int p1] (zPi t Q) := by
  refine zmet (by decide +kernel) (Nat.le_of_ble_eq_true rfl) ?_
  intro p e s mt args below meth c g C hr hm
  unfold wX12_size at H
  have hu1 : ((0, 0) : Nat × Nat).1 ≤ 0 := Nat.le_refl 0
  have hu2 : ((0, 0) : Nat × Nat).2 ≤ 0 := Nat.le_refl 0
  refine z_aload_n (pc := 0) C (dX12_size 0 rfl) rfl 0 rfl ?_
  refine z_iconst (pc := 1) (v := 0) C (dX12_size 1 rfl) (by decide) ?_
  obtain ⟨h1, H⟩ := H
  refine z_putI (pc := 2) C zc12 h1 0 (by decide) rfl rfl wf_X12_41 (dX12_size 2 rfl) ?_
  refine z_iload_n (pc := 5) C (dX12_size 3 rfl) rfl 1 rfl ?_
  refine z_bipush (pc := 6) (v := 11) C (dX12_size 4 rfl) (by decide) ?_
  refine z_icmp_ne (pc := 8) (tgt := 16) C (dX12_size 5 rfl) (by decide) (fun c2 => ?_) (fun c2 => ?_)
  · replace H := H.2 c2
    refine z_iload_n (pc := 16) C (dX12_size 9 rfl) rfl 1 rfl ?_
    refine z_iconst (pc := 17) (v := 0) C (dX12_size 10 rfl) (by decide) ?_
    refine z_bipush (pc := 18) (v := 10) C (dX12_size 11 rfl) (by decide) ?_
    refine zc_Si (pc := 20) (rest := []) C YX12_in wl_X12_119 (kX12_in H) (by decide) (dX12_size 12 rfl) rfl hu1 hu2 (Nat.le_of_ble_eq_true rfl) rfl (fun r3 m4 H => ?_)
    refine z_if_ne (pc := 23) (tgt := 28) C (dX12_size 13 rfl) (by decide) (fun c5 => ?_) (fun c5 => ?_)
    · replace H := H.2 c5
      refine z_aload_n (pc := 28) C (dX12_size 16 rfl) rfl 0 rfl ?_
      refine z_getR (pc := 29) C zc12 h1 3 (by decide) rfl wf_X12_314 (dX12_size 17 rfl) ?_
      refine z_ifnonnull (pc := 32) (tgt := 37) C (dX12_size 18 rfl) (by decide) (fun c6 => ?_) (fun c6 => ?_)
      · replace H := H.1 c6
        refine z_iconst (pc := 35) (v := 0) C (dX12_size 19 rfl) (by decide) ?_
        exact z_iret (pc := 36) C hr hu1 hu2 (dX12_size 20 rfl) ⟨rfl, _, rfl, H⟩
      · replace H := H.2 c6
        refine z_iload_n (pc := 37) C (dX12_size 21 rfl) rfl 1 rfl ?_
        by_cases c7 : (p1.toInt < 0 ∨ 9 < p1.toInt)
        · replace H := H.1 c7
          refine z_tableOut (pc := 38) (tgt := 169) C (dX12_size 22 rfl) c7 (by decide) ?_
          refine z_aload_n (pc := 169) C (dX12_size 63 rfl) rfl 0 rfl ?_
          refine z_getR (pc := 170) C zc12 h1 26 (by decide) rfl wf_X12_35 (dX12_size 64 rfl) ?_
          refine z_bipush (pc := 173) (v := 8) C (dX12_size 65 rfl) (by decide) ?_
          obtain ⟨h8, H⟩ := H
          obtain ⟨h9, H⟩ := H
          refine z_iaload (pc := 175) C h8 h9 (dX12_size 66 rfl) ?_
          refine z_bipush (pc := 176) (v := (-2)) C (dX12_size 67 rfl) (by decide) ?_
          refine z_icmp_ne (pc := 178) (tgt := 185) C (dX12_size 68 rfl) (by decide) (fun c10 => ?_) (fun c10 => ?_)
          · replace H := H.2 c10
            refine z_iconst (pc := 185) (v := 1) C (dX12_size 71 rfl) (by decide) ?_
            exact z_iret (pc := 186) C hr hu1 hu2 (dX12_size 72 rfl) ⟨rfl, _, rfl, H⟩
          · replace H := H.1 c10
            refine z_iconst (pc := 181) (v := 0) C (dX12_size 69 rfl) (by decide) ?_
            refine z_goto (pc := 182) (tgt := 186) C (dX12_size 70 rfl) (by decide) ?_
            exact z_iret (pc := 186) C hr hu1 hu2 (dX12_size 72 rfl) ⟨rfl, _, rfl, H⟩
        · rcases (show p1 = 0 ∨ p1 = 1 ∨ p1 = 2 ∨ p1 = 3 ∨ p1 = 4 ∨ p1 = 5 ∨ p1 = 6 ∨ p1 = 7 ∨ p1 = 8 ∨ p1 = 9 from zsw9 c7) with c7e | c7e | c7e | c7e | c7e | c7e | c7e | c7e | c7e | c7e
          · replace H := H.2.1 c7e
            refine z_tableIn (pc := 38) (off := 54) (tgt := 92) C (dX12_size 22 rfl) (by rw [c7e]; decide) (by rw [c7e]; decide) (by rw [c7e]; rfl) (by decide) ?_
            refine z_aload_n (pc := 92) C (dX12_size 23 rfl) rfl 0 rfl ?_
            refine z_getR (pc := 93) C zc12 h1 3 (by decide) rfl wf_X12_314 (dX12_size 24 rfl) ?_
            obtain ⟨h11, H⟩ := H
            refine z_getIN (pc := 96) C zc11 h11 0 (by decide) rfl wn_X12_180 (dX12_size 25 rfl) ?_
            exact z_iret (pc := 99) C hr hu1 hu2 (dX12_size 26 rfl) ⟨rfl, _, rfl, H⟩
          · replace H := H.2.2.1 c7e
            refine z_tableIn (pc := 38) (off := 62) (tgt := 100) C (dX12_size 22 rfl) (by rw [c7e]; decide) (by rw [c7e]; decide) (by rw [c7e]; rfl) (by decide) ?_
            refine z_aload_n (pc := 100) C (dX12_size 27 rfl) rfl 0 rfl ?_
            refine z_getR (pc := 101) C zc12 h1 3 (by decide) rfl wf_X12_314 (dX12_size 28 rfl) ?_
            obtain ⟨h12, H⟩ := H
            refine z_getIN (pc := 104) C zc11 h12 2 (by decide) rfl wn_X12_246 (dX12_size 29 rfl) ?_
            exact z_iret (pc := 107) C hr hu1 hu2 (dX12_size 30 rfl) ⟨rfl, _, rfl, H⟩
          · replace H := H.2.2.2.1 c7e
            refine z_tableIn (pc := 38) (off := 70) (tgt := 108) C (dX12_size 22 rfl) (by rw [c7e]; decide) (by rw [c7e]; decide) (by rw [c7e]; rfl) (by decide) ?_
            refine z_aload_n (pc := 108) C (dX12_size 31 rfl) rfl 0 rfl ?_
            refine z_getR (pc := 109) C zc12 h1 3 (by decide) rfl wf_X12_314 (dX12_size 32 rfl) ?_
            obtain ⟨h13, H⟩ := H
            refine z_getIN (pc := 112) C zc11 h13 3 (by decide) rfl wn_X12_277 (dX12_size 33 rfl) ?_
            exact z_iret (pc := 115) C hr hu1 hu2 (dX12_size 34 rfl) ⟨rfl, _, rfl, H⟩
          · replace H := H.2.2.2.2.1 c7e
            refine z_tableIn (pc := 38) (off := 78) (tgt := 116) C (dX12_size 22 rfl) (by rw [c7e]; decide) (by rw [c7e]; decide) (by rw [c7e]; rfl) (by decide) ?_
            refine z_aload_n (pc := 116) C (dX12_size 35 rfl) rfl 0 rfl ?_
            refine z_getR (pc := 117) C zc12 h1 3 (by decide) rfl wf_X12_314 (dX12_size 36 rfl) ?_
            obtain ⟨h14, H⟩ := H
            refine z_getIN (pc := 120) C zc11 h14 4 (by decide) rfl wn_X12_289 (dX12_size 37 rfl) ?_
            exact z_iret (pc := 123) C hr hu1 hu2 (dX12_size 38 rfl) ⟨rfl, _, rfl, H⟩
          · replace H := H.2.2.2.2.2.1 c7e
            refine z_tableIn (pc := 38) (off := 86) (tgt := 124) C (dX12_size 22 rfl) (by rw [c7e]; decide) (by rw [c7e]; decide) (by rw [c7e]; rfl) (by decide) ?_
            refine z_aload_n (pc := 124) C (dX12_size 39 rfl) rfl 0 rfl ?_
            refine z_getR (pc := 125) C zc12 h1 3 (by decide) rfl wf_X12_314 (dX12_size 40 rfl) ?_
            obtain ⟨h15, H⟩ := H
            refine z_getIN (pc := 128) C zc11 h15 5 (by decide) rfl wn_X12_304 (dX12_size 41 rfl) ?_
            exact z_iret (pc := 131) C hr hu1 hu2 (dX12_size 42 rfl) ⟨rfl, _, rfl, H⟩
          · replace H := H.2.2.2.2.2.2.1 c7e
            refine z_tableIn (pc := 38) (off := 94) (tgt := 132) C (dX12_size 22 rfl) (by rw [c7e]; decide) (by rw [c7e]; decide) (by rw [c7e]; rfl) (by decide) ?_
            refine z_aload_n (pc := 132) C (dX12_size 43 rfl) rfl 0 rfl ?_
            refine z_getR (pc := 133) C zc12 h1 3 (by decide) rfl wf_X12_314 (dX12_size 44 rfl) ?_
            obtain ⟨h16, H⟩ := H
            refine z_getIN (pc := 136) C zc11 h16 1 (by decide) rfl wn_X12_223 (dX12_size 45 rfl) ?_
            exact z_iret (pc := 139) C hr hu1 hu2 (dX12_size 46 rfl) ⟨rfl, _, rfl, H⟩
          · replace H := H.2.2.2.2.2.2.2.1 c7e
            refine z_tableIn (pc := 38) (off := 102) (tgt := 140) C (dX12_size 22 rfl) (by rw [c7e]; decide) (by rw [c7e]; decide) (by rw [c7e]; rfl) (by decide) ?_
            refine z_aload_n (pc := 140) C (dX12_size 47 rfl) rfl 0 rfl ?_
            refine z_getR (pc := 141) C zc12 h1 3 (by decide) rfl wf_X12_314 (dX12_size 48 rfl) ?_
            obtain ⟨h17, H⟩ := H
            refine z_getIN (pc := 144) C zc11 h17 6 (by decide) rfl wn_X12_269 (dX12_size 49 rfl) ?_
            exact z_iret (pc := 147) C hr hu1 hu2 (dX12_size 50 rfl) ⟨rfl, _, rfl, H⟩
          · replace H := H.2.2.2.2.2.2.2.2.1 c7e
            refine z_tableIn (pc := 38) (off := 110) (tgt := 148) C (dX12_size 22 rfl) (by rw [c7e]; decide) (by rw [c7e]; decide) (by rw [c7e]; rfl) (by decide) ?_
            refine z_aload_n (pc := 148) C (dX12_size 51 rfl) rfl 0 rfl ?_
            refine z_getR (pc := 149) C zc12 h1 3 (by decide) rfl wf_X12_314 (dX12_size 52 rfl) ?_
            obtain ⟨h18, H⟩ := H
            refine z_getIN (pc := 152) C zc11 h18 7 (by decide) rfl wn_X12_275 (dX12_size 53 rfl) ?_
            exact z_iret (pc := 155) C hr hu1 hu2 (dX12_size 54 rfl) ⟨rfl, _, rfl, H⟩
          · replace H := H.2.2.2.2.2.2.2.2.2.1 c7e
            refine z_tableIn (pc := 38) (off := 118) (tgt := 156) C (dX12_size 22 rfl) (by rw [c7e]; decide) (by rw [c7e]; decide) (by rw [c7e]; rfl) (by decide) ?_
            refine z_aload_n (pc := 156) C (dX12_size 55 rfl) rfl 0 rfl ?_
            refine z_getR (pc := 157) C zc12 h1 26 (by decide) rfl wf_X12_35 (dX12_size 56 rfl) ?_
            refine z_bipush (pc := 160) (v := 10) C (dX12_size 57 rfl) (by decide) ?_
            obtain ⟨h19, H⟩ := H
            obtain ⟨h20, H⟩ := H
            refine z_iaload (pc := 162) C h19 h20 (dX12_size 58 rfl) ?_
            exact z_iret (pc := 163) C hr hu1 hu2 (dX12_size 59 rfl) ⟨rfl, _, rfl, H⟩
          · replace H := H.2.2.2.2.2.2.2.2.2.2 c7e
            refine z_tableIn (pc := 38) (off := 126) (tgt := 164) C (dX12_size 22 rfl) (by rw [c7e]; decide) (by rw [c7e]; decide) (by rw [c7e]; rfl) (by decide) ?_
            refine z_aload_n (pc := 164) C (dX12_size 60 rfl) rfl 0 rfl ?_
            refine z_getI (pc := 165) C zc12 h1 28 (by decide) rfl wf_X12_317 (dX12_size 61 rfl) ?_
            exact z_iret (pc := 168) C hr hu1 hu2 (dX12_size 62 rfl) ⟨rfl, _, rfl, H⟩
    · replace H := H.1 c5
      refine z_iconst (pc := 26) (v := (-1)) C (dX12_size 14 rfl) (by decide) ?_
      exact z_iret (pc := 27) C hr hu1 hu2 (dX12_size 15 rfl) ⟨rfl, _, rfl, H⟩
  · replace H := H.1 c2
    refine z_aload_n (pc := 11) C (dX12_size 6 rfl) rfl 0 rfl ?_
    refine z_getI (pc := 12) C zc12 h1 6 (by decide) rfl wf_X12_307 (dX12_size 7 rfl) ?_
    exact z_iret (pc := 15) C hr hu1 hu2 (dX12_size 8 rfl) ⟨rfl, _, rfl, H⟩
def wX12_trouble (t : zT) (m : zM) (a : Nat) (Q : Int32 → zM → Prop) : Prop := (tK t a = 12 ∧ (Q (gI (pI m a 0 0) a 1) (pI m a 0 0)))
set_option maxHeartbeats 4000000 in
set_option maxRecDepth 20000 in
theorem kX12_trouble {l : Launch} {t : zT} {m : zM} {a : Nat} {Q : Int32 → zM → Prop} (H : wX12_trouble t m a Q) : zMet l yX12_trouble cX12_trouble 1 (some .int) 0 0 0 t m [.ref a] (zPi t Q) := by
  refine zmet (by decide +kernel) (Nat.le_of_ble_eq_true rfl) ?_
  intro p e s mt args below meth c g C hr hm
  unfold wX12_trouble at H
  have hu1 : ((0, 0) : Nat × Nat).1 ≤ 0 := Nat.le_refl 0
  have hu2 : ((0, 0) : Nat × Nat).2 ≤ 0 := Nat.le_refl 0
  refine z_aload_n (pc := 0) C (dX12_trouble 0 rfl) rfl 0 rfl ?_
  refine z_iconst (pc := 1) (v := 0) C (dX12_trouble 1 rfl) (by decide) ?_
  obtain ⟨h1, H⟩ := H
  refine z_putI (pc := 2) C zc12 h1 0 (by decide) rfl rfl wf_X12_41 (dX12_trouble 2 rfl) ?_
  refine z_aload_n (pc := 5) C (dX12_trouble 3 rfl) rfl 0 rfl ?_
  refine z_getI (pc := 6) C zc12 h1 1 (by decide) rfl wf_X12_44 (dX12_trouble 4 rfl) ?_
  exact z_iret (pc := 9) C hr hu1 hu2 (dX12_trouble 5 rfl) ⟨rfl, _, rfl, H⟩
