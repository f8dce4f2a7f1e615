def wX9_feed (t : zT) (m : zM) (a : Nat) (p1 : Int32) (p2 : Int32) (p3 : Int32) (p4 : Int32) (p5 : Int32) (Q : Int32 → zM → Prop) : Prop := (tK t a = 9 ∧ (tK t (gR m a 0) = 3 ∧ ((((gI m (gR m a 0) 1) + (20 : Int32)) ≤ 900 → (wX3_put t m (gR m a 0) p1 (fun m5 => (tK t (gR m5 a 0) = 3 ∧ (wX3_put t m5 (gR m5 a 0) p2 (fun m8 => (tK t (gR m8 a 0) = 3 ∧ (wX3_put t m8 (gR m8 a 0) p3 (fun m11 => (tK t (gR m11 a 0) = 3 ∧ (wX3_put t m11 (gR m11 a 0) p4 (fun m14 => (tK t (gR m14 a 0) = 3 ∧ (wX3_put t m14 (gR m14 a 0) p5 (fun m17 => (tK t (gR m17 a 0) = 3 ∧ (Q (gI m17 (gR m17 a 0) 1) m17))))))))))))))))) ∧ (¬ ((gI m (gR m a 0) 1) + (20 : Int32)) ≤ 900 → (Q (-1) m)))))
set_option maxHeartbeats 4000000 in
set_option maxRecDepth 20000 in
theorem kX9_feed {l : Launch} {t : zT} {m : zM} {a : Nat} {p1 : Int32} {p2 : Int32} {p3 : Int32} {p4 : Int32} {p5 : Int32} {Q : Int32 → zM → Prop} (H : wX9_feed t m a p1 p2 p3 p4 p5 Q) : zMet l yX9_feed cX9_feed 6 (some .int) 1 0 0 t m [.ref a, .int p1, .int p2, .int p3, .int p4, .int p5] (zPi t Q) := by
  refine zmet (by decide +kernel) (Nat.le_of_ble_eq_true rfl) ?_
  intro p e s mt args below meth c g C hr hm
  unfold wX9_feed at H
  have hu1 : ((0, 0) : Nat × Nat).1 ≤ 0 := Nat.le_refl 0
  have hu2 : ((0, 0) : Nat × Nat).2 ≤ 0 := Nat.le_refl 0
  refine z_aload_n (pc := 0) C (dX9_feed 0 rfl) rfl 0 rfl ?_
  obtain ⟨h1, H⟩ := H
  refine z_getR (pc := 1) C zc9 h1 0 (by decide) rfl wf_X9_10 (dX9_feed 1 rfl) ?_
  obtain ⟨h2, H⟩ := H
  refine z_getI (pc := 4) C zc3 h2 1 (by decide) rfl wf_X9_86 (dX9_feed 2 rfl) ?_
  refine z_bipush (pc := 7) (v := 20) C (dX9_feed 3 rfl) (by decide) ?_
  refine z_iadd (pc := 9) C (dX9_feed 4 rfl) ?_
  refine z_sipush (pc := 10) (v := 900) C (dX9_feed 5 rfl) (by decide) ?_
  refine z_icmp_le (pc := 13) (tgt := 18) C (dX9_feed 6 rfl) (by decide) (fun c3 => ?_) (fun c3 => ?_)
  · replace H := H.1 c3
    refine z_aload_n (pc := 18) C (dX9_feed 9 rfl) rfl 0 rfl ?_
    refine z_getR (pc := 19) C zc9 h1 0 (by decide) rfl wf_X9_10 (dX9_feed 10 rfl) ?_
    refine z_iload_n (pc := 22) C (dX9_feed 11 rfl) rfl 1 rfl ?_
    refine zc_Vv (pc := 23) (rest := []) C YX3_put wl_X9_89 (kX3_put H) (by decide) h2 rfl (by decide) (dX9_feed 12 rfl) rfl hu1 hu2 (Nat.le_of_ble_eq_true rfl) rfl (fun m5 H => ?_)
    refine z_aload_n (pc := 26) C (dX9_feed 13 rfl) rfl 0 rfl ?_
    refine z_getR (pc := 27) C zc9 h1 0 (by decide) rfl wf_X9_10 (dX9_feed 14 rfl) ?_
    refine z_iload_n (pc := 30) C (dX9_feed 15 rfl) rfl 2 rfl ?_
    obtain ⟨h6, H⟩ := H
    refine zc_Vv (pc := 31) (rest := []) C YX3_put wl_X9_89 (kX3_put H) (by decide) h6 rfl (by decide) (dX9_feed 16 rfl) rfl hu1 hu2 (Nat.le_of_ble_eq_true rfl) rfl (fun m8 H => ?_)
    refine z_aload_n (pc := 34) C (dX9_feed 17 rfl) rfl 0 rfl ?_
    refine z_getR (pc := 35) C zc9 h1 0 (by decide) rfl wf_X9_10 (dX9_feed 18 rfl) ?_
    refine z_iload_n (pc := 38) C (dX9_feed 19 rfl) rfl 3 rfl ?_
    obtain ⟨h9, H⟩ := H
    refine zc_Vv (pc := 39) (rest := []) C YX3_put wl_X9_89 (kX3_put H) (by decide) h9 rfl (by decide) (dX9_feed 20 rfl) rfl hu1 hu2 (Nat.le_of_ble_eq_true rfl) rfl (fun m11 H => ?_)
    refine z_aload_n (pc := 42) C (dX9_feed 21 rfl) rfl 0 rfl ?_
    refine z_getR (pc := 43) C zc9 h1 0 (by decide) rfl wf_X9_10 (dX9_feed 22 rfl) ?_
    refine z_iload (pc := 46) C (dX9_feed 23 rfl) 4 rfl ?_
    obtain ⟨h12, H⟩ := H
    refine zc_Vv (pc := 48) (rest := []) C YX3_put wl_X9_89 (kX3_put H) (by decide) h12 rfl (by decide) (dX9_feed 24 rfl) rfl hu1 hu2 (Nat.le_of_ble_eq_true rfl) rfl (fun m14 H => ?_)
    refine z_aload_n (pc := 51) C (dX9_feed 25 rfl) rfl 0 rfl ?_
    refine z_getR (pc := 52) C zc9 h1 0 (by decide) rfl wf_X9_10 (dX9_feed 26 rfl) ?_
    refine z_iload (pc := 55) C (dX9_feed 27 rfl) 5 rfl ?_
    obtain ⟨h15, H⟩ := H
    refine zc_Vv (pc := 57) (rest := []) C YX3_put wl_X9_89 (kX3_put H) (by decide) h15 rfl (by decide) (dX9_feed 28 rfl) rfl hu1 hu2 (Nat.le_of_ble_eq_true rfl) rfl (fun m17 H => ?_)
    refine z_aload_n (pc := 60) C (dX9_feed 29 rfl) rfl 0 rfl ?_
    refine z_getR (pc := 61) C zc9 h1 0 (by decide) rfl wf_X9_10 (dX9_feed 30 rfl) ?_
    obtain ⟨h18, H⟩ := H
    refine z_getI (pc := 64) C zc3 h18 1 (by decide) rfl wf_X9_86 (dX9_feed 31 rfl) ?_
    exact z_iret (pc := 67) C hr hu1 hu2 (dX9_feed 32 rfl) ⟨rfl, _, rfl, H⟩
  · replace H := H.2 c3
    refine z_iconst (pc := 16) (v := (-1)) C (dX9_feed 7 rfl) (by decide) ?_
    exact z_iret (pc := 17) C hr hu1 hu2 (dX9_feed 8 rfl) ⟨rfl, _, rfl, H⟩
def wX9_refuse (t : zT) (m : zM) (a : Nat) (p1 : Int32) (Q : Int32 → zM → Prop) : Prop := (tK t a = 9 ∧ (Q (-1) (pI m a 14 p1)))
set_option maxHeartbeats 4000000 in
set_option maxRecDepth 20000 in
theorem kX9_refuse {l : Launch} {t : zT} {m : zM} {a : Nat} {p1 : Int32} {Q : Int32 → zM → Prop} (H : wX9_refuse t m a p1 Q) : zMet l yX9_refuse cX9_refuse 2 (some .int) 0 0 0 t m [.ref a, .int p1] (zPi t Q) := by
  refine zmet (by decide +kernel) (Nat.le_of_ble_eq_true rfl) ?_
  intro p e s mt args below meth c g C hr hm
  unfold wX9_refuse at H
  have hu1 : ((0, 0) : Nat × Nat).1 ≤ 0 := Nat.le_refl 0
  have hu2 : ((0, 0) : Nat × Nat).2 ≤ 0 := Nat.le_refl 0
  refine z_aload_n (pc := 0) C (dX9_refuse 0 rfl) rfl 0 rfl ?_
  refine z_iload_n (pc := 1) C (dX9_refuse 1 rfl) rfl 1 rfl ?_
  obtain ⟨h1, H⟩ := H
  refine z_putI (pc := 2) C zc9 h1 14 (by decide) rfl rfl wf_X9_148 (dX9_refuse 2 rfl) ?_
  refine z_iconst (pc := 5) (v := (-1)) C (dX9_refuse 3 rfl) (by decide) ?_
  exact z_iret (pc := 6) C hr hu1 hu2 (dX9_refuse 4 rfl) ⟨rfl, _, rfl, H⟩
def wX9_keepFacts_J48 (t : zT) (m : zM) (a_0 : Nat) (a_1 : Nat) (x_2 : Int32) (Q : zM → Prop) (r2 : Int32 → zM → Prop) : Prop := (r2 (x_2 + 1) m)
set_option maxHeartbeats 4000000 in
set_option maxRecDepth 20000 in
theorem sX9_keepFacts_J48 {p : Program} {l : Launch} {e : Env} {s : State} {mt : MethodId} {args : Array Value} {below : List Frame} {meth : Method} {c : Code} {g : zG} {u : Nat × Nat} {mc ms : Nat} {t : zT} {m : zM} {a_0 : Nat} {a_1 : Nat} {x_2 : Int32} {Q : zM → Prop} {r2 : Int32 → zM → Prop} (C : zC p (zRm 3 mc ms) s mt args meth c g cX9_keepFacts 3 yX9_keepFacts.cls 3) (hr : meth.sig.returnType = none) (hm : meth.name = yX9_keepFacts.name) (hu1 : u.1 ≤ mc) (hu2 : u.2 ≤ ms)
    (R2 : ∀ (v0 : Int32) (m : zM), r2 v0 m → zW p l e (zRm 3 mc ms) s mt args below meth c g (MQ below (zQc g (zPv t Q)) args s mc ms (zFar g)) u 3 t m 2 [(0, .ref a_0), (1, .ref a_1), (2, .int v0)] []) (H : wX9_keepFacts_J48 t m a_0 a_1 x_2 Q r2) : zW p l e (zRm 3 mc ms) s mt args below meth c g (MQ below (zQc g (zPv t Q)) args s mc ms (zFar g)) u 3 t m 48 [(0, .ref a_0), (1, .ref a_1), (2, .int x_2)] [] := by
  unfold wX9_keepFacts_J48 at H
  refine z_iinc (pc := 48) (i := 2) (v := x_2 + 1) (lv2 := [(2, .int (x_2 + 1)), (0, .ref a_0), (1, .ref a_1)]) C (dX9_keepFacts 24 rfl) 2 rfl (by rfl) (by decide) rfl ?_
  refine z_goto (pc := 51) (tgt := 2) C (dX9_keepFacts 25 rfl) (by decide) ?_
  refine z_sub [1, 2, 0] rfl ?_
  exact R2 (x_2 + 1) m H
def wX9_keepFacts_L2 (t : zT) (a_0 : Nat) (a_1 : Nat) (Q : zM → Prop) (k54 : zM → Prop) : Nat → Int32 → zM → Prop
  | 0, _, _ => False
  | n + 1, x_2, m => (tK t a_0 = 9 ∧ (tK t (gR m a_0 3) = 5 ∧ (((gI m (gR m a_0 3) 0) ≤ x_2 → (k54 m)) ∧ (¬ (gI m (gR m a_0 3) 0) ≤ x_2 → (tK t (gR m a_0 6) = 7 ∧ (wX7_isFact t m (gR m a_0 6) x_2 (fun r5 m6 => ((r5 = 0 → (wX9_keepFacts_J48 t m6 a_0 a_1 x_2 Q (wX9_keepFacts_L2 t a_0 a_1 Q k54 n))) ∧ (¬ r5 = 0 → (tK t (gR m6 a_0 6) = 7 ∧ (tK t (gR m6 a_0 2) = 8 ∧ (wX8_answerIn t m6 (gR m6 a_0 2) (gI m6 (gR m6 a_0 6) 1) x_2 (fun r10 m11 => (wX8_keepOnly t m11 (gR m6 a_0 2) a_1 x_2 r10 (fun m13 => (wX9_keepFacts_J48 t m13 a_0 a_1 x_2 Q (wX9_keepFacts_L2 t a_0 a_1 Q k54 n)))))))))))))))))
set_option maxHeartbeats 4000000 in
set_option maxRecDepth 20000 in
theorem sX9_keepFacts_L2 {p : Program} {l : Launch} {e : Env} {s : State} {mt : MethodId} {args : Array Value} {below : List Frame} {meth : Method} {c : Code} {g : zG} {u : Nat × Nat} {mc ms : Nat} {t : zT} {a_0 : Nat} {a_1 : Nat} {Q : zM → Prop} {k54 : zM → Prop} (C : zC p (zRm 3 mc ms) s mt args meth c g cX9_keepFacts 3 yX9_keepFacts.cls 3) (hr : meth.sig.returnType = none) (hm : meth.name = yX9_keepFacts.name) (hu1 : u.1 ≤ mc) (hu2 : u.2 ≤ ms)
    (K54 : ∀ (m : zM), k54 m → zW p l e (zRm 3 mc ms) s mt args below meth c g (MQ below (zQc g (zPv t Q)) args s mc ms (zFar g)) u 3 t m 54 [] []) : ∀ (n : Nat) (x_2 : Int32) (m : zM), wX9_keepFacts_L2 t a_0 a_1 Q k54 n x_2 m → zW p l e (zRm 3 mc ms) s mt args below meth c g (MQ below (zQc g (zPv t Q)) args s mc ms (zFar g)) u 3 t m 2 [(0, .ref a_0), (1, .ref a_1), (2, .int x_2)] [] := by
  intro n
  induction n with
  | zero => intro x_2 m H; exact H.elim
  | succ n ih =>
    intro x_2 m H
    simp only [wX9_keepFacts_L2] at H
    refine z_iload_n (pc := 2) C (dX9_keepFacts 2 rfl) rfl 2 rfl ?_
    refine z_aload_n (pc := 3) C (dX9_keepFacts 3 rfl) rfl 0 rfl ?_
    obtain ⟨h1, H⟩ := H
    refine z_getR (pc := 4) C zc9 h1 3 (by decide) rfl wf_X9_34 (dX9_keepFacts 4 rfl) ?_
    obtain ⟨h2, H⟩ := H
    refine z_getI (pc := 7) C zc5 h2 0 (by decide) rfl wf_X9_112 (dX9_keepFacts 5 rfl) ?_
    refine z_icmp_ge (pc := 10) (tgt := 54) C (dX9_keepFacts 6 rfl) (by decide) (fun c3 => ?_) (fun c3 => ?_)
    · replace H := H.1 c3
      refine z_sub [] rfl ?_
      exact K54 m H
    · replace H := H.2 c3
      refine z_aload_n (pc := 13) C (dX9_keepFacts 7 rfl) rfl 0 rfl ?_
      refine z_getR (pc := 14) C zc9 h1 6 (by decide) rfl wf_X9_54 (dX9_keepFacts 8 rfl) ?_
      refine z_iload_n (pc := 17) C (dX9_keepFacts 9 rfl) rfl 2 rfl ?_
      obtain ⟨h4, H⟩ := H
      refine zc_Vi (pc := 18) (rest := []) C YX7_isFact wl_X9_393 (kX7_isFact H) (by decide) h4 rfl (by decide) (dX9_keepFacts 10 rfl) rfl hu1 hu2 (Nat.le_of_ble_eq_true rfl) rfl (fun r5 m6 H => ?_)
      refine z_if_eq (pc := 21) (tgt := 48) C (dX9_keepFacts 11 rfl) (by decide) (fun c7 => ?_) (fun c7 => ?_)
      · replace H := H.1 c7
        refine z_sub [0, 1, 2] rfl ?_
        exact sX9_keepFacts_J48 C hr hm hu1 hu2 ih H
      · replace H := H.2 c7
        refine z_aload_n (pc := 24) C (dX9_keepFacts 12 rfl) rfl 0 rfl ?_
        refine z_getR (pc := 25) C zc9 h1 2 (by decide) rfl wf_X9_27 (dX9_keepFacts 13 rfl) ?_
        refine z_aload_n (pc := 28) C (dX9_keepFacts 14 rfl) rfl 1 rfl ?_
        refine z_iload_n (pc := 29) C (dX9_keepFacts 15 rfl) rfl 2 rfl ?_
        refine z_aload_n (pc := 30) C (dX9_keepFacts 16 rfl) rfl 0 rfl ?_
        refine z_getR (pc := 31) C zc9 h1 2 (by decide) rfl wf_X9_27 (dX9_keepFacts 17 rfl) ?_
        refine z_aload_n (pc := 34) C (dX9_keepFacts 18 rfl) rfl 0 rfl ?_
        refine z_getR (pc := 35) C zc9 h1 6 (by decide) rfl wf_X9_54 (dX9_keepFacts 19 rfl) ?_
        obtain ⟨h8, H⟩ := H
        refine z_getI (pc := 38) C zc7 h8 1 (by decide) rfl wf_X9_396 (dX9_keepFacts 20 rfl) ?_
        refine z_iload_n (pc := 41) C (dX9_keepFacts 21 rfl) rfl 2 rfl ?_
        obtain ⟨h9, H⟩ := H
        refine zc_Vi (pc := 42) (rest := [.int x_2, .ref a_1, .ref (gR m6 a_0 2)]) C YX8_answerIn wl_X9_405 (kX8_answerIn H) (by decide) h9 rfl (by decide) (dX9_keepFacts 22 rfl) rfl hu1 hu2 (Nat.le_of_ble_eq_true rfl) rfl (fun r10 m11 H => ?_)
        refine zc_Vv (pc := 45) (rest := []) C YX8_keepOnly wl_X9_357 (kX8_keepOnly H) (by decide) h9 rfl (by decide) (dX9_keepFacts 23 rfl) rfl hu1 hu2 (Nat.le_of_ble_eq_true rfl) rfl (fun m13 H => ?_)
        refine z_sub [0, 1, 2] rfl ?_
        exact sX9_keepFacts_J48 C hr hm hu1 hu2 ih H
def wX9_keepFacts (t : zT) (m : zM) (a : Nat) (p1 : Nat) (Q : zM → Prop) : Prop := (∃ n15, wX9_keepFacts_L2 t a p1 Q (fun m14 => (Q m14)) n15 0 m)
set_option maxHeartbeats 4000000 in
set_option maxRecDepth 20000 in
theorem kX9_keepFacts {l : Launch} {t : zT} {m : zM} {a : Nat} {p1 : Nat} {Q : zM → Prop} (H : wX9_keepFacts t m a p1 Q) : zMet l yX9_keepFacts cX9_keepFacts 3 none 3 0 0 t m [.ref a, .ref p1] (zPv t Q) := by
  refine zmet (by decide +kernel) (Nat.le_of_ble_eq_true rfl) ?_
  intro p e s mt args below meth c g C hr hm
  unfold wX9_keepFacts at H
  have hu1 : ((0, 0) : Nat × Nat).1 ≤ 0 := Nat.le_refl 0
  have hu2 : ((0, 0) : Nat × Nat).2 ≤ 0 := Nat.le_refl 0
  refine z_iconst (pc := 0) (v := 0) C (dX9_keepFacts 0 rfl) (by decide) ?_
  refine z_istore_n (pc := 1) (i := 2) (lv2 := [(2, .int 0), (0, .ref a), (1, .ref p1)]) C (dX9_keepFacts 1 rfl) rfl (by decide) rfl ?_
  obtain ⟨n15, H⟩ := H
  refine z_sub [1, 2, 0] rfl ?_
  refine sX9_keepFacts_L2 C hr hm hu1 hu2 (fun m14 H => ?_) n15 0 m H
  exact z_vret (pc := 54) C hr hu1 hu2 (dX9_keepFacts 26 rfl) ⟨rfl, rfl, H⟩
def wX9_factsAsNumber_J57 (t : zT) (m : zM) (a_0 : Nat) (x_1 : Int32) (x_2 : Int32) (Q : Int32 → zM → Prop) (r10 : Int32 → Int32 → zM → Prop) : Prop := (r10 x_1 (x_2 + 1) m)
set_option maxHeartbeats 4000000 in
set_option maxRecDepth 20000 in
theorem sX9_factsAsNumber_J57 {p : Program} {l : Launch} {e : Env} {s : State} {mt : MethodId} {args : Array Value} {below : List Frame} {meth : Method} {c : Code} {g : zG} {u : Nat × Nat} {mc ms : Nat} {t : zT} {m : zM} {a_0 : Nat} {x_1 : Int32} {x_2 : Int32} {Q : Int32 → zM → Prop} {r10 : Int32 → Int32 → zM → Prop} (C : zC p (zRm 2 mc ms) s mt args meth c g cX9_factsAsNumber 3 yX9_factsAsNumber.cls 2) (hr : meth.sig.returnType = (some .int)) (hm : meth.name = yX9_factsAsNumber.name) (hu1 : u.1 ≤ mc) (hu2 : u.2 ≤ ms)
    (R10 : ∀ (v0 : Int32) (v1 : Int32) (m : zM), r10 v0 v1 m → zW p l e (zRm 2 mc ms) s mt args below meth c g (MQ below (zQc g (zPi t Q)) args s mc ms (zFar g)) u 3 t m 10 [(0, .ref a_0), (1, .int v0), (2, .int v1)] []) (H : wX9_factsAsNumber_J57 t m a_0 x_1 x_2 Q r10) : zW p l e (zRm 2 mc ms) s mt args below meth c g (MQ below (zQc g (zPi t Q)) args s mc ms (zFar g)) u 3 t m 57 [(0, .ref a_0), (1, .int x_1), (2, .int x_2)] [] := by
  unfold wX9_factsAsNumber_J57 at H
  refine z_iinc (pc := 57) (i := 2) (v := x_2 + 1) (lv2 := [(2, .int (x_2 + 1)), (0, .ref a_0), (1, .int x_1)]) C (dX9_factsAsNumber 32 rfl) 2 rfl (by rfl) (by decide) rfl ?_
  refine z_goto (pc := 60) (tgt := 10) C (dX9_factsAsNumber 33 rfl) (by decide) ?_
  refine z_sub [1, 2, 0] rfl ?_
  exact R10 x_1 (x_2 + 1) m H
def wX9_factsAsNumber_L10 (t : zT) (a_0 : Nat) (Q : Int32 → zM → Prop) (k63 : Int32 → zM → Prop) : Nat → Int32 → Int32 → zM → Prop
  | 0, _, _, _ => False
  | n + 1, x_1, x_2, m => (tK t a_0 = 9 ∧ (tK t (gR m a_0 3) = 5 ∧ (((gI m (gR m a_0 3) 0) ≤ x_2 → (k63 x_1 m)) ∧ (¬ (gI m (gR m a_0 3) 0) ≤ x_2 → (tK t (gR m a_0 6) = 7 ∧ (wX7_isFact t m (gR m a_0 6) x_2 (fun r8 m9 => ((r8 = 0 → (wX9_factsAsNumber_J57 t m9 a_0 x_1 x_2 Q (wX9_factsAsNumber_L10 t a_0 Q k63 n))) ∧ (¬ r8 = 0 → (tK t (gR m9 a_0 6) = 7 ∧ (tK t (gR m9 a_0 2) = 8 ∧ (wX8_answerIn t m9 (gR m9 a_0 2) (gI m9 (gR m9 a_0 6) 1) x_2 (fun r13 m14 => (∀ x15 : Int32, x15 = (x_1 ||| (r13 <<< (((8 : Int32) + ((2 : Int32) * x_2)) &&& 31))) → ((wX9_factsAsNumber_J57 t m14 a_0 x15 x_2 Q (wX9_factsAsNumber_L10 t a_0 Q k63 n)))))))))))))))))
set_option maxHeartbeats 4000000 in
set_option maxRecDepth 20000 in
theorem sX9_factsAsNumber_L10 {p : Program} {l : Launch} {e : Env} {s : State} {mt : MethodId} {args : Array Value} {below : List Frame} {meth : Method} {c : Code} {g : zG} {u : Nat × Nat} {mc ms : Nat} {t : zT} {a_0 : Nat} {Q : Int32 → zM → Prop} {k63 : Int32 → zM → Prop} (C : zC p (zRm 2 mc ms) s mt args meth c g cX9_factsAsNumber 3 yX9_factsAsNumber.cls 2) (hr : meth.sig.returnType = (some .int)) (hm : meth.name = yX9_factsAsNumber.name) (hu1 : u.1 ≤ mc) (hu2 : u.2 ≤ ms)
    (K63 : ∀ (v0 : Int32) (m : zM), k63 v0 m → zW p l e (zRm 2 mc ms) s mt args below meth c g (MQ below (zQc g (zPi t Q)) args s mc ms (zFar g)) u 3 t m 63 [(1, .int v0)] []) : ∀ (n : Nat) (x_1 : Int32) (x_2 : Int32) (m : zM), wX9_factsAsNumber_L10 t a_0 Q k63 n x_1 x_2 m → zW p l e (zRm 2 mc ms) s mt args below meth c g (MQ below (zQc g (zPi t Q)) args s mc ms (zFar g)) u 3 t m 10 [(0, .ref a_0), (1, .int x_1), (2, .int x_2)] [] := by
  intro n
  induction n with
  | zero => intro x_1 x_2 m H; exact H.elim
  | succ n ih =>
    intro x_1 x_2 m H
    simp only [wX9_factsAsNumber_L10] at H
    refine z_iload_n (pc := 10) C (dX9_factsAsNumber 6 rfl) rfl 2 rfl ?_
    refine z_aload_n (pc := 11) C (dX9_factsAsNumber 7 rfl) rfl 0 rfl ?_
    obtain ⟨h4, H⟩ := H
    refine z_getR (pc := 12) C zc9 h4 3 (by decide) rfl wf_X9_34 (dX9_factsAsNumber 8 rfl) ?_
    obtain ⟨h5, H⟩ := H
    refine z_getI (pc := 15) C zc5 h5 0 (by decide) rfl wf_X9_112 (dX9_factsAsNumber 9 rfl) ?_
    refine z_icmp_ge (pc := 18) (tgt := 63) C (dX9_factsAsNumber 10 rfl) (by decide) (fun c6 => ?_) (fun c6 => ?_)
    · replace H := H.1 c6
      refine z_sub [1] rfl ?_
      exact K63 x_1 m H
    · replace H := H.2 c6
      refine z_aload_n (pc := 21) C (dX9_factsAsNumber 11 rfl) rfl 0 rfl ?_
      refine z_getR (pc := 22) C zc9 h4 6 (by decide) rfl wf_X9_54 (dX9_factsAsNumber 12 rfl) ?_
      refine z_iload_n (pc := 25) C (dX9_factsAsNumber 13 rfl) rfl 2 rfl ?_
      obtain ⟨h7, H⟩ := H
      refine zc_Vi (pc := 26) (rest := []) C YX7_isFact wl_X9_393 (kX7_isFact H) (by decide) h7 rfl (by decide) (dX9_factsAsNumber 14 rfl) rfl hu1 hu2 (Nat.le_of_ble_eq_true rfl) rfl (fun r8 m9 H => ?_)
      refine z_if_eq (pc := 29) (tgt := 57) C (dX9_factsAsNumber 15 rfl) (by decide) (fun c10 => ?_) (fun c10 => ?_)
      · replace H := H.1 c10
        refine z_sub [0, 1, 2] rfl ?_
        exact sX9_factsAsNumber_J57 C hr hm hu1 hu2 ih H
      · replace H := H.2 c10
        refine z_iload_n (pc := 32) C (dX9_factsAsNumber 16 rfl) rfl 1 rfl ?_
        refine z_aload_n (pc := 33) C (dX9_factsAsNumber 17 rfl) rfl 0 rfl ?_
        refine z_getR (pc := 34) C zc9 h4 2 (by decide) rfl wf_X9_27 (dX9_factsAsNumber 18 rfl) ?_
        refine z_aload_n (pc := 37) C (dX9_factsAsNumber 19 rfl) rfl 0 rfl ?_
        refine z_getR (pc := 38) C zc9 h4 6 (by decide) rfl wf_X9_54 (dX9_factsAsNumber 20 rfl) ?_
        obtain ⟨h11, H⟩ := H
        refine z_getI (pc := 41) C zc7 h11 1 (by decide) rfl wf_X9_396 (dX9_factsAsNumber 21 rfl) ?_
        refine z_iload_n (pc := 44) C (dX9_factsAsNumber 22 rfl) rfl 2 rfl ?_
        obtain ⟨h12, H⟩ := H
        refine zc_Vi (pc := 45) (rest := [.int x_1]) C YX8_answerIn wl_X9_405 (kX8_answerIn H) (by decide) h12 rfl (by decide) (dX9_factsAsNumber 23 rfl) rfl hu1 hu2 (Nat.le_of_ble_eq_true rfl) rfl (fun r13 m14 H => ?_)
        refine z_bipush (pc := 48) (v := 8) C (dX9_factsAsNumber 24 rfl) (by decide) ?_
        refine z_iconst (pc := 50) (v := 2) C (dX9_factsAsNumber 25 rfl) (by decide) ?_
        refine z_iload_n (pc := 51) C (dX9_factsAsNumber 26 rfl) rfl 2 rfl ?_
        refine z_imul (pc := 52) C (dX9_factsAsNumber 27 rfl) ?_
        refine z_iadd (pc := 53) C (dX9_factsAsNumber 28 rfl) ?_
        refine z_ishl (pc := 54) C (dX9_factsAsNumber 29 rfl) ?_
        refine z_ior (pc := 55) C (dX9_factsAsNumber 30 rfl) ?_
        refine z_int (fun x15 hx15 => ?_)
        replace H := H x15 hx15
        refine z_istore_n (pc := 56) (i := 1) (lv2 := [(1, .int x15), (0, .ref a_0), (2, .int x_2)]) C (dX9_factsAsNumber 31 rfl) rfl (by decide) rfl ?_
        refine z_sub [1, 0, 2] rfl ?_
        exact sX9_factsAsNumber_J57 C hr hm hu1 hu2 ih H
def wX9_factsAsNumber (t : zT) (m : zM) (a : Nat) (Q : Int32 → zM → Prop) : Prop := (tK t a = 9 ∧ (tK t (gR m a 6) = 7 ∧ (∀ x3 : Int32, x3 = (gI m (gR m a 6) 2) → ((∃ n18, wX9_factsAsNumber_L10 t a Q (fun v16 m17 => (Q v16 m17)) n18 x3 0 m)))))
set_option maxHeartbeats 4000000 in
set_option maxRecDepth 20000 in
theorem kX9_factsAsNumber {l : Launch} {t : zT} {m : zM} {a : Nat} {Q : Int32 → zM → Prop} (H : wX9_factsAsNumber t m a Q) : zMet l yX9_factsAsNumber cX9_factsAsNumber 3 (some .int) 2 0 0 t m [.ref a] (zPi t Q) := by
  refine zmet (by decide +kernel) (Nat.le_of_ble_eq_true rfl) ?_
  intro p e s mt args below meth c g C hr hm
  unfold wX9_factsAsNumber at H
  have hu1 : ((0, 0) : Nat × Nat).1 ≤ 0 := Nat.le_refl 0
  have hu2 : ((0, 0) : Nat × Nat).2 ≤ 0 := Nat.le_refl 0
  refine z_aload_n (pc := 0) C (dX9_factsAsNumber 0 rfl) rfl 0 rfl ?_
  obtain ⟨h1, H⟩ := H
  refine z_getR (pc := 1) C zc9 h1 6 (by decide) rfl wf_X9_54 (dX9_factsAsNumber 1 rfl) ?_
  obtain ⟨h2, H⟩ := H
  refine z_getI (pc := 4) C zc7 h2 2 (by decide) rfl wf_X9_399 (dX9_factsAsNumber 2 rfl) ?_
  refine z_int (fun x3 hx3 => ?_)
  replace H := H x3 hx3
  refine z_istore_n (pc := 7) (i := 1) (lv2 := [(1, .int x3), (0, .ref a)]) C (dX9_factsAsNumber 3 rfl) rfl (by decide) rfl ?_
  refine z_iconst (pc := 8) (v := 0) C (dX9_factsAsNumber 4 rfl) (by decide) ?_
  refine z_istore_n (pc := 9) (i := 2) (lv2 := [(2, .int 0), (1, .int x3), (0, .ref a)]) C (dX9_factsAsNumber 5 rfl) rfl (by decide) rfl ?_
  obtain ⟨n18, H⟩ := H
  refine z_sub [2, 1, 0] rfl ?_
  refine sX9_factsAsNumber_L10 C hr hm hu1 hu2 (fun v16 m17 H => ?_) n18 x3 0 m H
  refine z_iload_n (pc := 63) C (dX9_factsAsNumber 34 rfl) rfl 0 rfl ?_
  exact z_iret (pc := 64) C hr hu1 hu2 (dX9_factsAsNumber 35 rfl) ⟨rfl, _, rfl, H⟩
def wX9_reckonWorlds (t : zT) (m : zM) (a : Nat) (Q : zM → Prop) : Prop := (tK t a = 9 ∧ (tK t (gR m a 8) = 4 ∧ (wX4_copy t m (gR m a 8) (gR m a 7) (fun m4 => (wX9_keepFacts t m4 a (gR m4 a 8) (fun m6 => (tK t (gR m6 a 5) = 1 ∧ (wX9_factsAsNumber t (pI (pI m6 (gR m6 a 5) 0 0) a 12 (-2)) a (fun r8 m9 => (Q (pI m9 a 13 r8)))))))))))
set_option maxHeartbeats 4000000 in
set_option maxRecDepth 20000 in
theorem kX9_reckonWorlds {l : Launch} {t : zT} {m : zM} {a : Nat} {Q : zM → Prop} (H : wX9_reckonWorlds t m a Q) : zMet l yX9_reckonWorlds cX9_reckonWorlds 1 none 4 0 0 t m [.ref a] (zPv t Q) := by
  refine zmet (by decide +kernel) (Nat.le_of_ble_eq_true rfl) ?_
  intro p e s mt args below meth c g C hr hm
  unfold wX9_reckonWorlds at H
  have hu1 : ((0, 0) : Nat × Nat).1 ≤ 0 := Nat.le_refl 0
  have hu2 : ((0, 0) : Nat × Nat).2 ≤ 0 := Nat.le_refl 0
  refine z_aload_n (pc := 0) C (dX9_reckonWorlds 0 rfl) rfl 0 rfl ?_
  obtain ⟨h1, H⟩ := H
  refine z_getR (pc := 1) C zc9 h1 8 (by decide) rfl wf_X9_65 (dX9_reckonWorlds 1 rfl) ?_
  refine z_aload_n (pc := 4) C (dX9_reckonWorlds 2 rfl) rfl 0 rfl ?_
  refine z_getR (pc := 5) C zc9 h1 7 (by decide) rfl wf_X9_61 (dX9_reckonWorlds 3 rfl) ?_
  obtain ⟨h2, H⟩ := H
  refine zc_Vv (pc := 8) (rest := []) C YX4_copy wl_X9_354 (kX4_copy H) (by decide) h2 rfl (by decide) (dX9_reckonWorlds 4 rfl) rfl hu1 hu2 (Nat.le_of_ble_eq_true rfl) rfl (fun m4 H => ?_)
  refine z_aload_n (pc := 11) C (dX9_reckonWorlds 5 rfl) rfl 0 rfl ?_
  refine z_aload_n (pc := 12) C (dX9_reckonWorlds 6 rfl) rfl 0 rfl ?_
  refine z_getR (pc := 13) C zc9 h1 8 (by decide) rfl wf_X9_65 (dX9_reckonWorlds 7 rfl) ?_
  refine zc_Vv (pc := 16) (rest := []) C YX9_keepFacts wl_X9_312 (kX9_keepFacts H) (by decide) h1 rfl (by decide) (dX9_reckonWorlds 8 rfl) rfl hu1 hu2 (Nat.le_of_ble_eq_true rfl) rfl (fun m6 H => ?_)
  refine z_aload_n (pc := 19) C (dX9_reckonWorlds 9 rfl) rfl 0 rfl ?_
  refine z_getR (pc := 20) C zc9 h1 5 (by decide) rfl wf_X9_47 (dX9_reckonWorlds 10 rfl) ?_
  refine z_iconst (pc := 23) (v := 0) C (dX9_reckonWorlds 11 rfl) (by decide) ?_
  obtain ⟨h7, H⟩ := H
  refine z_putZ (pc := 24) C zc1 h7 0 (by decide) rfl rfl wf_X9_423 (dX9_reckonWorlds 12 rfl) (by decide) ?_
  refine z_aload_n (pc := 27) C (dX9_reckonWorlds 13 rfl) rfl 0 rfl ?_
  refine z_bipush (pc := 28) (v := (-2)) C (dX9_reckonWorlds 14 rfl) (by decide) ?_
  refine z_putI (pc := 30) C zc9 h1 12 (by decide) rfl rfl wf_X9_82 (dX9_reckonWorlds 15 rfl) ?_
  refine z_aload_n (pc := 33) C (dX9_reckonWorlds 16 rfl) rfl 0 rfl ?_
  refine z_aload_n (pc := 34) C (dX9_reckonWorlds 17 rfl) rfl 0 rfl ?_
  refine zc_Vi (pc := 35) (rest := [.ref a]) C YX9_factsAsNumber wl_X9_417 (kX9_factsAsNumber H) (by decide) h1 rfl (by decide) (dX9_reckonWorlds 18 rfl) rfl hu1 hu2 (Nat.le_of_ble_eq_true rfl) rfl (fun r8 m9 H => ?_)
  refine z_putI (pc := 38) C zc9 h1 13 (by decide) rfl rfl wf_X9_420 (dX9_reckonWorlds 19 rfl) ?_
  exact z_vret (pc := 41) C hr hu1 hu2 (dX9_reckonWorlds 20 rfl) ⟨rfl, rfl, H⟩
def wX9_openSchool (t : zT) (m : zM) (a : Nat) (Q : zM → Prop) : Prop := (tK t a = 9 ∧ (∀ a2 : Nat, a2 = (gR m a 3) → ((tK t (gR m a 0) = 3 ∧ (tK t (gR (pR m a 3 (gR m (gR m a 0) 4)) a 0) = 3 ∧ (tK t (gR (pR (pR m a 3 (gR m (gR m a 0) 4)) (gR (pR m a 3 (gR m (gR m a 0) 4)) a 0) 4 a2) a 2) = 8 ∧ (wX8_build t (pR (pR m a 3 (gR m (gR m a 0) 4)) (gR (pR m a 3 (gR m (gR m a 0) 4)) a 0) 4 a2) (gR (pR (pR m a 3 (gR m (gR m a 0) 4)) (gR (pR m a 3 (gR m (gR m a 0) 4)) a 0) 4 a2) a 2) (gR (pR (pR m a 3 (gR m (gR m a 0) 4)) (gR (pR m a 3 (gR m (gR m a 0) 4)) a 0) 4 a2) a 3) (fun m7 => (tK t (gR m7 a 3) = 5 ∧ (wX5_allSayings t m7 (gR m7 a 3) (fun r9 m10 => (tK t (gR m10 a 3) = 5 ∧ (tK t (gR m7 a 1) = 0 ∧ (wX0_judge t m10 (gR m7 a 1) r9 (gI m10 (gR m10 a 3) 12) (gR m10 a 7) (fun m14 => (tK t (gR m14 a 4) = 2 ∧ (tK t (gR m14 a 6) = 7 ∧ (wX7_begin t (pI m14 (gR m14 a 4) 1 0) (gR m14 a 6) (fun m18 => (wX9_reckonWorlds t m18 a (fun m20 => (Q m20))))))))))))))))))))))
set_option maxHeartbeats 4000000 in
set_option maxRecDepth 20000 in
theorem kX9_openSchool {l : Launch} {t : zT} {m : zM} {a : Nat} {Q : zM → Prop} (H : wX9_openSchool t m a Q) : zMet l yX9_openSchool cX9_openSchool 2 none 5 0 0 t m [.ref a] (zPv t Q) := by
  refine zmet (by decide +kernel) (Nat.le_of_ble_eq_true rfl) ?_
  intro p e s mt args below meth c g C hr hm
  unfold wX9_openSchool at H
  have hu1 : ((0, 0) : Nat × Nat).1 ≤ 0 := Nat.le_refl 0
  have hu2 : ((0, 0) : Nat × Nat).2 ≤ 0 := Nat.le_refl 0
  refine z_aload_n (pc := 0) C (dX9_openSchool 0 rfl) rfl 0 rfl ?_
  obtain ⟨h1, H⟩ := H
  refine z_getR (pc := 1) C zc9 h1 3 (by decide) rfl wf_X9_34 (dX9_openSchool 1 rfl) ?_
  refine z_ref (fun a2 ha2 => ?_)
  replace H := H a2 ha2
  refine z_astore_n (pc := 4) (i := 1) (lv2 := [(1, .ref a2), (0, .ref a)]) C (dX9_openSchool 2 rfl) rfl (by decide) rfl ?_
  refine z_aload_n (pc := 5) C (dX9_openSchool 3 rfl) rfl 1 rfl ?_
  refine z_aload_n (pc := 6) C (dX9_openSchool 4 rfl) rfl 1 rfl ?_
  refine z_getR (pc := 7) C zc9 h1 0 (by decide) rfl wf_X9_10 (dX9_openSchool 5 rfl) ?_
  obtain ⟨h3, H⟩ := H
  refine z_getR (pc := 10) C zc3 h3 4 (by decide) rfl wf_X9_120 (dX9_openSchool 6 rfl) ?_
  refine z_putR (pc := 13) C zc9 h1 3 (by decide) rfl rfl wf_X9_34 (dX9_openSchool 7 rfl) ?_
  refine z_aload_n (pc := 16) C (dX9_openSchool 8 rfl) rfl 1 rfl ?_
  refine z_getR (pc := 17) C zc9 h1 0 (by decide) rfl wf_X9_10 (dX9_openSchool 9 rfl) ?_
  refine z_aload_n (pc := 20) C (dX9_openSchool 10 rfl) rfl 0 rfl ?_
  obtain ⟨h4, H⟩ := H
  refine z_putR (pc := 21) C zc3 h4 4 (by decide) rfl rfl wf_X9_120 (dX9_openSchool 11 rfl) ?_
  refine z_aload_n (pc := 24) C (dX9_openSchool 12 rfl) rfl 1 rfl ?_
  refine z_getR (pc := 25) C zc9 h1 2 (by decide) rfl wf_X9_27 (dX9_openSchool 13 rfl) ?_
  refine z_aload_n (pc := 28) C (dX9_openSchool 14 rfl) rfl 1 rfl ?_
  refine z_getR (pc := 29) C zc9 h1 3 (by decide) rfl wf_X9_34 (dX9_openSchool 15 rfl) ?_
  obtain ⟨h5, H⟩ := H
  refine zc_Vv (pc := 32) (rest := []) C YX8_build wl_X9_123 (kX8_build H) (by decide) h5 rfl (by decide) (dX9_openSchool 16 rfl) rfl hu1 hu2 (Nat.le_of_ble_eq_true rfl) rfl (fun m7 H => ?_)
  refine z_aload_n (pc := 35) C (dX9_openSchool 17 rfl) rfl 1 rfl ?_
  refine z_getR (pc := 36) C zc9 h1 1 (by decide) rfl wf_X9_19 (dX9_openSchool 18 rfl) ?_
  refine z_aload_n (pc := 39) C (dX9_openSchool 19 rfl) rfl 1 rfl ?_
  refine z_getR (pc := 40) C zc9 h1 3 (by decide) rfl wf_X9_34 (dX9_openSchool 20 rfl) ?_
  obtain ⟨h8, H⟩ := H
  refine zc_Vi (pc := 43) (rest := [.ref (gR m7 a 1)]) C YX5_allSayings wl_X9_127 (kX5_allSayings H) (by decide) h8 rfl (by decide) (dX9_openSchool 21 rfl) rfl hu1 hu2 (Nat.le_of_ble_eq_true rfl) rfl (fun r9 m10 H => ?_)
  refine z_aload_n (pc := 46) C (dX9_openSchool 22 rfl) rfl 1 rfl ?_
  refine z_getR (pc := 47) C zc9 h1 3 (by decide) rfl wf_X9_34 (dX9_openSchool 23 rfl) ?_
  obtain ⟨h11, H⟩ := H
  refine z_getI (pc := 50) C zc5 h11 12 (by decide) rfl wf_X9_131 (dX9_openSchool 24 rfl) ?_
  refine z_aload_n (pc := 53) C (dX9_openSchool 25 rfl) rfl 1 rfl ?_
  refine z_getR (pc := 54) C zc9 h1 7 (by decide) rfl wf_X9_61 (dX9_openSchool 26 rfl) ?_
  obtain ⟨h12, H⟩ := H
  refine zc_Vv (pc := 57) (rest := []) C YX0_judge wl_X9_134 (kX0_judge H) (by decide) h12 rfl (by decide) (dX9_openSchool 27 rfl) rfl hu1 hu2 (Nat.le_of_ble_eq_true rfl) rfl (fun m14 H => ?_)
  refine z_aload_n (pc := 60) C (dX9_openSchool 28 rfl) rfl 1 rfl ?_
  refine z_getR (pc := 61) C zc9 h1 4 (by decide) rfl wf_X9_40 (dX9_openSchool 29 rfl) ?_
  refine z_iconst (pc := 64) (v := 0) C (dX9_openSchool 30 rfl) (by decide) ?_
  obtain ⟨h15, H⟩ := H
  refine z_putZ (pc := 65) C zc2 h15 1 (by decide) rfl rfl wf_X9_138 (dX9_openSchool 31 rfl) (by decide) ?_
  refine z_aload_n (pc := 68) C (dX9_openSchool 32 rfl) rfl 1 rfl ?_
  refine z_getR (pc := 69) C zc9 h1 6 (by decide) rfl wf_X9_54 (dX9_openSchool 33 rfl) ?_
  obtain ⟨h16, H⟩ := H
  refine zc_Vv (pc := 72) (rest := []) C YX7_begin wl_X9_142 (kX7_begin H) (by decide) h16 rfl (by decide) (dX9_openSchool 34 rfl) rfl hu1 hu2 (Nat.le_of_ble_eq_true rfl) rfl (fun m18 H => ?_)
  refine z_aload_n (pc := 75) C (dX9_openSchool 35 rfl) rfl 1 rfl ?_
  refine zc_Vv (pc := 76) (rest := []) C YX9_reckonWorlds wl_X9_145 (kX9_reckonWorlds H) (by decide) h1 rfl (by decide) (dX9_openSchool 36 rfl) rfl hu1 hu2 (Nat.le_of_ble_eq_true rfl) rfl (fun m20 H => ?_)
  exact z_vret (pc := 79) C hr hu1 hu2 (dX9_openSchool 37 rfl) ⟨rfl, rfl, H⟩
def wX9_accept (t : zT) (m : zM) (a : Nat) (p1 : Int32) (Q : Int32 → zM → Prop) : Prop := (tK t a = 9 ∧ (Q p1 (pI m a 14 0)))
set_option maxHeartbeats 4000000 in
set_option maxRecDepth 20000 in
theorem kX9_accept {l : Launch} {t : zT} {m : zM} {a : Nat} {p1 : Int32} {Q : Int32 → zM → Prop} (H : wX9_accept t m a p1 Q) : zMet l yX9_accept cX9_accept 2 (some .int) 0 0 0 t m [.ref a, .int p1] (zPi t Q) := by
  refine zmet (by decide +kernel) (Nat.le_of_ble_eq_true rfl) ?_
  intro p e s mt args below meth c g C hr hm
  unfold wX9_accept at H
  have hu1 : ((0, 0) : Nat × Nat).1 ≤ 0 := Nat.le_refl 0
  have hu2 : ((0, 0) : Nat × Nat).2 ≤ 0 := Nat.le_refl 0
  refine z_aload_n (pc := 0) C (dX9_accept 0 rfl) rfl 0 rfl ?_
  refine z_iconst (pc := 1) (v := 0) C (dX9_accept 1 rfl) (by decide) ?_
  obtain ⟨h1, H⟩ := H
  refine z_putI (pc := 2) C zc9 h1 14 (by decide) rfl rfl wf_X9_148 (dX9_accept 2 rfl) ?_
  refine z_iload_n (pc := 5) C (dX9_accept 3 rfl) rfl 1 rfl ?_
  exact z_iret (pc := 6) C hr hu1 hu2 (dX9_accept 4 rfl) ⟨rfl, _, rfl, H⟩
def wX9_school_J15 (t : zT) (m : zM) (a_0 : Nat) (Q : Int32 → zM → Prop) : Prop := (tK t a_0 = 9 ∧ (wX9_refuse t m a_0 2 (fun r3 m4 => (Q r3 m4))))
set_option maxHeartbeats 4000000 in
set_option maxRecDepth 20000 in
theorem sX9_school_J15 {p : Program} {l : Launch} {e : Env} {s : State} {mt : MethodId} {args : Array Value} {below : List Frame} {meth : Method} {c : Code} {g : zG} {u : Nat × Nat} {mc ms : Nat} {t : zT} {m : zM} {a_0 : Nat} {Q : Int32 → zM → Prop} (C : zC p (zRm 6 mc ms) s mt args meth c g cX9_school 2 yX9_school.cls 6) (hr : meth.sig.returnType = (some .int)) (hm : meth.name = yX9_school.name) (hu1 : u.1 ≤ mc) (hu2 : u.2 ≤ ms) (H : wX9_school_J15 t m a_0 Q) : zW p l e (zRm 6 mc ms) s mt args below meth c g (MQ below (zQc g (zPi t Q)) args s mc ms (zFar g)) u 2 t m 15 [(0, .ref a_0)] [] := by
  unfold wX9_school_J15 at H
  refine z_aload_n (pc := 15) C (dX9_school 7 rfl) rfl 0 rfl ?_
  refine z_iconst (pc := 16) (v := 2) C (dX9_school 8 rfl) (by decide) ?_
  obtain ⟨h2, H⟩ := H
  refine zc_Vi (pc := 17) (rest := []) C YX9_refuse wl_X9_93 (kX9_refuse H) (by decide) h2 rfl (by decide) (dX9_school 9 rfl) rfl hu1 hu2 (Nat.le_of_ble_eq_true rfl) rfl (fun r3 m4 H => ?_)
  exact z_iret (pc := 20) C hr hu1 hu2 (dX9_school 10 rfl) ⟨rfl, _, rfl, H⟩
def wX9_school (t : zT) (m : zM) (a : Nat) (p1 : Int32) (Q : Int32 → zM → Prop) : Prop := ((p1 < 0 → (wX9_school_J15 t m a Q)) ∧ (¬ p1 < 0 → (tK t a = 9 ∧ (tK t (gR m a 0) = 3 ∧ ((p1 ≤ (gI m (gR m a 0) 1) → (wX3_read t m (gR m a 0) p1 (fun r8 m9 => (((gI (pI m9 a 15 r8) a 15) = 0 → (wX9_openSchool t (pI m9 a 15 r8) a (fun m12 => (tK t (gR m12 a 3) = 5 ∧ (wX9_accept t m12 a (gI m12 (gR m12 a 3) 0) (fun r14 m15 => (Q r14 m15))))))) ∧ (¬ (gI (pI m9 a 15 r8) a 15) = 0 → (tK t (gR m9 a 0) = 3 ∧ (wX9_refuse t (pI (pI m9 a 15 r8) a 16 (gI (pI m9 a 15 r8) (gR m9 a 0) 5)) a 4 (fun r17 m18 => (Q r17 m18))))))))) ∧ (¬ p1 ≤ (gI m (gR m a 0) 1) → (wX9_school_J15 t m a Q)))))))
set_option maxHeartbeats 4000000 in
set_option maxRecDepth 20000 in
theorem kX9_school {l : Launch} {t : zT} {m : zM} {a : Nat} {p1 : Int32} {Q : Int32 → zM → Prop} (H : wX9_school t m a p1 Q) : zMet l yX9_school cX9_school 2 (some .int) 6 0 0 t m [.ref a, .int p1] (zPi t Q) := by
  refine zmet (by decide +kernel) (Nat.le_of_ble_eq_true rfl) ?_
  intro p e s mt args below meth c g C hr hm
  unfold wX9_school at H
  have hu1 : ((0, 0) : Nat × Nat).1 ≤ 0 := Nat.le_refl 0
  have hu2 : ((0, 0) : Nat × Nat).2 ≤ 0 := Nat.le_refl 0
  refine z_iload_n (pc := 0) C (dX9_school 0 rfl) rfl 1 rfl ?_
  refine z_if_lt (pc := 1) (tgt := 15) C (dX9_school 1 rfl) (by decide) (fun c1 => ?_) (fun c1 => ?_)
  · replace H := H.1 c1
    refine z_sub [0] rfl ?_
    exact sX9_school_J15 C hr hm hu1 hu2 H
  · replace H := H.2 c1
    refine z_iload_n (pc := 4) C (dX9_school 2 rfl) rfl 1 rfl ?_
    refine z_aload_n (pc := 5) C (dX9_school 3 rfl) rfl 0 rfl ?_
    obtain ⟨h5, H⟩ := H
    refine z_getR (pc := 6) C zc9 h5 0 (by decide) rfl wf_X9_10 (dX9_school 4 rfl) ?_
    obtain ⟨h6, H⟩ := H
    refine z_getI (pc := 9) C zc3 h6 1 (by decide) rfl wf_X9_86 (dX9_school 5 rfl) ?_
    refine z_icmp_le (pc := 12) (tgt := 21) C (dX9_school 6 rfl) (by decide) (fun c7 => ?_) (fun c7 => ?_)
    · replace H := H.1 c7
      refine z_aload_n (pc := 21) C (dX9_school 11 rfl) rfl 0 rfl ?_
      refine z_aload_n (pc := 22) C (dX9_school 12 rfl) rfl 0 rfl ?_
      refine z_getR (pc := 23) C zc9 h5 0 (by decide) rfl wf_X9_10 (dX9_school 13 rfl) ?_
      refine z_iload_n (pc := 26) C (dX9_school 14 rfl) rfl 1 rfl ?_
      refine zc_Vi (pc := 27) (rest := [.ref a]) C YX3_read wl_X9_97 (kX3_read H) (by decide) h6 rfl (by decide) (dX9_school 15 rfl) rfl hu1 hu2 (Nat.le_of_ble_eq_true rfl) rfl (fun r8 m9 H => ?_)
      refine z_putI (pc := 30) C zc9 h5 15 (by decide) rfl rfl wf_X9_100 (dX9_school 16 rfl) ?_
      refine z_aload_n (pc := 33) C (dX9_school 17 rfl) rfl 0 rfl ?_
      refine z_getI (pc := 34) C zc9 h5 15 (by decide) rfl wf_X9_100 (dX9_school 18 rfl) ?_
      refine z_if_eq (pc := 37) (tgt := 57) C (dX9_school 19 rfl) (by decide) (fun c10 => ?_) (fun c10 => ?_)
      · replace H := H.1 c10
        refine z_aload_n (pc := 57) C (dX9_school 29 rfl) rfl 0 rfl ?_
        refine zc_Vv (pc := 58) (rest := []) C YX9_openSchool wl_X9_109 (kX9_openSchool H) (by decide) h5 rfl (by decide) (dX9_school 30 rfl) rfl hu1 hu2 (Nat.le_of_ble_eq_true rfl) rfl (fun m12 H => ?_)
        refine z_aload_n (pc := 61) C (dX9_school 31 rfl) rfl 0 rfl ?_
        refine z_aload_n (pc := 62) C (dX9_school 32 rfl) rfl 0 rfl ?_
        refine z_getR (pc := 63) C zc9 h5 3 (by decide) rfl wf_X9_34 (dX9_school 33 rfl) ?_
        obtain ⟨h13, H⟩ := H
        refine z_getI (pc := 66) C zc5 h13 0 (by decide) rfl wf_X9_112 (dX9_school 34 rfl) ?_
        refine zc_Vi (pc := 69) (rest := []) C YX9_accept wl_X9_117 (kX9_accept H) (by decide) h5 rfl (by decide) (dX9_school 35 rfl) rfl hu1 hu2 (Nat.le_of_ble_eq_true rfl) rfl (fun r14 m15 H => ?_)
        exact z_iret (pc := 72) C hr hu1 hu2 (dX9_school 36 rfl) ⟨rfl, _, rfl, H⟩
      · replace H := H.2 c10
        refine z_aload_n (pc := 40) C (dX9_school 20 rfl) rfl 0 rfl ?_
        refine z_aload_n (pc := 41) C (dX9_school 21 rfl) rfl 0 rfl ?_
        refine z_getR (pc := 42) C zc9 h5 0 (by decide) rfl wf_X9_10 (dX9_school 22 rfl) ?_
        obtain ⟨h16, H⟩ := H
        refine z_getI (pc := 45) C zc3 h16 5 (by decide) rfl wf_X9_103 (dX9_school 23 rfl) ?_
        refine z_putI (pc := 48) C zc9 h5 16 (by decide) rfl rfl wf_X9_106 (dX9_school 24 rfl) ?_
        refine z_aload_n (pc := 51) C (dX9_school 25 rfl) rfl 0 rfl ?_
        refine z_iconst (pc := 52) (v := 4) C (dX9_school 26 rfl) (by decide) ?_
        refine zc_Vi (pc := 53) (rest := []) C YX9_refuse wl_X9_93 (kX9_refuse H) (by decide) h5 rfl (by decide) (dX9_school 27 rfl) rfl hu1 hu2 (Nat.le_of_ble_eq_true rfl) rfl (fun r17 m18 H => ?_)
        exact z_iret (pc := 56) C hr hu1 hu2 (dX9_school 28 rfl) ⟨rfl, _, rfl, H⟩
    · replace H := H.2 c7
      refine z_sub [0] rfl ?_
      exact sX9_school_J15 C hr hm hu1 hu2 H
def wX9_fault (t : zT) (m : zM) (a : Nat) (Q : Int32 → zM → Prop) : Prop := (tK t a = 9 ∧ (Q (gI m a 15) m))
set_option maxHeartbeats 4000000 in
set_option maxRecDepth 20000 in
theorem kX9_fault {l : Launch} {t : zT} {m : zM} {a : Nat} {Q : Int32 → zM → Prop} (H : wX9_fault t m a Q) : zMet l yX9_fault cX9_fault 1 (some .int) 0 0 0 t m [.ref a] (zPi t Q) := by
  refine zmet (by decide +kernel) (Nat.le_of_ble_eq_true rfl) ?_
  intro p e s mt args below meth c g C hr hm
  unfold wX9_fault at H
  have hu1 : ((0, 0) : Nat × Nat).1 ≤ 0 := Nat.le_refl 0
  have hu2 : ((0, 0) : Nat × Nat).2 ≤ 0 := Nat.le_refl 0
  refine z_aload_n (pc := 0) C (dX9_fault 0 rfl) rfl 0 rfl ?_
  obtain ⟨h1, H⟩ := H
  refine z_getI (pc := 1) C zc9 h1 15 (by decide) rfl wf_X9_100 (dX9_fault 1 rfl) ?_
  exact z_iret (pc := 4) C hr hu1 hu2 (dX9_fault 2 rfl) ⟨rfl, _, rfl, H⟩
def wX9_where (t : zT) (m : zM) (a : Nat) (Q : Int32 → zM → Prop) : Prop := (tK t a = 9 ∧ (((gI m a 14) = 4 → (Q (gI m a 16) m)) ∧ (¬ (gI m a 14) = 4 → (Q (-1) m))))
set_option maxHeartbeats 4000000 in
set_option maxRecDepth 20000 in
theorem kX9_where {l : Launch} {t : zT} {m : zM} {a : Nat} {Q : Int32 → zM → Prop} (H : wX9_where t m a Q) : zMet l yX9_where cX9_where 1 (some .int) 0 0 0 t m [.ref a] (zPi t Q) := by
  refine zmet (by decide +kernel) (Nat.le_of_ble_eq_true rfl) ?_
  intro p e s mt args below meth c g C hr hm
  unfold wX9_where at H
  have hu1 : ((0, 0) : Nat × Nat).1 ≤ 0 := Nat.le_refl 0
  have hu2 : ((0, 0) : Nat × Nat).2 ≤ 0 := Nat.le_refl 0
  refine z_aload_n (pc := 0) C (dX9_where 0 rfl) rfl 0 rfl ?_
  obtain ⟨h1, H⟩ := H
  refine z_getI (pc := 1) C zc9 h1 14 (by decide) rfl wf_X9_148 (dX9_where 1 rfl) ?_
  refine z_iconst (pc := 4) (v := 4) C (dX9_where 2 rfl) (by decide) ?_
  refine z_icmp_ne (pc := 5) (tgt := 15) C (dX9_where 3 rfl) (by decide) (fun c2 => ?_) (fun c2 => ?_)
  · replace H := H.2 c2
    refine z_iconst (pc := 15) (v := (-1)) C (dX9_where 7 rfl) (by decide) ?_
    exact z_iret (pc := 16) C hr hu1 hu2 (dX9_where 8 rfl) ⟨rfl, _, rfl, H⟩
  · replace H := H.1 c2
    refine z_aload_n (pc := 8) C (dX9_where 4 rfl) rfl 0 rfl ?_
    refine z_getI (pc := 9) C zc9 h1 16 (by decide) rfl wf_X9_106 (dX9_where 5 rfl) ?_
    refine z_goto (pc := 12) (tgt := 16) C (dX9_where 6 rfl) (by decide) ?_
    exact z_iret (pc := 16) C hr hu1 hu2 (dX9_where 8 rfl) ⟨rfl, _, rfl, H⟩
def wX9_isOpen (t : zT) (m : zM) (a : Nat) (Q : Int32 → zM → Prop) : Prop := (tK t a = 9 ∧ (tK t (gR m a 3) = 5 ∧ (((gI m (gR m a 3) 0) ≤ 0 → (Q 0 m)) ∧ (¬ (gI m (gR m a 3) 0) ≤ 0 → (Q 1 m)))))
set_option maxHeartbeats 4000000 in
set_option maxRecDepth 20000 in
theorem kX9_isOpen {l : Launch} {t : zT} {m : zM} {a : Nat} {Q : Int32 → zM → Prop} (H : wX9_isOpen t m a Q) : zMet l yX9_isOpen cX9_isOpen 1 (some .boolean) 0 0 0 t m [.ref a] (zPi t Q) := by
  refine zmet (by decide +kernel) (Nat.le_of_ble_eq_true rfl) ?_
  intro p e s mt args below meth c g C hr hm
  unfold wX9_isOpen at H
  have hu1 : ((0, 0) : Nat × Nat).1 ≤ 0 := Nat.le_refl 0
  have hu2 : ((0, 0) : Nat × Nat).2 ≤ 0 := Nat.le_refl 0
  refine z_aload_n (pc := 0) C (dX9_isOpen 0 rfl) rfl 0 rfl ?_
  obtain ⟨h1, H⟩ := H
  refine z_getR (pc := 1) C zc9 h1 3 (by decide) rfl wf_X9_34 (dX9_isOpen 1 rfl) ?_
  obtain ⟨h2, H⟩ := H
  refine z_getI (pc := 4) C zc5 h2 0 (by decide) rfl wf_X9_112 (dX9_isOpen 2 rfl) ?_
  refine z_if_le (pc := 7) (tgt := 14) C (dX9_isOpen 3 rfl) (by decide) (fun c3 => ?_) (fun c3 => ?_)
  · replace H := H.1 c3
    refine z_iconst (pc := 14) (v := 0) C (dX9_isOpen 6 rfl) (by decide) ?_
    exact z_zret (pc := 15) C hr (by decide) hu1 hu2 (dX9_isOpen 7 rfl) ⟨rfl, _, rfl, H⟩
  · replace H := H.2 c3
    refine z_iconst (pc := 10) (v := 1) C (dX9_isOpen 4 rfl) (by decide) ?_
    refine z_goto (pc := 11) (tgt := 15) C (dX9_isOpen 5 rfl) (by decide) ?_
    exact z_zret (pc := 15) C hr (by decide) hu1 hu2 (dX9_isOpen 7 rfl) ⟨rfl, _, rfl, H⟩
def wX9_ways (t : zT) (m : zM) (a : Nat) (Q : Int32 → zM → Prop) : Prop := (tK t a = 9 ∧ (wX9_isOpen t m a (fun r2 m3 => ((r2 = 0 → (wX9_refuse t m3 a 1 (fun r5 m6 => (Q r5 m6)))) ∧ (¬ r2 = 0 → (tK t (gR m3 a 2) = 8 ∧ (wX9_accept t m3 a (gI m3 (gR m3 a 2) 1) (fun r8 m9 => (Q r8 m9)))))))))
set_option maxHeartbeats 4000000 in
set_option maxRecDepth 20000 in
theorem kX9_ways {l : Launch} {t : zT} {m : zM} {a : Nat} {Q : Int32 → zM → Prop} (H : wX9_ways t m a Q) : zMet l yX9_ways cX9_ways 1 (some .int) 1 0 0 t m [.ref a] (zPi t Q) := by
  refine zmet (by decide +kernel) (Nat.le_of_ble_eq_true rfl) ?_
  intro p e s mt args below meth c g C hr hm
  unfold wX9_ways at H
  have hu1 : ((0, 0) : Nat × Nat).1 ≤ 0 := Nat.le_refl 0
  have hu2 : ((0, 0) : Nat × Nat).2 ≤ 0 := Nat.le_refl 0
  refine z_aload_n (pc := 0) C (dX9_ways 0 rfl) rfl 0 rfl ?_
  obtain ⟨h1, H⟩ := H
  refine zc_Vi (pc := 1) (rest := []) C YX9_isOpen wl_X9_151 (kX9_isOpen H) (by decide) h1 rfl (by decide) (dX9_ways 1 rfl) rfl hu1 hu2 (Nat.le_of_ble_eq_true rfl) rfl (fun r2 m3 H => ?_)
  refine z_if_eq (pc := 4) (tgt := 21) C (dX9_ways 2 rfl) (by decide) (fun c4 => ?_) (fun c4 => ?_)
  · replace H := H.1 c4
    refine z_aload_n (pc := 21) C (dX9_ways 9 rfl) rfl 0 rfl ?_
    refine z_iconst (pc := 22) (v := 1) C (dX9_ways 10 rfl) (by decide) ?_
    refine zc_Vi (pc := 23) (rest := []) C YX9_refuse wl_X9_93 (kX9_refuse H) (by decide) h1 rfl (by decide) (dX9_ways 11 rfl) rfl hu1 hu2 (Nat.le_of_ble_eq_true rfl) rfl (fun r5 m6 H => ?_)
    exact z_iret (pc := 26) C hr hu1 hu2 (dX9_ways 12 rfl) ⟨rfl, _, rfl, H⟩
  · replace H := H.2 c4
    refine z_aload_n (pc := 7) C (dX9_ways 3 rfl) rfl 0 rfl ?_
    refine z_aload_n (pc := 8) C (dX9_ways 4 rfl) rfl 0 rfl ?_
    refine z_getR (pc := 9) C zc9 h1 2 (by decide) rfl wf_X9_27 (dX9_ways 5 rfl) ?_
    obtain ⟨h7, H⟩ := H
    refine z_getI (pc := 12) C zc8 h7 1 (by decide) rfl wf_X9_155 (dX9_ways 6 rfl) ?_
    refine zc_Vi (pc := 15) (rest := []) C YX9_accept wl_X9_117 (kX9_accept H) (by decide) h1 rfl (by decide) (dX9_ways 7 rfl) rfl hu1 hu2 (Nat.le_of_ble_eq_true rfl) rfl (fun r8 m9 H => ?_)
    refine z_goto (pc := 18) (tgt := 26) C (dX9_ways 8 rfl) (by decide) ?_
    exact z_iret (pc := 26) C hr hu1 hu2 (dX9_ways 12 rfl) ⟨rfl, _, rfl, H⟩
def wX9_worlds (t : zT) (m : zM) (a : Nat) (Q : Int32 → zM → Prop) : Prop := (tK t a = 9 ∧ (wX9_isOpen t m a (fun r2 m3 => ((r2 = 0 → (wX9_refuse t m3 a 1 (fun r5 m6 => (Q r5 m6)))) ∧ (¬ r2 = 0 → (tK t (gR m3 a 8) = 4 ∧ (wX9_accept t m3 a (gI m3 (gR m3 a 8) 2) (fun r8 m9 => (Q r8 m9)))))))))
set_option maxHeartbeats 4000000 in
set_option maxRecDepth 20000 in
theorem kX9_worlds {l : Launch} {t : zT} {m : zM} {a : Nat} {Q : Int32 → zM → Prop} (H : wX9_worlds t m a Q) : zMet l yX9_worlds cX9_worlds 1 (some .int) 1 0 0 t m [.ref a] (zPi t Q) := by
  refine zmet (by decide +kernel) (Nat.le_of_ble_eq_true rfl) ?_
  intro p e s mt args below meth c g C hr hm
  unfold wX9_worlds at H
  have hu1 : ((0, 0) : Nat × Nat).1 ≤ 0 := Nat.le_refl 0
  have hu2 : ((0, 0) : Nat × Nat).2 ≤ 0 := Nat.le_refl 0
  refine z_aload_n (pc := 0) C (dX9_worlds 0 rfl) rfl 0 rfl ?_
  obtain ⟨h1, H⟩ := H
  refine zc_Vi (pc := 1) (rest := []) C YX9_isOpen wl_X9_151 (kX9_isOpen H) (by decide) h1 rfl (by decide) (dX9_worlds 1 rfl) rfl hu1 hu2 (Nat.le_of_ble_eq_true rfl) rfl (fun r2 m3 H => ?_)
  refine z_if_eq (pc := 4) (tgt := 21) C (dX9_worlds 2 rfl) (by decide) (fun c4 => ?_) (fun c4 => ?_)
  · replace H := H.1 c4
    refine z_aload_n (pc := 21) C (dX9_worlds 9 rfl) rfl 0 rfl ?_
    refine z_iconst (pc := 22) (v := 1) C (dX9_worlds 10 rfl) (by decide) ?_
    refine zc_Vi (pc := 23) (rest := []) C YX9_refuse wl_X9_93 (kX9_refuse H) (by decide) h1 rfl (by decide) (dX9_worlds 11 rfl) rfl hu1 hu2 (Nat.le_of_ble_eq_true rfl) rfl (fun r5 m6 H => ?_)
    exact z_iret (pc := 26) C hr hu1 hu2 (dX9_worlds 12 rfl) ⟨rfl, _, rfl, H⟩
  · replace H := H.2 c4
    refine z_aload_n (pc := 7) C (dX9_worlds 3 rfl) rfl 0 rfl ?_
    refine z_aload_n (pc := 8) C (dX9_worlds 4 rfl) rfl 0 rfl ?_
    refine z_getR (pc := 9) C zc9 h1 8 (by decide) rfl wf_X9_65 (dX9_worlds 5 rfl) ?_
    obtain ⟨h7, H⟩ := H
    refine z_getI (pc := 12) C zc4 h7 2 (by decide) rfl wf_X9_158 (dX9_worlds 6 rfl) ?_
    refine zc_Vi (pc := 15) (rest := []) C YX9_accept wl_X9_117 (kX9_accept H) (by decide) h1 rfl (by decide) (dX9_worlds 7 rfl) rfl hu1 hu2 (Nat.le_of_ble_eq_true rfl) rfl (fun r8 m9 H => ?_)
    refine z_goto (pc := 18) (tgt := 26) C (dX9_worlds 8 rfl) (by decide) ?_
    exact z_iret (pc := 26) C hr hu1 hu2 (dX9_worlds 12 rfl) ⟨rfl, _, rfl, H⟩
def wX9_world_J22 (t : zT) (m : zM) (a_0 : Nat) (Q : Int32 → zM → Prop) : Prop := (tK t a_0 = 9 ∧ (wX9_refuse t m a_0 1 (fun r6 m7 => (Q r6 m7))))
set_option maxHeartbeats 4000000 in
set_option maxRecDepth 20000 in
theorem sX9_world_J22 {p : Program} {l : Launch} {e : Env} {s : State} {mt : MethodId} {args : Array Value} {below : List Frame} {meth : Method} {c : Code} {g : zG} {u : Nat × Nat} {mc ms : Nat} {t : zT} {m : zM} {a_0 : Nat} {Q : Int32 → zM → Prop} (C : zC p (zRm 4 mc ms) s mt args meth c g cX9_world 2 yX9_world.cls 4) (hr : meth.sig.returnType = (some .int)) (hm : meth.name = yX9_world.name) (hu1 : u.1 ≤ mc) (hu2 : u.2 ≤ ms) (H : wX9_world_J22 t m a_0 Q) : zW p l e (zRm 4 mc ms) s mt args below meth c g (MQ below (zQc g (zPi t Q)) args s mc ms (zFar g)) u 2 t m 22 [(0, .ref a_0)] [] := by
  unfold wX9_world_J22 at H
  refine z_aload_n (pc := 22) C (dX9_world 10 rfl) rfl 0 rfl ?_
  refine z_iconst (pc := 23) (v := 1) C (dX9_world 11 rfl) (by decide) ?_
  obtain ⟨h5, H⟩ := H
  refine zc_Vi (pc := 24) (rest := []) C YX9_refuse wl_X9_93 (kX9_refuse H) (by decide) h5 rfl (by decide) (dX9_world 12 rfl) rfl hu1 hu2 (Nat.le_of_ble_eq_true rfl) rfl (fun r6 m7 H => ?_)
  exact z_iret (pc := 27) C hr hu1 hu2 (dX9_world 13 rfl) ⟨rfl, _, rfl, H⟩
def wX9_world (t : zT) (m : zM) (a : Nat) (p1 : Int32) (Q : Int32 → zM → Prop) : Prop := (tK t a = 9 ∧ (wX9_isOpen t m a (fun r2 m3 => ((r2 = 0 → (wX9_world_J22 t m3 a Q)) ∧ (¬ r2 = 0 → ((p1 < 0 → (wX9_world_J22 t m3 a Q)) ∧ (¬ p1 < 0 → (tK t (gR m3 a 8) = 4 ∧ ((p1 < (gI m3 (gR m3 a 8) 2) → (wX4_memberAt t m3 (gR m3 a 8) p1 (fun r11 m12 => (wX9_accept t m12 a r11 (fun r13 m14 => (Q r13 m14)))))) ∧ (¬ p1 < (gI m3 (gR m3 a 8) 2) → (wX9_world_J22 t m3 a Q)))))))))))
set_option maxHeartbeats 4000000 in
set_option maxRecDepth 20000 in
theorem kX9_world {l : Launch} {t : zT} {m : zM} {a : Nat} {p1 : Int32} {Q : Int32 → zM → Prop} (H : wX9_world t m a p1 Q) : zMet l yX9_world cX9_world 2 (some .int) 4 0 0 t m [.ref a, .int p1] (zPi t Q) := by
  refine zmet (by decide +kernel) (Nat.le_of_ble_eq_true rfl) ?_
  intro p e s mt args below meth c g C hr hm
  unfold wX9_world at H
  have hu1 : ((0, 0) : Nat × Nat).1 ≤ 0 := Nat.le_refl 0
  have hu2 : ((0, 0) : Nat × Nat).2 ≤ 0 := Nat.le_refl 0
  refine z_aload_n (pc := 0) C (dX9_world 0 rfl) rfl 0 rfl ?_
  obtain ⟨h1, H⟩ := H
  refine zc_Vi (pc := 1) (rest := []) C YX9_isOpen wl_X9_151 (kX9_isOpen H) (by decide) h1 rfl (by decide) (dX9_world 1 rfl) rfl hu1 hu2 (Nat.le_of_ble_eq_true rfl) rfl (fun r2 m3 H => ?_)
  refine z_if_eq (pc := 4) (tgt := 22) C (dX9_world 2 rfl) (by decide) (fun c4 => ?_) (fun c4 => ?_)
  · replace H := H.1 c4
    refine z_sub [0] rfl ?_
    exact sX9_world_J22 C hr hm hu1 hu2 H
  · replace H := H.2 c4
    refine z_iload_n (pc := 7) C (dX9_world 3 rfl) rfl 1 rfl ?_
    refine z_if_lt (pc := 8) (tgt := 22) C (dX9_world 4 rfl) (by decide) (fun c8 => ?_) (fun c8 => ?_)
    · replace H := H.1 c8
      refine z_sub [0] rfl ?_
      exact sX9_world_J22 C hr hm hu1 hu2 H
    · replace H := H.2 c8
      refine z_iload_n (pc := 11) C (dX9_world 5 rfl) rfl 1 rfl ?_
      refine z_aload_n (pc := 12) C (dX9_world 6 rfl) rfl 0 rfl ?_
      refine z_getR (pc := 13) C zc9 h1 8 (by decide) rfl wf_X9_65 (dX9_world 7 rfl) ?_
      obtain ⟨h9, H⟩ := H
      refine z_getI (pc := 16) C zc4 h9 2 (by decide) rfl wf_X9_158 (dX9_world 8 rfl) ?_
      refine z_icmp_lt (pc := 19) (tgt := 28) C (dX9_world 9 rfl) (by decide) (fun c10 => ?_) (fun c10 => ?_)
      · replace H := H.1 c10
        refine z_aload_n (pc := 28) C (dX9_world 14 rfl) rfl 0 rfl ?_
        refine z_aload_n (pc := 29) C (dX9_world 15 rfl) rfl 0 rfl ?_
        refine z_getR (pc := 30) C zc9 h1 8 (by decide) rfl wf_X9_65 (dX9_world 16 rfl) ?_
        refine z_iload_n (pc := 33) C (dX9_world 17 rfl) rfl 1 rfl ?_
        refine zc_Vi (pc := 34) (rest := [.ref a]) C YX4_memberAt wl_X9_161 (kX4_memberAt H) (by decide) h9 rfl (by decide) (dX9_world 18 rfl) rfl hu1 hu2 (Nat.le_of_ble_eq_true rfl) rfl (fun r11 m12 H => ?_)
        refine zc_Vi (pc := 37) (rest := []) C YX9_accept wl_X9_117 (kX9_accept H) (by decide) h1 rfl (by decide) (dX9_world 19 rfl) rfl hu1 hu2 (Nat.le_of_ble_eq_true rfl) rfl (fun r13 m14 H => ?_)
        exact z_iret (pc := 40) C hr hu1 hu2 (dX9_world 20 rfl) ⟨rfl, _, rfl, H⟩
      · replace H := H.2 c10
        refine z_sub [0] rfl ?_
        exact sX9_world_J22 C hr hm hu1 hu2 H
def wX9_lawful_J22 (t : zT) (m : zM) (a_0 : Nat) (Q : Int32 → zM → Prop) : Prop := (tK t a_0 = 9 ∧ (wX9_refuse t m a_0 1 (fun r6 m7 => (Q r6 m7))))
set_option maxHeartbeats 4000000 in
set_option maxRecDepth 20000 in
theorem sX9_lawful_J22 {p : Program} {l : Launch} {e : Env} {s : State} {mt : MethodId} {args : Array Value} {below : List Frame} {meth : Method} {c : Code} {g : zG} {u : Nat × Nat} {mc ms : Nat} {t : zT} {m : zM} {a_0 : Nat} {Q : Int32 → zM → Prop} (C : zC p (zRm 1 mc ms) s mt args meth c g cX9_lawful 2 yX9_lawful.cls 1) (hr : meth.sig.returnType = (some .int)) (hm : meth.name = yX9_lawful.name) (hu1 : u.1 ≤ mc) (hu2 : u.2 ≤ ms) (H : wX9_lawful_J22 t m a_0 Q) : zW p l e (zRm 1 mc ms) s mt args below meth c g (MQ below (zQc g (zPi t Q)) args s mc ms (zFar g)) u 2 t m 22 [(0, .ref a_0)] [] := by
  unfold wX9_lawful_J22 at H
  refine z_aload_n (pc := 22) C (dX9_lawful 10 rfl) rfl 0 rfl ?_
  refine z_iconst (pc := 23) (v := 1) C (dX9_lawful 11 rfl) (by decide) ?_
  obtain ⟨h5, H⟩ := H
  refine zc_Vi (pc := 24) (rest := []) C YX9_refuse wl_X9_93 (kX9_refuse H) (by decide) h5 rfl (by decide) (dX9_lawful 12 rfl) rfl hu1 hu2 (Nat.le_of_ble_eq_true rfl) rfl (fun r6 m7 H => ?_)
  exact z_iret (pc := 27) C hr hu1 hu2 (dX9_lawful 13 rfl) ⟨rfl, _, rfl, H⟩
def wX9_lawful_J45 (t : zT) (m : zM) (s_0 : Int32) (s_1 : Nat) (Q : Int32 → zM → Prop) : Prop := (tK t s_1 = 9 ∧ (wX9_accept t m s_1 s_0 (fun r16 m17 => (Q r16 m17))))
set_option maxHeartbeats 4000000 in
set_option maxRecDepth 20000 in
theorem sX9_lawful_J45 {p : Program} {l : Launch} {e : Env} {s : State} {mt : MethodId} {args : Array Value} {below : List Frame} {meth : Method} {c : Code} {g : zG} {u : Nat × Nat} {mc ms : Nat} {t : zT} {m : zM} {s_0 : Int32} {s_1 : Nat} {Q : Int32 → zM → Prop} (C : zC p (zRm 1 mc ms) s mt args meth c g cX9_lawful 2 yX9_lawful.cls 1) (hr : meth.sig.returnType = (some .int)) (hm : meth.name = yX9_lawful.name) (hu1 : u.1 ≤ mc) (hu2 : u.2 ≤ ms) (H : wX9_lawful_J45 t m s_0 s_1 Q) : zW p l e (zRm 1 mc ms) s mt args below meth c g (MQ below (zQc g (zPi t Q)) args s mc ms (zFar g)) u 2 t m 45 [] [.int s_0, .ref s_1] := by
  unfold wX9_lawful_J45 at H
  obtain ⟨h15, H⟩ := H
  refine zc_Vi (pc := 45) (rest := []) C YX9_accept wl_X9_117 (kX9_accept H) (by decide) h15 rfl (by decide) (dX9_lawful 23 rfl) rfl hu1 hu2 (Nat.le_of_ble_eq_true rfl) rfl (fun r16 m17 H => ?_)
  exact z_iret (pc := 48) C hr hu1 hu2 (dX9_lawful 24 rfl) ⟨rfl, _, rfl, H⟩
def wX9_lawful (t : zT) (m : zM) (a : Nat) (p1 : Int32) (Q : Int32 → zM → Prop) : Prop := (tK t a = 9 ∧ (wX9_isOpen t m a (fun r2 m3 => ((r2 = 0 → (wX9_lawful_J22 t m3 a Q)) ∧ (¬ r2 = 0 → ((p1 < 0 → (wX9_lawful_J22 t m3 a Q)) ∧ (¬ p1 < 0 → (tK t (gR m3 a 2) = 8 ∧ ((p1 < (gI m3 (gR m3 a 2) 1) → (tK t (gR m3 a 7) = 4 ∧ (wX4_has t m3 (gR m3 a 7) p1 (fun r12 m13 => ((r12 = 0 → (wX9_lawful_J45 t m13 0 a Q)) ∧ (¬ r12 = 0 → (wX9_lawful_J45 t m13 1 a Q))))))) ∧ (¬ p1 < (gI m3 (gR m3 a 2) 1) → (wX9_lawful_J22 t m3 a Q)))))))))))
set_option maxHeartbeats 4000000 in
set_option maxRecDepth 20000 in
theorem kX9_lawful {l : Launch} {t : zT} {m : zM} {a : Nat} {p1 : Int32} {Q : Int32 → zM → Prop} (H : wX9_lawful t m a p1 Q) : zMet l yX9_lawful cX9_lawful 2 (some .int) 1 0 0 t m [.ref a, .int p1] (zPi t Q) := by
  refine zmet (by decide +kernel) (Nat.le_of_ble_eq_true rfl) ?_
  intro p e s mt args below meth c g C hr hm
  unfold wX9_lawful at H
  have hu1 : ((0, 0) : Nat × Nat).1 ≤ 0 := Nat.le_refl 0
  have hu2 : ((0, 0) : Nat × Nat).2 ≤ 0 := Nat.le_refl 0
  refine z_aload_n (pc := 0) C (dX9_lawful 0 rfl) rfl 0 rfl ?_
  obtain ⟨h1, H⟩ := H
  refine zc_Vi (pc := 1) (rest := []) C YX9_isOpen wl_X9_151 (kX9_isOpen H) (by decide) h1 rfl (by decide) (dX9_lawful 1 rfl) rfl hu1 hu2 (Nat.le_of_ble_eq_true rfl) rfl (fun r2 m3 H => ?_)
  refine z_if_eq (pc := 4) (tgt := 22) C (dX9_lawful 2 rfl) (by decide) (fun c4 => ?_) (fun c4 => ?_)
  · replace H := H.1 c4
    refine z_sub [0] rfl ?_
    exact sX9_lawful_J22 C hr hm hu1 hu2 H
  · replace H := H.2 c4
    refine z_iload_n (pc := 7) C (dX9_lawful 3 rfl) rfl 1 rfl ?_
    refine z_if_lt (pc := 8) (tgt := 22) C (dX9_lawful 4 rfl) (by decide) (fun c8 => ?_) (fun c8 => ?_)
    · replace H := H.1 c8
      refine z_sub [0] rfl ?_
      exact sX9_lawful_J22 C hr hm hu1 hu2 H
    · replace H := H.2 c8
      refine z_iload_n (pc := 11) C (dX9_lawful 5 rfl) rfl 1 rfl ?_
      refine z_aload_n (pc := 12) C (dX9_lawful 6 rfl) rfl 0 rfl ?_
      refine z_getR (pc := 13) C zc9 h1 2 (by decide) rfl wf_X9_27 (dX9_lawful 7 rfl) ?_
      obtain ⟨h9, H⟩ := H
      refine z_getI (pc := 16) C zc8 h9 1 (by decide) rfl wf_X9_155 (dX9_lawful 8 rfl) ?_
      refine z_icmp_lt (pc := 19) (tgt := 28) C (dX9_lawful 9 rfl) (by decide) (fun c10 => ?_) (fun c10 => ?_)
      · replace H := H.1 c10
        refine z_aload_n (pc := 28) C (dX9_lawful 14 rfl) rfl 0 rfl ?_
        refine z_aload_n (pc := 29) C (dX9_lawful 15 rfl) rfl 0 rfl ?_
        refine z_getR (pc := 30) C zc9 h1 7 (by decide) rfl wf_X9_61 (dX9_lawful 16 rfl) ?_
        refine z_iload_n (pc := 33) C (dX9_lawful 17 rfl) rfl 1 rfl ?_
        obtain ⟨h11, H⟩ := H
        refine zc_Vi (pc := 34) (rest := [.ref a]) C YX4_has wl_X9_164 (kX4_has H) (by decide) h11 rfl (by decide) (dX9_lawful 18 rfl) rfl hu1 hu2 (Nat.le_of_ble_eq_true rfl) rfl (fun r12 m13 H => ?_)
        refine z_if_eq (pc := 37) (tgt := 44) C (dX9_lawful 19 rfl) (by decide) (fun c14 => ?_) (fun c14 => ?_)
        · replace H := H.1 c14
          refine z_iconst (pc := 44) (v := 0) C (dX9_lawful 22 rfl) (by decide) ?_
          refine z_sub [] rfl ?_
          exact sX9_lawful_J45 C hr hm hu1 hu2 H
        · replace H := H.2 c14
          refine z_iconst (pc := 40) (v := 1) C (dX9_lawful 20 rfl) (by decide) ?_
          refine z_goto (pc := 41) (tgt := 45) C (dX9_lawful 21 rfl) (by decide) ?_
          refine z_sub [] rfl ?_
          exact sX9_lawful_J45 C hr hm hu1 hu2 H
      · replace H := H.2 c10
        refine z_sub [0] rfl ?_
        exact sX9_lawful_J22 C hr hm hu1 hu2 H
def wX9_culprit_L15 (t : zT) (a_0 : Nat) (Q : Int32 → zM → Prop) (k71 : zM → Prop) : Nat → Int32 → zM → Prop
  | 0, _, _ => False
  | n + 1, x_1, m => (tK t a_0 = 9 ∧ (tK t (gR m a_0 3) = 5 ∧ (((gI m (gR m a_0 3) 14) ≤ x_1 → (k71 m)) ∧ (¬ (gI m (gR m a_0 3) 14) ≤ x_1 → (tK t (gR m a_0 1) = 0 ∧ (wX0_judge t m (gR m a_0 1) (((2 : Int32) <<< (x_1 &&& 31)) - (1 : Int32)) (gI m (gR m a_0 3) 12) (gR m a_0 9) (fun m10 => (tK t (gR m10 a_0 9) = 4 ∧ (((gI m10 (gR m10 a_0 9) 2) = 0 → (wX9_accept t m10 a_0 x_1 (fun r13 m14 => (Q r13 m14)))) ∧ (¬ (gI m10 (gR m10 a_0 9) 2) = 0 → (wX9_culprit_L15 t a_0 Q k71 n (x_1 + 1) m10)))))))))))
set_option maxHeartbeats 4000000 in
set_option maxRecDepth 20000 in
theorem sX9_culprit_L15 {p : Program} {l : Launch} {e : Env} {s : State} {mt : MethodId} {args : Array Value} {below : List Frame} {meth : Method} {c : Code} {g : zG} {u : Nat × Nat} {mc ms : Nat} {t : zT} {a_0 : Nat} {Q : Int32 → zM → Prop} {k71 : zM → Prop} (C : zC p (zRm 4 mc ms) s mt args meth c g cX9_culprit 2 yX9_culprit.cls 4) (hr : meth.sig.returnType = (some .int)) (hm : meth.name = yX9_culprit.name) (hu1 : u.1 ≤ mc) (hu2 : u.2 ≤ ms)
    (K71 : ∀ (m : zM), k71 m → zW p l e (zRm 4 mc ms) s mt args below meth c g (MQ below (zQc g (zPi t Q)) args s mc ms (zFar g)) u 2 t m 71 [(0, .ref a_0)] []) : ∀ (n : Nat) (x_1 : Int32) (m : zM), wX9_culprit_L15 t a_0 Q k71 n x_1 m → zW p l e (zRm 4 mc ms) s mt args below meth c g (MQ below (zQc g (zPi t Q)) args s mc ms (zFar g)) u 2 t m 15 [(0, .ref a_0), (1, .int x_1)] [] := by
  intro n
  induction n with
  | zero => intro x_1 m H; exact H.elim
  | succ n ih =>
    intro x_1 m H
    simp only [wX9_culprit_L15] at H
    refine z_iload_n (pc := 15) C (dX9_culprit 9 rfl) rfl 1 rfl ?_
    refine z_aload_n (pc := 16) C (dX9_culprit 10 rfl) rfl 0 rfl ?_
    obtain ⟨h5, H⟩ := H
    refine z_getR (pc := 17) C zc9 h5 3 (by decide) rfl wf_X9_34 (dX9_culprit 11 rfl) ?_
    obtain ⟨h6, H⟩ := H
    refine z_getI (pc := 20) C zc5 h6 14 (by decide) rfl wf_X9_168 (dX9_culprit 12 rfl) ?_
    refine z_icmp_ge (pc := 23) (tgt := 71) C (dX9_culprit 13 rfl) (by decide) (fun c7 => ?_) (fun c7 => ?_)
    · replace H := H.1 c7
      refine z_sub [0] rfl ?_
      exact K71 m H
    · replace H := H.2 c7
      refine z_aload_n (pc := 26) C (dX9_culprit 14 rfl) rfl 0 rfl ?_
      refine z_getR (pc := 27) C zc9 h5 1 (by decide) rfl wf_X9_19 (dX9_culprit 15 rfl) ?_
      refine z_iconst (pc := 30) (v := 2) C (dX9_culprit 16 rfl) (by decide) ?_
      refine z_iload_n (pc := 31) C (dX9_culprit 17 rfl) rfl 1 rfl ?_
      refine z_ishl (pc := 32) C (dX9_culprit 18 rfl) ?_
      refine z_iconst (pc := 33) (v := 1) C (dX9_culprit 19 rfl) (by decide) ?_
      refine z_isub (pc := 34) C (dX9_culprit 20 rfl) ?_
      refine z_aload_n (pc := 35) C (dX9_culprit 21 rfl) rfl 0 rfl ?_
      refine z_getR (pc := 36) C zc9 h5 3 (by decide) rfl wf_X9_34 (dX9_culprit 22 rfl) ?_
      refine z_getI (pc := 39) C zc5 h6 12 (by decide) rfl wf_X9_131 (dX9_culprit 23 rfl) ?_
      refine z_aload_n (pc := 42) C (dX9_culprit 24 rfl) rfl 0 rfl ?_
      refine z_getR (pc := 43) C zc9 h5 9 (by decide) rfl wf_X9_68 (dX9_culprit 25 rfl) ?_
      obtain ⟨h8, H⟩ := H
      refine zc_Vv (pc := 46) (rest := []) C YX0_judge wl_X9_134 (kX0_judge H) (by decide) h8 rfl (by decide) (dX9_culprit 26 rfl) rfl hu1 hu2 (Nat.le_of_ble_eq_true rfl) rfl (fun m10 H => ?_)
      refine z_aload_n (pc := 49) C (dX9_culprit 27 rfl) rfl 0 rfl ?_
      refine z_getR (pc := 50) C zc9 h5 9 (by decide) rfl wf_X9_68 (dX9_culprit 28 rfl) ?_
      obtain ⟨h11, H⟩ := H
      refine z_getI (pc := 53) C zc4 h11 2 (by decide) rfl wf_X9_158 (dX9_culprit 29 rfl) ?_
      refine z_if_ne (pc := 56) (tgt := 65) C (dX9_culprit 30 rfl) (by decide) (fun c12 => ?_) (fun c12 => ?_)
      · replace H := H.2 c12
        refine z_iinc (pc := 65) (i := 1) (v := x_1 + 1) (lv2 := [(1, .int (x_1 + 1)), (0, .ref a_0)]) C (dX9_culprit 35 rfl) 1 rfl (by rfl) (by decide) rfl ?_
        refine z_goto (pc := 68) (tgt := 15) C (dX9_culprit 36 rfl) (by decide) ?_
        refine z_sub [1, 0] rfl ?_
        exact ih (x_1 + 1) m10 H
      · replace H := H.1 c12
        refine z_aload_n (pc := 59) C (dX9_culprit 31 rfl) rfl 0 rfl ?_
        refine z_iload_n (pc := 60) C (dX9_culprit 32 rfl) rfl 1 rfl ?_
        refine zc_Vi (pc := 61) (rest := []) C YX9_accept wl_X9_117 (kX9_accept H) (by decide) h5 rfl (by decide) (dX9_culprit 33 rfl) rfl hu1 hu2 (Nat.le_of_ble_eq_true rfl) rfl (fun r13 m14 H => ?_)
        exact z_iret (pc := 64) C hr hu1 hu2 (dX9_culprit 34 rfl) ⟨rfl, _, rfl, H⟩
def wX9_culprit (t : zT) (m : zM) (a : Nat) (Q : Int32 → zM → Prop) : Prop := (tK t a = 9 ∧ (wX9_isOpen t m a (fun r2 m3 => ((r2 = 0 → (wX9_refuse t m3 a 1 (fun r19 m20 => (Q r19 m20)))) ∧ (¬ r2 = 0 → (∃ n18, wX9_culprit_L15 t a Q (fun m15 => (wX9_accept t m15 a (-2) (fun r16 m17 => (Q r16 m17)))) n18 0 m3))))))
set_option maxHeartbeats 4000000 in
set_option maxRecDepth 20000 in
theorem kX9_culprit {l : Launch} {t : zT} {m : zM} {a : Nat} {Q : Int32 → zM → Prop} (H : wX9_culprit t m a Q) : zMet l yX9_culprit cX9_culprit 2 (some .int) 4 0 0 t m [.ref a] (zPi t Q) := by
  refine zmet (by decide +kernel) (Nat.le_of_ble_eq_true rfl) ?_
  intro p e s mt args below meth c g C hr hm
  unfold wX9_culprit at H
  have hu1 : ((0, 0) : Nat × Nat).1 ≤ 0 := Nat.le_refl 0
  have hu2 : ((0, 0) : Nat × Nat).2 ≤ 0 := Nat.le_refl 0
  refine z_aload_n (pc := 0) C (dX9_culprit 0 rfl) rfl 0 rfl ?_
  obtain ⟨h1, H⟩ := H
  refine zc_Vi (pc := 1) (rest := []) C YX9_isOpen wl_X9_151 (kX9_isOpen H) (by decide) h1 rfl (by decide) (dX9_culprit 1 rfl) rfl hu1 hu2 (Nat.le_of_ble_eq_true rfl) rfl (fun r2 m3 H => ?_)
  refine z_if_ne (pc := 4) (tgt := 13) C (dX9_culprit 2 rfl) (by decide) (fun c4 => ?_) (fun c4 => ?_)
  · replace H := H.2 c4
    refine z_iconst (pc := 13) (v := 0) C (dX9_culprit 7 rfl) (by decide) ?_
    refine z_istore_n (pc := 14) (i := 1) (lv2 := [(1, .int 0), (0, .ref a)]) C (dX9_culprit 8 rfl) rfl (by decide) rfl ?_
    obtain ⟨n18, H⟩ := H
    refine z_sub [1, 0] rfl ?_
    refine sX9_culprit_L15 C hr hm hu1 hu2 (fun m15 H => ?_) n18 0 m3 H
    refine z_aload_n (pc := 71) C (dX9_culprit 37 rfl) rfl 0 rfl ?_
    refine z_bipush (pc := 72) (v := (-2)) C (dX9_culprit 38 rfl) (by decide) ?_
    refine zc_Vi (pc := 74) (rest := []) C YX9_accept wl_X9_117 (kX9_accept H) (by decide) h1 rfl (by decide) (dX9_culprit 39 rfl) rfl hu1 hu2 (Nat.le_of_ble_eq_true rfl) rfl (fun r16 m17 H => ?_)
    exact z_iret (pc := 77) C hr hu1 hu2 (dX9_culprit 40 rfl) ⟨rfl, _, rfl, H⟩
  · replace H := H.1 c4
    refine z_aload_n (pc := 7) C (dX9_culprit 3 rfl) rfl 0 rfl ?_
    refine z_iconst (pc := 8) (v := 1) C (dX9_culprit 4 rfl) (by decide) ?_
    refine zc_Vi (pc := 9) (rest := []) C YX9_refuse wl_X9_93 (kX9_refuse H) (by decide) h1 rfl (by decide) (dX9_culprit 5 rfl) rfl hu1 hu2 (Nat.le_of_ble_eq_true rfl) rfl (fun r19 m20 H => ?_)
    exact z_iret (pc := 12) C hr hu1 hu2 (dX9_culprit 6 rfl) ⟨rfl, _, rfl, H⟩
def wX9_isThing (t : zT) (m : zM) (a : Nat) (p1 : Int32) (Q : Int32 → zM → Prop) : Prop := ((p1 < 0 → (Q 0 m)) ∧ (¬ p1 < 0 → (tK t a = 9 ∧ (tK t (gR m a 3) = 5 ∧ (((gI m (gR m a 3) 0) ≤ p1 → (Q 0 m)) ∧ (¬ (gI m (gR m a 3) 0) ≤ p1 → (Q 1 m)))))))
set_option maxHeartbeats 4000000 in
set_option maxRecDepth 20000 in
theorem kX9_isThing {l : Launch} {t : zT} {m : zM} {a : Nat} {p1 : Int32} {Q : Int32 → zM → Prop} (H : wX9_isThing t m a p1 Q) : zMet l yX9_isThing cX9_isThing 2 (some .boolean) 0 0 0 t m [.ref a, .int p1] (zPi t Q) := by
  refine zmet (by decide +kernel) (Nat.le_of_ble_eq_true rfl) ?_
  intro p e s mt args below meth c g C hr hm
  unfold wX9_isThing at H
  have hu1 : ((0, 0) : Nat × Nat).1 ≤ 0 := Nat.le_refl 0
  have hu2 : ((0, 0) : Nat × Nat).2 ≤ 0 := Nat.le_refl 0
  refine z_iload_n (pc := 0) C (dX9_isThing 0 rfl) rfl 1 rfl ?_
  refine z_if_lt (pc := 1) (tgt := 19) C (dX9_isThing 1 rfl) (by decide) (fun c1 => ?_) (fun c1 => ?_)
  · replace H := H.1 c1
    refine z_iconst (pc := 19) (v := 0) C (dX9_isThing 9 rfl) (by decide) ?_
    exact z_zret (pc := 20) C hr (by decide) hu1 hu2 (dX9_isThing 10 rfl) ⟨rfl, _, rfl, H⟩
  · replace H := H.2 c1
    refine z_iload_n (pc := 4) C (dX9_isThing 2 rfl) rfl 1 rfl ?_
    refine z_aload_n (pc := 5) C (dX9_isThing 3 rfl) rfl 0 rfl ?_
    obtain ⟨h2, H⟩ := H
    refine z_getR (pc := 6) C zc9 h2 3 (by decide) rfl wf_X9_34 (dX9_isThing 4 rfl) ?_
    obtain ⟨h3, H⟩ := H
    refine z_getI (pc := 9) C zc5 h3 0 (by decide) rfl wf_X9_112 (dX9_isThing 5 rfl) ?_
    refine z_icmp_ge (pc := 12) (tgt := 19) C (dX9_isThing 6 rfl) (by decide) (fun c4 => ?_) (fun c4 => ?_)
    · replace H := H.1 c4
      refine z_iconst (pc := 19) (v := 0) C (dX9_isThing 9 rfl) (by decide) ?_
      exact z_zret (pc := 20) C hr (by decide) hu1 hu2 (dX9_isThing 10 rfl) ⟨rfl, _, rfl, H⟩
    · replace H := H.2 c4
      refine z_iconst (pc := 15) (v := 1) C (dX9_isThing 7 rfl) (by decide) ?_
      refine z_goto (pc := 16) (tgt := 20) C (dX9_isThing 8 rfl) (by decide) ?_
      exact z_zret (pc := 20) C hr (by decide) hu1 hu2 (dX9_isThing 10 rfl) ⟨rfl, _, rfl, H⟩
def wX9_withoutWorlds (t : zT) (m : zM) (a : Nat) (p1 : Int32) (Q : Int32 → zM → Prop) : Prop := ((p1 = 0 → (Q 1 m)) ∧ (¬ p1 = 0 → (tK t a = 9 ∧ (tK t (gR m a 8) = 4 ∧ (((gI m (gR m a 8) 2) = 0 → (Q 6 m)) ∧ (¬ (gI m (gR m a 8) 2) = 0 → (Q 0 m)))))))
set_option maxHeartbeats 4000000 in
set_option maxRecDepth 20000 in
theorem kX9_withoutWorlds {l : Launch} {t : zT} {m : zM} {a : Nat} {p1 : Int32} {Q : Int32 → zM → Prop} (H : wX9_withoutWorlds t m a p1 Q) : zMet l yX9_withoutWorlds cX9_withoutWorlds 2 (some .int) 0 0 0 t m [.ref a, .int p1] (zPi t Q) := by
  refine zmet (by decide +kernel) (Nat.le_of_ble_eq_true rfl) ?_
  intro p e s mt args below meth c g C hr hm
  unfold wX9_withoutWorlds at H
  have hu1 : ((0, 0) : Nat × Nat).1 ≤ 0 := Nat.le_refl 0
  have hu2 : ((0, 0) : Nat × Nat).2 ≤ 0 := Nat.le_refl 0
  refine z_iload_n (pc := 0) C (dX9_withoutWorlds 0 rfl) rfl 1 rfl ?_
  refine z_if_ne (pc := 1) (tgt := 6) C (dX9_withoutWorlds 1 rfl) (by decide) (fun c1 => ?_) (fun c1 => ?_)
  · replace H := H.2 c1
    refine z_aload_n (pc := 6) C (dX9_withoutWorlds 4 rfl) rfl 0 rfl ?_
    obtain ⟨h2, H⟩ := H
    refine z_getR (pc := 7) C zc9 h2 8 (by decide) rfl wf_X9_65 (dX9_withoutWorlds 5 rfl) ?_
    obtain ⟨h3, H⟩ := H
    refine z_getI (pc := 10) C zc4 h3 2 (by decide) rfl wf_X9_158 (dX9_withoutWorlds 6 rfl) ?_
    refine z_if_ne (pc := 13) (tgt := 21) C (dX9_withoutWorlds 7 rfl) (by decide) (fun c4 => ?_) (fun c4 => ?_)
    · replace H := H.2 c4
      refine z_iconst (pc := 21) (v := 0) C (dX9_withoutWorlds 10 rfl) (by decide) ?_
      exact z_iret (pc := 22) C hr hu1 hu2 (dX9_withoutWorlds 11 rfl) ⟨rfl, _, rfl, H⟩
    · replace H := H.1 c4
      refine z_bipush (pc := 16) (v := 6) C (dX9_withoutWorlds 8 rfl) (by decide) ?_
      refine z_goto (pc := 18) (tgt := 22) C (dX9_withoutWorlds 9 rfl) (by decide) ?_
      exact z_iret (pc := 22) C hr hu1 hu2 (dX9_withoutWorlds 11 rfl) ⟨rfl, _, rfl, H⟩
  · replace H := H.1 c1
    refine z_iconst (pc := 4) (v := 1) C (dX9_withoutWorlds 2 rfl) (by decide) ?_
    exact z_iret (pc := 5) C hr hu1 hu2 (dX9_withoutWorlds 3 rfl) ⟨rfl, _, rfl, H⟩
def wX9_onlyBit (t : zT) (m : zM) (p1 : Int32) (Q : Int32 → zM → Prop) : Prop := (wJ6_bitCount_0f7a4 t m p1 (fun r1 m2 => ((r1 = 1 → (wJ6_bitCount_0f7a4 t m2 (p1 - (1 : Int32)) (fun r4 m5 => (Q r4 m5)))) ∧ (¬ r1 = 1 → (Q (-2) m2)))))
set_option maxHeartbeats 4000000 in
set_option maxRecDepth 20000 in
theorem kX9_onlyBit {l : Launch} {t : zT} {m : zM} {p1 : Int32} {Q : Int32 → zM → Prop} (H : wX9_onlyBit t m p1 Q) : zMet l yX9_onlyBit cX9_onlyBit 1 (some .int) 1 0 0 t m [.int p1] (zPi t Q) := by
  refine zmet (by decide +kernel) (Nat.le_of_ble_eq_true rfl) ?_
  intro p e s mt args below meth c g C hr hm
  unfold wX9_onlyBit at H
  have hu1 : ((0, 0) : Nat × Nat).1 ≤ 0 := Nat.le_refl 0
  have hu2 : ((0, 0) : Nat × Nat).2 ≤ 0 := Nat.le_refl 0
  refine z_iload_n (pc := 0) C (dX9_onlyBit 0 rfl) rfl 0 rfl ?_
  refine zc_Si (pc := 1) (rest := []) C YJ6_bitCount_0f7a4 wl_X9_260 (kJ6_bitCount_0f7a4 H) (by decide) (dX9_onlyBit 1 rfl) rfl hu1 hu2 (Nat.le_of_ble_eq_true rfl) rfl (fun r1 m2 H => ?_)
  refine z_iconst (pc := 4) (v := 1) C (dX9_onlyBit 2 rfl) (by decide) ?_
  refine z_icmp_ne (pc := 5) (tgt := 17) C (dX9_onlyBit 3 rfl) (by decide) (fun c3 => ?_) (fun c3 => ?_)
  · replace H := H.2 c3
    refine z_bipush (pc := 17) (v := (-2)) C (dX9_onlyBit 9 rfl) (by decide) ?_
    exact z_iret (pc := 19) C hr hu1 hu2 (dX9_onlyBit 10 rfl) ⟨rfl, _, rfl, H⟩
  · replace H := H.1 c3
    refine z_iload_n (pc := 8) C (dX9_onlyBit 4 rfl) rfl 0 rfl ?_
    refine z_iconst (pc := 9) (v := 1) C (dX9_onlyBit 5 rfl) (by decide) ?_
    refine z_isub (pc := 10) C (dX9_onlyBit 6 rfl) ?_
    refine zc_Si (pc := 11) (rest := []) C YJ6_bitCount_0f7a4 wl_X9_260 (kJ6_bitCount_0f7a4 H) (by decide) (dX9_onlyBit 7 rfl) rfl hu1 hu2 (Nat.le_of_ble_eq_true rfl) rfl (fun r4 m5 H => ?_)
    refine z_goto (pc := 14) (tgt := 19) C (dX9_onlyBit 8 rfl) (by decide) ?_
    exact z_iret (pc := 19) C hr hu1 hu2 (dX9_onlyBit 10 rfl) ⟨rfl, _, rfl, H⟩
def wX9_sure (t : zT) (m : zM) (a : Nat) (p1 : Int32) (Q : Int32 → zM → Prop) : Prop := (tK t a = 9 ∧ (wX9_isThing t m a p1 (fun r2 m3 => (wX9_withoutWorlds t m3 a r2 (fun r4 m5 => ((r4 = 0 → (tK t (gR m5 a 2) = 8 ∧ (wX8_answersIn t m5 (gR m5 a 2) (gR m5 a 8) p1 (fun r8 m9 => (wX9_onlyBit t m9 r8 (fun r10 m11 => (wX9_accept t m11 a r10 (fun r12 m13 => (Q r12 m13))))))))) ∧ (¬ r4 = 0 → (wX9_refuse t m5 a r4 (fun r14 m15 => (Q r14 m15))))))))))
set_option maxHeartbeats 4000000 in
set_option maxRecDepth 20000 in
theorem kX9_sure {l : Launch} {t : zT} {m : zM} {a : Nat} {p1 : Int32} {Q : Int32 → zM → Prop} (H : wX9_sure t m a p1 Q) : zMet l yX9_sure cX9_sure 3 (some .int) 2 0 0 t m [.ref a, .int p1] (zPi t Q) := by
  refine zmet (by decide +kernel) (Nat.le_of_ble_eq_true rfl) ?_
  intro p e s mt args below meth c g C hr hm
  unfold wX9_sure at H
  have hu1 : ((0, 0) : Nat × Nat).1 ≤ 0 := Nat.le_refl 0
  have hu2 : ((0, 0) : Nat × Nat).2 ≤ 0 := Nat.le_refl 0
  refine z_aload_n (pc := 0) C (dX9_sure 0 rfl) rfl 0 rfl ?_
  refine z_aload_n (pc := 1) C (dX9_sure 1 rfl) rfl 0 rfl ?_
  refine z_iload_n (pc := 2) C (dX9_sure 2 rfl) rfl 1 rfl ?_
  obtain ⟨h1, H⟩ := H
  refine zc_Vi (pc := 3) (rest := [.ref a]) C YX9_isThing wl_X9_171 (kX9_isThing H) (by decide) h1 rfl (by decide) (dX9_sure 3 rfl) rfl hu1 hu2 (Nat.le_of_ble_eq_true rfl) rfl (fun r2 m3 H => ?_)
  refine zc_Vi (pc := 6) (rest := []) C YX9_withoutWorlds wl_X9_174 (kX9_withoutWorlds H) (by decide) h1 rfl (by decide) (dX9_sure 4 rfl) rfl hu1 hu2 (Nat.le_of_ble_eq_true rfl) rfl (fun r4 m5 H => ?_)
  refine z_istore_n (pc := 9) (i := 2) (lv2 := [(2, .int r4), (0, .ref a), (1, .int p1)]) C (dX9_sure 5 rfl) rfl (by decide) rfl ?_
  refine z_iload_n (pc := 10) C (dX9_sure 6 rfl) rfl 0 rfl ?_
  refine z_if_eq (pc := 11) (tgt := 20) C (dX9_sure 7 rfl) (by decide) (fun c6 => ?_) (fun c6 => ?_)
  · replace H := H.1 c6
    refine z_aload_n (pc := 20) C (dX9_sure 12 rfl) rfl 1 rfl ?_
    refine z_aload_n (pc := 21) C (dX9_sure 13 rfl) rfl 1 rfl ?_
    refine z_getR (pc := 22) C zc9 h1 2 (by decide) rfl wf_X9_27 (dX9_sure 14 rfl) ?_
    refine z_aload_n (pc := 25) C (dX9_sure 15 rfl) rfl 1 rfl ?_
    refine z_getR (pc := 26) C zc9 h1 8 (by decide) rfl wf_X9_65 (dX9_sure 16 rfl) ?_
    refine z_iload_n (pc := 29) C (dX9_sure 17 rfl) rfl 2 rfl ?_
    obtain ⟨h7, H⟩ := H
    refine zc_Vi (pc := 30) (rest := [.ref a]) C YX8_answersIn wl_X9_178 (kX8_answersIn H) (by decide) h7 rfl (by decide) (dX9_sure 18 rfl) rfl hu1 hu2 (Nat.le_of_ble_eq_true rfl) rfl (fun r8 m9 H => ?_)
    refine zc_Si (pc := 33) (rest := [.ref a]) C YX9_onlyBit wl_X9_182 (kX9_onlyBit H) (by decide) (dX9_sure 19 rfl) rfl hu1 hu2 (Nat.le_of_ble_eq_true rfl) rfl (fun r10 m11 H => ?_)
    refine zc_Vi (pc := 36) (rest := []) C YX9_accept wl_X9_117 (kX9_accept H) (by decide) h1 rfl (by decide) (dX9_sure 20 rfl) rfl hu1 hu2 (Nat.le_of_ble_eq_true rfl) rfl (fun r12 m13 H => ?_)
    exact z_iret (pc := 39) C hr hu1 hu2 (dX9_sure 21 rfl) ⟨rfl, _, rfl, H⟩
  · replace H := H.2 c6
    refine z_aload_n (pc := 14) C (dX9_sure 8 rfl) rfl 1 rfl ?_
    refine z_iload_n (pc := 15) C (dX9_sure 9 rfl) rfl 0 rfl ?_
    refine zc_Vi (pc := 16) (rest := []) C YX9_refuse wl_X9_93 (kX9_refuse H) (by decide) h1 rfl (by decide) (dX9_sure 10 rfl) rfl hu1 hu2 (Nat.le_of_ble_eq_true rfl) rfl (fun r14 m15 H => ?_)
    exact z_iret (pc := 19) C hr hu1 hu2 (dX9_sure 11 rfl) ⟨rfl, _, rfl, H⟩
def wX9_may (t : zT) (m : zM) (a : Nat) (p1 : Int32) (Q : Int32 → zM → Prop) : Prop := (tK t a = 9 ∧ (wX9_isThing t m a p1 (fun r2 m3 => ((r2 = 0 → (wX9_refuse t m3 a 1 (fun r5 m6 => (Q r5 m6)))) ∧ (¬ r2 = 0 → (tK t (gR m3 a 2) = 8 ∧ (wX8_answersIn t m3 (gR m3 a 2) (gR m3 a 8) p1 (fun r8 m9 => (wX9_accept t m9 a r8 (fun r10 m11 => (Q r10 m11)))))))))))
set_option maxHeartbeats 4000000 in
set_option maxRecDepth 20000 in
theorem kX9_may {l : Launch} {t : zT} {m : zM} {a : Nat} {p1 : Int32} {Q : Int32 → zM → Prop} (H : wX9_may t m a p1 Q) : zMet l yX9_may cX9_may 2 (some .int) 2 0 0 t m [.ref a, .int p1] (zPi t Q) := by
  refine zmet (by decide +kernel) (Nat.le_of_ble_eq_true rfl) ?_
  intro p e s mt args below meth c g C hr hm
  unfold wX9_may at H
  have hu1 : ((0, 0) : Nat × Nat).1 ≤ 0 := Nat.le_refl 0
  have hu2 : ((0, 0) : Nat × Nat).2 ≤ 0 := Nat.le_refl 0
  refine z_aload_n (pc := 0) C (dX9_may 0 rfl) rfl 0 rfl ?_
  refine z_iload_n (pc := 1) C (dX9_may 1 rfl) rfl 1 rfl ?_
  obtain ⟨h1, H⟩ := H
  refine zc_Vi (pc := 2) (rest := []) C YX9_isThing wl_X9_171 (kX9_isThing H) (by decide) h1 rfl (by decide) (dX9_may 2 rfl) rfl hu1 hu2 (Nat.le_of_ble_eq_true rfl) rfl (fun r2 m3 H => ?_)
  refine z_if_eq (pc := 5) (tgt := 27) C (dX9_may 3 rfl) (by decide) (fun c4 => ?_) (fun c4 => ?_)
  · replace H := H.1 c4
    refine z_aload_n (pc := 27) C (dX9_may 13 rfl) rfl 0 rfl ?_
    refine z_iconst (pc := 28) (v := 1) C (dX9_may 14 rfl) (by decide) ?_
    refine zc_Vi (pc := 29) (rest := []) C YX9_refuse wl_X9_93 (kX9_refuse H) (by decide) h1 rfl (by decide) (dX9_may 15 rfl) rfl hu1 hu2 (Nat.le_of_ble_eq_true rfl) rfl (fun r5 m6 H => ?_)
    exact z_iret (pc := 32) C hr hu1 hu2 (dX9_may 16 rfl) ⟨rfl, _, rfl, H⟩
  · replace H := H.2 c4
    refine z_aload_n (pc := 8) C (dX9_may 4 rfl) rfl 0 rfl ?_
    refine z_aload_n (pc := 9) C (dX9_may 5 rfl) rfl 0 rfl ?_
    refine z_getR (pc := 10) C zc9 h1 2 (by decide) rfl wf_X9_27 (dX9_may 6 rfl) ?_
    refine z_aload_n (pc := 13) C (dX9_may 7 rfl) rfl 0 rfl ?_
    refine z_getR (pc := 14) C zc9 h1 8 (by decide) rfl wf_X9_65 (dX9_may 8 rfl) ?_
    refine z_iload_n (pc := 17) C (dX9_may 9 rfl) rfl 1 rfl ?_
    obtain ⟨h7, H⟩ := H
    refine zc_Vi (pc := 18) (rest := [.ref a]) C YX8_answersIn wl_X9_178 (kX8_answersIn H) (by decide) h7 rfl (by decide) (dX9_may 10 rfl) rfl hu1 hu2 (Nat.le_of_ble_eq_true rfl) rfl (fun r8 m9 H => ?_)
    refine zc_Vi (pc := 21) (rest := []) C YX9_accept wl_X9_117 (kX9_accept H) (by decide) h1 rfl (by decide) (dX9_may 11 rfl) rfl hu1 hu2 (Nat.le_of_ble_eq_true rfl) rfl (fun r10 m11 H => ?_)
    refine z_goto (pc := 24) (tgt := 32) C (dX9_may 12 rfl) (by decide) ?_
    exact z_iret (pc := 32) C hr hu1 hu2 (dX9_may 16 rfl) ⟨rfl, _, rfl, H⟩
def wX9_isAnswer (t : zT) (m : zM) (a : Nat) (p1 : Int32) (p2 : Int32) (Q : Int32 → zM → Prop) : Prop := (tK t a = 9 ∧ (wX9_isThing t m a p1 (fun r2 m3 => ((r2 = 0 → (Q 0 m3)) ∧ (¬ r2 = 0 → ((p2 < 0 → (Q 0 m3)) ∧ (¬ p2 < 0 → (tK t (gR m3 a 3) = 5 ∧ (tK t (gR m3 (gR m3 a 3) 1) = 14 ∧ (vp_in p1 (tL t (gR m3 (gR m3 a 3) 1)) ∧ (((gI m3 (gR m3 (gR m3 a 3) 1) p1.toNatClampNeg) ≤ p2 → (Q 0 m3)) ∧ (¬ (gI m3 (gR m3 (gR m3 a 3) 1) p1.toNatClampNeg) ≤ p2 → (Q 1 m3)))))))))))))
set_option maxHeartbeats 4000000 in
set_option maxRecDepth 20000 in
theorem kX9_isAnswer {l : Launch} {t : zT} {m : zM} {a : Nat} {p1 : Int32} {p2 : Int32} {Q : Int32 → zM → Prop} (H : wX9_isAnswer t m a p1 p2 Q) : zMet l yX9_isAnswer cX9_isAnswer 3 (some .boolean) 1 0 0 t m [.ref a, .int p1, .int p2] (zPi t Q) := by
  refine zmet (by decide +kernel) (Nat.le_of_ble_eq_true rfl) ?_
  intro p e s mt args below meth c g C hr hm
  unfold wX9_isAnswer at H
  have hu1 : ((0, 0) : Nat × Nat).1 ≤ 0 := Nat.le_refl 0
  have hu2 : ((0, 0) : Nat × Nat).2 ≤ 0 := Nat.le_refl 0
  refine z_aload_n (pc := 0) C (dX9_isAnswer 0 rfl) rfl 0 rfl ?_
  refine z_iload_n (pc := 1) C (dX9_isAnswer 1 rfl) rfl 1 rfl ?_
  obtain ⟨h1, H⟩ := H
  refine zc_Vi (pc := 2) (rest := []) C YX9_isThing wl_X9_171 (kX9_isThing H) (by decide) h1 rfl (by decide) (dX9_isAnswer 2 rfl) rfl hu1 hu2 (Nat.le_of_ble_eq_true rfl) rfl (fun r2 m3 H => ?_)
  refine z_if_eq (pc := 5) (tgt := 29) C (dX9_isAnswer 3 rfl) (by decide) (fun c4 => ?_) (fun c4 => ?_)
  · replace H := H.1 c4
    refine z_iconst (pc := 29) (v := 0) C (dX9_isAnswer 15 rfl) (by decide) ?_
    exact z_zret (pc := 30) C hr (by decide) hu1 hu2 (dX9_isAnswer 16 rfl) ⟨rfl, _, rfl, H⟩
  · replace H := H.2 c4
    refine z_iload_n (pc := 8) C (dX9_isAnswer 4 rfl) rfl 2 rfl ?_
    refine z_if_lt (pc := 9) (tgt := 29) C (dX9_isAnswer 5 rfl) (by decide) (fun c5 => ?_) (fun c5 => ?_)
    · replace H := H.1 c5
      refine z_iconst (pc := 29) (v := 0) C (dX9_isAnswer 15 rfl) (by decide) ?_
      exact z_zret (pc := 30) C hr (by decide) hu1 hu2 (dX9_isAnswer 16 rfl) ⟨rfl, _, rfl, H⟩
    · replace H := H.2 c5
      refine z_iload_n (pc := 12) C (dX9_isAnswer 6 rfl) rfl 2 rfl ?_
      refine z_aload_n (pc := 13) C (dX9_isAnswer 7 rfl) rfl 0 rfl ?_
      refine z_getR (pc := 14) C zc9 h1 3 (by decide) rfl wf_X9_34 (dX9_isAnswer 8 rfl) ?_
      obtain ⟨h6, H⟩ := H
      refine z_getR (pc := 17) C zc5 h6 1 (by decide) rfl wf_X9_305 (dX9_isAnswer 9 rfl) ?_
      refine z_iload_n (pc := 20) C (dX9_isAnswer 10 rfl) rfl 1 rfl ?_
      obtain ⟨h7, H⟩ := H
      obtain ⟨h8, H⟩ := H
      refine z_iaload (pc := 21) C h7 h8 (dX9_isAnswer 11 rfl) ?_
      refine z_icmp_ge (pc := 22) (tgt := 29) C (dX9_isAnswer 12 rfl) (by decide) (fun c9 => ?_) (fun c9 => ?_)
      · replace H := H.1 c9
        refine z_iconst (pc := 29) (v := 0) C (dX9_isAnswer 15 rfl) (by decide) ?_
        exact z_zret (pc := 30) C hr (by decide) hu1 hu2 (dX9_isAnswer 16 rfl) ⟨rfl, _, rfl, H⟩
      · replace H := H.2 c9
        refine z_iconst (pc := 25) (v := 1) C (dX9_isAnswer 13 rfl) (by decide) ?_
        refine z_goto (pc := 26) (tgt := 30) C (dX9_isAnswer 14 rfl) (by decide) ?_
        exact z_zret (pc := 30) C hr (by decide) hu1 hu2 (dX9_isAnswer 16 rfl) ⟨rfl, _, rfl, H⟩
def wX9_lowest_L8 (t : zT) (x_0 : Int32) (x_1 : Int32) (x_2 : Int32) (Q : Int32 → zM → Prop) (k39 : Int32 → zM → Prop) : Nat → Int32 → Int32 → Int32 → zM → Prop
  | 0, _, _, _, _ => False
  | n + 1, x_3, x_4, x_5, m => (((64 : Int32) ≤ x_5 → (k39 x_3 m)) ∧ (¬ (64 : Int32) ≤ x_5 → ((x_4 ≤ 0 → (k39 x_3 m)) ∧ (¬ x_4 ≤ 0 → (¬ x_4 = 0 ∧ (∀ x4 : Int32, x4 = (x_3 - x_3 / x_4 * x_4) → ((wX9_lowest_L8 t x_0 x_1 x_2 Q k39 n x_4 x4 (x_5 + 1) m))))))))
set_option maxHeartbeats 4000000 in
set_option maxRecDepth 20000 in
theorem sX9_lowest_L8 {p : Program} {l : Launch} {e : Env} {s : State} {mt : MethodId} {args : Array Value} {below : List Frame} {meth : Method} {c : Code} {g : zG} {u : Nat × Nat} {mc ms : Nat} {t : zT} {x_0 : Int32} {x_1 : Int32} {x_2 : Int32} {Q : Int32 → zM → Prop} {k39 : Int32 → zM → Prop} (C : zC p (zRm 0 mc ms) s mt args meth c g cX9_lowest 7 yX9_lowest.cls 0) (hr : meth.sig.returnType = (some .int)) (hm : meth.name = yX9_lowest.name) (hu1 : u.1 ≤ mc) (hu2 : u.2 ≤ ms)
    (K39 : ∀ (v0 : Int32) (m : zM), k39 v0 m → zW p l e (zRm 0 mc ms) s mt args below meth c g (MQ below (zQc g (zPi t Q)) args s mc ms (zFar g)) u 7 t m 39 [(0, .int x_0), (1, .int x_1), (2, .int x_2), (3, .int v0)] []) : ∀ (n : Nat) (x_3 : Int32) (x_4 : Int32) (x_5 : Int32) (m : zM), wX9_lowest_L8 t x_0 x_1 x_2 Q k39 n x_3 x_4 x_5 m → zW p l e (zRm 0 mc ms) s mt args below meth c g (MQ below (zQc g (zPi t Q)) args s mc ms (zFar g)) u 7 t m 8 [(0, .int x_0), (1, .int x_1), (2, .int x_2), (3, .int x_3), (4, .int x_4), (5, .int x_5)] [] := by
  intro n
  induction n with
  | zero => intro x_3 x_4 x_5 m H; exact H.elim
  | succ n ih =>
    intro x_3 x_4 x_5 m H
    simp only [wX9_lowest_L8] at H
    refine z_iload (pc := 8) C (dX9_lowest 6 rfl) 5 rfl ?_
    refine z_bipush (pc := 10) (v := 64) C (dX9_lowest 7 rfl) (by decide) ?_
    refine z_icmp_ge (pc := 12) (tgt := 39) C (dX9_lowest 8 rfl) (by decide) (fun c1 => ?_) (fun c1 => ?_)
    · replace H := H.1 c1
      refine z_sub [0, 1, 2, 3] rfl ?_
      exact K39 x_3 m H
    · replace H := H.2 c1
      refine z_iload (pc := 15) C (dX9_lowest 9 rfl) 4 rfl ?_
      refine z_if_le (pc := 17) (tgt := 39) C (dX9_lowest 10 rfl) (by decide) (fun c2 => ?_) (fun c2 => ?_)
      · replace H := H.1 c2
        refine z_sub [0, 1, 2, 3] rfl ?_
        exact K39 x_3 m H
      · replace H := H.2 c2
        refine z_iload_n (pc := 20) C (dX9_lowest 11 rfl) rfl 3 rfl ?_
        refine z_iload (pc := 21) C (dX9_lowest 12 rfl) 4 rfl ?_
        obtain ⟨h3, H⟩ := H
        refine z_irem (pc := 23) C (hne := h3) (dX9_lowest 13 rfl) ?_
        refine z_int (fun x4 hx4 => ?_)
        replace H := H x4 hx4
        refine z_istore (pc := 24) (i := 6) (lv2 := [(6, .int x4), (0, .int x_0), (1, .int x_1), (2, .int x_2), (3, .int x_3), (4, .int x_4), (5, .int x_5)]) C (dX9_lowest 14 rfl) (by decide) rfl ?_
        refine z_iload (pc := 26) C (dX9_lowest 15 rfl) 5 rfl ?_
        refine z_istore_n (pc := 28) (i := 3) (lv2 := [(3, .int x_4), (6, .int x4), (0, .int x_0), (1, .int x_1), (2, .int x_2), (4, .int x_4), (5, .int x_5)]) C (dX9_lowest 16 rfl) rfl (by decide) rfl ?_
        refine z_iload (pc := 29) C (dX9_lowest 17 rfl) 1 rfl ?_
        refine z_istore (pc := 31) (i := 4) (lv2 := [(4, .int x4), (3, .int x_4), (6, .int x4), (0, .int x_0), (1, .int x_1), (2, .int x_2), (5, .int x_5)]) C (dX9_lowest 18 rfl) (by decide) rfl ?_
        refine z_iinc (pc := 33) (i := 5) (v := x_5 + 1) (lv2 := [(5, .int (x_5 + 1)), (4, .int x4), (3, .int x_4), (6, .int x4), (0, .int x_0), (1, .int x_1), (2, .int x_2)]) C (dX9_lowest 19 rfl) 6 rfl (by rfl) (by decide) rfl ?_
        refine z_goto (pc := 36) (tgt := 8) C (dX9_lowest 20 rfl) (by decide) ?_
        refine z_sub [4, 5, 6, 2, 1, 0] rfl ?_
        exact ih x_4 x4 (x_5 + 1) m H
def wX9_lowest_J48 (t : zT) (m : zM) (x_3 : Int32) (s_0 : Int32) (Q : Int32 → zM → Prop) : Prop := ((x_3 ≤ 0 → (Q s_0 m)) ∧ (¬ x_3 ≤ 0 → (¬ x_3 = 0 ∧ (Q (s_0 / x_3) m))))
set_option maxHeartbeats 4000000 in
set_option maxRecDepth 20000 in
theorem sX9_lowest_J48 {p : Program} {l : Launch} {e : Env} {s : State} {mt : MethodId} {args : Array Value} {below : List Frame} {meth : Method} {c : Code} {g : zG} {u : Nat × Nat} {mc ms : Nat} {t : zT} {m : zM} {x_3 : Int32} {s_0 : Int32} {Q : Int32 → zM → Prop} (C : zC p (zRm 0 mc ms) s mt args meth c g cX9_lowest 7 yX9_lowest.cls 0) (hr : meth.sig.returnType = (some .int)) (hm : meth.name = yX9_lowest.name) (hu1 : u.1 ≤ mc) (hu2 : u.2 ≤ ms) (H : wX9_lowest_J48 t m x_3 s_0 Q) : zW p l e (zRm 0 mc ms) s mt args below meth c g (MQ below (zQc g (zPi t Q)) args s mc ms (zFar g)) u 7 t m 48 [(3, .int x_3)] [.int s_0] := by
  unfold wX9_lowest_J48 at H
  refine z_istore (pc := 48) (i := 5) (lv2 := [(5, .int s_0), (3, .int x_3)]) C (dX9_lowest 26 rfl) (by decide) rfl ?_
  refine z_iload_n (pc := 50) C (dX9_lowest 27 rfl) rfl 1 rfl ?_
  refine z_if_le (pc := 51) (tgt := 61) C (dX9_lowest 28 rfl) (by decide) (fun c8 => ?_) (fun c8 => ?_)
  · replace H := H.1 c8
    refine z_iload (pc := 61) C (dX9_lowest 33 rfl) 0 rfl ?_
    exact z_iret (pc := 63) C hr hu1 hu2 (dX9_lowest 34 rfl) ⟨rfl, _, rfl, H⟩
  · replace H := H.2 c8
    refine z_iload (pc := 54) C (dX9_lowest 29 rfl) 0 rfl ?_
    refine z_iload_n (pc := 56) C (dX9_lowest 30 rfl) rfl 1 rfl ?_
    obtain ⟨h9, H⟩ := H
    refine z_idiv (pc := 57) C (hne := h9) (dX9_lowest 31 rfl) ?_
    refine z_goto (pc := 58) (tgt := 63) C (dX9_lowest 32 rfl) (by decide) ?_
    exact z_iret (pc := 63) C hr hu1 hu2 (dX9_lowest 34 rfl) ⟨rfl, _, rfl, H⟩
def wX9_lowest_J39 (t : zT) (m : zM) (x_0 : Int32) (x_1 : Int32) (x_2 : Int32) (x_3 : Int32) (Q : Int32 → zM → Prop) : Prop := ((x_2 = 0 → (wX9_lowest_J48 t m x_3 x_0 Q)) ∧ (¬ x_2 = 0 → (wX9_lowest_J48 t m x_3 x_1 Q)))
set_option maxHeartbeats 4000000 in
set_option maxRecDepth 20000 in
theorem sX9_lowest_J39 {p : Program} {l : Launch} {e : Env} {s : State} {mt : MethodId} {args : Array Value} {below : List Frame} {meth : Method} {c : Code} {g : zG} {u : Nat × Nat} {mc ms : Nat} {t : zT} {m : zM} {x_0 : Int32} {x_1 : Int32} {x_2 : Int32} {x_3 : Int32} {Q : Int32 → zM → Prop} (C : zC p (zRm 0 mc ms) s mt args meth c g cX9_lowest 7 yX9_lowest.cls 0) (hr : meth.sig.returnType = (some .int)) (hm : meth.name = yX9_lowest.name) (hu1 : u.1 ≤ mc) (hu2 : u.2 ≤ ms) (H : wX9_lowest_J39 t m x_0 x_1 x_2 x_3 Q) : zW p l e (zRm 0 mc ms) s mt args below meth c g (MQ below (zQc g (zPi t Q)) args s mc ms (zFar g)) u 7 t m 39 [(0, .int x_0), (1, .int x_1), (2, .int x_2), (3, .int x_3)] [] := by
  unfold wX9_lowest_J39 at H
  refine z_iload_n (pc := 39) C (dX9_lowest 21 rfl) rfl 2 rfl ?_
  refine z_if_eq (pc := 40) (tgt := 47) C (dX9_lowest 22 rfl) (by decide) (fun c7 => ?_) (fun c7 => ?_)
  · replace H := H.1 c7
    refine z_iload_n (pc := 47) C (dX9_lowest 25 rfl) rfl 0 rfl ?_
    refine z_sub [3] rfl ?_
    exact sX9_lowest_J48 C hr hm hu1 hu2 H
  · replace H := H.2 c7
    refine z_iload_n (pc := 43) C (dX9_lowest 23 rfl) rfl 1 rfl ?_
    refine z_goto (pc := 44) (tgt := 48) C (dX9_lowest 24 rfl) (by decide) ?_
    refine z_sub [3] rfl ?_
    exact sX9_lowest_J48 C hr hm hu1 hu2 H
def wX9_lowest (t : zT) (m : zM) (p1 : Int32) (p2 : Int32) (p3 : Int32) (Q : Int32 → zM → Prop) : Prop := (∃ n10, wX9_lowest_L8 t p1 p2 p3 Q (fun v5 m6 => (wX9_lowest_J39 t m6 p1 p2 p3 v5 Q)) n10 p1 p2 0 m)
set_option maxHeartbeats 4000000 in
set_option maxRecDepth 20000 in
theorem kX9_lowest {l : Launch} {t : zT} {m : zM} {p1 : Int32} {p2 : Int32} {p3 : Int32} {Q : Int32 → zM → Prop} (H : wX9_lowest t m p1 p2 p3 Q) : zMet l yX9_lowest cX9_lowest 7 (some .int) 0 0 0 t m [.int p1, .int p2, .int p3] (zPi t Q) := by
  refine zmet (by decide +kernel) (Nat.le_of_ble_eq_true rfl) ?_
  intro p e s mt args below meth c g C hr hm
  unfold wX9_lowest at H
  have hu1 : ((0, 0) : Nat × Nat).1 ≤ 0 := Nat.le_refl 0
  have hu2 : ((0, 0) : Nat × Nat).2 ≤ 0 := Nat.le_refl 0
  refine z_iload_n (pc := 0) C (dX9_lowest 0 rfl) rfl 0 rfl ?_
  refine z_istore_n (pc := 1) (i := 3) (lv2 := [(3, .int p1), (0, .int p1), (1, .int p2), (2, .int p3)]) C (dX9_lowest 1 rfl) rfl (by decide) rfl ?_
  refine z_iload_n (pc := 2) C (dX9_lowest 2 rfl) rfl 2 rfl ?_
  refine z_istore (pc := 3) (i := 4) (lv2 := [(4, .int p2), (3, .int p1), (0, .int p1), (1, .int p2), (2, .int p3)]) C (dX9_lowest 3 rfl) (by decide) rfl ?_
  refine z_iconst (pc := 5) (v := 0) C (dX9_lowest 4 rfl) (by decide) ?_
  refine z_istore (pc := 6) (i := 5) (lv2 := [(5, .int 0), (4, .int p2), (3, .int p1), (0, .int p1), (1, .int p2), (2, .int p3)]) C (dX9_lowest 5 rfl) (by decide) rfl ?_
  obtain ⟨n10, H⟩ := H
  refine z_sub [3, 4, 5, 2, 1, 0] rfl ?_
  refine sX9_lowest_L8 C hr hm hu1 hu2 (fun v5 m6 H => ?_) n10 p1 p2 0 m H
  refine z_sub [0, 1, 2, 3] rfl ?_
  exact sX9_lowest_J39 C hr hm hu1 hu2 H
def wX9_likely (t : zT) (m : zM) (a : Nat) (p1 : Int32) (p2 : Int32) (p3 : Int32) (Q : Int32 → zM → Prop) : Prop := (tK t a = 9 ∧ (wX9_isAnswer t m a p1 p2 (fun r2 m3 => (wX9_withoutWorlds t m3 a r2 (fun r4 m5 => ((r4 = 0 → (tK t (gR m5 a 2) = 8 ∧ (wX8_membersWith t m5 (gR m5 a 2) (gR m5 a 8) p1 p2 (fun r8 m9 => (tK t (gR m9 a 8) = 4 ∧ (wX9_lowest t m9 r8 (gI m9 (gR m9 a 8) 2) p3 (fun r11 m12 => (wX9_accept t m12 a r11 (fun r13 m14 => (Q r13 m14)))))))))) ∧ (¬ r4 = 0 → (wX9_refuse t m5 a r4 (fun r15 m16 => (Q r15 m16))))))))))
set_option maxHeartbeats 4000000 in
set_option maxRecDepth 20000 in
theorem kX9_likely {l : Launch} {t : zT} {m : zM} {a : Nat} {p1 : Int32} {p2 : Int32} {p3 : Int32} {Q : Int32 → zM → Prop} (H : wX9_likely t m a p1 p2 p3 Q) : zMet l yX9_likely cX9_likely 5 (some .int) 2 0 0 t m [.ref a, .int p1, .int p2, .int p3] (zPi t Q) := by
  refine zmet (by decide +kernel) (Nat.le_of_ble_eq_true rfl) ?_
  intro p e s mt args below meth c g C hr hm
  unfold wX9_likely at H
  have hu1 : ((0, 0) : Nat × Nat).1 ≤ 0 := Nat.le_refl 0
  have hu2 : ((0, 0) : Nat × Nat).2 ≤ 0 := Nat.le_refl 0
  refine z_aload_n (pc := 0) C (dX9_likely 0 rfl) rfl 0 rfl ?_
  refine z_aload_n (pc := 1) C (dX9_likely 1 rfl) rfl 0 rfl ?_
  refine z_iload_n (pc := 2) C (dX9_likely 2 rfl) rfl 1 rfl ?_
  refine z_iload_n (pc := 3) C (dX9_likely 3 rfl) rfl 2 rfl ?_
  obtain ⟨h1, H⟩ := H
  refine zc_Vi (pc := 4) (rest := [.ref a]) C YX9_isAnswer wl_X9_185 (kX9_isAnswer H) (by decide) h1 rfl (by decide) (dX9_likely 4 rfl) rfl hu1 hu2 (Nat.le_of_ble_eq_true rfl) rfl (fun r2 m3 H => ?_)
  refine zc_Vi (pc := 7) (rest := []) C YX9_withoutWorlds wl_X9_174 (kX9_withoutWorlds H) (by decide) h1 rfl (by decide) (dX9_likely 5 rfl) rfl hu1 hu2 (Nat.le_of_ble_eq_true rfl) rfl (fun r4 m5 H => ?_)
  refine z_istore (pc := 10) (i := 4) (lv2 := [(4, .int r4), (0, .ref a), (1, .int p1), (2, .int p2), (3, .int p3)]) C (dX9_likely 6 rfl) (by decide) rfl ?_
  refine z_iload (pc := 12) C (dX9_likely 7 rfl) 0 rfl ?_
  refine z_if_eq (pc := 14) (tgt := 24) C (dX9_likely 8 rfl) (by decide) (fun c6 => ?_) (fun c6 => ?_)
  · replace H := H.1 c6
    refine z_aload_n (pc := 24) C (dX9_likely 13 rfl) rfl 1 rfl ?_
    refine z_aload_n (pc := 25) C (dX9_likely 14 rfl) rfl 1 rfl ?_
    refine z_getR (pc := 26) C zc9 h1 2 (by decide) rfl wf_X9_27 (dX9_likely 15 rfl) ?_
    refine z_aload_n (pc := 29) C (dX9_likely 16 rfl) rfl 1 rfl ?_
    refine z_getR (pc := 30) C zc9 h1 8 (by decide) rfl wf_X9_65 (dX9_likely 17 rfl) ?_
    refine z_iload_n (pc := 33) C (dX9_likely 18 rfl) rfl 2 rfl ?_
    refine z_iload_n (pc := 34) C (dX9_likely 19 rfl) rfl 3 rfl ?_
    obtain ⟨h7, H⟩ := H
    refine zc_Vi (pc := 35) (rest := [.ref a]) C YX8_membersWith wl_X9_189 (kX8_membersWith H) (by decide) h7 rfl (by decide) (dX9_likely 20 rfl) rfl hu1 hu2 (Nat.le_of_ble_eq_true rfl) rfl (fun r8 m9 H => ?_)
    refine z_aload_n (pc := 38) C (dX9_likely 21 rfl) rfl 1 rfl ?_
    refine z_getR (pc := 39) C zc9 h1 8 (by decide) rfl wf_X9_65 (dX9_likely 22 rfl) ?_
    obtain ⟨h10, H⟩ := H
    refine z_getI (pc := 42) C zc4 h10 2 (by decide) rfl wf_X9_158 (dX9_likely 23 rfl) ?_
    refine z_iload_n (pc := 45) C (dX9_likely 24 rfl) rfl 4 rfl ?_
    refine zc_Si (pc := 46) (rest := [.ref a]) C YX9_lowest wl_X9_193 (kX9_lowest H) (by decide) (dX9_likely 25 rfl) rfl hu1 hu2 (Nat.le_of_ble_eq_true rfl) rfl (fun r11 m12 H => ?_)
    refine zc_Vi (pc := 49) (rest := []) C YX9_accept wl_X9_117 (kX9_accept H) (by decide) h1 rfl (by decide) (dX9_likely 26 rfl) rfl hu1 hu2 (Nat.le_of_ble_eq_true rfl) rfl (fun r13 m14 H => ?_)
    exact z_iret (pc := 52) C hr hu1 hu2 (dX9_likely 27 rfl) ⟨rfl, _, rfl, H⟩
  · replace H := H.2 c6
    refine z_aload_n (pc := 17) C (dX9_likely 9 rfl) rfl 1 rfl ?_
    refine z_iload (pc := 18) C (dX9_likely 10 rfl) 0 rfl ?_
    refine zc_Vi (pc := 20) (rest := []) C YX9_refuse wl_X9_93 (kX9_refuse H) (by decide) h1 rfl (by decide) (dX9_likely 11 rfl) rfl hu1 hu2 (Nat.le_of_ble_eq_true rfl) rfl (fun r15 m16 H => ?_)
    exact z_iret (pc := 23) C hr hu1 hu2 (dX9_likely 12 rfl) ⟨rfl, _, rfl, H⟩
def wX9_settled (t : zT) (m : zM) (a : Nat) (Q : Int32 → zM → Prop) : Prop := (tK t a = 9 ∧ (wX9_isOpen t m a (fun r2 m3 => (wX9_withoutWorlds t m3 a r2 (fun r4 m5 => ((r4 = 0 → (tK t (gR m5 a 2) = 8 ∧ (wX8_sureIn t m5 (gR m5 a 2) (gR m5 a 8) (fun r8 m9 => (wX9_accept t m9 a r8 (fun r10 m11 => (Q r10 m11))))))) ∧ (¬ r4 = 0 → (wX9_refuse t m5 a r4 (fun r12 m13 => (Q r12 m13))))))))))
set_option maxHeartbeats 4000000 in
set_option maxRecDepth 20000 in
theorem kX9_settled {l : Launch} {t : zT} {m : zM} {a : Nat} {Q : Int32 → zM → Prop} (H : wX9_settled t m a Q) : zMet l yX9_settled cX9_settled 2 (some .int) 3 0 0 t m [.ref a] (zPi t Q) := by
  refine zmet (by decide +kernel) (Nat.le_of_ble_eq_true rfl) ?_
  intro p e s mt args below meth c g C hr hm
  unfold wX9_settled at H
  have hu1 : ((0, 0) : Nat × Nat).1 ≤ 0 := Nat.le_refl 0
  have hu2 : ((0, 0) : Nat × Nat).2 ≤ 0 := Nat.le_refl 0
  refine z_aload_n (pc := 0) C (dX9_settled 0 rfl) rfl 0 rfl ?_
  refine z_aload_n (pc := 1) C (dX9_settled 1 rfl) rfl 0 rfl ?_
  obtain ⟨h1, H⟩ := H
  refine zc_Vi (pc := 2) (rest := [.ref a]) C YX9_isOpen wl_X9_151 (kX9_isOpen H) (by decide) h1 rfl (by decide) (dX9_settled 2 rfl) rfl hu1 hu2 (Nat.le_of_ble_eq_true rfl) rfl (fun r2 m3 H => ?_)
  refine zc_Vi (pc := 5) (rest := []) C YX9_withoutWorlds wl_X9_174 (kX9_withoutWorlds H) (by decide) h1 rfl (by decide) (dX9_settled 3 rfl) rfl hu1 hu2 (Nat.le_of_ble_eq_true rfl) rfl (fun r4 m5 H => ?_)
  refine z_istore_n (pc := 8) (i := 1) (lv2 := [(1, .int r4), (0, .ref a)]) C (dX9_settled 4 rfl) rfl (by decide) rfl ?_
  refine z_iload_n (pc := 9) C (dX9_settled 5 rfl) rfl 0 rfl ?_
  refine z_if_eq (pc := 10) (tgt := 21) C (dX9_settled 6 rfl) (by decide) (fun c6 => ?_) (fun c6 => ?_)
  · replace H := H.1 c6
    refine z_aload_n (pc := 21) C (dX9_settled 11 rfl) rfl 1 rfl ?_
    refine z_aload_n (pc := 22) C (dX9_settled 12 rfl) rfl 1 rfl ?_
    refine z_getR (pc := 23) C zc9 h1 2 (by decide) rfl wf_X9_27 (dX9_settled 13 rfl) ?_
    refine z_aload_n (pc := 26) C (dX9_settled 14 rfl) rfl 1 rfl ?_
    refine z_getR (pc := 27) C zc9 h1 8 (by decide) rfl wf_X9_65 (dX9_settled 15 rfl) ?_
    obtain ⟨h7, H⟩ := H
    refine zc_Vi (pc := 30) (rest := [.ref a]) C YX8_sureIn wl_X9_197 (kX8_sureIn H) (by decide) h7 rfl (by decide) (dX9_settled 16 rfl) rfl hu1 hu2 (Nat.le_of_ble_eq_true rfl) rfl (fun r8 m9 H => ?_)
    refine zc_Vi (pc := 33) (rest := []) C YX9_accept wl_X9_117 (kX9_accept H) (by decide) h1 rfl (by decide) (dX9_settled 17 rfl) rfl hu1 hu2 (Nat.le_of_ble_eq_true rfl) rfl (fun r10 m11 H => ?_)
    exact z_iret (pc := 36) C hr hu1 hu2 (dX9_settled 18 rfl) ⟨rfl, _, rfl, H⟩
  · replace H := H.2 c6
    refine z_aload_n (pc := 13) C (dX9_settled 7 rfl) rfl 1 rfl ?_
    refine z_iload_n (pc := 14) C (dX9_settled 8 rfl) rfl 0 rfl ?_
    refine zc_Vi (pc := 15) (rest := []) C YX9_refuse wl_X9_93 (kX9_refuse H) (by decide) h1 rfl (by decide) (dX9_settled 9 rfl) rfl hu1 hu2 (Nat.le_of_ble_eq_true rfl) rfl (fun r12 m13 H => ?_)
    refine z_goto (pc := 18) (tgt := 36) C (dX9_settled 10 rfl) (by decide) ?_
    exact z_iret (pc := 36) C hr hu1 hu2 (dX9_settled 18 rfl) ⟨rfl, _, rfl, H⟩
def wX9_isSaying (t : zT) (m : zM) (a : Nat) (p1 : Int32) (Q : Int32 → zM → Prop) : Prop := ((p1 < 0 → (Q 0 m)) ∧ (¬ p1 < 0 → (tK t a = 9 ∧ (tK t (gR m a 3) = 5 ∧ (((gI m (gR m a 3) 14) ≤ p1 → (Q 0 m)) ∧ (¬ (gI m (gR m a 3) 14) ≤ p1 → (Q 1 m)))))))
set_option maxHeartbeats 4000000 in
set_option maxRecDepth 20000 in
theorem kX9_isSaying {l : Launch} {t : zT} {m : zM} {a : Nat} {p1 : Int32} {Q : Int32 → zM → Prop} (H : wX9_isSaying t m a p1 Q) : zMet l yX9_isSaying cX9_isSaying 2 (some .boolean) 0 0 0 t m [.ref a, .int p1] (zPi t Q) := by
  refine zmet (by decide +kernel) (Nat.le_of_ble_eq_true rfl) ?_
  intro p e s mt args below meth c g C hr hm
  unfold wX9_isSaying at H
  have hu1 : ((0, 0) : Nat × Nat).1 ≤ 0 := Nat.le_refl 0
  have hu2 : ((0, 0) : Nat × Nat).2 ≤ 0 := Nat.le_refl 0
  refine z_iload_n (pc := 0) C (dX9_isSaying 0 rfl) rfl 1 rfl ?_
  refine z_if_lt (pc := 1) (tgt := 19) C (dX9_isSaying 1 rfl) (by decide) (fun c1 => ?_) (fun c1 => ?_)
  · replace H := H.1 c1
    refine z_iconst (pc := 19) (v := 0) C (dX9_isSaying 9 rfl) (by decide) ?_
    exact z_zret (pc := 20) C hr (by decide) hu1 hu2 (dX9_isSaying 10 rfl) ⟨rfl, _, rfl, H⟩
  · replace H := H.2 c1
    refine z_iload_n (pc := 4) C (dX9_isSaying 2 rfl) rfl 1 rfl ?_
    refine z_aload_n (pc := 5) C (dX9_isSaying 3 rfl) rfl 0 rfl ?_
    obtain ⟨h2, H⟩ := H
    refine z_getR (pc := 6) C zc9 h2 3 (by decide) rfl wf_X9_34 (dX9_isSaying 4 rfl) ?_
    obtain ⟨h3, H⟩ := H
    refine z_getI (pc := 9) C zc5 h3 14 (by decide) rfl wf_X9_168 (dX9_isSaying 5 rfl) ?_
    refine z_icmp_ge (pc := 12) (tgt := 19) C (dX9_isSaying 6 rfl) (by decide) (fun c4 => ?_) (fun c4 => ?_)
    · replace H := H.1 c4
      refine z_iconst (pc := 19) (v := 0) C (dX9_isSaying 9 rfl) (by decide) ?_
      exact z_zret (pc := 20) C hr (by decide) hu1 hu2 (dX9_isSaying 10 rfl) ⟨rfl, _, rfl, H⟩
    · replace H := H.2 c4
      refine z_iconst (pc := 15) (v := 1) C (dX9_isSaying 7 rfl) (by decide) ?_
      refine z_goto (pc := 16) (tgt := 20) C (dX9_isSaying 8 rfl) (by decide) ?_
      exact z_zret (pc := 20) C hr (by decide) hu1 hu2 (dX9_isSaying 10 rfl) ⟨rfl, _, rfl, H⟩
def wX9_right_J78 (t : zT) (m : zM) (s_0 : Int32) (s_1 : Nat) (Q : Int32 → zM → Prop) : Prop := (tK t s_1 = 9 ∧ (wX9_accept t m s_1 s_0 (fun r19 m20 => (Q r19 m20))))
set_option maxHeartbeats 4000000 in
set_option maxRecDepth 20000 in
theorem sX9_right_J78 {p : Program} {l : Launch} {e : Env} {s : State} {mt : MethodId} {args : Array Value} {below : List Frame} {meth : Method} {c : Code} {g : zG} {u : Nat × Nat} {mc ms : Nat} {t : zT} {m : zM} {s_0 : Int32} {s_1 : Nat} {Q : Int32 → zM → Prop} (C : zC p (zRm 2 mc ms) s mt args meth c g cX9_right 4 yX9_right.cls 2) (hr : meth.sig.returnType = (some .int)) (hm : meth.name = yX9_right.name) (hu1 : u.1 ≤ mc) (hu2 : u.2 ≤ ms) (H : wX9_right_J78 t m s_0 s_1 Q) : zW p l e (zRm 2 mc ms) s mt args below meth c g (MQ below (zQc g (zPi t Q)) args s mc ms (zFar g)) u 4 t m 78 [] [.int s_0, .ref s_1] := by
  unfold wX9_right_J78 at H
  obtain ⟨h18, H⟩ := H
  refine zc_Vi (pc := 78) (rest := []) C YX9_accept wl_X9_117 (kX9_accept H) (by decide) h18 rfl (by decide) (dX9_right 43 rfl) rfl hu1 hu2 (Nat.le_of_ble_eq_true rfl) rfl (fun r19 m20 H => ?_)
  exact z_iret (pc := 81) C hr hu1 hu2 (dX9_right 44 rfl) ⟨rfl, _, rfl, H⟩
def wX9_right (t : zT) (m : zM) (a : Nat) (p1 : Int32) (Q : Int32 → zM → Prop) : Prop := (tK t a = 9 ∧ (wX9_isSaying t m a p1 (fun r2 m3 => (wX9_withoutWorlds t m3 a r2 (fun r4 m5 => ((r4 = 0 → (tK t (gR m5 a 3) = 5 ∧ (tK t (gR m5 (gR m5 a 3) 16) = 14 ∧ (vp_in p1 (tL t (gR m5 (gR m5 a 3) 16)) ∧ (tK t (gR m5 (gR m5 a 3) 17) = 14 ∧ (vp_in p1 (tL t (gR m5 (gR m5 a 3) 17)) ∧ (tK t (gR m5 a 2) = 8 ∧ (wX8_membersWith t m5 (gR m5 a 2) (gR m5 a 8) (gI m5 (gR m5 (gR m5 a 3) 16) p1.toNatClampNeg) (gI m5 (gR m5 (gR m5 a 3) 17) p1.toNatClampNeg) (fun r13 m14 => (tK t (gR m14 a 8) = 4 ∧ ((r13 = (gI m14 (gR m14 a 8) 2) → (wX9_accept t m14 a 1 (fun r21 m22 => (Q r21 m22)))) ∧ (¬ r13 = (gI m14 (gR m14 a 8) 2) → ((r13 = 0 → (wX9_right_J78 t m14 0 a Q)) ∧ (¬ r13 = 0 → (wX9_right_J78 t m14 (-2) a Q))))))))))))))) ∧ (¬ r4 = 0 → (wX9_refuse t m5 a r4 (fun r23 m24 => (Q r23 m24))))))))))
set_option maxHeartbeats 4000000 in
set_option maxRecDepth 20000 in
theorem kX9_right {l : Launch} {t : zT} {m : zM} {a : Nat} {p1 : Int32} {Q : Int32 → zM → Prop} (H : wX9_right t m a p1 Q) : zMet l yX9_right cX9_right 4 (some .int) 2 0 0 t m [.ref a, .int p1] (zPi t Q) := by
  refine zmet (by decide +kernel) (Nat.le_of_ble_eq_true rfl) ?_
  intro p e s mt args below meth c g C hr hm
  unfold wX9_right at H
  have hu1 : ((0, 0) : Nat × Nat).1 ≤ 0 := Nat.le_refl 0
  have hu2 : ((0, 0) : Nat × Nat).2 ≤ 0 := Nat.le_refl 0
  refine z_aload_n (pc := 0) C (dX9_right 0 rfl) rfl 0 rfl ?_
  refine z_aload_n (pc := 1) C (dX9_right 1 rfl) rfl 0 rfl ?_
  refine z_iload_n (pc := 2) C (dX9_right 2 rfl) rfl 1 rfl ?_
  obtain ⟨h1, H⟩ := H
  refine zc_Vi (pc := 3) (rest := [.ref a]) C YX9_isSaying wl_X9_201 (kX9_isSaying H) (by decide) h1 rfl (by decide) (dX9_right 3 rfl) rfl hu1 hu2 (Nat.le_of_ble_eq_true rfl) rfl (fun r2 m3 H => ?_)
  refine zc_Vi (pc := 6) (rest := []) C YX9_withoutWorlds wl_X9_174 (kX9_withoutWorlds H) (by decide) h1 rfl (by decide) (dX9_right 4 rfl) rfl hu1 hu2 (Nat.le_of_ble_eq_true rfl) rfl (fun r4 m5 H => ?_)
  refine z_istore_n (pc := 9) (i := 2) (lv2 := [(2, .int r4), (0, .ref a), (1, .int p1)]) C (dX9_right 5 rfl) rfl (by decide) rfl ?_
  refine z_iload_n (pc := 10) C (dX9_right 6 rfl) rfl 0 rfl ?_
  refine z_if_eq (pc := 11) (tgt := 20) C (dX9_right 7 rfl) (by decide) (fun c6 => ?_) (fun c6 => ?_)
  · replace H := H.1 c6
    refine z_aload_n (pc := 20) C (dX9_right 12 rfl) rfl 1 rfl ?_
    refine z_getR (pc := 21) C zc9 h1 2 (by decide) rfl wf_X9_27 (dX9_right 13 rfl) ?_
    refine z_aload_n (pc := 24) C (dX9_right 14 rfl) rfl 1 rfl ?_
    refine z_getR (pc := 25) C zc9 h1 8 (by decide) rfl wf_X9_65 (dX9_right 15 rfl) ?_
    refine z_aload_n (pc := 28) C (dX9_right 16 rfl) rfl 1 rfl ?_
    refine z_getR (pc := 29) C zc9 h1 3 (by decide) rfl wf_X9_34 (dX9_right 17 rfl) ?_
    obtain ⟨h7, H⟩ := H
    refine z_getR (pc := 32) C zc5 h7 16 (by decide) rfl wf_X9_204 (dX9_right 18 rfl) ?_
    refine z_iload_n (pc := 35) C (dX9_right 19 rfl) rfl 2 rfl ?_
    obtain ⟨h8, H⟩ := H
    obtain ⟨h9, H⟩ := H
    refine z_iaload (pc := 36) C h8 h9 (dX9_right 20 rfl) ?_
    refine z_aload_n (pc := 37) C (dX9_right 21 rfl) rfl 1 rfl ?_
    refine z_getR (pc := 38) C zc9 h1 3 (by decide) rfl wf_X9_34 (dX9_right 22 rfl) ?_
    refine z_getR (pc := 41) C zc5 h7 17 (by decide) rfl wf_X9_207 (dX9_right 23 rfl) ?_
    refine z_iload_n (pc := 44) C (dX9_right 24 rfl) rfl 2 rfl ?_
    obtain ⟨h10, H⟩ := H
    obtain ⟨h11, H⟩ := H
    refine z_iaload (pc := 45) C h10 h11 (dX9_right 25 rfl) ?_
    obtain ⟨h12, H⟩ := H
    refine zc_Vi (pc := 46) (rest := []) C YX8_membersWith wl_X9_189 (kX8_membersWith H) (by decide) h12 rfl (by decide) (dX9_right 26 rfl) rfl hu1 hu2 (Nat.le_of_ble_eq_true rfl) rfl (fun r13 m14 H => ?_)
    refine z_istore_n (pc := 49) (i := 3) (lv2 := [(3, .int r13), (2, .int r4), (0, .ref a), (1, .int p1)]) C (dX9_right 27 rfl) rfl (by decide) rfl ?_
    refine z_iload_n (pc := 50) C (dX9_right 28 rfl) rfl 0 rfl ?_
    refine z_aload_n (pc := 51) C (dX9_right 29 rfl) rfl 2 rfl ?_
    refine z_getR (pc := 52) C zc9 h1 8 (by decide) rfl wf_X9_65 (dX9_right 30 rfl) ?_
    obtain ⟨h15, H⟩ := H
    refine z_getI (pc := 55) C zc4 h15 2 (by decide) rfl wf_X9_158 (dX9_right 31 rfl) ?_
    refine z_icmp_ne (pc := 58) (tgt := 67) C (dX9_right 32 rfl) (by decide) (fun c16 => ?_) (fun c16 => ?_)
    · replace H := H.2 c16
      refine z_aload_n (pc := 67) C (dX9_right 37 rfl) rfl 2 rfl ?_
      refine z_iload_n (pc := 68) C (dX9_right 38 rfl) rfl 0 rfl ?_
      refine z_if_ne (pc := 69) (tgt := 76) C (dX9_right 39 rfl) (by decide) (fun c17 => ?_) (fun c17 => ?_)
      · replace H := H.2 c17
        refine z_bipush (pc := 76) (v := (-2)) C (dX9_right 42 rfl) (by decide) ?_
        refine z_sub [] rfl ?_
        exact sX9_right_J78 C hr hm hu1 hu2 H
      · replace H := H.1 c17
        refine z_iconst (pc := 72) (v := 0) C (dX9_right 40 rfl) (by decide) ?_
        refine z_goto (pc := 73) (tgt := 78) C (dX9_right 41 rfl) (by decide) ?_
        refine z_sub [] rfl ?_
        exact sX9_right_J78 C hr hm hu1 hu2 H
    · replace H := H.1 c16
      refine z_aload_n (pc := 61) C (dX9_right 33 rfl) rfl 2 rfl ?_
      refine z_iconst (pc := 62) (v := 1) C (dX9_right 34 rfl) (by decide) ?_
      refine zc_Vi (pc := 63) (rest := []) C YX9_accept wl_X9_117 (kX9_accept H) (by decide) h1 rfl (by decide) (dX9_right 35 rfl) rfl hu1 hu2 (Nat.le_of_ble_eq_true rfl) rfl (fun r21 m22 H => ?_)
      exact z_iret (pc := 66) C hr hu1 hu2 (dX9_right 36 rfl) ⟨rfl, _, rfl, H⟩
  · replace H := H.2 c6
    refine z_aload_n (pc := 14) C (dX9_right 8 rfl) rfl 1 rfl ?_
    refine z_iload_n (pc := 15) C (dX9_right 9 rfl) rfl 0 rfl ?_
    refine zc_Vi (pc := 16) (rest := []) C YX9_refuse wl_X9_93 (kX9_refuse H) (by decide) h1 rfl (by decide) (dX9_right 10 rfl) rfl hu1 hu2 (Nat.le_of_ble_eq_true rfl) rfl (fun r23 m24 H => ?_)
    exact z_iret (pc := 19) C hr hu1 hu2 (dX9_right 11 rfl) ⟨rfl, _, rfl, H⟩
def wX9_isMaster (t : zT) (m : zM) (a : Nat) (p1 : Int32) (Q : Int32 → zM → Prop) : Prop := ((p1 < 0 → (Q 0 m)) ∧ (¬ p1 < 0 → (tK t a = 9 ∧ (tK t (gR m a 3) = 5 ∧ (((gI m (gR m a 3) 10) ≤ p1 → (Q 0 m)) ∧ (¬ (gI m (gR m a 3) 10) ≤ p1 → (Q 1 m)))))))
set_option maxHeartbeats 4000000 in
set_option maxRecDepth 20000 in
theorem kX9_isMaster {l : Launch} {t : zT} {m : zM} {a : Nat} {p1 : Int32} {Q : Int32 → zM → Prop} (H : wX9_isMaster t m a p1 Q) : zMet l yX9_isMaster cX9_isMaster 2 (some .boolean) 0 0 0 t m [.ref a, .int p1] (zPi t Q) := by
  refine zmet (by decide +kernel) (Nat.le_of_ble_eq_true rfl) ?_
  intro p e s mt args below meth c g C hr hm
  unfold wX9_isMaster at H
  have hu1 : ((0, 0) : Nat × Nat).1 ≤ 0 := Nat.le_refl 0
  have hu2 : ((0, 0) : Nat × Nat).2 ≤ 0 := Nat.le_refl 0
  refine z_iload_n (pc := 0) C (dX9_isMaster 0 rfl) rfl 1 rfl ?_
  refine z_if_lt (pc := 1) (tgt := 19) C (dX9_isMaster 1 rfl) (by decide) (fun c1 => ?_) (fun c1 => ?_)
  · replace H := H.1 c1
    refine z_iconst (pc := 19) (v := 0) C (dX9_isMaster 9 rfl) (by decide) ?_
    exact z_zret (pc := 20) C hr (by decide) hu1 hu2 (dX9_isMaster 10 rfl) ⟨rfl, _, rfl, H⟩
  · replace H := H.2 c1
    refine z_iload_n (pc := 4) C (dX9_isMaster 2 rfl) rfl 1 rfl ?_
    refine z_aload_n (pc := 5) C (dX9_isMaster 3 rfl) rfl 0 rfl ?_
    obtain ⟨h2, H⟩ := H
    refine z_getR (pc := 6) C zc9 h2 3 (by decide) rfl wf_X9_34 (dX9_isMaster 4 rfl) ?_
    obtain ⟨h3, H⟩ := H
    refine z_getI (pc := 9) C zc5 h3 10 (by decide) rfl wf_X9_302 (dX9_isMaster 5 rfl) ?_
    refine z_icmp_ge (pc := 12) (tgt := 19) C (dX9_isMaster 6 rfl) (by decide) (fun c4 => ?_) (fun c4 => ?_)
    · replace H := H.1 c4
      refine z_iconst (pc := 19) (v := 0) C (dX9_isMaster 9 rfl) (by decide) ?_
      exact z_zret (pc := 20) C hr (by decide) hu1 hu2 (dX9_isMaster 10 rfl) ⟨rfl, _, rfl, H⟩
    · replace H := H.2 c4
      refine z_iconst (pc := 15) (v := 1) C (dX9_isMaster 7 rfl) (by decide) ?_
      refine z_goto (pc := 16) (tgt := 20) C (dX9_isMaster 8 rfl) (by decide) ?_
      exact z_zret (pc := 20) C hr (by decide) hu1 hu2 (dX9_isMaster 10 rfl) ⟨rfl, _, rfl, H⟩
def wX9_tallyWrongs_L9 (t : zT) (a_0 : Nat) (x_1 : Int32) (x_2 : Int32) (Q : zM → Prop) (k47 : zM → Prop) : Nat → Int32 → zM → Prop
  | 0, _, _ => False
  | n + 1, x_3, m => (tK t a_0 = 9 ∧ (tK t (gR m a_0 3) = 5 ∧ (((gI m (gR m a_0 3) 0) ≤ x_3 → (k47 m)) ∧ (¬ (gI m (gR m a_0 3) 0) ≤ x_3 → (tK t (gR m a_0 2) = 8 ∧ (wX8_allRightWord t m (gR m a_0 2) x_1 x_3 x_2 (fun r9 m10 => (tK t (gR m a_0 10) = 6 ∧ (wX6_add t m10 (gR m a_0 10) (r9 ^^^ (-1)) (fun m13 => (wX9_tallyWrongs_L9 t a_0 x_1 x_2 Q k47 n (x_3 + 1) m13)))))))))))
set_option maxHeartbeats 4000000 in
set_option maxRecDepth 20000 in
theorem sX9_tallyWrongs_L9 {p : Program} {l : Launch} {e : Env} {s : State} {mt : MethodId} {args : Array Value} {below : List Frame} {meth : Method} {c : Code} {g : zG} {u : Nat × Nat} {mc ms : Nat} {t : zT} {a_0 : Nat} {x_1 : Int32} {x_2 : Int32} {Q : zM → Prop} {k47 : zM → Prop} (C : zC p (zRm 3 mc ms) s mt args meth c g cX9_tallyWrongs 4 yX9_tallyWrongs.cls 3) (hr : meth.sig.returnType = none) (hm : meth.name = yX9_tallyWrongs.name) (hu1 : u.1 ≤ mc) (hu2 : u.2 ≤ ms)
    (K47 : ∀ (m : zM), k47 m → zW p l e (zRm 3 mc ms) s mt args below meth c g (MQ below (zQc g (zPv t Q)) args s mc ms (zFar g)) u 4 t m 47 [] []) : ∀ (n : Nat) (x_3 : Int32) (m : zM), wX9_tallyWrongs_L9 t a_0 x_1 x_2 Q k47 n x_3 m → zW p l e (zRm 3 mc ms) s mt args below meth c g (MQ below (zQc g (zPv t Q)) args s mc ms (zFar g)) u 4 t m 9 [(0, .ref a_0), (1, .int x_1), (2, .int x_2), (3, .int x_3)] [] := by
  intro n
  induction n with
  | zero => intro x_3 m H; exact H.elim
  | succ n ih =>
    intro x_3 m H
    simp only [wX9_tallyWrongs_L9] at H
    refine z_iload_n (pc := 9) C (dX9_tallyWrongs 5 rfl) rfl 3 rfl ?_
    refine z_aload_n (pc := 10) C (dX9_tallyWrongs 6 rfl) rfl 0 rfl ?_
    obtain ⟨h5, H⟩ := H
    refine z_getR (pc := 11) C zc9 h5 3 (by decide) rfl wf_X9_34 (dX9_tallyWrongs 7 rfl) ?_
    obtain ⟨h6, H⟩ := H
    refine z_getI (pc := 14) C zc5 h6 0 (by decide) rfl wf_X9_112 (dX9_tallyWrongs 8 rfl) ?_
    refine z_icmp_ge (pc := 17) (tgt := 47) C (dX9_tallyWrongs 9 rfl) (by decide) (fun c7 => ?_) (fun c7 => ?_)
    · replace H := H.1 c7
      refine z_sub [] rfl ?_
      exact K47 m H
    · replace H := H.2 c7
      refine z_aload_n (pc := 20) C (dX9_tallyWrongs 10 rfl) rfl 0 rfl ?_
      refine z_getR (pc := 21) C zc9 h5 10 (by decide) rfl wf_X9_74 (dX9_tallyWrongs 11 rfl) ?_
      refine z_aload_n (pc := 24) C (dX9_tallyWrongs 12 rfl) rfl 0 rfl ?_
      refine z_getR (pc := 25) C zc9 h5 2 (by decide) rfl wf_X9_27 (dX9_tallyWrongs 13 rfl) ?_
      refine z_iload_n (pc := 28) C (dX9_tallyWrongs 14 rfl) rfl 1 rfl ?_
      refine z_iload_n (pc := 29) C (dX9_tallyWrongs 15 rfl) rfl 3 rfl ?_
      refine z_iload_n (pc := 30) C (dX9_tallyWrongs 16 rfl) rfl 2 rfl ?_
      obtain ⟨h8, H⟩ := H
      refine zc_Vl (pc := 31) (rest := [.ref (gR m a_0 10)]) C YX8_allRightWord wl_X9_243 (kX8_allRightWord H) (by decide) h8 rfl (by decide) (dX9_tallyWrongs 17 rfl) rfl hu1 hu2 (Nat.le_of_ble_eq_true rfl) rfl (fun r9 m10 H => ?_)
      refine z_ldc2 (pc := 34) C wj_X9_247 (dX9_tallyWrongs 18 rfl) ?_
      refine z_lxor (pc := 37) C (dX9_tallyWrongs 19 rfl) ?_
      obtain ⟨h11, H⟩ := H
      refine zc_Vv (pc := 38) (rest := []) C YX6_add wl_X9_249 (kX6_add H) (by decide) h11 rfl (by decide) (dX9_tallyWrongs 20 rfl) rfl hu1 hu2 (Nat.le_of_ble_eq_true rfl) rfl (fun m13 H => ?_)
      refine z_iinc (pc := 41) (i := 3) (v := x_3 + 1) (lv2 := [(3, .int (x_3 + 1)), (0, .ref a_0), (1, .int x_1), (2, .int x_2)]) C (dX9_tallyWrongs 21 rfl) 3 rfl (by rfl) (by decide) rfl ?_
      refine z_goto (pc := 44) (tgt := 9) C (dX9_tallyWrongs 22 rfl) (by decide) ?_
      refine z_sub [1, 2, 3, 0] rfl ?_
      exact ih (x_3 + 1) m13 H
def wX9_tallyWrongs (t : zT) (m : zM) (a : Nat) (p1 : Int32) (p2 : Int32) (Q : zM → Prop) : Prop := (tK t a = 9 ∧ (tK t (gR m a 10) = 6 ∧ (wX6_clear t m (gR m a 10) (fun m4 => (∃ n15, wX9_tallyWrongs_L9 t a p1 p2 Q (fun m14 => (Q m14)) n15 0 m4)))))
set_option maxHeartbeats 4000000 in
set_option maxRecDepth 20000 in
theorem kX9_tallyWrongs {l : Launch} {t : zT} {m : zM} {a : Nat} {p1 : Int32} {p2 : Int32} {Q : zM → Prop} (H : wX9_tallyWrongs t m a p1 p2 Q) : zMet l yX9_tallyWrongs cX9_tallyWrongs 4 none 3 0 0 t m [.ref a, .int p1, .int p2] (zPv t Q) := by
  refine zmet (by decide +kernel) (Nat.le_of_ble_eq_true rfl) ?_
  intro p e s mt args below meth c g C hr hm
  unfold wX9_tallyWrongs at H
  have hu1 : ((0, 0) : Nat × Nat).1 ≤ 0 := Nat.le_refl 0
  have hu2 : ((0, 0) : Nat × Nat).2 ≤ 0 := Nat.le_refl 0
  refine z_aload_n (pc := 0) C (dX9_tallyWrongs 0 rfl) rfl 0 rfl ?_
  obtain ⟨h1, H⟩ := H
  refine z_getR (pc := 1) C zc9 h1 10 (by decide) rfl wf_X9_74 (dX9_tallyWrongs 1 rfl) ?_
  obtain ⟨h2, H⟩ := H
  refine zc_Vv (pc := 4) (rest := []) C YX6_clear wl_X9_240 (kX6_clear H) (by decide) h2 rfl (by decide) (dX9_tallyWrongs 2 rfl) rfl hu1 hu2 (Nat.le_of_ble_eq_true rfl) rfl (fun m4 H => ?_)
  refine z_iconst (pc := 7) (v := 0) C (dX9_tallyWrongs 3 rfl) (by decide) ?_
  refine z_istore_n (pc := 8) (i := 3) (lv2 := [(3, .int 0), (0, .ref a), (1, .int p1), (2, .int p2)]) C (dX9_tallyWrongs 4 rfl) rfl (by decide) rfl ?_
  obtain ⟨n15, H⟩ := H
  refine z_sub [1, 2, 3, 0] rfl ?_
  refine sX9_tallyWrongs_L9 C hr hm hu1 hu2 (fun m14 H => ?_) n15 0 m4 H
  exact z_vret (pc := 47) C hr hu1 hu2 (dX9_tallyWrongs 23 rfl) ⟨rfl, rfl, H⟩
def wX9_wrongs_J100 (t : zT) (m : zM) (a_0 : Nat) (x_1 : Int32) (x_2 : Int32) (x_4 : Int32) (x_5 : Int32) (x_6 : Int32) (Q : Int32 → zM → Prop) (r30 : Int32 → Int32 → Int32 → zM → Prop) : Prop := (r30 x_4 x_5 (x_6 + 1) m)
set_option maxHeartbeats 4000000 in
set_option maxRecDepth 20000 in
theorem sX9_wrongs_J100 {p : Program} {l : Launch} {e : Env} {s : State} {mt : MethodId} {args : Array Value} {below : List Frame} {meth : Method} {c : Code} {g : zG} {u : Nat × Nat} {mc ms : Nat} {t : zT} {m : zM} {a_0 : Nat} {x_1 : Int32} {x_2 : Int32} {x_4 : Int32} {x_5 : Int32} {x_6 : Int32} {Q : Int32 → zM → Prop} {r30 : Int32 → Int32 → Int32 → zM → Prop} (C : zC p (zRm 4 mc ms) s mt args meth c g cX9_wrongs 9 yX9_wrongs.cls 4) (hr : meth.sig.returnType = (some .int)) (hm : meth.name = yX9_wrongs.name) (hu1 : u.1 ≤ mc) (hu2 : u.2 ≤ ms)
    (R30 : ∀ (v0 : Int32) (v1 : Int32) (v2 : Int32) (m : zM), r30 v0 v1 v2 m → zW p l e (zRm 4 mc ms) s mt args below meth c g (MQ below (zQc g (zPi t Q)) args s mc ms (zFar g)) u 9 t m 30 [(0, .ref a_0), (1, .int x_1), (2, .int x_2), (4, .int v0), (5, .int v1), (6, .int v2)] []) (H : wX9_wrongs_J100 t m a_0 x_1 x_2 x_4 x_5 x_6 Q r30) : zW p l e (zRm 4 mc ms) s mt args below meth c g (MQ below (zQc g (zPi t Q)) args s mc ms (zFar g)) u 9 t m 100 [(0, .ref a_0), (1, .int x_1), (2, .int x_2), (4, .int x_4), (5, .int x_5), (6, .int x_6)] [] := by
  unfold wX9_wrongs_J100 at H
  refine z_iinc (pc := 100) (i := 6) (v := x_6 + 1) (lv2 := [(6, .int (x_6 + 1)), (0, .ref a_0), (1, .int x_1), (2, .int x_2), (4, .int x_4), (5, .int x_5)]) C (dX9_wrongs 51 rfl) 5 rfl (by rfl) (by decide) rfl ?_
  refine z_goto (pc := 103) (tgt := 30) C (dX9_wrongs 52 rfl) (by decide) ?_
  refine z_sub [1, 2, 3, 4, 5, 0] rfl ?_
  exact R30 x_4 x_5 (x_6 + 1) m H
def wX9_wrongs_L30 (t : zT) (a_0 : Nat) (x_1 : Int32) (x_2 : Int32) (Q : Int32 → zM → Prop) (k106 : Int32 → Int32 → zM → Prop) : Nat → Int32 → Int32 → Int32 → zM → Prop
  | 0, _, _, _, _ => False
  | n + 1, x_4, x_5, x_6, m => (tK t a_0 = 9 ∧ (tK t (gR m a_0 8) = 4 ∧ (((gI m (gR m a_0 8) 1) ≤ x_6 → (k106 x_4 x_5 m)) ∧ (¬ (gI m (gR m a_0 8) 1) ≤ x_6 → (tK t (gR m (gR m a_0 8) 0) = 15 ∧ (vp_in x_6 (tL t (gR m (gR m a_0 8) 0)) ∧ (∀ x12 : Int64, x12 = (gJ m (gR m (gR m a_0 8) 0) x_6.toNatClampNeg) → ((((lg_cmp x12 0) = 0 → (wX9_wrongs_J100 t m a_0 x_1 x_2 x_4 x_5 x_6 Q (wX9_wrongs_L30 t a_0 x_1 x_2 Q k106 n))) ∧ (¬ (lg_cmp x12 0) = 0 → (wX9_tallyWrongs t m a_0 x_1 x_6 (fun m15 => (tK t (gR m15 a_0 10) = 6 ∧ (wX6_leastIn t m15 (gR m15 a_0 10) x12 (fun r17 m18 => (∀ x19 : Int32, x19 = (if r17 < x_4 then r17 else x_4) → ((tK t (gR m18 a_0 10) = 6 ∧ (wX6_mostIn t m18 (gR m18 a_0 10) x12 (fun r21 m22 => (∀ x23 : Int32, x23 = (if x_5 < r21 then r21 else x_5) → ((wX9_wrongs_J100 t m22 a_0 x_1 x_2 x19 x23 x_6 Q (wX9_wrongs_L30 t a_0 x_1 x_2 Q k106 n))))))))))))))))))))))))
set_option maxHeartbeats 4000000 in
set_option maxRecDepth 20000 in
theorem sX9_wrongs_L30 {p : Program} {l : Launch} {e : Env} {s : State} {mt : MethodId} {args : Array Value} {below : List Frame} {meth : Method} {c : Code} {g : zG} {u : Nat × Nat} {mc ms : Nat} {t : zT} {a_0 : Nat} {x_1 : Int32} {x_2 : Int32} {Q : Int32 → zM → Prop} {k106 : Int32 → Int32 → zM → Prop} (C : zC p (zRm 4 mc ms) s mt args meth c g cX9_wrongs 9 yX9_wrongs.cls 4) (hr : meth.sig.returnType = (some .int)) (hm : meth.name = yX9_wrongs.name) (hu1 : u.1 ≤ mc) (hu2 : u.2 ≤ ms)
    (K106 : ∀ (v0 : Int32) (v1 : Int32) (m : zM), k106 v0 v1 m → zW p l e (zRm 4 mc ms) s mt args below meth c g (MQ below (zQc g (zPi t Q)) args s mc ms (zFar g)) u 9 t m 106 [(0, .ref a_0), (2, .int x_2), (4, .int v0), (5, .int v1)] []) : ∀ (n : Nat) (x_4 : Int32) (x_5 : Int32) (x_6 : Int32) (m : zM), wX9_wrongs_L30 t a_0 x_1 x_2 Q k106 n x_4 x_5 x_6 m → zW p l e (zRm 4 mc ms) s mt args below meth c g (MQ below (zQc g (zPi t Q)) args s mc ms (zFar g)) u 9 t m 30 [(0, .ref a_0), (1, .int x_1), (2, .int x_2), (4, .int x_4), (5, .int x_5), (6, .int x_6)] [] := by
  intro n
  induction n with
  | zero => intro x_4 x_5 x_6 m H; exact H.elim
  | succ n ih =>
    intro x_4 x_5 x_6 m H
    simp only [wX9_wrongs_L30] at H
    refine z_iload (pc := 30) C (dX9_wrongs 18 rfl) 5 rfl ?_
    refine z_aload_n (pc := 32) C (dX9_wrongs 19 rfl) rfl 0 rfl ?_
    obtain ⟨h7, H⟩ := H
    refine z_getR (pc := 33) C zc9 h7 8 (by decide) rfl wf_X9_65 (dX9_wrongs 20 rfl) ?_
    obtain ⟨h8, H⟩ := H
    refine z_getI (pc := 36) C zc4 h8 1 (by decide) rfl wf_X9_213 (dX9_wrongs 21 rfl) ?_
    refine z_icmp_ge (pc := 39) (tgt := 106) C (dX9_wrongs 22 rfl) (by decide) (fun c9 => ?_) (fun c9 => ?_)
    · replace H := H.1 c9
      refine z_sub [0, 2, 3, 4] rfl ?_
      exact K106 x_4 x_5 m H
    · replace H := H.2 c9
      refine z_aload_n (pc := 42) C (dX9_wrongs 23 rfl) rfl 0 rfl ?_
      refine z_getR (pc := 43) C zc9 h7 8 (by decide) rfl wf_X9_65 (dX9_wrongs 24 rfl) ?_
      refine z_getR (pc := 46) C zc4 h8 0 (by decide) rfl wf_X9_216 (dX9_wrongs 25 rfl) ?_
      refine z_iload (pc := 49) C (dX9_wrongs 26 rfl) 5 rfl ?_
      obtain ⟨h10, H⟩ := H
      obtain ⟨h11, H⟩ := H
      refine z_laload (pc := 51) C h10 h11 (dX9_wrongs 27 rfl) ?_
      refine z_long (fun x12 hx12 => ?_)
      replace H := H x12 hx12
      refine z_lstore (pc := 52) (i := 7) (lv2 := [(7, .long x12), (0, .ref a_0), (1, .int x_1), (2, .int x_2), (4, .int x_4), (5, .int x_5), (6, .int x_6)]) C (dX9_wrongs 28 rfl) (by decide) rfl ?_
      refine z_lload (pc := 54) C (dX9_wrongs 29 rfl) 0 rfl ?_
      refine z_lconst (pc := 56) (v := 0) C (dX9_wrongs 30 rfl) (by decide) ?_
      refine z_lcmp (pc := 57) C (dX9_wrongs 31 rfl) ?_
      refine z_if_eq (pc := 58) (tgt := 100) C (dX9_wrongs 32 rfl) (by decide) (fun c13 => ?_) (fun c13 => ?_)
      · replace H := H.1 c13
        refine z_sub [1, 2, 3, 4, 5, 6] rfl ?_
        exact sX9_wrongs_J100 C hr hm hu1 hu2 ih H
      · replace H := H.2 c13
        refine z_aload_n (pc := 61) C (dX9_wrongs 33 rfl) rfl 1 rfl ?_
        refine z_iload_n (pc := 62) C (dX9_wrongs 34 rfl) rfl 2 rfl ?_
        refine z_iload (pc := 63) C (dX9_wrongs 35 rfl) 6 rfl ?_
        refine zc_Vv (pc := 65) (rest := []) C YX9_tallyWrongs wl_X9_220 (kX9_tallyWrongs H) (by decide) h7 rfl (by decide) (dX9_wrongs 36 rfl) rfl hu1 hu2 (Nat.le_of_ble_eq_true rfl) rfl (fun m15 H => ?_)
        refine z_iload (pc := 68) C (dX9_wrongs 37 rfl) 4 rfl ?_
        refine z_aload_n (pc := 70) C (dX9_wrongs 38 rfl) rfl 1 rfl ?_
        refine z_getR (pc := 71) C zc9 h7 10 (by decide) rfl wf_X9_74 (dX9_wrongs 39 rfl) ?_
        refine z_lload (pc := 74) C (dX9_wrongs 40 rfl) 0 rfl ?_
        obtain ⟨h16, H⟩ := H
        refine zc_Vi (pc := 76) (rest := [.int x_4]) C YX6_leastIn wl_X9_224 (kX6_leastIn H) (by decide) h16 rfl (by decide) (dX9_wrongs 41 rfl) rfl hu1 hu2 (Nat.le_of_ble_eq_true rfl) rfl (fun r17 m18 H => ?_)
        refine z_mmin (pc := 79) C wl_X9_228 (by decide) hu1 hu2 (Nat.le_of_ble_eq_true rfl) (dX9_wrongs 42 rfl) ?_
        refine z_int (fun x19 hx19 => ?_)
        replace H := H x19 hx19
        refine z_istore (pc := 82) (i := 4) (lv2 := [(4, .int x19), (7, .long x12), (0, .ref a_0), (1, .int x_1), (2, .int x_2), (5, .int x_5), (6, .int x_6)]) C (dX9_wrongs 43 rfl) (by decide) rfl ?_
        refine z_iload (pc := 84) C (dX9_wrongs 44 rfl) 5 rfl ?_
        refine z_aload_n (pc := 86) C (dX9_wrongs 45 rfl) rfl 2 rfl ?_
        refine z_getR (pc := 87) C zc9 h7 10 (by decide) rfl wf_X9_74 (dX9_wrongs 46 rfl) ?_
        refine z_lload (pc := 90) C (dX9_wrongs 47 rfl) 1 rfl ?_
        obtain ⟨h20, H⟩ := H
        refine zc_Vi (pc := 92) (rest := [.int x_5]) C YX6_mostIn wl_X9_234 (kX6_mostIn H) (by decide) h20 rfl (by decide) (dX9_wrongs 48 rfl) rfl hu1 hu2 (Nat.le_of_ble_eq_true rfl) rfl (fun r21 m22 H => ?_)
        refine z_mmax (pc := 95) C wl_X9_237 (by decide) hu1 hu2 (Nat.le_of_ble_eq_true rfl) (dX9_wrongs 49 rfl) ?_
        refine z_int (fun x23 hx23 => ?_)
        replace H := H x23 hx23
        refine z_istore (pc := 98) (i := 5) (lv2 := [(5, .int x23), (4, .int x19), (7, .long x12), (0, .ref a_0), (1, .int x_1), (2, .int x_2), (6, .int x_6)]) C (dX9_wrongs 50 rfl) (by decide) rfl ?_
        refine z_sub [3, 4, 5, 1, 0, 6] rfl ?_
        exact sX9_wrongs_J100 C hr hm hu1 hu2 ih H
def wX9_wrongs_J118 (t : zT) (m : zM) (s_0 : Int32) (s_1 : Nat) (Q : Int32 → zM → Prop) : Prop := (tK t s_1 = 9 ∧ (wX9_accept t m s_1 s_0 (fun r29 m30 => (Q r29 m30))))
set_option maxHeartbeats 4000000 in
set_option maxRecDepth 20000 in
theorem sX9_wrongs_J118 {p : Program} {l : Launch} {e : Env} {s : State} {mt : MethodId} {args : Array Value} {below : List Frame} {meth : Method} {c : Code} {g : zG} {u : Nat × Nat} {mc ms : Nat} {t : zT} {m : zM} {s_0 : Int32} {s_1 : Nat} {Q : Int32 → zM → Prop} (C : zC p (zRm 4 mc ms) s mt args meth c g cX9_wrongs 9 yX9_wrongs.cls 4) (hr : meth.sig.returnType = (some .int)) (hm : meth.name = yX9_wrongs.name) (hu1 : u.1 ≤ mc) (hu2 : u.2 ≤ ms) (H : wX9_wrongs_J118 t m s_0 s_1 Q) : zW p l e (zRm 4 mc ms) s mt args below meth c g (MQ below (zQc g (zPi t Q)) args s mc ms (zFar g)) u 9 t m 118 [] [.int s_0, .ref s_1] := by
  unfold wX9_wrongs_J118 at H
  obtain ⟨h28, H⟩ := H
  refine zc_Vi (pc := 118) (rest := []) C YX9_accept wl_X9_117 (kX9_accept H) (by decide) h28 rfl (by decide) (dX9_wrongs 59 rfl) rfl hu1 hu2 (Nat.le_of_ble_eq_true rfl) rfl (fun r29 m30 H => ?_)
  exact z_iret (pc := 121) C hr hu1 hu2 (dX9_wrongs 60 rfl) ⟨rfl, _, rfl, H⟩
def wX9_wrongs (t : zT) (m : zM) (a : Nat) (p1 : Int32) (p2 : Int32) (Q : Int32 → zM → Prop) : Prop := (tK t a = 9 ∧ (wX9_isMaster t m a p1 (fun r2 m3 => (wX9_withoutWorlds t m3 a r2 (fun r4 m5 => ((r4 = 0 → (∃ n31, wX9_wrongs_L30 t a p1 p2 Q (fun v24 v25 m26 => ((p2 = 0 → (wX9_wrongs_J118 t m26 v25 a Q)) ∧ (¬ p2 = 0 → (wX9_wrongs_J118 t m26 v24 a Q)))) n31 8 0 0 m5)) ∧ (¬ r4 = 0 → (wX9_refuse t m5 a r4 (fun r32 m33 => (Q r32 m33))))))))))
set_option maxHeartbeats 4000000 in
set_option maxRecDepth 20000 in
theorem kX9_wrongs {l : Launch} {t : zT} {m : zM} {a : Nat} {p1 : Int32} {p2 : Int32} {Q : Int32 → zM → Prop} (H : wX9_wrongs t m a p1 p2 Q) : zMet l yX9_wrongs cX9_wrongs 9 (some .int) 4 0 0 t m [.ref a, .int p1, .int p2] (zPi t Q) := by
  refine zmet (by decide +kernel) (Nat.le_of_ble_eq_true rfl) ?_
  intro p e s mt args below meth c g C hr hm
  unfold wX9_wrongs at H
  have hu1 : ((0, 0) : Nat × Nat).1 ≤ 0 := Nat.le_refl 0
  have hu2 : ((0, 0) : Nat × Nat).2 ≤ 0 := Nat.le_refl 0
  refine z_aload_n (pc := 0) C (dX9_wrongs 0 rfl) rfl 0 rfl ?_
  refine z_aload_n (pc := 1) C (dX9_wrongs 1 rfl) rfl 0 rfl ?_
  refine z_iload_n (pc := 2) C (dX9_wrongs 2 rfl) rfl 1 rfl ?_
  obtain ⟨h1, H⟩ := H
  refine zc_Vi (pc := 3) (rest := [.ref a]) C YX9_isMaster wl_X9_210 (kX9_isMaster H) (by decide) h1 rfl (by decide) (dX9_wrongs 3 rfl) rfl hu1 hu2 (Nat.le_of_ble_eq_true rfl) rfl (fun r2 m3 H => ?_)
  refine zc_Vi (pc := 6) (rest := []) C YX9_withoutWorlds wl_X9_174 (kX9_withoutWorlds H) (by decide) h1 rfl (by decide) (dX9_wrongs 4 rfl) rfl hu1 hu2 (Nat.le_of_ble_eq_true rfl) rfl (fun r4 m5 H => ?_)
  refine z_istore_n (pc := 9) (i := 3) (lv2 := [(3, .int r4), (0, .ref a), (1, .int p1), (2, .int p2)]) C (dX9_wrongs 5 rfl) rfl (by decide) rfl ?_
  refine z_iload_n (pc := 10) C (dX9_wrongs 6 rfl) rfl 0 rfl ?_
  refine z_if_eq (pc := 11) (tgt := 20) C (dX9_wrongs 7 rfl) (by decide) (fun c6 => ?_) (fun c6 => ?_)
  · replace H := H.1 c6
    refine z_bipush (pc := 20) (v := 8) C (dX9_wrongs 12 rfl) (by decide) ?_
    refine z_istore (pc := 22) (i := 4) (lv2 := [(4, .int 8), (3, .int r4), (0, .ref a), (1, .int p1), (2, .int p2)]) C (dX9_wrongs 13 rfl) (by decide) rfl ?_
    refine z_iconst (pc := 24) (v := 0) C (dX9_wrongs 14 rfl) (by decide) ?_
    refine z_istore (pc := 25) (i := 5) (lv2 := [(5, .int 0), (4, .int 8), (3, .int r4), (0, .ref a), (1, .int p1), (2, .int p2)]) C (dX9_wrongs 15 rfl) (by decide) rfl ?_
    refine z_iconst (pc := 27) (v := 0) C (dX9_wrongs 16 rfl) (by decide) ?_
    refine z_istore (pc := 28) (i := 6) (lv2 := [(6, .int 0), (5, .int 0), (4, .int 8), (3, .int r4), (0, .ref a), (1, .int p1), (2, .int p2)]) C (dX9_wrongs 17 rfl) (by decide) rfl ?_
    obtain ⟨n31, H⟩ := H
    refine z_sub [4, 5, 6, 2, 1, 0] rfl ?_
    refine sX9_wrongs_L30 C hr hm hu1 hu2 (fun v24 v25 m26 H => ?_) n31 8 0 0 m5 H
    refine z_aload_n (pc := 106) C (dX9_wrongs 53 rfl) rfl 0 rfl ?_
    refine z_iload_n (pc := 107) C (dX9_wrongs 54 rfl) rfl 1 rfl ?_
    refine z_if_eq (pc := 108) (tgt := 116) C (dX9_wrongs 55 rfl) (by decide) (fun c27 => ?_) (fun c27 => ?_)
    · replace H := H.1 c27
      refine z_iload (pc := 116) C (dX9_wrongs 58 rfl) 3 rfl ?_
      refine z_sub [] rfl ?_
      exact sX9_wrongs_J118 C hr hm hu1 hu2 H
    · replace H := H.2 c27
      refine z_iload (pc := 111) C (dX9_wrongs 56 rfl) 2 rfl ?_
      refine z_goto (pc := 113) (tgt := 118) C (dX9_wrongs 57 rfl) (by decide) ?_
      refine z_sub [] rfl ?_
      exact sX9_wrongs_J118 C hr hm hu1 hu2 H
  · replace H := H.2 c6
    refine z_aload_n (pc := 14) C (dX9_wrongs 8 rfl) rfl 1 rfl ?_
    refine z_iload_n (pc := 15) C (dX9_wrongs 9 rfl) rfl 0 rfl ?_
    refine zc_Vi (pc := 16) (rest := []) C YX9_refuse wl_X9_93 (kX9_refuse H) (by decide) h1 rfl (by decide) (dX9_wrongs 10 rfl) rfl hu1 hu2 (Nat.le_of_ble_eq_true rfl) rfl (fun r32 m33 H => ?_)
    exact z_iret (pc := 19) C hr hu1 hu2 (dX9_wrongs 11 rfl) ⟨rfl, _, rfl, H⟩
def wX9_proof_J55 (t : zT) (m : zM) (s_0 : Int32) (s_1 : Nat) (Q : Int32 → zM → Prop) : Prop := (tK t s_1 = 9 ∧ (wX9_accept t m s_1 s_0 (fun r15 m16 => (Q r15 m16))))
set_option maxHeartbeats 4000000 in
set_option maxRecDepth 20000 in
theorem sX9_proof_J55 {p : Program} {l : Launch} {e : Env} {s : State} {mt : MethodId} {args : Array Value} {below : List Frame} {meth : Method} {c : Code} {g : zG} {u : Nat × Nat} {mc ms : Nat} {t : zT} {m : zM} {s_0 : Int32} {s_1 : Nat} {Q : Int32 → zM → Prop} (C : zC p (zRm 6 mc ms) s mt args meth c g cX9_proof 2 yX9_proof.cls 6) (hr : meth.sig.returnType = (some .int)) (hm : meth.name = yX9_proof.name) (hu1 : u.1 ≤ mc) (hu2 : u.2 ≤ ms) (H : wX9_proof_J55 t m s_0 s_1 Q) : zW p l e (zRm 6 mc ms) s mt args below meth c g (MQ below (zQc g (zPi t Q)) args s mc ms (zFar g)) u 2 t m 55 [] [.int s_0, .ref s_1] := by
  unfold wX9_proof_J55 at H
  obtain ⟨h14, H⟩ := H
  refine zc_Vi (pc := 55) (rest := []) C YX9_accept wl_X9_117 (kX9_accept H) (by decide) h14 rfl (by decide) (dX9_proof 28 rfl) rfl hu1 hu2 (Nat.le_of_ble_eq_true rfl) rfl (fun r15 m16 H => ?_)
  exact z_iret (pc := 58) C hr hu1 hu2 (dX9_proof 29 rfl) ⟨rfl, _, rfl, H⟩
def wX9_proof (t : zT) (m : zM) (a : Nat) (p1 : Int32) (Q : Int32 → zM → Prop) : Prop := (tK t a = 9 ∧ (wX9_isThing t m a p1 (fun r2 m3 => ((r2 = 0 → (wX9_refuse t m3 a 1 (fun r17 m18 => (Q r17 m18)))) ∧ (¬ r2 = 0 → (tK t (gR m3 a 4) = 2 ∧ (wX2_prepare t m3 (gR m3 a 4) (gR m3 a 1) (fun m7 => (tK t (gR m7 a 4) = 2 ∧ (tK t (gR m7 (gR m7 a 4) 3) = 14 ∧ (vp_in p1 (tL t (gR m7 (gR m7 a 4) 3)) ∧ (((0 : Int32) ≤ (gI m7 (gR m7 (gR m7 a 4) 3) p1.toNatClampNeg) → (wJ6_bitCount_0f7a4 t m7 (gI m7 (gR m7 (gR m7 a 4) 3) p1.toNatClampNeg) (fun r12 m13 => (wX9_proof_J55 t m13 r12 a Q)))) ∧ (¬ (0 : Int32) ≤ (gI m7 (gR m7 (gR m7 a 4) 3) p1.toNatClampNeg) → (wX9_proof_J55 t m7 (-2) a Q))))))))))))))
set_option maxHeartbeats 4000000 in
set_option maxRecDepth 20000 in
theorem kX9_proof {l : Launch} {t : zT} {m : zM} {a : Nat} {p1 : Int32} {Q : Int32 → zM → Prop} (H : wX9_proof t m a p1 Q) : zMet l yX9_proof cX9_proof 2 (some .int) 6 0 0 t m [.ref a, .int p1] (zPi t Q) := by
  refine zmet (by decide +kernel) (Nat.le_of_ble_eq_true rfl) ?_
  intro p e s mt args below meth c g C hr hm
  unfold wX9_proof at H
  have hu1 : ((0, 0) : Nat × Nat).1 ≤ 0 := Nat.le_refl 0
  have hu2 : ((0, 0) : Nat × Nat).2 ≤ 0 := Nat.le_refl 0
  refine z_aload_n (pc := 0) C (dX9_proof 0 rfl) rfl 0 rfl ?_
  refine z_iload_n (pc := 1) C (dX9_proof 1 rfl) rfl 1 rfl ?_
  obtain ⟨h1, H⟩ := H
  refine zc_Vi (pc := 2) (rest := []) C YX9_isThing wl_X9_171 (kX9_isThing H) (by decide) h1 rfl (by decide) (dX9_proof 2 rfl) rfl hu1 hu2 (Nat.le_of_ble_eq_true rfl) rfl (fun r2 m3 H => ?_)
  refine z_if_ne (pc := 5) (tgt := 14) C (dX9_proof 3 rfl) (by decide) (fun c4 => ?_) (fun c4 => ?_)
  · replace H := H.2 c4
    refine z_aload_n (pc := 14) C (dX9_proof 8 rfl) rfl 0 rfl ?_
    refine z_getR (pc := 15) C zc9 h1 4 (by decide) rfl wf_X9_40 (dX9_proof 9 rfl) ?_
    refine z_aload_n (pc := 18) C (dX9_proof 10 rfl) rfl 0 rfl ?_
    refine z_getR (pc := 19) C zc9 h1 1 (by decide) rfl wf_X9_19 (dX9_proof 11 rfl) ?_
    obtain ⟨h5, H⟩ := H
    refine zc_Vv (pc := 22) (rest := []) C YX2_prepare wl_X9_253 (kX2_prepare H) (by decide) h5 rfl (by decide) (dX9_proof 12 rfl) rfl hu1 hu2 (Nat.le_of_ble_eq_true rfl) rfl (fun m7 H => ?_)
    refine z_aload_n (pc := 25) C (dX9_proof 13 rfl) rfl 0 rfl ?_
    refine z_aload_n (pc := 26) C (dX9_proof 14 rfl) rfl 0 rfl ?_
    refine z_getR (pc := 27) C zc9 h1 4 (by decide) rfl wf_X9_40 (dX9_proof 15 rfl) ?_
    obtain ⟨h8, H⟩ := H
    refine z_getR (pc := 30) C zc2 h8 3 (by decide) rfl wf_X9_257 (dX9_proof 16 rfl) ?_
    refine z_iload_n (pc := 33) C (dX9_proof 17 rfl) rfl 1 rfl ?_
    obtain ⟨h9, H⟩ := H
    obtain ⟨h10, H⟩ := H
    refine z_iaload (pc := 34) C h9 h10 (dX9_proof 18 rfl) ?_
    refine z_if_ge (pc := 35) (tgt := 43) C (dX9_proof 19 rfl) (by decide) (fun c11 => ?_) (fun c11 => ?_)
    · replace H := H.1 c11
      refine z_aload_n (pc := 43) C (dX9_proof 22 rfl) rfl 0 rfl ?_
      refine z_getR (pc := 44) C zc9 h1 4 (by decide) rfl wf_X9_40 (dX9_proof 23 rfl) ?_
      refine z_getR (pc := 47) C zc2 h8 3 (by decide) rfl wf_X9_257 (dX9_proof 24 rfl) ?_
      refine z_iload_n (pc := 50) C (dX9_proof 25 rfl) rfl 1 rfl ?_
      refine z_iaload (pc := 51) C h9 h10 (dX9_proof 26 rfl) ?_
      refine zc_Si (pc := 52) (rest := [.ref a]) C YJ6_bitCount_0f7a4 wl_X9_260 (kJ6_bitCount_0f7a4 H) (by decide) (dX9_proof 27 rfl) rfl hu1 hu2 (Nat.le_of_ble_eq_true rfl) rfl (fun r12 m13 H => ?_)
      refine z_sub [] rfl ?_
      exact sX9_proof_J55 C hr hm hu1 hu2 H
    · replace H := H.2 c11
      refine z_bipush (pc := 38) (v := (-2)) C (dX9_proof 20 rfl) (by decide) ?_
      refine z_goto (pc := 40) (tgt := 55) C (dX9_proof 21 rfl) (by decide) ?_
      refine z_sub [] rfl ?_
      exact sX9_proof_J55 C hr hm hu1 hu2 H
  · replace H := H.1 c4
    refine z_aload_n (pc := 8) C (dX9_proof 4 rfl) rfl 0 rfl ?_
    refine z_iconst (pc := 9) (v := 1) C (dX9_proof 5 rfl) (by decide) ?_
    refine zc_Vi (pc := 10) (rest := []) C YX9_refuse wl_X9_93 (kX9_refuse H) (by decide) h1 rfl (by decide) (dX9_proof 6 rfl) rfl hu1 hu2 (Nat.le_of_ble_eq_true rfl) rfl (fun r17 m18 H => ?_)
    exact z_iret (pc := 13) C hr hu1 hu2 (dX9_proof 7 rfl) ⟨rfl, _, rfl, H⟩
def wX9_proofBy (t : zT) (m : zM) (a : Nat) (p1 : Int32) (Q : Int32 → zM → Prop) : Prop := (tK t a = 9 ∧ (wX9_isThing t m a p1 (fun r2 m3 => ((r2 = 0 → (wX9_refuse t m3 a 1 (fun r13 m14 => (Q r13 m14)))) ∧ (¬ r2 = 0 → (tK t (gR m3 a 4) = 2 ∧ (wX2_prepare t m3 (gR m3 a 4) (gR m3 a 1) (fun m7 => (tK t (gR m7 a 4) = 2 ∧ (tK t (gR m7 (gR m7 a 4) 3) = 14 ∧ (vp_in p1 (tL t (gR m7 (gR m7 a 4) 3)) ∧ (wX9_accept t m7 a (gI m7 (gR m7 (gR m7 a 4) 3) p1.toNatClampNeg) (fun r11 m12 => (Q r11 m12))))))))))))))
set_option maxHeartbeats 4000000 in
set_option maxRecDepth 20000 in
theorem kX9_proofBy {l : Launch} {t : zT} {m : zM} {a : Nat} {p1 : Int32} {Q : Int32 → zM → Prop} (H : wX9_proofBy t m a p1 Q) : zMet l yX9_proofBy cX9_proofBy 2 (some .int) 6 0 0 t m [.ref a, .int p1] (zPi t Q) := by
  refine zmet (by decide +kernel) (Nat.le_of_ble_eq_true rfl) ?_
  intro p e s mt args below meth c g C hr hm
  unfold wX9_proofBy at H
  have hu1 : ((0, 0) : Nat × Nat).1 ≤ 0 := Nat.le_refl 0
  have hu2 : ((0, 0) : Nat × Nat).2 ≤ 0 := Nat.le_refl 0
  refine z_aload_n (pc := 0) C (dX9_proofBy 0 rfl) rfl 0 rfl ?_
  refine z_iload_n (pc := 1) C (dX9_proofBy 1 rfl) rfl 1 rfl ?_
  obtain ⟨h1, H⟩ := H
  refine zc_Vi (pc := 2) (rest := []) C YX9_isThing wl_X9_171 (kX9_isThing H) (by decide) h1 rfl (by decide) (dX9_proofBy 2 rfl) rfl hu1 hu2 (Nat.le_of_ble_eq_true rfl) rfl (fun r2 m3 H => ?_)
  refine z_if_ne (pc := 5) (tgt := 14) C (dX9_proofBy 3 rfl) (by decide) (fun c4 => ?_) (fun c4 => ?_)
  · replace H := H.2 c4
    refine z_aload_n (pc := 14) C (dX9_proofBy 8 rfl) rfl 0 rfl ?_
    refine z_getR (pc := 15) C zc9 h1 4 (by decide) rfl wf_X9_40 (dX9_proofBy 9 rfl) ?_
    refine z_aload_n (pc := 18) C (dX9_proofBy 10 rfl) rfl 0 rfl ?_
    refine z_getR (pc := 19) C zc9 h1 1 (by decide) rfl wf_X9_19 (dX9_proofBy 11 rfl) ?_
    obtain ⟨h5, H⟩ := H
    refine zc_Vv (pc := 22) (rest := []) C YX2_prepare wl_X9_253 (kX2_prepare H) (by decide) h5 rfl (by decide) (dX9_proofBy 12 rfl) rfl hu1 hu2 (Nat.le_of_ble_eq_true rfl) rfl (fun m7 H => ?_)
    refine z_aload_n (pc := 25) C (dX9_proofBy 13 rfl) rfl 0 rfl ?_
    refine z_aload_n (pc := 26) C (dX9_proofBy 14 rfl) rfl 0 rfl ?_
    refine z_getR (pc := 27) C zc9 h1 4 (by decide) rfl wf_X9_40 (dX9_proofBy 15 rfl) ?_
    obtain ⟨h8, H⟩ := H
    refine z_getR (pc := 30) C zc2 h8 3 (by decide) rfl wf_X9_257 (dX9_proofBy 16 rfl) ?_
    refine z_iload_n (pc := 33) C (dX9_proofBy 17 rfl) rfl 1 rfl ?_
    obtain ⟨h9, H⟩ := H
    obtain ⟨h10, H⟩ := H
    refine z_iaload (pc := 34) C h9 h10 (dX9_proofBy 18 rfl) ?_
    refine zc_Vi (pc := 35) (rest := []) C YX9_accept wl_X9_117 (kX9_accept H) (by decide) h1 rfl (by decide) (dX9_proofBy 19 rfl) rfl hu1 hu2 (Nat.le_of_ble_eq_true rfl) rfl (fun r11 m12 H => ?_)
    exact z_iret (pc := 38) C hr hu1 hu2 (dX9_proofBy 20 rfl) ⟨rfl, _, rfl, H⟩
  · replace H := H.1 c4
    refine z_aload_n (pc := 8) C (dX9_proofBy 4 rfl) rfl 0 rfl ?_
    refine z_iconst (pc := 9) (v := 1) C (dX9_proofBy 5 rfl) (by decide) ?_
    refine zc_Vi (pc := 10) (rest := []) C YX9_refuse wl_X9_93 (kX9_refuse H) (by decide) h1 rfl (by decide) (dX9_proofBy 6 rfl) rfl hu1 hu2 (Nat.le_of_ble_eq_true rfl) rfl (fun r13 m14 H => ?_)
    exact z_iret (pc := 13) C hr hu1 hu2 (dX9_proofBy 7 rfl) ⟨rfl, _, rfl, H⟩
def wX9_worst_J57 (t : zT) (m : zM) (s_0 : Int32) (s_1 : Nat) (Q : Int32 → zT → zM → Prop) : Prop := (tK t s_1 = 9 ∧ (wX9_accept t m s_1 s_0 (fun r16 m17 => (Q r16 t m17))))
set_option maxHeartbeats 4000000 in
set_option maxRecDepth 20000 in
theorem sX9_worst_J57 {p : Program} {l : Launch} {e : Env} {s : State} {mt : MethodId} {args : Array Value} {below : List Frame} {meth : Method} {c : Code} {g : zG} {u : Nat × Nat} {mc ms : Nat} {t : zT} {m : zM} {s_0 : Int32} {s_1 : Nat} {Q : Int32 → zT → zM → Prop} (C : zC p (zRm 5 mc ms) s mt args meth c g cX9_worst 2 yX9_worst.cls 5) (hr : meth.sig.returnType = (some .int)) (hm : meth.name = yX9_worst.name) (hu1 : u.1 ≤ mc) (hu2 : u.2 ≤ ms) (H : wX9_worst_J57 t m s_0 s_1 Q) : zW p l e (zRm 5 mc ms) s mt args below meth c g (MQ below (zQc g (zAi Q)) args s mc ms (zFar g)) u 2 t m 57 [] [.int s_0, .ref s_1] := by
  unfold wX9_worst_J57 at H
  obtain ⟨h15, H⟩ := H
  refine zc_Vi (pc := 57) (rest := []) C YX9_accept wl_X9_117 (kX9_accept H) (by decide) h15 rfl (by decide) (dX9_worst 28 rfl) rfl hu1 hu2 (Nat.le_of_ble_eq_true rfl) rfl (fun r16 m17 H => ?_)
  exact z_iret (pc := 60) C hr hu1 hu2 (dX9_worst 29 rfl) ⟨_, rfl, H⟩
def wX9_worst (cap : Nat × Nat) (t : zT) (m : zM) (a : Nat) (Q : Int32 → zT → zM → Prop) : Prop := (tK t a = 9 ∧ (wX9_isOpen t m a (fun r2 m3 => (wX9_withoutWorlds t m3 a r2 (fun r4 m5 => ((r4 = 0 → (tK t (gR m5 a 5) = 1 ∧ (∃ k10 : Nat × Nat, (0 + k10.1 ≤ cap.1 ∧ 0 + k10.2 ≤ cap.2) ∧ wX1_prepare k10 t m5 (gR m5 a 5) (gR m5 a 2) (gR m5 a 8) (fun t11 m9 => (tK t11 a = 9 ∧ (tK t11 (gR m9 a 5) = 1 ∧ (((gI m9 (gR m9 a 5) 1) = 0 → (wX9_worst_J57 t11 m9 (-2) a Q)) ∧ (¬ (gI m9 (gR m9 a 5) 1) = 0 → (wX9_worst_J57 t11 m9 (gI m9 (gR m9 a 5) 2) a Q))))))))) ∧ (¬ r4 = 0 → (wX9_refuse t m5 a r4 (fun r19 m20 => (Q r19 t m20))))))))))
set_option maxHeartbeats 4000000 in
set_option maxRecDepth 20000 in
theorem kX9_worst {l : Launch} {cap : Nat × Nat} {t : zT} {m : zM} {a : Nat} {Q : Int32 → zT → zM → Prop} (H : wX9_worst cap t m a Q) : zMet l yX9_worst cX9_worst 2 (some .int) 5 cap.1 cap.2 t m [.ref a] (zAi Q) := by
  refine zmet (by decide +kernel) (Nat.le_of_ble_eq_true rfl) ?_
  intro p e s mt args below meth c g C hr hm
  unfold wX9_worst at H
  obtain ⟨mc, ms⟩ := cap
  refine z_aload_n (pc := 0) C (dX9_worst 0 rfl) rfl 0 rfl ?_
  refine z_aload_n (pc := 1) C (dX9_worst 1 rfl) rfl 0 rfl ?_
  obtain ⟨h1, H⟩ := H
  refine zc_Vi (pc := 2) (rest := [.ref a]) C YX9_isOpen wl_X9_151 (kX9_isOpen H) (by decide) h1 rfl (by decide) (dX9_worst 2 rfl) rfl (Nat.zero_le _) (Nat.zero_le _) (Nat.le_of_ble_eq_true rfl) rfl (fun r2 m3 H => ?_)
  refine zc_Vi (pc := 5) (rest := []) C YX9_withoutWorlds wl_X9_174 (kX9_withoutWorlds H) (by decide) h1 rfl (by decide) (dX9_worst 3 rfl) rfl (Nat.zero_le _) (Nat.zero_le _) (Nat.le_of_ble_eq_true rfl) rfl (fun r4 m5 H => ?_)
  refine z_istore_n (pc := 8) (i := 1) (lv2 := [(1, .int r4), (0, .ref a)]) C (dX9_worst 4 rfl) rfl (by decide) rfl ?_
  refine z_iload_n (pc := 9) C (dX9_worst 5 rfl) rfl 0 rfl ?_
  refine z_if_eq (pc := 10) (tgt := 19) C (dX9_worst 6 rfl) (by decide) (fun c6 => ?_) (fun c6 => ?_)
  · replace H := H.1 c6
    refine z_aload_n (pc := 19) C (dX9_worst 11 rfl) rfl 1 rfl ?_
    refine z_getR (pc := 20) C zc9 h1 5 (by decide) rfl wf_X9_47 (dX9_worst 12 rfl) ?_
    refine z_aload_n (pc := 23) C (dX9_worst 13 rfl) rfl 1 rfl ?_
    refine z_getR (pc := 24) C zc9 h1 2 (by decide) rfl wf_X9_27 (dX9_worst 14 rfl) ?_
    refine z_aload_n (pc := 27) C (dX9_worst 15 rfl) rfl 1 rfl ?_
    refine z_getR (pc := 28) C zc9 h1 8 (by decide) rfl wf_X9_65 (dX9_worst 16 rfl) ?_
    obtain ⟨h7, H⟩ := H
    obtain ⟨k10, h18, H⟩ := H
    refine za_Vv (pc := 31) (rest := []) C YX1_prepare wl_X9_265 (kX1_prepare H) (by decide) h7 rfl (by decide) (dX9_worst 17 rfl) rfl (by first | exact h18.1 | (have := h18.1; omega)) (by first | exact h18.2 | (have := h18.2; omega)) (Nat.le_of_ble_eq_true rfl) rfl (fun t11 m9 H => ?_)
    refine z_aload_n (pc := 34) C (dX9_worst 18 rfl) rfl 1 rfl ?_
    refine z_aload_n (pc := 35) C (dX9_worst 19 rfl) rfl 1 rfl ?_
    obtain ⟨h12, H⟩ := H
    refine z_getR (pc := 36) C zc9 h12 5 (by decide) rfl wf_X9_47 (dX9_worst 20 rfl) ?_
    obtain ⟨h13, H⟩ := H
    refine z_getI (pc := 39) C zc1 h13 1 (by decide) rfl wf_X9_268 (dX9_worst 21 rfl) ?_
    refine z_if_eq (pc := 42) (tgt := 55) C (dX9_worst 22 rfl) (by decide) (fun c14 => ?_) (fun c14 => ?_)
    · replace H := H.1 c14
      refine z_bipush (pc := 55) (v := (-2)) C (dX9_worst 27 rfl) (by decide) ?_
      refine z_sub [] rfl ?_
      exact sX9_worst_J57 C hr hm (by first | omega | (show _ ≤ mc; omega)) (by first | omega | (show _ ≤ ms; omega)) H
    · replace H := H.2 c14
      refine z_aload_n (pc := 45) C (dX9_worst 23 rfl) rfl 1 rfl ?_
      refine z_getR (pc := 46) C zc9 h12 5 (by decide) rfl wf_X9_47 (dX9_worst 24 rfl) ?_
      refine z_getI (pc := 49) C zc1 h13 2 (by decide) rfl wf_X9_271 (dX9_worst 25 rfl) ?_
      refine z_goto (pc := 52) (tgt := 57) C (dX9_worst 26 rfl) (by decide) ?_
      refine z_sub [] rfl ?_
      exact sX9_worst_J57 C hr hm (by first | omega | (show _ ≤ mc; omega)) (by first | omega | (show _ ≤ ms; omega)) H
  · replace H := H.2 c6
    refine z_aload_n (pc := 13) C (dX9_worst 7 rfl) rfl 1 rfl ?_
    refine z_iload_n (pc := 14) C (dX9_worst 8 rfl) rfl 0 rfl ?_
    refine zc_Vi (pc := 15) (rest := []) C YX9_refuse wl_X9_93 (kX9_refuse H) (by decide) h1 rfl (by decide) (dX9_worst 9 rfl) rfl (Nat.zero_le _) (Nat.zero_le _) (Nat.le_of_ble_eq_true rfl) rfl (fun r19 m20 H => ?_)
    exact z_iret (pc := 18) C hr (Nat.zero_le _) (Nat.zero_le _) (dX9_worst 10 rfl) ⟨_, rfl, H⟩
def wX9_withoutPlan (cap : Nat × Nat) (t : zT) (m : zM) (a : Nat) (Q : Int32 → zT → zM → Prop) : Prop := (tK t a = 9 ∧ (wX9_isOpen t m a (fun r2 m3 => (wX9_withoutWorlds t m3 a r2 (fun r4 m5 => ((r4 = 0 → (tK t (gR m5 a 5) = 1 ∧ (∃ k10 : Nat × Nat, (0 + k10.1 ≤ cap.1 ∧ 0 + k10.2 ≤ cap.2) ∧ wX1_prepare k10 t m5 (gR m5 a 5) (gR m5 a 2) (gR m5 a 8) (fun t11 m9 => (tK t11 a = 9 ∧ (tK t11 (gR m9 a 5) = 1 ∧ (((gI m9 (gR m9 a 5) 1) = 0 → (Q 5 t11 m9)) ∧ (¬ (gI m9 (gR m9 a 5) 1) = 0 → (Q 0 t11 m9))))))))) ∧ (¬ r4 = 0 → (Q r4 t m5))))))))
set_option maxHeartbeats 4000000 in
set_option maxRecDepth 20000 in
theorem kX9_withoutPlan {l : Launch} {cap : Nat × Nat} {t : zT} {m : zM} {a : Nat} {Q : Int32 → zT → zM → Prop} (H : wX9_withoutPlan cap t m a Q) : zMet l yX9_withoutPlan cX9_withoutPlan 2 (some .int) 5 cap.1 cap.2 t m [.ref a] (zAi Q) := by
  refine zmet (by decide +kernel) (Nat.le_of_ble_eq_true rfl) ?_
  intro p e s mt args below meth c g C hr hm
  unfold wX9_withoutPlan at H
  obtain ⟨mc, ms⟩ := cap
  refine z_aload_n (pc := 0) C (dX9_withoutPlan 0 rfl) rfl 0 rfl ?_
  refine z_aload_n (pc := 1) C (dX9_withoutPlan 1 rfl) rfl 0 rfl ?_
  obtain ⟨h1, H⟩ := H
  refine zc_Vi (pc := 2) (rest := [.ref a]) C YX9_isOpen wl_X9_151 (kX9_isOpen H) (by decide) h1 rfl (by decide) (dX9_withoutPlan 2 rfl) rfl (Nat.zero_le _) (Nat.zero_le _) (Nat.le_of_ble_eq_true rfl) rfl (fun r2 m3 H => ?_)
  refine zc_Vi (pc := 5) (rest := []) C YX9_withoutWorlds wl_X9_174 (kX9_withoutWorlds H) (by decide) h1 rfl (by decide) (dX9_withoutPlan 3 rfl) rfl (Nat.zero_le _) (Nat.zero_le _) (Nat.le_of_ble_eq_true rfl) rfl (fun r4 m5 H => ?_)
  refine z_istore_n (pc := 8) (i := 1) (lv2 := [(1, .int r4), (0, .ref a)]) C (dX9_withoutPlan 4 rfl) rfl (by decide) rfl ?_
  refine z_iload_n (pc := 9) C (dX9_withoutPlan 5 rfl) rfl 0 rfl ?_
  refine z_if_eq (pc := 10) (tgt := 15) C (dX9_withoutPlan 6 rfl) (by decide) (fun c6 => ?_) (fun c6 => ?_)
  · replace H := H.1 c6
    refine z_aload_n (pc := 15) C (dX9_withoutPlan 9 rfl) rfl 1 rfl ?_
    refine z_getR (pc := 16) C zc9 h1 5 (by decide) rfl wf_X9_47 (dX9_withoutPlan 10 rfl) ?_
    refine z_aload_n (pc := 19) C (dX9_withoutPlan 11 rfl) rfl 1 rfl ?_
    refine z_getR (pc := 20) C zc9 h1 2 (by decide) rfl wf_X9_27 (dX9_withoutPlan 12 rfl) ?_
    refine z_aload_n (pc := 23) C (dX9_withoutPlan 13 rfl) rfl 1 rfl ?_
    refine z_getR (pc := 24) C zc9 h1 8 (by decide) rfl wf_X9_65 (dX9_withoutPlan 14 rfl) ?_
    obtain ⟨h7, H⟩ := H
    obtain ⟨k10, h15, H⟩ := H
    refine za_Vv (pc := 27) (rest := []) C YX1_prepare wl_X9_265 (kX1_prepare H) (by decide) h7 rfl (by decide) (dX9_withoutPlan 15 rfl) rfl (by first | exact h15.1 | (have := h15.1; omega)) (by first | exact h15.2 | (have := h15.2; omega)) (Nat.le_of_ble_eq_true rfl) rfl (fun t11 m9 H => ?_)
    refine z_aload_n (pc := 30) C (dX9_withoutPlan 16 rfl) rfl 1 rfl ?_
    obtain ⟨h12, H⟩ := H
    refine z_getR (pc := 31) C zc9 h12 5 (by decide) rfl wf_X9_47 (dX9_withoutPlan 17 rfl) ?_
    obtain ⟨h13, H⟩ := H
    refine z_getI (pc := 34) C zc1 h13 1 (by decide) rfl wf_X9_268 (dX9_withoutPlan 18 rfl) ?_
    refine z_if_eq (pc := 37) (tgt := 44) C (dX9_withoutPlan 19 rfl) (by decide) (fun c14 => ?_) (fun c14 => ?_)
    · replace H := H.1 c14
      refine z_iconst (pc := 44) (v := 5) C (dX9_withoutPlan 22 rfl) (by decide) ?_
      exact z_iret (pc := 45) C hr (by first | omega | (show _ ≤ mc; omega)) (by first | omega | (show _ ≤ ms; omega)) (dX9_withoutPlan 23 rfl) ⟨_, rfl, H⟩
    · replace H := H.2 c14
      refine z_iconst (pc := 40) (v := 0) C (dX9_withoutPlan 20 rfl) (by decide) ?_
      refine z_goto (pc := 41) (tgt := 45) C (dX9_withoutPlan 21 rfl) (by decide) ?_
      exact z_iret (pc := 45) C hr (by first | omega | (show _ ≤ mc; omega)) (by first | omega | (show _ ≤ ms; omega)) (dX9_withoutPlan 23 rfl) ⟨_, rfl, H⟩
  · replace H := H.2 c6
    refine z_iload_n (pc := 13) C (dX9_withoutPlan 7 rfl) rfl 0 rfl ?_
    exact z_iret (pc := 14) C hr (Nat.zero_le _) (Nat.zero_le _) (dX9_withoutPlan 8 rfl) ⟨_, rfl, H⟩
def wX9_first (cap : Nat × Nat) (t : zT) (m : zM) (a : Nat) (Q : Int32 → zT → zM → Prop) : Prop := (tK t a = 9 ∧ (∃ k4 : Nat × Nat, (0 + k4.1 ≤ cap.1 ∧ 0 + k4.2 ≤ cap.2) ∧ wX9_withoutPlan k4 t m a (fun r2 t5 m3 => ((r2 = 0 → (tK t5 a = 9 ∧ (tK t5 (gR m3 a 5) = 1 ∧ (wX9_accept t5 m3 a (gI m3 (gR m3 a 5) 3) (fun r9 m10 => (Q r9 t5 m10)))))) ∧ (¬ r2 = 0 → (tK t5 a = 9 ∧ (wX9_refuse t5 m3 a r2 (fun r12 m13 => (Q r12 t5 m13)))))))))
set_option maxHeartbeats 4000000 in
set_option maxRecDepth 20000 in
theorem kX9_first {l : Launch} {cap : Nat × Nat} {t : zT} {m : zM} {a : Nat} {Q : Int32 → zT → zM → Prop} (H : wX9_first cap t m a Q) : zMet l yX9_first cX9_first 2 (some .int) 6 cap.1 cap.2 t m [.ref a] (zAi Q) := by
  refine zmet (by decide +kernel) (Nat.le_of_ble_eq_true rfl) ?_
  intro p e s mt args below meth c g C hr hm
  unfold wX9_first at H
  obtain ⟨mc, ms⟩ := cap
  refine z_aload_n (pc := 0) C (dX9_first 0 rfl) rfl 0 rfl ?_
  obtain ⟨h1, H⟩ := H
  obtain ⟨k4, h14, H⟩ := H
  refine za_Vi (pc := 1) (rest := []) C YX9_withoutPlan wl_X9_274 (kX9_withoutPlan H) (by decide) h1 rfl (by decide) (dX9_first 1 rfl) rfl (by first | exact h14.1 | (have := h14.1; omega)) (by first | exact h14.2 | (have := h14.2; omega)) (Nat.le_of_ble_eq_true rfl) rfl (fun r2 t5 m3 H => ?_)
  refine z_istore_n (pc := 4) (i := 1) (lv2 := [(1, .int r2), (0, .ref a)]) C (dX9_first 2 rfl) rfl (by decide) rfl ?_
  refine z_iload_n (pc := 5) C (dX9_first 3 rfl) rfl 0 rfl ?_
  refine z_if_eq (pc := 6) (tgt := 17) C (dX9_first 4 rfl) (by decide) (fun c6 => ?_) (fun c6 => ?_)
  · replace H := H.1 c6
    refine z_aload_n (pc := 17) C (dX9_first 9 rfl) rfl 1 rfl ?_
    refine z_aload_n (pc := 18) C (dX9_first 10 rfl) rfl 1 rfl ?_
    obtain ⟨h7, H⟩ := H
    refine z_getR (pc := 19) C zc9 h7 5 (by decide) rfl wf_X9_47 (dX9_first 11 rfl) ?_
    obtain ⟨h8, H⟩ := H
    refine z_getI (pc := 22) C zc1 h8 3 (by decide) rfl wf_X9_277 (dX9_first 12 rfl) ?_
    refine zc_Vi (pc := 25) (rest := []) C YX9_accept wl_X9_117 (kX9_accept H) (by decide) h7 rfl (by decide) (dX9_first 13 rfl) rfl (by first | omega | (show _ ≤ mc; omega)) (by first | omega | (show _ ≤ ms; omega)) (Nat.le_of_ble_eq_true rfl) rfl (fun r9 m10 H => ?_)
    exact z_iret (pc := 28) C hr (by first | omega | (show _ ≤ mc; omega)) (by first | omega | (show _ ≤ ms; omega)) (dX9_first 14 rfl) ⟨_, rfl, H⟩
  · replace H := H.2 c6
    refine z_aload_n (pc := 9) C (dX9_first 5 rfl) rfl 1 rfl ?_
    refine z_iload_n (pc := 10) C (dX9_first 6 rfl) rfl 0 rfl ?_
    obtain ⟨h11, H⟩ := H
    refine zc_Vi (pc := 11) (rest := []) C YX9_refuse wl_X9_93 (kX9_refuse H) (by decide) h11 rfl (by decide) (dX9_first 7 rfl) rfl (by first | omega | (show _ ≤ mc; omega)) (by first | omega | (show _ ≤ ms; omega)) (Nat.le_of_ble_eq_true rfl) rfl (fun r12 m13 H => ?_)
    refine z_goto (pc := 14) (tgt := 28) C (dX9_first 8 rfl) (by decide) ?_
    exact z_iret (pc := 28) C hr (by first | omega | (show _ ≤ mc; omega)) (by first | omega | (show _ ≤ ms; omega)) (dX9_first 14 rfl) ⟨_, rfl, H⟩
def wX9_mean (cap : Nat × Nat) (t : zT) (m : zM) (a : Nat) (p1 : Int32) (Q : Int32 → zT → zM → Prop) : Prop := (tK t a = 9 ∧ (∃ k4 : Nat × Nat, (0 + k4.1 ≤ cap.1 ∧ 0 + k4.2 ≤ cap.2) ∧ wX9_withoutPlan k4 t m a (fun r2 t5 m3 => ((r2 = 0 → (tK t5 a = 9 ∧ (tK t5 (gR m3 a 5) = 1 ∧ (tK t5 (gR m3 a 8) = 4 ∧ (wX9_lowest t5 m3 (gI m3 (gR m3 a 5) 4) (gI m3 (gR m3 a 8) 2) p1 (fun r10 m11 => (wX9_accept t5 m11 a r10 (fun r12 m13 => (Q r12 t5 m13))))))))) ∧ (¬ r2 = 0 → (tK t5 a = 9 ∧ (wX9_refuse t5 m3 a r2 (fun r15 m16 => (Q r15 t5 m16)))))))))
set_option maxHeartbeats 4000000 in
set_option maxRecDepth 20000 in
theorem kX9_mean {l : Launch} {cap : Nat × Nat} {t : zT} {m : zM} {a : Nat} {p1 : Int32} {Q : Int32 → zT → zM → Prop} (H : wX9_mean cap t m a p1 Q) : zMet l yX9_mean cX9_mean 3 (some .int) 6 cap.1 cap.2 t m [.ref a, .int p1] (zAi Q) := by
  refine zmet (by decide +kernel) (Nat.le_of_ble_eq_true rfl) ?_
  intro p e s mt args below meth c g C hr hm
  unfold wX9_mean at H
  obtain ⟨mc, ms⟩ := cap
  refine z_aload_n (pc := 0) C (dX9_mean 0 rfl) rfl 0 rfl ?_
  obtain ⟨h1, H⟩ := H
  obtain ⟨k4, h17, H⟩ := H
  refine za_Vi (pc := 1) (rest := []) C YX9_withoutPlan wl_X9_274 (kX9_withoutPlan H) (by decide) h1 rfl (by decide) (dX9_mean 1 rfl) rfl (by first | exact h17.1 | (have := h17.1; omega)) (by first | exact h17.2 | (have := h17.2; omega)) (Nat.le_of_ble_eq_true rfl) rfl (fun r2 t5 m3 H => ?_)
  refine z_istore_n (pc := 4) (i := 2) (lv2 := [(2, .int r2), (0, .ref a), (1, .int p1)]) C (dX9_mean 2 rfl) rfl (by decide) rfl ?_
  refine z_iload_n (pc := 5) C (dX9_mean 3 rfl) rfl 0 rfl ?_
  refine z_if_eq (pc := 6) (tgt := 17) C (dX9_mean 4 rfl) (by decide) (fun c6 => ?_) (fun c6 => ?_)
  · replace H := H.1 c6
    refine z_aload_n (pc := 17) C (dX9_mean 9 rfl) rfl 1 rfl ?_
    refine z_aload_n (pc := 18) C (dX9_mean 10 rfl) rfl 1 rfl ?_
    obtain ⟨h7, H⟩ := H
    refine z_getR (pc := 19) C zc9 h7 5 (by decide) rfl wf_X9_47 (dX9_mean 11 rfl) ?_
    obtain ⟨h8, H⟩ := H
    refine z_getI (pc := 22) C zc1 h8 4 (by decide) rfl wf_X9_280 (dX9_mean 12 rfl) ?_
    refine z_aload_n (pc := 25) C (dX9_mean 13 rfl) rfl 1 rfl ?_
    refine z_getR (pc := 26) C zc9 h7 8 (by decide) rfl wf_X9_65 (dX9_mean 14 rfl) ?_
    obtain ⟨h9, H⟩ := H
    refine z_getI (pc := 29) C zc4 h9 2 (by decide) rfl wf_X9_158 (dX9_mean 15 rfl) ?_
    refine z_iload_n (pc := 32) C (dX9_mean 16 rfl) rfl 2 rfl ?_
    refine zc_Si (pc := 33) (rest := [.ref a]) C YX9_lowest wl_X9_193 (kX9_lowest H) (by decide) (dX9_mean 17 rfl) rfl (by first | omega | (show _ ≤ mc; omega)) (by first | omega | (show _ ≤ ms; omega)) (Nat.le_of_ble_eq_true rfl) rfl (fun r10 m11 H => ?_)
    refine zc_Vi (pc := 36) (rest := []) C YX9_accept wl_X9_117 (kX9_accept H) (by decide) h7 rfl (by decide) (dX9_mean 18 rfl) rfl (by first | omega | (show _ ≤ mc; omega)) (by first | omega | (show _ ≤ ms; omega)) (Nat.le_of_ble_eq_true rfl) rfl (fun r12 m13 H => ?_)
    exact z_iret (pc := 39) C hr (by first | omega | (show _ ≤ mc; omega)) (by first | omega | (show _ ≤ ms; omega)) (dX9_mean 19 rfl) ⟨_, rfl, H⟩
  · replace H := H.2 c6
    refine z_aload_n (pc := 9) C (dX9_mean 5 rfl) rfl 1 rfl ?_
    refine z_iload_n (pc := 10) C (dX9_mean 6 rfl) rfl 0 rfl ?_
    obtain ⟨h14, H⟩ := H
    refine zc_Vi (pc := 11) (rest := []) C YX9_refuse wl_X9_93 (kX9_refuse H) (by decide) h14 rfl (by decide) (dX9_mean 7 rfl) rfl (by first | omega | (show _ ≤ mc; omega)) (by first | omega | (show _ ≤ ms; omega)) (Nat.le_of_ble_eq_true rfl) rfl (fun r15 m16 H => ?_)
    refine z_goto (pc := 14) (tgt := 39) C (dX9_mean 8 rfl) (by decide) ?_
    exact z_iret (pc := 39) C hr (by first | omega | (show _ ≤ mc; omega)) (by first | omega | (show _ ≤ ms; omega)) (dX9_mean 19 rfl) ⟨_, rfl, H⟩
def wX9_meanFirst (cap : Nat × Nat) (t : zT) (m : zM) (a : Nat) (Q : Int32 → zT → zM → Prop) : Prop := (tK t a = 9 ∧ (∃ k4 : Nat × Nat, (0 + k4.1 ≤ cap.1 ∧ 0 + k4.2 ≤ cap.2) ∧ wX9_withoutPlan k4 t m a (fun r2 t5 m3 => ((r2 = 0 → (tK t5 a = 9 ∧ (tK t5 (gR m3 a 5) = 1 ∧ (wX9_accept t5 m3 a (gI m3 (gR m3 a 5) 5) (fun r9 m10 => (Q r9 t5 m10)))))) ∧ (¬ r2 = 0 → (tK t5 a = 9 ∧ (wX9_refuse t5 m3 a r2 (fun r12 m13 => (Q r12 t5 m13)))))))))
set_option maxHeartbeats 4000000 in
set_option maxRecDepth 20000 in
theorem kX9_meanFirst {l : Launch} {cap : Nat × Nat} {t : zT} {m : zM} {a : Nat} {Q : Int32 → zT → zM → Prop} (H : wX9_meanFirst cap t m a Q) : zMet l yX9_meanFirst cX9_meanFirst 2 (some .int) 6 cap.1 cap.2 t m [.ref a] (zAi Q) := by
  refine zmet (by decide +kernel) (Nat.le_of_ble_eq_true rfl) ?_
  intro p e s mt args below meth c g C hr hm
  unfold wX9_meanFirst at H
  obtain ⟨mc, ms⟩ := cap
  refine z_aload_n (pc := 0) C (dX9_meanFirst 0 rfl) rfl 0 rfl ?_
  obtain ⟨h1, H⟩ := H
  obtain ⟨k4, h14, H⟩ := H
  refine za_Vi (pc := 1) (rest := []) C YX9_withoutPlan wl_X9_274 (kX9_withoutPlan H) (by decide) h1 rfl (by decide) (dX9_meanFirst 1 rfl) rfl (by first | exact h14.1 | (have := h14.1; omega)) (by first | exact h14.2 | (have := h14.2; omega)) (Nat.le_of_ble_eq_true rfl) rfl (fun r2 t5 m3 H => ?_)
  refine z_istore_n (pc := 4) (i := 1) (lv2 := [(1, .int r2), (0, .ref a)]) C (dX9_meanFirst 2 rfl) rfl (by decide) rfl ?_
  refine z_iload_n (pc := 5) C (dX9_meanFirst 3 rfl) rfl 0 rfl ?_
  refine z_if_eq (pc := 6) (tgt := 17) C (dX9_meanFirst 4 rfl) (by decide) (fun c6 => ?_) (fun c6 => ?_)
  · replace H := H.1 c6
    refine z_aload_n (pc := 17) C (dX9_meanFirst 9 rfl) rfl 1 rfl ?_
    refine z_aload_n (pc := 18) C (dX9_meanFirst 10 rfl) rfl 1 rfl ?_
    obtain ⟨h7, H⟩ := H
    refine z_getR (pc := 19) C zc9 h7 5 (by decide) rfl wf_X9_47 (dX9_meanFirst 11 rfl) ?_
    obtain ⟨h8, H⟩ := H
    refine z_getI (pc := 22) C zc1 h8 5 (by decide) rfl wf_X9_283 (dX9_meanFirst 12 rfl) ?_
    refine zc_Vi (pc := 25) (rest := []) C YX9_accept wl_X9_117 (kX9_accept H) (by decide) h7 rfl (by decide) (dX9_meanFirst 13 rfl) rfl (by first | omega | (show _ ≤ mc; omega)) (by first | omega | (show _ ≤ ms; omega)) (Nat.le_of_ble_eq_true rfl) rfl (fun r9 m10 H => ?_)
    exact z_iret (pc := 28) C hr (by first | omega | (show _ ≤ mc; omega)) (by first | omega | (show _ ≤ ms; omega)) (dX9_meanFirst 14 rfl) ⟨_, rfl, H⟩
  · replace H := H.2 c6
    refine z_aload_n (pc := 9) C (dX9_meanFirst 5 rfl) rfl 1 rfl ?_
    refine z_iload_n (pc := 10) C (dX9_meanFirst 6 rfl) rfl 0 rfl ?_
    obtain ⟨h11, H⟩ := H
    refine zc_Vi (pc := 11) (rest := []) C YX9_refuse wl_X9_93 (kX9_refuse H) (by decide) h11 rfl (by decide) (dX9_meanFirst 7 rfl) rfl (by first | omega | (show _ ≤ mc; omega)) (by first | omega | (show _ ≤ ms; omega)) (Nat.le_of_ble_eq_true rfl) rfl (fun r12 m13 H => ?_)
    refine z_goto (pc := 14) (tgt := 28) C (dX9_meanFirst 8 rfl) (by decide) ?_
    exact z_iret (pc := 28) C hr (by first | omega | (show _ ≤ mc; omega)) (by first | omega | (show _ ≤ ms; omega)) (dX9_meanFirst 14 rfl) ⟨_, rfl, H⟩
def wX9_canListen (t : zT) (m : zM) (a : Nat) (p1 : Int32) (p2 : Int32) (Q : Int32 → zM → Prop) : Prop := (tK t a = 9 ∧ (tK t (gR m a 3) = 5 ∧ (tK t (gR m (gR m a 3) 11) = 14 ∧ (vp_in p1 (tL t (gR m (gR m a 3) 11)) ∧ (((gI m (gR m (gR m a 3) 11) p1.toNatClampNeg) = 2 → (Q 0 m)) ∧ (¬ (gI m (gR m (gR m a 3) 11) p1.toNatClampNeg) = 2 → (wX5_firstSaying t m (gR m a 3) p1 p2 (fun r6 m7 => (((0 : Int32) ≤ r6 → (Q 0 m7)) ∧ (¬ (0 : Int32) ≤ r6 → (Q 1 m7)))))))))))
set_option maxHeartbeats 4000000 in
set_option maxRecDepth 20000 in
theorem kX9_canListen {l : Launch} {t : zT} {m : zM} {a : Nat} {p1 : Int32} {p2 : Int32} {Q : Int32 → zM → Prop} (H : wX9_canListen t m a p1 p2 Q) : zMet l yX9_canListen cX9_canListen 3 (some .boolean) 1 0 0 t m [.ref a, .int p1, .int p2] (zPi t Q) := by
  refine zmet (by decide +kernel) (Nat.le_of_ble_eq_true rfl) ?_
  intro p e s mt args below meth c g C hr hm
  unfold wX9_canListen at H
  have hu1 : ((0, 0) : Nat × Nat).1 ≤ 0 := Nat.le_refl 0
  have hu2 : ((0, 0) : Nat × Nat).2 ≤ 0 := Nat.le_refl 0
  refine z_aload_n (pc := 0) C (dX9_canListen 0 rfl) rfl 0 rfl ?_
  obtain ⟨h1, H⟩ := H
  refine z_getR (pc := 1) C zc9 h1 3 (by decide) rfl wf_X9_34 (dX9_canListen 1 rfl) ?_
  obtain ⟨h2, H⟩ := H
  refine z_getR (pc := 4) C zc5 h2 11 (by decide) rfl wf_X9_295 (dX9_canListen 2 rfl) ?_
  refine z_iload_n (pc := 7) C (dX9_canListen 3 rfl) rfl 1 rfl ?_
  obtain ⟨h3, H⟩ := H
  obtain ⟨h4, H⟩ := H
  refine z_iaload (pc := 8) C h3 h4 (dX9_canListen 4 rfl) ?_
  refine z_iconst (pc := 9) (v := 2) C (dX9_canListen 5 rfl) (by decide) ?_
  refine z_icmp_eq (pc := 10) (tgt := 29) C (dX9_canListen 6 rfl) (by decide) (fun c5 => ?_) (fun c5 => ?_)
  · replace H := H.1 c5
    refine z_iconst (pc := 29) (v := 0) C (dX9_canListen 15 rfl) (by decide) ?_
    exact z_zret (pc := 30) C hr (by decide) hu1 hu2 (dX9_canListen 16 rfl) ⟨rfl, _, rfl, H⟩
  · replace H := H.2 c5
    refine z_aload_n (pc := 13) C (dX9_canListen 7 rfl) rfl 0 rfl ?_
    refine z_getR (pc := 14) C zc9 h1 3 (by decide) rfl wf_X9_34 (dX9_canListen 8 rfl) ?_
    refine z_iload_n (pc := 17) C (dX9_canListen 9 rfl) rfl 1 rfl ?_
    refine z_iload_n (pc := 18) C (dX9_canListen 10 rfl) rfl 2 rfl ?_
    refine zc_Vi (pc := 19) (rest := []) C YX5_firstSaying wl_X9_298 (kX5_firstSaying H) (by decide) h2 rfl (by decide) (dX9_canListen 11 rfl) rfl hu1 hu2 (Nat.le_of_ble_eq_true rfl) rfl (fun r6 m7 H => ?_)
    refine z_if_ge (pc := 22) (tgt := 29) C (dX9_canListen 12 rfl) (by decide) (fun c8 => ?_) (fun c8 => ?_)
    · replace H := H.1 c8
      refine z_iconst (pc := 29) (v := 0) C (dX9_canListen 15 rfl) (by decide) ?_
      exact z_zret (pc := 30) C hr (by decide) hu1 hu2 (dX9_canListen 16 rfl) ⟨rfl, _, rfl, H⟩
    · replace H := H.2 c8
      refine z_iconst (pc := 25) (v := 1) C (dX9_canListen 13 rfl) (by decide) ?_
      refine z_goto (pc := 26) (tgt := 30) C (dX9_canListen 14 rfl) (by decide) ?_
      exact z_zret (pc := 30) C hr (by decide) hu1 hu2 (dX9_canListen 16 rfl) ⟨rfl, _, rfl, H⟩
def wX9_mostLeft_L5 (t : zT) (a_0 : Nat) (x_1 : Int32) (x_2 : Int32) (Q : Int32 → zM → Prop) (k78 : Int32 → zM → Prop) : Nat → Int32 → Int32 → zM → Prop
  | 0, _, _, _ => False
  | n + 1, x_3, x_4, m => (tK t a_0 = 9 ∧ (tK t (gR m a_0 3) = 5 ∧ (tK t (gR m (gR m a_0 3) 1) = 14 ∧ (vp_in x_2 (tL t (gR m (gR m a_0 3) 1)) ∧ (((gI m (gR m (gR m a_0 3) 1) x_2.toNatClampNeg) ≤ x_4 → (k78 x_3 m)) ∧ (¬ (gI m (gR m (gR m a_0 3) 1) x_2.toNatClampNeg) ≤ x_4 → (wX5_withOneMore t m (gR m a_0 3) x_1 x_2 x_4 (fun r6 m7 => (tK t (gR m7 a_0 3) = 5 ∧ (tK t (gR m7 a_0 1) = 0 ∧ (wX0_judge t m7 (gR m7 a_0 1) r6 (gI m7 (gR m7 a_0 3) 12) (gR m7 a_0 9) (fun m11 => (wX9_keepFacts t m11 a_0 (gR m11 a_0 9) (fun m13 => (tK t (gR m13 a_0 9) = 4 ∧ (∀ x15 : Int32, x15 = (if x_3 < (gI m13 (gR m13 a_0 9) 2) then (gI m13 (gR m13 a_0 9) 2) else x_3) → ((wX9_mostLeft_L5 t a_0 x_1 x_2 Q k78 n x15 (x_4 + 1) m13))))))))))))))))))
set_option maxHeartbeats 4000000 in
set_option maxRecDepth 20000 in
theorem sX9_mostLeft_L5 {p : Program} {l : Launch} {e : Env} {s : State} {mt : MethodId} {args : Array Value} {below : List Frame} {meth : Method} {c : Code} {g : zG} {u : Nat × Nat} {mc ms : Nat} {t : zT} {a_0 : Nat} {x_1 : Int32} {x_2 : Int32} {Q : Int32 → zM → Prop} {k78 : Int32 → zM → Prop} (C : zC p (zRm 4 mc ms) s mt args meth c g cX9_mostLeft 6 yX9_mostLeft.cls 4) (hr : meth.sig.returnType = (some .int)) (hm : meth.name = yX9_mostLeft.name) (hu1 : u.1 ≤ mc) (hu2 : u.2 ≤ ms)
    (K78 : ∀ (v0 : Int32) (m : zM), k78 v0 m → zW p l e (zRm 4 mc ms) s mt args below meth c g (MQ below (zQc g (zPi t Q)) args s mc ms (zFar g)) u 6 t m 78 [(3, .int v0)] []) : ∀ (n : Nat) (x_3 : Int32) (x_4 : Int32) (m : zM), wX9_mostLeft_L5 t a_0 x_1 x_2 Q k78 n x_3 x_4 m → zW p l e (zRm 4 mc ms) s mt args below meth c g (MQ below (zQc g (zPi t Q)) args s mc ms (zFar g)) u 6 t m 5 [(0, .ref a_0), (1, .int x_1), (2, .int x_2), (3, .int x_3), (4, .int x_4)] [] := by
  intro n
  induction n with
  | zero => intro x_3 x_4 m H; exact H.elim
  | succ n ih =>
    intro x_3 x_4 m H
    simp only [wX9_mostLeft_L5] at H
    refine z_iload (pc := 5) C (dX9_mostLeft 4 rfl) 4 rfl ?_
    refine z_aload_n (pc := 7) C (dX9_mostLeft 5 rfl) rfl 0 rfl ?_
    obtain ⟨h1, H⟩ := H
    refine z_getR (pc := 8) C zc9 h1 3 (by decide) rfl wf_X9_34 (dX9_mostLeft 6 rfl) ?_
    obtain ⟨h2, H⟩ := H
    refine z_getR (pc := 11) C zc5 h2 1 (by decide) rfl wf_X9_305 (dX9_mostLeft 7 rfl) ?_
    refine z_iload_n (pc := 14) C (dX9_mostLeft 8 rfl) rfl 2 rfl ?_
    obtain ⟨h3, H⟩ := H
    obtain ⟨h4, H⟩ := H
    refine z_iaload (pc := 15) C h3 h4 (dX9_mostLeft 9 rfl) ?_
    refine z_icmp_ge (pc := 16) (tgt := 78) C (dX9_mostLeft 10 rfl) (by decide) (fun c5 => ?_) (fun c5 => ?_)
    · replace H := H.1 c5
      refine z_sub [3] rfl ?_
      exact K78 x_3 m H
    · replace H := H.2 c5
      refine z_aload_n (pc := 19) C (dX9_mostLeft 11 rfl) rfl 0 rfl ?_
      refine z_getR (pc := 20) C zc9 h1 3 (by decide) rfl wf_X9_34 (dX9_mostLeft 12 rfl) ?_
      refine z_iload_n (pc := 23) C (dX9_mostLeft 13 rfl) rfl 1 rfl ?_
      refine z_iload_n (pc := 24) C (dX9_mostLeft 14 rfl) rfl 2 rfl ?_
      refine z_iload (pc := 25) C (dX9_mostLeft 15 rfl) 4 rfl ?_
      refine zc_Vi (pc := 27) (rest := []) C YX5_withOneMore wl_X9_308 (kX5_withOneMore H) (by decide) h2 rfl (by decide) (dX9_mostLeft 16 rfl) rfl hu1 hu2 (Nat.le_of_ble_eq_true rfl) rfl (fun r6 m7 H => ?_)
      refine z_istore (pc := 30) (i := 5) (lv2 := [(5, .int r6), (0, .ref a_0), (1, .int x_1), (2, .int x_2), (3, .int x_3), (4, .int x_4)]) C (dX9_mostLeft 17 rfl) (by decide) rfl ?_
      refine z_aload_n (pc := 32) C (dX9_mostLeft 18 rfl) rfl 1 rfl ?_
      refine z_getR (pc := 33) C zc9 h1 1 (by decide) rfl wf_X9_19 (dX9_mostLeft 19 rfl) ?_
      refine z_iload (pc := 36) C (dX9_mostLeft 20 rfl) 0 rfl ?_
      refine z_aload_n (pc := 38) C (dX9_mostLeft 21 rfl) rfl 1 rfl ?_
      refine z_getR (pc := 39) C zc9 h1 3 (by decide) rfl wf_X9_34 (dX9_mostLeft 22 rfl) ?_
      obtain ⟨h8, H⟩ := H
      refine z_getI (pc := 42) C zc5 h8 12 (by decide) rfl wf_X9_131 (dX9_mostLeft 23 rfl) ?_
      refine z_aload_n (pc := 45) C (dX9_mostLeft 24 rfl) rfl 1 rfl ?_
      refine z_getR (pc := 46) C zc9 h1 9 (by decide) rfl wf_X9_68 (dX9_mostLeft 25 rfl) ?_
      obtain ⟨h9, H⟩ := H
      refine zc_Vv (pc := 49) (rest := []) C YX0_judge wl_X9_134 (kX0_judge H) (by decide) h9 rfl (by decide) (dX9_mostLeft 26 rfl) rfl hu1 hu2 (Nat.le_of_ble_eq_true rfl) rfl (fun m11 H => ?_)
      refine z_aload_n (pc := 52) C (dX9_mostLeft 27 rfl) rfl 1 rfl ?_
      refine z_aload_n (pc := 53) C (dX9_mostLeft 28 rfl) rfl 1 rfl ?_
      refine z_getR (pc := 54) C zc9 h1 9 (by decide) rfl wf_X9_68 (dX9_mostLeft 29 rfl) ?_
      refine zc_Vv (pc := 57) (rest := []) C YX9_keepFacts wl_X9_312 (kX9_keepFacts H) (by decide) h1 rfl (by decide) (dX9_mostLeft 30 rfl) rfl hu1 hu2 (Nat.le_of_ble_eq_true rfl) rfl (fun m13 H => ?_)
      refine z_iload_n (pc := 60) C (dX9_mostLeft 31 rfl) rfl 4 rfl ?_
      refine z_aload_n (pc := 61) C (dX9_mostLeft 32 rfl) rfl 1 rfl ?_
      refine z_getR (pc := 62) C zc9 h1 9 (by decide) rfl wf_X9_68 (dX9_mostLeft 33 rfl) ?_
      obtain ⟨h14, H⟩ := H
      refine z_getI (pc := 65) C zc4 h14 2 (by decide) rfl wf_X9_158 (dX9_mostLeft 34 rfl) ?_
      refine z_mmax (pc := 68) C wl_X9_237 (by decide) hu1 hu2 (Nat.le_of_ble_eq_true rfl) (dX9_mostLeft 35 rfl) ?_
      refine z_int (fun x15 hx15 => ?_)
      replace H := H x15 hx15
      refine z_istore_n (pc := 71) (i := 3) (lv2 := [(3, .int x15), (5, .int r6), (0, .ref a_0), (1, .int x_1), (2, .int x_2), (4, .int x_4)]) C (dX9_mostLeft 36 rfl) rfl (by decide) rfl ?_
      refine z_iinc (pc := 72) (i := 4) (v := x_4 + 1) (lv2 := [(4, .int (x_4 + 1)), (3, .int x15), (5, .int r6), (0, .ref a_0), (1, .int x_1), (2, .int x_2)]) C (dX9_mostLeft 37 rfl) 5 rfl (by rfl) (by decide) rfl ?_
      refine z_goto (pc := 75) (tgt := 5) C (dX9_mostLeft 38 rfl) (by decide) ?_
      refine z_sub [3, 4, 5, 1, 0] rfl ?_
      exact ih x15 (x_4 + 1) m13 H
def wX9_mostLeft (t : zT) (m : zM) (a : Nat) (p1 : Int32) (p2 : Int32) (Q : Int32 → zM → Prop) : Prop := (∃ n18, wX9_mostLeft_L5 t a p1 p2 Q (fun v16 m17 => (Q v16 m17)) n18 0 0 m)
set_option maxHeartbeats 4000000 in
set_option maxRecDepth 20000 in
theorem kX9_mostLeft {l : Launch} {t : zT} {m : zM} {a : Nat} {p1 : Int32} {p2 : Int32} {Q : Int32 → zM → Prop} (H : wX9_mostLeft t m a p1 p2 Q) : zMet l yX9_mostLeft cX9_mostLeft 6 (some .int) 4 0 0 t m [.ref a, .int p1, .int p2] (zPi t Q) := by
  refine zmet (by decide +kernel) (Nat.le_of_ble_eq_true rfl) ?_
  intro p e s mt args below meth c g C hr hm
  unfold wX9_mostLeft at H
  have hu1 : ((0, 0) : Nat × Nat).1 ≤ 0 := Nat.le_refl 0
  have hu2 : ((0, 0) : Nat × Nat).2 ≤ 0 := Nat.le_refl 0
  refine z_iconst (pc := 0) (v := 0) C (dX9_mostLeft 0 rfl) (by decide) ?_
  refine z_istore_n (pc := 1) (i := 3) (lv2 := [(3, .int 0), (0, .ref a), (1, .int p1), (2, .int p2)]) C (dX9_mostLeft 1 rfl) rfl (by decide) rfl ?_
  refine z_iconst (pc := 2) (v := 0) C (dX9_mostLeft 2 rfl) (by decide) ?_
  refine z_istore (pc := 3) (i := 4) (lv2 := [(4, .int 0), (3, .int 0), (0, .ref a), (1, .int p1), (2, .int p2)]) C (dX9_mostLeft 3 rfl) (by decide) rfl ?_
  obtain ⟨n18, H⟩ := H
  refine z_sub [2, 3, 4, 1, 0] rfl ?_
  refine sX9_mostLeft_L5 C hr hm hu1 hu2 (fun v16 m17 H => ?_) n18 0 0 m H
  refine z_iload_n (pc := 78) C (dX9_mostLeft 39 rfl) rfl 0 rfl ?_
  exact z_iret (pc := 79) C hr hu1 hu2 (dX9_mostLeft 40 rfl) ⟨rfl, _, rfl, H⟩
def wX9_left_J16 (t : zT) (m : zM) (a_0 : Nat) (Q : Int32 → zM → Prop) : Prop := (tK t a_0 = 9 ∧ (wX9_refuse t m a_0 1 (fun r6 m7 => (Q r6 m7))))
set_option maxHeartbeats 4000000 in
set_option maxRecDepth 20000 in
theorem sX9_left_J16 {p : Program} {l : Launch} {e : Env} {s : State} {mt : MethodId} {args : Array Value} {below : List Frame} {meth : Method} {c : Code} {g : zG} {u : Nat × Nat} {mc ms : Nat} {t : zT} {m : zM} {a_0 : Nat} {Q : Int32 → zM → Prop} (C : zC p (zRm 5 mc ms) s mt args meth c g cX9_left 3 yX9_left.cls 5) (hr : meth.sig.returnType = (some .int)) (hm : meth.name = yX9_left.name) (hu1 : u.1 ≤ mc) (hu2 : u.2 ≤ ms) (H : wX9_left_J16 t m a_0 Q) : zW p l e (zRm 5 mc ms) s mt args below meth c g (MQ below (zQc g (zPi t Q)) args s mc ms (zFar g)) u 3 t m 16 [(0, .ref a_0)] [] := by
  unfold wX9_left_J16 at H
  refine z_aload_n (pc := 16) C (dX9_left 8 rfl) rfl 0 rfl ?_
  refine z_iconst (pc := 17) (v := 1) C (dX9_left 9 rfl) (by decide) ?_
  obtain ⟨h5, H⟩ := H
  refine zc_Vi (pc := 18) (rest := []) C YX9_refuse wl_X9_93 (kX9_refuse H) (by decide) h5 rfl (by decide) (dX9_left 10 rfl) rfl hu1 hu2 (Nat.le_of_ble_eq_true rfl) rfl (fun r6 m7 H => ?_)
  exact z_iret (pc := 21) C hr hu1 hu2 (dX9_left 11 rfl) ⟨rfl, _, rfl, H⟩
def wX9_left (t : zT) (m : zM) (a : Nat) (p1 : Int32) (p2 : Int32) (Q : Int32 → zM → Prop) : Prop := (tK t a = 9 ∧ (wX9_isMaster t m a p1 (fun r2 m3 => ((r2 = 0 → (wX9_left_J16 t m3 a Q)) ∧ (¬ r2 = 0 → (wX9_isThing t m3 a p2 (fun r8 m9 => ((r8 = 0 → (wX9_left_J16 t m9 a Q)) ∧ (¬ r8 = 0 → (wX9_canListen t m9 a p1 p2 (fun r11 m12 => ((r11 = 0 → (wX9_refuse t m12 a 5 (fun r14 m15 => (Q r14 m15)))) ∧ (¬ r11 = 0 → (wX9_mostLeft t m12 a p1 p2 (fun r16 m17 => (wX9_accept t m17 a r16 (fun r18 m19 => (Q r18 m19))))))))))))))))))
set_option maxHeartbeats 4000000 in
set_option maxRecDepth 20000 in
theorem kX9_left {l : Launch} {t : zT} {m : zM} {a : Nat} {p1 : Int32} {p2 : Int32} {Q : Int32 → zM → Prop} (H : wX9_left t m a p1 p2 Q) : zMet l yX9_left cX9_left 3 (some .int) 5 0 0 t m [.ref a, .int p1, .int p2] (zPi t Q) := by
  refine zmet (by decide +kernel) (Nat.le_of_ble_eq_true rfl) ?_
  intro p e s mt args below meth c g C hr hm
  unfold wX9_left at H
  have hu1 : ((0, 0) : Nat × Nat).1 ≤ 0 := Nat.le_refl 0
  have hu2 : ((0, 0) : Nat × Nat).2 ≤ 0 := Nat.le_refl 0
  refine z_aload_n (pc := 0) C (dX9_left 0 rfl) rfl 0 rfl ?_
  refine z_iload_n (pc := 1) C (dX9_left 1 rfl) rfl 1 rfl ?_
  obtain ⟨h1, H⟩ := H
  refine zc_Vi (pc := 2) (rest := []) C YX9_isMaster wl_X9_210 (kX9_isMaster H) (by decide) h1 rfl (by decide) (dX9_left 2 rfl) rfl hu1 hu2 (Nat.le_of_ble_eq_true rfl) rfl (fun r2 m3 H => ?_)
  refine z_if_eq (pc := 5) (tgt := 16) C (dX9_left 3 rfl) (by decide) (fun c4 => ?_) (fun c4 => ?_)
  · replace H := H.1 c4
    refine z_sub [0] rfl ?_
    exact sX9_left_J16 C hr hm hu1 hu2 H
  · replace H := H.2 c4
    refine z_aload_n (pc := 8) C (dX9_left 4 rfl) rfl 0 rfl ?_
    refine z_iload_n (pc := 9) C (dX9_left 5 rfl) rfl 2 rfl ?_
    refine zc_Vi (pc := 10) (rest := []) C YX9_isThing wl_X9_171 (kX9_isThing H) (by decide) h1 rfl (by decide) (dX9_left 6 rfl) rfl hu1 hu2 (Nat.le_of_ble_eq_true rfl) rfl (fun r8 m9 H => ?_)
    refine z_if_ne (pc := 13) (tgt := 22) C (dX9_left 7 rfl) (by decide) (fun c10 => ?_) (fun c10 => ?_)
    · replace H := H.2 c10
      refine z_aload_n (pc := 22) C (dX9_left 12 rfl) rfl 0 rfl ?_
      refine z_iload_n (pc := 23) C (dX9_left 13 rfl) rfl 1 rfl ?_
      refine z_iload_n (pc := 24) C (dX9_left 14 rfl) rfl 2 rfl ?_
      refine zc_Vi (pc := 25) (rest := []) C YX9_canListen wl_X9_286 (kX9_canListen H) (by decide) h1 rfl (by decide) (dX9_left 15 rfl) rfl hu1 hu2 (Nat.le_of_ble_eq_true rfl) rfl (fun r11 m12 H => ?_)
      refine z_if_eq (pc := 28) (tgt := 44) C (dX9_left 16 rfl) (by decide) (fun c13 => ?_) (fun c13 => ?_)
      · replace H := H.1 c13
        refine z_aload_n (pc := 44) C (dX9_left 24 rfl) rfl 0 rfl ?_
        refine z_iconst (pc := 45) (v := 5) C (dX9_left 25 rfl) (by decide) ?_
        refine zc_Vi (pc := 46) (rest := []) C YX9_refuse wl_X9_93 (kX9_refuse H) (by decide) h1 rfl (by decide) (dX9_left 26 rfl) rfl hu1 hu2 (Nat.le_of_ble_eq_true rfl) rfl (fun r14 m15 H => ?_)
        exact z_iret (pc := 49) C hr hu1 hu2 (dX9_left 27 rfl) ⟨rfl, _, rfl, H⟩
      · replace H := H.2 c13
        refine z_aload_n (pc := 31) C (dX9_left 17 rfl) rfl 0 rfl ?_
        refine z_aload_n (pc := 32) C (dX9_left 18 rfl) rfl 0 rfl ?_
        refine z_iload_n (pc := 33) C (dX9_left 19 rfl) rfl 1 rfl ?_
        refine z_iload_n (pc := 34) C (dX9_left 20 rfl) rfl 2 rfl ?_
        refine zc_Vi (pc := 35) (rest := [.ref a]) C YX9_mostLeft wl_X9_289 (kX9_mostLeft H) (by decide) h1 rfl (by decide) (dX9_left 21 rfl) rfl hu1 hu2 (Nat.le_of_ble_eq_true rfl) rfl (fun r16 m17 H => ?_)
        refine zc_Vi (pc := 38) (rest := []) C YX9_accept wl_X9_117 (kX9_accept H) (by decide) h1 rfl (by decide) (dX9_left 22 rfl) rfl hu1 hu2 (Nat.le_of_ble_eq_true rfl) rfl (fun r18 m19 H => ?_)
        refine z_goto (pc := 41) (tgt := 49) C (dX9_left 23 rfl) (by decide) ?_
        exact z_iret (pc := 49) C hr hu1 hu2 (dX9_left 27 rfl) ⟨rfl, _, rfl, H⟩
    · replace H := H.1 c10
      refine z_sub [0] rfl ?_
      exact sX9_left_J16 C hr hm hu1 hu2 H
def wX9_bestLesson_J74 (t : zT) (m : zM) (a_0 : Nat) (x_1 : Int32) (x_2 : Int32) (x_3 : Int32) (x_4 : Int32) (Q : Int32 → zM → Prop) (r22 : Int32 → Int32 → Int32 → zM → Prop) : Prop := (r22 x_1 x_2 (x_4 + 1) m)
set_option maxHeartbeats 4000000 in
set_option maxRecDepth 20000 in
theorem sX9_bestLesson_J74 {p : Program} {l : Launch} {e : Env} {s : State} {mt : MethodId} {args : Array Value} {below : List Frame} {meth : Method} {c : Code} {g : zG} {u : Nat × Nat} {mc ms : Nat} {t : zT} {m : zM} {a_0 : Nat} {x_1 : Int32} {x_2 : Int32} {x_3 : Int32} {x_4 : Int32} {Q : Int32 → zM → Prop} {r22 : Int32 → Int32 → Int32 → zM → Prop} (C : zC p (zRm 5 mc ms) s mt args meth c g cX9_bestLesson 6 yX9_bestLesson.cls 5) (hr : meth.sig.returnType = (some .int)) (hm : meth.name = yX9_bestLesson.name) (hu1 : u.1 ≤ mc) (hu2 : u.2 ≤ ms)
    (R22 : ∀ (v0 : Int32) (v1 : Int32) (v2 : Int32) (m : zM), r22 v0 v1 v2 m → zW p l e (zRm 5 mc ms) s mt args below meth c g (MQ below (zQc g (zPi t Q)) args s mc ms (zFar g)) u 6 t m 22 [(0, .ref a_0), (1, .int v0), (2, .int v1), (3, .int x_3), (4, .int v2)] []) (H : wX9_bestLesson_J74 t m a_0 x_1 x_2 x_3 x_4 Q r22) : zW p l e (zRm 5 mc ms) s mt args below meth c g (MQ below (zQc g (zPi t Q)) args s mc ms (zFar g)) u 6 t m 74 [(0, .ref a_0), (1, .int x_1), (2, .int x_2), (3, .int x_3), (4, .int x_4)] [] := by
  unfold wX9_bestLesson_J74 at H
  refine z_iinc (pc := 74) (i := 4) (v := x_4 + 1) (lv2 := [(4, .int (x_4 + 1)), (0, .ref a_0), (1, .int x_1), (2, .int x_2), (3, .int x_3)]) C (dX9_bestLesson 41 rfl) 4 rfl (by rfl) (by decide) rfl ?_
  refine z_goto (pc := 77) (tgt := 22) C (dX9_bestLesson 42 rfl) (by decide) ?_
  refine z_sub [1, 2, 3, 4, 0] rfl ?_
  exact R22 x_1 x_2 (x_4 + 1) m H
def wX9_bestLesson_J55 (t : zT) (m : zM) (a_0 : Nat) (x_1 : Int32) (x_2 : Int32) (x_3 : Int32) (x_4 : Int32) (s_0 : Int32) (Q : Int32 → zM → Prop) (r22 : Int32 → Int32 → Int32 → zM → Prop) : Prop := ((x_2 ≤ s_0 → (wX9_bestLesson_J74 t m a_0 x_1 x_2 x_3 x_4 Q r22)) ∧ (¬ x_2 ≤ s_0 → (∀ x11 : Int32, x11 = ((x_3 * (8 : Int32)) + x_4) → ((wX9_bestLesson_J74 t m a_0 x11 s_0 x_3 x_4 Q r22)))))
set_option maxHeartbeats 4000000 in
set_option maxRecDepth 20000 in
theorem sX9_bestLesson_J55 {p : Program} {l : Launch} {e : Env} {s : State} {mt : MethodId} {args : Array Value} {below : List Frame} {meth : Method} {c : Code} {g : zG} {u : Nat × Nat} {mc ms : Nat} {t : zT} {m : zM} {a_0 : Nat} {x_1 : Int32} {x_2 : Int32} {x_3 : Int32} {x_4 : Int32} {s_0 : Int32} {Q : Int32 → zM → Prop} {r22 : Int32 → Int32 → Int32 → zM → Prop} (C : zC p (zRm 5 mc ms) s mt args meth c g cX9_bestLesson 6 yX9_bestLesson.cls 5) (hr : meth.sig.returnType = (some .int)) (hm : meth.name = yX9_bestLesson.name) (hu1 : u.1 ≤ mc) (hu2 : u.2 ≤ ms)
    (R22 : ∀ (v0 : Int32) (v1 : Int32) (v2 : Int32) (m : zM), r22 v0 v1 v2 m → zW p l e (zRm 5 mc ms) s mt args below meth c g (MQ below (zQc g (zPi t Q)) args s mc ms (zFar g)) u 6 t m 22 [(0, .ref a_0), (1, .int v0), (2, .int v1), (3, .int x_3), (4, .int v2)] []) (H : wX9_bestLesson_J55 t m a_0 x_1 x_2 x_3 x_4 s_0 Q r22) : zW p l e (zRm 5 mc ms) s mt args below meth c g (MQ below (zQc g (zPi t Q)) args s mc ms (zFar g)) u 6 t m 55 [(0, .ref a_0), (1, .int x_1), (2, .int x_2), (3, .int x_3), (4, .int x_4)] [.int s_0] := by
  unfold wX9_bestLesson_J55 at H
  refine z_istore (pc := 55) (i := 5) (lv2 := [(5, .int s_0), (0, .ref a_0), (1, .int x_1), (2, .int x_2), (3, .int x_3), (4, .int x_4)]) C (dX9_bestLesson 29 rfl) (by decide) rfl ?_
  refine z_iload (pc := 57) C (dX9_bestLesson 30 rfl) 0 rfl ?_
  refine z_iload_n (pc := 59) C (dX9_bestLesson 31 rfl) rfl 3 rfl ?_
  refine z_icmp_ge (pc := 60) (tgt := 74) C (dX9_bestLesson 32 rfl) (by decide) (fun c10 => ?_) (fun c10 => ?_)
  · replace H := H.1 c10
    refine z_sub [1, 2, 3, 4, 5] rfl ?_
    exact sX9_bestLesson_J74 C hr hm hu1 hu2 R22 H
  · replace H := H.2 c10
    refine z_iload (pc := 63) C (dX9_bestLesson 33 rfl) 0 rfl ?_
    refine z_istore_n (pc := 65) (i := 2) (lv2 := [(2, .int s_0), (5, .int s_0), (0, .ref a_0), (1, .int x_1), (3, .int x_3), (4, .int x_4)]) C (dX9_bestLesson 34 rfl) rfl (by decide) rfl ?_
    refine z_iload_n (pc := 66) C (dX9_bestLesson 35 rfl) rfl 4 rfl ?_
    refine z_bipush (pc := 67) (v := 8) C (dX9_bestLesson 36 rfl) (by decide) ?_
    refine z_imul (pc := 69) C (dX9_bestLesson 37 rfl) ?_
    refine z_iload (pc := 70) C (dX9_bestLesson 38 rfl) 5 rfl ?_
    refine z_iadd (pc := 72) C (dX9_bestLesson 39 rfl) ?_
    refine z_int (fun x11 hx11 => ?_)
    replace H := H x11 hx11
    refine z_istore_n (pc := 73) (i := 1) (lv2 := [(1, .int x11), (2, .int s_0), (5, .int s_0), (0, .ref a_0), (3, .int x_3), (4, .int x_4)]) C (dX9_bestLesson 40 rfl) rfl (by decide) rfl ?_
    refine z_sub [3, 0, 1, 4, 5] rfl ?_
    exact sX9_bestLesson_J74 C hr hm hu1 hu2 R22 H
def wX9_bestLesson_L22 (t : zT) (a_0 : Nat) (x_3 : Int32) (Q : Int32 → zM → Prop) (k80 : Int32 → Int32 → zM → Prop) : Nat → Int32 → Int32 → Int32 → zM → Prop
  | 0, _, _, _, _ => False
  | n + 1, x_1, x_2, x_4, m => (tK t a_0 = 9 ∧ (tK t (gR m a_0 3) = 5 ∧ (((gI m (gR m a_0 3) 0) ≤ x_4 → (k80 x_1 x_2 m)) ∧ (¬ (gI m (gR m a_0 3) 0) ≤ x_4 → (wX9_canListen t m a_0 x_3 x_4 (fun r7 m8 => ((r7 = 0 → (wX9_bestLesson_J55 t m8 a_0 x_1 x_2 x_3 x_4 x_2 Q (wX9_bestLesson_L22 t a_0 x_3 Q k80 n))) ∧ (¬ r7 = 0 → (wX9_mostLeft t m8 a_0 x_3 x_4 (fun r12 m13 => (wX9_bestLesson_J55 t m13 a_0 x_1 x_2 x_3 x_4 r12 Q (wX9_bestLesson_L22 t a_0 x_3 Q k80 n))))))))))))
set_option maxHeartbeats 4000000 in
set_option maxRecDepth 20000 in
theorem sX9_bestLesson_L22 {p : Program} {l : Launch} {e : Env} {s : State} {mt : MethodId} {args : Array Value} {below : List Frame} {meth : Method} {c : Code} {g : zG} {u : Nat × Nat} {mc ms : Nat} {t : zT} {a_0 : Nat} {x_3 : Int32} {Q : Int32 → zM → Prop} {k80 : Int32 → Int32 → zM → Prop} (C : zC p (zRm 5 mc ms) s mt args meth c g cX9_bestLesson 6 yX9_bestLesson.cls 5) (hr : meth.sig.returnType = (some .int)) (hm : meth.name = yX9_bestLesson.name) (hu1 : u.1 ≤ mc) (hu2 : u.2 ≤ ms)
    (K80 : ∀ (v0 : Int32) (v1 : Int32) (m : zM), k80 v0 v1 m → zW p l e (zRm 5 mc ms) s mt args below meth c g (MQ below (zQc g (zPi t Q)) args s mc ms (zFar g)) u 6 t m 80 [(0, .ref a_0), (1, .int v0), (2, .int v1), (3, .int x_3)] []) : ∀ (n : Nat) (x_1 : Int32) (x_2 : Int32) (x_4 : Int32) (m : zM), wX9_bestLesson_L22 t a_0 x_3 Q k80 n x_1 x_2 x_4 m → zW p l e (zRm 5 mc ms) s mt args below meth c g (MQ below (zQc g (zPi t Q)) args s mc ms (zFar g)) u 6 t m 22 [(0, .ref a_0), (1, .int x_1), (2, .int x_2), (3, .int x_3), (4, .int x_4)] [] := by
  intro n
  induction n with
  | zero => intro x_1 x_2 x_4 m H; exact H.elim
  | succ n ih =>
    intro x_1 x_2 x_4 m H
    simp only [wX9_bestLesson_L22] at H
    refine z_iload (pc := 22) C (dX9_bestLesson 13 rfl) 4 rfl ?_
    refine z_aload_n (pc := 24) C (dX9_bestLesson 14 rfl) rfl 0 rfl ?_
    obtain ⟨h4, H⟩ := H
    refine z_getR (pc := 25) C zc9 h4 3 (by decide) rfl wf_X9_34 (dX9_bestLesson 15 rfl) ?_
    obtain ⟨h5, H⟩ := H
    refine z_getI (pc := 28) C zc5 h5 0 (by decide) rfl wf_X9_112 (dX9_bestLesson 16 rfl) ?_
    refine z_icmp_ge (pc := 31) (tgt := 80) C (dX9_bestLesson 17 rfl) (by decide) (fun c6 => ?_) (fun c6 => ?_)
    · replace H := H.1 c6
      refine z_sub [0, 1, 2, 3] rfl ?_
      exact K80 x_1 x_2 m H
    · replace H := H.2 c6
      refine z_aload_n (pc := 34) C (dX9_bestLesson 18 rfl) rfl 0 rfl ?_
      refine z_iload_n (pc := 35) C (dX9_bestLesson 19 rfl) rfl 3 rfl ?_
      refine z_iload (pc := 36) C (dX9_bestLesson 20 rfl) 4 rfl ?_
      refine zc_Vi (pc := 38) (rest := []) C YX9_canListen wl_X9_286 (kX9_canListen H) (by decide) h4 rfl (by decide) (dX9_bestLesson 21 rfl) rfl hu1 hu2 (Nat.le_of_ble_eq_true rfl) rfl (fun r7 m8 H => ?_)
      refine z_if_eq (pc := 41) (tgt := 54) C (dX9_bestLesson 22 rfl) (by decide) (fun c9 => ?_) (fun c9 => ?_)
      · replace H := H.1 c9
        refine z_iload_n (pc := 54) C (dX9_bestLesson 28 rfl) rfl 2 rfl ?_
        refine z_sub [0, 1, 2, 3, 4] rfl ?_
        exact sX9_bestLesson_J55 C hr hm hu1 hu2 ih H
      · replace H := H.2 c9
        refine z_aload_n (pc := 44) C (dX9_bestLesson 23 rfl) rfl 0 rfl ?_
        refine z_iload_n (pc := 45) C (dX9_bestLesson 24 rfl) rfl 3 rfl ?_
        refine z_iload (pc := 46) C (dX9_bestLesson 25 rfl) 4 rfl ?_
        refine zc_Vi (pc := 48) (rest := []) C YX9_mostLeft wl_X9_289 (kX9_mostLeft H) (by decide) h4 rfl (by decide) (dX9_bestLesson 26 rfl) rfl hu1 hu2 (Nat.le_of_ble_eq_true rfl) rfl (fun r12 m13 H => ?_)
        refine z_goto (pc := 51) (tgt := 55) C (dX9_bestLesson 27 rfl) (by decide) ?_
        refine z_sub [0, 1, 2, 3, 4] rfl ?_
        exact sX9_bestLesson_J55 C hr hm hu1 hu2 ih H
def wX9_bestLesson_L8 (t : zT) (a_0 : Nat) (Q : Int32 → zM → Prop) (k86 : Int32 → zM → Prop) : Nat → Int32 → Int32 → Int32 → zM → Prop
  | 0, _, _, _, _ => False
  | n + 1, x_1, x_2, x_3, m => (tK t a_0 = 9 ∧ (tK t (gR m a_0 3) = 5 ∧ (((gI m (gR m a_0 3) 10) ≤ x_3 → (k86 x_1 m)) ∧ (¬ (gI m (gR m a_0 3) 10) ≤ x_3 → (∃ n17, wX9_bestLesson_L22 t a_0 x_3 Q (fun v14 v15 m16 => (wX9_bestLesson_L8 t a_0 Q k86 n v14 v15 (x_3 + 1) m16)) n17 x_1 x_2 0 m)))))
set_option maxHeartbeats 4000000 in
set_option maxRecDepth 20000 in
theorem sX9_bestLesson_L8 {p : Program} {l : Launch} {e : Env} {s : State} {mt : MethodId} {args : Array Value} {below : List Frame} {meth : Method} {c : Code} {g : zG} {u : Nat × Nat} {mc ms : Nat} {t : zT} {a_0 : Nat} {Q : Int32 → zM → Prop} {k86 : Int32 → zM → Prop} (C : zC p (zRm 5 mc ms) s mt args meth c g cX9_bestLesson 6 yX9_bestLesson.cls 5) (hr : meth.sig.returnType = (some .int)) (hm : meth.name = yX9_bestLesson.name) (hu1 : u.1 ≤ mc) (hu2 : u.2 ≤ ms)
    (K86 : ∀ (v0 : Int32) (m : zM), k86 v0 m → zW p l e (zRm 5 mc ms) s mt args below meth c g (MQ below (zQc g (zPi t Q)) args s mc ms (zFar g)) u 6 t m 86 [(1, .int v0)] []) : ∀ (n : Nat) (x_1 : Int32) (x_2 : Int32) (x_3 : Int32) (m : zM), wX9_bestLesson_L8 t a_0 Q k86 n x_1 x_2 x_3 m → zW p l e (zRm 5 mc ms) s mt args below meth c g (MQ below (zQc g (zPi t Q)) args s mc ms (zFar g)) u 6 t m 8 [(0, .ref a_0), (1, .int x_1), (2, .int x_2), (3, .int x_3)] [] := by
  intro n
  induction n with
  | zero => intro x_1 x_2 x_3 m H; exact H.elim
  | succ n ih =>
    intro x_1 x_2 x_3 m H
    simp only [wX9_bestLesson_L8] at H
    refine z_iload_n (pc := 8) C (dX9_bestLesson 6 rfl) rfl 3 rfl ?_
    refine z_aload_n (pc := 9) C (dX9_bestLesson 7 rfl) rfl 0 rfl ?_
    obtain ⟨h1, H⟩ := H
    refine z_getR (pc := 10) C zc9 h1 3 (by decide) rfl wf_X9_34 (dX9_bestLesson 8 rfl) ?_
    obtain ⟨h2, H⟩ := H
    refine z_getI (pc := 13) C zc5 h2 10 (by decide) rfl wf_X9_302 (dX9_bestLesson 9 rfl) ?_
    refine z_icmp_ge (pc := 16) (tgt := 86) C (dX9_bestLesson 10 rfl) (by decide) (fun c3 => ?_) (fun c3 => ?_)
    · replace H := H.1 c3
      refine z_sub [1] rfl ?_
      exact K86 x_1 m H
    · replace H := H.2 c3
      refine z_iconst (pc := 19) (v := 0) C (dX9_bestLesson 11 rfl) (by decide) ?_
      refine z_istore (pc := 20) (i := 4) (lv2 := [(4, .int 0), (0, .ref a_0), (1, .int x_1), (2, .int x_2), (3, .int x_3)]) C (dX9_bestLesson 12 rfl) (by decide) rfl ?_
      obtain ⟨n17, H⟩ := H
      refine z_sub [1, 2, 3, 4, 0] rfl ?_
      refine sX9_bestLesson_L22 C hr hm hu1 hu2 (fun v14 v15 m16 H => ?_) n17 x_1 x_2 0 m H
      refine z_iinc (pc := 80) (i := 3) (v := x_3 + 1) (lv2 := [(3, .int (x_3 + 1)), (0, .ref a_0), (1, .int v14), (2, .int v15)]) C (dX9_bestLesson 43 rfl) 3 rfl (by rfl) (by decide) rfl ?_
      refine z_goto (pc := 83) (tgt := 8) C (dX9_bestLesson 44 rfl) (by decide) ?_
      refine z_sub [1, 2, 3, 0] rfl ?_
      exact ih v14 v15 (x_3 + 1) m16 H
def wX9_bestLesson (t : zT) (m : zM) (a : Nat) (Q : Int32 → zM → Prop) : Prop := (∃ n20, wX9_bestLesson_L8 t a Q (fun v18 m19 => (Q v18 m19)) n20 (-1) 1000000000 0 m)
set_option maxHeartbeats 4000000 in
set_option maxRecDepth 20000 in
theorem kX9_bestLesson {l : Launch} {t : zT} {m : zM} {a : Nat} {Q : Int32 → zM → Prop} (H : wX9_bestLesson t m a Q) : zMet l yX9_bestLesson cX9_bestLesson 6 (some .int) 5 0 0 t m [.ref a] (zPi t Q) := by
  refine zmet (by decide +kernel) (Nat.le_of_ble_eq_true rfl) ?_
  intro p e s mt args below meth c g C hr hm
  unfold wX9_bestLesson at H
  have hu1 : ((0, 0) : Nat × Nat).1 ≤ 0 := Nat.le_refl 0
  have hu2 : ((0, 0) : Nat × Nat).2 ≤ 0 := Nat.le_refl 0
  refine z_iconst (pc := 0) (v := (-1)) C (dX9_bestLesson 0 rfl) (by decide) ?_
  refine z_istore_n (pc := 1) (i := 1) (lv2 := [(1, .int (-1)), (0, .ref a)]) C (dX9_bestLesson 1 rfl) rfl (by decide) rfl ?_
  refine z_ldcw (pc := 2) C wk_X9_301 (dX9_bestLesson 2 rfl) ?_
  refine z_istore_n (pc := 5) (i := 2) (lv2 := [(2, .int 1000000000), (1, .int (-1)), (0, .ref a)]) C (dX9_bestLesson 3 rfl) rfl (by decide) rfl ?_
  refine z_iconst (pc := 6) (v := 0) C (dX9_bestLesson 4 rfl) (by decide) ?_
  refine z_istore_n (pc := 7) (i := 3) (lv2 := [(3, .int 0), (2, .int 1000000000), (1, .int (-1)), (0, .ref a)]) C (dX9_bestLesson 5 rfl) rfl (by decide) rfl ?_
  obtain ⟨n20, H⟩ := H
  refine z_sub [3, 2, 1, 0] rfl ?_
  refine sX9_bestLesson_L8 C hr hm hu1 hu2 (fun v18 m19 H => ?_) n20 (-1) 1000000000 0 m H
  refine z_iload_n (pc := 86) C (dX9_bestLesson 45 rfl) rfl 0 rfl ?_
  exact z_iret (pc := 87) C hr hu1 hu2 (dX9_bestLesson 46 rfl) ⟨rfl, _, rfl, H⟩
def wX9_listen_J30 (t : zT) (m : zM) (a_0 : Nat) (Q : Int32 → zM → Prop) : Prop := (tK t a_0 = 9 ∧ (((0 : Int32) ≤ (gI m a_0 12) → (wX9_accept t m a_0 (gI m a_0 12) (fun r8 m9 => (Q r8 m9)))) ∧ (¬ (0 : Int32) ≤ (gI m a_0 12) → (wX9_refuse t m a_0 6 (fun r10 m11 => (Q r10 m11))))))
set_option maxHeartbeats 4000000 in
set_option maxRecDepth 20000 in
theorem sX9_listen_J30 {p : Program} {l : Launch} {e : Env} {s : State} {mt : MethodId} {args : Array Value} {below : List Frame} {meth : Method} {c : Code} {g : zG} {u : Nat × Nat} {mc ms : Nat} {t : zT} {m : zM} {a_0 : Nat} {Q : Int32 → zM → Prop} (C : zC p (zRm 6 mc ms) s mt args meth c g cX9_listen 1 yX9_listen.cls 6) (hr : meth.sig.returnType = (some .int)) (hm : meth.name = yX9_listen.name) (hu1 : u.1 ≤ mc) (hu2 : u.2 ≤ ms) (H : wX9_listen_J30 t m a_0 Q) : zW p l e (zRm 6 mc ms) s mt args below meth c g (MQ below (zQc g (zPi t Q)) args s mc ms (zFar g)) u 1 t m 30 [(0, .ref a_0)] [] := by
  unfold wX9_listen_J30 at H
  refine z_aload_n (pc := 30) C (dX9_listen 15 rfl) rfl 0 rfl ?_
  obtain ⟨h6, H⟩ := H
  refine z_getI (pc := 31) C zc9 h6 12 (by decide) rfl wf_X9_82 (dX9_listen 16 rfl) ?_
  refine z_if_ge (pc := 34) (tgt := 46) C (dX9_listen 17 rfl) (by decide) (fun c7 => ?_) (fun c7 => ?_)
  · replace H := H.1 c7
    refine z_aload_n (pc := 46) C (dX9_listen 22 rfl) rfl 0 rfl ?_
    refine z_aload_n (pc := 47) C (dX9_listen 23 rfl) rfl 0 rfl ?_
    refine z_getI (pc := 48) C zc9 h6 12 (by decide) rfl wf_X9_82 (dX9_listen 24 rfl) ?_
    refine zc_Vi (pc := 51) (rest := []) C YX9_accept wl_X9_117 (kX9_accept H) (by decide) h6 rfl (by decide) (dX9_listen 25 rfl) rfl hu1 hu2 (Nat.le_of_ble_eq_true rfl) rfl (fun r8 m9 H => ?_)
    exact z_iret (pc := 54) C hr hu1 hu2 (dX9_listen 26 rfl) ⟨rfl, _, rfl, H⟩
  · replace H := H.2 c7
    refine z_aload_n (pc := 37) C (dX9_listen 18 rfl) rfl 0 rfl ?_
    refine z_bipush (pc := 38) (v := 6) C (dX9_listen 19 rfl) (by decide) ?_
    refine zc_Vi (pc := 40) (rest := []) C YX9_refuse wl_X9_93 (kX9_refuse H) (by decide) h6 rfl (by decide) (dX9_listen 20 rfl) rfl hu1 hu2 (Nat.le_of_ble_eq_true rfl) rfl (fun r10 m11 H => ?_)
    refine z_goto (pc := 43) (tgt := 54) C (dX9_listen 21 rfl) (by decide) ?_
    exact z_iret (pc := 54) C hr hu1 hu2 (dX9_listen 26 rfl) ⟨rfl, _, rfl, H⟩
def wX9_listen (t : zT) (m : zM) (a : Nat) (Q : Int32 → zM → Prop) : Prop := (tK t a = 9 ∧ (wX9_isOpen t m a (fun r2 m3 => ((r2 = 0 → (wX9_refuse t m3 a 1 (fun r14 m15 => (Q r14 m15)))) ∧ (¬ r2 = 0 → (((gI m3 a 12) = (-2) → (wX9_bestLesson t m3 a (fun r12 m13 => (wX9_listen_J30 t (pI m13 a 12 r12) a Q)))) ∧ (¬ (gI m3 a 12) = (-2) → (wX9_listen_J30 t m3 a Q))))))))
set_option maxHeartbeats 4000000 in
set_option maxRecDepth 20000 in
theorem kX9_listen {l : Launch} {t : zT} {m : zM} {a : Nat} {Q : Int32 → zM → Prop} (H : wX9_listen t m a Q) : zMet l yX9_listen cX9_listen 1 (some .int) 6 0 0 t m [.ref a] (zPi t Q) := by
  refine zmet (by decide +kernel) (Nat.le_of_ble_eq_true rfl) ?_
  intro p e s mt args below meth c g C hr hm
  unfold wX9_listen at H
  have hu1 : ((0, 0) : Nat × Nat).1 ≤ 0 := Nat.le_refl 0
  have hu2 : ((0, 0) : Nat × Nat).2 ≤ 0 := Nat.le_refl 0
  refine z_aload_n (pc := 0) C (dX9_listen 0 rfl) rfl 0 rfl ?_
  obtain ⟨h1, H⟩ := H
  refine zc_Vi (pc := 1) (rest := []) C YX9_isOpen wl_X9_151 (kX9_isOpen H) (by decide) h1 rfl (by decide) (dX9_listen 1 rfl) rfl hu1 hu2 (Nat.le_of_ble_eq_true rfl) rfl (fun r2 m3 H => ?_)
  refine z_if_ne (pc := 4) (tgt := 13) C (dX9_listen 2 rfl) (by decide) (fun c4 => ?_) (fun c4 => ?_)
  · replace H := H.2 c4
    refine z_aload_n (pc := 13) C (dX9_listen 7 rfl) rfl 0 rfl ?_
    refine z_getI (pc := 14) C zc9 h1 12 (by decide) rfl wf_X9_82 (dX9_listen 8 rfl) ?_
    refine z_bipush (pc := 17) (v := (-2)) C (dX9_listen 9 rfl) (by decide) ?_
    refine z_icmp_ne (pc := 19) (tgt := 30) C (dX9_listen 10 rfl) (by decide) (fun c5 => ?_) (fun c5 => ?_)
    · replace H := H.2 c5
      refine z_sub [0] rfl ?_
      exact sX9_listen_J30 C hr hm hu1 hu2 H
    · replace H := H.1 c5
      refine z_aload_n (pc := 22) C (dX9_listen 11 rfl) rfl 0 rfl ?_
      refine z_aload_n (pc := 23) C (dX9_listen 12 rfl) rfl 0 rfl ?_
      refine zc_Vi (pc := 24) (rest := [.ref a]) C YX9_bestLesson wl_X9_292 (kX9_bestLesson H) (by decide) h1 rfl (by decide) (dX9_listen 13 rfl) rfl hu1 hu2 (Nat.le_of_ble_eq_true rfl) rfl (fun r12 m13 H => ?_)
      refine z_putI (pc := 27) C zc9 h1 12 (by decide) rfl rfl wf_X9_82 (dX9_listen 14 rfl) ?_
      refine z_sub [0] rfl ?_
      exact sX9_listen_J30 C hr hm hu1 hu2 H
  · replace H := H.1 c4
    refine z_aload_n (pc := 7) C (dX9_listen 3 rfl) rfl 0 rfl ?_
    refine z_iconst (pc := 8) (v := 1) C (dX9_listen 4 rfl) (by decide) ?_
    refine zc_Vi (pc := 9) (rest := []) C YX9_refuse wl_X9_93 (kX9_refuse H) (by decide) h1 rfl (by decide) (dX9_listen 5 rfl) rfl hu1 hu2 (Nat.le_of_ble_eq_true rfl) rfl (fun r14 m15 H => ?_)
    exact z_iret (pc := 12) C hr hu1 hu2 (dX9_listen 6 rfl) ⟨rfl, _, rfl, H⟩
def wX9_isChild (t : zT) (m : zM) (a : Nat) (p1 : Int32) (Q : Int32 → zM → Prop) : Prop := ((p1 < 0 → (Q 0 m)) ∧ (¬ p1 < 0 → (tK t a = 9 ∧ (tK t (gR m a 3) = 5 ∧ (((gI m (gR m a 3) 18) ≤ p1 → (Q 0 m)) ∧ (¬ (gI m (gR m a 3) 18) ≤ p1 → (Q 1 m)))))))
set_option maxHeartbeats 4000000 in
set_option maxRecDepth 20000 in
theorem kX9_isChild {l : Launch} {t : zT} {m : zM} {a : Nat} {p1 : Int32} {Q : Int32 → zM → Prop} (H : wX9_isChild t m a p1 Q) : zMet l yX9_isChild cX9_isChild 2 (some .boolean) 0 0 0 t m [.ref a, .int p1] (zPi t Q) := by
  refine zmet (by decide +kernel) (Nat.le_of_ble_eq_true rfl) ?_
  intro p e s mt args below meth c g C hr hm
  unfold wX9_isChild at H
  have hu1 : ((0, 0) : Nat × Nat).1 ≤ 0 := Nat.le_refl 0
  have hu2 : ((0, 0) : Nat × Nat).2 ≤ 0 := Nat.le_refl 0
  refine z_iload_n (pc := 0) C (dX9_isChild 0 rfl) rfl 1 rfl ?_
  refine z_if_lt (pc := 1) (tgt := 19) C (dX9_isChild 1 rfl) (by decide) (fun c1 => ?_) (fun c1 => ?_)
  · replace H := H.1 c1
    refine z_iconst (pc := 19) (v := 0) C (dX9_isChild 9 rfl) (by decide) ?_
    exact z_zret (pc := 20) C hr (by decide) hu1 hu2 (dX9_isChild 10 rfl) ⟨rfl, _, rfl, H⟩
  · replace H := H.2 c1
    refine z_iload_n (pc := 4) C (dX9_isChild 2 rfl) rfl 1 rfl ?_
    refine z_aload_n (pc := 5) C (dX9_isChild 3 rfl) rfl 0 rfl ?_
    obtain ⟨h2, H⟩ := H
    refine z_getR (pc := 6) C zc9 h2 3 (by decide) rfl wf_X9_34 (dX9_isChild 4 rfl) ?_
    obtain ⟨h3, H⟩ := H
    refine z_getI (pc := 9) C zc5 h3 18 (by decide) rfl wf_X9_328 (dX9_isChild 5 rfl) ?_
    refine z_icmp_ge (pc := 12) (tgt := 19) C (dX9_isChild 6 rfl) (by decide) (fun c4 => ?_) (fun c4 => ?_)
    · replace H := H.1 c4
      refine z_iconst (pc := 19) (v := 0) C (dX9_isChild 9 rfl) (by decide) ?_
      exact z_zret (pc := 20) C hr (by decide) hu1 hu2 (dX9_isChild 10 rfl) ⟨rfl, _, rfl, H⟩
    · replace H := H.2 c4
      refine z_iconst (pc := 15) (v := 1) C (dX9_isChild 7 rfl) (by decide) ?_
      refine z_goto (pc := 16) (tgt := 20) C (dX9_isChild 8 rfl) (by decide) ?_
      exact z_zret (pc := 20) C hr (by decide) hu1 hu2 (dX9_isChild 10 rfl) ⟨rfl, _, rfl, H⟩
def wX9_teach (t : zT) (m : zM) (a : Nat) (p1 : Int32) (Q : zM → Prop) : Prop := (tK t a = 9 ∧ (tK t (gR m a 3) = 5 ∧ (tK t (gR m (gR m a 3) 19) = 14 ∧ (vp_in p1 (tL t (gR m (gR m a 3) 19)) ∧ (wX5_sayingsBy t m (gR m a 3) (gI m (gR m (gR m a 3) 19) p1.toNatClampNeg) (fun r5 m6 => (tK t (gR m6 a 3) = 5 ∧ (tK t (gR m a 1) = 0 ∧ (wX0_judge t m6 (gR m a 1) r5 (gI m6 (gR m6 a 3) 12) (gR m6 a 9) (fun m10 => (Q m10)))))))))))
set_option maxHeartbeats 4000000 in
set_option maxRecDepth 20000 in
theorem kX9_teach {l : Launch} {t : zT} {m : zM} {a : Nat} {p1 : Int32} {Q : zM → Prop} (H : wX9_teach t m a p1 Q) : zMet l yX9_teach cX9_teach 2 none 4 0 0 t m [.ref a, .int p1] (zPv t Q) := by
  refine zmet (by decide +kernel) (Nat.le_of_ble_eq_true rfl) ?_
  intro p e s mt args below meth c g C hr hm
  unfold wX9_teach at H
  have hu1 : ((0, 0) : Nat × Nat).1 ≤ 0 := Nat.le_refl 0
  have hu2 : ((0, 0) : Nat × Nat).2 ≤ 0 := Nat.le_refl 0
  refine z_aload_n (pc := 0) C (dX9_teach 0 rfl) rfl 0 rfl ?_
  obtain ⟨h1, H⟩ := H
  refine z_getR (pc := 1) C zc9 h1 1 (by decide) rfl wf_X9_19 (dX9_teach 1 rfl) ?_
  refine z_aload_n (pc := 4) C (dX9_teach 2 rfl) rfl 0 rfl ?_
  refine z_getR (pc := 5) C zc9 h1 3 (by decide) rfl wf_X9_34 (dX9_teach 3 rfl) ?_
  refine z_aload_n (pc := 8) C (dX9_teach 4 rfl) rfl 0 rfl ?_
  refine z_getR (pc := 9) C zc9 h1 3 (by decide) rfl wf_X9_34 (dX9_teach 5 rfl) ?_
  obtain ⟨h2, H⟩ := H
  refine z_getR (pc := 12) C zc5 h2 19 (by decide) rfl wf_X9_345 (dX9_teach 6 rfl) ?_
  refine z_iload_n (pc := 15) C (dX9_teach 7 rfl) rfl 1 rfl ?_
  obtain ⟨h3, H⟩ := H
  obtain ⟨h4, H⟩ := H
  refine z_iaload (pc := 16) C h3 h4 (dX9_teach 8 rfl) ?_
  refine zc_Vi (pc := 17) (rest := [.ref (gR m a 1)]) C YX5_sayingsBy wl_X9_348 (kX5_sayingsBy H) (by decide) h2 rfl (by decide) (dX9_teach 9 rfl) rfl hu1 hu2 (Nat.le_of_ble_eq_true rfl) rfl (fun r5 m6 H => ?_)
  refine z_aload_n (pc := 20) C (dX9_teach 10 rfl) rfl 0 rfl ?_
  refine z_getR (pc := 21) C zc9 h1 3 (by decide) rfl wf_X9_34 (dX9_teach 11 rfl) ?_
  obtain ⟨h7, H⟩ := H
  refine z_getI (pc := 24) C zc5 h7 12 (by decide) rfl wf_X9_131 (dX9_teach 12 rfl) ?_
  refine z_aload_n (pc := 27) C (dX9_teach 13 rfl) rfl 0 rfl ?_
  refine z_getR (pc := 28) C zc9 h1 9 (by decide) rfl wf_X9_68 (dX9_teach 14 rfl) ?_
  obtain ⟨h8, H⟩ := H
  refine zc_Vv (pc := 31) (rest := []) C YX0_judge wl_X9_134 (kX0_judge H) (by decide) h8 rfl (by decide) (dX9_teach 15 rfl) rfl hu1 hu2 (Nat.le_of_ble_eq_true rfl) rfl (fun m10 H => ?_)
  exact z_vret (pc := 34) C hr hu1 hu2 (dX9_teach 16 rfl) ⟨rfl, rfl, H⟩
def wX9_believes_J16 (t : zT) (m : zM) (a_0 : Nat) (Q : Int32 → zM → Prop) : Prop := (tK t a_0 = 9 ∧ (wX9_refuse t m a_0 1 (fun r6 m7 => (Q r6 m7))))
set_option maxHeartbeats 4000000 in
set_option maxRecDepth 20000 in
theorem sX9_believes_J16 {p : Program} {l : Launch} {e : Env} {s : State} {mt : MethodId} {args : Array Value} {below : List Frame} {meth : Method} {c : Code} {g : zG} {u : Nat × Nat} {mc ms : Nat} {t : zT} {m : zM} {a_0 : Nat} {Q : Int32 → zM → Prop} (C : zC p (zRm 5 mc ms) s mt args meth c g cX9_believes 3 yX9_believes.cls 5) (hr : meth.sig.returnType = (some .int)) (hm : meth.name = yX9_believes.name) (hu1 : u.1 ≤ mc) (hu2 : u.2 ≤ ms) (H : wX9_believes_J16 t m a_0 Q) : zW p l e (zRm 5 mc ms) s mt args below meth c g (MQ below (zQc g (zPi t Q)) args s mc ms (zFar g)) u 3 t m 16 [(0, .ref a_0)] [] := by
  unfold wX9_believes_J16 at H
  refine z_aload_n (pc := 16) C (dX9_believes 8 rfl) rfl 0 rfl ?_
  refine z_iconst (pc := 17) (v := 1) C (dX9_believes 9 rfl) (by decide) ?_
  obtain ⟨h5, H⟩ := H
  refine zc_Vi (pc := 18) (rest := []) C YX9_refuse wl_X9_93 (kX9_refuse H) (by decide) h5 rfl (by decide) (dX9_believes 10 rfl) rfl hu1 hu2 (Nat.le_of_ble_eq_true rfl) rfl (fun r6 m7 H => ?_)
  exact z_iret (pc := 21) C hr hu1 hu2 (dX9_believes 11 rfl) ⟨rfl, _, rfl, H⟩
def wX9_believes (t : zT) (m : zM) (a : Nat) (p1 : Int32) (p2 : Int32) (Q : Int32 → zM → Prop) : Prop := (tK t a = 9 ∧ (wX9_isChild t m a p1 (fun r2 m3 => ((r2 = 0 → (wX9_believes_J16 t m3 a Q)) ∧ (¬ r2 = 0 → (wX9_isThing t m3 a p2 (fun r8 m9 => ((r8 = 0 → (wX9_believes_J16 t m9 a Q)) ∧ (¬ r8 = 0 → (wX9_teach t m9 a p1 (fun m12 => (tK t (gR m12 a 2) = 8 ∧ (wX8_commonest t m12 (gR m12 a 2) (gR m12 a 9) p2 (fun r14 m15 => (wX9_accept t m15 a r14 (fun r16 m17 => (Q r16 m17)))))))))))))))))
set_option maxHeartbeats 4000000 in
set_option maxRecDepth 20000 in
theorem kX9_believes {l : Launch} {t : zT} {m : zM} {a : Nat} {p1 : Int32} {p2 : Int32} {Q : Int32 → zM → Prop} (H : wX9_believes t m a p1 p2 Q) : zMet l yX9_believes cX9_believes 3 (some .int) 5 0 0 t m [.ref a, .int p1, .int p2] (zPi t Q) := by
  refine zmet (by decide +kernel) (Nat.le_of_ble_eq_true rfl) ?_
  intro p e s mt args below meth c g C hr hm
  unfold wX9_believes at H
  have hu1 : ((0, 0) : Nat × Nat).1 ≤ 0 := Nat.le_refl 0
  have hu2 : ((0, 0) : Nat × Nat).2 ≤ 0 := Nat.le_refl 0
  refine z_aload_n (pc := 0) C (dX9_believes 0 rfl) rfl 0 rfl ?_
  refine z_iload_n (pc := 1) C (dX9_believes 1 rfl) rfl 1 rfl ?_
  obtain ⟨h1, H⟩ := H
  refine zc_Vi (pc := 2) (rest := []) C YX9_isChild wl_X9_316 (kX9_isChild H) (by decide) h1 rfl (by decide) (dX9_believes 2 rfl) rfl hu1 hu2 (Nat.le_of_ble_eq_true rfl) rfl (fun r2 m3 H => ?_)
  refine z_if_eq (pc := 5) (tgt := 16) C (dX9_believes 3 rfl) (by decide) (fun c4 => ?_) (fun c4 => ?_)
  · replace H := H.1 c4
    refine z_sub [0] rfl ?_
    exact sX9_believes_J16 C hr hm hu1 hu2 H
  · replace H := H.2 c4
    refine z_aload_n (pc := 8) C (dX9_believes 4 rfl) rfl 0 rfl ?_
    refine z_iload_n (pc := 9) C (dX9_believes 5 rfl) rfl 2 rfl ?_
    refine zc_Vi (pc := 10) (rest := []) C YX9_isThing wl_X9_171 (kX9_isThing H) (by decide) h1 rfl (by decide) (dX9_believes 6 rfl) rfl hu1 hu2 (Nat.le_of_ble_eq_true rfl) rfl (fun r8 m9 H => ?_)
    refine z_if_ne (pc := 13) (tgt := 22) C (dX9_believes 7 rfl) (by decide) (fun c10 => ?_) (fun c10 => ?_)
    · replace H := H.2 c10
      refine z_aload_n (pc := 22) C (dX9_believes 12 rfl) rfl 0 rfl ?_
      refine z_iload_n (pc := 23) C (dX9_believes 13 rfl) rfl 1 rfl ?_
      refine zc_Vv (pc := 24) (rest := []) C YX9_teach wl_X9_319 (kX9_teach H) (by decide) h1 rfl (by decide) (dX9_believes 14 rfl) rfl hu1 hu2 (Nat.le_of_ble_eq_true rfl) rfl (fun m12 H => ?_)
      refine z_aload_n (pc := 27) C (dX9_believes 15 rfl) rfl 0 rfl ?_
      refine z_aload_n (pc := 28) C (dX9_believes 16 rfl) rfl 0 rfl ?_
      refine z_getR (pc := 29) C zc9 h1 2 (by decide) rfl wf_X9_27 (dX9_believes 17 rfl) ?_
      refine z_aload_n (pc := 32) C (dX9_believes 18 rfl) rfl 0 rfl ?_
      refine z_getR (pc := 33) C zc9 h1 9 (by decide) rfl wf_X9_68 (dX9_believes 19 rfl) ?_
      refine z_iload_n (pc := 36) C (dX9_believes 20 rfl) rfl 2 rfl ?_
      obtain ⟨h13, H⟩ := H
      refine zc_Vi (pc := 37) (rest := [.ref a]) C YX8_commonest wl_X9_322 (kX8_commonest H) (by decide) h13 rfl (by decide) (dX9_believes 21 rfl) rfl hu1 hu2 (Nat.le_of_ble_eq_true rfl) rfl (fun r14 m15 H => ?_)
      refine zc_Vi (pc := 40) (rest := []) C YX9_accept wl_X9_117 (kX9_accept H) (by decide) h1 rfl (by decide) (dX9_believes 22 rfl) rfl hu1 hu2 (Nat.le_of_ble_eq_true rfl) rfl (fun r16 m17 H => ?_)
      exact z_iret (pc := 43) C hr hu1 hu2 (dX9_believes 23 rfl) ⟨rfl, _, rfl, H⟩
    · replace H := H.1 c10
      refine z_sub [0] rfl ?_
      exact sX9_believes_J16 C hr hm hu1 hu2 H
def wX9_knownBits (t : zT) (m : zM) (a : Nat) (p1 : Int32) (Q : Int32 → zM → Prop) : Prop := (tK t a = 9 ∧ (wX9_teach t m a p1 (fun m3 => (tK t (gR m3 a 2) = 8 ∧ (wX8_sureIn t m3 (gR m3 a 2) (gR m3 a 9) (fun r5 m6 => (Q r5 m6)))))))
set_option maxHeartbeats 4000000 in
set_option maxRecDepth 20000 in
theorem kX9_knownBits {l : Launch} {t : zT} {m : zM} {a : Nat} {p1 : Int32} {Q : Int32 → zM → Prop} (H : wX9_knownBits t m a p1 Q) : zMet l yX9_knownBits cX9_knownBits 2 (some .int) 5 0 0 t m [.ref a, .int p1] (zPi t Q) := by
  refine zmet (by decide +kernel) (Nat.le_of_ble_eq_true rfl) ?_
  intro p e s mt args below meth c g C hr hm
  unfold wX9_knownBits at H
  have hu1 : ((0, 0) : Nat × Nat).1 ≤ 0 := Nat.le_refl 0
  have hu2 : ((0, 0) : Nat × Nat).2 ≤ 0 := Nat.le_refl 0
  refine z_aload_n (pc := 0) C (dX9_knownBits 0 rfl) rfl 0 rfl ?_
  refine z_iload_n (pc := 1) C (dX9_knownBits 1 rfl) rfl 1 rfl ?_
  obtain ⟨h1, H⟩ := H
  refine zc_Vv (pc := 2) (rest := []) C YX9_teach wl_X9_319 (kX9_teach H) (by decide) h1 rfl (by decide) (dX9_knownBits 2 rfl) rfl hu1 hu2 (Nat.le_of_ble_eq_true rfl) rfl (fun m3 H => ?_)
  refine z_aload_n (pc := 5) C (dX9_knownBits 3 rfl) rfl 0 rfl ?_
  refine z_getR (pc := 6) C zc9 h1 2 (by decide) rfl wf_X9_27 (dX9_knownBits 4 rfl) ?_
  refine z_aload_n (pc := 9) C (dX9_knownBits 5 rfl) rfl 0 rfl ?_
  refine z_getR (pc := 10) C zc9 h1 9 (by decide) rfl wf_X9_68 (dX9_knownBits 6 rfl) ?_
  obtain ⟨h4, H⟩ := H
  refine zc_Vi (pc := 13) (rest := []) C YX8_sureIn wl_X9_197 (kX8_sureIn H) (by decide) h4 rfl (by decide) (dX9_knownBits 7 rfl) rfl hu1 hu2 (Nat.le_of_ble_eq_true rfl) rfl (fun r5 m6 H => ?_)
  exact z_iret (pc := 16) C hr hu1 hu2 (dX9_knownBits 8 rfl) ⟨rfl, _, rfl, H⟩
def wX9_knows (t : zT) (m : zM) (a : Nat) (p1 : Int32) (Q : Int32 → zM → Prop) : Prop := (tK t a = 9 ∧ (wX9_isChild t m a p1 (fun r2 m3 => ((r2 = 0 → (wX9_refuse t m3 a 1 (fun r5 m6 => (Q r5 m6)))) ∧ (¬ r2 = 0 → (wX9_knownBits t m3 a p1 (fun r7 m8 => (wX9_accept t m8 a r7 (fun r9 m10 => (Q r9 m10))))))))))
set_option maxHeartbeats 4000000 in
set_option maxRecDepth 20000 in
theorem kX9_knows {l : Launch} {t : zT} {m : zM} {a : Nat} {p1 : Int32} {Q : Int32 → zM → Prop} (H : wX9_knows t m a p1 Q) : zMet l yX9_knows cX9_knows 2 (some .int) 6 0 0 t m [.ref a, .int p1] (zPi t Q) := by
  refine zmet (by decide +kernel) (Nat.le_of_ble_eq_true rfl) ?_
  intro p e s mt args below meth c g C hr hm
  unfold wX9_knows at H
  have hu1 : ((0, 0) : Nat × Nat).1 ≤ 0 := Nat.le_refl 0
  have hu2 : ((0, 0) : Nat × Nat).2 ≤ 0 := Nat.le_refl 0
  refine z_aload_n (pc := 0) C (dX9_knows 0 rfl) rfl 0 rfl ?_
  refine z_iload_n (pc := 1) C (dX9_knows 1 rfl) rfl 1 rfl ?_
  obtain ⟨h1, H⟩ := H
  refine zc_Vi (pc := 2) (rest := []) C YX9_isChild wl_X9_316 (kX9_isChild H) (by decide) h1 rfl (by decide) (dX9_knows 2 rfl) rfl hu1 hu2 (Nat.le_of_ble_eq_true rfl) rfl (fun r2 m3 H => ?_)
  refine z_if_eq (pc := 5) (tgt := 20) C (dX9_knows 3 rfl) (by decide) (fun c4 => ?_) (fun c4 => ?_)
  · replace H := H.1 c4
    refine z_aload_n (pc := 20) C (dX9_knows 10 rfl) rfl 0 rfl ?_
    refine z_iconst (pc := 21) (v := 1) C (dX9_knows 11 rfl) (by decide) ?_
    refine zc_Vi (pc := 22) (rest := []) C YX9_refuse wl_X9_93 (kX9_refuse H) (by decide) h1 rfl (by decide) (dX9_knows 12 rfl) rfl hu1 hu2 (Nat.le_of_ble_eq_true rfl) rfl (fun r5 m6 H => ?_)
    exact z_iret (pc := 25) C hr hu1 hu2 (dX9_knows 13 rfl) ⟨rfl, _, rfl, H⟩
  · replace H := H.2 c4
    refine z_aload_n (pc := 8) C (dX9_knows 4 rfl) rfl 0 rfl ?_
    refine z_aload_n (pc := 9) C (dX9_knows 5 rfl) rfl 0 rfl ?_
    refine z_iload_n (pc := 10) C (dX9_knows 6 rfl) rfl 1 rfl ?_
    refine zc_Vi (pc := 11) (rest := [.ref a]) C YX9_knownBits wl_X9_325 (kX9_knownBits H) (by decide) h1 rfl (by decide) (dX9_knows 7 rfl) rfl hu1 hu2 (Nat.le_of_ble_eq_true rfl) rfl (fun r7 m8 H => ?_)
    refine zc_Vi (pc := 14) (rest := []) C YX9_accept wl_X9_117 (kX9_accept H) (by decide) h1 rfl (by decide) (dX9_knows 8 rfl) rfl hu1 hu2 (Nat.le_of_ble_eq_true rfl) rfl (fun r9 m10 H => ?_)
    refine z_goto (pc := 17) (tgt := 25) C (dX9_knows 9 rfl) (by decide) ?_
    exact z_iret (pc := 25) C hr hu1 hu2 (dX9_knows 13 rfl) ⟨rfl, _, rfl, H⟩
def wX9_share_J30 (t : zT) (m : zM) (a_0 : Nat) (Q : Int32 → zM → Prop) : Prop := (tK t a_0 = 9 ∧ (wX9_refuse t m a_0 2 (fun r7 m8 => (Q r7 m8))))
set_option maxHeartbeats 4000000 in
set_option maxRecDepth 20000 in
theorem sX9_share_J30 {p : Program} {l : Launch} {e : Env} {s : State} {mt : MethodId} {args : Array Value} {below : List Frame} {meth : Method} {c : Code} {g : zG} {u : Nat × Nat} {mc ms : Nat} {t : zT} {m : zM} {a_0 : Nat} {Q : Int32 → zM → Prop} (C : zC p (zRm 6 mc ms) s mt args meth c g cX9_share 4 yX9_share.cls 6) (hr : meth.sig.returnType = (some .int)) (hm : meth.name = yX9_share.name) (hu1 : u.1 ≤ mc) (hu2 : u.2 ≤ ms) (H : wX9_share_J30 t m a_0 Q) : zW p l e (zRm 6 mc ms) s mt args below meth c g (MQ below (zQc g (zPi t Q)) args s mc ms (zFar g)) u 4 t m 30 [(0, .ref a_0)] [] := by
  unfold wX9_share_J30 at H
  refine z_aload_n (pc := 30) C (dX9_share 16 rfl) rfl 0 rfl ?_
  refine z_iconst (pc := 31) (v := 2) C (dX9_share 17 rfl) (by decide) ?_
  obtain ⟨h6, H⟩ := H
  refine zc_Vi (pc := 32) (rest := []) C YX9_refuse wl_X9_93 (kX9_refuse H) (by decide) h6 rfl (by decide) (dX9_share 18 rfl) rfl hu1 hu2 (Nat.le_of_ble_eq_true rfl) rfl (fun r7 m8 H => ?_)
  exact z_iret (pc := 35) C hr hu1 hu2 (dX9_share 19 rfl) ⟨rfl, _, rfl, H⟩
def wX9_share_J67 (t : zT) (m : zM) (a_0 : Nat) (x_1 : Int32) (x_2 : Int32) (x_3 : Int32) (Q : Int32 → zM → Prop) (r40 : Int32 → Int32 → zM → Prop) : Prop := (r40 x_2 (x_3 + 1) m)
set_option maxHeartbeats 4000000 in
set_option maxRecDepth 20000 in
theorem sX9_share_J67 {p : Program} {l : Launch} {e : Env} {s : State} {mt : MethodId} {args : Array Value} {below : List Frame} {meth : Method} {c : Code} {g : zG} {u : Nat × Nat} {mc ms : Nat} {t : zT} {m : zM} {a_0 : Nat} {x_1 : Int32} {x_2 : Int32} {x_3 : Int32} {Q : Int32 → zM → Prop} {r40 : Int32 → Int32 → zM → Prop} (C : zC p (zRm 6 mc ms) s mt args meth c g cX9_share 4 yX9_share.cls 6) (hr : meth.sig.returnType = (some .int)) (hm : meth.name = yX9_share.name) (hu1 : u.1 ≤ mc) (hu2 : u.2 ≤ ms)
    (R40 : ∀ (v0 : Int32) (v1 : Int32) (m : zM), r40 v0 v1 m → zW p l e (zRm 6 mc ms) s mt args below meth c g (MQ below (zQc g (zPi t Q)) args s mc ms (zFar g)) u 4 t m 40 [(0, .ref a_0), (1, .int x_1), (2, .int v0), (3, .int v1)] []) (H : wX9_share_J67 t m a_0 x_1 x_2 x_3 Q r40) : zW p l e (zRm 6 mc ms) s mt args below meth c g (MQ below (zQc g (zPi t Q)) args s mc ms (zFar g)) u 4 t m 67 [(0, .ref a_0), (1, .int x_1), (2, .int x_2), (3, .int x_3)] [] := by
  unfold wX9_share_J67 at H
  refine z_iinc (pc := 67) (i := 3) (v := x_3 + 1) (lv2 := [(3, .int (x_3 + 1)), (0, .ref a_0), (1, .int x_1), (2, .int x_2)]) C (dX9_share 41 rfl) 3 rfl (by rfl) (by decide) rfl ?_
  refine z_goto (pc := 70) (tgt := 40) C (dX9_share 42 rfl) (by decide) ?_
  refine z_sub [1, 2, 3, 0] rfl ?_
  exact R40 x_2 (x_3 + 1) m H
def wX9_share_L40 (t : zT) (a_0 : Nat) (x_1 : Int32) (Q : Int32 → zM → Prop) (k73 : Int32 → zM → Prop) : Nat → Int32 → Int32 → zM → Prop
  | 0, _, _, _ => False
  | n + 1, x_2, x_3, m => (tK t a_0 = 9 ∧ (tK t (gR m a_0 3) = 5 ∧ (((gI m (gR m a_0 3) 18) ≤ x_3 → (k73 x_2 m)) ∧ (¬ (gI m (gR m a_0 3) 18) ≤ x_3 → ((((x_1 >>> (x_3 &&& 31)) &&& (1 : Int32)) = 0 → (wX9_share_J67 t m a_0 x_1 x_2 x_3 Q (wX9_share_L40 t a_0 x_1 Q k73 n))) ∧ (¬ ((x_1 >>> (x_3 &&& 31)) &&& (1 : Int32)) = 0 → (wX9_knownBits t m a_0 x_3 (fun r15 m16 => (∀ x17 : Int32, x17 = (x_2 ||| r15) → ((wX9_share_J67 t m16 a_0 x_1 x17 x_3 Q (wX9_share_L40 t a_0 x_1 Q k73 n))))))))))))
set_option maxHeartbeats 4000000 in
set_option maxRecDepth 20000 in
theorem sX9_share_L40 {p : Program} {l : Launch} {e : Env} {s : State} {mt : MethodId} {args : Array Value} {below : List Frame} {meth : Method} {c : Code} {g : zG} {u : Nat × Nat} {mc ms : Nat} {t : zT} {a_0 : Nat} {x_1 : Int32} {Q : Int32 → zM → Prop} {k73 : Int32 → zM → Prop} (C : zC p (zRm 6 mc ms) s mt args meth c g cX9_share 4 yX9_share.cls 6) (hr : meth.sig.returnType = (some .int)) (hm : meth.name = yX9_share.name) (hu1 : u.1 ≤ mc) (hu2 : u.2 ≤ ms)
    (K73 : ∀ (v0 : Int32) (m : zM), k73 v0 m → zW p l e (zRm 6 mc ms) s mt args below meth c g (MQ below (zQc g (zPi t Q)) args s mc ms (zFar g)) u 4 t m 73 [(0, .ref a_0), (2, .int v0)] []) : ∀ (n : Nat) (x_2 : Int32) (x_3 : Int32) (m : zM), wX9_share_L40 t a_0 x_1 Q k73 n x_2 x_3 m → zW p l e (zRm 6 mc ms) s mt args below meth c g (MQ below (zQc g (zPi t Q)) args s mc ms (zFar g)) u 4 t m 40 [(0, .ref a_0), (1, .int x_1), (2, .int x_2), (3, .int x_3)] [] := by
  intro n
  induction n with
  | zero => intro x_2 x_3 m H; exact H.elim
  | succ n ih =>
    intro x_2 x_3 m H
    simp only [wX9_share_L40] at H
    refine z_iload_n (pc := 40) C (dX9_share 24 rfl) rfl 3 rfl ?_
    refine z_aload_n (pc := 41) C (dX9_share 25 rfl) rfl 0 rfl ?_
    obtain ⟨h11, H⟩ := H
    refine z_getR (pc := 42) C zc9 h11 3 (by decide) rfl wf_X9_34 (dX9_share 26 rfl) ?_
    obtain ⟨h12, H⟩ := H
    refine z_getI (pc := 45) C zc5 h12 18 (by decide) rfl wf_X9_328 (dX9_share 27 rfl) ?_
    refine z_icmp_ge (pc := 48) (tgt := 73) C (dX9_share 28 rfl) (by decide) (fun c13 => ?_) (fun c13 => ?_)
    · replace H := H.1 c13
      refine z_sub [0, 2] rfl ?_
      exact K73 x_2 m H
    · replace H := H.2 c13
      refine z_iload_n (pc := 51) C (dX9_share 29 rfl) rfl 1 rfl ?_
      refine z_iload_n (pc := 52) C (dX9_share 30 rfl) rfl 3 rfl ?_
      refine z_ishr (pc := 53) C (dX9_share 31 rfl) ?_
      refine z_iconst (pc := 54) (v := 1) C (dX9_share 32 rfl) (by decide) ?_
      refine z_iand (pc := 55) C (dX9_share 33 rfl) ?_
      refine z_if_eq (pc := 56) (tgt := 67) C (dX9_share 34 rfl) (by decide) (fun c14 => ?_) (fun c14 => ?_)
      · replace H := H.1 c14
        refine z_sub [0, 1, 2, 3] rfl ?_
        exact sX9_share_J67 C hr hm hu1 hu2 ih H
      · replace H := H.2 c14
        refine z_iload_n (pc := 59) C (dX9_share 35 rfl) rfl 2 rfl ?_
        refine z_aload_n (pc := 60) C (dX9_share 36 rfl) rfl 0 rfl ?_
        refine z_iload_n (pc := 61) C (dX9_share 37 rfl) rfl 3 rfl ?_
        refine zc_Vi (pc := 62) (rest := [.int x_2]) C YX9_knownBits wl_X9_325 (kX9_knownBits H) (by decide) h11 rfl (by decide) (dX9_share 38 rfl) rfl hu1 hu2 (Nat.le_of_ble_eq_true rfl) rfl (fun r15 m16 H => ?_)
        refine z_ior (pc := 65) C (dX9_share 39 rfl) ?_
        refine z_int (fun x17 hx17 => ?_)
        replace H := H x17 hx17
        refine z_istore_n (pc := 66) (i := 2) (lv2 := [(2, .int x17), (0, .ref a_0), (1, .int x_1), (3, .int x_3)]) C (dX9_share 40 rfl) rfl (by decide) rfl ?_
        refine z_sub [1, 2, 0, 3] rfl ?_
        exact sX9_share_J67 C hr hm hu1 hu2 ih H
def wX9_share (t : zT) (m : zM) (a : Nat) (p1 : Int32) (Q : Int32 → zM → Prop) : Prop := (tK t a = 9 ∧ (wX9_isOpen t m a (fun r2 m3 => ((r2 = 0 → (wX9_refuse t m3 a 1 (fun r23 m24 => (Q r23 m24)))) ∧ (¬ r2 = 0 → ((p1 < 0 → (wX9_share_J30 t m3 a Q)) ∧ (¬ p1 < 0 → (tK t (gR m3 a 3) = 5 ∧ ((p1 < ((1 : Int32) <<< ((gI m3 (gR m3 a 3) 18) &&& 31)) → (∃ n22, wX9_share_L40 t a p1 Q (fun v18 m19 => (wX9_accept t m19 a v18 (fun r20 m21 => (Q r20 m21)))) n22 0 0 m3)) ∧ (¬ p1 < ((1 : Int32) <<< ((gI m3 (gR m3 a 3) 18) &&& 31)) → (wX9_share_J30 t m3 a Q)))))))))))
set_option maxHeartbeats 4000000 in
set_option maxRecDepth 20000 in
theorem kX9_share {l : Launch} {t : zT} {m : zM} {a : Nat} {p1 : Int32} {Q : Int32 → zM → Prop} (H : wX9_share t m a p1 Q) : zMet l yX9_share cX9_share 4 (some .int) 6 0 0 t m [.ref a, .int p1] (zPi t Q) := by
  refine zmet (by decide +kernel) (Nat.le_of_ble_eq_true rfl) ?_
  intro p e s mt args below meth c g C hr hm
  unfold wX9_share at H
  have hu1 : ((0, 0) : Nat × Nat).1 ≤ 0 := Nat.le_refl 0
  have hu2 : ((0, 0) : Nat × Nat).2 ≤ 0 := Nat.le_refl 0
  refine z_aload_n (pc := 0) C (dX9_share 0 rfl) rfl 0 rfl ?_
  obtain ⟨h1, H⟩ := H
  refine zc_Vi (pc := 1) (rest := []) C YX9_isOpen wl_X9_151 (kX9_isOpen H) (by decide) h1 rfl (by decide) (dX9_share 1 rfl) rfl hu1 hu2 (Nat.le_of_ble_eq_true rfl) rfl (fun r2 m3 H => ?_)
  refine z_if_ne (pc := 4) (tgt := 13) C (dX9_share 2 rfl) (by decide) (fun c4 => ?_) (fun c4 => ?_)
  · replace H := H.2 c4
    refine z_iload_n (pc := 13) C (dX9_share 7 rfl) rfl 1 rfl ?_
    refine z_if_lt (pc := 14) (tgt := 30) C (dX9_share 8 rfl) (by decide) (fun c5 => ?_) (fun c5 => ?_)
    · replace H := H.1 c5
      refine z_sub [0] rfl ?_
      exact sX9_share_J30 C hr hm hu1 hu2 H
    · replace H := H.2 c5
      refine z_iload_n (pc := 17) C (dX9_share 9 rfl) rfl 1 rfl ?_
      refine z_iconst (pc := 18) (v := 1) C (dX9_share 10 rfl) (by decide) ?_
      refine z_aload_n (pc := 19) C (dX9_share 11 rfl) rfl 0 rfl ?_
      refine z_getR (pc := 20) C zc9 h1 3 (by decide) rfl wf_X9_34 (dX9_share 12 rfl) ?_
      obtain ⟨h9, H⟩ := H
      refine z_getI (pc := 23) C zc5 h9 18 (by decide) rfl wf_X9_328 (dX9_share 13 rfl) ?_
      refine z_ishl (pc := 26) C (dX9_share 14 rfl) ?_
      refine z_icmp_lt (pc := 27) (tgt := 36) C (dX9_share 15 rfl) (by decide) (fun c10 => ?_) (fun c10 => ?_)
      · replace H := H.1 c10
        refine z_iconst (pc := 36) (v := 0) C (dX9_share 20 rfl) (by decide) ?_
        refine z_istore_n (pc := 37) (i := 2) (lv2 := [(2, .int 0), (0, .ref a), (1, .int p1)]) C (dX9_share 21 rfl) rfl (by decide) rfl ?_
        refine z_iconst (pc := 38) (v := 0) C (dX9_share 22 rfl) (by decide) ?_
        refine z_istore_n (pc := 39) (i := 3) (lv2 := [(3, .int 0), (2, .int 0), (0, .ref a), (1, .int p1)]) C (dX9_share 23 rfl) rfl (by decide) rfl ?_
        obtain ⟨n22, H⟩ := H
        refine z_sub [2, 3, 1, 0] rfl ?_
        refine sX9_share_L40 C hr hm hu1 hu2 (fun v18 m19 H => ?_) n22 0 0 m3 H
        refine z_aload_n (pc := 73) C (dX9_share 43 rfl) rfl 0 rfl ?_
        refine z_iload_n (pc := 74) C (dX9_share 44 rfl) rfl 1 rfl ?_
        refine zc_Vi (pc := 75) (rest := []) C YX9_accept wl_X9_117 (kX9_accept H) (by decide) h1 rfl (by decide) (dX9_share 45 rfl) rfl hu1 hu2 (Nat.le_of_ble_eq_true rfl) rfl (fun r20 m21 H => ?_)
        exact z_iret (pc := 78) C hr hu1 hu2 (dX9_share 46 rfl) ⟨rfl, _, rfl, H⟩
      · replace H := H.2 c10
        refine z_sub [0] rfl ?_
        exact sX9_share_J30 C hr hm hu1 hu2 H
  · replace H := H.1 c4
    refine z_aload_n (pc := 7) C (dX9_share 3 rfl) rfl 0 rfl ?_
    refine z_iconst (pc := 8) (v := 1) C (dX9_share 4 rfl) (by decide) ?_
    refine zc_Vi (pc := 9) (rest := []) C YX9_refuse wl_X9_93 (kX9_refuse H) (by decide) h1 rfl (by decide) (dX9_share 5 rfl) rfl hu1 hu2 (Nat.le_of_ble_eq_true rfl) rfl (fun r23 m24 H => ?_)
    exact z_iret (pc := 12) C hr hu1 hu2 (dX9_share 6 rfl) ⟨rfl, _, rfl, H⟩
def wX9_passedWorlds_J71 (t : zT) (m : zM) (a_0 : Nat) (x_1 : Int32) (x_2 : Int32) (x_3 : Int32) (x_4 : Int32) (Q : Int32 → zM → Prop) (r25 : Int32 → zM → Prop) : Prop := (r25 (x_4 + 1) m)
set_option maxHeartbeats 4000000 in
set_option maxRecDepth 20000 in
theorem sX9_passedWorlds_J71 {p : Program} {l : Launch} {e : Env} {s : State} {mt : MethodId} {args : Array Value} {below : List Frame} {meth : Method} {c : Code} {g : zG} {u : Nat × Nat} {mc ms : Nat} {t : zT} {m : zM} {a_0 : Nat} {x_1 : Int32} {x_2 : Int32} {x_3 : Int32} {x_4 : Int32} {Q : Int32 → zM → Prop} {r25 : Int32 → zM → Prop} (C : zC p (zRm 2 mc ms) s mt args meth c g cX9_passedWorlds 5 yX9_passedWorlds.cls 2) (hr : meth.sig.returnType = (some .int)) (hm : meth.name = yX9_passedWorlds.name) (hu1 : u.1 ≤ mc) (hu2 : u.2 ≤ ms)
    (R25 : ∀ (v0 : Int32) (m : zM), r25 v0 m → zW p l e (zRm 2 mc ms) s mt args below meth c g (MQ below (zQc g (zPi t Q)) args s mc ms (zFar g)) u 5 t m 25 [(0, .ref a_0), (1, .int x_1), (2, .int x_2), (3, .int x_3), (4, .int v0)] []) (H : wX9_passedWorlds_J71 t m a_0 x_1 x_2 x_3 x_4 Q r25) : zW p l e (zRm 2 mc ms) s mt args below meth c g (MQ below (zQc g (zPi t Q)) args s mc ms (zFar g)) u 5 t m 71 [(0, .ref a_0), (1, .int x_1), (2, .int x_2), (3, .int x_3), (4, .int x_4)] [] := by
  unfold wX9_passedWorlds_J71 at H
  refine z_iinc (pc := 71) (i := 4) (v := x_4 + 1) (lv2 := [(4, .int (x_4 + 1)), (0, .ref a_0), (1, .int x_1), (2, .int x_2), (3, .int x_3)]) C (dX9_passedWorlds 36 rfl) 4 rfl (by rfl) (by decide) rfl ?_
  refine z_goto (pc := 74) (tgt := 25) C (dX9_passedWorlds 37 rfl) (by decide) ?_
  refine z_sub [1, 2, 3, 4, 0] rfl ?_
  exact R25 (x_4 + 1) m H
def wX9_passedWorlds_L25 (t : zT) (a_0 : Nat) (x_1 : Int32) (x_2 : Int32) (x_3 : Int32) (Q : Int32 → zM → Prop) (k77 : zM → Prop) : Nat → Int32 → zM → Prop
  | 0, _, _ => False
  | n + 1, x_4, m => (tK t a_0 = 9 ∧ (tK t (gR m a_0 3) = 5 ∧ (((gI m (gR m a_0 3) 0) ≤ x_4 → (k77 m)) ∧ (¬ (gI m (gR m a_0 3) 0) ≤ x_4 → (tK t (gR m a_0 11) = 14 ∧ (vp_in x_4 (tL t (gR m a_0 11)) ∧ (((gI m (gR m a_0 11) x_4.toNatClampNeg) < 0 → (wX9_passedWorlds_J71 t m a_0 x_1 x_2 x_3 x_4 Q (wX9_passedWorlds_L25 t a_0 x_1 x_2 x_3 Q k77 n))) ∧ (¬ (gI m (gR m a_0 11) x_4.toNatClampNeg) < 0 → (tK t (gR m a_0 2) = 8 ∧ (wX8_truthWord t m (gR m a_0 2) x_4 (gI m (gR m a_0 11) x_4.toNatClampNeg) x_3 (fun r14 m15 => (tK t (gR m a_0 10) = 6 ∧ (wX6_add t m15 (gR m a_0 10) r14 (fun m18 => (wX9_passedWorlds_J71 t m18 a_0 x_1 x_2 x_3 x_4 Q (wX9_passedWorlds_L25 t a_0 x_1 x_2 x_3 Q k77 n))))))))))))))))
set_option maxHeartbeats 4000000 in
set_option maxRecDepth 20000 in
theorem sX9_passedWorlds_L25 {p : Program} {l : Launch} {e : Env} {s : State} {mt : MethodId} {args : Array Value} {below : List Frame} {meth : Method} {c : Code} {g : zG} {u : Nat × Nat} {mc ms : Nat} {t : zT} {a_0 : Nat} {x_1 : Int32} {x_2 : Int32} {x_3 : Int32} {Q : Int32 → zM → Prop} {k77 : zM → Prop} (C : zC p (zRm 2 mc ms) s mt args meth c g cX9_passedWorlds 5 yX9_passedWorlds.cls 2) (hr : meth.sig.returnType = (some .int)) (hm : meth.name = yX9_passedWorlds.name) (hu1 : u.1 ≤ mc) (hu2 : u.2 ≤ ms)
    (K77 : ∀ (m : zM), k77 m → zW p l e (zRm 2 mc ms) s mt args below meth c g (MQ below (zQc g (zPi t Q)) args s mc ms (zFar g)) u 5 t m 77 [(0, .ref a_0), (1, .int x_1), (2, .int x_2), (3, .int x_3)] []) : ∀ (n : Nat) (x_4 : Int32) (m : zM), wX9_passedWorlds_L25 t a_0 x_1 x_2 x_3 Q k77 n x_4 m → zW p l e (zRm 2 mc ms) s mt args below meth c g (MQ below (zQc g (zPi t Q)) args s mc ms (zFar g)) u 5 t m 25 [(0, .ref a_0), (1, .int x_1), (2, .int x_2), (3, .int x_3), (4, .int x_4)] [] := by
  intro n
  induction n with
  | zero => intro x_4 m H; exact H.elim
  | succ n ih =>
    intro x_4 m H
    simp only [wX9_passedWorlds_L25] at H
    refine z_iload (pc := 25) C (dX9_passedWorlds 14 rfl) 4 rfl ?_
    refine z_aload_n (pc := 27) C (dX9_passedWorlds 15 rfl) rfl 0 rfl ?_
    obtain ⟨h7, H⟩ := H
    refine z_getR (pc := 28) C zc9 h7 3 (by decide) rfl wf_X9_34 (dX9_passedWorlds 16 rfl) ?_
    obtain ⟨h8, H⟩ := H
    refine z_getI (pc := 31) C zc5 h8 0 (by decide) rfl wf_X9_112 (dX9_passedWorlds 17 rfl) ?_
    refine z_icmp_ge (pc := 34) (tgt := 77) C (dX9_passedWorlds 18 rfl) (by decide) (fun c9 => ?_) (fun c9 => ?_)
    · replace H := H.1 c9
      refine z_sub [0, 1, 2, 3] rfl ?_
      exact K77 m H
    · replace H := H.2 c9
      refine z_aload_n (pc := 37) C (dX9_passedWorlds 19 rfl) rfl 0 rfl ?_
      refine z_getR (pc := 38) C zc9 h7 11 (by decide) rfl wf_X9_78 (dX9_passedWorlds 20 rfl) ?_
      refine z_iload (pc := 41) C (dX9_passedWorlds 21 rfl) 4 rfl ?_
      obtain ⟨h10, H⟩ := H
      obtain ⟨h11, H⟩ := H
      refine z_iaload (pc := 43) C h10 h11 (dX9_passedWorlds 22 rfl) ?_
      refine z_if_lt (pc := 44) (tgt := 71) C (dX9_passedWorlds 23 rfl) (by decide) (fun c12 => ?_) (fun c12 => ?_)
      · replace H := H.1 c12
        refine z_sub [0, 1, 2, 3, 4] rfl ?_
        exact sX9_passedWorlds_J71 C hr hm hu1 hu2 ih H
      · replace H := H.2 c12
        refine z_aload_n (pc := 47) C (dX9_passedWorlds 24 rfl) rfl 0 rfl ?_
        refine z_getR (pc := 48) C zc9 h7 10 (by decide) rfl wf_X9_74 (dX9_passedWorlds 25 rfl) ?_
        refine z_aload_n (pc := 51) C (dX9_passedWorlds 26 rfl) rfl 0 rfl ?_
        refine z_getR (pc := 52) C zc9 h7 2 (by decide) rfl wf_X9_27 (dX9_passedWorlds 27 rfl) ?_
        refine z_iload (pc := 55) C (dX9_passedWorlds 28 rfl) 4 rfl ?_
        refine z_aload_n (pc := 57) C (dX9_passedWorlds 29 rfl) rfl 0 rfl ?_
        refine z_getR (pc := 58) C zc9 h7 11 (by decide) rfl wf_X9_78 (dX9_passedWorlds 30 rfl) ?_
        refine z_iload (pc := 61) C (dX9_passedWorlds 31 rfl) 4 rfl ?_
        refine z_iaload (pc := 63) C h10 h11 (dX9_passedWorlds 32 rfl) ?_
        refine z_iload_n (pc := 64) C (dX9_passedWorlds 33 rfl) rfl 3 rfl ?_
        obtain ⟨h13, H⟩ := H
        refine zc_Vl (pc := 65) (rest := [.ref (gR m a_0 10)]) C YX8_truthWord wl_X9_334 (kX8_truthWord H) (by decide) h13 rfl (by decide) (dX9_passedWorlds 34 rfl) rfl hu1 hu2 (Nat.le_of_ble_eq_true rfl) rfl (fun r14 m15 H => ?_)
        obtain ⟨h16, H⟩ := H
        refine zc_Vv (pc := 68) (rest := []) C YX6_add wl_X9_249 (kX6_add H) (by decide) h16 rfl (by decide) (dX9_passedWorlds 35 rfl) rfl hu1 hu2 (Nat.le_of_ble_eq_true rfl) rfl (fun m18 H => ?_)
        refine z_sub [0, 1, 2, 3, 4] rfl ?_
        exact sX9_passedWorlds_J71 C hr hm hu1 hu2 ih H
def wX9_passedWorlds_L4 (t : zT) (a_0 : Nat) (x_1 : Int32) (Q : Int32 → zM → Prop) (k113 : Int32 → zM → Prop) : Nat → Int32 → Int32 → zM → Prop
  | 0, _, _, _ => False
  | n + 1, x_2, x_3, m => (tK t a_0 = 9 ∧ (tK t (gR m a_0 8) = 4 ∧ (((gI m (gR m a_0 8) 1) ≤ x_3 → (k113 x_2 m)) ∧ (¬ (gI m (gR m a_0 8) 1) ≤ x_3 → (tK t (gR m a_0 10) = 6 ∧ (wX6_clear t m (gR m a_0 10) (fun m6 => (∃ n28, wX9_passedWorlds_L25 t a_0 x_1 x_2 x_3 Q (fun m19 => (tK t (gR m19 a_0 8) = 4 ∧ (tK t (gR m19 (gR m19 a_0 8) 0) = 15 ∧ (vp_in x_3 (tL t (gR m19 (gR m19 a_0 8) 0)) ∧ (tK t (gR m19 a_0 10) = 6 ∧ (wX6_atMost t m19 (gR m19 a_0 10) (x_1 - (1 : Int32)) (fun r24 m25 => (wJ13_bitCount_95d88 t m25 ((gJ m19 (gR m19 (gR m19 a_0 8) 0) x_3.toNatClampNeg) &&& (r24 ^^^ (-1))) (fun r26 m27 => (wX9_passedWorlds_L4 t a_0 x_1 Q k113 n (x_2 + r26) (x_3 + 1) m27)))))))))) n28 0 m6))))))))
set_option maxHeartbeats 4000000 in
set_option maxRecDepth 20000 in
theorem sX9_passedWorlds_L4 {p : Program} {l : Launch} {e : Env} {s : State} {mt : MethodId} {args : Array Value} {below : List Frame} {meth : Method} {c : Code} {g : zG} {u : Nat × Nat} {mc ms : Nat} {t : zT} {a_0 : Nat} {x_1 : Int32} {Q : Int32 → zM → Prop} {k113 : Int32 → zM → Prop} (C : zC p (zRm 2 mc ms) s mt args meth c g cX9_passedWorlds 5 yX9_passedWorlds.cls 2) (hr : meth.sig.returnType = (some .int)) (hm : meth.name = yX9_passedWorlds.name) (hu1 : u.1 ≤ mc) (hu2 : u.2 ≤ ms)
    (K113 : ∀ (v0 : Int32) (m : zM), k113 v0 m → zW p l e (zRm 2 mc ms) s mt args below meth c g (MQ below (zQc g (zPi t Q)) args s mc ms (zFar g)) u 5 t m 113 [(2, .int v0)] []) : ∀ (n : Nat) (x_2 : Int32) (x_3 : Int32) (m : zM), wX9_passedWorlds_L4 t a_0 x_1 Q k113 n x_2 x_3 m → zW p l e (zRm 2 mc ms) s mt args below meth c g (MQ below (zQc g (zPi t Q)) args s mc ms (zFar g)) u 5 t m 4 [(0, .ref a_0), (1, .int x_1), (2, .int x_2), (3, .int x_3)] [] := by
  intro n
  induction n with
  | zero => intro x_2 x_3 m H; exact H.elim
  | succ n ih =>
    intro x_2 x_3 m H
    simp only [wX9_passedWorlds_L4] at H
    refine z_iload_n (pc := 4) C (dX9_passedWorlds 4 rfl) rfl 3 rfl ?_
    refine z_aload_n (pc := 5) C (dX9_passedWorlds 5 rfl) rfl 0 rfl ?_
    obtain ⟨h1, H⟩ := H
    refine z_getR (pc := 6) C zc9 h1 8 (by decide) rfl wf_X9_65 (dX9_passedWorlds 6 rfl) ?_
    obtain ⟨h2, H⟩ := H
    refine z_getI (pc := 9) C zc4 h2 1 (by decide) rfl wf_X9_213 (dX9_passedWorlds 7 rfl) ?_
    refine z_icmp_ge (pc := 12) (tgt := 113) C (dX9_passedWorlds 8 rfl) (by decide) (fun c3 => ?_) (fun c3 => ?_)
    · replace H := H.1 c3
      refine z_sub [2] rfl ?_
      exact K113 x_2 m H
    · replace H := H.2 c3
      refine z_aload_n (pc := 15) C (dX9_passedWorlds 9 rfl) rfl 0 rfl ?_
      refine z_getR (pc := 16) C zc9 h1 10 (by decide) rfl wf_X9_74 (dX9_passedWorlds 10 rfl) ?_
      obtain ⟨h4, H⟩ := H
      refine zc_Vv (pc := 19) (rest := []) C YX6_clear wl_X9_240 (kX6_clear H) (by decide) h4 rfl (by decide) (dX9_passedWorlds 11 rfl) rfl hu1 hu2 (Nat.le_of_ble_eq_true rfl) rfl (fun m6 H => ?_)
      refine z_iconst (pc := 22) (v := 0) C (dX9_passedWorlds 12 rfl) (by decide) ?_
      refine z_istore (pc := 23) (i := 4) (lv2 := [(4, .int 0), (0, .ref a_0), (1, .int x_1), (2, .int x_2), (3, .int x_3)]) C (dX9_passedWorlds 13 rfl) (by decide) rfl ?_
      obtain ⟨n28, H⟩ := H
      refine z_sub [1, 2, 3, 4, 0] rfl ?_
      refine sX9_passedWorlds_L25 C hr hm hu1 hu2 (fun m19 H => ?_) n28 0 m6 H
      refine z_iload_n (pc := 77) C (dX9_passedWorlds 38 rfl) rfl 2 rfl ?_
      refine z_aload_n (pc := 78) C (dX9_passedWorlds 39 rfl) rfl 0 rfl ?_
      refine z_getR (pc := 79) C zc9 h1 8 (by decide) rfl wf_X9_65 (dX9_passedWorlds 40 rfl) ?_
      obtain ⟨h20, H⟩ := H
      refine z_getR (pc := 82) C zc4 h20 0 (by decide) rfl wf_X9_216 (dX9_passedWorlds 41 rfl) ?_
      refine z_iload_n (pc := 85) C (dX9_passedWorlds 42 rfl) rfl 3 rfl ?_
      obtain ⟨h21, H⟩ := H
      obtain ⟨h22, H⟩ := H
      refine z_laload (pc := 86) C h21 h22 (dX9_passedWorlds 43 rfl) ?_
      refine z_aload_n (pc := 87) C (dX9_passedWorlds 44 rfl) rfl 0 rfl ?_
      refine z_getR (pc := 88) C zc9 h1 10 (by decide) rfl wf_X9_74 (dX9_passedWorlds 45 rfl) ?_
      refine z_iload_n (pc := 91) C (dX9_passedWorlds 46 rfl) rfl 1 rfl ?_
      refine z_iconst (pc := 92) (v := 1) C (dX9_passedWorlds 47 rfl) (by decide) ?_
      refine z_isub (pc := 93) C (dX9_passedWorlds 48 rfl) ?_
      obtain ⟨h23, H⟩ := H
      refine zc_Vl (pc := 94) (rest := [.long (gJ m19 (gR m19 (gR m19 a_0 8) 0) x_3.toNatClampNeg), .int x_2]) C YX6_atMost wl_X9_337 (kX6_atMost H) (by decide) h23 rfl (by decide) (dX9_passedWorlds 49 rfl) rfl hu1 hu2 (Nat.le_of_ble_eq_true rfl) rfl (fun r24 m25 H => ?_)
      refine z_ldc2 (pc := 97) C wj_X9_247 (dX9_passedWorlds 50 rfl) ?_
      refine z_lxor (pc := 100) C (dX9_passedWorlds 51 rfl) ?_
      refine z_land (pc := 101) C (dX9_passedWorlds 52 rfl) ?_
      refine zc_Si (pc := 102) (rest := [.int x_2]) C YJ13_bitCount_95d88 wl_X9_341 (kJ13_bitCount_95d88 H) (by decide) (dX9_passedWorlds 53 rfl) rfl hu1 hu2 (Nat.le_of_ble_eq_true rfl) rfl (fun r26 m27 H => ?_)
      refine z_iadd (pc := 105) C (dX9_passedWorlds 54 rfl) ?_
      refine z_istore_n (pc := 106) (i := 2) (lv2 := [(2, .int (x_2 + r26)), (0, .ref a_0), (1, .int x_1), (3, .int x_3)]) C (dX9_passedWorlds 55 rfl) rfl (by decide) rfl ?_
      refine z_iinc (pc := 107) (i := 3) (v := x_3 + 1) (lv2 := [(3, .int (x_3 + 1)), (2, .int (x_2 + r26)), (0, .ref a_0), (1, .int x_1)]) C (dX9_passedWorlds 56 rfl) 3 rfl (by rfl) (by decide) rfl ?_
      refine z_goto (pc := 110) (tgt := 4) C (dX9_passedWorlds 57 rfl) (by decide) ?_
      refine z_sub [2, 3, 1, 0] rfl ?_
      exact ih (x_2 + r26) (x_3 + 1) m27 H
def wX9_passedWorlds (t : zT) (m : zM) (a : Nat) (p1 : Int32) (Q : Int32 → zM → Prop) : Prop := (∃ n31, wX9_passedWorlds_L4 t a p1 Q (fun v29 m30 => (Q v29 m30)) n31 0 0 m)
set_option maxHeartbeats 4000000 in
set_option maxRecDepth 20000 in
theorem kX9_passedWorlds {l : Launch} {t : zT} {m : zM} {a : Nat} {p1 : Int32} {Q : Int32 → zM → Prop} (H : wX9_passedWorlds t m a p1 Q) : zMet l yX9_passedWorlds cX9_passedWorlds 5 (some .int) 2 0 0 t m [.ref a, .int p1] (zPi t Q) := by
  refine zmet (by decide +kernel) (Nat.le_of_ble_eq_true rfl) ?_
  intro p e s mt args below meth c g C hr hm
  unfold wX9_passedWorlds at H
  have hu1 : ((0, 0) : Nat × Nat).1 ≤ 0 := Nat.le_refl 0
  have hu2 : ((0, 0) : Nat × Nat).2 ≤ 0 := Nat.le_refl 0
  refine z_iconst (pc := 0) (v := 0) C (dX9_passedWorlds 0 rfl) (by decide) ?_
  refine z_istore_n (pc := 1) (i := 2) (lv2 := [(2, .int 0), (0, .ref a), (1, .int p1)]) C (dX9_passedWorlds 1 rfl) rfl (by decide) rfl ?_
  refine z_iconst (pc := 2) (v := 0) C (dX9_passedWorlds 2 rfl) (by decide) ?_
  refine z_istore_n (pc := 3) (i := 3) (lv2 := [(3, .int 0), (2, .int 0), (0, .ref a), (1, .int p1)]) C (dX9_passedWorlds 3 rfl) rfl (by decide) rfl ?_
  obtain ⟨n31, H⟩ := H
  refine z_sub [2, 3, 1, 0] rfl ?_
  refine sX9_passedWorlds_L4 C hr hm hu1 hu2 (fun v29 m30 H => ?_) n31 0 0 m H
  refine z_iload_n (pc := 113) C (dX9_passedWorlds 58 rfl) rfl 0 rfl ?_
  exact z_iret (pc := 114) C hr hu1 hu2 (dX9_passedWorlds 59 rfl) ⟨rfl, _, rfl, H⟩
def wX9_passes_J24 (t : zT) (m : zM) (a_0 : Nat) (Q : Int32 → zM → Prop) : Prop := (tK t a_0 = 9 ∧ (wX9_refuse t m a_0 2 (fun r7 m8 => (Q r7 m8))))
set_option maxHeartbeats 4000000 in
set_option maxRecDepth 20000 in
theorem sX9_passes_J24 {p : Program} {l : Launch} {e : Env} {s : State} {mt : MethodId} {args : Array Value} {below : List Frame} {meth : Method} {c : Code} {g : zG} {u : Nat × Nat} {mc ms : Nat} {t : zT} {m : zM} {a_0 : Nat} {Q : Int32 → zM → Prop} (C : zC p (zRm 5 mc ms) s mt args meth c g cX9_passes 5 yX9_passes.cls 5) (hr : meth.sig.returnType = (some .int)) (hm : meth.name = yX9_passes.name) (hu1 : u.1 ≤ mc) (hu2 : u.2 ≤ ms) (H : wX9_passes_J24 t m a_0 Q) : zW p l e (zRm 5 mc ms) s mt args below meth c g (MQ below (zQc g (zPi t Q)) args s mc ms (zFar g)) u 5 t m 24 [(0, .ref a_0)] [] := by
  unfold wX9_passes_J24 at H
  refine z_aload_n (pc := 24) C (dX9_passes 13 rfl) rfl 0 rfl ?_
  refine z_iconst (pc := 25) (v := 2) C (dX9_passes 14 rfl) (by decide) ?_
  obtain ⟨h6, H⟩ := H
  refine zc_Vi (pc := 26) (rest := []) C YX9_refuse wl_X9_93 (kX9_refuse H) (by decide) h6 rfl (by decide) (dX9_passes 15 rfl) rfl hu1 hu2 (Nat.le_of_ble_eq_true rfl) rfl (fun r7 m8 H => ?_)
  exact z_iret (pc := 29) C hr hu1 hu2 (dX9_passes 16 rfl) ⟨rfl, _, rfl, H⟩
def wX9_passes_L55 (t : zT) (a_0 : Nat) (x_2 : Int32) (x_3 : Int32) (Q : Int32 → zM → Prop) (k93 : zM → Prop) : Nat → Int32 → zM → Prop
  | 0, _, _ => False
  | n + 1, x_4, m => (tK t a_0 = 9 ∧ (tK t (gR m a_0 3) = 5 ∧ (((gI m (gR m a_0 3) 0) ≤ x_4 → (k93 m)) ∧ (¬ (gI m (gR m a_0 3) 0) ≤ x_4 → (tK t (gR m a_0 2) = 8 ∧ (wX8_commonest t m (gR m a_0 2) (gR m a_0 9) x_4 (fun r18 m19 => (tK t (gR m a_0 11) = 14 ∧ (vp_in x_4 (tL t (gR m a_0 11)) ∧ (wX9_passes_L55 t a_0 x_2 x_3 Q k93 n (x_4 + 1) (pI m19 (gR m a_0 11) x_4.toNatClampNeg r18)))))))))))
set_option maxHeartbeats 4000000 in
set_option maxRecDepth 20000 in
theorem sX9_passes_L55 {p : Program} {l : Launch} {e : Env} {s : State} {mt : MethodId} {args : Array Value} {below : List Frame} {meth : Method} {c : Code} {g : zG} {u : Nat × Nat} {mc ms : Nat} {t : zT} {a_0 : Nat} {x_2 : Int32} {x_3 : Int32} {Q : Int32 → zM → Prop} {k93 : zM → Prop} (C : zC p (zRm 5 mc ms) s mt args meth c g cX9_passes 5 yX9_passes.cls 5) (hr : meth.sig.returnType = (some .int)) (hm : meth.name = yX9_passes.name) (hu1 : u.1 ≤ mc) (hu2 : u.2 ≤ ms)
    (K93 : ∀ (m : zM), k93 m → zW p l e (zRm 5 mc ms) s mt args below meth c g (MQ below (zQc g (zPi t Q)) args s mc ms (zFar g)) u 5 t m 93 [(0, .ref a_0), (2, .int x_2), (3, .int x_3)] []) : ∀ (n : Nat) (x_4 : Int32) (m : zM), wX9_passes_L55 t a_0 x_2 x_3 Q k93 n x_4 m → zW p l e (zRm 5 mc ms) s mt args below meth c g (MQ below (zQc g (zPi t Q)) args s mc ms (zFar g)) u 5 t m 55 [(0, .ref a_0), (2, .int x_2), (3, .int x_3), (4, .int x_4)] [] := by
  intro n
  induction n with
  | zero => intro x_4 m H; exact H.elim
  | succ n ih =>
    intro x_4 m H
    simp only [wX9_passes_L55] at H
    refine z_iload (pc := 55) C (dX9_passes 30 rfl) 3 rfl ?_
    refine z_aload_n (pc := 57) C (dX9_passes 31 rfl) rfl 0 rfl ?_
    obtain ⟨h14, H⟩ := H
    refine z_getR (pc := 58) C zc9 h14 3 (by decide) rfl wf_X9_34 (dX9_passes 32 rfl) ?_
    obtain ⟨h15, H⟩ := H
    refine z_getI (pc := 61) C zc5 h15 0 (by decide) rfl wf_X9_112 (dX9_passes 33 rfl) ?_
    refine z_icmp_ge (pc := 64) (tgt := 93) C (dX9_passes 34 rfl) (by decide) (fun c16 => ?_) (fun c16 => ?_)
    · replace H := H.1 c16
      refine z_sub [0, 1, 2] rfl ?_
      exact K93 m H
    · replace H := H.2 c16
      refine z_aload_n (pc := 67) C (dX9_passes 35 rfl) rfl 0 rfl ?_
      refine z_getR (pc := 68) C zc9 h14 11 (by decide) rfl wf_X9_78 (dX9_passes 36 rfl) ?_
      refine z_iload (pc := 71) C (dX9_passes 37 rfl) 3 rfl ?_
      refine z_aload_n (pc := 73) C (dX9_passes 38 rfl) rfl 0 rfl ?_
      refine z_getR (pc := 74) C zc9 h14 2 (by decide) rfl wf_X9_27 (dX9_passes 39 rfl) ?_
      refine z_aload_n (pc := 77) C (dX9_passes 40 rfl) rfl 0 rfl ?_
      refine z_getR (pc := 78) C zc9 h14 9 (by decide) rfl wf_X9_68 (dX9_passes 41 rfl) ?_
      refine z_iload (pc := 81) C (dX9_passes 42 rfl) 3 rfl ?_
      obtain ⟨h17, H⟩ := H
      refine zc_Vi (pc := 83) (rest := [.int x_4, .ref (gR m a_0 11)]) C YX8_commonest wl_X9_322 (kX8_commonest H) (by decide) h17 rfl (by decide) (dX9_passes 43 rfl) rfl hu1 hu2 (Nat.le_of_ble_eq_true rfl) rfl (fun r18 m19 H => ?_)
      obtain ⟨h20, H⟩ := H
      obtain ⟨h21, H⟩ := H
      refine z_iastore (pc := 86) C h20 h21 (dX9_passes 44 rfl) ?_
      refine z_iinc (pc := 87) (i := 4) (v := x_4 + 1) (lv2 := [(4, .int (x_4 + 1)), (0, .ref a_0), (2, .int x_2), (3, .int x_3)]) C (dX9_passes 45 rfl) 3 rfl (by rfl) (by decide) rfl ?_
      refine z_goto (pc := 90) (tgt := 55) C (dX9_passes 46 rfl) (by decide) ?_
      refine z_sub [1, 2, 3, 0] rfl ?_
      exact ih (x_4 + 1) (pI m19 (gR m a_0 11) x_4.toNatClampNeg r18) H
def wX9_passes (t : zT) (m : zM) (a : Nat) (p1 : Int32) (p2 : Int32) (p3 : Int32) (Q : Int32 → zM → Prop) : Prop := (tK t a = 9 ∧ (wX9_isChild t m a p1 (fun r2 m3 => ((r2 = 0 → (wX9_refuse t m3 a 1 (fun r33 m34 => (Q r33 m34)))) ∧ (¬ r2 = 0 → ((p2 < 0 → (wX9_passes_J24 t m3 a Q)) ∧ (¬ p2 < 0 → ((p2 ≤ 8 → (tK t (gR m3 a 8) = 4 ∧ (((gI m3 (gR m3 a 8) 2) = 0 → (wX9_refuse t m3 a 6 (fun r31 m32 => (Q r31 m32)))) ∧ (¬ (gI m3 (gR m3 a 8) 2) = 0 → (wX9_teach t m3 a p1 (fun m13 => (∃ n30, wX9_passes_L55 t a p2 p3 Q (fun m22 => (wX9_passedWorlds t m22 a p2 (fun r23 m24 => (tK t (gR m24 a 8) = 4 ∧ (wX9_lowest t m24 r23 (gI m24 (gR m24 a 8) 2) p3 (fun r26 m27 => (wX9_accept t m27 a r26 (fun r28 m29 => (Q r28 m29))))))))) n30 0 m13))))))) ∧ (¬ p2 ≤ 8 → (wX9_passes_J24 t m3 a Q))))))))))
set_option maxHeartbeats 4000000 in
set_option maxRecDepth 20000 in
theorem kX9_passes {l : Launch} {t : zT} {m : zM} {a : Nat} {p1 : Int32} {p2 : Int32} {p3 : Int32} {Q : Int32 → zM → Prop} (H : wX9_passes t m a p1 p2 p3 Q) : zMet l yX9_passes cX9_passes 5 (some .int) 5 0 0 t m [.ref a, .int p1, .int p2, .int p3] (zPi t Q) := by
  refine zmet (by decide +kernel) (Nat.le_of_ble_eq_true rfl) ?_
  intro p e s mt args below meth c g C hr hm
  unfold wX9_passes at H
  have hu1 : ((0, 0) : Nat × Nat).1 ≤ 0 := Nat.le_refl 0
  have hu2 : ((0, 0) : Nat × Nat).2 ≤ 0 := Nat.le_refl 0
  refine z_aload_n (pc := 0) C (dX9_passes 0 rfl) rfl 0 rfl ?_
  refine z_iload_n (pc := 1) C (dX9_passes 1 rfl) rfl 1 rfl ?_
  obtain ⟨h1, H⟩ := H
  refine zc_Vi (pc := 2) (rest := []) C YX9_isChild wl_X9_316 (kX9_isChild H) (by decide) h1 rfl (by decide) (dX9_passes 2 rfl) rfl hu1 hu2 (Nat.le_of_ble_eq_true rfl) rfl (fun r2 m3 H => ?_)
  refine z_if_ne (pc := 5) (tgt := 14) C (dX9_passes 3 rfl) (by decide) (fun c4 => ?_) (fun c4 => ?_)
  · replace H := H.2 c4
    refine z_iload_n (pc := 14) C (dX9_passes 8 rfl) rfl 2 rfl ?_
    refine z_if_lt (pc := 15) (tgt := 24) C (dX9_passes 9 rfl) (by decide) (fun c5 => ?_) (fun c5 => ?_)
    · replace H := H.1 c5
      refine z_sub [0] rfl ?_
      exact sX9_passes_J24 C hr hm hu1 hu2 H
    · replace H := H.2 c5
      refine z_iload_n (pc := 18) C (dX9_passes 10 rfl) rfl 2 rfl ?_
      refine z_bipush (pc := 19) (v := 8) C (dX9_passes 11 rfl) (by decide) ?_
      refine z_icmp_le (pc := 21) (tgt := 30) C (dX9_passes 12 rfl) (by decide) (fun c9 => ?_) (fun c9 => ?_)
      · replace H := H.1 c9
        refine z_aload_n (pc := 30) C (dX9_passes 17 rfl) rfl 0 rfl ?_
        refine z_getR (pc := 31) C zc9 h1 8 (by decide) rfl wf_X9_65 (dX9_passes 18 rfl) ?_
        obtain ⟨h10, H⟩ := H
        refine z_getI (pc := 34) C zc4 h10 2 (by decide) rfl wf_X9_158 (dX9_passes 19 rfl) ?_
        refine z_if_ne (pc := 37) (tgt := 47) C (dX9_passes 20 rfl) (by decide) (fun c11 => ?_) (fun c11 => ?_)
        · replace H := H.2 c11
          refine z_aload_n (pc := 47) C (dX9_passes 25 rfl) rfl 0 rfl ?_
          refine z_iload_n (pc := 48) C (dX9_passes 26 rfl) rfl 1 rfl ?_
          refine zc_Vv (pc := 49) (rest := []) C YX9_teach wl_X9_319 (kX9_teach H) (by decide) h1 rfl (by decide) (dX9_passes 27 rfl) rfl hu1 hu2 (Nat.le_of_ble_eq_true rfl) rfl (fun m13 H => ?_)
          refine z_iconst (pc := 52) (v := 0) C (dX9_passes 28 rfl) (by decide) ?_
          refine z_istore (pc := 53) (i := 4) (lv2 := [(4, .int 0), (0, .ref a), (1, .int p1), (2, .int p2), (3, .int p3)]) C (dX9_passes 29 rfl) (by decide) rfl ?_
          obtain ⟨n30, H⟩ := H
          refine z_sub [1, 3, 4, 0] rfl ?_
          refine sX9_passes_L55 C hr hm hu1 hu2 (fun m22 H => ?_) n30 0 m13 H
          refine z_aload_n (pc := 93) C (dX9_passes 47 rfl) rfl 0 rfl ?_
          refine z_aload_n (pc := 94) C (dX9_passes 48 rfl) rfl 0 rfl ?_
          refine z_iload_n (pc := 95) C (dX9_passes 49 rfl) rfl 1 rfl ?_
          refine zc_Vi (pc := 96) (rest := [.ref a]) C YX9_passedWorlds wl_X9_331 (kX9_passedWorlds H) (by decide) h1 rfl (by decide) (dX9_passes 50 rfl) rfl hu1 hu2 (Nat.le_of_ble_eq_true rfl) rfl (fun r23 m24 H => ?_)
          refine z_aload_n (pc := 99) C (dX9_passes 51 rfl) rfl 0 rfl ?_
          refine z_getR (pc := 100) C zc9 h1 8 (by decide) rfl wf_X9_65 (dX9_passes 52 rfl) ?_
          obtain ⟨h25, H⟩ := H
          refine z_getI (pc := 103) C zc4 h25 2 (by decide) rfl wf_X9_158 (dX9_passes 53 rfl) ?_
          refine z_iload_n (pc := 106) C (dX9_passes 54 rfl) rfl 2 rfl ?_
          refine zc_Si (pc := 107) (rest := [.ref a]) C YX9_lowest wl_X9_193 (kX9_lowest H) (by decide) (dX9_passes 55 rfl) rfl hu1 hu2 (Nat.le_of_ble_eq_true rfl) rfl (fun r26 m27 H => ?_)
          refine zc_Vi (pc := 110) (rest := []) C YX9_accept wl_X9_117 (kX9_accept H) (by decide) h1 rfl (by decide) (dX9_passes 56 rfl) rfl hu1 hu2 (Nat.le_of_ble_eq_true rfl) rfl (fun r28 m29 H => ?_)
          exact z_iret (pc := 113) C hr hu1 hu2 (dX9_passes 57 rfl) ⟨rfl, _, rfl, H⟩
        · replace H := H.1 c11
          refine z_aload_n (pc := 40) C (dX9_passes 21 rfl) rfl 0 rfl ?_
          refine z_bipush (pc := 41) (v := 6) C (dX9_passes 22 rfl) (by decide) ?_
          refine zc_Vi (pc := 43) (rest := []) C YX9_refuse wl_X9_93 (kX9_refuse H) (by decide) h1 rfl (by decide) (dX9_passes 23 rfl) rfl hu1 hu2 (Nat.le_of_ble_eq_true rfl) rfl (fun r31 m32 H => ?_)
          exact z_iret (pc := 46) C hr hu1 hu2 (dX9_passes 24 rfl) ⟨rfl, _, rfl, H⟩
      · replace H := H.2 c9
        refine z_sub [0] rfl ?_
        exact sX9_passes_J24 C hr hm hu1 hu2 H
  · replace H := H.1 c4
    refine z_aload_n (pc := 8) C (dX9_passes 4 rfl) rfl 0 rfl ?_
    refine z_iconst (pc := 9) (v := 1) C (dX9_passes 5 rfl) (by decide) ?_
    refine zc_Vi (pc := 10) (rest := []) C YX9_refuse wl_X9_93 (kX9_refuse H) (by decide) h1 rfl (by decide) (dX9_passes 6 rfl) rfl hu1 hu2 (Nat.le_of_ble_eq_true rfl) rfl (fun r33 m34 H => ?_)
    exact z_iret (pc := 13) C hr hu1 hu2 (dX9_passes 7 rfl) ⟨rfl, _, rfl, H⟩
