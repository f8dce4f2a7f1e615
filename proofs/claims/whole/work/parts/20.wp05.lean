def wX9_agree_J21 (t : zT) (m : zM) (a_0 : Nat) (Q : Int32 → zM → Prop) : Prop := (tK t a_0 = 9 ∧ (wX9_refuse t m a_0 1 (fun r6 m7 => (Q r6 m7))))
set_option maxHeartbeats 4000000 in
set_option maxRecDepth 20000 in
theorem sX9_agree_J21 {p : Program} {l : Launch} {e : Env} {s : State} {mt : MethodId} {args : Array Value} {below : List Frame} {meth : Method} {c : Code} {g : zG} {u : Nat × Nat} {mc ms : Nat} {t : zT} {m : zM} {a_0 : Nat} {Q : Int32 → zM → Prop} (C : zC p (zRm 1 mc ms) s mt args meth c g cX9_agree 8 yX9_agree.cls 1) (hr : meth.sig.returnType = (some .int)) (hm : meth.name = yX9_agree.name) (hu1 : u.1 ≤ mc) (hu2 : u.2 ≤ ms) (H : wX9_agree_J21 t m a_0 Q) : zW p l e (zRm 1 mc ms) s mt args below meth c g (MQ below (zQc g (zPi t Q)) args s mc ms (zFar g)) u 8 t m 21 [(0, .ref a_0)] [] := by
  unfold wX9_agree_J21 at H
  refine z_aload_n (pc := 21) C (dX9_agree 11 rfl) rfl 0 rfl ?_
  refine z_iconst (pc := 22) (v := 1) C (dX9_agree 12 rfl) (by decide) ?_
  obtain ⟨h5, H⟩ := H
  refine zc_Vi (pc := 23) (rest := []) C YX9_refuse wl_X9_93 (kX9_refuse H) (by decide) h5 rfl (by decide) (dX9_agree 13 rfl) rfl hu1 hu2 (Nat.le_of_ble_eq_true rfl) rfl (fun r6 m7 H => ?_)
  exact z_iret (pc := 26) C hr hu1 hu2 (dX9_agree 14 rfl) ⟨rfl, _, rfl, H⟩
def wX9_agree_J120 (t : zT) (m : zM) (a_0 : Nat) (x_1 : Int32) (x_2 : Int32) (x_3 : Int32) (x_4 : Int32) (x_5 : Int32) (Q : Int32 → zM → Prop) (r33 : Int32 → Int32 → zM → Prop) : Prop := (r33 x_4 (x_5 + 1) m)
set_option maxHeartbeats 4000000 in
set_option maxRecDepth 20000 in
theorem sX9_agree_J120 {p : Program} {l : Launch} {e : Env} {s : State} {mt : MethodId} {args : Array Value} {below : List Frame} {meth : Method} {c : Code} {g : zG} {u : Nat × Nat} {mc ms : Nat} {t : zT} {m : zM} {a_0 : Nat} {x_1 : Int32} {x_2 : Int32} {x_3 : Int32} {x_4 : Int32} {x_5 : Int32} {Q : Int32 → zM → Prop} {r33 : Int32 → Int32 → zM → Prop} (C : zC p (zRm 1 mc ms) s mt args meth c g cX9_agree 8 yX9_agree.cls 1) (hr : meth.sig.returnType = (some .int)) (hm : meth.name = yX9_agree.name) (hu1 : u.1 ≤ mc) (hu2 : u.2 ≤ ms)
    (R33 : ∀ (v0 : Int32) (v1 : Int32) (m : zM), r33 v0 v1 m → zW p l e (zRm 1 mc ms) s mt args below meth c g (MQ below (zQc g (zPi t Q)) args s mc ms (zFar g)) u 8 t m 33 [(0, .ref a_0), (1, .int x_1), (2, .int x_2), (3, .int x_3), (4, .int v0), (5, .int v1)] []) (H : wX9_agree_J120 t m a_0 x_1 x_2 x_3 x_4 x_5 Q r33) : zW p l e (zRm 1 mc ms) s mt args below meth c g (MQ below (zQc g (zPi t Q)) args s mc ms (zFar g)) u 8 t m 120 [(0, .ref a_0), (1, .int x_1), (2, .int x_2), (3, .int x_3), (4, .int x_4), (5, .int x_5)] [] := by
  unfold wX9_agree_J120 at H
  refine z_iinc (pc := 120) (i := 5) (v := x_5 + 1) (lv2 := [(5, .int (x_5 + 1)), (0, .ref a_0), (1, .int x_1), (2, .int x_2), (3, .int x_3), (4, .int x_4)]) C (dX9_agree 62 rfl) 5 rfl (by rfl) (by decide) rfl ?_
  refine z_goto (pc := 123) (tgt := 33) C (dX9_agree 63 rfl) (by decide) ?_
  refine z_sub [1, 2, 3, 4, 5, 0] rfl ?_
  exact R33 x_4 (x_5 + 1) m H
def wX9_agree_J107 (t : zT) (m : zM) (a_0 : Nat) (x_1 : Int32) (x_2 : Int32) (x_3 : Int32) (x_4 : Int32) (x_5 : Int32) (s_0 : Int32) (Q : Int32 → zM → Prop) (r33 : Int32 → Int32 → zM → Prop) : Prop := ((s_0 = x_3 → (∀ x28 : Int32, x28 = (x_4 ||| ((1 : Int32) <<< (x_5 &&& 31))) → ((wX9_agree_J120 t m a_0 x_1 x_2 x_3 x28 x_5 Q r33)))) ∧ (¬ s_0 = x_3 → (wX9_agree_J120 t m a_0 x_1 x_2 x_3 x_4 x_5 Q r33)))
set_option maxHeartbeats 4000000 in
set_option maxRecDepth 20000 in
theorem sX9_agree_J107 {p : Program} {l : Launch} {e : Env} {s : State} {mt : MethodId} {args : Array Value} {below : List Frame} {meth : Method} {c : Code} {g : zG} {u : Nat × Nat} {mc ms : Nat} {t : zT} {m : zM} {a_0 : Nat} {x_1 : Int32} {x_2 : Int32} {x_3 : Int32} {x_4 : Int32} {x_5 : Int32} {s_0 : Int32} {Q : Int32 → zM → Prop} {r33 : Int32 → Int32 → zM → Prop} (C : zC p (zRm 1 mc ms) s mt args meth c g cX9_agree 8 yX9_agree.cls 1) (hr : meth.sig.returnType = (some .int)) (hm : meth.name = yX9_agree.name) (hu1 : u.1 ≤ mc) (hu2 : u.2 ≤ ms)
    (R33 : ∀ (v0 : Int32) (v1 : Int32) (m : zM), r33 v0 v1 m → zW p l e (zRm 1 mc ms) s mt args below meth c g (MQ below (zQc g (zPi t Q)) args s mc ms (zFar g)) u 8 t m 33 [(0, .ref a_0), (1, .int x_1), (2, .int x_2), (3, .int x_3), (4, .int v0), (5, .int v1)] []) (H : wX9_agree_J107 t m a_0 x_1 x_2 x_3 x_4 x_5 s_0 Q r33) : zW p l e (zRm 1 mc ms) s mt args below meth c g (MQ below (zQc g (zPi t Q)) args s mc ms (zFar g)) u 8 t m 107 [(0, .ref a_0), (1, .int x_1), (2, .int x_2), (3, .int x_3), (4, .int x_4), (5, .int x_5)] [.int s_0] := by
  unfold wX9_agree_J107 at H
  refine z_iload_n (pc := 107) C (dX9_agree 54 rfl) rfl 3 rfl ?_
  refine z_icmp_ne (pc := 108) (tgt := 120) C (dX9_agree 55 rfl) (by decide) (fun c27 => ?_) (fun c27 => ?_)
  · replace H := H.2 c27
    refine z_sub [0, 1, 2, 3, 4, 5] rfl ?_
    exact sX9_agree_J120 C hr hm hu1 hu2 R33 H
  · replace H := H.1 c27
    refine z_iload (pc := 111) C (dX9_agree 56 rfl) 4 rfl ?_
    refine z_iconst (pc := 113) (v := 1) C (dX9_agree 57 rfl) (by decide) ?_
    refine z_iload (pc := 114) C (dX9_agree 58 rfl) 5 rfl ?_
    refine z_ishl (pc := 116) C (dX9_agree 59 rfl) ?_
    refine z_ior (pc := 117) C (dX9_agree 60 rfl) ?_
    refine z_int (fun x28 hx28 => ?_)
    replace H := H x28 hx28
    refine z_istore (pc := 118) (i := 4) (lv2 := [(4, .int x28), (0, .ref a_0), (1, .int x_1), (2, .int x_2), (3, .int x_3), (5, .int x_5)]) C (dX9_agree 61 rfl) (by decide) rfl ?_
    refine z_sub [1, 2, 3, 4, 0, 5] rfl ?_
    exact sX9_agree_J120 C hr hm hu1 hu2 R33 H
def wX9_agree_L33 (t : zT) (a_0 : Nat) (x_1 : Int32) (x_2 : Int32) (x_3 : Int32) (Q : Int32 → zM → Prop) (k126 : Int32 → zM → Prop) : Nat → Int32 → Int32 → zM → Prop
  | 0, _, _, _ => False
  | n + 1, x_4, x_5, m => (tK t a_0 = 9 ∧ (tK t (gR m a_0 3) = 5 ∧ (((gI m (gR m a_0 3) 0) ≤ x_5 → (k126 x_4 m)) ∧ (¬ (gI m (gR m a_0 3) 0) ≤ x_5 → (wX5_firstSaying t m (gR m a_0 3) x_1 x_5 (fun r15 m16 => (tK t (gR m16 a_0 3) = 5 ∧ (wX5_firstSaying t m16 (gR m16 a_0 3) x_2 x_5 (fun r18 m19 => ((r15 < 0 → (wX9_agree_J120 t m19 a_0 x_1 x_2 x_3 x_4 x_5 Q (wX9_agree_L33 t a_0 x_1 x_2 x_3 Q k126 n))) ∧ (¬ r15 < 0 → ((r18 < 0 → (wX9_agree_J120 t m19 a_0 x_1 x_2 x_3 x_4 x_5 Q (wX9_agree_L33 t a_0 x_1 x_2 x_3 Q k126 n))) ∧ (¬ r18 < 0 → (tK t (gR m19 a_0 3) = 5 ∧ (tK t (gR m19 (gR m19 a_0 3) 17) = 14 ∧ (vp_in r15 (tL t (gR m19 (gR m19 a_0 3) 17)) ∧ (vp_in r18 (tL t (gR m19 (gR m19 a_0 3) 17)) ∧ (((gI m19 (gR m19 (gR m19 a_0 3) 17) r15.toNatClampNeg) = (gI m19 (gR m19 (gR m19 a_0 3) 17) r18.toNatClampNeg) → (wX9_agree_J107 t m19 a_0 x_1 x_2 x_3 x_4 x_5 1 Q (wX9_agree_L33 t a_0 x_1 x_2 x_3 Q k126 n))) ∧ (¬ (gI m19 (gR m19 (gR m19 a_0 3) 17) r15.toNatClampNeg) = (gI m19 (gR m19 (gR m19 a_0 3) 17) r18.toNatClampNeg) → (wX9_agree_J107 t m19 a_0 x_1 x_2 x_3 x_4 x_5 0 Q (wX9_agree_L33 t a_0 x_1 x_2 x_3 Q k126 n)))))))))))))))))))))
set_option maxHeartbeats 4000000 in
set_option maxRecDepth 20000 in
theorem sX9_agree_L33 {p : Program} {l : Launch} {e : Env} {s : State} {mt : MethodId} {args : Array Value} {below : List Frame} {meth : Method} {c : Code} {g : zG} {u : Nat × Nat} {mc ms : Nat} {t : zT} {a_0 : Nat} {x_1 : Int32} {x_2 : Int32} {x_3 : Int32} {Q : Int32 → zM → Prop} {k126 : Int32 → zM → Prop} (C : zC p (zRm 1 mc ms) s mt args meth c g cX9_agree 8 yX9_agree.cls 1) (hr : meth.sig.returnType = (some .int)) (hm : meth.name = yX9_agree.name) (hu1 : u.1 ≤ mc) (hu2 : u.2 ≤ ms)
    (K126 : ∀ (v0 : Int32) (m : zM), k126 v0 m → zW p l e (zRm 1 mc ms) s mt args below meth c g (MQ below (zQc g (zPi t Q)) args s mc ms (zFar g)) u 8 t m 126 [(0, .ref a_0), (4, .int v0)] []) : ∀ (n : Nat) (x_4 : Int32) (x_5 : Int32) (m : zM), wX9_agree_L33 t a_0 x_1 x_2 x_3 Q k126 n x_4 x_5 m → zW p l e (zRm 1 mc ms) s mt args below meth c g (MQ below (zQc g (zPi t Q)) args s mc ms (zFar g)) u 8 t m 33 [(0, .ref a_0), (1, .int x_1), (2, .int x_2), (3, .int x_3), (4, .int x_4), (5, .int x_5)] [] := by
  intro n
  induction n with
  | zero => intro x_4 x_5 m H; exact H.elim
  | succ n ih =>
    intro x_4 x_5 m H
    simp only [wX9_agree_L33] at H
    refine z_iload (pc := 33) C (dX9_agree 19 rfl) 5 rfl ?_
    refine z_aload_n (pc := 35) C (dX9_agree 20 rfl) rfl 0 rfl ?_
    obtain ⟨h12, H⟩ := H
    refine z_getR (pc := 36) C zc9 h12 3 (by decide) rfl wf_X9_34 (dX9_agree 21 rfl) ?_
    obtain ⟨h13, H⟩ := H
    refine z_getI (pc := 39) C zc5 h13 0 (by decide) rfl wf_X9_112 (dX9_agree 22 rfl) ?_
    refine z_icmp_ge (pc := 42) (tgt := 126) C (dX9_agree 23 rfl) (by decide) (fun c14 => ?_) (fun c14 => ?_)
    · replace H := H.1 c14
      refine z_sub [0, 4] rfl ?_
      exact K126 x_4 m H
    · replace H := H.2 c14
      refine z_aload_n (pc := 45) C (dX9_agree 24 rfl) rfl 0 rfl ?_
      refine z_getR (pc := 46) C zc9 h12 3 (by decide) rfl wf_X9_34 (dX9_agree 25 rfl) ?_
      refine z_iload_n (pc := 49) C (dX9_agree 26 rfl) rfl 1 rfl ?_
      refine z_iload (pc := 50) C (dX9_agree 27 rfl) 5 rfl ?_
      refine zc_Vi (pc := 52) (rest := []) C YX5_firstSaying wl_X9_298 (kX5_firstSaying H) (by decide) h13 rfl (by decide) (dX9_agree 28 rfl) rfl hu1 hu2 (Nat.le_of_ble_eq_true rfl) rfl (fun r15 m16 H => ?_)
      refine z_istore (pc := 55) (i := 6) (lv2 := [(6, .int r15), (0, .ref a_0), (1, .int x_1), (2, .int x_2), (3, .int x_3), (4, .int x_4), (5, .int x_5)]) C (dX9_agree 29 rfl) (by decide) rfl ?_
      refine z_aload_n (pc := 57) C (dX9_agree 30 rfl) rfl 1 rfl ?_
      refine z_getR (pc := 58) C zc9 h12 3 (by decide) rfl wf_X9_34 (dX9_agree 31 rfl) ?_
      refine z_iload_n (pc := 61) C (dX9_agree 32 rfl) rfl 3 rfl ?_
      refine z_iload (pc := 62) C (dX9_agree 33 rfl) 6 rfl ?_
      obtain ⟨h17, H⟩ := H
      refine zc_Vi (pc := 64) (rest := []) C YX5_firstSaying wl_X9_298 (kX5_firstSaying H) (by decide) h17 rfl (by decide) (dX9_agree 34 rfl) rfl hu1 hu2 (Nat.le_of_ble_eq_true rfl) rfl (fun r18 m19 H => ?_)
      refine z_istore (pc := 67) (i := 7) (lv2 := [(7, .int r18), (6, .int r15), (0, .ref a_0), (1, .int x_1), (2, .int x_2), (3, .int x_3), (4, .int x_4), (5, .int x_5)]) C (dX9_agree 35 rfl) (by decide) rfl ?_
      refine z_iload (pc := 69) C (dX9_agree 36 rfl) 1 rfl ?_
      refine z_if_lt (pc := 71) (tgt := 120) C (dX9_agree 37 rfl) (by decide) (fun c20 => ?_) (fun c20 => ?_)
      · replace H := H.1 c20
        refine z_sub [2, 3, 4, 5, 6, 7] rfl ?_
        exact sX9_agree_J120 C hr hm hu1 hu2 ih H
      · replace H := H.2 c20
        refine z_iload (pc := 74) C (dX9_agree 38 rfl) 0 rfl ?_
        refine z_if_lt (pc := 76) (tgt := 120) C (dX9_agree 39 rfl) (by decide) (fun c21 => ?_) (fun c21 => ?_)
        · replace H := H.1 c21
          refine z_sub [2, 3, 4, 5, 6, 7] rfl ?_
          exact sX9_agree_J120 C hr hm hu1 hu2 ih H
        · replace H := H.2 c21
          refine z_aload_n (pc := 79) C (dX9_agree 40 rfl) rfl 2 rfl ?_
          refine z_getR (pc := 80) C zc9 h12 3 (by decide) rfl wf_X9_34 (dX9_agree 41 rfl) ?_
          obtain ⟨h22, H⟩ := H
          refine z_getR (pc := 83) C zc5 h22 17 (by decide) rfl wf_X9_207 (dX9_agree 42 rfl) ?_
          refine z_iload (pc := 86) C (dX9_agree 43 rfl) 1 rfl ?_
          obtain ⟨h23, H⟩ := H
          obtain ⟨h24, H⟩ := H
          refine z_iaload (pc := 88) C h23 h24 (dX9_agree 44 rfl) ?_
          refine z_aload_n (pc := 89) C (dX9_agree 45 rfl) rfl 2 rfl ?_
          refine z_getR (pc := 90) C zc9 h12 3 (by decide) rfl wf_X9_34 (dX9_agree 46 rfl) ?_
          refine z_getR (pc := 93) C zc5 h22 17 (by decide) rfl wf_X9_207 (dX9_agree 47 rfl) ?_
          refine z_iload (pc := 96) C (dX9_agree 48 rfl) 0 rfl ?_
          obtain ⟨h25, H⟩ := H
          refine z_iaload (pc := 98) C h23 h25 (dX9_agree 49 rfl) ?_
          refine z_icmp_ne (pc := 99) (tgt := 106) C (dX9_agree 50 rfl) (by decide) (fun c26 => ?_) (fun c26 => ?_)
          · replace H := H.2 c26
            refine z_iconst (pc := 106) (v := 0) C (dX9_agree 53 rfl) (by decide) ?_
            refine z_sub [2, 3, 4, 5, 6, 7] rfl ?_
            exact sX9_agree_J107 C hr hm hu1 hu2 ih H
          · replace H := H.1 c26
            refine z_iconst (pc := 102) (v := 1) C (dX9_agree 51 rfl) (by decide) ?_
            refine z_goto (pc := 103) (tgt := 107) C (dX9_agree 52 rfl) (by decide) ?_
            refine z_sub [2, 3, 4, 5, 6, 7] rfl ?_
            exact sX9_agree_J107 C hr hm hu1 hu2 ih H
def wX9_agree (t : zT) (m : zM) (a : Nat) (p1 : Int32) (p2 : Int32) (p3 : Int32) (Q : Int32 → zM → Prop) : Prop := (tK t a = 9 ∧ (wX9_isMaster t m a p1 (fun r2 m3 => ((r2 = 0 → (wX9_agree_J21 t m3 a Q)) ∧ (¬ r2 = 0 → (wX9_isMaster t m3 a p2 (fun r8 m9 => ((r8 = 0 → (wX9_agree_J21 t m9 a Q)) ∧ (¬ r8 = 0 → ((p1 = p2 → (wX9_agree_J21 t m9 a Q)) ∧ (¬ p1 = p2 → (∃ n33, wX9_agree_L33 t a p1 p2 p3 Q (fun v29 m30 => (wX9_accept t m30 a v29 (fun r31 m32 => (Q r31 m32)))) n33 0 0 m9))))))))))))
set_option maxHeartbeats 4000000 in
set_option maxRecDepth 20000 in
theorem kX9_agree {l : Launch} {t : zT} {m : zM} {a : Nat} {p1 : Int32} {p2 : Int32} {p3 : Int32} {Q : Int32 → zM → Prop} (H : wX9_agree t m a p1 p2 p3 Q) : zMet l yX9_agree cX9_agree 8 (some .int) 1 0 0 t m [.ref a, .int p1, .int p2, .int p3] (zPi t Q) := by
  refine zmet (by decide +kernel) (Nat.le_of_ble_eq_true rfl) ?_
  intro p e s mt args below meth c g C hr hm
  unfold wX9_agree at H
  have hu1 : ((0, 0) : Nat × Nat).1 ≤ 0 := Nat.le_refl 0
  have hu2 : ((0, 0) : Nat × Nat).2 ≤ 0 := Nat.le_refl 0
  refine z_aload_n (pc := 0) C (dX9_agree 0 rfl) rfl 0 rfl ?_
  refine z_iload_n (pc := 1) C (dX9_agree 1 rfl) rfl 1 rfl ?_
  obtain ⟨h1, H⟩ := H
  refine zc_Vi (pc := 2) (rest := []) C YX9_isMaster wl_X9_210 (kX9_isMaster H) (by decide) h1 rfl (by decide) (dX9_agree 2 rfl) rfl hu1 hu2 (Nat.le_of_ble_eq_true rfl) rfl (fun r2 m3 H => ?_)
  refine z_if_eq (pc := 5) (tgt := 21) C (dX9_agree 3 rfl) (by decide) (fun c4 => ?_) (fun c4 => ?_)
  · replace H := H.1 c4
    refine z_sub [0] rfl ?_
    exact sX9_agree_J21 C hr hm hu1 hu2 H
  · replace H := H.2 c4
    refine z_aload_n (pc := 8) C (dX9_agree 4 rfl) rfl 0 rfl ?_
    refine z_iload_n (pc := 9) C (dX9_agree 5 rfl) rfl 2 rfl ?_
    refine zc_Vi (pc := 10) (rest := []) C YX9_isMaster wl_X9_210 (kX9_isMaster H) (by decide) h1 rfl (by decide) (dX9_agree 6 rfl) rfl hu1 hu2 (Nat.le_of_ble_eq_true rfl) rfl (fun r8 m9 H => ?_)
    refine z_if_eq (pc := 13) (tgt := 21) C (dX9_agree 7 rfl) (by decide) (fun c10 => ?_) (fun c10 => ?_)
    · replace H := H.1 c10
      refine z_sub [0] rfl ?_
      exact sX9_agree_J21 C hr hm hu1 hu2 H
    · replace H := H.2 c10
      refine z_iload_n (pc := 16) C (dX9_agree 8 rfl) rfl 1 rfl ?_
      refine z_iload_n (pc := 17) C (dX9_agree 9 rfl) rfl 2 rfl ?_
      refine z_icmp_ne (pc := 18) (tgt := 27) C (dX9_agree 10 rfl) (by decide) (fun c11 => ?_) (fun c11 => ?_)
      · replace H := H.2 c11
        refine z_iconst (pc := 27) (v := 0) C (dX9_agree 15 rfl) (by decide) ?_
        refine z_istore (pc := 28) (i := 4) (lv2 := [(4, .int 0), (0, .ref a), (1, .int p1), (2, .int p2), (3, .int p3)]) C (dX9_agree 16 rfl) (by decide) rfl ?_
        refine z_iconst (pc := 30) (v := 0) C (dX9_agree 17 rfl) (by decide) ?_
        refine z_istore (pc := 31) (i := 5) (lv2 := [(5, .int 0), (4, .int 0), (0, .ref a), (1, .int p1), (2, .int p2), (3, .int p3)]) C (dX9_agree 18 rfl) (by decide) rfl ?_
        obtain ⟨n33, H⟩ := H
        refine z_sub [2, 3, 4, 5, 1, 0] rfl ?_
        refine sX9_agree_L33 C hr hm hu1 hu2 (fun v29 m30 H => ?_) n33 0 0 m9 H
        refine z_aload_n (pc := 126) C (dX9_agree 64 rfl) rfl 0 rfl ?_
        refine z_iload (pc := 127) C (dX9_agree 65 rfl) 1 rfl ?_
        refine zc_Vi (pc := 129) (rest := []) C YX9_accept wl_X9_117 (kX9_accept H) (by decide) h1 rfl (by decide) (dX9_agree 66 rfl) rfl hu1 hu2 (Nat.le_of_ble_eq_true rfl) rfl (fun r31 m32 H => ?_)
        exact z_iret (pc := 132) C hr hu1 hu2 (dX9_agree 67 rfl) ⟨rfl, _, rfl, H⟩
      · replace H := H.1 c11
        refine z_sub [0] rfl ?_
        exact sX9_agree_J21 C hr hm hu1 hu2 H
def wX9_leastSure_J76 (t : zT) (m : zM) (a_0 : Nat) (x_1 : Int32) (x_2 : Int32) (x_3 : Int32) (Q : Int32 → zM → Prop) (r10 : Int32 → Int32 → zM → Prop) : Prop := (r10 x_2 (x_3 + 1) m)
set_option maxHeartbeats 4000000 in
set_option maxRecDepth 20000 in
theorem sX9_leastSure_J76 {p : Program} {l : Launch} {e : Env} {s : State} {mt : MethodId} {args : Array Value} {below : List Frame} {meth : Method} {c : Code} {g : zG} {u : Nat × Nat} {mc ms : Nat} {t : zT} {m : zM} {a_0 : Nat} {x_1 : Int32} {x_2 : Int32} {x_3 : Int32} {Q : Int32 → zM → Prop} {r10 : Int32 → Int32 → zM → Prop} (C : zC p (zRm 3 mc ms) s mt args meth c g cX9_leastSure 4 yX9_leastSure.cls 3) (hr : meth.sig.returnType = (some .int)) (hm : meth.name = yX9_leastSure.name) (hu1 : u.1 ≤ mc) (hu2 : u.2 ≤ ms)
    (R10 : ∀ (v0 : Int32) (v1 : Int32) (m : zM), r10 v0 v1 m → zW p l e (zRm 3 mc ms) s mt args below meth c g (MQ below (zQc g (zPi t Q)) args s mc ms (zFar g)) u 4 t m 10 [(0, .ref a_0), (1, .int x_1), (2, .int v0), (3, .int v1)] []) (H : wX9_leastSure_J76 t m a_0 x_1 x_2 x_3 Q r10) : zW p l e (zRm 3 mc ms) s mt args below meth c g (MQ below (zQc g (zPi t Q)) args s mc ms (zFar g)) u 4 t m 76 [(0, .ref a_0), (1, .int x_1), (2, .int x_2), (3, .int x_3)] [] := by
  unfold wX9_leastSure_J76 at H
  refine z_iinc (pc := 76) (i := 3) (v := x_3 + 1) (lv2 := [(3, .int (x_3 + 1)), (0, .ref a_0), (1, .int x_1), (2, .int x_2)]) C (dX9_leastSure 38 rfl) 3 rfl (by rfl) (by decide) rfl ?_
  refine z_goto (pc := 79) (tgt := 10) C (dX9_leastSure 39 rfl) (by decide) ?_
  refine z_sub [1, 2, 3, 0] rfl ?_
  exact R10 x_2 (x_3 + 1) m H
def wX9_leastSure_L10 (t : zT) (a_0 : Nat) (x_1 : Int32) (Q : Int32 → zM → Prop) (k82 : Int32 → zM → Prop) : Nat → Int32 → Int32 → zM → Prop
  | 0, _, _, _ => False
  | n + 1, x_2, x_3, m => (tK t a_0 = 9 ∧ (tK t (gR m a_0 3) = 5 ∧ (tK t (gR m (gR m a_0 3) 1) = 14 ∧ (vp_in x_1 (tL t (gR m (gR m a_0 3) 1)) ∧ (((gI m (gR m (gR m a_0 3) 1) x_1.toNatClampNeg) ≤ x_3 → (k82 x_2 m)) ∧ (¬ (gI m (gR m (gR m a_0 3) 1) x_1.toNatClampNeg) ≤ x_3 → (tK t (gR m a_0 9) = 4 ∧ (wX4_copy t m (gR m a_0 9) (gR m a_0 8) (fun m11 => (tK t (gR m11 a_0 2) = 8 ∧ (wX8_keepOnly t m11 (gR m11 a_0 2) (gR m11 a_0 9) x_1 x_3 (fun m14 => (tK t (gR m14 a_0 9) = 4 ∧ (((gI m14 (gR m14 a_0 9) 2) ≤ 0 → (wX9_leastSure_J76 t m14 a_0 x_1 x_2 x_3 Q (wX9_leastSure_L10 t a_0 x_1 Q k82 n))) ∧ (¬ (gI m14 (gR m14 a_0 9) 2) ≤ 0 → (tK t (gR m14 a_0 2) = 8 ∧ (wX8_sureIn t m14 (gR m14 a_0 2) (gR m14 a_0 9) (fun r18 m19 => (wJ6_bitCount_0f7a4 t m19 r18 (fun r20 m21 => (∀ x22 : Int32, x22 = (if r20 < x_2 then r20 else x_2) → ((wX9_leastSure_J76 t m21 a_0 x_1 x22 x_3 Q (wX9_leastSure_L10 t a_0 x_1 Q k82 n))))))))))))))))))))))))
set_option maxHeartbeats 4000000 in
set_option maxRecDepth 20000 in
theorem sX9_leastSure_L10 {p : Program} {l : Launch} {e : Env} {s : State} {mt : MethodId} {args : Array Value} {below : List Frame} {meth : Method} {c : Code} {g : zG} {u : Nat × Nat} {mc ms : Nat} {t : zT} {a_0 : Nat} {x_1 : Int32} {Q : Int32 → zM → Prop} {k82 : Int32 → zM → Prop} (C : zC p (zRm 3 mc ms) s mt args meth c g cX9_leastSure 4 yX9_leastSure.cls 3) (hr : meth.sig.returnType = (some .int)) (hm : meth.name = yX9_leastSure.name) (hu1 : u.1 ≤ mc) (hu2 : u.2 ≤ ms)
    (K82 : ∀ (v0 : Int32) (m : zM), k82 v0 m → zW p l e (zRm 3 mc ms) s mt args below meth c g (MQ below (zQc g (zPi t Q)) args s mc ms (zFar g)) u 4 t m 82 [(2, .int v0)] []) : ∀ (n : Nat) (x_2 : Int32) (x_3 : Int32) (m : zM), wX9_leastSure_L10 t a_0 x_1 Q k82 n x_2 x_3 m → zW p l e (zRm 3 mc ms) s mt args below meth c g (MQ below (zQc g (zPi t Q)) args s mc ms (zFar g)) u 4 t m 10 [(0, .ref a_0), (1, .int x_1), (2, .int x_2), (3, .int x_3)] [] := by
  intro n
  induction n with
  | zero => intro x_2 x_3 m H; exact H.elim
  | succ n ih =>
    intro x_2 x_3 m H
    simp only [wX9_leastSure_L10] at H
    refine z_iload_n (pc := 10) C (dX9_leastSure 6 rfl) rfl 3 rfl ?_
    refine z_aload_n (pc := 11) C (dX9_leastSure 7 rfl) rfl 0 rfl ?_
    obtain ⟨h4, H⟩ := H
    refine z_getR (pc := 12) C zc9 h4 3 (by decide) rfl wf_X9_34 (dX9_leastSure 8 rfl) ?_
    obtain ⟨h5, H⟩ := H
    refine z_getR (pc := 15) C zc5 h5 1 (by decide) rfl wf_X9_305 (dX9_leastSure 9 rfl) ?_
    refine z_iload_n (pc := 18) C (dX9_leastSure 10 rfl) rfl 1 rfl ?_
    obtain ⟨h6, H⟩ := H
    obtain ⟨h7, H⟩ := H
    refine z_iaload (pc := 19) C h6 h7 (dX9_leastSure 11 rfl) ?_
    refine z_icmp_ge (pc := 20) (tgt := 82) C (dX9_leastSure 12 rfl) (by decide) (fun c8 => ?_) (fun c8 => ?_)
    · replace H := H.1 c8
      refine z_sub [2] rfl ?_
      exact K82 x_2 m H
    · replace H := H.2 c8
      refine z_aload_n (pc := 23) C (dX9_leastSure 13 rfl) rfl 0 rfl ?_
      refine z_getR (pc := 24) C zc9 h4 9 (by decide) rfl wf_X9_68 (dX9_leastSure 14 rfl) ?_
      refine z_aload_n (pc := 27) C (dX9_leastSure 15 rfl) rfl 0 rfl ?_
      refine z_getR (pc := 28) C zc9 h4 8 (by decide) rfl wf_X9_65 (dX9_leastSure 16 rfl) ?_
      obtain ⟨h9, H⟩ := H
      refine zc_Vv (pc := 31) (rest := []) C YX4_copy wl_X9_354 (kX4_copy H) (by decide) h9 rfl (by decide) (dX9_leastSure 17 rfl) rfl hu1 hu2 (Nat.le_of_ble_eq_true rfl) rfl (fun m11 H => ?_)
      refine z_aload_n (pc := 34) C (dX9_leastSure 18 rfl) rfl 0 rfl ?_
      refine z_getR (pc := 35) C zc9 h4 2 (by decide) rfl wf_X9_27 (dX9_leastSure 19 rfl) ?_
      refine z_aload_n (pc := 38) C (dX9_leastSure 20 rfl) rfl 0 rfl ?_
      refine z_getR (pc := 39) C zc9 h4 9 (by decide) rfl wf_X9_68 (dX9_leastSure 21 rfl) ?_
      refine z_iload_n (pc := 42) C (dX9_leastSure 22 rfl) rfl 1 rfl ?_
      refine z_iload_n (pc := 43) C (dX9_leastSure 23 rfl) rfl 3 rfl ?_
      obtain ⟨h12, H⟩ := H
      refine zc_Vv (pc := 44) (rest := []) C YX8_keepOnly wl_X9_357 (kX8_keepOnly H) (by decide) h12 rfl (by decide) (dX9_leastSure 24 rfl) rfl hu1 hu2 (Nat.le_of_ble_eq_true rfl) rfl (fun m14 H => ?_)
      refine z_aload_n (pc := 47) C (dX9_leastSure 25 rfl) rfl 0 rfl ?_
      refine z_getR (pc := 48) C zc9 h4 9 (by decide) rfl wf_X9_68 (dX9_leastSure 26 rfl) ?_
      obtain ⟨h15, H⟩ := H
      refine z_getI (pc := 51) C zc4 h15 2 (by decide) rfl wf_X9_158 (dX9_leastSure 27 rfl) ?_
      refine z_if_le (pc := 54) (tgt := 76) C (dX9_leastSure 28 rfl) (by decide) (fun c16 => ?_) (fun c16 => ?_)
      · replace H := H.1 c16
        refine z_sub [0, 1, 2, 3] rfl ?_
        exact sX9_leastSure_J76 C hr hm hu1 hu2 ih H
      · replace H := H.2 c16
        refine z_iload_n (pc := 57) C (dX9_leastSure 29 rfl) rfl 2 rfl ?_
        refine z_aload_n (pc := 58) C (dX9_leastSure 30 rfl) rfl 0 rfl ?_
        refine z_getR (pc := 59) C zc9 h4 2 (by decide) rfl wf_X9_27 (dX9_leastSure 31 rfl) ?_
        refine z_aload_n (pc := 62) C (dX9_leastSure 32 rfl) rfl 0 rfl ?_
        refine z_getR (pc := 63) C zc9 h4 9 (by decide) rfl wf_X9_68 (dX9_leastSure 33 rfl) ?_
        obtain ⟨h17, H⟩ := H
        refine zc_Vi (pc := 66) (rest := [.int x_2]) C YX8_sureIn wl_X9_197 (kX8_sureIn H) (by decide) h17 rfl (by decide) (dX9_leastSure 34 rfl) rfl hu1 hu2 (Nat.le_of_ble_eq_true rfl) rfl (fun r18 m19 H => ?_)
        refine zc_Si (pc := 69) (rest := [.int x_2]) C YJ6_bitCount_0f7a4 wl_X9_260 (kJ6_bitCount_0f7a4 H) (by decide) (dX9_leastSure 35 rfl) rfl hu1 hu2 (Nat.le_of_ble_eq_true rfl) rfl (fun r20 m21 H => ?_)
        refine z_mmin (pc := 72) C wl_X9_228 (by decide) hu1 hu2 (Nat.le_of_ble_eq_true rfl) (dX9_leastSure 36 rfl) ?_
        refine z_int (fun x22 hx22 => ?_)
        replace H := H x22 hx22
        refine z_istore_n (pc := 75) (i := 2) (lv2 := [(2, .int x22), (0, .ref a_0), (1, .int x_1), (3, .int x_3)]) C (dX9_leastSure 37 rfl) rfl (by decide) rfl ?_
        refine z_sub [1, 2, 0, 3] rfl ?_
        exact sX9_leastSure_J76 C hr hm hu1 hu2 ih H
def wX9_leastSure (t : zT) (m : zM) (a : Nat) (p1 : Int32) (Q : Int32 → zM → Prop) : Prop := (tK t a = 9 ∧ (tK t (gR m a 3) = 5 ∧ (∀ x3 : Int32, x3 = (gI m (gR m a 3) 0) → ((∃ n25, wX9_leastSure_L10 t a p1 Q (fun v23 m24 => (Q v23 m24)) n25 x3 0 m)))))
set_option maxHeartbeats 4000000 in
set_option maxRecDepth 20000 in
theorem kX9_leastSure {l : Launch} {t : zT} {m : zM} {a : Nat} {p1 : Int32} {Q : Int32 → zM → Prop} (H : wX9_leastSure t m a p1 Q) : zMet l yX9_leastSure cX9_leastSure 4 (some .int) 3 0 0 t m [.ref a, .int p1] (zPi t Q) := by
  refine zmet (by decide +kernel) (Nat.le_of_ble_eq_true rfl) ?_
  intro p e s mt args below meth c g C hr hm
  unfold wX9_leastSure at H
  have hu1 : ((0, 0) : Nat × Nat).1 ≤ 0 := Nat.le_refl 0
  have hu2 : ((0, 0) : Nat × Nat).2 ≤ 0 := Nat.le_refl 0
  refine z_aload_n (pc := 0) C (dX9_leastSure 0 rfl) rfl 0 rfl ?_
  obtain ⟨h1, H⟩ := H
  refine z_getR (pc := 1) C zc9 h1 3 (by decide) rfl wf_X9_34 (dX9_leastSure 1 rfl) ?_
  obtain ⟨h2, H⟩ := H
  refine z_getI (pc := 4) C zc5 h2 0 (by decide) rfl wf_X9_112 (dX9_leastSure 2 rfl) ?_
  refine z_int (fun x3 hx3 => ?_)
  replace H := H x3 hx3
  refine z_istore_n (pc := 7) (i := 2) (lv2 := [(2, .int x3), (0, .ref a), (1, .int p1)]) C (dX9_leastSure 3 rfl) rfl (by decide) rfl ?_
  refine z_iconst (pc := 8) (v := 0) C (dX9_leastSure 4 rfl) (by decide) ?_
  refine z_istore_n (pc := 9) (i := 3) (lv2 := [(3, .int 0), (2, .int x3), (0, .ref a), (1, .int p1)]) C (dX9_leastSure 5 rfl) rfl (by decide) rfl ?_
  obtain ⟨n25, H⟩ := H
  refine z_sub [2, 3, 1, 0] rfl ?_
  refine sX9_leastSure_L10 C hr hm hu1 hu2 (fun v23 m24 H => ?_) n25 x3 0 m H
  refine z_iload_n (pc := 82) C (dX9_leastSure 40 rfl) rfl 0 rfl ?_
  exact z_iret (pc := 83) C hr hu1 hu2 (dX9_leastSure 41 rfl) ⟨rfl, _, rfl, H⟩
def wX9_home (t : zT) (m : zM) (a : Nat) (p1 : Int32) (Q : Int32 → zM → Prop) : Prop := (tK t a = 9 ∧ (wX9_isThing t m a p1 (fun r2 m3 => (wX9_withoutWorlds t m3 a r2 (fun r4 m5 => ((r4 = 0 → (wX9_leastSure t m5 a p1 (fun r7 m8 => (wX9_accept t m8 a r7 (fun r9 m10 => (Q r9 m10)))))) ∧ (¬ r4 = 0 → (wX9_refuse t m5 a r4 (fun r11 m12 => (Q r11 m12))))))))))
set_option maxHeartbeats 4000000 in
set_option maxRecDepth 20000 in
theorem kX9_home {l : Launch} {t : zT} {m : zM} {a : Nat} {p1 : Int32} {Q : Int32 → zM → Prop} (H : wX9_home t m a p1 Q) : zMet l yX9_home cX9_home 3 (some .int) 4 0 0 t m [.ref a, .int p1] (zPi t Q) := by
  refine zmet (by decide +kernel) (Nat.le_of_ble_eq_true rfl) ?_
  intro p e s mt args below meth c g C hr hm
  unfold wX9_home at H
  have hu1 : ((0, 0) : Nat × Nat).1 ≤ 0 := Nat.le_refl 0
  have hu2 : ((0, 0) : Nat × Nat).2 ≤ 0 := Nat.le_refl 0
  refine z_aload_n (pc := 0) C (dX9_home 0 rfl) rfl 0 rfl ?_
  refine z_aload_n (pc := 1) C (dX9_home 1 rfl) rfl 0 rfl ?_
  refine z_iload_n (pc := 2) C (dX9_home 2 rfl) rfl 1 rfl ?_
  obtain ⟨h1, H⟩ := H
  refine zc_Vi (pc := 3) (rest := [.ref a]) C YX9_isThing wl_X9_171 (kX9_isThing H) (by decide) h1 rfl (by decide) (dX9_home 3 rfl) rfl hu1 hu2 (Nat.le_of_ble_eq_true rfl) rfl (fun r2 m3 H => ?_)
  refine zc_Vi (pc := 6) (rest := []) C YX9_withoutWorlds wl_X9_174 (kX9_withoutWorlds H) (by decide) h1 rfl (by decide) (dX9_home 4 rfl) rfl hu1 hu2 (Nat.le_of_ble_eq_true rfl) rfl (fun r4 m5 H => ?_)
  refine z_istore_n (pc := 9) (i := 2) (lv2 := [(2, .int r4), (0, .ref a), (1, .int p1)]) C (dX9_home 5 rfl) rfl (by decide) rfl ?_
  refine z_iload_n (pc := 10) C (dX9_home 6 rfl) rfl 0 rfl ?_
  refine z_if_eq (pc := 11) (tgt := 22) C (dX9_home 7 rfl) (by decide) (fun c6 => ?_) (fun c6 => ?_)
  · replace H := H.1 c6
    refine z_aload_n (pc := 22) C (dX9_home 12 rfl) rfl 1 rfl ?_
    refine z_aload_n (pc := 23) C (dX9_home 13 rfl) rfl 1 rfl ?_
    refine z_iload_n (pc := 24) C (dX9_home 14 rfl) rfl 2 rfl ?_
    refine zc_Vi (pc := 25) (rest := [.ref a]) C YX9_leastSure wl_X9_351 (kX9_leastSure H) (by decide) h1 rfl (by decide) (dX9_home 15 rfl) rfl hu1 hu2 (Nat.le_of_ble_eq_true rfl) rfl (fun r7 m8 H => ?_)
    refine zc_Vi (pc := 28) (rest := []) C YX9_accept wl_X9_117 (kX9_accept H) (by decide) h1 rfl (by decide) (dX9_home 16 rfl) rfl hu1 hu2 (Nat.le_of_ble_eq_true rfl) rfl (fun r9 m10 H => ?_)
    exact z_iret (pc := 31) C hr hu1 hu2 (dX9_home 17 rfl) ⟨rfl, _, rfl, H⟩
  · replace H := H.2 c6
    refine z_aload_n (pc := 14) C (dX9_home 8 rfl) rfl 1 rfl ?_
    refine z_iload_n (pc := 15) C (dX9_home 9 rfl) rfl 0 rfl ?_
    refine zc_Vi (pc := 16) (rest := []) C YX9_refuse wl_X9_93 (kX9_refuse H) (by decide) h1 rfl (by decide) (dX9_home 10 rfl) rfl hu1 hu2 (Nat.le_of_ble_eq_true rfl) rfl (fun r11 m12 H => ?_)
    refine z_goto (pc := 19) (tgt := 31) C (dX9_home 11 rfl) (by decide) ?_
    exact z_iret (pc := 31) C hr hu1 hu2 (dX9_home 17 rfl) ⟨rfl, _, rfl, H⟩
def wX9_bestHome_J58 (t : zT) (m : zM) (a_0 : Nat) (x_2 : Int32) (x_3 : Int32) (x_4 : Int32) (Q : Int32 → zM → Prop) (r26 : Int32 → Int32 → Int32 → zM → Prop) : Prop := (r26 x_2 x_3 (x_4 + 1) m)
set_option maxHeartbeats 4000000 in
set_option maxRecDepth 20000 in
theorem sX9_bestHome_J58 {p : Program} {l : Launch} {e : Env} {s : State} {mt : MethodId} {args : Array Value} {below : List Frame} {meth : Method} {c : Code} {g : zG} {u : Nat × Nat} {mc ms : Nat} {t : zT} {m : zM} {a_0 : Nat} {x_2 : Int32} {x_3 : Int32} {x_4 : Int32} {Q : Int32 → zM → Prop} {r26 : Int32 → Int32 → Int32 → zM → Prop} (C : zC p (zRm 4 mc ms) s mt args meth c g cX9_bestHome 6 yX9_bestHome.cls 4) (hr : meth.sig.returnType = (some .int)) (hm : meth.name = yX9_bestHome.name) (hu1 : u.1 ≤ mc) (hu2 : u.2 ≤ ms)
    (R26 : ∀ (v0 : Int32) (v1 : Int32) (v2 : Int32) (m : zM), r26 v0 v1 v2 m → zW p l e (zRm 4 mc ms) s mt args below meth c g (MQ below (zQc g (zPi t Q)) args s mc ms (zFar g)) u 6 t m 26 [(0, .ref a_0), (2, .int v0), (3, .int v1), (4, .int v2)] []) (H : wX9_bestHome_J58 t m a_0 x_2 x_3 x_4 Q r26) : zW p l e (zRm 4 mc ms) s mt args below meth c g (MQ below (zQc g (zPi t Q)) args s mc ms (zFar g)) u 6 t m 58 [(0, .ref a_0), (2, .int x_2), (3, .int x_3), (4, .int x_4)] [] := by
  unfold wX9_bestHome_J58 at H
  refine z_iinc (pc := 58) (i := 4) (v := x_4 + 1) (lv2 := [(4, .int (x_4 + 1)), (0, .ref a_0), (2, .int x_2), (3, .int x_3)]) C (dX9_bestHome 33 rfl) 3 rfl (by rfl) (by decide) rfl ?_
  refine z_goto (pc := 61) (tgt := 26) C (dX9_bestHome 34 rfl) (by decide) ?_
  refine z_sub [1, 2, 3, 0] rfl ?_
  exact R26 x_2 x_3 (x_4 + 1) m H
def wX9_bestHome_L26 (t : zT) (a_0 : Nat) (Q : Int32 → zM → Prop) (k64 : Int32 → zM → Prop) : Nat → Int32 → Int32 → Int32 → zM → Prop
  | 0, _, _, _, _ => False
  | n + 1, x_2, x_3, x_4, m => (tK t a_0 = 9 ∧ (tK t (gR m a_0 3) = 5 ∧ (((gI m (gR m a_0 3) 0) ≤ x_4 → (k64 x_2 m)) ∧ (¬ (gI m (gR m a_0 3) 0) ≤ x_4 → (wX9_leastSure t m a_0 x_4 (fun r10 m11 => ((r10 ≤ x_3 → (wX9_bestHome_J58 t m11 a_0 x_2 x_3 x_4 Q (wX9_bestHome_L26 t a_0 Q k64 n))) ∧ (¬ r10 ≤ x_3 → (wX9_bestHome_J58 t m11 a_0 x_4 r10 x_4 Q (wX9_bestHome_L26 t a_0 Q k64 n))))))))))
set_option maxHeartbeats 4000000 in
set_option maxRecDepth 20000 in
theorem sX9_bestHome_L26 {p : Program} {l : Launch} {e : Env} {s : State} {mt : MethodId} {args : Array Value} {below : List Frame} {meth : Method} {c : Code} {g : zG} {u : Nat × Nat} {mc ms : Nat} {t : zT} {a_0 : Nat} {Q : Int32 → zM → Prop} {k64 : Int32 → zM → Prop} (C : zC p (zRm 4 mc ms) s mt args meth c g cX9_bestHome 6 yX9_bestHome.cls 4) (hr : meth.sig.returnType = (some .int)) (hm : meth.name = yX9_bestHome.name) (hu1 : u.1 ≤ mc) (hu2 : u.2 ≤ ms)
    (K64 : ∀ (v0 : Int32) (m : zM), k64 v0 m → zW p l e (zRm 4 mc ms) s mt args below meth c g (MQ below (zQc g (zPi t Q)) args s mc ms (zFar g)) u 6 t m 64 [(0, .ref a_0), (2, .int v0)] []) : ∀ (n : Nat) (x_2 : Int32) (x_3 : Int32) (x_4 : Int32) (m : zM), wX9_bestHome_L26 t a_0 Q k64 n x_2 x_3 x_4 m → zW p l e (zRm 4 mc ms) s mt args below meth c g (MQ below (zQc g (zPi t Q)) args s mc ms (zFar g)) u 6 t m 26 [(0, .ref a_0), (2, .int x_2), (3, .int x_3), (4, .int x_4)] [] := by
  intro n
  induction n with
  | zero => intro x_2 x_3 x_4 m H; exact H.elim
  | succ n ih =>
    intro x_2 x_3 x_4 m H
    simp only [wX9_bestHome_L26] at H
    refine z_iload (pc := 26) C (dX9_bestHome 17 rfl) 3 rfl ?_
    refine z_aload_n (pc := 28) C (dX9_bestHome 18 rfl) rfl 0 rfl ?_
    obtain ⟨h7, H⟩ := H
    refine z_getR (pc := 29) C zc9 h7 3 (by decide) rfl wf_X9_34 (dX9_bestHome 19 rfl) ?_
    obtain ⟨h8, H⟩ := H
    refine z_getI (pc := 32) C zc5 h8 0 (by decide) rfl wf_X9_112 (dX9_bestHome 20 rfl) ?_
    refine z_icmp_ge (pc := 35) (tgt := 64) C (dX9_bestHome 21 rfl) (by decide) (fun c9 => ?_) (fun c9 => ?_)
    · replace H := H.1 c9
      refine z_sub [0, 1] rfl ?_
      exact K64 x_2 m H
    · replace H := H.2 c9
      refine z_aload_n (pc := 38) C (dX9_bestHome 22 rfl) rfl 0 rfl ?_
      refine z_iload (pc := 39) C (dX9_bestHome 23 rfl) 3 rfl ?_
      refine zc_Vi (pc := 41) (rest := []) C YX9_leastSure wl_X9_351 (kX9_leastSure H) (by decide) h7 rfl (by decide) (dX9_bestHome 24 rfl) rfl hu1 hu2 (Nat.le_of_ble_eq_true rfl) rfl (fun r10 m11 H => ?_)
      refine z_istore (pc := 44) (i := 5) (lv2 := [(5, .int r10), (0, .ref a_0), (2, .int x_2), (3, .int x_3), (4, .int x_4)]) C (dX9_bestHome 25 rfl) (by decide) rfl ?_
      refine z_iload (pc := 46) C (dX9_bestHome 26 rfl) 0 rfl ?_
      refine z_iload_n (pc := 48) C (dX9_bestHome 27 rfl) rfl 3 rfl ?_
      refine z_icmp_le (pc := 49) (tgt := 58) C (dX9_bestHome 28 rfl) (by decide) (fun c12 => ?_) (fun c12 => ?_)
      · replace H := H.1 c12
        refine z_sub [1, 2, 3, 4] rfl ?_
        exact sX9_bestHome_J58 C hr hm hu1 hu2 ih H
      · replace H := H.2 c12
        refine z_iload (pc := 52) C (dX9_bestHome 29 rfl) 0 rfl ?_
        refine z_istore_n (pc := 54) (i := 3) (lv2 := [(3, .int r10), (5, .int r10), (0, .ref a_0), (2, .int x_2), (4, .int x_4)]) C (dX9_bestHome 30 rfl) rfl (by decide) rfl ?_
        refine z_iload (pc := 55) C (dX9_bestHome 31 rfl) 4 rfl ?_
        refine z_istore_n (pc := 57) (i := 2) (lv2 := [(2, .int x_4), (3, .int r10), (5, .int r10), (0, .ref a_0), (4, .int x_4)]) C (dX9_bestHome 32 rfl) rfl (by decide) rfl ?_
        refine z_sub [3, 0, 1, 4] rfl ?_
        exact sX9_bestHome_J58 C hr hm hu1 hu2 ih H
def wX9_bestHome (t : zT) (m : zM) (a : Nat) (Q : Int32 → zM → Prop) : Prop := (tK t a = 9 ∧ (wX9_isOpen t m a (fun r2 m3 => (wX9_withoutWorlds t m3 a r2 (fun r4 m5 => ((r4 = 0 → (∃ n17, wX9_bestHome_L26 t a Q (fun v13 m14 => (wX9_accept t m14 a v13 (fun r15 m16 => (Q r15 m16)))) n17 0 (-1) 0 m5)) ∧ (¬ r4 = 0 → (wX9_refuse t m5 a r4 (fun r18 m19 => (Q r18 m19))))))))))
set_option maxHeartbeats 4000000 in
set_option maxRecDepth 20000 in
theorem kX9_bestHome {l : Launch} {t : zT} {m : zM} {a : Nat} {Q : Int32 → zM → Prop} (H : wX9_bestHome t m a Q) : zMet l yX9_bestHome cX9_bestHome 6 (some .int) 4 0 0 t m [.ref a] (zPi t Q) := by
  refine zmet (by decide +kernel) (Nat.le_of_ble_eq_true rfl) ?_
  intro p e s mt args below meth c g C hr hm
  unfold wX9_bestHome at H
  have hu1 : ((0, 0) : Nat × Nat).1 ≤ 0 := Nat.le_refl 0
  have hu2 : ((0, 0) : Nat × Nat).2 ≤ 0 := Nat.le_refl 0
  refine z_aload_n (pc := 0) C (dX9_bestHome 0 rfl) rfl 0 rfl ?_
  refine z_aload_n (pc := 1) C (dX9_bestHome 1 rfl) rfl 0 rfl ?_
  obtain ⟨h1, H⟩ := H
  refine zc_Vi (pc := 2) (rest := [.ref a]) C YX9_isOpen wl_X9_151 (kX9_isOpen H) (by decide) h1 rfl (by decide) (dX9_bestHome 2 rfl) rfl hu1 hu2 (Nat.le_of_ble_eq_true rfl) rfl (fun r2 m3 H => ?_)
  refine zc_Vi (pc := 5) (rest := []) C YX9_withoutWorlds wl_X9_174 (kX9_withoutWorlds H) (by decide) h1 rfl (by decide) (dX9_bestHome 3 rfl) rfl hu1 hu2 (Nat.le_of_ble_eq_true rfl) rfl (fun r4 m5 H => ?_)
  refine z_istore_n (pc := 8) (i := 1) (lv2 := [(1, .int r4), (0, .ref a)]) C (dX9_bestHome 4 rfl) rfl (by decide) rfl ?_
  refine z_iload_n (pc := 9) C (dX9_bestHome 5 rfl) rfl 0 rfl ?_
  refine z_if_eq (pc := 10) (tgt := 19) C (dX9_bestHome 6 rfl) (by decide) (fun c6 => ?_) (fun c6 => ?_)
  · replace H := H.1 c6
    refine z_iconst (pc := 19) (v := 0) C (dX9_bestHome 11 rfl) (by decide) ?_
    refine z_istore_n (pc := 20) (i := 2) (lv2 := [(2, .int 0), (1, .int r4), (0, .ref a)]) C (dX9_bestHome 12 rfl) rfl (by decide) rfl ?_
    refine z_iconst (pc := 21) (v := (-1)) C (dX9_bestHome 13 rfl) (by decide) ?_
    refine z_istore_n (pc := 22) (i := 3) (lv2 := [(3, .int (-1)), (2, .int 0), (1, .int r4), (0, .ref a)]) C (dX9_bestHome 14 rfl) rfl (by decide) rfl ?_
    refine z_iconst (pc := 23) (v := 0) C (dX9_bestHome 15 rfl) (by decide) ?_
    refine z_istore (pc := 24) (i := 4) (lv2 := [(4, .int 0), (3, .int (-1)), (2, .int 0), (1, .int r4), (0, .ref a)]) C (dX9_bestHome 16 rfl) (by decide) rfl ?_
    obtain ⟨n17, H⟩ := H
    refine z_sub [4, 2, 1, 0] rfl ?_
    refine sX9_bestHome_L26 C hr hm hu1 hu2 (fun v13 m14 H => ?_) n17 0 (-1) 0 m5 H
    refine z_aload_n (pc := 64) C (dX9_bestHome 35 rfl) rfl 0 rfl ?_
    refine z_iload_n (pc := 65) C (dX9_bestHome 36 rfl) rfl 1 rfl ?_
    refine zc_Vi (pc := 66) (rest := []) C YX9_accept wl_X9_117 (kX9_accept H) (by decide) h1 rfl (by decide) (dX9_bestHome 37 rfl) rfl hu1 hu2 (Nat.le_of_ble_eq_true rfl) rfl (fun r15 m16 H => ?_)
    exact z_iret (pc := 69) C hr hu1 hu2 (dX9_bestHome 38 rfl) ⟨rfl, _, rfl, H⟩
  · replace H := H.2 c6
    refine z_aload_n (pc := 13) C (dX9_bestHome 7 rfl) rfl 1 rfl ?_
    refine z_iload_n (pc := 14) C (dX9_bestHome 8 rfl) rfl 0 rfl ?_
    refine zc_Vi (pc := 15) (rest := []) C YX9_refuse wl_X9_93 (kX9_refuse H) (by decide) h1 rfl (by decide) (dX9_bestHome 9 rfl) rfl hu1 hu2 (Nat.le_of_ble_eq_true rfl) rfl (fun r18 m19 H => ?_)
    exact z_iret (pc := 18) C hr hu1 hu2 (dX9_bestHome 10 rfl) ⟨rfl, _, rfl, H⟩
def wX9_suresBy (t : zT) (m : zM) (a : Nat) (p1 : Int32) (Q : Int32 → zM → Prop) : Prop := (tK t a = 9 ∧ (tK t (gR m a 3) = 5 ∧ (wX5_allSayings t m (gR m a 3) (fun r3 m4 => (tK t (gR m4 a 3) = 5 ∧ (tK t (gR m a 1) = 0 ∧ (wX0_judge t m4 (gR m a 1) r3 (p1 &&& (gI m4 (gR m4 a 3) 12)) (gR m4 a 9) (fun m8 => (tK t (gR m8 a 9) = 4 ∧ (((gI m8 (gR m8 a 9) 2) = 0 → (Q (-1) m8)) ∧ (¬ (gI m8 (gR m8 a 9) 2) = 0 → (tK t (gR m8 a 2) = 8 ∧ (wX8_sureIn t m8 (gR m8 a 2) (gR m8 a 9) (fun r12 m13 => (wJ6_bitCount_0f7a4 t m13 r12 (fun r14 m15 => (Q r14 m15)))))))))))))))))
set_option maxHeartbeats 4000000 in
set_option maxRecDepth 20000 in
theorem kX9_suresBy {l : Launch} {t : zT} {m : zM} {a : Nat} {p1 : Int32} {Q : Int32 → zM → Prop} (H : wX9_suresBy t m a p1 Q) : zMet l yX9_suresBy cX9_suresBy 2 (some .int) 4 0 0 t m [.ref a, .int p1] (zPi t Q) := by
  refine zmet (by decide +kernel) (Nat.le_of_ble_eq_true rfl) ?_
  intro p e s mt args below meth c g C hr hm
  unfold wX9_suresBy at H
  have hu1 : ((0, 0) : Nat × Nat).1 ≤ 0 := Nat.le_refl 0
  have hu2 : ((0, 0) : Nat × Nat).2 ≤ 0 := Nat.le_refl 0
  refine z_aload_n (pc := 0) C (dX9_suresBy 0 rfl) rfl 0 rfl ?_
  obtain ⟨h1, H⟩ := H
  refine z_getR (pc := 1) C zc9 h1 1 (by decide) rfl wf_X9_19 (dX9_suresBy 1 rfl) ?_
  refine z_aload_n (pc := 4) C (dX9_suresBy 2 rfl) rfl 0 rfl ?_
  refine z_getR (pc := 5) C zc9 h1 3 (by decide) rfl wf_X9_34 (dX9_suresBy 3 rfl) ?_
  obtain ⟨h2, H⟩ := H
  refine zc_Vi (pc := 8) (rest := [.ref (gR m a 1)]) C YX5_allSayings wl_X9_127 (kX5_allSayings H) (by decide) h2 rfl (by decide) (dX9_suresBy 4 rfl) rfl hu1 hu2 (Nat.le_of_ble_eq_true rfl) rfl (fun r3 m4 H => ?_)
  refine z_iload_n (pc := 11) C (dX9_suresBy 5 rfl) rfl 1 rfl ?_
  refine z_aload_n (pc := 12) C (dX9_suresBy 6 rfl) rfl 0 rfl ?_
  refine z_getR (pc := 13) C zc9 h1 3 (by decide) rfl wf_X9_34 (dX9_suresBy 7 rfl) ?_
  obtain ⟨h5, H⟩ := H
  refine z_getI (pc := 16) C zc5 h5 12 (by decide) rfl wf_X9_131 (dX9_suresBy 8 rfl) ?_
  refine z_iand (pc := 19) C (dX9_suresBy 9 rfl) ?_
  refine z_aload_n (pc := 20) C (dX9_suresBy 10 rfl) rfl 0 rfl ?_
  refine z_getR (pc := 21) C zc9 h1 9 (by decide) rfl wf_X9_68 (dX9_suresBy 11 rfl) ?_
  obtain ⟨h6, H⟩ := H
  refine zc_Vv (pc := 24) (rest := []) C YX0_judge wl_X9_134 (kX0_judge H) (by decide) h6 rfl (by decide) (dX9_suresBy 12 rfl) rfl hu1 hu2 (Nat.le_of_ble_eq_true rfl) rfl (fun m8 H => ?_)
  refine z_aload_n (pc := 27) C (dX9_suresBy 13 rfl) rfl 0 rfl ?_
  refine z_getR (pc := 28) C zc9 h1 9 (by decide) rfl wf_X9_68 (dX9_suresBy 14 rfl) ?_
  obtain ⟨h9, H⟩ := H
  refine z_getI (pc := 31) C zc4 h9 2 (by decide) rfl wf_X9_158 (dX9_suresBy 15 rfl) ?_
  refine z_if_ne (pc := 34) (tgt := 41) C (dX9_suresBy 16 rfl) (by decide) (fun c10 => ?_) (fun c10 => ?_)
  · replace H := H.2 c10
    refine z_aload_n (pc := 41) C (dX9_suresBy 19 rfl) rfl 0 rfl ?_
    refine z_getR (pc := 42) C zc9 h1 2 (by decide) rfl wf_X9_27 (dX9_suresBy 20 rfl) ?_
    refine z_aload_n (pc := 45) C (dX9_suresBy 21 rfl) rfl 0 rfl ?_
    refine z_getR (pc := 46) C zc9 h1 9 (by decide) rfl wf_X9_68 (dX9_suresBy 22 rfl) ?_
    obtain ⟨h11, H⟩ := H
    refine zc_Vi (pc := 49) (rest := []) C YX8_sureIn wl_X9_197 (kX8_sureIn H) (by decide) h11 rfl (by decide) (dX9_suresBy 23 rfl) rfl hu1 hu2 (Nat.le_of_ble_eq_true rfl) rfl (fun r12 m13 H => ?_)
    refine zc_Si (pc := 52) (rest := []) C YJ6_bitCount_0f7a4 wl_X9_260 (kJ6_bitCount_0f7a4 H) (by decide) (dX9_suresBy 24 rfl) rfl hu1 hu2 (Nat.le_of_ble_eq_true rfl) rfl (fun r14 m15 H => ?_)
    exact z_iret (pc := 55) C hr hu1 hu2 (dX9_suresBy 25 rfl) ⟨rfl, _, rfl, H⟩
  · replace H := H.1 c10
    refine z_iconst (pc := 37) (v := (-1)) C (dX9_suresBy 17 rfl) (by decide) ?_
    refine z_goto (pc := 38) (tgt := 55) C (dX9_suresBy 18 rfl) (by decide) ?_
    exact z_iret (pc := 55) C hr hu1 hu2 (dX9_suresBy 25 rfl) ⟨rfl, _, rfl, H⟩
def wX9_byLaws_J23 (t : zT) (m : zM) (a_0 : Nat) (Q : Int32 → zM → Prop) : Prop := (tK t a_0 = 9 ∧ (wX9_refuse t m a_0 2 (fun r7 m8 => (Q r7 m8))))
set_option maxHeartbeats 4000000 in
set_option maxRecDepth 20000 in
theorem sX9_byLaws_J23 {p : Program} {l : Launch} {e : Env} {s : State} {mt : MethodId} {args : Array Value} {below : List Frame} {meth : Method} {c : Code} {g : zG} {u : Nat × Nat} {mc ms : Nat} {t : zT} {m : zM} {a_0 : Nat} {Q : Int32 → zM → Prop} (C : zC p (zRm 5 mc ms) s mt args meth c g cX9_byLaws 3 yX9_byLaws.cls 5) (hr : meth.sig.returnType = (some .int)) (hm : meth.name = yX9_byLaws.name) (hu1 : u.1 ≤ mc) (hu2 : u.2 ≤ ms) (H : wX9_byLaws_J23 t m a_0 Q) : zW p l e (zRm 5 mc ms) s mt args below meth c g (MQ below (zQc g (zPi t Q)) args s mc ms (zFar g)) u 3 t m 23 [(0, .ref a_0)] [] := by
  unfold wX9_byLaws_J23 at H
  refine z_aload_n (pc := 23) C (dX9_byLaws 12 rfl) rfl 0 rfl ?_
  refine z_iconst (pc := 24) (v := 2) C (dX9_byLaws 13 rfl) (by decide) ?_
  obtain ⟨h6, H⟩ := H
  refine zc_Vi (pc := 25) (rest := []) C YX9_refuse wl_X9_93 (kX9_refuse H) (by decide) h6 rfl (by decide) (dX9_byLaws 14 rfl) rfl hu1 hu2 (Nat.le_of_ble_eq_true rfl) rfl (fun r7 m8 H => ?_)
  exact z_iret (pc := 28) C hr hu1 hu2 (dX9_byLaws 15 rfl) ⟨rfl, _, rfl, H⟩
def wX9_byLaws (t : zT) (m : zM) (a : Nat) (p1 : Int32) (Q : Int32 → zM → Prop) : Prop := (tK t a = 9 ∧ (wX9_isOpen t m a (fun r2 m3 => ((r2 = 0 → (wX9_refuse t m3 a 1 (fun r17 m18 => (Q r17 m18)))) ∧ (¬ r2 = 0 → ((p1 < 0 → (wX9_byLaws_J23 t m3 a Q)) ∧ (¬ p1 < 0 → ((p1 ≤ 7 → (wX9_suresBy t m3 a p1 (fun r10 m11 => (((0 : Int32) ≤ r10 → (wX9_accept t m11 a r10 (fun r13 m14 => (Q r13 m14)))) ∧ (¬ (0 : Int32) ≤ r10 → (wX9_refuse t m11 a 6 (fun r15 m16 => (Q r15 m16)))))))) ∧ (¬ p1 ≤ 7 → (wX9_byLaws_J23 t m3 a Q))))))))))
set_option maxHeartbeats 4000000 in
set_option maxRecDepth 20000 in
theorem kX9_byLaws {l : Launch} {t : zT} {m : zM} {a : Nat} {p1 : Int32} {Q : Int32 → zM → Prop} (H : wX9_byLaws t m a p1 Q) : zMet l yX9_byLaws cX9_byLaws 3 (some .int) 5 0 0 t m [.ref a, .int p1] (zPi t Q) := by
  refine zmet (by decide +kernel) (Nat.le_of_ble_eq_true rfl) ?_
  intro p e s mt args below meth c g C hr hm
  unfold wX9_byLaws at H
  have hu1 : ((0, 0) : Nat × Nat).1 ≤ 0 := Nat.le_refl 0
  have hu2 : ((0, 0) : Nat × Nat).2 ≤ 0 := Nat.le_refl 0
  refine z_aload_n (pc := 0) C (dX9_byLaws 0 rfl) rfl 0 rfl ?_
  obtain ⟨h1, H⟩ := H
  refine zc_Vi (pc := 1) (rest := []) C YX9_isOpen wl_X9_151 (kX9_isOpen H) (by decide) h1 rfl (by decide) (dX9_byLaws 1 rfl) rfl hu1 hu2 (Nat.le_of_ble_eq_true rfl) rfl (fun r2 m3 H => ?_)
  refine z_if_ne (pc := 4) (tgt := 13) C (dX9_byLaws 2 rfl) (by decide) (fun c4 => ?_) (fun c4 => ?_)
  · replace H := H.2 c4
    refine z_iload_n (pc := 13) C (dX9_byLaws 7 rfl) rfl 1 rfl ?_
    refine z_if_lt (pc := 14) (tgt := 23) C (dX9_byLaws 8 rfl) (by decide) (fun c5 => ?_) (fun c5 => ?_)
    · replace H := H.1 c5
      refine z_sub [0] rfl ?_
      exact sX9_byLaws_J23 C hr hm hu1 hu2 H
    · replace H := H.2 c5
      refine z_iload_n (pc := 17) C (dX9_byLaws 9 rfl) rfl 1 rfl ?_
      refine z_bipush (pc := 18) (v := 7) C (dX9_byLaws 10 rfl) (by decide) ?_
      refine z_icmp_le (pc := 20) (tgt := 29) C (dX9_byLaws 11 rfl) (by decide) (fun c9 => ?_) (fun c9 => ?_)
      · replace H := H.1 c9
        refine z_aload_n (pc := 29) C (dX9_byLaws 16 rfl) rfl 0 rfl ?_
        refine z_iload_n (pc := 30) C (dX9_byLaws 17 rfl) rfl 1 rfl ?_
        refine zc_Vi (pc := 31) (rest := []) C YX9_suresBy wl_X9_361 (kX9_suresBy H) (by decide) h1 rfl (by decide) (dX9_byLaws 18 rfl) rfl hu1 hu2 (Nat.le_of_ble_eq_true rfl) rfl (fun r10 m11 H => ?_)
        refine z_istore_n (pc := 34) (i := 2) (lv2 := [(2, .int r10), (0, .ref a), (1, .int p1)]) C (dX9_byLaws 19 rfl) rfl (by decide) rfl ?_
        refine z_iload_n (pc := 35) C (dX9_byLaws 20 rfl) rfl 0 rfl ?_
        refine z_if_ge (pc := 36) (tgt := 48) C (dX9_byLaws 21 rfl) (by decide) (fun c12 => ?_) (fun c12 => ?_)
        · replace H := H.1 c12
          refine z_aload_n (pc := 48) C (dX9_byLaws 26 rfl) rfl 1 rfl ?_
          refine z_iload_n (pc := 49) C (dX9_byLaws 27 rfl) rfl 0 rfl ?_
          refine zc_Vi (pc := 50) (rest := []) C YX9_accept wl_X9_117 (kX9_accept H) (by decide) h1 rfl (by decide) (dX9_byLaws 28 rfl) rfl hu1 hu2 (Nat.le_of_ble_eq_true rfl) rfl (fun r13 m14 H => ?_)
          exact z_iret (pc := 53) C hr hu1 hu2 (dX9_byLaws 29 rfl) ⟨rfl, _, rfl, H⟩
        · replace H := H.2 c12
          refine z_aload_n (pc := 39) C (dX9_byLaws 22 rfl) rfl 1 rfl ?_
          refine z_bipush (pc := 40) (v := 6) C (dX9_byLaws 23 rfl) (by decide) ?_
          refine zc_Vi (pc := 42) (rest := []) C YX9_refuse wl_X9_93 (kX9_refuse H) (by decide) h1 rfl (by decide) (dX9_byLaws 24 rfl) rfl hu1 hu2 (Nat.le_of_ble_eq_true rfl) rfl (fun r15 m16 H => ?_)
          refine z_goto (pc := 45) (tgt := 53) C (dX9_byLaws 25 rfl) (by decide) ?_
          exact z_iret (pc := 53) C hr hu1 hu2 (dX9_byLaws 29 rfl) ⟨rfl, _, rfl, H⟩
      · replace H := H.2 c9
        refine z_sub [0] rfl ?_
        exact sX9_byLaws_J23 C hr hm hu1 hu2 H
  · replace H := H.1 c4
    refine z_aload_n (pc := 7) C (dX9_byLaws 3 rfl) rfl 0 rfl ?_
    refine z_iconst (pc := 8) (v := 1) C (dX9_byLaws 4 rfl) (by decide) ?_
    refine zc_Vi (pc := 9) (rest := []) C YX9_refuse wl_X9_93 (kX9_refuse H) (by decide) h1 rfl (by decide) (dX9_byLaws 5 rfl) rfl hu1 hu2 (Nat.le_of_ble_eq_true rfl) rfl (fun r17 m18 H => ?_)
    exact z_iret (pc := 12) C hr hu1 hu2 (dX9_byLaws 6 rfl) ⟨rfl, _, rfl, H⟩
def wX9_cheapest_J99 (t : zT) (m : zM) (a_0 : Nat) (x_1 : Int32) (x_2 : Int32) (x_3 : Int32) (Q : Int32 → zM → Prop) (r47 : Int32 → Int32 → zM → Prop) : Prop := (r47 x_2 (x_3 + (-1)) m)
set_option maxHeartbeats 4000000 in
set_option maxRecDepth 20000 in
theorem sX9_cheapest_J99 {p : Program} {l : Launch} {e : Env} {s : State} {mt : MethodId} {args : Array Value} {below : List Frame} {meth : Method} {c : Code} {g : zG} {u : Nat × Nat} {mc ms : Nat} {t : zT} {m : zM} {a_0 : Nat} {x_1 : Int32} {x_2 : Int32} {x_3 : Int32} {Q : Int32 → zM → Prop} {r47 : Int32 → Int32 → zM → Prop} (C : zC p (zRm 5 mc ms) s mt args meth c g cX9_cheapest 5 yX9_cheapest.cls 5) (hr : meth.sig.returnType = (some .int)) (hm : meth.name = yX9_cheapest.name) (hu1 : u.1 ≤ mc) (hu2 : u.2 ≤ ms)
    (R47 : ∀ (v0 : Int32) (v1 : Int32) (m : zM), r47 v0 v1 m → zW p l e (zRm 5 mc ms) s mt args below meth c g (MQ below (zQc g (zPi t Q)) args s mc ms (zFar g)) u 5 t m 47 [(0, .ref a_0), (1, .int x_1), (2, .int v0), (3, .int v1)] []) (H : wX9_cheapest_J99 t m a_0 x_1 x_2 x_3 Q r47) : zW p l e (zRm 5 mc ms) s mt args below meth c g (MQ below (zQc g (zPi t Q)) args s mc ms (zFar g)) u 5 t m 99 [(0, .ref a_0), (1, .int x_1), (2, .int x_2), (3, .int x_3)] [] := by
  unfold wX9_cheapest_J99 at H
  refine z_iinc (pc := 99) (i := 3) (v := x_3 + (-1)) (lv2 := [(3, .int (x_3 + (-1))), (0, .ref a_0), (1, .int x_1), (2, .int x_2)]) C (dX9_cheapest 53 rfl) 3 rfl (by rfl) (by decide) rfl ?_
  refine z_goto (pc := 102) (tgt := 47) C (dX9_cheapest 54 rfl) (by decide) ?_
  refine z_sub [1, 2, 3, 0] rfl ?_
  exact R47 x_2 (x_3 + (-1)) m H
def wX9_cheapest_J70 (t : zT) (m : zM) (a_0 : Nat) (x_1 : Int32) (x_2 : Int32) (x_3 : Int32) (s_0 : Int32) (Q : Int32 → zM → Prop) (r47 : Int32 → Int32 → zM → Prop) : Prop := ((s_0 = 0 → (wX9_cheapest_J99 t m a_0 x_1 x_2 x_3 Q r47)) ∧ (¬ s_0 = 0 → (wJ6_bitCount_0f7a4 t m x_3 (fun r16 m17 => (wJ6_bitCount_0f7a4 t m17 x_2 (fun r18 m19 => ((r18 < r16 → (wX9_cheapest_J99 t m19 a_0 x_1 x_2 x_3 Q r47)) ∧ (¬ r18 < r16 → (tK t a_0 = 9 ∧ (wX9_suresBy t m19 a_0 x_3 (fun r22 m23 => ((r22 = x_1 → (wX9_cheapest_J99 t m23 a_0 x_1 x_3 x_3 Q r47)) ∧ (¬ r22 = x_1 → (wX9_cheapest_J99 t m23 a_0 x_1 x_2 x_3 Q r47))))))))))))))
set_option maxHeartbeats 4000000 in
set_option maxRecDepth 20000 in
theorem sX9_cheapest_J70 {p : Program} {l : Launch} {e : Env} {s : State} {mt : MethodId} {args : Array Value} {below : List Frame} {meth : Method} {c : Code} {g : zG} {u : Nat × Nat} {mc ms : Nat} {t : zT} {m : zM} {a_0 : Nat} {x_1 : Int32} {x_2 : Int32} {x_3 : Int32} {s_0 : Int32} {Q : Int32 → zM → Prop} {r47 : Int32 → Int32 → zM → Prop} (C : zC p (zRm 5 mc ms) s mt args meth c g cX9_cheapest 5 yX9_cheapest.cls 5) (hr : meth.sig.returnType = (some .int)) (hm : meth.name = yX9_cheapest.name) (hu1 : u.1 ≤ mc) (hu2 : u.2 ≤ ms)
    (R47 : ∀ (v0 : Int32) (v1 : Int32) (m : zM), r47 v0 v1 m → zW p l e (zRm 5 mc ms) s mt args below meth c g (MQ below (zQc g (zPi t Q)) args s mc ms (zFar g)) u 5 t m 47 [(0, .ref a_0), (1, .int x_1), (2, .int v0), (3, .int v1)] []) (H : wX9_cheapest_J70 t m a_0 x_1 x_2 x_3 s_0 Q r47) : zW p l e (zRm 5 mc ms) s mt args below meth c g (MQ below (zQc g (zPi t Q)) args s mc ms (zFar g)) u 5 t m 70 [(0, .ref a_0), (1, .int x_1), (2, .int x_2), (3, .int x_3)] [.int s_0] := by
  unfold wX9_cheapest_J70 at H
  refine z_istore (pc := 70) (i := 4) (lv2 := [(4, .int s_0), (0, .ref a_0), (1, .int x_1), (2, .int x_2), (3, .int x_3)]) C (dX9_cheapest 38 rfl) (by decide) rfl ?_
  refine z_iload (pc := 72) C (dX9_cheapest 39 rfl) 0 rfl ?_
  refine z_if_eq (pc := 74) (tgt := 99) C (dX9_cheapest 40 rfl) (by decide) (fun c15 => ?_) (fun c15 => ?_)
  · replace H := H.1 c15
    refine z_sub [1, 2, 3, 4] rfl ?_
    exact sX9_cheapest_J99 C hr hm hu1 hu2 R47 H
  · replace H := H.2 c15
    refine z_iload_n (pc := 77) C (dX9_cheapest 41 rfl) rfl 4 rfl ?_
    refine zc_Si (pc := 78) (rest := []) C YJ6_bitCount_0f7a4 wl_X9_260 (kJ6_bitCount_0f7a4 H) (by decide) (dX9_cheapest 42 rfl) rfl hu1 hu2 (Nat.le_of_ble_eq_true rfl) rfl (fun r16 m17 H => ?_)
    refine z_iload_n (pc := 81) C (dX9_cheapest 43 rfl) rfl 3 rfl ?_
    refine zc_Si (pc := 82) (rest := [.int r16]) C YJ6_bitCount_0f7a4 wl_X9_260 (kJ6_bitCount_0f7a4 H) (by decide) (dX9_cheapest 44 rfl) rfl hu1 hu2 (Nat.le_of_ble_eq_true rfl) rfl (fun r18 m19 H => ?_)
    refine z_icmp_gt (pc := 85) (tgt := 99) C (dX9_cheapest 45 rfl) (by decide) (fun c20 => ?_) (fun c20 => ?_)
    · replace H := H.1 c20
      refine z_sub [1, 2, 3, 4] rfl ?_
      exact sX9_cheapest_J99 C hr hm hu1 hu2 R47 H
    · replace H := H.2 c20
      refine z_aload_n (pc := 88) C (dX9_cheapest 46 rfl) rfl 1 rfl ?_
      refine z_iload_n (pc := 89) C (dX9_cheapest 47 rfl) rfl 4 rfl ?_
      obtain ⟨h21, H⟩ := H
      refine zc_Vi (pc := 90) (rest := []) C YX9_suresBy wl_X9_361 (kX9_suresBy H) (by decide) h21 rfl (by decide) (dX9_cheapest 48 rfl) rfl hu1 hu2 (Nat.le_of_ble_eq_true rfl) rfl (fun r22 m23 H => ?_)
      refine z_iload_n (pc := 93) C (dX9_cheapest 49 rfl) rfl 2 rfl ?_
      refine z_icmp_ne (pc := 94) (tgt := 99) C (dX9_cheapest 50 rfl) (by decide) (fun c24 => ?_) (fun c24 => ?_)
      · replace H := H.2 c24
        refine z_sub [1, 2, 3, 4] rfl ?_
        exact sX9_cheapest_J99 C hr hm hu1 hu2 R47 H
      · replace H := H.1 c24
        refine z_iload_n (pc := 97) C (dX9_cheapest 51 rfl) rfl 4 rfl ?_
        refine z_istore_n (pc := 98) (i := 2) (lv2 := [(2, .int x_3), (4, .int s_0), (0, .ref a_0), (1, .int x_1), (3, .int x_3)]) C (dX9_cheapest 52 rfl) rfl (by decide) rfl ?_
        refine z_sub [2, 3, 0, 4] rfl ?_
        exact sX9_cheapest_J99 C hr hm hu1 hu2 R47 H
def wX9_cheapest_L47 (t : zT) (a_0 : Nat) (x_1 : Int32) (Q : Int32 → zM → Prop) (k105 : Int32 → zM → Prop) : Nat → Int32 → Int32 → zM → Prop
  | 0, _, _, _ => False
  | n + 1, x_2, x_3, m => ((x_3 < 0 → (k105 x_2 m)) ∧ (¬ x_3 < 0 → (tK t a_0 = 9 ∧ (tK t (gR m a_0 3) = 5 ∧ (((x_3 &&& ((gI m (gR m a_0 3) 12) ^^^ (-1))) = 0 → (wX9_cheapest_J70 t m a_0 x_1 x_2 x_3 1 Q (wX9_cheapest_L47 t a_0 x_1 Q k105 n))) ∧ (¬ (x_3 &&& ((gI m (gR m a_0 3) 12) ^^^ (-1))) = 0 → (wX9_cheapest_J70 t m a_0 x_1 x_2 x_3 0 Q (wX9_cheapest_L47 t a_0 x_1 Q k105 n))))))))
set_option maxHeartbeats 4000000 in
set_option maxRecDepth 20000 in
theorem sX9_cheapest_L47 {p : Program} {l : Launch} {e : Env} {s : State} {mt : MethodId} {args : Array Value} {below : List Frame} {meth : Method} {c : Code} {g : zG} {u : Nat × Nat} {mc ms : Nat} {t : zT} {a_0 : Nat} {x_1 : Int32} {Q : Int32 → zM → Prop} {k105 : Int32 → zM → Prop} (C : zC p (zRm 5 mc ms) s mt args meth c g cX9_cheapest 5 yX9_cheapest.cls 5) (hr : meth.sig.returnType = (some .int)) (hm : meth.name = yX9_cheapest.name) (hu1 : u.1 ≤ mc) (hu2 : u.2 ≤ ms)
    (K105 : ∀ (v0 : Int32) (m : zM), k105 v0 m → zW p l e (zRm 5 mc ms) s mt args below meth c g (MQ below (zQc g (zPi t Q)) args s mc ms (zFar g)) u 5 t m 105 [(0, .ref a_0), (2, .int v0)] []) : ∀ (n : Nat) (x_2 : Int32) (x_3 : Int32) (m : zM), wX9_cheapest_L47 t a_0 x_1 Q k105 n x_2 x_3 m → zW p l e (zRm 5 mc ms) s mt args below meth c g (MQ below (zQc g (zPi t Q)) args s mc ms (zFar g)) u 5 t m 47 [(0, .ref a_0), (1, .int x_1), (2, .int x_2), (3, .int x_3)] [] := by
  intro n
  induction n with
  | zero => intro x_2 x_3 m H; exact H.elim
  | succ n ih =>
    intro x_2 x_3 m H
    simp only [wX9_cheapest_L47] at H
    refine z_iload_n (pc := 47) C (dX9_cheapest 25 rfl) rfl 3 rfl ?_
    refine z_if_lt (pc := 48) (tgt := 105) C (dX9_cheapest 26 rfl) (by decide) (fun c11 => ?_) (fun c11 => ?_)
    · replace H := H.1 c11
      refine z_sub [0, 2] rfl ?_
      exact K105 x_2 m H
    · replace H := H.2 c11
      refine z_iload_n (pc := 51) C (dX9_cheapest 27 rfl) rfl 3 rfl ?_
      refine z_aload_n (pc := 52) C (dX9_cheapest 28 rfl) rfl 0 rfl ?_
      obtain ⟨h12, H⟩ := H
      refine z_getR (pc := 53) C zc9 h12 3 (by decide) rfl wf_X9_34 (dX9_cheapest 29 rfl) ?_
      obtain ⟨h13, H⟩ := H
      refine z_getI (pc := 56) C zc5 h13 12 (by decide) rfl wf_X9_131 (dX9_cheapest 30 rfl) ?_
      refine z_iconst (pc := 59) (v := (-1)) C (dX9_cheapest 31 rfl) (by decide) ?_
      refine z_ixor (pc := 60) C (dX9_cheapest 32 rfl) ?_
      refine z_iand (pc := 61) C (dX9_cheapest 33 rfl) ?_
      refine z_if_ne (pc := 62) (tgt := 69) C (dX9_cheapest 34 rfl) (by decide) (fun c14 => ?_) (fun c14 => ?_)
      · replace H := H.2 c14
        refine z_iconst (pc := 69) (v := 0) C (dX9_cheapest 37 rfl) (by decide) ?_
        refine z_sub [0, 1, 2, 3] rfl ?_
        exact sX9_cheapest_J70 C hr hm hu1 hu2 ih H
      · replace H := H.1 c14
        refine z_iconst (pc := 65) (v := 1) C (dX9_cheapest 35 rfl) (by decide) ?_
        refine z_goto (pc := 66) (tgt := 70) C (dX9_cheapest 36 rfl) (by decide) ?_
        refine z_sub [0, 1, 2, 3] rfl ?_
        exact sX9_cheapest_J70 C hr hm hu1 hu2 ih H
def wX9_cheapest (t : zT) (m : zM) (a : Nat) (Q : Int32 → zM → Prop) : Prop := (tK t a = 9 ∧ (wX9_isOpen t m a (fun r2 m3 => ((r2 = 0 → (wX9_refuse t m3 a 1 (fun r32 m33 => (Q r32 m33)))) ∧ (¬ r2 = 0 → (tK t (gR m3 a 3) = 5 ∧ (wX9_suresBy t m3 a (gI m3 (gR m3 a 3) 12) (fun r6 m7 => (((0 : Int32) ≤ r6 → (tK t (gR m7 a 3) = 5 ∧ (∀ x10 : Int32, x10 = (gI m7 (gR m7 a 3) 12) → ((∃ n29, wX9_cheapest_L47 t a r6 Q (fun v25 m26 => (wX9_accept t m26 a v25 (fun r27 m28 => (Q r27 m28)))) n29 x10 7 m7))))) ∧ (¬ (0 : Int32) ≤ r6 → (wX9_refuse t m7 a 6 (fun r30 m31 => (Q r30 m31)))))))))))))
set_option maxHeartbeats 4000000 in
set_option maxRecDepth 20000 in
theorem kX9_cheapest {l : Launch} {t : zT} {m : zM} {a : Nat} {Q : Int32 → zM → Prop} (H : wX9_cheapest t m a Q) : zMet l yX9_cheapest cX9_cheapest 5 (some .int) 5 0 0 t m [.ref a] (zPi t Q) := by
  refine zmet (by decide +kernel) (Nat.le_of_ble_eq_true rfl) ?_
  intro p e s mt args below meth c g C hr hm
  unfold wX9_cheapest at H
  have hu1 : ((0, 0) : Nat × Nat).1 ≤ 0 := Nat.le_refl 0
  have hu2 : ((0, 0) : Nat × Nat).2 ≤ 0 := Nat.le_refl 0
  refine z_aload_n (pc := 0) C (dX9_cheapest 0 rfl) rfl 0 rfl ?_
  obtain ⟨h1, H⟩ := H
  refine zc_Vi (pc := 1) (rest := []) C YX9_isOpen wl_X9_151 (kX9_isOpen H) (by decide) h1 rfl (by decide) (dX9_cheapest 1 rfl) rfl hu1 hu2 (Nat.le_of_ble_eq_true rfl) rfl (fun r2 m3 H => ?_)
  refine z_if_ne (pc := 4) (tgt := 13) C (dX9_cheapest 2 rfl) (by decide) (fun c4 => ?_) (fun c4 => ?_)
  · replace H := H.2 c4
    refine z_aload_n (pc := 13) C (dX9_cheapest 7 rfl) rfl 0 rfl ?_
    refine z_aload_n (pc := 14) C (dX9_cheapest 8 rfl) rfl 0 rfl ?_
    refine z_getR (pc := 15) C zc9 h1 3 (by decide) rfl wf_X9_34 (dX9_cheapest 9 rfl) ?_
    obtain ⟨h5, H⟩ := H
    refine z_getI (pc := 18) C zc5 h5 12 (by decide) rfl wf_X9_131 (dX9_cheapest 10 rfl) ?_
    refine zc_Vi (pc := 21) (rest := []) C YX9_suresBy wl_X9_361 (kX9_suresBy H) (by decide) h1 rfl (by decide) (dX9_cheapest 11 rfl) rfl hu1 hu2 (Nat.le_of_ble_eq_true rfl) rfl (fun r6 m7 H => ?_)
    refine z_istore_n (pc := 24) (i := 1) (lv2 := [(1, .int r6), (0, .ref a)]) C (dX9_cheapest 12 rfl) rfl (by decide) rfl ?_
    refine z_iload_n (pc := 25) C (dX9_cheapest 13 rfl) rfl 0 rfl ?_
    refine z_if_ge (pc := 26) (tgt := 36) C (dX9_cheapest 14 rfl) (by decide) (fun c8 => ?_) (fun c8 => ?_)
    · replace H := H.1 c8
      refine z_aload_n (pc := 36) C (dX9_cheapest 19 rfl) rfl 1 rfl ?_
      refine z_getR (pc := 37) C zc9 h1 3 (by decide) rfl wf_X9_34 (dX9_cheapest 20 rfl) ?_
      obtain ⟨h9, H⟩ := H
      refine z_getI (pc := 40) C zc5 h9 12 (by decide) rfl wf_X9_131 (dX9_cheapest 21 rfl) ?_
      refine z_int (fun x10 hx10 => ?_)
      replace H := H x10 hx10
      refine z_istore_n (pc := 43) (i := 2) (lv2 := [(2, .int x10), (1, .int r6), (0, .ref a)]) C (dX9_cheapest 22 rfl) rfl (by decide) rfl ?_
      refine z_bipush (pc := 44) (v := 7) C (dX9_cheapest 23 rfl) (by decide) ?_
      refine z_istore_n (pc := 46) (i := 3) (lv2 := [(3, .int 7), (2, .int x10), (1, .int r6), (0, .ref a)]) C (dX9_cheapest 24 rfl) rfl (by decide) rfl ?_
      obtain ⟨n29, H⟩ := H
      refine z_sub [3, 2, 1, 0] rfl ?_
      refine sX9_cheapest_L47 C hr hm hu1 hu2 (fun v25 m26 H => ?_) n29 x10 7 m7 H
      refine z_aload_n (pc := 105) C (dX9_cheapest 55 rfl) rfl 0 rfl ?_
      refine z_iload_n (pc := 106) C (dX9_cheapest 56 rfl) rfl 1 rfl ?_
      refine zc_Vi (pc := 107) (rest := []) C YX9_accept wl_X9_117 (kX9_accept H) (by decide) h1 rfl (by decide) (dX9_cheapest 57 rfl) rfl hu1 hu2 (Nat.le_of_ble_eq_true rfl) rfl (fun r27 m28 H => ?_)
      exact z_iret (pc := 110) C hr hu1 hu2 (dX9_cheapest 58 rfl) ⟨rfl, _, rfl, H⟩
    · replace H := H.2 c8
      refine z_aload_n (pc := 29) C (dX9_cheapest 15 rfl) rfl 1 rfl ?_
      refine z_bipush (pc := 30) (v := 6) C (dX9_cheapest 16 rfl) (by decide) ?_
      refine zc_Vi (pc := 32) (rest := []) C YX9_refuse wl_X9_93 (kX9_refuse H) (by decide) h1 rfl (by decide) (dX9_cheapest 17 rfl) rfl hu1 hu2 (Nat.le_of_ble_eq_true rfl) rfl (fun r30 m31 H => ?_)
      exact z_iret (pc := 35) C hr hu1 hu2 (dX9_cheapest 18 rfl) ⟨rfl, _, rfl, H⟩
  · replace H := H.1 c4
    refine z_aload_n (pc := 7) C (dX9_cheapest 3 rfl) rfl 0 rfl ?_
    refine z_iconst (pc := 8) (v := 1) C (dX9_cheapest 4 rfl) (by decide) ?_
    refine zc_Vi (pc := 9) (rest := []) C YX9_refuse wl_X9_93 (kX9_refuse H) (by decide) h1 rfl (by decide) (dX9_cheapest 5 rfl) rfl hu1 hu2 (Nat.le_of_ble_eq_true rfl) rfl (fun r32 m33 H => ?_)
    exact z_iret (pc := 12) C hr hu1 hu2 (dX9_cheapest 6 rfl) ⟨rfl, _, rfl, H⟩
def wX9_within (t : zT) (m : zM) (p1 : Int32) (p2 : Int32) (Q : Int32 → zM → Prop) : Prop := ((p1 < 0 → (Q 0 m)) ∧ (¬ p1 < 0 → ((p2 < p1 → (Q 0 m)) ∧ (¬ p2 < p1 → (Q 1 m)))))
set_option maxHeartbeats 4000000 in
set_option maxRecDepth 20000 in
theorem kX9_within {l : Launch} {t : zT} {m : zM} {p1 : Int32} {p2 : Int32} {Q : Int32 → zM → Prop} (H : wX9_within t m p1 p2 Q) : zMet l yX9_within cX9_within 2 (some .boolean) 0 0 0 t m [.int p1, .int p2] (zPi t Q) := by
  refine zmet (by decide +kernel) (Nat.le_of_ble_eq_true rfl) ?_
  intro p e s mt args below meth c g C hr hm
  unfold wX9_within at H
  have hu1 : ((0, 0) : Nat × Nat).1 ≤ 0 := Nat.le_refl 0
  have hu2 : ((0, 0) : Nat × Nat).2 ≤ 0 := Nat.le_refl 0
  refine z_iload_n (pc := 0) C (dX9_within 0 rfl) rfl 0 rfl ?_
  refine z_if_lt (pc := 1) (tgt := 13) C (dX9_within 1 rfl) (by decide) (fun c1 => ?_) (fun c1 => ?_)
  · replace H := H.1 c1
    refine z_iconst (pc := 13) (v := 0) C (dX9_within 7 rfl) (by decide) ?_
    exact z_zret (pc := 14) C hr (by decide) hu1 hu2 (dX9_within 8 rfl) ⟨rfl, _, rfl, H⟩
  · replace H := H.2 c1
    refine z_iload_n (pc := 4) C (dX9_within 2 rfl) rfl 0 rfl ?_
    refine z_iload_n (pc := 5) C (dX9_within 3 rfl) rfl 1 rfl ?_
    refine z_icmp_gt (pc := 6) (tgt := 13) C (dX9_within 4 rfl) (by decide) (fun c2 => ?_) (fun c2 => ?_)
    · replace H := H.1 c2
      refine z_iconst (pc := 13) (v := 0) C (dX9_within 7 rfl) (by decide) ?_
      exact z_zret (pc := 14) C hr (by decide) hu1 hu2 (dX9_within 8 rfl) ⟨rfl, _, rfl, H⟩
    · replace H := H.2 c2
      refine z_iconst (pc := 9) (v := 1) C (dX9_within 5 rfl) (by decide) ?_
      refine z_goto (pc := 10) (tgt := 14) C (dX9_within 6 rfl) (by decide) ?_
      exact z_zret (pc := 14) C hr (by decide) hu1 hu2 (dX9_within 8 rfl) ⟨rfl, _, rfl, H⟩
def wX9_afterYears_L6 (t : zT) (x_1 : Int32) (x_2 : Int32) (Q : Int32 → zM → Prop) (k71 : Int64 → zM → Prop) : Nat → Int64 → Int32 → zM → Prop
  | 0, _, _, _ => False
  | n + 1, y_3, x_5, m => ((x_2 ≤ x_5 → (k71 y_3 m)) ∧ (¬ x_2 ≤ x_5 → (∀ x2 : Int64, x2 = ((y_3 * y_3) / 1000000) → ((∀ x3 : Int64, x3 = (((2 * y_3) * (1000000 - y_3)) / 1000000) → ((∀ x4 : Int64, x4 = ((x3 * x_1.toInt64) / 100) → ((∀ x5 : Int64, x5 = ((x2 + x4) + ((x3 - x4) / 2)) → ((wX9_afterYears_L6 t x_1 x_2 Q k71 n x5 (x_5 + 1) m)))))))))))
set_option maxHeartbeats 4000000 in
set_option maxRecDepth 20000 in
theorem sX9_afterYears_L6 {p : Program} {l : Launch} {e : Env} {s : State} {mt : MethodId} {args : Array Value} {below : List Frame} {meth : Method} {c : Code} {g : zG} {u : Nat × Nat} {mc ms : Nat} {t : zT} {x_1 : Int32} {x_2 : Int32} {Q : Int32 → zM → Prop} {k71 : Int64 → zM → Prop} (C : zC p (zRm 0 mc ms) s mt args meth c g cX9_afterYears 12 yX9_afterYears.cls 0) (hr : meth.sig.returnType = (some .int)) (hm : meth.name = yX9_afterYears.name) (hu1 : u.1 ≤ mc) (hu2 : u.2 ≤ ms)
    (K71 : ∀ (v0 : Int64) (m : zM), k71 v0 m → zW p l e (zRm 0 mc ms) s mt args below meth c g (MQ below (zQc g (zPi t Q)) args s mc ms (zFar g)) u 12 t m 71 [(3, .long v0)] []) : ∀ (n : Nat) (y_3 : Int64) (x_5 : Int32) (m : zM), wX9_afterYears_L6 t x_1 x_2 Q k71 n y_3 x_5 m → zW p l e (zRm 0 mc ms) s mt args below meth c g (MQ below (zQc g (zPi t Q)) args s mc ms (zFar g)) u 12 t m 6 [(1, .int x_1), (2, .int x_2), (3, .long y_3), (5, .int x_5)] [] := by
  intro n
  induction n with
  | zero => intro y_3 x_5 m H; exact H.elim
  | succ n ih =>
    intro y_3 x_5 m H
    simp only [wX9_afterYears_L6] at H
    refine z_iload (pc := 6) C (dX9_afterYears 5 rfl) 3 rfl ?_
    refine z_iload_n (pc := 8) C (dX9_afterYears 6 rfl) rfl 1 rfl ?_
    refine z_icmp_ge (pc := 9) (tgt := 71) C (dX9_afterYears 7 rfl) (by decide) (fun c1 => ?_) (fun c1 => ?_)
    · replace H := H.1 c1
      refine z_sub [2] rfl ?_
      exact K71 y_3 m H
    · replace H := H.2 c1
      refine z_lload_n (pc := 12) C (dX9_afterYears 8 rfl) rfl 2 rfl ?_
      refine z_lload_n (pc := 13) C (dX9_afterYears 9 rfl) rfl 2 rfl ?_
      refine z_lmul (pc := 14) C (dX9_afterYears 10 rfl) ?_
      refine z_ldc2 (pc := 15) C wj_X9_371 (dX9_afterYears 11 rfl) ?_
      refine z_ldiv (pc := 18) C (hne := by decide) (dX9_afterYears 12 rfl) ?_
      refine z_long (fun x2 hx2 => ?_)
      replace H := H x2 hx2
      refine z_lstore (pc := 19) (i := 6) (lv2 := [(6, .long x2), (1, .int x_1), (2, .int x_2), (3, .long y_3), (5, .int x_5)]) C (dX9_afterYears 13 rfl) (by decide) rfl ?_
      refine z_ldc2 (pc := 21) C wj_X9_373 (dX9_afterYears 14 rfl) ?_
      refine z_lload_n (pc := 24) C (dX9_afterYears 15 rfl) rfl 3 rfl ?_
      refine z_lmul (pc := 25) C (dX9_afterYears 16 rfl) ?_
      refine z_ldc2 (pc := 26) C wj_X9_371 (dX9_afterYears 17 rfl) ?_
      refine z_lload_n (pc := 29) C (dX9_afterYears 18 rfl) rfl 3 rfl ?_
      refine z_lsub (pc := 30) C (dX9_afterYears 19 rfl) ?_
      refine z_lmul (pc := 31) C (dX9_afterYears 20 rfl) ?_
      refine z_ldc2 (pc := 32) C wj_X9_371 (dX9_afterYears 21 rfl) ?_
      refine z_ldiv (pc := 35) C (hne := by decide) (dX9_afterYears 22 rfl) ?_
      refine z_long (fun x3 hx3 => ?_)
      replace H := H x3 hx3
      refine z_lstore (pc := 36) (i := 8) (lv2 := [(8, .long x3), (6, .long x2), (1, .int x_1), (2, .int x_2), (3, .long y_3), (5, .int x_5)]) C (dX9_afterYears 23 rfl) (by decide) rfl ?_
      refine z_lload (pc := 38) C (dX9_afterYears 24 rfl) 0 rfl ?_
      refine z_iload_n (pc := 40) C (dX9_afterYears 25 rfl) rfl 2 rfl ?_
      refine z_i2l (pc := 41) C (dX9_afterYears 26 rfl) ?_
      refine z_lmul (pc := 42) C (dX9_afterYears 27 rfl) ?_
      refine z_ldc2 (pc := 43) C wj_X9_375 (dX9_afterYears 28 rfl) ?_
      refine z_ldiv (pc := 46) C (hne := by decide) (dX9_afterYears 29 rfl) ?_
      refine z_long (fun x4 hx4 => ?_)
      replace H := H x4 hx4
      refine z_lstore (pc := 47) (i := 10) (lv2 := [(10, .long x4), (8, .long x3), (6, .long x2), (1, .int x_1), (2, .int x_2), (3, .long y_3), (5, .int x_5)]) C (dX9_afterYears 30 rfl) (by decide) rfl ?_
      refine z_lload (pc := 49) C (dX9_afterYears 31 rfl) 2 rfl ?_
      refine z_lload (pc := 51) C (dX9_afterYears 32 rfl) 0 rfl ?_
      refine z_ladd (pc := 53) C (dX9_afterYears 33 rfl) ?_
      refine z_lload (pc := 54) C (dX9_afterYears 34 rfl) 1 rfl ?_
      refine z_lload (pc := 56) C (dX9_afterYears 35 rfl) 0 rfl ?_
      refine z_lsub (pc := 58) C (dX9_afterYears 36 rfl) ?_
      refine z_ldc2 (pc := 59) C wj_X9_373 (dX9_afterYears 37 rfl) ?_
      refine z_ldiv (pc := 62) C (hne := by decide) (dX9_afterYears 38 rfl) ?_
      refine z_ladd (pc := 63) C (dX9_afterYears 39 rfl) ?_
      refine z_long (fun x5 hx5 => ?_)
      replace H := H x5 hx5
      refine z_lstore_n (pc := 64) (i := 3) (lv2 := [(3, .long x5), (10, .long x4), (8, .long x3), (6, .long x2), (1, .int x_1), (2, .int x_2), (5, .int x_5)]) C (dX9_afterYears 40 rfl) rfl (by decide) rfl ?_
      refine z_iinc (pc := 65) (i := 5) (v := x_5 + 1) (lv2 := [(5, .int (x_5 + 1)), (3, .long x5), (10, .long x4), (8, .long x3), (6, .long x2), (1, .int x_1), (2, .int x_2)]) C (dX9_afterYears 41 rfl) 6 rfl (by rfl) (by decide) rfl ?_
      refine z_goto (pc := 68) (tgt := 6) C (dX9_afterYears 42 rfl) (by decide) ?_
      refine z_sub [5, 6, 1, 0] rfl ?_
      exact ih x5 (x_5 + 1) m H
def wX9_afterYears (t : zT) (m : zM) (p1 : Int32) (p2 : Int32) (p3 : Int32) (Q : Int32 → zM → Prop) : Prop := (∃ n8, wX9_afterYears_L6 t p2 p3 Q (fun v6 m7 => (Q v6.toInt32 m7)) n8 p1.toInt64 0 m)
set_option maxHeartbeats 4000000 in
set_option maxRecDepth 20000 in
theorem kX9_afterYears {l : Launch} {t : zT} {m : zM} {p1 : Int32} {p2 : Int32} {p3 : Int32} {Q : Int32 → zM → Prop} (H : wX9_afterYears t m p1 p2 p3 Q) : zMet l yX9_afterYears cX9_afterYears 12 (some .int) 0 0 0 t m [.int p1, .int p2, .int p3] (zPi t Q) := by
  refine zmet (by decide +kernel) (Nat.le_of_ble_eq_true rfl) ?_
  intro p e s mt args below meth c g C hr hm
  unfold wX9_afterYears at H
  have hu1 : ((0, 0) : Nat × Nat).1 ≤ 0 := Nat.le_refl 0
  have hu2 : ((0, 0) : Nat × Nat).2 ≤ 0 := Nat.le_refl 0
  refine z_iload_n (pc := 0) C (dX9_afterYears 0 rfl) rfl 0 rfl ?_
  refine z_i2l (pc := 1) C (dX9_afterYears 1 rfl) ?_
  refine z_lstore_n (pc := 2) (i := 3) (lv2 := [(3, .long p1.toInt64), (0, .int p1), (1, .int p2), (2, .int p3)]) C (dX9_afterYears 2 rfl) rfl (by decide) rfl ?_
  refine z_iconst (pc := 3) (v := 0) C (dX9_afterYears 3 rfl) (by decide) ?_
  refine z_istore (pc := 4) (i := 5) (lv2 := [(5, .int 0), (3, .long p1.toInt64), (0, .int p1), (1, .int p2), (2, .int p3)]) C (dX9_afterYears 4 rfl) (by decide) rfl ?_
  obtain ⟨n8, H⟩ := H
  refine z_sub [3, 4, 1, 0] rfl ?_
  refine sX9_afterYears_L6 C hr hm hu1 hu2 (fun v6 m7 H => ?_) n8 p1.toInt64 0 m H
  refine z_lload_n (pc := 71) C (dX9_afterYears 43 rfl) rfl 0 rfl ?_
  refine z_l2i (pc := 72) C (dX9_afterYears 44 rfl) ?_
  exact z_iret (pc := 73) C hr hu1 hu2 (dX9_afterYears 45 rfl) ⟨rfl, _, rfl, H⟩
def wX9_years_J28 (t : zT) (m : zM) (a_0 : Nat) (Q : Int32 → zM → Prop) : Prop := (tK t a_0 = 9 ∧ (wX9_refuse t m a_0 2 (fun r5 m6 => (Q r5 m6))))
set_option maxHeartbeats 4000000 in
set_option maxRecDepth 20000 in
theorem sX9_years_J28 {p : Program} {l : Launch} {e : Env} {s : State} {mt : MethodId} {args : Array Value} {below : List Frame} {meth : Method} {c : Code} {g : zG} {u : Nat × Nat} {mc ms : Nat} {t : zT} {m : zM} {a_0 : Nat} {Q : Int32 → zM → Prop} (C : zC p (zRm 1 mc ms) s mt args meth c g cX9_years 4 yX9_years.cls 1) (hr : meth.sig.returnType = (some .int)) (hm : meth.name = yX9_years.name) (hu1 : u.1 ≤ mc) (hu2 : u.2 ≤ ms) (H : wX9_years_J28 t m a_0 Q) : zW p l e (zRm 1 mc ms) s mt args below meth c g (MQ below (zQc g (zPi t Q)) args s mc ms (zFar g)) u 4 t m 28 [(0, .ref a_0)] [] := by
  unfold wX9_years_J28 at H
  refine z_aload_n (pc := 28) C (dX9_years 12 rfl) rfl 0 rfl ?_
  refine z_iconst (pc := 29) (v := 2) C (dX9_years 13 rfl) (by decide) ?_
  obtain ⟨h4, H⟩ := H
  refine zc_Vi (pc := 30) (rest := []) C YX9_refuse wl_X9_93 (kX9_refuse H) (by decide) h4 rfl (by decide) (dX9_years 14 rfl) rfl hu1 hu2 (Nat.le_of_ble_eq_true rfl) rfl (fun r5 m6 H => ?_)
  exact z_iret (pc := 33) C hr hu1 hu2 (dX9_years 15 rfl) ⟨rfl, _, rfl, H⟩
def wX9_years (t : zT) (m : zM) (a : Nat) (p1 : Int32) (p2 : Int32) (p3 : Int32) (Q : Int32 → zM → Prop) : Prop := (wX9_within t m p1 1000000 (fun r1 m2 => ((r1 = 0 → (wX9_years_J28 t m2 a Q)) ∧ (¬ r1 = 0 → (wX9_within t m2 p2 100 (fun r7 m8 => ((r7 = 0 → (wX9_years_J28 t m8 a Q)) ∧ (¬ r7 = 0 → (wX9_within t m8 p3 40 (fun r10 m11 => ((r10 = 0 → (wX9_years_J28 t m11 a Q)) ∧ (¬ r10 = 0 → (wX9_afterYears t m11 p1 p2 p3 (fun r13 m14 => (tK t a = 9 ∧ (wX9_accept t m14 a r13 (fun r16 m17 => (Q r16 m17))))))))))))))))))
set_option maxHeartbeats 4000000 in
set_option maxRecDepth 20000 in
theorem kX9_years {l : Launch} {t : zT} {m : zM} {a : Nat} {p1 : Int32} {p2 : Int32} {p3 : Int32} {Q : Int32 → zM → Prop} (H : wX9_years t m a p1 p2 p3 Q) : zMet l yX9_years cX9_years 4 (some .int) 1 0 0 t m [.ref a, .int p1, .int p2, .int p3] (zPi t Q) := by
  refine zmet (by decide +kernel) (Nat.le_of_ble_eq_true rfl) ?_
  intro p e s mt args below meth c g C hr hm
  unfold wX9_years at H
  have hu1 : ((0, 0) : Nat × Nat).1 ≤ 0 := Nat.le_refl 0
  have hu2 : ((0, 0) : Nat × Nat).2 ≤ 0 := Nat.le_refl 0
  refine z_iload_n (pc := 0) C (dX9_years 0 rfl) rfl 1 rfl ?_
  refine z_ldcw (pc := 1) C wk_X9_364 (dX9_years 1 rfl) ?_
  refine zc_Si (pc := 4) (rest := []) C YX9_within wl_X9_365 (kX9_within H) (by decide) (dX9_years 2 rfl) rfl hu1 hu2 (Nat.le_of_ble_eq_true rfl) rfl (fun r1 m2 H => ?_)
  refine z_if_eq (pc := 7) (tgt := 28) C (dX9_years 3 rfl) (by decide) (fun c3 => ?_) (fun c3 => ?_)
  · replace H := H.1 c3
    refine z_sub [0] rfl ?_
    exact sX9_years_J28 C hr hm hu1 hu2 H
  · replace H := H.2 c3
    refine z_iload_n (pc := 10) C (dX9_years 4 rfl) rfl 2 rfl ?_
    refine z_bipush (pc := 11) (v := 100) C (dX9_years 5 rfl) (by decide) ?_
    refine zc_Si (pc := 13) (rest := []) C YX9_within wl_X9_365 (kX9_within H) (by decide) (dX9_years 6 rfl) rfl hu1 hu2 (Nat.le_of_ble_eq_true rfl) rfl (fun r7 m8 H => ?_)
    refine z_if_eq (pc := 16) (tgt := 28) C (dX9_years 7 rfl) (by decide) (fun c9 => ?_) (fun c9 => ?_)
    · replace H := H.1 c9
      refine z_sub [0] rfl ?_
      exact sX9_years_J28 C hr hm hu1 hu2 H
    · replace H := H.2 c9
      refine z_iload_n (pc := 19) C (dX9_years 8 rfl) rfl 3 rfl ?_
      refine z_bipush (pc := 20) (v := 40) C (dX9_years 9 rfl) (by decide) ?_
      refine zc_Si (pc := 22) (rest := []) C YX9_within wl_X9_365 (kX9_within H) (by decide) (dX9_years 10 rfl) rfl hu1 hu2 (Nat.le_of_ble_eq_true rfl) rfl (fun r10 m11 H => ?_)
      refine z_if_ne (pc := 25) (tgt := 34) C (dX9_years 11 rfl) (by decide) (fun c12 => ?_) (fun c12 => ?_)
      · replace H := H.2 c12
        refine z_aload_n (pc := 34) C (dX9_years 16 rfl) rfl 0 rfl ?_
        refine z_iload_n (pc := 35) C (dX9_years 17 rfl) rfl 1 rfl ?_
        refine z_iload_n (pc := 36) C (dX9_years 18 rfl) rfl 2 rfl ?_
        refine z_iload_n (pc := 37) C (dX9_years 19 rfl) rfl 3 rfl ?_
        refine zc_Si (pc := 38) (rest := [.ref a]) C YX9_afterYears wl_X9_368 (kX9_afterYears H) (by decide) (dX9_years 20 rfl) rfl hu1 hu2 (Nat.le_of_ble_eq_true rfl) rfl (fun r13 m14 H => ?_)
        obtain ⟨h15, H⟩ := H
        refine zc_Vi (pc := 41) (rest := []) C YX9_accept wl_X9_117 (kX9_accept H) (by decide) h15 rfl (by decide) (dX9_years 21 rfl) rfl hu1 hu2 (Nat.le_of_ble_eq_true rfl) rfl (fun r16 m17 H => ?_)
        exact z_iret (pc := 44) C hr hu1 hu2 (dX9_years 22 rfl) ⟨rfl, _, rfl, H⟩
      · replace H := H.1 c12
        refine z_sub [0] rfl ?_
        exact sX9_years_J28 C hr hm hu1 hu2 H
def wX9_still_J29 (t : zT) (m : zM) (a_0 : Nat) (Q : Int32 → zM → Prop) : Prop := (tK t a_0 = 9 ∧ (wX9_refuse t m a_0 2 (fun r5 m6 => (Q r5 m6))))
set_option maxHeartbeats 4000000 in
set_option maxRecDepth 20000 in
theorem sX9_still_J29 {p : Program} {l : Launch} {e : Env} {s : State} {mt : MethodId} {args : Array Value} {below : List Frame} {meth : Method} {c : Code} {g : zG} {u : Nat × Nat} {mc ms : Nat} {t : zT} {m : zM} {a_0 : Nat} {Q : Int32 → zM → Prop} (C : zC p (zRm 1 mc ms) s mt args meth c g cX9_still 5 yX9_still.cls 1) (hr : meth.sig.returnType = (some .int)) (hm : meth.name = yX9_still.name) (hu1 : u.1 ≤ mc) (hu2 : u.2 ≤ ms) (H : wX9_still_J29 t m a_0 Q) : zW p l e (zRm 1 mc ms) s mt args below meth c g (MQ below (zQc g (zPi t Q)) args s mc ms (zFar g)) u 5 t m 29 [(0, .ref a_0)] [] := by
  unfold wX9_still_J29 at H
  refine z_aload_n (pc := 29) C (dX9_still 12 rfl) rfl 0 rfl ?_
  refine z_iconst (pc := 30) (v := 2) C (dX9_still 13 rfl) (by decide) ?_
  obtain ⟨h4, H⟩ := H
  refine zc_Vi (pc := 31) (rest := []) C YX9_refuse wl_X9_93 (kX9_refuse H) (by decide) h4 rfl (by decide) (dX9_still 14 rfl) rfl hu1 hu2 (Nat.le_of_ble_eq_true rfl) rfl (fun r5 m6 H => ?_)
  exact z_iret (pc := 34) C hr hu1 hu2 (dX9_still 15 rfl) ⟨rfl, _, rfl, H⟩
def wX9_still_L38 (t : zT) (a_0 : Nat) (x_1 : Int32) (x_2 : Int32) (x_3 : Int32) (Q : Int32 → zM → Prop) (k69 : zM → Prop) : Nat → Int32 → zM → Prop
  | 0, _, _ => False
  | n + 1, x_4, m => (((100 : Int32) < x_4 → (k69 m)) ∧ (¬ (100 : Int32) < x_4 → (wX9_afterYears t m x_1 x_4 x_2 (fun r14 m15 => ((r14 < x_3 → (wX9_still_L38 t a_0 x_1 x_2 x_3 Q k69 n (x_4 + 1) m15)) ∧ (¬ r14 < x_3 → (tK t a_0 = 9 ∧ (wX9_accept t m15 a_0 x_4 (fun r18 m19 => (Q r18 m19))))))))))
set_option maxHeartbeats 4000000 in
set_option maxRecDepth 20000 in
theorem sX9_still_L38 {p : Program} {l : Launch} {e : Env} {s : State} {mt : MethodId} {args : Array Value} {below : List Frame} {meth : Method} {c : Code} {g : zG} {u : Nat × Nat} {mc ms : Nat} {t : zT} {a_0 : Nat} {x_1 : Int32} {x_2 : Int32} {x_3 : Int32} {Q : Int32 → zM → Prop} {k69 : zM → Prop} (C : zC p (zRm 1 mc ms) s mt args meth c g cX9_still 5 yX9_still.cls 1) (hr : meth.sig.returnType = (some .int)) (hm : meth.name = yX9_still.name) (hu1 : u.1 ≤ mc) (hu2 : u.2 ≤ ms)
    (K69 : ∀ (m : zM), k69 m → zW p l e (zRm 1 mc ms) s mt args below meth c g (MQ below (zQc g (zPi t Q)) args s mc ms (zFar g)) u 5 t m 69 [(0, .ref a_0)] []) : ∀ (n : Nat) (x_4 : Int32) (m : zM), wX9_still_L38 t a_0 x_1 x_2 x_3 Q k69 n x_4 m → zW p l e (zRm 1 mc ms) s mt args below meth c g (MQ below (zQc g (zPi t Q)) args s mc ms (zFar g)) u 5 t m 38 [(0, .ref a_0), (1, .int x_1), (2, .int x_2), (3, .int x_3), (4, .int x_4)] [] := by
  intro n
  induction n with
  | zero => intro x_4 m H; exact H.elim
  | succ n ih =>
    intro x_4 m H
    simp only [wX9_still_L38] at H
    refine z_iload (pc := 38) C (dX9_still 18 rfl) 4 rfl ?_
    refine z_bipush (pc := 40) (v := 100) C (dX9_still 19 rfl) (by decide) ?_
    refine z_icmp_gt (pc := 42) (tgt := 69) C (dX9_still 20 rfl) (by decide) (fun c13 => ?_) (fun c13 => ?_)
    · replace H := H.1 c13
      refine z_sub [0] rfl ?_
      exact K69 m H
    · replace H := H.2 c13
      refine z_iload_n (pc := 45) C (dX9_still 21 rfl) rfl 1 rfl ?_
      refine z_iload (pc := 46) C (dX9_still 22 rfl) 4 rfl ?_
      refine z_iload_n (pc := 48) C (dX9_still 23 rfl) rfl 2 rfl ?_
      refine zc_Si (pc := 49) (rest := []) C YX9_afterYears wl_X9_368 (kX9_afterYears H) (by decide) (dX9_still 24 rfl) rfl hu1 hu2 (Nat.le_of_ble_eq_true rfl) rfl (fun r14 m15 H => ?_)
      refine z_iload_n (pc := 52) C (dX9_still 25 rfl) rfl 3 rfl ?_
      refine z_icmp_lt (pc := 53) (tgt := 63) C (dX9_still 26 rfl) (by decide) (fun c16 => ?_) (fun c16 => ?_)
      · replace H := H.1 c16
        refine z_iinc (pc := 63) (i := 4) (v := x_4 + 1) (lv2 := [(4, .int (x_4 + 1)), (0, .ref a_0), (1, .int x_1), (2, .int x_2), (3, .int x_3)]) C (dX9_still 31 rfl) 4 rfl (by rfl) (by decide) rfl ?_
        refine z_goto (pc := 66) (tgt := 38) C (dX9_still 32 rfl) (by decide) ?_
        refine z_sub [1, 2, 3, 4, 0] rfl ?_
        exact ih (x_4 + 1) m15 H
      · replace H := H.2 c16
        refine z_aload_n (pc := 56) C (dX9_still 27 rfl) rfl 0 rfl ?_
        refine z_iload (pc := 57) C (dX9_still 28 rfl) 4 rfl ?_
        obtain ⟨h17, H⟩ := H
        refine zc_Vi (pc := 59) (rest := []) C YX9_accept wl_X9_117 (kX9_accept H) (by decide) h17 rfl (by decide) (dX9_still 29 rfl) rfl hu1 hu2 (Nat.le_of_ble_eq_true rfl) rfl (fun r18 m19 H => ?_)
        exact z_iret (pc := 62) C hr hu1 hu2 (dX9_still 30 rfl) ⟨rfl, _, rfl, H⟩
def wX9_still (t : zT) (m : zM) (a : Nat) (p1 : Int32) (p2 : Int32) (p3 : Int32) (Q : Int32 → zM → Prop) : Prop := (wX9_within t m p1 1000000 (fun r1 m2 => ((r1 = 0 → (wX9_still_J29 t m2 a Q)) ∧ (¬ r1 = 0 → (wX9_within t m2 p2 40 (fun r7 m8 => ((r7 = 0 → (wX9_still_J29 t m8 a Q)) ∧ (¬ r7 = 0 → (wX9_within t m8 p3 1000000 (fun r10 m11 => ((r10 = 0 → (wX9_still_J29 t m11 a Q)) ∧ (¬ r10 = 0 → (∃ n24, wX9_still_L38 t a p1 p2 p3 Q (fun m20 => (tK t a = 9 ∧ (wX9_accept t m20 a (-2) (fun r22 m23 => (Q r22 m23))))) n24 0 m11)))))))))))))
set_option maxHeartbeats 4000000 in
set_option maxRecDepth 20000 in
theorem kX9_still {l : Launch} {t : zT} {m : zM} {a : Nat} {p1 : Int32} {p2 : Int32} {p3 : Int32} {Q : Int32 → zM → Prop} (H : wX9_still t m a p1 p2 p3 Q) : zMet l yX9_still cX9_still 5 (some .int) 1 0 0 t m [.ref a, .int p1, .int p2, .int p3] (zPi t Q) := by
  refine zmet (by decide +kernel) (Nat.le_of_ble_eq_true rfl) ?_
  intro p e s mt args below meth c g C hr hm
  unfold wX9_still at H
  have hu1 : ((0, 0) : Nat × Nat).1 ≤ 0 := Nat.le_refl 0
  have hu2 : ((0, 0) : Nat × Nat).2 ≤ 0 := Nat.le_refl 0
  refine z_iload_n (pc := 0) C (dX9_still 0 rfl) rfl 1 rfl ?_
  refine z_ldcw (pc := 1) C wk_X9_364 (dX9_still 1 rfl) ?_
  refine zc_Si (pc := 4) (rest := []) C YX9_within wl_X9_365 (kX9_within H) (by decide) (dX9_still 2 rfl) rfl hu1 hu2 (Nat.le_of_ble_eq_true rfl) rfl (fun r1 m2 H => ?_)
  refine z_if_eq (pc := 7) (tgt := 29) C (dX9_still 3 rfl) (by decide) (fun c3 => ?_) (fun c3 => ?_)
  · replace H := H.1 c3
    refine z_sub [0] rfl ?_
    exact sX9_still_J29 C hr hm hu1 hu2 H
  · replace H := H.2 c3
    refine z_iload_n (pc := 10) C (dX9_still 4 rfl) rfl 2 rfl ?_
    refine z_bipush (pc := 11) (v := 40) C (dX9_still 5 rfl) (by decide) ?_
    refine zc_Si (pc := 13) (rest := []) C YX9_within wl_X9_365 (kX9_within H) (by decide) (dX9_still 6 rfl) rfl hu1 hu2 (Nat.le_of_ble_eq_true rfl) rfl (fun r7 m8 H => ?_)
    refine z_if_eq (pc := 16) (tgt := 29) C (dX9_still 7 rfl) (by decide) (fun c9 => ?_) (fun c9 => ?_)
    · replace H := H.1 c9
      refine z_sub [0] rfl ?_
      exact sX9_still_J29 C hr hm hu1 hu2 H
    · replace H := H.2 c9
      refine z_iload_n (pc := 19) C (dX9_still 8 rfl) rfl 3 rfl ?_
      refine z_ldcw (pc := 20) C wk_X9_364 (dX9_still 9 rfl) ?_
      refine zc_Si (pc := 23) (rest := []) C YX9_within wl_X9_365 (kX9_within H) (by decide) (dX9_still 10 rfl) rfl hu1 hu2 (Nat.le_of_ble_eq_true rfl) rfl (fun r10 m11 H => ?_)
      refine z_if_ne (pc := 26) (tgt := 35) C (dX9_still 11 rfl) (by decide) (fun c12 => ?_) (fun c12 => ?_)
      · replace H := H.2 c12
        refine z_iconst (pc := 35) (v := 0) C (dX9_still 16 rfl) (by decide) ?_
        refine z_istore (pc := 36) (i := 4) (lv2 := [(4, .int 0), (0, .ref a), (1, .int p1), (2, .int p2), (3, .int p3)]) C (dX9_still 17 rfl) (by decide) rfl ?_
        obtain ⟨n24, H⟩ := H
        refine z_sub [1, 2, 3, 4, 0] rfl ?_
        refine sX9_still_L38 C hr hm hu1 hu2 (fun m20 H => ?_) n24 0 m11 H
        refine z_aload_n (pc := 69) C (dX9_still 33 rfl) rfl 0 rfl ?_
        refine z_bipush (pc := 70) (v := (-2)) C (dX9_still 34 rfl) (by decide) ?_
        obtain ⟨h21, H⟩ := H
        refine zc_Vi (pc := 72) (rest := []) C YX9_accept wl_X9_117 (kX9_accept H) (by decide) h21 rfl (by decide) (dX9_still 35 rfl) rfl hu1 hu2 (Nat.le_of_ble_eq_true rfl) rfl (fun r22 m23 H => ?_)
        exact z_iret (pc := 75) C hr hu1 hu2 (dX9_still 36 rfl) ⟨rfl, _, rfl, H⟩
      · replace H := H.1 c12
        refine z_sub [0] rfl ?_
        exact sX9_still_J29 C hr hm hu1 hu2 H
def wX9_seed_J26 (t : zT) (m : zM) (a_0 : Nat) (Q : Int32 → zM → Prop) : Prop := (tK t a_0 = 9 ∧ (wX9_refuse t m a_0 2 (fun r7 m8 => (Q 0 m8))))
set_option maxHeartbeats 4000000 in
set_option maxRecDepth 20000 in
theorem sX9_seed_J26 {p : Program} {l : Launch} {e : Env} {s : State} {mt : MethodId} {args : Array Value} {below : List Frame} {meth : Method} {c : Code} {g : zG} {u : Nat × Nat} {mc ms : Nat} {t : zT} {m : zM} {a_0 : Nat} {Q : Int32 → zM → Prop} (C : zC p (zRm 1 mc ms) s mt args meth c g cX9_seed 2 yX9_seed.cls 1) (hr : meth.sig.returnType = (some .boolean)) (hm : meth.name = yX9_seed.name) (hu1 : u.1 ≤ mc) (hu2 : u.2 ≤ ms) (H : wX9_seed_J26 t m a_0 Q) : zW p l e (zRm 1 mc ms) s mt args below meth c g (MQ below (zQc g (zPi t Q)) args s mc ms (zFar g)) u 2 t m 26 [(0, .ref a_0)] [] := by
  unfold wX9_seed_J26 at H
  refine z_aload_n (pc := 26) C (dX9_seed 14 rfl) rfl 0 rfl ?_
  refine z_iconst (pc := 27) (v := 2) C (dX9_seed 15 rfl) (by decide) ?_
  obtain ⟨h6, H⟩ := H
  refine zc_Vi (pc := 28) (rest := []) C YX9_refuse wl_X9_93 (kX9_refuse H) (by decide) h6 rfl (by decide) (dX9_seed 16 rfl) rfl hu1 hu2 (Nat.le_of_ble_eq_true rfl) rfl (fun r7 m8 H => ?_)
  refine z_pop (pc := 31) C (dX9_seed 17 rfl) rfl ?_
  refine z_iconst (pc := 32) (v := 0) C (dX9_seed 18 rfl) (by decide) ?_
  exact z_zret (pc := 33) C hr (by decide) hu1 hu2 (dX9_seed 19 rfl) ⟨rfl, _, rfl, H⟩
def wX9_seed (t : zT) (m : zM) (a : Nat) (p1 : Int32) (Q : Int32 → zM → Prop) : Prop := (tK t a = 9 ∧ (wX9_isOpen t m a (fun r2 m3 => ((r2 = 0 → (wX9_refuse t m3 a 1 (fun r13 m14 => (Q 0 m14)))) ∧ (¬ r2 = 0 → ((p1 < 0 → (wX9_seed_J26 t m3 a Q)) ∧ (¬ p1 < 0 → ((p1 < 65537 → (tK t (gR m3 a 6) = 7 ∧ (wX9_accept t (pI m3 (gR m3 a 6) 0 p1) a p1 (fun r11 m12 => (Q 1 m12))))) ∧ (¬ p1 < 65537 → (wX9_seed_J26 t m3 a Q))))))))))
set_option maxHeartbeats 4000000 in
set_option maxRecDepth 20000 in
theorem kX9_seed {l : Launch} {t : zT} {m : zM} {a : Nat} {p1 : Int32} {Q : Int32 → zM → Prop} (H : wX9_seed t m a p1 Q) : zMet l yX9_seed cX9_seed 2 (some .boolean) 1 0 0 t m [.ref a, .int p1] (zPi t Q) := by
  refine zmet (by decide +kernel) (Nat.le_of_ble_eq_true rfl) ?_
  intro p e s mt args below meth c g C hr hm
  unfold wX9_seed at H
  have hu1 : ((0, 0) : Nat × Nat).1 ≤ 0 := Nat.le_refl 0
  have hu2 : ((0, 0) : Nat × Nat).2 ≤ 0 := Nat.le_refl 0
  refine z_aload_n (pc := 0) C (dX9_seed 0 rfl) rfl 0 rfl ?_
  obtain ⟨h1, H⟩ := H
  refine zc_Vi (pc := 1) (rest := []) C YX9_isOpen wl_X9_151 (kX9_isOpen H) (by decide) h1 rfl (by decide) (dX9_seed 1 rfl) rfl hu1 hu2 (Nat.le_of_ble_eq_true rfl) rfl (fun r2 m3 H => ?_)
  refine z_if_ne (pc := 4) (tgt := 15) C (dX9_seed 2 rfl) (by decide) (fun c4 => ?_) (fun c4 => ?_)
  · replace H := H.2 c4
    refine z_iload_n (pc := 15) C (dX9_seed 9 rfl) rfl 1 rfl ?_
    refine z_if_lt (pc := 16) (tgt := 26) C (dX9_seed 10 rfl) (by decide) (fun c5 => ?_) (fun c5 => ?_)
    · replace H := H.1 c5
      refine z_sub [0] rfl ?_
      exact sX9_seed_J26 C hr hm hu1 hu2 H
    · replace H := H.2 c5
      refine z_iload_n (pc := 19) C (dX9_seed 11 rfl) rfl 1 rfl ?_
      refine z_ldcw (pc := 20) C wk_X9_377 (dX9_seed 12 rfl) ?_
      refine z_icmp_lt (pc := 23) (tgt := 34) C (dX9_seed 13 rfl) (by decide) (fun c9 => ?_) (fun c9 => ?_)
      · replace H := H.1 c9
        refine z_aload_n (pc := 34) C (dX9_seed 20 rfl) rfl 0 rfl ?_
        refine z_getR (pc := 35) C zc9 h1 6 (by decide) rfl wf_X9_54 (dX9_seed 21 rfl) ?_
        refine z_iload_n (pc := 38) C (dX9_seed 22 rfl) rfl 1 rfl ?_
        obtain ⟨h10, H⟩ := H
        refine z_putI (pc := 39) C zc7 h10 0 (by decide) rfl rfl wf_X9_378 (dX9_seed 23 rfl) ?_
        refine z_aload_n (pc := 42) C (dX9_seed 24 rfl) rfl 0 rfl ?_
        refine z_iload_n (pc := 43) C (dX9_seed 25 rfl) rfl 1 rfl ?_
        refine zc_Vi (pc := 44) (rest := []) C YX9_accept wl_X9_117 (kX9_accept H) (by decide) h1 rfl (by decide) (dX9_seed 26 rfl) rfl hu1 hu2 (Nat.le_of_ble_eq_true rfl) rfl (fun r11 m12 H => ?_)
        refine z_pop (pc := 47) C (dX9_seed 27 rfl) rfl ?_
        refine z_iconst (pc := 48) (v := 1) C (dX9_seed 28 rfl) (by decide) ?_
        exact z_zret (pc := 49) C hr (by decide) hu1 hu2 (dX9_seed 29 rfl) ⟨rfl, _, rfl, H⟩
      · replace H := H.2 c9
        refine z_sub [0] rfl ?_
        exact sX9_seed_J26 C hr hm hu1 hu2 H
  · replace H := H.1 c4
    refine z_aload_n (pc := 7) C (dX9_seed 3 rfl) rfl 0 rfl ?_
    refine z_iconst (pc := 8) (v := 1) C (dX9_seed 4 rfl) (by decide) ?_
    refine zc_Vi (pc := 9) (rest := []) C YX9_refuse wl_X9_93 (kX9_refuse H) (by decide) h1 rfl (by decide) (dX9_seed 5 rfl) rfl hu1 hu2 (Nat.le_of_ble_eq_true rfl) rfl (fun r13 m14 H => ?_)
    refine z_pop (pc := 12) C (dX9_seed 6 rfl) rfl ?_
    refine z_iconst (pc := 13) (v := 0) C (dX9_seed 7 rfl) (by decide) ?_
    exact z_zret (pc := 14) C hr (by decide) hu1 hu2 (dX9_seed 8 rfl) ⟨rfl, _, rfl, H⟩
def wX9_reckonIfChanged (t : zT) (m : zM) (a : Nat) (Q : zM → Prop) : Prop := (tK t a = 9 ∧ (wX9_factsAsNumber t m a (fun r2 m3 => ((r2 = (gI m3 a 13) → (Q m3)) ∧ (¬ r2 = (gI m3 a 13) → (wX9_reckonWorlds t m3 a (fun m6 => (Q m6))))))))
set_option maxHeartbeats 4000000 in
set_option maxRecDepth 20000 in
theorem kX9_reckonIfChanged {l : Launch} {t : zT} {m : zM} {a : Nat} {Q : zM → Prop} (H : wX9_reckonIfChanged t m a Q) : zMet l yX9_reckonIfChanged cX9_reckonIfChanged 1 none 5 0 0 t m [.ref a] (zPv t Q) := by
  refine zmet (by decide +kernel) (Nat.le_of_ble_eq_true rfl) ?_
  intro p e s mt args below meth c g C hr hm
  unfold wX9_reckonIfChanged at H
  have hu1 : ((0, 0) : Nat × Nat).1 ≤ 0 := Nat.le_refl 0
  have hu2 : ((0, 0) : Nat × Nat).2 ≤ 0 := Nat.le_refl 0
  refine z_aload_n (pc := 0) C (dX9_reckonIfChanged 0 rfl) rfl 0 rfl ?_
  obtain ⟨h1, H⟩ := H
  refine zc_Vi (pc := 1) (rest := []) C YX9_factsAsNumber wl_X9_417 (kX9_factsAsNumber H) (by decide) h1 rfl (by decide) (dX9_reckonIfChanged 1 rfl) rfl hu1 hu2 (Nat.le_of_ble_eq_true rfl) rfl (fun r2 m3 H => ?_)
  refine z_aload_n (pc := 4) C (dX9_reckonIfChanged 2 rfl) rfl 0 rfl ?_
  refine z_getI (pc := 5) C zc9 h1 13 (by decide) rfl wf_X9_420 (dX9_reckonIfChanged 3 rfl) ?_
  refine z_icmp_eq (pc := 8) (tgt := 15) C (dX9_reckonIfChanged 4 rfl) (by decide) (fun c4 => ?_) (fun c4 => ?_)
  · replace H := H.1 c4
    exact z_vret (pc := 15) C hr hu1 hu2 (dX9_reckonIfChanged 7 rfl) ⟨rfl, rfl, H⟩
  · replace H := H.2 c4
    refine z_aload_n (pc := 11) C (dX9_reckonIfChanged 5 rfl) rfl 0 rfl ?_
    refine zc_Vv (pc := 12) (rest := []) C YX9_reckonWorlds wl_X9_145 (kX9_reckonWorlds H) (by decide) h1 rfl (by decide) (dX9_reckonIfChanged 6 rfl) rfl hu1 hu2 (Nat.le_of_ble_eq_true rfl) rfl (fun m6 H => ?_)
    exact z_vret (pc := 15) C hr hu1 hu2 (dX9_reckonIfChanged 7 rfl) ⟨rfl, rfl, H⟩
def wX9_draw (t : zT) (m : zM) (a : Nat) (Q : Int32 → zM → Prop) : Prop := (tK t a = 9 ∧ (wX9_isOpen t m a (fun r2 m3 => ((r2 = 0 → (wX9_refuse t m3 a 1 (fun r21 m22 => (Q r21 m22)))) ∧ (¬ r2 = 0 → (tK t (gR m3 a 7) = 4 ∧ (((gI m3 (gR m3 a 7) 2) = 0 → (wX9_refuse t m3 a 6 (fun r19 m20 => (Q r19 m20)))) ∧ (¬ (gI m3 (gR m3 a 7) 2) = 0 → (tK t (gR m3 a 6) = 7 ∧ (wX9_remainder t (pI m3 (gR m3 a 6) 0 ((((75 : Int32) * (gI m3 (gR m3 a 6) 0)) + (74 : Int32)) - (((75 : Int32) * (gI m3 (gR m3 a 6) 0)) + (74 : Int32)) / 65537 * 65537)) (gI (pI m3 (gR m3 a 6) 0 ((((75 : Int32) * (gI m3 (gR m3 a 6) 0)) + (74 : Int32)) - (((75 : Int32) * (gI m3 (gR m3 a 6) 0)) + (74 : Int32)) / 65537 * 65537)) (gR m3 a 6) 0) (gI (pI m3 (gR m3 a 6) 0 ((((75 : Int32) * (gI m3 (gR m3 a 6) 0)) + (74 : Int32)) - (((75 : Int32) * (gI m3 (gR m3 a 6) 0)) + (74 : Int32)) / 65537 * 65537)) (gR m3 a 7) 2) (fun r8 m9 => (wX4_memberAt t m9 (gR m3 a 7) r8 (fun r10 m11 => (wX7_hide t m11 (gR m3 a 6) r10 (fun m13 => (wX9_reckonIfChanged t m13 a (fun m15 => (tK t (gR m15 a 8) = 4 ∧ (wX9_accept t m15 a (gI m15 (gR m15 a 8) 2) (fun r17 m18 => (Q r17 m18)))))))))))))))))))))
set_option maxHeartbeats 4000000 in
set_option maxRecDepth 20000 in
theorem kX9_draw {l : Launch} {t : zT} {m : zM} {a : Nat} {Q : Int32 → zM → Prop} (H : wX9_draw t m a Q) : zMet l yX9_draw cX9_draw 1 (some .int) 6 0 0 t m [.ref a] (zPi t Q) := by
  refine zmet (by decide +kernel) (Nat.le_of_ble_eq_true rfl) ?_
  intro p e s mt args below meth c g C hr hm
  unfold wX9_draw at H
  have hu1 : ((0, 0) : Nat × Nat).1 ≤ 0 := Nat.le_refl 0
  have hu2 : ((0, 0) : Nat × Nat).2 ≤ 0 := Nat.le_refl 0
  refine z_aload_n (pc := 0) C (dX9_draw 0 rfl) rfl 0 rfl ?_
  obtain ⟨h1, H⟩ := H
  refine zc_Vi (pc := 1) (rest := []) C YX9_isOpen wl_X9_151 (kX9_isOpen H) (by decide) h1 rfl (by decide) (dX9_draw 1 rfl) rfl hu1 hu2 (Nat.le_of_ble_eq_true rfl) rfl (fun r2 m3 H => ?_)
  refine z_if_ne (pc := 4) (tgt := 13) C (dX9_draw 2 rfl) (by decide) (fun c4 => ?_) (fun c4 => ?_)
  · replace H := H.2 c4
    refine z_aload_n (pc := 13) C (dX9_draw 7 rfl) rfl 0 rfl ?_
    refine z_getR (pc := 14) C zc9 h1 7 (by decide) rfl wf_X9_61 (dX9_draw 8 rfl) ?_
    obtain ⟨h5, H⟩ := H
    refine z_getI (pc := 17) C zc4 h5 2 (by decide) rfl wf_X9_158 (dX9_draw 9 rfl) ?_
    refine z_if_ne (pc := 20) (tgt := 30) C (dX9_draw 10 rfl) (by decide) (fun c6 => ?_) (fun c6 => ?_)
    · replace H := H.2 c6
      refine z_aload_n (pc := 30) C (dX9_draw 15 rfl) rfl 0 rfl ?_
      refine z_getR (pc := 31) C zc9 h1 6 (by decide) rfl wf_X9_54 (dX9_draw 16 rfl) ?_
      refine z_bipush (pc := 34) (v := 75) C (dX9_draw 17 rfl) (by decide) ?_
      refine z_aload_n (pc := 36) C (dX9_draw 18 rfl) rfl 0 rfl ?_
      refine z_getR (pc := 37) C zc9 h1 6 (by decide) rfl wf_X9_54 (dX9_draw 19 rfl) ?_
      obtain ⟨h7, H⟩ := H
      refine z_getI (pc := 40) C zc7 h7 0 (by decide) rfl wf_X9_378 (dX9_draw 20 rfl) ?_
      refine z_imul (pc := 43) C (dX9_draw 21 rfl) ?_
      refine z_bipush (pc := 44) (v := 74) C (dX9_draw 22 rfl) (by decide) ?_
      refine z_iadd (pc := 46) C (dX9_draw 23 rfl) ?_
      refine z_ldcw (pc := 47) C wk_X9_377 (dX9_draw 24 rfl) ?_
      refine z_irem (pc := 50) C (hne := by decide) (dX9_draw 25 rfl) ?_
      refine z_putI (pc := 51) C zc7 h7 0 (by decide) rfl rfl wf_X9_378 (dX9_draw 26 rfl) ?_
      refine z_aload_n (pc := 54) C (dX9_draw 27 rfl) rfl 0 rfl ?_
      refine z_getR (pc := 55) C zc9 h1 6 (by decide) rfl wf_X9_54 (dX9_draw 28 rfl) ?_
      refine z_aload_n (pc := 58) C (dX9_draw 29 rfl) rfl 0 rfl ?_
      refine z_getR (pc := 59) C zc9 h1 7 (by decide) rfl wf_X9_61 (dX9_draw 30 rfl) ?_
      refine z_aload_n (pc := 62) C (dX9_draw 31 rfl) rfl 0 rfl ?_
      refine z_getR (pc := 63) C zc9 h1 6 (by decide) rfl wf_X9_54 (dX9_draw 32 rfl) ?_
      refine z_getI (pc := 66) C zc7 h7 0 (by decide) rfl wf_X9_378 (dX9_draw 33 rfl) ?_
      refine z_aload_n (pc := 69) C (dX9_draw 34 rfl) rfl 0 rfl ?_
      refine z_getR (pc := 70) C zc9 h1 7 (by decide) rfl wf_X9_61 (dX9_draw 35 rfl) ?_
      refine z_getI (pc := 73) C zc4 h5 2 (by decide) rfl wf_X9_158 (dX9_draw 36 rfl) ?_
      refine zc_Si (pc := 76) (rest := [.ref (gR m3 a 7), .ref (gR m3 a 6)]) C YX9_remainder wl_X9_381 (kX9_remainder H) (by decide) (dX9_draw 37 rfl) rfl hu1 hu2 (Nat.le_of_ble_eq_true rfl) rfl (fun r8 m9 H => ?_)
      refine zc_Vi (pc := 79) (rest := [.ref (gR m3 a 6)]) C YX4_memberAt wl_X9_161 (kX4_memberAt H) (by decide) h5 rfl (by decide) (dX9_draw 38 rfl) rfl hu1 hu2 (Nat.le_of_ble_eq_true rfl) rfl (fun r10 m11 H => ?_)
      refine zc_Vv (pc := 82) (rest := []) C YX7_hide wl_X9_384 (kX7_hide H) (by decide) h7 rfl (by decide) (dX9_draw 39 rfl) rfl hu1 hu2 (Nat.le_of_ble_eq_true rfl) rfl (fun m13 H => ?_)
      refine z_aload_n (pc := 85) C (dX9_draw 40 rfl) rfl 0 rfl ?_
      refine zc_Vv (pc := 86) (rest := []) C YX9_reckonIfChanged wl_X9_387 (kX9_reckonIfChanged H) (by decide) h1 rfl (by decide) (dX9_draw 41 rfl) rfl hu1 hu2 (Nat.le_of_ble_eq_true rfl) rfl (fun m15 H => ?_)
      refine z_aload_n (pc := 89) C (dX9_draw 42 rfl) rfl 0 rfl ?_
      refine z_aload_n (pc := 90) C (dX9_draw 43 rfl) rfl 0 rfl ?_
      refine z_getR (pc := 91) C zc9 h1 8 (by decide) rfl wf_X9_65 (dX9_draw 44 rfl) ?_
      obtain ⟨h16, H⟩ := H
      refine z_getI (pc := 94) C zc4 h16 2 (by decide) rfl wf_X9_158 (dX9_draw 45 rfl) ?_
      refine zc_Vi (pc := 97) (rest := []) C YX9_accept wl_X9_117 (kX9_accept H) (by decide) h1 rfl (by decide) (dX9_draw 46 rfl) rfl hu1 hu2 (Nat.le_of_ble_eq_true rfl) rfl (fun r17 m18 H => ?_)
      exact z_iret (pc := 100) C hr hu1 hu2 (dX9_draw 47 rfl) ⟨rfl, _, rfl, H⟩
    · replace H := H.1 c6
      refine z_aload_n (pc := 23) C (dX9_draw 11 rfl) rfl 0 rfl ?_
      refine z_bipush (pc := 24) (v := 6) C (dX9_draw 12 rfl) (by decide) ?_
      refine zc_Vi (pc := 26) (rest := []) C YX9_refuse wl_X9_93 (kX9_refuse H) (by decide) h1 rfl (by decide) (dX9_draw 13 rfl) rfl hu1 hu2 (Nat.le_of_ble_eq_true rfl) rfl (fun r19 m20 H => ?_)
      exact z_iret (pc := 29) C hr hu1 hu2 (dX9_draw 14 rfl) ⟨rfl, _, rfl, H⟩
  · replace H := H.1 c4
    refine z_aload_n (pc := 7) C (dX9_draw 3 rfl) rfl 0 rfl ?_
    refine z_iconst (pc := 8) (v := 1) C (dX9_draw 4 rfl) (by decide) ?_
    refine zc_Vi (pc := 9) (rest := []) C YX9_refuse wl_X9_93 (kX9_refuse H) (by decide) h1 rfl (by decide) (dX9_draw 5 rfl) rfl hu1 hu2 (Nat.le_of_ble_eq_true rfl) rfl (fun r21 m22 H => ?_)
    exact z_iret (pc := 12) C hr hu1 hu2 (dX9_draw 6 rfl) ⟨rfl, _, rfl, H⟩
def wX9_tries_J37 (t : zT) (m : zM) (a_0 : Nat) (Q : Int32 → zM → Prop) : Prop := (tK t a_0 = 9 ∧ (wX9_refuse t m a_0 5 (fun r10 m11 => (Q r10 m11))))
set_option maxHeartbeats 4000000 in
set_option maxRecDepth 20000 in
theorem sX9_tries_J37 {p : Program} {l : Launch} {e : Env} {s : State} {mt : MethodId} {args : Array Value} {below : List Frame} {meth : Method} {c : Code} {g : zG} {u : Nat × Nat} {mc ms : Nat} {t : zT} {m : zM} {a_0 : Nat} {Q : Int32 → zM → Prop} (C : zC p (zRm 6 mc ms) s mt args meth c g cX9_tries 2 yX9_tries.cls 6) (hr : meth.sig.returnType = (some .int)) (hm : meth.name = yX9_tries.name) (hu1 : u.1 ≤ mc) (hu2 : u.2 ≤ ms) (H : wX9_tries_J37 t m a_0 Q) : zW p l e (zRm 6 mc ms) s mt args below meth c g (MQ below (zQc g (zPi t Q)) args s mc ms (zFar g)) u 2 t m 37 [(0, .ref a_0)] [] := by
  unfold wX9_tries_J37 at H
  refine z_aload_n (pc := 37) C (dX9_tries 19 rfl) rfl 0 rfl ?_
  refine z_iconst (pc := 38) (v := 5) C (dX9_tries 20 rfl) (by decide) ?_
  obtain ⟨h9, H⟩ := H
  refine zc_Vi (pc := 39) (rest := []) C YX9_refuse wl_X9_93 (kX9_refuse H) (by decide) h9 rfl (by decide) (dX9_tries 21 rfl) rfl hu1 hu2 (Nat.le_of_ble_eq_true rfl) rfl (fun r10 m11 H => ?_)
  exact z_iret (pc := 42) C hr hu1 hu2 (dX9_tries 22 rfl) ⟨rfl, _, rfl, H⟩
def wX9_tries (t : zT) (m : zM) (a : Nat) (p1 : Int32) (Q : Int32 → zM → Prop) : Prop := (tK t a = 9 ∧ (wX9_isThing t m a p1 (fun r2 m3 => ((r2 = 0 → (wX9_refuse t m3 a 1 (fun r31 m32 => (Q r31 m32)))) ∧ (¬ r2 = 0 → (tK t (gR m3 a 3) = 5 ∧ (tK t (gR m3 (gR m3 a 3) 3) = 14 ∧ (vp_in p1 (tL t (gR m3 (gR m3 a 3) 3)) ∧ (((gI m3 (gR m3 (gR m3 a 3) 3) p1.toNatClampNeg) = 0 → (wX9_tries_J37 t m3 a Q)) ∧ (¬ (gI m3 (gR m3 (gR m3 a 3) 3) p1.toNatClampNeg) = 0 → (tK t (gR m3 a 6) = 7 ∧ (wX7_isFact t m3 (gR m3 a 6) p1 (fun r13 m14 => ((r13 = 0 → (tK t (gR m14 a 6) = 7 ∧ (((0 : Int32) ≤ (gI m14 (gR m14 a 6) 1) → (tK t (gR m14 a 3) = 5 ∧ (tK t (gR m14 (gR m14 a 3) 3) = 14 ∧ (vp_in p1 (tL t (gR m14 (gR m14 a 3) 3)) ∧ (wX9_reckonIfChanged t (pI (pI m14 (gR m14 a 6) 2 ((gI m14 (gR m14 a 6) 2) ||| ((1 : Int32) <<< (p1 &&& 31)))) (gR m14 a 6) 3 ((gI (pI m14 (gR m14 a 6) 2 ((gI m14 (gR m14 a 6) 2) ||| ((1 : Int32) <<< (p1 &&& 31)))) (gR m14 a 6) 3) + (gI (pI m14 (gR m14 a 6) 2 ((gI m14 (gR m14 a 6) 2) ||| ((1 : Int32) <<< (p1 &&& 31)))) (gR m14 (gR m14 a 3) 3) p1.toNatClampNeg))) a (fun m22 => (tK t (gR m22 a 6) = 7 ∧ (tK t (gR m22 a 2) = 8 ∧ (wX8_answerIn t m22 (gR m22 a 2) (gI m22 (gR m22 a 6) 1) p1 (fun r25 m26 => (wX9_accept t m26 a r25 (fun r27 m28 => (Q r27 m28))))))))))))) ∧ (¬ (0 : Int32) ≤ (gI m14 (gR m14 a 6) 1) → (wX9_refuse t m14 a 6 (fun r29 m30 => (Q r29 m30))))))) ∧ (¬ r13 = 0 → (wX9_tries_J37 t m14 a Q))))))))))))))))
set_option maxHeartbeats 4000000 in
set_option maxRecDepth 20000 in
theorem kX9_tries {l : Launch} {t : zT} {m : zM} {a : Nat} {p1 : Int32} {Q : Int32 → zM → Prop} (H : wX9_tries t m a p1 Q) : zMet l yX9_tries cX9_tries 2 (some .int) 6 0 0 t m [.ref a, .int p1] (zPi t Q) := by
  refine zmet (by decide +kernel) (Nat.le_of_ble_eq_true rfl) ?_
  intro p e s mt args below meth c g C hr hm
  unfold wX9_tries at H
  have hu1 : ((0, 0) : Nat × Nat).1 ≤ 0 := Nat.le_refl 0
  have hu2 : ((0, 0) : Nat × Nat).2 ≤ 0 := Nat.le_refl 0
  refine z_aload_n (pc := 0) C (dX9_tries 0 rfl) rfl 0 rfl ?_
  refine z_iload_n (pc := 1) C (dX9_tries 1 rfl) rfl 1 rfl ?_
  obtain ⟨h1, H⟩ := H
  refine zc_Vi (pc := 2) (rest := []) C YX9_isThing wl_X9_171 (kX9_isThing H) (by decide) h1 rfl (by decide) (dX9_tries 2 rfl) rfl hu1 hu2 (Nat.le_of_ble_eq_true rfl) rfl (fun r2 m3 H => ?_)
  refine z_if_ne (pc := 5) (tgt := 14) C (dX9_tries 3 rfl) (by decide) (fun c4 => ?_) (fun c4 => ?_)
  · replace H := H.2 c4
    refine z_aload_n (pc := 14) C (dX9_tries 8 rfl) rfl 0 rfl ?_
    refine z_getR (pc := 15) C zc9 h1 3 (by decide) rfl wf_X9_34 (dX9_tries 9 rfl) ?_
    obtain ⟨h5, H⟩ := H
    refine z_getR (pc := 18) C zc5 h5 3 (by decide) rfl wf_X9_390 (dX9_tries 10 rfl) ?_
    refine z_iload_n (pc := 21) C (dX9_tries 11 rfl) rfl 1 rfl ?_
    obtain ⟨h6, H⟩ := H
    obtain ⟨h7, H⟩ := H
    refine z_iaload (pc := 22) C h6 h7 (dX9_tries 12 rfl) ?_
    refine z_if_eq (pc := 23) (tgt := 37) C (dX9_tries 13 rfl) (by decide) (fun c8 => ?_) (fun c8 => ?_)
    · replace H := H.1 c8
      refine z_sub [0] rfl ?_
      exact sX9_tries_J37 C hr hm hu1 hu2 H
    · replace H := H.2 c8
      refine z_aload_n (pc := 26) C (dX9_tries 14 rfl) rfl 0 rfl ?_
      refine z_getR (pc := 27) C zc9 h1 6 (by decide) rfl wf_X9_54 (dX9_tries 15 rfl) ?_
      refine z_iload_n (pc := 30) C (dX9_tries 16 rfl) rfl 1 rfl ?_
      obtain ⟨h12, H⟩ := H
      refine zc_Vi (pc := 31) (rest := []) C YX7_isFact wl_X9_393 (kX7_isFact H) (by decide) h12 rfl (by decide) (dX9_tries 17 rfl) rfl hu1 hu2 (Nat.le_of_ble_eq_true rfl) rfl (fun r13 m14 H => ?_)
      refine z_if_eq (pc := 34) (tgt := 43) C (dX9_tries 18 rfl) (by decide) (fun c15 => ?_) (fun c15 => ?_)
      · replace H := H.1 c15
        refine z_aload_n (pc := 43) C (dX9_tries 23 rfl) rfl 0 rfl ?_
        refine z_getR (pc := 44) C zc9 h1 6 (by decide) rfl wf_X9_54 (dX9_tries 24 rfl) ?_
        obtain ⟨h16, H⟩ := H
        refine z_getI (pc := 47) C zc7 h16 1 (by decide) rfl wf_X9_396 (dX9_tries 25 rfl) ?_
        refine z_if_ge (pc := 50) (tgt := 60) C (dX9_tries 26 rfl) (by decide) (fun c17 => ?_) (fun c17 => ?_)
        · replace H := H.1 c17
          refine z_aload_n (pc := 60) C (dX9_tries 31 rfl) rfl 0 rfl ?_
          refine z_getR (pc := 61) C zc9 h1 6 (by decide) rfl wf_X9_54 (dX9_tries 32 rfl) ?_
          refine z_dup (pc := 64) C (dX9_tries 33 rfl) rfl ?_
          refine z_getI (pc := 65) C zc7 h16 2 (by decide) rfl wf_X9_399 (dX9_tries 34 rfl) ?_
          refine z_iconst (pc := 68) (v := 1) C (dX9_tries 35 rfl) (by decide) ?_
          refine z_iload_n (pc := 69) C (dX9_tries 36 rfl) rfl 1 rfl ?_
          refine z_ishl (pc := 70) C (dX9_tries 37 rfl) ?_
          refine z_ior (pc := 71) C (dX9_tries 38 rfl) ?_
          refine z_putI (pc := 72) C zc7 h16 2 (by decide) rfl rfl wf_X9_399 (dX9_tries 39 rfl) ?_
          refine z_aload_n (pc := 75) C (dX9_tries 40 rfl) rfl 0 rfl ?_
          refine z_getR (pc := 76) C zc9 h1 6 (by decide) rfl wf_X9_54 (dX9_tries 41 rfl) ?_
          refine z_dup (pc := 79) C (dX9_tries 42 rfl) rfl ?_
          refine z_getI (pc := 80) C zc7 h16 3 (by decide) rfl wf_X9_402 (dX9_tries 43 rfl) ?_
          refine z_aload_n (pc := 83) C (dX9_tries 44 rfl) rfl 0 rfl ?_
          refine z_getR (pc := 84) C zc9 h1 3 (by decide) rfl wf_X9_34 (dX9_tries 45 rfl) ?_
          obtain ⟨h18, H⟩ := H
          refine z_getR (pc := 87) C zc5 h18 3 (by decide) rfl wf_X9_390 (dX9_tries 46 rfl) ?_
          refine z_iload_n (pc := 90) C (dX9_tries 47 rfl) rfl 1 rfl ?_
          obtain ⟨h19, H⟩ := H
          obtain ⟨h20, H⟩ := H
          refine z_iaload (pc := 91) C h19 h20 (dX9_tries 48 rfl) ?_
          refine z_iadd (pc := 92) C (dX9_tries 49 rfl) ?_
          refine z_putI (pc := 93) C zc7 h16 3 (by decide) rfl rfl wf_X9_402 (dX9_tries 50 rfl) ?_
          refine z_aload_n (pc := 96) C (dX9_tries 51 rfl) rfl 0 rfl ?_
          refine zc_Vv (pc := 97) (rest := []) C YX9_reckonIfChanged wl_X9_387 (kX9_reckonIfChanged H) (by decide) h1 rfl (by decide) (dX9_tries 52 rfl) rfl hu1 hu2 (Nat.le_of_ble_eq_true rfl) rfl (fun m22 H => ?_)
          refine z_aload_n (pc := 100) C (dX9_tries 53 rfl) rfl 0 rfl ?_
          refine z_aload_n (pc := 101) C (dX9_tries 54 rfl) rfl 0 rfl ?_
          refine z_getR (pc := 102) C zc9 h1 2 (by decide) rfl wf_X9_27 (dX9_tries 55 rfl) ?_
          refine z_aload_n (pc := 105) C (dX9_tries 56 rfl) rfl 0 rfl ?_
          refine z_getR (pc := 106) C zc9 h1 6 (by decide) rfl wf_X9_54 (dX9_tries 57 rfl) ?_
          obtain ⟨h23, H⟩ := H
          refine z_getI (pc := 109) C zc7 h23 1 (by decide) rfl wf_X9_396 (dX9_tries 58 rfl) ?_
          refine z_iload_n (pc := 112) C (dX9_tries 59 rfl) rfl 1 rfl ?_
          obtain ⟨h24, H⟩ := H
          refine zc_Vi (pc := 113) (rest := [.ref a]) C YX8_answerIn wl_X9_405 (kX8_answerIn H) (by decide) h24 rfl (by decide) (dX9_tries 60 rfl) rfl hu1 hu2 (Nat.le_of_ble_eq_true rfl) rfl (fun r25 m26 H => ?_)
          refine zc_Vi (pc := 116) (rest := []) C YX9_accept wl_X9_117 (kX9_accept H) (by decide) h1 rfl (by decide) (dX9_tries 61 rfl) rfl hu1 hu2 (Nat.le_of_ble_eq_true rfl) rfl (fun r27 m28 H => ?_)
          exact z_iret (pc := 119) C hr hu1 hu2 (dX9_tries 62 rfl) ⟨rfl, _, rfl, H⟩
        · replace H := H.2 c17
          refine z_aload_n (pc := 53) C (dX9_tries 27 rfl) rfl 0 rfl ?_
          refine z_bipush (pc := 54) (v := 6) C (dX9_tries 28 rfl) (by decide) ?_
          refine zc_Vi (pc := 56) (rest := []) C YX9_refuse wl_X9_93 (kX9_refuse H) (by decide) h1 rfl (by decide) (dX9_tries 29 rfl) rfl hu1 hu2 (Nat.le_of_ble_eq_true rfl) rfl (fun r29 m30 H => ?_)
          exact z_iret (pc := 59) C hr hu1 hu2 (dX9_tries 30 rfl) ⟨rfl, _, rfl, H⟩
      · replace H := H.2 c15
        refine z_sub [0] rfl ?_
        exact sX9_tries_J37 C hr hm hu1 hu2 H
  · replace H := H.1 c4
    refine z_aload_n (pc := 8) C (dX9_tries 4 rfl) rfl 0 rfl ?_
    refine z_iconst (pc := 9) (v := 1) C (dX9_tries 5 rfl) (by decide) ?_
    refine zc_Vi (pc := 10) (rest := []) C YX9_refuse wl_X9_93 (kX9_refuse H) (by decide) h1 rfl (by decide) (dX9_tries 6 rfl) rfl hu1 hu2 (Nat.le_of_ble_eq_true rfl) rfl (fun r31 m32 H => ?_)
    exact z_iret (pc := 13) C hr hu1 hu2 (dX9_tries 7 rfl) ⟨rfl, _, rfl, H⟩
def wX9_fact_J46 (t : zT) (m : zM) (s_0 : Int32) (s_1 : Nat) (Q : Int32 → zM → Prop) : Prop := (tK t s_1 = 9 ∧ (wX9_accept t m s_1 s_0 (fun r10 m11 => (Q r10 m11))))
set_option maxHeartbeats 4000000 in
set_option maxRecDepth 20000 in
theorem sX9_fact_J46 {p : Program} {l : Launch} {e : Env} {s : State} {mt : MethodId} {args : Array Value} {below : List Frame} {meth : Method} {c : Code} {g : zG} {u : Nat × Nat} {mc ms : Nat} {t : zT} {m : zM} {s_0 : Int32} {s_1 : Nat} {Q : Int32 → zM → Prop} (C : zC p (zRm 2 mc ms) s mt args meth c g cX9_fact 2 yX9_fact.cls 2) (hr : meth.sig.returnType = (some .int)) (hm : meth.name = yX9_fact.name) (hu1 : u.1 ≤ mc) (hu2 : u.2 ≤ ms) (H : wX9_fact_J46 t m s_0 s_1 Q) : zW p l e (zRm 2 mc ms) s mt args below meth c g (MQ below (zQc g (zPi t Q)) args s mc ms (zFar g)) u 2 t m 46 [] [.int s_0, .ref s_1] := by
  unfold wX9_fact_J46 at H
  obtain ⟨h9, H⟩ := H
  refine zc_Vi (pc := 46) (rest := []) C YX9_accept wl_X9_117 (kX9_accept H) (by decide) h9 rfl (by decide) (dX9_fact 23 rfl) rfl hu1 hu2 (Nat.le_of_ble_eq_true rfl) rfl (fun r10 m11 H => ?_)
  exact z_iret (pc := 49) C hr hu1 hu2 (dX9_fact 24 rfl) ⟨rfl, _, rfl, H⟩
def wX9_fact (t : zT) (m : zM) (a : Nat) (p1 : Int32) (Q : Int32 → zM → Prop) : Prop := (tK t a = 9 ∧ (wX9_isThing t m a p1 (fun r2 m3 => ((r2 = 0 → (wX9_refuse t m3 a 1 (fun r16 m17 => (Q r16 m17)))) ∧ (¬ r2 = 0 → (tK t (gR m3 a 6) = 7 ∧ (wX7_isFact t m3 (gR m3 a 6) p1 (fun r6 m7 => ((r6 = 0 → (wX9_fact_J46 t m7 (-2) a Q)) ∧ (¬ r6 = 0 → (tK t (gR m7 a 6) = 7 ∧ (tK t (gR m7 a 2) = 8 ∧ (wX8_answerIn t m7 (gR m7 a 2) (gI m7 (gR m7 a 6) 1) p1 (fun r14 m15 => (wX9_fact_J46 t m15 r14 a Q)))))))))))))))
set_option maxHeartbeats 4000000 in
set_option maxRecDepth 20000 in
theorem kX9_fact {l : Launch} {t : zT} {m : zM} {a : Nat} {p1 : Int32} {Q : Int32 → zM → Prop} (H : wX9_fact t m a p1 Q) : zMet l yX9_fact cX9_fact 2 (some .int) 2 0 0 t m [.ref a, .int p1] (zPi t Q) := by
  refine zmet (by decide +kernel) (Nat.le_of_ble_eq_true rfl) ?_
  intro p e s mt args below meth c g C hr hm
  unfold wX9_fact at H
  have hu1 : ((0, 0) : Nat × Nat).1 ≤ 0 := Nat.le_refl 0
  have hu2 : ((0, 0) : Nat × Nat).2 ≤ 0 := Nat.le_refl 0
  refine z_aload_n (pc := 0) C (dX9_fact 0 rfl) rfl 0 rfl ?_
  refine z_iload_n (pc := 1) C (dX9_fact 1 rfl) rfl 1 rfl ?_
  obtain ⟨h1, H⟩ := H
  refine zc_Vi (pc := 2) (rest := []) C YX9_isThing wl_X9_171 (kX9_isThing H) (by decide) h1 rfl (by decide) (dX9_fact 2 rfl) rfl hu1 hu2 (Nat.le_of_ble_eq_true rfl) rfl (fun r2 m3 H => ?_)
  refine z_if_ne (pc := 5) (tgt := 14) C (dX9_fact 3 rfl) (by decide) (fun c4 => ?_) (fun c4 => ?_)
  · replace H := H.2 c4
    refine z_aload_n (pc := 14) C (dX9_fact 8 rfl) rfl 0 rfl ?_
    refine z_aload_n (pc := 15) C (dX9_fact 9 rfl) rfl 0 rfl ?_
    refine z_getR (pc := 16) C zc9 h1 6 (by decide) rfl wf_X9_54 (dX9_fact 10 rfl) ?_
    refine z_iload_n (pc := 19) C (dX9_fact 11 rfl) rfl 1 rfl ?_
    obtain ⟨h5, H⟩ := H
    refine zc_Vi (pc := 20) (rest := [.ref a]) C YX7_isFact wl_X9_393 (kX7_isFact H) (by decide) h5 rfl (by decide) (dX9_fact 12 rfl) rfl hu1 hu2 (Nat.le_of_ble_eq_true rfl) rfl (fun r6 m7 H => ?_)
    refine z_if_eq (pc := 23) (tgt := 44) C (dX9_fact 13 rfl) (by decide) (fun c8 => ?_) (fun c8 => ?_)
    · replace H := H.1 c8
      refine z_bipush (pc := 44) (v := (-2)) C (dX9_fact 22 rfl) (by decide) ?_
      refine z_sub [] rfl ?_
      exact sX9_fact_J46 C hr hm hu1 hu2 H
    · replace H := H.2 c8
      refine z_aload_n (pc := 26) C (dX9_fact 14 rfl) rfl 0 rfl ?_
      refine z_getR (pc := 27) C zc9 h1 2 (by decide) rfl wf_X9_27 (dX9_fact 15 rfl) ?_
      refine z_aload_n (pc := 30) C (dX9_fact 16 rfl) rfl 0 rfl ?_
      refine z_getR (pc := 31) C zc9 h1 6 (by decide) rfl wf_X9_54 (dX9_fact 17 rfl) ?_
      obtain ⟨h12, H⟩ := H
      refine z_getI (pc := 34) C zc7 h12 1 (by decide) rfl wf_X9_396 (dX9_fact 18 rfl) ?_
      refine z_iload_n (pc := 37) C (dX9_fact 19 rfl) rfl 1 rfl ?_
      obtain ⟨h13, H⟩ := H
      refine zc_Vi (pc := 38) (rest := [.ref a]) C YX8_answerIn wl_X9_405 (kX8_answerIn H) (by decide) h13 rfl (by decide) (dX9_fact 20 rfl) rfl hu1 hu2 (Nat.le_of_ble_eq_true rfl) rfl (fun r14 m15 H => ?_)
      refine z_goto (pc := 41) (tgt := 46) C (dX9_fact 21 rfl) (by decide) ?_
      refine z_sub [] rfl ?_
      exact sX9_fact_J46 C hr hm hu1 hu2 H
  · replace H := H.1 c4
    refine z_aload_n (pc := 8) C (dX9_fact 4 rfl) rfl 0 rfl ?_
    refine z_iconst (pc := 9) (v := 1) C (dX9_fact 5 rfl) (by decide) ?_
    refine zc_Vi (pc := 10) (rest := []) C YX9_refuse wl_X9_93 (kX9_refuse H) (by decide) h1 rfl (by decide) (dX9_fact 6 rfl) rfl hu1 hu2 (Nat.le_of_ble_eq_true rfl) rfl (fun r16 m17 H => ?_)
    exact z_iret (pc := 13) C hr hu1 hu2 (dX9_fact 7 rfl) ⟨rfl, _, rfl, H⟩
def wX9_spent (t : zT) (m : zM) (a : Nat) (Q : Int32 → zM → Prop) : Prop := (tK t a = 9 ∧ (wX9_isOpen t m a (fun r2 m3 => ((r2 = 0 → (wX9_refuse t m3 a 1 (fun r5 m6 => (Q r5 m6)))) ∧ (¬ r2 = 0 → (tK t (gR m3 a 6) = 7 ∧ (wX9_accept t m3 a (gI m3 (gR m3 a 6) 3) (fun r8 m9 => (Q r8 m9)))))))))
set_option maxHeartbeats 4000000 in
set_option maxRecDepth 20000 in
theorem kX9_spent {l : Launch} {t : zT} {m : zM} {a : Nat} {Q : Int32 → zM → Prop} (H : wX9_spent t m a Q) : zMet l yX9_spent cX9_spent 1 (some .int) 1 0 0 t m [.ref a] (zPi t Q) := by
  refine zmet (by decide +kernel) (Nat.le_of_ble_eq_true rfl) ?_
  intro p e s mt args below meth c g C hr hm
  unfold wX9_spent at H
  have hu1 : ((0, 0) : Nat × Nat).1 ≤ 0 := Nat.le_refl 0
  have hu2 : ((0, 0) : Nat × Nat).2 ≤ 0 := Nat.le_refl 0
  refine z_aload_n (pc := 0) C (dX9_spent 0 rfl) rfl 0 rfl ?_
  obtain ⟨h1, H⟩ := H
  refine zc_Vi (pc := 1) (rest := []) C YX9_isOpen wl_X9_151 (kX9_isOpen H) (by decide) h1 rfl (by decide) (dX9_spent 1 rfl) rfl hu1 hu2 (Nat.le_of_ble_eq_true rfl) rfl (fun r2 m3 H => ?_)
  refine z_if_eq (pc := 4) (tgt := 21) C (dX9_spent 2 rfl) (by decide) (fun c4 => ?_) (fun c4 => ?_)
  · replace H := H.1 c4
    refine z_aload_n (pc := 21) C (dX9_spent 9 rfl) rfl 0 rfl ?_
    refine z_iconst (pc := 22) (v := 1) C (dX9_spent 10 rfl) (by decide) ?_
    refine zc_Vi (pc := 23) (rest := []) C YX9_refuse wl_X9_93 (kX9_refuse H) (by decide) h1 rfl (by decide) (dX9_spent 11 rfl) rfl hu1 hu2 (Nat.le_of_ble_eq_true rfl) rfl (fun r5 m6 H => ?_)
    exact z_iret (pc := 26) C hr hu1 hu2 (dX9_spent 12 rfl) ⟨rfl, _, rfl, H⟩
  · replace H := H.2 c4
    refine z_aload_n (pc := 7) C (dX9_spent 3 rfl) rfl 0 rfl ?_
    refine z_aload_n (pc := 8) C (dX9_spent 4 rfl) rfl 0 rfl ?_
    refine z_getR (pc := 9) C zc9 h1 6 (by decide) rfl wf_X9_54 (dX9_spent 5 rfl) ?_
    obtain ⟨h7, H⟩ := H
    refine z_getI (pc := 12) C zc7 h7 3 (by decide) rfl wf_X9_402 (dX9_spent 6 rfl) ?_
    refine zc_Vi (pc := 15) (rest := []) C YX9_accept wl_X9_117 (kX9_accept H) (by decide) h1 rfl (by decide) (dX9_spent 7 rfl) rfl hu1 hu2 (Nat.le_of_ble_eq_true rfl) rfl (fun r8 m9 H => ?_)
    refine z_goto (pc := 18) (tgt := 26) C (dX9_spent 8 rfl) (by decide) ?_
    exact z_iret (pc := 26) C hr hu1 hu2 (dX9_spent 12 rfl) ⟨rfl, _, rfl, H⟩
def wX9_mark (t : zT) (m : zM) (a : Nat) (Q : Int32 → zM → Prop) : Prop := (tK t a = 9 ∧ (wX9_isOpen t m a (fun r2 m3 => ((r2 = 0 → (wX9_refuse t m3 a 1 (fun r13 m14 => (Q r13 m14)))) ∧ (¬ r2 = 0 → (tK t (gR m3 a 6) = 7 ∧ (((3 : Int32) ≤ (gI m3 (gR m3 a 6) 4) → (wX9_refuse t m3 a 3 (fun r7 m8 => (Q r7 m8)))) ∧ (¬ (3 : Int32) ≤ (gI m3 (gR m3 a 6) 4) → (wX7_keep t m3 (gR m3 a 6) (fun r9 m10 => (wX9_accept t m10 a r9 (fun r11 m12 => (Q r11 m12)))))))))))))
set_option maxHeartbeats 4000000 in
set_option maxRecDepth 20000 in
theorem kX9_mark {l : Launch} {t : zT} {m : zM} {a : Nat} {Q : Int32 → zM → Prop} (H : wX9_mark t m a Q) : zMet l yX9_mark cX9_mark 1 (some .int) 1 0 0 t m [.ref a] (zPi t Q) := by
  refine zmet (by decide +kernel) (Nat.le_of_ble_eq_true rfl) ?_
  intro p e s mt args below meth c g C hr hm
  unfold wX9_mark at H
  have hu1 : ((0, 0) : Nat × Nat).1 ≤ 0 := Nat.le_refl 0
  have hu2 : ((0, 0) : Nat × Nat).2 ≤ 0 := Nat.le_refl 0
  refine z_aload_n (pc := 0) C (dX9_mark 0 rfl) rfl 0 rfl ?_
  obtain ⟨h1, H⟩ := H
  refine zc_Vi (pc := 1) (rest := []) C YX9_isOpen wl_X9_151 (kX9_isOpen H) (by decide) h1 rfl (by decide) (dX9_mark 1 rfl) rfl hu1 hu2 (Nat.le_of_ble_eq_true rfl) rfl (fun r2 m3 H => ?_)
  refine z_if_ne (pc := 4) (tgt := 13) C (dX9_mark 2 rfl) (by decide) (fun c4 => ?_) (fun c4 => ?_)
  · replace H := H.2 c4
    refine z_aload_n (pc := 13) C (dX9_mark 7 rfl) rfl 0 rfl ?_
    refine z_getR (pc := 14) C zc9 h1 6 (by decide) rfl wf_X9_54 (dX9_mark 8 rfl) ?_
    obtain ⟨h5, H⟩ := H
    refine z_getI (pc := 17) C zc7 h5 4 (by decide) rfl wf_X9_408 (dX9_mark 9 rfl) ?_
    refine z_iconst (pc := 20) (v := 3) C (dX9_mark 10 rfl) (by decide) ?_
    refine z_icmp_ge (pc := 21) (tgt := 38) C (dX9_mark 11 rfl) (by decide) (fun c6 => ?_) (fun c6 => ?_)
    · replace H := H.1 c6
      refine z_aload_n (pc := 38) C (dX9_mark 18 rfl) rfl 0 rfl ?_
      refine z_iconst (pc := 39) (v := 3) C (dX9_mark 19 rfl) (by decide) ?_
      refine zc_Vi (pc := 40) (rest := []) C YX9_refuse wl_X9_93 (kX9_refuse H) (by decide) h1 rfl (by decide) (dX9_mark 20 rfl) rfl hu1 hu2 (Nat.le_of_ble_eq_true rfl) rfl (fun r7 m8 H => ?_)
      exact z_iret (pc := 43) C hr hu1 hu2 (dX9_mark 21 rfl) ⟨rfl, _, rfl, H⟩
    · replace H := H.2 c6
      refine z_aload_n (pc := 24) C (dX9_mark 12 rfl) rfl 0 rfl ?_
      refine z_aload_n (pc := 25) C (dX9_mark 13 rfl) rfl 0 rfl ?_
      refine z_getR (pc := 26) C zc9 h1 6 (by decide) rfl wf_X9_54 (dX9_mark 14 rfl) ?_
      refine zc_Vi (pc := 29) (rest := [.ref a]) C YX7_keep wl_X9_411 (kX7_keep H) (by decide) h5 rfl (by decide) (dX9_mark 15 rfl) rfl hu1 hu2 (Nat.le_of_ble_eq_true rfl) rfl (fun r9 m10 H => ?_)
      refine zc_Vi (pc := 32) (rest := []) C YX9_accept wl_X9_117 (kX9_accept H) (by decide) h1 rfl (by decide) (dX9_mark 16 rfl) rfl hu1 hu2 (Nat.le_of_ble_eq_true rfl) rfl (fun r11 m12 H => ?_)
      refine z_goto (pc := 35) (tgt := 43) C (dX9_mark 17 rfl) (by decide) ?_
      exact z_iret (pc := 43) C hr hu1 hu2 (dX9_mark 21 rfl) ⟨rfl, _, rfl, H⟩
  · replace H := H.1 c4
    refine z_aload_n (pc := 7) C (dX9_mark 3 rfl) rfl 0 rfl ?_
    refine z_iconst (pc := 8) (v := 1) C (dX9_mark 4 rfl) (by decide) ?_
    refine zc_Vi (pc := 9) (rest := []) C YX9_refuse wl_X9_93 (kX9_refuse H) (by decide) h1 rfl (by decide) (dX9_mark 5 rfl) rfl hu1 hu2 (Nat.le_of_ble_eq_true rfl) rfl (fun r13 m14 H => ?_)
    exact z_iret (pc := 12) C hr hu1 hu2 (dX9_mark 6 rfl) ⟨rfl, _, rfl, H⟩
def wX9_back_J22 (t : zT) (m : zM) (a_0 : Nat) (Q : Int32 → zM → Prop) : Prop := (tK t a_0 = 9 ∧ (wX9_refuse t m a_0 1 (fun r6 m7 => (Q 0 m7))))
set_option maxHeartbeats 4000000 in
set_option maxRecDepth 20000 in
theorem sX9_back_J22 {p : Program} {l : Launch} {e : Env} {s : State} {mt : MethodId} {args : Array Value} {below : List Frame} {meth : Method} {c : Code} {g : zG} {u : Nat × Nat} {mc ms : Nat} {t : zT} {m : zM} {a_0 : Nat} {Q : Int32 → zM → Prop} (C : zC p (zRm 6 mc ms) s mt args meth c g cX9_back 2 yX9_back.cls 6) (hr : meth.sig.returnType = (some .boolean)) (hm : meth.name = yX9_back.name) (hu1 : u.1 ≤ mc) (hu2 : u.2 ≤ ms) (H : wX9_back_J22 t m a_0 Q) : zW p l e (zRm 6 mc ms) s mt args below meth c g (MQ below (zQc g (zPi t Q)) args s mc ms (zFar g)) u 2 t m 22 [(0, .ref a_0)] [] := by
  unfold wX9_back_J22 at H
  refine z_aload_n (pc := 22) C (dX9_back 10 rfl) rfl 0 rfl ?_
  refine z_iconst (pc := 23) (v := 1) C (dX9_back 11 rfl) (by decide) ?_
  obtain ⟨h5, H⟩ := H
  refine zc_Vi (pc := 24) (rest := []) C YX9_refuse wl_X9_93 (kX9_refuse H) (by decide) h5 rfl (by decide) (dX9_back 12 rfl) rfl hu1 hu2 (Nat.le_of_ble_eq_true rfl) rfl (fun r6 m7 H => ?_)
  refine z_pop (pc := 27) C (dX9_back 13 rfl) rfl ?_
  refine z_iconst (pc := 28) (v := 0) C (dX9_back 14 rfl) (by decide) ?_
  exact z_zret (pc := 29) C hr (by decide) hu1 hu2 (dX9_back 15 rfl) ⟨rfl, _, rfl, H⟩
def wX9_back (t : zT) (m : zM) (a : Nat) (p1 : Int32) (Q : Int32 → zM → Prop) : Prop := (tK t a = 9 ∧ (wX9_isOpen t m a (fun r2 m3 => ((r2 = 0 → (wX9_back_J22 t m3 a Q)) ∧ (¬ r2 = 0 → ((p1 < 0 → (wX9_back_J22 t m3 a Q)) ∧ (¬ p1 < 0 → (tK t (gR m3 a 6) = 7 ∧ ((p1 < (gI m3 (gR m3 a 6) 4) → (wX7_restore t m3 (gR m3 a 6) p1 (fun m12 => (wX9_reckonIfChanged t m12 a (fun m14 => (wX9_accept t m14 a p1 (fun r15 m16 => (Q 1 m16)))))))) ∧ (¬ p1 < (gI m3 (gR m3 a 6) 4) → (wX9_back_J22 t m3 a Q)))))))))))
set_option maxHeartbeats 4000000 in
set_option maxRecDepth 20000 in
theorem kX9_back {l : Launch} {t : zT} {m : zM} {a : Nat} {p1 : Int32} {Q : Int32 → zM → Prop} (H : wX9_back t m a p1 Q) : zMet l yX9_back cX9_back 2 (some .boolean) 6 0 0 t m [.ref a, .int p1] (zPi t Q) := by
  refine zmet (by decide +kernel) (Nat.le_of_ble_eq_true rfl) ?_
  intro p e s mt args below meth c g C hr hm
  unfold wX9_back at H
  have hu1 : ((0, 0) : Nat × Nat).1 ≤ 0 := Nat.le_refl 0
  have hu2 : ((0, 0) : Nat × Nat).2 ≤ 0 := Nat.le_refl 0
  refine z_aload_n (pc := 0) C (dX9_back 0 rfl) rfl 0 rfl ?_
  obtain ⟨h1, H⟩ := H
  refine zc_Vi (pc := 1) (rest := []) C YX9_isOpen wl_X9_151 (kX9_isOpen H) (by decide) h1 rfl (by decide) (dX9_back 1 rfl) rfl hu1 hu2 (Nat.le_of_ble_eq_true rfl) rfl (fun r2 m3 H => ?_)
  refine z_if_eq (pc := 4) (tgt := 22) C (dX9_back 2 rfl) (by decide) (fun c4 => ?_) (fun c4 => ?_)
  · replace H := H.1 c4
    refine z_sub [0] rfl ?_
    exact sX9_back_J22 C hr hm hu1 hu2 H
  · replace H := H.2 c4
    refine z_iload_n (pc := 7) C (dX9_back 3 rfl) rfl 1 rfl ?_
    refine z_if_lt (pc := 8) (tgt := 22) C (dX9_back 4 rfl) (by decide) (fun c8 => ?_) (fun c8 => ?_)
    · replace H := H.1 c8
      refine z_sub [0] rfl ?_
      exact sX9_back_J22 C hr hm hu1 hu2 H
    · replace H := H.2 c8
      refine z_iload_n (pc := 11) C (dX9_back 5 rfl) rfl 1 rfl ?_
      refine z_aload_n (pc := 12) C (dX9_back 6 rfl) rfl 0 rfl ?_
      refine z_getR (pc := 13) C zc9 h1 6 (by decide) rfl wf_X9_54 (dX9_back 7 rfl) ?_
      obtain ⟨h9, H⟩ := H
      refine z_getI (pc := 16) C zc7 h9 4 (by decide) rfl wf_X9_408 (dX9_back 8 rfl) ?_
      refine z_icmp_lt (pc := 19) (tgt := 30) C (dX9_back 9 rfl) (by decide) (fun c10 => ?_) (fun c10 => ?_)
      · replace H := H.1 c10
        refine z_aload_n (pc := 30) C (dX9_back 16 rfl) rfl 0 rfl ?_
        refine z_getR (pc := 31) C zc9 h1 6 (by decide) rfl wf_X9_54 (dX9_back 17 rfl) ?_
        refine z_iload_n (pc := 34) C (dX9_back 18 rfl) rfl 1 rfl ?_
        refine zc_Vv (pc := 35) (rest := []) C YX7_restore wl_X9_414 (kX7_restore H) (by decide) h9 rfl (by decide) (dX9_back 19 rfl) rfl hu1 hu2 (Nat.le_of_ble_eq_true rfl) rfl (fun m12 H => ?_)
        refine z_aload_n (pc := 38) C (dX9_back 20 rfl) rfl 0 rfl ?_
        refine zc_Vv (pc := 39) (rest := []) C YX9_reckonIfChanged wl_X9_387 (kX9_reckonIfChanged H) (by decide) h1 rfl (by decide) (dX9_back 21 rfl) rfl hu1 hu2 (Nat.le_of_ble_eq_true rfl) rfl (fun m14 H => ?_)
        refine z_aload_n (pc := 42) C (dX9_back 22 rfl) rfl 0 rfl ?_
        refine z_iload_n (pc := 43) C (dX9_back 23 rfl) rfl 1 rfl ?_
        refine zc_Vi (pc := 44) (rest := []) C YX9_accept wl_X9_117 (kX9_accept H) (by decide) h1 rfl (by decide) (dX9_back 24 rfl) rfl hu1 hu2 (Nat.le_of_ble_eq_true rfl) rfl (fun r15 m16 H => ?_)
        refine z_pop (pc := 47) C (dX9_back 25 rfl) rfl ?_
        refine z_iconst (pc := 48) (v := 1) C (dX9_back 26 rfl) (by decide) ?_
        exact z_zret (pc := 49) C hr (by decide) hu1 hu2 (dX9_back 27 rfl) ⟨rfl, _, rfl, H⟩
      · replace H := H.2 c10
        refine z_sub [0] rfl ?_
        exact sX9_back_J22 C hr hm hu1 hu2 H
def wX9_saying (t : zT) (m : zM) (a : Nat) (p1 : Int32) (p2 : Int32) (Q : Int32 → zM → Prop) : Prop := (tK t a = 9 ∧ (wX9_isSaying t m a p1 (fun r2 m3 => ((r2 = 0 → (wX9_refuse t m3 a 1 (fun r23 m24 => (Q r23 m24)))) ∧ (¬ r2 = 0 → ((∀ c5 : (p2.toInt < 0 ∨ 2 < p2.toInt), (wX9_refuse t m3 a 1 (fun r6 m7 => (Q r6 m7)))) ∧ (p2 = 0 → (tK t (gR m3 a 3) = 5 ∧ (tK t (gR m3 (gR m3 a 3) 15) = 14 ∧ (vp_in p1 (tL t (gR m3 (gR m3 a 3) 15)) ∧ (wX9_accept t m3 a (gI m3 (gR m3 (gR m3 a 3) 15) p1.toNatClampNeg) (fun r11 m12 => (Q r11 m12))))))) ∧ (p2 = 1 → (tK t (gR m3 a 3) = 5 ∧ (tK t (gR m3 (gR m3 a 3) 16) = 14 ∧ (vp_in p1 (tL t (gR m3 (gR m3 a 3) 16)) ∧ (wX9_accept t m3 a (gI m3 (gR m3 (gR m3 a 3) 16) p1.toNatClampNeg) (fun r16 m17 => (Q r16 m17))))))) ∧ (p2 = 2 → (tK t (gR m3 a 3) = 5 ∧ (tK t (gR m3 (gR m3 a 3) 17) = 14 ∧ (vp_in p1 (tL t (gR m3 (gR m3 a 3) 17)) ∧ (wX9_accept t m3 a (gI m3 (gR m3 (gR m3 a 3) 17) p1.toNatClampNeg) (fun r21 m22 => (Q r21 m22)))))))))))))
set_option maxHeartbeats 4000000 in
set_option maxRecDepth 20000 in
theorem kX9_saying {l : Launch} {t : zT} {m : zM} {a : Nat} {p1 : Int32} {p2 : Int32} {Q : Int32 → zM → Prop} (H : wX9_saying t m a p1 p2 Q) : zMet l yX9_saying cX9_saying 3 (some .int) 1 0 0 t m [.ref a, .int p1, .int p2] (zPi t Q) := by
  refine zmet (by decide +kernel) (Nat.le_of_ble_eq_true rfl) ?_
  intro p e s mt args below meth c g C hr hm
  unfold wX9_saying at H
  have hu1 : ((0, 0) : Nat × Nat).1 ≤ 0 := Nat.le_refl 0
  have hu2 : ((0, 0) : Nat × Nat).2 ≤ 0 := Nat.le_refl 0
  refine z_aload_n (pc := 0) C (dX9_saying 0 rfl) rfl 0 rfl ?_
  refine z_iload_n (pc := 1) C (dX9_saying 1 rfl) rfl 1 rfl ?_
  obtain ⟨h1, H⟩ := H
  refine zc_Vi (pc := 2) (rest := []) C YX9_isSaying wl_X9_201 (kX9_isSaying H) (by decide) h1 rfl (by decide) (dX9_saying 2 rfl) rfl hu1 hu2 (Nat.le_of_ble_eq_true rfl) rfl (fun r2 m3 H => ?_)
  refine z_if_ne (pc := 5) (tgt := 14) C (dX9_saying 3 rfl) (by decide) (fun c4 => ?_) (fun c4 => ?_)
  · replace H := H.2 c4
    refine z_iload_n (pc := 14) C (dX9_saying 8 rfl) rfl 2 rfl ?_
    by_cases c5 : (p2.toInt < 0 ∨ 2 < p2.toInt)
    · replace H := H.1 c5
      refine z_tableOut (pc := 15) (tgt := 82) C (dX9_saying 9 rfl) c5 (by decide) ?_
      refine z_aload_n (pc := 82) C (dX9_saying 34 rfl) rfl 0 rfl ?_
      refine z_iconst (pc := 83) (v := 1) C (dX9_saying 35 rfl) (by decide) ?_
      refine zc_Vi (pc := 84) (rest := []) C YX9_refuse wl_X9_93 (kX9_refuse H) (by decide) h1 rfl (by decide) (dX9_saying 36 rfl) rfl hu1 hu2 (Nat.le_of_ble_eq_true rfl) rfl (fun r6 m7 H => ?_)
      exact z_iret (pc := 87) C hr hu1 hu2 (dX9_saying 37 rfl) ⟨rfl, _, rfl, H⟩
    · rcases (show p2 = 0 ∨ p2 = 1 ∨ p2 = 2 from zsw2 c5) with c5e | c5e | c5e
      · replace H := H.2.1 c5e
        refine z_tableIn (pc := 15) (off := 25) (tgt := 40) C (dX9_saying 9 rfl) (by rw [c5e]; decide) (by rw [c5e]; decide) (by rw [c5e]; rfl) (by decide) ?_
        refine z_aload_n (pc := 40) C (dX9_saying 10 rfl) rfl 0 rfl ?_
        refine z_aload_n (pc := 41) C (dX9_saying 11 rfl) rfl 0 rfl ?_
        refine z_getR (pc := 42) C zc9 h1 3 (by decide) rfl wf_X9_34 (dX9_saying 12 rfl) ?_
        obtain ⟨h8, H⟩ := H
        refine z_getR (pc := 45) C zc5 h8 15 (by decide) rfl wf_X9_424 (dX9_saying 13 rfl) ?_
        refine z_iload_n (pc := 48) C (dX9_saying 14 rfl) rfl 1 rfl ?_
        obtain ⟨h9, H⟩ := H
        obtain ⟨h10, H⟩ := H
        refine z_iaload (pc := 49) C h9 h10 (dX9_saying 15 rfl) ?_
        refine zc_Vi (pc := 50) (rest := []) C YX9_accept wl_X9_117 (kX9_accept H) (by decide) h1 rfl (by decide) (dX9_saying 16 rfl) rfl hu1 hu2 (Nat.le_of_ble_eq_true rfl) rfl (fun r11 m12 H => ?_)
        exact z_iret (pc := 53) C hr hu1 hu2 (dX9_saying 17 rfl) ⟨rfl, _, rfl, H⟩
      · replace H := H.2.2.1 c5e
        refine z_tableIn (pc := 15) (off := 39) (tgt := 54) C (dX9_saying 9 rfl) (by rw [c5e]; decide) (by rw [c5e]; decide) (by rw [c5e]; rfl) (by decide) ?_
        refine z_aload_n (pc := 54) C (dX9_saying 18 rfl) rfl 0 rfl ?_
        refine z_aload_n (pc := 55) C (dX9_saying 19 rfl) rfl 0 rfl ?_
        refine z_getR (pc := 56) C zc9 h1 3 (by decide) rfl wf_X9_34 (dX9_saying 20 rfl) ?_
        obtain ⟨h13, H⟩ := H
        refine z_getR (pc := 59) C zc5 h13 16 (by decide) rfl wf_X9_204 (dX9_saying 21 rfl) ?_
        refine z_iload_n (pc := 62) C (dX9_saying 22 rfl) rfl 1 rfl ?_
        obtain ⟨h14, H⟩ := H
        obtain ⟨h15, H⟩ := H
        refine z_iaload (pc := 63) C h14 h15 (dX9_saying 23 rfl) ?_
        refine zc_Vi (pc := 64) (rest := []) C YX9_accept wl_X9_117 (kX9_accept H) (by decide) h1 rfl (by decide) (dX9_saying 24 rfl) rfl hu1 hu2 (Nat.le_of_ble_eq_true rfl) rfl (fun r16 m17 H => ?_)
        exact z_iret (pc := 67) C hr hu1 hu2 (dX9_saying 25 rfl) ⟨rfl, _, rfl, H⟩
      · replace H := H.2.2.2 c5e
        refine z_tableIn (pc := 15) (off := 53) (tgt := 68) C (dX9_saying 9 rfl) (by rw [c5e]; decide) (by rw [c5e]; decide) (by rw [c5e]; rfl) (by decide) ?_
        refine z_aload_n (pc := 68) C (dX9_saying 26 rfl) rfl 0 rfl ?_
        refine z_aload_n (pc := 69) C (dX9_saying 27 rfl) rfl 0 rfl ?_
        refine z_getR (pc := 70) C zc9 h1 3 (by decide) rfl wf_X9_34 (dX9_saying 28 rfl) ?_
        obtain ⟨h18, H⟩ := H
        refine z_getR (pc := 73) C zc5 h18 17 (by decide) rfl wf_X9_207 (dX9_saying 29 rfl) ?_
        refine z_iload_n (pc := 76) C (dX9_saying 30 rfl) rfl 1 rfl ?_
        obtain ⟨h19, H⟩ := H
        obtain ⟨h20, H⟩ := H
        refine z_iaload (pc := 77) C h19 h20 (dX9_saying 31 rfl) ?_
        refine zc_Vi (pc := 78) (rest := []) C YX9_accept wl_X9_117 (kX9_accept H) (by decide) h1 rfl (by decide) (dX9_saying 32 rfl) rfl hu1 hu2 (Nat.le_of_ble_eq_true rfl) rfl (fun r21 m22 H => ?_)
        exact z_iret (pc := 81) C hr hu1 hu2 (dX9_saying 33 rfl) ⟨rfl, _, rfl, H⟩
  · replace H := H.1 c4
    refine z_aload_n (pc := 8) C (dX9_saying 4 rfl) rfl 0 rfl ?_
    refine z_iconst (pc := 9) (v := 1) C (dX9_saying 5 rfl) (by decide) ?_
    refine zc_Vi (pc := 10) (rest := []) C YX9_refuse wl_X9_93 (kX9_refuse H) (by decide) h1 rfl (by decide) (dX9_saying 6 rfl) rfl hu1 hu2 (Nat.le_of_ble_eq_true rfl) rfl (fun r23 m24 H => ?_)
    exact z_iret (pc := 13) C hr hu1 hu2 (dX9_saying 7 rfl) ⟨rfl, _, rfl, H⟩
def wX9_size (t : zT) (m : zM) (a : Nat) (p1 : Int32) (Q : Int32 → zM → Prop) : Prop := ((∀ c1 : (p1.toInt < 0 ∨ 11 < p1.toInt), (Q (-1) m)) ∧ (p1 = 0 → (tK t a = 9 ∧ (tK t (gR m a 3) = 5 ∧ (Q (gI m (gR m a 3) 0) m)))) ∧ (p1 = 1 → (tK t a = 9 ∧ (tK t (gR m a 3) = 5 ∧ (Q (gI m (gR m a 3) 10) m)))) ∧ (p1 = 2 → (tK t a = 9 ∧ (tK t (gR m a 3) = 5 ∧ (Q (gI m (gR m a 3) 14) m)))) ∧ (p1 = 3 → (tK t a = 9 ∧ (tK t (gR m a 3) = 5 ∧ (Q (gI m (gR m a 3) 18) m)))) ∧ (p1 = 4 → (tK t a = 9 ∧ (tK t (gR m a 3) = 5 ∧ (Q (gI m (gR m a 3) 4) m)))) ∧ (p1 = 5 → (tK t a = 9 ∧ (tK t (gR m a 3) = 5 ∧ (Q (gI m (gR m a 3) 5) m)))) ∧ (p1 = 6 → (tK t a = 9 ∧ (tK t (gR m a 3) = 5 ∧ (Q (gI m (gR m a 3) 12) m)))) ∧ (p1 = 7 → (tK t a = 9 ∧ (wX9_isOpen t m a (fun r17 m18 => ((r17 = 0 → (Q 0 m18)) ∧ (¬ r17 = 0 → (tK t (gR m18 a 3) = 5 ∧ (Q (gI m18 (gR m18 a 3) 13) m18)))))))) ∧ (p1 = 8 → (tK t a = 9 ∧ (tK t (gR m a 6) = 7 ∧ (Q (gI m (gR m a 6) 0) m)))) ∧ (p1 = 9 → (tK t a = 9 ∧ (tK t (gR m a 6) = 7 ∧ (Q (gI m (gR m a 6) 4) m)))) ∧ (p1 = 10 → (tK t a = 9 ∧ (tK t (gR m a 6) = 7 ∧ (((0 : Int32) ≤ (gI m (gR m a 6) 1) → (Q 1 m)) ∧ (¬ (0 : Int32) ≤ (gI m (gR m a 6) 1) → (Q 0 m)))))) ∧ (p1 = 11 → (tK t a = 9 ∧ (tK t (gR m a 0) = 3 ∧ (Q (gI m (gR m a 0) 1) m)))))
set_option maxHeartbeats 4000000 in
set_option maxRecDepth 20000 in
theorem kX9_size {l : Launch} {t : zT} {m : zM} {a : Nat} {p1 : Int32} {Q : Int32 → zM → Prop} (H : wX9_size t m a p1 Q) : zMet l yX9_size cX9_size 2 (some .int) 1 0 0 t m [.ref a, .int p1] (zPi t Q) := by
  refine zmet (by decide +kernel) (Nat.le_of_ble_eq_true rfl) ?_
  intro p e s mt args below meth c g C hr hm
  unfold wX9_size at H
  have hu1 : ((0, 0) : Nat × Nat).1 ≤ 0 := Nat.le_refl 0
  have hu2 : ((0, 0) : Nat × Nat).2 ≤ 0 := Nat.le_refl 0
  refine z_iload_n (pc := 0) C (dX9_size 0 rfl) rfl 1 rfl ?_
  by_cases c1 : (p1.toInt < 0 ∨ 11 < p1.toInt)
  · replace H := H.1 c1
    refine z_tableOut (pc := 1) (tgt := 179) C (dX9_size 1 rfl) c1 (by decide) ?_
    refine z_iconst (pc := 179) (v := (-1)) C (dX9_size 59 rfl) (by decide) ?_
    exact z_iret (pc := 180) C hr hu1 hu2 (dX9_size 60 rfl) ⟨rfl, _, rfl, H⟩
  · rcases (show p1 = 0 ∨ p1 = 1 ∨ p1 = 2 ∨ p1 = 3 ∨ p1 = 4 ∨ p1 = 5 ∨ p1 = 6 ∨ p1 = 7 ∨ p1 = 8 ∨ p1 = 9 ∨ p1 = 10 ∨ p1 = 11 from zsw11 c1) with c1e | c1e | c1e | c1e | c1e | c1e | c1e | c1e | c1e | c1e | c1e | c1e
    · replace H := H.2.1 c1e
      refine z_tableIn (pc := 1) (off := 63) (tgt := 64) C (dX9_size 1 rfl) (by rw [c1e]; decide) (by rw [c1e]; decide) (by rw [c1e]; rfl) (by decide) ?_
      refine z_aload_n (pc := 64) C (dX9_size 2 rfl) rfl 0 rfl ?_
      obtain ⟨h2, H⟩ := H
      refine z_getR (pc := 65) C zc9 h2 3 (by decide) rfl wf_X9_34 (dX9_size 3 rfl) ?_
      obtain ⟨h3, H⟩ := H
      refine z_getI (pc := 68) C zc5 h3 0 (by decide) rfl wf_X9_112 (dX9_size 4 rfl) ?_
      exact z_iret (pc := 71) C hr hu1 hu2 (dX9_size 5 rfl) ⟨rfl, _, rfl, H⟩
    · replace H := H.2.2.1 c1e
      refine z_tableIn (pc := 1) (off := 71) (tgt := 72) C (dX9_size 1 rfl) (by rw [c1e]; decide) (by rw [c1e]; decide) (by rw [c1e]; rfl) (by decide) ?_
      refine z_aload_n (pc := 72) C (dX9_size 6 rfl) rfl 0 rfl ?_
      obtain ⟨h4, H⟩ := H
      refine z_getR (pc := 73) C zc9 h4 3 (by decide) rfl wf_X9_34 (dX9_size 7 rfl) ?_
      obtain ⟨h5, H⟩ := H
      refine z_getI (pc := 76) C zc5 h5 10 (by decide) rfl wf_X9_302 (dX9_size 8 rfl) ?_
      exact z_iret (pc := 79) C hr hu1 hu2 (dX9_size 9 rfl) ⟨rfl, _, rfl, H⟩
    · replace H := H.2.2.2.1 c1e
      refine z_tableIn (pc := 1) (off := 79) (tgt := 80) C (dX9_size 1 rfl) (by rw [c1e]; decide) (by rw [c1e]; decide) (by rw [c1e]; rfl) (by decide) ?_
      refine z_aload_n (pc := 80) C (dX9_size 10 rfl) rfl 0 rfl ?_
      obtain ⟨h6, H⟩ := H
      refine z_getR (pc := 81) C zc9 h6 3 (by decide) rfl wf_X9_34 (dX9_size 11 rfl) ?_
      obtain ⟨h7, H⟩ := H
      refine z_getI (pc := 84) C zc5 h7 14 (by decide) rfl wf_X9_168 (dX9_size 12 rfl) ?_
      exact z_iret (pc := 87) C hr hu1 hu2 (dX9_size 13 rfl) ⟨rfl, _, rfl, H⟩
    · replace H := H.2.2.2.2.1 c1e
      refine z_tableIn (pc := 1) (off := 87) (tgt := 88) C (dX9_size 1 rfl) (by rw [c1e]; decide) (by rw [c1e]; decide) (by rw [c1e]; rfl) (by decide) ?_
      refine z_aload_n (pc := 88) C (dX9_size 14 rfl) rfl 0 rfl ?_
      obtain ⟨h8, H⟩ := H
      refine z_getR (pc := 89) C zc9 h8 3 (by decide) rfl wf_X9_34 (dX9_size 15 rfl) ?_
      obtain ⟨h9, H⟩ := H
      refine z_getI (pc := 92) C zc5 h9 18 (by decide) rfl wf_X9_328 (dX9_size 16 rfl) ?_
      exact z_iret (pc := 95) C hr hu1 hu2 (dX9_size 17 rfl) ⟨rfl, _, rfl, H⟩
    · replace H := H.2.2.2.2.2.1 c1e
      refine z_tableIn (pc := 1) (off := 95) (tgt := 96) C (dX9_size 1 rfl) (by rw [c1e]; decide) (by rw [c1e]; decide) (by rw [c1e]; rfl) (by decide) ?_
      refine z_aload_n (pc := 96) C (dX9_size 18 rfl) rfl 0 rfl ?_
      obtain ⟨h10, H⟩ := H
      refine z_getR (pc := 97) C zc9 h10 3 (by decide) rfl wf_X9_34 (dX9_size 19 rfl) ?_
      obtain ⟨h11, H⟩ := H
      refine z_getI (pc := 100) C zc5 h11 4 (by decide) rfl wf_X9_432 (dX9_size 20 rfl) ?_
      exact z_iret (pc := 103) C hr hu1 hu2 (dX9_size 21 rfl) ⟨rfl, _, rfl, H⟩
    · replace H := H.2.2.2.2.2.2.1 c1e
      refine z_tableIn (pc := 1) (off := 103) (tgt := 104) C (dX9_size 1 rfl) (by rw [c1e]; decide) (by rw [c1e]; decide) (by rw [c1e]; rfl) (by decide) ?_
      refine z_aload_n (pc := 104) C (dX9_size 22 rfl) rfl 0 rfl ?_
      obtain ⟨h12, H⟩ := H
      refine z_getR (pc := 105) C zc9 h12 3 (by decide) rfl wf_X9_34 (dX9_size 23 rfl) ?_
      obtain ⟨h13, H⟩ := H
      refine z_getI (pc := 108) C zc5 h13 5 (by decide) rfl wf_X9_435 (dX9_size 24 rfl) ?_
      exact z_iret (pc := 111) C hr hu1 hu2 (dX9_size 25 rfl) ⟨rfl, _, rfl, H⟩
    · replace H := H.2.2.2.2.2.2.2.1 c1e
      refine z_tableIn (pc := 1) (off := 111) (tgt := 112) C (dX9_size 1 rfl) (by rw [c1e]; decide) (by rw [c1e]; decide) (by rw [c1e]; rfl) (by decide) ?_
      refine z_aload_n (pc := 112) C (dX9_size 26 rfl) rfl 0 rfl ?_
      obtain ⟨h14, H⟩ := H
      refine z_getR (pc := 113) C zc9 h14 3 (by decide) rfl wf_X9_34 (dX9_size 27 rfl) ?_
      obtain ⟨h15, H⟩ := H
      refine z_getI (pc := 116) C zc5 h15 12 (by decide) rfl wf_X9_131 (dX9_size 28 rfl) ?_
      exact z_iret (pc := 119) C hr hu1 hu2 (dX9_size 29 rfl) ⟨rfl, _, rfl, H⟩
    · replace H := H.2.2.2.2.2.2.2.2.1 c1e
      refine z_tableIn (pc := 1) (off := 119) (tgt := 120) C (dX9_size 1 rfl) (by rw [c1e]; decide) (by rw [c1e]; decide) (by rw [c1e]; rfl) (by decide) ?_
      refine z_aload_n (pc := 120) C (dX9_size 30 rfl) rfl 0 rfl ?_
      obtain ⟨h16, H⟩ := H
      refine zc_Vi (pc := 121) (rest := []) C YX9_isOpen wl_X9_151 (kX9_isOpen H) (by decide) h16 rfl (by decide) (dX9_size 31 rfl) rfl hu1 hu2 (Nat.le_of_ble_eq_true rfl) rfl (fun r17 m18 H => ?_)
      refine z_if_eq (pc := 124) (tgt := 137) C (dX9_size 32 rfl) (by decide) (fun c19 => ?_) (fun c19 => ?_)
      · replace H := H.1 c19
        refine z_iconst (pc := 137) (v := 0) C (dX9_size 37 rfl) (by decide) ?_
        exact z_iret (pc := 138) C hr hu1 hu2 (dX9_size 38 rfl) ⟨rfl, _, rfl, H⟩
      · replace H := H.2 c19
        refine z_aload_n (pc := 127) C (dX9_size 33 rfl) rfl 0 rfl ?_
        refine z_getR (pc := 128) C zc9 h16 3 (by decide) rfl wf_X9_34 (dX9_size 34 rfl) ?_
        obtain ⟨h20, H⟩ := H
        refine z_getI (pc := 131) C zc5 h20 13 (by decide) rfl wf_X9_438 (dX9_size 35 rfl) ?_
        refine z_goto (pc := 134) (tgt := 138) C (dX9_size 36 rfl) (by decide) ?_
        exact z_iret (pc := 138) C hr hu1 hu2 (dX9_size 38 rfl) ⟨rfl, _, rfl, H⟩
    · replace H := H.2.2.2.2.2.2.2.2.2.1 c1e
      refine z_tableIn (pc := 1) (off := 138) (tgt := 139) C (dX9_size 1 rfl) (by rw [c1e]; decide) (by rw [c1e]; decide) (by rw [c1e]; rfl) (by decide) ?_
      refine z_aload_n (pc := 139) C (dX9_size 39 rfl) rfl 0 rfl ?_
      obtain ⟨h21, H⟩ := H
      refine z_getR (pc := 140) C zc9 h21 6 (by decide) rfl wf_X9_54 (dX9_size 40 rfl) ?_
      obtain ⟨h22, H⟩ := H
      refine z_getI (pc := 143) C zc7 h22 0 (by decide) rfl wf_X9_378 (dX9_size 41 rfl) ?_
      exact z_iret (pc := 146) C hr hu1 hu2 (dX9_size 42 rfl) ⟨rfl, _, rfl, H⟩
    · replace H := H.2.2.2.2.2.2.2.2.2.2.1 c1e
      refine z_tableIn (pc := 1) (off := 146) (tgt := 147) C (dX9_size 1 rfl) (by rw [c1e]; decide) (by rw [c1e]; decide) (by rw [c1e]; rfl) (by decide) ?_
      refine z_aload_n (pc := 147) C (dX9_size 43 rfl) rfl 0 rfl ?_
      obtain ⟨h23, H⟩ := H
      refine z_getR (pc := 148) C zc9 h23 6 (by decide) rfl wf_X9_54 (dX9_size 44 rfl) ?_
      obtain ⟨h24, H⟩ := H
      refine z_getI (pc := 151) C zc7 h24 4 (by decide) rfl wf_X9_408 (dX9_size 45 rfl) ?_
      exact z_iret (pc := 154) C hr hu1 hu2 (dX9_size 46 rfl) ⟨rfl, _, rfl, H⟩
    · replace H := H.2.2.2.2.2.2.2.2.2.2.2.1 c1e
      refine z_tableIn (pc := 1) (off := 154) (tgt := 155) C (dX9_size 1 rfl) (by rw [c1e]; decide) (by rw [c1e]; decide) (by rw [c1e]; rfl) (by decide) ?_
      refine z_aload_n (pc := 155) C (dX9_size 47 rfl) rfl 0 rfl ?_
      obtain ⟨h25, H⟩ := H
      refine z_getR (pc := 156) C zc9 h25 6 (by decide) rfl wf_X9_54 (dX9_size 48 rfl) ?_
      obtain ⟨h26, H⟩ := H
      refine z_getI (pc := 159) C zc7 h26 1 (by decide) rfl wf_X9_396 (dX9_size 49 rfl) ?_
      refine z_if_ge (pc := 162) (tgt := 169) C (dX9_size 50 rfl) (by decide) (fun c27 => ?_) (fun c27 => ?_)
      · replace H := H.1 c27
        refine z_iconst (pc := 169) (v := 1) C (dX9_size 53 rfl) (by decide) ?_
        exact z_iret (pc := 170) C hr hu1 hu2 (dX9_size 54 rfl) ⟨rfl, _, rfl, H⟩
      · replace H := H.2 c27
        refine z_iconst (pc := 165) (v := 0) C (dX9_size 51 rfl) (by decide) ?_
        refine z_goto (pc := 166) (tgt := 170) C (dX9_size 52 rfl) (by decide) ?_
        exact z_iret (pc := 170) C hr hu1 hu2 (dX9_size 54 rfl) ⟨rfl, _, rfl, H⟩
    · replace H := H.2.2.2.2.2.2.2.2.2.2.2.2 c1e
      refine z_tableIn (pc := 1) (off := 170) (tgt := 171) C (dX9_size 1 rfl) (by rw [c1e]; decide) (by rw [c1e]; decide) (by rw [c1e]; rfl) (by decide) ?_
      refine z_aload_n (pc := 171) C (dX9_size 55 rfl) rfl 0 rfl ?_
      obtain ⟨h28, H⟩ := H
      refine z_getR (pc := 172) C zc9 h28 0 (by decide) rfl wf_X9_10 (dX9_size 56 rfl) ?_
      obtain ⟨h29, H⟩ := H
      refine z_getI (pc := 175) C zc3 h29 1 (by decide) rfl wf_X9_86 (dX9_size 57 rfl) ?_
      exact z_iret (pc := 178) C hr hu1 hu2 (dX9_size 58 rfl) ⟨rfl, _, rfl, H⟩
def wX9_trouble (t : zT) (m : zM) (a : Nat) (Q : Int32 → zM → Prop) : Prop := (tK t a = 9 ∧ (Q (gI m a 14) m))
set_option maxHeartbeats 4000000 in
set_option maxRecDepth 20000 in
theorem kX9_trouble {l : Launch} {t : zT} {m : zM} {a : Nat} {Q : Int32 → zM → Prop} (H : wX9_trouble t m a Q) : zMet l yX9_trouble cX9_trouble 1 (some .int) 0 0 0 t m [.ref a] (zPi t Q) := by
  refine zmet (by decide +kernel) (Nat.le_of_ble_eq_true rfl) ?_
  intro p e s mt args below meth c g C hr hm
  unfold wX9_trouble at H
  have hu1 : ((0, 0) : Nat × Nat).1 ≤ 0 := Nat.le_refl 0
  have hu2 : ((0, 0) : Nat × Nat).2 ≤ 0 := Nat.le_refl 0
  refine z_aload_n (pc := 0) C (dX9_trouble 0 rfl) rfl 0 rfl ?_
  obtain ⟨h1, H⟩ := H
  refine z_getI (pc := 1) C zc9 h1 14 (by decide) rfl wf_X9_148 (dX9_trouble 1 rfl) ?_
  exact z_iret (pc := 4) C hr hu1 hu2 (dX9_trouble 2 rfl) ⟨rfl, _, rfl, H⟩
def wX10_init (cap : Nat × Nat) (t : zT) (m : zM) (a : Nat) (Q : zT → zM → Prop) : Prop := (0 < a ∧ ((0 + 1 ≤ cap.1 ∧ 0 + 50625 ≤ cap.2) ∧ (0 < tN t → (tK (tNew t 14 50625) a = 10 ∧ ((0 + 1 + 1 ≤ cap.1 ∧ 0 + 50625 + 50625 ≤ cap.2) ∧ (0 < tN (tNew t 14 50625) → (tK (tNew (tNew t 14 50625) 14 50625) a = 10 ∧ (Q (tNew (tNew t 14 50625) 14 50625) (pR (zClr (pR (zClr m (tN t)) a 0 (tN t)) (tN (tNew t 14 50625))) a 1 (tN (tNew t 14 50625)))))))))))
set_option maxHeartbeats 4000000 in
set_option maxRecDepth 20000 in
theorem kX10_init {l : Launch} {cap : Nat × Nat} {t : zT} {m : zM} {a : Nat} {Q : zT → zM → Prop} (H : wX10_init cap t m a Q) : zMet l yX10_init cX10_init 1 none 1 cap.1 cap.2 t m [.ref a] (zAw Q) := by
  refine zmet (by decide +kernel) (Nat.le_of_ble_eq_true rfl) ?_
  intro p e s mt args below meth c g C hr hm
  unfold wX10_init at H
  obtain ⟨mc, ms⟩ := cap
  refine z_aload_n (pc := 0) C (dX10_init 0 rfl) rfl 0 rfl ?_
  obtain ⟨h7, H⟩ := H
  refine z_objInit (pc := 1) C h7 wl_X10_3 woi woc (by decide) (Nat.le_of_ble_eq_true rfl) (dX10_init 1 rfl) ?_
  refine z_aload_n (pc := 4) C (dX10_init 2 rfl) rfl 0 rfl ?_
  refine z_ldc (pc := 5) C wk_X10_9 (dX10_init 3 rfl) ?_
  obtain ⟨h5, H⟩ := H
  refine z_newaI (pc := 7) (N := 50625) C (by decide) (by decide) (by decide) wa_int (dX10_init 4 rfl) h5.1 h5.2 (fun h6 => ?_)
  replace H := H h6
  obtain ⟨h1, H⟩ := H
  refine z_putRF (pc := 9) C zc10 h1 0 (by decide) rfl rfl hm rfl wf_X10_10 (dX10_init 5 rfl) ?_
  refine z_aload_n (pc := 12) C (dX10_init 6 rfl) rfl 0 rfl ?_
  refine z_ldc (pc := 13) C wk_X10_9 (dX10_init 7 rfl) ?_
  obtain ⟨h3, H⟩ := H
  refine z_newaI (pc := 15) (N := 50625) C (by decide) (by decide) (by decide) wa_int (dX10_init 8 rfl) h3.1 h3.2 (fun h4 => ?_)
  replace H := H h4
  obtain ⟨h2, H⟩ := H
  refine z_putRF (pc := 17) C zc10 h2 1 (by decide) rfl rfl hm rfl wf_X10_16 (dX10_init 9 rfl) ?_
  exact z_vret (pc := 20) C hr (by first | omega | (show _ ≤ mc; omega)) (by first | omega | (show _ ≤ ms; omega)) (dX10_init 10 rfl) ⟨rfl, H⟩
def wX11_init (cap : Nat × Nat) (t : zT) (m : zM) (a : Nat) (Q : zT → zM → Prop) : Prop := (0 < a ∧ (tK t a = 11 ∧ ((0 + 1 ≤ cap.1 ∧ 0 + 8 ≤ cap.2) ∧ (0 < tN t → (tK (tNew t 14 8) a = 11 ∧ ((0 + 1 + 1 ≤ cap.1 ∧ 0 + 8 + 8 ≤ cap.2) ∧ (0 < tN (tNew t 14 8) → (tK (tNew (tNew t 14 8) 14 8) a = 11 ∧ ((0 + 1 + 1 + 1 ≤ cap.1 ∧ 0 + 8 + 8 + 6 ≤ cap.2) ∧ (0 < tN (tNew (tNew t 14 8) 14 8) → (tK (tNew (tNew (tNew t 14 8) 14 8) 14 6) a = 11 ∧ ((0 + 1 + 1 + 1 + 1 ≤ cap.1 ∧ 0 + 8 + 8 + 6 + 5 ≤ cap.2) ∧ (0 < tN (tNew (tNew (tNew t 14 8) 14 8) 14 6) → (tK (tNew (tNew (tNew (tNew t 14 8) 14 8) 14 6) 14 5) a = 11 ∧ ((0 + 1 + 1 + 1 + 1 + 1 ≤ cap.1 ∧ 0 + 8 + 8 + 6 + 5 + 6 ≤ cap.2) ∧ (0 < tN (tNew (tNew (tNew (tNew t 14 8) 14 8) 14 6) 14 5) → (tK (tNew (tNew (tNew (tNew (tNew t 14 8) 14 8) 14 6) 14 5) 14 6) a = 11 ∧ ((0 + 1 + 1 + 1 + 1 + 1 + 1 ≤ cap.1 ∧ 0 + 8 + 8 + 6 + 5 + 6 + 6 ≤ cap.2) ∧ (0 < tN (tNew (tNew (tNew (tNew (tNew t 14 8) 14 8) 14 6) 14 5) 14 6) → (tK (tNew (tNew (tNew (tNew (tNew (tNew t 14 8) 14 8) 14 6) 14 5) 14 6) 14 6) a = 11 ∧ ((0 + 1 + 1 + 1 + 1 + 1 + 1 + 1 ≤ cap.1 ∧ 0 + 8 + 8 + 6 + 5 + 6 + 6 + 6 ≤ cap.2) ∧ (0 < tN (tNew (tNew (tNew (tNew (tNew (tNew t 14 8) 14 8) 14 6) 14 5) 14 6) 14 6) → (tK (tNew (tNew (tNew (tNew (tNew (tNew (tNew t 14 8) 14 8) 14 6) 14 5) 14 6) 14 6) 14 6) a = 11 ∧ ((0 + 1 + 1 + 1 + 1 + 1 + 1 + 1 + 1 ≤ cap.1 ∧ 0 + 8 + 8 + 6 + 5 + 6 + 6 + 6 + 6 ≤ cap.2) ∧ (0 < tN (tNew (tNew (tNew (tNew (tNew (tNew (tNew t 14 8) 14 8) 14 6) 14 5) 14 6) 14 6) 14 6) → (tK (tNew (tNew (tNew (tNew (tNew (tNew (tNew (tNew t 14 8) 14 8) 14 6) 14 5) 14 6) 14 6) 14 6) 14 6) a = 11 ∧ ((0 + 1 + 1 + 1 + 1 + 1 + 1 + 1 + 1 + 1 ≤ cap.1 ∧ 0 + 8 + 8 + 6 + 5 + 6 + 6 + 6 + 6 + 17 ≤ cap.2) ∧ (0 < tN (tNew (tNew (tNew (tNew (tNew (tNew (tNew (tNew t 14 8) 14 8) 14 6) 14 5) 14 6) 14 6) 14 6) 14 6) → (tK (tNew (tNew (tNew (tNew (tNew (tNew (tNew (tNew (tNew t 14 8) 14 8) 14 6) 14 5) 14 6) 14 6) 14 6) 14 6) 14 17) a = 11 ∧ ((0 + 1 + 1 + 1 + 1 + 1 + 1 + 1 + 1 + 1 + 1 ≤ cap.1 ∧ 0 + 8 + 8 + 6 + 5 + 6 + 6 + 6 + 6 + 17 + 17 ≤ cap.2) ∧ (0 < tN (tNew (tNew (tNew (tNew (tNew (tNew (tNew (tNew (tNew t 14 8) 14 8) 14 6) 14 5) 14 6) 14 6) 14 6) 14 6) 14 17) → (tK (tNew (tNew (tNew (tNew (tNew (tNew (tNew (tNew (tNew (tNew t 14 8) 14 8) 14 6) 14 5) 14 6) 14 6) 14 6) 14 6) 14 17) 14 17) a = 11 ∧ ((0 + 1 + 1 + 1 + 1 + 1 + 1 + 1 + 1 + 1 + 1 + 1 ≤ cap.1 ∧ 0 + 8 + 8 + 6 + 5 + 6 + 6 + 6 + 6 + 17 + 17 + 17 ≤ cap.2) ∧ (0 < tN (tNew (tNew (tNew (tNew (tNew (tNew (tNew (tNew (tNew (tNew t 14 8) 14 8) 14 6) 14 5) 14 6) 14 6) 14 6) 14 6) 14 17) 14 17) → (tK (tNew (tNew (tNew (tNew (tNew (tNew (tNew (tNew (tNew (tNew (tNew t 14 8) 14 8) 14 6) 14 5) 14 6) 14 6) 14 6) 14 6) 14 17) 14 17) 14 17) a = 11 ∧ ((0 + 1 + 1 + 1 + 1 + 1 + 1 + 1 + 1 + 1 + 1 + 1 + 1 ≤ cap.1 ∧ 0 + 8 + 8 + 6 + 5 + 6 + 6 + 6 + 6 + 17 + 17 + 17 + 19 ≤ cap.2) ∧ (0 < tN (tNew (tNew (tNew (tNew (tNew (tNew (tNew (tNew (tNew (tNew (tNew t 14 8) 14 8) 14 6) 14 5) 14 6) 14 6) 14 6) 14 6) 14 17) 14 17) 14 17) → (tK (tNew (tNew (tNew (tNew (tNew (tNew (tNew (tNew (tNew (tNew (tNew (tNew t 14 8) 14 8) 14 6) 14 5) 14 6) 14 6) 14 6) 14 6) 14 17) 14 17) 14 17) 15 19) a = 11 ∧ ((0 + 1 + 1 + 1 + 1 + 1 + 1 + 1 + 1 + 1 + 1 + 1 + 1 + 1 ≤ cap.1 ∧ 0 + 8 + 8 + 6 + 5 + 6 + 6 + 6 + 6 + 17 + 17 + 17 + 19 + 19 ≤ cap.2) ∧ (0 < tN (tNew (tNew (tNew (tNew (tNew (tNew (tNew (tNew (tNew (tNew (tNew (tNew t 14 8) 14 8) 14 6) 14 5) 14 6) 14 6) 14 6) 14 6) 14 17) 14 17) 14 17) 15 19) → (tK (tNew (tNew (tNew (tNew (tNew (tNew (tNew (tNew (tNew (tNew (tNew (tNew (tNew t 14 8) 14 8) 14 6) 14 5) 14 6) 14 6) 14 6) 14 6) 14 17) 14 17) 14 17) 15 19) 14 19) a = 11 ∧ ((0 + 1 + 1 + 1 + 1 + 1 + 1 + 1 + 1 + 1 + 1 + 1 + 1 + 1 + 1 ≤ cap.1 ∧ 0 + 8 + 8 + 6 + 5 + 6 + 6 + 6 + 6 + 17 + 17 + 17 + 19 + 19 + 19 ≤ cap.2) ∧ (0 < tN (tNew (tNew (tNew (tNew (tNew (tNew (tNew (tNew (tNew (tNew (tNew (tNew (tNew t 14 8) 14 8) 14 6) 14 5) 14 6) 14 6) 14 6) 14 6) 14 17) 14 17) 14 17) 15 19) 14 19) → (tK (tNew (tNew (tNew (tNew (tNew (tNew (tNew (tNew (tNew (tNew (tNew (tNew (tNew (tNew t 14 8) 14 8) 14 6) 14 5) 14 6) 14 6) 14 6) 14 6) 14 17) 14 17) 14 17) 15 19) 14 19) 14 19) a = 11 ∧ (Q (tNew (tNew (tNew (tNew (tNew (tNew (tNew (tNew (tNew (tNew (tNew (tNew (tNew (tNew t 14 8) 14 8) 14 6) 14 5) 14 6) 14 6) 14 6) 14 6) 14 17) 14 17) 14 17) 15 19) 14 19) 14 19) (pR (zClr (pR (zClr (pR (zClr (pR (zClr (pR (zClr (pR (zClr (pR (zClr (pR (zClr (pR (zClr (pR (zClr (pR (zClr (pR (zClr (pR (zClr (pR (zClr (pI (pI m a 7 (-2)) a 9 1) (tN t)) a 10 (tN t)) (tN (tNew t 14 8))) a 11 (tN (tNew t 14 8))) (tN (tNew (tNew t 14 8) 14 8))) a 12 (tN (tNew (tNew t 14 8) 14 8))) (tN (tNew (tNew (tNew t 14 8) 14 8) 14 6))) a 13 (tN (tNew (tNew (tNew t 14 8) 14 8) 14 6))) (tN (tNew (tNew (tNew (tNew t 14 8) 14 8) 14 6) 14 5))) a 14 (tN (tNew (tNew (tNew (tNew t 14 8) 14 8) 14 6) 14 5))) (tN (tNew (tNew (tNew (tNew (tNew t 14 8) 14 8) 14 6) 14 5) 14 6))) a 15 (tN (tNew (tNew (tNew (tNew (tNew t 14 8) 14 8) 14 6) 14 5) 14 6))) (tN (tNew (tNew (tNew (tNew (tNew (tNew t 14 8) 14 8) 14 6) 14 5) 14 6) 14 6))) a 16 (tN (tNew (tNew (tNew (tNew (tNew (tNew t 14 8) 14 8) 14 6) 14 5) 14 6) 14 6))) (tN (tNew (tNew (tNew (tNew (tNew (tNew (tNew t 14 8) 14 8) 14 6) 14 5) 14 6) 14 6) 14 6))) a 17 (tN (tNew (tNew (tNew (tNew (tNew (tNew (tNew t 14 8) 14 8) 14 6) 14 5) 14 6) 14 6) 14 6))) (tN (tNew (tNew (tNew (tNew (tNew (tNew (tNew (tNew t 14 8) 14 8) 14 6) 14 5) 14 6) 14 6) 14 6) 14 6))) a 18 (tN (tNew (tNew (tNew (tNew (tNew (tNew (tNew (tNew t 14 8) 14 8) 14 6) 14 5) 14 6) 14 6) 14 6) 14 6))) (tN (tNew (tNew (tNew (tNew (tNew (tNew (tNew (tNew (tNew t 14 8) 14 8) 14 6) 14 5) 14 6) 14 6) 14 6) 14 6) 14 17))) a 19 (tN (tNew (tNew (tNew (tNew (tNew (tNew (tNew (tNew (tNew t 14 8) 14 8) 14 6) 14 5) 14 6) 14 6) 14 6) 14 6) 14 17))) (tN (tNew (tNew (tNew (tNew (tNew (tNew (tNew (tNew (tNew (tNew t 14 8) 14 8) 14 6) 14 5) 14 6) 14 6) 14 6) 14 6) 14 17) 14 17))) a 20 (tN (tNew (tNew (tNew (tNew (tNew (tNew (tNew (tNew (tNew (tNew t 14 8) 14 8) 14 6) 14 5) 14 6) 14 6) 14 6) 14 6) 14 17) 14 17))) (tN (tNew (tNew (tNew (tNew (tNew (tNew (tNew (tNew (tNew (tNew (tNew t 14 8) 14 8) 14 6) 14 5) 14 6) 14 6) 14 6) 14 6) 14 17) 14 17) 14 17))) a 21 (tN (tNew (tNew (tNew (tNew (tNew (tNew (tNew (tNew (tNew (tNew (tNew t 14 8) 14 8) 14 6) 14 5) 14 6) 14 6) 14 6) 14 6) 14 17) 14 17) 14 17))) (tN (tNew (tNew (tNew (tNew (tNew (tNew (tNew (tNew (tNew (tNew (tNew (tNew t 14 8) 14 8) 14 6) 14 5) 14 6) 14 6) 14 6) 14 6) 14 17) 14 17) 14 17) 15 19))) a 22 (tN (tNew (tNew (tNew (tNew (tNew (tNew (tNew (tNew (tNew (tNew (tNew (tNew t 14 8) 14 8) 14 6) 14 5) 14 6) 14 6) 14 6) 14 6) 14 17) 14 17) 14 17) 15 19))) (tN (tNew (tNew (tNew (tNew (tNew (tNew (tNew (tNew (tNew (tNew (tNew (tNew (tNew t 14 8) 14 8) 14 6) 14 5) 14 6) 14 6) 14 6) 14 6) 14 17) 14 17) 14 17) 15 19) 14 19))) a 23 (tN (tNew (tNew (tNew (tNew (tNew (tNew (tNew (tNew (tNew (tNew (tNew (tNew (tNew t 14 8) 14 8) 14 6) 14 5) 14 6) 14 6) 14 6) 14 6) 14 17) 14 17) 14 17) 15 19) 14 19))))))))))))))))))))))))))))))))))))))))))))))))
set_option maxHeartbeats 4000000 in
set_option maxRecDepth 20000 in
theorem kX11_init {l : Launch} {cap : Nat × Nat} {t : zT} {m : zM} {a : Nat} {Q : zT → zM → Prop} (H : wX11_init cap t m a Q) : zMet l yX11_init cX11_init 1 none 1 cap.1 cap.2 t m [.ref a] (zAw Q) := by
  refine zmet (by decide +kernel) (Nat.le_of_ble_eq_true rfl) ?_
  intro p e s mt args below meth c g C hr hm
  unfold wX11_init at H
  obtain ⟨mc, ms⟩ := cap
  refine z_aload_n (pc := 0) C (dX11_init 0 rfl) rfl 0 rfl ?_
  obtain ⟨h44, H⟩ := H
  refine z_objInit (pc := 1) C h44 wl_X11_3 woi woc (by decide) (Nat.le_of_ble_eq_true rfl) (dX11_init 1 rfl) ?_
  refine z_aload_n (pc := 4) C (dX11_init 2 rfl) rfl 0 rfl ?_
  refine z_bipush (pc := 5) (v := (-2)) C (dX11_init 3 rfl) (by decide) ?_
  obtain ⟨h1, H⟩ := H
  refine z_putI (pc := 7) C zc11 h1 7 (by decide) rfl rfl wf_X11_9 (dX11_init 4 rfl) ?_
  refine z_aload_n (pc := 10) C (dX11_init 5 rfl) rfl 0 rfl ?_
  refine z_iconst (pc := 11) (v := 1) C (dX11_init 6 rfl) (by decide) ?_
  refine z_putI (pc := 12) C zc11 h1 9 (by decide) rfl rfl wf_X11_15 (dX11_init 7 rfl) ?_
  refine z_aload_n (pc := 15) C (dX11_init 8 rfl) rfl 0 rfl ?_
  refine z_bipush (pc := 16) (v := 8) C (dX11_init 9 rfl) (by decide) ?_
  obtain ⟨h42, H⟩ := H
  refine z_newaI (pc := 18) (N := 8) C (by decide) (by decide) (by decide) wa_int (dX11_init 10 rfl) h42.1 h42.2 (fun h43 => ?_)
  replace H := H h43
  obtain ⟨h2, H⟩ := H
  refine z_putRF (pc := 20) C zc11 h2 10 (by decide) rfl rfl hm rfl wf_X11_18 (dX11_init 11 rfl) ?_
  refine z_aload_n (pc := 23) C (dX11_init 12 rfl) rfl 0 rfl ?_
  refine z_bipush (pc := 24) (v := 8) C (dX11_init 13 rfl) (by decide) ?_
  obtain ⟨h40, H⟩ := H
  refine z_newaI (pc := 26) (N := 8) C (by decide) (by decide) (by decide) wa_int (dX11_init 14 rfl) h40.1 h40.2 (fun h41 => ?_)
  replace H := H h41
  obtain ⟨h3, H⟩ := H
  refine z_putRF (pc := 28) C zc11 h3 11 (by decide) rfl rfl hm rfl wf_X11_22 (dX11_init 15 rfl) ?_
  refine z_aload_n (pc := 31) C (dX11_init 16 rfl) rfl 0 rfl ?_
  refine z_bipush (pc := 32) (v := 6) C (dX11_init 17 rfl) (by decide) ?_
  obtain ⟨h38, H⟩ := H
  refine z_newaI (pc := 34) (N := 6) C (by decide) (by decide) (by decide) wa_int (dX11_init 18 rfl) h38.1 h38.2 (fun h39 => ?_)
  replace H := H h39
  obtain ⟨h4, H⟩ := H
  refine z_putRF (pc := 36) C zc11 h4 12 (by decide) rfl rfl hm rfl wf_X11_25 (dX11_init 19 rfl) ?_
  refine z_aload_n (pc := 39) C (dX11_init 20 rfl) rfl 0 rfl ?_
  refine z_iconst (pc := 40) (v := 5) C (dX11_init 21 rfl) (by decide) ?_
  obtain ⟨h36, H⟩ := H
  refine z_newaI (pc := 41) (N := 5) C (by decide) (by decide) (by decide) wa_int (dX11_init 22 rfl) h36.1 h36.2 (fun h37 => ?_)
  replace H := H h37
  obtain ⟨h5, H⟩ := H
  refine z_putRF (pc := 43) C zc11 h5 13 (by decide) rfl rfl hm rfl wf_X11_28 (dX11_init 23 rfl) ?_
  refine z_aload_n (pc := 46) C (dX11_init 24 rfl) rfl 0 rfl ?_
  refine z_bipush (pc := 47) (v := 6) C (dX11_init 25 rfl) (by decide) ?_
  obtain ⟨h34, H⟩ := H
  refine z_newaI (pc := 49) (N := 6) C (by decide) (by decide) (by decide) wa_int (dX11_init 26 rfl) h34.1 h34.2 (fun h35 => ?_)
  replace H := H h35
  obtain ⟨h6, H⟩ := H
  refine z_putRF (pc := 51) C zc11 h6 14 (by decide) rfl rfl hm rfl wf_X11_31 (dX11_init 27 rfl) ?_
  refine z_aload_n (pc := 54) C (dX11_init 28 rfl) rfl 0 rfl ?_
  refine z_bipush (pc := 55) (v := 6) C (dX11_init 29 rfl) (by decide) ?_
  obtain ⟨h32, H⟩ := H
  refine z_newaI (pc := 57) (N := 6) C (by decide) (by decide) (by decide) wa_int (dX11_init 30 rfl) h32.1 h32.2 (fun h33 => ?_)
  replace H := H h33
  obtain ⟨h7, H⟩ := H
  refine z_putRF (pc := 59) C zc11 h7 15 (by decide) rfl rfl hm rfl wf_X11_34 (dX11_init 31 rfl) ?_
  refine z_aload_n (pc := 62) C (dX11_init 32 rfl) rfl 0 rfl ?_
  refine z_bipush (pc := 63) (v := 6) C (dX11_init 33 rfl) (by decide) ?_
  obtain ⟨h30, H⟩ := H
  refine z_newaI (pc := 65) (N := 6) C (by decide) (by decide) (by decide) wa_int (dX11_init 34 rfl) h30.1 h30.2 (fun h31 => ?_)
  replace H := H h31
  obtain ⟨h8, H⟩ := H
  refine z_putRF (pc := 67) C zc11 h8 16 (by decide) rfl rfl hm rfl wf_X11_37 (dX11_init 35 rfl) ?_
  refine z_aload_n (pc := 70) C (dX11_init 36 rfl) rfl 0 rfl ?_
  refine z_bipush (pc := 71) (v := 6) C (dX11_init 37 rfl) (by decide) ?_
  obtain ⟨h28, H⟩ := H
  refine z_newaI (pc := 73) (N := 6) C (by decide) (by decide) (by decide) wa_int (dX11_init 38 rfl) h28.1 h28.2 (fun h29 => ?_)
  replace H := H h29
  obtain ⟨h9, H⟩ := H
  refine z_putRF (pc := 75) C zc11 h9 17 (by decide) rfl rfl hm rfl wf_X11_40 (dX11_init 39 rfl) ?_
  refine z_aload_n (pc := 78) C (dX11_init 40 rfl) rfl 0 rfl ?_
  refine z_bipush (pc := 79) (v := 17) C (dX11_init 41 rfl) (by decide) ?_
  obtain ⟨h26, H⟩ := H
  refine z_newaI (pc := 81) (N := 17) C (by decide) (by decide) (by decide) wa_int (dX11_init 42 rfl) h26.1 h26.2 (fun h27 => ?_)
  replace H := H h27
  obtain ⟨h10, H⟩ := H
  refine z_putRF (pc := 83) C zc11 h10 18 (by decide) rfl rfl hm rfl wf_X11_43 (dX11_init 43 rfl) ?_
  refine z_aload_n (pc := 86) C (dX11_init 44 rfl) rfl 0 rfl ?_
  refine z_bipush (pc := 87) (v := 17) C (dX11_init 45 rfl) (by decide) ?_
  obtain ⟨h24, H⟩ := H
  refine z_newaI (pc := 89) (N := 17) C (by decide) (by decide) (by decide) wa_int (dX11_init 46 rfl) h24.1 h24.2 (fun h25 => ?_)
  replace H := H h25
  obtain ⟨h11, H⟩ := H
  refine z_putRF (pc := 91) C zc11 h11 19 (by decide) rfl rfl hm rfl wf_X11_46 (dX11_init 47 rfl) ?_
  refine z_aload_n (pc := 94) C (dX11_init 48 rfl) rfl 0 rfl ?_
  refine z_bipush (pc := 95) (v := 17) C (dX11_init 49 rfl) (by decide) ?_
  obtain ⟨h22, H⟩ := H
  refine z_newaI (pc := 97) (N := 17) C (by decide) (by decide) (by decide) wa_int (dX11_init 50 rfl) h22.1 h22.2 (fun h23 => ?_)
  replace H := H h23
  obtain ⟨h12, H⟩ := H
  refine z_putRF (pc := 99) C zc11 h12 20 (by decide) rfl rfl hm rfl wf_X11_49 (dX11_init 51 rfl) ?_
  refine z_aload_n (pc := 102) C (dX11_init 52 rfl) rfl 0 rfl ?_
  refine z_bipush (pc := 103) (v := 19) C (dX11_init 53 rfl) (by decide) ?_
  obtain ⟨h20, H⟩ := H
  refine z_newaJ (pc := 105) (N := 19) C (by decide) (by decide) (by decide) wa_long (dX11_init 54 rfl) h20.1 h20.2 (fun h21 => ?_)
  replace H := H h21
  obtain ⟨h13, H⟩ := H
  refine z_putRF (pc := 107) C zc11 h13 21 (by decide) rfl rfl hm rfl wf_X11_52 (dX11_init 55 rfl) ?_
  refine z_aload_n (pc := 110) C (dX11_init 56 rfl) rfl 0 rfl ?_
  refine z_bipush (pc := 111) (v := 19) C (dX11_init 57 rfl) (by decide) ?_
  obtain ⟨h18, H⟩ := H
  refine z_newaI (pc := 113) (N := 19) C (by decide) (by decide) (by decide) wa_int (dX11_init 58 rfl) h18.1 h18.2 (fun h19 => ?_)
  replace H := H h19
  obtain ⟨h14, H⟩ := H
  refine z_putRF (pc := 115) C zc11 h14 22 (by decide) rfl rfl hm rfl wf_X11_56 (dX11_init 59 rfl) ?_
  refine z_aload_n (pc := 118) C (dX11_init 60 rfl) rfl 0 rfl ?_
  refine z_bipush (pc := 119) (v := 19) C (dX11_init 61 rfl) (by decide) ?_
  obtain ⟨h16, H⟩ := H
  refine z_newaI (pc := 121) (N := 19) C (by decide) (by decide) (by decide) wa_int (dX11_init 62 rfl) h16.1 h16.2 (fun h17 => ?_)
  replace H := H h17
  obtain ⟨h15, H⟩ := H
  refine z_putRF (pc := 123) C zc11 h15 23 (by decide) rfl rfl hm rfl wf_X11_59 (dX11_init 63 rfl) ?_
  exact z_vret (pc := 126) C hr (by first | omega | (show _ ≤ mc; omega)) (by first | omega | (show _ ≤ ms; omega)) (dX11_init 64 rfl) ⟨rfl, H⟩
def wX11_find_L2 (t : zT) (a_0 : Nat) (y_1 : Int64) (Q : Int32 → zM → Prop) (k29 : zM → Prop) : Nat → Int32 → zM → Prop
  | 0, _, _ => False
  | n + 1, x_3, m => (tK t a_0 = 11 ∧ (((gI m a_0 8) ≤ x_3 → (k29 m)) ∧ (¬ (gI m a_0 8) ≤ x_3 → (tK t (gR m a_0 21) = 15 ∧ (vp_in x_3 (tL t (gR m a_0 21)) ∧ (((lg_cmp (gJ m (gR m a_0 21) x_3.toNatClampNeg) y_1) = 0 → (Q x_3 m)) ∧ (¬ (lg_cmp (gJ m (gR m a_0 21) x_3.toNatClampNeg) y_1) = 0 → (wX11_find_L2 t a_0 y_1 Q k29 n (x_3 + 1) m))))))))
set_option maxHeartbeats 4000000 in
set_option maxRecDepth 20000 in
theorem sX11_find_L2 {p : Program} {l : Launch} {e : Env} {s : State} {mt : MethodId} {args : Array Value} {below : List Frame} {meth : Method} {c : Code} {g : zG} {u : Nat × Nat} {mc ms : Nat} {t : zT} {a_0 : Nat} {y_1 : Int64} {Q : Int32 → zM → Prop} {k29 : zM → Prop} (C : zC p (zRm 0 mc ms) s mt args meth c g cX11_find 4 yX11_find.cls 0) (hr : meth.sig.returnType = (some .int)) (hm : meth.name = yX11_find.name) (hu1 : u.1 ≤ mc) (hu2 : u.2 ≤ ms)
    (K29 : ∀ (m : zM), k29 m → zW p l e (zRm 0 mc ms) s mt args below meth c g (MQ below (zQc g (zPi t Q)) args s mc ms (zFar g)) u 4 t m 29 [] []) : ∀ (n : Nat) (x_3 : Int32) (m : zM), wX11_find_L2 t a_0 y_1 Q k29 n x_3 m → zW p l e (zRm 0 mc ms) s mt args below meth c g (MQ below (zQc g (zPi t Q)) args s mc ms (zFar g)) u 4 t m 2 [(0, .ref a_0), (1, .long y_1), (3, .int x_3)] [] := by
  intro n
  induction n with
  | zero => intro x_3 m H; exact H.elim
  | succ n ih =>
    intro x_3 m H
    simp only [wX11_find_L2] at H
    refine z_iload_n (pc := 2) C (dX11_find 2 rfl) rfl 2 rfl ?_
    refine z_aload_n (pc := 3) C (dX11_find 3 rfl) rfl 0 rfl ?_
    obtain ⟨h1, H⟩ := H
    refine z_getI (pc := 4) C zc11 h1 8 (by decide) rfl wf_X11_62 (dX11_find 4 rfl) ?_
    refine z_icmp_ge (pc := 7) (tgt := 29) C (dX11_find 5 rfl) (by decide) (fun c2 => ?_) (fun c2 => ?_)
    · replace H := H.1 c2
      refine z_sub [] rfl ?_
      exact K29 m H
    · replace H := H.2 c2
      refine z_aload_n (pc := 10) C (dX11_find 6 rfl) rfl 0 rfl ?_
      refine z_getR (pc := 11) C zc11 h1 21 (by decide) rfl wf_X11_52 (dX11_find 7 rfl) ?_
      refine z_iload_n (pc := 14) C (dX11_find 8 rfl) rfl 2 rfl ?_
      obtain ⟨h3, H⟩ := H
      obtain ⟨h4, H⟩ := H
      refine z_laload (pc := 15) C h3 h4 (dX11_find 9 rfl) ?_
      refine z_lload_n (pc := 16) C (dX11_find 10 rfl) rfl 1 rfl ?_
      refine z_lcmp (pc := 17) C (dX11_find 11 rfl) ?_
      refine z_if_ne (pc := 18) (tgt := 23) C (dX11_find 12 rfl) (by decide) (fun c5 => ?_) (fun c5 => ?_)
      · replace H := H.2 c5
        refine z_iinc (pc := 23) (i := 3) (v := x_3 + 1) (lv2 := [(3, .int (x_3 + 1)), (0, .ref a_0), (1, .long y_1)]) C (dX11_find 15 rfl) 2 rfl (by rfl) (by decide) rfl ?_
        refine z_goto (pc := 26) (tgt := 2) C (dX11_find 16 rfl) (by decide) ?_
        refine z_sub [1, 2, 0] rfl ?_
        exact ih (x_3 + 1) m H
      · replace H := H.1 c5
        refine z_iload_n (pc := 21) C (dX11_find 13 rfl) rfl 2 rfl ?_
        exact z_iret (pc := 22) C hr hu1 hu2 (dX11_find 14 rfl) ⟨rfl, _, rfl, H⟩
def wX11_find (t : zT) (m : zM) (a : Nat) (p1 : Int64) (Q : Int32 → zM → Prop) : Prop := (∃ n7, wX11_find_L2 t a p1 Q (fun m6 => (Q (-1) m6)) n7 0 m)
set_option maxHeartbeats 4000000 in
set_option maxRecDepth 20000 in
theorem kX11_find {l : Launch} {t : zT} {m : zM} {a : Nat} {p1 : Int64} {Q : Int32 → zM → Prop} (H : wX11_find t m a p1 Q) : zMet l yX11_find cX11_find 4 (some .int) 0 0 0 t m [.ref a, .long p1] (zPi t Q) := by
  refine zmet (by decide +kernel) (Nat.le_of_ble_eq_true rfl) ?_
  intro p e s mt args below meth c g C hr hm
  unfold wX11_find at H
  have hu1 : ((0, 0) : Nat × Nat).1 ≤ 0 := Nat.le_refl 0
  have hu2 : ((0, 0) : Nat × Nat).2 ≤ 0 := Nat.le_refl 0
  refine z_iconst (pc := 0) (v := 0) C (dX11_find 0 rfl) (by decide) ?_
  refine z_istore_n (pc := 1) (i := 3) (lv2 := [(3, .int 0), (0, .ref a), (1, .long p1)]) C (dX11_find 1 rfl) rfl (by decide) rfl ?_
  obtain ⟨n7, H⟩ := H
  refine z_sub [1, 2, 0] rfl ?_
  refine sX11_find_L2 C hr hm hu1 hu2 (fun m6 H => ?_) n7 0 m H
  refine z_iconst (pc := 29) (v := (-1)) C (dX11_find 17 rfl) (by decide) ?_
  exact z_iret (pc := 30) C hr hu1 hu2 (dX11_find 18 rfl) ⟨rfl, _, rfl, H⟩
def wX11_allSayings (t : zT) (m : zM) (a : Nat) (Q : Int32 → zM → Prop) : Prop := (tK t a = 11 ∧ (Q (((1 : Int32) <<< ((gI m a 3) &&& 31)) - (1 : Int32)) m))
set_option maxHeartbeats 4000000 in
set_option maxRecDepth 20000 in
theorem kX11_allSayings {l : Launch} {t : zT} {m : zM} {a : Nat} {Q : Int32 → zM → Prop} (H : wX11_allSayings t m a Q) : zMet l yX11_allSayings cX11_allSayings 1 (some .int) 0 0 0 t m [.ref a] (zPi t Q) := by
  refine zmet (by decide +kernel) (Nat.le_of_ble_eq_true rfl) ?_
  intro p e s mt args below meth c g C hr hm
  unfold wX11_allSayings at H
  have hu1 : ((0, 0) : Nat × Nat).1 ≤ 0 := Nat.le_refl 0
  have hu2 : ((0, 0) : Nat × Nat).2 ≤ 0 := Nat.le_refl 0
  refine z_iconst (pc := 0) (v := 1) C (dX11_allSayings 0 rfl) (by decide) ?_
  refine z_aload_n (pc := 1) C (dX11_allSayings 1 rfl) rfl 0 rfl ?_
  obtain ⟨h1, H⟩ := H
  refine z_getI (pc := 2) C zc11 h1 3 (by decide) rfl wf_X11_65 (dX11_allSayings 2 rfl) ?_
  refine z_ishl (pc := 5) C (dX11_allSayings 3 rfl) ?_
  refine z_iconst (pc := 6) (v := 1) C (dX11_allSayings 4 rfl) (by decide) ?_
  refine z_isub (pc := 7) C (dX11_allSayings 5 rfl) ?_
  exact z_iret (pc := 8) C hr hu1 hu2 (dX11_allSayings 6 rfl) ⟨rfl, _, rfl, H⟩
def wX12_init (cap : Nat × Nat) (t : zT) (m : zM) (a : Nat) (Q : zT → zM → Prop) : Prop := (0 < a ∧ (tK t a = 12 ∧ ((0 + 1 ≤ cap.1 ∧ 0 + 900 ≤ cap.2) ∧ (0 < tN t → (tK (tNew t 13 900) a = 12 ∧ ((0 + 1 + 1 ≤ cap.1 ∧ 0 + 900 + 32768 ≤ cap.2) ∧ (0 < tN (tNew t 13 900) → (tK (tNew (tNew t 13 900) 13 32768) a = 12 ∧ ((0 + 1 + 1 + 1 ≤ cap.1 ∧ 0 + 900 + 32768 + 4096 ≤ cap.2) ∧ (0 < tN (tNew (tNew t 13 900) 13 32768) → (tK (tNew (tNew (tNew t 13 900) 13 32768) 16 4096) a = 12 ∧ ((0 + 1 + 1 + 1 + 1 ≤ cap.1 ∧ 0 + 900 + 32768 + 4096 + 32 ≤ cap.2) ∧ (0 < tN (tNew (tNew (tNew t 13 900) 13 32768) 16 4096) → (tK (tNew (tNew (tNew (tNew t 13 900) 13 32768) 16 4096) 14 32) a = 12 ∧ ((0 + 1 + 1 + 1 + 1 + 1 ≤ cap.1 ∧ 0 + 900 + 32768 + 4096 + 32 + 8 ≤ cap.2) ∧ (0 < tN (tNew (tNew (tNew (tNew t 13 900) 13 32768) 16 4096) 14 32) → (tK (tNew (tNew (tNew (tNew (tNew t 13 900) 13 32768) 16 4096) 14 32) 14 8) a = 12 ∧ ((0 + 1 + 1 + 1 + 1 + 1 + 1 ≤ cap.1 ∧ 0 + 900 + 32768 + 4096 + 32 + 8 + 8 ≤ cap.2) ∧ (0 < tN (tNew (tNew (tNew (tNew (tNew t 13 900) 13 32768) 16 4096) 14 32) 14 8) → (tK (tNew (tNew (tNew (tNew (tNew (tNew t 13 900) 13 32768) 16 4096) 14 32) 14 8) 14 8) a = 12 ∧ ((0 + 1 + 1 + 1 + 1 + 1 + 1 + 1 ≤ cap.1 ∧ 0 + 900 + 32768 + 4096 + 32 + 8 + 8 + 11 ≤ cap.2) ∧ (0 < tN (tNew (tNew (tNew (tNew (tNew (tNew t 13 900) 13 32768) 16 4096) 14 32) 14 8) 14 8) → (tK (tNew (tNew (tNew (tNew (tNew (tNew (tNew t 13 900) 13 32768) 16 4096) 14 32) 14 8) 14 8) 14 11) a = 12 ∧ ((0 + 1 + 1 + 1 + 1 + 1 + 1 + 1 + 1 ≤ cap.1 ∧ 0 + 900 + 32768 + 4096 + 32 + 8 + 8 + 11 + 33 ≤ cap.2) ∧ (0 < tN (tNew (tNew (tNew (tNew (tNew (tNew (tNew t 13 900) 13 32768) 16 4096) 14 32) 14 8) 14 8) 14 11) → (tK (tNew (tNew (tNew (tNew (tNew (tNew (tNew (tNew t 13 900) 13 32768) 16 4096) 14 32) 14 8) 14 8) 14 11) 14 33) a = 12 ∧ (Q (tNew (tNew (tNew (tNew (tNew (tNew (tNew (tNew t 13 900) 13 32768) 16 4096) 14 32) 14 8) 14 8) 14 11) 14 33) (pR (zClr (pR (zClr (pR (zClr (pR (zClr (pR (zClr (pR (zClr (pR (zClr (pR (zClr (pI m a 2 (-1)) (tN t)) a 5 (tN t)) (tN (tNew t 13 900))) a 16 (tN (tNew t 13 900))) (tN (tNew (tNew t 13 900) 13 32768))) a 17 (tN (tNew (tNew t 13 900) 13 32768))) (tN (tNew (tNew (tNew t 13 900) 13 32768) 16 4096))) a 18 (tN (tNew (tNew (tNew t 13 900) 13 32768) 16 4096))) (tN (tNew (tNew (tNew (tNew t 13 900) 13 32768) 16 4096) 14 32))) a 20 (tN (tNew (tNew (tNew (tNew t 13 900) 13 32768) 16 4096) 14 32))) (tN (tNew (tNew (tNew (tNew (tNew t 13 900) 13 32768) 16 4096) 14 32) 14 8))) a 25 (tN (tNew (tNew (tNew (tNew (tNew t 13 900) 13 32768) 16 4096) 14 32) 14 8))) (tN (tNew (tNew (tNew (tNew (tNew (tNew t 13 900) 13 32768) 16 4096) 14 32) 14 8) 14 8))) a 26 (tN (tNew (tNew (tNew (tNew (tNew (tNew t 13 900) 13 32768) 16 4096) 14 32) 14 8) 14 8))) (tN (tNew (tNew (tNew (tNew (tNew (tNew (tNew t 13 900) 13 32768) 16 4096) 14 32) 14 8) 14 8) 14 11))) a 27 (tN (tNew (tNew (tNew (tNew (tNew (tNew (tNew t 13 900) 13 32768) 16 4096) 14 32) 14 8) 14 8) 14 11))))))))))))))))))))))))))))))
set_option maxHeartbeats 4000000 in
set_option maxRecDepth 20000 in
theorem kX12_init {l : Launch} {cap : Nat × Nat} {t : zT} {m : zM} {a : Nat} {Q : zT → zM → Prop} (H : wX12_init cap t m a Q) : zMet l yX12_init cX12_init 1 none 1 cap.1 cap.2 t m [.ref a] (zAw Q) := by
  refine zmet (by decide +kernel) (Nat.le_of_ble_eq_true rfl) ?_
  intro p e s mt args below meth c g C hr hm
  unfold wX12_init at H
  obtain ⟨mc, ms⟩ := cap
  refine z_aload_n (pc := 0) C (dX12_init 0 rfl) rfl 0 rfl ?_
  obtain ⟨h26, H⟩ := H
  refine z_objInit (pc := 1) C h26 wl_X12_3 woi woc (by decide) (Nat.le_of_ble_eq_true rfl) (dX12_init 1 rfl) ?_
  refine z_aload_n (pc := 4) C (dX12_init 2 rfl) rfl 0 rfl ?_
  refine z_iconst (pc := 5) (v := (-1)) C (dX12_init 3 rfl) (by decide) ?_
  obtain ⟨h1, H⟩ := H
  refine z_putI (pc := 6) C zc12 h1 2 (by decide) rfl rfl wf_X12_9 (dX12_init 4 rfl) ?_
  refine z_aload_n (pc := 9) C (dX12_init 5 rfl) rfl 0 rfl ?_
  refine z_sipush (pc := 10) (v := 900) C (dX12_init 6 rfl) (by decide) ?_
  obtain ⟨h24, H⟩ := H
  refine z_newaB (pc := 13) (N := 900) C (by decide) (by decide) (by decide) wa_byte (dX12_init 7 rfl) h24.1 h24.2 (fun h25 => ?_)
  replace H := H h25
  obtain ⟨h2, H⟩ := H
  refine z_putRF (pc := 15) C zc12 h2 5 (by decide) rfl rfl hm rfl wf_X12_13 (dX12_init 8 rfl) ?_
  refine z_aload_n (pc := 18) C (dX12_init 9 rfl) rfl 0 rfl ?_
  refine z_ldc (pc := 19) C wk_X12_17 (dX12_init 10 rfl) ?_
  obtain ⟨h22, H⟩ := H
  refine z_newaB (pc := 21) (N := 32768) C (by decide) (by decide) (by decide) wa_byte (dX12_init 11 rfl) h22.1 h22.2 (fun h23 => ?_)
  replace H := H h23
  obtain ⟨h3, H⟩ := H
  refine z_putRF (pc := 23) C zc12 h3 16 (by decide) rfl rfl hm rfl wf_X12_18 (dX12_init 12 rfl) ?_
  refine z_aload_n (pc := 26) C (dX12_init 13 rfl) rfl 0 rfl ?_
  refine z_sipush (pc := 27) (v := 4096) C (dX12_init 14 rfl) (by decide) ?_
  obtain ⟨h20, H⟩ := H
  refine z_newaZ (pc := 30) (N := 4096) C (by decide) (by decide) (by decide) wa_boolean (dX12_init 15 rfl) h20.1 h20.2 (fun h21 => ?_)
  replace H := H h21
  obtain ⟨h4, H⟩ := H
  refine z_putRF (pc := 32) C zc12 h4 17 (by decide) rfl rfl hm rfl wf_X12_21 (dX12_init 16 rfl) ?_
  refine z_aload_n (pc := 35) C (dX12_init 17 rfl) rfl 0 rfl ?_
  refine z_bipush (pc := 36) (v := 32) C (dX12_init 18 rfl) (by decide) ?_
  obtain ⟨h18, H⟩ := H
  refine z_newaI (pc := 38) (N := 32) C (by decide) (by decide) (by decide) wa_int (dX12_init 19 rfl) h18.1 h18.2 (fun h19 => ?_)
  replace H := H h19
  obtain ⟨h5, H⟩ := H
  refine z_putRF (pc := 40) C zc12 h5 18 (by decide) rfl rfl hm rfl wf_X12_25 (dX12_init 20 rfl) ?_
  refine z_aload_n (pc := 43) C (dX12_init 21 rfl) rfl 0 rfl ?_
  refine z_bipush (pc := 44) (v := 8) C (dX12_init 22 rfl) (by decide) ?_
  obtain ⟨h16, H⟩ := H
  refine z_newaI (pc := 46) (N := 8) C (by decide) (by decide) (by decide) wa_int (dX12_init 23 rfl) h16.1 h16.2 (fun h17 => ?_)
  replace H := H h17
  obtain ⟨h6, H⟩ := H
  refine z_putRF (pc := 48) C zc12 h6 20 (by decide) rfl rfl hm rfl wf_X12_29 (dX12_init 24 rfl) ?_
  refine z_aload_n (pc := 51) C (dX12_init 25 rfl) rfl 0 rfl ?_
  refine z_bipush (pc := 52) (v := 8) C (dX12_init 26 rfl) (by decide) ?_
  obtain ⟨h14, H⟩ := H
  refine z_newaI (pc := 54) (N := 8) C (by decide) (by decide) (by decide) wa_int (dX12_init 27 rfl) h14.1 h14.2 (fun h15 => ?_)
  replace H := H h15
  obtain ⟨h7, H⟩ := H
  refine z_putRF (pc := 56) C zc12 h7 25 (by decide) rfl rfl hm rfl wf_X12_32 (dX12_init 28 rfl) ?_
  refine z_aload_n (pc := 59) C (dX12_init 29 rfl) rfl 0 rfl ?_
  refine z_bipush (pc := 60) (v := 11) C (dX12_init 30 rfl) (by decide) ?_
  obtain ⟨h12, H⟩ := H
  refine z_newaI (pc := 62) (N := 11) C (by decide) (by decide) (by decide) wa_int (dX12_init 31 rfl) h12.1 h12.2 (fun h13 => ?_)
  replace H := H h13
  obtain ⟨h8, H⟩ := H
  refine z_putRF (pc := 64) C zc12 h8 26 (by decide) rfl rfl hm rfl wf_X12_35 (dX12_init 32 rfl) ?_
  refine z_aload_n (pc := 67) C (dX12_init 33 rfl) rfl 0 rfl ?_
  refine z_bipush (pc := 68) (v := 33) C (dX12_init 34 rfl) (by decide) ?_
  obtain ⟨h10, H⟩ := H
  refine z_newaI (pc := 70) (N := 33) C (by decide) (by decide) (by decide) wa_int (dX12_init 35 rfl) h10.1 h10.2 (fun h11 => ?_)
  replace H := H h11
  obtain ⟨h9, H⟩ := H
  refine z_putRF (pc := 72) C zc12 h9 27 (by decide) rfl rfl hm rfl wf_X12_38 (dX12_init 36 rfl) ?_
  exact z_vret (pc := 75) C hr (by first | omega | (show _ ≤ mc; omega)) (by first | omega | (show _ ≤ ms; omega)) (dX12_init 37 rfl) ⟨rfl, H⟩
def wX12_thrown (t : zT) (m : zM) (a : Nat) (Q : Int32 → zM → Prop) : Prop := (tK t a = 12 ∧ (Q (gI m a 0) m))
set_option maxHeartbeats 4000000 in
set_option maxRecDepth 20000 in
theorem kX12_thrown {l : Launch} {t : zT} {m : zM} {a : Nat} {Q : Int32 → zM → Prop} (H : wX12_thrown t m a Q) : zMet l yX12_thrown cX12_thrown 1 (some .int) 0 0 0 t m [.ref a] (zPi t Q) := by
  refine zmet (by decide +kernel) (Nat.le_of_ble_eq_true rfl) ?_
  intro p e s mt args below meth c g C hr hm
  unfold wX12_thrown at H
  have hu1 : ((0, 0) : Nat × Nat).1 ≤ 0 := Nat.le_refl 0
  have hu2 : ((0, 0) : Nat × Nat).2 ≤ 0 := Nat.le_refl 0
  refine z_aload_n (pc := 0) C (dX12_thrown 0 rfl) rfl 0 rfl ?_
  obtain ⟨h1, H⟩ := H
  refine z_getI (pc := 1) C zc12 h1 0 (by decide) rfl wf_X12_41 (dX12_thrown 1 rfl) ?_
  exact z_iret (pc := 4) C hr hu1 hu2 (dX12_thrown 2 rfl) ⟨rfl, _, rfl, H⟩
def wX12_refused (t : zT) (m : zM) (a : Nat) (p1 : Int32) (Q : Int32 → zM → Prop) : Prop := (tK t a = 12 ∧ (Q (-1) (pI (pI m a 1 p1) a 2 (-1))))
set_option maxHeartbeats 4000000 in
set_option maxRecDepth 20000 in
theorem kX12_refused {l : Launch} {t : zT} {m : zM} {a : Nat} {p1 : Int32} {Q : Int32 → zM → Prop} (H : wX12_refused t m a p1 Q) : zMet l yX12_refused cX12_refused 2 (some .int) 0 0 0 t m [.ref a, .int p1] (zPi t Q) := by
  refine zmet (by decide +kernel) (Nat.le_of_ble_eq_true rfl) ?_
  intro p e s mt args below meth c g C hr hm
  unfold wX12_refused at H
  have hu1 : ((0, 0) : Nat × Nat).1 ≤ 0 := Nat.le_refl 0
  have hu2 : ((0, 0) : Nat × Nat).2 ≤ 0 := Nat.le_refl 0
  refine z_aload_n (pc := 0) C (dX12_refused 0 rfl) rfl 0 rfl ?_
  refine z_iload_n (pc := 1) C (dX12_refused 1 rfl) rfl 1 rfl ?_
  obtain ⟨h1, H⟩ := H
  refine z_putI (pc := 2) C zc12 h1 1 (by decide) rfl rfl wf_X12_44 (dX12_refused 2 rfl) ?_
  refine z_aload_n (pc := 5) C (dX12_refused 3 rfl) rfl 0 rfl ?_
  refine z_iconst (pc := 6) (v := (-1)) C (dX12_refused 4 rfl) (by decide) ?_
  refine z_putI (pc := 7) C zc12 h1 2 (by decide) rfl rfl wf_X12_9 (dX12_refused 5 rfl) ?_
  refine z_iconst (pc := 10) (v := (-1)) C (dX12_refused 6 rfl) (by decide) ?_
  exact z_iret (pc := 11) C hr hu1 hu2 (dX12_refused 7 rfl) ⟨rfl, _, rfl, H⟩
def wX12_denied (t : zT) (m : zM) (a : Nat) (p1 : Int32) (Q : Int32 → zM → Prop) : Prop := (tK t a = 12 ∧ (wX12_refused t m a p1 (fun r2 m3 => (Q 0 m3))))
set_option maxHeartbeats 4000000 in
set_option maxRecDepth 20000 in
theorem kX12_denied {l : Launch} {t : zT} {m : zM} {a : Nat} {p1 : Int32} {Q : Int32 → zM → Prop} (H : wX12_denied t m a p1 Q) : zMet l yX12_denied cX12_denied 2 (some .boolean) 1 0 0 t m [.ref a, .int p1] (zPi t Q) := by
  refine zmet (by decide +kernel) (Nat.le_of_ble_eq_true rfl) ?_
  intro p e s mt args below meth c g C hr hm
  unfold wX12_denied at H
  have hu1 : ((0, 0) : Nat × Nat).1 ≤ 0 := Nat.le_refl 0
  have hu2 : ((0, 0) : Nat × Nat).2 ≤ 0 := Nat.le_refl 0
  refine z_aload_n (pc := 0) C (dX12_denied 0 rfl) rfl 0 rfl ?_
  refine z_iload_n (pc := 1) C (dX12_denied 1 rfl) rfl 1 rfl ?_
  obtain ⟨h1, H⟩ := H
  refine zc_Vi (pc := 2) (rest := []) C YX12_refused wl_X12_47 (kX12_refused H) (by decide) h1 rfl (by decide) (dX12_denied 2 rfl) rfl hu1 hu2 (Nat.le_of_ble_eq_true rfl) rfl (fun r2 m3 H => ?_)
  refine z_pop (pc := 5) C (dX12_denied 3 rfl) rfl ?_
  refine z_iconst (pc := 6) (v := 0) C (dX12_denied 4 rfl) (by decide) ?_
  exact z_zret (pc := 7) C hr (by decide) hu1 hu2 (dX12_denied 5 rfl) ⟨rfl, _, rfl, H⟩
def wX12_good (t : zT) (m : zM) (a : Nat) (p1 : Int32) (Q : Int32 → zM → Prop) : Prop := (tK t a = 12 ∧ (Q p1 (pI (pI m a 1 0) a 2 (-1))))
set_option maxHeartbeats 4000000 in
set_option maxRecDepth 20000 in
theorem kX12_good {l : Launch} {t : zT} {m : zM} {a : Nat} {p1 : Int32} {Q : Int32 → zM → Prop} (H : wX12_good t m a p1 Q) : zMet l yX12_good cX12_good 2 (some .int) 0 0 0 t m [.ref a, .int p1] (zPi t Q) := by
  refine zmet (by decide +kernel) (Nat.le_of_ble_eq_true rfl) ?_
  intro p e s mt args below meth c g C hr hm
  unfold wX12_good at H
  have hu1 : ((0, 0) : Nat × Nat).1 ≤ 0 := Nat.le_refl 0
  have hu2 : ((0, 0) : Nat × Nat).2 ≤ 0 := Nat.le_refl 0
  refine z_aload_n (pc := 0) C (dX12_good 0 rfl) rfl 0 rfl ?_
  refine z_iconst (pc := 1) (v := 0) C (dX12_good 1 rfl) (by decide) ?_
  obtain ⟨h1, H⟩ := H
  refine z_putI (pc := 2) C zc12 h1 1 (by decide) rfl rfl wf_X12_44 (dX12_good 2 rfl) ?_
  refine z_aload_n (pc := 5) C (dX12_good 3 rfl) rfl 0 rfl ?_
  refine z_iconst (pc := 6) (v := (-1)) C (dX12_good 4 rfl) (by decide) ?_
  refine z_putI (pc := 7) C zc12 h1 2 (by decide) rfl rfl wf_X12_9 (dX12_good 5 rfl) ?_
  refine z_iload_n (pc := 10) C (dX12_good 6 rfl) rfl 1 rfl ?_
  exact z_iret (pc := 11) C hr hu1 hu2 (dX12_good 7 rfl) ⟨rfl, _, rfl, H⟩
def wX12_granted (t : zT) (m : zM) (a : Nat) (Q : Int32 → zM → Prop) : Prop := (tK t a = 12 ∧ (wX12_good t m a 0 (fun r2 m3 => (Q 1 m3))))
set_option maxHeartbeats 4000000 in
set_option maxRecDepth 20000 in
theorem kX12_granted {l : Launch} {t : zT} {m : zM} {a : Nat} {Q : Int32 → zM → Prop} (H : wX12_granted t m a Q) : zMet l yX12_granted cX12_granted 1 (some .boolean) 1 0 0 t m [.ref a] (zPi t Q) := by
  refine zmet (by decide +kernel) (Nat.le_of_ble_eq_true rfl) ?_
  intro p e s mt args below meth c g C hr hm
  unfold wX12_granted at H
  have hu1 : ((0, 0) : Nat × Nat).1 ≤ 0 := Nat.le_refl 0
  have hu2 : ((0, 0) : Nat × Nat).2 ≤ 0 := Nat.le_refl 0
  refine z_aload_n (pc := 0) C (dX12_granted 0 rfl) rfl 0 rfl ?_
  refine z_iconst (pc := 1) (v := 0) C (dX12_granted 1 rfl) (by decide) ?_
  obtain ⟨h1, H⟩ := H
  refine zc_Vi (pc := 2) (rest := []) C YX12_good wl_X12_51 (kX12_good H) (by decide) h1 rfl (by decide) (dX12_granted 2 rfl) rfl hu1 hu2 (Nat.le_of_ble_eq_true rfl) rfl (fun r2 m3 H => ?_)
  refine z_pop (pc := 5) C (dX12_granted 3 rfl) rfl ?_
  refine z_iconst (pc := 6) (v := 1) C (dX12_granted 4 rfl) (by decide) ?_
  exact z_zret (pc := 7) C hr (by decide) hu1 hu2 (dX12_granted 5 rfl) ⟨rfl, _, rfl, H⟩
def wX12_in (t : zT) (m : zM) (p1 : Int32) (p2 : Int32) (p3 : Int32) (Q : Int32 → zM → Prop) : Prop := ((p1 < p2 → (Q 0 m)) ∧ (¬ p1 < p2 → ((p3 < p1 → (Q 0 m)) ∧ (¬ p3 < p1 → (Q 1 m)))))
set_option maxHeartbeats 4000000 in
set_option maxRecDepth 20000 in
theorem kX12_in {l : Launch} {t : zT} {m : zM} {p1 : Int32} {p2 : Int32} {p3 : Int32} {Q : Int32 → zM → Prop} (H : wX12_in t m p1 p2 p3 Q) : zMet l yX12_in cX12_in 3 (some .boolean) 0 0 0 t m [.int p1, .int p2, .int p3] (zPi t Q) := by
  refine zmet (by decide +kernel) (Nat.le_of_ble_eq_true rfl) ?_
  intro p e s mt args below meth c g C hr hm
  unfold wX12_in at H
  have hu1 : ((0, 0) : Nat × Nat).1 ≤ 0 := Nat.le_refl 0
  have hu2 : ((0, 0) : Nat × Nat).2 ≤ 0 := Nat.le_refl 0
  refine z_iload_n (pc := 0) C (dX12_in 0 rfl) rfl 0 rfl ?_
  refine z_iload_n (pc := 1) C (dX12_in 1 rfl) rfl 1 rfl ?_
  refine z_icmp_lt (pc := 2) (tgt := 14) C (dX12_in 2 rfl) (by decide) (fun c1 => ?_) (fun c1 => ?_)
  · replace H := H.1 c1
    refine z_iconst (pc := 14) (v := 0) C (dX12_in 8 rfl) (by decide) ?_
    exact z_zret (pc := 15) C hr (by decide) hu1 hu2 (dX12_in 9 rfl) ⟨rfl, _, rfl, H⟩
  · replace H := H.2 c1
    refine z_iload_n (pc := 5) C (dX12_in 3 rfl) rfl 0 rfl ?_
    refine z_iload_n (pc := 6) C (dX12_in 4 rfl) rfl 2 rfl ?_
    refine z_icmp_gt (pc := 7) (tgt := 14) C (dX12_in 5 rfl) (by decide) (fun c2 => ?_) (fun c2 => ?_)
    · replace H := H.1 c2
      refine z_iconst (pc := 14) (v := 0) C (dX12_in 8 rfl) (by decide) ?_
      exact z_zret (pc := 15) C hr (by decide) hu1 hu2 (dX12_in 9 rfl) ⟨rfl, _, rfl, H⟩
    · replace H := H.2 c2
      refine z_iconst (pc := 10) (v := 1) C (dX12_in 6 rfl) (by decide) ?_
      refine z_goto (pc := 11) (tgt := 15) C (dX12_in 7 rfl) (by decide) ?_
      exact z_zret (pc := 15) C hr (by decide) hu1 hu2 (dX12_in 9 rfl) ⟨rfl, _, rfl, H⟩
def wX12_has (t : zT) (m : zM) (p1 : Int32) (p2 : Int32) (Q : Int32 → zM → Prop) : Prop := ((((p1 >>> (p2 &&& 31)) &&& (1 : Int32)) = 1 → (Q 1 m)) ∧ (¬ ((p1 >>> (p2 &&& 31)) &&& (1 : Int32)) = 1 → (Q 0 m)))
set_option maxHeartbeats 4000000 in
set_option maxRecDepth 20000 in
theorem kX12_has {l : Launch} {t : zT} {m : zM} {p1 : Int32} {p2 : Int32} {Q : Int32 → zM → Prop} (H : wX12_has t m p1 p2 Q) : zMet l yX12_has cX12_has 2 (some .boolean) 0 0 0 t m [.int p1, .int p2] (zPi t Q) := by
  refine zmet (by decide +kernel) (Nat.le_of_ble_eq_true rfl) ?_
  intro p e s mt args below meth c g C hr hm
  unfold wX12_has at H
  have hu1 : ((0, 0) : Nat × Nat).1 ≤ 0 := Nat.le_refl 0
  have hu2 : ((0, 0) : Nat × Nat).2 ≤ 0 := Nat.le_refl 0
  refine z_iload_n (pc := 0) C (dX12_has 0 rfl) rfl 0 rfl ?_
  refine z_iload_n (pc := 1) C (dX12_has 1 rfl) rfl 1 rfl ?_
  refine z_ishr (pc := 2) C (dX12_has 2 rfl) ?_
  refine z_iconst (pc := 3) (v := 1) C (dX12_has 3 rfl) (by decide) ?_
  refine z_iand (pc := 4) C (dX12_has 4 rfl) ?_
  refine z_iconst (pc := 5) (v := 1) C (dX12_has 5 rfl) (by decide) ?_
  refine z_icmp_ne (pc := 6) (tgt := 13) C (dX12_has 6 rfl) (by decide) (fun c1 => ?_) (fun c1 => ?_)
  · replace H := H.2 c1
    refine z_iconst (pc := 13) (v := 0) C (dX12_has 9 rfl) (by decide) ?_
    exact z_zret (pc := 14) C hr (by decide) hu1 hu2 (dX12_has 10 rfl) ⟨rfl, _, rfl, H⟩
  · replace H := H.1 c1
    refine z_iconst (pc := 9) (v := 1) C (dX12_has 7 rfl) (by decide) ?_
    refine z_goto (pc := 10) (tgt := 14) C (dX12_has 8 rfl) (by decide) ?_
    exact z_zret (pc := 14) C hr (by decide) hu1 hu2 (dX12_has 10 rfl) ⟨rfl, _, rfl, H⟩
def wX12_bits_L4 (t : zT) (Q : Int32 → zM → Prop) (k20 : Int32 → zM → Prop) : Nat → Int32 → Int32 → zM → Prop
  | 0, _, _, _ => False
  | n + 1, x_1, x_2, m => ((x_2 = 0 → (k20 x_1 m)) ∧ (¬ x_2 = 0 → (∀ x2 : Int32, x2 = (x_2 &&& (x_2 - (1 : Int32))) → ((wX12_bits_L4 t Q k20 n (x_1 + 1) x2 m)))))
set_option maxHeartbeats 4000000 in
set_option maxRecDepth 20000 in
theorem sX12_bits_L4 {p : Program} {l : Launch} {e : Env} {s : State} {mt : MethodId} {args : Array Value} {below : List Frame} {meth : Method} {c : Code} {g : zG} {u : Nat × Nat} {mc ms : Nat} {t : zT} {Q : Int32 → zM → Prop} {k20 : Int32 → zM → Prop} (C : zC p (zRm 0 mc ms) s mt args meth c g cX12_bits 3 yX12_bits.cls 0) (hr : meth.sig.returnType = (some .int)) (hm : meth.name = yX12_bits.name) (hu1 : u.1 ≤ mc) (hu2 : u.2 ≤ ms)
    (K20 : ∀ (v0 : Int32) (m : zM), k20 v0 m → zW p l e (zRm 0 mc ms) s mt args below meth c g (MQ below (zQc g (zPi t Q)) args s mc ms (zFar g)) u 3 t m 20 [(1, .int v0)] []) : ∀ (n : Nat) (x_1 : Int32) (x_2 : Int32) (m : zM), wX12_bits_L4 t Q k20 n x_1 x_2 m → zW p l e (zRm 0 mc ms) s mt args below meth c g (MQ below (zQc g (zPi t Q)) args s mc ms (zFar g)) u 3 t m 4 [(1, .int x_1), (2, .int x_2)] [] := by
  intro n
  induction n with
  | zero => intro x_1 x_2 m H; exact H.elim
  | succ n ih =>
    intro x_1 x_2 m H
    simp only [wX12_bits_L4] at H
    refine z_iload_n (pc := 4) C (dX12_bits 4 rfl) rfl 1 rfl ?_
    refine z_if_eq (pc := 5) (tgt := 20) C (dX12_bits 5 rfl) (by decide) (fun c1 => ?_) (fun c1 => ?_)
    · replace H := H.1 c1
      refine z_sub [0] rfl ?_
      exact K20 x_1 m H
    · replace H := H.2 c1
      refine z_iinc (pc := 8) (i := 1) (v := x_1 + 1) (lv2 := [(1, .int (x_1 + 1)), (2, .int x_2)]) C (dX12_bits 6 rfl) 0 rfl (by rfl) (by decide) rfl ?_
      refine z_iload_n (pc := 11) C (dX12_bits 7 rfl) rfl 1 rfl ?_
      refine z_iload_n (pc := 12) C (dX12_bits 8 rfl) rfl 1 rfl ?_
      refine z_iconst (pc := 13) (v := 1) C (dX12_bits 9 rfl) (by decide) ?_
      refine z_isub (pc := 14) C (dX12_bits 10 rfl) ?_
      refine z_iand (pc := 15) C (dX12_bits 11 rfl) ?_
      refine z_int (fun x2 hx2 => ?_)
      replace H := H x2 hx2
      refine z_istore_n (pc := 16) (i := 2) (lv2 := [(2, .int x2), (1, .int (x_1 + 1))]) C (dX12_bits 12 rfl) rfl (by decide) rfl ?_
      refine z_goto (pc := 17) (tgt := 4) C (dX12_bits 13 rfl) (by decide) ?_
      refine z_sub [1, 0] rfl ?_
      exact ih (x_1 + 1) x2 m H
def wX12_bits (t : zT) (m : zM) (p1 : Int32) (Q : Int32 → zM → Prop) : Prop := (∃ n5, wX12_bits_L4 t Q (fun v3 m4 => (Q v3 m4)) n5 0 p1 m)
set_option maxHeartbeats 4000000 in
set_option maxRecDepth 20000 in
theorem kX12_bits {l : Launch} {t : zT} {m : zM} {p1 : Int32} {Q : Int32 → zM → Prop} (H : wX12_bits t m p1 Q) : zMet l yX12_bits cX12_bits 3 (some .int) 0 0 0 t m [.int p1] (zPi t Q) := by
  refine zmet (by decide +kernel) (Nat.le_of_ble_eq_true rfl) ?_
  intro p e s mt args below meth c g C hr hm
  unfold wX12_bits at H
  have hu1 : ((0, 0) : Nat × Nat).1 ≤ 0 := Nat.le_refl 0
  have hu2 : ((0, 0) : Nat × Nat).2 ≤ 0 := Nat.le_refl 0
  refine z_iconst (pc := 0) (v := 0) C (dX12_bits 0 rfl) (by decide) ?_
  refine z_istore_n (pc := 1) (i := 1) (lv2 := [(1, .int 0), (0, .int p1)]) C (dX12_bits 1 rfl) rfl (by decide) rfl ?_
  refine z_iload_n (pc := 2) C (dX12_bits 2 rfl) rfl 1 rfl ?_
  refine z_istore_n (pc := 3) (i := 2) (lv2 := [(2, .int p1), (1, .int 0), (0, .int p1)]) C (dX12_bits 3 rfl) rfl (by decide) rfl ?_
  obtain ⟨n5, H⟩ := H
  refine z_sub [1, 0] rfl ?_
  refine sX12_bits_L4 C hr hm hu1 hu2 (fun v3 m4 H => ?_) n5 0 p1 m H
  refine z_iload_n (pc := 20) C (dX12_bits 14 rfl) rfl 0 rfl ?_
  exact z_iret (pc := 21) C hr hu1 hu2 (dX12_bits 15 rfl) ⟨rfl, _, rfl, H⟩
def wX12_divisor_L6 (t : zT) (Q : Int64 → zM → Prop) (k31 : Int64 → zM → Prop) : Nat → Int64 → Int64 → zM → Prop
  | 0, _, _, _ => False
  | n + 1, y_4, y_6, m => (((lg_cmp y_6 0) = 0 → (k31 y_4 m)) ∧ (¬ (lg_cmp y_6 0) = 0 → (¬ y_6 = 0 ∧ (∀ x3 : Int64, x3 = (y_4 - y_4 / y_6 * y_6) → ((wX12_divisor_L6 t Q k31 n y_6 x3 m))))))
set_option maxHeartbeats 4000000 in
set_option maxRecDepth 20000 in
theorem sX12_divisor_L6 {p : Program} {l : Launch} {e : Env} {s : State} {mt : MethodId} {args : Array Value} {below : List Frame} {meth : Method} {c : Code} {g : zG} {u : Nat × Nat} {mc ms : Nat} {t : zT} {Q : Int64 → zM → Prop} {k31 : Int64 → zM → Prop} (C : zC p (zRm 0 mc ms) s mt args meth c g cX12_divisor 10 yX12_divisor.cls 0) (hr : meth.sig.returnType = (some .long)) (hm : meth.name = yX12_divisor.name) (hu1 : u.1 ≤ mc) (hu2 : u.2 ≤ ms)
    (K31 : ∀ (v0 : Int64) (m : zM), k31 v0 m → zW p l e (zRm 0 mc ms) s mt args below meth c g (MQ below (zQc g (zPl t Q)) args s mc ms (zFar g)) u 10 t m 31 [(4, .long v0)] []) : ∀ (n : Nat) (y_4 : Int64) (y_6 : Int64) (m : zM), wX12_divisor_L6 t Q k31 n y_4 y_6 m → zW p l e (zRm 0 mc ms) s mt args below meth c g (MQ below (zQc g (zPl t Q)) args s mc ms (zFar g)) u 10 t m 6 [(4, .long y_4), (6, .long y_6)] [] := by
  intro n
  induction n with
  | zero => intro y_4 y_6 m H; exact H.elim
  | succ n ih =>
    intro y_4 y_6 m H
    simp only [wX12_divisor_L6] at H
    refine z_lload (pc := 6) C (dX12_divisor 4 rfl) 1 rfl ?_
    refine z_lconst (pc := 8) (v := 0) C (dX12_divisor 5 rfl) (by decide) ?_
    refine z_lcmp (pc := 9) C (dX12_divisor 6 rfl) ?_
    refine z_if_eq (pc := 10) (tgt := 31) C (dX12_divisor 7 rfl) (by decide) (fun c1 => ?_) (fun c1 => ?_)
    · replace H := H.1 c1
      refine z_sub [0] rfl ?_
      exact K31 y_4 m H
    · replace H := H.2 c1
      refine z_lload (pc := 13) C (dX12_divisor 8 rfl) 0 rfl ?_
      refine z_lload (pc := 15) C (dX12_divisor 9 rfl) 1 rfl ?_
      obtain ⟨h2, H⟩ := H
      refine z_lrem (pc := 17) C (hne := h2) (dX12_divisor 10 rfl) ?_
      refine z_long (fun x3 hx3 => ?_)
      replace H := H x3 hx3
      refine z_lstore (pc := 18) (i := 8) (lv2 := [(8, .long x3), (4, .long y_4), (6, .long y_6)]) C (dX12_divisor 11 rfl) (by decide) rfl ?_
      refine z_lload (pc := 20) C (dX12_divisor 12 rfl) 2 rfl ?_
      refine z_lstore (pc := 22) (i := 4) (lv2 := [(4, .long y_6), (8, .long x3), (6, .long y_6)]) C (dX12_divisor 13 rfl) (by decide) rfl ?_
      refine z_lload (pc := 24) C (dX12_divisor 14 rfl) 1 rfl ?_
      refine z_lstore (pc := 26) (i := 6) (lv2 := [(6, .long x3), (4, .long y_6), (8, .long x3)]) C (dX12_divisor 15 rfl) (by decide) rfl ?_
      refine z_goto (pc := 28) (tgt := 6) C (dX12_divisor 16 rfl) (by decide) ?_
      refine z_sub [1, 0] rfl ?_
      exact ih y_6 x3 m H
def wX12_divisor (t : zT) (m : zM) (p1 : Int64) (p2 : Int64) (Q : Int64 → zM → Prop) : Prop := (∃ n6, wX12_divisor_L6 t Q (fun v4 m5 => (Q v4 m5)) n6 p1 p2 m)
set_option maxHeartbeats 4000000 in
set_option maxRecDepth 20000 in
theorem kX12_divisor {l : Launch} {t : zT} {m : zM} {p1 : Int64} {p2 : Int64} {Q : Int64 → zM → Prop} (H : wX12_divisor t m p1 p2 Q) : zMet l yX12_divisor cX12_divisor 10 (some .long) 0 0 0 t m [.long p1, .long p2] (zPl t Q) := by
  refine zmet (by decide +kernel) (Nat.le_of_ble_eq_true rfl) ?_
  intro p e s mt args below meth c g C hr hm
  unfold wX12_divisor at H
  have hu1 : ((0, 0) : Nat × Nat).1 ≤ 0 := Nat.le_refl 0
  have hu2 : ((0, 0) : Nat × Nat).2 ≤ 0 := Nat.le_refl 0
  refine z_lload_n (pc := 0) C (dX12_divisor 0 rfl) rfl 0 rfl ?_
  refine z_lstore (pc := 1) (i := 4) (lv2 := [(4, .long p1), (0, .long p1), (2, .long p2)]) C (dX12_divisor 1 rfl) (by decide) rfl ?_
  refine z_lload_n (pc := 3) C (dX12_divisor 2 rfl) rfl 2 rfl ?_
  refine z_lstore (pc := 4) (i := 6) (lv2 := [(6, .long p2), (4, .long p1), (0, .long p1), (2, .long p2)]) C (dX12_divisor 3 rfl) (by decide) rfl ?_
  obtain ⟨n6, H⟩ := H
  refine z_sub [1, 0] rfl ?_
  refine sX12_divisor_L6 C hr hm hu1 hu2 (fun v4 m5 H => ?_) n6 p1 p2 m H
  refine z_lload (pc := 31) C (dX12_divisor 17 rfl) 0 rfl ?_
  exact z_lret (pc := 33) C hr hu1 hu2 (dX12_divisor 18 rfl) ⟨rfl, _, rfl, H⟩
def wX12_byteAt (t : zT) (m : zM) (a : Nat) (p1 : Int32) (Q : Int32 → zM → Prop) : Prop := (tK t a = 12 ∧ (((gI m a 7) ≤ p1 → (Q (-1) m)) ∧ (¬ (gI m a 7) ≤ p1 → (tK t (gR m a 5) = 13 ∧ (vp_in p1 (tL t (gR m a 5)) ∧ (Q ((gI m (gR m a 5) p1.toNatClampNeg) &&& (255 : Int32)) m))))))
set_option maxHeartbeats 4000000 in
set_option maxRecDepth 20000 in
theorem kX12_byteAt {l : Launch} {t : zT} {m : zM} {a : Nat} {p1 : Int32} {Q : Int32 → zM → Prop} (H : wX12_byteAt t m a p1 Q) : zMet l yX12_byteAt cX12_byteAt 2 (some .int) 0 0 0 t m [.ref a, .int p1] (zPi t Q) := by
  refine zmet (by decide +kernel) (Nat.le_of_ble_eq_true rfl) ?_
  intro p e s mt args below meth c g C hr hm
  unfold wX12_byteAt at H
  have hu1 : ((0, 0) : Nat × Nat).1 ≤ 0 := Nat.le_refl 0
  have hu2 : ((0, 0) : Nat × Nat).2 ≤ 0 := Nat.le_refl 0
  refine z_iload_n (pc := 0) C (dX12_byteAt 0 rfl) rfl 1 rfl ?_
  refine z_aload_n (pc := 1) C (dX12_byteAt 1 rfl) rfl 0 rfl ?_
  obtain ⟨h1, H⟩ := H
  refine z_getI (pc := 2) C zc12 h1 7 (by decide) rfl wf_X12_54 (dX12_byteAt 2 rfl) ?_
  refine z_icmp_ge (pc := 5) (tgt := 21) C (dX12_byteAt 3 rfl) (by decide) (fun c2 => ?_) (fun c2 => ?_)
  · replace H := H.1 c2
    refine z_iconst (pc := 21) (v := (-1)) C (dX12_byteAt 11 rfl) (by decide) ?_
    exact z_iret (pc := 22) C hr hu1 hu2 (dX12_byteAt 12 rfl) ⟨rfl, _, rfl, H⟩
  · replace H := H.2 c2
    refine z_aload_n (pc := 8) C (dX12_byteAt 4 rfl) rfl 0 rfl ?_
    refine z_getR (pc := 9) C zc12 h1 5 (by decide) rfl wf_X12_13 (dX12_byteAt 5 rfl) ?_
    refine z_iload_n (pc := 12) C (dX12_byteAt 6 rfl) rfl 1 rfl ?_
    obtain ⟨h3, H⟩ := H
    obtain ⟨h4, H⟩ := H
    refine z_baload (pc := 13) C h3 h4 (dX12_byteAt 7 rfl) ?_
    refine z_sipush (pc := 14) (v := 255) C (dX12_byteAt 8 rfl) (by decide) ?_
    refine z_iand (pc := 17) C (dX12_byteAt 9 rfl) ?_
    refine z_goto (pc := 18) (tgt := 22) C (dX12_byteAt 10 rfl) (by decide) ?_
    exact z_iret (pc := 22) C hr hu1 hu2 (dX12_byteAt 12 rfl) ⟨rfl, _, rfl, H⟩
def wX12_isLetter (t : zT) (m : zM) (p1 : Int32) (Q : Int32 → zM → Prop) : Prop := ((p1 < 97 → (Q 0 m)) ∧ (¬ p1 < 97 → (((122 : Int32) < p1 → (Q 0 m)) ∧ (¬ (122 : Int32) < p1 → (Q 1 m)))))
set_option maxHeartbeats 4000000 in
set_option maxRecDepth 20000 in
theorem kX12_isLetter {l : Launch} {t : zT} {m : zM} {p1 : Int32} {Q : Int32 → zM → Prop} (H : wX12_isLetter t m p1 Q) : zMet l yX12_isLetter cX12_isLetter 1 (some .boolean) 0 0 0 t m [.int p1] (zPi t Q) := by
  refine zmet (by decide +kernel) (Nat.le_of_ble_eq_true rfl) ?_
  intro p e s mt args below meth c g C hr hm
  unfold wX12_isLetter at H
  have hu1 : ((0, 0) : Nat × Nat).1 ≤ 0 := Nat.le_refl 0
  have hu2 : ((0, 0) : Nat × Nat).2 ≤ 0 := Nat.le_refl 0
  refine z_iload_n (pc := 0) C (dX12_isLetter 0 rfl) rfl 0 rfl ?_
  refine z_bipush (pc := 1) (v := 97) C (dX12_isLetter 1 rfl) (by decide) ?_
  refine z_icmp_lt (pc := 3) (tgt := 16) C (dX12_isLetter 2 rfl) (by decide) (fun c1 => ?_) (fun c1 => ?_)
  · replace H := H.1 c1
    refine z_iconst (pc := 16) (v := 0) C (dX12_isLetter 8 rfl) (by decide) ?_
    exact z_zret (pc := 17) C hr (by decide) hu1 hu2 (dX12_isLetter 9 rfl) ⟨rfl, _, rfl, H⟩
  · replace H := H.2 c1
    refine z_iload_n (pc := 6) C (dX12_isLetter 3 rfl) rfl 0 rfl ?_
    refine z_bipush (pc := 7) (v := 122) C (dX12_isLetter 4 rfl) (by decide) ?_
    refine z_icmp_gt (pc := 9) (tgt := 16) C (dX12_isLetter 5 rfl) (by decide) (fun c2 => ?_) (fun c2 => ?_)
    · replace H := H.1 c2
      refine z_iconst (pc := 16) (v := 0) C (dX12_isLetter 8 rfl) (by decide) ?_
      exact z_zret (pc := 17) C hr (by decide) hu1 hu2 (dX12_isLetter 9 rfl) ⟨rfl, _, rfl, H⟩
    · replace H := H.2 c2
      refine z_iconst (pc := 12) (v := 1) C (dX12_isLetter 6 rfl) (by decide) ?_
      refine z_goto (pc := 13) (tgt := 17) C (dX12_isLetter 7 rfl) (by decide) ?_
      exact z_zret (pc := 17) C hr (by decide) hu1 hu2 (dX12_isLetter 9 rfl) ⟨rfl, _, rfl, H⟩
def wX12_isDigit (t : zT) (m : zM) (p1 : Int32) (Q : Int32 → zM → Prop) : Prop := ((p1 < 48 → (Q 0 m)) ∧ (¬ p1 < 48 → (((57 : Int32) < p1 → (Q 0 m)) ∧ (¬ (57 : Int32) < p1 → (Q 1 m)))))
set_option maxHeartbeats 4000000 in
set_option maxRecDepth 20000 in
theorem kX12_isDigit {l : Launch} {t : zT} {m : zM} {p1 : Int32} {Q : Int32 → zM → Prop} (H : wX12_isDigit t m p1 Q) : zMet l yX12_isDigit cX12_isDigit 1 (some .boolean) 0 0 0 t m [.int p1] (zPi t Q) := by
  refine zmet (by decide +kernel) (Nat.le_of_ble_eq_true rfl) ?_
  intro p e s mt args below meth c g C hr hm
  unfold wX12_isDigit at H
  have hu1 : ((0, 0) : Nat × Nat).1 ≤ 0 := Nat.le_refl 0
  have hu2 : ((0, 0) : Nat × Nat).2 ≤ 0 := Nat.le_refl 0
  refine z_iload_n (pc := 0) C (dX12_isDigit 0 rfl) rfl 0 rfl ?_
  refine z_bipush (pc := 1) (v := 48) C (dX12_isDigit 1 rfl) (by decide) ?_
  refine z_icmp_lt (pc := 3) (tgt := 16) C (dX12_isDigit 2 rfl) (by decide) (fun c1 => ?_) (fun c1 => ?_)
  · replace H := H.1 c1
    refine z_iconst (pc := 16) (v := 0) C (dX12_isDigit 8 rfl) (by decide) ?_
    exact z_zret (pc := 17) C hr (by decide) hu1 hu2 (dX12_isDigit 9 rfl) ⟨rfl, _, rfl, H⟩
  · replace H := H.2 c1
    refine z_iload_n (pc := 6) C (dX12_isDigit 3 rfl) rfl 0 rfl ?_
    refine z_bipush (pc := 7) (v := 57) C (dX12_isDigit 4 rfl) (by decide) ?_
    refine z_icmp_gt (pc := 9) (tgt := 16) C (dX12_isDigit 5 rfl) (by decide) (fun c2 => ?_) (fun c2 => ?_)
    · replace H := H.1 c2
      refine z_iconst (pc := 16) (v := 0) C (dX12_isDigit 8 rfl) (by decide) ?_
      exact z_zret (pc := 17) C hr (by decide) hu1 hu2 (dX12_isDigit 9 rfl) ⟨rfl, _, rfl, H⟩
    · replace H := H.2 c2
      refine z_iconst (pc := 12) (v := 1) C (dX12_isDigit 6 rfl) (by decide) ?_
      refine z_goto (pc := 13) (tgt := 17) C (dX12_isDigit 7 rfl) (by decide) ?_
      exact z_zret (pc := 17) C hr (by decide) hu1 hu2 (dX12_isDigit 9 rfl) ⟨rfl, _, rfl, H⟩
def wX12_goesOn_L9 (t : zT) (a_0 : Nat) (Q : zM → Prop) (k35 : zM → Prop) : Nat → zM → Prop
  | 0, _ => False
  | n + 1, m => (tK t a_0 = 12 ∧ (wX12_byteAt t m a_0 (gI m a_0 8) (fun r4 m5 => ((r4 = 32 → (wX12_goesOn_L9 t a_0 Q k35 n (pI m5 a_0 8 ((gI m5 a_0 8) + (1 : Int32))))) ∧ (¬ r4 = 32 → (k35 m5))))))
set_option maxHeartbeats 4000000 in
set_option maxRecDepth 20000 in
theorem sX12_goesOn_L9 {p : Program} {l : Launch} {e : Env} {s : State} {mt : MethodId} {args : Array Value} {below : List Frame} {meth : Method} {c : Code} {g : zG} {u : Nat × Nat} {mc ms : Nat} {t : zT} {a_0 : Nat} {Q : zM → Prop} {k35 : zM → Prop} (C : zC p (zRm 1 mc ms) s mt args meth c g cX12_goesOn 3 yX12_goesOn.cls 1) (hr : meth.sig.returnType = none) (hm : meth.name = yX12_goesOn.name) (hu1 : u.1 ≤ mc) (hu2 : u.2 ≤ ms)
    (K35 : ∀ (m : zM), k35 m → zW p l e (zRm 1 mc ms) s mt args below meth c g (MQ below (zQc g (zPv t Q)) args s mc ms (zFar g)) u 3 t m 35 [(0, .ref a_0)] []) : ∀ (n : Nat) (m : zM), wX12_goesOn_L9 t a_0 Q k35 n m → zW p l e (zRm 1 mc ms) s mt args below meth c g (MQ below (zQc g (zPv t Q)) args s mc ms (zFar g)) u 3 t m 9 [(0, .ref a_0)] [] := by
  intro n
  induction n with
  | zero => intro m H; exact H.elim
  | succ n ih =>
    intro m H
    simp only [wX12_goesOn_L9] at H
    refine z_aload_n (pc := 9) C (dX12_goesOn_p0 5 rfl) rfl 0 rfl ?_
    refine z_aload_n (pc := 10) C (dX12_goesOn_p0 6 rfl) rfl 0 rfl ?_
    obtain ⟨h3, H⟩ := H
    refine z_getI (pc := 11) C zc12 h3 8 (by decide) rfl wf_X12_72 (dX12_goesOn_p0 7 rfl) ?_
    refine zc_Vi (pc := 14) (rest := []) C YX12_byteAt wl_X12_75 (kX12_byteAt H) (by decide) h3 rfl (by decide) (dX12_goesOn_p0 8 rfl) rfl hu1 hu2 (Nat.le_of_ble_eq_true rfl) rfl (fun r4 m5 H => ?_)
    refine z_bipush (pc := 17) (v := 32) C (dX12_goesOn_p0 9 rfl) (by decide) ?_
    refine z_icmp_ne (pc := 19) (tgt := 35) C (dX12_goesOn_p0 10 rfl) (by decide) (fun c6 => ?_) (fun c6 => ?_)
    · replace H := H.2 c6
      refine z_sub [0] rfl ?_
      exact K35 m5 H
    · replace H := H.1 c6
      refine z_aload_n (pc := 22) C (dX12_goesOn_p0 11 rfl) rfl 0 rfl ?_
      refine z_dup (pc := 23) C (dX12_goesOn_p0 12 rfl) rfl ?_
      refine z_getI (pc := 24) C zc12 h3 8 (by decide) rfl wf_X12_72 (dX12_goesOn_p0 13 rfl) ?_
      refine z_iconst (pc := 27) (v := 1) C (dX12_goesOn_p0 14 rfl) (by decide) ?_
      refine z_iadd (pc := 28) C (dX12_goesOn_p0 15 rfl) ?_
      refine z_putI (pc := 29) C zc12 h3 8 (by decide) rfl rfl wf_X12_72 (dX12_goesOn_p0 16 rfl) ?_
      refine z_goto (pc := 32) (tgt := 9) C (dX12_goesOn_p0 17 rfl) (by decide) ?_
      refine z_sub [0] rfl ?_
      exact ih (pI m5 a_0 8 ((gI m5 a_0 8) + (1 : Int32))) H
def wX12_goesOn_J261 (t : zT) (m : zM) (a_0 : Nat) (x_1 : Int32) (Q : zM → Prop) : Prop := (tK t a_0 = 12 ∧ (Q (pI (pI (pI m a_0 9 4) a_0 11 x_1) a_0 8 ((gI (pI (pI m a_0 9 4) a_0 11 x_1) a_0 8) + (1 : Int32)))))
set_option maxHeartbeats 4000000 in
set_option maxRecDepth 20000 in
theorem sX12_goesOn_J261 {p : Program} {l : Launch} {e : Env} {s : State} {mt : MethodId} {args : Array Value} {below : List Frame} {meth : Method} {c : Code} {g : zG} {u : Nat × Nat} {mc ms : Nat} {t : zT} {m : zM} {a_0 : Nat} {x_1 : Int32} {Q : zM → Prop} (C : zC p (zRm 1 mc ms) s mt args meth c g cX12_goesOn 3 yX12_goesOn.cls 1) (hr : meth.sig.returnType = none) (hm : meth.name = yX12_goesOn.name) (hu1 : u.1 ≤ mc) (hu2 : u.2 ≤ ms) (H : wX12_goesOn_J261 t m a_0 x_1 Q) : zW p l e (zRm 1 mc ms) s mt args below meth c g (MQ below (zQc g (zPv t Q)) args s mc ms (zFar g)) u 3 t m 261 [(0, .ref a_0), (1, .int x_1)] [] := by
  unfold wX12_goesOn_J261 at H
  refine z_aload_n (pc := 261) C (dX12_goesOn_p1 17 rfl) rfl 0 rfl ?_
  refine z_iconst (pc := 262) (v := 4) C (dX12_goesOn_p1 18 rfl) (by decide) ?_
  obtain ⟨h18, H⟩ := H
  refine z_putI (pc := 263) C zc12 h18 9 (by decide) rfl rfl wf_X12_69 (dX12_goesOn_p1 19 rfl) ?_
  refine z_aload_n (pc := 266) C (dX12_goesOn_p1 20 rfl) rfl 0 rfl ?_
  refine z_iload_n (pc := 267) C (dX12_goesOn_p1 21 rfl) rfl 1 rfl ?_
  refine z_putI (pc := 268) C zc12 h18 11 (by decide) rfl rfl wf_X12_81 (dX12_goesOn_p1 22 rfl) ?_
  refine z_aload_n (pc := 271) C (dX12_goesOn_p1 23 rfl) rfl 0 rfl ?_
  refine z_dup (pc := 272) C (dX12_goesOn_p1 24 rfl) rfl ?_
  refine z_getI (pc := 273) C zc12 h18 8 (by decide) rfl wf_X12_72 (dX12_goesOn_p1 25 rfl) ?_
  refine z_iconst (pc := 276) (v := 1) C (dX12_goesOn_p1 26 rfl) (by decide) ?_
  refine z_iadd (pc := 277) C (dX12_goesOn_p1 27 rfl) ?_
  refine z_putI (pc := 278) C zc12 h18 8 (by decide) rfl rfl wf_X12_72 (dX12_goesOn_p1 28 rfl) ?_
  exact z_vret (pc := 281) C hr hu1 hu2 (dX12_goesOn_p1 29 rfl) ⟨rfl, rfl, H⟩
def wX12_goesOn_J220 (t : zT) (m : zM) (a_0 : Nat) (x_2 : Int32) (Q : zM → Prop) (r178 : Int32 → zM → Prop) : Prop := (tK t a_0 = 12 ∧ (r178 (x_2 + 1) (pI m a_0 8 ((gI m a_0 8) + (1 : Int32)))))
set_option maxHeartbeats 4000000 in
set_option maxRecDepth 20000 in
theorem sX12_goesOn_J220 {p : Program} {l : Launch} {e : Env} {s : State} {mt : MethodId} {args : Array Value} {below : List Frame} {meth : Method} {c : Code} {g : zG} {u : Nat × Nat} {mc ms : Nat} {t : zT} {m : zM} {a_0 : Nat} {x_2 : Int32} {Q : zM → Prop} {r178 : Int32 → zM → Prop} (C : zC p (zRm 1 mc ms) s mt args meth c g cX12_goesOn 3 yX12_goesOn.cls 1) (hr : meth.sig.returnType = none) (hm : meth.name = yX12_goesOn.name) (hu1 : u.1 ≤ mc) (hu2 : u.2 ≤ ms)
    (R178 : ∀ (v0 : Int32) (m : zM), r178 v0 m → zW p l e (zRm 1 mc ms) s mt args below meth c g (MQ below (zQc g (zPv t Q)) args s mc ms (zFar g)) u 3 t m 178 [(0, .ref a_0), (2, .int v0)] []) (H : wX12_goesOn_J220 t m a_0 x_2 Q r178) : zW p l e (zRm 1 mc ms) s mt args below meth c g (MQ below (zQc g (zPv t Q)) args s mc ms (zFar g)) u 3 t m 220 [(0, .ref a_0), (2, .int x_2)] [] := by
  unfold wX12_goesOn_J220 at H
  refine z_iinc (pc := 220) (i := 2) (v := x_2 + 1) (lv2 := [(2, .int (x_2 + 1)), (0, .ref a_0)]) C (dX12_goesOn_p0 116 rfl) 1 rfl (by rfl) (by decide) rfl ?_
  refine z_aload_n (pc := 223) C (dX12_goesOn_p0 117 rfl) rfl 1 rfl ?_
  refine z_dup (pc := 224) C (dX12_goesOn_p0 118 rfl) rfl ?_
  obtain ⟨h27, H⟩ := H
  refine z_getI (pc := 225) C zc12 h27 8 (by decide) rfl wf_X12_72 (dX12_goesOn_p0 119 rfl) ?_
  refine z_iconst (pc := 228) (v := 1) C (dX12_goesOn_p1 0 rfl) (by decide) ?_
  refine z_iadd (pc := 229) C (dX12_goesOn_p1 1 rfl) ?_
  refine z_putI (pc := 230) C zc12 h27 8 (by decide) rfl rfl wf_X12_72 (dX12_goesOn_p1 2 rfl) ?_
  refine z_goto (pc := 233) (tgt := 178) C (dX12_goesOn_p1 3 rfl) (by decide) ?_
  refine z_sub [1, 0] rfl ?_
  exact R178 (x_2 + 1) (pI m a_0 8 ((gI m a_0 8) + (1 : Int32))) H
def wX12_goesOn_L178 (t : zT) (a_0 : Nat) (Q : zM → Prop) (k236 : Int32 → zM → Prop) : Nat → Int32 → zM → Prop
  | 0, _, _ => False
  | n + 1, x_2, m => (tK t a_0 = 12 ∧ (wX12_byteAt t m a_0 (gI m a_0 8) (fun r21 m22 => (wX12_isDigit t m22 r21 (fun r23 m24 => ((r23 = 0 → (k236 x_2 m24)) ∧ (¬ r23 = 0 → (((3 : Int32) ≤ x_2 → (wX12_goesOn_J220 t m24 a_0 x_2 Q (wX12_goesOn_L178 t a_0 Q k236 n))) ∧ (¬ (3 : Int32) ≤ x_2 → (wX12_byteAt t m24 a_0 (gI m24 a_0 8) (fun r28 m29 => (wX12_goesOn_J220 t (pI m29 a_0 12 ((((10 : Int32) * (gI m24 a_0 12)) + r28) - (48 : Int32))) a_0 x_2 Q (wX12_goesOn_L178 t a_0 Q k236 n)))))))))))))
set_option maxHeartbeats 4000000 in
set_option maxRecDepth 20000 in
theorem sX12_goesOn_L178 {p : Program} {l : Launch} {e : Env} {s : State} {mt : MethodId} {args : Array Value} {below : List Frame} {meth : Method} {c : Code} {g : zG} {u : Nat × Nat} {mc ms : Nat} {t : zT} {a_0 : Nat} {Q : zM → Prop} {k236 : Int32 → zM → Prop} (C : zC p (zRm 1 mc ms) s mt args meth c g cX12_goesOn 3 yX12_goesOn.cls 1) (hr : meth.sig.returnType = none) (hm : meth.name = yX12_goesOn.name) (hu1 : u.1 ≤ mc) (hu2 : u.2 ≤ ms)
    (K236 : ∀ (v0 : Int32) (m : zM), k236 v0 m → zW p l e (zRm 1 mc ms) s mt args below meth c g (MQ below (zQc g (zPv t Q)) args s mc ms (zFar g)) u 3 t m 236 [(0, .ref a_0), (2, .int v0)] []) : ∀ (n : Nat) (x_2 : Int32) (m : zM), wX12_goesOn_L178 t a_0 Q k236 n x_2 m → zW p l e (zRm 1 mc ms) s mt args below meth c g (MQ below (zQc g (zPv t Q)) args s mc ms (zFar g)) u 3 t m 178 [(0, .ref a_0), (2, .int x_2)] [] := by
  intro n
  induction n with
  | zero => intro x_2 m H; exact H.elim
  | succ n ih =>
    intro x_2 m H
    simp only [wX12_goesOn_L178] at H
    refine z_aload_n (pc := 178) C (dX12_goesOn_p0 94 rfl) rfl 0 rfl ?_
    refine z_aload_n (pc := 179) C (dX12_goesOn_p0 95 rfl) rfl 0 rfl ?_
    obtain ⟨h20, H⟩ := H
    refine z_getI (pc := 180) C zc12 h20 8 (by decide) rfl wf_X12_72 (dX12_goesOn_p0 96 rfl) ?_
    refine zc_Vi (pc := 183) (rest := []) C YX12_byteAt wl_X12_75 (kX12_byteAt H) (by decide) h20 rfl (by decide) (dX12_goesOn_p0 97 rfl) rfl hu1 hu2 (Nat.le_of_ble_eq_true rfl) rfl (fun r21 m22 H => ?_)
    refine zc_Si (pc := 186) (rest := []) C YX12_isDigit wl_X12_92 (kX12_isDigit H) (by decide) (dX12_goesOn_p0 98 rfl) rfl hu1 hu2 (Nat.le_of_ble_eq_true rfl) rfl (fun r23 m24 H => ?_)
    refine z_if_eq (pc := 189) (tgt := 236) C (dX12_goesOn_p0 99 rfl) (by decide) (fun c25 => ?_) (fun c25 => ?_)
    · replace H := H.1 c25
      refine z_sub [0, 1] rfl ?_
      exact K236 x_2 m24 H
    · replace H := H.2 c25
      refine z_iload_n (pc := 192) C (dX12_goesOn_p0 100 rfl) rfl 1 rfl ?_
      refine z_iconst (pc := 193) (v := 3) C (dX12_goesOn_p0 101 rfl) (by decide) ?_
      refine z_icmp_ge (pc := 194) (tgt := 220) C (dX12_goesOn_p0 102 rfl) (by decide) (fun c26 => ?_) (fun c26 => ?_)
      · replace H := H.1 c26
        refine z_sub [0, 1] rfl ?_
        exact sX12_goesOn_J220 C hr hm hu1 hu2 ih H
      · replace H := H.2 c26
        refine z_aload_n (pc := 197) C (dX12_goesOn_p0 103 rfl) rfl 0 rfl ?_
        refine z_bipush (pc := 198) (v := 10) C (dX12_goesOn_p0 104 rfl) (by decide) ?_
        refine z_aload_n (pc := 200) C (dX12_goesOn_p0 105 rfl) rfl 0 rfl ?_
        refine z_getI (pc := 201) C zc12 h20 12 (by decide) rfl wf_X12_95 (dX12_goesOn_p0 106 rfl) ?_
        refine z_imul (pc := 204) C (dX12_goesOn_p0 107 rfl) ?_
        refine z_aload_n (pc := 205) C (dX12_goesOn_p0 108 rfl) rfl 0 rfl ?_
        refine z_aload_n (pc := 206) C (dX12_goesOn_p0 109 rfl) rfl 0 rfl ?_
        refine z_getI (pc := 207) C zc12 h20 8 (by decide) rfl wf_X12_72 (dX12_goesOn_p0 110 rfl) ?_
        refine zc_Vi (pc := 210) (rest := [.int ((10 : Int32) * (gI m24 a_0 12)), .ref a_0]) C YX12_byteAt wl_X12_75 (kX12_byteAt H) (by decide) h20 rfl (by decide) (dX12_goesOn_p0 111 rfl) rfl hu1 hu2 (Nat.le_of_ble_eq_true rfl) rfl (fun r28 m29 H => ?_)
        refine z_iadd (pc := 213) C (dX12_goesOn_p0 112 rfl) ?_
        refine z_bipush (pc := 214) (v := 48) C (dX12_goesOn_p0 113 rfl) (by decide) ?_
        refine z_isub (pc := 216) C (dX12_goesOn_p0 114 rfl) ?_
        refine z_putI (pc := 217) C zc12 h20 12 (by decide) rfl rfl wf_X12_95 (dX12_goesOn_p0 115 rfl) ?_
        refine z_sub [0, 1] rfl ?_
        exact sX12_goesOn_J220 C hr hm hu1 hu2 ih H
def wX12_goesOn_J136 (t : zT) (m : zM) (a_0 : Nat) (x_2 : Int32) (Q : zM → Prop) (r89 : Int32 → zM → Prop) : Prop := (tK t a_0 = 12 ∧ (r89 (x_2 + 1) (pI m a_0 8 ((gI m a_0 8) + (1 : Int32)))))
set_option maxHeartbeats 4000000 in
set_option maxRecDepth 20000 in
theorem sX12_goesOn_J136 {p : Program} {l : Launch} {e : Env} {s : State} {mt : MethodId} {args : Array Value} {below : List Frame} {meth : Method} {c : Code} {g : zG} {u : Nat × Nat} {mc ms : Nat} {t : zT} {m : zM} {a_0 : Nat} {x_2 : Int32} {Q : zM → Prop} {r89 : Int32 → zM → Prop} (C : zC p (zRm 1 mc ms) s mt args meth c g cX12_goesOn 3 yX12_goesOn.cls 1) (hr : meth.sig.returnType = none) (hm : meth.name = yX12_goesOn.name) (hu1 : u.1 ≤ mc) (hu2 : u.2 ≤ ms)
    (R89 : ∀ (v0 : Int32) (m : zM), r89 v0 m → zW p l e (zRm 1 mc ms) s mt args below meth c g (MQ below (zQc g (zPv t Q)) args s mc ms (zFar g)) u 3 t m 89 [(0, .ref a_0), (2, .int v0)] []) (H : wX12_goesOn_J136 t m a_0 x_2 Q r89) : zW p l e (zRm 1 mc ms) s mt args below meth c g (MQ below (zQc g (zPv t Q)) args s mc ms (zFar g)) u 3 t m 136 [(0, .ref a_0), (2, .int x_2)] [] := by
  unfold wX12_goesOn_J136 at H
  refine z_iinc (pc := 136) (i := 2) (v := x_2 + 1) (lv2 := [(2, .int (x_2 + 1)), (0, .ref a_0)]) C (dX12_goesOn_p0 73 rfl) 1 rfl (by rfl) (by decide) rfl ?_
  refine z_aload_n (pc := 139) C (dX12_goesOn_p0 74 rfl) rfl 1 rfl ?_
  refine z_dup (pc := 140) C (dX12_goesOn_p0 75 rfl) rfl ?_
  obtain ⟨h41, H⟩ := H
  refine z_getI (pc := 141) C zc12 h41 8 (by decide) rfl wf_X12_72 (dX12_goesOn_p0 76 rfl) ?_
  refine z_iconst (pc := 144) (v := 1) C (dX12_goesOn_p0 77 rfl) (by decide) ?_
  refine z_iadd (pc := 145) C (dX12_goesOn_p0 78 rfl) ?_
  refine z_putI (pc := 146) C zc12 h41 8 (by decide) rfl rfl wf_X12_72 (dX12_goesOn_p0 79 rfl) ?_
  refine z_goto (pc := 149) (tgt := 89) C (dX12_goesOn_p0 80 rfl) (by decide) ?_
  refine z_sub [1, 0] rfl ?_
  exact R89 (x_2 + 1) (pI m a_0 8 ((gI m a_0 8) + (1 : Int32))) H
def wX12_goesOn_L89 (t : zT) (a_0 : Nat) (Q : zM → Prop) (k152 : Int32 → zM → Prop) : Nat → Int32 → zM → Prop
  | 0, _, _ => False
  | n + 1, x_2, m => (tK t a_0 = 12 ∧ (wX12_byteAt t m a_0 (gI m a_0 8) (fun r35 m36 => (wX12_isLetter t m36 r35 (fun r37 m38 => ((r37 = 0 → (k152 x_2 m38)) ∧ (¬ r37 = 0 → (((8 : Int32) ≤ x_2 → (wX12_goesOn_J136 t m38 a_0 x_2 Q (wX12_goesOn_L89 t a_0 Q k152 n))) ∧ (¬ (8 : Int32) ≤ x_2 → (wX12_byteAt t m38 a_0 (gI m38 a_0 8) (fun r42 m43 => (wX12_goesOn_J136 t (pJ m43 a_0 15 ((32 * (gJ m38 a_0 15)) + (((r42 - (97 : Int32)) + (1 : Int32)).toInt64))) a_0 x_2 Q (wX12_goesOn_L89 t a_0 Q k152 n)))))))))))))
set_option maxHeartbeats 4000000 in
set_option maxRecDepth 20000 in
theorem sX12_goesOn_L89 {p : Program} {l : Launch} {e : Env} {s : State} {mt : MethodId} {args : Array Value} {below : List Frame} {meth : Method} {c : Code} {g : zG} {u : Nat × Nat} {mc ms : Nat} {t : zT} {a_0 : Nat} {Q : zM → Prop} {k152 : Int32 → zM → Prop} (C : zC p (zRm 1 mc ms) s mt args meth c g cX12_goesOn 3 yX12_goesOn.cls 1) (hr : meth.sig.returnType = none) (hm : meth.name = yX12_goesOn.name) (hu1 : u.1 ≤ mc) (hu2 : u.2 ≤ ms)
    (K152 : ∀ (v0 : Int32) (m : zM), k152 v0 m → zW p l e (zRm 1 mc ms) s mt args below meth c g (MQ below (zQc g (zPv t Q)) args s mc ms (zFar g)) u 3 t m 152 [(0, .ref a_0), (2, .int v0)] []) : ∀ (n : Nat) (x_2 : Int32) (m : zM), wX12_goesOn_L89 t a_0 Q k152 n x_2 m → zW p l e (zRm 1 mc ms) s mt args below meth c g (MQ below (zQc g (zPv t Q)) args s mc ms (zFar g)) u 3 t m 89 [(0, .ref a_0), (2, .int x_2)] [] := by
  intro n
  induction n with
  | zero => intro x_2 m H; exact H.elim
  | succ n ih =>
    intro x_2 m H
    simp only [wX12_goesOn_L89] at H
    refine z_aload_n (pc := 89) C (dX12_goesOn_p0 48 rfl) rfl 0 rfl ?_
    refine z_aload_n (pc := 90) C (dX12_goesOn_p0 49 rfl) rfl 0 rfl ?_
    obtain ⟨h34, H⟩ := H
    refine z_getI (pc := 91) C zc12 h34 8 (by decide) rfl wf_X12_72 (dX12_goesOn_p0 50 rfl) ?_
    refine zc_Vi (pc := 94) (rest := []) C YX12_byteAt wl_X12_75 (kX12_byteAt H) (by decide) h34 rfl (by decide) (dX12_goesOn_p0 51 rfl) rfl hu1 hu2 (Nat.le_of_ble_eq_true rfl) rfl (fun r35 m36 H => ?_)
    refine zc_Si (pc := 97) (rest := []) C YX12_isLetter wl_X12_84 (kX12_isLetter H) (by decide) (dX12_goesOn_p0 52 rfl) rfl hu1 hu2 (Nat.le_of_ble_eq_true rfl) rfl (fun r37 m38 H => ?_)
    refine z_if_eq (pc := 100) (tgt := 152) C (dX12_goesOn_p0 53 rfl) (by decide) (fun c39 => ?_) (fun c39 => ?_)
    · replace H := H.1 c39
      refine z_sub [0, 1] rfl ?_
      exact K152 x_2 m38 H
    · replace H := H.2 c39
      refine z_iload_n (pc := 103) C (dX12_goesOn_p0 54 rfl) rfl 1 rfl ?_
      refine z_bipush (pc := 104) (v := 8) C (dX12_goesOn_p0 55 rfl) (by decide) ?_
      refine z_icmp_ge (pc := 106) (tgt := 136) C (dX12_goesOn_p0 56 rfl) (by decide) (fun c40 => ?_) (fun c40 => ?_)
      · replace H := H.1 c40
        refine z_sub [0, 1] rfl ?_
        exact sX12_goesOn_J136 C hr hm hu1 hu2 ih H
      · replace H := H.2 c40
        refine z_aload_n (pc := 109) C (dX12_goesOn_p0 57 rfl) rfl 0 rfl ?_
        refine z_ldc2 (pc := 110) C wj_X12_63 (dX12_goesOn_p0 58 rfl) ?_
        refine z_aload_n (pc := 113) C (dX12_goesOn_p0 59 rfl) rfl 0 rfl ?_
        refine z_getJ (pc := 114) C zc12 h34 15 (by decide) rfl wf_X12_88 (dX12_goesOn_p0 60 rfl) ?_
        refine z_lmul (pc := 117) C (dX12_goesOn_p0 61 rfl) ?_
        refine z_aload_n (pc := 118) C (dX12_goesOn_p0 62 rfl) rfl 0 rfl ?_
        refine z_aload_n (pc := 119) C (dX12_goesOn_p0 63 rfl) rfl 0 rfl ?_
        refine z_getI (pc := 120) C zc12 h34 8 (by decide) rfl wf_X12_72 (dX12_goesOn_p0 64 rfl) ?_
        refine zc_Vi (pc := 123) (rest := [.long (32 * (gJ m38 a_0 15)), .ref a_0]) C YX12_byteAt wl_X12_75 (kX12_byteAt H) (by decide) h34 rfl (by decide) (dX12_goesOn_p0 65 rfl) rfl hu1 hu2 (Nat.le_of_ble_eq_true rfl) rfl (fun r42 m43 H => ?_)
        refine z_bipush (pc := 126) (v := 97) C (dX12_goesOn_p0 66 rfl) (by decide) ?_
        refine z_isub (pc := 128) C (dX12_goesOn_p0 67 rfl) ?_
        refine z_iconst (pc := 129) (v := 1) C (dX12_goesOn_p0 68 rfl) (by decide) ?_
        refine z_iadd (pc := 130) C (dX12_goesOn_p0 69 rfl) ?_
        refine z_i2l (pc := 131) C (dX12_goesOn_p0 70 rfl) ?_
        refine z_ladd (pc := 132) C (dX12_goesOn_p0 71 rfl) ?_
        refine z_putJ (pc := 133) C zc12 h34 15 (by decide) rfl rfl wf_X12_88 (dX12_goesOn_p0 72 rfl) ?_
        refine z_sub [0, 1] rfl ?_
        exact sX12_goesOn_J136 C hr hm hu1 hu2 ih H
def wX12_goesOn (t : zT) (m : zM) (a : Nat) (Q : zM → Prop) : Prop := (tK t a = 12 ∧ (((gI m a 9) = 5 → (Q m)) ∧ (¬ (gI m a 9) = 5 → (∃ n48, wX12_goesOn_L9 t a Q (fun m7 => (wX12_byteAt t (pI (pI (pI m7 a 10 (gI m7 a 8)) a 9 0) a 11 0) a (gI (pI (pI (pI m7 a 10 (gI m7 a 8)) a 9 0) a 11 0) a 8) (fun r8 m9 => ((r8 = (-1) → (Q (pI m9 a 9 1))) ∧ (¬ r8 = (-1) → (wX12_isLetter t m9 r8 (fun r11 m12 => ((r11 = 0 → (wX12_isDigit t m12 r8 (fun r14 m15 => ((r14 = 0 → ((r8 = 59 → (wX12_goesOn_J261 t m15 a r8 Q)) ∧ (¬ r8 = 59 → ((r8 = 44 → (wX12_goesOn_J261 t m15 a r8 Q)) ∧ (¬ r8 = 44 → (Q m15)))))) ∧ (¬ r14 = 0 → (∃ n33, wX12_goesOn_L178 t a Q (fun v30 m31 => (((3 : Int32) < v30 → (Q m31)) ∧ (¬ (3 : Int32) < v30 → (Q (pI m31 a 9 3))))) n33 0 (pI m15 a 12 0))))))) ∧ (¬ r11 = 0 → (∃ n47, wX12_goesOn_L89 t a Q (fun v44 m45 => (((8 : Int32) < v44 → (Q m45)) ∧ (¬ (8 : Int32) < v44 → (Q (pI m45 a 9 2))))) n47 0 (pJ m12 a 15 0))))))))))) n48 m))))
set_option maxHeartbeats 4000000 in
set_option maxRecDepth 20000 in
theorem kX12_goesOn {l : Launch} {t : zT} {m : zM} {a : Nat} {Q : zM → Prop} (H : wX12_goesOn t m a Q) : zMet l yX12_goesOn cX12_goesOn 3 none 1 0 0 t m [.ref a] (zPv t Q) := by
  refine zmet (by decide +kernel) (Nat.le_of_ble_eq_true rfl) ?_
  intro p e s mt args below meth c g C hr hm
  unfold wX12_goesOn at H
  have hu1 : ((0, 0) : Nat × Nat).1 ≤ 0 := Nat.le_refl 0
  have hu2 : ((0, 0) : Nat × Nat).2 ≤ 0 := Nat.le_refl 0
  refine z_aload_n (pc := 0) C (dX12_goesOn_p0 0 rfl) rfl 0 rfl ?_
  obtain ⟨h1, H⟩ := H
  refine z_getI (pc := 1) C zc12 h1 9 (by decide) rfl wf_X12_69 (dX12_goesOn_p0 1 rfl) ?_
  refine z_iconst (pc := 4) (v := 5) C (dX12_goesOn_p0 2 rfl) (by decide) ?_
  refine z_icmp_ne (pc := 5) (tgt := 9) C (dX12_goesOn_p0 3 rfl) (by decide) (fun c2 => ?_) (fun c2 => ?_)
  · replace H := H.2 c2
    obtain ⟨n48, H⟩ := H
    refine z_sub [0] rfl ?_
    refine sX12_goesOn_L9 C hr hm hu1 hu2 (fun m7 H => ?_) n48 m H
    refine z_aload_n (pc := 35) C (dX12_goesOn_p0 18 rfl) rfl 0 rfl ?_
    refine z_aload_n (pc := 36) C (dX12_goesOn_p0 19 rfl) rfl 0 rfl ?_
    refine z_getI (pc := 37) C zc12 h1 8 (by decide) rfl wf_X12_72 (dX12_goesOn_p0 20 rfl) ?_
    refine z_putI (pc := 40) C zc12 h1 10 (by decide) rfl rfl wf_X12_78 (dX12_goesOn_p0 21 rfl) ?_
    refine z_aload_n (pc := 43) C (dX12_goesOn_p0 22 rfl) rfl 0 rfl ?_
    refine z_iconst (pc := 44) (v := 0) C (dX12_goesOn_p0 23 rfl) (by decide) ?_
    refine z_putI (pc := 45) C zc12 h1 9 (by decide) rfl rfl wf_X12_69 (dX12_goesOn_p0 24 rfl) ?_
    refine z_aload_n (pc := 48) C (dX12_goesOn_p0 25 rfl) rfl 0 rfl ?_
    refine z_iconst (pc := 49) (v := 0) C (dX12_goesOn_p0 26 rfl) (by decide) ?_
    refine z_putI (pc := 50) C zc12 h1 11 (by decide) rfl rfl wf_X12_81 (dX12_goesOn_p0 27 rfl) ?_
    refine z_aload_n (pc := 53) C (dX12_goesOn_p0 28 rfl) rfl 0 rfl ?_
    refine z_aload_n (pc := 54) C (dX12_goesOn_p0 29 rfl) rfl 0 rfl ?_
    refine z_getI (pc := 55) C zc12 h1 8 (by decide) rfl wf_X12_72 (dX12_goesOn_p0 30 rfl) ?_
    refine zc_Vi (pc := 58) (rest := []) C YX12_byteAt wl_X12_75 (kX12_byteAt H) (by decide) h1 rfl (by decide) (dX12_goesOn_p0 31 rfl) rfl hu1 hu2 (Nat.le_of_ble_eq_true rfl) rfl (fun r8 m9 H => ?_)
    refine z_istore_n (pc := 61) (i := 1) (lv2 := [(1, .int r8), (0, .ref a)]) C (dX12_goesOn_p0 32 rfl) rfl (by decide) rfl ?_
    refine z_iconst (pc := 62) (v := 0) C (dX12_goesOn_p0 33 rfl) (by decide) ?_
    refine z_istore_n (pc := 63) (i := 2) (lv2 := [(2, .int 0), (1, .int r8), (0, .ref a)]) C (dX12_goesOn_p0 34 rfl) rfl (by decide) rfl ?_
    refine z_iload_n (pc := 64) C (dX12_goesOn_p0 35 rfl) rfl 1 rfl ?_
    refine z_iconst (pc := 65) (v := (-1)) C (dX12_goesOn_p0 36 rfl) (by decide) ?_
    refine z_icmp_ne (pc := 66) (tgt := 77) C (dX12_goesOn_p0 37 rfl) (by decide) (fun c10 => ?_) (fun c10 => ?_)
    · replace H := H.2 c10
      refine z_iload_n (pc := 77) C (dX12_goesOn_p0 42 rfl) rfl 1 rfl ?_
      refine zc_Si (pc := 78) (rest := []) C YX12_isLetter wl_X12_84 (kX12_isLetter H) (by decide) (dX12_goesOn_p0 43 rfl) rfl hu1 hu2 (Nat.le_of_ble_eq_true rfl) rfl (fun r11 m12 H => ?_)
      refine z_if_eq (pc := 81) (tgt := 166) C (dX12_goesOn_p0 44 rfl) (by decide) (fun c13 => ?_) (fun c13 => ?_)
      · replace H := H.1 c13
        refine z_iload_n (pc := 166) C (dX12_goesOn_p0 88 rfl) rfl 1 rfl ?_
        refine zc_Si (pc := 167) (rest := []) C YX12_isDigit wl_X12_92 (kX12_isDigit H) (by decide) (dX12_goesOn_p0 89 rfl) rfl hu1 hu2 (Nat.le_of_ble_eq_true rfl) rfl (fun r14 m15 H => ?_)
        refine z_if_eq (pc := 170) (tgt := 249) C (dX12_goesOn_p0 90 rfl) (by decide) (fun c16 => ?_) (fun c16 => ?_)
        · replace H := H.1 c16
          refine z_iload_n (pc := 249) C (dX12_goesOn_p1 11 rfl) rfl 1 rfl ?_
          refine z_bipush (pc := 250) (v := 59) C (dX12_goesOn_p1 12 rfl) (by decide) ?_
          refine z_icmp_eq (pc := 252) (tgt := 261) C (dX12_goesOn_p1 13 rfl) (by decide) (fun c17 => ?_) (fun c17 => ?_)
          · replace H := H.1 c17
            refine z_sub [2, 1] rfl ?_
            exact sX12_goesOn_J261 C hr hm hu1 hu2 H
          · replace H := H.2 c17
            refine z_iload_n (pc := 255) C (dX12_goesOn_p1 14 rfl) rfl 1 rfl ?_
            refine z_bipush (pc := 256) (v := 44) C (dX12_goesOn_p1 15 rfl) (by decide) ?_
            refine z_icmp_ne (pc := 258) (tgt := 281) C (dX12_goesOn_p1 16 rfl) (by decide) (fun c19 => ?_) (fun c19 => ?_)
            · replace H := H.2 c19
              exact z_vret (pc := 281) C hr hu1 hu2 (dX12_goesOn_p1 29 rfl) ⟨rfl, rfl, H⟩
            · replace H := H.1 c19
              refine z_sub [2, 1] rfl ?_
              exact sX12_goesOn_J261 C hr hm hu1 hu2 H
        · replace H := H.2 c16
          refine z_aload_n (pc := 173) C (dX12_goesOn_p0 91 rfl) rfl 2 rfl ?_
          refine z_iconst (pc := 174) (v := 0) C (dX12_goesOn_p0 92 rfl) (by decide) ?_
          refine z_putI (pc := 175) C zc12 h1 12 (by decide) rfl rfl wf_X12_95 (dX12_goesOn_p0 93 rfl) ?_
          obtain ⟨n33, H⟩ := H
          refine z_sub [2, 0] rfl ?_
          refine sX12_goesOn_L178 C hr hm hu1 hu2 (fun v30 m31 H => ?_) n33 0 (pI m15 a 12 0) H
          refine z_iload_n (pc := 236) C (dX12_goesOn_p1 4 rfl) rfl 1 rfl ?_
          refine z_iconst (pc := 237) (v := 3) C (dX12_goesOn_p1 5 rfl) (by decide) ?_
          refine z_icmp_gt (pc := 238) (tgt := 281) C (dX12_goesOn_p1 6 rfl) (by decide) (fun c32 => ?_) (fun c32 => ?_)
          · replace H := H.1 c32
            exact z_vret (pc := 281) C hr hu1 hu2 (dX12_goesOn_p1 29 rfl) ⟨rfl, rfl, H⟩
          · replace H := H.2 c32
            refine z_aload_n (pc := 241) C (dX12_goesOn_p1 7 rfl) rfl 0 rfl ?_
            refine z_iconst (pc := 242) (v := 3) C (dX12_goesOn_p1 8 rfl) (by decide) ?_
            refine z_putI (pc := 243) C zc12 h1 9 (by decide) rfl rfl wf_X12_69 (dX12_goesOn_p1 9 rfl) ?_
            refine z_goto (pc := 246) (tgt := 281) C (dX12_goesOn_p1 10 rfl) (by decide) ?_
            exact z_vret (pc := 281) C hr hu1 hu2 (dX12_goesOn_p1 29 rfl) ⟨rfl, rfl, H⟩
      · replace H := H.2 c13
        refine z_aload_n (pc := 84) C (dX12_goesOn_p0 45 rfl) rfl 2 rfl ?_
        refine z_lconst (pc := 85) (v := 0) C (dX12_goesOn_p0 46 rfl) (by decide) ?_
        refine z_putJ (pc := 86) C zc12 h1 15 (by decide) rfl rfl wf_X12_88 (dX12_goesOn_p0 47 rfl) ?_
        obtain ⟨n47, H⟩ := H
        refine z_sub [2, 0] rfl ?_
        refine sX12_goesOn_L89 C hr hm hu1 hu2 (fun v44 m45 H => ?_) n47 0 (pJ m12 a 15 0) H
        refine z_iload_n (pc := 152) C (dX12_goesOn_p0 81 rfl) rfl 1 rfl ?_
        refine z_bipush (pc := 153) (v := 8) C (dX12_goesOn_p0 82 rfl) (by decide) ?_
        refine z_icmp_gt (pc := 155) (tgt := 281) C (dX12_goesOn_p0 83 rfl) (by decide) (fun c46 => ?_) (fun c46 => ?_)
        · replace H := H.1 c46
          exact z_vret (pc := 281) C hr hu1 hu2 (dX12_goesOn_p1 29 rfl) ⟨rfl, rfl, H⟩
        · replace H := H.2 c46
          refine z_aload_n (pc := 158) C (dX12_goesOn_p0 84 rfl) rfl 0 rfl ?_
          refine z_iconst (pc := 159) (v := 2) C (dX12_goesOn_p0 85 rfl) (by decide) ?_
          refine z_putI (pc := 160) C zc12 h1 9 (by decide) rfl rfl wf_X12_69 (dX12_goesOn_p0 86 rfl) ?_
          refine z_goto (pc := 163) (tgt := 281) C (dX12_goesOn_p0 87 rfl) (by decide) ?_
          exact z_vret (pc := 281) C hr hu1 hu2 (dX12_goesOn_p1 29 rfl) ⟨rfl, rfl, H⟩
    · replace H := H.1 c10
      refine z_aload_n (pc := 69) C (dX12_goesOn_p0 38 rfl) rfl 2 rfl ?_
      refine z_iconst (pc := 70) (v := 1) C (dX12_goesOn_p0 39 rfl) (by decide) ?_
      refine z_putI (pc := 71) C zc12 h1 9 (by decide) rfl rfl wf_X12_69 (dX12_goesOn_p0 40 rfl) ?_
      refine z_goto (pc := 74) (tgt := 281) C (dX12_goesOn_p0 41 rfl) (by decide) ?_
      exact z_vret (pc := 281) C hr hu1 hu2 (dX12_goesOn_p1 29 rfl) ⟨rfl, rfl, H⟩
  · replace H := H.1 c2
    exact z_vret (pc := 8) C hr hu1 hu2 (dX12_goesOn_p0 4 rfl) ⟨rfl, rfl, H⟩
def wX12_flaw (t : zT) (m : zM) (a : Nat) (p1 : Int32) (Q : zM → Prop) : Prop := (tK t a = 12 ∧ (((gI m a 9) = 5 → (Q m)) ∧ (¬ (gI m a 9) = 5 → (Q (pI (pI (pI m a 13 p1) a 14 (gI (pI m a 13 p1) a 10)) a 9 5)))))
set_option maxHeartbeats 4000000 in
set_option maxRecDepth 20000 in
theorem kX12_flaw {l : Launch} {t : zT} {m : zM} {a : Nat} {p1 : Int32} {Q : zM → Prop} (H : wX12_flaw t m a p1 Q) : zMet l yX12_flaw cX12_flaw 2 none 0 0 0 t m [.ref a, .int p1] (zPv t Q) := by
  refine zmet (by decide +kernel) (Nat.le_of_ble_eq_true rfl) ?_
  intro p e s mt args below meth c g C hr hm
  unfold wX12_flaw at H
  have hu1 : ((0, 0) : Nat × Nat).1 ≤ 0 := Nat.le_refl 0
  have hu2 : ((0, 0) : Nat × Nat).2 ≤ 0 := Nat.le_refl 0
  refine z_aload_n (pc := 0) C (dX12_flaw 0 rfl) rfl 0 rfl ?_
  obtain ⟨h1, H⟩ := H
  refine z_getI (pc := 1) C zc12 h1 9 (by decide) rfl wf_X12_69 (dX12_flaw 1 rfl) ?_
  refine z_iconst (pc := 4) (v := 5) C (dX12_flaw 2 rfl) (by decide) ?_
  refine z_icmp_ne (pc := 5) (tgt := 9) C (dX12_flaw 3 rfl) (by decide) (fun c2 => ?_) (fun c2 => ?_)
  · replace H := H.2 c2
    refine z_aload_n (pc := 9) C (dX12_flaw 5 rfl) rfl 0 rfl ?_
    refine z_iload_n (pc := 10) C (dX12_flaw 6 rfl) rfl 1 rfl ?_
    refine z_putI (pc := 11) C zc12 h1 13 (by decide) rfl rfl wf_X12_98 (dX12_flaw 7 rfl) ?_
    refine z_aload_n (pc := 14) C (dX12_flaw 8 rfl) rfl 0 rfl ?_
    refine z_aload_n (pc := 15) C (dX12_flaw 9 rfl) rfl 0 rfl ?_
    refine z_getI (pc := 16) C zc12 h1 10 (by decide) rfl wf_X12_78 (dX12_flaw 10 rfl) ?_
    refine z_putI (pc := 19) C zc12 h1 14 (by decide) rfl rfl wf_X12_101 (dX12_flaw 11 rfl) ?_
    refine z_aload_n (pc := 22) C (dX12_flaw 12 rfl) rfl 0 rfl ?_
    refine z_iconst (pc := 23) (v := 5) C (dX12_flaw 13 rfl) (by decide) ?_
    refine z_putI (pc := 24) C zc12 h1 9 (by decide) rfl rfl wf_X12_69 (dX12_flaw 14 rfl) ?_
    exact z_vret (pc := 27) C hr hu1 hu2 (dX12_flaw 15 rfl) ⟨rfl, rfl, H⟩
  · replace H := H.1 c2
    exact z_vret (pc := 8) C hr hu1 hu2 (dX12_flaw 4 rfl) ⟨rfl, rfl, H⟩
def wX12_isWord (t : zT) (m : zM) (a : Nat) (p1 : Nat) (Q : Int32 → zM → Prop) : Prop := (tK t a = 12 ∧ (((gI m a 9) = 2 → (wX12_wordOf t m p1 (fun r3 m4 => (((lg_cmp (gJ m a 15) r3) = 0 → (Q 1 m4)) ∧ (¬ (lg_cmp (gJ m a 15) r3) = 0 → (Q 0 m4)))))) ∧ (¬ (gI m a 9) = 2 → (Q 0 m))))
set_option maxHeartbeats 4000000 in
set_option maxRecDepth 20000 in
theorem kX12_isWord {l : Launch} {t : zT} {m : zM} {a : Nat} {p1 : Nat} {Q : Int32 → zM → Prop} (H : wX12_isWord t m a p1 Q) : zMet l yX12_isWord cX12_isWord 2 (some .boolean) 7 0 0 t m [.ref a, .retAddr p1] (zPi t Q) := by
  refine zmet (by decide +kernel) (Nat.le_of_ble_eq_true rfl) ?_
  intro p e s mt args below meth c g C hr hm
  unfold wX12_isWord at H
  have hu1 : ((0, 0) : Nat × Nat).1 ≤ 0 := Nat.le_refl 0
  have hu2 : ((0, 0) : Nat × Nat).2 ≤ 0 := Nat.le_refl 0
  refine z_aload_n (pc := 0) C (dX12_isWord 0 rfl) rfl 0 rfl ?_
  obtain ⟨h1, H⟩ := H
  refine z_getI (pc := 1) C zc12 h1 9 (by decide) rfl wf_X12_69 (dX12_isWord 1 rfl) ?_
  refine z_iconst (pc := 4) (v := 2) C (dX12_isWord 2 rfl) (by decide) ?_
  refine z_icmp_ne (pc := 5) (tgt := 24) C (dX12_isWord 3 rfl) (by decide) (fun c2 => ?_) (fun c2 => ?_)
  · replace H := H.2 c2
    refine z_iconst (pc := 24) (v := 0) C (dX12_isWord 12 rfl) (by decide) ?_
    exact z_zret (pc := 25) C hr (by decide) hu1 hu2 (dX12_isWord 13 rfl) ⟨rfl, _, rfl, H⟩
  · replace H := H.1 c2
    refine z_aload_n (pc := 8) C (dX12_isWord 4 rfl) rfl 0 rfl ?_
    refine z_getJ (pc := 9) C zc12 h1 15 (by decide) rfl wf_X12_88 (dX12_isWord 5 rfl) ?_
    refine z_aload_nS (pc := 12) C (dX12_isWord 6 rfl) rfl 1 rfl ?_
    refine zc_Sl (pc := 13) (rest := [.long (gJ m a 15)]) C YX12_wordOf wl_X12_104 (kX12_wordOf H) (by decide) (dX12_isWord 7 rfl) rfl hu1 hu2 (Nat.le_of_ble_eq_true rfl) rfl (fun r3 m4 H => ?_)
    refine z_lcmp (pc := 16) C (dX12_isWord 8 rfl) ?_
    refine z_if_ne (pc := 17) (tgt := 24) C (dX12_isWord 9 rfl) (by decide) (fun c5 => ?_) (fun c5 => ?_)
    · replace H := H.2 c5
      refine z_iconst (pc := 24) (v := 0) C (dX12_isWord 12 rfl) (by decide) ?_
      exact z_zret (pc := 25) C hr (by decide) hu1 hu2 (dX12_isWord 13 rfl) ⟨rfl, _, rfl, H⟩
    · replace H := H.1 c5
      refine z_iconst (pc := 20) (v := 1) C (dX12_isWord 10 rfl) (by decide) ?_
      refine z_goto (pc := 21) (tgt := 25) C (dX12_isWord 11 rfl) (by decide) ?_
      exact z_zret (pc := 25) C hr (by decide) hu1 hu2 (dX12_isWord 13 rfl) ⟨rfl, _, rfl, H⟩
def wX12_eatsWord (t : zT) (m : zM) (a : Nat) (p1 : Nat) (Q : Int32 → zM → Prop) : Prop := (tK t a = 12 ∧ (wX12_isWord t m a p1 (fun r2 m3 => ((r2 = 0 → ((r2 = 0 ∨ r2 = 1) ∧ (Q r2 m3))) ∧ (¬ r2 = 0 → (wX12_goesOn t m3 a (fun m7 => ((r2 = 0 ∨ r2 = 1) ∧ (Q r2 m7)))))))))
set_option maxHeartbeats 4000000 in
set_option maxRecDepth 20000 in
theorem kX12_eatsWord {l : Launch} {t : zT} {m : zM} {a : Nat} {p1 : Nat} {Q : Int32 → zM → Prop} (H : wX12_eatsWord t m a p1 Q) : zMet l yX12_eatsWord cX12_eatsWord 3 (some .boolean) 8 0 0 t m [.ref a, .retAddr p1] (zPi t Q) := by
  refine zmet (by decide +kernel) (Nat.le_of_ble_eq_true rfl) ?_
  intro p e s mt args below meth c g C hr hm
  unfold wX12_eatsWord at H
  have hu1 : ((0, 0) : Nat × Nat).1 ≤ 0 := Nat.le_refl 0
  have hu2 : ((0, 0) : Nat × Nat).2 ≤ 0 := Nat.le_refl 0
  refine z_aload_n (pc := 0) C (dX12_eatsWord 0 rfl) rfl 0 rfl ?_
  refine z_aload_nS (pc := 1) C (dX12_eatsWord 1 rfl) rfl 1 rfl ?_
  obtain ⟨h1, H⟩ := H
  refine zc_Vi (pc := 2) (rest := []) C YX12_isWord wl_X12_108 (kX12_isWord H) (by decide) h1 rfl (by decide) (dX12_eatsWord 2 rfl) rfl hu1 hu2 (Nat.le_of_ble_eq_true rfl) rfl (fun r2 m3 H => ?_)
  refine z_istore_n (pc := 5) (i := 2) (lv2 := [(2, .int r2), (0, .ref a), (1, .retAddr p1)]) C (dX12_eatsWord 3 rfl) rfl (by decide) rfl ?_
  refine z_iload_n (pc := 6) C (dX12_eatsWord 4 rfl) rfl 0 rfl ?_
  refine z_if_eq (pc := 7) (tgt := 14) C (dX12_eatsWord 5 rfl) (by decide) (fun c4 => ?_) (fun c4 => ?_)
  · replace H := H.1 c4
    refine z_iload_n (pc := 14) C (dX12_eatsWord 8 rfl) rfl 0 rfl ?_
    obtain ⟨h5, H⟩ := H
    exact z_zret (pc := 15) C hr h5 hu1 hu2 (dX12_eatsWord 9 rfl) ⟨rfl, _, rfl, H⟩
  · replace H := H.2 c4
    refine z_aload_n (pc := 10) C (dX12_eatsWord 6 rfl) rfl 1 rfl ?_
    refine zc_Vv (pc := 11) (rest := []) C YX12_goesOn wl_X12_112 (kX12_goesOn H) (by decide) h1 rfl (by decide) (dX12_eatsWord 7 rfl) rfl hu1 hu2 (Nat.le_of_ble_eq_true rfl) rfl (fun m7 H => ?_)
    refine z_iload_n (pc := 14) C (dX12_eatsWord 8 rfl) rfl 0 rfl ?_
    obtain ⟨h8, H⟩ := H
    exact z_zret (pc := 15) C hr h8 hu1 hu2 (dX12_eatsWord 9 rfl) ⟨rfl, _, rfl, H⟩
def wX12_eatsSign_J21 (t : zT) (m : zM) (a_0 : Nat) (s_0 : Int32) (Q : Int32 → zM → Prop) : Prop := ((s_0 = 0 → ((s_0 = 0 ∨ s_0 = 1) ∧ (Q s_0 m))) ∧ (¬ s_0 = 0 → (tK t a_0 = 12 ∧ (wX12_goesOn t m a_0 (fun m7 => ((s_0 = 0 ∨ s_0 = 1) ∧ (Q s_0 m7)))))))
set_option maxHeartbeats 4000000 in
set_option maxRecDepth 20000 in
theorem sX12_eatsSign_J21 {p : Program} {l : Launch} {e : Env} {s : State} {mt : MethodId} {args : Array Value} {below : List Frame} {meth : Method} {c : Code} {g : zG} {u : Nat × Nat} {mc ms : Nat} {t : zT} {m : zM} {a_0 : Nat} {s_0 : Int32} {Q : Int32 → zM → Prop} (C : zC p (zRm 2 mc ms) s mt args meth c g cX12_eatsSign 3 yX12_eatsSign.cls 2) (hr : meth.sig.returnType = (some .boolean)) (hm : meth.name = yX12_eatsSign.name) (hu1 : u.1 ≤ mc) (hu2 : u.2 ≤ ms) (H : wX12_eatsSign_J21 t m a_0 s_0 Q) : zW p l e (zRm 2 mc ms) s mt args below meth c g (MQ below (zQc g (zPi t Q)) args s mc ms (zFar g)) u 3 t m 21 [(0, .ref a_0)] [.int s_0] := by
  unfold wX12_eatsSign_J21 at H
  refine z_istore_n (pc := 21) (i := 2) (lv2 := [(2, .int s_0), (0, .ref a_0)]) C (dX12_eatsSign 11 rfl) rfl (by decide) rfl ?_
  refine z_iload_n (pc := 22) C (dX12_eatsSign 12 rfl) rfl 0 rfl ?_
  refine z_if_eq (pc := 23) (tgt := 30) C (dX12_eatsSign 13 rfl) (by decide) (fun c3 => ?_) (fun c3 => ?_)
  · replace H := H.1 c3
    refine z_iload_n (pc := 30) C (dX12_eatsSign 16 rfl) rfl 0 rfl ?_
    obtain ⟨h4, H⟩ := H
    exact z_zret (pc := 31) C hr h4 hu1 hu2 (dX12_eatsSign 17 rfl) ⟨rfl, _, rfl, H⟩
  · replace H := H.2 c3
    refine z_aload_n (pc := 26) C (dX12_eatsSign 14 rfl) rfl 1 rfl ?_
    obtain ⟨h5, H⟩ := H
    refine zc_Vv (pc := 27) (rest := []) C YX12_goesOn wl_X12_112 (kX12_goesOn H) (by decide) h5 rfl (by decide) (dX12_eatsSign 15 rfl) rfl hu1 hu2 (Nat.le_of_ble_eq_true rfl) rfl (fun m7 H => ?_)
    refine z_iload_n (pc := 30) C (dX12_eatsSign 16 rfl) rfl 0 rfl ?_
    obtain ⟨h8, H⟩ := H
    exact z_zret (pc := 31) C hr h8 hu1 hu2 (dX12_eatsSign 17 rfl) ⟨rfl, _, rfl, H⟩
def wX12_eatsSign_J20 (t : zT) (m : zM) (a_0 : Nat) (Q : Int32 → zM → Prop) : Prop := (wX12_eatsSign_J21 t m a_0 0 Q)
set_option maxHeartbeats 4000000 in
set_option maxRecDepth 20000 in
theorem sX12_eatsSign_J20 {p : Program} {l : Launch} {e : Env} {s : State} {mt : MethodId} {args : Array Value} {below : List Frame} {meth : Method} {c : Code} {g : zG} {u : Nat × Nat} {mc ms : Nat} {t : zT} {m : zM} {a_0 : Nat} {Q : Int32 → zM → Prop} (C : zC p (zRm 2 mc ms) s mt args meth c g cX12_eatsSign 3 yX12_eatsSign.cls 2) (hr : meth.sig.returnType = (some .boolean)) (hm : meth.name = yX12_eatsSign.name) (hu1 : u.1 ≤ mc) (hu2 : u.2 ≤ ms) (H : wX12_eatsSign_J20 t m a_0 Q) : zW p l e (zRm 2 mc ms) s mt args below meth c g (MQ below (zQc g (zPi t Q)) args s mc ms (zFar g)) u 3 t m 20 [(0, .ref a_0)] [] := by
  unfold wX12_eatsSign_J20 at H
  refine z_iconst (pc := 20) (v := 0) C (dX12_eatsSign 10 rfl) (by decide) ?_
  refine z_sub [0] rfl ?_
  exact sX12_eatsSign_J21 C hr hm hu1 hu2 H
def wX12_eatsSign (t : zT) (m : zM) (a : Nat) (p1 : Int32) (Q : Int32 → zM → Prop) : Prop := (tK t a = 12 ∧ (((gI m a 9) = 4 → (((gI m a 11) = p1 → (wX12_eatsSign_J21 t m a 1 Q)) ∧ (¬ (gI m a 11) = p1 → (wX12_eatsSign_J20 t m a Q)))) ∧ (¬ (gI m a 9) = 4 → (wX12_eatsSign_J20 t m a Q))))
set_option maxHeartbeats 4000000 in
set_option maxRecDepth 20000 in
theorem kX12_eatsSign {l : Launch} {t : zT} {m : zM} {a : Nat} {p1 : Int32} {Q : Int32 → zM → Prop} (H : wX12_eatsSign t m a p1 Q) : zMet l yX12_eatsSign cX12_eatsSign 3 (some .boolean) 2 0 0 t m [.ref a, .int p1] (zPi t Q) := by
  refine zmet (by decide +kernel) (Nat.le_of_ble_eq_true rfl) ?_
  intro p e s mt args below meth c g C hr hm
  unfold wX12_eatsSign at H
  have hu1 : ((0, 0) : Nat × Nat).1 ≤ 0 := Nat.le_refl 0
  have hu2 : ((0, 0) : Nat × Nat).2 ≤ 0 := Nat.le_refl 0
  refine z_aload_n (pc := 0) C (dX12_eatsSign 0 rfl) rfl 0 rfl ?_
  obtain ⟨h1, H⟩ := H
  refine z_getI (pc := 1) C zc12 h1 9 (by decide) rfl wf_X12_69 (dX12_eatsSign 1 rfl) ?_
  refine z_iconst (pc := 4) (v := 4) C (dX12_eatsSign 2 rfl) (by decide) ?_
  refine z_icmp_ne (pc := 5) (tgt := 20) C (dX12_eatsSign 3 rfl) (by decide) (fun c2 => ?_) (fun c2 => ?_)
  · replace H := H.2 c2
    refine z_sub [0] rfl ?_
    exact sX12_eatsSign_J20 C hr hm hu1 hu2 H
  · replace H := H.1 c2
    refine z_aload_n (pc := 8) C (dX12_eatsSign 4 rfl) rfl 0 rfl ?_
    refine z_getI (pc := 9) C zc12 h1 11 (by decide) rfl wf_X12_81 (dX12_eatsSign 5 rfl) ?_
    refine z_iload_n (pc := 12) C (dX12_eatsSign 6 rfl) rfl 1 rfl ?_
    refine z_icmp_ne (pc := 13) (tgt := 20) C (dX12_eatsSign 7 rfl) (by decide) (fun c9 => ?_) (fun c9 => ?_)
    · replace H := H.2 c9
      refine z_sub [0] rfl ?_
      exact sX12_eatsSign_J20 C hr hm hu1 hu2 H
    · replace H := H.1 c9
      refine z_iconst (pc := 16) (v := 1) C (dX12_eatsSign 8 rfl) (by decide) ?_
      refine z_goto (pc := 17) (tgt := 21) C (dX12_eatsSign 9 rfl) (by decide) ?_
      refine z_sub [0] rfl ?_
      exact sX12_eatsSign_J21 C hr hm hu1 hu2 H
