def wX12_isLawful_J53 (t : zT) (m : zM) (a_0 : Nat) (x_1 : Int32) (x_2 : Int32) (x_3 : Int32) (x_4 : Int32) (Q : Int32 → zM → Prop) (r13 : Int32 → zM → Prop) : Prop := (r13 (x_4 + 1) m)
set_option maxHeartbeats 4000000 in
set_option maxRecDepth 20000 in
theorem sX12_isLawful_J53 {p : Program} {l : Launch} {e : Env} {s : State} {mt : MethodId} {args : Array Value} {below : List Frame} {meth : Method} {c : Code} {g : zG} {u : Nat × Nat} {mc ms : Nat} {t : zT} {m : zM} {a_0 : Nat} {x_1 : Int32} {x_2 : Int32} {x_3 : Int32} {x_4 : Int32} {Q : Int32 → zM → Prop} {r13 : Int32 → zM → Prop} (C : zC p (zRm 3 mc ms) s mt args meth c g cX12_isLawful 5 yX12_isLawful.cls 3) (hr : meth.sig.returnType = (some .boolean)) (hm : meth.name = yX12_isLawful.name) (hu1 : u.1 ≤ mc) (hu2 : u.2 ≤ ms)
    (R13 : ∀ (v0 : Int32) (m : zM), r13 v0 m → zW p l e (zRm 3 mc ms) s mt args below meth c g (MQ below (zQc g (zPi t Q)) args s mc ms (zFar g)) u 5 t m 13 [(0, .ref a_0), (1, .int x_1), (2, .int x_2), (3, .int x_3), (4, .int v0)] []) (H : wX12_isLawful_J53 t m a_0 x_1 x_2 x_3 x_4 Q r13) : zW p l e (zRm 3 mc ms) s mt args below meth c g (MQ below (zQc g (zPi t Q)) args s mc ms (zFar g)) u 5 t m 53 [(0, .ref a_0), (1, .int x_1), (2, .int x_2), (3, .int x_3), (4, .int x_4)] [] := by
  unfold wX12_isLawful_J53 at H
  refine z_iinc (pc := 53) (i := 4) (v := x_4 + 1) (lv2 := [(4, .int (x_4 + 1)), (0, .ref a_0), (1, .int x_1), (2, .int x_2), (3, .int x_3)]) C (dX12_isLawful 29 rfl) 4 rfl (by rfl) (by decide) rfl ?_
  refine z_goto (pc := 56) (tgt := 13) C (dX12_isLawful 30 rfl) (by decide) ?_
  refine z_sub [1, 2, 3, 4, 0] rfl ?_
  exact R13 (x_4 + 1) m H
def wX12_isLawful_L13 (t : zT) (a_0 : Nat) (x_1 : Int32) (x_2 : Int32) (x_3 : Int32) (Q : Int32 → zM → Prop) (k59 : zM → Prop) : Nat → Int32 → zM → Prop
  | 0, _, _ => False
  | n + 1, x_4, m => (tK t a_0 = 12 ∧ (tK t (gR m a_0 3) = 11 ∧ (((gI m (gR m a_0 3) 2) ≤ x_4 → (k59 m)) ∧ (¬ (gI m (gR m a_0 3) 2) ≤ x_4 → (tK t (gR m (gR m a_0 3) 12) = 14 ∧ (vp_in x_4 (tL t (gR m (gR m a_0 3) 12)) ∧ (((gI m (gR m (gR m a_0 3) 12) x_4.toNatClampNeg) = 2 → (wX12_isLawful_J53 t m a_0 x_1 x_2 x_3 x_4 Q (wX12_isLawful_L13 t a_0 x_1 x_2 x_3 Q k59 n))) ∧ (¬ (gI m (gR m (gR m a_0 3) 12) x_4.toNatClampNeg) = 2 → (wX12_isLawfulMaster t m a_0 x_1 x_4 x_2 x_3 (fun r11 m12 => ((r11 = 0 → (Q 0 m12)) ∧ (¬ r11 = 0 → (wX12_isLawful_J53 t m12 a_0 x_1 x_2 x_3 x_4 Q (wX12_isLawful_L13 t a_0 x_1 x_2 x_3 Q k59 n))))))))))))))
set_option maxHeartbeats 4000000 in
set_option maxRecDepth 20000 in
theorem sX12_isLawful_L13 {p : Program} {l : Launch} {e : Env} {s : State} {mt : MethodId} {args : Array Value} {below : List Frame} {meth : Method} {c : Code} {g : zG} {u : Nat × Nat} {mc ms : Nat} {t : zT} {a_0 : Nat} {x_1 : Int32} {x_2 : Int32} {x_3 : Int32} {Q : Int32 → zM → Prop} {k59 : zM → Prop} (C : zC p (zRm 3 mc ms) s mt args meth c g cX12_isLawful 5 yX12_isLawful.cls 3) (hr : meth.sig.returnType = (some .boolean)) (hm : meth.name = yX12_isLawful.name) (hu1 : u.1 ≤ mc) (hu2 : u.2 ≤ ms)
    (K59 : ∀ (m : zM), k59 m → zW p l e (zRm 3 mc ms) s mt args below meth c g (MQ below (zQc g (zPi t Q)) args s mc ms (zFar g)) u 5 t m 59 [(0, .ref a_0), (1, .int x_1), (2, .int x_2), (3, .int x_3)] []) : ∀ (n : Nat) (x_4 : Int32) (m : zM), wX12_isLawful_L13 t a_0 x_1 x_2 x_3 Q k59 n x_4 m → zW p l e (zRm 3 mc ms) s mt args below meth c g (MQ below (zQc g (zPi t Q)) args s mc ms (zFar g)) u 5 t m 13 [(0, .ref a_0), (1, .int x_1), (2, .int x_2), (3, .int x_3), (4, .int x_4)] [] := by
  intro n
  induction n with
  | zero => intro x_4 m H; exact H.elim
  | succ n ih =>
    intro x_4 m H
    simp only [wX12_isLawful_L13] at H
    refine z_iload (pc := 13) C (dX12_isLawful 8 rfl) 4 rfl ?_
    refine z_aload_n (pc := 15) C (dX12_isLawful 9 rfl) rfl 0 rfl ?_
    obtain ⟨h5, H⟩ := H
    refine z_getR (pc := 16) C zc12 h5 3 (by decide) rfl wf_X12_314 (dX12_isLawful 10 rfl) ?_
    obtain ⟨h6, H⟩ := H
    refine z_getIN (pc := 19) C zc11 h6 2 (by decide) rfl wn_X12_246 (dX12_isLawful 11 rfl) ?_
    refine z_icmp_ge (pc := 22) (tgt := 59) C (dX12_isLawful 12 rfl) (by decide) (fun c7 => ?_) (fun c7 => ?_)
    · replace H := H.1 c7
      refine z_sub [0, 1, 2, 3] rfl ?_
      exact K59 m H
    · replace H := H.2 c7
      refine z_aload_n (pc := 25) C (dX12_isLawful 13 rfl) rfl 0 rfl ?_
      refine z_getR (pc := 26) C zc12 h5 3 (by decide) rfl wf_X12_314 (dX12_isLawful 14 rfl) ?_
      refine z_getRN (pc := 29) C zc11 h6 12 (by decide) rfl wn_X12_260 (dX12_isLawful 15 rfl) ?_
      refine z_iload (pc := 32) C (dX12_isLawful 16 rfl) 4 rfl ?_
      obtain ⟨h8, H⟩ := H
      obtain ⟨h9, H⟩ := H
      refine z_iaload (pc := 34) C h8 h9 (dX12_isLawful 17 rfl) ?_
      refine z_iconst (pc := 35) (v := 2) C (dX12_isLawful 18 rfl) (by decide) ?_
      refine z_icmp_eq (pc := 36) (tgt := 53) C (dX12_isLawful 19 rfl) (by decide) (fun c10 => ?_) (fun c10 => ?_)
      · replace H := H.1 c10
        refine z_sub [0, 1, 2, 3, 4] rfl ?_
        exact sX12_isLawful_J53 C hr hm hu1 hu2 ih H
      · replace H := H.2 c10
        refine z_aload_n (pc := 39) C (dX12_isLawful 20 rfl) rfl 0 rfl ?_
        refine z_iload_n (pc := 40) C (dX12_isLawful 21 rfl) rfl 1 rfl ?_
        refine z_iload (pc := 41) C (dX12_isLawful 22 rfl) 4 rfl ?_
        refine z_iload_n (pc := 43) C (dX12_isLawful 23 rfl) rfl 2 rfl ?_
        refine z_iload_n (pc := 44) C (dX12_isLawful 24 rfl) rfl 3 rfl ?_
        refine zc_Vi (pc := 45) (rest := []) C YX12_isLawfulMaster wl_X12_332 (kX12_isLawfulMaster H) (by decide) h5 rfl (by decide) (dX12_isLawful 25 rfl) rfl hu1 hu2 (Nat.le_of_ble_eq_true rfl) rfl (fun r11 m12 H => ?_)
        refine z_if_ne (pc := 48) (tgt := 53) C (dX12_isLawful 26 rfl) (by decide) (fun c13 => ?_) (fun c13 => ?_)
        · replace H := H.2 c13
          refine z_sub [0, 1, 2, 3, 4] rfl ?_
          exact sX12_isLawful_J53 C hr hm hu1 hu2 ih H
        · replace H := H.1 c13
          refine z_iconst (pc := 51) (v := 0) C (dX12_isLawful 27 rfl) (by decide) ?_
          exact z_zret (pc := 52) C hr (by decide) hu1 hu2 (dX12_isLawful 28 rfl) ⟨rfl, _, rfl, H⟩
def wX12_isLawful_L62 (t : zT) (a_0 : Nat) (x_1 : Int32) (x_2 : Int32) (x_3 : Int32) (Q : Int32 → zM → Prop) (k99 : zM → Prop) : Nat → Int32 → zM → Prop
  | 0, _, _ => False
  | n + 1, x_4, m => (tK t a_0 = 12 ∧ (tK t (gR m a_0 3) = 11 ∧ (((gI m (gR m a_0 3) 0) ≤ x_4 → (k99 m)) ∧ (¬ (gI m (gR m a_0 3) 0) ≤ x_4 → (((x_3 &&& (1 : Int32)) = 0 → (k99 m)) ∧ (¬ (x_3 &&& (1 : Int32)) = 0 → (wX12_isPaired t m a_0 x_1 x_4 x_2 (fun r19 m20 => ((r19 = 0 → (Q 0 m20)) ∧ (¬ r19 = 0 → (wX12_isLawful_L62 t a_0 x_1 x_2 x_3 Q k99 n (x_4 + 1) m20)))))))))))
set_option maxHeartbeats 4000000 in
set_option maxRecDepth 20000 in
theorem sX12_isLawful_L62 {p : Program} {l : Launch} {e : Env} {s : State} {mt : MethodId} {args : Array Value} {below : List Frame} {meth : Method} {c : Code} {g : zG} {u : Nat × Nat} {mc ms : Nat} {t : zT} {a_0 : Nat} {x_1 : Int32} {x_2 : Int32} {x_3 : Int32} {Q : Int32 → zM → Prop} {k99 : zM → Prop} (C : zC p (zRm 3 mc ms) s mt args meth c g cX12_isLawful 5 yX12_isLawful.cls 3) (hr : meth.sig.returnType = (some .boolean)) (hm : meth.name = yX12_isLawful.name) (hu1 : u.1 ≤ mc) (hu2 : u.2 ≤ ms)
    (K99 : ∀ (m : zM), k99 m → zW p l e (zRm 3 mc ms) s mt args below meth c g (MQ below (zQc g (zPi t Q)) args s mc ms (zFar g)) u 5 t m 99 [] []) : ∀ (n : Nat) (x_4 : Int32) (m : zM), wX12_isLawful_L62 t a_0 x_1 x_2 x_3 Q k99 n x_4 m → zW p l e (zRm 3 mc ms) s mt args below meth c g (MQ below (zQc g (zPi t Q)) args s mc ms (zFar g)) u 5 t m 62 [(0, .ref a_0), (1, .int x_1), (2, .int x_2), (3, .int x_3), (4, .int x_4)] [] := by
  intro n
  induction n with
  | zero => intro x_4 m H; exact H.elim
  | succ n ih =>
    intro x_4 m H
    simp only [wX12_isLawful_L62] at H
    refine z_iload (pc := 62) C (dX12_isLawful 33 rfl) 4 rfl ?_
    refine z_aload_n (pc := 64) C (dX12_isLawful 34 rfl) rfl 0 rfl ?_
    obtain ⟨h15, H⟩ := H
    refine z_getR (pc := 65) C zc12 h15 3 (by decide) rfl wf_X12_314 (dX12_isLawful 35 rfl) ?_
    obtain ⟨h16, H⟩ := H
    refine z_getIN (pc := 68) C zc11 h16 0 (by decide) rfl wn_X12_180 (dX12_isLawful 36 rfl) ?_
    refine z_icmp_ge (pc := 71) (tgt := 99) C (dX12_isLawful 37 rfl) (by decide) (fun c17 => ?_) (fun c17 => ?_)
    · replace H := H.1 c17
      refine z_sub [] rfl ?_
      exact K99 m H
    · replace H := H.2 c17
      refine z_iload_n (pc := 74) C (dX12_isLawful 38 rfl) rfl 3 rfl ?_
      refine z_iconst (pc := 75) (v := 1) C (dX12_isLawful 39 rfl) (by decide) ?_
      refine z_iand (pc := 76) C (dX12_isLawful 40 rfl) ?_
      refine z_if_eq (pc := 77) (tgt := 99) C (dX12_isLawful 41 rfl) (by decide) (fun c18 => ?_) (fun c18 => ?_)
      · replace H := H.1 c18
        refine z_sub [] rfl ?_
        exact K99 m H
      · replace H := H.2 c18
        refine z_aload_n (pc := 80) C (dX12_isLawful 42 rfl) rfl 0 rfl ?_
        refine z_iload_n (pc := 81) C (dX12_isLawful 43 rfl) rfl 1 rfl ?_
        refine z_iload (pc := 82) C (dX12_isLawful 44 rfl) 4 rfl ?_
        refine z_iload_n (pc := 84) C (dX12_isLawful 45 rfl) rfl 2 rfl ?_
        refine zc_Vi (pc := 85) (rest := []) C YX12_isPaired wl_X12_336 (kX12_isPaired H) (by decide) h15 rfl (by decide) (dX12_isLawful 46 rfl) rfl hu1 hu2 (Nat.le_of_ble_eq_true rfl) rfl (fun r19 m20 H => ?_)
        refine z_if_ne (pc := 88) (tgt := 93) C (dX12_isLawful 47 rfl) (by decide) (fun c21 => ?_) (fun c21 => ?_)
        · replace H := H.2 c21
          refine z_iinc (pc := 93) (i := 4) (v := x_4 + 1) (lv2 := [(4, .int (x_4 + 1)), (0, .ref a_0), (1, .int x_1), (2, .int x_2), (3, .int x_3)]) C (dX12_isLawful 50 rfl) 4 rfl (by rfl) (by decide) rfl ?_
          refine z_goto (pc := 96) (tgt := 62) C (dX12_isLawful 51 rfl) (by decide) ?_
          refine z_sub [1, 2, 3, 4, 0] rfl ?_
          exact ih (x_4 + 1) m20 H
        · replace H := H.1 c21
          refine z_iconst (pc := 91) (v := 0) C (dX12_isLawful 48 rfl) (by decide) ?_
          exact z_zret (pc := 92) C hr (by decide) hu1 hu2 (dX12_isLawful 49 rfl) ⟨rfl, _, rfl, H⟩
def wX12_isLawful (t : zT) (m : zM) (a : Nat) (p1 : Int32) (p2 : Int32) (p3 : Int32) (Q : Int32 → zM → Prop) : Prop := (tK t a = 12 ∧ (wX12_isFollowed t m a p1 (fun r2 m3 => ((r2 = 0 → (Q 0 m3)) ∧ (¬ r2 = 0 → (∃ n24, wX12_isLawful_L13 t a p1 p2 p3 Q (fun m14 => (∃ n23, wX12_isLawful_L62 t a p1 p2 p3 Q (fun m22 => (Q 1 m22)) n23 0 m14)) n24 0 m3))))))
set_option maxHeartbeats 4000000 in
set_option maxRecDepth 20000 in
theorem kX12_isLawful {l : Launch} {t : zT} {m : zM} {a : Nat} {p1 : Int32} {p2 : Int32} {p3 : Int32} {Q : Int32 → zM → Prop} (H : wX12_isLawful t m a p1 p2 p3 Q) : zMet l yX12_isLawful cX12_isLawful 5 (some .boolean) 3 0 0 t m [.ref a, .int p1, .int p2, .int p3] (zPi t Q) := by
  refine zmet (by decide +kernel) (Nat.le_of_ble_eq_true rfl) ?_
  intro p e s mt args below meth c g C hr hm
  unfold wX12_isLawful at H
  have hu1 : ((0, 0) : Nat × Nat).1 ≤ 0 := Nat.le_refl 0
  have hu2 : ((0, 0) : Nat × Nat).2 ≤ 0 := Nat.le_refl 0
  refine z_aload_n (pc := 0) C (dX12_isLawful 0 rfl) rfl 0 rfl ?_
  refine z_iload_n (pc := 1) C (dX12_isLawful 1 rfl) rfl 1 rfl ?_
  obtain ⟨h1, H⟩ := H
  refine zc_Vi (pc := 2) (rest := []) C YX12_isFollowed wl_X12_329 (kX12_isFollowed H) (by decide) h1 rfl (by decide) (dX12_isLawful 2 rfl) rfl hu1 hu2 (Nat.le_of_ble_eq_true rfl) rfl (fun r2 m3 H => ?_)
  refine z_if_ne (pc := 5) (tgt := 10) C (dX12_isLawful 3 rfl) (by decide) (fun c4 => ?_) (fun c4 => ?_)
  · replace H := H.2 c4
    refine z_iconst (pc := 10) (v := 0) C (dX12_isLawful 6 rfl) (by decide) ?_
    refine z_istore (pc := 11) (i := 4) (lv2 := [(4, .int 0), (0, .ref a), (1, .int p1), (2, .int p2), (3, .int p3)]) C (dX12_isLawful 7 rfl) (by decide) rfl ?_
    obtain ⟨n24, H⟩ := H
    refine z_sub [1, 2, 3, 4, 0] rfl ?_
    refine sX12_isLawful_L13 C hr hm hu1 hu2 (fun m14 H => ?_) n24 0 m3 H
    refine z_iconst (pc := 59) (v := 0) C (dX12_isLawful 31 rfl) (by decide) ?_
    refine z_istore (pc := 60) (i := 4) (lv2 := [(4, .int 0), (0, .ref a), (1, .int p1), (2, .int p2), (3, .int p3)]) C (dX12_isLawful 32 rfl) (by decide) rfl ?_
    obtain ⟨n23, H⟩ := H
    refine z_sub [1, 2, 3, 4, 0] rfl ?_
    refine sX12_isLawful_L62 C hr hm hu1 hu2 (fun m22 H => ?_) n23 0 m14 H
    refine z_iconst (pc := 99) (v := 1) C (dX12_isLawful 52 rfl) (by decide) ?_
    exact z_zret (pc := 100) C hr (by decide) hu1 hu2 (dX12_isLawful 53 rfl) ⟨rfl, _, rfl, H⟩
  · replace H := H.1 c4
    refine z_iconst (pc := 8) (v := 0) C (dX12_isLawful 4 rfl) (by decide) ?_
    exact z_zret (pc := 9) C hr (by decide) hu1 hu2 (dX12_isLawful 5 rfl) ⟨rfl, _, rfl, H⟩
def wX12_isFactual_J41 (t : zT) (m : zM) (a_0 : Nat) (x_1 : Int32) (x_2 : Int32) (Q : Int32 → zM → Prop) (r2 : Int32 → zM → Prop) : Prop := (r2 (x_2 + 1) m)
set_option maxHeartbeats 4000000 in
set_option maxRecDepth 20000 in
theorem sX12_isFactual_J41 {p : Program} {l : Launch} {e : Env} {s : State} {mt : MethodId} {args : Array Value} {below : List Frame} {meth : Method} {c : Code} {g : zG} {u : Nat × Nat} {mc ms : Nat} {t : zT} {m : zM} {a_0 : Nat} {x_1 : Int32} {x_2 : Int32} {Q : Int32 → zM → Prop} {r2 : Int32 → zM → Prop} (C : zC p (zRm 1 mc ms) s mt args meth c g cX12_isFactual 3 yX12_isFactual.cls 1) (hr : meth.sig.returnType = (some .boolean)) (hm : meth.name = yX12_isFactual.name) (hu1 : u.1 ≤ mc) (hu2 : u.2 ≤ ms)
    (R2 : ∀ (v0 : Int32) (m : zM), r2 v0 m → zW p l e (zRm 1 mc ms) s mt args below meth c g (MQ below (zQc g (zPi t Q)) args s mc ms (zFar g)) u 3 t m 2 [(0, .ref a_0), (1, .int x_1), (2, .int v0)] []) (H : wX12_isFactual_J41 t m a_0 x_1 x_2 Q r2) : zW p l e (zRm 1 mc ms) s mt args below meth c g (MQ below (zQc g (zPi t Q)) args s mc ms (zFar g)) u 3 t m 41 [(0, .ref a_0), (1, .int x_1), (2, .int x_2)] [] := by
  unfold wX12_isFactual_J41 at H
  refine z_iinc (pc := 41) (i := 2) (v := x_2 + 1) (lv2 := [(2, .int (x_2 + 1)), (0, .ref a_0), (1, .int x_1)]) C (dX12_isFactual 24 rfl) 2 rfl (by rfl) (by decide) rfl ?_
  refine z_goto (pc := 44) (tgt := 2) C (dX12_isFactual 25 rfl) (by decide) ?_
  refine z_sub [1, 2, 0] rfl ?_
  exact R2 (x_2 + 1) m H
def wX12_isFactual_L2 (t : zT) (a_0 : Nat) (x_1 : Int32) (Q : Int32 → zM → Prop) (k47 : zM → Prop) : Nat → Int32 → zM → Prop
  | 0, _, _ => False
  | n + 1, x_2, m => (tK t a_0 = 12 ∧ (tK t (gR m a_0 3) = 11 ∧ (((gI m (gR m a_0 3) 0) ≤ x_2 → (k47 m)) ∧ (¬ (gI m (gR m a_0 3) 0) ≤ x_2 → (tK t (gR m a_0 26) = 14 ∧ (vp_in x_2 (tL t (gR m a_0 26)) ∧ (((gI m (gR m a_0 26) x_2.toNatClampNeg) = (-2) → (wX12_isFactual_J41 t m a_0 x_1 x_2 Q (wX12_isFactual_L2 t a_0 x_1 Q k47 n))) ∧ (¬ (gI m (gR m a_0 26) x_2.toNatClampNeg) = (-2) → (wX12_answerOf t m a_0 x_1 x_2 (fun r7 m8 => (((gI m (gR m a_0 26) x_2.toNatClampNeg) = r7 → (wX12_isFactual_J41 t m8 a_0 x_1 x_2 Q (wX12_isFactual_L2 t a_0 x_1 Q k47 n))) ∧ (¬ (gI m (gR m a_0 26) x_2.toNatClampNeg) = r7 → (Q 0 m8)))))))))))))
set_option maxHeartbeats 4000000 in
set_option maxRecDepth 20000 in
theorem sX12_isFactual_L2 {p : Program} {l : Launch} {e : Env} {s : State} {mt : MethodId} {args : Array Value} {below : List Frame} {meth : Method} {c : Code} {g : zG} {u : Nat × Nat} {mc ms : Nat} {t : zT} {a_0 : Nat} {x_1 : Int32} {Q : Int32 → zM → Prop} {k47 : zM → Prop} (C : zC p (zRm 1 mc ms) s mt args meth c g cX12_isFactual 3 yX12_isFactual.cls 1) (hr : meth.sig.returnType = (some .boolean)) (hm : meth.name = yX12_isFactual.name) (hu1 : u.1 ≤ mc) (hu2 : u.2 ≤ ms)
    (K47 : ∀ (m : zM), k47 m → zW p l e (zRm 1 mc ms) s mt args below meth c g (MQ below (zQc g (zPi t Q)) args s mc ms (zFar g)) u 3 t m 47 [] []) : ∀ (n : Nat) (x_2 : Int32) (m : zM), wX12_isFactual_L2 t a_0 x_1 Q k47 n x_2 m → zW p l e (zRm 1 mc ms) s mt args below meth c g (MQ below (zQc g (zPi t Q)) args s mc ms (zFar g)) u 3 t m 2 [(0, .ref a_0), (1, .int x_1), (2, .int x_2)] [] := by
  intro n
  induction n with
  | zero => intro x_2 m H; exact H.elim
  | succ n ih =>
    intro x_2 m H
    simp only [wX12_isFactual_L2] at H
    refine z_iload_n (pc := 2) C (dX12_isFactual 2 rfl) rfl 2 rfl ?_
    refine z_aload_n (pc := 3) C (dX12_isFactual 3 rfl) rfl 0 rfl ?_
    obtain ⟨h1, H⟩ := H
    refine z_getR (pc := 4) C zc12 h1 3 (by decide) rfl wf_X12_314 (dX12_isFactual 4 rfl) ?_
    obtain ⟨h2, H⟩ := H
    refine z_getIN (pc := 7) C zc11 h2 0 (by decide) rfl wn_X12_180 (dX12_isFactual 5 rfl) ?_
    refine z_icmp_ge (pc := 10) (tgt := 47) C (dX12_isFactual 6 rfl) (by decide) (fun c3 => ?_) (fun c3 => ?_)
    · replace H := H.1 c3
      refine z_sub [] rfl ?_
      exact K47 m H
    · replace H := H.2 c3
      refine z_aload_n (pc := 13) C (dX12_isFactual 7 rfl) rfl 0 rfl ?_
      refine z_getR (pc := 14) C zc12 h1 26 (by decide) rfl wf_X12_35 (dX12_isFactual 8 rfl) ?_
      refine z_iload_n (pc := 17) C (dX12_isFactual 9 rfl) rfl 2 rfl ?_
      obtain ⟨h4, H⟩ := H
      obtain ⟨h5, H⟩ := H
      refine z_iaload (pc := 18) C h4 h5 (dX12_isFactual 10 rfl) ?_
      refine z_bipush (pc := 19) (v := (-2)) C (dX12_isFactual 11 rfl) (by decide) ?_
      refine z_icmp_eq (pc := 21) (tgt := 41) C (dX12_isFactual 12 rfl) (by decide) (fun c6 => ?_) (fun c6 => ?_)
      · replace H := H.1 c6
        refine z_sub [0, 1, 2] rfl ?_
        exact sX12_isFactual_J41 C hr hm hu1 hu2 ih H
      · replace H := H.2 c6
        refine z_aload_n (pc := 24) C (dX12_isFactual 13 rfl) rfl 0 rfl ?_
        refine z_getR (pc := 25) C zc12 h1 26 (by decide) rfl wf_X12_35 (dX12_isFactual 14 rfl) ?_
        refine z_iload_n (pc := 28) C (dX12_isFactual 15 rfl) rfl 2 rfl ?_
        refine z_iaload (pc := 29) C h4 h5 (dX12_isFactual 16 rfl) ?_
        refine z_aload_n (pc := 30) C (dX12_isFactual 17 rfl) rfl 0 rfl ?_
        refine z_iload_n (pc := 31) C (dX12_isFactual 18 rfl) rfl 1 rfl ?_
        refine z_iload_n (pc := 32) C (dX12_isFactual 19 rfl) rfl 2 rfl ?_
        refine zc_Vi (pc := 33) (rest := [.int (gI m (gR m a_0 26) x_2.toNatClampNeg)]) C YX12_answerOf wl_X12_320 (kX12_answerOf H) (by decide) h1 rfl (by decide) (dX12_isFactual 20 rfl) rfl hu1 hu2 (Nat.le_of_ble_eq_true rfl) rfl (fun r7 m8 H => ?_)
        refine z_icmp_eq (pc := 36) (tgt := 41) C (dX12_isFactual 21 rfl) (by decide) (fun c9 => ?_) (fun c9 => ?_)
        · replace H := H.1 c9
          refine z_sub [0, 1, 2] rfl ?_
          exact sX12_isFactual_J41 C hr hm hu1 hu2 ih H
        · replace H := H.2 c9
          refine z_iconst (pc := 39) (v := 0) C (dX12_isFactual 22 rfl) (by decide) ?_
          exact z_zret (pc := 40) C hr (by decide) hu1 hu2 (dX12_isFactual 23 rfl) ⟨rfl, _, rfl, H⟩
def wX12_isFactual (t : zT) (m : zM) (a : Nat) (p1 : Int32) (Q : Int32 → zM → Prop) : Prop := (∃ n11, wX12_isFactual_L2 t a p1 Q (fun m10 => (Q 1 m10)) n11 0 m)
set_option maxHeartbeats 4000000 in
set_option maxRecDepth 20000 in
theorem kX12_isFactual {l : Launch} {t : zT} {m : zM} {a : Nat} {p1 : Int32} {Q : Int32 → zM → Prop} (H : wX12_isFactual t m a p1 Q) : zMet l yX12_isFactual cX12_isFactual 3 (some .boolean) 1 0 0 t m [.ref a, .int p1] (zPi t Q) := by
  refine zmet (by decide +kernel) (Nat.le_of_ble_eq_true rfl) ?_
  intro p e s mt args below meth c g C hr hm
  unfold wX12_isFactual at H
  have hu1 : ((0, 0) : Nat × Nat).1 ≤ 0 := Nat.le_refl 0
  have hu2 : ((0, 0) : Nat × Nat).2 ≤ 0 := Nat.le_refl 0
  refine z_iconst (pc := 0) (v := 0) C (dX12_isFactual 0 rfl) (by decide) ?_
  refine z_istore_n (pc := 1) (i := 2) (lv2 := [(2, .int 0), (0, .ref a), (1, .int p1)]) C (dX12_isFactual 1 rfl) rfl (by decide) rfl ?_
  obtain ⟨n11, H⟩ := H
  refine z_sub [1, 2, 0] rfl ?_
  refine sX12_isFactual_L2 C hr hm hu1 hu2 (fun m10 H => ?_) n11 0 m H
  refine z_iconst (pc := 47) (v := 1) C (dX12_isFactual 26 rfl) (by decide) ?_
  exact z_zret (pc := 48) C hr (by decide) hu1 hu2 (dX12_isFactual 27 rfl) ⟨rfl, _, rfl, H⟩
def wX12_asks_L8 (t : zT) (a_0 : Nat) (x_1 : Int32) (x_2 : Int32) (x_3 : Int32) (Q : zM → Prop) (k32 : zM → Prop) : Nat → Int32 → zM → Prop
  | 0, _, _ => False
  | n + 1, x_4, m => (tK t a_0 = 12 ∧ (tK t (gR m a_0 18) = 14 ∧ (((Int32.ofNat (tL t (gR m a_0 18))) ≤ x_4 → (k32 m)) ∧ (¬ (Int32.ofNat (tL t (gR m a_0 18))) ≤ x_4 → (vp_in x_4 (tL t (gR m a_0 18)) ∧ (wX12_asks_L8 t a_0 x_1 x_2 x_3 Q k32 n (x_4 + 1) (pI m (gR m a_0 18) x_4.toNatClampNeg 0)))))))
set_option maxHeartbeats 4000000 in
set_option maxRecDepth 20000 in
theorem sX12_asks_L8 {p : Program} {l : Launch} {e : Env} {s : State} {mt : MethodId} {args : Array Value} {below : List Frame} {meth : Method} {c : Code} {g : zG} {u : Nat × Nat} {mc ms : Nat} {t : zT} {a_0 : Nat} {x_1 : Int32} {x_2 : Int32} {x_3 : Int32} {Q : zM → Prop} {k32 : zM → Prop} (C : zC p (zRm 4 mc ms) s mt args meth c g cX12_asks 6 yX12_asks.cls 4) (hr : meth.sig.returnType = none) (hm : meth.name = yX12_asks.name) (hu1 : u.1 ≤ mc) (hu2 : u.2 ≤ ms)
    (K32 : ∀ (m : zM), k32 m → zW p l e (zRm 4 mc ms) s mt args below meth c g (MQ below (zQc g (zPv t Q)) args s mc ms (zFar g)) u 6 t m 32 [(0, .ref a_0), (1, .int x_1), (2, .int x_2), (3, .int x_3)] []) : ∀ (n : Nat) (x_4 : Int32) (m : zM), wX12_asks_L8 t a_0 x_1 x_2 x_3 Q k32 n x_4 m → zW p l e (zRm 4 mc ms) s mt args below meth c g (MQ below (zQc g (zPv t Q)) args s mc ms (zFar g)) u 6 t m 8 [(0, .ref a_0), (1, .int x_1), (2, .int x_2), (3, .int x_3), (4, .int x_4)] [] := by
  intro n
  induction n with
  | zero => intro x_4 m H; exact H.elim
  | succ n ih =>
    intro x_4 m H
    simp only [wX12_asks_L8] at H
    refine z_iload (pc := 8) C (dX12_asks 5 rfl) 4 rfl ?_
    refine z_aload_n (pc := 10) C (dX12_asks 6 rfl) rfl 0 rfl ?_
    obtain ⟨h2, H⟩ := H
    refine z_getR (pc := 11) C zc12 h2 18 (by decide) rfl wf_X12_25 (dX12_asks 7 rfl) ?_
    obtain ⟨h3, H⟩ := H
    refine z_alen (pc := 14) C h3 (by decide) (by decide) (dX12_asks 8 rfl) ?_
    refine z_icmp_ge (pc := 15) (tgt := 32) C (dX12_asks 9 rfl) (by decide) (fun c4 => ?_) (fun c4 => ?_)
    · replace H := H.1 c4
      refine z_sub [0, 1, 2, 3] rfl ?_
      exact K32 m H
    · replace H := H.2 c4
      refine z_aload_n (pc := 18) C (dX12_asks 10 rfl) rfl 0 rfl ?_
      refine z_getR (pc := 19) C zc12 h2 18 (by decide) rfl wf_X12_25 (dX12_asks 11 rfl) ?_
      refine z_iload (pc := 22) C (dX12_asks 12 rfl) 4 rfl ?_
      refine z_iconst (pc := 24) (v := 0) C (dX12_asks 13 rfl) (by decide) ?_
      obtain ⟨h5, H⟩ := H
      refine z_iastore (pc := 25) C h3 h5 (dX12_asks 14 rfl) ?_
      refine z_iinc (pc := 26) (i := 4) (v := x_4 + 1) (lv2 := [(4, .int (x_4 + 1)), (0, .ref a_0), (1, .int x_1), (2, .int x_2), (3, .int x_3)]) C (dX12_asks 15 rfl) 4 rfl (by rfl) (by decide) rfl ?_
      refine z_goto (pc := 29) (tgt := 8) C (dX12_asks 16 rfl) (by decide) ?_
      refine z_sub [1, 2, 3, 4, 0] rfl ?_
      exact ih (x_4 + 1) (pI m (gR m a_0 18) x_4.toNatClampNeg 0) H
def wX12_asks_L109 (t : zT) (a_0 : Nat) (x_1 : Int32) (x_2 : Int32) (x_3 : Int32) (x_4 : Int32) (Q : zM → Prop) (k149 : zM → Prop) : Nat → Int32 → zM → Prop
  | 0, _, _ => False
  | n + 1, x_5, m => (tK t a_0 = 12 ∧ (tK t (gR m a_0 3) = 11 ∧ (((gI m (gR m a_0 3) 0) ≤ x_5 → (k149 m)) ∧ (¬ (gI m (gR m a_0 3) 0) ≤ x_5 → (wX12_answerOf t m a_0 x_4 x_5 (fun r22 m23 => (tK t (gR m a_0 18) = 14 ∧ (vp_in (((4 : Int32) * x_5) + r22) (tL t (gR m a_0 18)) ∧ (wX12_asks_L109 t a_0 x_1 x_2 x_3 x_4 Q k149 n (x_5 + 1) (pI m23 (gR m a_0 18) ((((4 : Int32) * x_5) + r22).toNatClampNeg) ((gI m23 (gR m a_0 18) ((((4 : Int32) * x_5) + r22).toNatClampNeg)) + (1 : Int32))))))))))))
set_option maxHeartbeats 4000000 in
set_option maxRecDepth 20000 in
theorem sX12_asks_L109 {p : Program} {l : Launch} {e : Env} {s : State} {mt : MethodId} {args : Array Value} {below : List Frame} {meth : Method} {c : Code} {g : zG} {u : Nat × Nat} {mc ms : Nat} {t : zT} {a_0 : Nat} {x_1 : Int32} {x_2 : Int32} {x_3 : Int32} {x_4 : Int32} {Q : zM → Prop} {k149 : zM → Prop} (C : zC p (zRm 4 mc ms) s mt args meth c g cX12_asks 6 yX12_asks.cls 4) (hr : meth.sig.returnType = none) (hm : meth.name = yX12_asks.name) (hu1 : u.1 ≤ mc) (hu2 : u.2 ≤ ms)
    (K149 : ∀ (m : zM), k149 m → zW p l e (zRm 4 mc ms) s mt args below meth c g (MQ below (zQc g (zPv t Q)) args s mc ms (zFar g)) u 6 t m 149 [(0, .ref a_0), (1, .int x_1), (2, .int x_2), (3, .int x_3), (4, .int x_4)] []) : ∀ (n : Nat) (x_5 : Int32) (m : zM), wX12_asks_L109 t a_0 x_1 x_2 x_3 x_4 Q k149 n x_5 m → zW p l e (zRm 4 mc ms) s mt args below meth c g (MQ below (zQc g (zPv t Q)) args s mc ms (zFar g)) u 6 t m 109 [(0, .ref a_0), (1, .int x_1), (2, .int x_2), (3, .int x_3), (4, .int x_4), (5, .int x_5)] [] := by
  intro n
  induction n with
  | zero => intro x_5 m H; exact H.elim
  | succ n ih =>
    intro x_5 m H
    simp only [wX12_asks_L109] at H
    refine z_iload (pc := 109) C (dX12_asks 57 rfl) 5 rfl ?_
    refine z_aload_n (pc := 111) C (dX12_asks 58 rfl) rfl 0 rfl ?_
    obtain ⟨h19, H⟩ := H
    refine z_getR (pc := 112) C zc12 h19 3 (by decide) rfl wf_X12_314 (dX12_asks 59 rfl) ?_
    obtain ⟨h20, H⟩ := H
    refine z_getIN (pc := 115) C zc11 h20 0 (by decide) rfl wn_X12_180 (dX12_asks 60 rfl) ?_
    refine z_icmp_ge (pc := 118) (tgt := 149) C (dX12_asks 61 rfl) (by decide) (fun c21 => ?_) (fun c21 => ?_)
    · replace H := H.1 c21
      refine z_sub [0, 1, 2, 3, 4] rfl ?_
      exact K149 m H
    · replace H := H.2 c21
      refine z_aload_n (pc := 121) C (dX12_asks 62 rfl) rfl 0 rfl ?_
      refine z_getR (pc := 122) C zc12 h19 18 (by decide) rfl wf_X12_25 (dX12_asks 63 rfl) ?_
      refine z_iconst (pc := 125) (v := 4) C (dX12_asks 64 rfl) (by decide) ?_
      refine z_iload (pc := 126) C (dX12_asks 65 rfl) 5 rfl ?_
      refine z_imul (pc := 128) C (dX12_asks 66 rfl) ?_
      refine z_aload_n (pc := 129) C (dX12_asks 67 rfl) rfl 0 rfl ?_
      refine z_iload (pc := 130) C (dX12_asks 68 rfl) 4 rfl ?_
      refine z_iload (pc := 132) C (dX12_asks 69 rfl) 5 rfl ?_
      refine zc_Vi (pc := 134) (rest := [.int ((4 : Int32) * x_5), .ref (gR m a_0 18)]) C YX12_answerOf wl_X12_320 (kX12_answerOf H) (by decide) h19 rfl (by decide) (dX12_asks 70 rfl) rfl hu1 hu2 (Nat.le_of_ble_eq_true rfl) rfl (fun r22 m23 H => ?_)
      refine z_iadd (pc := 137) C (dX12_asks 71 rfl) ?_
      refine z_dup2_11 (pc := 138) C (dX12_asks 72 rfl) rfl rfl ?_
      obtain ⟨h24, H⟩ := H
      obtain ⟨h25, H⟩ := H
      refine z_iaload (pc := 139) C h24 h25 (dX12_asks 73 rfl) ?_
      refine z_iconst (pc := 140) (v := 1) C (dX12_asks 74 rfl) (by decide) ?_
      refine z_iadd (pc := 141) C (dX12_asks 75 rfl) ?_
      refine z_iastore (pc := 142) C h24 h25 (dX12_asks 76 rfl) ?_
      refine z_iinc (pc := 143) (i := 5) (v := x_5 + 1) (lv2 := [(5, .int (x_5 + 1)), (0, .ref a_0), (1, .int x_1), (2, .int x_2), (3, .int x_3), (4, .int x_4)]) C (dX12_asks 77 rfl) 5 rfl (by rfl) (by decide) rfl ?_
      refine z_goto (pc := 146) (tgt := 109) C (dX12_asks 78 rfl) (by decide) ?_
      refine z_sub [1, 2, 3, 4, 5, 0] rfl ?_
      exact ih (x_5 + 1) (pI m23 (gR m a_0 18) ((((4 : Int32) * x_5) + r22).toNatClampNeg) ((gI m23 (gR m a_0 18) ((((4 : Int32) * x_5) + r22).toNatClampNeg)) + (1 : Int32))) H
def wX12_asks_J149 (t : zT) (m : zM) (a_0 : Nat) (x_1 : Int32) (x_2 : Int32) (x_3 : Int32) (x_4 : Int32) (Q : zM → Prop) (r35 : Int32 → zM → Prop) : Prop := (r35 (x_4 + 1) m)
set_option maxHeartbeats 4000000 in
set_option maxRecDepth 20000 in
theorem sX12_asks_J149 {p : Program} {l : Launch} {e : Env} {s : State} {mt : MethodId} {args : Array Value} {below : List Frame} {meth : Method} {c : Code} {g : zG} {u : Nat × Nat} {mc ms : Nat} {t : zT} {m : zM} {a_0 : Nat} {x_1 : Int32} {x_2 : Int32} {x_3 : Int32} {x_4 : Int32} {Q : zM → Prop} {r35 : Int32 → zM → Prop} (C : zC p (zRm 4 mc ms) s mt args meth c g cX12_asks 6 yX12_asks.cls 4) (hr : meth.sig.returnType = none) (hm : meth.name = yX12_asks.name) (hu1 : u.1 ≤ mc) (hu2 : u.2 ≤ ms)
    (R35 : ∀ (v0 : Int32) (m : zM), r35 v0 m → zW p l e (zRm 4 mc ms) s mt args below meth c g (MQ below (zQc g (zPv t Q)) args s mc ms (zFar g)) u 6 t m 35 [(0, .ref a_0), (1, .int x_1), (2, .int x_2), (3, .int x_3), (4, .int v0)] []) (H : wX12_asks_J149 t m a_0 x_1 x_2 x_3 x_4 Q r35) : zW p l e (zRm 4 mc ms) s mt args below meth c g (MQ below (zQc g (zPv t Q)) args s mc ms (zFar g)) u 6 t m 149 [(0, .ref a_0), (1, .int x_1), (2, .int x_2), (3, .int x_3), (4, .int x_4)] [] := by
  unfold wX12_asks_J149 at H
  refine z_iinc (pc := 149) (i := 4) (v := x_4 + 1) (lv2 := [(4, .int (x_4 + 1)), (0, .ref a_0), (1, .int x_1), (2, .int x_2), (3, .int x_3)]) C (dX12_asks 79 rfl) 4 rfl (by rfl) (by decide) rfl ?_
  refine z_goto (pc := 152) (tgt := 35) C (dX12_asks 80 rfl) (by decide) ?_
  refine z_sub [1, 2, 3, 4, 0] rfl ?_
  exact R35 (x_4 + 1) m H
def wX12_asks_J82 (t : zT) (m : zM) (a_0 : Nat) (x_1 : Int32) (x_2 : Int32) (x_3 : Int32) (x_4 : Int32) (s_0 : Int32) (s_1 : Int32) (s_2 : Nat) (Q : zM → Prop) (r35 : Int32 → zM → Prop) : Prop := (tK t s_2 = 16 ∧ (vp_in s_1 (tL t s_2) ∧ (tK t a_0 = 12 ∧ (tK t (gR m a_0 17) = 16 ∧ (vp_in x_4 (tL t (gR m a_0 17)) ∧ (((gI (pI m s_2 s_1.toNatClampNeg (s_0 &&& 1)) (gR m a_0 17) x_4.toNatClampNeg) = 0 → (wX12_asks_J149 t (pI m s_2 s_1.toNatClampNeg (s_0 &&& 1)) a_0 x_1 x_2 x_3 x_4 Q r35)) ∧ (¬ (gI (pI m s_2 s_1.toNatClampNeg (s_0 &&& 1)) (gR m a_0 17) x_4.toNatClampNeg) = 0 → (∃ n27, wX12_asks_L109 t a_0 x_1 x_2 x_3 x_4 Q (fun m26 => (wX12_asks_J149 t m26 a_0 x_1 x_2 x_3 x_4 Q r35)) n27 0 (pI (pI m s_2 s_1.toNatClampNeg (s_0 &&& 1)) a_0 19 ((gI (pI m s_2 s_1.toNatClampNeg (s_0 &&& 1)) a_0 19) + (1 : Int32)))))))))))
set_option maxHeartbeats 4000000 in
set_option maxRecDepth 20000 in
theorem sX12_asks_J82 {p : Program} {l : Launch} {e : Env} {s : State} {mt : MethodId} {args : Array Value} {below : List Frame} {meth : Method} {c : Code} {g : zG} {u : Nat × Nat} {mc ms : Nat} {t : zT} {m : zM} {a_0 : Nat} {x_1 : Int32} {x_2 : Int32} {x_3 : Int32} {x_4 : Int32} {s_0 : Int32} {s_1 : Int32} {s_2 : Nat} {Q : zM → Prop} {r35 : Int32 → zM → Prop} (C : zC p (zRm 4 mc ms) s mt args meth c g cX12_asks 6 yX12_asks.cls 4) (hr : meth.sig.returnType = none) (hm : meth.name = yX12_asks.name) (hu1 : u.1 ≤ mc) (hu2 : u.2 ≤ ms)
    (R35 : ∀ (v0 : Int32) (m : zM), r35 v0 m → zW p l e (zRm 4 mc ms) s mt args below meth c g (MQ below (zQc g (zPv t Q)) args s mc ms (zFar g)) u 6 t m 35 [(0, .ref a_0), (1, .int x_1), (2, .int x_2), (3, .int x_3), (4, .int v0)] []) (H : wX12_asks_J82 t m a_0 x_1 x_2 x_3 x_4 s_0 s_1 s_2 Q r35) : zW p l e (zRm 4 mc ms) s mt args below meth c g (MQ below (zQc g (zPv t Q)) args s mc ms (zFar g)) u 6 t m 82 [(0, .ref a_0), (1, .int x_1), (2, .int x_2), (3, .int x_3), (4, .int x_4)] [.int s_0, .int s_1, .ref s_2] := by
  unfold wX12_asks_J82 at H
  obtain ⟨h13, H⟩ := H
  obtain ⟨h14, H⟩ := H
  refine z_zastore (pc := 82) C h13 h14 (dX12_asks 42 rfl) ?_
  refine z_aload_n (pc := 83) C (dX12_asks 43 rfl) rfl 0 rfl ?_
  obtain ⟨h15, H⟩ := H
  refine z_getR (pc := 84) C zc12 h15 17 (by decide) rfl wf_X12_21 (dX12_asks 44 rfl) ?_
  refine z_iload (pc := 87) C (dX12_asks 45 rfl) 4 rfl ?_
  obtain ⟨h16, H⟩ := H
  obtain ⟨h17, H⟩ := H
  refine z_zaload (pc := 89) C h16 h17 (dX12_asks 46 rfl) ?_
  refine z_if_ne (pc := 90) (tgt := 96) C (dX12_asks 47 rfl) (by decide) (fun c18 => ?_) (fun c18 => ?_)
  · replace H := H.2 c18
    refine z_aload_n (pc := 96) C (dX12_asks 49 rfl) rfl 0 rfl ?_
    refine z_dup (pc := 97) C (dX12_asks 50 rfl) rfl ?_
    refine z_getI (pc := 98) C zc12 h15 19 (by decide) rfl wf_X12_339 (dX12_asks 51 rfl) ?_
    refine z_iconst (pc := 101) (v := 1) C (dX12_asks 52 rfl) (by decide) ?_
    refine z_iadd (pc := 102) C (dX12_asks 53 rfl) ?_
    refine z_putI (pc := 103) C zc12 h15 19 (by decide) rfl rfl wf_X12_339 (dX12_asks 54 rfl) ?_
    refine z_iconst (pc := 106) (v := 0) C (dX12_asks 55 rfl) (by decide) ?_
    refine z_istore (pc := 107) (i := 5) (lv2 := [(5, .int 0), (0, .ref a_0), (1, .int x_1), (2, .int x_2), (3, .int x_3), (4, .int x_4)]) C (dX12_asks 56 rfl) (by decide) rfl ?_
    obtain ⟨n27, H⟩ := H
    refine z_sub [1, 2, 3, 4, 5, 0] rfl ?_
    refine sX12_asks_L109 C hr hm hu1 hu2 (fun m26 H => ?_) n27 0 (pI (pI m s_2 s_1.toNatClampNeg (s_0 &&& 1)) a_0 19 ((gI (pI m s_2 s_1.toNatClampNeg (s_0 &&& 1)) a_0 19) + (1 : Int32))) H
    refine z_sub [0, 1, 2, 3, 4] rfl ?_
    exact sX12_asks_J149 C hr hm hu1 hu2 R35 H
  · replace H := H.1 c18
    refine z_goto (pc := 93) (tgt := 149) C (dX12_asks 48 rfl) (by decide) ?_
    refine z_sub [0, 1, 2, 3, 4] rfl ?_
    exact sX12_asks_J149 C hr hm hu1 hu2 R35 H
def wX12_asks_J81 (t : zT) (m : zM) (a_0 : Nat) (x_1 : Int32) (x_2 : Int32) (x_3 : Int32) (x_4 : Int32) (s_0 : Int32) (s_1 : Nat) (Q : zM → Prop) (r35 : Int32 → zM → Prop) : Prop := (wX12_asks_J82 t m a_0 x_1 x_2 x_3 x_4 0 s_0 s_1 Q r35)
set_option maxHeartbeats 4000000 in
set_option maxRecDepth 20000 in
theorem sX12_asks_J81 {p : Program} {l : Launch} {e : Env} {s : State} {mt : MethodId} {args : Array Value} {below : List Frame} {meth : Method} {c : Code} {g : zG} {u : Nat × Nat} {mc ms : Nat} {t : zT} {m : zM} {a_0 : Nat} {x_1 : Int32} {x_2 : Int32} {x_3 : Int32} {x_4 : Int32} {s_0 : Int32} {s_1 : Nat} {Q : zM → Prop} {r35 : Int32 → zM → Prop} (C : zC p (zRm 4 mc ms) s mt args meth c g cX12_asks 6 yX12_asks.cls 4) (hr : meth.sig.returnType = none) (hm : meth.name = yX12_asks.name) (hu1 : u.1 ≤ mc) (hu2 : u.2 ≤ ms)
    (R35 : ∀ (v0 : Int32) (m : zM), r35 v0 m → zW p l e (zRm 4 mc ms) s mt args below meth c g (MQ below (zQc g (zPv t Q)) args s mc ms (zFar g)) u 6 t m 35 [(0, .ref a_0), (1, .int x_1), (2, .int x_2), (3, .int x_3), (4, .int v0)] []) (H : wX12_asks_J81 t m a_0 x_1 x_2 x_3 x_4 s_0 s_1 Q r35) : zW p l e (zRm 4 mc ms) s mt args below meth c g (MQ below (zQc g (zPv t Q)) args s mc ms (zFar g)) u 6 t m 81 [(0, .ref a_0), (1, .int x_1), (2, .int x_2), (3, .int x_3), (4, .int x_4)] [.int s_0, .ref s_1] := by
  unfold wX12_asks_J81 at H
  refine z_iconst (pc := 81) (v := 0) C (dX12_asks 41 rfl) (by decide) ?_
  refine z_sub [0, 1, 2, 3, 4] rfl ?_
  exact sX12_asks_J82 C hr hm hu1 hu2 R35 H
def wX12_asks_J77 (t : zT) (m : zM) (a_0 : Nat) (x_1 : Int32) (x_2 : Int32) (x_3 : Int32) (x_4 : Int32) (s_0 : Int32) (s_1 : Nat) (Q : zM → Prop) (r35 : Int32 → zM → Prop) : Prop := (wX12_asks_J82 t m a_0 x_1 x_2 x_3 x_4 1 s_0 s_1 Q r35)
set_option maxHeartbeats 4000000 in
set_option maxRecDepth 20000 in
theorem sX12_asks_J77 {p : Program} {l : Launch} {e : Env} {s : State} {mt : MethodId} {args : Array Value} {below : List Frame} {meth : Method} {c : Code} {g : zG} {u : Nat × Nat} {mc ms : Nat} {t : zT} {m : zM} {a_0 : Nat} {x_1 : Int32} {x_2 : Int32} {x_3 : Int32} {x_4 : Int32} {s_0 : Int32} {s_1 : Nat} {Q : zM → Prop} {r35 : Int32 → zM → Prop} (C : zC p (zRm 4 mc ms) s mt args meth c g cX12_asks 6 yX12_asks.cls 4) (hr : meth.sig.returnType = none) (hm : meth.name = yX12_asks.name) (hu1 : u.1 ≤ mc) (hu2 : u.2 ≤ ms)
    (R35 : ∀ (v0 : Int32) (m : zM), r35 v0 m → zW p l e (zRm 4 mc ms) s mt args below meth c g (MQ below (zQc g (zPv t Q)) args s mc ms (zFar g)) u 6 t m 35 [(0, .ref a_0), (1, .int x_1), (2, .int x_2), (3, .int x_3), (4, .int v0)] []) (H : wX12_asks_J77 t m a_0 x_1 x_2 x_3 x_4 s_0 s_1 Q r35) : zW p l e (zRm 4 mc ms) s mt args below meth c g (MQ below (zQc g (zPv t Q)) args s mc ms (zFar g)) u 6 t m 77 [(0, .ref a_0), (1, .int x_1), (2, .int x_2), (3, .int x_3), (4, .int x_4)] [.int s_0, .ref s_1] := by
  unfold wX12_asks_J77 at H
  refine z_iconst (pc := 77) (v := 1) C (dX12_asks 39 rfl) (by decide) ?_
  refine z_goto (pc := 78) (tgt := 82) C (dX12_asks 40 rfl) (by decide) ?_
  refine z_sub [0, 1, 2, 3, 4] rfl ?_
  exact sX12_asks_J82 C hr hm hu1 hu2 R35 H
def wX12_asks_L35 (t : zT) (a_0 : Nat) (x_1 : Int32) (x_2 : Int32) (x_3 : Int32) (Q : zM → Prop) (k155 : zM → Prop) : Nat → Int32 → zM → Prop
  | 0, _, _ => False
  | n + 1, x_4, m => (tK t a_0 = 12 ∧ (tK t (gR m a_0 3) = 11 ∧ (((gI m (gR m a_0 3) 9) ≤ x_4 → (k155 m)) ∧ (¬ (gI m (gR m a_0 3) 9) ≤ x_4 → (wX12_isLawful t m a_0 x_4 x_1 x_2 (fun r10 m11 => ((r10 = 0 → (wX12_asks_J81 t m11 a_0 x_1 x_2 x_3 x_4 x_4 (gR m a_0 17) Q (wX12_asks_L35 t a_0 x_1 x_2 x_3 Q k155 n))) ∧ (¬ r10 = 0 → ((x_3 = 0 → (wX12_asks_J77 t m11 a_0 x_1 x_2 x_3 x_4 x_4 (gR m a_0 17) Q (wX12_asks_L35 t a_0 x_1 x_2 x_3 Q k155 n))) ∧ (¬ x_3 = 0 → (wX12_isFactual t m11 a_0 x_4 (fun r29 m30 => ((r29 = 0 → (wX12_asks_J81 t m30 a_0 x_1 x_2 x_3 x_4 x_4 (gR m a_0 17) Q (wX12_asks_L35 t a_0 x_1 x_2 x_3 Q k155 n))) ∧ (¬ r29 = 0 → (wX12_asks_J77 t m30 a_0 x_1 x_2 x_3 x_4 x_4 (gR m a_0 17) Q (wX12_asks_L35 t a_0 x_1 x_2 x_3 Q k155 n))))))))))))))))
set_option maxHeartbeats 4000000 in
set_option maxRecDepth 20000 in
theorem sX12_asks_L35 {p : Program} {l : Launch} {e : Env} {s : State} {mt : MethodId} {args : Array Value} {below : List Frame} {meth : Method} {c : Code} {g : zG} {u : Nat × Nat} {mc ms : Nat} {t : zT} {a_0 : Nat} {x_1 : Int32} {x_2 : Int32} {x_3 : Int32} {Q : zM → Prop} {k155 : zM → Prop} (C : zC p (zRm 4 mc ms) s mt args meth c g cX12_asks 6 yX12_asks.cls 4) (hr : meth.sig.returnType = none) (hm : meth.name = yX12_asks.name) (hu1 : u.1 ≤ mc) (hu2 : u.2 ≤ ms)
    (K155 : ∀ (m : zM), k155 m → zW p l e (zRm 4 mc ms) s mt args below meth c g (MQ below (zQc g (zPv t Q)) args s mc ms (zFar g)) u 6 t m 155 [] []) : ∀ (n : Nat) (x_4 : Int32) (m : zM), wX12_asks_L35 t a_0 x_1 x_2 x_3 Q k155 n x_4 m → zW p l e (zRm 4 mc ms) s mt args below meth c g (MQ below (zQc g (zPv t Q)) args s mc ms (zFar g)) u 6 t m 35 [(0, .ref a_0), (1, .int x_1), (2, .int x_2), (3, .int x_3), (4, .int x_4)] [] := by
  intro n
  induction n with
  | zero => intro x_4 m H; exact H.elim
  | succ n ih =>
    intro x_4 m H
    simp only [wX12_asks_L35] at H
    refine z_iload (pc := 35) C (dX12_asks 19 rfl) 4 rfl ?_
    refine z_aload_n (pc := 37) C (dX12_asks 20 rfl) rfl 0 rfl ?_
    obtain ⟨h7, H⟩ := H
    refine z_getR (pc := 38) C zc12 h7 3 (by decide) rfl wf_X12_314 (dX12_asks 21 rfl) ?_
    obtain ⟨h8, H⟩ := H
    refine z_getIN (pc := 41) C zc11 h8 9 (by decide) rfl wn_X12_217 (dX12_asks 22 rfl) ?_
    refine z_icmp_ge (pc := 44) (tgt := 155) C (dX12_asks 23 rfl) (by decide) (fun c9 => ?_) (fun c9 => ?_)
    · replace H := H.1 c9
      refine z_sub [] rfl ?_
      exact K155 m H
    · replace H := H.2 c9
      refine z_aload_n (pc := 47) C (dX12_asks 24 rfl) rfl 0 rfl ?_
      refine z_getR (pc := 48) C zc12 h7 17 (by decide) rfl wf_X12_21 (dX12_asks 25 rfl) ?_
      refine z_iload (pc := 51) C (dX12_asks 26 rfl) 4 rfl ?_
      refine z_aload_n (pc := 53) C (dX12_asks 27 rfl) rfl 0 rfl ?_
      refine z_iload (pc := 54) C (dX12_asks 28 rfl) 4 rfl ?_
      refine z_iload_n (pc := 56) C (dX12_asks 29 rfl) rfl 1 rfl ?_
      refine z_iload_n (pc := 57) C (dX12_asks 30 rfl) rfl 2 rfl ?_
      refine zc_Vi (pc := 58) (rest := [.int x_4, .ref (gR m a_0 17)]) C YX12_isLawful wl_X12_342 (kX12_isLawful H) (by decide) h7 rfl (by decide) (dX12_asks 31 rfl) rfl hu1 hu2 (Nat.le_of_ble_eq_true rfl) rfl (fun r10 m11 H => ?_)
      refine z_if_eq (pc := 61) (tgt := 81) C (dX12_asks 32 rfl) (by decide) (fun c12 => ?_) (fun c12 => ?_)
      · replace H := H.1 c12
        refine z_sub [0, 1, 2, 3, 4] rfl ?_
        exact sX12_asks_J81 C hr hm hu1 hu2 ih H
      · replace H := H.2 c12
        refine z_iload_n (pc := 64) C (dX12_asks 33 rfl) rfl 3 rfl ?_
        refine z_if_eq (pc := 65) (tgt := 77) C (dX12_asks 34 rfl) (by decide) (fun c28 => ?_) (fun c28 => ?_)
        · replace H := H.1 c28
          refine z_sub [0, 1, 2, 3, 4] rfl ?_
          exact sX12_asks_J77 C hr hm hu1 hu2 ih H
        · replace H := H.2 c28
          refine z_aload_n (pc := 68) C (dX12_asks 35 rfl) rfl 0 rfl ?_
          refine z_iload (pc := 69) C (dX12_asks 36 rfl) 4 rfl ?_
          refine zc_Vi (pc := 71) (rest := [.int x_4, .ref (gR m a_0 17)]) C YX12_isFactual wl_X12_345 (kX12_isFactual H) (by decide) h7 rfl (by decide) (dX12_asks 37 rfl) rfl hu1 hu2 (Nat.le_of_ble_eq_true rfl) rfl (fun r29 m30 H => ?_)
          refine z_if_eq (pc := 74) (tgt := 81) C (dX12_asks 38 rfl) (by decide) (fun c31 => ?_) (fun c31 => ?_)
          · replace H := H.1 c31
            refine z_sub [0, 1, 2, 3, 4] rfl ?_
            exact sX12_asks_J81 C hr hm hu1 hu2 ih H
          · replace H := H.2 c31
            refine z_sub [0, 1, 2, 3, 4] rfl ?_
            exact sX12_asks_J77 C hr hm hu1 hu2 ih H
def wX12_asks (t : zT) (m : zM) (a : Nat) (p1 : Int32) (p2 : Int32) (p3 : Int32) (Q : zM → Prop) : Prop := (tK t a = 12 ∧ (∃ n34, wX12_asks_L8 t a p1 p2 p3 Q (fun m6 => (∃ n33, wX12_asks_L35 t a p1 p2 p3 Q (fun m32 => (Q m32)) n33 0 m6)) n34 0 (pI m a 19 0)))
set_option maxHeartbeats 4000000 in
set_option maxRecDepth 20000 in
theorem kX12_asks {l : Launch} {t : zT} {m : zM} {a : Nat} {p1 : Int32} {p2 : Int32} {p3 : Int32} {Q : zM → Prop} (H : wX12_asks t m a p1 p2 p3 Q) : zMet l yX12_asks cX12_asks 6 none 4 0 0 t m [.ref a, .int p1, .int p2, .int p3] (zPv t Q) := by
  refine zmet (by decide +kernel) (Nat.le_of_ble_eq_true rfl) ?_
  intro p e s mt args below meth c g C hr hm
  unfold wX12_asks at H
  have hu1 : ((0, 0) : Nat × Nat).1 ≤ 0 := Nat.le_refl 0
  have hu2 : ((0, 0) : Nat × Nat).2 ≤ 0 := Nat.le_refl 0
  refine z_aload_n (pc := 0) C (dX12_asks 0 rfl) rfl 0 rfl ?_
  refine z_iconst (pc := 1) (v := 0) C (dX12_asks 1 rfl) (by decide) ?_
  obtain ⟨h1, H⟩ := H
  refine z_putI (pc := 2) C zc12 h1 19 (by decide) rfl rfl wf_X12_339 (dX12_asks 2 rfl) ?_
  refine z_iconst (pc := 5) (v := 0) C (dX12_asks 3 rfl) (by decide) ?_
  refine z_istore (pc := 6) (i := 4) (lv2 := [(4, .int 0), (0, .ref a), (1, .int p1), (2, .int p2), (3, .int p3)]) C (dX12_asks 4 rfl) (by decide) rfl ?_
  obtain ⟨n34, H⟩ := H
  refine z_sub [1, 2, 3, 4, 0] rfl ?_
  refine sX12_asks_L8 C hr hm hu1 hu2 (fun m6 H => ?_) n34 0 (pI m a 19 0) H
  refine z_iconst (pc := 32) (v := 0) C (dX12_asks 17 rfl) (by decide) ?_
  refine z_istore (pc := 33) (i := 4) (lv2 := [(4, .int 0), (0, .ref a), (1, .int p1), (2, .int p2), (3, .int p3)]) C (dX12_asks 18 rfl) (by decide) rfl ?_
  obtain ⟨n33, H⟩ := H
  refine z_sub [1, 2, 3, 4, 0] rfl ?_
  refine sX12_asks_L35 C hr hm hu1 hu2 (fun m32 H => ?_) n33 0 m6 H
  exact z_vret (pc := 155) C hr hu1 hu2 (dX12_asks 81 rfl) ⟨rfl, rfl, H⟩
def wX12_asksWorlds (t : zT) (m : zM) (a : Nat) (Q : zM → Prop) : Prop := (tK t a = 12 ∧ (tK t (gR m a 3) = 11 ∧ (wX11_allSayings t m (gR m a 3) (fun r3 m4 => (tK t (gR m4 a 3) = 11 ∧ (wX12_asks t m4 a r3 (gI m4 (gR m4 a 3) 6) 1 (fun m7 => (Q m7))))))))
set_option maxHeartbeats 4000000 in
set_option maxRecDepth 20000 in
theorem kX12_asksWorlds {l : Launch} {t : zT} {m : zM} {a : Nat} {Q : zM → Prop} (H : wX12_asksWorlds t m a Q) : zMet l yX12_asksWorlds cX12_asksWorlds 1 none 5 0 0 t m [.ref a] (zPv t Q) := by
  refine zmet (by decide +kernel) (Nat.le_of_ble_eq_true rfl) ?_
  intro p e s mt args below meth c g C hr hm
  unfold wX12_asksWorlds at H
  have hu1 : ((0, 0) : Nat × Nat).1 ≤ 0 := Nat.le_refl 0
  have hu2 : ((0, 0) : Nat × Nat).2 ≤ 0 := Nat.le_refl 0
  refine z_aload_n (pc := 0) C (dX12_asksWorlds 0 rfl) rfl 0 rfl ?_
  refine z_aload_n (pc := 1) C (dX12_asksWorlds 1 rfl) rfl 0 rfl ?_
  obtain ⟨h1, H⟩ := H
  refine z_getR (pc := 2) C zc12 h1 3 (by decide) rfl wf_X12_314 (dX12_asksWorlds 2 rfl) ?_
  obtain ⟨h2, H⟩ := H
  refine zc_Vi (pc := 5) (rest := [.ref a]) C YX11_allSayings wl_X12_348 (kX11_allSayings H) (by decide) h2 rfl (by decide) (dX12_asksWorlds 3 rfl) rfl hu1 hu2 (Nat.le_of_ble_eq_true rfl) rfl (fun r3 m4 H => ?_)
  refine z_aload_n (pc := 8) C (dX12_asksWorlds 4 rfl) rfl 0 rfl ?_
  refine z_getR (pc := 9) C zc12 h1 3 (by decide) rfl wf_X12_314 (dX12_asksWorlds 5 rfl) ?_
  obtain ⟨h5, H⟩ := H
  refine z_getIN (pc := 12) C zc11 h5 6 (by decide) rfl wn_X12_269 (dX12_asksWorlds 6 rfl) ?_
  refine z_iconst (pc := 15) (v := 1) C (dX12_asksWorlds 7 rfl) (by decide) ?_
  refine zc_Vv (pc := 16) (rest := []) C YX12_asks wl_X12_351 (kX12_asks H) (by decide) h1 rfl (by decide) (dX12_asksWorlds 8 rfl) rfl hu1 hu2 (Nat.le_of_ble_eq_true rfl) rfl (fun m7 H => ?_)
  exact z_vret (pc := 19) C hr hu1 hu2 (dX12_asksWorlds 9 rfl) ⟨rfl, rfl, H⟩
def wX12_one_J33 (t : zT) (m : zM) (a_0 : Nat) (x_1 : Int32) (x_2 : Int32) (Q : Int32 → zM → Prop) (r2 : Int32 → zM → Prop) : Prop := (r2 (x_2 + 1) m)
set_option maxHeartbeats 4000000 in
set_option maxRecDepth 20000 in
theorem sX12_one_J33 {p : Program} {l : Launch} {e : Env} {s : State} {mt : MethodId} {args : Array Value} {below : List Frame} {meth : Method} {c : Code} {g : zG} {u : Nat × Nat} {mc ms : Nat} {t : zT} {m : zM} {a_0 : Nat} {x_1 : Int32} {x_2 : Int32} {Q : Int32 → zM → Prop} {r2 : Int32 → zM → Prop} (C : zC p (zRm 0 mc ms) s mt args meth c g cX12_one 3 yX12_one.cls 0) (hr : meth.sig.returnType = (some .int)) (hm : meth.name = yX12_one.name) (hu1 : u.1 ≤ mc) (hu2 : u.2 ≤ ms)
    (R2 : ∀ (v0 : Int32) (m : zM), r2 v0 m → zW p l e (zRm 0 mc ms) s mt args below meth c g (MQ below (zQc g (zPi t Q)) args s mc ms (zFar g)) u 3 t m 2 [(0, .ref a_0), (1, .int x_1), (2, .int v0)] []) (H : wX12_one_J33 t m a_0 x_1 x_2 Q r2) : zW p l e (zRm 0 mc ms) s mt args below meth c g (MQ below (zQc g (zPi t Q)) args s mc ms (zFar g)) u 3 t m 33 [(0, .ref a_0), (1, .int x_1), (2, .int x_2)] [] := by
  unfold wX12_one_J33 at H
  refine z_iinc (pc := 33) (i := 2) (v := x_2 + 1) (lv2 := [(2, .int (x_2 + 1)), (0, .ref a_0), (1, .int x_1)]) C (dX12_one 21 rfl) 2 rfl (by rfl) (by decide) rfl ?_
  refine z_goto (pc := 36) (tgt := 2) C (dX12_one 22 rfl) (by decide) ?_
  refine z_sub [1, 2, 0] rfl ?_
  exact R2 (x_2 + 1) m H
def wX12_one_L2 (t : zT) (a_0 : Nat) (x_1 : Int32) (Q : Int32 → zM → Prop) (k39 : zM → Prop) : Nat → Int32 → zM → Prop
  | 0, _, _ => False
  | n + 1, x_2, m => (((4 : Int32) ≤ x_2 → (k39 m)) ∧ (¬ (4 : Int32) ≤ x_2 → (tK t a_0 = 12 ∧ (((gI m a_0 19) ≤ 0 → (wX12_one_J33 t m a_0 x_1 x_2 Q (wX12_one_L2 t a_0 x_1 Q k39 n))) ∧ (¬ (gI m a_0 19) ≤ 0 → (tK t (gR m a_0 18) = 14 ∧ (vp_in (((4 : Int32) * x_1) + x_2) (tL t (gR m a_0 18)) ∧ (((gI m (gR m a_0 18) ((((4 : Int32) * x_1) + x_2).toNatClampNeg)) = (gI m a_0 19) → (Q x_2 m)) ∧ (¬ (gI m (gR m a_0 18) ((((4 : Int32) * x_1) + x_2).toNatClampNeg)) = (gI m a_0 19) → (wX12_one_J33 t m a_0 x_1 x_2 Q (wX12_one_L2 t a_0 x_1 Q k39 n)))))))))))
set_option maxHeartbeats 4000000 in
set_option maxRecDepth 20000 in
theorem sX12_one_L2 {p : Program} {l : Launch} {e : Env} {s : State} {mt : MethodId} {args : Array Value} {below : List Frame} {meth : Method} {c : Code} {g : zG} {u : Nat × Nat} {mc ms : Nat} {t : zT} {a_0 : Nat} {x_1 : Int32} {Q : Int32 → zM → Prop} {k39 : zM → Prop} (C : zC p (zRm 0 mc ms) s mt args meth c g cX12_one 3 yX12_one.cls 0) (hr : meth.sig.returnType = (some .int)) (hm : meth.name = yX12_one.name) (hu1 : u.1 ≤ mc) (hu2 : u.2 ≤ ms)
    (K39 : ∀ (m : zM), k39 m → zW p l e (zRm 0 mc ms) s mt args below meth c g (MQ below (zQc g (zPi t Q)) args s mc ms (zFar g)) u 3 t m 39 [] []) : ∀ (n : Nat) (x_2 : Int32) (m : zM), wX12_one_L2 t a_0 x_1 Q k39 n x_2 m → zW p l e (zRm 0 mc ms) s mt args below meth c g (MQ below (zQc g (zPi t Q)) args s mc ms (zFar g)) u 3 t m 2 [(0, .ref a_0), (1, .int x_1), (2, .int x_2)] [] := by
  intro n
  induction n with
  | zero => intro x_2 m H; exact H.elim
  | succ n ih =>
    intro x_2 m H
    simp only [wX12_one_L2] at H
    refine z_iload_n (pc := 2) C (dX12_one 2 rfl) rfl 2 rfl ?_
    refine z_iconst (pc := 3) (v := 4) C (dX12_one 3 rfl) (by decide) ?_
    refine z_icmp_ge (pc := 4) (tgt := 39) C (dX12_one 4 rfl) (by decide) (fun c1 => ?_) (fun c1 => ?_)
    · replace H := H.1 c1
      refine z_sub [] rfl ?_
      exact K39 m H
    · replace H := H.2 c1
      refine z_aload_n (pc := 7) C (dX12_one 5 rfl) rfl 0 rfl ?_
      obtain ⟨h2, H⟩ := H
      refine z_getI (pc := 8) C zc12 h2 19 (by decide) rfl wf_X12_339 (dX12_one 6 rfl) ?_
      refine z_if_le (pc := 11) (tgt := 33) C (dX12_one 7 rfl) (by decide) (fun c3 => ?_) (fun c3 => ?_)
      · replace H := H.1 c3
        refine z_sub [0, 1, 2] rfl ?_
        exact sX12_one_J33 C hr hm hu1 hu2 ih H
      · replace H := H.2 c3
        refine z_aload_n (pc := 14) C (dX12_one 8 rfl) rfl 0 rfl ?_
        refine z_getR (pc := 15) C zc12 h2 18 (by decide) rfl wf_X12_25 (dX12_one 9 rfl) ?_
        refine z_iconst (pc := 18) (v := 4) C (dX12_one 10 rfl) (by decide) ?_
        refine z_iload_n (pc := 19) C (dX12_one 11 rfl) rfl 1 rfl ?_
        refine z_imul (pc := 20) C (dX12_one 12 rfl) ?_
        refine z_iload_n (pc := 21) C (dX12_one 13 rfl) rfl 2 rfl ?_
        refine z_iadd (pc := 22) C (dX12_one 14 rfl) ?_
        obtain ⟨h4, H⟩ := H
        obtain ⟨h5, H⟩ := H
        refine z_iaload (pc := 23) C h4 h5 (dX12_one 15 rfl) ?_
        refine z_aload_n (pc := 24) C (dX12_one 16 rfl) rfl 0 rfl ?_
        refine z_getI (pc := 25) C zc12 h2 19 (by decide) rfl wf_X12_339 (dX12_one 17 rfl) ?_
        refine z_icmp_ne (pc := 28) (tgt := 33) C (dX12_one 18 rfl) (by decide) (fun c6 => ?_) (fun c6 => ?_)
        · replace H := H.2 c6
          refine z_sub [0, 1, 2] rfl ?_
          exact sX12_one_J33 C hr hm hu1 hu2 ih H
        · replace H := H.1 c6
          refine z_iload_n (pc := 31) C (dX12_one 19 rfl) rfl 2 rfl ?_
          exact z_iret (pc := 32) C hr hu1 hu2 (dX12_one 20 rfl) ⟨rfl, _, rfl, H⟩
def wX12_one (t : zT) (m : zM) (a : Nat) (p1 : Int32) (Q : Int32 → zM → Prop) : Prop := (∃ n8, wX12_one_L2 t a p1 Q (fun m7 => (Q (-2) m7)) n8 0 m)
set_option maxHeartbeats 4000000 in
set_option maxRecDepth 20000 in
theorem kX12_one {l : Launch} {t : zT} {m : zM} {a : Nat} {p1 : Int32} {Q : Int32 → zM → Prop} (H : wX12_one t m a p1 Q) : zMet l yX12_one cX12_one 3 (some .int) 0 0 0 t m [.ref a, .int p1] (zPi t Q) := by
  refine zmet (by decide +kernel) (Nat.le_of_ble_eq_true rfl) ?_
  intro p e s mt args below meth c g C hr hm
  unfold wX12_one at H
  have hu1 : ((0, 0) : Nat × Nat).1 ≤ 0 := Nat.le_refl 0
  have hu2 : ((0, 0) : Nat × Nat).2 ≤ 0 := Nat.le_refl 0
  refine z_iconst (pc := 0) (v := 0) C (dX12_one 0 rfl) (by decide) ?_
  refine z_istore_n (pc := 1) (i := 2) (lv2 := [(2, .int 0), (0, .ref a), (1, .int p1)]) C (dX12_one 1 rfl) rfl (by decide) rfl ?_
  obtain ⟨n8, H⟩ := H
  refine z_sub [1, 2, 0] rfl ?_
  refine sX12_one_L2 C hr hm hu1 hu2 (fun m7 H => ?_) n8 0 m H
  refine z_bipush (pc := 39) (v := (-2)) C (dX12_one 23 rfl) (by decide) ?_
  exact z_iret (pc := 41) C hr hu1 hu2 (dX12_one 24 rfl) ⟨rfl, _, rfl, H⟩
def wX12_oneBits_J33 (t : zT) (m : zM) (a_0 : Nat) (x_2 : Int32) (s_0 : Int32) (s_1 : Int32) (Q : Int32 → zM → Prop) (r4 : Int32 → Int32 → zM → Prop) : Prop := (∀ x7 : Int32, x7 = (s_1 ||| s_0) → ((r4 x7 (x_2 + 1) m)))
set_option maxHeartbeats 4000000 in
set_option maxRecDepth 20000 in
theorem sX12_oneBits_J33 {p : Program} {l : Launch} {e : Env} {s : State} {mt : MethodId} {args : Array Value} {below : List Frame} {meth : Method} {c : Code} {g : zG} {u : Nat × Nat} {mc ms : Nat} {t : zT} {m : zM} {a_0 : Nat} {x_2 : Int32} {s_0 : Int32} {s_1 : Int32} {Q : Int32 → zM → Prop} {r4 : Int32 → Int32 → zM → Prop} (C : zC p (zRm 1 mc ms) s mt args meth c g cX12_oneBits 3 yX12_oneBits.cls 1) (hr : meth.sig.returnType = (some .int)) (hm : meth.name = yX12_oneBits.name) (hu1 : u.1 ≤ mc) (hu2 : u.2 ≤ ms)
    (R4 : ∀ (v0 : Int32) (v1 : Int32) (m : zM), r4 v0 v1 m → zW p l e (zRm 1 mc ms) s mt args below meth c g (MQ below (zQc g (zPi t Q)) args s mc ms (zFar g)) u 3 t m 4 [(0, .ref a_0), (1, .int v0), (2, .int v1)] []) (H : wX12_oneBits_J33 t m a_0 x_2 s_0 s_1 Q r4) : zW p l e (zRm 1 mc ms) s mt args below meth c g (MQ below (zQc g (zPi t Q)) args s mc ms (zFar g)) u 3 t m 33 [(0, .ref a_0), (2, .int x_2)] [.int s_0, .int s_1] := by
  unfold wX12_oneBits_J33 at H
  refine z_ior (pc := 33) C (dX12_oneBits 20 rfl) ?_
  refine z_int (fun x7 hx7 => ?_)
  replace H := H x7 hx7
  refine z_istore_n (pc := 34) (i := 1) (lv2 := [(1, .int x7), (0, .ref a_0), (2, .int x_2)]) C (dX12_oneBits 21 rfl) rfl (by decide) rfl ?_
  refine z_iinc (pc := 35) (i := 2) (v := x_2 + 1) (lv2 := [(2, .int (x_2 + 1)), (1, .int x7), (0, .ref a_0)]) C (dX12_oneBits 22 rfl) 2 rfl (by rfl) (by decide) rfl ?_
  refine z_goto (pc := 38) (tgt := 4) C (dX12_oneBits 23 rfl) (by decide) ?_
  refine z_sub [2, 1, 0] rfl ?_
  exact R4 x7 (x_2 + 1) m H
def wX12_oneBits_L4 (t : zT) (a_0 : Nat) (Q : Int32 → zM → Prop) (k41 : Int32 → zM → Prop) : Nat → Int32 → Int32 → zM → Prop
  | 0, _, _, _ => False
  | n + 1, x_1, x_2, m => (tK t a_0 = 12 ∧ (tK t (gR m a_0 3) = 11 ∧ (((gI m (gR m a_0 3) 0) ≤ x_2 → (k41 x_1 m)) ∧ (¬ (gI m (gR m a_0 3) 0) ≤ x_2 → (wX12_one t m a_0 x_2 (fun r4 m5 => ((r4 = (-2) → (wX12_oneBits_J33 t m5 a_0 x_2 0 x_1 Q (wX12_oneBits_L4 t a_0 Q k41 n))) ∧ (¬ r4 = (-2) → (wX12_oneBits_J33 t m5 a_0 x_2 ((1 : Int32) <<< (x_2 &&& 31)) x_1 Q (wX12_oneBits_L4 t a_0 Q k41 n))))))))))
set_option maxHeartbeats 4000000 in
set_option maxRecDepth 20000 in
theorem sX12_oneBits_L4 {p : Program} {l : Launch} {e : Env} {s : State} {mt : MethodId} {args : Array Value} {below : List Frame} {meth : Method} {c : Code} {g : zG} {u : Nat × Nat} {mc ms : Nat} {t : zT} {a_0 : Nat} {Q : Int32 → zM → Prop} {k41 : Int32 → zM → Prop} (C : zC p (zRm 1 mc ms) s mt args meth c g cX12_oneBits 3 yX12_oneBits.cls 1) (hr : meth.sig.returnType = (some .int)) (hm : meth.name = yX12_oneBits.name) (hu1 : u.1 ≤ mc) (hu2 : u.2 ≤ ms)
    (K41 : ∀ (v0 : Int32) (m : zM), k41 v0 m → zW p l e (zRm 1 mc ms) s mt args below meth c g (MQ below (zQc g (zPi t Q)) args s mc ms (zFar g)) u 3 t m 41 [(1, .int v0)] []) : ∀ (n : Nat) (x_1 : Int32) (x_2 : Int32) (m : zM), wX12_oneBits_L4 t a_0 Q k41 n x_1 x_2 m → zW p l e (zRm 1 mc ms) s mt args below meth c g (MQ below (zQc g (zPi t Q)) args s mc ms (zFar g)) u 3 t m 4 [(0, .ref a_0), (1, .int x_1), (2, .int x_2)] [] := by
  intro n
  induction n with
  | zero => intro x_1 x_2 m H; exact H.elim
  | succ n ih =>
    intro x_1 x_2 m H
    simp only [wX12_oneBits_L4] at H
    refine z_iload_n (pc := 4) C (dX12_oneBits 4 rfl) rfl 2 rfl ?_
    refine z_aload_n (pc := 5) C (dX12_oneBits 5 rfl) rfl 0 rfl ?_
    obtain ⟨h1, H⟩ := H
    refine z_getR (pc := 6) C zc12 h1 3 (by decide) rfl wf_X12_314 (dX12_oneBits 6 rfl) ?_
    obtain ⟨h2, H⟩ := H
    refine z_getIN (pc := 9) C zc11 h2 0 (by decide) rfl wn_X12_180 (dX12_oneBits 7 rfl) ?_
    refine z_icmp_ge (pc := 12) (tgt := 41) C (dX12_oneBits 8 rfl) (by decide) (fun c3 => ?_) (fun c3 => ?_)
    · replace H := H.1 c3
      refine z_sub [1] rfl ?_
      exact K41 x_1 m H
    · replace H := H.2 c3
      refine z_iload_n (pc := 15) C (dX12_oneBits 9 rfl) rfl 1 rfl ?_
      refine z_aload_n (pc := 16) C (dX12_oneBits 10 rfl) rfl 0 rfl ?_
      refine z_iload_n (pc := 17) C (dX12_oneBits 11 rfl) rfl 2 rfl ?_
      refine zc_Vi (pc := 18) (rest := [.int x_1]) C YX12_one wl_X12_355 (kX12_one H) (by decide) h1 rfl (by decide) (dX12_oneBits 12 rfl) rfl hu1 hu2 (Nat.le_of_ble_eq_true rfl) rfl (fun r4 m5 H => ?_)
      refine z_bipush (pc := 21) (v := (-2)) C (dX12_oneBits 13 rfl) (by decide) ?_
      refine z_icmp_eq (pc := 23) (tgt := 32) C (dX12_oneBits 14 rfl) (by decide) (fun c6 => ?_) (fun c6 => ?_)
      · replace H := H.1 c6
        refine z_iconst (pc := 32) (v := 0) C (dX12_oneBits 19 rfl) (by decide) ?_
        refine z_sub [0, 2] rfl ?_
        exact sX12_oneBits_J33 C hr hm hu1 hu2 ih H
      · replace H := H.2 c6
        refine z_iconst (pc := 26) (v := 1) C (dX12_oneBits 15 rfl) (by decide) ?_
        refine z_iload_n (pc := 27) C (dX12_oneBits 16 rfl) rfl 2 rfl ?_
        refine z_ishl (pc := 28) C (dX12_oneBits 17 rfl) ?_
        refine z_goto (pc := 29) (tgt := 33) C (dX12_oneBits 18 rfl) (by decide) ?_
        refine z_sub [0, 2] rfl ?_
        exact sX12_oneBits_J33 C hr hm hu1 hu2 ih H
def wX12_oneBits (t : zT) (m : zM) (a : Nat) (Q : Int32 → zM → Prop) : Prop := (∃ n10, wX12_oneBits_L4 t a Q (fun v8 m9 => (Q v8 m9)) n10 0 0 m)
set_option maxHeartbeats 4000000 in
set_option maxRecDepth 20000 in
theorem kX12_oneBits {l : Launch} {t : zT} {m : zM} {a : Nat} {Q : Int32 → zM → Prop} (H : wX12_oneBits t m a Q) : zMet l yX12_oneBits cX12_oneBits 3 (some .int) 1 0 0 t m [.ref a] (zPi t Q) := by
  refine zmet (by decide +kernel) (Nat.le_of_ble_eq_true rfl) ?_
  intro p e s mt args below meth c g C hr hm
  unfold wX12_oneBits at H
  have hu1 : ((0, 0) : Nat × Nat).1 ≤ 0 := Nat.le_refl 0
  have hu2 : ((0, 0) : Nat × Nat).2 ≤ 0 := Nat.le_refl 0
  refine z_iconst (pc := 0) (v := 0) C (dX12_oneBits 0 rfl) (by decide) ?_
  refine z_istore_n (pc := 1) (i := 1) (lv2 := [(1, .int 0), (0, .ref a)]) C (dX12_oneBits 1 rfl) rfl (by decide) rfl ?_
  refine z_iconst (pc := 2) (v := 0) C (dX12_oneBits 2 rfl) (by decide) ?_
  refine z_istore_n (pc := 3) (i := 2) (lv2 := [(2, .int 0), (1, .int 0), (0, .ref a)]) C (dX12_oneBits 3 rfl) rfl (by decide) rfl ?_
  obtain ⟨n10, H⟩ := H
  refine z_sub [2, 1, 0] rfl ?_
  refine sX12_oneBits_L4 C hr hm hu1 hu2 (fun v8 m9 H => ?_) n10 0 0 m H
  refine z_iload_n (pc := 41) C (dX12_oneBits 24 rfl) rfl 0 rfl ?_
  exact z_iret (pc := 42) C hr hu1 hu2 (dX12_oneBits 25 rfl) ⟨rfl, _, rfl, H⟩
def wX12_isThing (t : zT) (m : zM) (a : Nat) (p1 : Int32) (Q : Int32 → zM → Prop) : Prop := (tK t a = 12 ∧ (((gR m a 3) = 0 → (Q 0 m)) ∧ (¬ (gR m a 3) = 0 → ((p1 < 0 → (Q 0 m)) ∧ (¬ p1 < 0 → (tK t (gR m a 3) = 11 ∧ (((gI m (gR m a 3) 0) ≤ p1 → (Q 0 m)) ∧ (¬ (gI m (gR m a 3) 0) ≤ p1 → (Q 1 m)))))))))
set_option maxHeartbeats 4000000 in
set_option maxRecDepth 20000 in
theorem kX12_isThing {l : Launch} {t : zT} {m : zM} {a : Nat} {p1 : Int32} {Q : Int32 → zM → Prop} (H : wX12_isThing t m a p1 Q) : zMet l yX12_isThing cX12_isThing 2 (some .boolean) 0 0 0 t m [.ref a, .int p1] (zPi t Q) := by
  refine zmet (by decide +kernel) (Nat.le_of_ble_eq_true rfl) ?_
  intro p e s mt args below meth c g C hr hm
  unfold wX12_isThing at H
  have hu1 : ((0, 0) : Nat × Nat).1 ≤ 0 := Nat.le_refl 0
  have hu2 : ((0, 0) : Nat × Nat).2 ≤ 0 := Nat.le_refl 0
  refine z_aload_n (pc := 0) C (dX12_isThing 0 rfl) rfl 0 rfl ?_
  obtain ⟨h1, H⟩ := H
  refine z_getR (pc := 1) C zc12 h1 3 (by decide) rfl wf_X12_314 (dX12_isThing 1 rfl) ?_
  refine z_ifnull (pc := 4) (tgt := 26) C (dX12_isThing 2 rfl) (by decide) (fun c2 => ?_) (fun c2 => ?_)
  · replace H := H.1 c2
    refine z_iconst (pc := 26) (v := 0) C (dX12_isThing 12 rfl) (by decide) ?_
    exact z_zret (pc := 27) C hr (by decide) hu1 hu2 (dX12_isThing 13 rfl) ⟨rfl, _, rfl, H⟩
  · replace H := H.2 c2
    refine z_iload_n (pc := 7) C (dX12_isThing 3 rfl) rfl 1 rfl ?_
    refine z_if_lt (pc := 8) (tgt := 26) C (dX12_isThing 4 rfl) (by decide) (fun c3 => ?_) (fun c3 => ?_)
    · replace H := H.1 c3
      refine z_iconst (pc := 26) (v := 0) C (dX12_isThing 12 rfl) (by decide) ?_
      exact z_zret (pc := 27) C hr (by decide) hu1 hu2 (dX12_isThing 13 rfl) ⟨rfl, _, rfl, H⟩
    · replace H := H.2 c3
      refine z_iload_n (pc := 11) C (dX12_isThing 5 rfl) rfl 1 rfl ?_
      refine z_aload_n (pc := 12) C (dX12_isThing 6 rfl) rfl 0 rfl ?_
      refine z_getR (pc := 13) C zc12 h1 3 (by decide) rfl wf_X12_314 (dX12_isThing 7 rfl) ?_
      obtain ⟨h4, H⟩ := H
      refine z_getIN (pc := 16) C zc11 h4 0 (by decide) rfl wn_X12_180 (dX12_isThing 8 rfl) ?_
      refine z_icmp_ge (pc := 19) (tgt := 26) C (dX12_isThing 9 rfl) (by decide) (fun c5 => ?_) (fun c5 => ?_)
      · replace H := H.1 c5
        refine z_iconst (pc := 26) (v := 0) C (dX12_isThing 12 rfl) (by decide) ?_
        exact z_zret (pc := 27) C hr (by decide) hu1 hu2 (dX12_isThing 13 rfl) ⟨rfl, _, rfl, H⟩
      · replace H := H.2 c5
        refine z_iconst (pc := 22) (v := 1) C (dX12_isThing 10 rfl) (by decide) ?_
        refine z_goto (pc := 23) (tgt := 27) C (dX12_isThing 11 rfl) (by decide) ?_
        exact z_zret (pc := 27) C hr (by decide) hu1 hu2 (dX12_isThing 13 rfl) ⟨rfl, _, rfl, H⟩
def wX12_isMaster (t : zT) (m : zM) (a : Nat) (p1 : Int32) (Q : Int32 → zM → Prop) : Prop := (tK t a = 12 ∧ (((gR m a 3) = 0 → (Q 0 m)) ∧ (¬ (gR m a 3) = 0 → ((p1 < 0 → (Q 0 m)) ∧ (¬ p1 < 0 → (tK t (gR m a 3) = 11 ∧ (((gI m (gR m a 3) 2) ≤ p1 → (Q 0 m)) ∧ (¬ (gI m (gR m a 3) 2) ≤ p1 → (Q 1 m)))))))))
set_option maxHeartbeats 4000000 in
set_option maxRecDepth 20000 in
theorem kX12_isMaster {l : Launch} {t : zT} {m : zM} {a : Nat} {p1 : Int32} {Q : Int32 → zM → Prop} (H : wX12_isMaster t m a p1 Q) : zMet l yX12_isMaster cX12_isMaster 2 (some .boolean) 0 0 0 t m [.ref a, .int p1] (zPi t Q) := by
  refine zmet (by decide +kernel) (Nat.le_of_ble_eq_true rfl) ?_
  intro p e s mt args below meth c g C hr hm
  unfold wX12_isMaster at H
  have hu1 : ((0, 0) : Nat × Nat).1 ≤ 0 := Nat.le_refl 0
  have hu2 : ((0, 0) : Nat × Nat).2 ≤ 0 := Nat.le_refl 0
  refine z_aload_n (pc := 0) C (dX12_isMaster 0 rfl) rfl 0 rfl ?_
  obtain ⟨h1, H⟩ := H
  refine z_getR (pc := 1) C zc12 h1 3 (by decide) rfl wf_X12_314 (dX12_isMaster 1 rfl) ?_
  refine z_ifnull (pc := 4) (tgt := 26) C (dX12_isMaster 2 rfl) (by decide) (fun c2 => ?_) (fun c2 => ?_)
  · replace H := H.1 c2
    refine z_iconst (pc := 26) (v := 0) C (dX12_isMaster 12 rfl) (by decide) ?_
    exact z_zret (pc := 27) C hr (by decide) hu1 hu2 (dX12_isMaster 13 rfl) ⟨rfl, _, rfl, H⟩
  · replace H := H.2 c2
    refine z_iload_n (pc := 7) C (dX12_isMaster 3 rfl) rfl 1 rfl ?_
    refine z_if_lt (pc := 8) (tgt := 26) C (dX12_isMaster 4 rfl) (by decide) (fun c3 => ?_) (fun c3 => ?_)
    · replace H := H.1 c3
      refine z_iconst (pc := 26) (v := 0) C (dX12_isMaster 12 rfl) (by decide) ?_
      exact z_zret (pc := 27) C hr (by decide) hu1 hu2 (dX12_isMaster 13 rfl) ⟨rfl, _, rfl, H⟩
    · replace H := H.2 c3
      refine z_iload_n (pc := 11) C (dX12_isMaster 5 rfl) rfl 1 rfl ?_
      refine z_aload_n (pc := 12) C (dX12_isMaster 6 rfl) rfl 0 rfl ?_
      refine z_getR (pc := 13) C zc12 h1 3 (by decide) rfl wf_X12_314 (dX12_isMaster 7 rfl) ?_
      obtain ⟨h4, H⟩ := H
      refine z_getIN (pc := 16) C zc11 h4 2 (by decide) rfl wn_X12_246 (dX12_isMaster 8 rfl) ?_
      refine z_icmp_ge (pc := 19) (tgt := 26) C (dX12_isMaster 9 rfl) (by decide) (fun c5 => ?_) (fun c5 => ?_)
      · replace H := H.1 c5
        refine z_iconst (pc := 26) (v := 0) C (dX12_isMaster 12 rfl) (by decide) ?_
        exact z_zret (pc := 27) C hr (by decide) hu1 hu2 (dX12_isMaster 13 rfl) ⟨rfl, _, rfl, H⟩
      · replace H := H.2 c5
        refine z_iconst (pc := 22) (v := 1) C (dX12_isMaster 10 rfl) (by decide) ?_
        refine z_goto (pc := 23) (tgt := 27) C (dX12_isMaster 11 rfl) (by decide) ?_
        exact z_zret (pc := 27) C hr (by decide) hu1 hu2 (dX12_isMaster 13 rfl) ⟨rfl, _, rfl, H⟩
def wX12_isSaying (t : zT) (m : zM) (a : Nat) (p1 : Int32) (Q : Int32 → zM → Prop) : Prop := (tK t a = 12 ∧ (((gR m a 3) = 0 → (Q 0 m)) ∧ (¬ (gR m a 3) = 0 → ((p1 < 0 → (Q 0 m)) ∧ (¬ p1 < 0 → (tK t (gR m a 3) = 11 ∧ (((gI m (gR m a 3) 3) ≤ p1 → (Q 0 m)) ∧ (¬ (gI m (gR m a 3) 3) ≤ p1 → (Q 1 m)))))))))
set_option maxHeartbeats 4000000 in
set_option maxRecDepth 20000 in
theorem kX12_isSaying {l : Launch} {t : zT} {m : zM} {a : Nat} {p1 : Int32} {Q : Int32 → zM → Prop} (H : wX12_isSaying t m a p1 Q) : zMet l yX12_isSaying cX12_isSaying 2 (some .boolean) 0 0 0 t m [.ref a, .int p1] (zPi t Q) := by
  refine zmet (by decide +kernel) (Nat.le_of_ble_eq_true rfl) ?_
  intro p e s mt args below meth c g C hr hm
  unfold wX12_isSaying at H
  have hu1 : ((0, 0) : Nat × Nat).1 ≤ 0 := Nat.le_refl 0
  have hu2 : ((0, 0) : Nat × Nat).2 ≤ 0 := Nat.le_refl 0
  refine z_aload_n (pc := 0) C (dX12_isSaying 0 rfl) rfl 0 rfl ?_
  obtain ⟨h1, H⟩ := H
  refine z_getR (pc := 1) C zc12 h1 3 (by decide) rfl wf_X12_314 (dX12_isSaying 1 rfl) ?_
  refine z_ifnull (pc := 4) (tgt := 26) C (dX12_isSaying 2 rfl) (by decide) (fun c2 => ?_) (fun c2 => ?_)
  · replace H := H.1 c2
    refine z_iconst (pc := 26) (v := 0) C (dX12_isSaying 12 rfl) (by decide) ?_
    exact z_zret (pc := 27) C hr (by decide) hu1 hu2 (dX12_isSaying 13 rfl) ⟨rfl, _, rfl, H⟩
  · replace H := H.2 c2
    refine z_iload_n (pc := 7) C (dX12_isSaying 3 rfl) rfl 1 rfl ?_
    refine z_if_lt (pc := 8) (tgt := 26) C (dX12_isSaying 4 rfl) (by decide) (fun c3 => ?_) (fun c3 => ?_)
    · replace H := H.1 c3
      refine z_iconst (pc := 26) (v := 0) C (dX12_isSaying 12 rfl) (by decide) ?_
      exact z_zret (pc := 27) C hr (by decide) hu1 hu2 (dX12_isSaying 13 rfl) ⟨rfl, _, rfl, H⟩
    · replace H := H.2 c3
      refine z_iload_n (pc := 11) C (dX12_isSaying 5 rfl) rfl 1 rfl ?_
      refine z_aload_n (pc := 12) C (dX12_isSaying 6 rfl) rfl 0 rfl ?_
      refine z_getR (pc := 13) C zc12 h1 3 (by decide) rfl wf_X12_314 (dX12_isSaying 7 rfl) ?_
      obtain ⟨h4, H⟩ := H
      refine z_getIN (pc := 16) C zc11 h4 3 (by decide) rfl wn_X12_277 (dX12_isSaying 8 rfl) ?_
      refine z_icmp_ge (pc := 19) (tgt := 26) C (dX12_isSaying 9 rfl) (by decide) (fun c5 => ?_) (fun c5 => ?_)
      · replace H := H.1 c5
        refine z_iconst (pc := 26) (v := 0) C (dX12_isSaying 12 rfl) (by decide) ?_
        exact z_zret (pc := 27) C hr (by decide) hu1 hu2 (dX12_isSaying 13 rfl) ⟨rfl, _, rfl, H⟩
      · replace H := H.2 c5
        refine z_iconst (pc := 22) (v := 1) C (dX12_isSaying 10 rfl) (by decide) ?_
        refine z_goto (pc := 23) (tgt := 27) C (dX12_isSaying 11 rfl) (by decide) ?_
        exact z_zret (pc := 27) C hr (by decide) hu1 hu2 (dX12_isSaying 13 rfl) ⟨rfl, _, rfl, H⟩
def wX12_isChild (t : zT) (m : zM) (a : Nat) (p1 : Int32) (Q : Int32 → zM → Prop) : Prop := (tK t a = 12 ∧ (((gR m a 3) = 0 → (Q 0 m)) ∧ (¬ (gR m a 3) = 0 → ((p1 < 0 → (Q 0 m)) ∧ (¬ p1 < 0 → (tK t (gR m a 3) = 11 ∧ (((gI m (gR m a 3) 4) ≤ p1 → (Q 0 m)) ∧ (¬ (gI m (gR m a 3) 4) ≤ p1 → (Q 1 m)))))))))
set_option maxHeartbeats 4000000 in
set_option maxRecDepth 20000 in
theorem kX12_isChild {l : Launch} {t : zT} {m : zM} {a : Nat} {p1 : Int32} {Q : Int32 → zM → Prop} (H : wX12_isChild t m a p1 Q) : zMet l yX12_isChild cX12_isChild 2 (some .boolean) 0 0 0 t m [.ref a, .int p1] (zPi t Q) := by
  refine zmet (by decide +kernel) (Nat.le_of_ble_eq_true rfl) ?_
  intro p e s mt args below meth c g C hr hm
  unfold wX12_isChild at H
  have hu1 : ((0, 0) : Nat × Nat).1 ≤ 0 := Nat.le_refl 0
  have hu2 : ((0, 0) : Nat × Nat).2 ≤ 0 := Nat.le_refl 0
  refine z_aload_n (pc := 0) C (dX12_isChild 0 rfl) rfl 0 rfl ?_
  obtain ⟨h1, H⟩ := H
  refine z_getR (pc := 1) C zc12 h1 3 (by decide) rfl wf_X12_314 (dX12_isChild 1 rfl) ?_
  refine z_ifnull (pc := 4) (tgt := 26) C (dX12_isChild 2 rfl) (by decide) (fun c2 => ?_) (fun c2 => ?_)
  · replace H := H.1 c2
    refine z_iconst (pc := 26) (v := 0) C (dX12_isChild 12 rfl) (by decide) ?_
    exact z_zret (pc := 27) C hr (by decide) hu1 hu2 (dX12_isChild 13 rfl) ⟨rfl, _, rfl, H⟩
  · replace H := H.2 c2
    refine z_iload_n (pc := 7) C (dX12_isChild 3 rfl) rfl 1 rfl ?_
    refine z_if_lt (pc := 8) (tgt := 26) C (dX12_isChild 4 rfl) (by decide) (fun c3 => ?_) (fun c3 => ?_)
    · replace H := H.1 c3
      refine z_iconst (pc := 26) (v := 0) C (dX12_isChild 12 rfl) (by decide) ?_
      exact z_zret (pc := 27) C hr (by decide) hu1 hu2 (dX12_isChild 13 rfl) ⟨rfl, _, rfl, H⟩
    · replace H := H.2 c3
      refine z_iload_n (pc := 11) C (dX12_isChild 5 rfl) rfl 1 rfl ?_
      refine z_aload_n (pc := 12) C (dX12_isChild 6 rfl) rfl 0 rfl ?_
      refine z_getR (pc := 13) C zc12 h1 3 (by decide) rfl wf_X12_314 (dX12_isChild 7 rfl) ?_
      obtain ⟨h4, H⟩ := H
      refine z_getIN (pc := 16) C zc11 h4 4 (by decide) rfl wn_X12_289 (dX12_isChild 8 rfl) ?_
      refine z_icmp_ge (pc := 19) (tgt := 26) C (dX12_isChild 9 rfl) (by decide) (fun c5 => ?_) (fun c5 => ?_)
      · replace H := H.1 c5
        refine z_iconst (pc := 26) (v := 0) C (dX12_isChild 12 rfl) (by decide) ?_
        exact z_zret (pc := 27) C hr (by decide) hu1 hu2 (dX12_isChild 13 rfl) ⟨rfl, _, rfl, H⟩
      · replace H := H.2 c5
        refine z_iconst (pc := 22) (v := 1) C (dX12_isChild 10 rfl) (by decide) ?_
        refine z_goto (pc := 23) (tgt := 27) C (dX12_isChild 11 rfl) (by decide) ?_
        exact z_zret (pc := 27) C hr (by decide) hu1 hu2 (dX12_isChild 13 rfl) ⟨rfl, _, rfl, H⟩
def wX12_ways (t : zT) (m : zM) (a : Nat) (Q : Int32 → zM → Prop) : Prop := (tK t a = 12 ∧ (((gR m a 3) = 0 → (wX12_refused t (pI m a 0 0) a 1 (fun r3 m4 => (Q r3 m4)))) ∧ (¬ (gR m a 3) = 0 → (tK t (gR m a 3) = 11 ∧ (wX12_good t (pI m a 0 0) a (gI (pI m a 0 0) (gR m a 3) 9) (fun r6 m7 => (Q r6 m7)))))))
set_option maxHeartbeats 4000000 in
set_option maxRecDepth 20000 in
theorem kX12_ways {l : Launch} {t : zT} {m : zM} {a : Nat} {Q : Int32 → zM → Prop} (H : wX12_ways t m a Q) : zMet l yX12_ways cX12_ways 1 (some .int) 1 0 0 t m [.ref a] (zPi t Q) := by
  refine zmet (by decide +kernel) (Nat.le_of_ble_eq_true rfl) ?_
  intro p e s mt args below meth c g C hr hm
  unfold wX12_ways at H
  have hu1 : ((0, 0) : Nat × Nat).1 ≤ 0 := Nat.le_refl 0
  have hu2 : ((0, 0) : Nat × Nat).2 ≤ 0 := Nat.le_refl 0
  refine z_aload_n (pc := 0) C (dX12_ways 0 rfl) rfl 0 rfl ?_
  refine z_iconst (pc := 1) (v := 0) C (dX12_ways 1 rfl) (by decide) ?_
  obtain ⟨h1, H⟩ := H
  refine z_putI (pc := 2) C zc12 h1 0 (by decide) rfl rfl wf_X12_41 (dX12_ways 2 rfl) ?_
  refine z_aload_n (pc := 5) C (dX12_ways 3 rfl) rfl 0 rfl ?_
  refine z_getR (pc := 6) C zc12 h1 3 (by decide) rfl wf_X12_314 (dX12_ways 4 rfl) ?_
  refine z_ifnonnull (pc := 9) (tgt := 20) C (dX12_ways 5 rfl) (by decide) (fun c2 => ?_) (fun c2 => ?_)
  · replace H := H.1 c2
    refine z_aload_n (pc := 12) C (dX12_ways 6 rfl) rfl 0 rfl ?_
    refine z_iconst (pc := 13) (v := 1) C (dX12_ways 7 rfl) (by decide) ?_
    refine zc_Vi (pc := 14) (rest := []) C YX12_refused wl_X12_47 (kX12_refused H) (by decide) h1 rfl (by decide) (dX12_ways 8 rfl) rfl hu1 hu2 (Nat.le_of_ble_eq_true rfl) rfl (fun r3 m4 H => ?_)
    refine z_goto (pc := 17) (tgt := 31) C (dX12_ways 9 rfl) (by decide) ?_
    exact z_iret (pc := 31) C hr hu1 hu2 (dX12_ways 15 rfl) ⟨rfl, _, rfl, H⟩
  · replace H := H.2 c2
    refine z_aload_n (pc := 20) C (dX12_ways 10 rfl) rfl 0 rfl ?_
    refine z_aload_n (pc := 21) C (dX12_ways 11 rfl) rfl 0 rfl ?_
    refine z_getR (pc := 22) C zc12 h1 3 (by decide) rfl wf_X12_314 (dX12_ways 12 rfl) ?_
    obtain ⟨h5, H⟩ := H
    refine z_getIN (pc := 25) C zc11 h5 9 (by decide) rfl wn_X12_217 (dX12_ways 13 rfl) ?_
    refine zc_Vi (pc := 28) (rest := []) C YX12_good wl_X12_51 (kX12_good H) (by decide) h1 rfl (by decide) (dX12_ways 14 rfl) rfl hu1 hu2 (Nat.le_of_ble_eq_true rfl) rfl (fun r6 m7 H => ?_)
    exact z_iret (pc := 31) C hr hu1 hu2 (dX12_ways 15 rfl) ⟨rfl, _, rfl, H⟩
def wX12_worlds (t : zT) (m : zM) (a : Nat) (Q : Int32 → zM → Prop) : Prop := (tK t a = 12 ∧ (((gR m a 3) = 0 → (wX12_refused t (pI m a 0 0) a 1 (fun r3 m4 => (Q r3 m4)))) ∧ (¬ (gR m a 3) = 0 → (wX12_asksWorlds t (pI m a 0 0) a (fun m6 => (wX12_good t m6 a (gI m6 a 19) (fun r7 m8 => (Q r7 m8))))))))
set_option maxHeartbeats 4000000 in
set_option maxRecDepth 20000 in
theorem kX12_worlds {l : Launch} {t : zT} {m : zM} {a : Nat} {Q : Int32 → zM → Prop} (H : wX12_worlds t m a Q) : zMet l yX12_worlds cX12_worlds 1 (some .int) 6 0 0 t m [.ref a] (zPi t Q) := by
  refine zmet (by decide +kernel) (Nat.le_of_ble_eq_true rfl) ?_
  intro p e s mt args below meth c g C hr hm
  unfold wX12_worlds at H
  have hu1 : ((0, 0) : Nat × Nat).1 ≤ 0 := Nat.le_refl 0
  have hu2 : ((0, 0) : Nat × Nat).2 ≤ 0 := Nat.le_refl 0
  refine z_aload_n (pc := 0) C (dX12_worlds 0 rfl) rfl 0 rfl ?_
  refine z_iconst (pc := 1) (v := 0) C (dX12_worlds 1 rfl) (by decide) ?_
  obtain ⟨h1, H⟩ := H
  refine z_putI (pc := 2) C zc12 h1 0 (by decide) rfl rfl wf_X12_41 (dX12_worlds 2 rfl) ?_
  refine z_aload_n (pc := 5) C (dX12_worlds 3 rfl) rfl 0 rfl ?_
  refine z_getR (pc := 6) C zc12 h1 3 (by decide) rfl wf_X12_314 (dX12_worlds 4 rfl) ?_
  refine z_ifnonnull (pc := 9) (tgt := 18) C (dX12_worlds 5 rfl) (by decide) (fun c2 => ?_) (fun c2 => ?_)
  · replace H := H.1 c2
    refine z_aload_n (pc := 12) C (dX12_worlds 6 rfl) rfl 0 rfl ?_
    refine z_iconst (pc := 13) (v := 1) C (dX12_worlds 7 rfl) (by decide) ?_
    refine zc_Vi (pc := 14) (rest := []) C YX12_refused wl_X12_47 (kX12_refused H) (by decide) h1 rfl (by decide) (dX12_worlds 8 rfl) rfl hu1 hu2 (Nat.le_of_ble_eq_true rfl) rfl (fun r3 m4 H => ?_)
    exact z_iret (pc := 17) C hr hu1 hu2 (dX12_worlds 9 rfl) ⟨rfl, _, rfl, H⟩
  · replace H := H.2 c2
    refine z_aload_n (pc := 18) C (dX12_worlds 10 rfl) rfl 0 rfl ?_
    refine zc_Vv (pc := 19) (rest := []) C YX12_asksWorlds wl_X12_358 (kX12_asksWorlds H) (by decide) h1 rfl (by decide) (dX12_worlds 11 rfl) rfl hu1 hu2 (Nat.le_of_ble_eq_true rfl) rfl (fun m6 H => ?_)
    refine z_aload_n (pc := 22) C (dX12_worlds 12 rfl) rfl 0 rfl ?_
    refine z_aload_n (pc := 23) C (dX12_worlds 13 rfl) rfl 0 rfl ?_
    refine z_getI (pc := 24) C zc12 h1 19 (by decide) rfl wf_X12_339 (dX12_worlds 14 rfl) ?_
    refine zc_Vi (pc := 27) (rest := []) C YX12_good wl_X12_51 (kX12_good H) (by decide) h1 rfl (by decide) (dX12_worlds 15 rfl) rfl hu1 hu2 (Nat.le_of_ble_eq_true rfl) rfl (fun r7 m8 H => ?_)
    exact z_iret (pc := 30) C hr hu1 hu2 (dX12_worlds 16 rfl) ⟨rfl, _, rfl, H⟩
def wX12_world_J16 (t : zT) (m : zM) (a_0 : Nat) (Q : Int32 → zM → Prop) : Prop := (tK t a_0 = 12 ∧ (wX12_refused t m a_0 1 (fun r4 m5 => (Q r4 m5))))
set_option maxHeartbeats 4000000 in
set_option maxRecDepth 20000 in
theorem sX12_world_J16 {p : Program} {l : Launch} {e : Env} {s : State} {mt : MethodId} {args : Array Value} {below : List Frame} {meth : Method} {c : Code} {g : zG} {u : Nat × Nat} {mc ms : Nat} {t : zT} {m : zM} {a_0 : Nat} {Q : Int32 → zM → Prop} (C : zC p (zRm 6 mc ms) s mt args meth c g cX12_world 4 yX12_world.cls 6) (hr : meth.sig.returnType = (some .int)) (hm : meth.name = yX12_world.name) (hu1 : u.1 ≤ mc) (hu2 : u.2 ≤ ms) (H : wX12_world_J16 t m a_0 Q) : zW p l e (zRm 6 mc ms) s mt args below meth c g (MQ below (zQc g (zPi t Q)) args s mc ms (zFar g)) u 4 t m 16 [(0, .ref a_0)] [] := by
  unfold wX12_world_J16 at H
  refine z_aload_n (pc := 16) C (dX12_world 8 rfl) rfl 0 rfl ?_
  refine z_iconst (pc := 17) (v := 1) C (dX12_world 9 rfl) (by decide) ?_
  obtain ⟨h3, H⟩ := H
  refine zc_Vi (pc := 18) (rest := []) C YX12_refused wl_X12_47 (kX12_refused H) (by decide) h3 rfl (by decide) (dX12_world 10 rfl) rfl hu1 hu2 (Nat.le_of_ble_eq_true rfl) rfl (fun r4 m5 H => ?_)
  exact z_iret (pc := 21) C hr hu1 hu2 (dX12_world 11 rfl) ⟨rfl, _, rfl, H⟩
def wX12_world_J67 (t : zT) (m : zM) (a_0 : Nat) (x_1 : Int32) (x_2 : Int32) (x_3 : Int32) (Q : Int32 → zM → Prop) (r30 : Int32 → Int32 → zM → Prop) : Prop := (r30 x_2 (x_3 + 1) m)
set_option maxHeartbeats 4000000 in
set_option maxRecDepth 20000 in
theorem sX12_world_J67 {p : Program} {l : Launch} {e : Env} {s : State} {mt : MethodId} {args : Array Value} {below : List Frame} {meth : Method} {c : Code} {g : zG} {u : Nat × Nat} {mc ms : Nat} {t : zT} {m : zM} {a_0 : Nat} {x_1 : Int32} {x_2 : Int32} {x_3 : Int32} {Q : Int32 → zM → Prop} {r30 : Int32 → Int32 → zM → Prop} (C : zC p (zRm 6 mc ms) s mt args meth c g cX12_world 4 yX12_world.cls 6) (hr : meth.sig.returnType = (some .int)) (hm : meth.name = yX12_world.name) (hu1 : u.1 ≤ mc) (hu2 : u.2 ≤ ms)
    (R30 : ∀ (v0 : Int32) (v1 : Int32) (m : zM), r30 v0 v1 m → zW p l e (zRm 6 mc ms) s mt args below meth c g (MQ below (zQc g (zPi t Q)) args s mc ms (zFar g)) u 4 t m 30 [(0, .ref a_0), (1, .int x_1), (2, .int v0), (3, .int v1)] []) (H : wX12_world_J67 t m a_0 x_1 x_2 x_3 Q r30) : zW p l e (zRm 6 mc ms) s mt args below meth c g (MQ below (zQc g (zPi t Q)) args s mc ms (zFar g)) u 4 t m 67 [(0, .ref a_0), (1, .int x_1), (2, .int x_2), (3, .int x_3)] [] := by
  unfold wX12_world_J67 at H
  refine z_iinc (pc := 67) (i := 3) (v := x_3 + 1) (lv2 := [(3, .int (x_3 + 1)), (0, .ref a_0), (1, .int x_1), (2, .int x_2)]) C (dX12_world 37 rfl) 3 rfl (by rfl) (by decide) rfl ?_
  refine z_goto (pc := 70) (tgt := 30) C (dX12_world 38 rfl) (by decide) ?_
  refine z_sub [1, 2, 3, 0] rfl ?_
  exact R30 x_2 (x_3 + 1) m H
def wX12_world_L30 (t : zT) (a_0 : Nat) (x_1 : Int32) (Q : Int32 → zM → Prop) (k73 : zM → Prop) : Nat → Int32 → Int32 → zM → Prop
  | 0, _, _, _ => False
  | n + 1, x_2, x_3, m => (tK t a_0 = 12 ∧ (tK t (gR m a_0 3) = 11 ∧ (((gI m (gR m a_0 3) 9) ≤ x_3 → (k73 m)) ∧ (¬ (gI m (gR m a_0 3) 9) ≤ x_3 → (tK t (gR m a_0 17) = 16 ∧ (vp_in x_3 (tL t (gR m a_0 17)) ∧ (((gI m (gR m a_0 17) x_3.toNatClampNeg) = 0 → (wX12_world_J67 t m a_0 x_1 x_2 x_3 Q (wX12_world_L30 t a_0 x_1 Q k73 n))) ∧ (¬ (gI m (gR m a_0 17) x_3.toNatClampNeg) = 0 → ((x_2 = x_1 → (wX12_good t m a_0 x_3 (fun r16 m17 => (Q r16 m17)))) ∧ (¬ x_2 = x_1 → (wX12_world_J67 t m a_0 x_1 (x_2 + 1) x_3 Q (wX12_world_L30 t a_0 x_1 Q k73 n))))))))))))
set_option maxHeartbeats 4000000 in
set_option maxRecDepth 20000 in
theorem sX12_world_L30 {p : Program} {l : Launch} {e : Env} {s : State} {mt : MethodId} {args : Array Value} {below : List Frame} {meth : Method} {c : Code} {g : zG} {u : Nat × Nat} {mc ms : Nat} {t : zT} {a_0 : Nat} {x_1 : Int32} {Q : Int32 → zM → Prop} {k73 : zM → Prop} (C : zC p (zRm 6 mc ms) s mt args meth c g cX12_world 4 yX12_world.cls 6) (hr : meth.sig.returnType = (some .int)) (hm : meth.name = yX12_world.name) (hu1 : u.1 ≤ mc) (hu2 : u.2 ≤ ms)
    (K73 : ∀ (m : zM), k73 m → zW p l e (zRm 6 mc ms) s mt args below meth c g (MQ below (zQc g (zPi t Q)) args s mc ms (zFar g)) u 4 t m 73 [(0, .ref a_0)] []) : ∀ (n : Nat) (x_2 : Int32) (x_3 : Int32) (m : zM), wX12_world_L30 t a_0 x_1 Q k73 n x_2 x_3 m → zW p l e (zRm 6 mc ms) s mt args below meth c g (MQ below (zQc g (zPi t Q)) args s mc ms (zFar g)) u 4 t m 30 [(0, .ref a_0), (1, .int x_1), (2, .int x_2), (3, .int x_3)] [] := by
  intro n
  induction n with
  | zero => intro x_2 x_3 m H; exact H.elim
  | succ n ih =>
    intro x_2 x_3 m H
    simp only [wX12_world_L30] at H
    refine z_iload_n (pc := 30) C (dX12_world 18 rfl) rfl 3 rfl ?_
    refine z_aload_n (pc := 31) C (dX12_world 19 rfl) rfl 0 rfl ?_
    obtain ⟨h9, H⟩ := H
    refine z_getR (pc := 32) C zc12 h9 3 (by decide) rfl wf_X12_314 (dX12_world 20 rfl) ?_
    obtain ⟨h10, H⟩ := H
    refine z_getIN (pc := 35) C zc11 h10 9 (by decide) rfl wn_X12_217 (dX12_world 21 rfl) ?_
    refine z_icmp_ge (pc := 38) (tgt := 73) C (dX12_world 22 rfl) (by decide) (fun c11 => ?_) (fun c11 => ?_)
    · replace H := H.1 c11
      refine z_sub [0] rfl ?_
      exact K73 m H
    · replace H := H.2 c11
      refine z_aload_n (pc := 41) C (dX12_world 23 rfl) rfl 0 rfl ?_
      refine z_getR (pc := 42) C zc12 h9 17 (by decide) rfl wf_X12_21 (dX12_world 24 rfl) ?_
      refine z_iload_n (pc := 45) C (dX12_world 25 rfl) rfl 3 rfl ?_
      obtain ⟨h12, H⟩ := H
      obtain ⟨h13, H⟩ := H
      refine z_zaload (pc := 46) C h12 h13 (dX12_world 26 rfl) ?_
      refine z_if_ne (pc := 47) (tgt := 53) C (dX12_world 27 rfl) (by decide) (fun c14 => ?_) (fun c14 => ?_)
      · replace H := H.2 c14
        refine z_iload_n (pc := 53) C (dX12_world 29 rfl) rfl 2 rfl ?_
        refine z_iload_n (pc := 54) C (dX12_world 30 rfl) rfl 1 rfl ?_
        refine z_icmp_ne (pc := 55) (tgt := 64) C (dX12_world 31 rfl) (by decide) (fun c15 => ?_) (fun c15 => ?_)
        · replace H := H.2 c15
          refine z_iinc (pc := 64) (i := 2) (v := x_2 + 1) (lv2 := [(2, .int (x_2 + 1)), (0, .ref a_0), (1, .int x_1), (3, .int x_3)]) C (dX12_world 36 rfl) 2 rfl (by rfl) (by decide) rfl ?_
          refine z_sub [1, 2, 0, 3] rfl ?_
          exact sX12_world_J67 C hr hm hu1 hu2 ih H
        · replace H := H.1 c15
          refine z_aload_n (pc := 58) C (dX12_world 32 rfl) rfl 0 rfl ?_
          refine z_iload_n (pc := 59) C (dX12_world 33 rfl) rfl 3 rfl ?_
          refine zc_Vi (pc := 60) (rest := []) C YX12_good wl_X12_51 (kX12_good H) (by decide) h9 rfl (by decide) (dX12_world 34 rfl) rfl hu1 hu2 (Nat.le_of_ble_eq_true rfl) rfl (fun r16 m17 H => ?_)
          exact z_iret (pc := 63) C hr hu1 hu2 (dX12_world 35 rfl) ⟨rfl, _, rfl, H⟩
      · replace H := H.1 c14
        refine z_goto (pc := 50) (tgt := 67) C (dX12_world 28 rfl) (by decide) ?_
        refine z_sub [0, 1, 2, 3] rfl ?_
        exact sX12_world_J67 C hr hm hu1 hu2 ih H
def wX12_world (t : zT) (m : zM) (a : Nat) (p1 : Int32) (Q : Int32 → zM → Prop) : Prop := (tK t a = 12 ∧ (((gR m a 3) = 0 → (wX12_world_J16 t (pI m a 0 0) a Q)) ∧ (¬ (gR m a 3) = 0 → (((0 : Int32) ≤ p1 → (wX12_asksWorlds t (pI m a 0 0) a (fun m8 => (∃ n21, wX12_world_L30 t a p1 Q (fun m18 => (wX12_refused t m18 a 1 (fun r19 m20 => (Q r19 m20)))) n21 0 0 m8)))) ∧ (¬ (0 : Int32) ≤ p1 → (wX12_world_J16 t (pI m a 0 0) a Q))))))
set_option maxHeartbeats 4000000 in
set_option maxRecDepth 20000 in
theorem kX12_world {l : Launch} {t : zT} {m : zM} {a : Nat} {p1 : Int32} {Q : Int32 → zM → Prop} (H : wX12_world t m a p1 Q) : zMet l yX12_world cX12_world 4 (some .int) 6 0 0 t m [.ref a, .int p1] (zPi t Q) := by
  refine zmet (by decide +kernel) (Nat.le_of_ble_eq_true rfl) ?_
  intro p e s mt args below meth c g C hr hm
  unfold wX12_world at H
  have hu1 : ((0, 0) : Nat × Nat).1 ≤ 0 := Nat.le_refl 0
  have hu2 : ((0, 0) : Nat × Nat).2 ≤ 0 := Nat.le_refl 0
  refine z_aload_n (pc := 0) C (dX12_world 0 rfl) rfl 0 rfl ?_
  refine z_iconst (pc := 1) (v := 0) C (dX12_world 1 rfl) (by decide) ?_
  obtain ⟨h1, H⟩ := H
  refine z_putI (pc := 2) C zc12 h1 0 (by decide) rfl rfl wf_X12_41 (dX12_world 2 rfl) ?_
  refine z_aload_n (pc := 5) C (dX12_world 3 rfl) rfl 0 rfl ?_
  refine z_getR (pc := 6) C zc12 h1 3 (by decide) rfl wf_X12_314 (dX12_world 4 rfl) ?_
  refine z_ifnull (pc := 9) (tgt := 16) C (dX12_world 5 rfl) (by decide) (fun c2 => ?_) (fun c2 => ?_)
  · replace H := H.1 c2
    refine z_sub [0] rfl ?_
    exact sX12_world_J16 C hr hm hu1 hu2 H
  · replace H := H.2 c2
    refine z_iload_n (pc := 12) C (dX12_world 6 rfl) rfl 1 rfl ?_
    refine z_if_ge (pc := 13) (tgt := 22) C (dX12_world 7 rfl) (by decide) (fun c6 => ?_) (fun c6 => ?_)
    · replace H := H.1 c6
      refine z_aload_n (pc := 22) C (dX12_world 12 rfl) rfl 0 rfl ?_
      refine zc_Vv (pc := 23) (rest := []) C YX12_asksWorlds wl_X12_358 (kX12_asksWorlds H) (by decide) h1 rfl (by decide) (dX12_world 13 rfl) rfl hu1 hu2 (Nat.le_of_ble_eq_true rfl) rfl (fun m8 H => ?_)
      refine z_iconst (pc := 26) (v := 0) C (dX12_world 14 rfl) (by decide) ?_
      refine z_istore_n (pc := 27) (i := 2) (lv2 := [(2, .int 0), (0, .ref a), (1, .int p1)]) C (dX12_world 15 rfl) rfl (by decide) rfl ?_
      refine z_iconst (pc := 28) (v := 0) C (dX12_world 16 rfl) (by decide) ?_
      refine z_istore_n (pc := 29) (i := 3) (lv2 := [(3, .int 0), (2, .int 0), (0, .ref a), (1, .int p1)]) C (dX12_world 17 rfl) rfl (by decide) rfl ?_
      obtain ⟨n21, H⟩ := H
      refine z_sub [2, 3, 1, 0] rfl ?_
      refine sX12_world_L30 C hr hm hu1 hu2 (fun m18 H => ?_) n21 0 0 m8 H
      refine z_aload_n (pc := 73) C (dX12_world 39 rfl) rfl 0 rfl ?_
      refine z_iconst (pc := 74) (v := 1) C (dX12_world 40 rfl) (by decide) ?_
      refine zc_Vi (pc := 75) (rest := []) C YX12_refused wl_X12_47 (kX12_refused H) (by decide) h1 rfl (by decide) (dX12_world 41 rfl) rfl hu1 hu2 (Nat.le_of_ble_eq_true rfl) rfl (fun r19 m20 H => ?_)
      exact z_iret (pc := 78) C hr hu1 hu2 (dX12_world 42 rfl) ⟨rfl, _, rfl, H⟩
    · replace H := H.2 c6
      refine z_sub [0] rfl ?_
      exact sX12_world_J16 C hr hm hu1 hu2 H
def wX12_lawful_J61 (t : zT) (m : zM) (a_0 : Nat) (Q : Int32 → zM → Prop) : Prop := (tK t a_0 = 12 ∧ (wX12_refused t m a_0 1 (fun r4 m5 => (Q r4 m5))))
set_option maxHeartbeats 4000000 in
set_option maxRecDepth 20000 in
theorem sX12_lawful_J61 {p : Program} {l : Launch} {e : Env} {s : State} {mt : MethodId} {args : Array Value} {below : List Frame} {meth : Method} {c : Code} {g : zG} {u : Nat × Nat} {mc ms : Nat} {t : zT} {m : zM} {a_0 : Nat} {Q : Int32 → zM → Prop} (C : zC p (zRm 4 mc ms) s mt args meth c g cX12_lawful 2 yX12_lawful.cls 4) (hr : meth.sig.returnType = (some .int)) (hm : meth.name = yX12_lawful.name) (hu1 : u.1 ≤ mc) (hu2 : u.2 ≤ ms) (H : wX12_lawful_J61 t m a_0 Q) : zW p l e (zRm 4 mc ms) s mt args below meth c g (MQ below (zQc g (zPi t Q)) args s mc ms (zFar g)) u 2 t m 61 [(0, .ref a_0)] [] := by
  unfold wX12_lawful_J61 at H
  refine z_aload_n (pc := 61) C (dX12_lawful 29 rfl) rfl 0 rfl ?_
  refine z_iconst (pc := 62) (v := 1) C (dX12_lawful 30 rfl) (by decide) ?_
  obtain ⟨h3, H⟩ := H
  refine zc_Vi (pc := 63) (rest := []) C YX12_refused wl_X12_47 (kX12_refused H) (by decide) h3 rfl (by decide) (dX12_lawful 31 rfl) rfl hu1 hu2 (Nat.le_of_ble_eq_true rfl) rfl (fun r4 m5 H => ?_)
  exact z_iret (pc := 66) C hr hu1 hu2 (dX12_lawful 32 rfl) ⟨rfl, _, rfl, H⟩
def wX12_lawful_J55 (t : zT) (m : zM) (s_0 : Int32) (s_1 : Nat) (Q : Int32 → zM → Prop) : Prop := (tK t s_1 = 12 ∧ (wX12_good t m s_1 s_0 (fun r16 m17 => (Q r16 m17))))
set_option maxHeartbeats 4000000 in
set_option maxRecDepth 20000 in
theorem sX12_lawful_J55 {p : Program} {l : Launch} {e : Env} {s : State} {mt : MethodId} {args : Array Value} {below : List Frame} {meth : Method} {c : Code} {g : zG} {u : Nat × Nat} {mc ms : Nat} {t : zT} {m : zM} {s_0 : Int32} {s_1 : Nat} {Q : Int32 → zM → Prop} (C : zC p (zRm 4 mc ms) s mt args meth c g cX12_lawful 2 yX12_lawful.cls 4) (hr : meth.sig.returnType = (some .int)) (hm : meth.name = yX12_lawful.name) (hu1 : u.1 ≤ mc) (hu2 : u.2 ≤ ms) (H : wX12_lawful_J55 t m s_0 s_1 Q) : zW p l e (zRm 4 mc ms) s mt args below meth c g (MQ below (zQc g (zPi t Q)) args s mc ms (zFar g)) u 2 t m 55 [] [.int s_0, .ref s_1] := by
  unfold wX12_lawful_J55 at H
  obtain ⟨h15, H⟩ := H
  refine zc_Vi (pc := 55) (rest := []) C YX12_good wl_X12_51 (kX12_good H) (by decide) h15 rfl (by decide) (dX12_lawful 27 rfl) rfl hu1 hu2 (Nat.le_of_ble_eq_true rfl) rfl (fun r16 m17 H => ?_)
  refine z_goto (pc := 58) (tgt := 66) C (dX12_lawful 28 rfl) (by decide) ?_
  exact z_iret (pc := 66) C hr hu1 hu2 (dX12_lawful 32 rfl) ⟨rfl, _, rfl, H⟩
def wX12_lawful (t : zT) (m : zM) (a : Nat) (p1 : Int32) (Q : Int32 → zM → Prop) : Prop := (tK t a = 12 ∧ (((gR m a 3) = 0 → (wX12_lawful_J61 t (pI m a 0 0) a Q)) ∧ (¬ (gR m a 3) = 0 → ((p1 < 0 → (wX12_lawful_J61 t (pI m a 0 0) a Q)) ∧ (¬ p1 < 0 → (tK t (gR m a 3) = 11 ∧ (((gI (pI m a 0 0) (gR m a 3) 9) ≤ p1 → (wX12_lawful_J61 t (pI m a 0 0) a Q)) ∧ (¬ (gI (pI m a 0 0) (gR m a 3) 9) ≤ p1 → (wX11_allSayings t (pI m a 0 0) (gR m a 3) (fun r9 m10 => (tK t (gR m10 a 3) = 11 ∧ (wX12_isLawful t m10 a p1 r9 (gI m10 (gR m10 a 3) 6) (fun r12 m13 => ((r12 = 0 → (wX12_lawful_J55 t m13 0 a Q)) ∧ (¬ r12 = 0 → (wX12_lawful_J55 t m13 1 a Q))))))))))))))))
set_option maxHeartbeats 4000000 in
set_option maxRecDepth 20000 in
theorem kX12_lawful {l : Launch} {t : zT} {m : zM} {a : Nat} {p1 : Int32} {Q : Int32 → zM → Prop} (H : wX12_lawful t m a p1 Q) : zMet l yX12_lawful cX12_lawful 2 (some .int) 4 0 0 t m [.ref a, .int p1] (zPi t Q) := by
  refine zmet (by decide +kernel) (Nat.le_of_ble_eq_true rfl) ?_
  intro p e s mt args below meth c g C hr hm
  unfold wX12_lawful at H
  have hu1 : ((0, 0) : Nat × Nat).1 ≤ 0 := Nat.le_refl 0
  have hu2 : ((0, 0) : Nat × Nat).2 ≤ 0 := Nat.le_refl 0
  refine z_aload_n (pc := 0) C (dX12_lawful 0 rfl) rfl 0 rfl ?_
  refine z_iconst (pc := 1) (v := 0) C (dX12_lawful 1 rfl) (by decide) ?_
  obtain ⟨h1, H⟩ := H
  refine z_putI (pc := 2) C zc12 h1 0 (by decide) rfl rfl wf_X12_41 (dX12_lawful 2 rfl) ?_
  refine z_aload_n (pc := 5) C (dX12_lawful 3 rfl) rfl 0 rfl ?_
  refine z_getR (pc := 6) C zc12 h1 3 (by decide) rfl wf_X12_314 (dX12_lawful 4 rfl) ?_
  refine z_ifnull (pc := 9) (tgt := 61) C (dX12_lawful 5 rfl) (by decide) (fun c2 => ?_) (fun c2 => ?_)
  · replace H := H.1 c2
    refine z_sub [0] rfl ?_
    exact sX12_lawful_J61 C hr hm hu1 hu2 H
  · replace H := H.2 c2
    refine z_iload_n (pc := 12) C (dX12_lawful 6 rfl) rfl 1 rfl ?_
    refine z_if_lt (pc := 13) (tgt := 61) C (dX12_lawful 7 rfl) (by decide) (fun c6 => ?_) (fun c6 => ?_)
    · replace H := H.1 c6
      refine z_sub [0] rfl ?_
      exact sX12_lawful_J61 C hr hm hu1 hu2 H
    · replace H := H.2 c6
      refine z_iload_n (pc := 16) C (dX12_lawful 8 rfl) rfl 1 rfl ?_
      refine z_aload_n (pc := 17) C (dX12_lawful 9 rfl) rfl 0 rfl ?_
      refine z_getR (pc := 18) C zc12 h1 3 (by decide) rfl wf_X12_314 (dX12_lawful 10 rfl) ?_
      obtain ⟨h7, H⟩ := H
      refine z_getIN (pc := 21) C zc11 h7 9 (by decide) rfl wn_X12_217 (dX12_lawful 11 rfl) ?_
      refine z_icmp_ge (pc := 24) (tgt := 61) C (dX12_lawful 12 rfl) (by decide) (fun c8 => ?_) (fun c8 => ?_)
      · replace H := H.1 c8
        refine z_sub [0] rfl ?_
        exact sX12_lawful_J61 C hr hm hu1 hu2 H
      · replace H := H.2 c8
        refine z_aload_n (pc := 27) C (dX12_lawful 13 rfl) rfl 0 rfl ?_
        refine z_aload_n (pc := 28) C (dX12_lawful 14 rfl) rfl 0 rfl ?_
        refine z_iload_n (pc := 29) C (dX12_lawful 15 rfl) rfl 1 rfl ?_
        refine z_aload_n (pc := 30) C (dX12_lawful 16 rfl) rfl 0 rfl ?_
        refine z_getR (pc := 31) C zc12 h1 3 (by decide) rfl wf_X12_314 (dX12_lawful 17 rfl) ?_
        refine zc_Vi (pc := 34) (rest := [.int p1, .ref a, .ref a]) C YX11_allSayings wl_X12_348 (kX11_allSayings H) (by decide) h7 rfl (by decide) (dX12_lawful 18 rfl) rfl hu1 hu2 (Nat.le_of_ble_eq_true rfl) rfl (fun r9 m10 H => ?_)
        refine z_aload_n (pc := 37) C (dX12_lawful 19 rfl) rfl 0 rfl ?_
        refine z_getR (pc := 38) C zc12 h1 3 (by decide) rfl wf_X12_314 (dX12_lawful 20 rfl) ?_
        obtain ⟨h11, H⟩ := H
        refine z_getIN (pc := 41) C zc11 h11 6 (by decide) rfl wn_X12_269 (dX12_lawful 21 rfl) ?_
        refine zc_Vi (pc := 44) (rest := [.ref a]) C YX12_isLawful wl_X12_342 (kX12_isLawful H) (by decide) h1 rfl (by decide) (dX12_lawful 22 rfl) rfl hu1 hu2 (Nat.le_of_ble_eq_true rfl) rfl (fun r12 m13 H => ?_)
        refine z_if_eq (pc := 47) (tgt := 54) C (dX12_lawful 23 rfl) (by decide) (fun c14 => ?_) (fun c14 => ?_)
        · replace H := H.1 c14
          refine z_iconst (pc := 54) (v := 0) C (dX12_lawful 26 rfl) (by decide) ?_
          refine z_sub [] rfl ?_
          exact sX12_lawful_J55 C hr hm hu1 hu2 H
        · replace H := H.2 c14
          refine z_iconst (pc := 50) (v := 1) C (dX12_lawful 24 rfl) (by decide) ?_
          refine z_goto (pc := 51) (tgt := 55) C (dX12_lawful 25 rfl) (by decide) ?_
          refine z_sub [] rfl ?_
          exact sX12_lawful_J55 C hr hm hu1 hu2 H
def wX12_isAnyLawful_L2 (t : zT) (a_0 : Nat) (x_1 : Int32) (Q : Int32 → zM → Prop) (k37 : zM → Prop) : Nat → Int32 → zM → Prop
  | 0, _, _ => False
  | n + 1, x_2, m => (tK t a_0 = 12 ∧ (tK t (gR m a_0 3) = 11 ∧ (((gI m (gR m a_0 3) 9) ≤ x_2 → (k37 m)) ∧ (¬ (gI m (gR m a_0 3) 9) ≤ x_2 → (wX12_isLawful t m a_0 x_2 x_1 (gI m (gR m a_0 3) 6) (fun r4 m5 => ((r4 = 0 → (wX12_isAnyLawful_L2 t a_0 x_1 Q k37 n (x_2 + 1) m5)) ∧ (¬ r4 = 0 → (Q 1 m5)))))))))
set_option maxHeartbeats 4000000 in
set_option maxRecDepth 20000 in
theorem sX12_isAnyLawful_L2 {p : Program} {l : Launch} {e : Env} {s : State} {mt : MethodId} {args : Array Value} {below : List Frame} {meth : Method} {c : Code} {g : zG} {u : Nat × Nat} {mc ms : Nat} {t : zT} {a_0 : Nat} {x_1 : Int32} {Q : Int32 → zM → Prop} {k37 : zM → Prop} (C : zC p (zRm 4 mc ms) s mt args meth c g cX12_isAnyLawful 3 yX12_isAnyLawful.cls 4) (hr : meth.sig.returnType = (some .boolean)) (hm : meth.name = yX12_isAnyLawful.name) (hu1 : u.1 ≤ mc) (hu2 : u.2 ≤ ms)
    (K37 : ∀ (m : zM), k37 m → zW p l e (zRm 4 mc ms) s mt args below meth c g (MQ below (zQc g (zPi t Q)) args s mc ms (zFar g)) u 3 t m 37 [] []) : ∀ (n : Nat) (x_2 : Int32) (m : zM), wX12_isAnyLawful_L2 t a_0 x_1 Q k37 n x_2 m → zW p l e (zRm 4 mc ms) s mt args below meth c g (MQ below (zQc g (zPi t Q)) args s mc ms (zFar g)) u 3 t m 2 [(0, .ref a_0), (1, .int x_1), (2, .int x_2)] [] := by
  intro n
  induction n with
  | zero => intro x_2 m H; exact H.elim
  | succ n ih =>
    intro x_2 m H
    simp only [wX12_isAnyLawful_L2] at H
    refine z_iload_n (pc := 2) C (dX12_isAnyLawful 2 rfl) rfl 2 rfl ?_
    refine z_aload_n (pc := 3) C (dX12_isAnyLawful 3 rfl) rfl 0 rfl ?_
    obtain ⟨h1, H⟩ := H
    refine z_getR (pc := 4) C zc12 h1 3 (by decide) rfl wf_X12_314 (dX12_isAnyLawful 4 rfl) ?_
    obtain ⟨h2, H⟩ := H
    refine z_getIN (pc := 7) C zc11 h2 9 (by decide) rfl wn_X12_217 (dX12_isAnyLawful 5 rfl) ?_
    refine z_icmp_ge (pc := 10) (tgt := 37) C (dX12_isAnyLawful 6 rfl) (by decide) (fun c3 => ?_) (fun c3 => ?_)
    · replace H := H.1 c3
      refine z_sub [] rfl ?_
      exact K37 m H
    · replace H := H.2 c3
      refine z_aload_n (pc := 13) C (dX12_isAnyLawful 7 rfl) rfl 0 rfl ?_
      refine z_iload_n (pc := 14) C (dX12_isAnyLawful 8 rfl) rfl 2 rfl ?_
      refine z_iload_n (pc := 15) C (dX12_isAnyLawful 9 rfl) rfl 1 rfl ?_
      refine z_aload_n (pc := 16) C (dX12_isAnyLawful 10 rfl) rfl 0 rfl ?_
      refine z_getR (pc := 17) C zc12 h1 3 (by decide) rfl wf_X12_314 (dX12_isAnyLawful 11 rfl) ?_
      refine z_getIN (pc := 20) C zc11 h2 6 (by decide) rfl wn_X12_269 (dX12_isAnyLawful 12 rfl) ?_
      refine zc_Vi (pc := 23) (rest := []) C YX12_isLawful wl_X12_342 (kX12_isLawful H) (by decide) h1 rfl (by decide) (dX12_isAnyLawful 13 rfl) rfl hu1 hu2 (Nat.le_of_ble_eq_true rfl) rfl (fun r4 m5 H => ?_)
      refine z_if_eq (pc := 26) (tgt := 31) C (dX12_isAnyLawful 14 rfl) (by decide) (fun c6 => ?_) (fun c6 => ?_)
      · replace H := H.1 c6
        refine z_iinc (pc := 31) (i := 2) (v := x_2 + 1) (lv2 := [(2, .int (x_2 + 1)), (0, .ref a_0), (1, .int x_1)]) C (dX12_isAnyLawful 17 rfl) 2 rfl (by rfl) (by decide) rfl ?_
        refine z_goto (pc := 34) (tgt := 2) C (dX12_isAnyLawful 18 rfl) (by decide) ?_
        refine z_sub [1, 2, 0] rfl ?_
        exact ih (x_2 + 1) m5 H
      · replace H := H.2 c6
        refine z_iconst (pc := 29) (v := 1) C (dX12_isAnyLawful 15 rfl) (by decide) ?_
        exact z_zret (pc := 30) C hr (by decide) hu1 hu2 (dX12_isAnyLawful 16 rfl) ⟨rfl, _, rfl, H⟩
def wX12_isAnyLawful (t : zT) (m : zM) (a : Nat) (p1 : Int32) (Q : Int32 → zM → Prop) : Prop := (∃ n8, wX12_isAnyLawful_L2 t a p1 Q (fun m7 => (Q 0 m7)) n8 0 m)
set_option maxHeartbeats 4000000 in
set_option maxRecDepth 20000 in
theorem kX12_isAnyLawful {l : Launch} {t : zT} {m : zM} {a : Nat} {p1 : Int32} {Q : Int32 → zM → Prop} (H : wX12_isAnyLawful t m a p1 Q) : zMet l yX12_isAnyLawful cX12_isAnyLawful 3 (some .boolean) 4 0 0 t m [.ref a, .int p1] (zPi t Q) := by
  refine zmet (by decide +kernel) (Nat.le_of_ble_eq_true rfl) ?_
  intro p e s mt args below meth c g C hr hm
  unfold wX12_isAnyLawful at H
  have hu1 : ((0, 0) : Nat × Nat).1 ≤ 0 := Nat.le_refl 0
  have hu2 : ((0, 0) : Nat × Nat).2 ≤ 0 := Nat.le_refl 0
  refine z_iconst (pc := 0) (v := 0) C (dX12_isAnyLawful 0 rfl) (by decide) ?_
  refine z_istore_n (pc := 1) (i := 2) (lv2 := [(2, .int 0), (0, .ref a), (1, .int p1)]) C (dX12_isAnyLawful 1 rfl) rfl (by decide) rfl ?_
  obtain ⟨n8, H⟩ := H
  refine z_sub [1, 2, 0] rfl ?_
  refine sX12_isAnyLawful_L2 C hr hm hu1 hu2 (fun m7 H => ?_) n8 0 m H
  refine z_iconst (pc := 37) (v := 0) C (dX12_isAnyLawful 19 rfl) (by decide) ?_
  exact z_zret (pc := 38) C hr (by decide) hu1 hu2 (dX12_isAnyLawful 20 rfl) ⟨rfl, _, rfl, H⟩
def wX12_culprit_L20 (t : zT) (a_0 : Nat) (Q : Int32 → zM → Prop) (k55 : zM → Prop) : Nat → Int32 → zM → Prop
  | 0, _, _ => False
  | n + 1, x_1, m => (tK t a_0 = 12 ∧ (tK t (gR m a_0 3) = 11 ∧ (((gI m (gR m a_0 3) 3) ≤ x_1 → (k55 m)) ∧ (¬ (gI m (gR m a_0 3) 3) ≤ x_1 → (wX12_isAnyLawful t m a_0 (((2 : Int32) <<< (x_1 &&& 31)) - (1 : Int32)) (fun r8 m9 => ((r8 = 0 → (wX12_good t m9 a_0 x_1 (fun r11 m12 => (Q r11 m12)))) ∧ (¬ r8 = 0 → (wX12_culprit_L20 t a_0 Q k55 n (x_1 + 1) m9)))))))))
set_option maxHeartbeats 4000000 in
set_option maxRecDepth 20000 in
theorem sX12_culprit_L20 {p : Program} {l : Launch} {e : Env} {s : State} {mt : MethodId} {args : Array Value} {below : List Frame} {meth : Method} {c : Code} {g : zG} {u : Nat × Nat} {mc ms : Nat} {t : zT} {a_0 : Nat} {Q : Int32 → zM → Prop} {k55 : zM → Prop} (C : zC p (zRm 5 mc ms) s mt args meth c g cX12_culprit 2 yX12_culprit.cls 5) (hr : meth.sig.returnType = (some .int)) (hm : meth.name = yX12_culprit.name) (hu1 : u.1 ≤ mc) (hu2 : u.2 ≤ ms)
    (K55 : ∀ (m : zM), k55 m → zW p l e (zRm 5 mc ms) s mt args below meth c g (MQ below (zQc g (zPi t Q)) args s mc ms (zFar g)) u 2 t m 55 [(0, .ref a_0)] []) : ∀ (n : Nat) (x_1 : Int32) (m : zM), wX12_culprit_L20 t a_0 Q k55 n x_1 m → zW p l e (zRm 5 mc ms) s mt args below meth c g (MQ below (zQc g (zPi t Q)) args s mc ms (zFar g)) u 2 t m 20 [(0, .ref a_0), (1, .int x_1)] [] := by
  intro n
  induction n with
  | zero => intro x_1 m H; exact H.elim
  | succ n ih =>
    intro x_1 m H
    simp only [wX12_culprit_L20] at H
    refine z_iload_n (pc := 20) C (dX12_culprit 12 rfl) rfl 1 rfl ?_
    refine z_aload_n (pc := 21) C (dX12_culprit 13 rfl) rfl 0 rfl ?_
    obtain ⟨h5, H⟩ := H
    refine z_getR (pc := 22) C zc12 h5 3 (by decide) rfl wf_X12_314 (dX12_culprit 14 rfl) ?_
    obtain ⟨h6, H⟩ := H
    refine z_getIN (pc := 25) C zc11 h6 3 (by decide) rfl wn_X12_277 (dX12_culprit 15 rfl) ?_
    refine z_icmp_ge (pc := 28) (tgt := 55) C (dX12_culprit 16 rfl) (by decide) (fun c7 => ?_) (fun c7 => ?_)
    · replace H := H.1 c7
      refine z_sub [0] rfl ?_
      exact K55 m H
    · replace H := H.2 c7
      refine z_aload_n (pc := 31) C (dX12_culprit 17 rfl) rfl 0 rfl ?_
      refine z_iconst (pc := 32) (v := 2) C (dX12_culprit 18 rfl) (by decide) ?_
      refine z_iload_n (pc := 33) C (dX12_culprit 19 rfl) rfl 1 rfl ?_
      refine z_ishl (pc := 34) C (dX12_culprit 20 rfl) ?_
      refine z_iconst (pc := 35) (v := 1) C (dX12_culprit 21 rfl) (by decide) ?_
      refine z_isub (pc := 36) C (dX12_culprit 22 rfl) ?_
      refine zc_Vi (pc := 37) (rest := []) C YX12_isAnyLawful wl_X12_361 (kX12_isAnyLawful H) (by decide) h5 rfl (by decide) (dX12_culprit 23 rfl) rfl hu1 hu2 (Nat.le_of_ble_eq_true rfl) rfl (fun r8 m9 H => ?_)
      refine z_if_ne (pc := 40) (tgt := 49) C (dX12_culprit 24 rfl) (by decide) (fun c10 => ?_) (fun c10 => ?_)
      · replace H := H.2 c10
        refine z_iinc (pc := 49) (i := 1) (v := x_1 + 1) (lv2 := [(1, .int (x_1 + 1)), (0, .ref a_0)]) C (dX12_culprit 29 rfl) 1 rfl (by rfl) (by decide) rfl ?_
        refine z_goto (pc := 52) (tgt := 20) C (dX12_culprit 30 rfl) (by decide) ?_
        refine z_sub [1, 0] rfl ?_
        exact ih (x_1 + 1) m9 H
      · replace H := H.1 c10
        refine z_aload_n (pc := 43) C (dX12_culprit 25 rfl) rfl 0 rfl ?_
        refine z_iload_n (pc := 44) C (dX12_culprit 26 rfl) rfl 1 rfl ?_
        refine zc_Vi (pc := 45) (rest := []) C YX12_good wl_X12_51 (kX12_good H) (by decide) h5 rfl (by decide) (dX12_culprit 27 rfl) rfl hu1 hu2 (Nat.le_of_ble_eq_true rfl) rfl (fun r11 m12 H => ?_)
        exact z_iret (pc := 48) C hr hu1 hu2 (dX12_culprit 28 rfl) ⟨rfl, _, rfl, H⟩
def wX12_culprit (t : zT) (m : zM) (a : Nat) (Q : Int32 → zM → Prop) : Prop := (tK t a = 12 ∧ (((gR m a 3) = 0 → (wX12_refused t (pI m a 0 0) a 1 (fun r3 m4 => (Q r3 m4)))) ∧ (¬ (gR m a 3) = 0 → (∃ n16, wX12_culprit_L20 t a Q (fun m13 => (wX12_good t m13 a (-2) (fun r14 m15 => (Q r14 m15)))) n16 0 (pI m a 0 0)))))
set_option maxHeartbeats 4000000 in
set_option maxRecDepth 20000 in
theorem kX12_culprit {l : Launch} {t : zT} {m : zM} {a : Nat} {Q : Int32 → zM → Prop} (H : wX12_culprit t m a Q) : zMet l yX12_culprit cX12_culprit 2 (some .int) 5 0 0 t m [.ref a] (zPi t Q) := by
  refine zmet (by decide +kernel) (Nat.le_of_ble_eq_true rfl) ?_
  intro p e s mt args below meth c g C hr hm
  unfold wX12_culprit at H
  have hu1 : ((0, 0) : Nat × Nat).1 ≤ 0 := Nat.le_refl 0
  have hu2 : ((0, 0) : Nat × Nat).2 ≤ 0 := Nat.le_refl 0
  refine z_aload_n (pc := 0) C (dX12_culprit 0 rfl) rfl 0 rfl ?_
  refine z_iconst (pc := 1) (v := 0) C (dX12_culprit 1 rfl) (by decide) ?_
  obtain ⟨h1, H⟩ := H
  refine z_putI (pc := 2) C zc12 h1 0 (by decide) rfl rfl wf_X12_41 (dX12_culprit 2 rfl) ?_
  refine z_aload_n (pc := 5) C (dX12_culprit 3 rfl) rfl 0 rfl ?_
  refine z_getR (pc := 6) C zc12 h1 3 (by decide) rfl wf_X12_314 (dX12_culprit 4 rfl) ?_
  refine z_ifnonnull (pc := 9) (tgt := 18) C (dX12_culprit 5 rfl) (by decide) (fun c2 => ?_) (fun c2 => ?_)
  · replace H := H.1 c2
    refine z_aload_n (pc := 12) C (dX12_culprit 6 rfl) rfl 0 rfl ?_
    refine z_iconst (pc := 13) (v := 1) C (dX12_culprit 7 rfl) (by decide) ?_
    refine zc_Vi (pc := 14) (rest := []) C YX12_refused wl_X12_47 (kX12_refused H) (by decide) h1 rfl (by decide) (dX12_culprit 8 rfl) rfl hu1 hu2 (Nat.le_of_ble_eq_true rfl) rfl (fun r3 m4 H => ?_)
    exact z_iret (pc := 17) C hr hu1 hu2 (dX12_culprit 9 rfl) ⟨rfl, _, rfl, H⟩
  · replace H := H.2 c2
    refine z_iconst (pc := 18) (v := 0) C (dX12_culprit 10 rfl) (by decide) ?_
    refine z_istore_n (pc := 19) (i := 1) (lv2 := [(1, .int 0), (0, .ref a)]) C (dX12_culprit 11 rfl) rfl (by decide) rfl ?_
    obtain ⟨n16, H⟩ := H
    refine z_sub [1, 0] rfl ?_
    refine sX12_culprit_L20 C hr hm hu1 hu2 (fun m13 H => ?_) n16 0 (pI m a 0 0) H
    refine z_aload_n (pc := 55) C (dX12_culprit 31 rfl) rfl 0 rfl ?_
    refine z_bipush (pc := 56) (v := (-2)) C (dX12_culprit 32 rfl) (by decide) ?_
    refine zc_Vi (pc := 58) (rest := []) C YX12_good wl_X12_51 (kX12_good H) (by decide) h1 rfl (by decide) (dX12_culprit 33 rfl) rfl hu1 hu2 (Nat.le_of_ble_eq_true rfl) rfl (fun r14 m15 H => ?_)
    exact z_iret (pc := 61) C hr hu1 hu2 (dX12_culprit 34 rfl) ⟨rfl, _, rfl, H⟩
def wX12_sure (t : zT) (m : zM) (a : Nat) (p1 : Int32) (Q : Int32 → zM → Prop) : Prop := (tK t a = 12 ∧ (wX12_isThing t (pI m a 0 0) a p1 (fun r2 m3 => ((r2 = 0 → (wX12_refused t m3 a 1 (fun r14 m15 => (Q r14 m15)))) ∧ (¬ r2 = 0 → (wX12_asksWorlds t m3 a (fun m6 => (((gI m6 a 19) = 0 → (wX12_refused t m6 a 6 (fun r12 m13 => (Q r12 m13)))) ∧ (¬ (gI m6 a 19) = 0 → (wX12_one t m6 a p1 (fun r8 m9 => (wX12_good t m9 a r8 (fun r10 m11 => (Q r10 m11))))))))))))))
set_option maxHeartbeats 4000000 in
set_option maxRecDepth 20000 in
theorem kX12_sure {l : Launch} {t : zT} {m : zM} {a : Nat} {p1 : Int32} {Q : Int32 → zM → Prop} (H : wX12_sure t m a p1 Q) : zMet l yX12_sure cX12_sure 2 (some .int) 6 0 0 t m [.ref a, .int p1] (zPi t Q) := by
  refine zmet (by decide +kernel) (Nat.le_of_ble_eq_true rfl) ?_
  intro p e s mt args below meth c g C hr hm
  unfold wX12_sure at H
  have hu1 : ((0, 0) : Nat × Nat).1 ≤ 0 := Nat.le_refl 0
  have hu2 : ((0, 0) : Nat × Nat).2 ≤ 0 := Nat.le_refl 0
  refine z_aload_n (pc := 0) C (dX12_sure 0 rfl) rfl 0 rfl ?_
  refine z_iconst (pc := 1) (v := 0) C (dX12_sure 1 rfl) (by decide) ?_
  obtain ⟨h1, H⟩ := H
  refine z_putI (pc := 2) C zc12 h1 0 (by decide) rfl rfl wf_X12_41 (dX12_sure 2 rfl) ?_
  refine z_aload_n (pc := 5) C (dX12_sure 3 rfl) rfl 0 rfl ?_
  refine z_iload_n (pc := 6) C (dX12_sure 4 rfl) rfl 1 rfl ?_
  refine zc_Vi (pc := 7) (rest := []) C YX12_isThing wl_X12_364 (kX12_isThing H) (by decide) h1 rfl (by decide) (dX12_sure 5 rfl) rfl hu1 hu2 (Nat.le_of_ble_eq_true rfl) rfl (fun r2 m3 H => ?_)
  refine z_if_ne (pc := 10) (tgt := 19) C (dX12_sure 6 rfl) (by decide) (fun c4 => ?_) (fun c4 => ?_)
  · replace H := H.2 c4
    refine z_aload_n (pc := 19) C (dX12_sure 11 rfl) rfl 0 rfl ?_
    refine zc_Vv (pc := 20) (rest := []) C YX12_asksWorlds wl_X12_358 (kX12_asksWorlds H) (by decide) h1 rfl (by decide) (dX12_sure 12 rfl) rfl hu1 hu2 (Nat.le_of_ble_eq_true rfl) rfl (fun m6 H => ?_)
    refine z_aload_n (pc := 23) C (dX12_sure 13 rfl) rfl 0 rfl ?_
    refine z_getI (pc := 24) C zc12 h1 19 (by decide) rfl wf_X12_339 (dX12_sure 14 rfl) ?_
    refine z_if_ne (pc := 27) (tgt := 39) C (dX12_sure 15 rfl) (by decide) (fun c7 => ?_) (fun c7 => ?_)
    · replace H := H.2 c7
      refine z_aload_n (pc := 39) C (dX12_sure 20 rfl) rfl 0 rfl ?_
      refine z_aload_n (pc := 40) C (dX12_sure 21 rfl) rfl 0 rfl ?_
      refine z_iload_n (pc := 41) C (dX12_sure 22 rfl) rfl 1 rfl ?_
      refine zc_Vi (pc := 42) (rest := [.ref a]) C YX12_one wl_X12_355 (kX12_one H) (by decide) h1 rfl (by decide) (dX12_sure 23 rfl) rfl hu1 hu2 (Nat.le_of_ble_eq_true rfl) rfl (fun r8 m9 H => ?_)
      refine zc_Vi (pc := 45) (rest := []) C YX12_good wl_X12_51 (kX12_good H) (by decide) h1 rfl (by decide) (dX12_sure 24 rfl) rfl hu1 hu2 (Nat.le_of_ble_eq_true rfl) rfl (fun r10 m11 H => ?_)
      exact z_iret (pc := 48) C hr hu1 hu2 (dX12_sure 25 rfl) ⟨rfl, _, rfl, H⟩
    · replace H := H.1 c7
      refine z_aload_n (pc := 30) C (dX12_sure 16 rfl) rfl 0 rfl ?_
      refine z_bipush (pc := 31) (v := 6) C (dX12_sure 17 rfl) (by decide) ?_
      refine zc_Vi (pc := 33) (rest := []) C YX12_refused wl_X12_47 (kX12_refused H) (by decide) h1 rfl (by decide) (dX12_sure 18 rfl) rfl hu1 hu2 (Nat.le_of_ble_eq_true rfl) rfl (fun r12 m13 H => ?_)
      refine z_goto (pc := 36) (tgt := 48) C (dX12_sure 19 rfl) (by decide) ?_
      exact z_iret (pc := 48) C hr hu1 hu2 (dX12_sure 25 rfl) ⟨rfl, _, rfl, H⟩
  · replace H := H.1 c4
    refine z_aload_n (pc := 13) C (dX12_sure 7 rfl) rfl 0 rfl ?_
    refine z_iconst (pc := 14) (v := 1) C (dX12_sure 8 rfl) (by decide) ?_
    refine zc_Vi (pc := 15) (rest := []) C YX12_refused wl_X12_47 (kX12_refused H) (by decide) h1 rfl (by decide) (dX12_sure 9 rfl) rfl hu1 hu2 (Nat.le_of_ble_eq_true rfl) rfl (fun r14 m15 H => ?_)
    exact z_iret (pc := 18) C hr hu1 hu2 (dX12_sure 10 rfl) ⟨rfl, _, rfl, H⟩
def wX12_may_J53 (t : zT) (m : zM) (a_0 : Nat) (x_1 : Int32) (x_3 : Int32) (s_0 : Int32) (s_1 : Int32) (Q : Int32 → zM → Prop) (r27 : Int32 → Int32 → zM → Prop) : Prop := (∀ x12 : Int32, x12 = (s_1 ||| s_0) → ((r27 x12 (x_3 + 1) m)))
set_option maxHeartbeats 4000000 in
set_option maxRecDepth 20000 in
theorem sX12_may_J53 {p : Program} {l : Launch} {e : Env} {s : State} {mt : MethodId} {args : Array Value} {below : List Frame} {meth : Method} {c : Code} {g : zG} {u : Nat × Nat} {mc ms : Nat} {t : zT} {m : zM} {a_0 : Nat} {x_1 : Int32} {x_3 : Int32} {s_0 : Int32} {s_1 : Int32} {Q : Int32 → zM → Prop} {r27 : Int32 → Int32 → zM → Prop} (C : zC p (zRm 6 mc ms) s mt args meth c g cX12_may 4 yX12_may.cls 6) (hr : meth.sig.returnType = (some .int)) (hm : meth.name = yX12_may.name) (hu1 : u.1 ≤ mc) (hu2 : u.2 ≤ ms)
    (R27 : ∀ (v0 : Int32) (v1 : Int32) (m : zM), r27 v0 v1 m → zW p l e (zRm 6 mc ms) s mt args below meth c g (MQ below (zQc g (zPi t Q)) args s mc ms (zFar g)) u 4 t m 27 [(0, .ref a_0), (1, .int x_1), (2, .int v0), (3, .int v1)] []) (H : wX12_may_J53 t m a_0 x_1 x_3 s_0 s_1 Q r27) : zW p l e (zRm 6 mc ms) s mt args below meth c g (MQ below (zQc g (zPi t Q)) args s mc ms (zFar g)) u 4 t m 53 [(0, .ref a_0), (1, .int x_1), (3, .int x_3)] [.int s_0, .int s_1] := by
  unfold wX12_may_J53 at H
  refine z_ior (pc := 53) C (dX12_may 35 rfl) ?_
  refine z_int (fun x12 hx12 => ?_)
  replace H := H x12 hx12
  refine z_istore_n (pc := 54) (i := 2) (lv2 := [(2, .int x12), (0, .ref a_0), (1, .int x_1), (3, .int x_3)]) C (dX12_may 36 rfl) rfl (by decide) rfl ?_
  refine z_iinc (pc := 55) (i := 3) (v := x_3 + 1) (lv2 := [(3, .int (x_3 + 1)), (2, .int x12), (0, .ref a_0), (1, .int x_1)]) C (dX12_may 37 rfl) 3 rfl (by rfl) (by decide) rfl ?_
  refine z_goto (pc := 58) (tgt := 27) C (dX12_may 38 rfl) (by decide) ?_
  refine z_sub [2, 3, 1, 0] rfl ?_
  exact R27 x12 (x_3 + 1) m H
def wX12_may_L27 (t : zT) (a_0 : Nat) (x_1 : Int32) (Q : Int32 → zM → Prop) (k61 : Int32 → zM → Prop) : Nat → Int32 → Int32 → zM → Prop
  | 0, _, _, _ => False
  | n + 1, x_2, x_3, m => (((4 : Int32) ≤ x_3 → (k61 x_2 m)) ∧ (¬ (4 : Int32) ≤ x_3 → (tK t a_0 = 12 ∧ (tK t (gR m a_0 18) = 14 ∧ (vp_in (((4 : Int32) * x_1) + x_3) (tL t (gR m a_0 18)) ∧ (((gI m (gR m a_0 18) ((((4 : Int32) * x_1) + x_3).toNatClampNeg)) ≤ 0 → (wX12_may_J53 t m a_0 x_1 x_3 0 x_2 Q (wX12_may_L27 t a_0 x_1 Q k61 n))) ∧ (¬ (gI m (gR m a_0 18) ((((4 : Int32) * x_1) + x_3).toNatClampNeg)) ≤ 0 → (wX12_may_J53 t m a_0 x_1 x_3 ((1 : Int32) <<< (x_3 &&& 31)) x_2 Q (wX12_may_L27 t a_0 x_1 Q k61 n)))))))))
set_option maxHeartbeats 4000000 in
set_option maxRecDepth 20000 in
theorem sX12_may_L27 {p : Program} {l : Launch} {e : Env} {s : State} {mt : MethodId} {args : Array Value} {below : List Frame} {meth : Method} {c : Code} {g : zG} {u : Nat × Nat} {mc ms : Nat} {t : zT} {a_0 : Nat} {x_1 : Int32} {Q : Int32 → zM → Prop} {k61 : Int32 → zM → Prop} (C : zC p (zRm 6 mc ms) s mt args meth c g cX12_may 4 yX12_may.cls 6) (hr : meth.sig.returnType = (some .int)) (hm : meth.name = yX12_may.name) (hu1 : u.1 ≤ mc) (hu2 : u.2 ≤ ms)
    (K61 : ∀ (v0 : Int32) (m : zM), k61 v0 m → zW p l e (zRm 6 mc ms) s mt args below meth c g (MQ below (zQc g (zPi t Q)) args s mc ms (zFar g)) u 4 t m 61 [(0, .ref a_0), (2, .int v0)] []) : ∀ (n : Nat) (x_2 : Int32) (x_3 : Int32) (m : zM), wX12_may_L27 t a_0 x_1 Q k61 n x_2 x_3 m → zW p l e (zRm 6 mc ms) s mt args below meth c g (MQ below (zQc g (zPi t Q)) args s mc ms (zFar g)) u 4 t m 27 [(0, .ref a_0), (1, .int x_1), (2, .int x_2), (3, .int x_3)] [] := by
  intro n
  induction n with
  | zero => intro x_2 x_3 m H; exact H.elim
  | succ n ih =>
    intro x_2 x_3 m H
    simp only [wX12_may_L27] at H
    refine z_iload_n (pc := 27) C (dX12_may 17 rfl) rfl 3 rfl ?_
    refine z_iconst (pc := 28) (v := 4) C (dX12_may 18 rfl) (by decide) ?_
    refine z_icmp_ge (pc := 29) (tgt := 61) C (dX12_may 19 rfl) (by decide) (fun c7 => ?_) (fun c7 => ?_)
    · replace H := H.1 c7
      refine z_sub [0, 2] rfl ?_
      exact K61 x_2 m H
    · replace H := H.2 c7
      refine z_iload_n (pc := 32) C (dX12_may 20 rfl) rfl 2 rfl ?_
      refine z_aload_n (pc := 33) C (dX12_may 21 rfl) rfl 0 rfl ?_
      obtain ⟨h8, H⟩ := H
      refine z_getR (pc := 34) C zc12 h8 18 (by decide) rfl wf_X12_25 (dX12_may 22 rfl) ?_
      refine z_iconst (pc := 37) (v := 4) C (dX12_may 23 rfl) (by decide) ?_
      refine z_iload_n (pc := 38) C (dX12_may 24 rfl) rfl 1 rfl ?_
      refine z_imul (pc := 39) C (dX12_may 25 rfl) ?_
      refine z_iload_n (pc := 40) C (dX12_may 26 rfl) rfl 3 rfl ?_
      refine z_iadd (pc := 41) C (dX12_may 27 rfl) ?_
      obtain ⟨h9, H⟩ := H
      obtain ⟨h10, H⟩ := H
      refine z_iaload (pc := 42) C h9 h10 (dX12_may 28 rfl) ?_
      refine z_if_le (pc := 43) (tgt := 52) C (dX12_may 29 rfl) (by decide) (fun c11 => ?_) (fun c11 => ?_)
      · replace H := H.1 c11
        refine z_iconst (pc := 52) (v := 0) C (dX12_may 34 rfl) (by decide) ?_
        refine z_sub [0, 1, 3] rfl ?_
        exact sX12_may_J53 C hr hm hu1 hu2 ih H
      · replace H := H.2 c11
        refine z_iconst (pc := 46) (v := 1) C (dX12_may 30 rfl) (by decide) ?_
        refine z_iload_n (pc := 47) C (dX12_may 31 rfl) rfl 3 rfl ?_
        refine z_ishl (pc := 48) C (dX12_may 32 rfl) ?_
        refine z_goto (pc := 49) (tgt := 53) C (dX12_may 33 rfl) (by decide) ?_
        refine z_sub [0, 1, 3] rfl ?_
        exact sX12_may_J53 C hr hm hu1 hu2 ih H
def wX12_may (t : zT) (m : zM) (a : Nat) (p1 : Int32) (Q : Int32 → zM → Prop) : Prop := (tK t a = 12 ∧ (wX12_isThing t (pI m a 0 0) a p1 (fun r2 m3 => ((r2 = 0 → (wX12_refused t m3 a 1 (fun r18 m19 => (Q r18 m19)))) ∧ (¬ r2 = 0 → (wX12_asksWorlds t m3 a (fun m6 => (∃ n17, wX12_may_L27 t a p1 Q (fun v13 m14 => (wX12_good t m14 a v13 (fun r15 m16 => (Q r15 m16)))) n17 0 0 m6))))))))
set_option maxHeartbeats 4000000 in
set_option maxRecDepth 20000 in
theorem kX12_may {l : Launch} {t : zT} {m : zM} {a : Nat} {p1 : Int32} {Q : Int32 → zM → Prop} (H : wX12_may t m a p1 Q) : zMet l yX12_may cX12_may 4 (some .int) 6 0 0 t m [.ref a, .int p1] (zPi t Q) := by
  refine zmet (by decide +kernel) (Nat.le_of_ble_eq_true rfl) ?_
  intro p e s mt args below meth c g C hr hm
  unfold wX12_may at H
  have hu1 : ((0, 0) : Nat × Nat).1 ≤ 0 := Nat.le_refl 0
  have hu2 : ((0, 0) : Nat × Nat).2 ≤ 0 := Nat.le_refl 0
  refine z_aload_n (pc := 0) C (dX12_may 0 rfl) rfl 0 rfl ?_
  refine z_iconst (pc := 1) (v := 0) C (dX12_may 1 rfl) (by decide) ?_
  obtain ⟨h1, H⟩ := H
  refine z_putI (pc := 2) C zc12 h1 0 (by decide) rfl rfl wf_X12_41 (dX12_may 2 rfl) ?_
  refine z_aload_n (pc := 5) C (dX12_may 3 rfl) rfl 0 rfl ?_
  refine z_iload_n (pc := 6) C (dX12_may 4 rfl) rfl 1 rfl ?_
  refine zc_Vi (pc := 7) (rest := []) C YX12_isThing wl_X12_364 (kX12_isThing H) (by decide) h1 rfl (by decide) (dX12_may 5 rfl) rfl hu1 hu2 (Nat.le_of_ble_eq_true rfl) rfl (fun r2 m3 H => ?_)
  refine z_if_ne (pc := 10) (tgt := 19) C (dX12_may 6 rfl) (by decide) (fun c4 => ?_) (fun c4 => ?_)
  · replace H := H.2 c4
    refine z_aload_n (pc := 19) C (dX12_may 11 rfl) rfl 0 rfl ?_
    refine zc_Vv (pc := 20) (rest := []) C YX12_asksWorlds wl_X12_358 (kX12_asksWorlds H) (by decide) h1 rfl (by decide) (dX12_may 12 rfl) rfl hu1 hu2 (Nat.le_of_ble_eq_true rfl) rfl (fun m6 H => ?_)
    refine z_iconst (pc := 23) (v := 0) C (dX12_may 13 rfl) (by decide) ?_
    refine z_istore_n (pc := 24) (i := 2) (lv2 := [(2, .int 0), (0, .ref a), (1, .int p1)]) C (dX12_may 14 rfl) rfl (by decide) rfl ?_
    refine z_iconst (pc := 25) (v := 0) C (dX12_may 15 rfl) (by decide) ?_
    refine z_istore_n (pc := 26) (i := 3) (lv2 := [(3, .int 0), (2, .int 0), (0, .ref a), (1, .int p1)]) C (dX12_may 16 rfl) rfl (by decide) rfl ?_
    obtain ⟨n17, H⟩ := H
    refine z_sub [2, 3, 1, 0] rfl ?_
    refine sX12_may_L27 C hr hm hu1 hu2 (fun v13 m14 H => ?_) n17 0 0 m6 H
    refine z_aload_n (pc := 61) C (dX12_may 39 rfl) rfl 0 rfl ?_
    refine z_iload_n (pc := 62) C (dX12_may 40 rfl) rfl 1 rfl ?_
    refine zc_Vi (pc := 63) (rest := []) C YX12_good wl_X12_51 (kX12_good H) (by decide) h1 rfl (by decide) (dX12_may 41 rfl) rfl hu1 hu2 (Nat.le_of_ble_eq_true rfl) rfl (fun r15 m16 H => ?_)
    exact z_iret (pc := 66) C hr hu1 hu2 (dX12_may 42 rfl) ⟨rfl, _, rfl, H⟩
  · replace H := H.1 c4
    refine z_aload_n (pc := 13) C (dX12_may 7 rfl) rfl 0 rfl ?_
    refine z_iconst (pc := 14) (v := 1) C (dX12_may 8 rfl) (by decide) ?_
    refine zc_Vi (pc := 15) (rest := []) C YX12_refused wl_X12_47 (kX12_refused H) (by decide) h1 rfl (by decide) (dX12_may 9 rfl) rfl hu1 hu2 (Nat.le_of_ble_eq_true rfl) rfl (fun r18 m19 H => ?_)
    exact z_iret (pc := 18) C hr hu1 hu2 (dX12_may 10 rfl) ⟨rfl, _, rfl, H⟩
def wX12_lowest_J11 (t : zT) (m : zM) (y_1 : Int64) (y_3 : Int64) (s_0 : Int64) (s_1 : Nat) (Q : Int32 → zM → Prop) : Prop := (wX12_divisor t m y_1 y_3 (fun r2 m3 => (¬ r2 = 0 ∧ (tK t s_1 = 12 ∧ (wX12_good t m3 s_1 ((s_0 / r2).toInt32) (fun r6 m7 => (Q r6 m7)))))))
set_option maxHeartbeats 4000000 in
set_option maxRecDepth 20000 in
theorem sX12_lowest_J11 {p : Program} {l : Launch} {e : Env} {s : State} {mt : MethodId} {args : Array Value} {below : List Frame} {meth : Method} {c : Code} {g : zG} {u : Nat × Nat} {mc ms : Nat} {t : zT} {m : zM} {y_1 : Int64} {y_3 : Int64} {s_0 : Int64} {s_1 : Nat} {Q : Int32 → zM → Prop} (C : zC p (zRm 1 mc ms) s mt args meth c g cX12_lowest 6 yX12_lowest.cls 1) (hr : meth.sig.returnType = (some .int)) (hm : meth.name = yX12_lowest.name) (hu1 : u.1 ≤ mc) (hu2 : u.2 ≤ ms) (H : wX12_lowest_J11 t m y_1 y_3 s_0 s_1 Q) : zW p l e (zRm 1 mc ms) s mt args below meth c g (MQ below (zQc g (zPi t Q)) args s mc ms (zFar g)) u 6 t m 11 [(1, .long y_1), (3, .long y_3)] [.long s_0, .ref s_1] := by
  unfold wX12_lowest_J11 at H
  refine z_lload_n (pc := 11) C (dX12_lowest 6 rfl) rfl 0 rfl ?_
  refine z_lload_n (pc := 12) C (dX12_lowest 7 rfl) rfl 1 rfl ?_
  refine zc_Sl (pc := 13) (rest := [.long s_0, .ref s_1]) C YX12_divisor wl_X12_367 (kX12_divisor H) (by decide) (dX12_lowest 8 rfl) rfl hu1 hu2 (Nat.le_of_ble_eq_true rfl) rfl (fun r2 m3 H => ?_)
  obtain ⟨h4, H⟩ := H
  refine z_ldiv (pc := 16) C (hne := h4) (dX12_lowest 9 rfl) ?_
  refine z_l2i (pc := 17) C (dX12_lowest 10 rfl) ?_
  obtain ⟨h5, H⟩ := H
  refine zc_Vi (pc := 18) (rest := []) C YX12_good wl_X12_51 (kX12_good H) (by decide) h5 rfl (by decide) (dX12_lowest 11 rfl) rfl hu1 hu2 (Nat.le_of_ble_eq_true rfl) rfl (fun r6 m7 H => ?_)
  exact z_iret (pc := 21) C hr hu1 hu2 (dX12_lowest 12 rfl) ⟨rfl, _, rfl, H⟩
def wX12_lowest (t : zT) (m : zM) (a : Nat) (p1 : Int64) (p2 : Int64) (p3 : Int32) (Q : Int32 → zM → Prop) : Prop := ((p3 = 0 → (wX12_lowest_J11 t m p1 p2 p1 a Q)) ∧ (¬ p3 = 0 → (wX12_lowest_J11 t m p1 p2 p2 a Q)))
set_option maxHeartbeats 4000000 in
set_option maxRecDepth 20000 in
theorem kX12_lowest {l : Launch} {t : zT} {m : zM} {a : Nat} {p1 : Int64} {p2 : Int64} {p3 : Int32} {Q : Int32 → zM → Prop} (H : wX12_lowest t m a p1 p2 p3 Q) : zMet l yX12_lowest cX12_lowest 6 (some .int) 1 0 0 t m [.ref a, .long p1, .long p2, .int p3] (zPi t Q) := by
  refine zmet (by decide +kernel) (Nat.le_of_ble_eq_true rfl) ?_
  intro p e s mt args below meth c g C hr hm
  unfold wX12_lowest at H
  have hu1 : ((0, 0) : Nat × Nat).1 ≤ 0 := Nat.le_refl 0
  have hu2 : ((0, 0) : Nat × Nat).2 ≤ 0 := Nat.le_refl 0
  refine z_aload_n (pc := 0) C (dX12_lowest 0 rfl) rfl 0 rfl ?_
  refine z_iload (pc := 1) C (dX12_lowest 1 rfl) 3 rfl ?_
  refine z_if_eq (pc := 3) (tgt := 10) C (dX12_lowest 2 rfl) (by decide) (fun c1 => ?_) (fun c1 => ?_)
  · replace H := H.1 c1
    refine z_lload_n (pc := 10) C (dX12_lowest 5 rfl) rfl 1 rfl ?_
    refine z_sub [1, 2] rfl ?_
    exact sX12_lowest_J11 C hr hm hu1 hu2 H
  · replace H := H.2 c1
    refine z_lload_n (pc := 6) C (dX12_lowest 3 rfl) rfl 2 rfl ?_
    refine z_goto (pc := 7) (tgt := 11) C (dX12_lowest 4 rfl) (by decide) ?_
    refine z_sub [1, 2] rfl ?_
    exact sX12_lowest_J11 C hr hm hu1 hu2 H
def wX12_likely_J32 (t : zT) (m : zM) (a_0 : Nat) (Q : Int32 → zM → Prop) : Prop := (tK t a_0 = 12 ∧ (wX12_refused t m a_0 1 (fun r6 m7 => (Q r6 m7))))
set_option maxHeartbeats 4000000 in
set_option maxRecDepth 20000 in
theorem sX12_likely_J32 {p : Program} {l : Launch} {e : Env} {s : State} {mt : MethodId} {args : Array Value} {below : List Frame} {meth : Method} {c : Code} {g : zG} {u : Nat × Nat} {mc ms : Nat} {t : zT} {m : zM} {a_0 : Nat} {Q : Int32 → zM → Prop} (C : zC p (zRm 6 mc ms) s mt args meth c g cX12_likely 4 yX12_likely.cls 6) (hr : meth.sig.returnType = (some .int)) (hm : meth.name = yX12_likely.name) (hu1 : u.1 ≤ mc) (hu2 : u.2 ≤ ms) (H : wX12_likely_J32 t m a_0 Q) : zW p l e (zRm 6 mc ms) s mt args below meth c g (MQ below (zQc g (zPi t Q)) args s mc ms (zFar g)) u 4 t m 32 [(0, .ref a_0)] [] := by
  unfold wX12_likely_J32 at H
  refine z_aload_n (pc := 32) C (dX12_likely 18 rfl) rfl 0 rfl ?_
  refine z_iconst (pc := 33) (v := 1) C (dX12_likely 19 rfl) (by decide) ?_
  obtain ⟨h5, H⟩ := H
  refine zc_Vi (pc := 34) (rest := []) C YX12_refused wl_X12_47 (kX12_refused H) (by decide) h5 rfl (by decide) (dX12_likely 20 rfl) rfl hu1 hu2 (Nat.le_of_ble_eq_true rfl) rfl (fun r6 m7 H => ?_)
  exact z_iret (pc := 37) C hr hu1 hu2 (dX12_likely 21 rfl) ⟨rfl, _, rfl, H⟩
def wX12_likely (t : zT) (m : zM) (a : Nat) (p1 : Int32) (p2 : Int32) (p3 : Int32) (Q : Int32 → zM → Prop) : Prop := (tK t a = 12 ∧ (wX12_isThing t (pI m a 0 0) a p1 (fun r2 m3 => ((r2 = 0 → (wX12_likely_J32 t m3 a Q)) ∧ (¬ r2 = 0 → (tK t (gR m3 a 3) = 11 ∧ (tK t (gR m3 (gR m3 a 3) 10) = 14 ∧ (vp_in p1 (tL t (gR m3 (gR m3 a 3) 10)) ∧ (wX12_in t m3 p2 0 ((gI m3 (gR m3 (gR m3 a 3) 10) p1.toNatClampNeg) - (1 : Int32)) (fun r11 m12 => ((r11 = 0 → (wX12_likely_J32 t m12 a Q)) ∧ (¬ r11 = 0 → (wX12_asksWorlds t m12 a (fun m15 => (((gI m15 a 19) = 0 → (wX12_refused t m15 a 6 (fun r21 m22 => (Q r21 m22)))) ∧ (¬ (gI m15 a 19) = 0 → (tK t (gR m15 a 18) = 14 ∧ (vp_in (((4 : Int32) * p1) + p2) (tL t (gR m15 a 18)) ∧ (wX12_lowest t m15 a ((gI m15 (gR m15 a 18) ((((4 : Int32) * p1) + p2).toNatClampNeg)).toInt64) ((gI m15 a 19).toInt64) p3 (fun r19 m20 => (Q r19 m20)))))))))))))))))))))
set_option maxHeartbeats 4000000 in
set_option maxRecDepth 20000 in
theorem kX12_likely {l : Launch} {t : zT} {m : zM} {a : Nat} {p1 : Int32} {p2 : Int32} {p3 : Int32} {Q : Int32 → zM → Prop} (H : wX12_likely t m a p1 p2 p3 Q) : zMet l yX12_likely cX12_likely 4 (some .int) 6 0 0 t m [.ref a, .int p1, .int p2, .int p3] (zPi t Q) := by
  refine zmet (by decide +kernel) (Nat.le_of_ble_eq_true rfl) ?_
  intro p e s mt args below meth c g C hr hm
  unfold wX12_likely at H
  have hu1 : ((0, 0) : Nat × Nat).1 ≤ 0 := Nat.le_refl 0
  have hu2 : ((0, 0) : Nat × Nat).2 ≤ 0 := Nat.le_refl 0
  refine z_aload_n (pc := 0) C (dX12_likely 0 rfl) rfl 0 rfl ?_
  refine z_iconst (pc := 1) (v := 0) C (dX12_likely 1 rfl) (by decide) ?_
  obtain ⟨h1, H⟩ := H
  refine z_putI (pc := 2) C zc12 h1 0 (by decide) rfl rfl wf_X12_41 (dX12_likely 2 rfl) ?_
  refine z_aload_n (pc := 5) C (dX12_likely 3 rfl) rfl 0 rfl ?_
  refine z_iload_n (pc := 6) C (dX12_likely 4 rfl) rfl 1 rfl ?_
  refine zc_Vi (pc := 7) (rest := []) C YX12_isThing wl_X12_364 (kX12_isThing H) (by decide) h1 rfl (by decide) (dX12_likely 5 rfl) rfl hu1 hu2 (Nat.le_of_ble_eq_true rfl) rfl (fun r2 m3 H => ?_)
  refine z_if_eq (pc := 10) (tgt := 32) C (dX12_likely 6 rfl) (by decide) (fun c4 => ?_) (fun c4 => ?_)
  · replace H := H.1 c4
    refine z_sub [0] rfl ?_
    exact sX12_likely_J32 C hr hm hu1 hu2 H
  · replace H := H.2 c4
    refine z_iload_n (pc := 13) C (dX12_likely 7 rfl) rfl 2 rfl ?_
    refine z_iconst (pc := 14) (v := 0) C (dX12_likely 8 rfl) (by decide) ?_
    refine z_aload_n (pc := 15) C (dX12_likely 9 rfl) rfl 0 rfl ?_
    refine z_getR (pc := 16) C zc12 h1 3 (by decide) rfl wf_X12_314 (dX12_likely 10 rfl) ?_
    obtain ⟨h8, H⟩ := H
    refine z_getRN (pc := 19) C zc11 h8 10 (by decide) rfl wn_X12_171 (dX12_likely 11 rfl) ?_
    refine z_iload_n (pc := 22) C (dX12_likely 12 rfl) rfl 1 rfl ?_
    obtain ⟨h9, H⟩ := H
    obtain ⟨h10, H⟩ := H
    refine z_iaload (pc := 23) C h9 h10 (dX12_likely 13 rfl) ?_
    refine z_iconst (pc := 24) (v := 1) C (dX12_likely 14 rfl) (by decide) ?_
    refine z_isub (pc := 25) C (dX12_likely 15 rfl) ?_
    refine zc_Si (pc := 26) (rest := []) C YX12_in wl_X12_119 (kX12_in H) (by decide) (dX12_likely 16 rfl) rfl hu1 hu2 (Nat.le_of_ble_eq_true rfl) rfl (fun r11 m12 H => ?_)
    refine z_if_ne (pc := 29) (tgt := 38) C (dX12_likely 17 rfl) (by decide) (fun c13 => ?_) (fun c13 => ?_)
    · replace H := H.2 c13
      refine z_aload_n (pc := 38) C (dX12_likely 22 rfl) rfl 0 rfl ?_
      refine zc_Vv (pc := 39) (rest := []) C YX12_asksWorlds wl_X12_358 (kX12_asksWorlds H) (by decide) h1 rfl (by decide) (dX12_likely 23 rfl) rfl hu1 hu2 (Nat.le_of_ble_eq_true rfl) rfl (fun m15 H => ?_)
      refine z_aload_n (pc := 42) C (dX12_likely 24 rfl) rfl 0 rfl ?_
      refine z_getI (pc := 43) C zc12 h1 19 (by decide) rfl wf_X12_339 (dX12_likely 25 rfl) ?_
      refine z_if_ne (pc := 46) (tgt := 58) C (dX12_likely 26 rfl) (by decide) (fun c16 => ?_) (fun c16 => ?_)
      · replace H := H.2 c16
        refine z_aload_n (pc := 58) C (dX12_likely 31 rfl) rfl 0 rfl ?_
        refine z_aload_n (pc := 59) C (dX12_likely 32 rfl) rfl 0 rfl ?_
        refine z_getR (pc := 60) C zc12 h1 18 (by decide) rfl wf_X12_25 (dX12_likely 33 rfl) ?_
        refine z_iconst (pc := 63) (v := 4) C (dX12_likely 34 rfl) (by decide) ?_
        refine z_iload_n (pc := 64) C (dX12_likely 35 rfl) rfl 1 rfl ?_
        refine z_imul (pc := 65) C (dX12_likely 36 rfl) ?_
        refine z_iload_n (pc := 66) C (dX12_likely 37 rfl) rfl 2 rfl ?_
        refine z_iadd (pc := 67) C (dX12_likely 38 rfl) ?_
        obtain ⟨h17, H⟩ := H
        obtain ⟨h18, H⟩ := H
        refine z_iaload (pc := 68) C h17 h18 (dX12_likely 39 rfl) ?_
        refine z_i2l (pc := 69) C (dX12_likely 40 rfl) ?_
        refine z_aload_n (pc := 70) C (dX12_likely 41 rfl) rfl 0 rfl ?_
        refine z_getI (pc := 71) C zc12 h1 19 (by decide) rfl wf_X12_339 (dX12_likely 42 rfl) ?_
        refine z_i2l (pc := 74) C (dX12_likely 43 rfl) ?_
        refine z_iload_n (pc := 75) C (dX12_likely 44 rfl) rfl 3 rfl ?_
        refine zc_Vi (pc := 76) (rest := []) C YX12_lowest wl_X12_371 (kX12_lowest H) (by decide) h1 rfl (by decide) (dX12_likely 45 rfl) rfl hu1 hu2 (Nat.le_of_ble_eq_true rfl) rfl (fun r19 m20 H => ?_)
        exact z_iret (pc := 79) C hr hu1 hu2 (dX12_likely 46 rfl) ⟨rfl, _, rfl, H⟩
      · replace H := H.1 c16
        refine z_aload_n (pc := 49) C (dX12_likely 27 rfl) rfl 0 rfl ?_
        refine z_bipush (pc := 50) (v := 6) C (dX12_likely 28 rfl) (by decide) ?_
        refine zc_Vi (pc := 52) (rest := []) C YX12_refused wl_X12_47 (kX12_refused H) (by decide) h1 rfl (by decide) (dX12_likely 29 rfl) rfl hu1 hu2 (Nat.le_of_ble_eq_true rfl) rfl (fun r21 m22 H => ?_)
        refine z_goto (pc := 55) (tgt := 79) C (dX12_likely 30 rfl) (by decide) ?_
        exact z_iret (pc := 79) C hr hu1 hu2 (dX12_likely 46 rfl) ⟨rfl, _, rfl, H⟩
    · replace H := H.1 c13
      refine z_sub [0] rfl ?_
      exact sX12_likely_J32 C hr hm hu1 hu2 H
def wX12_settled (t : zT) (m : zM) (a : Nat) (Q : Int32 → zM → Prop) : Prop := (tK t a = 12 ∧ (((gR m a 3) = 0 → (wX12_refused t (pI m a 0 0) a 1 (fun r3 m4 => (Q r3 m4)))) ∧ (¬ (gR m a 3) = 0 → (wX12_asksWorlds t (pI m a 0 0) a (fun m6 => (((gI m6 a 19) = 0 → (wX12_refused t m6 a 6 (fun r12 m13 => (Q r12 m13)))) ∧ (¬ (gI m6 a 19) = 0 → (wX12_oneBits t m6 a (fun r8 m9 => (wX12_good t m9 a r8 (fun r10 m11 => (Q r10 m11))))))))))))
set_option maxHeartbeats 4000000 in
set_option maxRecDepth 20000 in
theorem kX12_settled {l : Launch} {t : zT} {m : zM} {a : Nat} {Q : Int32 → zM → Prop} (H : wX12_settled t m a Q) : zMet l yX12_settled cX12_settled 1 (some .int) 6 0 0 t m [.ref a] (zPi t Q) := by
  refine zmet (by decide +kernel) (Nat.le_of_ble_eq_true rfl) ?_
  intro p e s mt args below meth c g C hr hm
  unfold wX12_settled at H
  have hu1 : ((0, 0) : Nat × Nat).1 ≤ 0 := Nat.le_refl 0
  have hu2 : ((0, 0) : Nat × Nat).2 ≤ 0 := Nat.le_refl 0
  refine z_aload_n (pc := 0) C (dX12_settled 0 rfl) rfl 0 rfl ?_
  refine z_iconst (pc := 1) (v := 0) C (dX12_settled 1 rfl) (by decide) ?_
  obtain ⟨h1, H⟩ := H
  refine z_putI (pc := 2) C zc12 h1 0 (by decide) rfl rfl wf_X12_41 (dX12_settled 2 rfl) ?_
  refine z_aload_n (pc := 5) C (dX12_settled 3 rfl) rfl 0 rfl ?_
  refine z_getR (pc := 6) C zc12 h1 3 (by decide) rfl wf_X12_314 (dX12_settled 4 rfl) ?_
  refine z_ifnonnull (pc := 9) (tgt := 18) C (dX12_settled 5 rfl) (by decide) (fun c2 => ?_) (fun c2 => ?_)
  · replace H := H.1 c2
    refine z_aload_n (pc := 12) C (dX12_settled 6 rfl) rfl 0 rfl ?_
    refine z_iconst (pc := 13) (v := 1) C (dX12_settled 7 rfl) (by decide) ?_
    refine zc_Vi (pc := 14) (rest := []) C YX12_refused wl_X12_47 (kX12_refused H) (by decide) h1 rfl (by decide) (dX12_settled 8 rfl) rfl hu1 hu2 (Nat.le_of_ble_eq_true rfl) rfl (fun r3 m4 H => ?_)
    exact z_iret (pc := 17) C hr hu1 hu2 (dX12_settled 9 rfl) ⟨rfl, _, rfl, H⟩
  · replace H := H.2 c2
    refine z_aload_n (pc := 18) C (dX12_settled 10 rfl) rfl 0 rfl ?_
    refine zc_Vv (pc := 19) (rest := []) C YX12_asksWorlds wl_X12_358 (kX12_asksWorlds H) (by decide) h1 rfl (by decide) (dX12_settled 11 rfl) rfl hu1 hu2 (Nat.le_of_ble_eq_true rfl) rfl (fun m6 H => ?_)
    refine z_aload_n (pc := 22) C (dX12_settled 12 rfl) rfl 0 rfl ?_
    refine z_getI (pc := 23) C zc12 h1 19 (by decide) rfl wf_X12_339 (dX12_settled 13 rfl) ?_
    refine z_if_ne (pc := 26) (tgt := 38) C (dX12_settled 14 rfl) (by decide) (fun c7 => ?_) (fun c7 => ?_)
    · replace H := H.2 c7
      refine z_aload_n (pc := 38) C (dX12_settled 19 rfl) rfl 0 rfl ?_
      refine z_aload_n (pc := 39) C (dX12_settled 20 rfl) rfl 0 rfl ?_
      refine zc_Vi (pc := 40) (rest := [.ref a]) C YX12_oneBits wl_X12_375 (kX12_oneBits H) (by decide) h1 rfl (by decide) (dX12_settled 21 rfl) rfl hu1 hu2 (Nat.le_of_ble_eq_true rfl) rfl (fun r8 m9 H => ?_)
      refine zc_Vi (pc := 43) (rest := []) C YX12_good wl_X12_51 (kX12_good H) (by decide) h1 rfl (by decide) (dX12_settled 22 rfl) rfl hu1 hu2 (Nat.le_of_ble_eq_true rfl) rfl (fun r10 m11 H => ?_)
      exact z_iret (pc := 46) C hr hu1 hu2 (dX12_settled 23 rfl) ⟨rfl, _, rfl, H⟩
    · replace H := H.1 c7
      refine z_aload_n (pc := 29) C (dX12_settled 15 rfl) rfl 0 rfl ?_
      refine z_bipush (pc := 30) (v := 6) C (dX12_settled 16 rfl) (by decide) ?_
      refine zc_Vi (pc := 32) (rest := []) C YX12_refused wl_X12_47 (kX12_refused H) (by decide) h1 rfl (by decide) (dX12_settled 17 rfl) rfl hu1 hu2 (Nat.le_of_ble_eq_true rfl) rfl (fun r12 m13 H => ?_)
      refine z_goto (pc := 35) (tgt := 46) C (dX12_settled 18 rfl) (by decide) ?_
      exact z_iret (pc := 46) C hr hu1 hu2 (dX12_settled 23 rfl) ⟨rfl, _, rfl, H⟩
def wX12_right_J87 (t : zT) (m : zM) (s_0 : Int32) (s_1 : Nat) (Q : Int32 → zM → Prop) : Prop := (tK t s_1 = 12 ∧ (wX12_good t m s_1 s_0 (fun r19 m20 => (Q r19 m20))))
set_option maxHeartbeats 4000000 in
set_option maxRecDepth 20000 in
theorem sX12_right_J87 {p : Program} {l : Launch} {e : Env} {s : State} {mt : MethodId} {args : Array Value} {below : List Frame} {meth : Method} {c : Code} {g : zG} {u : Nat × Nat} {mc ms : Nat} {t : zT} {m : zM} {s_0 : Int32} {s_1 : Nat} {Q : Int32 → zM → Prop} (C : zC p (zRm 6 mc ms) s mt args meth c g cX12_right 3 yX12_right.cls 6) (hr : meth.sig.returnType = (some .int)) (hm : meth.name = yX12_right.name) (hu1 : u.1 ≤ mc) (hu2 : u.2 ≤ ms) (H : wX12_right_J87 t m s_0 s_1 Q) : zW p l e (zRm 6 mc ms) s mt args below meth c g (MQ below (zQc g (zPi t Q)) args s mc ms (zFar g)) u 3 t m 87 [] [.int s_0, .ref s_1] := by
  unfold wX12_right_J87 at H
  obtain ⟨h18, H⟩ := H
  refine zc_Vi (pc := 87) (rest := []) C YX12_good wl_X12_51 (kX12_good H) (by decide) h18 rfl (by decide) (dX12_right 49 rfl) rfl hu1 hu2 (Nat.le_of_ble_eq_true rfl) rfl (fun r19 m20 H => ?_)
  exact z_iret (pc := 90) C hr hu1 hu2 (dX12_right 50 rfl) ⟨rfl, _, rfl, H⟩
def wX12_right (t : zT) (m : zM) (a : Nat) (p1 : Int32) (Q : Int32 → zM → Prop) : Prop := (tK t a = 12 ∧ (wX12_isSaying t (pI m a 0 0) a p1 (fun r2 m3 => ((r2 = 0 → (wX12_refused t m3 a 1 (fun r23 m24 => (Q r23 m24)))) ∧ (¬ r2 = 0 → (wX12_asksWorlds t m3 a (fun m6 => (((gI m6 a 19) = 0 → (wX12_refused t m6 a 6 (fun r21 m22 => (Q r21 m22)))) ∧ (¬ (gI m6 a 19) = 0 → (tK t (gR m6 a 3) = 11 ∧ (tK t (gR m6 (gR m6 a 3) 19) = 14 ∧ (vp_in p1 (tL t (gR m6 (gR m6 a 3) 19)) ∧ (tK t (gR m6 (gR m6 a 3) 20) = 14 ∧ (vp_in p1 (tL t (gR m6 (gR m6 a 3) 20)) ∧ (tK t (gR m6 a 18) = 14 ∧ (vp_in (((4 : Int32) * (gI m6 (gR m6 (gR m6 a 3) 19) p1.toNatClampNeg)) + (gI m6 (gR m6 (gR m6 a 3) 20) p1.toNatClampNeg)) (tL t (gR m6 a 18)) ∧ (∀ x15 : Int32, x15 = (gI m6 (gR m6 a 18) ((((4 : Int32) * (gI m6 (gR m6 (gR m6 a 3) 19) p1.toNatClampNeg)) + (gI m6 (gR m6 (gR m6 a 3) 20) p1.toNatClampNeg)).toNatClampNeg)) → (((x15 = (gI m6 a 19) → (wX12_right_J87 t m6 1 a Q)) ∧ (¬ x15 = (gI m6 a 19) → ((x15 = 0 → (wX12_right_J87 t m6 0 a Q)) ∧ (¬ x15 = 0 → (wX12_right_J87 t m6 (-2) a Q)))))))))))))))))))))))
set_option maxHeartbeats 4000000 in
set_option maxRecDepth 20000 in
theorem kX12_right {l : Launch} {t : zT} {m : zM} {a : Nat} {p1 : Int32} {Q : Int32 → zM → Prop} (H : wX12_right t m a p1 Q) : zMet l yX12_right cX12_right 3 (some .int) 6 0 0 t m [.ref a, .int p1] (zPi t Q) := by
  refine zmet (by decide +kernel) (Nat.le_of_ble_eq_true rfl) ?_
  intro p e s mt args below meth c g C hr hm
  unfold wX12_right at H
  have hu1 : ((0, 0) : Nat × Nat).1 ≤ 0 := Nat.le_refl 0
  have hu2 : ((0, 0) : Nat × Nat).2 ≤ 0 := Nat.le_refl 0
  refine z_aload_n (pc := 0) C (dX12_right 0 rfl) rfl 0 rfl ?_
  refine z_iconst (pc := 1) (v := 0) C (dX12_right 1 rfl) (by decide) ?_
  obtain ⟨h1, H⟩ := H
  refine z_putI (pc := 2) C zc12 h1 0 (by decide) rfl rfl wf_X12_41 (dX12_right 2 rfl) ?_
  refine z_aload_n (pc := 5) C (dX12_right 3 rfl) rfl 0 rfl ?_
  refine z_iload_n (pc := 6) C (dX12_right 4 rfl) rfl 1 rfl ?_
  refine zc_Vi (pc := 7) (rest := []) C YX12_isSaying wl_X12_378 (kX12_isSaying H) (by decide) h1 rfl (by decide) (dX12_right 5 rfl) rfl hu1 hu2 (Nat.le_of_ble_eq_true rfl) rfl (fun r2 m3 H => ?_)
  refine z_if_ne (pc := 10) (tgt := 19) C (dX12_right 6 rfl) (by decide) (fun c4 => ?_) (fun c4 => ?_)
  · replace H := H.2 c4
    refine z_aload_n (pc := 19) C (dX12_right 11 rfl) rfl 0 rfl ?_
    refine zc_Vv (pc := 20) (rest := []) C YX12_asksWorlds wl_X12_358 (kX12_asksWorlds H) (by decide) h1 rfl (by decide) (dX12_right 12 rfl) rfl hu1 hu2 (Nat.le_of_ble_eq_true rfl) rfl (fun m6 H => ?_)
    refine z_aload_n (pc := 23) C (dX12_right 13 rfl) rfl 0 rfl ?_
    refine z_getI (pc := 24) C zc12 h1 19 (by decide) rfl wf_X12_339 (dX12_right 14 rfl) ?_
    refine z_if_ne (pc := 27) (tgt := 37) C (dX12_right 15 rfl) (by decide) (fun c7 => ?_) (fun c7 => ?_)
    · replace H := H.2 c7
      refine z_aload_n (pc := 37) C (dX12_right 20 rfl) rfl 0 rfl ?_
      refine z_getR (pc := 38) C zc12 h1 18 (by decide) rfl wf_X12_25 (dX12_right 21 rfl) ?_
      refine z_iconst (pc := 41) (v := 4) C (dX12_right 22 rfl) (by decide) ?_
      refine z_aload_n (pc := 42) C (dX12_right 23 rfl) rfl 0 rfl ?_
      refine z_getR (pc := 43) C zc12 h1 3 (by decide) rfl wf_X12_314 (dX12_right 24 rfl) ?_
      obtain ⟨h8, H⟩ := H
      refine z_getRN (pc := 46) C zc11 h8 19 (by decide) rfl wn_X12_283 (dX12_right 25 rfl) ?_
      refine z_iload_n (pc := 49) C (dX12_right 26 rfl) rfl 1 rfl ?_
      obtain ⟨h9, H⟩ := H
      obtain ⟨h10, H⟩ := H
      refine z_iaload (pc := 50) C h9 h10 (dX12_right 27 rfl) ?_
      refine z_imul (pc := 51) C (dX12_right 28 rfl) ?_
      refine z_aload_n (pc := 52) C (dX12_right 29 rfl) rfl 0 rfl ?_
      refine z_getR (pc := 53) C zc12 h1 3 (by decide) rfl wf_X12_314 (dX12_right 30 rfl) ?_
      refine z_getRN (pc := 56) C zc11 h8 20 (by decide) rfl wn_X12_286 (dX12_right 31 rfl) ?_
      refine z_iload_n (pc := 59) C (dX12_right 32 rfl) rfl 1 rfl ?_
      obtain ⟨h11, H⟩ := H
      obtain ⟨h12, H⟩ := H
      refine z_iaload (pc := 60) C h11 h12 (dX12_right 33 rfl) ?_
      refine z_iadd (pc := 61) C (dX12_right 34 rfl) ?_
      obtain ⟨h13, H⟩ := H
      obtain ⟨h14, H⟩ := H
      refine z_iaload (pc := 62) C h13 h14 (dX12_right 35 rfl) ?_
      refine z_int (fun x15 hx15 => ?_)
      replace H := H x15 hx15
      refine z_istore_n (pc := 63) (i := 2) (lv2 := [(2, .int x15), (0, .ref a), (1, .int p1)]) C (dX12_right 36 rfl) rfl (by decide) rfl ?_
      refine z_aload_n (pc := 64) C (dX12_right 37 rfl) rfl 1 rfl ?_
      refine z_iload_n (pc := 65) C (dX12_right 38 rfl) rfl 0 rfl ?_
      refine z_aload_n (pc := 66) C (dX12_right 39 rfl) rfl 1 rfl ?_
      refine z_getI (pc := 67) C zc12 h1 19 (by decide) rfl wf_X12_339 (dX12_right 40 rfl) ?_
      refine z_icmp_ne (pc := 70) (tgt := 77) C (dX12_right 41 rfl) (by decide) (fun c16 => ?_) (fun c16 => ?_)
      · replace H := H.2 c16
        refine z_iload_n (pc := 77) C (dX12_right 44 rfl) rfl 0 rfl ?_
        refine z_if_ne (pc := 78) (tgt := 85) C (dX12_right 45 rfl) (by decide) (fun c17 => ?_) (fun c17 => ?_)
        · replace H := H.2 c17
          refine z_bipush (pc := 85) (v := (-2)) C (dX12_right 48 rfl) (by decide) ?_
          refine z_sub [] rfl ?_
          exact sX12_right_J87 C hr hm hu1 hu2 H
        · replace H := H.1 c17
          refine z_iconst (pc := 81) (v := 0) C (dX12_right 46 rfl) (by decide) ?_
          refine z_goto (pc := 82) (tgt := 87) C (dX12_right 47 rfl) (by decide) ?_
          refine z_sub [] rfl ?_
          exact sX12_right_J87 C hr hm hu1 hu2 H
      · replace H := H.1 c16
        refine z_iconst (pc := 73) (v := 1) C (dX12_right 42 rfl) (by decide) ?_
        refine z_goto (pc := 74) (tgt := 87) C (dX12_right 43 rfl) (by decide) ?_
        refine z_sub [] rfl ?_
        exact sX12_right_J87 C hr hm hu1 hu2 H
    · replace H := H.1 c7
      refine z_aload_n (pc := 30) C (dX12_right 16 rfl) rfl 0 rfl ?_
      refine z_bipush (pc := 31) (v := 6) C (dX12_right 17 rfl) (by decide) ?_
      refine zc_Vi (pc := 33) (rest := []) C YX12_refused wl_X12_47 (kX12_refused H) (by decide) h1 rfl (by decide) (dX12_right 18 rfl) rfl hu1 hu2 (Nat.le_of_ble_eq_true rfl) rfl (fun r21 m22 H => ?_)
      exact z_iret (pc := 36) C hr hu1 hu2 (dX12_right 19 rfl) ⟨rfl, _, rfl, H⟩
  · replace H := H.1 c4
    refine z_aload_n (pc := 13) C (dX12_right 7 rfl) rfl 0 rfl ?_
    refine z_iconst (pc := 14) (v := 1) C (dX12_right 8 rfl) (by decide) ?_
    refine zc_Vi (pc := 15) (rest := []) C YX12_refused wl_X12_47 (kX12_refused H) (by decide) h1 rfl (by decide) (dX12_right 9 rfl) rfl hu1 hu2 (Nat.le_of_ble_eq_true rfl) rfl (fun r23 m24 H => ?_)
    exact z_iret (pc := 18) C hr hu1 hu2 (dX12_right 10 rfl) ⟨rfl, _, rfl, H⟩
def wX12_wrongThings_J56 (t : zT) (m : zM) (a_0 : Nat) (x_1 : Int32) (x_2 : Int32) (x_3 : Int32) (x_4 : Int32) (Q : Int32 → zM → Prop) (r5 : Int32 → Int32 → zM → Prop) : Prop := (r5 x_3 (x_4 + 1) m)
set_option maxHeartbeats 4000000 in
set_option maxRecDepth 20000 in
theorem sX12_wrongThings_J56 {p : Program} {l : Launch} {e : Env} {s : State} {mt : MethodId} {args : Array Value} {below : List Frame} {meth : Method} {c : Code} {g : zG} {u : Nat × Nat} {mc ms : Nat} {t : zT} {m : zM} {a_0 : Nat} {x_1 : Int32} {x_2 : Int32} {x_3 : Int32} {x_4 : Int32} {Q : Int32 → zM → Prop} {r5 : Int32 → Int32 → zM → Prop} (C : zC p (zRm 2 mc ms) s mt args meth c g cX12_wrongThings 5 yX12_wrongThings.cls 2) (hr : meth.sig.returnType = (some .int)) (hm : meth.name = yX12_wrongThings.name) (hu1 : u.1 ≤ mc) (hu2 : u.2 ≤ ms)
    (R5 : ∀ (v0 : Int32) (v1 : Int32) (m : zM), r5 v0 v1 m → zW p l e (zRm 2 mc ms) s mt args below meth c g (MQ below (zQc g (zPi t Q)) args s mc ms (zFar g)) u 5 t m 5 [(0, .ref a_0), (1, .int x_1), (2, .int x_2), (3, .int v0), (4, .int v1)] []) (H : wX12_wrongThings_J56 t m a_0 x_1 x_2 x_3 x_4 Q r5) : zW p l e (zRm 2 mc ms) s mt args below meth c g (MQ below (zQc g (zPi t Q)) args s mc ms (zFar g)) u 5 t m 56 [(0, .ref a_0), (1, .int x_1), (2, .int x_2), (3, .int x_3), (4, .int x_4)] [] := by
  unfold wX12_wrongThings_J56 at H
  refine z_iinc (pc := 56) (i := 4) (v := x_4 + 1) (lv2 := [(4, .int (x_4 + 1)), (0, .ref a_0), (1, .int x_1), (2, .int x_2), (3, .int x_3)]) C (dX12_wrongThings 31 rfl) 4 rfl (by rfl) (by decide) rfl ?_
  refine z_goto (pc := 59) (tgt := 5) C (dX12_wrongThings 32 rfl) (by decide) ?_
  refine z_sub [1, 2, 3, 4, 0] rfl ?_
  exact R5 x_3 (x_4 + 1) m H
def wX12_wrongThings_L5 (t : zT) (a_0 : Nat) (x_1 : Int32) (x_2 : Int32) (Q : Int32 → zM → Prop) (k62 : Int32 → zM → Prop) : Nat → Int32 → Int32 → zM → Prop
  | 0, _, _, _ => False
  | n + 1, x_3, x_4, m => (tK t a_0 = 12 ∧ (tK t (gR m a_0 3) = 11 ∧ (((gI m (gR m a_0 3) 3) ≤ x_4 → (k62 x_3 m)) ∧ (¬ (gI m (gR m a_0 3) 3) ≤ x_4 → (tK t (gR m (gR m a_0 3) 18) = 14 ∧ (vp_in x_4 (tL t (gR m (gR m a_0 3) 18)) ∧ (((gI m (gR m (gR m a_0 3) 18) x_4.toNatClampNeg) = x_2 → (wX12_isRight t m a_0 x_1 x_4 (fun r7 m8 => ((r7 = 0 → (tK t (gR m8 a_0 3) = 11 ∧ (tK t (gR m8 (gR m8 a_0 3) 19) = 14 ∧ (vp_in x_4 (tL t (gR m8 (gR m8 a_0 3) 19)) ∧ (∀ x13 : Int32, x13 = (x_3 ||| ((1 : Int32) <<< ((gI m8 (gR m8 (gR m8 a_0 3) 19) x_4.toNatClampNeg) &&& 31))) → ((wX12_wrongThings_J56 t m8 a_0 x_1 x_2 x13 x_4 Q (wX12_wrongThings_L5 t a_0 x_1 x_2 Q k62 n)))))))) ∧ (¬ r7 = 0 → (wX12_wrongThings_J56 t m8 a_0 x_1 x_2 x_3 x_4 Q (wX12_wrongThings_L5 t a_0 x_1 x_2 Q k62 n))))))) ∧ (¬ (gI m (gR m (gR m a_0 3) 18) x_4.toNatClampNeg) = x_2 → (wX12_wrongThings_J56 t m a_0 x_1 x_2 x_3 x_4 Q (wX12_wrongThings_L5 t a_0 x_1 x_2 Q k62 n))))))))))
set_option maxHeartbeats 4000000 in
set_option maxRecDepth 20000 in
theorem sX12_wrongThings_L5 {p : Program} {l : Launch} {e : Env} {s : State} {mt : MethodId} {args : Array Value} {below : List Frame} {meth : Method} {c : Code} {g : zG} {u : Nat × Nat} {mc ms : Nat} {t : zT} {a_0 : Nat} {x_1 : Int32} {x_2 : Int32} {Q : Int32 → zM → Prop} {k62 : Int32 → zM → Prop} (C : zC p (zRm 2 mc ms) s mt args meth c g cX12_wrongThings 5 yX12_wrongThings.cls 2) (hr : meth.sig.returnType = (some .int)) (hm : meth.name = yX12_wrongThings.name) (hu1 : u.1 ≤ mc) (hu2 : u.2 ≤ ms)
    (K62 : ∀ (v0 : Int32) (m : zM), k62 v0 m → zW p l e (zRm 2 mc ms) s mt args below meth c g (MQ below (zQc g (zPi t Q)) args s mc ms (zFar g)) u 5 t m 62 [(3, .int v0)] []) : ∀ (n : Nat) (x_3 : Int32) (x_4 : Int32) (m : zM), wX12_wrongThings_L5 t a_0 x_1 x_2 Q k62 n x_3 x_4 m → zW p l e (zRm 2 mc ms) s mt args below meth c g (MQ below (zQc g (zPi t Q)) args s mc ms (zFar g)) u 5 t m 5 [(0, .ref a_0), (1, .int x_1), (2, .int x_2), (3, .int x_3), (4, .int x_4)] [] := by
  intro n
  induction n with
  | zero => intro x_3 x_4 m H; exact H.elim
  | succ n ih =>
    intro x_3 x_4 m H
    simp only [wX12_wrongThings_L5] at H
    refine z_iload (pc := 5) C (dX12_wrongThings 4 rfl) 4 rfl ?_
    refine z_aload_n (pc := 7) C (dX12_wrongThings 5 rfl) rfl 0 rfl ?_
    obtain ⟨h1, H⟩ := H
    refine z_getR (pc := 8) C zc12 h1 3 (by decide) rfl wf_X12_314 (dX12_wrongThings 6 rfl) ?_
    obtain ⟨h2, H⟩ := H
    refine z_getIN (pc := 11) C zc11 h2 3 (by decide) rfl wn_X12_277 (dX12_wrongThings 7 rfl) ?_
    refine z_icmp_ge (pc := 14) (tgt := 62) C (dX12_wrongThings 8 rfl) (by decide) (fun c3 => ?_) (fun c3 => ?_)
    · replace H := H.1 c3
      refine z_sub [3] rfl ?_
      exact K62 x_3 m H
    · replace H := H.2 c3
      refine z_aload_n (pc := 17) C (dX12_wrongThings 9 rfl) rfl 0 rfl ?_
      refine z_getR (pc := 18) C zc12 h1 3 (by decide) rfl wf_X12_314 (dX12_wrongThings 10 rfl) ?_
      refine z_getRN (pc := 21) C zc11 h2 18 (by decide) rfl wn_X12_280 (dX12_wrongThings 11 rfl) ?_
      refine z_iload (pc := 24) C (dX12_wrongThings 12 rfl) 4 rfl ?_
      obtain ⟨h4, H⟩ := H
      obtain ⟨h5, H⟩ := H
      refine z_iaload (pc := 26) C h4 h5 (dX12_wrongThings 13 rfl) ?_
      refine z_iload_n (pc := 27) C (dX12_wrongThings 14 rfl) rfl 2 rfl ?_
      refine z_icmp_ne (pc := 28) (tgt := 56) C (dX12_wrongThings 15 rfl) (by decide) (fun c6 => ?_) (fun c6 => ?_)
      · replace H := H.2 c6
        refine z_sub [0, 1, 2, 3, 4] rfl ?_
        exact sX12_wrongThings_J56 C hr hm hu1 hu2 ih H
      · replace H := H.1 c6
        refine z_aload_n (pc := 31) C (dX12_wrongThings 16 rfl) rfl 0 rfl ?_
        refine z_iload_n (pc := 32) C (dX12_wrongThings 17 rfl) rfl 1 rfl ?_
        refine z_iload (pc := 33) C (dX12_wrongThings 18 rfl) 4 rfl ?_
        refine zc_Vi (pc := 35) (rest := []) C YX12_isRight wl_X12_323 (kX12_isRight H) (by decide) h1 rfl (by decide) (dX12_wrongThings 19 rfl) rfl hu1 hu2 (Nat.le_of_ble_eq_true rfl) rfl (fun r7 m8 H => ?_)
        refine z_if_ne (pc := 38) (tgt := 56) C (dX12_wrongThings 20 rfl) (by decide) (fun c9 => ?_) (fun c9 => ?_)
        · replace H := H.2 c9
          refine z_sub [0, 1, 2, 3, 4] rfl ?_
          exact sX12_wrongThings_J56 C hr hm hu1 hu2 ih H
        · replace H := H.1 c9
          refine z_iload_n (pc := 41) C (dX12_wrongThings 21 rfl) rfl 3 rfl ?_
          refine z_iconst (pc := 42) (v := 1) C (dX12_wrongThings 22 rfl) (by decide) ?_
          refine z_aload_n (pc := 43) C (dX12_wrongThings 23 rfl) rfl 0 rfl ?_
          refine z_getR (pc := 44) C zc12 h1 3 (by decide) rfl wf_X12_314 (dX12_wrongThings 24 rfl) ?_
          obtain ⟨h10, H⟩ := H
          refine z_getRN (pc := 47) C zc11 h10 19 (by decide) rfl wn_X12_283 (dX12_wrongThings 25 rfl) ?_
          refine z_iload (pc := 50) C (dX12_wrongThings 26 rfl) 4 rfl ?_
          obtain ⟨h11, H⟩ := H
          obtain ⟨h12, H⟩ := H
          refine z_iaload (pc := 52) C h11 h12 (dX12_wrongThings 27 rfl) ?_
          refine z_ishl (pc := 53) C (dX12_wrongThings 28 rfl) ?_
          refine z_ior (pc := 54) C (dX12_wrongThings 29 rfl) ?_
          refine z_int (fun x13 hx13 => ?_)
          replace H := H x13 hx13
          refine z_istore_n (pc := 55) (i := 3) (lv2 := [(3, .int x13), (0, .ref a_0), (1, .int x_1), (2, .int x_2), (4, .int x_4)]) C (dX12_wrongThings 30 rfl) rfl (by decide) rfl ?_
          refine z_sub [1, 2, 3, 0, 4] rfl ?_
          exact sX12_wrongThings_J56 C hr hm hu1 hu2 ih H
def wX12_wrongThings (t : zT) (m : zM) (a : Nat) (p1 : Int32) (p2 : Int32) (Q : Int32 → zM → Prop) : Prop := (∃ n18, wX12_wrongThings_L5 t a p1 p2 Q (fun v14 m15 => (wX12_bits t m15 v14 (fun r16 m17 => (Q r16 m17)))) n18 0 0 m)
set_option maxHeartbeats 4000000 in
set_option maxRecDepth 20000 in
theorem kX12_wrongThings {l : Launch} {t : zT} {m : zM} {a : Nat} {p1 : Int32} {p2 : Int32} {Q : Int32 → zM → Prop} (H : wX12_wrongThings t m a p1 p2 Q) : zMet l yX12_wrongThings cX12_wrongThings 5 (some .int) 2 0 0 t m [.ref a, .int p1, .int p2] (zPi t Q) := by
  refine zmet (by decide +kernel) (Nat.le_of_ble_eq_true rfl) ?_
  intro p e s mt args below meth c g C hr hm
  unfold wX12_wrongThings at H
  have hu1 : ((0, 0) : Nat × Nat).1 ≤ 0 := Nat.le_refl 0
  have hu2 : ((0, 0) : Nat × Nat).2 ≤ 0 := Nat.le_refl 0
  refine z_iconst (pc := 0) (v := 0) C (dX12_wrongThings 0 rfl) (by decide) ?_
  refine z_istore_n (pc := 1) (i := 3) (lv2 := [(3, .int 0), (0, .ref a), (1, .int p1), (2, .int p2)]) C (dX12_wrongThings 1 rfl) rfl (by decide) rfl ?_
  refine z_iconst (pc := 2) (v := 0) C (dX12_wrongThings 2 rfl) (by decide) ?_
  refine z_istore (pc := 3) (i := 4) (lv2 := [(4, .int 0), (3, .int 0), (0, .ref a), (1, .int p1), (2, .int p2)]) C (dX12_wrongThings 3 rfl) (by decide) rfl ?_
  obtain ⟨n18, H⟩ := H
  refine z_sub [2, 3, 4, 1, 0] rfl ?_
  refine sX12_wrongThings_L5 C hr hm hu1 hu2 (fun v14 m15 H => ?_) n18 0 0 m H
  refine z_iload_n (pc := 62) C (dX12_wrongThings 33 rfl) rfl 0 rfl ?_
  refine zc_Si (pc := 63) (rest := []) C YX12_bits wl_X12_326 (kX12_bits H) (by decide) (dX12_wrongThings 34 rfl) rfl hu1 hu2 (Nat.le_of_ble_eq_true rfl) rfl (fun r16 m17 H => ?_)
  exact z_iret (pc := 66) C hr hu1 hu2 (dX12_wrongThings 35 rfl) ⟨rfl, _, rfl, H⟩
def wX12_wrongs_J103 (t : zT) (m : zM) (a_0 : Nat) (x_1 : Int32) (x_2 : Int32) (x_3 : Int32) (x_4 : Int32) (Q : Int32 → zM → Prop) (r42 : Int32 → Int32 → zM → Prop) : Prop := (r42 x_3 (x_4 + 1) m)
set_option maxHeartbeats 4000000 in
set_option maxRecDepth 20000 in
theorem sX12_wrongs_J103 {p : Program} {l : Launch} {e : Env} {s : State} {mt : MethodId} {args : Array Value} {below : List Frame} {meth : Method} {c : Code} {g : zG} {u : Nat × Nat} {mc ms : Nat} {t : zT} {m : zM} {a_0 : Nat} {x_1 : Int32} {x_2 : Int32} {x_3 : Int32} {x_4 : Int32} {Q : Int32 → zM → Prop} {r42 : Int32 → Int32 → zM → Prop} (C : zC p (zRm 6 mc ms) s mt args meth c g cX12_wrongs 6 yX12_wrongs.cls 6) (hr : meth.sig.returnType = (some .int)) (hm : meth.name = yX12_wrongs.name) (hu1 : u.1 ≤ mc) (hu2 : u.2 ≤ ms)
    (R42 : ∀ (v0 : Int32) (v1 : Int32) (m : zM), r42 v0 v1 m → zW p l e (zRm 6 mc ms) s mt args below meth c g (MQ below (zQc g (zPi t Q)) args s mc ms (zFar g)) u 6 t m 42 [(0, .ref a_0), (1, .int x_1), (2, .int x_2), (3, .int v0), (4, .int v1)] []) (H : wX12_wrongs_J103 t m a_0 x_1 x_2 x_3 x_4 Q r42) : zW p l e (zRm 6 mc ms) s mt args below meth c g (MQ below (zQc g (zPi t Q)) args s mc ms (zFar g)) u 6 t m 103 [(0, .ref a_0), (1, .int x_1), (2, .int x_2), (3, .int x_3), (4, .int x_4)] [] := by
  unfold wX12_wrongs_J103 at H
  refine z_iinc (pc := 103) (i := 4) (v := x_4 + 1) (lv2 := [(4, .int (x_4 + 1)), (0, .ref a_0), (1, .int x_1), (2, .int x_2), (3, .int x_3)]) C (dX12_wrongs 54 rfl) 4 rfl (by rfl) (by decide) rfl ?_
  refine z_goto (pc := 106) (tgt := 42) C (dX12_wrongs 55 rfl) (by decide) ?_
  refine z_sub [1, 2, 3, 4, 0] rfl ?_
  exact R42 x_3 (x_4 + 1) m H
def wX12_wrongs_J100 (t : zT) (m : zM) (a_0 : Nat) (x_1 : Int32) (x_2 : Int32) (x_4 : Int32) (x_5 : Int32) (Q : Int32 → zM → Prop) (r42 : Int32 → Int32 → zM → Prop) : Prop := (wX12_wrongs_J103 t m a_0 x_1 x_2 x_5 x_4 Q r42)
set_option maxHeartbeats 4000000 in
set_option maxRecDepth 20000 in
theorem sX12_wrongs_J100 {p : Program} {l : Launch} {e : Env} {s : State} {mt : MethodId} {args : Array Value} {below : List Frame} {meth : Method} {c : Code} {g : zG} {u : Nat × Nat} {mc ms : Nat} {t : zT} {m : zM} {a_0 : Nat} {x_1 : Int32} {x_2 : Int32} {x_4 : Int32} {x_5 : Int32} {Q : Int32 → zM → Prop} {r42 : Int32 → Int32 → zM → Prop} (C : zC p (zRm 6 mc ms) s mt args meth c g cX12_wrongs 6 yX12_wrongs.cls 6) (hr : meth.sig.returnType = (some .int)) (hm : meth.name = yX12_wrongs.name) (hu1 : u.1 ≤ mc) (hu2 : u.2 ≤ ms)
    (R42 : ∀ (v0 : Int32) (v1 : Int32) (m : zM), r42 v0 v1 m → zW p l e (zRm 6 mc ms) s mt args below meth c g (MQ below (zQc g (zPi t Q)) args s mc ms (zFar g)) u 6 t m 42 [(0, .ref a_0), (1, .int x_1), (2, .int x_2), (3, .int v0), (4, .int v1)] []) (H : wX12_wrongs_J100 t m a_0 x_1 x_2 x_4 x_5 Q r42) : zW p l e (zRm 6 mc ms) s mt args below meth c g (MQ below (zQc g (zPi t Q)) args s mc ms (zFar g)) u 6 t m 100 [(0, .ref a_0), (1, .int x_1), (2, .int x_2), (4, .int x_4), (5, .int x_5)] [] := by
  unfold wX12_wrongs_J100 at H
  refine z_iload (pc := 100) C (dX12_wrongs 52 rfl) 4 rfl ?_
  refine z_istore_n (pc := 102) (i := 3) (lv2 := [(3, .int x_5), (0, .ref a_0), (1, .int x_1), (2, .int x_2), (4, .int x_4), (5, .int x_5)]) C (dX12_wrongs 53 rfl) rfl (by decide) rfl ?_
  refine z_sub [1, 2, 3, 0, 4] rfl ?_
  exact sX12_wrongs_J103 C hr hm hu1 hu2 R42 H
def wX12_wrongs_L42 (t : zT) (a_0 : Nat) (x_1 : Int32) (x_2 : Int32) (Q : Int32 → zM → Prop) (k109 : Int32 → zM → Prop) : Nat → Int32 → Int32 → zM → Prop
  | 0, _, _, _ => False
  | n + 1, x_3, x_4, m => (tK t a_0 = 12 ∧ (tK t (gR m a_0 3) = 11 ∧ (((gI m (gR m a_0 3) 9) ≤ x_4 → (k109 x_3 m)) ∧ (¬ (gI m (gR m a_0 3) 9) ≤ x_4 → (tK t (gR m a_0 17) = 16 ∧ (vp_in x_4 (tL t (gR m a_0 17)) ∧ (((gI m (gR m a_0 17) x_4.toNatClampNeg) = 0 → (wX12_wrongs_J103 t m a_0 x_1 x_2 x_3 x_4 Q (wX12_wrongs_L42 t a_0 x_1 x_2 Q k109 n))) ∧ (¬ (gI m (gR m a_0 17) x_4.toNatClampNeg) = 0 → (wX12_wrongThings t m a_0 x_4 x_1 (fun r14 m15 => ((x_3 = (-1) → (wX12_wrongs_J100 t m15 a_0 x_1 x_2 x_4 r14 Q (wX12_wrongs_L42 t a_0 x_1 x_2 Q k109 n))) ∧ (¬ x_3 = (-1) → ((x_2 = 0 → ((r14 ≤ x_3 → (wX12_wrongs_J103 t m15 a_0 x_1 x_2 x_3 x_4 Q (wX12_wrongs_L42 t a_0 x_1 x_2 Q k109 n))) ∧ (¬ r14 ≤ x_3 → (wX12_wrongs_J100 t m15 a_0 x_1 x_2 x_4 r14 Q (wX12_wrongs_L42 t a_0 x_1 x_2 Q k109 n))))) ∧ (¬ x_2 = 0 → ((x_3 ≤ r14 → (wX12_wrongs_J103 t m15 a_0 x_1 x_2 x_3 x_4 Q (wX12_wrongs_L42 t a_0 x_1 x_2 Q k109 n))) ∧ (¬ x_3 ≤ r14 → (wX12_wrongs_J100 t m15 a_0 x_1 x_2 x_4 r14 Q (wX12_wrongs_L42 t a_0 x_1 x_2 Q k109 n))))))))))))))))))
set_option maxHeartbeats 4000000 in
set_option maxRecDepth 20000 in
theorem sX12_wrongs_L42 {p : Program} {l : Launch} {e : Env} {s : State} {mt : MethodId} {args : Array Value} {below : List Frame} {meth : Method} {c : Code} {g : zG} {u : Nat × Nat} {mc ms : Nat} {t : zT} {a_0 : Nat} {x_1 : Int32} {x_2 : Int32} {Q : Int32 → zM → Prop} {k109 : Int32 → zM → Prop} (C : zC p (zRm 6 mc ms) s mt args meth c g cX12_wrongs 6 yX12_wrongs.cls 6) (hr : meth.sig.returnType = (some .int)) (hm : meth.name = yX12_wrongs.name) (hu1 : u.1 ≤ mc) (hu2 : u.2 ≤ ms)
    (K109 : ∀ (v0 : Int32) (m : zM), k109 v0 m → zW p l e (zRm 6 mc ms) s mt args below meth c g (MQ below (zQc g (zPi t Q)) args s mc ms (zFar g)) u 6 t m 109 [(0, .ref a_0), (3, .int v0)] []) : ∀ (n : Nat) (x_3 : Int32) (x_4 : Int32) (m : zM), wX12_wrongs_L42 t a_0 x_1 x_2 Q k109 n x_3 x_4 m → zW p l e (zRm 6 mc ms) s mt args below meth c g (MQ below (zQc g (zPi t Q)) args s mc ms (zFar g)) u 6 t m 42 [(0, .ref a_0), (1, .int x_1), (2, .int x_2), (3, .int x_3), (4, .int x_4)] [] := by
  intro n
  induction n with
  | zero => intro x_3 x_4 m H; exact H.elim
  | succ n ih =>
    intro x_3 x_4 m H
    simp only [wX12_wrongs_L42] at H
    refine z_iload (pc := 42) C (dX12_wrongs 24 rfl) 4 rfl ?_
    refine z_aload_n (pc := 44) C (dX12_wrongs 25 rfl) rfl 0 rfl ?_
    obtain ⟨h8, H⟩ := H
    refine z_getR (pc := 45) C zc12 h8 3 (by decide) rfl wf_X12_314 (dX12_wrongs 26 rfl) ?_
    obtain ⟨h9, H⟩ := H
    refine z_getIN (pc := 48) C zc11 h9 9 (by decide) rfl wn_X12_217 (dX12_wrongs 27 rfl) ?_
    refine z_icmp_ge (pc := 51) (tgt := 109) C (dX12_wrongs 28 rfl) (by decide) (fun c10 => ?_) (fun c10 => ?_)
    · replace H := H.1 c10
      refine z_sub [0, 3] rfl ?_
      exact K109 x_3 m H
    · replace H := H.2 c10
      refine z_aload_n (pc := 54) C (dX12_wrongs 29 rfl) rfl 0 rfl ?_
      refine z_getR (pc := 55) C zc12 h8 17 (by decide) rfl wf_X12_21 (dX12_wrongs 30 rfl) ?_
      refine z_iload (pc := 58) C (dX12_wrongs 31 rfl) 4 rfl ?_
      obtain ⟨h11, H⟩ := H
      obtain ⟨h12, H⟩ := H
      refine z_zaload (pc := 60) C h11 h12 (dX12_wrongs 32 rfl) ?_
      refine z_if_ne (pc := 61) (tgt := 67) C (dX12_wrongs 33 rfl) (by decide) (fun c13 => ?_) (fun c13 => ?_)
      · replace H := H.2 c13
        refine z_aload_n (pc := 67) C (dX12_wrongs 35 rfl) rfl 0 rfl ?_
        refine z_iload (pc := 68) C (dX12_wrongs 36 rfl) 4 rfl ?_
        refine z_iload_n (pc := 70) C (dX12_wrongs 37 rfl) rfl 1 rfl ?_
        refine zc_Vi (pc := 71) (rest := []) C YX12_wrongThings wl_X12_384 (kX12_wrongThings H) (by decide) h8 rfl (by decide) (dX12_wrongs 38 rfl) rfl hu1 hu2 (Nat.le_of_ble_eq_true rfl) rfl (fun r14 m15 H => ?_)
        refine z_istore (pc := 74) (i := 5) (lv2 := [(5, .int r14), (0, .ref a_0), (1, .int x_1), (2, .int x_2), (3, .int x_3), (4, .int x_4)]) C (dX12_wrongs 39 rfl) (by decide) rfl ?_
        refine z_iload_n (pc := 76) C (dX12_wrongs 40 rfl) rfl 4 rfl ?_
        refine z_iconst (pc := 77) (v := (-1)) C (dX12_wrongs 41 rfl) (by decide) ?_
        refine z_icmp_eq (pc := 78) (tgt := 100) C (dX12_wrongs 42 rfl) (by decide) (fun c16 => ?_) (fun c16 => ?_)
        · replace H := H.1 c16
          refine z_sub [1, 2, 3, 5, 0] rfl ?_
          exact sX12_wrongs_J100 C hr hm hu1 hu2 ih H
        · replace H := H.2 c16
          refine z_iload_n (pc := 81) C (dX12_wrongs 43 rfl) rfl 3 rfl ?_
          refine z_if_eq (pc := 82) (tgt := 94) C (dX12_wrongs 44 rfl) (by decide) (fun c17 => ?_) (fun c17 => ?_)
          · replace H := H.1 c17
            refine z_iload (pc := 94) C (dX12_wrongs 49 rfl) 0 rfl ?_
            refine z_iload_n (pc := 96) C (dX12_wrongs 50 rfl) rfl 4 rfl ?_
            refine z_icmp_le (pc := 97) (tgt := 103) C (dX12_wrongs 51 rfl) (by decide) (fun c18 => ?_) (fun c18 => ?_)
            · replace H := H.1 c18
              refine z_sub [1, 2, 3, 4, 5] rfl ?_
              exact sX12_wrongs_J103 C hr hm hu1 hu2 ih H
            · replace H := H.2 c18
              refine z_sub [1, 2, 3, 5, 0] rfl ?_
              exact sX12_wrongs_J100 C hr hm hu1 hu2 ih H
          · replace H := H.2 c17
            refine z_iload (pc := 85) C (dX12_wrongs 45 rfl) 0 rfl ?_
            refine z_iload_n (pc := 87) C (dX12_wrongs 46 rfl) rfl 4 rfl ?_
            refine z_icmp_ge (pc := 88) (tgt := 103) C (dX12_wrongs 47 rfl) (by decide) (fun c19 => ?_) (fun c19 => ?_)
            · replace H := H.1 c19
              refine z_sub [1, 2, 3, 4, 5] rfl ?_
              exact sX12_wrongs_J103 C hr hm hu1 hu2 ih H
            · replace H := H.2 c19
              refine z_goto (pc := 91) (tgt := 100) C (dX12_wrongs 48 rfl) (by decide) ?_
              refine z_sub [1, 2, 3, 5, 0] rfl ?_
              exact sX12_wrongs_J100 C hr hm hu1 hu2 ih H
      · replace H := H.1 c13
        refine z_goto (pc := 64) (tgt := 103) C (dX12_wrongs 34 rfl) (by decide) ?_
        refine z_sub [0, 1, 2, 3, 4] rfl ?_
        exact sX12_wrongs_J103 C hr hm hu1 hu2 ih H
def wX12_wrongs (t : zT) (m : zM) (a : Nat) (p1 : Int32) (p2 : Int32) (Q : Int32 → zM → Prop) : Prop := (tK t a = 12 ∧ (wX12_isMaster t (pI m a 0 0) a p1 (fun r2 m3 => ((r2 = 0 → (wX12_refused t m3 a 1 (fun r27 m28 => (Q r27 m28)))) ∧ (¬ r2 = 0 → (wX12_asksWorlds t m3 a (fun m6 => (((gI m6 a 19) = 0 → (wX12_refused t m6 a 6 (fun r25 m26 => (Q r25 m26)))) ∧ (¬ (gI m6 a 19) = 0 → (∃ n24, wX12_wrongs_L42 t a p1 p2 Q (fun v20 m21 => (wX12_good t m21 a v20 (fun r22 m23 => (Q r22 m23)))) n24 (-1) 0 m6))))))))))
set_option maxHeartbeats 4000000 in
set_option maxRecDepth 20000 in
theorem kX12_wrongs {l : Launch} {t : zT} {m : zM} {a : Nat} {p1 : Int32} {p2 : Int32} {Q : Int32 → zM → Prop} (H : wX12_wrongs t m a p1 p2 Q) : zMet l yX12_wrongs cX12_wrongs 6 (some .int) 6 0 0 t m [.ref a, .int p1, .int p2] (zPi t Q) := by
  refine zmet (by decide +kernel) (Nat.le_of_ble_eq_true rfl) ?_
  intro p e s mt args below meth c g C hr hm
  unfold wX12_wrongs at H
  have hu1 : ((0, 0) : Nat × Nat).1 ≤ 0 := Nat.le_refl 0
  have hu2 : ((0, 0) : Nat × Nat).2 ≤ 0 := Nat.le_refl 0
  refine z_aload_n (pc := 0) C (dX12_wrongs 0 rfl) rfl 0 rfl ?_
  refine z_iconst (pc := 1) (v := 0) C (dX12_wrongs 1 rfl) (by decide) ?_
  obtain ⟨h1, H⟩ := H
  refine z_putI (pc := 2) C zc12 h1 0 (by decide) rfl rfl wf_X12_41 (dX12_wrongs 2 rfl) ?_
  refine z_aload_n (pc := 5) C (dX12_wrongs 3 rfl) rfl 0 rfl ?_
  refine z_iload_n (pc := 6) C (dX12_wrongs 4 rfl) rfl 1 rfl ?_
  refine zc_Vi (pc := 7) (rest := []) C YX12_isMaster wl_X12_381 (kX12_isMaster H) (by decide) h1 rfl (by decide) (dX12_wrongs 5 rfl) rfl hu1 hu2 (Nat.le_of_ble_eq_true rfl) rfl (fun r2 m3 H => ?_)
  refine z_if_ne (pc := 10) (tgt := 19) C (dX12_wrongs 6 rfl) (by decide) (fun c4 => ?_) (fun c4 => ?_)
  · replace H := H.2 c4
    refine z_aload_n (pc := 19) C (dX12_wrongs 11 rfl) rfl 0 rfl ?_
    refine zc_Vv (pc := 20) (rest := []) C YX12_asksWorlds wl_X12_358 (kX12_asksWorlds H) (by decide) h1 rfl (by decide) (dX12_wrongs 12 rfl) rfl hu1 hu2 (Nat.le_of_ble_eq_true rfl) rfl (fun m6 H => ?_)
    refine z_aload_n (pc := 23) C (dX12_wrongs 13 rfl) rfl 0 rfl ?_
    refine z_getI (pc := 24) C zc12 h1 19 (by decide) rfl wf_X12_339 (dX12_wrongs 14 rfl) ?_
    refine z_if_ne (pc := 27) (tgt := 37) C (dX12_wrongs 15 rfl) (by decide) (fun c7 => ?_) (fun c7 => ?_)
    · replace H := H.2 c7
      refine z_iconst (pc := 37) (v := (-1)) C (dX12_wrongs 20 rfl) (by decide) ?_
      refine z_istore_n (pc := 38) (i := 3) (lv2 := [(3, .int (-1)), (0, .ref a), (1, .int p1), (2, .int p2)]) C (dX12_wrongs 21 rfl) rfl (by decide) rfl ?_
      refine z_iconst (pc := 39) (v := 0) C (dX12_wrongs 22 rfl) (by decide) ?_
      refine z_istore (pc := 40) (i := 4) (lv2 := [(4, .int 0), (3, .int (-1)), (0, .ref a), (1, .int p1), (2, .int p2)]) C (dX12_wrongs 23 rfl) (by decide) rfl ?_
      obtain ⟨n24, H⟩ := H
      refine z_sub [2, 3, 4, 1, 0] rfl ?_
      refine sX12_wrongs_L42 C hr hm hu1 hu2 (fun v20 m21 H => ?_) n24 (-1) 0 m6 H
      refine z_aload_n (pc := 109) C (dX12_wrongs 56 rfl) rfl 0 rfl ?_
      refine z_iload_n (pc := 110) C (dX12_wrongs 57 rfl) rfl 1 rfl ?_
      refine zc_Vi (pc := 111) (rest := []) C YX12_good wl_X12_51 (kX12_good H) (by decide) h1 rfl (by decide) (dX12_wrongs 58 rfl) rfl hu1 hu2 (Nat.le_of_ble_eq_true rfl) rfl (fun r22 m23 H => ?_)
      exact z_iret (pc := 114) C hr hu1 hu2 (dX12_wrongs 59 rfl) ⟨rfl, _, rfl, H⟩
    · replace H := H.1 c7
      refine z_aload_n (pc := 30) C (dX12_wrongs 16 rfl) rfl 0 rfl ?_
      refine z_bipush (pc := 31) (v := 6) C (dX12_wrongs 17 rfl) (by decide) ?_
      refine zc_Vi (pc := 33) (rest := []) C YX12_refused wl_X12_47 (kX12_refused H) (by decide) h1 rfl (by decide) (dX12_wrongs 18 rfl) rfl hu1 hu2 (Nat.le_of_ble_eq_true rfl) rfl (fun r25 m26 H => ?_)
      exact z_iret (pc := 36) C hr hu1 hu2 (dX12_wrongs 19 rfl) ⟨rfl, _, rfl, H⟩
  · replace H := H.1 c4
    refine z_aload_n (pc := 13) C (dX12_wrongs 7 rfl) rfl 0 rfl ?_
    refine z_iconst (pc := 14) (v := 1) C (dX12_wrongs 8 rfl) (by decide) ?_
    refine zc_Vi (pc := 15) (rest := []) C YX12_refused wl_X12_47 (kX12_refused H) (by decide) h1 rfl (by decide) (dX12_wrongs 9 rfl) rfl hu1 hu2 (Nat.le_of_ble_eq_true rfl) rfl (fun r27 m28 H => ?_)
    exact z_iret (pc := 18) C hr hu1 hu2 (dX12_wrongs 10 rfl) ⟨rfl, _, rfl, H⟩
def wX12_proves_J71 (t : zT) (m : zM) (a_0 : Nat) (x_1 : Int32) (x_2 : Int32) (x_3 : Int32) (x_4 : Int32) (Q : Int32 → zM → Prop) (r6 : Int32 → Int32 → zM → Prop) : Prop := (r6 x_3 (x_4 + 1) m)
set_option maxHeartbeats 4000000 in
set_option maxRecDepth 20000 in
theorem sX12_proves_J71 {p : Program} {l : Launch} {e : Env} {s : State} {mt : MethodId} {args : Array Value} {below : List Frame} {meth : Method} {c : Code} {g : zG} {u : Nat × Nat} {mc ms : Nat} {t : zT} {m : zM} {a_0 : Nat} {x_1 : Int32} {x_2 : Int32} {x_3 : Int32} {x_4 : Int32} {Q : Int32 → zM → Prop} {r6 : Int32 → Int32 → zM → Prop} (C : zC p (zRm 4 mc ms) s mt args meth c g cX12_proves 5 yX12_proves.cls 4) (hr : meth.sig.returnType = (some .boolean)) (hm : meth.name = yX12_proves.name) (hu1 : u.1 ≤ mc) (hu2 : u.2 ≤ ms)
    (R6 : ∀ (v0 : Int32) (v1 : Int32) (m : zM), r6 v0 v1 m → zW p l e (zRm 4 mc ms) s mt args below meth c g (MQ below (zQc g (zPi t Q)) args s mc ms (zFar g)) u 5 t m 6 [(0, .ref a_0), (1, .int x_1), (2, .int x_2), (3, .int v0), (4, .int v1)] []) (H : wX12_proves_J71 t m a_0 x_1 x_2 x_3 x_4 Q r6) : zW p l e (zRm 4 mc ms) s mt args below meth c g (MQ below (zQc g (zPi t Q)) args s mc ms (zFar g)) u 5 t m 71 [(0, .ref a_0), (1, .int x_1), (2, .int x_2), (3, .int x_3), (4, .int x_4)] [] := by
  unfold wX12_proves_J71 at H
  refine z_iinc (pc := 71) (i := 4) (v := x_4 + 1) (lv2 := [(4, .int (x_4 + 1)), (0, .ref a_0), (1, .int x_1), (2, .int x_2), (3, .int x_3)]) C (dX12_proves 37 rfl) 4 rfl (by rfl) (by decide) rfl ?_
  refine z_goto (pc := 74) (tgt := 6) C (dX12_proves 38 rfl) (by decide) ?_
  refine z_sub [1, 2, 3, 4, 0] rfl ?_
  exact R6 x_3 (x_4 + 1) m H
def wX12_proves_J35 (t : zT) (m : zM) (a_0 : Nat) (x_1 : Int32) (x_2 : Int32) (x_3 : Int32) (x_4 : Int32) (Q : Int32 → zM → Prop) (r6 : Int32 → Int32 → zM → Prop) : Prop := (tK t a_0 = 12 ∧ (tK t (gR m a_0 3) = 11 ∧ (wX12_isLawful t m a_0 x_4 x_1 (gI m (gR m a_0 3) 6) (fun r7 m8 => ((r7 = 0 → (wX12_proves_J71 t m8 a_0 x_1 x_2 x_3 x_4 Q r6)) ∧ (¬ r7 = 0 → ((x_3 = (-2) → (wX12_answerOf t m8 a_0 x_4 x_2 (fun r11 m12 => (wX12_proves_J71 t m12 a_0 x_1 x_2 r11 x_4 Q r6)))) ∧ (¬ x_3 = (-2) → (Q 0 m8)))))))))
set_option maxHeartbeats 4000000 in
set_option maxRecDepth 20000 in
theorem sX12_proves_J35 {p : Program} {l : Launch} {e : Env} {s : State} {mt : MethodId} {args : Array Value} {below : List Frame} {meth : Method} {c : Code} {g : zG} {u : Nat × Nat} {mc ms : Nat} {t : zT} {m : zM} {a_0 : Nat} {x_1 : Int32} {x_2 : Int32} {x_3 : Int32} {x_4 : Int32} {Q : Int32 → zM → Prop} {r6 : Int32 → Int32 → zM → Prop} (C : zC p (zRm 4 mc ms) s mt args meth c g cX12_proves 5 yX12_proves.cls 4) (hr : meth.sig.returnType = (some .boolean)) (hm : meth.name = yX12_proves.name) (hu1 : u.1 ≤ mc) (hu2 : u.2 ≤ ms)
    (R6 : ∀ (v0 : Int32) (v1 : Int32) (m : zM), r6 v0 v1 m → zW p l e (zRm 4 mc ms) s mt args below meth c g (MQ below (zQc g (zPi t Q)) args s mc ms (zFar g)) u 5 t m 6 [(0, .ref a_0), (1, .int x_1), (2, .int x_2), (3, .int v0), (4, .int v1)] []) (H : wX12_proves_J35 t m a_0 x_1 x_2 x_3 x_4 Q r6) : zW p l e (zRm 4 mc ms) s mt args below meth c g (MQ below (zQc g (zPi t Q)) args s mc ms (zFar g)) u 5 t m 35 [(0, .ref a_0), (1, .int x_1), (2, .int x_2), (3, .int x_3), (4, .int x_4)] [] := by
  unfold wX12_proves_J35 at H
  refine z_aload_n (pc := 35) C (dX12_proves 18 rfl) rfl 0 rfl ?_
  refine z_iload (pc := 36) C (dX12_proves 19 rfl) 4 rfl ?_
  refine z_iload_n (pc := 38) C (dX12_proves 20 rfl) rfl 1 rfl ?_
  refine z_aload_n (pc := 39) C (dX12_proves 21 rfl) rfl 0 rfl ?_
  obtain ⟨h5, H⟩ := H
  refine z_getR (pc := 40) C zc12 h5 3 (by decide) rfl wf_X12_314 (dX12_proves 22 rfl) ?_
  obtain ⟨h6, H⟩ := H
  refine z_getIN (pc := 43) C zc11 h6 6 (by decide) rfl wn_X12_269 (dX12_proves 23 rfl) ?_
  refine zc_Vi (pc := 46) (rest := []) C YX12_isLawful wl_X12_342 (kX12_isLawful H) (by decide) h5 rfl (by decide) (dX12_proves 24 rfl) rfl hu1 hu2 (Nat.le_of_ble_eq_true rfl) rfl (fun r7 m8 H => ?_)
  refine z_if_ne (pc := 49) (tgt := 55) C (dX12_proves 25 rfl) (by decide) (fun c9 => ?_) (fun c9 => ?_)
  · replace H := H.2 c9
    refine z_iload_n (pc := 55) C (dX12_proves 27 rfl) rfl 3 rfl ?_
    refine z_bipush (pc := 56) (v := (-2)) C (dX12_proves 28 rfl) (by decide) ?_
    refine z_icmp_eq (pc := 58) (tgt := 63) C (dX12_proves 29 rfl) (by decide) (fun c10 => ?_) (fun c10 => ?_)
    · replace H := H.1 c10
      refine z_aload_n (pc := 63) C (dX12_proves 32 rfl) rfl 0 rfl ?_
      refine z_iload (pc := 64) C (dX12_proves 33 rfl) 4 rfl ?_
      refine z_iload_n (pc := 66) C (dX12_proves 34 rfl) rfl 2 rfl ?_
      refine zc_Vi (pc := 67) (rest := []) C YX12_answerOf wl_X12_320 (kX12_answerOf H) (by decide) h5 rfl (by decide) (dX12_proves 35 rfl) rfl hu1 hu2 (Nat.le_of_ble_eq_true rfl) rfl (fun r11 m12 H => ?_)
      refine z_istore_n (pc := 70) (i := 3) (lv2 := [(3, .int r11), (0, .ref a_0), (1, .int x_1), (2, .int x_2), (4, .int x_4)]) C (dX12_proves 36 rfl) rfl (by decide) rfl ?_
      refine z_sub [1, 2, 3, 0, 4] rfl ?_
      exact sX12_proves_J71 C hr hm hu1 hu2 R6 H
    · replace H := H.2 c10
      refine z_iconst (pc := 61) (v := 0) C (dX12_proves 30 rfl) (by decide) ?_
      exact z_zret (pc := 62) C hr (by decide) hu1 hu2 (dX12_proves 31 rfl) ⟨rfl, _, rfl, H⟩
  · replace H := H.1 c9
    refine z_goto (pc := 52) (tgt := 71) C (dX12_proves 26 rfl) (by decide) ?_
    refine z_sub [0, 1, 2, 3, 4] rfl ?_
    exact sX12_proves_J71 C hr hm hu1 hu2 R6 H
def wX12_proves_L6 (t : zT) (a_0 : Nat) (x_1 : Int32) (x_2 : Int32) (Q : Int32 → zM → Prop) (k77 : Int32 → zM → Prop) : Nat → Int32 → Int32 → zM → Prop
  | 0, _, _, _ => False
  | n + 1, x_3, x_4, m => (tK t a_0 = 12 ∧ (tK t (gR m a_0 3) = 11 ∧ (((gI m (gR m a_0 3) 9) ≤ x_4 → (k77 x_3 m)) ∧ (¬ (gI m (gR m a_0 3) 9) ≤ x_4 → ((x_3 = (-2) → (wX12_proves_J35 t m a_0 x_1 x_2 x_3 x_4 Q (wX12_proves_L6 t a_0 x_1 x_2 Q k77 n))) ∧ (¬ x_3 = (-2) → (wX12_answerOf t m a_0 x_4 x_2 (fun r13 m14 => ((r13 = x_3 → (wX12_proves_J71 t m14 a_0 x_1 x_2 x_3 x_4 Q (wX12_proves_L6 t a_0 x_1 x_2 Q k77 n))) ∧ (¬ r13 = x_3 → (wX12_proves_J35 t m14 a_0 x_1 x_2 x_3 x_4 Q (wX12_proves_L6 t a_0 x_1 x_2 Q k77 n))))))))))))
set_option maxHeartbeats 4000000 in
set_option maxRecDepth 20000 in
theorem sX12_proves_L6 {p : Program} {l : Launch} {e : Env} {s : State} {mt : MethodId} {args : Array Value} {below : List Frame} {meth : Method} {c : Code} {g : zG} {u : Nat × Nat} {mc ms : Nat} {t : zT} {a_0 : Nat} {x_1 : Int32} {x_2 : Int32} {Q : Int32 → zM → Prop} {k77 : Int32 → zM → Prop} (C : zC p (zRm 4 mc ms) s mt args meth c g cX12_proves 5 yX12_proves.cls 4) (hr : meth.sig.returnType = (some .boolean)) (hm : meth.name = yX12_proves.name) (hu1 : u.1 ≤ mc) (hu2 : u.2 ≤ ms)
    (K77 : ∀ (v0 : Int32) (m : zM), k77 v0 m → zW p l e (zRm 4 mc ms) s mt args below meth c g (MQ below (zQc g (zPi t Q)) args s mc ms (zFar g)) u 5 t m 77 [(3, .int v0)] []) : ∀ (n : Nat) (x_3 : Int32) (x_4 : Int32) (m : zM), wX12_proves_L6 t a_0 x_1 x_2 Q k77 n x_3 x_4 m → zW p l e (zRm 4 mc ms) s mt args below meth c g (MQ below (zQc g (zPi t Q)) args s mc ms (zFar g)) u 5 t m 6 [(0, .ref a_0), (1, .int x_1), (2, .int x_2), (3, .int x_3), (4, .int x_4)] [] := by
  intro n
  induction n with
  | zero => intro x_3 x_4 m H; exact H.elim
  | succ n ih =>
    intro x_3 x_4 m H
    simp only [wX12_proves_L6] at H
    refine z_iload (pc := 6) C (dX12_proves 4 rfl) 4 rfl ?_
    refine z_aload_n (pc := 8) C (dX12_proves 5 rfl) rfl 0 rfl ?_
    obtain ⟨h1, H⟩ := H
    refine z_getR (pc := 9) C zc12 h1 3 (by decide) rfl wf_X12_314 (dX12_proves 6 rfl) ?_
    obtain ⟨h2, H⟩ := H
    refine z_getIN (pc := 12) C zc11 h2 9 (by decide) rfl wn_X12_217 (dX12_proves 7 rfl) ?_
    refine z_icmp_ge (pc := 15) (tgt := 77) C (dX12_proves 8 rfl) (by decide) (fun c3 => ?_) (fun c3 => ?_)
    · replace H := H.1 c3
      refine z_sub [3] rfl ?_
      exact K77 x_3 m H
    · replace H := H.2 c3
      refine z_iload_n (pc := 18) C (dX12_proves 9 rfl) rfl 3 rfl ?_
      refine z_bipush (pc := 19) (v := (-2)) C (dX12_proves 10 rfl) (by decide) ?_
      refine z_icmp_eq (pc := 21) (tgt := 35) C (dX12_proves 11 rfl) (by decide) (fun c4 => ?_) (fun c4 => ?_)
      · replace H := H.1 c4
        refine z_sub [0, 1, 2, 3, 4] rfl ?_
        exact sX12_proves_J35 C hr hm hu1 hu2 ih H
      · replace H := H.2 c4
        refine z_aload_n (pc := 24) C (dX12_proves 12 rfl) rfl 0 rfl ?_
        refine z_iload (pc := 25) C (dX12_proves 13 rfl) 4 rfl ?_
        refine z_iload_n (pc := 27) C (dX12_proves 14 rfl) rfl 2 rfl ?_
        refine zc_Vi (pc := 28) (rest := []) C YX12_answerOf wl_X12_320 (kX12_answerOf H) (by decide) h1 rfl (by decide) (dX12_proves 15 rfl) rfl hu1 hu2 (Nat.le_of_ble_eq_true rfl) rfl (fun r13 m14 H => ?_)
        refine z_iload_n (pc := 31) C (dX12_proves 16 rfl) rfl 3 rfl ?_
        refine z_icmp_eq (pc := 32) (tgt := 71) C (dX12_proves 17 rfl) (by decide) (fun c15 => ?_) (fun c15 => ?_)
        · replace H := H.1 c15
          refine z_sub [0, 1, 2, 3, 4] rfl ?_
          exact sX12_proves_J71 C hr hm hu1 hu2 ih H
        · replace H := H.2 c15
          refine z_sub [0, 1, 2, 3, 4] rfl ?_
          exact sX12_proves_J35 C hr hm hu1 hu2 ih H
def wX12_proves (t : zT) (m : zM) (a : Nat) (p1 : Int32) (p2 : Int32) (Q : Int32 → zM → Prop) : Prop := (∃ n19, wX12_proves_L6 t a p1 p2 Q (fun v16 m17 => ((v16 = (-2) → (Q 0 m17)) ∧ (¬ v16 = (-2) → (Q 1 m17)))) n19 (-2) 0 m)
set_option maxHeartbeats 4000000 in
set_option maxRecDepth 20000 in
theorem kX12_proves {l : Launch} {t : zT} {m : zM} {a : Nat} {p1 : Int32} {p2 : Int32} {Q : Int32 → zM → Prop} (H : wX12_proves t m a p1 p2 Q) : zMet l yX12_proves cX12_proves 5 (some .boolean) 4 0 0 t m [.ref a, .int p1, .int p2] (zPi t Q) := by
  refine zmet (by decide +kernel) (Nat.le_of_ble_eq_true rfl) ?_
  intro p e s mt args below meth c g C hr hm
  unfold wX12_proves at H
  have hu1 : ((0, 0) : Nat × Nat).1 ≤ 0 := Nat.le_refl 0
  have hu2 : ((0, 0) : Nat × Nat).2 ≤ 0 := Nat.le_refl 0
  refine z_bipush (pc := 0) (v := (-2)) C (dX12_proves 0 rfl) (by decide) ?_
  refine z_istore_n (pc := 2) (i := 3) (lv2 := [(3, .int (-2)), (0, .ref a), (1, .int p1), (2, .int p2)]) C (dX12_proves 1 rfl) rfl (by decide) rfl ?_
  refine z_iconst (pc := 3) (v := 0) C (dX12_proves 2 rfl) (by decide) ?_
  refine z_istore (pc := 4) (i := 4) (lv2 := [(4, .int 0), (3, .int (-2)), (0, .ref a), (1, .int p1), (2, .int p2)]) C (dX12_proves 3 rfl) (by decide) rfl ?_
  obtain ⟨n19, H⟩ := H
  refine z_sub [2, 3, 4, 1, 0] rfl ?_
  refine sX12_proves_L6 C hr hm hu1 hu2 (fun v16 m17 H => ?_) n19 (-2) 0 m H
  refine z_iload_n (pc := 77) C (dX12_proves 39 rfl) rfl 0 rfl ?_
  refine z_bipush (pc := 78) (v := (-2)) C (dX12_proves 40 rfl) (by decide) ?_
  refine z_icmp_eq (pc := 80) (tgt := 87) C (dX12_proves 41 rfl) (by decide) (fun c18 => ?_) (fun c18 => ?_)
  · replace H := H.1 c18
    refine z_iconst (pc := 87) (v := 0) C (dX12_proves 44 rfl) (by decide) ?_
    exact z_zret (pc := 88) C hr (by decide) hu1 hu2 (dX12_proves 45 rfl) ⟨rfl, _, rfl, H⟩
  · replace H := H.2 c18
    refine z_iconst (pc := 83) (v := 1) C (dX12_proves 42 rfl) (by decide) ?_
    refine z_goto (pc := 84) (tgt := 88) C (dX12_proves 43 rfl) (by decide) ?_
    exact z_zret (pc := 88) C hr (by decide) hu1 hu2 (dX12_proves 45 rfl) ⟨rfl, _, rfl, H⟩
def wX12_proofNow_J39 (t : zT) (m : zM) (a_0 : Nat) (x_1 : Int32) (x_2 : Int32) (x_3 : Int32) (Q : Int32 → zM → Prop) (r9 : Int32 → zM → Prop) : Prop := (r9 (x_3 + 1) m)
set_option maxHeartbeats 4000000 in
set_option maxRecDepth 20000 in
theorem sX12_proofNow_J39 {p : Program} {l : Launch} {e : Env} {s : State} {mt : MethodId} {args : Array Value} {below : List Frame} {meth : Method} {c : Code} {g : zG} {u : Nat × Nat} {mc ms : Nat} {t : zT} {m : zM} {a_0 : Nat} {x_1 : Int32} {x_2 : Int32} {x_3 : Int32} {Q : Int32 → zM → Prop} {r9 : Int32 → zM → Prop} (C : zC p (zRm 5 mc ms) s mt args meth c g cX12_proofNow 4 yX12_proofNow.cls 5) (hr : meth.sig.returnType = (some .int)) (hm : meth.name = yX12_proofNow.name) (hu1 : u.1 ≤ mc) (hu2 : u.2 ≤ ms)
    (R9 : ∀ (v0 : Int32) (m : zM), r9 v0 m → zW p l e (zRm 5 mc ms) s mt args below meth c g (MQ below (zQc g (zPi t Q)) args s mc ms (zFar g)) u 4 t m 9 [(0, .ref a_0), (1, .int x_1), (2, .int x_2), (3, .int v0)] []) (H : wX12_proofNow_J39 t m a_0 x_1 x_2 x_3 Q r9) : zW p l e (zRm 5 mc ms) s mt args below meth c g (MQ below (zQc g (zPi t Q)) args s mc ms (zFar g)) u 4 t m 39 [(0, .ref a_0), (1, .int x_1), (2, .int x_2), (3, .int x_3)] [] := by
  unfold wX12_proofNow_J39 at H
  refine z_iinc (pc := 39) (i := 3) (v := x_3 + 1) (lv2 := [(3, .int (x_3 + 1)), (0, .ref a_0), (1, .int x_1), (2, .int x_2)]) C (dX12_proofNow 23 rfl) 3 rfl (by rfl) (by decide) rfl ?_
  refine z_goto (pc := 42) (tgt := 9) C (dX12_proofNow 24 rfl) (by decide) ?_
  refine z_sub [1, 2, 3, 0] rfl ?_
  exact R9 (x_3 + 1) m H
def wX12_proofNow_L9 (t : zT) (a_0 : Nat) (x_1 : Int32) (x_2 : Int32) (Q : Int32 → zM → Prop) (k45 : zM → Prop) : Nat → Int32 → zM → Prop
  | 0, _, _ => False
  | n + 1, x_3, m => (tK t a_0 = 12 ∧ (tK t (gR m a_0 3) = 11 ∧ (wX11_allSayings t m (gR m a_0 3) (fun r4 m5 => ((r4 < x_3 → (k45 m5)) ∧ (¬ r4 < x_3 → (wX12_bits t m5 x_3 (fun r7 m8 => ((r7 = x_2 → (wX12_proves t m8 a_0 x_3 x_1 (fun r10 m11 => ((r10 = 0 → (wX12_proofNow_J39 t m11 a_0 x_1 x_2 x_3 Q (wX12_proofNow_L9 t a_0 x_1 x_2 Q k45 n))) ∧ (¬ r10 = 0 → (Q x_3 m11)))))) ∧ (¬ r7 = x_2 → (wX12_proofNow_J39 t m8 a_0 x_1 x_2 x_3 Q (wX12_proofNow_L9 t a_0 x_1 x_2 Q k45 n))))))))))))
set_option maxHeartbeats 4000000 in
set_option maxRecDepth 20000 in
theorem sX12_proofNow_L9 {p : Program} {l : Launch} {e : Env} {s : State} {mt : MethodId} {args : Array Value} {below : List Frame} {meth : Method} {c : Code} {g : zG} {u : Nat × Nat} {mc ms : Nat} {t : zT} {a_0 : Nat} {x_1 : Int32} {x_2 : Int32} {Q : Int32 → zM → Prop} {k45 : zM → Prop} (C : zC p (zRm 5 mc ms) s mt args meth c g cX12_proofNow 4 yX12_proofNow.cls 5) (hr : meth.sig.returnType = (some .int)) (hm : meth.name = yX12_proofNow.name) (hu1 : u.1 ≤ mc) (hu2 : u.2 ≤ ms)
    (K45 : ∀ (m : zM), k45 m → zW p l e (zRm 5 mc ms) s mt args below meth c g (MQ below (zQc g (zPi t Q)) args s mc ms (zFar g)) u 4 t m 45 [(0, .ref a_0), (1, .int x_1), (2, .int x_2)] []) : ∀ (n : Nat) (x_3 : Int32) (m : zM), wX12_proofNow_L9 t a_0 x_1 x_2 Q k45 n x_3 m → zW p l e (zRm 5 mc ms) s mt args below meth c g (MQ below (zQc g (zPi t Q)) args s mc ms (zFar g)) u 4 t m 9 [(0, .ref a_0), (1, .int x_1), (2, .int x_2), (3, .int x_3)] [] := by
  intro n
  induction n with
  | zero => intro x_3 m H; exact H.elim
  | succ n ih =>
    intro x_3 m H
    simp only [wX12_proofNow_L9] at H
    refine z_iload_n (pc := 9) C (dX12_proofNow 7 rfl) rfl 3 rfl ?_
    refine z_aload_n (pc := 10) C (dX12_proofNow 8 rfl) rfl 0 rfl ?_
    obtain ⟨h2, H⟩ := H
    refine z_getR (pc := 11) C zc12 h2 3 (by decide) rfl wf_X12_314 (dX12_proofNow 9 rfl) ?_
    obtain ⟨h3, H⟩ := H
    refine zc_Vi (pc := 14) (rest := [.int x_3]) C YX11_allSayings wl_X12_348 (kX11_allSayings H) (by decide) h3 rfl (by decide) (dX12_proofNow 10 rfl) rfl hu1 hu2 (Nat.le_of_ble_eq_true rfl) rfl (fun r4 m5 H => ?_)
    refine z_icmp_gt (pc := 17) (tgt := 45) C (dX12_proofNow 11 rfl) (by decide) (fun c6 => ?_) (fun c6 => ?_)
    · replace H := H.1 c6
      refine z_sub [0, 1, 2] rfl ?_
      exact K45 m5 H
    · replace H := H.2 c6
      refine z_iload_n (pc := 20) C (dX12_proofNow 12 rfl) rfl 3 rfl ?_
      refine zc_Si (pc := 21) (rest := []) C YX12_bits wl_X12_326 (kX12_bits H) (by decide) (dX12_proofNow 13 rfl) rfl hu1 hu2 (Nat.le_of_ble_eq_true rfl) rfl (fun r7 m8 H => ?_)
      refine z_iload_n (pc := 24) C (dX12_proofNow 14 rfl) rfl 2 rfl ?_
      refine z_icmp_ne (pc := 25) (tgt := 39) C (dX12_proofNow 15 rfl) (by decide) (fun c9 => ?_) (fun c9 => ?_)
      · replace H := H.2 c9
        refine z_sub [0, 1, 2, 3] rfl ?_
        exact sX12_proofNow_J39 C hr hm hu1 hu2 ih H
      · replace H := H.1 c9
        refine z_aload_n (pc := 28) C (dX12_proofNow 16 rfl) rfl 0 rfl ?_
        refine z_iload_n (pc := 29) C (dX12_proofNow 17 rfl) rfl 3 rfl ?_
        refine z_iload_n (pc := 30) C (dX12_proofNow 18 rfl) rfl 1 rfl ?_
        refine zc_Vi (pc := 31) (rest := []) C YX12_proves wl_X12_387 (kX12_proves H) (by decide) h2 rfl (by decide) (dX12_proofNow 19 rfl) rfl hu1 hu2 (Nat.le_of_ble_eq_true rfl) rfl (fun r10 m11 H => ?_)
        refine z_if_eq (pc := 34) (tgt := 39) C (dX12_proofNow 20 rfl) (by decide) (fun c12 => ?_) (fun c12 => ?_)
        · replace H := H.1 c12
          refine z_sub [0, 1, 2, 3] rfl ?_
          exact sX12_proofNow_J39 C hr hm hu1 hu2 ih H
        · replace H := H.2 c12
          refine z_iload_n (pc := 37) C (dX12_proofNow 21 rfl) rfl 3 rfl ?_
          exact z_iret (pc := 38) C hr hu1 hu2 (dX12_proofNow 22 rfl) ⟨rfl, _, rfl, H⟩
def wX12_proofNow_L2 (t : zT) (a_0 : Nat) (x_1 : Int32) (Q : Int32 → zM → Prop) (k51 : zM → Prop) : Nat → Int32 → zM → Prop
  | 0, _, _ => False
  | n + 1, x_2, m => (((3 : Int32) < x_2 → (k51 m)) ∧ (¬ (3 : Int32) < x_2 → (∃ n14, wX12_proofNow_L9 t a_0 x_1 x_2 Q (fun m13 => (wX12_proofNow_L2 t a_0 x_1 Q k51 n (x_2 + 1) m13)) n14 0 m)))
set_option maxHeartbeats 4000000 in
set_option maxRecDepth 20000 in
theorem sX12_proofNow_L2 {p : Program} {l : Launch} {e : Env} {s : State} {mt : MethodId} {args : Array Value} {below : List Frame} {meth : Method} {c : Code} {g : zG} {u : Nat × Nat} {mc ms : Nat} {t : zT} {a_0 : Nat} {x_1 : Int32} {Q : Int32 → zM → Prop} {k51 : zM → Prop} (C : zC p (zRm 5 mc ms) s mt args meth c g cX12_proofNow 4 yX12_proofNow.cls 5) (hr : meth.sig.returnType = (some .int)) (hm : meth.name = yX12_proofNow.name) (hu1 : u.1 ≤ mc) (hu2 : u.2 ≤ ms)
    (K51 : ∀ (m : zM), k51 m → zW p l e (zRm 5 mc ms) s mt args below meth c g (MQ below (zQc g (zPi t Q)) args s mc ms (zFar g)) u 4 t m 51 [] []) : ∀ (n : Nat) (x_2 : Int32) (m : zM), wX12_proofNow_L2 t a_0 x_1 Q k51 n x_2 m → zW p l e (zRm 5 mc ms) s mt args below meth c g (MQ below (zQc g (zPi t Q)) args s mc ms (zFar g)) u 4 t m 2 [(0, .ref a_0), (1, .int x_1), (2, .int x_2)] [] := by
  intro n
  induction n with
  | zero => intro x_2 m H; exact H.elim
  | succ n ih =>
    intro x_2 m H
    simp only [wX12_proofNow_L2] at H
    refine z_iload_n (pc := 2) C (dX12_proofNow 2 rfl) rfl 2 rfl ?_
    refine z_iconst (pc := 3) (v := 3) C (dX12_proofNow 3 rfl) (by decide) ?_
    refine z_icmp_gt (pc := 4) (tgt := 51) C (dX12_proofNow 4 rfl) (by decide) (fun c1 => ?_) (fun c1 => ?_)
    · replace H := H.1 c1
      refine z_sub [] rfl ?_
      exact K51 m H
    · replace H := H.2 c1
      refine z_iconst (pc := 7) (v := 0) C (dX12_proofNow 5 rfl) (by decide) ?_
      refine z_istore_n (pc := 8) (i := 3) (lv2 := [(3, .int 0), (0, .ref a_0), (1, .int x_1), (2, .int x_2)]) C (dX12_proofNow 6 rfl) rfl (by decide) rfl ?_
      obtain ⟨n14, H⟩ := H
      refine z_sub [1, 2, 3, 0] rfl ?_
      refine sX12_proofNow_L9 C hr hm hu1 hu2 (fun m13 H => ?_) n14 0 m H
      refine z_iinc (pc := 45) (i := 2) (v := x_2 + 1) (lv2 := [(2, .int (x_2 + 1)), (0, .ref a_0), (1, .int x_1)]) C (dX12_proofNow 25 rfl) 2 rfl (by rfl) (by decide) rfl ?_
      refine z_goto (pc := 48) (tgt := 2) C (dX12_proofNow 26 rfl) (by decide) ?_
      refine z_sub [1, 2, 0] rfl ?_
      exact ih (x_2 + 1) m13 H
def wX12_proofNow (t : zT) (m : zM) (a : Nat) (p1 : Int32) (Q : Int32 → zM → Prop) : Prop := (∃ n16, wX12_proofNow_L2 t a p1 Q (fun m15 => (Q (-2) m15)) n16 0 m)
set_option maxHeartbeats 4000000 in
set_option maxRecDepth 20000 in
theorem kX12_proofNow {l : Launch} {t : zT} {m : zM} {a : Nat} {p1 : Int32} {Q : Int32 → zM → Prop} (H : wX12_proofNow t m a p1 Q) : zMet l yX12_proofNow cX12_proofNow 4 (some .int) 5 0 0 t m [.ref a, .int p1] (zPi t Q) := by
  refine zmet (by decide +kernel) (Nat.le_of_ble_eq_true rfl) ?_
  intro p e s mt args below meth c g C hr hm
  unfold wX12_proofNow at H
  have hu1 : ((0, 0) : Nat × Nat).1 ≤ 0 := Nat.le_refl 0
  have hu2 : ((0, 0) : Nat × Nat).2 ≤ 0 := Nat.le_refl 0
  refine z_iconst (pc := 0) (v := 0) C (dX12_proofNow 0 rfl) (by decide) ?_
  refine z_istore_n (pc := 1) (i := 2) (lv2 := [(2, .int 0), (0, .ref a), (1, .int p1)]) C (dX12_proofNow 1 rfl) rfl (by decide) rfl ?_
  obtain ⟨n16, H⟩ := H
  refine z_sub [1, 2, 0] rfl ?_
  refine sX12_proofNow_L2 C hr hm hu1 hu2 (fun m15 H => ?_) n16 0 m H
  refine z_bipush (pc := 51) (v := (-2)) C (dX12_proofNow 27 rfl) (by decide) ?_
  exact z_iret (pc := 53) C hr hu1 hu2 (dX12_proofNow 28 rfl) ⟨rfl, _, rfl, H⟩
def wX12_proof_J41 (t : zT) (m : zM) (s_0 : Int32) (s_1 : Nat) (Q : Int32 → zM → Prop) : Prop := (tK t s_1 = 12 ∧ (wX12_good t m s_1 s_0 (fun r11 m12 => (Q r11 m12))))
set_option maxHeartbeats 4000000 in
set_option maxRecDepth 20000 in
theorem sX12_proof_J41 {p : Program} {l : Launch} {e : Env} {s : State} {mt : MethodId} {args : Array Value} {below : List Frame} {meth : Method} {c : Code} {g : zG} {u : Nat × Nat} {mc ms : Nat} {t : zT} {m : zM} {s_0 : Int32} {s_1 : Nat} {Q : Int32 → zM → Prop} (C : zC p (zRm 6 mc ms) s mt args meth c g cX12_proof 3 yX12_proof.cls 6) (hr : meth.sig.returnType = (some .int)) (hm : meth.name = yX12_proof.name) (hu1 : u.1 ≤ mc) (hu2 : u.2 ≤ ms) (H : wX12_proof_J41 t m s_0 s_1 Q) : zW p l e (zRm 6 mc ms) s mt args below meth c g (MQ below (zQc g (zPi t Q)) args s mc ms (zFar g)) u 3 t m 41 [] [.int s_0, .ref s_1] := by
  unfold wX12_proof_J41 at H
  obtain ⟨h10, H⟩ := H
  refine zc_Vi (pc := 41) (rest := []) C YX12_good wl_X12_51 (kX12_good H) (by decide) h10 rfl (by decide) (dX12_proof 23 rfl) rfl hu1 hu2 (Nat.le_of_ble_eq_true rfl) rfl (fun r11 m12 H => ?_)
  exact z_iret (pc := 44) C hr hu1 hu2 (dX12_proof 24 rfl) ⟨rfl, _, rfl, H⟩
def wX12_proof (t : zT) (m : zM) (a : Nat) (p1 : Int32) (Q : Int32 → zM → Prop) : Prop := (tK t a = 12 ∧ (wX12_isThing t (pI m a 0 0) a p1 (fun r2 m3 => ((r2 = 0 → (wX12_refused t m3 a 1 (fun r13 m14 => (Q r13 m14)))) ∧ (¬ r2 = 0 → (wX12_proofNow t m3 a p1 (fun r5 m6 => ((r5 = (-2) → (wX12_proof_J41 t m6 (-2) a Q)) ∧ (¬ r5 = (-2) → (wX12_bits t m6 r5 (fun r8 m9 => (wX12_proof_J41 t m9 r8 a Q))))))))))))
set_option maxHeartbeats 4000000 in
set_option maxRecDepth 20000 in
theorem kX12_proof {l : Launch} {t : zT} {m : zM} {a : Nat} {p1 : Int32} {Q : Int32 → zM → Prop} (H : wX12_proof t m a p1 Q) : zMet l yX12_proof cX12_proof 3 (some .int) 6 0 0 t m [.ref a, .int p1] (zPi t Q) := by
  refine zmet (by decide +kernel) (Nat.le_of_ble_eq_true rfl) ?_
  intro p e s mt args below meth c g C hr hm
  unfold wX12_proof at H
  have hu1 : ((0, 0) : Nat × Nat).1 ≤ 0 := Nat.le_refl 0
  have hu2 : ((0, 0) : Nat × Nat).2 ≤ 0 := Nat.le_refl 0
  refine z_aload_n (pc := 0) C (dX12_proof 0 rfl) rfl 0 rfl ?_
  refine z_iconst (pc := 1) (v := 0) C (dX12_proof 1 rfl) (by decide) ?_
  obtain ⟨h1, H⟩ := H
  refine z_putI (pc := 2) C zc12 h1 0 (by decide) rfl rfl wf_X12_41 (dX12_proof 2 rfl) ?_
  refine z_aload_n (pc := 5) C (dX12_proof 3 rfl) rfl 0 rfl ?_
  refine z_iload_n (pc := 6) C (dX12_proof 4 rfl) rfl 1 rfl ?_
  refine zc_Vi (pc := 7) (rest := []) C YX12_isThing wl_X12_364 (kX12_isThing H) (by decide) h1 rfl (by decide) (dX12_proof 5 rfl) rfl hu1 hu2 (Nat.le_of_ble_eq_true rfl) rfl (fun r2 m3 H => ?_)
  refine z_if_ne (pc := 10) (tgt := 19) C (dX12_proof 6 rfl) (by decide) (fun c4 => ?_) (fun c4 => ?_)
  · replace H := H.2 c4
    refine z_aload_n (pc := 19) C (dX12_proof 11 rfl) rfl 0 rfl ?_
    refine z_iload_n (pc := 20) C (dX12_proof 12 rfl) rfl 1 rfl ?_
    refine zc_Vi (pc := 21) (rest := []) C YX12_proofNow wl_X12_390 (kX12_proofNow H) (by decide) h1 rfl (by decide) (dX12_proof 13 rfl) rfl hu1 hu2 (Nat.le_of_ble_eq_true rfl) rfl (fun r5 m6 H => ?_)
    refine z_istore_n (pc := 24) (i := 2) (lv2 := [(2, .int r5), (0, .ref a), (1, .int p1)]) C (dX12_proof 14 rfl) rfl (by decide) rfl ?_
    refine z_aload_n (pc := 25) C (dX12_proof 15 rfl) rfl 1 rfl ?_
    refine z_iload_n (pc := 26) C (dX12_proof 16 rfl) rfl 0 rfl ?_
    refine z_bipush (pc := 27) (v := (-2)) C (dX12_proof 17 rfl) (by decide) ?_
    refine z_icmp_ne (pc := 29) (tgt := 37) C (dX12_proof 18 rfl) (by decide) (fun c7 => ?_) (fun c7 => ?_)
    · replace H := H.2 c7
      refine z_iload_n (pc := 37) C (dX12_proof 21 rfl) rfl 0 rfl ?_
      refine zc_Si (pc := 38) (rest := [.ref a]) C YX12_bits wl_X12_326 (kX12_bits H) (by decide) (dX12_proof 22 rfl) rfl hu1 hu2 (Nat.le_of_ble_eq_true rfl) rfl (fun r8 m9 H => ?_)
      refine z_sub [] rfl ?_
      exact sX12_proof_J41 C hr hm hu1 hu2 H
    · replace H := H.1 c7
      refine z_bipush (pc := 32) (v := (-2)) C (dX12_proof 19 rfl) (by decide) ?_
      refine z_goto (pc := 34) (tgt := 41) C (dX12_proof 20 rfl) (by decide) ?_
      refine z_sub [] rfl ?_
      exact sX12_proof_J41 C hr hm hu1 hu2 H
  · replace H := H.1 c4
    refine z_aload_n (pc := 13) C (dX12_proof 7 rfl) rfl 0 rfl ?_
    refine z_iconst (pc := 14) (v := 1) C (dX12_proof 8 rfl) (by decide) ?_
    refine zc_Vi (pc := 15) (rest := []) C YX12_refused wl_X12_47 (kX12_refused H) (by decide) h1 rfl (by decide) (dX12_proof 9 rfl) rfl hu1 hu2 (Nat.le_of_ble_eq_true rfl) rfl (fun r13 m14 H => ?_)
    exact z_iret (pc := 18) C hr hu1 hu2 (dX12_proof 10 rfl) ⟨rfl, _, rfl, H⟩
def wX12_proofBy (t : zT) (m : zM) (a : Nat) (p1 : Int32) (Q : Int32 → zM → Prop) : Prop := (tK t a = 12 ∧ (wX12_isThing t (pI m a 0 0) a p1 (fun r2 m3 => ((r2 = 0 → (wX12_refused t m3 a 1 (fun r5 m6 => (Q r5 m6)))) ∧ (¬ r2 = 0 → (wX12_proofNow t m3 a p1 (fun r7 m8 => (wX12_good t m8 a r7 (fun r9 m10 => (Q r9 m10))))))))))
set_option maxHeartbeats 4000000 in
set_option maxRecDepth 20000 in
theorem kX12_proofBy {l : Launch} {t : zT} {m : zM} {a : Nat} {p1 : Int32} {Q : Int32 → zM → Prop} (H : wX12_proofBy t m a p1 Q) : zMet l yX12_proofBy cX12_proofBy 2 (some .int) 6 0 0 t m [.ref a, .int p1] (zPi t Q) := by
  refine zmet (by decide +kernel) (Nat.le_of_ble_eq_true rfl) ?_
  intro p e s mt args below meth c g C hr hm
  unfold wX12_proofBy at H
  have hu1 : ((0, 0) : Nat × Nat).1 ≤ 0 := Nat.le_refl 0
  have hu2 : ((0, 0) : Nat × Nat).2 ≤ 0 := Nat.le_refl 0
  refine z_aload_n (pc := 0) C (dX12_proofBy 0 rfl) rfl 0 rfl ?_
  refine z_iconst (pc := 1) (v := 0) C (dX12_proofBy 1 rfl) (by decide) ?_
  obtain ⟨h1, H⟩ := H
  refine z_putI (pc := 2) C zc12 h1 0 (by decide) rfl rfl wf_X12_41 (dX12_proofBy 2 rfl) ?_
  refine z_aload_n (pc := 5) C (dX12_proofBy 3 rfl) rfl 0 rfl ?_
  refine z_iload_n (pc := 6) C (dX12_proofBy 4 rfl) rfl 1 rfl ?_
  refine zc_Vi (pc := 7) (rest := []) C YX12_isThing wl_X12_364 (kX12_isThing H) (by decide) h1 rfl (by decide) (dX12_proofBy 5 rfl) rfl hu1 hu2 (Nat.le_of_ble_eq_true rfl) rfl (fun r2 m3 H => ?_)
  refine z_if_eq (pc := 10) (tgt := 25) C (dX12_proofBy 6 rfl) (by decide) (fun c4 => ?_) (fun c4 => ?_)
  · replace H := H.1 c4
    refine z_aload_n (pc := 25) C (dX12_proofBy 13 rfl) rfl 0 rfl ?_
    refine z_iconst (pc := 26) (v := 1) C (dX12_proofBy 14 rfl) (by decide) ?_
    refine zc_Vi (pc := 27) (rest := []) C YX12_refused wl_X12_47 (kX12_refused H) (by decide) h1 rfl (by decide) (dX12_proofBy 15 rfl) rfl hu1 hu2 (Nat.le_of_ble_eq_true rfl) rfl (fun r5 m6 H => ?_)
    exact z_iret (pc := 30) C hr hu1 hu2 (dX12_proofBy 16 rfl) ⟨rfl, _, rfl, H⟩
  · replace H := H.2 c4
    refine z_aload_n (pc := 13) C (dX12_proofBy 7 rfl) rfl 0 rfl ?_
    refine z_aload_n (pc := 14) C (dX12_proofBy 8 rfl) rfl 0 rfl ?_
    refine z_iload_n (pc := 15) C (dX12_proofBy 9 rfl) rfl 1 rfl ?_
    refine zc_Vi (pc := 16) (rest := [.ref a]) C YX12_proofNow wl_X12_390 (kX12_proofNow H) (by decide) h1 rfl (by decide) (dX12_proofBy 10 rfl) rfl hu1 hu2 (Nat.le_of_ble_eq_true rfl) rfl (fun r7 m8 H => ?_)
    refine zc_Vi (pc := 19) (rest := []) C YX12_good wl_X12_51 (kX12_good H) (by decide) h1 rfl (by decide) (dX12_proofBy 11 rfl) rfl hu1 hu2 (Nat.le_of_ble_eq_true rfl) rfl (fun r9 m10 H => ?_)
    refine z_goto (pc := 22) (tgt := 30) C (dX12_proofBy 12 rfl) (by decide) ?_
    exact z_iret (pc := 30) C hr hu1 hu2 (dX12_proofBy 16 rfl) ⟨rfl, _, rfl, H⟩
def wX12_digit (t : zT) (m : zM) (a : Nat) (p1 : Int32) (p2 : Int32) (Q : Int32 → zM → Prop) : Prop := (tK t a = 12 ∧ (tK t (gR m a 20) = 14 ∧ (vp_in p2 (tL t (gR m a 20)) ∧ (¬ (gI m (gR m a 20) p2.toNatClampNeg) = 0 ∧ (tK t (gR m a 3) = 11 ∧ (tK t (gR m (gR m a 3) 10) = 14 ∧ (vp_in p2 (tL t (gR m (gR m a 3) 10)) ∧ (¬ ((gI m (gR m (gR m a 3) 10) p2.toNatClampNeg) + (1 : Int32)) = 0 ∧ (Q ((p1 / (gI m (gR m a 20) p2.toNatClampNeg)) - (p1 / (gI m (gR m a 20) p2.toNatClampNeg)) / ((gI m (gR m (gR m a 3) 10) p2.toNatClampNeg) + (1 : Int32)) * ((gI m (gR m (gR m a 3) 10) p2.toNatClampNeg) + (1 : Int32))) m)))))))))
set_option maxHeartbeats 4000000 in
set_option maxRecDepth 20000 in
theorem kX12_digit {l : Launch} {t : zT} {m : zM} {a : Nat} {p1 : Int32} {p2 : Int32} {Q : Int32 → zM → Prop} (H : wX12_digit t m a p1 p2 Q) : zMet l yX12_digit cX12_digit 3 (some .int) 0 0 0 t m [.ref a, .int p1, .int p2] (zPi t Q) := by
  refine zmet (by decide +kernel) (Nat.le_of_ble_eq_true rfl) ?_
  intro p e s mt args below meth c g C hr hm
  unfold wX12_digit at H
  have hu1 : ((0, 0) : Nat × Nat).1 ≤ 0 := Nat.le_refl 0
  have hu2 : ((0, 0) : Nat × Nat).2 ≤ 0 := Nat.le_refl 0
  refine z_iload_n (pc := 0) C (dX12_digit 0 rfl) rfl 1 rfl ?_
  refine z_aload_n (pc := 1) C (dX12_digit 1 rfl) rfl 0 rfl ?_
  obtain ⟨h1, H⟩ := H
  refine z_getR (pc := 2) C zc12 h1 20 (by decide) rfl wf_X12_29 (dX12_digit 2 rfl) ?_
  refine z_iload_n (pc := 5) C (dX12_digit 3 rfl) rfl 2 rfl ?_
  obtain ⟨h2, H⟩ := H
  obtain ⟨h3, H⟩ := H
  refine z_iaload (pc := 6) C h2 h3 (dX12_digit 4 rfl) ?_
  obtain ⟨h4, H⟩ := H
  refine z_idiv (pc := 7) C (hne := h4) (dX12_digit 5 rfl) ?_
  refine z_aload_n (pc := 8) C (dX12_digit 6 rfl) rfl 0 rfl ?_
  refine z_getR (pc := 9) C zc12 h1 3 (by decide) rfl wf_X12_314 (dX12_digit 7 rfl) ?_
  obtain ⟨h5, H⟩ := H
  refine z_getRN (pc := 12) C zc11 h5 10 (by decide) rfl wn_X12_171 (dX12_digit 8 rfl) ?_
  refine z_iload_n (pc := 15) C (dX12_digit 9 rfl) rfl 2 rfl ?_
  obtain ⟨h6, H⟩ := H
  obtain ⟨h7, H⟩ := H
  refine z_iaload (pc := 16) C h6 h7 (dX12_digit 10 rfl) ?_
  refine z_iconst (pc := 17) (v := 1) C (dX12_digit 11 rfl) (by decide) ?_
  refine z_iadd (pc := 18) C (dX12_digit 12 rfl) ?_
  obtain ⟨h8, H⟩ := H
  refine z_irem (pc := 19) C (hne := h8) (dX12_digit 13 rfl) ?_
  exact z_iret (pc := 20) C hr hu1 hu2 (dX12_digit 14 rfl) ⟨rfl, _, rfl, H⟩
def wX12_laysKnown_L47 (t : zT) (a_0 : Nat) (Q : zT → zM → Prop) (k94 : zM → Prop) : Nat → Int32 → zM → Prop
  | 0, _, _ => False
  | n + 1, x_1, m => (tK t a_0 = 12 ∧ (tK t (gR m a_0 3) = 11 ∧ (((gI m (gR m a_0 3) 0) ≤ x_1 → (k94 m)) ∧ (¬ (gI m (gR m a_0 3) 0) ≤ x_1 → (tK t (gR m a_0 20) = 14 ∧ (vp_in x_1 (tL t (gR m a_0 20)) ∧ (tK t (gR m (gR m a_0 3) 10) = 14 ∧ (vp_in x_1 (tL t (gR m (gR m a_0 3) 10)) ∧ (wX12_laysKnown_L47 t a_0 Q k94 n (x_1 + 1) (pI (pI m (gR m a_0 20) x_1.toNatClampNeg (gI m a_0 24)) a_0 24 ((gI (pI m (gR m a_0 20) x_1.toNatClampNeg (gI m a_0 24)) a_0 24) * ((gI (pI m (gR m a_0 20) x_1.toNatClampNeg (gI m a_0 24)) (gR m (gR m a_0 3) 10) x_1.toNatClampNeg) + (1 : Int32)))))))))))))
set_option maxHeartbeats 4000000 in
set_option maxRecDepth 20000 in
theorem sX12_laysKnown_L47 {p : Program} {l : Launch} {e : Env} {s : State} {mt : MethodId} {args : Array Value} {below : List Frame} {meth : Method} {c : Code} {g : zG} {u : Nat × Nat} {mc ms : Nat} {t : zT} {a_0 : Nat} {Q : zT → zM → Prop} {k94 : zM → Prop} (C : zC p (zRm 2 mc ms) s mt args meth c g cX12_laysKnown 4 yX12_laysKnown.cls 2) (hr : meth.sig.returnType = none) (hm : meth.name = yX12_laysKnown.name) (hu1 : u.1 ≤ mc) (hu2 : u.2 ≤ ms)
    (K94 : ∀ (m : zM), k94 m → zW p l e (zRm 2 mc ms) s mt args below meth c g (MQ below (zQc g (zAw Q)) args s mc ms (zFar g)) u 4 t m 94 [(0, .ref a_0)] []) : ∀ (n : Nat) (x_1 : Int32) (m : zM), wX12_laysKnown_L47 t a_0 Q k94 n x_1 m → zW p l e (zRm 2 mc ms) s mt args below meth c g (MQ below (zQc g (zAw Q)) args s mc ms (zFar g)) u 4 t m 47 [(0, .ref a_0), (1, .int x_1)] [] := by
  intro n
  induction n with
  | zero => intro x_1 m H; exact H.elim
  | succ n ih =>
    intro x_1 m H
    simp only [wX12_laysKnown_L47] at H
    refine z_iload_n (pc := 47) C (dX12_laysKnown_p0 23 rfl) rfl 1 rfl ?_
    refine z_aload_n (pc := 48) C (dX12_laysKnown_p0 24 rfl) rfl 0 rfl ?_
    obtain ⟨h11, H⟩ := H
    refine z_getR (pc := 49) C zc12 h11 3 (by decide) rfl wf_X12_314 (dX12_laysKnown_p0 25 rfl) ?_
    obtain ⟨h12, H⟩ := H
    refine z_getIN (pc := 52) C zc11 h12 0 (by decide) rfl wn_X12_180 (dX12_laysKnown_p0 26 rfl) ?_
    refine z_icmp_ge (pc := 55) (tgt := 94) C (dX12_laysKnown_p0 27 rfl) (by decide) (fun c13 => ?_) (fun c13 => ?_)
    · replace H := H.1 c13
      refine z_sub [0] rfl ?_
      exact K94 m H
    · replace H := H.2 c13
      refine z_aload_n (pc := 58) C (dX12_laysKnown_p0 28 rfl) rfl 0 rfl ?_
      refine z_getR (pc := 59) C zc12 h11 20 (by decide) rfl wf_X12_29 (dX12_laysKnown_p0 29 rfl) ?_
      refine z_iload_n (pc := 62) C (dX12_laysKnown_p0 30 rfl) rfl 1 rfl ?_
      refine z_aload_n (pc := 63) C (dX12_laysKnown_p0 31 rfl) rfl 0 rfl ?_
      refine z_getI (pc := 64) C zc12 h11 24 (by decide) rfl wf_X12_407 (dX12_laysKnown_p0 32 rfl) ?_
      obtain ⟨h14, H⟩ := H
      obtain ⟨h15, H⟩ := H
      refine z_iastore (pc := 67) C h14 h15 (dX12_laysKnown_p0 33 rfl) ?_
      refine z_aload_n (pc := 68) C (dX12_laysKnown_p0 34 rfl) rfl 0 rfl ?_
      refine z_dup (pc := 69) C (dX12_laysKnown_p0 35 rfl) rfl ?_
      refine z_getI (pc := 70) C zc12 h11 24 (by decide) rfl wf_X12_407 (dX12_laysKnown_p0 36 rfl) ?_
      refine z_aload_n (pc := 73) C (dX12_laysKnown_p0 37 rfl) rfl 0 rfl ?_
      refine z_getR (pc := 74) C zc12 h11 3 (by decide) rfl wf_X12_314 (dX12_laysKnown_p0 38 rfl) ?_
      refine z_getRN (pc := 77) C zc11 h12 10 (by decide) rfl wn_X12_171 (dX12_laysKnown_p0 39 rfl) ?_
      refine z_iload_n (pc := 80) C (dX12_laysKnown_p0 40 rfl) rfl 1 rfl ?_
      obtain ⟨h16, H⟩ := H
      obtain ⟨h17, H⟩ := H
      refine z_iaload (pc := 81) C h16 h17 (dX12_laysKnown_p0 41 rfl) ?_
      refine z_iconst (pc := 82) (v := 1) C (dX12_laysKnown_p0 42 rfl) (by decide) ?_
      refine z_iadd (pc := 83) C (dX12_laysKnown_p0 43 rfl) ?_
      refine z_imul (pc := 84) C (dX12_laysKnown_p0 44 rfl) ?_
      refine z_putI (pc := 85) C zc12 h11 24 (by decide) rfl rfl wf_X12_407 (dX12_laysKnown_p0 45 rfl) ?_
      refine z_iinc (pc := 88) (i := 1) (v := x_1 + 1) (lv2 := [(1, .int (x_1 + 1)), (0, .ref a_0)]) C (dX12_laysKnown_p0 46 rfl) 1 rfl (by rfl) (by decide) rfl ?_
      refine z_goto (pc := 91) (tgt := 47) C (dX12_laysKnown_p0 47 rfl) (by decide) ?_
      refine z_sub [1, 0] rfl ?_
      exact ih (x_1 + 1) (pI (pI m (gR m a_0 20) x_1.toNatClampNeg (gI m a_0 24)) a_0 24 ((gI (pI m (gR m a_0 20) x_1.toNatClampNeg (gI m a_0 24)) a_0 24) * ((gI (pI m (gR m a_0 20) x_1.toNatClampNeg (gI m a_0 24)) (gR m (gR m a_0 3) 10) x_1.toNatClampNeg) + (1 : Int32)))) H
def wX12_laysKnown_L96 (t : zT) (a_0 : Nat) (Q : zT → zM → Prop) (k117 : zM → Prop) : Nat → Int32 → zM → Prop
  | 0, _, _ => False
  | n + 1, x_1, m => (tK t a_0 = 12 ∧ (((gI m a_0 24) ≤ x_1 → (k117 m)) ∧ (¬ (gI m a_0 24) ≤ x_1 → (tK t (gR m a_0 22) = 14 ∧ (vp_in x_1 (tL t (gR m a_0 22)) ∧ (wX12_laysKnown_L96 t a_0 Q k117 n (x_1 + 1) (pI m (gR m a_0 22) x_1.toNatClampNeg 0)))))))
set_option maxHeartbeats 4000000 in
set_option maxRecDepth 20000 in
theorem sX12_laysKnown_L96 {p : Program} {l : Launch} {e : Env} {s : State} {mt : MethodId} {args : Array Value} {below : List Frame} {meth : Method} {c : Code} {g : zG} {u : Nat × Nat} {mc ms : Nat} {t : zT} {a_0 : Nat} {Q : zT → zM → Prop} {k117 : zM → Prop} (C : zC p (zRm 2 mc ms) s mt args meth c g cX12_laysKnown 4 yX12_laysKnown.cls 2) (hr : meth.sig.returnType = none) (hm : meth.name = yX12_laysKnown.name) (hu1 : u.1 ≤ mc) (hu2 : u.2 ≤ ms)
    (K117 : ∀ (m : zM), k117 m → zW p l e (zRm 2 mc ms) s mt args below meth c g (MQ below (zQc g (zAw Q)) args s mc ms (zFar g)) u 4 t m 117 [(0, .ref a_0)] []) : ∀ (n : Nat) (x_1 : Int32) (m : zM), wX12_laysKnown_L96 t a_0 Q k117 n x_1 m → zW p l e (zRm 2 mc ms) s mt args below meth c g (MQ below (zQc g (zAw Q)) args s mc ms (zFar g)) u 4 t m 96 [(0, .ref a_0), (1, .int x_1)] [] := by
  intro n
  induction n with
  | zero => intro x_1 m H; exact H.elim
  | succ n ih =>
    intro x_1 m H
    simp only [wX12_laysKnown_L96] at H
    refine z_iload_n (pc := 96) C (dX12_laysKnown_p0 50 rfl) rfl 1 rfl ?_
    refine z_aload_n (pc := 97) C (dX12_laysKnown_p0 51 rfl) rfl 0 rfl ?_
    obtain ⟨h19, H⟩ := H
    refine z_getI (pc := 98) C zc12 h19 24 (by decide) rfl wf_X12_407 (dX12_laysKnown_p0 52 rfl) ?_
    refine z_icmp_ge (pc := 101) (tgt := 117) C (dX12_laysKnown_p0 53 rfl) (by decide) (fun c20 => ?_) (fun c20 => ?_)
    · replace H := H.1 c20
      refine z_sub [0] rfl ?_
      exact K117 m H
    · replace H := H.2 c20
      refine z_aload_n (pc := 104) C (dX12_laysKnown_p0 54 rfl) rfl 0 rfl ?_
      refine z_getR (pc := 105) C zc12 h19 22 (by decide) rfl wf_X12_402 (dX12_laysKnown_p0 55 rfl) ?_
      refine z_iload_n (pc := 108) C (dX12_laysKnown_p0 56 rfl) rfl 1 rfl ?_
      refine z_iconst (pc := 109) (v := 0) C (dX12_laysKnown_p0 57 rfl) (by decide) ?_
      obtain ⟨h21, H⟩ := H
      obtain ⟨h22, H⟩ := H
      refine z_iastore (pc := 110) C h21 h22 (dX12_laysKnown_p0 58 rfl) ?_
      refine z_iinc (pc := 111) (i := 1) (v := x_1 + 1) (lv2 := [(1, .int (x_1 + 1)), (0, .ref a_0)]) C (dX12_laysKnown_p0 59 rfl) 1 rfl (by rfl) (by decide) rfl ?_
      refine z_goto (pc := 114) (tgt := 96) C (dX12_laysKnown_p0 60 rfl) (by decide) ?_
      refine z_sub [1, 0] rfl ?_
      exact ih (x_1 + 1) (pI m (gR m a_0 22) x_1.toNatClampNeg 0) H
def wX12_laysKnown_L146 (t : zT) (a_0 : Nat) (x_1 : Int32) (Q : zT → zM → Prop) (k179 : Int32 → zM → Prop) : Nat → Int32 → Int32 → zM → Prop
  | 0, _, _, _ => False
  | n + 1, x_2, x_3, m => (tK t a_0 = 12 ∧ (tK t (gR m a_0 3) = 11 ∧ (((gI m (gR m a_0 3) 0) ≤ x_3 → (k179 x_2 m)) ∧ (¬ (gI m (gR m a_0 3) 0) ≤ x_3 → (tK t (gR m a_0 20) = 14 ∧ (vp_in x_3 (tL t (gR m a_0 20)) ∧ (wX12_answerOf t m a_0 x_1 x_3 (fun r35 m36 => (∀ x37 : Int32, x37 = (x_2 + ((gI m (gR m a_0 20) x_3.toNatClampNeg) * r35)) → ((wX12_laysKnown_L146 t a_0 x_1 Q k179 n x37 (x_3 + 1) m36)))))))))))
set_option maxHeartbeats 4000000 in
set_option maxRecDepth 20000 in
theorem sX12_laysKnown_L146 {p : Program} {l : Launch} {e : Env} {s : State} {mt : MethodId} {args : Array Value} {below : List Frame} {meth : Method} {c : Code} {g : zG} {u : Nat × Nat} {mc ms : Nat} {t : zT} {a_0 : Nat} {x_1 : Int32} {Q : zT → zM → Prop} {k179 : Int32 → zM → Prop} (C : zC p (zRm 2 mc ms) s mt args meth c g cX12_laysKnown 4 yX12_laysKnown.cls 2) (hr : meth.sig.returnType = none) (hm : meth.name = yX12_laysKnown.name) (hu1 : u.1 ≤ mc) (hu2 : u.2 ≤ ms)
    (K179 : ∀ (v0 : Int32) (m : zM), k179 v0 m → zW p l e (zRm 2 mc ms) s mt args below meth c g (MQ below (zQc g (zAw Q)) args s mc ms (zFar g)) u 4 t m 179 [(0, .ref a_0), (1, .int x_1), (2, .int v0)] []) : ∀ (n : Nat) (x_2 : Int32) (x_3 : Int32) (m : zM), wX12_laysKnown_L146 t a_0 x_1 Q k179 n x_2 x_3 m → zW p l e (zRm 2 mc ms) s mt args below meth c g (MQ below (zQc g (zAw Q)) args s mc ms (zFar g)) u 4 t m 146 [(0, .ref a_0), (1, .int x_1), (2, .int x_2), (3, .int x_3)] [] := by
  intro n
  induction n with
  | zero => intro x_2 x_3 m H; exact H.elim
  | succ n ih =>
    intro x_2 x_3 m H
    simp only [wX12_laysKnown_L146] at H
    refine z_iload_n (pc := 146) C (dX12_laysKnown_p0 78 rfl) rfl 3 rfl ?_
    refine z_aload_n (pc := 147) C (dX12_laysKnown_p0 79 rfl) rfl 0 rfl ?_
    obtain ⟨h30, H⟩ := H
    refine z_getR (pc := 148) C zc12 h30 3 (by decide) rfl wf_X12_314 (dX12_laysKnown_p0 80 rfl) ?_
    obtain ⟨h31, H⟩ := H
    refine z_getIN (pc := 151) C zc11 h31 0 (by decide) rfl wn_X12_180 (dX12_laysKnown_p0 81 rfl) ?_
    refine z_icmp_ge (pc := 154) (tgt := 179) C (dX12_laysKnown_p0 82 rfl) (by decide) (fun c32 => ?_) (fun c32 => ?_)
    · replace H := H.1 c32
      refine z_sub [0, 1, 2] rfl ?_
      exact K179 x_2 m H
    · replace H := H.2 c32
      refine z_iload_n (pc := 157) C (dX12_laysKnown_p0 83 rfl) rfl 2 rfl ?_
      refine z_aload_n (pc := 158) C (dX12_laysKnown_p0 84 rfl) rfl 0 rfl ?_
      refine z_getR (pc := 159) C zc12 h30 20 (by decide) rfl wf_X12_29 (dX12_laysKnown_p0 85 rfl) ?_
      refine z_iload_n (pc := 162) C (dX12_laysKnown_p0 86 rfl) rfl 3 rfl ?_
      obtain ⟨h33, H⟩ := H
      obtain ⟨h34, H⟩ := H
      refine z_iaload (pc := 163) C h33 h34 (dX12_laysKnown_p0 87 rfl) ?_
      refine z_aload_n (pc := 164) C (dX12_laysKnown_p0 88 rfl) rfl 0 rfl ?_
      refine z_iload_n (pc := 165) C (dX12_laysKnown_p0 89 rfl) rfl 1 rfl ?_
      refine z_iload_n (pc := 166) C (dX12_laysKnown_p0 90 rfl) rfl 3 rfl ?_
      refine zc_Vi (pc := 167) (rest := [.int (gI m (gR m a_0 20) x_3.toNatClampNeg), .int x_2]) C YX12_answerOf wl_X12_320 (kX12_answerOf H) (by decide) h30 rfl (by decide) (dX12_laysKnown_p0 91 rfl) rfl hu1 hu2 (Nat.le_of_ble_eq_true rfl) rfl (fun r35 m36 H => ?_)
      refine z_imul (pc := 170) C (dX12_laysKnown_p0 92 rfl) ?_
      refine z_iadd (pc := 171) C (dX12_laysKnown_p0 93 rfl) ?_
      refine z_int (fun x37 hx37 => ?_)
      replace H := H x37 hx37
      refine z_istore_n (pc := 172) (i := 2) (lv2 := [(2, .int x37), (0, .ref a_0), (1, .int x_1), (3, .int x_3)]) C (dX12_laysKnown_p0 94 rfl) rfl (by decide) rfl ?_
      refine z_iinc (pc := 173) (i := 3) (v := x_3 + 1) (lv2 := [(3, .int (x_3 + 1)), (2, .int x37), (0, .ref a_0), (1, .int x_1)]) C (dX12_laysKnown_p0 95 rfl) 3 rfl (by rfl) (by decide) rfl ?_
      refine z_goto (pc := 176) (tgt := 146) C (dX12_laysKnown_p0 96 rfl) (by decide) ?_
      refine z_sub [2, 3, 1, 0] rfl ?_
      exact ih x37 (x_3 + 1) m36 H
def wX12_laysKnown_J186 (t : zT) (m : zM) (a_0 : Nat) (x_1 : Int32) (Q : zT → zM → Prop) (r119 : Int32 → zM → Prop) : Prop := (r119 (x_1 + 1) m)
set_option maxHeartbeats 4000000 in
set_option maxRecDepth 20000 in
theorem sX12_laysKnown_J186 {p : Program} {l : Launch} {e : Env} {s : State} {mt : MethodId} {args : Array Value} {below : List Frame} {meth : Method} {c : Code} {g : zG} {u : Nat × Nat} {mc ms : Nat} {t : zT} {m : zM} {a_0 : Nat} {x_1 : Int32} {Q : zT → zM → Prop} {r119 : Int32 → zM → Prop} (C : zC p (zRm 2 mc ms) s mt args meth c g cX12_laysKnown 4 yX12_laysKnown.cls 2) (hr : meth.sig.returnType = none) (hm : meth.name = yX12_laysKnown.name) (hu1 : u.1 ≤ mc) (hu2 : u.2 ≤ ms)
    (R119 : ∀ (v0 : Int32) (m : zM), r119 v0 m → zW p l e (zRm 2 mc ms) s mt args below meth c g (MQ below (zQc g (zAw Q)) args s mc ms (zFar g)) u 4 t m 119 [(0, .ref a_0), (1, .int v0)] []) (H : wX12_laysKnown_J186 t m a_0 x_1 Q r119) : zW p l e (zRm 2 mc ms) s mt args below meth c g (MQ below (zQc g (zAw Q)) args s mc ms (zFar g)) u 4 t m 186 [(0, .ref a_0), (1, .int x_1)] [] := by
  unfold wX12_laysKnown_J186 at H
  refine z_iinc (pc := 186) (i := 1) (v := x_1 + 1) (lv2 := [(1, .int (x_1 + 1)), (0, .ref a_0)]) C (dX12_laysKnown_p0 102 rfl) 1 rfl (by rfl) (by decide) rfl ?_
  refine z_goto (pc := 189) (tgt := 119) C (dX12_laysKnown_p0 103 rfl) (by decide) ?_
  refine z_sub [1, 0] rfl ?_
  exact R119 (x_1 + 1) m H
def wX12_laysKnown_L119 (t : zT) (a_0 : Nat) (Q : zT → zM → Prop) (k192 : zM → Prop) : Nat → Int32 → zM → Prop
  | 0, _, _ => False
  | n + 1, x_1, m => (tK t a_0 = 12 ∧ (tK t (gR m a_0 3) = 11 ∧ (((gI m (gR m a_0 3) 9) ≤ x_1 → (k192 m)) ∧ (¬ (gI m (gR m a_0 3) 9) ≤ x_1 → (tK t (gR m a_0 17) = 16 ∧ (vp_in x_1 (tL t (gR m a_0 17)) ∧ (((gI m (gR m a_0 17) x_1.toNatClampNeg) = 0 → (wX12_laysKnown_J186 t m a_0 x_1 Q (wX12_laysKnown_L119 t a_0 Q k192 n))) ∧ (¬ (gI m (gR m a_0 17) x_1.toNatClampNeg) = 0 → (∃ n42, wX12_laysKnown_L146 t a_0 x_1 Q (fun v38 m39 => (tK t (gR m39 a_0 22) = 14 ∧ (vp_in v38 (tL t (gR m39 a_0 22)) ∧ (wX12_laysKnown_J186 t (pI m39 (gR m39 a_0 22) v38.toNatClampNeg 1) a_0 x_1 Q (wX12_laysKnown_L119 t a_0 Q k192 n))))) n42 0 0 m)))))))))
set_option maxHeartbeats 4000000 in
set_option maxRecDepth 20000 in
theorem sX12_laysKnown_L119 {p : Program} {l : Launch} {e : Env} {s : State} {mt : MethodId} {args : Array Value} {below : List Frame} {meth : Method} {c : Code} {g : zG} {u : Nat × Nat} {mc ms : Nat} {t : zT} {a_0 : Nat} {Q : zT → zM → Prop} {k192 : zM → Prop} (C : zC p (zRm 2 mc ms) s mt args meth c g cX12_laysKnown 4 yX12_laysKnown.cls 2) (hr : meth.sig.returnType = none) (hm : meth.name = yX12_laysKnown.name) (hu1 : u.1 ≤ mc) (hu2 : u.2 ≤ ms)
    (K192 : ∀ (m : zM), k192 m → zW p l e (zRm 2 mc ms) s mt args below meth c g (MQ below (zQc g (zAw Q)) args s mc ms (zFar g)) u 4 t m 192 [(0, .ref a_0)] []) : ∀ (n : Nat) (x_1 : Int32) (m : zM), wX12_laysKnown_L119 t a_0 Q k192 n x_1 m → zW p l e (zRm 2 mc ms) s mt args below meth c g (MQ below (zQc g (zAw Q)) args s mc ms (zFar g)) u 4 t m 119 [(0, .ref a_0), (1, .int x_1)] [] := by
  intro n
  induction n with
  | zero => intro x_1 m H; exact H.elim
  | succ n ih =>
    intro x_1 m H
    simp only [wX12_laysKnown_L119] at H
    refine z_iload_n (pc := 119) C (dX12_laysKnown_p0 63 rfl) rfl 1 rfl ?_
    refine z_aload_n (pc := 120) C (dX12_laysKnown_p0 64 rfl) rfl 0 rfl ?_
    obtain ⟨h24, H⟩ := H
    refine z_getR (pc := 121) C zc12 h24 3 (by decide) rfl wf_X12_314 (dX12_laysKnown_p0 65 rfl) ?_
    obtain ⟨h25, H⟩ := H
    refine z_getIN (pc := 124) C zc11 h25 9 (by decide) rfl wn_X12_217 (dX12_laysKnown_p0 66 rfl) ?_
    refine z_icmp_ge (pc := 127) (tgt := 192) C (dX12_laysKnown_p0 67 rfl) (by decide) (fun c26 => ?_) (fun c26 => ?_)
    · replace H := H.1 c26
      refine z_sub [0] rfl ?_
      exact K192 m H
    · replace H := H.2 c26
      refine z_aload_n (pc := 130) C (dX12_laysKnown_p0 68 rfl) rfl 0 rfl ?_
      refine z_getR (pc := 131) C zc12 h24 17 (by decide) rfl wf_X12_21 (dX12_laysKnown_p0 69 rfl) ?_
      refine z_iload_n (pc := 134) C (dX12_laysKnown_p0 70 rfl) rfl 1 rfl ?_
      obtain ⟨h27, H⟩ := H
      obtain ⟨h28, H⟩ := H
      refine z_zaload (pc := 135) C h27 h28 (dX12_laysKnown_p0 71 rfl) ?_
      refine z_if_ne (pc := 136) (tgt := 142) C (dX12_laysKnown_p0 72 rfl) (by decide) (fun c29 => ?_) (fun c29 => ?_)
      · replace H := H.2 c29
        refine z_iconst (pc := 142) (v := 0) C (dX12_laysKnown_p0 74 rfl) (by decide) ?_
        refine z_istore_n (pc := 143) (i := 2) (lv2 := [(2, .int 0), (0, .ref a_0), (1, .int x_1)]) C (dX12_laysKnown_p0 75 rfl) rfl (by decide) rfl ?_
        refine z_iconst (pc := 144) (v := 0) C (dX12_laysKnown_p0 76 rfl) (by decide) ?_
        refine z_istore_n (pc := 145) (i := 3) (lv2 := [(3, .int 0), (2, .int 0), (0, .ref a_0), (1, .int x_1)]) C (dX12_laysKnown_p0 77 rfl) rfl (by decide) rfl ?_
        obtain ⟨n42, H⟩ := H
        refine z_sub [2, 3, 1, 0] rfl ?_
        refine sX12_laysKnown_L146 C hr hm hu1 hu2 (fun v38 m39 H => ?_) n42 0 0 m H
        refine z_aload_n (pc := 179) C (dX12_laysKnown_p0 97 rfl) rfl 0 rfl ?_
        refine z_getR (pc := 180) C zc12 h24 22 (by decide) rfl wf_X12_402 (dX12_laysKnown_p0 98 rfl) ?_
        refine z_iload_n (pc := 183) C (dX12_laysKnown_p0 99 rfl) rfl 2 rfl ?_
        refine z_iconst (pc := 184) (v := 1) C (dX12_laysKnown_p0 100 rfl) (by decide) ?_
        obtain ⟨h40, H⟩ := H
        obtain ⟨h41, H⟩ := H
        refine z_iastore (pc := 185) C h40 h41 (dX12_laysKnown_p0 101 rfl) ?_
        refine z_sub [0, 1] rfl ?_
        exact sX12_laysKnown_J186 C hr hm hu1 hu2 ih H
      · replace H := H.1 c29
        refine z_goto (pc := 139) (tgt := 186) C (dX12_laysKnown_p0 73 rfl) (by decide) ?_
        refine z_sub [0, 1] rfl ?_
        exact sX12_laysKnown_J186 C hr hm hu1 hu2 ih H
def wX12_laysKnown_L238 (t : zT) (a_0 : Nat) (x_1 : Int32) (x_2 : Int32) (Q : zT → zM → Prop) (k291 : zM → Prop) : Nat → Int32 → zM → Prop
  | 0, _, _ => False
  | n + 1, x_3, m => (tK t a_0 = 12 ∧ (tK t (gR m a_0 3) = 11 ∧ (tK t (gR m (gR m a_0 3) 10) = 14 ∧ (vp_in x_1 (tL t (gR m (gR m a_0 3) 10)) ∧ (((gI m (gR m (gR m a_0 3) 10) x_1.toNatClampNeg) ≤ x_3 → (k291 m)) ∧ (¬ (gI m (gR m (gR m a_0 3) 10) x_1.toNatClampNeg) ≤ x_3 → (tK t (gR m a_0 22) = 14 ∧ (vp_in x_2 (tL t (gR m a_0 22)) ∧ (tK t (gR m a_0 20) = 14 ∧ (vp_in x_1 (tL t (gR m a_0 20)) ∧ (vp_in (x_2 - ((gI m (gR m a_0 20) x_1.toNatClampNeg) * ((gI m (gR m (gR m a_0 3) 10) x_1.toNatClampNeg) - x_3))) (tL t (gR m a_0 22)) ∧ (wX12_laysKnown_L238 t a_0 x_1 x_2 Q k291 n (x_3 + 1) (pI m (gR m a_0 22) x_2.toNatClampNeg ((gI m (gR m a_0 22) x_2.toNatClampNeg) + (gI m (gR m a_0 22) ((x_2 - ((gI m (gR m a_0 20) x_1.toNatClampNeg) * ((gI m (gR m (gR m a_0 3) 10) x_1.toNatClampNeg) - x_3))).toNatClampNeg))))))))))))))))
set_option maxHeartbeats 4000000 in
set_option maxRecDepth 20000 in
theorem sX12_laysKnown_L238 {p : Program} {l : Launch} {e : Env} {s : State} {mt : MethodId} {args : Array Value} {below : List Frame} {meth : Method} {c : Code} {g : zG} {u : Nat × Nat} {mc ms : Nat} {t : zT} {a_0 : Nat} {x_1 : Int32} {x_2 : Int32} {Q : zT → zM → Prop} {k291 : zM → Prop} (C : zC p (zRm 2 mc ms) s mt args meth c g cX12_laysKnown 4 yX12_laysKnown.cls 2) (hr : meth.sig.returnType = none) (hm : meth.name = yX12_laysKnown.name) (hu1 : u.1 ≤ mc) (hu2 : u.2 ≤ ms)
    (K291 : ∀ (m : zM), k291 m → zW p l e (zRm 2 mc ms) s mt args below meth c g (MQ below (zQc g (zAw Q)) args s mc ms (zFar g)) u 4 t m 291 [(0, .ref a_0), (1, .int x_1), (2, .int x_2)] []) : ∀ (n : Nat) (x_3 : Int32) (m : zM), wX12_laysKnown_L238 t a_0 x_1 x_2 Q k291 n x_3 m → zW p l e (zRm 2 mc ms) s mt args below meth c g (MQ below (zQc g (zAw Q)) args s mc ms (zFar g)) u 4 t m 238 [(0, .ref a_0), (1, .int x_1), (2, .int x_2), (3, .int x_3)] [] := by
  intro n
  induction n with
  | zero => intro x_3 m H; exact H.elim
  | succ n ih =>
    intro x_3 m H
    simp only [wX12_laysKnown_L238] at H
    refine z_iload_n (pc := 238) C (dX12_laysKnown_p1 10 rfl) rfl 3 rfl ?_
    refine z_aload_n (pc := 239) C (dX12_laysKnown_p1 11 rfl) rfl 0 rfl ?_
    obtain ⟨h55, H⟩ := H
    refine z_getR (pc := 240) C zc12 h55 3 (by decide) rfl wf_X12_314 (dX12_laysKnown_p1 12 rfl) ?_
    obtain ⟨h56, H⟩ := H
    refine z_getRN (pc := 243) C zc11 h56 10 (by decide) rfl wn_X12_171 (dX12_laysKnown_p1 13 rfl) ?_
    refine z_iload_n (pc := 246) C (dX12_laysKnown_p1 14 rfl) rfl 1 rfl ?_
    obtain ⟨h57, H⟩ := H
    obtain ⟨h58, H⟩ := H
    refine z_iaload (pc := 247) C h57 h58 (dX12_laysKnown_p1 15 rfl) ?_
    refine z_icmp_ge (pc := 248) (tgt := 291) C (dX12_laysKnown_p1 16 rfl) (by decide) (fun c59 => ?_) (fun c59 => ?_)
    · replace H := H.1 c59
      refine z_sub [0, 1, 2] rfl ?_
      exact K291 m H
    · replace H := H.2 c59
      refine z_aload_n (pc := 251) C (dX12_laysKnown_p1 17 rfl) rfl 0 rfl ?_
      refine z_getR (pc := 252) C zc12 h55 22 (by decide) rfl wf_X12_402 (dX12_laysKnown_p1 18 rfl) ?_
      refine z_iload_n (pc := 255) C (dX12_laysKnown_p1 19 rfl) rfl 2 rfl ?_
      refine z_dup2_11 (pc := 256) C (dX12_laysKnown_p1 20 rfl) rfl rfl ?_
      obtain ⟨h60, H⟩ := H
      obtain ⟨h61, H⟩ := H
      refine z_iaload (pc := 257) C h60 h61 (dX12_laysKnown_p1 21 rfl) ?_
      refine z_aload_n (pc := 258) C (dX12_laysKnown_p1 22 rfl) rfl 0 rfl ?_
      refine z_getR (pc := 259) C zc12 h55 22 (by decide) rfl wf_X12_402 (dX12_laysKnown_p1 23 rfl) ?_
      refine z_iload_n (pc := 262) C (dX12_laysKnown_p1 24 rfl) rfl 2 rfl ?_
      refine z_aload_n (pc := 263) C (dX12_laysKnown_p1 25 rfl) rfl 0 rfl ?_
      refine z_getR (pc := 264) C zc12 h55 20 (by decide) rfl wf_X12_29 (dX12_laysKnown_p1 26 rfl) ?_
      refine z_iload_n (pc := 267) C (dX12_laysKnown_p1 27 rfl) rfl 1 rfl ?_
      obtain ⟨h62, H⟩ := H
      obtain ⟨h63, H⟩ := H
      refine z_iaload (pc := 268) C h62 h63 (dX12_laysKnown_p1 28 rfl) ?_
      refine z_aload_n (pc := 269) C (dX12_laysKnown_p1 29 rfl) rfl 0 rfl ?_
      refine z_getR (pc := 270) C zc12 h55 3 (by decide) rfl wf_X12_314 (dX12_laysKnown_p1 30 rfl) ?_
      refine z_getRN (pc := 273) C zc11 h56 10 (by decide) rfl wn_X12_171 (dX12_laysKnown_p1 31 rfl) ?_
      refine z_iload_n (pc := 276) C (dX12_laysKnown_p1 32 rfl) rfl 1 rfl ?_
      refine z_iaload (pc := 277) C h57 h58 (dX12_laysKnown_p1 33 rfl) ?_
      refine z_iload_n (pc := 278) C (dX12_laysKnown_p1 34 rfl) rfl 3 rfl ?_
      refine z_isub (pc := 279) C (dX12_laysKnown_p1 35 rfl) ?_
      refine z_imul (pc := 280) C (dX12_laysKnown_p1 36 rfl) ?_
      refine z_isub (pc := 281) C (dX12_laysKnown_p1 37 rfl) ?_
      obtain ⟨h64, H⟩ := H
      refine z_iaload (pc := 282) C h60 h64 (dX12_laysKnown_p1 38 rfl) ?_
      refine z_iadd (pc := 283) C (dX12_laysKnown_p1 39 rfl) ?_
      refine z_iastore (pc := 284) C h60 h61 (dX12_laysKnown_p1 40 rfl) ?_
      refine z_iinc (pc := 285) (i := 3) (v := x_3 + 1) (lv2 := [(3, .int (x_3 + 1)), (0, .ref a_0), (1, .int x_1), (2, .int x_2)]) C (dX12_laysKnown_p1 41 rfl) 3 rfl (by rfl) (by decide) rfl ?_
      refine z_goto (pc := 288) (tgt := 238) C (dX12_laysKnown_p1 42 rfl) (by decide) ?_
      refine z_sub [1, 2, 3, 0] rfl ?_
      exact ih (x_3 + 1) (pI m (gR m a_0 22) x_2.toNatClampNeg ((gI m (gR m a_0 22) x_2.toNatClampNeg) + (gI m (gR m a_0 22) ((x_2 - ((gI m (gR m a_0 20) x_1.toNatClampNeg) * ((gI m (gR m (gR m a_0 3) 10) x_1.toNatClampNeg) - x_3))).toNatClampNeg)))) H
def wX12_laysKnown_J291 (t : zT) (m : zM) (a_0 : Nat) (x_1 : Int32) (x_2 : Int32) (Q : zT → zM → Prop) (r207 : Int32 → zM → Prop) : Prop := (r207 (x_2 + 1) m)
set_option maxHeartbeats 4000000 in
set_option maxRecDepth 20000 in
theorem sX12_laysKnown_J291 {p : Program} {l : Launch} {e : Env} {s : State} {mt : MethodId} {args : Array Value} {below : List Frame} {meth : Method} {c : Code} {g : zG} {u : Nat × Nat} {mc ms : Nat} {t : zT} {m : zM} {a_0 : Nat} {x_1 : Int32} {x_2 : Int32} {Q : zT → zM → Prop} {r207 : Int32 → zM → Prop} (C : zC p (zRm 2 mc ms) s mt args meth c g cX12_laysKnown 4 yX12_laysKnown.cls 2) (hr : meth.sig.returnType = none) (hm : meth.name = yX12_laysKnown.name) (hu1 : u.1 ≤ mc) (hu2 : u.2 ≤ ms)
    (R207 : ∀ (v0 : Int32) (m : zM), r207 v0 m → zW p l e (zRm 2 mc ms) s mt args below meth c g (MQ below (zQc g (zAw Q)) args s mc ms (zFar g)) u 4 t m 207 [(0, .ref a_0), (1, .int x_1), (2, .int v0)] []) (H : wX12_laysKnown_J291 t m a_0 x_1 x_2 Q r207) : zW p l e (zRm 2 mc ms) s mt args below meth c g (MQ below (zQc g (zAw Q)) args s mc ms (zFar g)) u 4 t m 291 [(0, .ref a_0), (1, .int x_1), (2, .int x_2)] [] := by
  unfold wX12_laysKnown_J291 at H
  refine z_iinc (pc := 291) (i := 2) (v := x_2 + 1) (lv2 := [(2, .int (x_2 + 1)), (0, .ref a_0), (1, .int x_1)]) C (dX12_laysKnown_p1 43 rfl) 2 rfl (by rfl) (by decide) rfl ?_
  refine z_goto (pc := 294) (tgt := 207) C (dX12_laysKnown_p1 44 rfl) (by decide) ?_
  refine z_sub [1, 2, 0] rfl ?_
  exact R207 (x_2 + 1) m H
def wX12_laysKnown_L207 (t : zT) (a_0 : Nat) (x_1 : Int32) (Q : zT → zM → Prop) (k297 : zM → Prop) : Nat → Int32 → zM → Prop
  | 0, _, _ => False
  | n + 1, x_2, m => (tK t a_0 = 12 ∧ (((gI m a_0 24) ≤ x_2 → (k297 m)) ∧ (¬ (gI m a_0 24) ≤ x_2 → (wX12_digit t m a_0 x_2 x_1 (fun r49 m50 => (tK t (gR m50 a_0 3) = 11 ∧ (tK t (gR m50 (gR m50 a_0 3) 10) = 14 ∧ (vp_in x_1 (tL t (gR m50 (gR m50 a_0 3) 10)) ∧ ((r49 = (gI m50 (gR m50 (gR m50 a_0 3) 10) x_1.toNatClampNeg) → (∃ n66, wX12_laysKnown_L238 t a_0 x_1 x_2 Q (fun m65 => (wX12_laysKnown_J291 t m65 a_0 x_1 x_2 Q (wX12_laysKnown_L207 t a_0 x_1 Q k297 n))) n66 0 m50)) ∧ (¬ r49 = (gI m50 (gR m50 (gR m50 a_0 3) 10) x_1.toNatClampNeg) → (wX12_laysKnown_J291 t m50 a_0 x_1 x_2 Q (wX12_laysKnown_L207 t a_0 x_1 Q k297 n))))))))))))
set_option maxHeartbeats 4000000 in
set_option maxRecDepth 20000 in
theorem sX12_laysKnown_L207 {p : Program} {l : Launch} {e : Env} {s : State} {mt : MethodId} {args : Array Value} {below : List Frame} {meth : Method} {c : Code} {g : zG} {u : Nat × Nat} {mc ms : Nat} {t : zT} {a_0 : Nat} {x_1 : Int32} {Q : zT → zM → Prop} {k297 : zM → Prop} (C : zC p (zRm 2 mc ms) s mt args meth c g cX12_laysKnown 4 yX12_laysKnown.cls 2) (hr : meth.sig.returnType = none) (hm : meth.name = yX12_laysKnown.name) (hu1 : u.1 ≤ mc) (hu2 : u.2 ≤ ms)
    (K297 : ∀ (m : zM), k297 m → zW p l e (zRm 2 mc ms) s mt args below meth c g (MQ below (zQc g (zAw Q)) args s mc ms (zFar g)) u 4 t m 297 [(0, .ref a_0), (1, .int x_1)] []) : ∀ (n : Nat) (x_2 : Int32) (m : zM), wX12_laysKnown_L207 t a_0 x_1 Q k297 n x_2 m → zW p l e (zRm 2 mc ms) s mt args below meth c g (MQ below (zQc g (zAw Q)) args s mc ms (zFar g)) u 4 t m 207 [(0, .ref a_0), (1, .int x_1), (2, .int x_2)] [] := by
  intro n
  induction n with
  | zero => intro x_2 m H; exact H.elim
  | succ n ih =>
    intro x_2 m H
    simp only [wX12_laysKnown_L207] at H
    refine z_iload_n (pc := 207) C (dX12_laysKnown_p0 113 rfl) rfl 2 rfl ?_
    refine z_aload_n (pc := 208) C (dX12_laysKnown_p0 114 rfl) rfl 0 rfl ?_
    obtain ⟨h47, H⟩ := H
    refine z_getI (pc := 209) C zc12 h47 24 (by decide) rfl wf_X12_407 (dX12_laysKnown_p0 115 rfl) ?_
    refine z_icmp_ge (pc := 212) (tgt := 297) C (dX12_laysKnown_p0 116 rfl) (by decide) (fun c48 => ?_) (fun c48 => ?_)
    · replace H := H.1 c48
      refine z_sub [0, 1] rfl ?_
      exact K297 m H
    · replace H := H.2 c48
      refine z_aload_n (pc := 215) C (dX12_laysKnown_p0 117 rfl) rfl 0 rfl ?_
      refine z_iload_n (pc := 216) C (dX12_laysKnown_p0 118 rfl) rfl 2 rfl ?_
      refine z_iload_n (pc := 217) C (dX12_laysKnown_p0 119 rfl) rfl 1 rfl ?_
      refine zc_Vi (pc := 218) (rest := []) C YX12_digit wl_X12_410 (kX12_digit H) (by decide) h47 rfl (by decide) (dX12_laysKnown_p1 0 rfl) rfl hu1 hu2 (Nat.le_of_ble_eq_true rfl) rfl (fun r49 m50 H => ?_)
      refine z_aload_n (pc := 221) C (dX12_laysKnown_p1 1 rfl) rfl 0 rfl ?_
      refine z_getR (pc := 222) C zc12 h47 3 (by decide) rfl wf_X12_314 (dX12_laysKnown_p1 2 rfl) ?_
      obtain ⟨h51, H⟩ := H
      refine z_getRN (pc := 225) C zc11 h51 10 (by decide) rfl wn_X12_171 (dX12_laysKnown_p1 3 rfl) ?_
      refine z_iload_n (pc := 228) C (dX12_laysKnown_p1 4 rfl) rfl 1 rfl ?_
      obtain ⟨h52, H⟩ := H
      obtain ⟨h53, H⟩ := H
      refine z_iaload (pc := 229) C h52 h53 (dX12_laysKnown_p1 5 rfl) ?_
      refine z_icmp_eq (pc := 230) (tgt := 236) C (dX12_laysKnown_p1 6 rfl) (by decide) (fun c54 => ?_) (fun c54 => ?_)
      · replace H := H.1 c54
        refine z_iconst (pc := 236) (v := 0) C (dX12_laysKnown_p1 8 rfl) (by decide) ?_
        refine z_istore_n (pc := 237) (i := 3) (lv2 := [(3, .int 0), (0, .ref a_0), (1, .int x_1), (2, .int x_2)]) C (dX12_laysKnown_p1 9 rfl) rfl (by decide) rfl ?_
        obtain ⟨n66, H⟩ := H
        refine z_sub [1, 2, 3, 0] rfl ?_
        refine sX12_laysKnown_L238 C hr hm hu1 hu2 (fun m65 H => ?_) n66 0 m50 H
        refine z_sub [0, 1, 2] rfl ?_
        exact sX12_laysKnown_J291 C hr hm hu1 hu2 ih H
      · replace H := H.2 c54
        refine z_goto (pc := 233) (tgt := 291) C (dX12_laysKnown_p1 7 rfl) (by decide) ?_
        refine z_sub [0, 1, 2] rfl ?_
        exact sX12_laysKnown_J291 C hr hm hu1 hu2 ih H
def wX12_laysKnown_L194 (t : zT) (a_0 : Nat) (Q : zT → zM → Prop) (k303 : zM → Prop) : Nat → Int32 → zM → Prop
  | 0, _, _ => False
  | n + 1, x_1, m => (tK t a_0 = 12 ∧ (tK t (gR m a_0 3) = 11 ∧ (((gI m (gR m a_0 3) 0) ≤ x_1 → (k303 m)) ∧ (¬ (gI m (gR m a_0 3) 0) ≤ x_1 → (∃ n68, wX12_laysKnown_L207 t a_0 x_1 Q (fun m67 => (wX12_laysKnown_L194 t a_0 Q k303 n (x_1 + 1) m67)) n68 0 m)))))
set_option maxHeartbeats 4000000 in
set_option maxRecDepth 20000 in
theorem sX12_laysKnown_L194 {p : Program} {l : Launch} {e : Env} {s : State} {mt : MethodId} {args : Array Value} {below : List Frame} {meth : Method} {c : Code} {g : zG} {u : Nat × Nat} {mc ms : Nat} {t : zT} {a_0 : Nat} {Q : zT → zM → Prop} {k303 : zM → Prop} (C : zC p (zRm 2 mc ms) s mt args meth c g cX12_laysKnown 4 yX12_laysKnown.cls 2) (hr : meth.sig.returnType = none) (hm : meth.name = yX12_laysKnown.name) (hu1 : u.1 ≤ mc) (hu2 : u.2 ≤ ms)
    (K303 : ∀ (m : zM), k303 m → zW p l e (zRm 2 mc ms) s mt args below meth c g (MQ below (zQc g (zAw Q)) args s mc ms (zFar g)) u 4 t m 303 [] []) : ∀ (n : Nat) (x_1 : Int32) (m : zM), wX12_laysKnown_L194 t a_0 Q k303 n x_1 m → zW p l e (zRm 2 mc ms) s mt args below meth c g (MQ below (zQc g (zAw Q)) args s mc ms (zFar g)) u 4 t m 194 [(0, .ref a_0), (1, .int x_1)] [] := by
  intro n
  induction n with
  | zero => intro x_1 m H; exact H.elim
  | succ n ih =>
    intro x_1 m H
    simp only [wX12_laysKnown_L194] at H
    refine z_iload_n (pc := 194) C (dX12_laysKnown_p0 106 rfl) rfl 1 rfl ?_
    refine z_aload_n (pc := 195) C (dX12_laysKnown_p0 107 rfl) rfl 0 rfl ?_
    obtain ⟨h44, H⟩ := H
    refine z_getR (pc := 196) C zc12 h44 3 (by decide) rfl wf_X12_314 (dX12_laysKnown_p0 108 rfl) ?_
    obtain ⟨h45, H⟩ := H
    refine z_getIN (pc := 199) C zc11 h45 0 (by decide) rfl wn_X12_180 (dX12_laysKnown_p0 109 rfl) ?_
    refine z_icmp_ge (pc := 202) (tgt := 303) C (dX12_laysKnown_p0 110 rfl) (by decide) (fun c46 => ?_) (fun c46 => ?_)
    · replace H := H.1 c46
      refine z_sub [] rfl ?_
      exact K303 m H
    · replace H := H.2 c46
      refine z_iconst (pc := 205) (v := 0) C (dX12_laysKnown_p0 111 rfl) (by decide) ?_
      refine z_istore_n (pc := 206) (i := 2) (lv2 := [(2, .int 0), (0, .ref a_0), (1, .int x_1)]) C (dX12_laysKnown_p0 112 rfl) rfl (by decide) rfl ?_
      obtain ⟨n68, H⟩ := H
      refine z_sub [1, 2, 0] rfl ?_
      refine sX12_laysKnown_L207 C hr hm hu1 hu2 (fun m67 H => ?_) n68 0 m H
      refine z_iinc (pc := 297) (i := 1) (v := x_1 + 1) (lv2 := [(1, .int (x_1 + 1)), (0, .ref a_0)]) C (dX12_laysKnown_p1 45 rfl) 1 rfl (by rfl) (by decide) rfl ?_
      refine z_goto (pc := 300) (tgt := 194) C (dX12_laysKnown_p1 46 rfl) (by decide) ?_
      refine z_sub [1, 0] rfl ?_
      exact ih (x_1 + 1) m67 H
def wX12_laysKnown_J18 (t : zT) (m : zM) (a_0 : Nat) (Q : zT → zM → Prop) : Prop := (tK t a_0 = 12 ∧ (tK t (gR m a_0 21) = 10 ∧ (tK t (gR (pR m a_0 22 (gR m (gR m a_0 21) 0)) a_0 21) = 10 ∧ (∃ n73, wX12_laysKnown_L47 t a_0 Q (fun m18 => (∃ n72, wX12_laysKnown_L96 t a_0 Q (fun m23 => (∃ n71, wX12_laysKnown_L119 t a_0 Q (fun m43 => (∃ n70, wX12_laysKnown_L194 t a_0 Q (fun m69 => (Q t m69)) n70 0 m43)) n71 0 m23)) n72 0 m18)) n73 0 (pI (pR (pR m a_0 22 (gR m (gR m a_0 21) 0)) a_0 23 (gR (pR m a_0 22 (gR m (gR m a_0 21) 0)) (gR (pR m a_0 22 (gR m (gR m a_0 21) 0)) a_0 21) 1)) a_0 24 1)))))
set_option maxHeartbeats 4000000 in
set_option maxRecDepth 20000 in
theorem sX12_laysKnown_J18 {p : Program} {l : Launch} {e : Env} {s : State} {mt : MethodId} {args : Array Value} {below : List Frame} {meth : Method} {c : Code} {g : zG} {u : Nat × Nat} {mc ms : Nat} {t : zT} {m : zM} {a_0 : Nat} {Q : zT → zM → Prop} (C : zC p (zRm 2 mc ms) s mt args meth c g cX12_laysKnown 4 yX12_laysKnown.cls 2) (hr : meth.sig.returnType = none) (hm : meth.name = yX12_laysKnown.name) (hu1 : u.1 ≤ mc) (hu2 : u.2 ≤ ms) (H : wX12_laysKnown_J18 t m a_0 Q) : zW p l e (zRm 2 mc ms) s mt args below meth c g (MQ below (zQc g (zAw Q)) args s mc ms (zFar g)) u 4 t m 18 [(0, .ref a_0)] [] := by
  unfold wX12_laysKnown_J18 at H
  refine z_aload_n (pc := 18) C (dX12_laysKnown_p0 8 rfl) rfl 0 rfl ?_
  refine z_aload_n (pc := 19) C (dX12_laysKnown_p0 9 rfl) rfl 0 rfl ?_
  obtain ⟨h8, H⟩ := H
  refine z_getR (pc := 20) C zc12 h8 21 (by decide) rfl wf_X12_393 (dX12_laysKnown_p0 10 rfl) ?_
  obtain ⟨h9, H⟩ := H
  refine z_getRN (pc := 23) C zc10 h9 0 (by decide) rfl wn_X12_399 (dX12_laysKnown_p0 11 rfl) ?_
  refine z_putR (pc := 26) C zc12 h8 22 (by decide) rfl rfl wf_X12_402 (dX12_laysKnown_p0 12 rfl) ?_
  refine z_aload_n (pc := 29) C (dX12_laysKnown_p0 13 rfl) rfl 0 rfl ?_
  refine z_aload_n (pc := 30) C (dX12_laysKnown_p0 14 rfl) rfl 0 rfl ?_
  refine z_getR (pc := 31) C zc12 h8 21 (by decide) rfl wf_X12_393 (dX12_laysKnown_p0 15 rfl) ?_
  obtain ⟨h10, H⟩ := H
  refine z_getRN (pc := 34) C zc10 h10 1 (by decide) rfl wn_X12_403 (dX12_laysKnown_p0 16 rfl) ?_
  refine z_putR (pc := 37) C zc12 h8 23 (by decide) rfl rfl wf_X12_406 (dX12_laysKnown_p0 17 rfl) ?_
  refine z_aload_n (pc := 40) C (dX12_laysKnown_p0 18 rfl) rfl 0 rfl ?_
  refine z_iconst (pc := 41) (v := 1) C (dX12_laysKnown_p0 19 rfl) (by decide) ?_
  refine z_putI (pc := 42) C zc12 h8 24 (by decide) rfl rfl wf_X12_407 (dX12_laysKnown_p0 20 rfl) ?_
  refine z_iconst (pc := 45) (v := 0) C (dX12_laysKnown_p0 21 rfl) (by decide) ?_
  refine z_istore_n (pc := 46) (i := 1) (lv2 := [(1, .int 0), (0, .ref a_0)]) C (dX12_laysKnown_p0 22 rfl) rfl (by decide) rfl ?_
  obtain ⟨n73, H⟩ := H
  refine z_sub [1, 0] rfl ?_
  refine sX12_laysKnown_L47 C hr hm hu1 hu2 (fun m18 H => ?_) n73 0 (pI (pR (pR m a_0 22 (gR m (gR m a_0 21) 0)) a_0 23 (gR (pR m a_0 22 (gR m (gR m a_0 21) 0)) (gR (pR m a_0 22 (gR m (gR m a_0 21) 0)) a_0 21) 1)) a_0 24 1) H
  refine z_iconst (pc := 94) (v := 0) C (dX12_laysKnown_p0 48 rfl) (by decide) ?_
  refine z_istore_n (pc := 95) (i := 1) (lv2 := [(1, .int 0), (0, .ref a_0)]) C (dX12_laysKnown_p0 49 rfl) rfl (by decide) rfl ?_
  obtain ⟨n72, H⟩ := H
  refine z_sub [1, 0] rfl ?_
  refine sX12_laysKnown_L96 C hr hm hu1 hu2 (fun m23 H => ?_) n72 0 m18 H
  refine z_iconst (pc := 117) (v := 0) C (dX12_laysKnown_p0 61 rfl) (by decide) ?_
  refine z_istore_n (pc := 118) (i := 1) (lv2 := [(1, .int 0), (0, .ref a_0)]) C (dX12_laysKnown_p0 62 rfl) rfl (by decide) rfl ?_
  obtain ⟨n71, H⟩ := H
  refine z_sub [1, 0] rfl ?_
  refine sX12_laysKnown_L119 C hr hm hu1 hu2 (fun m43 H => ?_) n71 0 m23 H
  refine z_iconst (pc := 192) (v := 0) C (dX12_laysKnown_p0 104 rfl) (by decide) ?_
  refine z_istore_n (pc := 193) (i := 1) (lv2 := [(1, .int 0), (0, .ref a_0)]) C (dX12_laysKnown_p0 105 rfl) rfl (by decide) rfl ?_
  obtain ⟨n70, H⟩ := H
  refine z_sub [1, 0] rfl ?_
  refine sX12_laysKnown_L194 C hr hm hu1 hu2 (fun m69 H => ?_) n70 0 m43 H
  exact z_vret (pc := 303) C hr hu1 hu2 (dX12_laysKnown_p1 47 rfl) ⟨rfl, H⟩
def wX12_laysKnown (cap : Nat × Nat) (t : zT) (m : zM) (a : Nat) (Q : zT → zM → Prop) : Prop := (tK t a = 12 ∧ (((gR m a 21) = 0 → ((0 + 1 ≤ cap.1 ∧ 0 + 2 ≤ cap.2) ∧ (0 < tN t → (0 < (tN t) ∧ (∃ k5 : Nat × Nat, (0 + 1 + k5.1 ≤ cap.1 ∧ 0 + 2 + k5.2 ≤ cap.2) ∧ wX10_init k5 (tNew t 10 0) (zClr m (tN t)) (tN t) (fun t6 m4 => (tK t6 a = 12 ∧ (wX12_laysKnown_J18 t6 (pR m4 a 21 (tN t)) a Q)))))))) ∧ (¬ (gR m a 21) = 0 → (wX12_laysKnown_J18 t m a Q))))
set_option maxHeartbeats 4000000 in
set_option maxRecDepth 20000 in
theorem kX12_laysKnown {l : Launch} {cap : Nat × Nat} {t : zT} {m : zM} {a : Nat} {Q : zT → zM → Prop} (H : wX12_laysKnown cap t m a Q) : zMet l yX12_laysKnown cX12_laysKnown 4 none 2 cap.1 cap.2 t m [.ref a] (zAw Q) := by
  refine zmet (by decide +kernel) (Nat.le_of_ble_eq_true rfl) ?_
  intro p e s mt args below meth c g C hr hm
  unfold wX12_laysKnown at H
  obtain ⟨mc, ms⟩ := cap
  refine z_aload_n (pc := 0) C (dX12_laysKnown_p0 0 rfl) rfl 0 rfl ?_
  obtain ⟨h1, H⟩ := H
  refine z_getR (pc := 1) C zc12 h1 21 (by decide) rfl wf_X12_393 (dX12_laysKnown_p0 1 rfl) ?_
  refine z_ifnonnull (pc := 4) (tgt := 18) C (dX12_laysKnown_p0 2 rfl) (by decide) (fun c2 => ?_) (fun c2 => ?_)
  · replace H := H.1 c2
    refine z_aload_n (pc := 7) C (dX12_laysKnown_p0 3 rfl) rfl 0 rfl ?_
    obtain ⟨h76, H⟩ := H
    refine z_new (pc := 8) C zc10 wc_X12_396 wt_X10 wi_X10 (dX12_laysKnown_p0 4 rfl) h76.1 h76.2 (fun h77 => ?_)
    replace H := H h77
    refine z_dup (pc := 11) C (dX12_laysKnown_p0 5 rfl) rfl ?_
    obtain ⟨h75, H⟩ := H
    obtain ⟨k5, h74, H⟩ := H
    refine za_IvN (pc := 12) (rest := [.ref (tN t), .ref a]) C YX10_init wm_X12_398 h75 (kX10_init H) (by decide) (dX12_laysKnown_p0 6 rfl) rfl (by first | exact h74.1 | (have := h74.1; omega)) (by first | exact h74.2 | (have := h74.2; omega)) (Nat.le_of_ble_eq_true rfl) rfl (fun t6 m4 H => ?_)
    obtain ⟨h7, H⟩ := H
    refine z_putR (pc := 15) C zc12 h7 21 (by decide) rfl rfl wf_X12_393 (dX12_laysKnown_p0 7 rfl) ?_
    refine z_sub [0] rfl ?_
    exact sX12_laysKnown_J18 C hr hm (by first | omega | (show _ ≤ mc; omega)) (by first | omega | (show _ ≤ ms; omega)) H
  · replace H := H.2 c2
    refine z_sub [0] rfl ?_
    exact sX12_laysKnown_J18 C hr hm (Nat.zero_le _) (Nat.zero_le _) H
