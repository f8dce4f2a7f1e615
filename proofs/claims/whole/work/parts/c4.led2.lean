/-! led's walks -/
theorem z_lgs {g : zG} : ∀ vs : List Value, (lg_sl (vs.map (zV g))).length = (lg_sl vs).length := by
  intro vs
  induction vs with
  | nil => rfl
  | cons v vs ih =>
    simp only [lg_sl, List.map_cons, List.flatMap_cons, List.length_append, zv_cat] at ih ⊢
    rw [ih]
    split <;> rfl
theorem z_lva {g : zG} : ∀ (vs : List Value) (i : Nat), lv_args i (vs.map (zV g)) = (lv_args i vs).map (fun q => (q.1, zV g q.2)) := by
  intro vs
  induction vs with
  | nil => intro i; rfl
  | cons v vs ih => intro i; simp only [List.map_cons, lv_args, zv_cat, ih]
/-- a contract that returns or throws, out of a walk from the entry -/
theorem zmetx {l : Launch} {y : MethodName} {cy : ByteArray} {nLy : Nat} {rety : Option FieldType} {h mc ms : Nat} {t : zT} {m : zM} {As : List Value} {P : Option Value → zT → zM → Prop} {X : zT → zM → Prop} (hy : plainName y.cls = true) (hlen : (lg_sl As).length ≤ nLy)
    (body : ∀ (p : Program) (e : Env) (s : State) (mt : MethodId) (args : Array Value) (below : List Frame) (meth : Method) (c : Code) (g : zG), zC p (zRm h mc ms) s mt args meth c g cy nLy y.cls h → zX g s → (∀ x ∈ c.exceptionTable.toList, False) → meth.sig.returnType = rety → zW p l e (zRm h mc ms) s mt args below meth c g (vx_MQ below (zQc g P) (zXC g X) args s mc ms (zFar g)) (0, 0) nLy t m 0 (lv_args 0 As) []) : zMx l y cy nLy rety h mc ms t m As P X := by
  intro g
  refine vx_ofW (cc := cy) (maxL := nLy) (ret := rety) hy rfl ?_
  intro p e s mt args below meth c s₁ B hml hno hv
  obtain ⟨rfl, hH, hK, hX⟩ := hv
  have hts := atoms_spec (ws := .code y cy nLy rety :: zTs) B.pre
  have hown : s.vm.findClass y.cls = some mt.cls := findClass_of_methodNamed B.named
  have C : zC p (zRm h mc ms) s mt (As.map (zV g)).toArray meth c g cy nLy y.cls h := ⟨B.exec, B.bytes, hml, hown, fun w hw => hts w (List.mem_cons_of_mem _ hw), hK, B.notSynchronized, Nat.le_refl h, Nat.le_refl _⟩
  have hb := body p e s mt _ below meth c g C hX hno B.returns
  rw [lg_entry_eq]
  refine hb s.heap [] 0 0 _ hH va_S.rf (Nat.le_refl 0) (Nat.le_refl 0) ?_
  rw [← z_lva]
  exact lv_entry (As.map (zV g)) (n := nLy) (by rw [z_lgs]; exact hlen)
set_option maxHeartbeats 4000000 in
set_option maxRecDepth 20000 in
theorem sX9_led_L17 {p : Program} {l : Launch} {e : Env} {s : State} {mt : MethodId} {args : Array Value} {below : List Frame} {meth : Method} {c : Code} {g : zG} {t : zT} {a : Nat} {p1 r : Int32} {Q : Int32 → zM → Prop} {X : zM → Prop} (hl : l.stackTraces = false) (C : zC p (zRm 6 1 6) s mt args meth c g cX9_led 5 yX9_led.cls 6) (hX : zX g s) (hno : ∀ x ∈ c.exceptionTable.toList, False) (hr : meth.sig.returnType = (some .int)) : ∀ (n : Nat) (x_3 : Int32) (x_4 : Int32) (m : zM), wX9_led_L17 t a p1 r Q X n x_3 x_4 m → zW p l e (zRm 6 1 6) s mt args below meth c g (vx_MQ below (zQc g (zPi t Q)) (zXC g (zXd t X)) args s 1 6 (zFar g)) (0, 0) 5 t m 17 [(0, .ref a), (1, .int p1), (2, .int r), (3, .int x_3), (4, .int x_4)] [] := by
  intro n
  induction n with
  | zero => intro x_3 x_4 m H; exact H.elim
  | succ n ih =>
    intro x_3 x_4 m H
    simp only [wX9_led_L17] at H
    obtain ⟨h1, h2, H⟩ := H
    refine z_iload (pc := 17) C (dX9_led 10 rfl) 4 rfl ?_
    refine z_aload_n (pc := 19) C (dX9_led 11 rfl) rfl 0 rfl ?_
    refine z_getR (pc := 20) C zc9 h1 3 (by decide) rfl wf_X9_34 (dX9_led 12 rfl) ?_
    refine z_getI (pc := 23) C zc5 h2 0 (by decide) rfl wf_X9_112 (dX9_led 13 rfl) ?_
    refine z_icmp_ge (pc := 26) (tgt := 55) C (dX9_led 14 rfl) (by decide) (fun c4 => ?_) (fun c4 => ?_)
    · exact z_throw (pc := 55) C hX hl hno (by decide) (by decide) (by decide) (by decide) (by decide) (dX9_led 29 rfl) (dX9_led 30 rfl) (dX9_led 31 rfl) (dX9_led 32 rfl) (dX9_led 33 rfl) (H.1 c4)
    · replace H := H.2 c4
      refine z_iload_n (pc := 29) C (dX9_led 15 rfl) rfl 2 rfl ?_
      refine z_iload (pc := 30) C (dX9_led 16 rfl) 4 rfl ?_
      refine z_ishr (pc := 32) C (dX9_led 17 rfl) ?_
      refine z_iconst (pc := 33) (v := 1) C (dX9_led 18 rfl) (by decide) ?_
      refine z_iand (pc := 34) C (dX9_led 19 rfl) ?_
      refine z_if_ne (pc := 35) (tgt := 49) C (dX9_led 20 rfl) (by decide) (fun c5 => ?_) (fun c5 => ?_)
      · refine z_iinc (pc := 49) (i := 4) (v := x_4 + 1) (lv2 := [(4, .int (x_4 + 1)), (0, .ref a), (1, .int p1), (2, .int r), (3, .int x_3)]) C (dX9_led 27 rfl) 4 rfl (by rfl) (by decide) rfl ?_
        refine z_goto (pc := 52) (tgt := 17) C (dX9_led 28 rfl) (by decide) ?_
        refine z_sub [1, 2, 3, 4, 0] rfl ?_
        exact ih _ _ m (H.2 c5)
      · replace H := H.1 c5
        refine z_iload_n (pc := 38) C (dX9_led 21 rfl) rfl 3 rfl ?_
        refine z_iload_n (pc := 39) C (dX9_led 22 rfl) rfl 1 rfl ?_
        refine z_icmp_ne (pc := 40) (tgt := 46) C (dX9_led 23 rfl) (by decide) (fun c6 => ?_) (fun c6 => ?_)
        · refine z_iinc (pc := 46) (i := 3) (v := x_3 + 1) (lv2 := [(3, .int (x_3 + 1)), (0, .ref a), (1, .int p1), (2, .int r), (4, .int x_4)]) C (dX9_led 26 rfl) 3 rfl (by rfl) (by decide) rfl ?_
          refine z_iinc (pc := 49) (i := 4) (v := x_4 + 1) (lv2 := [(4, .int (x_4 + 1)), (3, .int (x_3 + 1)), (0, .ref a), (1, .int p1), (2, .int r)]) C (dX9_led 27 rfl) 4 rfl (by rfl) (by decide) rfl ?_
          refine z_goto (pc := 52) (tgt := 17) C (dX9_led 28 rfl) (by decide) ?_
          refine z_sub [2, 3, 4, 1, 0] rfl ?_
          exact ih _ _ m (H.2 c6)
        · refine z_iload (pc := 43) C (dX9_led 24 rfl) 4 rfl ?_
          refine z_vx ?_
          exact z_iret (pc := 45) C hr (by decide) (by decide) (dX9_led 25 rfl) ⟨rfl, _, rfl, H.1 c6⟩
set_option maxHeartbeats 4000000 in
set_option maxRecDepth 20000 in
theorem kX9_led {l : Launch} (hl : l.stackTraces = false) {t : zT} {m : zM} {a : Nat} {p1 : Int32} {Q : Int32 → zM → Prop} {X : zM → Prop} (H : wX9_led t m a p1 Q X) : zMx l yX9_led cX9_led 5 (some .int) 6 1 6 t m [.ref a, .int p1] (zPi t Q) (zXd t X) := by
  refine zmetx (by decide +kernel) (Nat.le_of_ble_eq_true rfl) ?_
  intro p e s mt args below meth c g C hX hno hr
  obtain ⟨h1, h2, H⟩ := H
  refine z_aload_n (pc := 0) C (dX9_led 0 rfl) rfl 0 rfl ?_
  refine z_getR (pc := 1) C zc9 h1 2 (by decide) rfl wf_X9_27 (dX9_led 1 rfl) ?_
  refine z_aload_n (pc := 4) C (dX9_led 2 rfl) rfl 0 rfl ?_
  refine z_getR (pc := 5) C zc9 h1 8 (by decide) rfl wf_X9_65 (dX9_led 3 rfl) ?_
  refine zc_Vi (pc := 8) (rest := []) C YX8_sureIn wl_X9_197 (kX8_sureIn H) (by decide) h2 rfl (by decide) (dX9_led 4 rfl) rfl (by decide) (by decide) (Nat.le_of_ble_eq_true rfl) rfl (fun r m1 H => ?_)
  obtain ⟨n, H⟩ := H
  refine z_istore_n (pc := 11) (i := 2) (lv2 := [(2, .int r), (0, .ref a), (1, .int p1)]) C (dX9_led 5 rfl) rfl (by decide) rfl ?_
  refine z_iconst (pc := 12) (v := 0) C (dX9_led 6 rfl) (by decide) ?_
  refine z_istore_n (pc := 13) (i := 3) (lv2 := [(3, .int 0), (2, .int r), (0, .ref a), (1, .int p1)]) C (dX9_led 7 rfl) rfl (by decide) rfl ?_
  refine z_iconst (pc := 14) (v := 0) C (dX9_led 8 rfl) (by decide) ?_
  refine z_istore (pc := 15) (i := 4) (lv2 := [(4, .int 0), (3, .int 0), (2, .int r), (0, .ref a), (1, .int p1)]) C (dX9_led 9 rfl) (by decide) rfl ?_
  refine z_sub [3, 4, 2, 1, 0] rfl ?_
  exact sX9_led_L17 hl C hX hno hr n 0 0 m1 H
