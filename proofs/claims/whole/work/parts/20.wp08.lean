def wX12_costOf_J136 (t : zT) (m : zM) (a_0 : Nat) (x_1 : Int32) (x_2 : Int32) (x_3 : Int32) (x_4 : Int32) (x_5 : Int32) (Q : Int32 → zM → Prop) (r6 : Int32 → Int32 → zM → Prop) : Prop := (r6 x_4 (x_5 + 1) m)
set_option maxHeartbeats 4000000 in
set_option maxRecDepth 20000 in
theorem sX12_costOf_J136 {p : Program} {l : Launch} {e : Env} {s : State} {mt : MethodId} {args : Array Value} {below : List Frame} {meth : Method} {c : Code} {g : zG} {u : Nat × Nat} {mc ms : Nat} {t : zT} {m : zM} {a_0 : Nat} {x_1 : Int32} {x_2 : Int32} {x_3 : Int32} {x_4 : Int32} {x_5 : Int32} {Q : Int32 → zM → Prop} {r6 : Int32 → Int32 → zM → Prop} (C : zC p (zRm 0 mc ms) s mt args meth c g cX12_costOf 7 yX12_costOf.cls 0) (hr : meth.sig.returnType = (some .int)) (hm : meth.name = yX12_costOf.name) (hu1 : u.1 ≤ mc) (hu2 : u.2 ≤ ms)
    (R6 : ∀ (v0 : Int32) (v1 : Int32) (m : zM), r6 v0 v1 m → zW p l e (zRm 0 mc ms) s mt args below meth c g (MQ below (zQc g (zPi t Q)) args s mc ms (zFar g)) u 7 t m 6 [(0, .ref a_0), (1, .int x_1), (2, .int x_2), (3, .int x_3), (4, .int v0), (5, .int v1)] []) (H : wX12_costOf_J136 t m a_0 x_1 x_2 x_3 x_4 x_5 Q r6) : zW p l e (zRm 0 mc ms) s mt args below meth c g (MQ below (zQc g (zPi t Q)) args s mc ms (zFar g)) u 7 t m 136 [(0, .ref a_0), (1, .int x_1), (2, .int x_2), (3, .int x_3), (4, .int x_4), (5, .int x_5)] [] := by
  unfold wX12_costOf_J136 at H
  refine z_iinc (pc := 136) (i := 5) (v := x_5 + 1) (lv2 := [(5, .int (x_5 + 1)), (0, .ref a_0), (1, .int x_1), (2, .int x_2), (3, .int x_3), (4, .int x_4)]) C (dX12_costOf 73 rfl) 5 rfl (by rfl) (by decide) rfl ?_
  refine z_goto (pc := 139) (tgt := 6) C (dX12_costOf 74 rfl) (by decide) ?_
  refine z_sub [1, 2, 3, 4, 5, 0] rfl ?_
  exact R6 x_4 (x_5 + 1) m H
def wX12_costOf_J134 (t : zT) (m : zM) (a_0 : Nat) (x_1 : Int32) (x_2 : Int32) (x_3 : Int32) (x_5 : Int32) (s_0 : Int32) (Q : Int32 → zM → Prop) (r6 : Int32 → Int32 → zM → Prop) : Prop := (wX12_costOf_J136 t m a_0 x_1 x_2 x_3 s_0 x_5 Q r6)
set_option maxHeartbeats 4000000 in
set_option maxRecDepth 20000 in
theorem sX12_costOf_J134 {p : Program} {l : Launch} {e : Env} {s : State} {mt : MethodId} {args : Array Value} {below : List Frame} {meth : Method} {c : Code} {g : zG} {u : Nat × Nat} {mc ms : Nat} {t : zT} {m : zM} {a_0 : Nat} {x_1 : Int32} {x_2 : Int32} {x_3 : Int32} {x_5 : Int32} {s_0 : Int32} {Q : Int32 → zM → Prop} {r6 : Int32 → Int32 → zM → Prop} (C : zC p (zRm 0 mc ms) s mt args meth c g cX12_costOf 7 yX12_costOf.cls 0) (hr : meth.sig.returnType = (some .int)) (hm : meth.name = yX12_costOf.name) (hu1 : u.1 ≤ mc) (hu2 : u.2 ≤ ms)
    (R6 : ∀ (v0 : Int32) (v1 : Int32) (m : zM), r6 v0 v1 m → zW p l e (zRm 0 mc ms) s mt args below meth c g (MQ below (zQc g (zPi t Q)) args s mc ms (zFar g)) u 7 t m 6 [(0, .ref a_0), (1, .int x_1), (2, .int x_2), (3, .int x_3), (4, .int v0), (5, .int v1)] []) (H : wX12_costOf_J134 t m a_0 x_1 x_2 x_3 x_5 s_0 Q r6) : zW p l e (zRm 0 mc ms) s mt args below meth c g (MQ below (zQc g (zPi t Q)) args s mc ms (zFar g)) u 7 t m 134 [(0, .ref a_0), (1, .int x_1), (2, .int x_2), (3, .int x_3), (5, .int x_5)] [.int s_0] := by
  unfold wX12_costOf_J134 at H
  refine z_istore (pc := 134) (i := 4) (lv2 := [(4, .int s_0), (0, .ref a_0), (1, .int x_1), (2, .int x_2), (3, .int x_3), (5, .int x_5)]) C (dX12_costOf 72 rfl) (by decide) rfl ?_
  refine z_sub [1, 2, 3, 4, 0, 5] rfl ?_
  exact sX12_costOf_J136 C hr hm hu1 hu2 R6 H
def wX12_costOf_L6 (t : zT) (a_0 : Nat) (x_1 : Int32) (x_2 : Int32) (x_3 : Int32) (Q : Int32 → zM → Prop) (k142 : Int32 → zM → Prop) : Nat → Int32 → Int32 → zM → Prop
  | 0, _, _, _ => False
  | n + 1, x_4, x_5, m => (tK t a_0 = 12 ∧ (tK t (gR m a_0 3) = 11 ∧ (tK t (gR m (gR m a_0 3) 10) = 14 ∧ (vp_in x_2 (tL t (gR m (gR m a_0 3) 10)) ∧ (((gI m (gR m (gR m a_0 3) 10) x_2.toNatClampNeg) ≤ x_5 → (k142 x_4 m)) ∧ (¬ (gI m (gR m (gR m a_0 3) 10) x_2.toNatClampNeg) ≤ x_5 → (tK t (gR m a_0 20) = 14 ∧ (vp_in x_2 (tL t (gR m a_0 20)) ∧ (∀ x8 : Int32, x8 = (x_1 - ((gI m (gR m a_0 20) x_2.toNatClampNeg) * ((gI m (gR m (gR m a_0 3) 10) x_2.toNatClampNeg) - x_5))) → ((tK t (gR m a_0 22) = 14 ∧ (vp_in x8 (tL t (gR m a_0 22)) ∧ (((gI m (gR m a_0 22) x8.toNatClampNeg) = 0 → (wX12_costOf_J136 t m a_0 x_1 x_2 x_3 x_4 x_5 Q (wX12_costOf_L6 t a_0 x_1 x_2 x_3 Q k142 n))) ∧ (¬ (gI m (gR m a_0 22) x8.toNatClampNeg) = 0 → (vp_in x_1 (tL t (gR m a_0 22)) ∧ (((gI m (gR m a_0 22) x8.toNatClampNeg) = (gI m (gR m a_0 22) x_1.toNatClampNeg) → (Q 268435456 m)) ∧ (¬ (gI m (gR m a_0 22) x8.toNatClampNeg) = (gI m (gR m a_0 22) x_1.toNatClampNeg) → (tK t (gR m a_0 23) = 14 ∧ (vp_in x8 (tL t (gR m a_0 23)) ∧ (((gI m (gR m a_0 23) x8.toNatClampNeg) < 268435456 → ((x_3 = 0 → (((gI m (gR m a_0 23) x8.toNatClampNeg) ≤ x_4 → (wX12_costOf_J134 t m a_0 x_1 x_2 x_3 x_5 x_4 Q (wX12_costOf_L6 t a_0 x_1 x_2 x_3 Q k142 n))) ∧ (¬ (gI m (gR m a_0 23) x8.toNatClampNeg) ≤ x_4 → (wX12_costOf_J134 t m a_0 x_1 x_2 x_3 x_5 (gI m (gR m a_0 23) x8.toNatClampNeg) Q (wX12_costOf_L6 t a_0 x_1 x_2 x_3 Q k142 n))))) ∧ (¬ x_3 = 0 → (wX12_costOf_J134 t m a_0 x_1 x_2 x_3 x_5 (x_4 + (gI m (gR m a_0 23) x8.toNatClampNeg)) Q (wX12_costOf_L6 t a_0 x_1 x_2 x_3 Q k142 n))))) ∧ (¬ (gI m (gR m a_0 23) x8.toNatClampNeg) < 268435456 → (Q 268435456 m))))))))))))))))))))))
set_option maxHeartbeats 4000000 in
set_option maxRecDepth 20000 in
theorem sX12_costOf_L6 {p : Program} {l : Launch} {e : Env} {s : State} {mt : MethodId} {args : Array Value} {below : List Frame} {meth : Method} {c : Code} {g : zG} {u : Nat × Nat} {mc ms : Nat} {t : zT} {a_0 : Nat} {x_1 : Int32} {x_2 : Int32} {x_3 : Int32} {Q : Int32 → zM → Prop} {k142 : Int32 → zM → Prop} (C : zC p (zRm 0 mc ms) s mt args meth c g cX12_costOf 7 yX12_costOf.cls 0) (hr : meth.sig.returnType = (some .int)) (hm : meth.name = yX12_costOf.name) (hu1 : u.1 ≤ mc) (hu2 : u.2 ≤ ms)
    (K142 : ∀ (v0 : Int32) (m : zM), k142 v0 m → zW p l e (zRm 0 mc ms) s mt args below meth c g (MQ below (zQc g (zPi t Q)) args s mc ms (zFar g)) u 7 t m 142 [(0, .ref a_0), (1, .int x_1), (2, .int x_2), (3, .int x_3), (4, .int v0)] []) : ∀ (n : Nat) (x_4 : Int32) (x_5 : Int32) (m : zM), wX12_costOf_L6 t a_0 x_1 x_2 x_3 Q k142 n x_4 x_5 m → zW p l e (zRm 0 mc ms) s mt args below meth c g (MQ below (zQc g (zPi t Q)) args s mc ms (zFar g)) u 7 t m 6 [(0, .ref a_0), (1, .int x_1), (2, .int x_2), (3, .int x_3), (4, .int x_4), (5, .int x_5)] [] := by
  intro n
  induction n with
  | zero => intro x_4 x_5 m H; exact H.elim
  | succ n ih =>
    intro x_4 x_5 m H
    simp only [wX12_costOf_L6] at H
    refine z_iload (pc := 6) C (dX12_costOf 4 rfl) 5 rfl ?_
    refine z_aload_n (pc := 8) C (dX12_costOf 5 rfl) rfl 0 rfl ?_
    obtain ⟨h1, H⟩ := H
    refine z_getR (pc := 9) C zc12 h1 3 (by decide) rfl wf_X12_314 (dX12_costOf 6 rfl) ?_
    obtain ⟨h2, H⟩ := H
    refine z_getRN (pc := 12) C zc11 h2 10 (by decide) rfl wn_X12_171 (dX12_costOf 7 rfl) ?_
    refine z_iload_n (pc := 15) C (dX12_costOf 8 rfl) rfl 2 rfl ?_
    obtain ⟨h3, H⟩ := H
    obtain ⟨h4, H⟩ := H
    refine z_iaload (pc := 16) C h3 h4 (dX12_costOf 9 rfl) ?_
    refine z_icmp_ge (pc := 17) (tgt := 142) C (dX12_costOf 10 rfl) (by decide) (fun c5 => ?_) (fun c5 => ?_)
    · replace H := H.1 c5
      refine z_sub [0, 1, 2, 3, 4] rfl ?_
      exact K142 x_4 m H
    · replace H := H.2 c5
      refine z_iload_n (pc := 20) C (dX12_costOf 11 rfl) rfl 1 rfl ?_
      refine z_aload_n (pc := 21) C (dX12_costOf 12 rfl) rfl 0 rfl ?_
      refine z_getR (pc := 22) C zc12 h1 20 (by decide) rfl wf_X12_29 (dX12_costOf 13 rfl) ?_
      refine z_iload_n (pc := 25) C (dX12_costOf 14 rfl) rfl 2 rfl ?_
      obtain ⟨h6, H⟩ := H
      obtain ⟨h7, H⟩ := H
      refine z_iaload (pc := 26) C h6 h7 (dX12_costOf 15 rfl) ?_
      refine z_aload_n (pc := 27) C (dX12_costOf 16 rfl) rfl 0 rfl ?_
      refine z_getR (pc := 28) C zc12 h1 3 (by decide) rfl wf_X12_314 (dX12_costOf 17 rfl) ?_
      refine z_getRN (pc := 31) C zc11 h2 10 (by decide) rfl wn_X12_171 (dX12_costOf 18 rfl) ?_
      refine z_iload_n (pc := 34) C (dX12_costOf 19 rfl) rfl 2 rfl ?_
      refine z_iaload (pc := 35) C h3 h4 (dX12_costOf 20 rfl) ?_
      refine z_iload (pc := 36) C (dX12_costOf 21 rfl) 5 rfl ?_
      refine z_isub (pc := 38) C (dX12_costOf 22 rfl) ?_
      refine z_imul (pc := 39) C (dX12_costOf 23 rfl) ?_
      refine z_isub (pc := 40) C (dX12_costOf 24 rfl) ?_
      refine z_int (fun x8 hx8 => ?_)
      replace H := H x8 hx8
      refine z_istore (pc := 41) (i := 6) (lv2 := [(6, .int x8), (0, .ref a_0), (1, .int x_1), (2, .int x_2), (3, .int x_3), (4, .int x_4), (5, .int x_5)]) C (dX12_costOf 25 rfl) (by decide) rfl ?_
      refine z_aload_n (pc := 43) C (dX12_costOf 26 rfl) rfl 1 rfl ?_
      refine z_getR (pc := 44) C zc12 h1 22 (by decide) rfl wf_X12_402 (dX12_costOf 27 rfl) ?_
      refine z_iload (pc := 47) C (dX12_costOf 28 rfl) 0 rfl ?_
      obtain ⟨h9, H⟩ := H
      obtain ⟨h10, H⟩ := H
      refine z_iaload (pc := 49) C h9 h10 (dX12_costOf 29 rfl) ?_
      refine z_if_ne (pc := 50) (tgt := 56) C (dX12_costOf 30 rfl) (by decide) (fun c11 => ?_) (fun c11 => ?_)
      · replace H := H.2 c11
        refine z_aload_n (pc := 56) C (dX12_costOf 32 rfl) rfl 1 rfl ?_
        refine z_getR (pc := 57) C zc12 h1 22 (by decide) rfl wf_X12_402 (dX12_costOf 33 rfl) ?_
        refine z_iload (pc := 60) C (dX12_costOf 34 rfl) 0 rfl ?_
        refine z_iaload (pc := 62) C h9 h10 (dX12_costOf 35 rfl) ?_
        refine z_aload_n (pc := 63) C (dX12_costOf 36 rfl) rfl 1 rfl ?_
        refine z_getR (pc := 64) C zc12 h1 22 (by decide) rfl wf_X12_402 (dX12_costOf 37 rfl) ?_
        refine z_iload_n (pc := 67) C (dX12_costOf 38 rfl) rfl 2 rfl ?_
        obtain ⟨h12, H⟩ := H
        refine z_iaload (pc := 68) C h9 h12 (dX12_costOf 39 rfl) ?_
        refine z_icmp_ne (pc := 69) (tgt := 76) C (dX12_costOf 40 rfl) (by decide) (fun c13 => ?_) (fun c13 => ?_)
        · replace H := H.2 c13
          refine z_aload_n (pc := 76) C (dX12_costOf 43 rfl) rfl 1 rfl ?_
          refine z_getR (pc := 77) C zc12 h1 23 (by decide) rfl wf_X12_406 (dX12_costOf 44 rfl) ?_
          refine z_iload (pc := 80) C (dX12_costOf 45 rfl) 0 rfl ?_
          obtain ⟨h14, H⟩ := H
          obtain ⟨h15, H⟩ := H
          refine z_iaload (pc := 82) C h14 h15 (dX12_costOf 46 rfl) ?_
          refine z_ldcw (pc := 83) C wk_X12_413 (dX12_costOf 47 rfl) ?_
          refine z_icmp_lt (pc := 86) (tgt := 93) C (dX12_costOf 48 rfl) (by decide) (fun c16 => ?_) (fun c16 => ?_)
          · replace H := H.1 c16
            refine z_iload_n (pc := 93) C (dX12_costOf 51 rfl) rfl 4 rfl ?_
            refine z_if_eq (pc := 94) (tgt := 110) C (dX12_costOf 52 rfl) (by decide) (fun c17 => ?_) (fun c17 => ?_)
            · replace H := H.1 c17
              refine z_aload_n (pc := 110) C (dX12_costOf 60 rfl) rfl 1 rfl ?_
              refine z_getR (pc := 111) C zc12 h1 23 (by decide) rfl wf_X12_406 (dX12_costOf 61 rfl) ?_
              refine z_iload (pc := 114) C (dX12_costOf 62 rfl) 0 rfl ?_
              refine z_iaload (pc := 116) C h14 h15 (dX12_costOf 63 rfl) ?_
              refine z_iload (pc := 117) C (dX12_costOf 64 rfl) 5 rfl ?_
              refine z_icmp_le (pc := 119) (tgt := 132) C (dX12_costOf 65 rfl) (by decide) (fun c18 => ?_) (fun c18 => ?_)
              · replace H := H.1 c18
                refine z_iload (pc := 132) C (dX12_costOf 71 rfl) 5 rfl ?_
                refine z_sub [1, 2, 3, 4, 6] rfl ?_
                exact sX12_costOf_J134 C hr hm hu1 hu2 ih H
              · replace H := H.2 c18
                refine z_aload_n (pc := 122) C (dX12_costOf 66 rfl) rfl 1 rfl ?_
                refine z_getR (pc := 123) C zc12 h1 23 (by decide) rfl wf_X12_406 (dX12_costOf 67 rfl) ?_
                refine z_iload (pc := 126) C (dX12_costOf 68 rfl) 0 rfl ?_
                refine z_iaload (pc := 128) C h14 h15 (dX12_costOf 69 rfl) ?_
                refine z_goto (pc := 129) (tgt := 134) C (dX12_costOf 70 rfl) (by decide) ?_
                refine z_sub [1, 2, 3, 4, 6] rfl ?_
                exact sX12_costOf_J134 C hr hm hu1 hu2 ih H
            · replace H := H.2 c17
              refine z_iload (pc := 97) C (dX12_costOf 53 rfl) 5 rfl ?_
              refine z_aload_n (pc := 99) C (dX12_costOf 54 rfl) rfl 1 rfl ?_
              refine z_getR (pc := 100) C zc12 h1 23 (by decide) rfl wf_X12_406 (dX12_costOf 55 rfl) ?_
              refine z_iload (pc := 103) C (dX12_costOf 56 rfl) 0 rfl ?_
              refine z_iaload (pc := 105) C h14 h15 (dX12_costOf 57 rfl) ?_
              refine z_iadd (pc := 106) C (dX12_costOf 58 rfl) ?_
              refine z_goto (pc := 107) (tgt := 134) C (dX12_costOf 59 rfl) (by decide) ?_
              refine z_sub [1, 2, 3, 4, 6] rfl ?_
              exact sX12_costOf_J134 C hr hm hu1 hu2 ih H
          · replace H := H.2 c16
            refine z_ldcw (pc := 89) C wk_X12_413 (dX12_costOf 49 rfl) ?_
            exact z_iret (pc := 92) C hr hu1 hu2 (dX12_costOf 50 rfl) ⟨rfl, _, rfl, H⟩
        · replace H := H.1 c13
          refine z_ldcw (pc := 72) C wk_X12_413 (dX12_costOf 41 rfl) ?_
          exact z_iret (pc := 75) C hr hu1 hu2 (dX12_costOf 42 rfl) ⟨rfl, _, rfl, H⟩
      · replace H := H.1 c11
        refine z_goto (pc := 53) (tgt := 136) C (dX12_costOf 31 rfl) (by decide) ?_
        refine z_sub [1, 2, 3, 4, 5, 6] rfl ?_
        exact sX12_costOf_J136 C hr hm hu1 hu2 ih H
def wX12_costOf (t : zT) (m : zM) (a : Nat) (p1 : Int32) (p2 : Int32) (p3 : Int32) (Q : Int32 → zM → Prop) : Prop := (∃ n29, wX12_costOf_L6 t a p1 p2 p3 Q (fun v19 m20 => ((v19 < 268435456 → (tK t a = 12 ∧ (tK t (gR m20 a 3) = 11 ∧ (tK t (gR m20 (gR m20 a 3) 11) = 14 ∧ (vp_in p2 (tL t (gR m20 (gR m20 a 3) 11)) ∧ ((p3 = 0 → (Q (v19 + ((gI m20 (gR m20 (gR m20 a 3) 11) p2.toNatClampNeg) * (1 : Int32))) m20)) ∧ (¬ p3 = 0 → (tK t (gR m20 a 22) = 14 ∧ (vp_in p1 (tL t (gR m20 a 22)) ∧ (Q (v19 + ((gI m20 (gR m20 (gR m20 a 3) 11) p2.toNatClampNeg) * (gI m20 (gR m20 a 22) p1.toNatClampNeg))) m20)))))))))) ∧ (¬ v19 < 268435456 → (Q 268435456 m20)))) n29 0 0 m)
set_option maxHeartbeats 4000000 in
set_option maxRecDepth 20000 in
theorem kX12_costOf {l : Launch} {t : zT} {m : zM} {a : Nat} {p1 : Int32} {p2 : Int32} {p3 : Int32} {Q : Int32 → zM → Prop} (H : wX12_costOf t m a p1 p2 p3 Q) : zMet l yX12_costOf cX12_costOf 7 (some .int) 0 0 0 t m [.ref a, .int p1, .int p2, .int p3] (zPi t Q) := by
  refine zmet (by decide +kernel) (Nat.le_of_ble_eq_true rfl) ?_
  intro p e s mt args below meth c g C hr hm
  unfold wX12_costOf at H
  have hu1 : ((0, 0) : Nat × Nat).1 ≤ 0 := Nat.le_refl 0
  have hu2 : ((0, 0) : Nat × Nat).2 ≤ 0 := Nat.le_refl 0
  refine z_iconst (pc := 0) (v := 0) C (dX12_costOf 0 rfl) (by decide) ?_
  refine z_istore (pc := 1) (i := 4) (lv2 := [(4, .int 0), (0, .ref a), (1, .int p1), (2, .int p2), (3, .int p3)]) C (dX12_costOf 1 rfl) (by decide) rfl ?_
  refine z_iconst (pc := 3) (v := 0) C (dX12_costOf 2 rfl) (by decide) ?_
  refine z_istore (pc := 4) (i := 5) (lv2 := [(5, .int 0), (4, .int 0), (0, .ref a), (1, .int p1), (2, .int p2), (3, .int p3)]) C (dX12_costOf 3 rfl) (by decide) rfl ?_
  obtain ⟨n29, H⟩ := H
  refine z_sub [2, 3, 4, 5, 1, 0] rfl ?_
  refine sX12_costOf_L6 C hr hm hu1 hu2 (fun v19 m20 H => ?_) n29 0 0 m H
  refine z_iload (pc := 142) C (dX12_costOf 75 rfl) 4 rfl ?_
  refine z_ldcw (pc := 144) C wk_X12_413 (dX12_costOf 76 rfl) ?_
  refine z_icmp_lt (pc := 147) (tgt := 156) C (dX12_costOf 77 rfl) (by decide) (fun c21 => ?_) (fun c21 => ?_)
  · replace H := H.1 c21
    refine z_iload (pc := 156) C (dX12_costOf 80 rfl) 4 rfl ?_
    refine z_aload_n (pc := 158) C (dX12_costOf 81 rfl) rfl 0 rfl ?_
    obtain ⟨h22, H⟩ := H
    refine z_getR (pc := 159) C zc12 h22 3 (by decide) rfl wf_X12_314 (dX12_costOf 82 rfl) ?_
    obtain ⟨h23, H⟩ := H
    refine z_getRN (pc := 162) C zc11 h23 11 (by decide) rfl wn_X12_300 (dX12_costOf 83 rfl) ?_
    refine z_iload_n (pc := 165) C (dX12_costOf 84 rfl) rfl 2 rfl ?_
    obtain ⟨h24, H⟩ := H
    obtain ⟨h25, H⟩ := H
    refine z_iaload (pc := 166) C h24 h25 (dX12_costOf 85 rfl) ?_
    refine z_iload_n (pc := 167) C (dX12_costOf 86 rfl) rfl 3 rfl ?_
    refine z_if_eq (pc := 168) (tgt := 180) C (dX12_costOf 87 rfl) (by decide) (fun c26 => ?_) (fun c26 => ?_)
    · replace H := H.1 c26
      refine z_iconst (pc := 180) (v := 1) C (dX12_costOf 93 rfl) (by decide) ?_
      refine z_imul (pc := 181) C (dX12_costOf 94 rfl) ?_
      refine z_iadd (pc := 182) C (dX12_costOf 95 rfl) ?_
      exact z_iret (pc := 183) C hr hu1 hu2 (dX12_costOf 96 rfl) ⟨rfl, _, rfl, H⟩
    · replace H := H.2 c26
      refine z_aload_n (pc := 171) C (dX12_costOf 88 rfl) rfl 0 rfl ?_
      refine z_getR (pc := 172) C zc12 h22 22 (by decide) rfl wf_X12_402 (dX12_costOf 89 rfl) ?_
      refine z_iload_n (pc := 175) C (dX12_costOf 90 rfl) rfl 1 rfl ?_
      obtain ⟨h27, H⟩ := H
      obtain ⟨h28, H⟩ := H
      refine z_iaload (pc := 176) C h27 h28 (dX12_costOf 91 rfl) ?_
      refine z_goto (pc := 177) (tgt := 181) C (dX12_costOf 92 rfl) (by decide) ?_
      refine z_imul (pc := 181) C (dX12_costOf 94 rfl) ?_
      refine z_iadd (pc := 182) C (dX12_costOf 95 rfl) ?_
      exact z_iret (pc := 183) C hr hu1 hu2 (dX12_costOf 96 rfl) ⟨rfl, _, rfl, H⟩
  · replace H := H.2 c21
    refine z_ldcw (pc := 150) C wk_X12_413 (dX12_costOf 78 rfl) ?_
    refine z_goto (pc := 153) (tgt := 183) C (dX12_costOf 79 rfl) (by decide) ?_
    exact z_iret (pc := 183) C hr hu1 hu2 (dX12_costOf 96 rfl) ⟨rfl, _, rfl, H⟩
def wX12_isOpen (t : zT) (m : zM) (a : Nat) (p1 : Int32) (p2 : Int32) (Q : Int32 → zM → Prop) : Prop := (tK t a = 12 ∧ (tK t (gR m a 3) = 11 ∧ (tK t (gR m (gR m a 3) 11) = 14 ∧ (vp_in p2 (tL t (gR m (gR m a 3) 11)) ∧ (((gI m (gR m (gR m a 3) 11) p2.toNatClampNeg) ≤ 0 → (Q 0 m)) ∧ (¬ (gI m (gR m (gR m a 3) 11) p2.toNatClampNeg) ≤ 0 → (wX12_digit t m a p1 p2 (fun r6 m7 => (tK t (gR m7 a 3) = 11 ∧ (tK t (gR m7 (gR m7 a 3) 10) = 14 ∧ (vp_in p2 (tL t (gR m7 (gR m7 a 3) 10)) ∧ ((r6 = (gI m7 (gR m7 (gR m7 a 3) 10) p2.toNatClampNeg) → (Q 1 m7)) ∧ (¬ r6 = (gI m7 (gR m7 (gR m7 a 3) 10) p2.toNatClampNeg) → (Q 0 m7))))))))))))))
set_option maxHeartbeats 4000000 in
set_option maxRecDepth 20000 in
theorem kX12_isOpen {l : Launch} {t : zT} {m : zM} {a : Nat} {p1 : Int32} {p2 : Int32} {Q : Int32 → zM → Prop} (H : wX12_isOpen t m a p1 p2 Q) : zMet l yX12_isOpen cX12_isOpen 3 (some .boolean) 1 0 0 t m [.ref a, .int p1, .int p2] (zPi t Q) := by
  refine zmet (by decide +kernel) (Nat.le_of_ble_eq_true rfl) ?_
  intro p e s mt args below meth c g C hr hm
  unfold wX12_isOpen at H
  have hu1 : ((0, 0) : Nat × Nat).1 ≤ 0 := Nat.le_refl 0
  have hu2 : ((0, 0) : Nat × Nat).2 ≤ 0 := Nat.le_refl 0
  refine z_aload_n (pc := 0) C (dX12_isOpen 0 rfl) rfl 0 rfl ?_
  obtain ⟨h1, H⟩ := H
  refine z_getR (pc := 1) C zc12 h1 3 (by decide) rfl wf_X12_314 (dX12_isOpen 1 rfl) ?_
  obtain ⟨h2, H⟩ := H
  refine z_getRN (pc := 4) C zc11 h2 11 (by decide) rfl wn_X12_300 (dX12_isOpen 2 rfl) ?_
  refine z_iload_n (pc := 7) C (dX12_isOpen 3 rfl) rfl 2 rfl ?_
  obtain ⟨h3, H⟩ := H
  obtain ⟨h4, H⟩ := H
  refine z_iaload (pc := 8) C h3 h4 (dX12_isOpen 4 rfl) ?_
  refine z_if_le (pc := 9) (tgt := 34) C (dX12_isOpen 5 rfl) (by decide) (fun c5 => ?_) (fun c5 => ?_)
  · replace H := H.1 c5
    refine z_iconst (pc := 34) (v := 0) C (dX12_isOpen 18 rfl) (by decide) ?_
    exact z_zret (pc := 35) C hr (by decide) hu1 hu2 (dX12_isOpen 19 rfl) ⟨rfl, _, rfl, H⟩
  · replace H := H.2 c5
    refine z_aload_n (pc := 12) C (dX12_isOpen 6 rfl) rfl 0 rfl ?_
    refine z_iload_n (pc := 13) C (dX12_isOpen 7 rfl) rfl 1 rfl ?_
    refine z_iload_n (pc := 14) C (dX12_isOpen 8 rfl) rfl 2 rfl ?_
    refine zc_Vi (pc := 15) (rest := []) C YX12_digit wl_X12_410 (kX12_digit H) (by decide) h1 rfl (by decide) (dX12_isOpen 9 rfl) rfl hu1 hu2 (Nat.le_of_ble_eq_true rfl) rfl (fun r6 m7 H => ?_)
    refine z_aload_n (pc := 18) C (dX12_isOpen 10 rfl) rfl 0 rfl ?_
    refine z_getR (pc := 19) C zc12 h1 3 (by decide) rfl wf_X12_314 (dX12_isOpen 11 rfl) ?_
    obtain ⟨h8, H⟩ := H
    refine z_getRN (pc := 22) C zc11 h8 10 (by decide) rfl wn_X12_171 (dX12_isOpen 12 rfl) ?_
    refine z_iload_n (pc := 25) C (dX12_isOpen 13 rfl) rfl 2 rfl ?_
    obtain ⟨h9, H⟩ := H
    obtain ⟨h10, H⟩ := H
    refine z_iaload (pc := 26) C h9 h10 (dX12_isOpen 14 rfl) ?_
    refine z_icmp_ne (pc := 27) (tgt := 34) C (dX12_isOpen 15 rfl) (by decide) (fun c11 => ?_) (fun c11 => ?_)
    · replace H := H.2 c11
      refine z_iconst (pc := 34) (v := 0) C (dX12_isOpen 18 rfl) (by decide) ?_
      exact z_zret (pc := 35) C hr (by decide) hu1 hu2 (dX12_isOpen 19 rfl) ⟨rfl, _, rfl, H⟩
    · replace H := H.1 c11
      refine z_iconst (pc := 30) (v := 1) C (dX12_isOpen 16 rfl) (by decide) ?_
      refine z_goto (pc := 31) (tgt := 35) C (dX12_isOpen 17 rfl) (by decide) ?_
      exact z_zret (pc := 35) C hr (by decide) hu1 hu2 (dX12_isOpen 19 rfl) ⟨rfl, _, rfl, H⟩
def wX12_laysLeast_J105 (t : zT) (m : zM) (a_0 : Nat) (x_1 : Int32) (x_2 : Int32) (x_3 : Int32) (Q : zM → Prop) (r35 : Int32 → zM → Prop) : Prop := (r35 (x_3 + 1) m)
set_option maxHeartbeats 4000000 in
set_option maxRecDepth 20000 in
theorem sX12_laysLeast_J105 {p : Program} {l : Launch} {e : Env} {s : State} {mt : MethodId} {args : Array Value} {below : List Frame} {meth : Method} {c : Code} {g : zG} {u : Nat × Nat} {mc ms : Nat} {t : zT} {m : zM} {a_0 : Nat} {x_1 : Int32} {x_2 : Int32} {x_3 : Int32} {Q : zM → Prop} {r35 : Int32 → zM → Prop} (C : zC p (zRm 2 mc ms) s mt args meth c g cX12_laysLeast 5 yX12_laysLeast.cls 2) (hr : meth.sig.returnType = none) (hm : meth.name = yX12_laysLeast.name) (hu1 : u.1 ≤ mc) (hu2 : u.2 ≤ ms)
    (R35 : ∀ (v0 : Int32) (m : zM), r35 v0 m → zW p l e (zRm 2 mc ms) s mt args below meth c g (MQ below (zQc g (zPv t Q)) args s mc ms (zFar g)) u 5 t m 35 [(0, .ref a_0), (1, .int x_1), (2, .int x_2), (3, .int v0)] []) (H : wX12_laysLeast_J105 t m a_0 x_1 x_2 x_3 Q r35) : zW p l e (zRm 2 mc ms) s mt args below meth c g (MQ below (zQc g (zPv t Q)) args s mc ms (zFar g)) u 5 t m 105 [(0, .ref a_0), (1, .int x_1), (2, .int x_2), (3, .int x_3)] [] := by
  unfold wX12_laysLeast_J105 at H
  refine z_iinc (pc := 105) (i := 3) (v := x_3 + 1) (lv2 := [(3, .int (x_3 + 1)), (0, .ref a_0), (1, .int x_1), (2, .int x_2)]) C (dX12_laysLeast 60 rfl) 3 rfl (by rfl) (by decide) rfl ?_
  refine z_goto (pc := 108) (tgt := 35) C (dX12_laysLeast 61 rfl) (by decide) ?_
  refine z_sub [1, 2, 3, 0] rfl ?_
  exact R35 (x_3 + 1) m H
def wX12_laysLeast_J104 (t : zT) (m : zM) (a_0 : Nat) (x_1 : Int32) (x_2 : Int32) (x_3 : Int32) (s_0 : Int32) (s_1 : Int32) (s_2 : Nat) (Q : zM → Prop) (r35 : Int32 → zM → Prop) : Prop := (tK t s_2 = 14 ∧ (vp_in s_1 (tL t s_2) ∧ (wX12_laysLeast_J105 t (pI m s_2 s_1.toNatClampNeg s_0) a_0 x_1 x_2 x_3 Q r35)))
set_option maxHeartbeats 4000000 in
set_option maxRecDepth 20000 in
theorem sX12_laysLeast_J104 {p : Program} {l : Launch} {e : Env} {s : State} {mt : MethodId} {args : Array Value} {below : List Frame} {meth : Method} {c : Code} {g : zG} {u : Nat × Nat} {mc ms : Nat} {t : zT} {m : zM} {a_0 : Nat} {x_1 : Int32} {x_2 : Int32} {x_3 : Int32} {s_0 : Int32} {s_1 : Int32} {s_2 : Nat} {Q : zM → Prop} {r35 : Int32 → zM → Prop} (C : zC p (zRm 2 mc ms) s mt args meth c g cX12_laysLeast 5 yX12_laysLeast.cls 2) (hr : meth.sig.returnType = none) (hm : meth.name = yX12_laysLeast.name) (hu1 : u.1 ≤ mc) (hu2 : u.2 ≤ ms)
    (R35 : ∀ (v0 : Int32) (m : zM), r35 v0 m → zW p l e (zRm 2 mc ms) s mt args below meth c g (MQ below (zQc g (zPv t Q)) args s mc ms (zFar g)) u 5 t m 35 [(0, .ref a_0), (1, .int x_1), (2, .int x_2), (3, .int v0)] []) (H : wX12_laysLeast_J104 t m a_0 x_1 x_2 x_3 s_0 s_1 s_2 Q r35) : zW p l e (zRm 2 mc ms) s mt args below meth c g (MQ below (zQc g (zPv t Q)) args s mc ms (zFar g)) u 5 t m 104 [(0, .ref a_0), (1, .int x_1), (2, .int x_2), (3, .int x_3)] [.int s_0, .int s_1, .ref s_2] := by
  unfold wX12_laysLeast_J104 at H
  obtain ⟨h22, H⟩ := H
  obtain ⟨h23, H⟩ := H
  refine z_iastore (pc := 104) C h22 h23 (dX12_laysLeast 59 rfl) ?_
  refine z_sub [0, 1, 2, 3] rfl ?_
  exact sX12_laysLeast_J105 C hr hm hu1 hu2 R35 H
def wX12_laysLeast_L35 (t : zT) (a_0 : Nat) (x_1 : Int32) (x_2 : Int32) (Q : zM → Prop) (k111 : zM → Prop) : Nat → Int32 → zM → Prop
  | 0, _, _ => False
  | n + 1, x_3, m => (tK t a_0 = 12 ∧ (tK t (gR m a_0 3) = 11 ∧ (((gI m (gR m a_0 3) 0) ≤ x_3 → (k111 m)) ∧ (¬ (gI m (gR m a_0 3) 0) ≤ x_3 → (tK t (gR m a_0 22) = 14 ∧ (vp_in x_2 (tL t (gR m a_0 22)) ∧ (((gI m (gR m a_0 22) x_2.toNatClampNeg) ≤ 1 → (k111 m)) ∧ (¬ (gI m (gR m a_0 22) x_2.toNatClampNeg) ≤ 1 → (wX12_isOpen t m a_0 x_2 x_3 (fun r14 m15 => ((r14 = 0 → (wX12_laysLeast_J105 t m15 a_0 x_1 x_2 x_3 Q (wX12_laysLeast_L35 t a_0 x_1 x_2 Q k111 n))) ∧ (¬ r14 = 0 → (wX12_costOf t m15 a_0 x_2 x_3 x_1 (fun r17 m18 => (tK t (gR m18 a_0 23) = 14 ∧ (vp_in x_2 (tL t (gR m18 a_0 23)) ∧ (((gI m18 (gR m18 a_0 23) x_2.toNatClampNeg) ≤ r17 → (wX12_laysLeast_J104 t m18 a_0 x_1 x_2 x_3 (gI m18 (gR m18 a_0 23) x_2.toNatClampNeg) x_2 (gR m18 a_0 23) Q (wX12_laysLeast_L35 t a_0 x_1 x_2 Q k111 n))) ∧ (¬ (gI m18 (gR m18 a_0 23) x_2.toNatClampNeg) ≤ r17 → (wX12_laysLeast_J104 t m18 a_0 x_1 x_2 x_3 r17 x_2 (gR m18 a_0 23) Q (wX12_laysLeast_L35 t a_0 x_1 x_2 Q k111 n))))))))))))))))))))
set_option maxHeartbeats 4000000 in
set_option maxRecDepth 20000 in
theorem sX12_laysLeast_L35 {p : Program} {l : Launch} {e : Env} {s : State} {mt : MethodId} {args : Array Value} {below : List Frame} {meth : Method} {c : Code} {g : zG} {u : Nat × Nat} {mc ms : Nat} {t : zT} {a_0 : Nat} {x_1 : Int32} {x_2 : Int32} {Q : zM → Prop} {k111 : zM → Prop} (C : zC p (zRm 2 mc ms) s mt args meth c g cX12_laysLeast 5 yX12_laysLeast.cls 2) (hr : meth.sig.returnType = none) (hm : meth.name = yX12_laysLeast.name) (hu1 : u.1 ≤ mc) (hu2 : u.2 ≤ ms)
    (K111 : ∀ (m : zM), k111 m → zW p l e (zRm 2 mc ms) s mt args below meth c g (MQ below (zQc g (zPv t Q)) args s mc ms (zFar g)) u 5 t m 111 [(0, .ref a_0), (1, .int x_1), (2, .int x_2)] []) : ∀ (n : Nat) (x_3 : Int32) (m : zM), wX12_laysLeast_L35 t a_0 x_1 x_2 Q k111 n x_3 m → zW p l e (zRm 2 mc ms) s mt args below meth c g (MQ below (zQc g (zPv t Q)) args s mc ms (zFar g)) u 5 t m 35 [(0, .ref a_0), (1, .int x_1), (2, .int x_2), (3, .int x_3)] [] := by
  intro n
  induction n with
  | zero => intro x_3 m H; exact H.elim
  | succ n ih =>
    intro x_3 m H
    simp only [wX12_laysLeast_L35] at H
    refine z_iload_n (pc := 35) C (dX12_laysLeast 21 rfl) rfl 3 rfl ?_
    refine z_aload_n (pc := 36) C (dX12_laysLeast 22 rfl) rfl 0 rfl ?_
    obtain ⟨h8, H⟩ := H
    refine z_getR (pc := 37) C zc12 h8 3 (by decide) rfl wf_X12_314 (dX12_laysLeast 23 rfl) ?_
    obtain ⟨h9, H⟩ := H
    refine z_getIN (pc := 40) C zc11 h9 0 (by decide) rfl wn_X12_180 (dX12_laysLeast 24 rfl) ?_
    refine z_icmp_ge (pc := 43) (tgt := 111) C (dX12_laysLeast 25 rfl) (by decide) (fun c10 => ?_) (fun c10 => ?_)
    · replace H := H.1 c10
      refine z_sub [0, 1, 2] rfl ?_
      exact K111 m H
    · replace H := H.2 c10
      refine z_aload_n (pc := 46) C (dX12_laysLeast 26 rfl) rfl 0 rfl ?_
      refine z_getR (pc := 47) C zc12 h8 22 (by decide) rfl wf_X12_402 (dX12_laysLeast 27 rfl) ?_
      refine z_iload_n (pc := 50) C (dX12_laysLeast 28 rfl) rfl 2 rfl ?_
      obtain ⟨h11, H⟩ := H
      obtain ⟨h12, H⟩ := H
      refine z_iaload (pc := 51) C h11 h12 (dX12_laysLeast 29 rfl) ?_
      refine z_iconst (pc := 52) (v := 1) C (dX12_laysLeast 30 rfl) (by decide) ?_
      refine z_icmp_le (pc := 53) (tgt := 111) C (dX12_laysLeast 31 rfl) (by decide) (fun c13 => ?_) (fun c13 => ?_)
      · replace H := H.1 c13
        refine z_sub [0, 1, 2] rfl ?_
        exact K111 m H
      · replace H := H.2 c13
        refine z_aload_n (pc := 56) C (dX12_laysLeast 32 rfl) rfl 0 rfl ?_
        refine z_iload_n (pc := 57) C (dX12_laysLeast 33 rfl) rfl 2 rfl ?_
        refine z_iload_n (pc := 58) C (dX12_laysLeast 34 rfl) rfl 3 rfl ?_
        refine zc_Vi (pc := 59) (rest := []) C YX12_isOpen wl_X12_414 (kX12_isOpen H) (by decide) h8 rfl (by decide) (dX12_laysLeast 35 rfl) rfl hu1 hu2 (Nat.le_of_ble_eq_true rfl) rfl (fun r14 m15 H => ?_)
        refine z_if_ne (pc := 62) (tgt := 68) C (dX12_laysLeast 36 rfl) (by decide) (fun c16 => ?_) (fun c16 => ?_)
        · replace H := H.2 c16
          refine z_aload_n (pc := 68) C (dX12_laysLeast 38 rfl) rfl 0 rfl ?_
          refine z_iload_n (pc := 69) C (dX12_laysLeast 39 rfl) rfl 2 rfl ?_
          refine z_iload_n (pc := 70) C (dX12_laysLeast 40 rfl) rfl 3 rfl ?_
          refine z_iload_n (pc := 71) C (dX12_laysLeast 41 rfl) rfl 1 rfl ?_
          refine zc_Vi (pc := 72) (rest := []) C YX12_costOf wl_X12_417 (kX12_costOf H) (by decide) h8 rfl (by decide) (dX12_laysLeast 42 rfl) rfl hu1 hu2 (Nat.le_of_ble_eq_true rfl) rfl (fun r17 m18 H => ?_)
          refine z_istore (pc := 75) (i := 4) (lv2 := [(4, .int r17), (0, .ref a_0), (1, .int x_1), (2, .int x_2), (3, .int x_3)]) C (dX12_laysLeast 43 rfl) (by decide) rfl ?_
          refine z_aload_n (pc := 77) C (dX12_laysLeast 44 rfl) rfl 1 rfl ?_
          refine z_getR (pc := 78) C zc12 h8 23 (by decide) rfl wf_X12_406 (dX12_laysLeast 45 rfl) ?_
          refine z_iload_n (pc := 81) C (dX12_laysLeast 46 rfl) rfl 3 rfl ?_
          refine z_iload (pc := 82) C (dX12_laysLeast 47 rfl) 0 rfl ?_
          refine z_aload_n (pc := 84) C (dX12_laysLeast 48 rfl) rfl 1 rfl ?_
          refine z_getR (pc := 85) C zc12 h8 23 (by decide) rfl wf_X12_406 (dX12_laysLeast 49 rfl) ?_
          refine z_iload_n (pc := 88) C (dX12_laysLeast 50 rfl) rfl 3 rfl ?_
          obtain ⟨h19, H⟩ := H
          obtain ⟨h20, H⟩ := H
          refine z_iaload (pc := 89) C h19 h20 (dX12_laysLeast 51 rfl) ?_
          refine z_icmp_ge (pc := 90) (tgt := 98) C (dX12_laysLeast 52 rfl) (by decide) (fun c21 => ?_) (fun c21 => ?_)
          · replace H := H.1 c21
            refine z_aload_n (pc := 98) C (dX12_laysLeast 55 rfl) rfl 1 rfl ?_
            refine z_getR (pc := 99) C zc12 h8 23 (by decide) rfl wf_X12_406 (dX12_laysLeast 56 rfl) ?_
            refine z_iload_n (pc := 102) C (dX12_laysLeast 57 rfl) rfl 3 rfl ?_
            refine z_iaload (pc := 103) C h19 h20 (dX12_laysLeast 58 rfl) ?_
            refine z_sub [1, 2, 3, 4] rfl ?_
            exact sX12_laysLeast_J104 C hr hm hu1 hu2 ih H
          · replace H := H.2 c21
            refine z_iload (pc := 93) C (dX12_laysLeast 53 rfl) 0 rfl ?_
            refine z_goto (pc := 95) (tgt := 104) C (dX12_laysLeast 54 rfl) (by decide) ?_
            refine z_sub [1, 2, 3, 4] rfl ?_
            exact sX12_laysLeast_J104 C hr hm hu1 hu2 ih H
        · replace H := H.1 c16
          refine z_goto (pc := 65) (tgt := 105) C (dX12_laysLeast 37 rfl) (by decide) ?_
          refine z_sub [0, 1, 2, 3] rfl ?_
          exact sX12_laysLeast_J105 C hr hm hu1 hu2 ih H
def wX12_laysLeast_J111 (t : zT) (m : zM) (a_0 : Nat) (x_1 : Int32) (x_2 : Int32) (Q : zM → Prop) (r2 : Int32 → zM → Prop) : Prop := (r2 (x_2 + 1) m)
set_option maxHeartbeats 4000000 in
set_option maxRecDepth 20000 in
theorem sX12_laysLeast_J111 {p : Program} {l : Launch} {e : Env} {s : State} {mt : MethodId} {args : Array Value} {below : List Frame} {meth : Method} {c : Code} {g : zG} {u : Nat × Nat} {mc ms : Nat} {t : zT} {m : zM} {a_0 : Nat} {x_1 : Int32} {x_2 : Int32} {Q : zM → Prop} {r2 : Int32 → zM → Prop} (C : zC p (zRm 2 mc ms) s mt args meth c g cX12_laysLeast 5 yX12_laysLeast.cls 2) (hr : meth.sig.returnType = none) (hm : meth.name = yX12_laysLeast.name) (hu1 : u.1 ≤ mc) (hu2 : u.2 ≤ ms)
    (R2 : ∀ (v0 : Int32) (m : zM), r2 v0 m → zW p l e (zRm 2 mc ms) s mt args below meth c g (MQ below (zQc g (zPv t Q)) args s mc ms (zFar g)) u 5 t m 2 [(0, .ref a_0), (1, .int x_1), (2, .int v0)] []) (H : wX12_laysLeast_J111 t m a_0 x_1 x_2 Q r2) : zW p l e (zRm 2 mc ms) s mt args below meth c g (MQ below (zQc g (zPv t Q)) args s mc ms (zFar g)) u 5 t m 111 [(0, .ref a_0), (1, .int x_1), (2, .int x_2)] [] := by
  unfold wX12_laysLeast_J111 at H
  refine z_iinc (pc := 111) (i := 2) (v := x_2 + 1) (lv2 := [(2, .int (x_2 + 1)), (0, .ref a_0), (1, .int x_1)]) C (dX12_laysLeast 62 rfl) 2 rfl (by rfl) (by decide) rfl ?_
  refine z_goto (pc := 114) (tgt := 2) C (dX12_laysLeast 63 rfl) (by decide) ?_
  refine z_sub [1, 2, 0] rfl ?_
  exact R2 (x_2 + 1) m H
def wX12_laysLeast_J32 (t : zT) (m : zM) (a_0 : Nat) (x_1 : Int32) (x_2 : Int32) (s_0 : Int32) (s_1 : Int32) (s_2 : Nat) (Q : zM → Prop) (r2 : Int32 → zM → Prop) : Prop := (tK t s_2 = 14 ∧ (vp_in s_1 (tL t s_2) ∧ (∃ n25, wX12_laysLeast_L35 t a_0 x_1 x_2 Q (fun m24 => (wX12_laysLeast_J111 t m24 a_0 x_1 x_2 Q r2)) n25 0 (pI m s_2 s_1.toNatClampNeg s_0))))
set_option maxHeartbeats 4000000 in
set_option maxRecDepth 20000 in
theorem sX12_laysLeast_J32 {p : Program} {l : Launch} {e : Env} {s : State} {mt : MethodId} {args : Array Value} {below : List Frame} {meth : Method} {c : Code} {g : zG} {u : Nat × Nat} {mc ms : Nat} {t : zT} {m : zM} {a_0 : Nat} {x_1 : Int32} {x_2 : Int32} {s_0 : Int32} {s_1 : Int32} {s_2 : Nat} {Q : zM → Prop} {r2 : Int32 → zM → Prop} (C : zC p (zRm 2 mc ms) s mt args meth c g cX12_laysLeast 5 yX12_laysLeast.cls 2) (hr : meth.sig.returnType = none) (hm : meth.name = yX12_laysLeast.name) (hu1 : u.1 ≤ mc) (hu2 : u.2 ≤ ms)
    (R2 : ∀ (v0 : Int32) (m : zM), r2 v0 m → zW p l e (zRm 2 mc ms) s mt args below meth c g (MQ below (zQc g (zPv t Q)) args s mc ms (zFar g)) u 5 t m 2 [(0, .ref a_0), (1, .int x_1), (2, .int v0)] []) (H : wX12_laysLeast_J32 t m a_0 x_1 x_2 s_0 s_1 s_2 Q r2) : zW p l e (zRm 2 mc ms) s mt args below meth c g (MQ below (zQc g (zPv t Q)) args s mc ms (zFar g)) u 5 t m 32 [(0, .ref a_0), (1, .int x_1), (2, .int x_2)] [.int s_0, .int s_1, .ref s_2] := by
  unfold wX12_laysLeast_J32 at H
  obtain ⟨h6, H⟩ := H
  obtain ⟨h7, H⟩ := H
  refine z_iastore (pc := 32) C h6 h7 (dX12_laysLeast 18 rfl) ?_
  refine z_iconst (pc := 33) (v := 0) C (dX12_laysLeast 19 rfl) (by decide) ?_
  refine z_istore_n (pc := 34) (i := 3) (lv2 := [(3, .int 0), (0, .ref a_0), (1, .int x_1), (2, .int x_2)]) C (dX12_laysLeast 20 rfl) rfl (by decide) rfl ?_
  obtain ⟨n25, H⟩ := H
  refine z_sub [1, 2, 3, 0] rfl ?_
  refine sX12_laysLeast_L35 C hr hm hu1 hu2 (fun m24 H => ?_) n25 0 (pI m s_2 s_1.toNatClampNeg s_0) H
  refine z_sub [0, 1, 2] rfl ?_
  exact sX12_laysLeast_J111 C hr hm hu1 hu2 R2 H
def wX12_laysLeast_L2 (t : zT) (a_0 : Nat) (x_1 : Int32) (Q : zM → Prop) (k117 : zM → Prop) : Nat → Int32 → zM → Prop
  | 0, _, _ => False
  | n + 1, x_2, m => (tK t a_0 = 12 ∧ (((gI m a_0 24) ≤ x_2 → (k117 m)) ∧ (¬ (gI m a_0 24) ≤ x_2 → (tK t (gR m a_0 22) = 14 ∧ (vp_in x_2 (tL t (gR m a_0 22)) ∧ (((2 : Int32) ≤ (gI m (gR m a_0 22) x_2.toNatClampNeg) → (wX12_laysLeast_J32 t m a_0 x_1 x_2 268435456 x_2 (gR m a_0 23) Q (wX12_laysLeast_L2 t a_0 x_1 Q k117 n))) ∧ (¬ (2 : Int32) ≤ (gI m (gR m a_0 22) x_2.toNatClampNeg) → (wX12_laysLeast_J32 t m a_0 x_1 x_2 0 x_2 (gR m a_0 23) Q (wX12_laysLeast_L2 t a_0 x_1 Q k117 n)))))))))
set_option maxHeartbeats 4000000 in
set_option maxRecDepth 20000 in
theorem sX12_laysLeast_L2 {p : Program} {l : Launch} {e : Env} {s : State} {mt : MethodId} {args : Array Value} {below : List Frame} {meth : Method} {c : Code} {g : zG} {u : Nat × Nat} {mc ms : Nat} {t : zT} {a_0 : Nat} {x_1 : Int32} {Q : zM → Prop} {k117 : zM → Prop} (C : zC p (zRm 2 mc ms) s mt args meth c g cX12_laysLeast 5 yX12_laysLeast.cls 2) (hr : meth.sig.returnType = none) (hm : meth.name = yX12_laysLeast.name) (hu1 : u.1 ≤ mc) (hu2 : u.2 ≤ ms)
    (K117 : ∀ (m : zM), k117 m → zW p l e (zRm 2 mc ms) s mt args below meth c g (MQ below (zQc g (zPv t Q)) args s mc ms (zFar g)) u 5 t m 117 [] []) : ∀ (n : Nat) (x_2 : Int32) (m : zM), wX12_laysLeast_L2 t a_0 x_1 Q k117 n x_2 m → zW p l e (zRm 2 mc ms) s mt args below meth c g (MQ below (zQc g (zPv t Q)) args s mc ms (zFar g)) u 5 t m 2 [(0, .ref a_0), (1, .int x_1), (2, .int x_2)] [] := by
  intro n
  induction n with
  | zero => intro x_2 m H; exact H.elim
  | succ n ih =>
    intro x_2 m H
    simp only [wX12_laysLeast_L2] at H
    refine z_iload_n (pc := 2) C (dX12_laysLeast 2 rfl) rfl 2 rfl ?_
    refine z_aload_n (pc := 3) C (dX12_laysLeast 3 rfl) rfl 0 rfl ?_
    obtain ⟨h1, H⟩ := H
    refine z_getI (pc := 4) C zc12 h1 24 (by decide) rfl wf_X12_407 (dX12_laysLeast 4 rfl) ?_
    refine z_icmp_ge (pc := 7) (tgt := 117) C (dX12_laysLeast 5 rfl) (by decide) (fun c2 => ?_) (fun c2 => ?_)
    · replace H := H.1 c2
      refine z_sub [] rfl ?_
      exact K117 m H
    · replace H := H.2 c2
      refine z_aload_n (pc := 10) C (dX12_laysLeast 6 rfl) rfl 0 rfl ?_
      refine z_getR (pc := 11) C zc12 h1 23 (by decide) rfl wf_X12_406 (dX12_laysLeast 7 rfl) ?_
      refine z_iload_n (pc := 14) C (dX12_laysLeast 8 rfl) rfl 2 rfl ?_
      refine z_aload_n (pc := 15) C (dX12_laysLeast 9 rfl) rfl 0 rfl ?_
      refine z_getR (pc := 16) C zc12 h1 22 (by decide) rfl wf_X12_402 (dX12_laysLeast 10 rfl) ?_
      refine z_iload_n (pc := 19) C (dX12_laysLeast 11 rfl) rfl 2 rfl ?_
      obtain ⟨h3, H⟩ := H
      obtain ⟨h4, H⟩ := H
      refine z_iaload (pc := 20) C h3 h4 (dX12_laysLeast 12 rfl) ?_
      refine z_iconst (pc := 21) (v := 2) C (dX12_laysLeast 13 rfl) (by decide) ?_
      refine z_icmp_ge (pc := 22) (tgt := 29) C (dX12_laysLeast 14 rfl) (by decide) (fun c5 => ?_) (fun c5 => ?_)
      · replace H := H.1 c5
        refine z_ldcw (pc := 29) C wk_X12_413 (dX12_laysLeast 17 rfl) ?_
        refine z_sub [0, 1, 2] rfl ?_
        exact sX12_laysLeast_J32 C hr hm hu1 hu2 ih H
      · replace H := H.2 c5
        refine z_iconst (pc := 25) (v := 0) C (dX12_laysLeast 15 rfl) (by decide) ?_
        refine z_goto (pc := 26) (tgt := 32) C (dX12_laysLeast 16 rfl) (by decide) ?_
        refine z_sub [0, 1, 2] rfl ?_
        exact sX12_laysLeast_J32 C hr hm hu1 hu2 ih H
def wX12_laysLeast (t : zT) (m : zM) (a : Nat) (p1 : Int32) (Q : zM → Prop) : Prop := (∃ n27, wX12_laysLeast_L2 t a p1 Q (fun m26 => (Q m26)) n27 0 m)
set_option maxHeartbeats 4000000 in
set_option maxRecDepth 20000 in
theorem kX12_laysLeast {l : Launch} {t : zT} {m : zM} {a : Nat} {p1 : Int32} {Q : zM → Prop} (H : wX12_laysLeast t m a p1 Q) : zMet l yX12_laysLeast cX12_laysLeast 5 none 2 0 0 t m [.ref a, .int p1] (zPv t Q) := by
  refine zmet (by decide +kernel) (Nat.le_of_ble_eq_true rfl) ?_
  intro p e s mt args below meth c g C hr hm
  unfold wX12_laysLeast at H
  have hu1 : ((0, 0) : Nat × Nat).1 ≤ 0 := Nat.le_refl 0
  have hu2 : ((0, 0) : Nat × Nat).2 ≤ 0 := Nat.le_refl 0
  refine z_iconst (pc := 0) (v := 0) C (dX12_laysLeast 0 rfl) (by decide) ?_
  refine z_istore_n (pc := 1) (i := 2) (lv2 := [(2, .int 0), (0, .ref a), (1, .int p1)]) C (dX12_laysLeast 1 rfl) rfl (by decide) rfl ?_
  obtain ⟨n27, H⟩ := H
  refine z_sub [1, 2, 0] rfl ?_
  refine sX12_laysLeast_L2 C hr hm hu1 hu2 (fun m26 H => ?_) n27 0 m H
  exact z_vret (pc := 117) C hr hu1 hu2 (dX12_laysLeast 64 rfl) ⟨rfl, rfl, H⟩
def wX12_knownNow_J51 (t : zT) (m : zM) (a_0 : Nat) (x_2 : Int32) (s_0 : Int32) (s_1 : Int32) (s_2 : Int32) (Q : Int32 → zM → Prop) (r4 : Int32 → Int32 → zM → Prop) : Prop := (∀ x9 : Int32, x9 = (s_2 + (s_1 * s_0)) → ((r4 x9 (x_2 + 1) m)))
set_option maxHeartbeats 4000000 in
set_option maxRecDepth 20000 in
theorem sX12_knownNow_J51 {p : Program} {l : Launch} {e : Env} {s : State} {mt : MethodId} {args : Array Value} {below : List Frame} {meth : Method} {c : Code} {g : zG} {u : Nat × Nat} {mc ms : Nat} {t : zT} {m : zM} {a_0 : Nat} {x_2 : Int32} {s_0 : Int32} {s_1 : Int32} {s_2 : Int32} {Q : Int32 → zM → Prop} {r4 : Int32 → Int32 → zM → Prop} (C : zC p (zRm 0 mc ms) s mt args meth c g cX12_knownNow 3 yX12_knownNow.cls 0) (hr : meth.sig.returnType = (some .int)) (hm : meth.name = yX12_knownNow.name) (hu1 : u.1 ≤ mc) (hu2 : u.2 ≤ ms)
    (R4 : ∀ (v0 : Int32) (v1 : Int32) (m : zM), r4 v0 v1 m → zW p l e (zRm 0 mc ms) s mt args below meth c g (MQ below (zQc g (zPi t Q)) args s mc ms (zFar g)) u 3 t m 4 [(0, .ref a_0), (1, .int v0), (2, .int v1)] []) (H : wX12_knownNow_J51 t m a_0 x_2 s_0 s_1 s_2 Q r4) : zW p l e (zRm 0 mc ms) s mt args below meth c g (MQ below (zQc g (zPi t Q)) args s mc ms (zFar g)) u 3 t m 51 [(0, .ref a_0), (2, .int x_2)] [.int s_0, .int s_1, .int s_2] := by
  unfold wX12_knownNow_J51 at H
  refine z_imul (pc := 51) C (dX12_knownNow 30 rfl) ?_
  refine z_iadd (pc := 52) C (dX12_knownNow 31 rfl) ?_
  refine z_int (fun x9 hx9 => ?_)
  replace H := H x9 hx9
  refine z_istore_n (pc := 53) (i := 1) (lv2 := [(1, .int x9), (0, .ref a_0), (2, .int x_2)]) C (dX12_knownNow 32 rfl) rfl (by decide) rfl ?_
  refine z_iinc (pc := 54) (i := 2) (v := x_2 + 1) (lv2 := [(2, .int (x_2 + 1)), (1, .int x9), (0, .ref a_0)]) C (dX12_knownNow 33 rfl) 2 rfl (by rfl) (by decide) rfl ?_
  refine z_goto (pc := 57) (tgt := 4) C (dX12_knownNow 34 rfl) (by decide) ?_
  refine z_sub [2, 1, 0] rfl ?_
  exact R4 x9 (x_2 + 1) m H
def wX12_knownNow_L4 (t : zT) (a_0 : Nat) (Q : Int32 → zM → Prop) (k60 : Int32 → zM → Prop) : Nat → Int32 → Int32 → zM → Prop
  | 0, _, _, _ => False
  | n + 1, x_1, x_2, m => (tK t a_0 = 12 ∧ (tK t (gR m a_0 3) = 11 ∧ (((gI m (gR m a_0 3) 0) ≤ x_2 → (k60 x_1 m)) ∧ (¬ (gI m (gR m a_0 3) 0) ≤ x_2 → (tK t (gR m a_0 20) = 14 ∧ (vp_in x_2 (tL t (gR m a_0 20)) ∧ (tK t (gR m a_0 26) = 14 ∧ (vp_in x_2 (tL t (gR m a_0 26)) ∧ (((gI m (gR m a_0 26) x_2.toNatClampNeg) = (-2) → (tK t (gR m (gR m a_0 3) 10) = 14 ∧ (vp_in x_2 (tL t (gR m (gR m a_0 3) 10)) ∧ (wX12_knownNow_J51 t m a_0 x_2 (gI m (gR m (gR m a_0 3) 10) x_2.toNatClampNeg) (gI m (gR m a_0 20) x_2.toNatClampNeg) x_1 Q (wX12_knownNow_L4 t a_0 Q k60 n))))) ∧ (¬ (gI m (gR m a_0 26) x_2.toNatClampNeg) = (-2) → (wX12_knownNow_J51 t m a_0 x_2 (gI m (gR m a_0 26) x_2.toNatClampNeg) (gI m (gR m a_0 20) x_2.toNatClampNeg) x_1 Q (wX12_knownNow_L4 t a_0 Q k60 n))))))))))))
set_option maxHeartbeats 4000000 in
set_option maxRecDepth 20000 in
theorem sX12_knownNow_L4 {p : Program} {l : Launch} {e : Env} {s : State} {mt : MethodId} {args : Array Value} {below : List Frame} {meth : Method} {c : Code} {g : zG} {u : Nat × Nat} {mc ms : Nat} {t : zT} {a_0 : Nat} {Q : Int32 → zM → Prop} {k60 : Int32 → zM → Prop} (C : zC p (zRm 0 mc ms) s mt args meth c g cX12_knownNow 3 yX12_knownNow.cls 0) (hr : meth.sig.returnType = (some .int)) (hm : meth.name = yX12_knownNow.name) (hu1 : u.1 ≤ mc) (hu2 : u.2 ≤ ms)
    (K60 : ∀ (v0 : Int32) (m : zM), k60 v0 m → zW p l e (zRm 0 mc ms) s mt args below meth c g (MQ below (zQc g (zPi t Q)) args s mc ms (zFar g)) u 3 t m 60 [(1, .int v0)] []) : ∀ (n : Nat) (x_1 : Int32) (x_2 : Int32) (m : zM), wX12_knownNow_L4 t a_0 Q k60 n x_1 x_2 m → zW p l e (zRm 0 mc ms) s mt args below meth c g (MQ below (zQc g (zPi t Q)) args s mc ms (zFar g)) u 3 t m 4 [(0, .ref a_0), (1, .int x_1), (2, .int x_2)] [] := by
  intro n
  induction n with
  | zero => intro x_1 x_2 m H; exact H.elim
  | succ n ih =>
    intro x_1 x_2 m H
    simp only [wX12_knownNow_L4] at H
    refine z_iload_n (pc := 4) C (dX12_knownNow 4 rfl) rfl 2 rfl ?_
    refine z_aload_n (pc := 5) C (dX12_knownNow 5 rfl) rfl 0 rfl ?_
    obtain ⟨h1, H⟩ := H
    refine z_getR (pc := 6) C zc12 h1 3 (by decide) rfl wf_X12_314 (dX12_knownNow 6 rfl) ?_
    obtain ⟨h2, H⟩ := H
    refine z_getIN (pc := 9) C zc11 h2 0 (by decide) rfl wn_X12_180 (dX12_knownNow 7 rfl) ?_
    refine z_icmp_ge (pc := 12) (tgt := 60) C (dX12_knownNow 8 rfl) (by decide) (fun c3 => ?_) (fun c3 => ?_)
    · replace H := H.1 c3
      refine z_sub [1] rfl ?_
      exact K60 x_1 m H
    · replace H := H.2 c3
      refine z_iload_n (pc := 15) C (dX12_knownNow 9 rfl) rfl 1 rfl ?_
      refine z_aload_n (pc := 16) C (dX12_knownNow 10 rfl) rfl 0 rfl ?_
      refine z_getR (pc := 17) C zc12 h1 20 (by decide) rfl wf_X12_29 (dX12_knownNow 11 rfl) ?_
      refine z_iload_n (pc := 20) C (dX12_knownNow 12 rfl) rfl 2 rfl ?_
      obtain ⟨h4, H⟩ := H
      obtain ⟨h5, H⟩ := H
      refine z_iaload (pc := 21) C h4 h5 (dX12_knownNow 13 rfl) ?_
      refine z_aload_n (pc := 22) C (dX12_knownNow 14 rfl) rfl 0 rfl ?_
      refine z_getR (pc := 23) C zc12 h1 26 (by decide) rfl wf_X12_35 (dX12_knownNow 15 rfl) ?_
      refine z_iload_n (pc := 26) C (dX12_knownNow 16 rfl) rfl 2 rfl ?_
      obtain ⟨h6, H⟩ := H
      obtain ⟨h7, H⟩ := H
      refine z_iaload (pc := 27) C h6 h7 (dX12_knownNow 17 rfl) ?_
      refine z_bipush (pc := 28) (v := (-2)) C (dX12_knownNow 18 rfl) (by decide) ?_
      refine z_icmp_ne (pc := 30) (tgt := 45) C (dX12_knownNow 19 rfl) (by decide) (fun c8 => ?_) (fun c8 => ?_)
      · replace H := H.2 c8
        refine z_aload_n (pc := 45) C (dX12_knownNow 26 rfl) rfl 0 rfl ?_
        refine z_getR (pc := 46) C zc12 h1 26 (by decide) rfl wf_X12_35 (dX12_knownNow 27 rfl) ?_
        refine z_iload_n (pc := 49) C (dX12_knownNow 28 rfl) rfl 2 rfl ?_
        refine z_iaload (pc := 50) C h6 h7 (dX12_knownNow 29 rfl) ?_
        refine z_sub [0, 2] rfl ?_
        exact sX12_knownNow_J51 C hr hm hu1 hu2 ih H
      · replace H := H.1 c8
        refine z_aload_n (pc := 33) C (dX12_knownNow 20 rfl) rfl 0 rfl ?_
        refine z_getR (pc := 34) C zc12 h1 3 (by decide) rfl wf_X12_314 (dX12_knownNow 21 rfl) ?_
        refine z_getRN (pc := 37) C zc11 h2 10 (by decide) rfl wn_X12_171 (dX12_knownNow 22 rfl) ?_
        refine z_iload_n (pc := 40) C (dX12_knownNow 23 rfl) rfl 2 rfl ?_
        obtain ⟨h10, H⟩ := H
        obtain ⟨h11, H⟩ := H
        refine z_iaload (pc := 41) C h10 h11 (dX12_knownNow 24 rfl) ?_
        refine z_goto (pc := 42) (tgt := 51) C (dX12_knownNow 25 rfl) (by decide) ?_
        refine z_sub [0, 2] rfl ?_
        exact sX12_knownNow_J51 C hr hm hu1 hu2 ih H
def wX12_knownNow (t : zT) (m : zM) (a : Nat) (Q : Int32 → zM → Prop) : Prop := (∃ n14, wX12_knownNow_L4 t a Q (fun v12 m13 => (Q v12 m13)) n14 0 0 m)
set_option maxHeartbeats 4000000 in
set_option maxRecDepth 20000 in
theorem kX12_knownNow {l : Launch} {t : zT} {m : zM} {a : Nat} {Q : Int32 → zM → Prop} (H : wX12_knownNow t m a Q) : zMet l yX12_knownNow cX12_knownNow 3 (some .int) 0 0 0 t m [.ref a] (zPi t Q) := by
  refine zmet (by decide +kernel) (Nat.le_of_ble_eq_true rfl) ?_
  intro p e s mt args below meth c g C hr hm
  unfold wX12_knownNow at H
  have hu1 : ((0, 0) : Nat × Nat).1 ≤ 0 := Nat.le_refl 0
  have hu2 : ((0, 0) : Nat × Nat).2 ≤ 0 := Nat.le_refl 0
  refine z_iconst (pc := 0) (v := 0) C (dX12_knownNow 0 rfl) (by decide) ?_
  refine z_istore_n (pc := 1) (i := 1) (lv2 := [(1, .int 0), (0, .ref a)]) C (dX12_knownNow 1 rfl) rfl (by decide) rfl ?_
  refine z_iconst (pc := 2) (v := 0) C (dX12_knownNow 2 rfl) (by decide) ?_
  refine z_istore_n (pc := 3) (i := 2) (lv2 := [(2, .int 0), (1, .int 0), (0, .ref a)]) C (dX12_knownNow 3 rfl) rfl (by decide) rfl ?_
  obtain ⟨n14, H⟩ := H
  refine z_sub [2, 1, 0] rfl ?_
  refine sX12_knownNow_L4 C hr hm hu1 hu2 (fun v12 m13 H => ?_) n14 0 0 m H
  refine z_iload_n (pc := 60) C (dX12_knownNow 35 rfl) rfl 0 rfl ?_
  exact z_iret (pc := 61) C hr hu1 hu2 (dX12_knownNow 36 rfl) ⟨rfl, _, rfl, H⟩
def wX12_refusesPlan (cap : Nat × Nat) (t : zT) (m : zM) (a : Nat) (p1 : Int32) (Q : Int32 → zT → zM → Prop) : Prop := (tK t a = 12 ∧ (((gR m a 3) = 0 → (Q 1 t m)) ∧ (¬ (gR m a 3) = 0 → (wX12_asksWorlds t m a (fun m4 => (((gI m4 a 19) = 0 → (Q 6 t m4)) ∧ (¬ (gI m4 a 19) = 0 → (∃ k8 : Nat × Nat, (0 + k8.1 ≤ cap.1 ∧ 0 + k8.2 ≤ cap.2) ∧ wX12_laysKnown k8 t m4 a (fun t9 m7 => (tK t9 a = 12 ∧ (wX12_laysLeast t9 m7 a p1 (fun m12 => (Q 0 t9 m12)))))))))))))
set_option maxHeartbeats 4000000 in
set_option maxRecDepth 20000 in
theorem kX12_refusesPlan {l : Launch} {cap : Nat × Nat} {t : zT} {m : zM} {a : Nat} {p1 : Int32} {Q : Int32 → zT → zM → Prop} (H : wX12_refusesPlan cap t m a p1 Q) : zMet l yX12_refusesPlan cX12_refusesPlan 2 (some .int) 6 cap.1 cap.2 t m [.ref a, .int p1] (zAi Q) := by
  refine zmet (by decide +kernel) (Nat.le_of_ble_eq_true rfl) ?_
  intro p e s mt args below meth c g C hr hm
  unfold wX12_refusesPlan at H
  obtain ⟨mc, ms⟩ := cap
  refine z_aload_n (pc := 0) C (dX12_refusesPlan 0 rfl) rfl 0 rfl ?_
  obtain ⟨h1, H⟩ := H
  refine z_getR (pc := 1) C zc12 h1 3 (by decide) rfl wf_X12_314 (dX12_refusesPlan 1 rfl) ?_
  refine z_ifnonnull (pc := 4) (tgt := 9) C (dX12_refusesPlan 2 rfl) (by decide) (fun c2 => ?_) (fun c2 => ?_)
  · replace H := H.1 c2
    refine z_iconst (pc := 7) (v := 1) C (dX12_refusesPlan 3 rfl) (by decide) ?_
    exact z_iret (pc := 8) C hr (Nat.zero_le _) (Nat.zero_le _) (dX12_refusesPlan 4 rfl) ⟨_, rfl, H⟩
  · replace H := H.2 c2
    refine z_aload_n (pc := 9) C (dX12_refusesPlan 5 rfl) rfl 0 rfl ?_
    refine zc_Vv (pc := 10) (rest := []) C YX12_asksWorlds wl_X12_358 (kX12_asksWorlds H) (by decide) h1 rfl (by decide) (dX12_refusesPlan 6 rfl) rfl (Nat.zero_le _) (Nat.zero_le _) (Nat.le_of_ble_eq_true rfl) rfl (fun m4 H => ?_)
    refine z_aload_n (pc := 13) C (dX12_refusesPlan 7 rfl) rfl 0 rfl ?_
    refine z_getI (pc := 14) C zc12 h1 19 (by decide) rfl wf_X12_339 (dX12_refusesPlan 8 rfl) ?_
    refine z_if_ne (pc := 17) (tgt := 23) C (dX12_refusesPlan 9 rfl) (by decide) (fun c5 => ?_) (fun c5 => ?_)
    · replace H := H.2 c5
      refine z_aload_n (pc := 23) C (dX12_refusesPlan 12 rfl) rfl 0 rfl ?_
      obtain ⟨k8, h13, H⟩ := H
      refine za_Vv (pc := 24) (rest := []) C YX12_laysKnown wl_X12_421 (kX12_laysKnown H) (by decide) h1 rfl (by decide) (dX12_refusesPlan 13 rfl) rfl (by first | exact h13.1 | (have := h13.1; omega)) (by first | exact h13.2 | (have := h13.2; omega)) (Nat.le_of_ble_eq_true rfl) rfl (fun t9 m7 H => ?_)
      refine z_aload_n (pc := 27) C (dX12_refusesPlan 14 rfl) rfl 0 rfl ?_
      refine z_iload_n (pc := 28) C (dX12_refusesPlan 15 rfl) rfl 1 rfl ?_
      obtain ⟨h10, H⟩ := H
      refine zc_Vv (pc := 29) (rest := []) C YX12_laysLeast wl_X12_424 (kX12_laysLeast H) (by decide) h10 rfl (by decide) (dX12_refusesPlan 16 rfl) rfl (by first | omega | (show _ ≤ mc; omega)) (by first | omega | (show _ ≤ ms; omega)) (Nat.le_of_ble_eq_true rfl) rfl (fun m12 H => ?_)
      refine z_iconst (pc := 32) (v := 0) C (dX12_refusesPlan 17 rfl) (by decide) ?_
      exact z_iret (pc := 33) C hr (by first | omega | (show _ ≤ mc; omega)) (by first | omega | (show _ ≤ ms; omega)) (dX12_refusesPlan 18 rfl) ⟨_, rfl, H⟩
    · replace H := H.1 c5
      refine z_bipush (pc := 20) (v := 6) C (dX12_refusesPlan 10 rfl) (by decide) ?_
      exact z_iret (pc := 22) C hr (Nat.zero_le _) (Nat.zero_le _) (dX12_refusesPlan 11 rfl) ⟨_, rfl, H⟩
def wX12_firstNow_J55 (t : zT) (m : zM) (a_0 : Nat) (x_1 : Int32) (x_2 : Int32) (x_3 : Int32) (Q : Int32 → zM → Prop) (r7 : Int32 → zM → Prop) : Prop := (r7 (x_3 + 1) m)
set_option maxHeartbeats 4000000 in
set_option maxRecDepth 20000 in
theorem sX12_firstNow_J55 {p : Program} {l : Launch} {e : Env} {s : State} {mt : MethodId} {args : Array Value} {below : List Frame} {meth : Method} {c : Code} {g : zG} {u : Nat × Nat} {mc ms : Nat} {t : zT} {m : zM} {a_0 : Nat} {x_1 : Int32} {x_2 : Int32} {x_3 : Int32} {Q : Int32 → zM → Prop} {r7 : Int32 → zM → Prop} (C : zC p (zRm 2 mc ms) s mt args meth c g cX12_firstNow 4 yX12_firstNow.cls 2) (hr : meth.sig.returnType = (some .int)) (hm : meth.name = yX12_firstNow.name) (hu1 : u.1 ≤ mc) (hu2 : u.2 ≤ ms)
    (R7 : ∀ (v0 : Int32) (m : zM), r7 v0 m → zW p l e (zRm 2 mc ms) s mt args below meth c g (MQ below (zQc g (zPi t Q)) args s mc ms (zFar g)) u 4 t m 7 [(0, .ref a_0), (1, .int x_1), (2, .int x_2), (3, .int v0)] []) (H : wX12_firstNow_J55 t m a_0 x_1 x_2 x_3 Q r7) : zW p l e (zRm 2 mc ms) s mt args below meth c g (MQ below (zQc g (zPi t Q)) args s mc ms (zFar g)) u 4 t m 55 [(0, .ref a_0), (1, .int x_1), (2, .int x_2), (3, .int x_3)] [] := by
  unfold wX12_firstNow_J55 at H
  refine z_iinc (pc := 55) (i := 3) (v := x_3 + 1) (lv2 := [(3, .int (x_3 + 1)), (0, .ref a_0), (1, .int x_1), (2, .int x_2)]) C (dX12_firstNow 33 rfl) 3 rfl (by rfl) (by decide) rfl ?_
  refine z_goto (pc := 58) (tgt := 7) C (dX12_firstNow 34 rfl) (by decide) ?_
  refine z_sub [1, 2, 3, 0] rfl ?_
  exact R7 (x_3 + 1) m H
def wX12_firstNow_L7 (t : zT) (a_0 : Nat) (x_1 : Int32) (x_2 : Int32) (Q : Int32 → zM → Prop) (k61 : zM → Prop) : Nat → Int32 → zM → Prop
  | 0, _, _ => False
  | n + 1, x_3, m => (tK t a_0 = 12 ∧ (tK t (gR m a_0 3) = 11 ∧ (((gI m (gR m a_0 3) 0) ≤ x_3 → (k61 m)) ∧ (¬ (gI m (gR m a_0 3) 0) ≤ x_3 → (tK t (gR m a_0 22) = 14 ∧ (vp_in x_2 (tL t (gR m a_0 22)) ∧ (((gI m (gR m a_0 22) x_2.toNatClampNeg) ≤ 1 → (k61 m)) ∧ (¬ (gI m (gR m a_0 22) x_2.toNatClampNeg) ≤ 1 → (wX12_isOpen t m a_0 x_2 x_3 (fun r10 m11 => ((r10 = 0 → (wX12_firstNow_J55 t m11 a_0 x_1 x_2 x_3 Q (wX12_firstNow_L7 t a_0 x_1 x_2 Q k61 n))) ∧ (¬ r10 = 0 → (wX12_costOf t m11 a_0 x_2 x_3 x_1 (fun r13 m14 => (tK t (gR m14 a_0 23) = 14 ∧ (vp_in x_2 (tL t (gR m14 a_0 23)) ∧ ((r13 = (gI m14 (gR m14 a_0 23) x_2.toNatClampNeg) → (Q x_3 m14)) ∧ (¬ r13 = (gI m14 (gR m14 a_0 23) x_2.toNatClampNeg) → (wX12_firstNow_J55 t m14 a_0 x_1 x_2 x_3 Q (wX12_firstNow_L7 t a_0 x_1 x_2 Q k61 n))))))))))))))))))))
set_option maxHeartbeats 4000000 in
set_option maxRecDepth 20000 in
theorem sX12_firstNow_L7 {p : Program} {l : Launch} {e : Env} {s : State} {mt : MethodId} {args : Array Value} {below : List Frame} {meth : Method} {c : Code} {g : zG} {u : Nat × Nat} {mc ms : Nat} {t : zT} {a_0 : Nat} {x_1 : Int32} {x_2 : Int32} {Q : Int32 → zM → Prop} {k61 : zM → Prop} (C : zC p (zRm 2 mc ms) s mt args meth c g cX12_firstNow 4 yX12_firstNow.cls 2) (hr : meth.sig.returnType = (some .int)) (hm : meth.name = yX12_firstNow.name) (hu1 : u.1 ≤ mc) (hu2 : u.2 ≤ ms)
    (K61 : ∀ (m : zM), k61 m → zW p l e (zRm 2 mc ms) s mt args below meth c g (MQ below (zQc g (zPi t Q)) args s mc ms (zFar g)) u 4 t m 61 [] []) : ∀ (n : Nat) (x_3 : Int32) (m : zM), wX12_firstNow_L7 t a_0 x_1 x_2 Q k61 n x_3 m → zW p l e (zRm 2 mc ms) s mt args below meth c g (MQ below (zQc g (zPi t Q)) args s mc ms (zFar g)) u 4 t m 7 [(0, .ref a_0), (1, .int x_1), (2, .int x_2), (3, .int x_3)] [] := by
  intro n
  induction n with
  | zero => intro x_3 m H; exact H.elim
  | succ n ih =>
    intro x_3 m H
    simp only [wX12_firstNow_L7] at H
    refine z_iload_n (pc := 7) C (dX12_firstNow 5 rfl) rfl 3 rfl ?_
    refine z_aload_n (pc := 8) C (dX12_firstNow 6 rfl) rfl 0 rfl ?_
    obtain ⟨h4, H⟩ := H
    refine z_getR (pc := 9) C zc12 h4 3 (by decide) rfl wf_X12_314 (dX12_firstNow 7 rfl) ?_
    obtain ⟨h5, H⟩ := H
    refine z_getIN (pc := 12) C zc11 h5 0 (by decide) rfl wn_X12_180 (dX12_firstNow 8 rfl) ?_
    refine z_icmp_ge (pc := 15) (tgt := 61) C (dX12_firstNow 9 rfl) (by decide) (fun c6 => ?_) (fun c6 => ?_)
    · replace H := H.1 c6
      refine z_sub [] rfl ?_
      exact K61 m H
    · replace H := H.2 c6
      refine z_aload_n (pc := 18) C (dX12_firstNow 10 rfl) rfl 0 rfl ?_
      refine z_getR (pc := 19) C zc12 h4 22 (by decide) rfl wf_X12_402 (dX12_firstNow 11 rfl) ?_
      refine z_iload_n (pc := 22) C (dX12_firstNow 12 rfl) rfl 2 rfl ?_
      obtain ⟨h7, H⟩ := H
      obtain ⟨h8, H⟩ := H
      refine z_iaload (pc := 23) C h7 h8 (dX12_firstNow 13 rfl) ?_
      refine z_iconst (pc := 24) (v := 1) C (dX12_firstNow 14 rfl) (by decide) ?_
      refine z_icmp_le (pc := 25) (tgt := 61) C (dX12_firstNow 15 rfl) (by decide) (fun c9 => ?_) (fun c9 => ?_)
      · replace H := H.1 c9
        refine z_sub [] rfl ?_
        exact K61 m H
      · replace H := H.2 c9
        refine z_aload_n (pc := 28) C (dX12_firstNow 16 rfl) rfl 0 rfl ?_
        refine z_iload_n (pc := 29) C (dX12_firstNow 17 rfl) rfl 2 rfl ?_
        refine z_iload_n (pc := 30) C (dX12_firstNow 18 rfl) rfl 3 rfl ?_
        refine zc_Vi (pc := 31) (rest := []) C YX12_isOpen wl_X12_414 (kX12_isOpen H) (by decide) h4 rfl (by decide) (dX12_firstNow 19 rfl) rfl hu1 hu2 (Nat.le_of_ble_eq_true rfl) rfl (fun r10 m11 H => ?_)
        refine z_if_eq (pc := 34) (tgt := 55) C (dX12_firstNow 20 rfl) (by decide) (fun c12 => ?_) (fun c12 => ?_)
        · replace H := H.1 c12
          refine z_sub [0, 1, 2, 3] rfl ?_
          exact sX12_firstNow_J55 C hr hm hu1 hu2 ih H
        · replace H := H.2 c12
          refine z_aload_n (pc := 37) C (dX12_firstNow 21 rfl) rfl 0 rfl ?_
          refine z_iload_n (pc := 38) C (dX12_firstNow 22 rfl) rfl 2 rfl ?_
          refine z_iload_n (pc := 39) C (dX12_firstNow 23 rfl) rfl 3 rfl ?_
          refine z_iload_n (pc := 40) C (dX12_firstNow 24 rfl) rfl 1 rfl ?_
          refine zc_Vi (pc := 41) (rest := []) C YX12_costOf wl_X12_417 (kX12_costOf H) (by decide) h4 rfl (by decide) (dX12_firstNow 25 rfl) rfl hu1 hu2 (Nat.le_of_ble_eq_true rfl) rfl (fun r13 m14 H => ?_)
          refine z_aload_n (pc := 44) C (dX12_firstNow 26 rfl) rfl 0 rfl ?_
          refine z_getR (pc := 45) C zc12 h4 23 (by decide) rfl wf_X12_406 (dX12_firstNow 27 rfl) ?_
          refine z_iload_n (pc := 48) C (dX12_firstNow 28 rfl) rfl 2 rfl ?_
          obtain ⟨h15, H⟩ := H
          obtain ⟨h16, H⟩ := H
          refine z_iaload (pc := 49) C h15 h16 (dX12_firstNow 29 rfl) ?_
          refine z_icmp_ne (pc := 50) (tgt := 55) C (dX12_firstNow 30 rfl) (by decide) (fun c17 => ?_) (fun c17 => ?_)
          · replace H := H.2 c17
            refine z_sub [0, 1, 2, 3] rfl ?_
            exact sX12_firstNow_J55 C hr hm hu1 hu2 ih H
          · replace H := H.1 c17
            refine z_iload_n (pc := 53) C (dX12_firstNow 31 rfl) rfl 3 rfl ?_
            exact z_iret (pc := 54) C hr hu1 hu2 (dX12_firstNow 32 rfl) ⟨rfl, _, rfl, H⟩
def wX12_firstNow (t : zT) (m : zM) (a : Nat) (p1 : Int32) (Q : Int32 → zM → Prop) : Prop := (tK t a = 12 ∧ (wX12_knownNow t m a (fun r2 m3 => (∃ n19, wX12_firstNow_L7 t a p1 r2 Q (fun m18 => (Q (-2) m18)) n19 0 m3))))
set_option maxHeartbeats 4000000 in
set_option maxRecDepth 20000 in
theorem kX12_firstNow {l : Launch} {t : zT} {m : zM} {a : Nat} {p1 : Int32} {Q : Int32 → zM → Prop} (H : wX12_firstNow t m a p1 Q) : zMet l yX12_firstNow cX12_firstNow 4 (some .int) 2 0 0 t m [.ref a, .int p1] (zPi t Q) := by
  refine zmet (by decide +kernel) (Nat.le_of_ble_eq_true rfl) ?_
  intro p e s mt args below meth c g C hr hm
  unfold wX12_firstNow at H
  have hu1 : ((0, 0) : Nat × Nat).1 ≤ 0 := Nat.le_refl 0
  have hu2 : ((0, 0) : Nat × Nat).2 ≤ 0 := Nat.le_refl 0
  refine z_aload_n (pc := 0) C (dX12_firstNow 0 rfl) rfl 0 rfl ?_
  obtain ⟨h1, H⟩ := H
  refine zc_Vi (pc := 1) (rest := []) C YX12_knownNow wl_X12_428 (kX12_knownNow H) (by decide) h1 rfl (by decide) (dX12_firstNow 1 rfl) rfl hu1 hu2 (Nat.le_of_ble_eq_true rfl) rfl (fun r2 m3 H => ?_)
  refine z_istore_n (pc := 4) (i := 2) (lv2 := [(2, .int r2), (0, .ref a), (1, .int p1)]) C (dX12_firstNow 2 rfl) rfl (by decide) rfl ?_
  refine z_iconst (pc := 5) (v := 0) C (dX12_firstNow 3 rfl) (by decide) ?_
  refine z_istore_n (pc := 6) (i := 3) (lv2 := [(3, .int 0), (2, .int r2), (0, .ref a), (1, .int p1)]) C (dX12_firstNow 4 rfl) rfl (by decide) rfl ?_
  obtain ⟨n19, H⟩ := H
  refine z_sub [2, 3, 1, 0] rfl ?_
  refine sX12_firstNow_L7 C hr hm hu1 hu2 (fun m18 H => ?_) n19 0 m3 H
  refine z_bipush (pc := 61) (v := (-2)) C (dX12_firstNow 35 rfl) (by decide) ?_
  exact z_iret (pc := 63) C hr hu1 hu2 (dX12_firstNow 36 rfl) ⟨rfl, _, rfl, H⟩
def wX12_worst_J45 (t : zT) (m : zM) (s_0 : Int32) (s_1 : Nat) (Q : Int32 → zT → zM → Prop) : Prop := (tK t s_1 = 12 ∧ (wX12_good t m s_1 s_0 (fun r15 m16 => (Q r15 t m16))))
set_option maxHeartbeats 4000000 in
set_option maxRecDepth 20000 in
theorem sX12_worst_J45 {p : Program} {l : Launch} {e : Env} {s : State} {mt : MethodId} {args : Array Value} {below : List Frame} {meth : Method} {c : Code} {g : zG} {u : Nat × Nat} {mc ms : Nat} {t : zT} {m : zM} {s_0 : Int32} {s_1 : Nat} {Q : Int32 → zT → zM → Prop} (C : zC p (zRm 7 mc ms) s mt args meth c g cX12_worst 3 yX12_worst.cls 7) (hr : meth.sig.returnType = (some .int)) (hm : meth.name = yX12_worst.name) (hu1 : u.1 ≤ mc) (hu2 : u.2 ≤ ms) (H : wX12_worst_J45 t m s_0 s_1 Q) : zW p l e (zRm 7 mc ms) s mt args below meth c g (MQ below (zQc g (zAi Q)) args s mc ms (zFar g)) u 3 t m 45 [] [.int s_0, .ref s_1] := by
  unfold wX12_worst_J45 at H
  obtain ⟨h14, H⟩ := H
  refine zc_Vi (pc := 45) (rest := []) C YX12_good wl_X12_51 (kX12_good H) (by decide) h14 rfl (by decide) (dX12_worst 26 rfl) rfl hu1 hu2 (Nat.le_of_ble_eq_true rfl) rfl (fun r15 m16 H => ?_)
  exact z_iret (pc := 48) C hr hu1 hu2 (dX12_worst 27 rfl) ⟨_, rfl, H⟩
def wX12_worst (cap : Nat × Nat) (t : zT) (m : zM) (a : Nat) (Q : Int32 → zT → zM → Prop) : Prop := (tK t a = 12 ∧ (∃ k4 : Nat × Nat, (0 + k4.1 ≤ cap.1 ∧ 0 + k4.2 ≤ cap.2) ∧ wX12_refusesPlan k4 t (pI m a 0 0) a 0 (fun r2 t5 m3 => ((r2 ≤ 0 → (tK t5 a = 12 ∧ (wX12_knownNow t5 m3 a (fun r8 m9 => (tK t5 (gR m3 a 23) = 14 ∧ (vp_in r8 (tL t5 (gR m3 a 23)) ∧ (∀ x12 : Int32, x12 = (gI m9 (gR m3 a 23) r8.toNatClampNeg) → (((x12 < 268435456 → (wX12_worst_J45 t5 m9 x12 a Q)) ∧ (¬ x12 < 268435456 → (wX12_worst_J45 t5 m9 (-2) a Q))))))))))) ∧ (¬ r2 ≤ 0 → (tK t5 a = 12 ∧ (wX12_refused t5 m3 a r2 (fun r18 m19 => (Q r18 t5 m19)))))))))
set_option maxHeartbeats 4000000 in
set_option maxRecDepth 20000 in
theorem kX12_worst {l : Launch} {cap : Nat × Nat} {t : zT} {m : zM} {a : Nat} {Q : Int32 → zT → zM → Prop} (H : wX12_worst cap t m a Q) : zMet l yX12_worst cX12_worst 3 (some .int) 7 cap.1 cap.2 t m [.ref a] (zAi Q) := by
  refine zmet (by decide +kernel) (Nat.le_of_ble_eq_true rfl) ?_
  intro p e s mt args below meth c g C hr hm
  unfold wX12_worst at H
  obtain ⟨mc, ms⟩ := cap
  refine z_aload_n (pc := 0) C (dX12_worst 0 rfl) rfl 0 rfl ?_
  refine z_iconst (pc := 1) (v := 0) C (dX12_worst 1 rfl) (by decide) ?_
  obtain ⟨h1, H⟩ := H
  refine z_putI (pc := 2) C zc12 h1 0 (by decide) rfl rfl wf_X12_41 (dX12_worst 2 rfl) ?_
  refine z_aload_n (pc := 5) C (dX12_worst 3 rfl) rfl 0 rfl ?_
  refine z_iconst (pc := 6) (v := 0) C (dX12_worst 4 rfl) (by decide) ?_
  obtain ⟨k4, h20, H⟩ := H
  refine za_Vi (pc := 7) (rest := []) C YX12_refusesPlan wl_X12_431 (kX12_refusesPlan H) (by decide) h1 rfl (by decide) (dX12_worst 5 rfl) rfl (by first | exact h20.1 | (have := h20.1; omega)) (by first | exact h20.2 | (have := h20.2; omega)) (Nat.le_of_ble_eq_true rfl) rfl (fun r2 t5 m3 H => ?_)
  refine z_istore_n (pc := 10) (i := 1) (lv2 := [(1, .int r2), (0, .ref a)]) C (dX12_worst 6 rfl) rfl (by decide) rfl ?_
  refine z_iload_n (pc := 11) C (dX12_worst 7 rfl) rfl 0 rfl ?_
  refine z_if_le (pc := 12) (tgt := 21) C (dX12_worst 8 rfl) (by decide) (fun c6 => ?_) (fun c6 => ?_)
  · replace H := H.1 c6
    refine z_aload_n (pc := 21) C (dX12_worst 13 rfl) rfl 1 rfl ?_
    obtain ⟨h7, H⟩ := H
    refine z_getR (pc := 22) C zc12 h7 23 (by decide) rfl wf_X12_406 (dX12_worst 14 rfl) ?_
    refine z_aload_n (pc := 25) C (dX12_worst 15 rfl) rfl 1 rfl ?_
    refine zc_Vi (pc := 26) (rest := [.ref (gR m3 a 23)]) C YX12_knownNow wl_X12_428 (kX12_knownNow H) (by decide) h7 rfl (by decide) (dX12_worst 16 rfl) rfl (by first | omega | (show _ ≤ mc; omega)) (by first | omega | (show _ ≤ ms; omega)) (Nat.le_of_ble_eq_true rfl) rfl (fun r8 m9 H => ?_)
    obtain ⟨h10, H⟩ := H
    obtain ⟨h11, H⟩ := H
    refine z_iaload (pc := 29) C h10 h11 (dX12_worst 17 rfl) ?_
    refine z_int (fun x12 hx12 => ?_)
    replace H := H x12 hx12
    refine z_istore_n (pc := 30) (i := 2) (lv2 := [(2, .int x12), (1, .int r2), (0, .ref a)]) C (dX12_worst 18 rfl) rfl (by decide) rfl ?_
    refine z_aload_n (pc := 31) C (dX12_worst 19 rfl) rfl 2 rfl ?_
    refine z_iload_n (pc := 32) C (dX12_worst 20 rfl) rfl 0 rfl ?_
    refine z_ldcw (pc := 33) C wk_X12_413 (dX12_worst 21 rfl) ?_
    refine z_icmp_lt (pc := 36) (tgt := 44) C (dX12_worst 22 rfl) (by decide) (fun c13 => ?_) (fun c13 => ?_)
    · replace H := H.1 c13
      refine z_iload_n (pc := 44) C (dX12_worst 25 rfl) rfl 0 rfl ?_
      refine z_sub [] rfl ?_
      exact sX12_worst_J45 C hr hm (by first | omega | (show _ ≤ mc; omega)) (by first | omega | (show _ ≤ ms; omega)) H
    · replace H := H.2 c13
      refine z_bipush (pc := 39) (v := (-2)) C (dX12_worst 23 rfl) (by decide) ?_
      refine z_goto (pc := 41) (tgt := 45) C (dX12_worst 24 rfl) (by decide) ?_
      refine z_sub [] rfl ?_
      exact sX12_worst_J45 C hr hm (by first | omega | (show _ ≤ mc; omega)) (by first | omega | (show _ ≤ ms; omega)) H
  · replace H := H.2 c6
    refine z_aload_n (pc := 15) C (dX12_worst 9 rfl) rfl 1 rfl ?_
    refine z_iload_n (pc := 16) C (dX12_worst 10 rfl) rfl 0 rfl ?_
    obtain ⟨h17, H⟩ := H
    refine zc_Vi (pc := 17) (rest := []) C YX12_refused wl_X12_47 (kX12_refused H) (by decide) h17 rfl (by decide) (dX12_worst 11 rfl) rfl (by first | omega | (show _ ≤ mc; omega)) (by first | omega | (show _ ≤ ms; omega)) (Nat.le_of_ble_eq_true rfl) rfl (fun r18 m19 H => ?_)
    exact z_iret (pc := 20) C hr (by first | omega | (show _ ≤ mc; omega)) (by first | omega | (show _ ≤ ms; omega)) (dX12_worst 12 rfl) ⟨_, rfl, H⟩
def wX12_firstBy (cap : Nat × Nat) (t : zT) (m : zM) (a : Nat) (p1 : Int32) (Q : Int32 → zT → zM → Prop) : Prop := (tK t a = 12 ∧ (∃ k4 : Nat × Nat, (0 + k4.1 ≤ cap.1 ∧ 0 + k4.2 ≤ cap.2) ∧ wX12_refusesPlan k4 t m a p1 (fun r2 t5 m3 => ((r2 ≤ 0 → (tK t5 a = 12 ∧ (wX12_knownNow t5 m3 a (fun r8 m9 => (tK t5 (gR m3 a 23) = 14 ∧ (vp_in r8 (tL t5 (gR m3 a 23)) ∧ (((gI m9 (gR m3 a 23) r8.toNatClampNeg) < 268435456 → (wX12_firstNow t5 m9 a p1 (fun r13 m14 => (wX12_good t5 m14 a r13 (fun r15 m16 => (Q r15 t5 m16)))))) ∧ (¬ (gI m9 (gR m3 a 23) r8.toNatClampNeg) < 268435456 → (wX12_refused t5 m9 a 5 (fun r17 m18 => (Q r17 t5 m18))))))))))) ∧ (¬ r2 ≤ 0 → (tK t5 a = 12 ∧ (wX12_refused t5 m3 a r2 (fun r20 m21 => (Q r20 t5 m21)))))))))
set_option maxHeartbeats 4000000 in
set_option maxRecDepth 20000 in
theorem kX12_firstBy {l : Launch} {cap : Nat × Nat} {t : zT} {m : zM} {a : Nat} {p1 : Int32} {Q : Int32 → zT → zM → Prop} (H : wX12_firstBy cap t m a p1 Q) : zMet l yX12_firstBy cX12_firstBy 3 (some .int) 7 cap.1 cap.2 t m [.ref a, .int p1] (zAi Q) := by
  refine zmet (by decide +kernel) (Nat.le_of_ble_eq_true rfl) ?_
  intro p e s mt args below meth c g C hr hm
  unfold wX12_firstBy at H
  obtain ⟨mc, ms⟩ := cap
  refine z_aload_n (pc := 0) C (dX12_firstBy 0 rfl) rfl 0 rfl ?_
  refine z_iload_n (pc := 1) C (dX12_firstBy 1 rfl) rfl 1 rfl ?_
  obtain ⟨h1, H⟩ := H
  obtain ⟨k4, h22, H⟩ := H
  refine za_Vi (pc := 2) (rest := []) C YX12_refusesPlan wl_X12_431 (kX12_refusesPlan H) (by decide) h1 rfl (by decide) (dX12_firstBy 2 rfl) rfl (by first | exact h22.1 | (have := h22.1; omega)) (by first | exact h22.2 | (have := h22.2; omega)) (Nat.le_of_ble_eq_true rfl) rfl (fun r2 t5 m3 H => ?_)
  refine z_istore_n (pc := 5) (i := 2) (lv2 := [(2, .int r2), (0, .ref a), (1, .int p1)]) C (dX12_firstBy 3 rfl) rfl (by decide) rfl ?_
  refine z_iload_n (pc := 6) C (dX12_firstBy 4 rfl) rfl 0 rfl ?_
  refine z_if_le (pc := 7) (tgt := 16) C (dX12_firstBy 5 rfl) (by decide) (fun c6 => ?_) (fun c6 => ?_)
  · replace H := H.1 c6
    refine z_aload_n (pc := 16) C (dX12_firstBy 10 rfl) rfl 1 rfl ?_
    obtain ⟨h7, H⟩ := H
    refine z_getR (pc := 17) C zc12 h7 23 (by decide) rfl wf_X12_406 (dX12_firstBy 11 rfl) ?_
    refine z_aload_n (pc := 20) C (dX12_firstBy 12 rfl) rfl 1 rfl ?_
    refine zc_Vi (pc := 21) (rest := [.ref (gR m3 a 23)]) C YX12_knownNow wl_X12_428 (kX12_knownNow H) (by decide) h7 rfl (by decide) (dX12_firstBy 13 rfl) rfl (by first | omega | (show _ ≤ mc; omega)) (by first | omega | (show _ ≤ ms; omega)) (Nat.le_of_ble_eq_true rfl) rfl (fun r8 m9 H => ?_)
    obtain ⟨h10, H⟩ := H
    obtain ⟨h11, H⟩ := H
    refine z_iaload (pc := 24) C h10 h11 (dX12_firstBy 14 rfl) ?_
    refine z_ldcw (pc := 25) C wk_X12_413 (dX12_firstBy 15 rfl) ?_
    refine z_icmp_lt (pc := 28) (tgt := 39) C (dX12_firstBy 16 rfl) (by decide) (fun c12 => ?_) (fun c12 => ?_)
    · replace H := H.1 c12
      refine z_aload_n (pc := 39) C (dX12_firstBy 21 rfl) rfl 1 rfl ?_
      refine z_aload_n (pc := 40) C (dX12_firstBy 22 rfl) rfl 1 rfl ?_
      refine z_iload_n (pc := 41) C (dX12_firstBy 23 rfl) rfl 2 rfl ?_
      refine zc_Vi (pc := 42) (rest := [.ref a]) C YX12_firstNow wl_X12_435 (kX12_firstNow H) (by decide) h7 rfl (by decide) (dX12_firstBy 24 rfl) rfl (by first | omega | (show _ ≤ mc; omega)) (by first | omega | (show _ ≤ ms; omega)) (Nat.le_of_ble_eq_true rfl) rfl (fun r13 m14 H => ?_)
      refine zc_Vi (pc := 45) (rest := []) C YX12_good wl_X12_51 (kX12_good H) (by decide) h7 rfl (by decide) (dX12_firstBy 25 rfl) rfl (by first | omega | (show _ ≤ mc; omega)) (by first | omega | (show _ ≤ ms; omega)) (Nat.le_of_ble_eq_true rfl) rfl (fun r15 m16 H => ?_)
      exact z_iret (pc := 48) C hr (by first | omega | (show _ ≤ mc; omega)) (by first | omega | (show _ ≤ ms; omega)) (dX12_firstBy 26 rfl) ⟨_, rfl, H⟩
    · replace H := H.2 c12
      refine z_aload_n (pc := 31) C (dX12_firstBy 17 rfl) rfl 1 rfl ?_
      refine z_iconst (pc := 32) (v := 5) C (dX12_firstBy 18 rfl) (by decide) ?_
      refine zc_Vi (pc := 33) (rest := []) C YX12_refused wl_X12_47 (kX12_refused H) (by decide) h7 rfl (by decide) (dX12_firstBy 19 rfl) rfl (by first | omega | (show _ ≤ mc; omega)) (by first | omega | (show _ ≤ ms; omega)) (Nat.le_of_ble_eq_true rfl) rfl (fun r17 m18 H => ?_)
      refine z_goto (pc := 36) (tgt := 48) C (dX12_firstBy 20 rfl) (by decide) ?_
      exact z_iret (pc := 48) C hr (by first | omega | (show _ ≤ mc; omega)) (by first | omega | (show _ ≤ ms; omega)) (dX12_firstBy 26 rfl) ⟨_, rfl, H⟩
  · replace H := H.2 c6
    refine z_aload_n (pc := 10) C (dX12_firstBy 6 rfl) rfl 1 rfl ?_
    refine z_iload_n (pc := 11) C (dX12_firstBy 7 rfl) rfl 0 rfl ?_
    obtain ⟨h19, H⟩ := H
    refine zc_Vi (pc := 12) (rest := []) C YX12_refused wl_X12_47 (kX12_refused H) (by decide) h19 rfl (by decide) (dX12_firstBy 8 rfl) rfl (by first | omega | (show _ ≤ mc; omega)) (by first | omega | (show _ ≤ ms; omega)) (Nat.le_of_ble_eq_true rfl) rfl (fun r20 m21 H => ?_)
    exact z_iret (pc := 15) C hr (by first | omega | (show _ ≤ mc; omega)) (by first | omega | (show _ ≤ ms; omega)) (dX12_firstBy 9 rfl) ⟨_, rfl, H⟩
def wX12_first (cap : Nat × Nat) (t : zT) (m : zM) (a : Nat) (Q : Int32 → zT → zM → Prop) : Prop := (tK t a = 12 ∧ (∃ k4 : Nat × Nat, (0 + k4.1 ≤ cap.1 ∧ 0 + k4.2 ≤ cap.2) ∧ wX12_firstBy k4 t (pI m a 0 0) a 0 (fun r2 t5 m3 => (Q r2 t5 m3))))
set_option maxHeartbeats 4000000 in
set_option maxRecDepth 20000 in
theorem kX12_first {l : Launch} {cap : Nat × Nat} {t : zT} {m : zM} {a : Nat} {Q : Int32 → zT → zM → Prop} (H : wX12_first cap t m a Q) : zMet l yX12_first cX12_first 1 (some .int) 8 cap.1 cap.2 t m [.ref a] (zAi Q) := by
  refine zmet (by decide +kernel) (Nat.le_of_ble_eq_true rfl) ?_
  intro p e s mt args below meth c g C hr hm
  unfold wX12_first at H
  obtain ⟨mc, ms⟩ := cap
  refine z_aload_n (pc := 0) C (dX12_first 0 rfl) rfl 0 rfl ?_
  refine z_iconst (pc := 1) (v := 0) C (dX12_first 1 rfl) (by decide) ?_
  obtain ⟨h1, H⟩ := H
  refine z_putI (pc := 2) C zc12 h1 0 (by decide) rfl rfl wf_X12_41 (dX12_first 2 rfl) ?_
  refine z_aload_n (pc := 5) C (dX12_first 3 rfl) rfl 0 rfl ?_
  refine z_iconst (pc := 6) (v := 0) C (dX12_first 4 rfl) (by decide) ?_
  obtain ⟨k4, h6, H⟩ := H
  refine za_Vi (pc := 7) (rest := []) C YX12_firstBy wl_X12_438 (kX12_firstBy H) (by decide) h1 rfl (by decide) (dX12_first 5 rfl) rfl (by first | exact h6.1 | (have := h6.1; omega)) (by first | exact h6.2 | (have := h6.2; omega)) (Nat.le_of_ble_eq_true rfl) rfl (fun r2 t5 m3 H => ?_)
  exact z_iret (pc := 10) C hr (by first | omega | (show _ ≤ mc; omega)) (by first | omega | (show _ ≤ ms; omega)) (dX12_first 6 rfl) ⟨_, rfl, H⟩
def wX12_mean (cap : Nat × Nat) (t : zT) (m : zM) (a : Nat) (p1 : Int32) (Q : Int32 → zT → zM → Prop) : Prop := (tK t a = 12 ∧ (∃ k4 : Nat × Nat, (0 + k4.1 ≤ cap.1 ∧ 0 + k4.2 ≤ cap.2) ∧ wX12_refusesPlan k4 t (pI m a 0 0) a 1 (fun r2 t5 m3 => ((r2 ≤ 0 → (tK t5 a = 12 ∧ (wX12_knownNow t5 m3 a (fun r8 m9 => (tK t5 (gR m3 a 23) = 14 ∧ (vp_in r8 (tL t5 (gR m3 a 23)) ∧ (∀ x12 : Int32, x12 = (gI m9 (gR m3 a 23) r8.toNatClampNeg) → (((x12 < 268435456 → (wX12_lowest t5 m9 a x12.toInt64 ((gI m9 a 19).toInt64) p1 (fun r14 m15 => (Q r14 t5 m15)))) ∧ (¬ x12 < 268435456 → (wX12_refused t5 m9 a 5 (fun r16 m17 => (Q r16 t5 m17))))))))))))) ∧ (¬ r2 ≤ 0 → (tK t5 a = 12 ∧ (wX12_refused t5 m3 a r2 (fun r19 m20 => (Q r19 t5 m20)))))))))
set_option maxHeartbeats 4000000 in
set_option maxRecDepth 20000 in
theorem kX12_mean {l : Launch} {cap : Nat × Nat} {t : zT} {m : zM} {a : Nat} {p1 : Int32} {Q : Int32 → zT → zM → Prop} (H : wX12_mean cap t m a p1 Q) : zMet l yX12_mean cX12_mean 4 (some .int) 7 cap.1 cap.2 t m [.ref a, .int p1] (zAi Q) := by
  refine zmet (by decide +kernel) (Nat.le_of_ble_eq_true rfl) ?_
  intro p e s mt args below meth c g C hr hm
  unfold wX12_mean at H
  obtain ⟨mc, ms⟩ := cap
  refine z_aload_n (pc := 0) C (dX12_mean 0 rfl) rfl 0 rfl ?_
  refine z_iconst (pc := 1) (v := 0) C (dX12_mean 1 rfl) (by decide) ?_
  obtain ⟨h1, H⟩ := H
  refine z_putI (pc := 2) C zc12 h1 0 (by decide) rfl rfl wf_X12_41 (dX12_mean 2 rfl) ?_
  refine z_aload_n (pc := 5) C (dX12_mean 3 rfl) rfl 0 rfl ?_
  refine z_iconst (pc := 6) (v := 1) C (dX12_mean 4 rfl) (by decide) ?_
  obtain ⟨k4, h21, H⟩ := H
  refine za_Vi (pc := 7) (rest := []) C YX12_refusesPlan wl_X12_431 (kX12_refusesPlan H) (by decide) h1 rfl (by decide) (dX12_mean 5 rfl) rfl (by first | exact h21.1 | (have := h21.1; omega)) (by first | exact h21.2 | (have := h21.2; omega)) (Nat.le_of_ble_eq_true rfl) rfl (fun r2 t5 m3 H => ?_)
  refine z_istore_n (pc := 10) (i := 2) (lv2 := [(2, .int r2), (0, .ref a), (1, .int p1)]) C (dX12_mean 6 rfl) rfl (by decide) rfl ?_
  refine z_iload_n (pc := 11) C (dX12_mean 7 rfl) rfl 0 rfl ?_
  refine z_if_le (pc := 12) (tgt := 21) C (dX12_mean 8 rfl) (by decide) (fun c6 => ?_) (fun c6 => ?_)
  · replace H := H.1 c6
    refine z_aload_n (pc := 21) C (dX12_mean 13 rfl) rfl 1 rfl ?_
    obtain ⟨h7, H⟩ := H
    refine z_getR (pc := 22) C zc12 h7 23 (by decide) rfl wf_X12_406 (dX12_mean 14 rfl) ?_
    refine z_aload_n (pc := 25) C (dX12_mean 15 rfl) rfl 1 rfl ?_
    refine zc_Vi (pc := 26) (rest := [.ref (gR m3 a 23)]) C YX12_knownNow wl_X12_428 (kX12_knownNow H) (by decide) h7 rfl (by decide) (dX12_mean 16 rfl) rfl (by first | omega | (show _ ≤ mc; omega)) (by first | omega | (show _ ≤ ms; omega)) (Nat.le_of_ble_eq_true rfl) rfl (fun r8 m9 H => ?_)
    obtain ⟨h10, H⟩ := H
    obtain ⟨h11, H⟩ := H
    refine z_iaload (pc := 29) C h10 h11 (dX12_mean 17 rfl) ?_
    refine z_int (fun x12 hx12 => ?_)
    replace H := H x12 hx12
    refine z_istore_n (pc := 30) (i := 3) (lv2 := [(3, .int x12), (2, .int r2), (0, .ref a), (1, .int p1)]) C (dX12_mean 18 rfl) rfl (by decide) rfl ?_
    refine z_iload_n (pc := 31) C (dX12_mean 19 rfl) rfl 0 rfl ?_
    refine z_ldcw (pc := 32) C wk_X12_413 (dX12_mean 20 rfl) ?_
    refine z_icmp_lt (pc := 35) (tgt := 46) C (dX12_mean 21 rfl) (by decide) (fun c13 => ?_) (fun c13 => ?_)
    · replace H := H.1 c13
      refine z_aload_n (pc := 46) C (dX12_mean 26 rfl) rfl 2 rfl ?_
      refine z_iload_n (pc := 47) C (dX12_mean 27 rfl) rfl 0 rfl ?_
      refine z_i2l (pc := 48) C (dX12_mean 28 rfl) ?_
      refine z_aload_n (pc := 49) C (dX12_mean 29 rfl) rfl 2 rfl ?_
      refine z_getI (pc := 50) C zc12 h7 19 (by decide) rfl wf_X12_339 (dX12_mean 30 rfl) ?_
      refine z_i2l (pc := 53) C (dX12_mean 31 rfl) ?_
      refine z_iload_n (pc := 54) C (dX12_mean 32 rfl) rfl 3 rfl ?_
      refine zc_Vi (pc := 55) (rest := []) C YX12_lowest wl_X12_371 (kX12_lowest H) (by decide) h7 rfl (by decide) (dX12_mean 33 rfl) rfl (by first | omega | (show _ ≤ mc; omega)) (by first | omega | (show _ ≤ ms; omega)) (Nat.le_of_ble_eq_true rfl) rfl (fun r14 m15 H => ?_)
      exact z_iret (pc := 58) C hr (by first | omega | (show _ ≤ mc; omega)) (by first | omega | (show _ ≤ ms; omega)) (dX12_mean 34 rfl) ⟨_, rfl, H⟩
    · replace H := H.2 c13
      refine z_aload_n (pc := 38) C (dX12_mean 22 rfl) rfl 2 rfl ?_
      refine z_iconst (pc := 39) (v := 5) C (dX12_mean 23 rfl) (by decide) ?_
      refine zc_Vi (pc := 40) (rest := []) C YX12_refused wl_X12_47 (kX12_refused H) (by decide) h7 rfl (by decide) (dX12_mean 24 rfl) rfl (by first | omega | (show _ ≤ mc; omega)) (by first | omega | (show _ ≤ ms; omega)) (Nat.le_of_ble_eq_true rfl) rfl (fun r16 m17 H => ?_)
      refine z_goto (pc := 43) (tgt := 58) C (dX12_mean 25 rfl) (by decide) ?_
      exact z_iret (pc := 58) C hr (by first | omega | (show _ ≤ mc; omega)) (by first | omega | (show _ ≤ ms; omega)) (dX12_mean 34 rfl) ⟨_, rfl, H⟩
  · replace H := H.2 c6
    refine z_aload_n (pc := 15) C (dX12_mean 9 rfl) rfl 1 rfl ?_
    refine z_iload_n (pc := 16) C (dX12_mean 10 rfl) rfl 0 rfl ?_
    obtain ⟨h18, H⟩ := H
    refine zc_Vi (pc := 17) (rest := []) C YX12_refused wl_X12_47 (kX12_refused H) (by decide) h18 rfl (by decide) (dX12_mean 11 rfl) rfl (by first | omega | (show _ ≤ mc; omega)) (by first | omega | (show _ ≤ ms; omega)) (Nat.le_of_ble_eq_true rfl) rfl (fun r19 m20 H => ?_)
    exact z_iret (pc := 20) C hr (by first | omega | (show _ ≤ mc; omega)) (by first | omega | (show _ ≤ ms; omega)) (dX12_mean 12 rfl) ⟨_, rfl, H⟩
def wX12_meanFirst (cap : Nat × Nat) (t : zT) (m : zM) (a : Nat) (Q : Int32 → zT → zM → Prop) : Prop := (tK t a = 12 ∧ (∃ k4 : Nat × Nat, (0 + k4.1 ≤ cap.1 ∧ 0 + k4.2 ≤ cap.2) ∧ wX12_firstBy k4 t (pI m a 0 0) a 1 (fun r2 t5 m3 => (Q r2 t5 m3))))
set_option maxHeartbeats 4000000 in
set_option maxRecDepth 20000 in
theorem kX12_meanFirst {l : Launch} {cap : Nat × Nat} {t : zT} {m : zM} {a : Nat} {Q : Int32 → zT → zM → Prop} (H : wX12_meanFirst cap t m a Q) : zMet l yX12_meanFirst cX12_meanFirst 1 (some .int) 8 cap.1 cap.2 t m [.ref a] (zAi Q) := by
  refine zmet (by decide +kernel) (Nat.le_of_ble_eq_true rfl) ?_
  intro p e s mt args below meth c g C hr hm
  unfold wX12_meanFirst at H
  obtain ⟨mc, ms⟩ := cap
  refine z_aload_n (pc := 0) C (dX12_meanFirst 0 rfl) rfl 0 rfl ?_
  refine z_iconst (pc := 1) (v := 0) C (dX12_meanFirst 1 rfl) (by decide) ?_
  obtain ⟨h1, H⟩ := H
  refine z_putI (pc := 2) C zc12 h1 0 (by decide) rfl rfl wf_X12_41 (dX12_meanFirst 2 rfl) ?_
  refine z_aload_n (pc := 5) C (dX12_meanFirst 3 rfl) rfl 0 rfl ?_
  refine z_iconst (pc := 6) (v := 1) C (dX12_meanFirst 4 rfl) (by decide) ?_
  obtain ⟨k4, h6, H⟩ := H
  refine za_Vi (pc := 7) (rest := []) C YX12_firstBy wl_X12_438 (kX12_firstBy H) (by decide) h1 rfl (by decide) (dX12_meanFirst 5 rfl) rfl (by first | exact h6.1 | (have := h6.1; omega)) (by first | exact h6.2 | (have := h6.2; omega)) (Nat.le_of_ble_eq_true rfl) rfl (fun r2 t5 m3 H => ?_)
  exact z_iret (pc := 10) C hr (by first | omega | (show _ ≤ mc; omega)) (by first | omega | (show _ ≤ ms; omega)) (dX12_meanFirst 6 rfl) ⟨_, rfl, H⟩
def wX12_saysOf_J41 (t : zT) (m : zM) (a_0 : Nat) (x_1 : Int32) (x_2 : Int32) (x_3 : Int32) (Q : Int32 → zM → Prop) (r2 : Int32 → zM → Prop) : Prop := (r2 (x_3 + 1) m)
set_option maxHeartbeats 4000000 in
set_option maxRecDepth 20000 in
theorem sX12_saysOf_J41 {p : Program} {l : Launch} {e : Env} {s : State} {mt : MethodId} {args : Array Value} {below : List Frame} {meth : Method} {c : Code} {g : zG} {u : Nat × Nat} {mc ms : Nat} {t : zT} {m : zM} {a_0 : Nat} {x_1 : Int32} {x_2 : Int32} {x_3 : Int32} {Q : Int32 → zM → Prop} {r2 : Int32 → zM → Prop} (C : zC p (zRm 0 mc ms) s mt args meth c g cX12_saysOf 4 yX12_saysOf.cls 0) (hr : meth.sig.returnType = (some .boolean)) (hm : meth.name = yX12_saysOf.name) (hu1 : u.1 ≤ mc) (hu2 : u.2 ≤ ms)
    (R2 : ∀ (v0 : Int32) (m : zM), r2 v0 m → zW p l e (zRm 0 mc ms) s mt args below meth c g (MQ below (zQc g (zPi t Q)) args s mc ms (zFar g)) u 4 t m 2 [(0, .ref a_0), (1, .int x_1), (2, .int x_2), (3, .int v0)] []) (H : wX12_saysOf_J41 t m a_0 x_1 x_2 x_3 Q r2) : zW p l e (zRm 0 mc ms) s mt args below meth c g (MQ below (zQc g (zPi t Q)) args s mc ms (zFar g)) u 4 t m 41 [(0, .ref a_0), (1, .int x_1), (2, .int x_2), (3, .int x_3)] [] := by
  unfold wX12_saysOf_J41 at H
  refine z_iinc (pc := 41) (i := 3) (v := x_3 + 1) (lv2 := [(3, .int (x_3 + 1)), (0, .ref a_0), (1, .int x_1), (2, .int x_2)]) C (dX12_saysOf 23 rfl) 3 rfl (by rfl) (by decide) rfl ?_
  refine z_goto (pc := 44) (tgt := 2) C (dX12_saysOf 24 rfl) (by decide) ?_
  refine z_sub [1, 2, 3, 0] rfl ?_
  exact R2 (x_3 + 1) m H
def wX12_saysOf_L2 (t : zT) (a_0 : Nat) (x_1 : Int32) (x_2 : Int32) (Q : Int32 → zM → Prop) (k47 : zM → Prop) : Nat → Int32 → zM → Prop
  | 0, _, _ => False
  | n + 1, x_3, m => (tK t a_0 = 12 ∧ (tK t (gR m a_0 3) = 11 ∧ (((gI m (gR m a_0 3) 3) ≤ x_3 → (k47 m)) ∧ (¬ (gI m (gR m a_0 3) 3) ≤ x_3 → (tK t (gR m (gR m a_0 3) 18) = 14 ∧ (vp_in x_3 (tL t (gR m (gR m a_0 3) 18)) ∧ (((gI m (gR m (gR m a_0 3) 18) x_3.toNatClampNeg) = x_1 → (tK t (gR m (gR m a_0 3) 19) = 14 ∧ (vp_in x_3 (tL t (gR m (gR m a_0 3) 19)) ∧ (((gI m (gR m (gR m a_0 3) 19) x_3.toNatClampNeg) = x_2 → (Q 1 m)) ∧ (¬ (gI m (gR m (gR m a_0 3) 19) x_3.toNatClampNeg) = x_2 → (wX12_saysOf_J41 t m a_0 x_1 x_2 x_3 Q (wX12_saysOf_L2 t a_0 x_1 x_2 Q k47 n))))))) ∧ (¬ (gI m (gR m (gR m a_0 3) 18) x_3.toNatClampNeg) = x_1 → (wX12_saysOf_J41 t m a_0 x_1 x_2 x_3 Q (wX12_saysOf_L2 t a_0 x_1 x_2 Q k47 n))))))))))
set_option maxHeartbeats 4000000 in
set_option maxRecDepth 20000 in
theorem sX12_saysOf_L2 {p : Program} {l : Launch} {e : Env} {s : State} {mt : MethodId} {args : Array Value} {below : List Frame} {meth : Method} {c : Code} {g : zG} {u : Nat × Nat} {mc ms : Nat} {t : zT} {a_0 : Nat} {x_1 : Int32} {x_2 : Int32} {Q : Int32 → zM → Prop} {k47 : zM → Prop} (C : zC p (zRm 0 mc ms) s mt args meth c g cX12_saysOf 4 yX12_saysOf.cls 0) (hr : meth.sig.returnType = (some .boolean)) (hm : meth.name = yX12_saysOf.name) (hu1 : u.1 ≤ mc) (hu2 : u.2 ≤ ms)
    (K47 : ∀ (m : zM), k47 m → zW p l e (zRm 0 mc ms) s mt args below meth c g (MQ below (zQc g (zPi t Q)) args s mc ms (zFar g)) u 4 t m 47 [] []) : ∀ (n : Nat) (x_3 : Int32) (m : zM), wX12_saysOf_L2 t a_0 x_1 x_2 Q k47 n x_3 m → zW p l e (zRm 0 mc ms) s mt args below meth c g (MQ below (zQc g (zPi t Q)) args s mc ms (zFar g)) u 4 t m 2 [(0, .ref a_0), (1, .int x_1), (2, .int x_2), (3, .int x_3)] [] := by
  intro n
  induction n with
  | zero => intro x_3 m H; exact H.elim
  | succ n ih =>
    intro x_3 m H
    simp only [wX12_saysOf_L2] at H
    refine z_iload_n (pc := 2) C (dX12_saysOf 2 rfl) rfl 3 rfl ?_
    refine z_aload_n (pc := 3) C (dX12_saysOf 3 rfl) rfl 0 rfl ?_
    obtain ⟨h1, H⟩ := H
    refine z_getR (pc := 4) C zc12 h1 3 (by decide) rfl wf_X12_314 (dX12_saysOf 4 rfl) ?_
    obtain ⟨h2, H⟩ := H
    refine z_getIN (pc := 7) C zc11 h2 3 (by decide) rfl wn_X12_277 (dX12_saysOf 5 rfl) ?_
    refine z_icmp_ge (pc := 10) (tgt := 47) C (dX12_saysOf 6 rfl) (by decide) (fun c3 => ?_) (fun c3 => ?_)
    · replace H := H.1 c3
      refine z_sub [] rfl ?_
      exact K47 m H
    · replace H := H.2 c3
      refine z_aload_n (pc := 13) C (dX12_saysOf 7 rfl) rfl 0 rfl ?_
      refine z_getR (pc := 14) C zc12 h1 3 (by decide) rfl wf_X12_314 (dX12_saysOf 8 rfl) ?_
      refine z_getRN (pc := 17) C zc11 h2 18 (by decide) rfl wn_X12_280 (dX12_saysOf 9 rfl) ?_
      refine z_iload_n (pc := 20) C (dX12_saysOf 10 rfl) rfl 3 rfl ?_
      obtain ⟨h4, H⟩ := H
      obtain ⟨h5, H⟩ := H
      refine z_iaload (pc := 21) C h4 h5 (dX12_saysOf 11 rfl) ?_
      refine z_iload_n (pc := 22) C (dX12_saysOf 12 rfl) rfl 1 rfl ?_
      refine z_icmp_ne (pc := 23) (tgt := 41) C (dX12_saysOf 13 rfl) (by decide) (fun c6 => ?_) (fun c6 => ?_)
      · replace H := H.2 c6
        refine z_sub [0, 1, 2, 3] rfl ?_
        exact sX12_saysOf_J41 C hr hm hu1 hu2 ih H
      · replace H := H.1 c6
        refine z_aload_n (pc := 26) C (dX12_saysOf 14 rfl) rfl 0 rfl ?_
        refine z_getR (pc := 27) C zc12 h1 3 (by decide) rfl wf_X12_314 (dX12_saysOf 15 rfl) ?_
        refine z_getRN (pc := 30) C zc11 h2 19 (by decide) rfl wn_X12_283 (dX12_saysOf 16 rfl) ?_
        refine z_iload_n (pc := 33) C (dX12_saysOf 17 rfl) rfl 3 rfl ?_
        obtain ⟨h7, H⟩ := H
        obtain ⟨h8, H⟩ := H
        refine z_iaload (pc := 34) C h7 h8 (dX12_saysOf 18 rfl) ?_
        refine z_iload_n (pc := 35) C (dX12_saysOf 19 rfl) rfl 2 rfl ?_
        refine z_icmp_ne (pc := 36) (tgt := 41) C (dX12_saysOf 20 rfl) (by decide) (fun c9 => ?_) (fun c9 => ?_)
        · replace H := H.2 c9
          refine z_sub [0, 1, 2, 3] rfl ?_
          exact sX12_saysOf_J41 C hr hm hu1 hu2 ih H
        · replace H := H.1 c9
          refine z_iconst (pc := 39) (v := 1) C (dX12_saysOf 21 rfl) (by decide) ?_
          exact z_zret (pc := 40) C hr (by decide) hu1 hu2 (dX12_saysOf 22 rfl) ⟨rfl, _, rfl, H⟩
def wX12_saysOf (t : zT) (m : zM) (a : Nat) (p1 : Int32) (p2 : Int32) (Q : Int32 → zM → Prop) : Prop := (∃ n11, wX12_saysOf_L2 t a p1 p2 Q (fun m10 => (Q 0 m10)) n11 0 m)
set_option maxHeartbeats 4000000 in
set_option maxRecDepth 20000 in
theorem kX12_saysOf {l : Launch} {t : zT} {m : zM} {a : Nat} {p1 : Int32} {p2 : Int32} {Q : Int32 → zM → Prop} (H : wX12_saysOf t m a p1 p2 Q) : zMet l yX12_saysOf cX12_saysOf 4 (some .boolean) 0 0 0 t m [.ref a, .int p1, .int p2] (zPi t Q) := by
  refine zmet (by decide +kernel) (Nat.le_of_ble_eq_true rfl) ?_
  intro p e s mt args below meth c g C hr hm
  unfold wX12_saysOf at H
  have hu1 : ((0, 0) : Nat × Nat).1 ≤ 0 := Nat.le_refl 0
  have hu2 : ((0, 0) : Nat × Nat).2 ≤ 0 := Nat.le_refl 0
  refine z_iconst (pc := 0) (v := 0) C (dX12_saysOf 0 rfl) (by decide) ?_
  refine z_istore_n (pc := 1) (i := 3) (lv2 := [(3, .int 0), (0, .ref a), (1, .int p1), (2, .int p2)]) C (dX12_saysOf 1 rfl) rfl (by decide) rfl ?_
  obtain ⟨n11, H⟩ := H
  refine z_sub [1, 2, 3, 0] rfl ?_
  refine sX12_saysOf_L2 C hr hm hu1 hu2 (fun m10 H => ?_) n11 0 m H
  refine z_iconst (pc := 47) (v := 0) C (dX12_saysOf 25 rfl) (by decide) ?_
  exact z_zret (pc := 48) C hr (by decide) hu1 hu2 (dX12_saysOf 26 rfl) ⟨rfl, _, rfl, H⟩
def wX12_leaves_J96 (t : zT) (m : zM) (a_0 : Nat) (x_2 : Int32) (x_4 : Int32) (x_5 : Int32) (s_0 : Int32) (Q : Int32 → zM → Prop) (r36 : Int32 → Int32 → zM → Prop) : Prop := (r36 s_0 (x_5 + 1) m)
set_option maxHeartbeats 4000000 in
set_option maxRecDepth 20000 in
theorem sX12_leaves_J96 {p : Program} {l : Launch} {e : Env} {s : State} {mt : MethodId} {args : Array Value} {below : List Frame} {meth : Method} {c : Code} {g : zG} {u : Nat × Nat} {mc ms : Nat} {t : zT} {m : zM} {a_0 : Nat} {x_2 : Int32} {x_4 : Int32} {x_5 : Int32} {s_0 : Int32} {Q : Int32 → zM → Prop} {r36 : Int32 → Int32 → zM → Prop} (C : zC p (zRm 5 mc ms) s mt args meth c g cX12_leaves 6 yX12_leaves.cls 5) (hr : meth.sig.returnType = (some .int)) (hm : meth.name = yX12_leaves.name) (hu1 : u.1 ≤ mc) (hu2 : u.2 ≤ ms)
    (R36 : ∀ (v0 : Int32) (v1 : Int32) (m : zM), r36 v0 v1 m → zW p l e (zRm 5 mc ms) s mt args below meth c g (MQ below (zQc g (zPi t Q)) args s mc ms (zFar g)) u 6 t m 36 [(0, .ref a_0), (2, .int x_2), (3, .int v0), (4, .int x_4), (5, .int v1)] []) (H : wX12_leaves_J96 t m a_0 x_2 x_4 x_5 s_0 Q r36) : zW p l e (zRm 5 mc ms) s mt args below meth c g (MQ below (zQc g (zPi t Q)) args s mc ms (zFar g)) u 6 t m 96 [(0, .ref a_0), (2, .int x_2), (4, .int x_4), (5, .int x_5)] [.int s_0] := by
  unfold wX12_leaves_J96 at H
  refine z_istore_n (pc := 96) (i := 3) (lv2 := [(3, .int s_0), (0, .ref a_0), (2, .int x_2), (4, .int x_4), (5, .int x_5)]) C (dX12_leaves 52 rfl) rfl (by decide) rfl ?_
  refine z_iinc (pc := 97) (i := 5) (v := x_5 + 1) (lv2 := [(5, .int (x_5 + 1)), (3, .int s_0), (0, .ref a_0), (2, .int x_2), (4, .int x_4)]) C (dX12_leaves 53 rfl) 4 rfl (by rfl) (by decide) rfl ?_
  refine z_goto (pc := 100) (tgt := 36) C (dX12_leaves 54 rfl) (by decide) ?_
  refine z_sub [2, 3, 1, 4, 0] rfl ?_
  exact R36 s_0 (x_5 + 1) m H
def wX12_leaves_L36 (t : zT) (a_0 : Nat) (x_2 : Int32) (x_4 : Int32) (Q : Int32 → zM → Prop) (k103 : Int32 → zM → Prop) : Nat → Int32 → Int32 → zM → Prop
  | 0, _, _, _ => False
  | n + 1, x_3, x_5, m => (tK t a_0 = 12 ∧ (tK t (gR m a_0 3) = 11 ∧ (tK t (gR m (gR m a_0 3) 10) = 14 ∧ (vp_in x_2 (tL t (gR m (gR m a_0 3) 10)) ∧ (((gI m (gR m (gR m a_0 3) 10) x_2.toNatClampNeg) ≤ x_5 → (k103 x_3 m)) ∧ (¬ (gI m (gR m (gR m a_0 3) 10) x_2.toNatClampNeg) ≤ x_5 → (tK t (gR m (gR m a_0 3) 20) = 14 ∧ (vp_in x_4 (tL t (gR m (gR m a_0 3) 20)) ∧ (wX12_asks t (pI m (gR m (gR m a_0 3) 20) x_4.toNatClampNeg x_5) a_0 (((2 : Int32) <<< (x_4 &&& 31)) - (1 : Int32)) (gI (pI m (gR m (gR m a_0 3) 20) x_4.toNatClampNeg x_5) (gR m a_0 3) 6) 1 (fun m16 => (((gI m16 a_0 19) ≤ x_3 → (wX12_leaves_J96 t m16 a_0 x_2 x_4 x_5 x_3 Q (wX12_leaves_L36 t a_0 x_2 x_4 Q k103 n))) ∧ (¬ (gI m16 a_0 19) ≤ x_3 → (wX12_leaves_J96 t m16 a_0 x_2 x_4 x_5 (gI m16 a_0 19) Q (wX12_leaves_L36 t a_0 x_2 x_4 Q k103 n))))))))))))))
set_option maxHeartbeats 4000000 in
set_option maxRecDepth 20000 in
theorem sX12_leaves_L36 {p : Program} {l : Launch} {e : Env} {s : State} {mt : MethodId} {args : Array Value} {below : List Frame} {meth : Method} {c : Code} {g : zG} {u : Nat × Nat} {mc ms : Nat} {t : zT} {a_0 : Nat} {x_2 : Int32} {x_4 : Int32} {Q : Int32 → zM → Prop} {k103 : Int32 → zM → Prop} (C : zC p (zRm 5 mc ms) s mt args meth c g cX12_leaves 6 yX12_leaves.cls 5) (hr : meth.sig.returnType = (some .int)) (hm : meth.name = yX12_leaves.name) (hu1 : u.1 ≤ mc) (hu2 : u.2 ≤ ms)
    (K103 : ∀ (v0 : Int32) (m : zM), k103 v0 m → zW p l e (zRm 5 mc ms) s mt args below meth c g (MQ below (zQc g (zPi t Q)) args s mc ms (zFar g)) u 6 t m 103 [(3, .int v0)] []) : ∀ (n : Nat) (x_3 : Int32) (x_5 : Int32) (m : zM), wX12_leaves_L36 t a_0 x_2 x_4 Q k103 n x_3 x_5 m → zW p l e (zRm 5 mc ms) s mt args below meth c g (MQ below (zQc g (zPi t Q)) args s mc ms (zFar g)) u 6 t m 36 [(0, .ref a_0), (2, .int x_2), (3, .int x_3), (4, .int x_4), (5, .int x_5)] [] := by
  intro n
  induction n with
  | zero => intro x_3 x_5 m H; exact H.elim
  | succ n ih =>
    intro x_3 x_5 m H
    simp only [wX12_leaves_L36] at H
    refine z_iload (pc := 36) C (dX12_leaves 20 rfl) 4 rfl ?_
    refine z_aload_n (pc := 38) C (dX12_leaves 21 rfl) rfl 0 rfl ?_
    obtain ⟨h8, H⟩ := H
    refine z_getR (pc := 39) C zc12 h8 3 (by decide) rfl wf_X12_314 (dX12_leaves 22 rfl) ?_
    obtain ⟨h9, H⟩ := H
    refine z_getRN (pc := 42) C zc11 h9 10 (by decide) rfl wn_X12_171 (dX12_leaves 23 rfl) ?_
    refine z_iload_n (pc := 45) C (dX12_leaves 24 rfl) rfl 1 rfl ?_
    obtain ⟨h10, H⟩ := H
    obtain ⟨h11, H⟩ := H
    refine z_iaload (pc := 46) C h10 h11 (dX12_leaves 25 rfl) ?_
    refine z_icmp_ge (pc := 47) (tgt := 103) C (dX12_leaves 26 rfl) (by decide) (fun c12 => ?_) (fun c12 => ?_)
    · replace H := H.1 c12
      refine z_sub [2] rfl ?_
      exact K103 x_3 m H
    · replace H := H.2 c12
      refine z_aload_n (pc := 50) C (dX12_leaves 27 rfl) rfl 0 rfl ?_
      refine z_getR (pc := 51) C zc12 h8 3 (by decide) rfl wf_X12_314 (dX12_leaves 28 rfl) ?_
      refine z_getRN (pc := 54) C zc11 h9 20 (by decide) rfl wn_X12_286 (dX12_leaves 29 rfl) ?_
      refine z_iload (pc := 57) C (dX12_leaves 30 rfl) 3 rfl ?_
      refine z_iload (pc := 59) C (dX12_leaves 31 rfl) 4 rfl ?_
      obtain ⟨h13, H⟩ := H
      obtain ⟨h14, H⟩ := H
      refine z_iastore (pc := 61) C h13 h14 (dX12_leaves 32 rfl) ?_
      refine z_aload_n (pc := 62) C (dX12_leaves 33 rfl) rfl 0 rfl ?_
      refine z_iconst (pc := 63) (v := 2) C (dX12_leaves 34 rfl) (by decide) ?_
      refine z_iload (pc := 64) C (dX12_leaves 35 rfl) 3 rfl ?_
      refine z_ishl (pc := 66) C (dX12_leaves 36 rfl) ?_
      refine z_iconst (pc := 67) (v := 1) C (dX12_leaves 37 rfl) (by decide) ?_
      refine z_isub (pc := 68) C (dX12_leaves 38 rfl) ?_
      refine z_aload_n (pc := 69) C (dX12_leaves 39 rfl) rfl 0 rfl ?_
      refine z_getR (pc := 70) C zc12 h8 3 (by decide) rfl wf_X12_314 (dX12_leaves 40 rfl) ?_
      refine z_getIN (pc := 73) C zc11 h9 6 (by decide) rfl wn_X12_269 (dX12_leaves 41 rfl) ?_
      refine z_iconst (pc := 76) (v := 1) C (dX12_leaves 42 rfl) (by decide) ?_
      refine zc_Vv (pc := 77) (rest := []) C YX12_asks wl_X12_351 (kX12_asks H) (by decide) h8 rfl (by decide) (dX12_leaves 43 rfl) rfl hu1 hu2 (Nat.le_of_ble_eq_true rfl) rfl (fun m16 H => ?_)
      refine z_aload_n (pc := 80) C (dX12_leaves 44 rfl) rfl 0 rfl ?_
      refine z_getI (pc := 81) C zc12 h8 19 (by decide) rfl wf_X12_339 (dX12_leaves 45 rfl) ?_
      refine z_iload_n (pc := 84) C (dX12_leaves 46 rfl) rfl 2 rfl ?_
      refine z_icmp_le (pc := 85) (tgt := 95) C (dX12_leaves 47 rfl) (by decide) (fun c17 => ?_) (fun c17 => ?_)
      · replace H := H.1 c17
        refine z_iload_n (pc := 95) C (dX12_leaves 51 rfl) rfl 2 rfl ?_
        refine z_sub [0, 1, 3, 4] rfl ?_
        exact sX12_leaves_J96 C hr hm hu1 hu2 ih H
      · replace H := H.2 c17
        refine z_aload_n (pc := 88) C (dX12_leaves 48 rfl) rfl 0 rfl ?_
        refine z_getI (pc := 89) C zc12 h8 19 (by decide) rfl wf_X12_339 (dX12_leaves 49 rfl) ?_
        refine z_goto (pc := 92) (tgt := 96) C (dX12_leaves 50 rfl) (by decide) ?_
        refine z_sub [0, 1, 3, 4] rfl ?_
        exact sX12_leaves_J96 C hr hm hu1 hu2 ih H
def wX12_leaves (t : zT) (m : zM) (a : Nat) (p1 : Int32) (p2 : Int32) (Q : Int32 → zM → Prop) : Prop := (tK t a = 12 ∧ (tK t (gR m a 3) = 11 ∧ (∀ x3 : Int32, x3 = (gI m (gR m a 3) 3) → ((tK t (gR m (gR m a 3) 18) = 14 ∧ (vp_in x3 (tL t (gR m (gR m a 3) 18)) ∧ (tK t (gR m (gR m a 3) 19) = 14 ∧ (vp_in x3 (tL t (gR m (gR m a 3) 19)) ∧ (∃ n20, wX12_leaves_L36 t a p2 x3 Q (fun v18 m19 => (Q v18 m19)) n20 0 0 (pI (pI m (gR m (gR m a 3) 18) x3.toNatClampNeg p1) (gR m (gR m a 3) 19) x3.toNatClampNeg p2))))))))))
set_option maxHeartbeats 4000000 in
set_option maxRecDepth 20000 in
theorem kX12_leaves {l : Launch} {t : zT} {m : zM} {a : Nat} {p1 : Int32} {p2 : Int32} {Q : Int32 → zM → Prop} (H : wX12_leaves t m a p1 p2 Q) : zMet l yX12_leaves cX12_leaves 6 (some .int) 5 0 0 t m [.ref a, .int p1, .int p2] (zPi t Q) := by
  refine zmet (by decide +kernel) (Nat.le_of_ble_eq_true rfl) ?_
  intro p e s mt args below meth c g C hr hm
  unfold wX12_leaves at H
  have hu1 : ((0, 0) : Nat × Nat).1 ≤ 0 := Nat.le_refl 0
  have hu2 : ((0, 0) : Nat × Nat).2 ≤ 0 := Nat.le_refl 0
  refine z_iconst (pc := 0) (v := 0) C (dX12_leaves 0 rfl) (by decide) ?_
  refine z_istore_n (pc := 1) (i := 3) (lv2 := [(3, .int 0), (0, .ref a), (1, .int p1), (2, .int p2)]) C (dX12_leaves 1 rfl) rfl (by decide) rfl ?_
  refine z_aload_n (pc := 2) C (dX12_leaves 2 rfl) rfl 1 rfl ?_
  obtain ⟨h1, H⟩ := H
  refine z_getR (pc := 3) C zc12 h1 3 (by decide) rfl wf_X12_314 (dX12_leaves 3 rfl) ?_
  obtain ⟨h2, H⟩ := H
  refine z_getIN (pc := 6) C zc11 h2 3 (by decide) rfl wn_X12_277 (dX12_leaves 4 rfl) ?_
  refine z_int (fun x3 hx3 => ?_)
  replace H := H x3 hx3
  refine z_istore (pc := 9) (i := 4) (lv2 := [(4, .int x3), (3, .int 0), (0, .ref a), (1, .int p1), (2, .int p2)]) C (dX12_leaves 5 rfl) (by decide) rfl ?_
  refine z_aload_n (pc := 11) C (dX12_leaves 6 rfl) rfl 2 rfl ?_
  refine z_getR (pc := 12) C zc12 h1 3 (by decide) rfl wf_X12_314 (dX12_leaves 7 rfl) ?_
  refine z_getRN (pc := 15) C zc11 h2 18 (by decide) rfl wn_X12_280 (dX12_leaves 8 rfl) ?_
  refine z_iload (pc := 18) C (dX12_leaves 9 rfl) 0 rfl ?_
  refine z_iload_n (pc := 20) C (dX12_leaves 10 rfl) rfl 3 rfl ?_
  obtain ⟨h4, H⟩ := H
  obtain ⟨h5, H⟩ := H
  refine z_iastore (pc := 21) C h4 h5 (dX12_leaves 11 rfl) ?_
  refine z_aload_n (pc := 22) C (dX12_leaves 12 rfl) rfl 2 rfl ?_
  refine z_getR (pc := 23) C zc12 h1 3 (by decide) rfl wf_X12_314 (dX12_leaves 13 rfl) ?_
  refine z_getRN (pc := 26) C zc11 h2 19 (by decide) rfl wn_X12_283 (dX12_leaves 14 rfl) ?_
  refine z_iload (pc := 29) C (dX12_leaves 15 rfl) 0 rfl ?_
  refine z_iload_n (pc := 31) C (dX12_leaves 16 rfl) rfl 4 rfl ?_
  obtain ⟨h6, H⟩ := H
  obtain ⟨h7, H⟩ := H
  refine z_iastore (pc := 32) C h6 h7 (dX12_leaves 17 rfl) ?_
  refine z_iconst (pc := 33) (v := 0) C (dX12_leaves 18 rfl) (by decide) ?_
  refine z_istore (pc := 34) (i := 5) (lv2 := [(5, .int 0), (4, .int x3), (3, .int 0), (0, .ref a), (1, .int p1), (2, .int p2)]) C (dX12_leaves 19 rfl) (by decide) rfl ?_
  obtain ⟨n20, H⟩ := H
  refine z_sub [3, 5, 2, 1, 0] rfl ?_
  refine sX12_leaves_L36 C hr hm hu1 hu2 (fun v18 m19 H => ?_) n20 0 0 (pI (pI m (gR m (gR m a 3) 18) x3.toNatClampNeg p1) (gR m (gR m a 3) 19) x3.toNatClampNeg p2) H
  refine z_iload_n (pc := 103) C (dX12_leaves 55 rfl) rfl 0 rfl ?_
  exact z_iret (pc := 104) C hr hu1 hu2 (dX12_leaves 56 rfl) ⟨rfl, _, rfl, H⟩
def wX12_canListen (t : zT) (m : zM) (a : Nat) (p1 : Int32) (p2 : Int32) (Q : Int32 → zM → Prop) : Prop := (tK t a = 12 ∧ (tK t (gR m a 3) = 11 ∧ (tK t (gR m (gR m a 3) 12) = 14 ∧ (vp_in p1 (tL t (gR m (gR m a 3) 12)) ∧ (((gI m (gR m (gR m a 3) 12) p1.toNatClampNeg) = 2 → (Q 0 m)) ∧ (¬ (gI m (gR m (gR m a 3) 12) p1.toNatClampNeg) = 2 → (wX12_saysOf t m a p1 p2 (fun r6 m7 => ((r6 = 0 → (Q 1 m7)) ∧ (¬ r6 = 0 → (Q 0 m7)))))))))))
set_option maxHeartbeats 4000000 in
set_option maxRecDepth 20000 in
theorem kX12_canListen {l : Launch} {t : zT} {m : zM} {a : Nat} {p1 : Int32} {p2 : Int32} {Q : Int32 → zM → Prop} (H : wX12_canListen t m a p1 p2 Q) : zMet l yX12_canListen cX12_canListen 3 (some .boolean) 1 0 0 t m [.ref a, .int p1, .int p2] (zPi t Q) := by
  refine zmet (by decide +kernel) (Nat.le_of_ble_eq_true rfl) ?_
  intro p e s mt args below meth c g C hr hm
  unfold wX12_canListen at H
  have hu1 : ((0, 0) : Nat × Nat).1 ≤ 0 := Nat.le_refl 0
  have hu2 : ((0, 0) : Nat × Nat).2 ≤ 0 := Nat.le_refl 0
  refine z_aload_n (pc := 0) C (dX12_canListen 0 rfl) rfl 0 rfl ?_
  obtain ⟨h1, H⟩ := H
  refine z_getR (pc := 1) C zc12 h1 3 (by decide) rfl wf_X12_314 (dX12_canListen 1 rfl) ?_
  obtain ⟨h2, H⟩ := H
  refine z_getRN (pc := 4) C zc11 h2 12 (by decide) rfl wn_X12_260 (dX12_canListen 2 rfl) ?_
  refine z_iload_n (pc := 7) C (dX12_canListen 3 rfl) rfl 1 rfl ?_
  obtain ⟨h3, H⟩ := H
  obtain ⟨h4, H⟩ := H
  refine z_iaload (pc := 8) C h3 h4 (dX12_canListen 4 rfl) ?_
  refine z_iconst (pc := 9) (v := 2) C (dX12_canListen 5 rfl) (by decide) ?_
  refine z_icmp_eq (pc := 10) (tgt := 26) C (dX12_canListen 6 rfl) (by decide) (fun c5 => ?_) (fun c5 => ?_)
  · replace H := H.1 c5
    refine z_iconst (pc := 26) (v := 0) C (dX12_canListen 14 rfl) (by decide) ?_
    exact z_zret (pc := 27) C hr (by decide) hu1 hu2 (dX12_canListen 15 rfl) ⟨rfl, _, rfl, H⟩
  · replace H := H.2 c5
    refine z_aload_n (pc := 13) C (dX12_canListen 7 rfl) rfl 0 rfl ?_
    refine z_iload_n (pc := 14) C (dX12_canListen 8 rfl) rfl 1 rfl ?_
    refine z_iload_n (pc := 15) C (dX12_canListen 9 rfl) rfl 2 rfl ?_
    refine zc_Vi (pc := 16) (rest := []) C YX12_saysOf wl_X12_441 (kX12_saysOf H) (by decide) h1 rfl (by decide) (dX12_canListen 10 rfl) rfl hu1 hu2 (Nat.le_of_ble_eq_true rfl) rfl (fun r6 m7 H => ?_)
    refine z_if_ne (pc := 19) (tgt := 26) C (dX12_canListen 11 rfl) (by decide) (fun c8 => ?_) (fun c8 => ?_)
    · replace H := H.2 c8
      refine z_iconst (pc := 26) (v := 0) C (dX12_canListen 14 rfl) (by decide) ?_
      exact z_zret (pc := 27) C hr (by decide) hu1 hu2 (dX12_canListen 15 rfl) ⟨rfl, _, rfl, H⟩
    · replace H := H.1 c8
      refine z_iconst (pc := 22) (v := 1) C (dX12_canListen 12 rfl) (by decide) ?_
      refine z_goto (pc := 23) (tgt := 27) C (dX12_canListen 13 rfl) (by decide) ?_
      exact z_zret (pc := 27) C hr (by decide) hu1 hu2 (dX12_canListen 15 rfl) ⟨rfl, _, rfl, H⟩
def wX12_left_J21 (t : zT) (m : zM) (a_0 : Nat) (Q : Int32 → zM → Prop) : Prop := (tK t a_0 = 12 ∧ (wX12_refused t m a_0 1 (fun r6 m7 => (Q r6 m7))))
set_option maxHeartbeats 4000000 in
set_option maxRecDepth 20000 in
theorem sX12_left_J21 {p : Program} {l : Launch} {e : Env} {s : State} {mt : MethodId} {args : Array Value} {below : List Frame} {meth : Method} {c : Code} {g : zG} {u : Nat × Nat} {mc ms : Nat} {t : zT} {m : zM} {a_0 : Nat} {Q : Int32 → zM → Prop} (C : zC p (zRm 6 mc ms) s mt args meth c g cX12_left 3 yX12_left.cls 6) (hr : meth.sig.returnType = (some .int)) (hm : meth.name = yX12_left.name) (hu1 : u.1 ≤ mc) (hu2 : u.2 ≤ ms) (H : wX12_left_J21 t m a_0 Q) : zW p l e (zRm 6 mc ms) s mt args below meth c g (MQ below (zQc g (zPi t Q)) args s mc ms (zFar g)) u 3 t m 21 [(0, .ref a_0)] [] := by
  unfold wX12_left_J21 at H
  refine z_aload_n (pc := 21) C (dX12_left 11 rfl) rfl 0 rfl ?_
  refine z_iconst (pc := 22) (v := 1) C (dX12_left 12 rfl) (by decide) ?_
  obtain ⟨h5, H⟩ := H
  refine zc_Vi (pc := 23) (rest := []) C YX12_refused wl_X12_47 (kX12_refused H) (by decide) h5 rfl (by decide) (dX12_left 13 rfl) rfl hu1 hu2 (Nat.le_of_ble_eq_true rfl) rfl (fun r6 m7 H => ?_)
  exact z_iret (pc := 26) C hr hu1 hu2 (dX12_left 14 rfl) ⟨rfl, _, rfl, H⟩
def wX12_left (t : zT) (m : zM) (a : Nat) (p1 : Int32) (p2 : Int32) (Q : Int32 → zM → Prop) : Prop := (tK t a = 12 ∧ (wX12_isMaster t (pI m a 0 0) a p1 (fun r2 m3 => ((r2 = 0 → (wX12_left_J21 t m3 a Q)) ∧ (¬ r2 = 0 → (wX12_isThing t m3 a p2 (fun r8 m9 => ((r8 = 0 → (wX12_left_J21 t m9 a Q)) ∧ (¬ r8 = 0 → (wX12_canListen t m9 a p1 p2 (fun r11 m12 => ((r11 = 0 → (wX12_refused t m12 a 5 (fun r14 m15 => (Q r14 m15)))) ∧ (¬ r11 = 0 → (wX12_leaves t m12 a p1 p2 (fun r16 m17 => (wX12_good t m17 a r16 (fun r18 m19 => (Q r18 m19))))))))))))))))))
set_option maxHeartbeats 4000000 in
set_option maxRecDepth 20000 in
theorem kX12_left {l : Launch} {t : zT} {m : zM} {a : Nat} {p1 : Int32} {p2 : Int32} {Q : Int32 → zM → Prop} (H : wX12_left t m a p1 p2 Q) : zMet l yX12_left cX12_left 3 (some .int) 6 0 0 t m [.ref a, .int p1, .int p2] (zPi t Q) := by
  refine zmet (by decide +kernel) (Nat.le_of_ble_eq_true rfl) ?_
  intro p e s mt args below meth c g C hr hm
  unfold wX12_left at H
  have hu1 : ((0, 0) : Nat × Nat).1 ≤ 0 := Nat.le_refl 0
  have hu2 : ((0, 0) : Nat × Nat).2 ≤ 0 := Nat.le_refl 0
  refine z_aload_n (pc := 0) C (dX12_left 0 rfl) rfl 0 rfl ?_
  refine z_iconst (pc := 1) (v := 0) C (dX12_left 1 rfl) (by decide) ?_
  obtain ⟨h1, H⟩ := H
  refine z_putI (pc := 2) C zc12 h1 0 (by decide) rfl rfl wf_X12_41 (dX12_left 2 rfl) ?_
  refine z_aload_n (pc := 5) C (dX12_left 3 rfl) rfl 0 rfl ?_
  refine z_iload_n (pc := 6) C (dX12_left 4 rfl) rfl 1 rfl ?_
  refine zc_Vi (pc := 7) (rest := []) C YX12_isMaster wl_X12_381 (kX12_isMaster H) (by decide) h1 rfl (by decide) (dX12_left 5 rfl) rfl hu1 hu2 (Nat.le_of_ble_eq_true rfl) rfl (fun r2 m3 H => ?_)
  refine z_if_eq (pc := 10) (tgt := 21) C (dX12_left 6 rfl) (by decide) (fun c4 => ?_) (fun c4 => ?_)
  · replace H := H.1 c4
    refine z_sub [0] rfl ?_
    exact sX12_left_J21 C hr hm hu1 hu2 H
  · replace H := H.2 c4
    refine z_aload_n (pc := 13) C (dX12_left 7 rfl) rfl 0 rfl ?_
    refine z_iload_n (pc := 14) C (dX12_left 8 rfl) rfl 2 rfl ?_
    refine zc_Vi (pc := 15) (rest := []) C YX12_isThing wl_X12_364 (kX12_isThing H) (by decide) h1 rfl (by decide) (dX12_left 9 rfl) rfl hu1 hu2 (Nat.le_of_ble_eq_true rfl) rfl (fun r8 m9 H => ?_)
    refine z_if_ne (pc := 18) (tgt := 27) C (dX12_left 10 rfl) (by decide) (fun c10 => ?_) (fun c10 => ?_)
    · replace H := H.2 c10
      refine z_aload_n (pc := 27) C (dX12_left 15 rfl) rfl 0 rfl ?_
      refine z_iload_n (pc := 28) C (dX12_left 16 rfl) rfl 1 rfl ?_
      refine z_iload_n (pc := 29) C (dX12_left 17 rfl) rfl 2 rfl ?_
      refine zc_Vi (pc := 30) (rest := []) C YX12_canListen wl_X12_444 (kX12_canListen H) (by decide) h1 rfl (by decide) (dX12_left 18 rfl) rfl hu1 hu2 (Nat.le_of_ble_eq_true rfl) rfl (fun r11 m12 H => ?_)
      refine z_if_eq (pc := 33) (tgt := 49) C (dX12_left 19 rfl) (by decide) (fun c13 => ?_) (fun c13 => ?_)
      · replace H := H.1 c13
        refine z_aload_n (pc := 49) C (dX12_left 27 rfl) rfl 0 rfl ?_
        refine z_iconst (pc := 50) (v := 5) C (dX12_left 28 rfl) (by decide) ?_
        refine zc_Vi (pc := 51) (rest := []) C YX12_refused wl_X12_47 (kX12_refused H) (by decide) h1 rfl (by decide) (dX12_left 29 rfl) rfl hu1 hu2 (Nat.le_of_ble_eq_true rfl) rfl (fun r14 m15 H => ?_)
        exact z_iret (pc := 54) C hr hu1 hu2 (dX12_left 30 rfl) ⟨rfl, _, rfl, H⟩
      · replace H := H.2 c13
        refine z_aload_n (pc := 36) C (dX12_left 20 rfl) rfl 0 rfl ?_
        refine z_aload_n (pc := 37) C (dX12_left 21 rfl) rfl 0 rfl ?_
        refine z_iload_n (pc := 38) C (dX12_left 22 rfl) rfl 1 rfl ?_
        refine z_iload_n (pc := 39) C (dX12_left 23 rfl) rfl 2 rfl ?_
        refine zc_Vi (pc := 40) (rest := [.ref a]) C YX12_leaves wl_X12_447 (kX12_leaves H) (by decide) h1 rfl (by decide) (dX12_left 24 rfl) rfl hu1 hu2 (Nat.le_of_ble_eq_true rfl) rfl (fun r16 m17 H => ?_)
        refine zc_Vi (pc := 43) (rest := []) C YX12_good wl_X12_51 (kX12_good H) (by decide) h1 rfl (by decide) (dX12_left 25 rfl) rfl hu1 hu2 (Nat.le_of_ble_eq_true rfl) rfl (fun r18 m19 H => ?_)
        refine z_goto (pc := 46) (tgt := 54) C (dX12_left 26 rfl) (by decide) ?_
        exact z_iret (pc := 54) C hr hu1 hu2 (dX12_left 30 rfl) ⟨rfl, _, rfl, H⟩
    · replace H := H.1 c10
      refine z_sub [0] rfl ?_
      exact sX12_left_J21 C hr hm hu1 hu2 H
def wX12_listen_J97 (t : zT) (m : zM) (a_0 : Nat) (x_1 : Int32) (x_2 : Int32) (x_3 : Int32) (x_4 : Int32) (Q : Int32 → zM → Prop) (r38 : Int32 → Int32 → Int32 → zM → Prop) : Prop := (r38 x_1 x_2 (x_4 + 1) m)
set_option maxHeartbeats 4000000 in
set_option maxRecDepth 20000 in
theorem sX12_listen_J97 {p : Program} {l : Launch} {e : Env} {s : State} {mt : MethodId} {args : Array Value} {below : List Frame} {meth : Method} {c : Code} {g : zG} {u : Nat × Nat} {mc ms : Nat} {t : zT} {m : zM} {a_0 : Nat} {x_1 : Int32} {x_2 : Int32} {x_3 : Int32} {x_4 : Int32} {Q : Int32 → zM → Prop} {r38 : Int32 → Int32 → Int32 → zM → Prop} (C : zC p (zRm 6 mc ms) s mt args meth c g cX12_listen 6 yX12_listen.cls 6) (hr : meth.sig.returnType = (some .int)) (hm : meth.name = yX12_listen.name) (hu1 : u.1 ≤ mc) (hu2 : u.2 ≤ ms)
    (R38 : ∀ (v0 : Int32) (v1 : Int32) (v2 : Int32) (m : zM), r38 v0 v1 v2 m → zW p l e (zRm 6 mc ms) s mt args below meth c g (MQ below (zQc g (zPi t Q)) args s mc ms (zFar g)) u 6 t m 38 [(0, .ref a_0), (1, .int v0), (2, .int v1), (3, .int x_3), (4, .int v2)] []) (H : wX12_listen_J97 t m a_0 x_1 x_2 x_3 x_4 Q r38) : zW p l e (zRm 6 mc ms) s mt args below meth c g (MQ below (zQc g (zPi t Q)) args s mc ms (zFar g)) u 6 t m 97 [(0, .ref a_0), (1, .int x_1), (2, .int x_2), (3, .int x_3), (4, .int x_4)] [] := by
  unfold wX12_listen_J97 at H
  refine z_iinc (pc := 97) (i := 4) (v := x_4 + 1) (lv2 := [(4, .int (x_4 + 1)), (0, .ref a_0), (1, .int x_1), (2, .int x_2), (3, .int x_3)]) C (dX12_listen 54 rfl) 4 rfl (by rfl) (by decide) rfl ?_
  refine z_goto (pc := 100) (tgt := 38) C (dX12_listen 55 rfl) (by decide) ?_
  refine z_sub [1, 2, 3, 4, 0] rfl ?_
  exact R38 x_1 x_2 (x_4 + 1) m H
def wX12_listen_J86 (t : zT) (m : zM) (a_0 : Nat) (x_3 : Int32) (x_4 : Int32) (x_5 : Int32) (Q : Int32 → zM → Prop) (r38 : Int32 → Int32 → Int32 → zM → Prop) : Prop := (∀ x17 : Int32, x17 = (((8 : Int32) * x_3) + x_4) → ((wX12_listen_J97 t m a_0 x17 x_5 x_3 x_4 Q r38)))
set_option maxHeartbeats 4000000 in
set_option maxRecDepth 20000 in
theorem sX12_listen_J86 {p : Program} {l : Launch} {e : Env} {s : State} {mt : MethodId} {args : Array Value} {below : List Frame} {meth : Method} {c : Code} {g : zG} {u : Nat × Nat} {mc ms : Nat} {t : zT} {m : zM} {a_0 : Nat} {x_3 : Int32} {x_4 : Int32} {x_5 : Int32} {Q : Int32 → zM → Prop} {r38 : Int32 → Int32 → Int32 → zM → Prop} (C : zC p (zRm 6 mc ms) s mt args meth c g cX12_listen 6 yX12_listen.cls 6) (hr : meth.sig.returnType = (some .int)) (hm : meth.name = yX12_listen.name) (hu1 : u.1 ≤ mc) (hu2 : u.2 ≤ ms)
    (R38 : ∀ (v0 : Int32) (v1 : Int32) (v2 : Int32) (m : zM), r38 v0 v1 v2 m → zW p l e (zRm 6 mc ms) s mt args below meth c g (MQ below (zQc g (zPi t Q)) args s mc ms (zFar g)) u 6 t m 38 [(0, .ref a_0), (1, .int v0), (2, .int v1), (3, .int x_3), (4, .int v2)] []) (H : wX12_listen_J86 t m a_0 x_3 x_4 x_5 Q r38) : zW p l e (zRm 6 mc ms) s mt args below meth c g (MQ below (zQc g (zPi t Q)) args s mc ms (zFar g)) u 6 t m 86 [(0, .ref a_0), (3, .int x_3), (4, .int x_4), (5, .int x_5)] [] := by
  unfold wX12_listen_J86 at H
  refine z_bipush (pc := 86) (v := 8) C (dX12_listen 46 rfl) (by decide) ?_
  refine z_iload_n (pc := 88) C (dX12_listen 47 rfl) rfl 1 rfl ?_
  refine z_imul (pc := 89) C (dX12_listen 48 rfl) ?_
  refine z_iload (pc := 90) C (dX12_listen 49 rfl) 2 rfl ?_
  refine z_iadd (pc := 92) C (dX12_listen 50 rfl) ?_
  refine z_int (fun x17 hx17 => ?_)
  replace H := H x17 hx17
  refine z_istore_n (pc := 93) (i := 1) (lv2 := [(1, .int x17), (0, .ref a_0), (3, .int x_3), (4, .int x_4), (5, .int x_5)]) C (dX12_listen 51 rfl) rfl (by decide) rfl ?_
  refine z_iload (pc := 94) C (dX12_listen 52 rfl) 4 rfl ?_
  refine z_istore_n (pc := 96) (i := 2) (lv2 := [(2, .int x_5), (1, .int x17), (0, .ref a_0), (3, .int x_3), (4, .int x_4), (5, .int x_5)]) C (dX12_listen 53 rfl) rfl (by decide) rfl ?_
  refine z_sub [2, 1, 0, 3, 4] rfl ?_
  exact sX12_listen_J97 C hr hm hu1 hu2 R38 H
def wX12_listen_L38 (t : zT) (a_0 : Nat) (x_3 : Int32) (Q : Int32 → zM → Prop) (k103 : Int32 → Int32 → zM → Prop) : Nat → Int32 → Int32 → Int32 → zM → Prop
  | 0, _, _, _, _ => False
  | n + 1, x_1, x_2, x_4, m => (tK t a_0 = 12 ∧ (tK t (gR m a_0 3) = 11 ∧ (((gI m (gR m a_0 3) 0) ≤ x_4 → (k103 x_1 x_2 m)) ∧ (¬ (gI m (gR m a_0 3) 0) ≤ x_4 → (wX12_canListen t m a_0 x_3 x_4 (fun r11 m12 => ((r11 = 0 → (wX12_listen_J97 t m12 a_0 x_1 x_2 x_3 x_4 Q (wX12_listen_L38 t a_0 x_3 Q k103 n))) ∧ (¬ r11 = 0 → (wX12_leaves t m12 a_0 x_3 x_4 (fun r14 m15 => ((x_1 = (-1) → (wX12_listen_J86 t m15 a_0 x_3 x_4 r14 Q (wX12_listen_L38 t a_0 x_3 Q k103 n))) ∧ (¬ x_1 = (-1) → ((r14 < x_2 → (wX12_listen_J86 t m15 a_0 x_3 x_4 r14 Q (wX12_listen_L38 t a_0 x_3 Q k103 n))) ∧ (¬ r14 < x_2 → (wX12_listen_J97 t m15 a_0 x_1 x_2 x_3 x_4 Q (wX12_listen_L38 t a_0 x_3 Q k103 n))))))))))))))))
set_option maxHeartbeats 4000000 in
set_option maxRecDepth 20000 in
theorem sX12_listen_L38 {p : Program} {l : Launch} {e : Env} {s : State} {mt : MethodId} {args : Array Value} {below : List Frame} {meth : Method} {c : Code} {g : zG} {u : Nat × Nat} {mc ms : Nat} {t : zT} {a_0 : Nat} {x_3 : Int32} {Q : Int32 → zM → Prop} {k103 : Int32 → Int32 → zM → Prop} (C : zC p (zRm 6 mc ms) s mt args meth c g cX12_listen 6 yX12_listen.cls 6) (hr : meth.sig.returnType = (some .int)) (hm : meth.name = yX12_listen.name) (hu1 : u.1 ≤ mc) (hu2 : u.2 ≤ ms)
    (K103 : ∀ (v0 : Int32) (v1 : Int32) (m : zM), k103 v0 v1 m → zW p l e (zRm 6 mc ms) s mt args below meth c g (MQ below (zQc g (zPi t Q)) args s mc ms (zFar g)) u 6 t m 103 [(0, .ref a_0), (1, .int v0), (2, .int v1), (3, .int x_3)] []) : ∀ (n : Nat) (x_1 : Int32) (x_2 : Int32) (x_4 : Int32) (m : zM), wX12_listen_L38 t a_0 x_3 Q k103 n x_1 x_2 x_4 m → zW p l e (zRm 6 mc ms) s mt args below meth c g (MQ below (zQc g (zPi t Q)) args s mc ms (zFar g)) u 6 t m 38 [(0, .ref a_0), (1, .int x_1), (2, .int x_2), (3, .int x_3), (4, .int x_4)] [] := by
  intro n
  induction n with
  | zero => intro x_1 x_2 x_4 m H; exact H.elim
  | succ n ih =>
    intro x_1 x_2 x_4 m H
    simp only [wX12_listen_L38] at H
    refine z_iload (pc := 38) C (dX12_listen 23 rfl) 4 rfl ?_
    refine z_aload_n (pc := 40) C (dX12_listen 24 rfl) rfl 0 rfl ?_
    obtain ⟨h8, H⟩ := H
    refine z_getR (pc := 41) C zc12 h8 3 (by decide) rfl wf_X12_314 (dX12_listen 25 rfl) ?_
    obtain ⟨h9, H⟩ := H
    refine z_getIN (pc := 44) C zc11 h9 0 (by decide) rfl wn_X12_180 (dX12_listen 26 rfl) ?_
    refine z_icmp_ge (pc := 47) (tgt := 103) C (dX12_listen 27 rfl) (by decide) (fun c10 => ?_) (fun c10 => ?_)
    · replace H := H.1 c10
      refine z_sub [0, 1, 2, 3] rfl ?_
      exact K103 x_1 x_2 m H
    · replace H := H.2 c10
      refine z_aload_n (pc := 50) C (dX12_listen 28 rfl) rfl 0 rfl ?_
      refine z_iload_n (pc := 51) C (dX12_listen 29 rfl) rfl 3 rfl ?_
      refine z_iload (pc := 52) C (dX12_listen 30 rfl) 4 rfl ?_
      refine zc_Vi (pc := 54) (rest := []) C YX12_canListen wl_X12_444 (kX12_canListen H) (by decide) h8 rfl (by decide) (dX12_listen 31 rfl) rfl hu1 hu2 (Nat.le_of_ble_eq_true rfl) rfl (fun r11 m12 H => ?_)
      refine z_if_ne (pc := 57) (tgt := 63) C (dX12_listen 32 rfl) (by decide) (fun c13 => ?_) (fun c13 => ?_)
      · replace H := H.2 c13
        refine z_aload_n (pc := 63) C (dX12_listen 34 rfl) rfl 0 rfl ?_
        refine z_iload_n (pc := 64) C (dX12_listen 35 rfl) rfl 3 rfl ?_
        refine z_iload (pc := 65) C (dX12_listen 36 rfl) 4 rfl ?_
        refine zc_Vi (pc := 67) (rest := []) C YX12_leaves wl_X12_447 (kX12_leaves H) (by decide) h8 rfl (by decide) (dX12_listen 37 rfl) rfl hu1 hu2 (Nat.le_of_ble_eq_true rfl) rfl (fun r14 m15 H => ?_)
        refine z_istore (pc := 70) (i := 5) (lv2 := [(5, .int r14), (0, .ref a_0), (1, .int x_1), (2, .int x_2), (3, .int x_3), (4, .int x_4)]) C (dX12_listen 38 rfl) (by decide) rfl ?_
        refine z_iload_n (pc := 72) C (dX12_listen 39 rfl) rfl 2 rfl ?_
        refine z_iconst (pc := 73) (v := (-1)) C (dX12_listen 40 rfl) (by decide) ?_
        refine z_icmp_eq (pc := 74) (tgt := 86) C (dX12_listen 41 rfl) (by decide) (fun c16 => ?_) (fun c16 => ?_)
        · replace H := H.1 c16
          refine z_sub [1, 4, 5, 0] rfl ?_
          exact sX12_listen_J86 C hr hm hu1 hu2 ih H
        · replace H := H.2 c16
          refine z_iload (pc := 77) C (dX12_listen 42 rfl) 0 rfl ?_
          refine z_iload_n (pc := 79) C (dX12_listen 43 rfl) rfl 3 rfl ?_
          refine z_icmp_lt (pc := 80) (tgt := 86) C (dX12_listen 44 rfl) (by decide) (fun c18 => ?_) (fun c18 => ?_)
          · replace H := H.1 c18
            refine z_sub [1, 4, 5, 0] rfl ?_
            exact sX12_listen_J86 C hr hm hu1 hu2 ih H
          · replace H := H.2 c18
            refine z_goto (pc := 83) (tgt := 97) C (dX12_listen 45 rfl) (by decide) ?_
            refine z_sub [1, 2, 3, 4, 5] rfl ?_
            exact sX12_listen_J97 C hr hm hu1 hu2 ih H
      · replace H := H.1 c13
        refine z_goto (pc := 60) (tgt := 97) C (dX12_listen 33 rfl) (by decide) ?_
        refine z_sub [0, 1, 2, 3, 4] rfl ?_
        exact sX12_listen_J97 C hr hm hu1 hu2 ih H
def wX12_listen_L24 (t : zT) (a_0 : Nat) (Q : Int32 → zM → Prop) (k109 : Int32 → zM → Prop) : Nat → Int32 → Int32 → Int32 → zM → Prop
  | 0, _, _, _, _ => False
  | n + 1, x_1, x_2, x_3, m => (tK t a_0 = 12 ∧ (tK t (gR m a_0 3) = 11 ∧ (((gI m (gR m a_0 3) 2) ≤ x_3 → (k109 x_1 m)) ∧ (¬ (gI m (gR m a_0 3) 2) ≤ x_3 → (∃ n22, wX12_listen_L38 t a_0 x_3 Q (fun v19 v20 m21 => (wX12_listen_L24 t a_0 Q k109 n v19 v20 (x_3 + 1) m21)) n22 x_1 x_2 0 m)))))
set_option maxHeartbeats 4000000 in
set_option maxRecDepth 20000 in
theorem sX12_listen_L24 {p : Program} {l : Launch} {e : Env} {s : State} {mt : MethodId} {args : Array Value} {below : List Frame} {meth : Method} {c : Code} {g : zG} {u : Nat × Nat} {mc ms : Nat} {t : zT} {a_0 : Nat} {Q : Int32 → zM → Prop} {k109 : Int32 → zM → Prop} (C : zC p (zRm 6 mc ms) s mt args meth c g cX12_listen 6 yX12_listen.cls 6) (hr : meth.sig.returnType = (some .int)) (hm : meth.name = yX12_listen.name) (hu1 : u.1 ≤ mc) (hu2 : u.2 ≤ ms)
    (K109 : ∀ (v0 : Int32) (m : zM), k109 v0 m → zW p l e (zRm 6 mc ms) s mt args below meth c g (MQ below (zQc g (zPi t Q)) args s mc ms (zFar g)) u 6 t m 109 [(0, .ref a_0), (1, .int v0)] []) : ∀ (n : Nat) (x_1 : Int32) (x_2 : Int32) (x_3 : Int32) (m : zM), wX12_listen_L24 t a_0 Q k109 n x_1 x_2 x_3 m → zW p l e (zRm 6 mc ms) s mt args below meth c g (MQ below (zQc g (zPi t Q)) args s mc ms (zFar g)) u 6 t m 24 [(0, .ref a_0), (1, .int x_1), (2, .int x_2), (3, .int x_3)] [] := by
  intro n
  induction n with
  | zero => intro x_1 x_2 x_3 m H; exact H.elim
  | succ n ih =>
    intro x_1 x_2 x_3 m H
    simp only [wX12_listen_L24] at H
    refine z_iload_n (pc := 24) C (dX12_listen 16 rfl) rfl 3 rfl ?_
    refine z_aload_n (pc := 25) C (dX12_listen 17 rfl) rfl 0 rfl ?_
    obtain ⟨h5, H⟩ := H
    refine z_getR (pc := 26) C zc12 h5 3 (by decide) rfl wf_X12_314 (dX12_listen 18 rfl) ?_
    obtain ⟨h6, H⟩ := H
    refine z_getIN (pc := 29) C zc11 h6 2 (by decide) rfl wn_X12_246 (dX12_listen 19 rfl) ?_
    refine z_icmp_ge (pc := 32) (tgt := 109) C (dX12_listen 20 rfl) (by decide) (fun c7 => ?_) (fun c7 => ?_)
    · replace H := H.1 c7
      refine z_sub [0, 1] rfl ?_
      exact K109 x_1 m H
    · replace H := H.2 c7
      refine z_iconst (pc := 35) (v := 0) C (dX12_listen 21 rfl) (by decide) ?_
      refine z_istore (pc := 36) (i := 4) (lv2 := [(4, .int 0), (0, .ref a_0), (1, .int x_1), (2, .int x_2), (3, .int x_3)]) C (dX12_listen 22 rfl) (by decide) rfl ?_
      obtain ⟨n22, H⟩ := H
      refine z_sub [1, 2, 3, 4, 0] rfl ?_
      refine sX12_listen_L38 C hr hm hu1 hu2 (fun v19 v20 m21 H => ?_) n22 x_1 x_2 0 m H
      refine z_iinc (pc := 103) (i := 3) (v := x_3 + 1) (lv2 := [(3, .int (x_3 + 1)), (0, .ref a_0), (1, .int v19), (2, .int v20)]) C (dX12_listen 56 rfl) 3 rfl (by rfl) (by decide) rfl ?_
      refine z_goto (pc := 106) (tgt := 24) C (dX12_listen 57 rfl) (by decide) ?_
      refine z_sub [1, 2, 3, 0] rfl ?_
      exact ih v19 v20 (x_3 + 1) m21 H
def wX12_listen (t : zT) (m : zM) (a : Nat) (Q : Int32 → zM → Prop) : Prop := (tK t a = 12 ∧ (((gR m a 3) = 0 → (wX12_refused t (pI m a 0 0) a 1 (fun r3 m4 => (Q r3 m4)))) ∧ (¬ (gR m a 3) = 0 → (∃ n30, wX12_listen_L24 t a Q (fun v23 m24 => ((v23 = (-1) → (wX12_refused t m24 a 6 (fun r28 m29 => (Q r28 m29)))) ∧ (¬ v23 = (-1) → (wX12_good t m24 a v23 (fun r26 m27 => (Q r26 m27)))))) n30 (-1) 0 0 (pI m a 0 0)))))
set_option maxHeartbeats 4000000 in
set_option maxRecDepth 20000 in
theorem kX12_listen {l : Launch} {t : zT} {m : zM} {a : Nat} {Q : Int32 → zM → Prop} (H : wX12_listen t m a Q) : zMet l yX12_listen cX12_listen 6 (some .int) 6 0 0 t m [.ref a] (zPi t Q) := by
  refine zmet (by decide +kernel) (Nat.le_of_ble_eq_true rfl) ?_
  intro p e s mt args below meth c g C hr hm
  unfold wX12_listen at H
  have hu1 : ((0, 0) : Nat × Nat).1 ≤ 0 := Nat.le_refl 0
  have hu2 : ((0, 0) : Nat × Nat).2 ≤ 0 := Nat.le_refl 0
  refine z_aload_n (pc := 0) C (dX12_listen 0 rfl) rfl 0 rfl ?_
  refine z_iconst (pc := 1) (v := 0) C (dX12_listen 1 rfl) (by decide) ?_
  obtain ⟨h1, H⟩ := H
  refine z_putI (pc := 2) C zc12 h1 0 (by decide) rfl rfl wf_X12_41 (dX12_listen 2 rfl) ?_
  refine z_aload_n (pc := 5) C (dX12_listen 3 rfl) rfl 0 rfl ?_
  refine z_getR (pc := 6) C zc12 h1 3 (by decide) rfl wf_X12_314 (dX12_listen 4 rfl) ?_
  refine z_ifnonnull (pc := 9) (tgt := 18) C (dX12_listen 5 rfl) (by decide) (fun c2 => ?_) (fun c2 => ?_)
  · replace H := H.1 c2
    refine z_aload_n (pc := 12) C (dX12_listen 6 rfl) rfl 0 rfl ?_
    refine z_iconst (pc := 13) (v := 1) C (dX12_listen 7 rfl) (by decide) ?_
    refine zc_Vi (pc := 14) (rest := []) C YX12_refused wl_X12_47 (kX12_refused H) (by decide) h1 rfl (by decide) (dX12_listen 8 rfl) rfl hu1 hu2 (Nat.le_of_ble_eq_true rfl) rfl (fun r3 m4 H => ?_)
    exact z_iret (pc := 17) C hr hu1 hu2 (dX12_listen 9 rfl) ⟨rfl, _, rfl, H⟩
  · replace H := H.2 c2
    refine z_iconst (pc := 18) (v := (-1)) C (dX12_listen 10 rfl) (by decide) ?_
    refine z_istore_n (pc := 19) (i := 1) (lv2 := [(1, .int (-1)), (0, .ref a)]) C (dX12_listen 11 rfl) rfl (by decide) rfl ?_
    refine z_iconst (pc := 20) (v := 0) C (dX12_listen 12 rfl) (by decide) ?_
    refine z_istore_n (pc := 21) (i := 2) (lv2 := [(2, .int 0), (1, .int (-1)), (0, .ref a)]) C (dX12_listen 13 rfl) rfl (by decide) rfl ?_
    refine z_iconst (pc := 22) (v := 0) C (dX12_listen 14 rfl) (by decide) ?_
    refine z_istore_n (pc := 23) (i := 3) (lv2 := [(3, .int 0), (2, .int 0), (1, .int (-1)), (0, .ref a)]) C (dX12_listen 15 rfl) rfl (by decide) rfl ?_
    obtain ⟨n30, H⟩ := H
    refine z_sub [3, 2, 1, 0] rfl ?_
    refine sX12_listen_L24 C hr hm hu1 hu2 (fun v23 m24 H => ?_) n30 (-1) 0 0 (pI m a 0 0) H
    refine z_iload_n (pc := 109) C (dX12_listen 58 rfl) rfl 1 rfl ?_
    refine z_iconst (pc := 110) (v := (-1)) C (dX12_listen 59 rfl) (by decide) ?_
    refine z_icmp_ne (pc := 111) (tgt := 123) C (dX12_listen 60 rfl) (by decide) (fun c25 => ?_) (fun c25 => ?_)
    · replace H := H.2 c25
      refine z_aload_n (pc := 123) C (dX12_listen 65 rfl) rfl 0 rfl ?_
      refine z_iload_n (pc := 124) C (dX12_listen 66 rfl) rfl 1 rfl ?_
      refine zc_Vi (pc := 125) (rest := []) C YX12_good wl_X12_51 (kX12_good H) (by decide) h1 rfl (by decide) (dX12_listen 67 rfl) rfl hu1 hu2 (Nat.le_of_ble_eq_true rfl) rfl (fun r26 m27 H => ?_)
      exact z_iret (pc := 128) C hr hu1 hu2 (dX12_listen 68 rfl) ⟨rfl, _, rfl, H⟩
    · replace H := H.1 c25
      refine z_aload_n (pc := 114) C (dX12_listen 61 rfl) rfl 0 rfl ?_
      refine z_bipush (pc := 115) (v := 6) C (dX12_listen 62 rfl) (by decide) ?_
      refine zc_Vi (pc := 117) (rest := []) C YX12_refused wl_X12_47 (kX12_refused H) (by decide) h1 rfl (by decide) (dX12_listen 63 rfl) rfl hu1 hu2 (Nat.le_of_ble_eq_true rfl) rfl (fun r28 m29 H => ?_)
      refine z_goto (pc := 120) (tgt := 128) C (dX12_listen 64 rfl) (by decide) ?_
      exact z_iret (pc := 128) C hr hu1 hu2 (dX12_listen 68 rfl) ⟨rfl, _, rfl, H⟩
def wX12_sayingsOf_J39 (t : zT) (m : zM) (a_0 : Nat) (x_1 : Int32) (x_3 : Int32) (s_0 : Int32) (s_1 : Int32) (Q : Int32 → zM → Prop) (r4 : Int32 → Int32 → zM → Prop) : Prop := (∀ x9 : Int32, x9 = (s_1 ||| s_0) → ((r4 x9 (x_3 + 1) m)))
set_option maxHeartbeats 4000000 in
set_option maxRecDepth 20000 in
theorem sX12_sayingsOf_J39 {p : Program} {l : Launch} {e : Env} {s : State} {mt : MethodId} {args : Array Value} {below : List Frame} {meth : Method} {c : Code} {g : zG} {u : Nat × Nat} {mc ms : Nat} {t : zT} {m : zM} {a_0 : Nat} {x_1 : Int32} {x_3 : Int32} {s_0 : Int32} {s_1 : Int32} {Q : Int32 → zM → Prop} {r4 : Int32 → Int32 → zM → Prop} (C : zC p (zRm 1 mc ms) s mt args meth c g cX12_sayingsOf 4 yX12_sayingsOf.cls 1) (hr : meth.sig.returnType = (some .int)) (hm : meth.name = yX12_sayingsOf.name) (hu1 : u.1 ≤ mc) (hu2 : u.2 ≤ ms)
    (R4 : ∀ (v0 : Int32) (v1 : Int32) (m : zM), r4 v0 v1 m → zW p l e (zRm 1 mc ms) s mt args below meth c g (MQ below (zQc g (zPi t Q)) args s mc ms (zFar g)) u 4 t m 4 [(0, .ref a_0), (1, .int x_1), (2, .int v0), (3, .int v1)] []) (H : wX12_sayingsOf_J39 t m a_0 x_1 x_3 s_0 s_1 Q r4) : zW p l e (zRm 1 mc ms) s mt args below meth c g (MQ below (zQc g (zPi t Q)) args s mc ms (zFar g)) u 4 t m 39 [(0, .ref a_0), (1, .int x_1), (3, .int x_3)] [.int s_0, .int s_1] := by
  unfold wX12_sayingsOf_J39 at H
  refine z_ior (pc := 39) C (dX12_sayingsOf 23 rfl) ?_
  refine z_int (fun x9 hx9 => ?_)
  replace H := H x9 hx9
  refine z_istore_n (pc := 40) (i := 2) (lv2 := [(2, .int x9), (0, .ref a_0), (1, .int x_1), (3, .int x_3)]) C (dX12_sayingsOf 24 rfl) rfl (by decide) rfl ?_
  refine z_iinc (pc := 41) (i := 3) (v := x_3 + 1) (lv2 := [(3, .int (x_3 + 1)), (2, .int x9), (0, .ref a_0), (1, .int x_1)]) C (dX12_sayingsOf 25 rfl) 3 rfl (by rfl) (by decide) rfl ?_
  refine z_goto (pc := 44) (tgt := 4) C (dX12_sayingsOf 26 rfl) (by decide) ?_
  refine z_sub [2, 3, 1, 0] rfl ?_
  exact R4 x9 (x_3 + 1) m H
def wX12_sayingsOf_L4 (t : zT) (a_0 : Nat) (x_1 : Int32) (Q : Int32 → zM → Prop) (k47 : Int32 → zM → Prop) : Nat → Int32 → Int32 → zM → Prop
  | 0, _, _, _ => False
  | n + 1, x_2, x_3, m => (tK t a_0 = 12 ∧ (tK t (gR m a_0 3) = 11 ∧ (((gI m (gR m a_0 3) 3) ≤ x_3 → (k47 x_2 m)) ∧ (¬ (gI m (gR m a_0 3) 3) ≤ x_3 → (tK t (gR m (gR m a_0 3) 18) = 14 ∧ (vp_in x_3 (tL t (gR m (gR m a_0 3) 18)) ∧ (wX12_has t m x_1 (gI m (gR m (gR m a_0 3) 18) x_3.toNatClampNeg) (fun r6 m7 => ((r6 = 0 → (wX12_sayingsOf_J39 t m7 a_0 x_1 x_3 0 x_2 Q (wX12_sayingsOf_L4 t a_0 x_1 Q k47 n))) ∧ (¬ r6 = 0 → (wX12_sayingsOf_J39 t m7 a_0 x_1 x_3 ((1 : Int32) <<< (x_3 &&& 31)) x_2 Q (wX12_sayingsOf_L4 t a_0 x_1 Q k47 n))))))))))))
set_option maxHeartbeats 4000000 in
set_option maxRecDepth 20000 in
theorem sX12_sayingsOf_L4 {p : Program} {l : Launch} {e : Env} {s : State} {mt : MethodId} {args : Array Value} {below : List Frame} {meth : Method} {c : Code} {g : zG} {u : Nat × Nat} {mc ms : Nat} {t : zT} {a_0 : Nat} {x_1 : Int32} {Q : Int32 → zM → Prop} {k47 : Int32 → zM → Prop} (C : zC p (zRm 1 mc ms) s mt args meth c g cX12_sayingsOf 4 yX12_sayingsOf.cls 1) (hr : meth.sig.returnType = (some .int)) (hm : meth.name = yX12_sayingsOf.name) (hu1 : u.1 ≤ mc) (hu2 : u.2 ≤ ms)
    (K47 : ∀ (v0 : Int32) (m : zM), k47 v0 m → zW p l e (zRm 1 mc ms) s mt args below meth c g (MQ below (zQc g (zPi t Q)) args s mc ms (zFar g)) u 4 t m 47 [(2, .int v0)] []) : ∀ (n : Nat) (x_2 : Int32) (x_3 : Int32) (m : zM), wX12_sayingsOf_L4 t a_0 x_1 Q k47 n x_2 x_3 m → zW p l e (zRm 1 mc ms) s mt args below meth c g (MQ below (zQc g (zPi t Q)) args s mc ms (zFar g)) u 4 t m 4 [(0, .ref a_0), (1, .int x_1), (2, .int x_2), (3, .int x_3)] [] := by
  intro n
  induction n with
  | zero => intro x_2 x_3 m H; exact H.elim
  | succ n ih =>
    intro x_2 x_3 m H
    simp only [wX12_sayingsOf_L4] at H
    refine z_iload_n (pc := 4) C (dX12_sayingsOf 4 rfl) rfl 3 rfl ?_
    refine z_aload_n (pc := 5) C (dX12_sayingsOf 5 rfl) rfl 0 rfl ?_
    obtain ⟨h1, H⟩ := H
    refine z_getR (pc := 6) C zc12 h1 3 (by decide) rfl wf_X12_314 (dX12_sayingsOf 6 rfl) ?_
    obtain ⟨h2, H⟩ := H
    refine z_getIN (pc := 9) C zc11 h2 3 (by decide) rfl wn_X12_277 (dX12_sayingsOf 7 rfl) ?_
    refine z_icmp_ge (pc := 12) (tgt := 47) C (dX12_sayingsOf 8 rfl) (by decide) (fun c3 => ?_) (fun c3 => ?_)
    · replace H := H.1 c3
      refine z_sub [2] rfl ?_
      exact K47 x_2 m H
    · replace H := H.2 c3
      refine z_iload_n (pc := 15) C (dX12_sayingsOf 9 rfl) rfl 2 rfl ?_
      refine z_iload_n (pc := 16) C (dX12_sayingsOf 10 rfl) rfl 1 rfl ?_
      refine z_aload_n (pc := 17) C (dX12_sayingsOf 11 rfl) rfl 0 rfl ?_
      refine z_getR (pc := 18) C zc12 h1 3 (by decide) rfl wf_X12_314 (dX12_sayingsOf 12 rfl) ?_
      refine z_getRN (pc := 21) C zc11 h2 18 (by decide) rfl wn_X12_280 (dX12_sayingsOf 13 rfl) ?_
      refine z_iload_n (pc := 24) C (dX12_sayingsOf 14 rfl) rfl 3 rfl ?_
      obtain ⟨h4, H⟩ := H
      obtain ⟨h5, H⟩ := H
      refine z_iaload (pc := 25) C h4 h5 (dX12_sayingsOf 15 rfl) ?_
      refine zc_Si (pc := 26) (rest := [.int x_2]) C YX12_has wl_X12_294 (kX12_has H) (by decide) (dX12_sayingsOf 16 rfl) rfl hu1 hu2 (Nat.le_of_ble_eq_true rfl) rfl (fun r6 m7 H => ?_)
      refine z_if_eq (pc := 29) (tgt := 38) C (dX12_sayingsOf 17 rfl) (by decide) (fun c8 => ?_) (fun c8 => ?_)
      · replace H := H.1 c8
        refine z_iconst (pc := 38) (v := 0) C (dX12_sayingsOf 22 rfl) (by decide) ?_
        refine z_sub [0, 1, 3] rfl ?_
        exact sX12_sayingsOf_J39 C hr hm hu1 hu2 ih H
      · replace H := H.2 c8
        refine z_iconst (pc := 32) (v := 1) C (dX12_sayingsOf 18 rfl) (by decide) ?_
        refine z_iload_n (pc := 33) C (dX12_sayingsOf 19 rfl) rfl 3 rfl ?_
        refine z_ishl (pc := 34) C (dX12_sayingsOf 20 rfl) ?_
        refine z_goto (pc := 35) (tgt := 39) C (dX12_sayingsOf 21 rfl) (by decide) ?_
        refine z_sub [0, 1, 3] rfl ?_
        exact sX12_sayingsOf_J39 C hr hm hu1 hu2 ih H
def wX12_sayingsOf (t : zT) (m : zM) (a : Nat) (p1 : Int32) (Q : Int32 → zM → Prop) : Prop := (∃ n12, wX12_sayingsOf_L4 t a p1 Q (fun v10 m11 => (Q v10 m11)) n12 0 0 m)
set_option maxHeartbeats 4000000 in
set_option maxRecDepth 20000 in
theorem kX12_sayingsOf {l : Launch} {t : zT} {m : zM} {a : Nat} {p1 : Int32} {Q : Int32 → zM → Prop} (H : wX12_sayingsOf t m a p1 Q) : zMet l yX12_sayingsOf cX12_sayingsOf 4 (some .int) 1 0 0 t m [.ref a, .int p1] (zPi t Q) := by
  refine zmet (by decide +kernel) (Nat.le_of_ble_eq_true rfl) ?_
  intro p e s mt args below meth c g C hr hm
  unfold wX12_sayingsOf at H
  have hu1 : ((0, 0) : Nat × Nat).1 ≤ 0 := Nat.le_refl 0
  have hu2 : ((0, 0) : Nat × Nat).2 ≤ 0 := Nat.le_refl 0
  refine z_iconst (pc := 0) (v := 0) C (dX12_sayingsOf 0 rfl) (by decide) ?_
  refine z_istore_n (pc := 1) (i := 2) (lv2 := [(2, .int 0), (0, .ref a), (1, .int p1)]) C (dX12_sayingsOf 1 rfl) rfl (by decide) rfl ?_
  refine z_iconst (pc := 2) (v := 0) C (dX12_sayingsOf 2 rfl) (by decide) ?_
  refine z_istore_n (pc := 3) (i := 3) (lv2 := [(3, .int 0), (2, .int 0), (0, .ref a), (1, .int p1)]) C (dX12_sayingsOf 3 rfl) rfl (by decide) rfl ?_
  obtain ⟨n12, H⟩ := H
  refine z_sub [2, 3, 1, 0] rfl ?_
  refine sX12_sayingsOf_L4 C hr hm hu1 hu2 (fun v10 m11 H => ?_) n12 0 0 m H
  refine z_iload_n (pc := 47) C (dX12_sayingsOf 27 rfl) rfl 0 rfl ?_
  exact z_iret (pc := 48) C hr hu1 hu2 (dX12_sayingsOf 28 rfl) ⟨rfl, _, rfl, H⟩
def wX12_believed_J56 (t : zT) (m : zM) (a_0 : Nat) (x_1 : Int32) (x_2 : Int32) (x_3 : Int32) (Q : Int32 → zM → Prop) (r5 : Int32 → Int32 → zM → Prop) : Prop := (r5 x_2 (x_3 + 1) m)
set_option maxHeartbeats 4000000 in
set_option maxRecDepth 20000 in
theorem sX12_believed_J56 {p : Program} {l : Launch} {e : Env} {s : State} {mt : MethodId} {args : Array Value} {below : List Frame} {meth : Method} {c : Code} {g : zG} {u : Nat × Nat} {mc ms : Nat} {t : zT} {m : zM} {a_0 : Nat} {x_1 : Int32} {x_2 : Int32} {x_3 : Int32} {Q : Int32 → zM → Prop} {r5 : Int32 → Int32 → zM → Prop} (C : zC p (zRm 0 mc ms) s mt args meth c g cX12_believed 4 yX12_believed.cls 0) (hr : meth.sig.returnType = (some .int)) (hm : meth.name = yX12_believed.name) (hu1 : u.1 ≤ mc) (hu2 : u.2 ≤ ms)
    (R5 : ∀ (v0 : Int32) (v1 : Int32) (m : zM), r5 v0 v1 m → zW p l e (zRm 0 mc ms) s mt args below meth c g (MQ below (zQc g (zPi t Q)) args s mc ms (zFar g)) u 4 t m 5 [(0, .ref a_0), (1, .int x_1), (2, .int v0), (3, .int v1)] []) (H : wX12_believed_J56 t m a_0 x_1 x_2 x_3 Q r5) : zW p l e (zRm 0 mc ms) s mt args below meth c g (MQ below (zQc g (zPi t Q)) args s mc ms (zFar g)) u 4 t m 56 [(0, .ref a_0), (1, .int x_1), (2, .int x_2), (3, .int x_3)] [] := by
  unfold wX12_believed_J56 at H
  refine z_iinc (pc := 56) (i := 3) (v := x_3 + 1) (lv2 := [(3, .int (x_3 + 1)), (0, .ref a_0), (1, .int x_1), (2, .int x_2)]) C (dX12_believed 36 rfl) 3 rfl (by rfl) (by decide) rfl ?_
  refine z_goto (pc := 59) (tgt := 5) C (dX12_believed 37 rfl) (by decide) ?_
  refine z_sub [1, 2, 3, 0] rfl ?_
  exact R5 x_2 (x_3 + 1) m H
def wX12_believed_J54 (t : zT) (m : zM) (a_0 : Nat) (x_1 : Int32) (x_3 : Int32) (Q : Int32 → zM → Prop) (r5 : Int32 → Int32 → zM → Prop) : Prop := (wX12_believed_J56 t m a_0 x_1 x_3 x_3 Q r5)
set_option maxHeartbeats 4000000 in
set_option maxRecDepth 20000 in
theorem sX12_believed_J54 {p : Program} {l : Launch} {e : Env} {s : State} {mt : MethodId} {args : Array Value} {below : List Frame} {meth : Method} {c : Code} {g : zG} {u : Nat × Nat} {mc ms : Nat} {t : zT} {m : zM} {a_0 : Nat} {x_1 : Int32} {x_3 : Int32} {Q : Int32 → zM → Prop} {r5 : Int32 → Int32 → zM → Prop} (C : zC p (zRm 0 mc ms) s mt args meth c g cX12_believed 4 yX12_believed.cls 0) (hr : meth.sig.returnType = (some .int)) (hm : meth.name = yX12_believed.name) (hu1 : u.1 ≤ mc) (hu2 : u.2 ≤ ms)
    (R5 : ∀ (v0 : Int32) (v1 : Int32) (m : zM), r5 v0 v1 m → zW p l e (zRm 0 mc ms) s mt args below meth c g (MQ below (zQc g (zPi t Q)) args s mc ms (zFar g)) u 4 t m 5 [(0, .ref a_0), (1, .int x_1), (2, .int v0), (3, .int v1)] []) (H : wX12_believed_J54 t m a_0 x_1 x_3 Q r5) : zW p l e (zRm 0 mc ms) s mt args below meth c g (MQ below (zQc g (zPi t Q)) args s mc ms (zFar g)) u 4 t m 54 [(0, .ref a_0), (1, .int x_1), (3, .int x_3)] [] := by
  unfold wX12_believed_J54 at H
  refine z_iload_n (pc := 54) C (dX12_believed 34 rfl) rfl 2 rfl ?_
  refine z_istore_n (pc := 55) (i := 2) (lv2 := [(2, .int x_3), (0, .ref a_0), (1, .int x_1), (3, .int x_3)]) C (dX12_believed 35 rfl) rfl (by decide) rfl ?_
  refine z_sub [1, 2, 0, 3] rfl ?_
  exact sX12_believed_J56 C hr hm hu1 hu2 R5 H
def wX12_believed_L5 (t : zT) (a_0 : Nat) (x_1 : Int32) (Q : Int32 → zM → Prop) (k62 : Int32 → zM → Prop) : Nat → Int32 → Int32 → zM → Prop
  | 0, _, _, _ => False
  | n + 1, x_2, x_3, m => (tK t a_0 = 12 ∧ (tK t (gR m a_0 3) = 11 ∧ (tK t (gR m (gR m a_0 3) 10) = 14 ∧ (vp_in x_1 (tL t (gR m (gR m a_0 3) 10)) ∧ (((gI m (gR m (gR m a_0 3) 10) x_1.toNatClampNeg) ≤ x_3 → (k62 x_2 m)) ∧ (¬ (gI m (gR m (gR m a_0 3) 10) x_1.toNatClampNeg) ≤ x_3 → (((gI m a_0 19) ≤ 0 → (k62 x_2 m)) ∧ (¬ (gI m a_0 19) ≤ 0 → ((x_2 = (-2) → (wX12_believed_J54 t m a_0 x_1 x_3 Q (wX12_believed_L5 t a_0 x_1 Q k62 n))) ∧ (¬ x_2 = (-2) → (tK t (gR m a_0 18) = 14 ∧ (vp_in (((4 : Int32) * x_1) + x_3) (tL t (gR m a_0 18)) ∧ (vp_in (((4 : Int32) * x_1) + x_2) (tL t (gR m a_0 18)) ∧ (((gI m (gR m a_0 18) ((((4 : Int32) * x_1) + x_3).toNatClampNeg)) ≤ (gI m (gR m a_0 18) ((((4 : Int32) * x_1) + x_2).toNatClampNeg)) → (wX12_believed_J56 t m a_0 x_1 x_2 x_3 Q (wX12_believed_L5 t a_0 x_1 Q k62 n))) ∧ (¬ (gI m (gR m a_0 18) ((((4 : Int32) * x_1) + x_3).toNatClampNeg)) ≤ (gI m (gR m a_0 18) ((((4 : Int32) * x_1) + x_2).toNatClampNeg)) → (wX12_believed_J54 t m a_0 x_1 x_3 Q (wX12_believed_L5 t a_0 x_1 Q k62 n)))))))))))))))))
set_option maxHeartbeats 4000000 in
set_option maxRecDepth 20000 in
theorem sX12_believed_L5 {p : Program} {l : Launch} {e : Env} {s : State} {mt : MethodId} {args : Array Value} {below : List Frame} {meth : Method} {c : Code} {g : zG} {u : Nat × Nat} {mc ms : Nat} {t : zT} {a_0 : Nat} {x_1 : Int32} {Q : Int32 → zM → Prop} {k62 : Int32 → zM → Prop} (C : zC p (zRm 0 mc ms) s mt args meth c g cX12_believed 4 yX12_believed.cls 0) (hr : meth.sig.returnType = (some .int)) (hm : meth.name = yX12_believed.name) (hu1 : u.1 ≤ mc) (hu2 : u.2 ≤ ms)
    (K62 : ∀ (v0 : Int32) (m : zM), k62 v0 m → zW p l e (zRm 0 mc ms) s mt args below meth c g (MQ below (zQc g (zPi t Q)) args s mc ms (zFar g)) u 4 t m 62 [(2, .int v0)] []) : ∀ (n : Nat) (x_2 : Int32) (x_3 : Int32) (m : zM), wX12_believed_L5 t a_0 x_1 Q k62 n x_2 x_3 m → zW p l e (zRm 0 mc ms) s mt args below meth c g (MQ below (zQc g (zPi t Q)) args s mc ms (zFar g)) u 4 t m 5 [(0, .ref a_0), (1, .int x_1), (2, .int x_2), (3, .int x_3)] [] := by
  intro n
  induction n with
  | zero => intro x_2 x_3 m H; exact H.elim
  | succ n ih =>
    intro x_2 x_3 m H
    simp only [wX12_believed_L5] at H
    refine z_iload_n (pc := 5) C (dX12_believed 4 rfl) rfl 3 rfl ?_
    refine z_aload_n (pc := 6) C (dX12_believed 5 rfl) rfl 0 rfl ?_
    obtain ⟨h1, H⟩ := H
    refine z_getR (pc := 7) C zc12 h1 3 (by decide) rfl wf_X12_314 (dX12_believed 6 rfl) ?_
    obtain ⟨h2, H⟩ := H
    refine z_getRN (pc := 10) C zc11 h2 10 (by decide) rfl wn_X12_171 (dX12_believed 7 rfl) ?_
    refine z_iload_n (pc := 13) C (dX12_believed 8 rfl) rfl 1 rfl ?_
    obtain ⟨h3, H⟩ := H
    obtain ⟨h4, H⟩ := H
    refine z_iaload (pc := 14) C h3 h4 (dX12_believed 9 rfl) ?_
    refine z_icmp_ge (pc := 15) (tgt := 62) C (dX12_believed 10 rfl) (by decide) (fun c5 => ?_) (fun c5 => ?_)
    · replace H := H.1 c5
      refine z_sub [2] rfl ?_
      exact K62 x_2 m H
    · replace H := H.2 c5
      refine z_aload_n (pc := 18) C (dX12_believed 11 rfl) rfl 0 rfl ?_
      refine z_getI (pc := 19) C zc12 h1 19 (by decide) rfl wf_X12_339 (dX12_believed 12 rfl) ?_
      refine z_if_le (pc := 22) (tgt := 62) C (dX12_believed 13 rfl) (by decide) (fun c6 => ?_) (fun c6 => ?_)
      · replace H := H.1 c6
        refine z_sub [2] rfl ?_
        exact K62 x_2 m H
      · replace H := H.2 c6
        refine z_iload_n (pc := 25) C (dX12_believed 14 rfl) rfl 2 rfl ?_
        refine z_bipush (pc := 26) (v := (-2)) C (dX12_believed 15 rfl) (by decide) ?_
        refine z_icmp_eq (pc := 28) (tgt := 54) C (dX12_believed 16 rfl) (by decide) (fun c7 => ?_) (fun c7 => ?_)
        · replace H := H.1 c7
          refine z_sub [0, 1, 3] rfl ?_
          exact sX12_believed_J54 C hr hm hu1 hu2 ih H
        · replace H := H.2 c7
          refine z_aload_n (pc := 31) C (dX12_believed 17 rfl) rfl 0 rfl ?_
          refine z_getR (pc := 32) C zc12 h1 18 (by decide) rfl wf_X12_25 (dX12_believed 18 rfl) ?_
          refine z_iconst (pc := 35) (v := 4) C (dX12_believed 19 rfl) (by decide) ?_
          refine z_iload_n (pc := 36) C (dX12_believed 20 rfl) rfl 1 rfl ?_
          refine z_imul (pc := 37) C (dX12_believed 21 rfl) ?_
          refine z_iload_n (pc := 38) C (dX12_believed 22 rfl) rfl 3 rfl ?_
          refine z_iadd (pc := 39) C (dX12_believed 23 rfl) ?_
          obtain ⟨h8, H⟩ := H
          obtain ⟨h9, H⟩ := H
          refine z_iaload (pc := 40) C h8 h9 (dX12_believed 24 rfl) ?_
          refine z_aload_n (pc := 41) C (dX12_believed 25 rfl) rfl 0 rfl ?_
          refine z_getR (pc := 42) C zc12 h1 18 (by decide) rfl wf_X12_25 (dX12_believed 26 rfl) ?_
          refine z_iconst (pc := 45) (v := 4) C (dX12_believed 27 rfl) (by decide) ?_
          refine z_iload_n (pc := 46) C (dX12_believed 28 rfl) rfl 1 rfl ?_
          refine z_imul (pc := 47) C (dX12_believed 29 rfl) ?_
          refine z_iload_n (pc := 48) C (dX12_believed 30 rfl) rfl 2 rfl ?_
          refine z_iadd (pc := 49) C (dX12_believed 31 rfl) ?_
          obtain ⟨h10, H⟩ := H
          refine z_iaload (pc := 50) C h8 h10 (dX12_believed 32 rfl) ?_
          refine z_icmp_le (pc := 51) (tgt := 56) C (dX12_believed 33 rfl) (by decide) (fun c11 => ?_) (fun c11 => ?_)
          · replace H := H.1 c11
            refine z_sub [0, 1, 2, 3] rfl ?_
            exact sX12_believed_J56 C hr hm hu1 hu2 ih H
          · replace H := H.2 c11
            refine z_sub [0, 1, 3] rfl ?_
            exact sX12_believed_J54 C hr hm hu1 hu2 ih H
def wX12_believed (t : zT) (m : zM) (a : Nat) (p1 : Int32) (Q : Int32 → zM → Prop) : Prop := (∃ n14, wX12_believed_L5 t a p1 Q (fun v12 m13 => (Q v12 m13)) n14 (-2) 0 m)
set_option maxHeartbeats 4000000 in
set_option maxRecDepth 20000 in
theorem kX12_believed {l : Launch} {t : zT} {m : zM} {a : Nat} {p1 : Int32} {Q : Int32 → zM → Prop} (H : wX12_believed t m a p1 Q) : zMet l yX12_believed cX12_believed 4 (some .int) 0 0 0 t m [.ref a, .int p1] (zPi t Q) := by
  refine zmet (by decide +kernel) (Nat.le_of_ble_eq_true rfl) ?_
  intro p e s mt args below meth c g C hr hm
  unfold wX12_believed at H
  have hu1 : ((0, 0) : Nat × Nat).1 ≤ 0 := Nat.le_refl 0
  have hu2 : ((0, 0) : Nat × Nat).2 ≤ 0 := Nat.le_refl 0
  refine z_bipush (pc := 0) (v := (-2)) C (dX12_believed 0 rfl) (by decide) ?_
  refine z_istore_n (pc := 2) (i := 2) (lv2 := [(2, .int (-2)), (0, .ref a), (1, .int p1)]) C (dX12_believed 1 rfl) rfl (by decide) rfl ?_
  refine z_iconst (pc := 3) (v := 0) C (dX12_believed 2 rfl) (by decide) ?_
  refine z_istore_n (pc := 4) (i := 3) (lv2 := [(3, .int 0), (2, .int (-2)), (0, .ref a), (1, .int p1)]) C (dX12_believed 3 rfl) rfl (by decide) rfl ?_
  obtain ⟨n14, H⟩ := H
  refine z_sub [2, 3, 1, 0] rfl ?_
  refine sX12_believed_L5 C hr hm hu1 hu2 (fun v12 m13 H => ?_) n14 (-2) 0 m H
  refine z_iload_n (pc := 62) C (dX12_believed 38 rfl) rfl 0 rfl ?_
  exact z_iret (pc := 63) C hr hu1 hu2 (dX12_believed 39 rfl) ⟨rfl, _, rfl, H⟩
def wX12_believes_J21 (t : zT) (m : zM) (a_0 : Nat) (Q : Int32 → zM → Prop) : Prop := (tK t a_0 = 12 ∧ (wX12_refused t m a_0 1 (fun r6 m7 => (Q r6 m7))))
set_option maxHeartbeats 4000000 in
set_option maxRecDepth 20000 in
theorem sX12_believes_J21 {p : Program} {l : Launch} {e : Env} {s : State} {mt : MethodId} {args : Array Value} {below : List Frame} {meth : Method} {c : Code} {g : zG} {u : Nat × Nat} {mc ms : Nat} {t : zT} {m : zM} {a_0 : Nat} {Q : Int32 → zM → Prop} (C : zC p (zRm 5 mc ms) s mt args meth c g cX12_believes 3 yX12_believes.cls 5) (hr : meth.sig.returnType = (some .int)) (hm : meth.name = yX12_believes.name) (hu1 : u.1 ≤ mc) (hu2 : u.2 ≤ ms) (H : wX12_believes_J21 t m a_0 Q) : zW p l e (zRm 5 mc ms) s mt args below meth c g (MQ below (zQc g (zPi t Q)) args s mc ms (zFar g)) u 3 t m 21 [(0, .ref a_0)] [] := by
  unfold wX12_believes_J21 at H
  refine z_aload_n (pc := 21) C (dX12_believes 11 rfl) rfl 0 rfl ?_
  refine z_iconst (pc := 22) (v := 1) C (dX12_believes 12 rfl) (by decide) ?_
  obtain ⟨h5, H⟩ := H
  refine zc_Vi (pc := 23) (rest := []) C YX12_refused wl_X12_47 (kX12_refused H) (by decide) h5 rfl (by decide) (dX12_believes 13 rfl) rfl hu1 hu2 (Nat.le_of_ble_eq_true rfl) rfl (fun r6 m7 H => ?_)
  exact z_iret (pc := 26) C hr hu1 hu2 (dX12_believes 14 rfl) ⟨rfl, _, rfl, H⟩
def wX12_believes (t : zT) (m : zM) (a : Nat) (p1 : Int32) (p2 : Int32) (Q : Int32 → zM → Prop) : Prop := (tK t a = 12 ∧ (wX12_isChild t (pI m a 0 0) a p1 (fun r2 m3 => ((r2 = 0 → (wX12_believes_J21 t m3 a Q)) ∧ (¬ r2 = 0 → (wX12_isThing t m3 a p2 (fun r8 m9 => ((r8 = 0 → (wX12_believes_J21 t m9 a Q)) ∧ (¬ r8 = 0 → (tK t (gR m9 a 3) = 11 ∧ (tK t (gR m9 (gR m9 a 3) 13) = 14 ∧ (vp_in p1 (tL t (gR m9 (gR m9 a 3) 13)) ∧ (wX12_sayingsOf t m9 a (gI m9 (gR m9 (gR m9 a 3) 13) p1.toNatClampNeg) (fun r14 m15 => (tK t (gR m15 a 3) = 11 ∧ (wX12_asks t m15 a r14 (gI m15 (gR m15 a 3) 6) 0 (fun m18 => (wX12_believed t m18 a p2 (fun r19 m20 => (wX12_good t m20 a r19 (fun r21 m22 => (Q r21 m22))))))))))))))))))))))
set_option maxHeartbeats 4000000 in
set_option maxRecDepth 20000 in
theorem kX12_believes {l : Launch} {t : zT} {m : zM} {a : Nat} {p1 : Int32} {p2 : Int32} {Q : Int32 → zM → Prop} (H : wX12_believes t m a p1 p2 Q) : zMet l yX12_believes cX12_believes 3 (some .int) 5 0 0 t m [.ref a, .int p1, .int p2] (zPi t Q) := by
  refine zmet (by decide +kernel) (Nat.le_of_ble_eq_true rfl) ?_
  intro p e s mt args below meth c g C hr hm
  unfold wX12_believes at H
  have hu1 : ((0, 0) : Nat × Nat).1 ≤ 0 := Nat.le_refl 0
  have hu2 : ((0, 0) : Nat × Nat).2 ≤ 0 := Nat.le_refl 0
  refine z_aload_n (pc := 0) C (dX12_believes 0 rfl) rfl 0 rfl ?_
  refine z_iconst (pc := 1) (v := 0) C (dX12_believes 1 rfl) (by decide) ?_
  obtain ⟨h1, H⟩ := H
  refine z_putI (pc := 2) C zc12 h1 0 (by decide) rfl rfl wf_X12_41 (dX12_believes 2 rfl) ?_
  refine z_aload_n (pc := 5) C (dX12_believes 3 rfl) rfl 0 rfl ?_
  refine z_iload_n (pc := 6) C (dX12_believes 4 rfl) rfl 1 rfl ?_
  refine zc_Vi (pc := 7) (rest := []) C YX12_isChild wl_X12_450 (kX12_isChild H) (by decide) h1 rfl (by decide) (dX12_believes 5 rfl) rfl hu1 hu2 (Nat.le_of_ble_eq_true rfl) rfl (fun r2 m3 H => ?_)
  refine z_if_eq (pc := 10) (tgt := 21) C (dX12_believes 6 rfl) (by decide) (fun c4 => ?_) (fun c4 => ?_)
  · replace H := H.1 c4
    refine z_sub [0] rfl ?_
    exact sX12_believes_J21 C hr hm hu1 hu2 H
  · replace H := H.2 c4
    refine z_aload_n (pc := 13) C (dX12_believes 7 rfl) rfl 0 rfl ?_
    refine z_iload_n (pc := 14) C (dX12_believes 8 rfl) rfl 2 rfl ?_
    refine zc_Vi (pc := 15) (rest := []) C YX12_isThing wl_X12_364 (kX12_isThing H) (by decide) h1 rfl (by decide) (dX12_believes 9 rfl) rfl hu1 hu2 (Nat.le_of_ble_eq_true rfl) rfl (fun r8 m9 H => ?_)
    refine z_if_ne (pc := 18) (tgt := 27) C (dX12_believes 10 rfl) (by decide) (fun c10 => ?_) (fun c10 => ?_)
    · replace H := H.2 c10
      refine z_aload_n (pc := 27) C (dX12_believes 15 rfl) rfl 0 rfl ?_
      refine z_aload_n (pc := 28) C (dX12_believes 16 rfl) rfl 0 rfl ?_
      refine z_aload_n (pc := 29) C (dX12_believes 17 rfl) rfl 0 rfl ?_
      refine z_getR (pc := 30) C zc12 h1 3 (by decide) rfl wf_X12_314 (dX12_believes 18 rfl) ?_
      obtain ⟨h11, H⟩ := H
      refine z_getRN (pc := 33) C zc11 h11 13 (by decide) rfl wn_X12_298 (dX12_believes 19 rfl) ?_
      refine z_iload_n (pc := 36) C (dX12_believes 20 rfl) rfl 1 rfl ?_
      obtain ⟨h12, H⟩ := H
      obtain ⟨h13, H⟩ := H
      refine z_iaload (pc := 37) C h12 h13 (dX12_believes 21 rfl) ?_
      refine zc_Vi (pc := 38) (rest := [.ref a]) C YX12_sayingsOf wl_X12_453 (kX12_sayingsOf H) (by decide) h1 rfl (by decide) (dX12_believes 22 rfl) rfl hu1 hu2 (Nat.le_of_ble_eq_true rfl) rfl (fun r14 m15 H => ?_)
      refine z_aload_n (pc := 41) C (dX12_believes 23 rfl) rfl 0 rfl ?_
      refine z_getR (pc := 42) C zc12 h1 3 (by decide) rfl wf_X12_314 (dX12_believes 24 rfl) ?_
      obtain ⟨h16, H⟩ := H
      refine z_getIN (pc := 45) C zc11 h16 6 (by decide) rfl wn_X12_269 (dX12_believes 25 rfl) ?_
      refine z_iconst (pc := 48) (v := 0) C (dX12_believes 26 rfl) (by decide) ?_
      refine zc_Vv (pc := 49) (rest := []) C YX12_asks wl_X12_351 (kX12_asks H) (by decide) h1 rfl (by decide) (dX12_believes 27 rfl) rfl hu1 hu2 (Nat.le_of_ble_eq_true rfl) rfl (fun m18 H => ?_)
      refine z_aload_n (pc := 52) C (dX12_believes 28 rfl) rfl 0 rfl ?_
      refine z_aload_n (pc := 53) C (dX12_believes 29 rfl) rfl 0 rfl ?_
      refine z_iload_n (pc := 54) C (dX12_believes 30 rfl) rfl 2 rfl ?_
      refine zc_Vi (pc := 55) (rest := [.ref a]) C YX12_believed wl_X12_456 (kX12_believed H) (by decide) h1 rfl (by decide) (dX12_believes 31 rfl) rfl hu1 hu2 (Nat.le_of_ble_eq_true rfl) rfl (fun r19 m20 H => ?_)
      refine zc_Vi (pc := 58) (rest := []) C YX12_good wl_X12_51 (kX12_good H) (by decide) h1 rfl (by decide) (dX12_believes 32 rfl) rfl hu1 hu2 (Nat.le_of_ble_eq_true rfl) rfl (fun r21 m22 H => ?_)
      exact z_iret (pc := 61) C hr hu1 hu2 (dX12_believes 33 rfl) ⟨rfl, _, rfl, H⟩
    · replace H := H.1 c10
      refine z_sub [0] rfl ?_
      exact sX12_believes_J21 C hr hm hu1 hu2 H
def wX12_knows (t : zT) (m : zM) (a : Nat) (p1 : Int32) (Q : Int32 → zM → Prop) : Prop := (tK t a = 12 ∧ (wX12_isChild t (pI m a 0 0) a p1 (fun r2 m3 => ((r2 = 0 → (wX12_refused t m3 a 1 (fun r17 m18 => (Q r17 m18)))) ∧ (¬ r2 = 0 → (tK t (gR m3 a 3) = 11 ∧ (tK t (gR m3 (gR m3 a 3) 13) = 14 ∧ (vp_in p1 (tL t (gR m3 (gR m3 a 3) 13)) ∧ (wX12_sayingsOf t m3 a (gI m3 (gR m3 (gR m3 a 3) 13) p1.toNatClampNeg) (fun r8 m9 => (tK t (gR m9 a 3) = 11 ∧ (wX12_asks t m9 a r8 (gI m9 (gR m9 a 3) 6) 0 (fun m12 => (wX12_oneBits t m12 a (fun r13 m14 => (wX12_good t m14 a r13 (fun r15 m16 => (Q r15 m16))))))))))))))))))
set_option maxHeartbeats 4000000 in
set_option maxRecDepth 20000 in
theorem kX12_knows {l : Launch} {t : zT} {m : zM} {a : Nat} {p1 : Int32} {Q : Int32 → zM → Prop} (H : wX12_knows t m a p1 Q) : zMet l yX12_knows cX12_knows 2 (some .int) 5 0 0 t m [.ref a, .int p1] (zPi t Q) := by
  refine zmet (by decide +kernel) (Nat.le_of_ble_eq_true rfl) ?_
  intro p e s mt args below meth c g C hr hm
  unfold wX12_knows at H
  have hu1 : ((0, 0) : Nat × Nat).1 ≤ 0 := Nat.le_refl 0
  have hu2 : ((0, 0) : Nat × Nat).2 ≤ 0 := Nat.le_refl 0
  refine z_aload_n (pc := 0) C (dX12_knows 0 rfl) rfl 0 rfl ?_
  refine z_iconst (pc := 1) (v := 0) C (dX12_knows 1 rfl) (by decide) ?_
  obtain ⟨h1, H⟩ := H
  refine z_putI (pc := 2) C zc12 h1 0 (by decide) rfl rfl wf_X12_41 (dX12_knows 2 rfl) ?_
  refine z_aload_n (pc := 5) C (dX12_knows 3 rfl) rfl 0 rfl ?_
  refine z_iload_n (pc := 6) C (dX12_knows 4 rfl) rfl 1 rfl ?_
  refine zc_Vi (pc := 7) (rest := []) C YX12_isChild wl_X12_450 (kX12_isChild H) (by decide) h1 rfl (by decide) (dX12_knows 5 rfl) rfl hu1 hu2 (Nat.le_of_ble_eq_true rfl) rfl (fun r2 m3 H => ?_)
  refine z_if_ne (pc := 10) (tgt := 19) C (dX12_knows 6 rfl) (by decide) (fun c4 => ?_) (fun c4 => ?_)
  · replace H := H.2 c4
    refine z_aload_n (pc := 19) C (dX12_knows 11 rfl) rfl 0 rfl ?_
    refine z_aload_n (pc := 20) C (dX12_knows 12 rfl) rfl 0 rfl ?_
    refine z_aload_n (pc := 21) C (dX12_knows 13 rfl) rfl 0 rfl ?_
    refine z_getR (pc := 22) C zc12 h1 3 (by decide) rfl wf_X12_314 (dX12_knows 14 rfl) ?_
    obtain ⟨h5, H⟩ := H
    refine z_getRN (pc := 25) C zc11 h5 13 (by decide) rfl wn_X12_298 (dX12_knows 15 rfl) ?_
    refine z_iload_n (pc := 28) C (dX12_knows 16 rfl) rfl 1 rfl ?_
    obtain ⟨h6, H⟩ := H
    obtain ⟨h7, H⟩ := H
    refine z_iaload (pc := 29) C h6 h7 (dX12_knows 17 rfl) ?_
    refine zc_Vi (pc := 30) (rest := [.ref a]) C YX12_sayingsOf wl_X12_453 (kX12_sayingsOf H) (by decide) h1 rfl (by decide) (dX12_knows 18 rfl) rfl hu1 hu2 (Nat.le_of_ble_eq_true rfl) rfl (fun r8 m9 H => ?_)
    refine z_aload_n (pc := 33) C (dX12_knows 19 rfl) rfl 0 rfl ?_
    refine z_getR (pc := 34) C zc12 h1 3 (by decide) rfl wf_X12_314 (dX12_knows 20 rfl) ?_
    obtain ⟨h10, H⟩ := H
    refine z_getIN (pc := 37) C zc11 h10 6 (by decide) rfl wn_X12_269 (dX12_knows 21 rfl) ?_
    refine z_iconst (pc := 40) (v := 0) C (dX12_knows 22 rfl) (by decide) ?_
    refine zc_Vv (pc := 41) (rest := []) C YX12_asks wl_X12_351 (kX12_asks H) (by decide) h1 rfl (by decide) (dX12_knows 23 rfl) rfl hu1 hu2 (Nat.le_of_ble_eq_true rfl) rfl (fun m12 H => ?_)
    refine z_aload_n (pc := 44) C (dX12_knows 24 rfl) rfl 0 rfl ?_
    refine z_aload_n (pc := 45) C (dX12_knows 25 rfl) rfl 0 rfl ?_
    refine zc_Vi (pc := 46) (rest := [.ref a]) C YX12_oneBits wl_X12_375 (kX12_oneBits H) (by decide) h1 rfl (by decide) (dX12_knows 26 rfl) rfl hu1 hu2 (Nat.le_of_ble_eq_true rfl) rfl (fun r13 m14 H => ?_)
    refine zc_Vi (pc := 49) (rest := []) C YX12_good wl_X12_51 (kX12_good H) (by decide) h1 rfl (by decide) (dX12_knows 27 rfl) rfl hu1 hu2 (Nat.le_of_ble_eq_true rfl) rfl (fun r15 m16 H => ?_)
    exact z_iret (pc := 52) C hr hu1 hu2 (dX12_knows 28 rfl) ⟨rfl, _, rfl, H⟩
  · replace H := H.1 c4
    refine z_aload_n (pc := 13) C (dX12_knows 7 rfl) rfl 0 rfl ?_
    refine z_iconst (pc := 14) (v := 1) C (dX12_knows 8 rfl) (by decide) ?_
    refine zc_Vi (pc := 15) (rest := []) C YX12_refused wl_X12_47 (kX12_refused H) (by decide) h1 rfl (by decide) (dX12_knows 9 rfl) rfl hu1 hu2 (Nat.le_of_ble_eq_true rfl) rfl (fun r17 m18 H => ?_)
    exact z_iret (pc := 18) C hr hu1 hu2 (dX12_knows 10 rfl) ⟨rfl, _, rfl, H⟩
def wX12_share_J35 (t : zT) (m : zM) (a_0 : Nat) (Q : Int32 → zM → Prop) : Prop := (tK t a_0 = 12 ∧ (wX12_refused t m a_0 2 (fun r7 m8 => (Q r7 m8))))
set_option maxHeartbeats 4000000 in
set_option maxRecDepth 20000 in
theorem sX12_share_J35 {p : Program} {l : Launch} {e : Env} {s : State} {mt : MethodId} {args : Array Value} {below : List Frame} {meth : Method} {c : Code} {g : zG} {u : Nat × Nat} {mc ms : Nat} {t : zT} {m : zM} {a_0 : Nat} {Q : Int32 → zM → Prop} (C : zC p (zRm 5 mc ms) s mt args meth c g cX12_share 4 yX12_share.cls 5) (hr : meth.sig.returnType = (some .int)) (hm : meth.name = yX12_share.name) (hu1 : u.1 ≤ mc) (hu2 : u.2 ≤ ms) (H : wX12_share_J35 t m a_0 Q) : zW p l e (zRm 5 mc ms) s mt args below meth c g (MQ below (zQc g (zPi t Q)) args s mc ms (zFar g)) u 4 t m 35 [(0, .ref a_0)] [] := by
  unfold wX12_share_J35 at H
  refine z_aload_n (pc := 35) C (dX12_share 19 rfl) rfl 0 rfl ?_
  refine z_iconst (pc := 36) (v := 2) C (dX12_share 20 rfl) (by decide) ?_
  obtain ⟨h6, H⟩ := H
  refine zc_Vi (pc := 37) (rest := []) C YX12_refused wl_X12_47 (kX12_refused H) (by decide) h6 rfl (by decide) (dX12_share 21 rfl) rfl hu1 hu2 (Nat.le_of_ble_eq_true rfl) rfl (fun r7 m8 H => ?_)
  exact z_iret (pc := 40) C hr hu1 hu2 (dX12_share 22 rfl) ⟨rfl, _, rfl, H⟩
def wX12_share_J99 (t : zT) (m : zM) (a_0 : Nat) (x_1 : Int32) (x_2 : Int32) (x_3 : Int32) (Q : Int32 → zM → Prop) (r45 : Int32 → Int32 → zM → Prop) : Prop := (r45 x_2 (x_3 + 1) m)
set_option maxHeartbeats 4000000 in
set_option maxRecDepth 20000 in
theorem sX12_share_J99 {p : Program} {l : Launch} {e : Env} {s : State} {mt : MethodId} {args : Array Value} {below : List Frame} {meth : Method} {c : Code} {g : zG} {u : Nat × Nat} {mc ms : Nat} {t : zT} {m : zM} {a_0 : Nat} {x_1 : Int32} {x_2 : Int32} {x_3 : Int32} {Q : Int32 → zM → Prop} {r45 : Int32 → Int32 → zM → Prop} (C : zC p (zRm 5 mc ms) s mt args meth c g cX12_share 4 yX12_share.cls 5) (hr : meth.sig.returnType = (some .int)) (hm : meth.name = yX12_share.name) (hu1 : u.1 ≤ mc) (hu2 : u.2 ≤ ms)
    (R45 : ∀ (v0 : Int32) (v1 : Int32) (m : zM), r45 v0 v1 m → zW p l e (zRm 5 mc ms) s mt args below meth c g (MQ below (zQc g (zPi t Q)) args s mc ms (zFar g)) u 4 t m 45 [(0, .ref a_0), (1, .int x_1), (2, .int v0), (3, .int v1)] []) (H : wX12_share_J99 t m a_0 x_1 x_2 x_3 Q r45) : zW p l e (zRm 5 mc ms) s mt args below meth c g (MQ below (zQc g (zPi t Q)) args s mc ms (zFar g)) u 4 t m 99 [(0, .ref a_0), (1, .int x_1), (2, .int x_2), (3, .int x_3)] [] := by
  unfold wX12_share_J99 at H
  refine z_iinc (pc := 99) (i := 3) (v := x_3 + 1) (lv2 := [(3, .int (x_3 + 1)), (0, .ref a_0), (1, .int x_1), (2, .int x_2)]) C (dX12_share 55 rfl) 3 rfl (by rfl) (by decide) rfl ?_
  refine z_goto (pc := 102) (tgt := 45) C (dX12_share 56 rfl) (by decide) ?_
  refine z_sub [1, 2, 3, 0] rfl ?_
  exact R45 x_2 (x_3 + 1) m H
def wX12_share_L45 (t : zT) (a_0 : Nat) (x_1 : Int32) (Q : Int32 → zM → Prop) (k105 : Int32 → zM → Prop) : Nat → Int32 → Int32 → zM → Prop
  | 0, _, _, _ => False
  | n + 1, x_2, x_3, m => (tK t a_0 = 12 ∧ (tK t (gR m a_0 3) = 11 ∧ (((gI m (gR m a_0 3) 4) ≤ x_3 → (k105 x_2 m)) ∧ (¬ (gI m (gR m a_0 3) 4) ≤ x_3 → (wX12_has t m x_1 x_3 (fun r14 m15 => ((r14 = 0 → (wX12_share_J99 t m15 a_0 x_1 x_2 x_3 Q (wX12_share_L45 t a_0 x_1 Q k105 n))) ∧ (¬ r14 = 0 → (tK t (gR m15 a_0 3) = 11 ∧ (tK t (gR m15 (gR m15 a_0 3) 13) = 14 ∧ (vp_in x_3 (tL t (gR m15 (gR m15 a_0 3) 13)) ∧ (wX12_sayingsOf t m15 a_0 (gI m15 (gR m15 (gR m15 a_0 3) 13) x_3.toNatClampNeg) (fun r20 m21 => (tK t (gR m21 a_0 3) = 11 ∧ (wX12_asks t m21 a_0 r20 (gI m21 (gR m21 a_0 3) 6) 0 (fun m24 => (wX12_oneBits t m24 a_0 (fun r25 m26 => (∀ x27 : Int32, x27 = (x_2 ||| r25) → ((wX12_share_J99 t m26 a_0 x_1 x27 x_3 Q (wX12_share_L45 t a_0 x_1 Q k105 n))))))))))))))))))))))
set_option maxHeartbeats 4000000 in
set_option maxRecDepth 20000 in
theorem sX12_share_L45 {p : Program} {l : Launch} {e : Env} {s : State} {mt : MethodId} {args : Array Value} {below : List Frame} {meth : Method} {c : Code} {g : zG} {u : Nat × Nat} {mc ms : Nat} {t : zT} {a_0 : Nat} {x_1 : Int32} {Q : Int32 → zM → Prop} {k105 : Int32 → zM → Prop} (C : zC p (zRm 5 mc ms) s mt args meth c g cX12_share 4 yX12_share.cls 5) (hr : meth.sig.returnType = (some .int)) (hm : meth.name = yX12_share.name) (hu1 : u.1 ≤ mc) (hu2 : u.2 ≤ ms)
    (K105 : ∀ (v0 : Int32) (m : zM), k105 v0 m → zW p l e (zRm 5 mc ms) s mt args below meth c g (MQ below (zQc g (zPi t Q)) args s mc ms (zFar g)) u 4 t m 105 [(0, .ref a_0), (2, .int v0)] []) : ∀ (n : Nat) (x_2 : Int32) (x_3 : Int32) (m : zM), wX12_share_L45 t a_0 x_1 Q k105 n x_2 x_3 m → zW p l e (zRm 5 mc ms) s mt args below meth c g (MQ below (zQc g (zPi t Q)) args s mc ms (zFar g)) u 4 t m 45 [(0, .ref a_0), (1, .int x_1), (2, .int x_2), (3, .int x_3)] [] := by
  intro n
  induction n with
  | zero => intro x_2 x_3 m H; exact H.elim
  | succ n ih =>
    intro x_2 x_3 m H
    simp only [wX12_share_L45] at H
    refine z_iload_n (pc := 45) C (dX12_share 27 rfl) rfl 3 rfl ?_
    refine z_aload_n (pc := 46) C (dX12_share 28 rfl) rfl 0 rfl ?_
    obtain ⟨h11, H⟩ := H
    refine z_getR (pc := 47) C zc12 h11 3 (by decide) rfl wf_X12_314 (dX12_share 29 rfl) ?_
    obtain ⟨h12, H⟩ := H
    refine z_getIN (pc := 50) C zc11 h12 4 (by decide) rfl wn_X12_289 (dX12_share 30 rfl) ?_
    refine z_icmp_ge (pc := 53) (tgt := 105) C (dX12_share 31 rfl) (by decide) (fun c13 => ?_) (fun c13 => ?_)
    · replace H := H.1 c13
      refine z_sub [0, 2] rfl ?_
      exact K105 x_2 m H
    · replace H := H.2 c13
      refine z_iload_n (pc := 56) C (dX12_share 32 rfl) rfl 1 rfl ?_
      refine z_iload_n (pc := 57) C (dX12_share 33 rfl) rfl 3 rfl ?_
      refine zc_Si (pc := 58) (rest := []) C YX12_has wl_X12_294 (kX12_has H) (by decide) (dX12_share 34 rfl) rfl hu1 hu2 (Nat.le_of_ble_eq_true rfl) rfl (fun r14 m15 H => ?_)
      refine z_if_ne (pc := 61) (tgt := 67) C (dX12_share 35 rfl) (by decide) (fun c16 => ?_) (fun c16 => ?_)
      · replace H := H.2 c16
        refine z_aload_n (pc := 67) C (dX12_share 37 rfl) rfl 0 rfl ?_
        refine z_aload_n (pc := 68) C (dX12_share 38 rfl) rfl 0 rfl ?_
        refine z_aload_n (pc := 69) C (dX12_share 39 rfl) rfl 0 rfl ?_
        refine z_getR (pc := 70) C zc12 h11 3 (by decide) rfl wf_X12_314 (dX12_share 40 rfl) ?_
        obtain ⟨h17, H⟩ := H
        refine z_getRN (pc := 73) C zc11 h17 13 (by decide) rfl wn_X12_298 (dX12_share 41 rfl) ?_
        refine z_iload_n (pc := 76) C (dX12_share 42 rfl) rfl 3 rfl ?_
        obtain ⟨h18, H⟩ := H
        obtain ⟨h19, H⟩ := H
        refine z_iaload (pc := 77) C h18 h19 (dX12_share 43 rfl) ?_
        refine zc_Vi (pc := 78) (rest := [.ref a_0]) C YX12_sayingsOf wl_X12_453 (kX12_sayingsOf H) (by decide) h11 rfl (by decide) (dX12_share 44 rfl) rfl hu1 hu2 (Nat.le_of_ble_eq_true rfl) rfl (fun r20 m21 H => ?_)
        refine z_aload_n (pc := 81) C (dX12_share 45 rfl) rfl 0 rfl ?_
        refine z_getR (pc := 82) C zc12 h11 3 (by decide) rfl wf_X12_314 (dX12_share 46 rfl) ?_
        obtain ⟨h22, H⟩ := H
        refine z_getIN (pc := 85) C zc11 h22 6 (by decide) rfl wn_X12_269 (dX12_share 47 rfl) ?_
        refine z_iconst (pc := 88) (v := 0) C (dX12_share 48 rfl) (by decide) ?_
        refine zc_Vv (pc := 89) (rest := []) C YX12_asks wl_X12_351 (kX12_asks H) (by decide) h11 rfl (by decide) (dX12_share 49 rfl) rfl hu1 hu2 (Nat.le_of_ble_eq_true rfl) rfl (fun m24 H => ?_)
        refine z_iload_n (pc := 92) C (dX12_share 50 rfl) rfl 2 rfl ?_
        refine z_aload_n (pc := 93) C (dX12_share 51 rfl) rfl 0 rfl ?_
        refine zc_Vi (pc := 94) (rest := [.int x_2]) C YX12_oneBits wl_X12_375 (kX12_oneBits H) (by decide) h11 rfl (by decide) (dX12_share 52 rfl) rfl hu1 hu2 (Nat.le_of_ble_eq_true rfl) rfl (fun r25 m26 H => ?_)
        refine z_ior (pc := 97) C (dX12_share 53 rfl) ?_
        refine z_int (fun x27 hx27 => ?_)
        replace H := H x27 hx27
        refine z_istore_n (pc := 98) (i := 2) (lv2 := [(2, .int x27), (0, .ref a_0), (1, .int x_1), (3, .int x_3)]) C (dX12_share 54 rfl) rfl (by decide) rfl ?_
        refine z_sub [1, 2, 0, 3] rfl ?_
        exact sX12_share_J99 C hr hm hu1 hu2 ih H
      · replace H := H.1 c16
        refine z_goto (pc := 64) (tgt := 99) C (dX12_share 36 rfl) (by decide) ?_
        refine z_sub [0, 1, 2, 3] rfl ?_
        exact sX12_share_J99 C hr hm hu1 hu2 ih H
def wX12_share (t : zT) (m : zM) (a : Nat) (p1 : Int32) (Q : Int32 → zM → Prop) : Prop := (tK t a = 12 ∧ (((gR m a 3) = 0 → (wX12_refused t (pI m a 0 0) a 1 (fun r3 m4 => (Q r3 m4)))) ∧ (¬ (gR m a 3) = 0 → ((p1 < 0 → (wX12_share_J35 t (pI m a 0 0) a Q)) ∧ (¬ p1 < 0 → (tK t (gR m a 3) = 11 ∧ ((p1 < ((1 : Int32) <<< ((gI (pI m a 0 0) (gR m a 3) 4) &&& 31)) → (∃ n32, wX12_share_L45 t a p1 Q (fun v28 m29 => (wX12_good t m29 a v28 (fun r30 m31 => (Q r30 m31)))) n32 0 0 (pI m a 0 0))) ∧ (¬ p1 < ((1 : Int32) <<< ((gI (pI m a 0 0) (gR m a 3) 4) &&& 31)) → (wX12_share_J35 t (pI m a 0 0) a Q)))))))))
set_option maxHeartbeats 4000000 in
set_option maxRecDepth 20000 in
theorem kX12_share {l : Launch} {t : zT} {m : zM} {a : Nat} {p1 : Int32} {Q : Int32 → zM → Prop} (H : wX12_share t m a p1 Q) : zMet l yX12_share cX12_share 4 (some .int) 5 0 0 t m [.ref a, .int p1] (zPi t Q) := by
  refine zmet (by decide +kernel) (Nat.le_of_ble_eq_true rfl) ?_
  intro p e s mt args below meth c g C hr hm
  unfold wX12_share at H
  have hu1 : ((0, 0) : Nat × Nat).1 ≤ 0 := Nat.le_refl 0
  have hu2 : ((0, 0) : Nat × Nat).2 ≤ 0 := Nat.le_refl 0
  refine z_aload_n (pc := 0) C (dX12_share 0 rfl) rfl 0 rfl ?_
  refine z_iconst (pc := 1) (v := 0) C (dX12_share 1 rfl) (by decide) ?_
  obtain ⟨h1, H⟩ := H
  refine z_putI (pc := 2) C zc12 h1 0 (by decide) rfl rfl wf_X12_41 (dX12_share 2 rfl) ?_
  refine z_aload_n (pc := 5) C (dX12_share 3 rfl) rfl 0 rfl ?_
  refine z_getR (pc := 6) C zc12 h1 3 (by decide) rfl wf_X12_314 (dX12_share 4 rfl) ?_
  refine z_ifnonnull (pc := 9) (tgt := 18) C (dX12_share 5 rfl) (by decide) (fun c2 => ?_) (fun c2 => ?_)
  · replace H := H.1 c2
    refine z_aload_n (pc := 12) C (dX12_share 6 rfl) rfl 0 rfl ?_
    refine z_iconst (pc := 13) (v := 1) C (dX12_share 7 rfl) (by decide) ?_
    refine zc_Vi (pc := 14) (rest := []) C YX12_refused wl_X12_47 (kX12_refused H) (by decide) h1 rfl (by decide) (dX12_share 8 rfl) rfl hu1 hu2 (Nat.le_of_ble_eq_true rfl) rfl (fun r3 m4 H => ?_)
    exact z_iret (pc := 17) C hr hu1 hu2 (dX12_share 9 rfl) ⟨rfl, _, rfl, H⟩
  · replace H := H.2 c2
    refine z_iload_n (pc := 18) C (dX12_share 10 rfl) rfl 1 rfl ?_
    refine z_if_lt (pc := 19) (tgt := 35) C (dX12_share 11 rfl) (by decide) (fun c5 => ?_) (fun c5 => ?_)
    · replace H := H.1 c5
      refine z_sub [0] rfl ?_
      exact sX12_share_J35 C hr hm hu1 hu2 H
    · replace H := H.2 c5
      refine z_iload_n (pc := 22) C (dX12_share 12 rfl) rfl 1 rfl ?_
      refine z_iconst (pc := 23) (v := 1) C (dX12_share 13 rfl) (by decide) ?_
      refine z_aload_n (pc := 24) C (dX12_share 14 rfl) rfl 0 rfl ?_
      refine z_getR (pc := 25) C zc12 h1 3 (by decide) rfl wf_X12_314 (dX12_share 15 rfl) ?_
      obtain ⟨h9, H⟩ := H
      refine z_getIN (pc := 28) C zc11 h9 4 (by decide) rfl wn_X12_289 (dX12_share 16 rfl) ?_
      refine z_ishl (pc := 31) C (dX12_share 17 rfl) ?_
      refine z_icmp_lt (pc := 32) (tgt := 41) C (dX12_share 18 rfl) (by decide) (fun c10 => ?_) (fun c10 => ?_)
      · replace H := H.1 c10
        refine z_iconst (pc := 41) (v := 0) C (dX12_share 23 rfl) (by decide) ?_
        refine z_istore_n (pc := 42) (i := 2) (lv2 := [(2, .int 0), (0, .ref a), (1, .int p1)]) C (dX12_share 24 rfl) rfl (by decide) rfl ?_
        refine z_iconst (pc := 43) (v := 0) C (dX12_share 25 rfl) (by decide) ?_
        refine z_istore_n (pc := 44) (i := 3) (lv2 := [(3, .int 0), (2, .int 0), (0, .ref a), (1, .int p1)]) C (dX12_share 26 rfl) rfl (by decide) rfl ?_
        obtain ⟨n32, H⟩ := H
        refine z_sub [2, 3, 1, 0] rfl ?_
        refine sX12_share_L45 C hr hm hu1 hu2 (fun v28 m29 H => ?_) n32 0 0 (pI m a 0 0) H
        refine z_aload_n (pc := 105) C (dX12_share 57 rfl) rfl 0 rfl ?_
        refine z_iload_n (pc := 106) C (dX12_share 58 rfl) rfl 1 rfl ?_
        refine zc_Vi (pc := 107) (rest := []) C YX12_good wl_X12_51 (kX12_good H) (by decide) h1 rfl (by decide) (dX12_share 59 rfl) rfl hu1 hu2 (Nat.le_of_ble_eq_true rfl) rfl (fun r30 m31 H => ?_)
        exact z_iret (pc := 110) C hr hu1 hu2 (dX12_share 60 rfl) ⟨rfl, _, rfl, H⟩
      · replace H := H.2 c10
        refine z_sub [0] rfl ?_
        exact sX12_share_J35 C hr hm hu1 hu2 H
def wX12_passes_L63 (t : zT) (a_0 : Nat) (x_2 : Int32) (x_3 : Int32) (Q : Int32 → zM → Prop) (k94 : zM → Prop) : Nat → Int32 → zM → Prop
  | 0, _, _ => False
  | n + 1, x_4, m => (tK t a_0 = 12 ∧ (tK t (gR m a_0 3) = 11 ∧ (((gI m (gR m a_0 3) 0) ≤ x_4 → (k94 m)) ∧ (¬ (gI m (gR m a_0 3) 0) ≤ x_4 → (wX12_believed t m a_0 x_4 (fun r19 m20 => (tK t (gR m a_0 25) = 14 ∧ (vp_in x_4 (tL t (gR m a_0 25)) ∧ (wX12_passes_L63 t a_0 x_2 x_3 Q k94 n (x_4 + 1) (pI m20 (gR m a_0 25) x_4.toNatClampNeg r19))))))))))
set_option maxHeartbeats 4000000 in
set_option maxRecDepth 20000 in
theorem sX12_passes_L63 {p : Program} {l : Launch} {e : Env} {s : State} {mt : MethodId} {args : Array Value} {below : List Frame} {meth : Method} {c : Code} {g : zG} {u : Nat × Nat} {mc ms : Nat} {t : zT} {a_0 : Nat} {x_2 : Int32} {x_3 : Int32} {Q : Int32 → zM → Prop} {k94 : zM → Prop} (C : zC p (zRm 6 mc ms) s mt args meth c g cX12_passes 8 yX12_passes.cls 6) (hr : meth.sig.returnType = (some .int)) (hm : meth.name = yX12_passes.name) (hu1 : u.1 ≤ mc) (hu2 : u.2 ≤ ms)
    (K94 : ∀ (m : zM), k94 m → zW p l e (zRm 6 mc ms) s mt args below meth c g (MQ below (zQc g (zPi t Q)) args s mc ms (zFar g)) u 8 t m 94 [(0, .ref a_0), (2, .int x_2), (3, .int x_3)] []) : ∀ (n : Nat) (x_4 : Int32) (m : zM), wX12_passes_L63 t a_0 x_2 x_3 Q k94 n x_4 m → zW p l e (zRm 6 mc ms) s mt args below meth c g (MQ below (zQc g (zPi t Q)) args s mc ms (zFar g)) u 8 t m 63 [(0, .ref a_0), (2, .int x_2), (3, .int x_3), (4, .int x_4)] [] := by
  intro n
  induction n with
  | zero => intro x_4 m H; exact H.elim
  | succ n ih =>
    intro x_4 m H
    simp only [wX12_passes_L63] at H
    refine z_iload (pc := 63) C (dX12_passes 35 rfl) 3 rfl ?_
    refine z_aload_n (pc := 65) C (dX12_passes 36 rfl) rfl 0 rfl ?_
    obtain ⟨h16, H⟩ := H
    refine z_getR (pc := 66) C zc12 h16 3 (by decide) rfl wf_X12_314 (dX12_passes 37 rfl) ?_
    obtain ⟨h17, H⟩ := H
    refine z_getIN (pc := 69) C zc11 h17 0 (by decide) rfl wn_X12_180 (dX12_passes 38 rfl) ?_
    refine z_icmp_ge (pc := 72) (tgt := 94) C (dX12_passes 39 rfl) (by decide) (fun c18 => ?_) (fun c18 => ?_)
    · replace H := H.1 c18
      refine z_sub [0, 1, 2] rfl ?_
      exact K94 m H
    · replace H := H.2 c18
      refine z_aload_n (pc := 75) C (dX12_passes 40 rfl) rfl 0 rfl ?_
      refine z_getR (pc := 76) C zc12 h16 25 (by decide) rfl wf_X12_32 (dX12_passes 41 rfl) ?_
      refine z_iload (pc := 79) C (dX12_passes 42 rfl) 3 rfl ?_
      refine z_aload_n (pc := 81) C (dX12_passes 43 rfl) rfl 0 rfl ?_
      refine z_iload (pc := 82) C (dX12_passes 44 rfl) 3 rfl ?_
      refine zc_Vi (pc := 84) (rest := [.int x_4, .ref (gR m a_0 25)]) C YX12_believed wl_X12_456 (kX12_believed H) (by decide) h16 rfl (by decide) (dX12_passes 45 rfl) rfl hu1 hu2 (Nat.le_of_ble_eq_true rfl) rfl (fun r19 m20 H => ?_)
      obtain ⟨h21, H⟩ := H
      obtain ⟨h22, H⟩ := H
      refine z_iastore (pc := 87) C h21 h22 (dX12_passes 46 rfl) ?_
      refine z_iinc (pc := 88) (i := 4) (v := x_4 + 1) (lv2 := [(4, .int (x_4 + 1)), (0, .ref a_0), (2, .int x_2), (3, .int x_3)]) C (dX12_passes 47 rfl) 3 rfl (by rfl) (by decide) rfl ?_
      refine z_goto (pc := 91) (tgt := 63) C (dX12_passes 48 rfl) (by decide) ?_
      refine z_sub [1, 2, 3, 0] rfl ?_
      exact ih (x_4 + 1) (pI m20 (gR m a_0 25) x_4.toNatClampNeg r19) H
def wX12_passes_J173 (t : zT) (m : zM) (a_0 : Nat) (x_2 : Int32) (x_3 : Int32) (x_4 : Int32) (x_5 : Int32) (x_7 : Int32) (s_0 : Int32) (s_1 : Int32) (Q : Int32 → zM → Prop) (r136 : Int32 → Int32 → zM → Prop) : Prop := (r136 (s_1 + s_0) (x_7 + 1) m)
set_option maxHeartbeats 4000000 in
set_option maxRecDepth 20000 in
theorem sX12_passes_J173 {p : Program} {l : Launch} {e : Env} {s : State} {mt : MethodId} {args : Array Value} {below : List Frame} {meth : Method} {c : Code} {g : zG} {u : Nat × Nat} {mc ms : Nat} {t : zT} {m : zM} {a_0 : Nat} {x_2 : Int32} {x_3 : Int32} {x_4 : Int32} {x_5 : Int32} {x_7 : Int32} {s_0 : Int32} {s_1 : Int32} {Q : Int32 → zM → Prop} {r136 : Int32 → Int32 → zM → Prop} (C : zC p (zRm 6 mc ms) s mt args meth c g cX12_passes 8 yX12_passes.cls 6) (hr : meth.sig.returnType = (some .int)) (hm : meth.name = yX12_passes.name) (hu1 : u.1 ≤ mc) (hu2 : u.2 ≤ ms)
    (R136 : ∀ (v0 : Int32) (v1 : Int32) (m : zM), r136 v0 v1 m → zW p l e (zRm 6 mc ms) s mt args below meth c g (MQ below (zQc g (zPi t Q)) args s mc ms (zFar g)) u 8 t m 136 [(0, .ref a_0), (2, .int x_2), (3, .int x_3), (4, .int x_4), (5, .int x_5), (6, .int v0), (7, .int v1)] []) (H : wX12_passes_J173 t m a_0 x_2 x_3 x_4 x_5 x_7 s_0 s_1 Q r136) : zW p l e (zRm 6 mc ms) s mt args below meth c g (MQ below (zQc g (zPi t Q)) args s mc ms (zFar g)) u 8 t m 173 [(0, .ref a_0), (2, .int x_2), (3, .int x_3), (4, .int x_4), (5, .int x_5), (7, .int x_7)] [.int s_0, .int s_1] := by
  unfold wX12_passes_J173 at H
  refine z_iadd (pc := 173) C (dX12_passes 89 rfl) ?_
  refine z_istore (pc := 174) (i := 6) (lv2 := [(6, .int (s_1 + s_0)), (0, .ref a_0), (2, .int x_2), (3, .int x_3), (4, .int x_4), (5, .int x_5), (7, .int x_7)]) C (dX12_passes 90 rfl) (by decide) rfl ?_
  refine z_iinc (pc := 176) (i := 7) (v := x_7 + 1) (lv2 := [(7, .int (x_7 + 1)), (6, .int (s_1 + s_0)), (0, .ref a_0), (2, .int x_2), (3, .int x_3), (4, .int x_4), (5, .int x_5)]) C (dX12_passes 91 rfl) 6 rfl (by rfl) (by decide) rfl ?_
  refine z_goto (pc := 179) (tgt := 136) C (dX12_passes 92 rfl) (by decide) ?_
  refine z_sub [2, 3, 4, 5, 6, 1, 0] rfl ?_
  exact R136 (s_1 + s_0) (x_7 + 1) m H
def wX12_passes_L136 (t : zT) (a_0 : Nat) (x_2 : Int32) (x_3 : Int32) (x_4 : Int32) (x_5 : Int32) (Q : Int32 → zM → Prop) (k182 : Int32 → zM → Prop) : Nat → Int32 → Int32 → zM → Prop
  | 0, _, _, _ => False
  | n + 1, x_6, x_7, m => (tK t a_0 = 12 ∧ (tK t (gR m a_0 3) = 11 ∧ (((gI m (gR m a_0 3) 0) ≤ x_7 → (k182 x_6 m)) ∧ (¬ (gI m (gR m a_0 3) 0) ≤ x_7 → (tK t (gR m a_0 25) = 14 ∧ (vp_in x_7 (tL t (gR m a_0 25)) ∧ (wX12_answerOf t m a_0 x_5 x_7 (fun r35 m36 => (((gI m (gR m a_0 25) x_7.toNatClampNeg) = r35 → (wX12_passes_J173 t m36 a_0 x_2 x_3 x_4 x_5 x_7 1 x_6 Q (wX12_passes_L136 t a_0 x_2 x_3 x_4 x_5 Q k182 n))) ∧ (¬ (gI m (gR m a_0 25) x_7.toNatClampNeg) = r35 → (wX12_passes_J173 t m36 a_0 x_2 x_3 x_4 x_5 x_7 0 x_6 Q (wX12_passes_L136 t a_0 x_2 x_3 x_4 x_5 Q k182 n))))))))))))
set_option maxHeartbeats 4000000 in
set_option maxRecDepth 20000 in
theorem sX12_passes_L136 {p : Program} {l : Launch} {e : Env} {s : State} {mt : MethodId} {args : Array Value} {below : List Frame} {meth : Method} {c : Code} {g : zG} {u : Nat × Nat} {mc ms : Nat} {t : zT} {a_0 : Nat} {x_2 : Int32} {x_3 : Int32} {x_4 : Int32} {x_5 : Int32} {Q : Int32 → zM → Prop} {k182 : Int32 → zM → Prop} (C : zC p (zRm 6 mc ms) s mt args meth c g cX12_passes 8 yX12_passes.cls 6) (hr : meth.sig.returnType = (some .int)) (hm : meth.name = yX12_passes.name) (hu1 : u.1 ≤ mc) (hu2 : u.2 ≤ ms)
    (K182 : ∀ (v0 : Int32) (m : zM), k182 v0 m → zW p l e (zRm 6 mc ms) s mt args below meth c g (MQ below (zQc g (zPi t Q)) args s mc ms (zFar g)) u 8 t m 182 [(0, .ref a_0), (2, .int x_2), (3, .int x_3), (4, .int x_4), (5, .int x_5), (6, .int v0)] []) : ∀ (n : Nat) (x_6 : Int32) (x_7 : Int32) (m : zM), wX12_passes_L136 t a_0 x_2 x_3 x_4 x_5 Q k182 n x_6 x_7 m → zW p l e (zRm 6 mc ms) s mt args below meth c g (MQ below (zQc g (zPi t Q)) args s mc ms (zFar g)) u 8 t m 136 [(0, .ref a_0), (2, .int x_2), (3, .int x_3), (4, .int x_4), (5, .int x_5), (6, .int x_6), (7, .int x_7)] [] := by
  intro n
  induction n with
  | zero => intro x_6 x_7 m H; exact H.elim
  | succ n ih =>
    intro x_6 x_7 m H
    simp only [wX12_passes_L136] at H
    refine z_iload (pc := 136) C (dX12_passes 71 rfl) 6 rfl ?_
    refine z_aload_n (pc := 138) C (dX12_passes 72 rfl) rfl 0 rfl ?_
    obtain ⟨h30, H⟩ := H
    refine z_getR (pc := 139) C zc12 h30 3 (by decide) rfl wf_X12_314 (dX12_passes 73 rfl) ?_
    obtain ⟨h31, H⟩ := H
    refine z_getIN (pc := 142) C zc11 h31 0 (by decide) rfl wn_X12_180 (dX12_passes 74 rfl) ?_
    refine z_icmp_ge (pc := 145) (tgt := 182) C (dX12_passes 75 rfl) (by decide) (fun c32 => ?_) (fun c32 => ?_)
    · replace H := H.1 c32
      refine z_sub [0, 1, 2, 3, 4, 5] rfl ?_
      exact K182 x_6 m H
    · replace H := H.2 c32
      refine z_iload (pc := 148) C (dX12_passes 76 rfl) 5 rfl ?_
      refine z_aload_n (pc := 150) C (dX12_passes 77 rfl) rfl 0 rfl ?_
      refine z_getR (pc := 151) C zc12 h30 25 (by decide) rfl wf_X12_32 (dX12_passes 78 rfl) ?_
      refine z_iload (pc := 154) C (dX12_passes 79 rfl) 6 rfl ?_
      obtain ⟨h33, H⟩ := H
      obtain ⟨h34, H⟩ := H
      refine z_iaload (pc := 156) C h33 h34 (dX12_passes 80 rfl) ?_
      refine z_aload_n (pc := 157) C (dX12_passes 81 rfl) rfl 0 rfl ?_
      refine z_iload (pc := 158) C (dX12_passes 82 rfl) 4 rfl ?_
      refine z_iload (pc := 160) C (dX12_passes 83 rfl) 6 rfl ?_
      refine zc_Vi (pc := 162) (rest := [.int (gI m (gR m a_0 25) x_7.toNatClampNeg), .int x_6]) C YX12_answerOf wl_X12_320 (kX12_answerOf H) (by decide) h30 rfl (by decide) (dX12_passes 84 rfl) rfl hu1 hu2 (Nat.le_of_ble_eq_true rfl) rfl (fun r35 m36 H => ?_)
      refine z_icmp_ne (pc := 165) (tgt := 172) C (dX12_passes 85 rfl) (by decide) (fun c37 => ?_) (fun c37 => ?_)
      · replace H := H.2 c37
        refine z_iconst (pc := 172) (v := 0) C (dX12_passes 88 rfl) (by decide) ?_
        refine z_sub [0, 1, 2, 3, 4, 6] rfl ?_
        exact sX12_passes_J173 C hr hm hu1 hu2 ih H
      · replace H := H.1 c37
        refine z_iconst (pc := 168) (v := 1) C (dX12_passes 86 rfl) (by decide) ?_
        refine z_goto (pc := 169) (tgt := 173) C (dX12_passes 87 rfl) (by decide) ?_
        refine z_sub [0, 1, 2, 3, 4, 6] rfl ?_
        exact sX12_passes_J173 C hr hm hu1 hu2 ih H
def wX12_passes_J205 (t : zT) (m : zM) (a_0 : Nat) (x_2 : Int32) (x_3 : Int32) (x_5 : Int32) (s_0 : Int32) (s_1 : Int32) (Q : Int32 → zM → Prop) (r118 : Int32 → Int32 → zM → Prop) : Prop := (r118 (s_1 + s_0) (x_5 + 1) m)
set_option maxHeartbeats 4000000 in
set_option maxRecDepth 20000 in
theorem sX12_passes_J205 {p : Program} {l : Launch} {e : Env} {s : State} {mt : MethodId} {args : Array Value} {below : List Frame} {meth : Method} {c : Code} {g : zG} {u : Nat × Nat} {mc ms : Nat} {t : zT} {m : zM} {a_0 : Nat} {x_2 : Int32} {x_3 : Int32} {x_5 : Int32} {s_0 : Int32} {s_1 : Int32} {Q : Int32 → zM → Prop} {r118 : Int32 → Int32 → zM → Prop} (C : zC p (zRm 6 mc ms) s mt args meth c g cX12_passes 8 yX12_passes.cls 6) (hr : meth.sig.returnType = (some .int)) (hm : meth.name = yX12_passes.name) (hu1 : u.1 ≤ mc) (hu2 : u.2 ≤ ms)
    (R118 : ∀ (v0 : Int32) (v1 : Int32) (m : zM), r118 v0 v1 m → zW p l e (zRm 6 mc ms) s mt args below meth c g (MQ below (zQc g (zPi t Q)) args s mc ms (zFar g)) u 8 t m 118 [(0, .ref a_0), (2, .int x_2), (3, .int x_3), (4, .int v0), (5, .int v1)] []) (H : wX12_passes_J205 t m a_0 x_2 x_3 x_5 s_0 s_1 Q r118) : zW p l e (zRm 6 mc ms) s mt args below meth c g (MQ below (zQc g (zPi t Q)) args s mc ms (zFar g)) u 8 t m 205 [(0, .ref a_0), (2, .int x_2), (3, .int x_3), (5, .int x_5)] [.int s_0, .int s_1] := by
  unfold wX12_passes_J205 at H
  refine z_iadd (pc := 205) C (dX12_passes 105 rfl) ?_
  refine z_istore (pc := 206) (i := 4) (lv2 := [(4, .int (s_1 + s_0)), (0, .ref a_0), (2, .int x_2), (3, .int x_3), (5, .int x_5)]) C (dX12_passes 106 rfl) (by decide) rfl ?_
  refine z_iinc (pc := 208) (i := 5) (v := x_5 + 1) (lv2 := [(5, .int (x_5 + 1)), (4, .int (s_1 + s_0)), (0, .ref a_0), (2, .int x_2), (3, .int x_3)]) C (dX12_passes 107 rfl) 4 rfl (by rfl) (by decide) rfl ?_
  refine z_goto (pc := 211) (tgt := 118) C (dX12_passes 108 rfl) (by decide) ?_
  refine z_sub [2, 3, 4, 1, 0] rfl ?_
  exact R118 (s_1 + s_0) (x_5 + 1) m H
def wX12_passes_J204 (t : zT) (m : zM) (a_0 : Nat) (x_2 : Int32) (x_3 : Int32) (x_5 : Int32) (s_0 : Int32) (Q : Int32 → zM → Prop) (r118 : Int32 → Int32 → zM → Prop) : Prop := (wX12_passes_J205 t m a_0 x_2 x_3 x_5 0 s_0 Q r118)
set_option maxHeartbeats 4000000 in
set_option maxRecDepth 20000 in
theorem sX12_passes_J204 {p : Program} {l : Launch} {e : Env} {s : State} {mt : MethodId} {args : Array Value} {below : List Frame} {meth : Method} {c : Code} {g : zG} {u : Nat × Nat} {mc ms : Nat} {t : zT} {m : zM} {a_0 : Nat} {x_2 : Int32} {x_3 : Int32} {x_5 : Int32} {s_0 : Int32} {Q : Int32 → zM → Prop} {r118 : Int32 → Int32 → zM → Prop} (C : zC p (zRm 6 mc ms) s mt args meth c g cX12_passes 8 yX12_passes.cls 6) (hr : meth.sig.returnType = (some .int)) (hm : meth.name = yX12_passes.name) (hu1 : u.1 ≤ mc) (hu2 : u.2 ≤ ms)
    (R118 : ∀ (v0 : Int32) (v1 : Int32) (m : zM), r118 v0 v1 m → zW p l e (zRm 6 mc ms) s mt args below meth c g (MQ below (zQc g (zPi t Q)) args s mc ms (zFar g)) u 8 t m 118 [(0, .ref a_0), (2, .int x_2), (3, .int x_3), (4, .int v0), (5, .int v1)] []) (H : wX12_passes_J204 t m a_0 x_2 x_3 x_5 s_0 Q r118) : zW p l e (zRm 6 mc ms) s mt args below meth c g (MQ below (zQc g (zPi t Q)) args s mc ms (zFar g)) u 8 t m 204 [(0, .ref a_0), (2, .int x_2), (3, .int x_3), (5, .int x_5)] [.int s_0] := by
  unfold wX12_passes_J204 at H
  refine z_iconst (pc := 204) (v := 0) C (dX12_passes 104 rfl) (by decide) ?_
  refine z_sub [0, 1, 2, 3] rfl ?_
  exact sX12_passes_J205 C hr hm hu1 hu2 R118 H
def wX12_passes_L118 (t : zT) (a_0 : Nat) (x_2 : Int32) (x_3 : Int32) (Q : Int32 → zM → Prop) (k214 : Int32 → zM → Prop) : Nat → Int32 → Int32 → zM → Prop
  | 0, _, _, _ => False
  | n + 1, x_4, x_5, m => (tK t a_0 = 12 ∧ (tK t (gR m a_0 3) = 11 ∧ (((gI m (gR m a_0 3) 9) ≤ x_5 → (k214 x_4 m)) ∧ (¬ (gI m (gR m a_0 3) 9) ≤ x_5 → (∃ n44, wX12_passes_L136 t a_0 x_2 x_3 x_4 x_5 Q (fun v38 m39 => (tK t (gR m39 a_0 17) = 16 ∧ (vp_in x_5 (tL t (gR m39 a_0 17)) ∧ (((gI m39 (gR m39 a_0 17) x_5.toNatClampNeg) = 0 → (wX12_passes_J204 t m39 a_0 x_2 x_3 x_5 x_4 Q (wX12_passes_L118 t a_0 x_2 x_3 Q k214 n))) ∧ (¬ (gI m39 (gR m39 a_0 17) x_5.toNatClampNeg) = 0 → ((v38 < x_2 → (wX12_passes_J204 t m39 a_0 x_2 x_3 x_5 x_4 Q (wX12_passes_L118 t a_0 x_2 x_3 Q k214 n))) ∧ (¬ v38 < x_2 → (wX12_passes_J205 t m39 a_0 x_2 x_3 x_5 1 x_4 Q (wX12_passes_L118 t a_0 x_2 x_3 Q k214 n))))))))) n44 0 0 m)))))
set_option maxHeartbeats 4000000 in
set_option maxRecDepth 20000 in
theorem sX12_passes_L118 {p : Program} {l : Launch} {e : Env} {s : State} {mt : MethodId} {args : Array Value} {below : List Frame} {meth : Method} {c : Code} {g : zG} {u : Nat × Nat} {mc ms : Nat} {t : zT} {a_0 : Nat} {x_2 : Int32} {x_3 : Int32} {Q : Int32 → zM → Prop} {k214 : Int32 → zM → Prop} (C : zC p (zRm 6 mc ms) s mt args meth c g cX12_passes 8 yX12_passes.cls 6) (hr : meth.sig.returnType = (some .int)) (hm : meth.name = yX12_passes.name) (hu1 : u.1 ≤ mc) (hu2 : u.2 ≤ ms)
    (K214 : ∀ (v0 : Int32) (m : zM), k214 v0 m → zW p l e (zRm 6 mc ms) s mt args below meth c g (MQ below (zQc g (zPi t Q)) args s mc ms (zFar g)) u 8 t m 214 [(0, .ref a_0), (3, .int x_3), (4, .int v0)] []) : ∀ (n : Nat) (x_4 : Int32) (x_5 : Int32) (m : zM), wX12_passes_L118 t a_0 x_2 x_3 Q k214 n x_4 x_5 m → zW p l e (zRm 6 mc ms) s mt args below meth c g (MQ below (zQc g (zPi t Q)) args s mc ms (zFar g)) u 8 t m 118 [(0, .ref a_0), (2, .int x_2), (3, .int x_3), (4, .int x_4), (5, .int x_5)] [] := by
  intro n
  induction n with
  | zero => intro x_4 x_5 m H; exact H.elim
  | succ n ih =>
    intro x_4 x_5 m H
    simp only [wX12_passes_L118] at H
    refine z_iload (pc := 118) C (dX12_passes 62 rfl) 4 rfl ?_
    refine z_aload_n (pc := 120) C (dX12_passes 63 rfl) rfl 0 rfl ?_
    obtain ⟨h27, H⟩ := H
    refine z_getR (pc := 121) C zc12 h27 3 (by decide) rfl wf_X12_314 (dX12_passes 64 rfl) ?_
    obtain ⟨h28, H⟩ := H
    refine z_getIN (pc := 124) C zc11 h28 9 (by decide) rfl wn_X12_217 (dX12_passes 65 rfl) ?_
    refine z_icmp_ge (pc := 127) (tgt := 214) C (dX12_passes 66 rfl) (by decide) (fun c29 => ?_) (fun c29 => ?_)
    · replace H := H.1 c29
      refine z_sub [0, 2, 3] rfl ?_
      exact K214 x_4 m H
    · replace H := H.2 c29
      refine z_iconst (pc := 130) (v := 0) C (dX12_passes 67 rfl) (by decide) ?_
      refine z_istore (pc := 131) (i := 6) (lv2 := [(6, .int 0), (0, .ref a_0), (2, .int x_2), (3, .int x_3), (4, .int x_4), (5, .int x_5)]) C (dX12_passes 68 rfl) (by decide) rfl ?_
      refine z_iconst (pc := 133) (v := 0) C (dX12_passes 69 rfl) (by decide) ?_
      refine z_istore (pc := 134) (i := 7) (lv2 := [(7, .int 0), (6, .int 0), (0, .ref a_0), (2, .int x_2), (3, .int x_3), (4, .int x_4), (5, .int x_5)]) C (dX12_passes 70 rfl) (by decide) rfl ?_
      obtain ⟨n44, H⟩ := H
      refine z_sub [2, 3, 4, 5, 6, 1, 0] rfl ?_
      refine sX12_passes_L136 C hr hm hu1 hu2 (fun v38 m39 H => ?_) n44 0 0 m H
      refine z_iload (pc := 182) C (dX12_passes 93 rfl) 3 rfl ?_
      refine z_aload_n (pc := 184) C (dX12_passes 94 rfl) rfl 0 rfl ?_
      refine z_getR (pc := 185) C zc12 h27 17 (by decide) rfl wf_X12_21 (dX12_passes 95 rfl) ?_
      refine z_iload (pc := 188) C (dX12_passes 96 rfl) 4 rfl ?_
      obtain ⟨h40, H⟩ := H
      obtain ⟨h41, H⟩ := H
      refine z_zaload (pc := 190) C h40 h41 (dX12_passes 97 rfl) ?_
      refine z_if_eq (pc := 191) (tgt := 204) C (dX12_passes 98 rfl) (by decide) (fun c42 => ?_) (fun c42 => ?_)
      · replace H := H.1 c42
        refine z_sub [0, 1, 2, 4] rfl ?_
        exact sX12_passes_J204 C hr hm hu1 hu2 ih H
      · replace H := H.2 c42
        refine z_iload (pc := 194) C (dX12_passes 99 rfl) 5 rfl ?_
        refine z_iload_n (pc := 196) C (dX12_passes 100 rfl) rfl 1 rfl ?_
        refine z_icmp_lt (pc := 197) (tgt := 204) C (dX12_passes 101 rfl) (by decide) (fun c43 => ?_) (fun c43 => ?_)
        · replace H := H.1 c43
          refine z_sub [0, 1, 2, 4] rfl ?_
          exact sX12_passes_J204 C hr hm hu1 hu2 ih H
        · replace H := H.2 c43
          refine z_iconst (pc := 200) (v := 1) C (dX12_passes 102 rfl) (by decide) ?_
          refine z_goto (pc := 201) (tgt := 205) C (dX12_passes 103 rfl) (by decide) ?_
          refine z_sub [0, 1, 2, 4] rfl ?_
          exact sX12_passes_J205 C hr hm hu1 hu2 ih H
def wX12_passes (t : zT) (m : zM) (a : Nat) (p1 : Int32) (p2 : Int32) (p3 : Int32) (Q : Int32 → zM → Prop) : Prop := (tK t a = 12 ∧ (wX12_isChild t (pI m a 0 0) a p1 (fun r2 m3 => ((r2 = 0 → (wX12_refused t m3 a 1 (fun r55 m56 => (Q r55 m56)))) ∧ (¬ r2 = 0 → (wX12_in t m3 p2 0 8 (fun r5 m6 => ((r5 = 0 → (wX12_refused t m6 a 2 (fun r53 m54 => (Q r53 m54)))) ∧ (¬ r5 = 0 → (tK t (gR m6 a 3) = 11 ∧ (tK t (gR m6 (gR m6 a 3) 13) = 14 ∧ (vp_in p1 (tL t (gR m6 (gR m6 a 3) 13)) ∧ (wX12_sayingsOf t m6 a (gI m6 (gR m6 (gR m6 a 3) 13) p1.toNatClampNeg) (fun r11 m12 => (tK t (gR m12 a 3) = 11 ∧ (wX12_asks t m12 a r11 (gI m12 (gR m12 a 3) 6) 0 (fun m15 => (∃ n52, wX12_passes_L63 t a p2 p3 Q (fun m23 => (wX12_asksWorlds t m23 a (fun m25 => (((gI m25 a 19) = 0 → (wX12_refused t m25 a 6 (fun r50 m51 => (Q r50 m51)))) ∧ (¬ (gI m25 a 19) = 0 → (∃ n49, wX12_passes_L118 t a p2 p3 Q (fun v45 m46 => (wX12_lowest t m46 a v45.toInt64 ((gI m46 a 19).toInt64) p3 (fun r47 m48 => (Q r47 m48)))) n49 0 0 m25)))))) n52 0 m15))))))))))))))))))
set_option maxHeartbeats 4000000 in
set_option maxRecDepth 20000 in
theorem kX12_passes {l : Launch} {t : zT} {m : zM} {a : Nat} {p1 : Int32} {p2 : Int32} {p3 : Int32} {Q : Int32 → zM → Prop} (H : wX12_passes t m a p1 p2 p3 Q) : zMet l yX12_passes cX12_passes 8 (some .int) 6 0 0 t m [.ref a, .int p1, .int p2, .int p3] (zPi t Q) := by
  refine zmet (by decide +kernel) (Nat.le_of_ble_eq_true rfl) ?_
  intro p e s mt args below meth c g C hr hm
  unfold wX12_passes at H
  have hu1 : ((0, 0) : Nat × Nat).1 ≤ 0 := Nat.le_refl 0
  have hu2 : ((0, 0) : Nat × Nat).2 ≤ 0 := Nat.le_refl 0
  refine z_aload_n (pc := 0) C (dX12_passes 0 rfl) rfl 0 rfl ?_
  refine z_iconst (pc := 1) (v := 0) C (dX12_passes 1 rfl) (by decide) ?_
  obtain ⟨h1, H⟩ := H
  refine z_putI (pc := 2) C zc12 h1 0 (by decide) rfl rfl wf_X12_41 (dX12_passes 2 rfl) ?_
  refine z_aload_n (pc := 5) C (dX12_passes 3 rfl) rfl 0 rfl ?_
  refine z_iload_n (pc := 6) C (dX12_passes 4 rfl) rfl 1 rfl ?_
  refine zc_Vi (pc := 7) (rest := []) C YX12_isChild wl_X12_450 (kX12_isChild H) (by decide) h1 rfl (by decide) (dX12_passes 5 rfl) rfl hu1 hu2 (Nat.le_of_ble_eq_true rfl) rfl (fun r2 m3 H => ?_)
  refine z_if_ne (pc := 10) (tgt := 19) C (dX12_passes 6 rfl) (by decide) (fun c4 => ?_) (fun c4 => ?_)
  · replace H := H.2 c4
    refine z_iload_n (pc := 19) C (dX12_passes 11 rfl) rfl 2 rfl ?_
    refine z_iconst (pc := 20) (v := 0) C (dX12_passes 12 rfl) (by decide) ?_
    refine z_bipush (pc := 21) (v := 8) C (dX12_passes 13 rfl) (by decide) ?_
    refine zc_Si (pc := 23) (rest := []) C YX12_in wl_X12_119 (kX12_in H) (by decide) (dX12_passes 14 rfl) rfl hu1 hu2 (Nat.le_of_ble_eq_true rfl) rfl (fun r5 m6 H => ?_)
    refine z_if_ne (pc := 26) (tgt := 35) C (dX12_passes 15 rfl) (by decide) (fun c7 => ?_) (fun c7 => ?_)
    · replace H := H.2 c7
      refine z_aload_n (pc := 35) C (dX12_passes 20 rfl) rfl 0 rfl ?_
      refine z_aload_n (pc := 36) C (dX12_passes 21 rfl) rfl 0 rfl ?_
      refine z_aload_n (pc := 37) C (dX12_passes 22 rfl) rfl 0 rfl ?_
      refine z_getR (pc := 38) C zc12 h1 3 (by decide) rfl wf_X12_314 (dX12_passes 23 rfl) ?_
      obtain ⟨h8, H⟩ := H
      refine z_getRN (pc := 41) C zc11 h8 13 (by decide) rfl wn_X12_298 (dX12_passes 24 rfl) ?_
      refine z_iload_n (pc := 44) C (dX12_passes 25 rfl) rfl 1 rfl ?_
      obtain ⟨h9, H⟩ := H
      obtain ⟨h10, H⟩ := H
      refine z_iaload (pc := 45) C h9 h10 (dX12_passes 26 rfl) ?_
      refine zc_Vi (pc := 46) (rest := [.ref a]) C YX12_sayingsOf wl_X12_453 (kX12_sayingsOf H) (by decide) h1 rfl (by decide) (dX12_passes 27 rfl) rfl hu1 hu2 (Nat.le_of_ble_eq_true rfl) rfl (fun r11 m12 H => ?_)
      refine z_aload_n (pc := 49) C (dX12_passes 28 rfl) rfl 0 rfl ?_
      refine z_getR (pc := 50) C zc12 h1 3 (by decide) rfl wf_X12_314 (dX12_passes 29 rfl) ?_
      obtain ⟨h13, H⟩ := H
      refine z_getIN (pc := 53) C zc11 h13 6 (by decide) rfl wn_X12_269 (dX12_passes 30 rfl) ?_
      refine z_iconst (pc := 56) (v := 0) C (dX12_passes 31 rfl) (by decide) ?_
      refine zc_Vv (pc := 57) (rest := []) C YX12_asks wl_X12_351 (kX12_asks H) (by decide) h1 rfl (by decide) (dX12_passes 32 rfl) rfl hu1 hu2 (Nat.le_of_ble_eq_true rfl) rfl (fun m15 H => ?_)
      refine z_iconst (pc := 60) (v := 0) C (dX12_passes 33 rfl) (by decide) ?_
      refine z_istore (pc := 61) (i := 4) (lv2 := [(4, .int 0), (0, .ref a), (1, .int p1), (2, .int p2), (3, .int p3)]) C (dX12_passes 34 rfl) (by decide) rfl ?_
      obtain ⟨n52, H⟩ := H
      refine z_sub [1, 3, 4, 0] rfl ?_
      refine sX12_passes_L63 C hr hm hu1 hu2 (fun m23 H => ?_) n52 0 m15 H
      refine z_aload_n (pc := 94) C (dX12_passes 49 rfl) rfl 0 rfl ?_
      refine zc_Vv (pc := 95) (rest := []) C YX12_asksWorlds wl_X12_358 (kX12_asksWorlds H) (by decide) h1 rfl (by decide) (dX12_passes 50 rfl) rfl hu1 hu2 (Nat.le_of_ble_eq_true rfl) rfl (fun m25 H => ?_)
      refine z_aload_n (pc := 98) C (dX12_passes 51 rfl) rfl 0 rfl ?_
      refine z_getI (pc := 99) C zc12 h1 19 (by decide) rfl wf_X12_339 (dX12_passes 52 rfl) ?_
      refine z_if_ne (pc := 102) (tgt := 112) C (dX12_passes 53 rfl) (by decide) (fun c26 => ?_) (fun c26 => ?_)
      · replace H := H.2 c26
        refine z_iconst (pc := 112) (v := 0) C (dX12_passes 58 rfl) (by decide) ?_
        refine z_istore (pc := 113) (i := 4) (lv2 := [(4, .int 0), (0, .ref a), (2, .int p2), (3, .int p3)]) C (dX12_passes 59 rfl) (by decide) rfl ?_
        refine z_iconst (pc := 115) (v := 0) C (dX12_passes 60 rfl) (by decide) ?_
        refine z_istore (pc := 116) (i := 5) (lv2 := [(5, .int 0), (4, .int 0), (0, .ref a), (2, .int p2), (3, .int p3)]) C (dX12_passes 61 rfl) (by decide) rfl ?_
        obtain ⟨n49, H⟩ := H
        refine z_sub [2, 3, 4, 1, 0] rfl ?_
        refine sX12_passes_L118 C hr hm hu1 hu2 (fun v45 m46 H => ?_) n49 0 0 m25 H
        refine z_aload_n (pc := 214) C (dX12_passes 109 rfl) rfl 0 rfl ?_
        refine z_iload (pc := 215) C (dX12_passes 110 rfl) 2 rfl ?_
        refine z_i2l (pc := 217) C (dX12_passes 111 rfl) ?_
        refine z_aload_n (pc := 218) C (dX12_passes 112 rfl) rfl 0 rfl ?_
        refine z_getI (pc := 219) C zc12 h1 19 (by decide) rfl wf_X12_339 (dX12_passes 113 rfl) ?_
        refine z_i2l (pc := 222) C (dX12_passes 114 rfl) ?_
        refine z_iload_n (pc := 223) C (dX12_passes 115 rfl) rfl 1 rfl ?_
        refine zc_Vi (pc := 224) (rest := []) C YX12_lowest wl_X12_371 (kX12_lowest H) (by decide) h1 rfl (by decide) (dX12_passes 116 rfl) rfl hu1 hu2 (Nat.le_of_ble_eq_true rfl) rfl (fun r47 m48 H => ?_)
        exact z_iret (pc := 227) C hr hu1 hu2 (dX12_passes 117 rfl) ⟨rfl, _, rfl, H⟩
      · replace H := H.1 c26
        refine z_aload_n (pc := 105) C (dX12_passes 54 rfl) rfl 0 rfl ?_
        refine z_bipush (pc := 106) (v := 6) C (dX12_passes 55 rfl) (by decide) ?_
        refine zc_Vi (pc := 108) (rest := []) C YX12_refused wl_X12_47 (kX12_refused H) (by decide) h1 rfl (by decide) (dX12_passes 56 rfl) rfl hu1 hu2 (Nat.le_of_ble_eq_true rfl) rfl (fun r50 m51 H => ?_)
        exact z_iret (pc := 111) C hr hu1 hu2 (dX12_passes 57 rfl) ⟨rfl, _, rfl, H⟩
    · replace H := H.1 c7
      refine z_aload_n (pc := 29) C (dX12_passes 16 rfl) rfl 0 rfl ?_
      refine z_iconst (pc := 30) (v := 2) C (dX12_passes 17 rfl) (by decide) ?_
      refine zc_Vi (pc := 31) (rest := []) C YX12_refused wl_X12_47 (kX12_refused H) (by decide) h1 rfl (by decide) (dX12_passes 18 rfl) rfl hu1 hu2 (Nat.le_of_ble_eq_true rfl) rfl (fun r53 m54 H => ?_)
      exact z_iret (pc := 34) C hr hu1 hu2 (dX12_passes 19 rfl) ⟨rfl, _, rfl, H⟩
  · replace H := H.1 c4
    refine z_aload_n (pc := 13) C (dX12_passes 7 rfl) rfl 0 rfl ?_
    refine z_iconst (pc := 14) (v := 1) C (dX12_passes 8 rfl) (by decide) ?_
    refine zc_Vi (pc := 15) (rest := []) C YX12_refused wl_X12_47 (kX12_refused H) (by decide) h1 rfl (by decide) (dX12_passes 9 rfl) rfl hu1 hu2 (Nat.le_of_ble_eq_true rfl) rfl (fun r55 m56 H => ?_)
    exact z_iret (pc := 18) C hr hu1 hu2 (dX12_passes 10 rfl) ⟨rfl, _, rfl, H⟩
def wX12_firstSaid_J49 (t : zT) (m : zM) (a_0 : Nat) (x_1 : Int32) (x_2 : Int32) (x_3 : Int32) (Q : Int32 → zM → Prop) (r2 : Int32 → zM → Prop) : Prop := (r2 (x_3 + 1) m)
set_option maxHeartbeats 4000000 in
set_option maxRecDepth 20000 in
theorem sX12_firstSaid_J49 {p : Program} {l : Launch} {e : Env} {s : State} {mt : MethodId} {args : Array Value} {below : List Frame} {meth : Method} {c : Code} {g : zG} {u : Nat × Nat} {mc ms : Nat} {t : zT} {m : zM} {a_0 : Nat} {x_1 : Int32} {x_2 : Int32} {x_3 : Int32} {Q : Int32 → zM → Prop} {r2 : Int32 → zM → Prop} (C : zC p (zRm 0 mc ms) s mt args meth c g cX12_firstSaid 4 yX12_firstSaid.cls 0) (hr : meth.sig.returnType = (some .int)) (hm : meth.name = yX12_firstSaid.name) (hu1 : u.1 ≤ mc) (hu2 : u.2 ≤ ms)
    (R2 : ∀ (v0 : Int32) (m : zM), r2 v0 m → zW p l e (zRm 0 mc ms) s mt args below meth c g (MQ below (zQc g (zPi t Q)) args s mc ms (zFar g)) u 4 t m 2 [(0, .ref a_0), (1, .int x_1), (2, .int x_2), (3, .int v0)] []) (H : wX12_firstSaid_J49 t m a_0 x_1 x_2 x_3 Q r2) : zW p l e (zRm 0 mc ms) s mt args below meth c g (MQ below (zQc g (zPi t Q)) args s mc ms (zFar g)) u 4 t m 49 [(0, .ref a_0), (1, .int x_1), (2, .int x_2), (3, .int x_3)] [] := by
  unfold wX12_firstSaid_J49 at H
  refine z_iinc (pc := 49) (i := 3) (v := x_3 + 1) (lv2 := [(3, .int (x_3 + 1)), (0, .ref a_0), (1, .int x_1), (2, .int x_2)]) C (dX12_firstSaid 27 rfl) 3 rfl (by rfl) (by decide) rfl ?_
  refine z_goto (pc := 52) (tgt := 2) C (dX12_firstSaid 28 rfl) (by decide) ?_
  refine z_sub [1, 2, 3, 0] rfl ?_
  exact R2 (x_3 + 1) m H
def wX12_firstSaid_L2 (t : zT) (a_0 : Nat) (x_1 : Int32) (x_2 : Int32) (Q : Int32 → zM → Prop) (k55 : zM → Prop) : Nat → Int32 → zM → Prop
  | 0, _, _ => False
  | n + 1, x_3, m => (tK t a_0 = 12 ∧ (tK t (gR m a_0 3) = 11 ∧ (((gI m (gR m a_0 3) 3) ≤ x_3 → (k55 m)) ∧ (¬ (gI m (gR m a_0 3) 3) ≤ x_3 → (tK t (gR m (gR m a_0 3) 18) = 14 ∧ (vp_in x_3 (tL t (gR m (gR m a_0 3) 18)) ∧ (((gI m (gR m (gR m a_0 3) 18) x_3.toNatClampNeg) = x_1 → (tK t (gR m (gR m a_0 3) 19) = 14 ∧ (vp_in x_3 (tL t (gR m (gR m a_0 3) 19)) ∧ (((gI m (gR m (gR m a_0 3) 19) x_3.toNatClampNeg) = x_2 → (tK t (gR m (gR m a_0 3) 20) = 14 ∧ (vp_in x_3 (tL t (gR m (gR m a_0 3) 20)) ∧ (Q (gI m (gR m (gR m a_0 3) 20) x_3.toNatClampNeg) m)))) ∧ (¬ (gI m (gR m (gR m a_0 3) 19) x_3.toNatClampNeg) = x_2 → (wX12_firstSaid_J49 t m a_0 x_1 x_2 x_3 Q (wX12_firstSaid_L2 t a_0 x_1 x_2 Q k55 n))))))) ∧ (¬ (gI m (gR m (gR m a_0 3) 18) x_3.toNatClampNeg) = x_1 → (wX12_firstSaid_J49 t m a_0 x_1 x_2 x_3 Q (wX12_firstSaid_L2 t a_0 x_1 x_2 Q k55 n))))))))))
set_option maxHeartbeats 4000000 in
set_option maxRecDepth 20000 in
theorem sX12_firstSaid_L2 {p : Program} {l : Launch} {e : Env} {s : State} {mt : MethodId} {args : Array Value} {below : List Frame} {meth : Method} {c : Code} {g : zG} {u : Nat × Nat} {mc ms : Nat} {t : zT} {a_0 : Nat} {x_1 : Int32} {x_2 : Int32} {Q : Int32 → zM → Prop} {k55 : zM → Prop} (C : zC p (zRm 0 mc ms) s mt args meth c g cX12_firstSaid 4 yX12_firstSaid.cls 0) (hr : meth.sig.returnType = (some .int)) (hm : meth.name = yX12_firstSaid.name) (hu1 : u.1 ≤ mc) (hu2 : u.2 ≤ ms)
    (K55 : ∀ (m : zM), k55 m → zW p l e (zRm 0 mc ms) s mt args below meth c g (MQ below (zQc g (zPi t Q)) args s mc ms (zFar g)) u 4 t m 55 [] []) : ∀ (n : Nat) (x_3 : Int32) (m : zM), wX12_firstSaid_L2 t a_0 x_1 x_2 Q k55 n x_3 m → zW p l e (zRm 0 mc ms) s mt args below meth c g (MQ below (zQc g (zPi t Q)) args s mc ms (zFar g)) u 4 t m 2 [(0, .ref a_0), (1, .int x_1), (2, .int x_2), (3, .int x_3)] [] := by
  intro n
  induction n with
  | zero => intro x_3 m H; exact H.elim
  | succ n ih =>
    intro x_3 m H
    simp only [wX12_firstSaid_L2] at H
    refine z_iload_n (pc := 2) C (dX12_firstSaid 2 rfl) rfl 3 rfl ?_
    refine z_aload_n (pc := 3) C (dX12_firstSaid 3 rfl) rfl 0 rfl ?_
    obtain ⟨h1, H⟩ := H
    refine z_getR (pc := 4) C zc12 h1 3 (by decide) rfl wf_X12_314 (dX12_firstSaid 4 rfl) ?_
    obtain ⟨h2, H⟩ := H
    refine z_getIN (pc := 7) C zc11 h2 3 (by decide) rfl wn_X12_277 (dX12_firstSaid 5 rfl) ?_
    refine z_icmp_ge (pc := 10) (tgt := 55) C (dX12_firstSaid 6 rfl) (by decide) (fun c3 => ?_) (fun c3 => ?_)
    · replace H := H.1 c3
      refine z_sub [] rfl ?_
      exact K55 m H
    · replace H := H.2 c3
      refine z_aload_n (pc := 13) C (dX12_firstSaid 7 rfl) rfl 0 rfl ?_
      refine z_getR (pc := 14) C zc12 h1 3 (by decide) rfl wf_X12_314 (dX12_firstSaid 8 rfl) ?_
      refine z_getRN (pc := 17) C zc11 h2 18 (by decide) rfl wn_X12_280 (dX12_firstSaid 9 rfl) ?_
      refine z_iload_n (pc := 20) C (dX12_firstSaid 10 rfl) rfl 3 rfl ?_
      obtain ⟨h4, H⟩ := H
      obtain ⟨h5, H⟩ := H
      refine z_iaload (pc := 21) C h4 h5 (dX12_firstSaid 11 rfl) ?_
      refine z_iload_n (pc := 22) C (dX12_firstSaid 12 rfl) rfl 1 rfl ?_
      refine z_icmp_ne (pc := 23) (tgt := 49) C (dX12_firstSaid 13 rfl) (by decide) (fun c6 => ?_) (fun c6 => ?_)
      · replace H := H.2 c6
        refine z_sub [0, 1, 2, 3] rfl ?_
        exact sX12_firstSaid_J49 C hr hm hu1 hu2 ih H
      · replace H := H.1 c6
        refine z_aload_n (pc := 26) C (dX12_firstSaid 14 rfl) rfl 0 rfl ?_
        refine z_getR (pc := 27) C zc12 h1 3 (by decide) rfl wf_X12_314 (dX12_firstSaid 15 rfl) ?_
        refine z_getRN (pc := 30) C zc11 h2 19 (by decide) rfl wn_X12_283 (dX12_firstSaid 16 rfl) ?_
        refine z_iload_n (pc := 33) C (dX12_firstSaid 17 rfl) rfl 3 rfl ?_
        obtain ⟨h7, H⟩ := H
        obtain ⟨h8, H⟩ := H
        refine z_iaload (pc := 34) C h7 h8 (dX12_firstSaid 18 rfl) ?_
        refine z_iload_n (pc := 35) C (dX12_firstSaid 19 rfl) rfl 2 rfl ?_
        refine z_icmp_ne (pc := 36) (tgt := 49) C (dX12_firstSaid 20 rfl) (by decide) (fun c9 => ?_) (fun c9 => ?_)
        · replace H := H.2 c9
          refine z_sub [0, 1, 2, 3] rfl ?_
          exact sX12_firstSaid_J49 C hr hm hu1 hu2 ih H
        · replace H := H.1 c9
          refine z_aload_n (pc := 39) C (dX12_firstSaid 21 rfl) rfl 0 rfl ?_
          refine z_getR (pc := 40) C zc12 h1 3 (by decide) rfl wf_X12_314 (dX12_firstSaid 22 rfl) ?_
          refine z_getRN (pc := 43) C zc11 h2 20 (by decide) rfl wn_X12_286 (dX12_firstSaid 23 rfl) ?_
          refine z_iload_n (pc := 46) C (dX12_firstSaid 24 rfl) rfl 3 rfl ?_
          obtain ⟨h10, H⟩ := H
          obtain ⟨h11, H⟩ := H
          refine z_iaload (pc := 47) C h10 h11 (dX12_firstSaid 25 rfl) ?_
          exact z_iret (pc := 48) C hr hu1 hu2 (dX12_firstSaid 26 rfl) ⟨rfl, _, rfl, H⟩
def wX12_firstSaid (t : zT) (m : zM) (a : Nat) (p1 : Int32) (p2 : Int32) (Q : Int32 → zM → Prop) : Prop := (∃ n13, wX12_firstSaid_L2 t a p1 p2 Q (fun m12 => (Q (-1) m12)) n13 0 m)
set_option maxHeartbeats 4000000 in
set_option maxRecDepth 20000 in
theorem kX12_firstSaid {l : Launch} {t : zT} {m : zM} {a : Nat} {p1 : Int32} {p2 : Int32} {Q : Int32 → zM → Prop} (H : wX12_firstSaid t m a p1 p2 Q) : zMet l yX12_firstSaid cX12_firstSaid 4 (some .int) 0 0 0 t m [.ref a, .int p1, .int p2] (zPi t Q) := by
  refine zmet (by decide +kernel) (Nat.le_of_ble_eq_true rfl) ?_
  intro p e s mt args below meth c g C hr hm
  unfold wX12_firstSaid at H
  have hu1 : ((0, 0) : Nat × Nat).1 ≤ 0 := Nat.le_refl 0
  have hu2 : ((0, 0) : Nat × Nat).2 ≤ 0 := Nat.le_refl 0
  refine z_iconst (pc := 0) (v := 0) C (dX12_firstSaid 0 rfl) (by decide) ?_
  refine z_istore_n (pc := 1) (i := 3) (lv2 := [(3, .int 0), (0, .ref a), (1, .int p1), (2, .int p2)]) C (dX12_firstSaid 1 rfl) rfl (by decide) rfl ?_
  obtain ⟨n13, H⟩ := H
  refine z_sub [1, 2, 3, 0] rfl ?_
  refine sX12_firstSaid_L2 C hr hm hu1 hu2 (fun m12 H => ?_) n13 0 m H
  refine z_iconst (pc := 55) (v := (-1)) C (dX12_firstSaid 29 rfl) (by decide) ?_
  exact z_iret (pc := 56) C hr hu1 hu2 (dX12_firstSaid 30 rfl) ⟨rfl, _, rfl, H⟩
def wX12_agree_J26 (t : zT) (m : zM) (a_0 : Nat) (Q : Int32 → zM → Prop) : Prop := (tK t a_0 = 12 ∧ (wX12_refused t m a_0 1 (fun r6 m7 => (Q r6 m7))))
set_option maxHeartbeats 4000000 in
set_option maxRecDepth 20000 in
theorem sX12_agree_J26 {p : Program} {l : Launch} {e : Env} {s : State} {mt : MethodId} {args : Array Value} {below : List Frame} {meth : Method} {c : Code} {g : zG} {u : Nat × Nat} {mc ms : Nat} {t : zT} {m : zM} {a_0 : Nat} {Q : Int32 → zM → Prop} (C : zC p (zRm 1 mc ms) s mt args meth c g cX12_agree 8 yX12_agree.cls 1) (hr : meth.sig.returnType = (some .int)) (hm : meth.name = yX12_agree.name) (hu1 : u.1 ≤ mc) (hu2 : u.2 ≤ ms) (H : wX12_agree_J26 t m a_0 Q) : zW p l e (zRm 1 mc ms) s mt args below meth c g (MQ below (zQc g (zPi t Q)) args s mc ms (zFar g)) u 8 t m 26 [(0, .ref a_0)] [] := by
  unfold wX12_agree_J26 at H
  refine z_aload_n (pc := 26) C (dX12_agree 14 rfl) rfl 0 rfl ?_
  refine z_iconst (pc := 27) (v := 1) C (dX12_agree 15 rfl) (by decide) ?_
  obtain ⟨h5, H⟩ := H
  refine zc_Vi (pc := 28) (rest := []) C YX12_refused wl_X12_47 (kX12_refused H) (by decide) h5 rfl (by decide) (dX12_agree 16 rfl) rfl hu1 hu2 (Nat.le_of_ble_eq_true rfl) rfl (fun r6 m7 H => ?_)
  exact z_iret (pc := 31) C hr hu1 hu2 (dX12_agree 17 rfl) ⟨rfl, _, rfl, H⟩
def wX12_agree_J106 (t : zT) (m : zM) (a_0 : Nat) (x_1 : Int32) (x_2 : Int32) (x_3 : Int32) (x_5 : Int32) (s_0 : Int32) (s_1 : Int32) (Q : Int32 → zM → Prop) (r38 : Int32 → Int32 → zM → Prop) : Prop := (∀ x20 : Int32, x20 = (s_1 ||| s_0) → ((r38 x20 (x_5 + 1) m)))
set_option maxHeartbeats 4000000 in
set_option maxRecDepth 20000 in
theorem sX12_agree_J106 {p : Program} {l : Launch} {e : Env} {s : State} {mt : MethodId} {args : Array Value} {below : List Frame} {meth : Method} {c : Code} {g : zG} {u : Nat × Nat} {mc ms : Nat} {t : zT} {m : zM} {a_0 : Nat} {x_1 : Int32} {x_2 : Int32} {x_3 : Int32} {x_5 : Int32} {s_0 : Int32} {s_1 : Int32} {Q : Int32 → zM → Prop} {r38 : Int32 → Int32 → zM → Prop} (C : zC p (zRm 1 mc ms) s mt args meth c g cX12_agree 8 yX12_agree.cls 1) (hr : meth.sig.returnType = (some .int)) (hm : meth.name = yX12_agree.name) (hu1 : u.1 ≤ mc) (hu2 : u.2 ≤ ms)
    (R38 : ∀ (v0 : Int32) (v1 : Int32) (m : zM), r38 v0 v1 m → zW p l e (zRm 1 mc ms) s mt args below meth c g (MQ below (zQc g (zPi t Q)) args s mc ms (zFar g)) u 8 t m 38 [(0, .ref a_0), (1, .int x_1), (2, .int x_2), (3, .int x_3), (4, .int v0), (5, .int v1)] []) (H : wX12_agree_J106 t m a_0 x_1 x_2 x_3 x_5 s_0 s_1 Q r38) : zW p l e (zRm 1 mc ms) s mt args below meth c g (MQ below (zQc g (zPi t Q)) args s mc ms (zFar g)) u 8 t m 106 [(0, .ref a_0), (1, .int x_1), (2, .int x_2), (3, .int x_3), (5, .int x_5)] [.int s_0, .int s_1] := by
  unfold wX12_agree_J106 at H
  refine z_ior (pc := 106) C (dX12_agree 57 rfl) ?_
  refine z_int (fun x20 hx20 => ?_)
  replace H := H x20 hx20
  refine z_istore (pc := 107) (i := 4) (lv2 := [(4, .int x20), (0, .ref a_0), (1, .int x_1), (2, .int x_2), (3, .int x_3), (5, .int x_5)]) C (dX12_agree 58 rfl) (by decide) rfl ?_
  refine z_iinc (pc := 109) (i := 5) (v := x_5 + 1) (lv2 := [(5, .int (x_5 + 1)), (4, .int x20), (0, .ref a_0), (1, .int x_1), (2, .int x_2), (3, .int x_3)]) C (dX12_agree 59 rfl) 5 rfl (by rfl) (by decide) rfl ?_
  refine z_goto (pc := 112) (tgt := 38) C (dX12_agree 60 rfl) (by decide) ?_
  refine z_sub [2, 3, 4, 5, 1, 0] rfl ?_
  exact R38 x20 (x_5 + 1) m H
def wX12_agree_J105 (t : zT) (m : zM) (a_0 : Nat) (x_1 : Int32) (x_2 : Int32) (x_3 : Int32) (x_5 : Int32) (s_0 : Int32) (Q : Int32 → zM → Prop) (r38 : Int32 → Int32 → zM → Prop) : Prop := (wX12_agree_J106 t m a_0 x_1 x_2 x_3 x_5 0 s_0 Q r38)
set_option maxHeartbeats 4000000 in
set_option maxRecDepth 20000 in
theorem sX12_agree_J105 {p : Program} {l : Launch} {e : Env} {s : State} {mt : MethodId} {args : Array Value} {below : List Frame} {meth : Method} {c : Code} {g : zG} {u : Nat × Nat} {mc ms : Nat} {t : zT} {m : zM} {a_0 : Nat} {x_1 : Int32} {x_2 : Int32} {x_3 : Int32} {x_5 : Int32} {s_0 : Int32} {Q : Int32 → zM → Prop} {r38 : Int32 → Int32 → zM → Prop} (C : zC p (zRm 1 mc ms) s mt args meth c g cX12_agree 8 yX12_agree.cls 1) (hr : meth.sig.returnType = (some .int)) (hm : meth.name = yX12_agree.name) (hu1 : u.1 ≤ mc) (hu2 : u.2 ≤ ms)
    (R38 : ∀ (v0 : Int32) (v1 : Int32) (m : zM), r38 v0 v1 m → zW p l e (zRm 1 mc ms) s mt args below meth c g (MQ below (zQc g (zPi t Q)) args s mc ms (zFar g)) u 8 t m 38 [(0, .ref a_0), (1, .int x_1), (2, .int x_2), (3, .int x_3), (4, .int v0), (5, .int v1)] []) (H : wX12_agree_J105 t m a_0 x_1 x_2 x_3 x_5 s_0 Q r38) : zW p l e (zRm 1 mc ms) s mt args below meth c g (MQ below (zQc g (zPi t Q)) args s mc ms (zFar g)) u 8 t m 105 [(0, .ref a_0), (1, .int x_1), (2, .int x_2), (3, .int x_3), (5, .int x_5)] [.int s_0] := by
  unfold wX12_agree_J105 at H
  refine z_iconst (pc := 105) (v := 0) C (dX12_agree 56 rfl) (by decide) ?_
  refine z_sub [0, 1, 2, 3, 4] rfl ?_
  exact sX12_agree_J106 C hr hm hu1 hu2 R38 H
def wX12_agree_J94 (t : zT) (m : zM) (a_0 : Nat) (x_1 : Int32) (x_2 : Int32) (x_3 : Int32) (x_5 : Int32) (s_0 : Int32) (s_1 : Int32) (Q : Int32 → zM → Prop) (r38 : Int32 → Int32 → zM → Prop) : Prop := ((s_0 = x_3 → (wX12_agree_J106 t m a_0 x_1 x_2 x_3 x_5 ((1 : Int32) <<< (x_5 &&& 31)) s_1 Q r38)) ∧ (¬ s_0 = x_3 → (wX12_agree_J105 t m a_0 x_1 x_2 x_3 x_5 s_1 Q r38)))
set_option maxHeartbeats 4000000 in
set_option maxRecDepth 20000 in
theorem sX12_agree_J94 {p : Program} {l : Launch} {e : Env} {s : State} {mt : MethodId} {args : Array Value} {below : List Frame} {meth : Method} {c : Code} {g : zG} {u : Nat × Nat} {mc ms : Nat} {t : zT} {m : zM} {a_0 : Nat} {x_1 : Int32} {x_2 : Int32} {x_3 : Int32} {x_5 : Int32} {s_0 : Int32} {s_1 : Int32} {Q : Int32 → zM → Prop} {r38 : Int32 → Int32 → zM → Prop} (C : zC p (zRm 1 mc ms) s mt args meth c g cX12_agree 8 yX12_agree.cls 1) (hr : meth.sig.returnType = (some .int)) (hm : meth.name = yX12_agree.name) (hu1 : u.1 ≤ mc) (hu2 : u.2 ≤ ms)
    (R38 : ∀ (v0 : Int32) (v1 : Int32) (m : zM), r38 v0 v1 m → zW p l e (zRm 1 mc ms) s mt args below meth c g (MQ below (zQc g (zPi t Q)) args s mc ms (zFar g)) u 8 t m 38 [(0, .ref a_0), (1, .int x_1), (2, .int x_2), (3, .int x_3), (4, .int v0), (5, .int v1)] []) (H : wX12_agree_J94 t m a_0 x_1 x_2 x_3 x_5 s_0 s_1 Q r38) : zW p l e (zRm 1 mc ms) s mt args below meth c g (MQ below (zQc g (zPi t Q)) args s mc ms (zFar g)) u 8 t m 94 [(0, .ref a_0), (1, .int x_1), (2, .int x_2), (3, .int x_3), (5, .int x_5)] [.int s_0, .int s_1] := by
  unfold wX12_agree_J94 at H
  refine z_iload_n (pc := 94) C (dX12_agree 50 rfl) rfl 3 rfl ?_
  refine z_icmp_ne (pc := 95) (tgt := 105) C (dX12_agree 51 rfl) (by decide) (fun c23 => ?_) (fun c23 => ?_)
  · replace H := H.2 c23
    refine z_sub [0, 1, 2, 3, 4] rfl ?_
    exact sX12_agree_J105 C hr hm hu1 hu2 R38 H
  · replace H := H.1 c23
    refine z_iconst (pc := 98) (v := 1) C (dX12_agree 52 rfl) (by decide) ?_
    refine z_iload (pc := 99) C (dX12_agree 53 rfl) 4 rfl ?_
    refine z_ishl (pc := 101) C (dX12_agree 54 rfl) ?_
    refine z_goto (pc := 102) (tgt := 106) C (dX12_agree 55 rfl) (by decide) ?_
    refine z_sub [0, 1, 2, 3, 4] rfl ?_
    exact sX12_agree_J106 C hr hm hu1 hu2 R38 H
def wX12_agree_L38 (t : zT) (a_0 : Nat) (x_1 : Int32) (x_2 : Int32) (x_3 : Int32) (Q : Int32 → zM → Prop) (k115 : Int32 → zM → Prop) : Nat → Int32 → Int32 → zM → Prop
  | 0, _, _, _ => False
  | n + 1, x_4, x_5, m => (tK t a_0 = 12 ∧ (tK t (gR m a_0 3) = 11 ∧ (((gI m (gR m a_0 3) 0) ≤ x_5 → (k115 x_4 m)) ∧ (¬ (gI m (gR m a_0 3) 0) ≤ x_5 → (wX12_firstSaid t m a_0 x_1 x_5 (fun r15 m16 => (wX12_firstSaid t m16 a_0 x_2 x_5 (fun r17 m18 => ((r15 = (-1) → (wX12_agree_J105 t m18 a_0 x_1 x_2 x_3 x_5 x_4 Q (wX12_agree_L38 t a_0 x_1 x_2 x_3 Q k115 n))) ∧ (¬ r15 = (-1) → ((r17 = (-1) → (wX12_agree_J105 t m18 a_0 x_1 x_2 x_3 x_5 x_4 Q (wX12_agree_L38 t a_0 x_1 x_2 x_3 Q k115 n))) ∧ (¬ r17 = (-1) → ((r15 = r17 → (wX12_agree_J94 t m18 a_0 x_1 x_2 x_3 x_5 1 x_4 Q (wX12_agree_L38 t a_0 x_1 x_2 x_3 Q k115 n))) ∧ (¬ r15 = r17 → (wX12_agree_J94 t m18 a_0 x_1 x_2 x_3 x_5 0 x_4 Q (wX12_agree_L38 t a_0 x_1 x_2 x_3 Q k115 n))))))))))))))))
set_option maxHeartbeats 4000000 in
set_option maxRecDepth 20000 in
theorem sX12_agree_L38 {p : Program} {l : Launch} {e : Env} {s : State} {mt : MethodId} {args : Array Value} {below : List Frame} {meth : Method} {c : Code} {g : zG} {u : Nat × Nat} {mc ms : Nat} {t : zT} {a_0 : Nat} {x_1 : Int32} {x_2 : Int32} {x_3 : Int32} {Q : Int32 → zM → Prop} {k115 : Int32 → zM → Prop} (C : zC p (zRm 1 mc ms) s mt args meth c g cX12_agree 8 yX12_agree.cls 1) (hr : meth.sig.returnType = (some .int)) (hm : meth.name = yX12_agree.name) (hu1 : u.1 ≤ mc) (hu2 : u.2 ≤ ms)
    (K115 : ∀ (v0 : Int32) (m : zM), k115 v0 m → zW p l e (zRm 1 mc ms) s mt args below meth c g (MQ below (zQc g (zPi t Q)) args s mc ms (zFar g)) u 8 t m 115 [(0, .ref a_0), (4, .int v0)] []) : ∀ (n : Nat) (x_4 : Int32) (x_5 : Int32) (m : zM), wX12_agree_L38 t a_0 x_1 x_2 x_3 Q k115 n x_4 x_5 m → zW p l e (zRm 1 mc ms) s mt args below meth c g (MQ below (zQc g (zPi t Q)) args s mc ms (zFar g)) u 8 t m 38 [(0, .ref a_0), (1, .int x_1), (2, .int x_2), (3, .int x_3), (4, .int x_4), (5, .int x_5)] [] := by
  intro n
  induction n with
  | zero => intro x_4 x_5 m H; exact H.elim
  | succ n ih =>
    intro x_4 x_5 m H
    simp only [wX12_agree_L38] at H
    refine z_iload (pc := 38) C (dX12_agree 22 rfl) 5 rfl ?_
    refine z_aload_n (pc := 40) C (dX12_agree 23 rfl) rfl 0 rfl ?_
    obtain ⟨h12, H⟩ := H
    refine z_getR (pc := 41) C zc12 h12 3 (by decide) rfl wf_X12_314 (dX12_agree 24 rfl) ?_
    obtain ⟨h13, H⟩ := H
    refine z_getIN (pc := 44) C zc11 h13 0 (by decide) rfl wn_X12_180 (dX12_agree 25 rfl) ?_
    refine z_icmp_ge (pc := 47) (tgt := 115) C (dX12_agree 26 rfl) (by decide) (fun c14 => ?_) (fun c14 => ?_)
    · replace H := H.1 c14
      refine z_sub [0, 4] rfl ?_
      exact K115 x_4 m H
    · replace H := H.2 c14
      refine z_aload_n (pc := 50) C (dX12_agree 27 rfl) rfl 0 rfl ?_
      refine z_iload_n (pc := 51) C (dX12_agree 28 rfl) rfl 1 rfl ?_
      refine z_iload (pc := 52) C (dX12_agree 29 rfl) 5 rfl ?_
      refine zc_Vi (pc := 54) (rest := []) C YX12_firstSaid wl_X12_459 (kX12_firstSaid H) (by decide) h12 rfl (by decide) (dX12_agree 30 rfl) rfl hu1 hu2 (Nat.le_of_ble_eq_true rfl) rfl (fun r15 m16 H => ?_)
      refine z_istore (pc := 57) (i := 6) (lv2 := [(6, .int r15), (0, .ref a_0), (1, .int x_1), (2, .int x_2), (3, .int x_3), (4, .int x_4), (5, .int x_5)]) C (dX12_agree 31 rfl) (by decide) rfl ?_
      refine z_aload_n (pc := 59) C (dX12_agree 32 rfl) rfl 1 rfl ?_
      refine z_iload_n (pc := 60) C (dX12_agree 33 rfl) rfl 3 rfl ?_
      refine z_iload (pc := 61) C (dX12_agree 34 rfl) 6 rfl ?_
      refine zc_Vi (pc := 63) (rest := []) C YX12_firstSaid wl_X12_459 (kX12_firstSaid H) (by decide) h12 rfl (by decide) (dX12_agree 35 rfl) rfl hu1 hu2 (Nat.le_of_ble_eq_true rfl) rfl (fun r17 m18 H => ?_)
      refine z_istore (pc := 66) (i := 7) (lv2 := [(7, .int r17), (6, .int r15), (0, .ref a_0), (1, .int x_1), (2, .int x_2), (3, .int x_3), (4, .int x_4), (5, .int x_5)]) C (dX12_agree 36 rfl) (by decide) rfl ?_
      refine z_iload (pc := 68) C (dX12_agree 37 rfl) 6 rfl ?_
      refine z_iload (pc := 70) C (dX12_agree 38 rfl) 1 rfl ?_
      refine z_iconst (pc := 72) (v := (-1)) C (dX12_agree 39 rfl) (by decide) ?_
      refine z_icmp_eq (pc := 73) (tgt := 105) C (dX12_agree 40 rfl) (by decide) (fun c19 => ?_) (fun c19 => ?_)
      · replace H := H.1 c19
        refine z_sub [2, 3, 4, 5, 7] rfl ?_
        exact sX12_agree_J105 C hr hm hu1 hu2 ih H
      · replace H := H.2 c19
        refine z_iload (pc := 76) C (dX12_agree 41 rfl) 0 rfl ?_
        refine z_iconst (pc := 78) (v := (-1)) C (dX12_agree 42 rfl) (by decide) ?_
        refine z_icmp_eq (pc := 79) (tgt := 105) C (dX12_agree 43 rfl) (by decide) (fun c21 => ?_) (fun c21 => ?_)
        · replace H := H.1 c21
          refine z_sub [2, 3, 4, 5, 7] rfl ?_
          exact sX12_agree_J105 C hr hm hu1 hu2 ih H
        · replace H := H.2 c21
          refine z_iload (pc := 82) C (dX12_agree 44 rfl) 1 rfl ?_
          refine z_iload (pc := 84) C (dX12_agree 45 rfl) 0 rfl ?_
          refine z_icmp_ne (pc := 86) (tgt := 93) C (dX12_agree 46 rfl) (by decide) (fun c22 => ?_) (fun c22 => ?_)
          · replace H := H.2 c22
            refine z_iconst (pc := 93) (v := 0) C (dX12_agree 49 rfl) (by decide) ?_
            refine z_sub [2, 3, 4, 5, 7] rfl ?_
            exact sX12_agree_J94 C hr hm hu1 hu2 ih H
          · replace H := H.1 c22
            refine z_iconst (pc := 89) (v := 1) C (dX12_agree 47 rfl) (by decide) ?_
            refine z_goto (pc := 90) (tgt := 94) C (dX12_agree 48 rfl) (by decide) ?_
            refine z_sub [2, 3, 4, 5, 7] rfl ?_
            exact sX12_agree_J94 C hr hm hu1 hu2 ih H
def wX12_agree (t : zT) (m : zM) (a : Nat) (p1 : Int32) (p2 : Int32) (p3 : Int32) (Q : Int32 → zM → Prop) : Prop := (tK t a = 12 ∧ (wX12_isMaster t (pI m a 0 0) a p1 (fun r2 m3 => ((r2 = 0 → (wX12_agree_J26 t m3 a Q)) ∧ (¬ r2 = 0 → (wX12_isMaster t m3 a p2 (fun r8 m9 => ((r8 = 0 → (wX12_agree_J26 t m9 a Q)) ∧ (¬ r8 = 0 → ((p1 = p2 → (wX12_agree_J26 t m9 a Q)) ∧ (¬ p1 = p2 → (∃ n28, wX12_agree_L38 t a p1 p2 p3 Q (fun v24 m25 => (wX12_good t m25 a v24 (fun r26 m27 => (Q r26 m27)))) n28 0 0 m9))))))))))))
set_option maxHeartbeats 4000000 in
set_option maxRecDepth 20000 in
theorem kX12_agree {l : Launch} {t : zT} {m : zM} {a : Nat} {p1 : Int32} {p2 : Int32} {p3 : Int32} {Q : Int32 → zM → Prop} (H : wX12_agree t m a p1 p2 p3 Q) : zMet l yX12_agree cX12_agree 8 (some .int) 1 0 0 t m [.ref a, .int p1, .int p2, .int p3] (zPi t Q) := by
  refine zmet (by decide +kernel) (Nat.le_of_ble_eq_true rfl) ?_
  intro p e s mt args below meth c g C hr hm
  unfold wX12_agree at H
  have hu1 : ((0, 0) : Nat × Nat).1 ≤ 0 := Nat.le_refl 0
  have hu2 : ((0, 0) : Nat × Nat).2 ≤ 0 := Nat.le_refl 0
  refine z_aload_n (pc := 0) C (dX12_agree 0 rfl) rfl 0 rfl ?_
  refine z_iconst (pc := 1) (v := 0) C (dX12_agree 1 rfl) (by decide) ?_
  obtain ⟨h1, H⟩ := H
  refine z_putI (pc := 2) C zc12 h1 0 (by decide) rfl rfl wf_X12_41 (dX12_agree 2 rfl) ?_
  refine z_aload_n (pc := 5) C (dX12_agree 3 rfl) rfl 0 rfl ?_
  refine z_iload_n (pc := 6) C (dX12_agree 4 rfl) rfl 1 rfl ?_
  refine zc_Vi (pc := 7) (rest := []) C YX12_isMaster wl_X12_381 (kX12_isMaster H) (by decide) h1 rfl (by decide) (dX12_agree 5 rfl) rfl hu1 hu2 (Nat.le_of_ble_eq_true rfl) rfl (fun r2 m3 H => ?_)
  refine z_if_eq (pc := 10) (tgt := 26) C (dX12_agree 6 rfl) (by decide) (fun c4 => ?_) (fun c4 => ?_)
  · replace H := H.1 c4
    refine z_sub [0] rfl ?_
    exact sX12_agree_J26 C hr hm hu1 hu2 H
  · replace H := H.2 c4
    refine z_aload_n (pc := 13) C (dX12_agree 7 rfl) rfl 0 rfl ?_
    refine z_iload_n (pc := 14) C (dX12_agree 8 rfl) rfl 2 rfl ?_
    refine zc_Vi (pc := 15) (rest := []) C YX12_isMaster wl_X12_381 (kX12_isMaster H) (by decide) h1 rfl (by decide) (dX12_agree 9 rfl) rfl hu1 hu2 (Nat.le_of_ble_eq_true rfl) rfl (fun r8 m9 H => ?_)
    refine z_if_eq (pc := 18) (tgt := 26) C (dX12_agree 10 rfl) (by decide) (fun c10 => ?_) (fun c10 => ?_)
    · replace H := H.1 c10
      refine z_sub [0] rfl ?_
      exact sX12_agree_J26 C hr hm hu1 hu2 H
    · replace H := H.2 c10
      refine z_iload_n (pc := 21) C (dX12_agree 11 rfl) rfl 1 rfl ?_
      refine z_iload_n (pc := 22) C (dX12_agree 12 rfl) rfl 2 rfl ?_
      refine z_icmp_ne (pc := 23) (tgt := 32) C (dX12_agree 13 rfl) (by decide) (fun c11 => ?_) (fun c11 => ?_)
      · replace H := H.2 c11
        refine z_iconst (pc := 32) (v := 0) C (dX12_agree 18 rfl) (by decide) ?_
        refine z_istore (pc := 33) (i := 4) (lv2 := [(4, .int 0), (0, .ref a), (1, .int p1), (2, .int p2), (3, .int p3)]) C (dX12_agree 19 rfl) (by decide) rfl ?_
        refine z_iconst (pc := 35) (v := 0) C (dX12_agree 20 rfl) (by decide) ?_
        refine z_istore (pc := 36) (i := 5) (lv2 := [(5, .int 0), (4, .int 0), (0, .ref a), (1, .int p1), (2, .int p2), (3, .int p3)]) C (dX12_agree 21 rfl) (by decide) rfl ?_
        obtain ⟨n28, H⟩ := H
        refine z_sub [2, 3, 4, 5, 1, 0] rfl ?_
        refine sX12_agree_L38 C hr hm hu1 hu2 (fun v24 m25 H => ?_) n28 0 0 m9 H
        refine z_aload_n (pc := 115) C (dX12_agree 61 rfl) rfl 0 rfl ?_
        refine z_iload (pc := 116) C (dX12_agree 62 rfl) 1 rfl ?_
        refine zc_Vi (pc := 118) (rest := []) C YX12_good wl_X12_51 (kX12_good H) (by decide) h1 rfl (by decide) (dX12_agree 63 rfl) rfl hu1 hu2 (Nat.le_of_ble_eq_true rfl) rfl (fun r26 m27 H => ?_)
        exact z_iret (pc := 121) C hr hu1 hu2 (dX12_agree 64 rfl) ⟨rfl, _, rfl, H⟩
      · replace H := H.1 c11
        refine z_sub [0] rfl ?_
        exact sX12_agree_J26 C hr hm hu1 hu2 H
def wX12_homeNow_J84 (t : zT) (m : zM) (a_0 : Nat) (x_1 : Int32) (x_2 : Int32) (x_3 : Int32) (x_4 : Int32) (Q : Int32 → zM → Prop) (r12 : Int32 → Int32 → zM → Prop) : Prop := (r12 x_2 (x_4 + 1) m)
set_option maxHeartbeats 4000000 in
set_option maxRecDepth 20000 in
theorem sX12_homeNow_J84 {p : Program} {l : Launch} {e : Env} {s : State} {mt : MethodId} {args : Array Value} {below : List Frame} {meth : Method} {c : Code} {g : zG} {u : Nat × Nat} {mc ms : Nat} {t : zT} {m : zM} {a_0 : Nat} {x_1 : Int32} {x_2 : Int32} {x_3 : Int32} {x_4 : Int32} {Q : Int32 → zM → Prop} {r12 : Int32 → Int32 → zM → Prop} (C : zC p (zRm 6 mc ms) s mt args meth c g cX12_homeNow 5 yX12_homeNow.cls 6) (hr : meth.sig.returnType = (some .int)) (hm : meth.name = yX12_homeNow.name) (hu1 : u.1 ≤ mc) (hu2 : u.2 ≤ ms)
    (R12 : ∀ (v0 : Int32) (v1 : Int32) (m : zM), r12 v0 v1 m → zW p l e (zRm 6 mc ms) s mt args below meth c g (MQ below (zQc g (zPi t Q)) args s mc ms (zFar g)) u 5 t m 12 [(0, .ref a_0), (1, .int x_1), (2, .int v0), (3, .int x_3), (4, .int v1)] []) (H : wX12_homeNow_J84 t m a_0 x_1 x_2 x_3 x_4 Q r12) : zW p l e (zRm 6 mc ms) s mt args below meth c g (MQ below (zQc g (zPi t Q)) args s mc ms (zFar g)) u 5 t m 84 [(0, .ref a_0), (1, .int x_1), (2, .int x_2), (3, .int x_3), (4, .int x_4)] [] := by
  unfold wX12_homeNow_J84 at H
  refine z_iinc (pc := 84) (i := 4) (v := x_4 + 1) (lv2 := [(4, .int (x_4 + 1)), (0, .ref a_0), (1, .int x_1), (2, .int x_2), (3, .int x_3)]) C (dX12_homeNow 45 rfl) 4 rfl (by rfl) (by decide) rfl ?_
  refine z_goto (pc := 87) (tgt := 12) C (dX12_homeNow 46 rfl) (by decide) ?_
  refine z_sub [1, 2, 3, 4, 0] rfl ?_
  exact R12 x_2 (x_4 + 1) m H
def wX12_homeNow_J76 (t : zT) (m : zM) (a_0 : Nat) (x_1 : Int32) (x_3 : Int32) (x_4 : Int32) (Q : Int32 → zM → Prop) (r12 : Int32 → Int32 → zM → Prop) : Prop := (tK t a_0 = 12 ∧ (wX12_oneBits t m a_0 (fun r19 m20 => (wX12_bits t m20 r19 (fun r21 m22 => (wX12_homeNow_J84 t m22 a_0 x_1 r21 x_3 x_4 Q r12))))))
set_option maxHeartbeats 4000000 in
set_option maxRecDepth 20000 in
theorem sX12_homeNow_J76 {p : Program} {l : Launch} {e : Env} {s : State} {mt : MethodId} {args : Array Value} {below : List Frame} {meth : Method} {c : Code} {g : zG} {u : Nat × Nat} {mc ms : Nat} {t : zT} {m : zM} {a_0 : Nat} {x_1 : Int32} {x_3 : Int32} {x_4 : Int32} {Q : Int32 → zM → Prop} {r12 : Int32 → Int32 → zM → Prop} (C : zC p (zRm 6 mc ms) s mt args meth c g cX12_homeNow 5 yX12_homeNow.cls 6) (hr : meth.sig.returnType = (some .int)) (hm : meth.name = yX12_homeNow.name) (hu1 : u.1 ≤ mc) (hu2 : u.2 ≤ ms)
    (R12 : ∀ (v0 : Int32) (v1 : Int32) (m : zM), r12 v0 v1 m → zW p l e (zRm 6 mc ms) s mt args below meth c g (MQ below (zQc g (zPi t Q)) args s mc ms (zFar g)) u 5 t m 12 [(0, .ref a_0), (1, .int x_1), (2, .int v0), (3, .int x_3), (4, .int v1)] []) (H : wX12_homeNow_J76 t m a_0 x_1 x_3 x_4 Q r12) : zW p l e (zRm 6 mc ms) s mt args below meth c g (MQ below (zQc g (zPi t Q)) args s mc ms (zFar g)) u 5 t m 76 [(0, .ref a_0), (1, .int x_1), (3, .int x_3), (4, .int x_4)] [] := by
  unfold wX12_homeNow_J76 at H
  refine z_aload_n (pc := 76) C (dX12_homeNow 41 rfl) rfl 0 rfl ?_
  obtain ⟨h18, H⟩ := H
  refine zc_Vi (pc := 77) (rest := []) C YX12_oneBits wl_X12_375 (kX12_oneBits H) (by decide) h18 rfl (by decide) (dX12_homeNow 42 rfl) rfl hu1 hu2 (Nat.le_of_ble_eq_true rfl) rfl (fun r19 m20 H => ?_)
  refine zc_Si (pc := 80) (rest := []) C YX12_bits wl_X12_326 (kX12_bits H) (by decide) (dX12_homeNow 43 rfl) rfl hu1 hu2 (Nat.le_of_ble_eq_true rfl) rfl (fun r21 m22 H => ?_)
  refine z_istore_n (pc := 83) (i := 2) (lv2 := [(2, .int r21), (0, .ref a_0), (1, .int x_1), (3, .int x_3), (4, .int x_4)]) C (dX12_homeNow 44 rfl) rfl (by decide) rfl ?_
  refine z_sub [1, 2, 0, 3, 4] rfl ?_
  exact sX12_homeNow_J84 C hr hm hu1 hu2 R12 H
def wX12_homeNow_J41 (t : zT) (m : zM) (a_0 : Nat) (x_1 : Int32) (x_2 : Int32) (x_3 : Int32) (x_4 : Int32) (Q : Int32 → zM → Prop) (r12 : Int32 → Int32 → zM → Prop) : Prop := (tK t a_0 = 12 ∧ (tK t (gR m a_0 26) = 14 ∧ (vp_in x_1 (tL t (gR m a_0 26)) ∧ (wX12_asksWorlds t (pI m (gR m a_0 26) x_1.toNatClampNeg x_4) a_0 (fun m15 => (((gI m15 a_0 19) ≤ 0 → (wX12_homeNow_J84 t m15 a_0 x_1 x_2 x_3 x_4 Q r12)) ∧ (¬ (gI m15 a_0 19) ≤ 0 → ((x_2 = (-1) → (wX12_homeNow_J76 t m15 a_0 x_1 x_3 x_4 Q r12)) ∧ (¬ x_2 = (-1) → (wX12_oneBits t m15 a_0 (fun r23 m24 => (wX12_bits t m24 r23 (fun r25 m26 => ((x_2 ≤ r25 → (wX12_homeNow_J84 t m26 a_0 x_1 x_2 x_3 x_4 Q r12)) ∧ (¬ x_2 ≤ r25 → (wX12_homeNow_J76 t m26 a_0 x_1 x_3 x_4 Q r12))))))))))))))))
set_option maxHeartbeats 4000000 in
set_option maxRecDepth 20000 in
theorem sX12_homeNow_J41 {p : Program} {l : Launch} {e : Env} {s : State} {mt : MethodId} {args : Array Value} {below : List Frame} {meth : Method} {c : Code} {g : zG} {u : Nat × Nat} {mc ms : Nat} {t : zT} {m : zM} {a_0 : Nat} {x_1 : Int32} {x_2 : Int32} {x_3 : Int32} {x_4 : Int32} {Q : Int32 → zM → Prop} {r12 : Int32 → Int32 → zM → Prop} (C : zC p (zRm 6 mc ms) s mt args meth c g cX12_homeNow 5 yX12_homeNow.cls 6) (hr : meth.sig.returnType = (some .int)) (hm : meth.name = yX12_homeNow.name) (hu1 : u.1 ≤ mc) (hu2 : u.2 ≤ ms)
    (R12 : ∀ (v0 : Int32) (v1 : Int32) (m : zM), r12 v0 v1 m → zW p l e (zRm 6 mc ms) s mt args below meth c g (MQ below (zQc g (zPi t Q)) args s mc ms (zFar g)) u 5 t m 12 [(0, .ref a_0), (1, .int x_1), (2, .int v0), (3, .int x_3), (4, .int v1)] []) (H : wX12_homeNow_J41 t m a_0 x_1 x_2 x_3 x_4 Q r12) : zW p l e (zRm 6 mc ms) s mt args below meth c g (MQ below (zQc g (zPi t Q)) args s mc ms (zFar g)) u 5 t m 41 [(0, .ref a_0), (1, .int x_1), (2, .int x_2), (3, .int x_3), (4, .int x_4)] [] := by
  unfold wX12_homeNow_J41 at H
  refine z_aload_n (pc := 41) C (dX12_homeNow 23 rfl) rfl 0 rfl ?_
  obtain ⟨h11, H⟩ := H
  refine z_getR (pc := 42) C zc12 h11 26 (by decide) rfl wf_X12_35 (dX12_homeNow 24 rfl) ?_
  refine z_iload_n (pc := 45) C (dX12_homeNow 25 rfl) rfl 1 rfl ?_
  refine z_iload (pc := 46) C (dX12_homeNow 26 rfl) 4 rfl ?_
  obtain ⟨h12, H⟩ := H
  obtain ⟨h13, H⟩ := H
  refine z_iastore (pc := 48) C h12 h13 (dX12_homeNow 27 rfl) ?_
  refine z_aload_n (pc := 49) C (dX12_homeNow 28 rfl) rfl 0 rfl ?_
  refine zc_Vv (pc := 50) (rest := []) C YX12_asksWorlds wl_X12_358 (kX12_asksWorlds H) (by decide) h11 rfl (by decide) (dX12_homeNow 29 rfl) rfl hu1 hu2 (Nat.le_of_ble_eq_true rfl) rfl (fun m15 H => ?_)
  refine z_aload_n (pc := 53) C (dX12_homeNow 30 rfl) rfl 0 rfl ?_
  refine z_getI (pc := 54) C zc12 h11 19 (by decide) rfl wf_X12_339 (dX12_homeNow 31 rfl) ?_
  refine z_if_le (pc := 57) (tgt := 84) C (dX12_homeNow 32 rfl) (by decide) (fun c16 => ?_) (fun c16 => ?_)
  · replace H := H.1 c16
    refine z_sub [0, 1, 2, 3, 4] rfl ?_
    exact sX12_homeNow_J84 C hr hm hu1 hu2 R12 H
  · replace H := H.2 c16
    refine z_iload_n (pc := 60) C (dX12_homeNow 33 rfl) rfl 2 rfl ?_
    refine z_iconst (pc := 61) (v := (-1)) C (dX12_homeNow 34 rfl) (by decide) ?_
    refine z_icmp_eq (pc := 62) (tgt := 76) C (dX12_homeNow 35 rfl) (by decide) (fun c17 => ?_) (fun c17 => ?_)
    · replace H := H.1 c17
      refine z_sub [0, 1, 3, 4] rfl ?_
      exact sX12_homeNow_J76 C hr hm hu1 hu2 R12 H
    · replace H := H.2 c17
      refine z_aload_n (pc := 65) C (dX12_homeNow 36 rfl) rfl 0 rfl ?_
      refine zc_Vi (pc := 66) (rest := []) C YX12_oneBits wl_X12_375 (kX12_oneBits H) (by decide) h11 rfl (by decide) (dX12_homeNow 37 rfl) rfl hu1 hu2 (Nat.le_of_ble_eq_true rfl) rfl (fun r23 m24 H => ?_)
      refine zc_Si (pc := 69) (rest := []) C YX12_bits wl_X12_326 (kX12_bits H) (by decide) (dX12_homeNow 38 rfl) rfl hu1 hu2 (Nat.le_of_ble_eq_true rfl) rfl (fun r25 m26 H => ?_)
      refine z_iload_n (pc := 72) C (dX12_homeNow 39 rfl) rfl 2 rfl ?_
      refine z_icmp_ge (pc := 73) (tgt := 84) C (dX12_homeNow 40 rfl) (by decide) (fun c27 => ?_) (fun c27 => ?_)
      · replace H := H.1 c27
        refine z_sub [0, 1, 2, 3, 4] rfl ?_
        exact sX12_homeNow_J84 C hr hm hu1 hu2 R12 H
      · replace H := H.2 c27
        refine z_sub [0, 1, 3, 4] rfl ?_
        exact sX12_homeNow_J76 C hr hm hu1 hu2 R12 H
def wX12_homeNow_L12 (t : zT) (a_0 : Nat) (x_1 : Int32) (x_3 : Int32) (Q : Int32 → zM → Prop) (k90 : Int32 → zM → Prop) : Nat → Int32 → Int32 → zM → Prop
  | 0, _, _, _ => False
  | n + 1, x_2, x_4, m => (tK t a_0 = 12 ∧ (tK t (gR m a_0 3) = 11 ∧ (tK t (gR m (gR m a_0 3) 10) = 14 ∧ (vp_in x_1 (tL t (gR m (gR m a_0 3) 10)) ∧ (((gI m (gR m (gR m a_0 3) 10) x_1.toNatClampNeg) ≤ x_4 → (k90 x_2 m)) ∧ (¬ (gI m (gR m (gR m a_0 3) 10) x_1.toNatClampNeg) ≤ x_4 → ((x_3 = (-2) → (wX12_homeNow_J41 t m a_0 x_1 x_2 x_3 x_4 Q (wX12_homeNow_L12 t a_0 x_1 x_3 Q k90 n))) ∧ (¬ x_3 = (-2) → ((x_3 = x_4 → (wX12_homeNow_J41 t m a_0 x_1 x_2 x_3 x_4 Q (wX12_homeNow_L12 t a_0 x_1 x_3 Q k90 n))) ∧ (¬ x_3 = x_4 → (wX12_homeNow_J84 t m a_0 x_1 x_2 x_3 x_4 Q (wX12_homeNow_L12 t a_0 x_1 x_3 Q k90 n))))))))))))
set_option maxHeartbeats 4000000 in
set_option maxRecDepth 20000 in
theorem sX12_homeNow_L12 {p : Program} {l : Launch} {e : Env} {s : State} {mt : MethodId} {args : Array Value} {below : List Frame} {meth : Method} {c : Code} {g : zG} {u : Nat × Nat} {mc ms : Nat} {t : zT} {a_0 : Nat} {x_1 : Int32} {x_3 : Int32} {Q : Int32 → zM → Prop} {k90 : Int32 → zM → Prop} (C : zC p (zRm 6 mc ms) s mt args meth c g cX12_homeNow 5 yX12_homeNow.cls 6) (hr : meth.sig.returnType = (some .int)) (hm : meth.name = yX12_homeNow.name) (hu1 : u.1 ≤ mc) (hu2 : u.2 ≤ ms)
    (K90 : ∀ (v0 : Int32) (m : zM), k90 v0 m → zW p l e (zRm 6 mc ms) s mt args below meth c g (MQ below (zQc g (zPi t Q)) args s mc ms (zFar g)) u 5 t m 90 [(0, .ref a_0), (1, .int x_1), (2, .int v0), (3, .int x_3)] []) : ∀ (n : Nat) (x_2 : Int32) (x_4 : Int32) (m : zM), wX12_homeNow_L12 t a_0 x_1 x_3 Q k90 n x_2 x_4 m → zW p l e (zRm 6 mc ms) s mt args below meth c g (MQ below (zQc g (zPi t Q)) args s mc ms (zFar g)) u 5 t m 12 [(0, .ref a_0), (1, .int x_1), (2, .int x_2), (3, .int x_3), (4, .int x_4)] [] := by
  intro n
  induction n with
  | zero => intro x_2 x_4 m H; exact H.elim
  | succ n ih =>
    intro x_2 x_4 m H
    simp only [wX12_homeNow_L12] at H
    refine z_iload (pc := 12) C (dX12_homeNow 9 rfl) 4 rfl ?_
    refine z_aload_n (pc := 14) C (dX12_homeNow 10 rfl) rfl 0 rfl ?_
    obtain ⟨h5, H⟩ := H
    refine z_getR (pc := 15) C zc12 h5 3 (by decide) rfl wf_X12_314 (dX12_homeNow 11 rfl) ?_
    obtain ⟨h6, H⟩ := H
    refine z_getRN (pc := 18) C zc11 h6 10 (by decide) rfl wn_X12_171 (dX12_homeNow 12 rfl) ?_
    refine z_iload_n (pc := 21) C (dX12_homeNow 13 rfl) rfl 1 rfl ?_
    obtain ⟨h7, H⟩ := H
    obtain ⟨h8, H⟩ := H
    refine z_iaload (pc := 22) C h7 h8 (dX12_homeNow 14 rfl) ?_
    refine z_icmp_ge (pc := 23) (tgt := 90) C (dX12_homeNow 15 rfl) (by decide) (fun c9 => ?_) (fun c9 => ?_)
    · replace H := H.1 c9
      refine z_sub [0, 1, 2, 3] rfl ?_
      exact K90 x_2 m H
    · replace H := H.2 c9
      refine z_iload_n (pc := 26) C (dX12_homeNow 16 rfl) rfl 3 rfl ?_
      refine z_bipush (pc := 27) (v := (-2)) C (dX12_homeNow 17 rfl) (by decide) ?_
      refine z_icmp_eq (pc := 29) (tgt := 41) C (dX12_homeNow 18 rfl) (by decide) (fun c10 => ?_) (fun c10 => ?_)
      · replace H := H.1 c10
        refine z_sub [0, 1, 2, 3, 4] rfl ?_
        exact sX12_homeNow_J41 C hr hm hu1 hu2 ih H
      · replace H := H.2 c10
        refine z_iload_n (pc := 32) C (dX12_homeNow 19 rfl) rfl 3 rfl ?_
        refine z_iload (pc := 33) C (dX12_homeNow 20 rfl) 4 rfl ?_
        refine z_icmp_eq (pc := 35) (tgt := 41) C (dX12_homeNow 21 rfl) (by decide) (fun c28 => ?_) (fun c28 => ?_)
        · replace H := H.1 c28
          refine z_sub [0, 1, 2, 3, 4] rfl ?_
          exact sX12_homeNow_J41 C hr hm hu1 hu2 ih H
        · replace H := H.2 c28
          refine z_goto (pc := 38) (tgt := 84) C (dX12_homeNow 22 rfl) (by decide) ?_
          refine z_sub [0, 1, 2, 3, 4] rfl ?_
          exact sX12_homeNow_J84 C hr hm hu1 hu2 ih H
def wX12_homeNow (t : zT) (m : zM) (a : Nat) (p1 : Int32) (Q : Int32 → zM → Prop) : Prop := (tK t a = 12 ∧ (tK t (gR m a 26) = 14 ∧ (vp_in p1 (tL t (gR m a 26)) ∧ (∀ x4 : Int32, x4 = (gI m (gR m a 26) p1.toNatClampNeg) → ((∃ n33, wX12_homeNow_L12 t a p1 x4 Q (fun v29 m30 => (tK t (gR m30 a 26) = 14 ∧ (vp_in p1 (tL t (gR m30 a 26)) ∧ (Q v29 (pI m30 (gR m30 a 26) p1.toNatClampNeg x4))))) n33 (-1) 0 m))))))
set_option maxHeartbeats 4000000 in
set_option maxRecDepth 20000 in
theorem kX12_homeNow {l : Launch} {t : zT} {m : zM} {a : Nat} {p1 : Int32} {Q : Int32 → zM → Prop} (H : wX12_homeNow t m a p1 Q) : zMet l yX12_homeNow cX12_homeNow 5 (some .int) 6 0 0 t m [.ref a, .int p1] (zPi t Q) := by
  refine zmet (by decide +kernel) (Nat.le_of_ble_eq_true rfl) ?_
  intro p e s mt args below meth c g C hr hm
  unfold wX12_homeNow at H
  have hu1 : ((0, 0) : Nat × Nat).1 ≤ 0 := Nat.le_refl 0
  have hu2 : ((0, 0) : Nat × Nat).2 ≤ 0 := Nat.le_refl 0
  refine z_iconst (pc := 0) (v := (-1)) C (dX12_homeNow 0 rfl) (by decide) ?_
  refine z_istore_n (pc := 1) (i := 2) (lv2 := [(2, .int (-1)), (0, .ref a), (1, .int p1)]) C (dX12_homeNow 1 rfl) rfl (by decide) rfl ?_
  refine z_aload_n (pc := 2) C (dX12_homeNow 2 rfl) rfl 1 rfl ?_
  obtain ⟨h1, H⟩ := H
  refine z_getR (pc := 3) C zc12 h1 26 (by decide) rfl wf_X12_35 (dX12_homeNow 3 rfl) ?_
  refine z_iload_n (pc := 6) C (dX12_homeNow 4 rfl) rfl 2 rfl ?_
  obtain ⟨h2, H⟩ := H
  obtain ⟨h3, H⟩ := H
  refine z_iaload (pc := 7) C h2 h3 (dX12_homeNow 5 rfl) ?_
  refine z_int (fun x4 hx4 => ?_)
  replace H := H x4 hx4
  refine z_istore_n (pc := 8) (i := 3) (lv2 := [(3, .int x4), (2, .int (-1)), (0, .ref a), (1, .int p1)]) C (dX12_homeNow 6 rfl) rfl (by decide) rfl ?_
  refine z_iconst (pc := 9) (v := 0) C (dX12_homeNow 7 rfl) (by decide) ?_
  refine z_istore (pc := 10) (i := 4) (lv2 := [(4, .int 0), (3, .int x4), (2, .int (-1)), (0, .ref a), (1, .int p1)]) C (dX12_homeNow 8 rfl) (by decide) rfl ?_
  obtain ⟨n33, H⟩ := H
  refine z_sub [3, 4, 2, 1, 0] rfl ?_
  refine sX12_homeNow_L12 C hr hm hu1 hu2 (fun v29 m30 H => ?_) n33 (-1) 0 m H
  refine z_aload_n (pc := 90) C (dX12_homeNow 47 rfl) rfl 0 rfl ?_
  refine z_getR (pc := 91) C zc12 h1 26 (by decide) rfl wf_X12_35 (dX12_homeNow 48 rfl) ?_
  refine z_iload_n (pc := 94) C (dX12_homeNow 49 rfl) rfl 1 rfl ?_
  refine z_iload_n (pc := 95) C (dX12_homeNow 50 rfl) rfl 3 rfl ?_
  obtain ⟨h31, H⟩ := H
  obtain ⟨h32, H⟩ := H
  refine z_iastore (pc := 96) C h31 h32 (dX12_homeNow 51 rfl) ?_
  refine z_iload_n (pc := 97) C (dX12_homeNow 52 rfl) rfl 2 rfl ?_
  exact z_iret (pc := 98) C hr hu1 hu2 (dX12_homeNow 53 rfl) ⟨rfl, _, rfl, H⟩
