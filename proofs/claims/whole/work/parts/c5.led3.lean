/-! the law's led, that catches, and the law's case 42 -/
def zPled (t : zT) (m : zM) (A : Int32 → Prop) (B : Prop) : Option Value → zT → zM → Prop := fun v t' m' => (∃ r : Int32, v = some (.int 0) ∧ t' = t ∧ m' = pJ m 84 0 r.toInt64 ∧ A r) ∨ (v = some (.int 1) ∧ (∃ d, t' = xg t d) ∧ m' = m ∧ B)
def zMl (l : Launch) (h mc ms : Nat) (t : zT) (m : zM) (As : List Value) (P : Option Value → zT → zM → Prop) : Prop :=
  ∀ g : zG, Met l yL_led (.codeWith yL_led cL_led 4 (some .int) [(0, 9, 12, 13)] :: zTs) (zRm h mc ms) (zPx g t m As) (zQc g P) mc ms (zFar g)
section
variable {p : Program} {l : Launch} {e : Env} {R : Room} {s : State} {mt : MethodId} {args : Array Value} {below : List Frame} {meth : Method} {c : Code} {g : zG} {Q : State → Prop} {u : Nat × Nat} {nL : Nat} {t : zT} {m : zM} {pc : Nat} {lv lv2 : List (Nat × Value)} {st rest : List Value} {cc : ByteArray} {own : String} {h b L k j w : Nat} {xs : Nat → Int32}
theorem z_afterx {H : Heap} {locs : List Loc} {cells slots mc ms : Nat} {ls : Array Slot} {st0 rest0 : List Value} {a : Array Value} {P : Option Value → zT → zM → Prop} {X : zT → zM → Prop} (hr : vx_Run p l e R s mt args below meth c H locs cells slots mc ms (F0 mt pc ls st0) rest0 (zQc g P a) (zXC g X) (zFar g)) (hS : va_S (zFar g) s.heap H locs)
    (kx : ∀ (q : Addr) (ce : Cell) (t' : zT) (m' : zM) (H1 : Heap) (locs1 : List Loc), X t' m' → zH g t' m' H1 → va_S (zFar g) s.heap H1 locs1 → H1[q]? = some ce → ce.vm = .none → s.vm.findClass nX = some ce.cls → vx_W p l e R s mt args below meth c H1 locs1 (cells + mc) (slots + ms) Q (F0 mt pc ls rest0) q)
    (kk : ∀ (v : Option Value) (t' : zT) (m' : zM) (H1 : Heap) (locs1 : List Loc), P v t' m' → zH g t' m' H1 → va_S (zFar g) s.heap H1 locs1 → W p l e R s mt args below meth c H1 locs1 (cells + mc) (slots + ms) Q (F0 mt (pc + 3) ls ((v.map (zV g)).toList ++ rest0))) : W p l e R s mt args below meth c H locs cells slots Q (F0 mt pc ls st0) := by
  intro T hT X9
  rcases hr T hT X9 with ⟨v, st₀, t0, T', L, h0, X', hL, e1, e2, ⟨⟨v', t', m', hv, hp, hb⟩, hz, hk⟩, st⟩ | ⟨q, st₀, t0, T', L, E, ce, h0, X', hL, e1, e2, ⟨hE, ⟨t', m', hp, hb⟩, hz, hk⟩, hce, hcv, hcl, st⟩
  · cases hv
    rw [h0] at hz hk
    obtain ⟨t2, a1, b1⟩ := kk v' t' m' T'.heap (locs ++ L) hp (by rw [e1]; exact hb) ⟨Nat.le_trans hS.1 (by rw [e1]; exact hz), fun q h1 h2 => by rw [e1, hk q (Nat.lt_of_lt_of_le h1 hS.1) h2]; exact hS.2.1 q h1 h2, fun q hq => by
        rcases List.mem_append.mp hq with h | h
        · exact hS.2.2 q h
        · exact hL q h⟩ T' rfl X'
    exact ⟨t2, st t2 a1, b1⟩
  · subst hE
    rw [h0] at hz hk
    obtain ⟨t2, a1, b1⟩ := kx q ce t' m' T'.heap (locs ++ L) hp (by rw [e1]; exact hb) ⟨Nat.le_trans hS.1 (by rw [e1]; exact hz), fun q h1 h2 => by rw [e1, hk q (Nat.lt_of_lt_of_le h1 hS.1) h2]; exact hS.2.1 q h1 h2, fun q hq => by
        rcases List.mem_append.mp hq with h | h
        · exact hS.2.2 q h
        · exact hL q h⟩ (by rw [e1]; exact hce) hcv hcl T' rfl X'
    exact ⟨t2, st.trans a1, b1⟩
theorem z_callVx (C : zC p R s mt args meth c g cc nL own h) (hX : zX g s) {y : MethodName} {Cn : String} {cy : ByteArray} {nLy n idx : Nat} {rety : Option FieldType} (Y : zYV y Cn cy nLy rety n) (L : Cond.methodLink own idx y ∈ zTs) {h2 mc ms : Nat} {As : List Value} {P : Option Value → zT → zM → Prop} {X : zT → zM → Prop} {a k : Nat} {T : u_T} {N : Nat} (hM : zMx l y cy nLy rety h2 mc ms t m (.ref a :: As) P X) (hh : h2 + 1 ≤ h) (hk : tK t a = k) (hcl : vwCl[k]? = some (Cn, T, N)) (hk12 : k ≤ 12) (hdg : decode cc pc = .ok (.invokevirtual idx, 3)) (hn : As.length = n) (hu1 : u.1 + mc ≤ R.cells) (hu2 : u.2 + ms ≤ R.slots) (hw : (rest.map fun v => v.category).sum ≤ 8) (hst : st = As.reverse ++ .ref a :: rest)
    (kx : ∀ (H1 : Heap) (locs1 : List Loc) (cells slots : Nat) (ls : Array Slot) (q : Addr) (ce : Cell) (t' : zT) (m' : zM), X t' m' → zH g t' m' H1 → va_S (zFar g) s.heap H1 locs1 → cells ≤ u.1 + mc → slots ≤ u.2 + ms → lv_has ls nL (lv.map (fun q => (q.1, zV g q.2))) → H1[q]? = some ce → ce.vm = .none → s.vm.findClass nX = some ce.cls → vx_W p l e R s mt args below meth c H1 locs1 cells slots Q (F0 mt pc ls (rest.map (zV g))) q)
    (kk : ∀ (v : Option Value) (t' : zT) (m' : zM), P v t' m' → zW p l e R s mt args below meth c g Q (u.1 + mc, u.2 + ms) nL t' m' (pc + 3) lv (v.toList ++ rest)) : zW p l e R s mt args below meth c g Q u nL t m pc lv st := by
  intro H locs cells slots ls hH hS h1 h2' hv
  obtain ⟨ha0, hrec⟩ := z_kind C hH hk hcl hk12
  have hR : (zRm h2 mc ms).frames + 1 ≤ R.frames ∧ 8 + (nLy + 11) + (zRm h2 mc ms).locals ≤ R.locals := by
    have := C.2.2.2.2.2.2.2.1; have := C.2.2.2.2.2.2.2.2; have := Y.2.2.2.2.2
    constructor
    · show h2 + 1 ≤ R.frames; omega
    · show 8 + (nLy + 11) + 31 * h2 ≤ R.locals; omega
  subst hst
  have e9 : (As.reverse ++ .ref a :: rest).map (zV g) = (As.map (zV g)).reverse ++ .ref (g.1 + a) :: rest.map (zV g) := by
    rw [List.map_append, List.map_reverse, List.map_cons]
    show _ ++ zRf g a :: _ = _
    rw [zrf_pos g ha0]
  rw [e9]
  refine z_afterx (P := P) (X := X) (vx_runV (As := As.map (zV g)) (rest := rest.map (zV g)) ⟨C.1, C.2.1, C.2.2.1, C.2.2.2.1, C.2.2.2.2.1⟩ (hM g) ⟨callB_of n C.2.2.2.2.1 (zgood Y.2.2.2.1) rfl rfl rfl (by rw [Y.2.2.2.2.1.1]; exact C.2.2.2.2.1 _ Y.2.2.1) (C.2.2.2.2.1 _ L) Y.2.2.2.2.1.2 hR, C.2.2.2.2.1 _ Y.1, C.2.2.2.2.1 _ Y.2.1⟩ ⟨zblindx, hrec, zprex C hX (by rw [List.map_cons]; show _ = zRf g a :: _; rw [zrf_pos g ha0]) hH hS⟩ rfl (by rw [List.length_map]; exact hn) hv.1 rfl (z_words hw) hdg ⟨by omega, by omega⟩) hS (fun q ce t' m' H1 locs1 hP hH1 hS1 hce hcv hcl => kx H1 locs1 _ _ ls q ce t' m' hP hH1 hS1 (Nat.add_le_add_right h1 mc) (Nat.add_le_add_right h2' ms) hv hce hcv hcl) fun v t' m' H1 locs1 hP hH1 hS1 => ?_
  have hk9 := kk v t' m' hP H1 locs1 (cells + mc) (slots + ms) ls hH1 hS1 (Nat.add_le_add_right h1 mc) (Nat.add_le_add_right h2' ms) hv
  rw [List.map_append] at hk9
  cases v with
  | none => exact hk9
  | some v => exact hk9
/-- a static call of the law's led -/
theorem z_callL (C : zC p R s mt args meth c g cc nL RL h) (hX : zX g s) {h2 mc ms : Nat} {As : List Value} {P : Option Value → zT → zM → Prop} (hM : zMl l h2 mc ms t m As P) (hh : h2 + 1 ≤ h) (hdg : decode cc pc = .ok (.invokestatic 195, 3)) (hn : As.length = 3) (hu1 : u.1 + mc ≤ R.cells) (hu2 : u.2 + ms ≤ R.slots) (hw : (rest.map fun v => v.category).sum ≤ 8) (hst : st = As.reverse ++ rest) (kk : ∀ (v : Option Value) (t' : zT) (m' : zM), P v t' m' → zW p l e R s mt args below meth c g Q (u.1 + mc, u.2 + ms) nL t' m' (pc + 3) lv (v.toList ++ rest)) : zW p l e R s mt args below meth c g Q u nL t m pc lv st := by
  intro H locs cells slots ls hH hS h1 h2' hv
  have hR : (zRm h2 mc ms).frames + 1 ≤ R.frames ∧ 8 + (4 + 11) + (zRm h2 mc ms).locals ≤ R.locals := by
    have := C.2.2.2.2.2.2.2.1; have := C.2.2.2.2.2.2.2.2
    constructor
    · show h2 + 1 ≤ R.frames; omega
    · show 8 + (4 + 11) + 31 * h2 ≤ R.locals; omega
  subst hst
  have e9 : (As.reverse ++ rest).map (zV g) = (As.map (zV g)).reverse ++ rest.map (zV g) := by
    rw [List.map_append, List.map_reverse]
  rw [e9]
  have hG : GoodIn zTs (va_wsS RL 195 yL_led (.codeWith yL_led cL_led 4 (some .int) [(0, 9, 12, 13)] :: zTs)) := by
    intro w hw
    simp only [va_wsS, List.mem_append, List.mem_cons, List.not_mem_nil, or_false] at hw
    rcases hw with (rfl | rfl | rfl) | rfl | hw
    · exact zts_good _ wl_L_195
    · exact zts_good _ wx_st
    · exact zts_good _ wx_iniL
    · exact zts_good _ wx_cw
    · exact zts_good _ hw
  have hcw := vx_cwSW (R := R) (mc := mc) (ms := ms) (rm := zRm h2 mc ms) 3 C.2.2.2.2.1 hG rfl rfl rfl ⟨by decide +kernel, by decide +kernel, by decide +kernel⟩ hR
  refine z_after (P := P) (vx_runSW (As := As.map (zV g)) (rest := rest.map (zV g)) ⟨C.1, C.2.1, C.2.2.1, C.2.2.2.1, C.2.2.2.2.1⟩ (hM g) hcw ⟨zblindx, zprex C hX rfl hH hS⟩ rfl (by rw [List.length_map]; exact hn) hv.1 rfl (z_words hw) hdg ⟨by omega, by omega⟩) hS fun v t' m' H1 locs1 hP hH1 hS1 => ?_
  have hk9 := kk v t' m' hP H1 locs1 (cells + mc) (slots + ms) ls hH1 hS1 (Nat.add_le_add_right h1 mc) (Nat.add_le_add_right h2' ms) hv
  rw [List.map_append] at hk9
  cases v with
  | none => exact hk9
  | some v => exact hk9
set_option maxHeartbeats 4000000 in
set_option maxRecDepth 20000 in
theorem kL_led (hl : l.stackTraces = false) {p1 : Int32} {A : Int32 → Prop} {B : Prop} (hk1 : tK t 1 = 9) (hk84 : tK t 84 = 15) (hin : vp_in 0 (tL t 84)) (H : wX9_led t m 1 p1 (fun r m1 => m1 = m ∧ A r) (fun m1 => m1 = m ∧ B)) : zMl l 7 1 6 t m [.ref 1, .int p1, .ref 84] (zPled t m A B) := by
  intro g
  refine va_MetW (cc := cL_led) (maxL := 4) (ret := some .int) (by decide +kernel) rfl ?_
  intro p e s mt args below meth c s₁ B9 hml hv
  obtain ⟨rfl, hH, hK, hX⟩ := hv
  have hts := atoms_spec (ws := .codeWith yL_led cL_led 4 (some .int) [(0, 9, 12, 13)] :: zTs) B9.pre
  have hown : s.vm.findClass yL_led.cls = some mt.cls := findClass_of_methodNamed B9.named
  have htab : c.exceptionTable.toList = tableOf [(0, 9, 12, 13)] := vx_table (x := yL_led) B9 (hts _ List.mem_cons_self)
  have hr := B9.returns
  have C : zC p (zRm 7 1 6) s mt (([.ref 1, .int p1, .ref 84] : List Value).map (zV g)).toArray meth c g cL_led 4 RL 7 := ⟨B9.exec, B9.bytes, hml, hown, fun w hw => hts w (List.mem_cons_of_mem _ hw), hK, B9.notSynchronized, Nat.le_refl 7, Nat.le_refl _⟩
  rw [lg_entry_eq]
  refine (?_ : zW p l e (zRm 7 1 6) s mt (([.ref 1, .int p1, .ref 84] : List Value).map (zV g)).toArray below meth c g (MQ below (zQc g (zPled t m A B)) (([.ref 1, .int p1, .ref 84] : List Value).map (zV g)).toArray s 1 6 (zFar g)) (0, 0) 4 t m 0 (lv_args 0 [.ref 1, .int p1, .ref 84]) []) s.heap [] 0 0 _ hH va_S.rf (Nat.le_refl 0) (Nat.le_refl 0) (by
    rw [← z_lva]
    exact lv_entry (([.ref 1, .int p1, .ref 84] : List Value).map (zV g)) (n := 4) (by rw [z_lgs]; exact Nat.le_of_ble_eq_true rfl))
  refine z_aload_n (pc := 0) C (dL_led 0 rfl) rfl 2 rfl ?_
  refine z_iconst (pc := 1) (v := 0) C (dL_led 1 rfl) (by decide) ?_
  refine z_aload_n (pc := 2) C (dL_led 2 rfl) rfl 0 rfl ?_
  refine z_iload_n (pc := 3) C (dL_led 3 rfl) rfl 1 rfl ?_
  refine z_callVx (pc := 4) (As := [.int p1]) (rest := [.int 0, .ref 84]) C hX YX9_led wl_L_7 (kX9_led hl H) (by decide) hk1 rfl (by decide) (dL_led 4 rfl) rfl (by decide) (by decide) (Nat.le_of_ble_eq_true rfl) rfl (fun H1 locs1 cells slots ls q ce t' m' hx hH1 hS1 c1 c2 hv1 hce hcv hcl => ?_) (fun v t' m' hP => ?_)
  · obtain ⟨d, ht', hm', hB⟩ := hx
    rw [ht', hm'] at hH1
    refine vx_catch (own := RL) (name := nX) (E := nX) C.2.2.2.1 [] ⟨0, 9, 12, 13⟩ [] (by rw [htab]; rfl) (fun z hz => nomatch hz) (by decide) (by decide) (C.2.2.2.2.1 _ wx_13) (va_Nw.use rfl (hX.2 _ (by simp [exBad]))) hce hcv hcl ?_
    refine lv_astore_n C.1 C.2.1 (dL_led 8 rfl) (i := 3) rfl hv1 (by decide) rfl (fun ls' hv' => ?_)
    refine (?_ : zW p l e (zRm 7 1 6) s mt (([.ref 1, .int p1, .ref 84] : List Value).map (zV g)).toArray below meth c g (MQ below (zQc g (zPled t m A B)) (([.ref 1, .int p1, .ref 84] : List Value).map (zV g)).toArray s 1 6 (zFar g)) (1, 6) 4 (xg t d) m 13 [] []) H1 locs1 cells slots ls' hH1 hS1 c1 c2 ⟨hv'.1, hv'.2.1, fun q hq => nomatch hq⟩
    refine z_iconst (pc := 13) (v := 1) C (dL_led 9 rfl) (by decide) ?_
    exact z_iret (pc := 14) C hr (by decide) (by decide) (dL_led 10 rfl) (Or.inr ⟨rfl, ⟨d, rfl⟩, rfl, hB⟩)
  · obtain ⟨ht', r, hv', hm', hA⟩ := hP
    rw [ht', hv', hm']
    refine z_i2l (pc := 7) C (dL_led 5 rfl) ?_
    refine z_lastore (pc := 8) C hk84 hin (dL_led 6 rfl) ?_
    refine z_goto (pc := 9) (tgt := 15) C (dL_led 7 rfl) (by decide) ?_
    refine z_iconst (pc := 15) (v := 0) C (dL_led 11 rfl) (by decide) ?_
    exact z_iret (pc := 16) C hr (by decide) (by decide) (dL_led 12 rfl) (Or.inl ⟨r, rfl, rfl, rfl, hA⟩)
end
