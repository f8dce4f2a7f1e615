/-- what the tables say of an instance method, a static one, a constructor -/
def zYV (y : MethodName) (Cn : String) (cy : ByteArray) (nLy : Nat) (rety : Option FieldType) (n : Nat) : Prop := Cond.instanceMethod y ∈ zTs ∧ Cond.selects Cn y y ∈ zTs ∧ Cond.initialized Cn ∈ zTs ∧ Cond.code y cy nLy rety ∈ zTs ∧ (y.cls = Cn ∧ y.cls ≠ "java/lang/invoke/MethodHandle" ∧ y.cls ≠ "java/lang/invoke/VarHandle" ∧ (parseMethodDescriptor y.desc).map (fun d => d.parameters.length) = some n) ∧ nLy ≤ 12
def zYS (y : MethodName) (cy : ByteArray) (nLy : Nat) (rety : Option FieldType) (n : Nat) : Prop := Cond.static y ∈ zTs ∧ Cond.initialized y.cls ∈ zTs ∧ Cond.code y cy nLy rety ∈ zTs ∧ (y.cls ≠ "java/lang/invoke/MethodHandle" ∧ y.cls ≠ "java/lang/invoke/VarHandle" ∧ (parseMethodDescriptor y.desc).map (fun d => d.parameters.length) = some n) ∧ nLy ≤ 12
def zYI (y : MethodName) (cy : ByteArray) (nLy n : Nat) : Prop := Cond.instanceMethod y ∈ zTs ∧ Cond.initialized y.cls ∈ zTs ∧ Cond.code y cy nLy none ∈ zTs ∧ y.name = "<init>" ∧ (y.cls ≠ "java/lang/invoke/MethodHandle" ∧ y.cls ≠ "java/lang/invoke/VarHandle" ∧ (parseMethodDescriptor y.desc).map (fun d => d.parameters.length) = some n) ∧ nLy ≤ 12
theorem zgood {y : MethodName} {cy : ByteArray} {nLy : Nat} {rety : Option FieldType} (h : Cond.code y cy nLy rety ∈ zTs) : GoodIn zTs (.code y cy nLy rety :: zTs) := by
  intro w hw
  rcases List.mem_cons.mp hw with rfl | hw
  · exact zts_good _ h
  · exact zts_good _ hw
section ZCALL
variable {p : Program} {l : Launch} {e : Env} {R : Room} {s : State} {mt : MethodId} {args : Array Value} {below : List Frame} {meth : Method} {c : Code} {g : zG} {Q : State → Prop} {u : Nat × Nat} {nL : Nat} {t : zT} {m : zM} {pc : Nat} {lv lv2 : List (Nat × Value)} {st rest : List Value} {cc : ByteArray} {own : String} {h : Nat}
theorem zblind {As : List Value} : FrameBlind (va_Pc (As.map (zV g)) (fun U => zH g t m U.heap ∧ zK g U)) := fun a U f mk q => ⟨q.1, q.2.1, q.2.2.calling⟩
theorem zpre (C : zC p R s mt args meth c g cc nL own h) {H : Heap} {locs : List Loc} {av : List Value} {As : List Value} (ha : av = As.map (zV g)) (hH : zH g t m H) (hS : va_S (zFar g) s.heap H locs) : ∀ U : State, U.heap = H → s.WarmedH U.vm → va_Pc (As.map (zV g)) (fun U => zH g t m U.heap ∧ zK g U) av.toArray U := fun U hU hW => ⟨by rw [ha], by rw [hU]; exact hH, zK.go hW (by rw [hU]; exact hS.1) (fun q h1 h2 => by rw [hU]; exact hS.2.1 q h1 h2) C.2.2.2.2.2.1⟩
theorem z_after {H : Heap} {locs : List Loc} {cells slots mc ms : Nat} {ls : Array Slot} {st0 rest0 : List Value} {a : Array Value} {P : Option Value → zT → zM → Prop} (hr : va_Run p l e R s mt args below meth c H locs cells slots mc ms (F0 mt pc ls st0) rest0 (zQc g P a) (zFar g)) (hS : va_S (zFar g) s.heap H locs)
    (kk : ∀ (v : Option Value) (t' : zT) (m' : zM) (H1 : Heap) (locs1 : List Loc), P v t' m' → zH g t' m' H1 → va_S (zFar g) s.heap H1 locs1 → W p l e R s mt args below meth c H1 locs1 (cells + mc) (slots + ms) Q (F0 mt (pc + 3) ls ((v.map (zV g)).toList ++ rest0))) : W p l e R s mt args below meth c H locs cells slots Q (F0 mt pc ls st0) := by
  intro T hT X
  obtain ⟨v, st₀, t0, T', L, h0, X', hL, e1, e2, ⟨⟨v', t', m', hv, hp, hb⟩, hz, hk⟩, st⟩ := hr T hT X
  cases hv
  rw [h0] at hz hk
  obtain ⟨t2, a1, b1⟩ := kk v' t' m' T'.heap (locs ++ L) hp (by rw [e1]; exact hb) ⟨Nat.le_trans hS.1 (by rw [e1]; exact hz), fun q h1 h2 => by rw [e1, hk q (Nat.lt_of_lt_of_le h1 hS.1) h2]; exact hS.2.1 q h1 h2, fun q hq => by
      rcases List.mem_append.mp hq with h | h
      · exact hS.2.2 q h
      · exact hL q h⟩ T' rfl X'
  exact ⟨t2, st t2 a1, b1⟩
theorem z_words {ls : Array Slot} {rest st0 : List Value} (hw : (rest.map fun v => v.category).sum ≤ 8) : 2 * (F0 mt pc ls st0).monitorRoom + ((rest.map (zV g)).map fun v => v.category).sum ≤ 8 := by
  refine lv_room ?_
  rw [List.map_map]
  have e : ((fun v : Value => v.category) ∘ zV g) = fun v => v.category := funext fun v => zv_cat g v
  rw [e]
  exact hw
theorem z_kind (C : zC p R s mt args meth c g cc nL own h) {H : Heap} {a k : Nat} {Cn : String} {T : u_T} {N : Nat} (hH : zH g t m H) (hk : tK t a = k) (hcl : vwCl[k]? = some (Cn, T, N)) (hk12 : k ≤ 12) : 0 < a ∧ ∃ cell : Cell, H[g.1 + a]? = some cell ∧ cell.vm.isStatics = false ∧ s.vm.findClass Cn = some cell.cls := by
  obtain ⟨ha0, hc⟩ := hH.2 a (by omega)
  unfold zCell at hc
  rw [if_pos (by omega), hk] at hc
  obtain ⟨cell, q1, q2, q3, q4⟩ := hc
  exact ⟨ha0, cell, q1, by rw [q3]; rfl, by rw [q2]; exact (C.2.2.2.2.2.1.1.1 k _ hcl).2.1⟩
theorem z_callV (C : zC p R s mt args meth c g cc nL own h) {y : MethodName} {Cn : String} {cy : ByteArray} {nLy n idx : Nat} {rety : Option FieldType} (Y : zYV y Cn cy nLy rety n) (L : Cond.methodLink own idx y ∈ zTs) {h2 mc ms : Nat} {As : List Value} {P : Option Value → zT → zM → Prop} {a k : Nat} {T : u_T} {N : Nat} (hM : zMet l y cy nLy rety h2 mc ms t m (.ref a :: As) P) (hh : h2 + 1 ≤ h) (hk : tK t a = k) (hcl : vwCl[k]? = some (Cn, T, N)) (hk12 : k ≤ 12) (hdg : decode cc pc = .ok (.invokevirtual idx, 3)) (hn : As.length = n) (hu1 : u.1 + mc ≤ R.cells) (hu2 : u.2 + ms ≤ R.slots) (hw : (rest.map fun v => v.category).sum ≤ 8) (hst : st = As.reverse ++ .ref a :: rest) (kk : ∀ (v : Option Value) (t' : zT) (m' : zM), P v t' m' → zW p l e R s mt args below meth c g Q (u.1 + mc, u.2 + ms) nL t' m' (pc + 3) lv (v.toList ++ rest)) : zW p l e R s mt args below meth c g Q u nL t m pc lv st := by
  intro H locs cells slots ls hH hS h1 h2' hv
  obtain ⟨ha0, hrec⟩ := z_kind C hH hk hcl hk12
  have hR : (zRm h2 mc ms).frames + 1 ≤ R.frames ∧ 8 + (nLy + 11) + (zRm h2 mc ms).locals ≤ R.locals := by
    have := C.2.2.2.2.2.2.2.1; have := C.2.2.2.2.2.2.2.2; have := Y.2.2.2.2.2
    constructor
    · show h2 + 1 ≤ R.frames; omega
    · show 8 + (nLy + 11) + 31 * h2 ≤ R.locals; omega
  subst hst
  have e9 : (As.reverse ++ .ref a :: rest).map (zV g) = (As.map (zV g)).reverse ++ .ref (g.1 + a) :: rest.map (zV g) := by
    rw [List.map_append, List.map_reverse, List.map_cons]
    show _ ++ zRf g a :: _ = _
    rw [zrf_pos g ha0]
  rw [e9]
  refine z_after (P := P) (va_runV (As := As.map (zV g)) (rest := rest.map (zV g)) ⟨C.1, C.2.1, C.2.2.1, C.2.2.2.1, C.2.2.2.2.1⟩ (hM g) ⟨callB_of n C.2.2.2.2.1 (zgood Y.2.2.2.1) rfl rfl rfl (by rw [Y.2.2.2.2.1.1]; exact C.2.2.2.2.1 _ Y.2.2.1) (C.2.2.2.2.1 _ L) Y.2.2.2.2.1.2 hR, C.2.2.2.2.1 _ Y.1, C.2.2.2.2.1 _ Y.2.1⟩ ⟨zblind, hrec, zpre C (by rw [List.map_cons]; show _ = zRf g a :: _; rw [zrf_pos g ha0]) hH hS⟩ rfl (by rw [List.length_map]; exact hn) hv.1 rfl (z_words hw) hdg ⟨by omega, by omega⟩) hS fun v t' m' H1 locs1 hP hH1 hS1 => ?_
  have hk9 := kk v t' m' hP H1 locs1 (cells + mc) (slots + ms) ls hH1 hS1 (Nat.add_le_add_right h1 mc) (Nat.add_le_add_right h2' ms) hv
  rw [List.map_append] at hk9
  cases v with
  | none => exact hk9
  | some v => exact hk9
theorem z_callS (C : zC p R s mt args meth c g cc nL own h) {y : MethodName} {cy : ByteArray} {nLy n idx : Nat} {rety : Option FieldType} (Y : zYS y cy nLy rety n) (L : Cond.methodLink own idx y ∈ zTs) {h2 mc ms : Nat} {As : List Value} {P : Option Value → zT → zM → Prop} (hM : zMet l y cy nLy rety h2 mc ms t m As P) (hh : h2 + 1 ≤ h) (hdg : decode cc pc = .ok (.invokestatic idx, 3)) (hn : As.length = n) (hu1 : u.1 + mc ≤ R.cells) (hu2 : u.2 + ms ≤ R.slots) (hw : (rest.map fun v => v.category).sum ≤ 8) (hst : st = As.reverse ++ rest) (kk : ∀ (v : Option Value) (t' : zT) (m' : zM), P v t' m' → zW p l e R s mt args below meth c g Q (u.1 + mc, u.2 + ms) nL t' m' (pc + 3) lv (v.toList ++ rest)) : zW p l e R s mt args below meth c g Q u nL t m pc lv st := by
  intro H locs cells slots ls hH hS h1 h2' hv
  have hR : (zRm h2 mc ms).frames + 1 ≤ R.frames ∧ 8 + (nLy + 11) + (zRm h2 mc ms).locals ≤ R.locals := by
    have := C.2.2.2.2.2.2.2.1; have := C.2.2.2.2.2.2.2.2; have := Y.2.2.2.2
    constructor
    · show h2 + 1 ≤ R.frames; omega
    · show 8 + (nLy + 11) + 31 * h2 ≤ R.locals; omega
  subst hst
  have e9 : (As.reverse ++ rest).map (zV g) = (As.map (zV g)).reverse ++ rest.map (zV g) := by
    rw [List.map_append, List.map_reverse]
  rw [e9]
  refine z_after (P := P) (va_runS (As := As.map (zV g)) (rest := rest.map (zV g)) ⟨C.1, C.2.1, C.2.2.1, C.2.2.2.1, C.2.2.2.2.1⟩ (hM g) ⟨callB_of n C.2.2.2.2.1 (zgood Y.2.2.1) rfl rfl rfl (C.2.2.2.2.1 _ Y.2.1) (C.2.2.2.2.1 _ L) Y.2.2.2.1 hR, C.2.2.2.2.1 _ Y.1⟩ ⟨zblind, zpre C rfl hH hS⟩ rfl (by rw [List.length_map]; exact hn) hv.1 rfl (z_words hw) hdg ⟨by omega, by omega⟩) hS fun v t' m' H1 locs1 hP hH1 hS1 => ?_
  have hk9 := kk v t' m' hP H1 locs1 (cells + mc) (slots + ms) ls hH1 hS1 (Nat.add_le_add_right h1 mc) (Nat.add_le_add_right h2' ms) hv
  rw [List.map_append] at hk9
  cases v with
  | none => exact hk9
  | some v => exact hk9
theorem z_callI (C : zC p R s mt args meth c g cc nL own h) {y : MethodName} {cy : ByteArray} {nLy n idx : Nat} (Y : zYI y cy nLy n) (L : Cond.methodLink own idx y ∈ zTs) {h2 mc ms : Nat} {As : List Value} {P : Option Value → zT → zM → Prop} {a : Nat} (ha0 : 0 < a) (hM : zMet l y cy nLy none h2 mc ms t m (.ref a :: As) P) (hh : h2 + 1 ≤ h) (hdg : decode cc pc = .ok (.invokespecial idx, 3)) (hn : As.length = n) (hu1 : u.1 + mc ≤ R.cells) (hu2 : u.2 + ms ≤ R.slots) (hw : (rest.map fun v => v.category).sum ≤ 8) (hst : st = As.reverse ++ .ref a :: rest) (kk : ∀ (v : Option Value) (t' : zT) (m' : zM), P v t' m' → zW p l e R s mt args below meth c g Q (u.1 + mc, u.2 + ms) nL t' m' (pc + 3) lv (v.toList ++ rest)) : zW p l e R s mt args below meth c g Q u nL t m pc lv st := by
  intro H locs cells slots ls hH hS h1 h2' hv
  have hR : (zRm h2 mc ms).frames + 1 ≤ R.frames ∧ 8 + (nLy + 11) + (zRm h2 mc ms).locals ≤ R.locals := by
    have := C.2.2.2.2.2.2.2.1; have := C.2.2.2.2.2.2.2.2; have := Y.2.2.2.2.2
    constructor
    · show h2 + 1 ≤ R.frames; omega
    · show 8 + (nLy + 11) + 31 * h2 ≤ R.locals; omega
  subst hst
  have e9 : (As.reverse ++ .ref a :: rest).map (zV g) = (As.map (zV g)).reverse ++ .ref (g.1 + a) :: rest.map (zV g) := by
    rw [List.map_append, List.map_reverse, List.map_cons]
    show _ ++ zRf g a :: _ = _
    rw [zrf_pos g ha0]
  rw [e9]
  refine z_after (P := P) (va_runI (As := As.map (zV g)) (rest := rest.map (zV g)) ⟨C.1, C.2.1, C.2.2.1, C.2.2.2.1, C.2.2.2.2.1⟩ (hM g) ⟨callB_of n C.2.2.2.2.1 (zgood Y.2.2.1) rfl rfl rfl (C.2.2.2.2.1 _ Y.2.1) (C.2.2.2.2.1 _ L) Y.2.2.2.2.1 hR, Y.2.2.2.1, C.2.2.2.2.1 _ Y.1⟩ ⟨zblind, zpre C (by rw [List.map_cons]; show _ = zRf g a :: _; rw [zrf_pos g ha0]) hH hS⟩ rfl (by rw [List.length_map]; exact hn) hv.1 rfl (z_words hw) hdg ⟨by omega, by omega⟩) hS fun v t' m' H1 locs1 hP hH1 hS1 => ?_
  have hk9 := kk v t' m' hP H1 locs1 (cells + mc) (slots + ms) ls hH1 hS1 (Nat.add_le_add_right h1 mc) (Nat.add_le_add_right h2' ms) hv
  rw [List.map_append] at hk9
  cases v with
  | none => exact hk9
  | some v => exact hk9
theorem z_callVN (C : zC p R s mt args meth c g cc nL own h) {y : MethodName} {Cn : String} {cy : ByteArray} {nLy n idx : Nat} {rety : Option FieldType} (Y : zYV y Cn cy nLy rety n) {host : String} (L : Cond.methodLinkNest own idx y host ∈ zNest) {h2 mc ms : Nat} {As : List Value} {P : Option Value → zT → zM → Prop} {a k : Nat} {T : u_T} {N : Nat} (hM : zMet l y cy nLy rety h2 mc ms t m (.ref a :: As) P) (hh : h2 + 1 ≤ h) (hk : tK t a = k) (hcl : vwCl[k]? = some (Cn, T, N)) (hk12 : k ≤ 12) (hdg : decode cc pc = .ok (.invokevirtual idx, 3)) (hn : As.length = n) (hu1 : u.1 + mc ≤ R.cells) (hu2 : u.2 + ms ≤ R.slots) (hw : (rest.map fun v => v.category).sum ≤ 8) (hst : st = As.reverse ++ .ref a :: rest) (kk : ∀ (v : Option Value) (t' : zT) (m' : zM), P v t' m' → zW p l e R s mt args below meth c g Q (u.1 + mc, u.2 + ms) nL t' m' (pc + 3) lv (v.toList ++ rest)) : zW p l e R s mt args below meth c g Q u nL t m pc lv st := by
  intro H locs cells slots ls hH hS h1 h2' hv
  obtain ⟨ha0, hrec⟩ := z_kind C hH hk hcl hk12
  have hR : (zRm h2 mc ms).frames + 1 ≤ R.frames ∧ 8 + (nLy + 11) + (zRm h2 mc ms).locals ≤ R.locals := by
    have := C.2.2.2.2.2.2.2.1; have := C.2.2.2.2.2.2.2.2; have := Y.2.2.2.2.2
    constructor
    · show h2 + 1 ≤ R.frames; omega
    · show 8 + (nLy + 11) + 31 * h2 ≤ R.locals; omega
  subst hst
  have e9 : (As.reverse ++ .ref a :: rest).map (zV g) = (As.map (zV g)).reverse ++ .ref (g.1 + a) :: rest.map (zV g) := by
    rw [List.map_append, List.map_reverse, List.map_cons]
    show _ ++ zRf g a :: _ = _
    rw [zrf_pos g ha0]
  rw [e9]
  refine z_after (P := P) (va_runVN (As := As.map (zV g)) (rest := rest.map (zV g)) ⟨C.1, C.2.1, C.2.2.1, C.2.2.2.1, C.2.2.2.2.1⟩ (hM g) ⟨va_cnB n C.2.2.2.2.1 (zgood Y.2.2.2.1) rfl rfl rfl (C.2.2.2.2.2.1.2.1 _ L) (by rw [Y.2.2.2.2.1.1]; exact C.2.2.2.2.1 _ Y.2.2.1) Y.2.2.2.2.1.2 hR, C.2.2.2.2.1 _ Y.1, C.2.2.2.2.1 _ Y.2.1⟩ ⟨zblind, hrec, zpre C (by rw [List.map_cons]; show _ = zRf g a :: _; rw [zrf_pos g ha0]) hH hS⟩ rfl (by rw [List.length_map]; exact hn) hv.1 rfl (z_words hw) hdg ⟨by omega, by omega⟩) hS fun v t' m' H1 locs1 hP hH1 hS1 => ?_
  have hk9 := kk v t' m' hP H1 locs1 (cells + mc) (slots + ms) ls hH1 hS1 (Nat.add_le_add_right h1 mc) (Nat.add_le_add_right h2' ms) hv
  rw [List.map_append] at hk9
  cases v with
  | none => exact hk9
  | some v => exact hk9
theorem z_callSN (C : zC p R s mt args meth c g cc nL own h) {y : MethodName} {cy : ByteArray} {nLy n idx : Nat} {rety : Option FieldType} (Y : zYS y cy nLy rety n) {host : String} (L : Cond.methodLinkNest own idx y host ∈ zNest) {h2 mc ms : Nat} {As : List Value} {P : Option Value → zT → zM → Prop} (hM : zMet l y cy nLy rety h2 mc ms t m As P) (hh : h2 + 1 ≤ h) (hdg : decode cc pc = .ok (.invokestatic idx, 3)) (hn : As.length = n) (hu1 : u.1 + mc ≤ R.cells) (hu2 : u.2 + ms ≤ R.slots) (hw : (rest.map fun v => v.category).sum ≤ 8) (hst : st = As.reverse ++ rest) (kk : ∀ (v : Option Value) (t' : zT) (m' : zM), P v t' m' → zW p l e R s mt args below meth c g Q (u.1 + mc, u.2 + ms) nL t' m' (pc + 3) lv (v.toList ++ rest)) : zW p l e R s mt args below meth c g Q u nL t m pc lv st := by
  intro H locs cells slots ls hH hS h1 h2' hv
  have hR : (zRm h2 mc ms).frames + 1 ≤ R.frames ∧ 8 + (nLy + 11) + (zRm h2 mc ms).locals ≤ R.locals := by
    have := C.2.2.2.2.2.2.2.1; have := C.2.2.2.2.2.2.2.2; have := Y.2.2.2.2
    constructor
    · show h2 + 1 ≤ R.frames; omega
    · show 8 + (nLy + 11) + 31 * h2 ≤ R.locals; omega
  subst hst
  have e9 : (As.reverse ++ rest).map (zV g) = (As.map (zV g)).reverse ++ rest.map (zV g) := by
    rw [List.map_append, List.map_reverse]
  rw [e9]
  refine z_after (P := P) (va_runSN (As := As.map (zV g)) (rest := rest.map (zV g)) ⟨C.1, C.2.1, C.2.2.1, C.2.2.2.1, C.2.2.2.2.1⟩ (hM g) ⟨va_cnB n C.2.2.2.2.1 (zgood Y.2.2.1) rfl rfl rfl (C.2.2.2.2.2.1.2.1 _ L) (C.2.2.2.2.1 _ Y.2.1) Y.2.2.2.1 hR, C.2.2.2.2.1 _ Y.1, trivial⟩ ⟨zblind, zpre C rfl hH hS⟩ rfl (by rw [List.length_map]; exact hn) hv.1 rfl (z_words hw) hdg ⟨by omega, by omega⟩) hS fun v t' m' H1 locs1 hP hH1 hS1 => ?_
  have hk9 := kk v t' m' hP H1 locs1 (cells + mc) (slots + ms) ls hH1 hS1 (Nat.add_le_add_right h1 mc) (Nat.add_le_add_right h2' ms) hv
  rw [List.map_append] at hk9
  cases v with
  | none => exact hk9
  | some v => exact hk9
theorem z_callIN (C : zC p R s mt args meth c g cc nL own h) {y : MethodName} {cy : ByteArray} {nLy n idx : Nat} (Y : zYI y cy nLy n) {host : String} (L : Cond.methodLinkNest own idx y host ∈ zNest) {h2 mc ms : Nat} {As : List Value} {P : Option Value → zT → zM → Prop} {a : Nat} (ha0 : 0 < a) (hM : zMet l y cy nLy none h2 mc ms t m (.ref a :: As) P) (hh : h2 + 1 ≤ h) (hdg : decode cc pc = .ok (.invokespecial idx, 3)) (hn : As.length = n) (hu1 : u.1 + mc ≤ R.cells) (hu2 : u.2 + ms ≤ R.slots) (hw : (rest.map fun v => v.category).sum ≤ 8) (hst : st = As.reverse ++ .ref a :: rest) (kk : ∀ (v : Option Value) (t' : zT) (m' : zM), P v t' m' → zW p l e R s mt args below meth c g Q (u.1 + mc, u.2 + ms) nL t' m' (pc + 3) lv (v.toList ++ rest)) : zW p l e R s mt args below meth c g Q u nL t m pc lv st := by
  intro H locs cells slots ls hH hS h1 h2' hv
  have hR : (zRm h2 mc ms).frames + 1 ≤ R.frames ∧ 8 + (nLy + 11) + (zRm h2 mc ms).locals ≤ R.locals := by
    have := C.2.2.2.2.2.2.2.1; have := C.2.2.2.2.2.2.2.2; have := Y.2.2.2.2.2
    constructor
    · show h2 + 1 ≤ R.frames; omega
    · show 8 + (nLy + 11) + 31 * h2 ≤ R.locals; omega
  subst hst
  have e9 : (As.reverse ++ .ref a :: rest).map (zV g) = (As.map (zV g)).reverse ++ .ref (g.1 + a) :: rest.map (zV g) := by
    rw [List.map_append, List.map_reverse, List.map_cons]
    show _ ++ zRf g a :: _ = _
    rw [zrf_pos g ha0]
  rw [e9]
  refine z_after (P := P) (va_runIN (As := As.map (zV g)) (rest := rest.map (zV g)) ⟨C.1, C.2.1, C.2.2.1, C.2.2.2.1, C.2.2.2.2.1⟩ (hM g) ⟨va_cnB n C.2.2.2.2.1 (zgood Y.2.2.1) rfl rfl rfl (C.2.2.2.2.2.1.2.1 _ L) (C.2.2.2.2.1 _ Y.2.1) Y.2.2.2.2.1 hR, Y.2.2.2.1, C.2.2.2.2.1 _ Y.1⟩ ⟨zblind, zpre C (by rw [List.map_cons]; show _ = zRf g a :: _; rw [zrf_pos g ha0]) hH hS⟩ rfl (by rw [List.length_map]; exact hn) hv.1 rfl (z_words hw) hdg ⟨by omega, by omega⟩) hS fun v t' m' H1 locs1 hP hH1 hS1 => ?_
  have hk9 := kk v t' m' hP H1 locs1 (cells + mc) (slots + ms) ls hH1 hS1 (Nat.add_le_add_right h1 mc) (Nat.add_le_add_right h2' ms) hv
  rw [List.map_append] at hk9
  cases v with
  | none => exact hk9
  | some v => exact hk9
theorem z_iret (C : zC p R s mt args meth c g cc nL own h) {P : Option Value → zT → zM → Prop} {x : Int32} {mc ms : Nat} (hr : meth.sig.returnType = some .int) (hu1 : u.1 ≤ mc) (hu2 : u.2 ≤ ms) (hdg : decode cc pc = .ok (.ireturn, 1)) (hP : P (some (.int x)) t m) : zW p l e R s mt args below meth c g (MQ below (zQc g P) args s mc ms (zFar g)) u nL t m pc lv [.int x] := by
  intro H locs cells slots ls hH hS h1 h2 hv
  refine W.widen (k := mc) (n := ms) (by omega) (by omega) ?_
  exact W.iret (v := x) C.1 C.2.1 hr (fun tt ht hW => ⟨⟨_, t, m, rfl, hP, by rw [ht]; exact hH⟩, hS.F ht⟩) hS.2.2 hdg C.2.2.2.2.2.2.1
theorem z_lret (C : zC p R s mt args meth c g cc nL own h) {P : Option Value → zT → zM → Prop} {x : Int64} {mc ms : Nat} (hr : meth.sig.returnType = some .long) (hu1 : u.1 ≤ mc) (hu2 : u.2 ≤ ms) (hdg : decode cc pc = .ok (.lreturn, 1)) (hP : P (some (.long x)) t m) : zW p l e R s mt args below meth c g (MQ below (zQc g P) args s mc ms (zFar g)) u nL t m pc lv [.long x] := by
  intro H locs cells slots ls hH hS h1 h2 hv
  refine W.widen (k := mc) (n := ms) (by omega) (by omega) ?_
  exact W.lret (v := x) C.1 C.2.1 hr (fun tt ht hW => ⟨⟨_, t, m, rfl, hP, by rw [ht]; exact hH⟩, hS.F ht⟩) hS.2.2 hdg C.2.2.2.2.2.2.1
theorem z_zret (C : zC p R s mt args meth c g cc nL own h) {P : Option Value → zT → zM → Prop} {x : Int32} {mc ms : Nat} (hr : meth.sig.returnType = some .boolean) (hb : x = 0 ∨ x = 1) (hu1 : u.1 ≤ mc) (hu2 : u.2 ≤ ms) (hdg : decode cc pc = .ok (.ireturn, 1)) (hP : P (some (.int x)) t m) : zW p l e R s mt args below meth c g (MQ below (zQc g P) args s mc ms (zFar g)) u nL t m pc lv [.int x] := by
  intro H locs cells slots ls hH hS h1 h2 hv
  refine W.widen (k := mc) (n := ms) (by omega) (by omega) ?_
  exact W.zret (v := x) (ty := .boolean) C.1 C.2.1 hr (zbool hb).1 (fun tt ht hW => ⟨⟨_, t, m, rfl, hP, by rw [ht]; exact hH⟩, hS.F ht⟩) hS.2.2 hdg C.2.2.2.2.2.2.1
theorem z_vret (C : zC p R s mt args meth c g cc nL own h) {P : Option Value → zT → zM → Prop} {mc ms : Nat} (hr : meth.sig.returnType = none) (hu1 : u.1 ≤ mc) (hu2 : u.2 ≤ ms) (hdg : decode cc pc = .ok (.return_, 1)) (hP : P none t m) : zW p l e R s mt args below meth c g (MQ below (zQc g P) args s mc ms (zFar g)) u nL t m pc lv [] := by
  intro H locs cells slots ls hH hS h1 h2 hv
  refine W.widen (k := mc) (n := ms) (by omega) (by omega) ?_
  exact W.vret C.1 C.2.1 hr (fun tt ht hW => ⟨⟨none, t, m, rfl, hP, by rw [ht]; exact hH⟩, hS.F ht⟩) hS.2.2 hdg C.2.2.2.2.2.2.1
/-- Object's constructor -/
theorem z_objInit (C : zC p R s mt args meth c g cc nL own h) {a idx : Nat} (ha0 : 0 < a) (L : Cond.methodLink own idx Lib.objectInit ∈ zTs) (L2 : Cond.instanceMethod Lib.objectInit ∈ zTs) (L3 : Cond.code Lib.objectInit ⟨#[0xb1]⟩ 1 none ∈ zTs) (hh : 1 ≤ h) (hw : (rest.map fun v => v.category).sum ≤ 8) (hdg : decode cc pc = .ok (.invokespecial idx, 3)) (kk : zW p l e R s mt args below meth c g Q u nL t m (pc + 3) lv rest) : zW p l e R s mt args below meth c g Q u nL t m pc lv (.ref a :: rest) := by
  intro H locs cells slots ls hH hS h1 h2 hv
  show W p l e R s mt args below meth c H locs cells slots Q (F0 mt pc ls (zRf g a :: rest.map (zV g)))
  rw [zrf_pos g ha0]
  have := C.2.2.2.2.2.2.2.1; have := C.2.2.2.2.2.2.2.2
  have hw9 := z_words (mt := mt) (pc := pc) (g := g) (ls := ls) (st0 := .ref (g.1 + a) :: rest.map (zV g)) hw
  exact W.objInit C.1 C.2.1 C.2.2.2.1 (C.2.2.2.2.1 _ L) (C.2.2.2.2.1 _ L2) (C.2.2.2.2.1 _ L3) rfl (by rw [C.2.2.1]; exact hv.1) rfl hdg (by omega) (by omega) (kk H locs cells slots ls hH hS h1 h2 hv)
theorem zN_pos (C : zC p R s mt args meth c g cc nL own h) {H : Heap} {locs : List Loc} (hH : zH g t m H) (hS : va_S (zFar g) s.heap H locs) : 0 < tN t := by
  have h1 := hH.1
  have h2 := hS.1
  have h3 := C.2.2.2.2.2.1.2.2.2.2
  omega
theorem zH_new {H H1 : Heap} {k len : Nat} (hH : zH g t m H) (h0 : 0 < tN t) (hz : H1.size = H.size + 1) (ho : ∀ q : Nat, q < H.size → H1[q]? = H[q]?) (hc : zCell g (tNew t k len) (zClr m (tN t)) (tN t) H1) : zH g (tNew t k len) (zClr m (tN t)) H1 := by
  refine ⟨by rw [hz, hH.1]; rfl, fun b hb => ?_⟩
  by_cases hba : b = tN t
  · subst hba; exact ⟨h0, hc⟩
  · have ek : tK (tNew t k len) b = tK t b := by simp [tK, tNew, hba]
    have el : tL (tNew t k len) b = tL t b := by simp [tL, tNew, hba]
    rw [ek] at hb
    obtain ⟨h1, h2⟩ := hH.2 b hb
    refine ⟨h1, ?_⟩
    have hlt : g.1 + b < H.size := by
      unfold zCell at h2
      split at h2
      · obtain ⟨cell, q1, -⟩ := h2
        exact (Array.getElem?_eq_some_iff.mp q1).1
      · exact (Array.getElem?_eq_some_iff.mp h2).1
    have hq := ho (g.1 + b) hlt
    unfold zCell at h2 ⊢
    rw [ek, el]
    split at h2
    · rename_i hk
      rw [if_pos hk]
      refine (h2.kept hq).to (fun j _ => ?_)
      simp [zFv, gI, gJ, gR, zClr, hba]
    · rename_i hk
      rw [if_neg hk, hq, h2]
      congr 2
      funext j
      simp [zAv, gI, gJ, zClr, hba]
/-- an object is made -/
theorem z_new (C : zC p R s mt args meth c g cc nL own h) {k : Nat} {Cn : String} {T : u_T} {N : Nat} {ty : Nat → FieldType} (K : zCl k Cn T N ty) {idx : Nat} (L : Cond.classLink own idx Cn ∈ zTs) (L2 : Cond.instantiable Cn N ∈ zTs) (L3 : Cond.initialized Cn ∈ zTs) (hdg : decode cc pc = .ok (.new idx, 3)) (hu1 : u.1 + 1 ≤ R.cells) (hu2 : u.2 + N ≤ R.slots) (kk : 0 < tN t → zW p l e R s mt args below meth c g Q (u.1 + 1, u.2 + N) nL (tNew t k 0) (zClr m (tN t)) (pc + 3) lv (.ref (tN t) :: st)) : zW p l e R s mt args below meth c g Q u nL t m pc lv st := by
  intro H locs cells slots ls hH hS h1 h2 hv
  have h0 := zN_pos C hH hS
  have hKn := C.2.2.2.2.2.1.1.1 k _ K.1
  refine W.newcK C.1 C.2.1 C.2.2.2.1 (C.2.2.2.2.1 _ L) (C.2.2.2.2.1 _ L2) (C.2.2.2.2.1 _ L3) rfl hdg (by omega) (by omega) hKn.2.1 rfl fun H1 kC hkC e1 z1 o1 => ?_
  have hk9 := kk h0 H1 locs (cells + 1) (slots + N) ls (zH_new hH h0 z1 o1 ?_) ⟨Nat.le_trans hS.1 (by omega), fun x g1 g2 => (o1 x (Nat.lt_of_lt_of_le g1 hS.1)).trans (hS.2.1 x g1 g2), hS.2.2⟩ (Nat.add_le_add_right h1 1) (Nat.add_le_add_right h2 N) hv
  · rw [List.map_cons] at hk9
    have e5 : zV g (.ref (tN t)) = .ref H.size := by
      show zRf g (tN t) = _
      rw [zrf_pos g h0, hH.1]
    rw [e5] at hk9
    exact hk9
  · have ek : tK (tNew t k 0) (tN t) = k := by simp [tK, tNew]
    unfold zCell
    rw [ek, if_pos K.2.2.2.2.1, K.2.2.2.2.2.1, ← hH.1]
    refine (u_born ty C.2.2.2.2.1 K.2.1 hKn hkC e1 K.2.2.1).to (fun j hj => ?_)
    obtain ⟨hf, hf1, hf2⟩ := K.2.2.2.2.2.2 j hj
    unfold zFv
    rw [hf]
    revert hf1 hf2
    cases ty j <;> simp [zTc, defaultValue, gI, gJ, gR, zClr, zRf]
theorem z_newaB (C : zC p R s mt args meth c g cc nL own h) {x : Int32} {N : Nat} (hx : ¬ x < 0) (hN : x.toNatClampNeg = N) (hb : N * 1 ≤ 536870912) (L : Cond.arrayClass .byte ∈ zTs) (hdg : decode cc pc = .ok (.newarray .byte, 2)) (hu1 : u.1 + 1 ≤ R.cells) (hu2 : u.2 + N ≤ R.slots) (kk : 0 < tN t → zW p l e R s mt args below meth c g Q (u.1 + 1, u.2 + N) nL (tNew t 13 N) (zClr m (tN t)) (pc + 2) lv (.ref (tN t) :: st)) : zW p l e R s mt args below meth c g Q u nL t m pc lv (.int x :: st) := by
  intro H locs cells slots ls hH hS h1 h2 hv
  have h0 := zN_pos C hH hS
  refine va_newaK (atype := .byte) C.1 C.2.1 (C.2.2.2.2.1 _ L) rfl hdg rfl hx hN hb (by omega) (by omega) rfl fun H1 cA e1 z1 o1 hAr hNm => ?_
  have hcA : cA = g.2.2.2.2 13 := by
    have h9 : s.vm.findClass ("[" ++ (.byte : FieldType).toString) = some (g.2.2.2.2 13) := (C.2.2.2.2.2.1.1.2 0 _ rfl).2
    exact Option.some.inj (hNm.symm.trans h9)
  subst hcA
  have hk9 := kk h0 H1 locs (cells + 1) (slots + N) ls (zH_new hH h0 z1 o1 ?_) ⟨Nat.le_trans hS.1 (by omega), fun x g1 g2 => (o1 x (Nat.lt_of_lt_of_le g1 hS.1)).trans (hS.2.1 x g1 g2), hS.2.2⟩ (Nat.add_le_add_right h1 1) (Nat.add_le_add_right h2 N) hv
  · rw [List.map_cons] at hk9
    have e5 : zV g (.ref (tN t)) = .ref H.size := by
      show zRf g (tN t) = _
      rw [zrf_pos g h0, hH.1]
    rw [e5] at hk9
    exact hk9
  · have ek : tK (tNew t 13 N) (tN t) = 13 := by simp [tK, tNew]
    have el : tL (tNew t 13 N) (tN t) = N := by simp [tL, tNew]
    unfold zCell
    rw [ek, el, if_neg (by decide), ← hH.1, e1]
    congr 2
    funext j
    simp [zAv, defaultValue, newarray.typeOf, gI, gJ, zClr]
theorem z_newaI (C : zC p R s mt args meth c g cc nL own h) {x : Int32} {N : Nat} (hx : ¬ x < 0) (hN : x.toNatClampNeg = N) (hb : N * 4 ≤ 536870912) (L : Cond.arrayClass .int ∈ zTs) (hdg : decode cc pc = .ok (.newarray .int, 2)) (hu1 : u.1 + 1 ≤ R.cells) (hu2 : u.2 + N ≤ R.slots) (kk : 0 < tN t → zW p l e R s mt args below meth c g Q (u.1 + 1, u.2 + N) nL (tNew t 14 N) (zClr m (tN t)) (pc + 2) lv (.ref (tN t) :: st)) : zW p l e R s mt args below meth c g Q u nL t m pc lv (.int x :: st) := by
  intro H locs cells slots ls hH hS h1 h2 hv
  have h0 := zN_pos C hH hS
  refine va_newaK (atype := .int) C.1 C.2.1 (C.2.2.2.2.1 _ L) rfl hdg rfl hx hN hb (by omega) (by omega) rfl fun H1 cA e1 z1 o1 hAr hNm => ?_
  have hcA : cA = g.2.2.2.2 14 := by
    have h9 : s.vm.findClass ("[" ++ (.int : FieldType).toString) = some (g.2.2.2.2 14) := (C.2.2.2.2.2.1.1.2 1 _ rfl).2
    exact Option.some.inj (hNm.symm.trans h9)
  subst hcA
  have hk9 := kk h0 H1 locs (cells + 1) (slots + N) ls (zH_new hH h0 z1 o1 ?_) ⟨Nat.le_trans hS.1 (by omega), fun x g1 g2 => (o1 x (Nat.lt_of_lt_of_le g1 hS.1)).trans (hS.2.1 x g1 g2), hS.2.2⟩ (Nat.add_le_add_right h1 1) (Nat.add_le_add_right h2 N) hv
  · rw [List.map_cons] at hk9
    have e5 : zV g (.ref (tN t)) = .ref H.size := by
      show zRf g (tN t) = _
      rw [zrf_pos g h0, hH.1]
    rw [e5] at hk9
    exact hk9
  · have ek : tK (tNew t 14 N) (tN t) = 14 := by simp [tK, tNew]
    have el : tL (tNew t 14 N) (tN t) = N := by simp [tL, tNew]
    unfold zCell
    rw [ek, el, if_neg (by decide), ← hH.1, e1]
    congr 2
    funext j
    simp [zAv, defaultValue, newarray.typeOf, gI, gJ, zClr]
theorem z_newaJ (C : zC p R s mt args meth c g cc nL own h) {x : Int32} {N : Nat} (hx : ¬ x < 0) (hN : x.toNatClampNeg = N) (hb : N * 8 ≤ 536870912) (L : Cond.arrayClass .long ∈ zTs) (hdg : decode cc pc = .ok (.newarray .long, 2)) (hu1 : u.1 + 1 ≤ R.cells) (hu2 : u.2 + N ≤ R.slots) (kk : 0 < tN t → zW p l e R s mt args below meth c g Q (u.1 + 1, u.2 + N) nL (tNew t 15 N) (zClr m (tN t)) (pc + 2) lv (.ref (tN t) :: st)) : zW p l e R s mt args below meth c g Q u nL t m pc lv (.int x :: st) := by
  intro H locs cells slots ls hH hS h1 h2 hv
  have h0 := zN_pos C hH hS
  refine va_newaK (atype := .long) C.1 C.2.1 (C.2.2.2.2.1 _ L) rfl hdg rfl hx hN hb (by omega) (by omega) rfl fun H1 cA e1 z1 o1 hAr hNm => ?_
  have hcA : cA = g.2.2.2.2 15 := by
    have h9 : s.vm.findClass ("[" ++ (.long : FieldType).toString) = some (g.2.2.2.2 15) := (C.2.2.2.2.2.1.1.2 2 _ rfl).2
    exact Option.some.inj (hNm.symm.trans h9)
  subst hcA
  have hk9 := kk h0 H1 locs (cells + 1) (slots + N) ls (zH_new hH h0 z1 o1 ?_) ⟨Nat.le_trans hS.1 (by omega), fun x g1 g2 => (o1 x (Nat.lt_of_lt_of_le g1 hS.1)).trans (hS.2.1 x g1 g2), hS.2.2⟩ (Nat.add_le_add_right h1 1) (Nat.add_le_add_right h2 N) hv
  · rw [List.map_cons] at hk9
    have e5 : zV g (.ref (tN t)) = .ref H.size := by
      show zRf g (tN t) = _
      rw [zrf_pos g h0, hH.1]
    rw [e5] at hk9
    exact hk9
  · have ek : tK (tNew t 15 N) (tN t) = 15 := by simp [tK, tNew]
    have el : tL (tNew t 15 N) (tN t) = N := by simp [tL, tNew]
    unfold zCell
    rw [ek, el, if_neg (by decide), ← hH.1, e1]
    congr 2
    funext j
    simp [zAv, defaultValue, newarray.typeOf, gI, gJ, zClr]
theorem z_newaZ (C : zC p R s mt args meth c g cc nL own h) {x : Int32} {N : Nat} (hx : ¬ x < 0) (hN : x.toNatClampNeg = N) (hb : N * 1 ≤ 536870912) (L : Cond.arrayClass .boolean ∈ zTs) (hdg : decode cc pc = .ok (.newarray .boolean, 2)) (hu1 : u.1 + 1 ≤ R.cells) (hu2 : u.2 + N ≤ R.slots) (kk : 0 < tN t → zW p l e R s mt args below meth c g Q (u.1 + 1, u.2 + N) nL (tNew t 16 N) (zClr m (tN t)) (pc + 2) lv (.ref (tN t) :: st)) : zW p l e R s mt args below meth c g Q u nL t m pc lv (.int x :: st) := by
  intro H locs cells slots ls hH hS h1 h2 hv
  have h0 := zN_pos C hH hS
  refine va_newaK (atype := .boolean) C.1 C.2.1 (C.2.2.2.2.1 _ L) rfl hdg rfl hx hN hb (by omega) (by omega) rfl fun H1 cA e1 z1 o1 hAr hNm => ?_
  have hcA : cA = g.2.2.2.2 16 := by
    have h9 : s.vm.findClass ("[" ++ (.boolean : FieldType).toString) = some (g.2.2.2.2 16) := (C.2.2.2.2.2.1.1.2 3 _ rfl).2
    exact Option.some.inj (hNm.symm.trans h9)
  subst hcA
  have hk9 := kk h0 H1 locs (cells + 1) (slots + N) ls (zH_new hH h0 z1 o1 ?_) ⟨Nat.le_trans hS.1 (by omega), fun x g1 g2 => (o1 x (Nat.lt_of_lt_of_le g1 hS.1)).trans (hS.2.1 x g1 g2), hS.2.2⟩ (Nat.add_le_add_right h1 1) (Nat.add_le_add_right h2 N) hv
  · rw [List.map_cons] at hk9
    have e5 : zV g (.ref (tN t)) = .ref H.size := by
      show zRf g (tN t) = _
      rw [zrf_pos g h0, hH.1]
    rw [e5] at hk9
    exact hk9
  · have ek : tK (tNew t 16 N) (tN t) = 16 := by simp [tK, tNew]
    have el : tL (tNew t 16 N) (tN t) = N := by simp [tL, tNew]
    unfold zCell
    rw [ek, el, if_neg (by decide), ← hH.1, e1]
    congr 2
    funext j
    simp [zAv, defaultValue, newarray.typeOf, gI, gJ, zClr]
end ZCALL
/-- a contract out of a walk from the entry -/
theorem zmet {l : Launch} {y : MethodName} {cy : ByteArray} {nLy : Nat} {rety : Option FieldType} {h mc ms : Nat} {t : zT} {m : zM} {As : List Value} {P : Option Value → zT → zM → Prop} (hy : plainName y.cls = true) (hlen : (lg_sl As).length ≤ nLy)
    (body : ∀ (p : Program) (e : Env) (s : State) (mt : MethodId) (args : Array Value) (below : List Frame) (meth : Method) (c : Code) (g : zG), zC p (zRm h mc ms) s mt args meth c g cy nLy y.cls h → meth.sig.returnType = rety → meth.name = y.name → zW p l e (zRm h mc ms) s mt args below meth c g (MQ below (zQc g P) args s mc ms (zFar g)) (0, 0) nLy t m 0 (lv_args 0 As) []) : zMet l y cy nLy rety h mc ms t m As P := by
  intro g
  refine Met.ofW (cc := cy) (maxL := nLy) (ret := rety) hy rfl ?_
  intro p e s mt args below meth c s₁ B hml hv
  obtain ⟨rfl, hH, hK⟩ := hv
  have hts := atoms_spec (ws := .code y cy nLy rety :: zTs) B.pre
  have hown : s.vm.findClass y.cls = some mt.cls := findClass_of_methodNamed B.named
  have C : zC p (zRm h mc ms) s mt (As.map (zV g)).toArray meth c g cy nLy y.cls h := ⟨B.exec, B.bytes, hml, hown, fun w hw => hts w (List.mem_cons_of_mem _ hw), hK, B.notSynchronized, Nat.le_refl h, Nat.le_refl _⟩
  have hb := body p e s mt _ below meth c g C B.returns (name_of_methodNamed B.named B.method).1
  have hsl : ∀ vs : List Value, (lg_sl (vs.map (zV g))).length = (lg_sl vs).length := by
    intro vs
    induction vs with
    | nil => rfl
    | cons v vs ih =>
      simp only [lg_sl, List.map_cons, List.flatMap_cons, List.length_append, zv_cat] at ih ⊢
      rw [ih]
      split <;> rfl
  have hla : ∀ (vs : List Value) (i : Nat), lv_args i (vs.map (zV g)) = (lv_args i vs).map (fun q => (q.1, zV g q.2)) := by
    intro vs
    induction vs with
    | nil => intro i; rfl
    | cons v vs ih => intro i; simp only [List.map_cons, lv_args, zv_cat, ih]
  have hl := lv_entry (As.map (zV g)) (n := nLy) (by rw [hsl]; exact hlen)
  rw [lg_entry_eq]
  refine hb s.heap [] 0 0 _ hH va_S.rf (Nat.le_refl 0) (Nat.le_refl 0) ?_
  rw [← hla]
  exact hl
