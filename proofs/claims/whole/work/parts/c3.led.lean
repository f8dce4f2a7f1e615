/-! led: the class's method, and the law's that catches -/
def exBad : List Cond := [Cond.declares (Bundle.initS "java/lang/RuntimeException"), Cond.declares (Bundle.initS "java/lang/Exception"), Cond.declares (Bundle.initS Bundle.tN), Cond.castable nX nX]
theorem exL_good : (exL.filter vx_no).all (fun w => (goodWord w && decide (w ∈ lw_tbl)) || decide (w ∈ exBad)) = true := by decide +kernel
theorem exL_ot : ∀ w ∈ Cond.classLink RX9 425 nX :: Cond.initialized nX :: exL.filter vx_no, vx_ot w = true := by decide +kernel
theorem exBad_tbl : ∀ w ∈ exBad, w ∈ lw_tbl := by decide +kernel
/-- what a throw wants of the old heap, and the words of the tables that a warmed machine keeps by laws of their own -/
def zX (g : zG) (U : State) : Prop := (vx_L Bundle.tN "UNASSIGNED_STACK" Bundle.steD (zFar g) U U.heap ∧ vx_L Bundle.tN "SUPPRESSED_SENTINEL" Bundle.listD (zFar g) U U.heap) ∧ ∀ w ∈ exBad, va_Nw w U
theorem zX.go {g : zG} {s U : State} (hW : s.WarmedH U.vm) (hq : ∀ q : Nat, q < s.heap.size → ¬ zFar g q → U.heap[q]? = s.heap[q]?) (h : zX g s) : zX g U := by
  obtain ⟨⟨h1, h2⟩, h3⟩ := h
  refine ⟨⟨vx_L.moved hW.alike (h1.kept hq), vx_L.moved hW.alike (h2.kept hq)⟩, fun w hw => ?_⟩
  have hu := h3 w hw
  simp only [exBad, List.mem_cons, List.not_mem_nil, or_false] at hw
  rcases hw with rfl | rfl | rfl | rfl
  · exact va_tabs rfl (rfl : (s.setVm U.vm).vm = U.vm) (by rw [Cond.declares_setVm hW.alike]; exact hu)
  · exact va_tabs rfl (rfl : (s.setVm U.vm).vm = U.vm) (by rw [Cond.declares_setVm hW.alike]; exact hu)
  · exact va_tabs rfl (rfl : (s.setVm U.vm).vm = U.vm) (by rw [Cond.declares_setVm hW.alike]; exact hu)
  · exact va_Nw.warmC hW hu
theorem zX.calling {g : zG} {U : State} {f : JFrame} {mk : MethodId} {a : Array Value} (h : zX g U) : zX g (U.calling f mk a) := by
  obtain ⟨⟨h1, h2⟩, h3⟩ := h
  refine ⟨⟨vx_L.moved (u := U) (Vm.Alike.refl U.vm) h1, vx_L.moved (u := U) (Vm.Alike.refl U.vm) h2⟩, fun w hw => ?_⟩
  have hu := h3 w hw
  simp only [exBad, List.mem_cons, List.not_mem_nil, or_false] at hw
  rcases hw with rfl | rfl | rfl | rfl
  · exact va_Nw.same rfl (u := U) rfl hu
  · exact va_Nw.same rfl (u := U) rfl hu
  · exact va_Nw.same rfl (u := U) rfl hu
  · exact va_Nw.same rfl (u := U) rfl hu
def zXC (g : zG) (X : zT → zM → Prop) : String → State → State → Prop := fun E st tt => E = nX ∧ (∃ t' m', X t' m' ∧ zH g t' m' tt.heap) ∧ va_F (zFar g) st tt
def zXd (t : zT) (X : zM → Prop) : zT → zM → Prop := fun t' m' => ∃ d, t' = xg t d ∧ X m'
def zPx (g : zG) (t : zT) (m : zM) (As : List Value) : Array Value → State → Prop := va_Pc (As.map (zV g)) (fun U => zH g t m U.heap ∧ zK g U ∧ zX g U)
def zMx (l : Launch) (y : MethodName) (cy : ByteArray) (nLy : Nat) (rety : Option FieldType) (h mc ms : Nat) (t : zT) (m : zM) (As : List Value) (P : Option Value → zT → zM → Prop) (X : zT → zM → Prop) : Prop :=
  ∀ g : zG, vx_Met l y (.code y cy nLy rety :: zTs) (zRm h mc ms) (zPx g t m As) (zQc g P) (zXC g X) mc ms (zFar g)
section
variable {p : Program} {l : Launch} {e : Env} {R : Room} {s : State} {mt : MethodId} {args : Array Value} {below : List Frame} {meth : Method} {c : Code} {g : zG} {Q : State → Prop} {u : Nat × Nat} {nL : Nat} {t : zT} {m : zM} {pc : Nat} {lv lv2 : List (Nat × Value)} {st rest : List Value} {cc : ByteArray} {own : String} {h : Nat}
theorem zblindx {As : List Value} : FrameBlind (zPx g t m As) := fun a U f mk q => ⟨q.1, q.2.1, q.2.2.1.calling, q.2.2.2.calling⟩
theorem zprex (C : zC p R s mt args meth c g cc nL own h) (hX : zX g s) {H : Heap} {locs : List Loc} {av : List Value} {As : List Value} (ha : av = As.map (zV g)) (hH : zH g t m H) (hS : va_S (zFar g) s.heap H locs) : ∀ U : State, U.heap = H → s.WarmedH U.vm → zPx g t m As av.toArray U := fun U hU hW => ⟨by rw [ha], by rw [hU]; exact hH, zK.go hW (by rw [hU]; exact hS.1) (fun q h1 h2 => by rw [hU]; exact hS.2.1 q h1 h2) C.2.2.2.2.2.1, zX.go hW (fun q h1 h2 => by rw [hU]; exact hS.2.1 q h1 h2) hX⟩
theorem z_vx {P : Option Value → zT → zM → Prop} {X : zT → zM → Prop} {mc ms : Nat} (kk : zW p l e R s mt args below meth c g (MQ below (zQc g P) args s mc ms (zFar g)) u nL t m pc lv st) : zW p l e R s mt args below meth c g (vx_MQ below (zQc g P) (zXC g X) args s mc ms (zFar g)) u nL t m pc lv st := fun H locs cells slots ls h1 h2 h3 h4 h5 => vx_ret (kk H locs cells slots ls h1 h2 h3 h4 h5)
theorem exL_at (hts : ∀ w ∈ zTs, w.before args s = true) (hX : zX g s) : ∀ w ∈ exL.filter vx_no, w.before args s = true := by
  intro w hw
  have h1 := List.all_eq_true.mp exL_good w hw
  simp only [Bool.or_eq_true, Bool.and_eq_true, decide_eq_true_eq] at h1
  rcases h1 with ⟨h1, h2⟩ | h1
  · exact hts w (zts_mem h2 h1)
  · have hu := hX.2 w h1
    simp only [exBad, List.mem_cons, List.not_mem_nil, or_false] at h1
    rcases h1 with rfl | rfl | rfl | rfl <;> exact va_Nw.use (A := args) rfl hu
set_option maxHeartbeats 2000000 in
/-- the throw of led -/
theorem ex_throw {H : Heap} {locs : List Loc} {cells slots mc ms sa : Nat} {ls : Array Slot} {rest : List Value} {text : String} {Qc : Array Value → State → Outcome → State → Prop} {XC : String → State → State → Prop} (hexec : p.tables.exec = Jvm.exec) (hb : c.code = cc) (hl : l.stackTraces = false)
    (hown : s.vm.findClass RX9 = some mt.cls) (hk : (Cond.classLink RX9 425 nX).before args s = true) (hini : (Cond.initialized nX).before args s = true) (hstr : vk_R RX9 427 text sa s) (hat : ∀ w ∈ exL.filter vx_no, w.before args s = true)
    (hU : vx_Zq Bundle.tN "UNASSIGNED_STACK" Bundle.steD (zFar g) s s.heap) (hN : vx_Zq Bundle.tN "SUPPRESSED_SENTINEL" Bundle.listD (zFar g) s s.heap) (hS : va_S (zFar g) s.heap H locs) (hsize : ls.size = c.maxLocals)
    (d0 : decode cc pc = .ok (.new 425, 3)) (d3 : decode cc (pc + 3) = .ok (.dup, 1)) (d4 : decode cc (pc + 4) = .ok (.ldc_w 427, 3)) (d7 : decode cc (pc + 7) = .ok (.invokespecial 429, 3)) (d10 : decode cc (pc + 10) = .ok (.athrow, 1))
    (hout : ∀ x ∈ c.exceptionTable.toList, covers x (pc + 10) = false)
    (hRf : 5 < R.frames) (hRl : (rest.map fun v => v.category).sum + 82 ≤ R.locals) (hRc : cells + 1 ≤ R.cells) (hRs : slots + 6 ≤ R.slots) (hlocks : meth.locks = false)
    (hx : ∀ t : State, s.vm.Alike t.vm → H.size ≤ t.heap.size → (∀ q : Nat, q < H.size → t.heap[q]? = H[q]?) → XC nX s t)
    (hf : ∀ z ∈ locs, zFar g z.base) (hc : cells + 1 ≤ mc) (hs : slots + 6 ≤ ms) :
    W p l e R s mt args below meth c H locs cells slots (vx_MQ below Qc XC args s mc ms (zFar g)) (F0 mt pc ls rest) := by
  intro T hT X
  have htr : e.platform.stackTraces = false := (show e.platform.stackTraces = l.stackTraces by rw [X.admits.platform]).trans hl
  have Y := vx_rebase X (R' := { frames := R.frames, locals := R.locals, cells := 1, slots := 6 }) (Nat.le_refl _) (Nat.le_refl _) hRc hRs
  obtain ⟨s', hA⟩ : ∃ z, z = (T.setVm s.vm).setFrames (.invoking mt args :: below) := ⟨_, rfl⟩
  rw [← hA] at Y
  have hvm : s'.vm = s.vm := by rw [hA]; rfl
  have hhp : s'.heap = H := by rw [hA]; exact hT
  have hW0 : s.WarmedH s'.vm := by rw [hvm]; exact State.WarmedH.refl s
  have hat' : ∀ w ∈ exL.filter vx_no, w.before args s' = true := fun w hw => vx_ot_at hW0 hvm.symm (exL_ot w (List.mem_cons_of_mem _ (List.mem_cons_of_mem _ hw))) (hat w hw)
  have hk' : (Cond.classLink RX9 425 nX).before args s' = true := vx_ot_at hW0 hvm.symm (exL_ot _ List.mem_cons_self) hk
  have hini' : (Cond.initialized nX).before args s' = true := vx_ot_at hW0 hvm.symm (exL_ot _ (List.mem_cons_of_mem _ List.mem_cons_self)) hini
  have hU' : vx_Zq Bundle.tN "UNASSIGNED_STACK" Bundle.steD (zFar g) s' s'.heap := by rw [hhp]; exact vx_Zq.moved hW0.alike (hU.kept hS.2.1)
  have hN' : vx_Zq Bundle.tN "SUPPRESSED_SENTINEL" Bundle.listD (zFar g) s' s'.heap := by rw [hhp]; exact vx_Zq.moved hW0.alike (hN.kept hS.2.1)
  have hall9 : ∀ w ∈ exL, w.before args s' = true := vx_own hat' (vx_isRefq hU'.1) (vx_isRefq hN'.1) hU'.2.word hN'.2.word
  have hown' : s'.vm.findClass RX9 = some mt.cls := by rw [hvm]; exact hown
  have hins : (Cond.instantiable nX 6).before args s' = true := hall9 _ (by decide +kernel)
  obtain ⟨vm₁, cX, kX, hfX, hkX, -, -, X₁, st1⟩ := Y.newCold hexec (own := RX9) (C := nX) (index := 425) (n := 6) hown' hk' hins hini'
    (g := F0 mt pc ls rest) rfl (by rw [hb]; exact d0) (Nat.le_refl _) (Nat.le_refl _)
  generalize hT1 : (T.setVm vm₁).pushCell { cls := cX, slots := kX.instanceTypes.map defaultValue, vm := .none } = T1 at X₁ st1
  have hcat : (Value.ref T.heap.size).category = 1 := rfl
  have hcellA : T1.heap[T.heap.size]? = some (freshCell cX kX) := by rw [← hT1]; exact State.heap_pushCell_size _ _
  have d3' : decode c.code (pc + 3) = .ok (.dup, 1) := by rw [hb]; exact d3
  have d4' : decode c.code (pc + 4) = .ok (.ldc_w 427, 3) := by rw [hb]; exact d4
  have hstr' : vk_R RX9 427 text sa s' := vk_R.warm hW0 hstr
  obtain ⟨U, hsteps, hrun, hend, hW, hsame, ce, hce, hOv, hOc⟩ := ex_ctor (sa := sa) X₁ hexec htr hown' hall9 hfX hkX hcellA (by rw [hhp, hT]; exact Nat.le_refl _) (pc := pc + 7) (ls := ls) (rest := rest) hsize (by rw [hb]; exact d7) (by rw [hb]; exact d10) hout hRf hRl hlocks
  obtain ⟨f1, f2⟩ := vx_frame hsame
  rw [hhp] at f1 f2
  have hWs : s.WarmedH U.vm := State.WarmedH.trans hW0 hW
  have hcl : s.vm.findClass nX = some ce.cls := by
    rw [hOc, ← hvm]
    exact hfX
  have hall : s.sameButNew ({ U with vm := s.vm } : State) locs mc ms := by
    subst hA
    obtain ⟨e1, e2⟩ := hsame
    rw [State.setFrames_setFrames] at e1
    have h2 : (T.setVm s.vm).sameButNew ({ U with vm := s.vm } : State) [] (0 + 1) (0 + 6) := ⟨e1, e2⟩
    have h3 := X.same.trans h2
    rw [List.append_nil] at h3
    exact h3.mono hc hs
  refine ⟨U, ?_, .threw T.heap.size, hrun, hend, Or.inr ⟨T.heap.size, rfl, nX, ce, locs, hx U hWs.alike f1 (fun q hq => f2 q hq (fun z hz => nomatch hz)), hce, hOv, hcl, hWs, hall, hf⟩⟩
  refine st1 _ ?_
  show Steps p.tables e below (T1.setTop { method := mt, pc := pc + 3, locals := ls, stack := .ref T.heap.size :: rest, locked := none }) _
  jvm_step X₁.here [X₁.here.top, hexec, d3', Value.category]
  exact X₁.ldcStringW hexec (own := RX9) (text := text) (index := 427) (a := sa) hown' hstr'.1 hstr'.2
    (g := { method := mt, pc := pc + 4, locals := ls, stack := .ref T.heap.size :: .ref T.heap.size :: rest, locked := none }) rfl d4' _ hsteps
/-- the throw, over the plain memory -/
theorem z_throw {Qc : Array Value → State → Outcome → State → Prop} {X : zM → Prop} {mc ms : Nat} (C : zC p R s mt args meth c g cc nL RX9 h) (hX : zX g s) (hl : l.stackTraces = false) (hno : ∀ x ∈ c.exceptionTable.toList, False) (hh : 6 ≤ h) (hu1 : u.1 + 1 ≤ R.cells) (hu2 : u.2 + 6 ≤ R.slots) (hm1 : u.1 + 1 ≤ mc) (hm2 : u.2 + 6 ≤ ms)
    (d0 : decode cc pc = .ok (.new 425, 3)) (d3 : decode cc (pc + 3) = .ok (.dup, 1)) (d4 : decode cc (pc + 4) = .ok (.ldc_w 427, 3)) (d7 : decode cc (pc + 7) = .ok (.invokespecial 429, 3)) (d10 : decode cc (pc + 10) = .ok (.athrow, 1)) (hP : X m) :
    zW p l e R s mt args below meth c g (vx_MQ below Qc (zXC g (zXd t X)) args s mc ms (zFar g)) u nL t m pc lv [] := by
  intro H locs cells slots ls hH hS h1 h2 hv
  obtain ⟨k1, k2, k3, k4, k5, k6, k7, k8, k9⟩ := C
  have hq := k6.2.2.2.1.2
  refine ex_throw k1 k2 hl k4 (k5 _ wx_425) (k5 _ wx_ini) (k6.2.2.1.2 0 (by decide)) (exL_at k5 hX) ⟨hq (Bundle.tN, "UNASSIGNED_STACK", Bundle.steD) (by decide), hX.1.1⟩ ⟨hq (Bundle.tN, "SUPPRESSED_SENTINEL", Bundle.listD) (by decide), hX.1.2⟩ hS (hv.1.trans k3.symm) d0 d3 d4 d7 d10 (fun x hx => (hno x hx).elim) (by omega) ?_ (by omega) (by omega) k7 (fun tt hA hz ho => ⟨rfl, ⟨_, m, ⟨_, rfl, hP⟩, zH_xg hH hz ho⟩, ?_⟩) hS.2.2 (by omega) (by omega)
  · show 0 + 82 ≤ R.locals
    omega
  · exact ⟨Nat.le_trans hS.1 hz, fun q q1 q2 => (ho q (Nat.lt_of_lt_of_le q1 hS.1)).trans (hS.2.1 q q1 q2)⟩
end
