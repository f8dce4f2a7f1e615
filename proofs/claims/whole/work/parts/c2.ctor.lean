/-! led throws: new NoSuchElementException(text), athrow. That class's constructor calls its superclass's at index 13 of its pool (most of the JDK's have it at 7), so the chain of three constructors is put together here, of the library's links, by their names. -/
def nXb : ByteArray := ⟨#[42, 43, 183, 0, 13, 177]⟩
def exY : String := "java/lang/RuntimeException"
def exE : List String := ["java/lang/Exception"]
/-- words that the library's list has for a first link at 7 and that don't hold here -/
def exOld : List Cond := (Bundle.passSAtoms nX exY 7 Bundle.six).filter (fun w => !decide (w ∈ Bundle.passSAtoms nX exY 13 nXb))
/-- the words of the throw -/
def exL : List Cond := Bundle.passSAtoms nX exY 13 nXb ++ (Bundle.ownAtoms RX9 429 nX nXs).filter (fun w => !decide (w ∈ exOld))
theorem exI1 : Bundle.throwableAtoms.all (fun w => decide (w ∈ exL)) = true := by decide +kernel
theorem exI2 : Bundle.throwableSAtoms.all (fun w => decide (w ∈ exL)) = true := by decide +kernel
theorem exI3 : (Bundle.chainSAtoms exY exE).all (fun w => decide (w ∈ exL)) = true := by decide +kernel
theorem exI4 : (Bundle.passSAtoms nX exY 13 nXb).all (fun w => decide (w ∈ exL)) = true := by decide +kernel
/-- a field of the class Throwable, laid in the cells of class i -/
def exF (s : State) (i : ClassId) (k : Class) (f : Field) (n : String) : Prop := f.name = n ∧ k.instanceTypes[f.slot]? = some f.type ∧ ∃ d, Jmm.declares? s.vm f.slot (i + 1) i = some d ∧ d.2.name = f.name
section
variable {p : Program} {l : Launch} {e : Env} {R : Room} {s V : State} {mt : MethodId} {A : Array Value} {below : List Frame} {meth : Method} {c : Code} {cells slots : Nat} {i j : Nat} {k : Class} {f f2 : Field} {n n2 : String}
theorem exSub {ws : List Cond} (h : ∀ w ∈ exL, w.before A s = true) (hi : ws.all (fun w => decide (w ∈ exL)) = true) : ∀ w ∈ ws, w.before A s = true := fun w hw => h w (of_decide_eq_true (List.all_eq_true.mp hi w hw))
theorem exW (h : ∀ w ∈ exL, w.before A s = true) (w : Cond) (hw : decide (w ∈ exL) = true) : w.holds A s none s [] = true := h w (of_decide_eq_true hw)
theorem exF.ne (a : exF s i k f n) (b : exF s i k f2 n2) (h : n ≠ n2) : f.slot ≠ f2.slot := by
  obtain ⟨a1, -, d, a2, a3⟩ := a
  obtain ⟨b1, -, d2, b2, b3⟩ := b
  exact Cond.laysApart a2 b2 a3 b3 (by rw [a1, b1]; exact h)
theorem exF.tk (a : exF s i k f n) (hk : s.vm.classes[i]? = some k) (ho : k.kind = .ordinary) {v : Value} (hv : fits f.type v = true) : Takes s (freshCell i k) f v := Takes.of_laid hk ho a.2.1 hv
theorem ex_fld {C O D : String} {o q : Nat} {kO : Class} (hi : s.vm.findClass C = some i) (hk : s.vm.classes[i]? = some k) (hn : f.name = n) (ff : s.fieldFound? O n D = some (o, kO, q, f)) (h : (Cond.lays C O n D).holds A s none s [] = true) : exF s i k f n := ⟨hn, Cond.laysAt hi hk ff h⟩
/-- what the cell's class answers for a method that it inherits -/
theorem ex_pick (ha : l.admits e) {C : String} {y : MethodName} {my : MethodId} (hi : s.vm.findClass C = some i) (hy : s.methodNamed? y = some my) (hn : y.cls ≠ "java/lang/invoke/MethodHandle" ∧ y.cls ≠ "java/lang/invoke/VarHandle") (h : (Cond.selects C y y).holds A s none s [] = true) : selectMethod e.platform s.vm i my = .method my := by
  obtain ⟨i', r, my', h1, h2, h3, h4, -⟩ := Cond.selects_spec h
  rw [hi] at h1
  rw [State.methodFound?_of_named hy hn] at h2
  rw [hy] at h3
  cases h1
  cases h2
  cases h3
  exact (Launch.admits_selectMethod ha _ _ _).trans h4
/-- the cell of Throwable's statics, seen later -/
theorem ex_stat (X : Stand p l e R s mt A below meth c V [] cells slots) {q : Nat} {x : Cell} (hq : s.heap[q]? = some x) (hs : x.vm.isStatics = true) : ∃ y, V.heap[q]? = some y ∧ y.vm ≠ .unknown ∧ ∀ j : Nat, y.slots[j]? = x.slots[j]? := by
  obtain ⟨y, y1, y2, -, y3⟩ := X.same.2.2.2.2.2 q x hq
  refine ⟨y, y1, fun hu => ?_, fun j => y3 j (fun hm => nomatch hm)⟩
  have hv : x.vm = .unknown := by
    rw [y2] at hu
    exact hu
  rw [hv] at hs
  exact nomatch hs
/-- 'backtrace' is still null when the trace would be filled in -/
theorem ex_null {T : ThrowableT} {x : Cell} {a : Addr} {u v : RefV} {t : ThreadId} (h : x.slots[j]? = some .null) (h1 : T.fCause.slot ≠ j) (h2 : T.fStack.slot ≠ j) (h3 : T.fSupp.slot ≠ j) : ((preparedCellV T x a u v).withEntry t).slots[j]? = some .null := by
  show (((x.slots.setIfInBounds T.fCause.slot (.ref a)).setIfInBounds T.fStack.slot u.v).setIfInBounds T.fSupp.slot v.v)[j]? = some .null
  rw [Array.getElem?_setIfInBounds_ne h3, Array.getElem?_setIfInBounds_ne h2, Array.getElem?_setIfInBounds_ne h1]
  exact h
/-- the three constructors that hand the text on, and where the chain ends -/
theorem ex_chain {pl : Platform} (hpl : pl.magicAccessors = ({} : Platform).magicAccessors) (h : ∀ w ∈ exL, w.before A s = true) {top : MethodId} (ht : s.methodNamed? (Bundle.initS Bundle.tN) = some top) :
    ∃ Ps : List PassC, Ps.length = 3 ∧ (∀ P, P ∈ Ps → P.LinksS pl s) ∧ PassesOn top (Ps.map (·.toPassT)) ∧ s.methodNamed? (Bundle.initS nX) = some (firstOf top (Ps.map (·.toPassT))) := by
  obtain ⟨P, hP, n1, n2⟩ := PassC.ofS_atoms (args := A) (s := s) (pl := pl) hpl (X := nX) (Y := exY) (index := 13) (bytes := nXb) (by decide +kernel) (by decide +kernel) (by decide +kernel) (by decide +kernel) (by decide +kernel) (by decide +kernel) (exSub h exI4)
  obtain ⟨P2, Ps, k1, k2, k3, k4, k5, k6⟩ := Bundle.chainS (args := A) (pl := pl) hpl ht exE exY (by decide +kernel) (by decide +kernel) (exSub h exI3)
  refine ⟨P :: P2 :: Ps, by rw [List.length_cons, List.length_cons, k1]; rfl, fun q hq => ?_, ⟨Option.some.inj (n2.symm.trans k4), k5, k6⟩, n1⟩
  rcases List.mem_cons.mp hq with e1 | hq
  · rw [e1]; exact hP
  · rcases List.mem_cons.mp hq with e1 | hq
    · rw [e1]; exact k2
    · exact k3 q hq
set_option maxHeartbeats 1000000 in
/-- the constructor, from the call in led to behind it -/
theorem ex_made (X : Stand p l e R s mt A below meth c V [] cells slots) (hexec : p.tables.exec = Jvm.exec) (htr : e.platform.stackTraces = false) (hown : s.vm.findClass RX9 = some mt.cls) (h : ∀ w ∈ exL, w.before A s = true)
    {a sa : Nat} (hi : s.vm.findClass nX = some i) (hk : s.vm.classes[i]? = some k) (hcell : V.heap[a]? = some (freshCell i k)) (hnew : s.heap.size ≤ a)
    {pc : Nat} {ls : Array Slot} {rest : List Value} (hsize : ls.size = c.maxLocals) (hd : decode c.code pc = .ok (.invokespecial 429, 3))
    (hRf : 5 < R.frames) (hRl : (rest.map fun v => v.category).sum + 82 ≤ R.locals) :
    ∃ (U : State) (ce : Cell) (L : List Loc), Stand p l e R s mt A below meth c U L cells slots ∧ (∀ y ∈ L, y.base = a) ∧ U.heap[a]? = some ce ∧ ce.vm = .none ∧ ce.cls = i ∧
      ∀ target, Steps p.tables e below (U.setTop { method := mt, pc := pc + 3, locals := ls, stack := .ref a :: rest, locked := none }) target →
        Steps p.tables e below (V.setTop { method := mt, pc := pc, locals := ls, stack := .ref sa :: .ref a :: .ref a :: rest, locked := none }) target := by
  have hplat := X.admits.platform
  have hpl : e.platform.magicAccessors = ({} : Platform).magicAccessors := by rw [hplat]
  -- Throwable itself
  obtain ⟨T, Z0, hT, -, ti⟩ := ThrowableC.of_atoms (args := A) (s := s) (pl := e.platform) (by rw [hplat]) (by rw [hplat]) hpl (exSub h exI1)
  obtain ⟨Z, M, hZ, hM, htop⟩ := Init0T.ofS_atoms (args := A) hpl hT ti (exSub h exI2)
  obtain ⟨Ps, hlen, hPs, hpass, hfirst⟩ := ex_chain (A := A) hpl h htop
  -- the class of the cell
  obtain ⟨i', k', hi', hk', hord, -⟩ := Cond.instantiable_spec (exW h (.instantiable nX 6) (by decide +kernel))
  rw [hi] at hi'
  cases hi'
  rw [hk] at hk'
  cases hk'
  obtain ⟨iM, hmsg⟩ := ti.msg
  have nM : T.fMsg.name = "detailMessage" := (State.fieldFound?_type hmsg (t := .object "java/lang/String") (by decide +kernel)).1
  obtain ⟨cB, iB, fB, b1, b2, b3, b4, -, b5, b6, b7⟩ := Cond.ownField (t := .object "java/lang/Object") ti.found hT.cls (by decide +kernel) (exW h (.fieldLink Bundle.tN 198 Bundle.tN "backtrace" "Ljava/lang/Object;") (by decide +kernel)) (exW h (.lays Bundle.tN Bundle.tN "backtrace" "Ljava/lang/Object;") (by decide +kernel)) e.platform hpl
  have fC := ex_fld (A := A) hi hk ti.causeName ti.cause (exW h _ (by decide +kernel))
  have fS := ex_fld (A := A) hi hk ti.stackName ti.stack (exW h _ (by decide +kernel))
  have fP := ex_fld (A := A) hi hk ti.suppName ti.supp (exW h _ (by decide +kernel))
  have fM := ex_fld (A := A) hi hk nM hmsg (exW h _ (by decide +kernel))
  have fK := ex_fld (A := A) hi hk b5 b7 (exW h _ (by decide +kernel))
  -- the statics
  obtain ⟨x0, hx0, hst⟩ := ti.statics
  obtain ⟨x1, hx1, hun, hsl⟩ := ex_stat X hx0 hst
  obtain ⟨u0, hu0⟩ := Cond.staticRefV ti.unassigned hT.unassignedStatic hT.statics hx0 hst (exW h _ (by decide +kernel))
  obtain ⟨u1, hu1⟩ := Cond.staticRefV ti.sentinel hT.sentinelStatic hT.statics hx0 hst (exW h _ (by decide +kernel))
  have hold : T.aS < s.heap.size := (Array.getElem?_eq_some_iff.mp hx0).1
  have hbt : (freshCell i k).slots[fB.slot]? = some .null := by
    rw [fresh_default fK.2.1, b6]
    rfl
  -- the call, and the chain
  obtain ⟨tm, -, -, -, v1, hn1, -, -, -, -, -, -, -, hw1, go1⟩ := Steps.initColdS (tb := p.tables) (e := e) (below := below) (s := s) (U := V) (args := A) X.here hexec X.warmed hpl hown (idx := 429) (t := Bundle.initS nX) rfl rfl (by decide +kernel)
    (exW h _ (by decide +kernel)) (exW h _ (by decide +kernel)) (bytes := nXb) (maxL := 2) (exW h _ (by decide +kernel)) (f := { method := mt, pc := pc, locals := ls, stack := .ref sa :: .ref a :: .ref a :: rest, locked := none }) rfl (a := a) (msg := .ref sa) (rest := .ref a :: rest) rfl hd
  rw [hfirst] at hn1
  cases hn1
  obtain ⟨v2, X2, go2⟩ := (X.noted hw1).ctorMessageOffV hexec (g := { method := mt, pc := pc, locals := ls, stack := .ref a :: rest, locked := none }) rfl hsize T hT Z hZ M hM Ps hPs hpass (u0 := u0) (sen := u1) (self := a) (msg := .ref sa) rfl (cell := freshCell i k) (cellS := x1) hcell (fun _ => nofun) nofun rfl rfl
    (ex_pick X.admits hi ti.fill0 (by decide) (exW h _ (by decide +kernel))) (ex_pick X.admits hi ti.fill (by decide) (exW h _ (by decide +kernel))) hx1 (fun he => by rw [he] at hold; exact Nat.not_lt.mpr hnew hold) hun ((hsl _).trans hu0) ((hsl _).trans hu1)
    (fC.tk hk hord (by rw [ti.causeType]; rfl)) (fS.tk hk hord (by rw [ti.stackType]; exact fits_refV_array _ u0)) (fP.tk hk hord (by rw [ti.suppType]; exact fits_refV_object _ u1)) (fM.tk hk hord (by rw [ti.msgType]; rfl)) ti.objLocals
    ⟨⟨cB, iB, fB⟩, ⟨b1, b2, b3, b4⟩, ex_null hbt (fC.ne fK (by decide)) (fS.ne fK (by decide)) (fP.ne fK (by decide)), fun _ _ => rfl⟩ htr [] hd (by rw [hlen]; exact hRf) (by
      rw [hlen]
      show 2 * 0 + (1 + (rest.map fun v => v.category).sum) + (13 * 3 + 42) ≤ R.locals
      omega)
  refine ⟨_, _, _, X2, fun y hy => ?_, heapAt_setCell_self _ (Array.getElem?_eq_some_iff.mp hcell).1, rfl, rfl, fun target ht => go1 target (fun acts => ?_)⟩
  · simp only [List.nil_append, List.mem_cons, List.not_mem_nil, or_false] at hy
    rcases hy with e1 | e1 | e1 | e1 | e1 <;> rw [e1]
  · rw [doInvoke_state]
    exact go2 target ht
/-- and the throw -/
theorem ex_ctor (X : Stand p l e R s mt A below meth c V [] cells slots) (hexec : p.tables.exec = Jvm.exec) (htr : e.platform.stackTraces = false) (hown : s.vm.findClass RX9 = some mt.cls) (h : ∀ w ∈ exL, w.before A s = true)
    {a sa : Nat} (hi : s.vm.findClass nX = some i) (hk : s.vm.classes[i]? = some k) (hcell : V.heap[a]? = some (freshCell i k)) (hnew : s.heap.size ≤ a)
    {pc : Nat} {ls : Array Slot} {rest : List Value} (hsize : ls.size = c.maxLocals) (hd : decode c.code pc = .ok (.invokespecial 429, 3)) (hd2 : decode c.code (pc + 3) = .ok (.athrow, 1)) (hout : ∀ x ∈ c.exceptionTable.toList, covers x (pc + 3) = false)
    (hRf : 5 < R.frames) (hRl : (rest.map fun v => v.category).sum + 82 ≤ R.locals) (hlocks : meth.locks = false) :
    ∃ U : State, Steps p.tables e below (V.setTop { method := mt, pc := pc, locals := ls, stack := .ref sa :: .ref a :: .ref a :: rest, locked := none }) U ∧ U.status = .running ∧ Ended U below (.threw a) ∧ s.WarmedH U.vm ∧
      s.sameButNew ({ U with vm := s.vm } : State) [] cells slots ∧ ∃ ce, U.heap[a]? = some ce ∧ ce.vm = .none ∧ ce.cls = i := by
  obtain ⟨U, ce, L, X2, hL, hce, c1, c2, go⟩ := ex_made (sa := sa) X hexec htr hown h hi hk hcell hnew hsize hd hRf hRl
  obtain ⟨t1, t2, t3, t4, t5⟩ := X2.athrowLeaves hexec (g := { method := mt, pc := pc + 3, locals := ls, stack := .ref a :: rest, locked := none }) rfl rfl rfl hout (a := a) (rest := rest) rfl hd2 hlocks
  exact ⟨_, go _ t1, t2, t3, t4, t5.weaken (fun y hy hlt => absurd hlt (by rw [hL y hy]; exact Nat.not_lt.mpr hnew)) (Nat.le_refl _) (Nat.le_refl _), ce, hce, c1, c2⟩
end
