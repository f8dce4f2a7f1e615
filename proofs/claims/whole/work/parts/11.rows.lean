/-- the judgement: from pc, with these locals, this stack, this memory, at most u cells and slots made so far, the machine comes to a state with Q -/
def zW (p : Program) (l : Launch) (e : Env) (R : Room) (s : State) (mt : MethodId) (args : Array Value) (below : List Frame) (meth : Method) (c : Code) (g : zG) (Q : State → Prop) (u : Nat × Nat) (nL : Nat) (t : zT) (m : zM) (pc : Nat) (lv : List (Nat × Value)) (st : List Value) : Prop :=
  ∀ (H : Heap) (locs : List Loc) (cells slots : Nat) (ls : Array Slot), zH g t m H → va_S (zFar g) s.heap H locs → cells ≤ u.1 → slots ≤ u.2 → lv_has ls nL (lv.map (fun q => (q.1, zV g q.2))) → W p l e R s mt args below meth c H locs cells slots Q (F0 mt pc ls (st.map (zV g)))
/-- what a method's body knows of its call -/
def zC (p : Program) (R : Room) (s : State) (mt : MethodId) (args : Array Value) (meth : Method) (c : Code) (g : zG) (cc : ByteArray) (nL : Nat) (own : String) (h : Nat) : Prop :=
  p.tables.exec = Jvm.exec ∧ c.code = cc ∧ c.maxLocals = nL ∧ s.vm.findClass own = some mt.cls ∧ (∀ w ∈ zTs, w.before args s = true) ∧ zK g s ∧ meth.locks = false ∧ h ≤ R.frames ∧ 31 * h ≤ R.locals
section ZROWS
variable {p : Program} {l : Launch} {e : Env} {R : Room} {s : State} {mt : MethodId} {args : Array Value} {below : List Frame} {meth : Method} {c : Code} {g : zG} {Q : State → Prop} {u : Nat × Nat} {nL : Nat} {t : zT} {m : zM} {pc : Nat} {lv lv2 : List (Nat × Value)} {st rest : List Value} {cc : ByteArray} {own : String} {h : Nat}
theorem zv_at {ls : Array Slot} (hv : lv_has ls nL (lv.map (fun q => (q.1, zV g q.2)))) (j : Nat) {i : Nat} {v : Value} (hl : lv[j]? = some (i, v)) : ls[i]? = some (.val (zV g v)) := by
  refine lv_at hv j ?_
  rw [List.getElem?_map, hl]; rfl
theorem zv_cat (g : zG) (v : Value) : (zV g v).category = v.category := by
  cases v with
  | ref a => show (zRf g a).category = _; unfold zRf; split <;> rfl
  | _ => rfl
theorem zv_flt (f : Nat → Nat → Bool) : ∀ lv : List (Nat × Value), (lv.map (fun q => (q.1, zV g q.2))).filter (fun q => f q.1 q.2.category) = (lv.filter (fun q => f q.1 q.2.category)).map (fun q => (q.1, zV g q.2))
  | [] => rfl
  | a :: lv => by
    simp only [List.map_cons, List.filter_cons, zv_cat, zv_flt f lv]
    split <;> rfl
/-- fewer locals, in any order, by their places -/
theorem z_sub (ks : List Nat) (hl : lv_pick lv ks = lv2) (kk : zW p l e R s mt args below meth c g Q u nL t m pc lv2 st) : zW p l e R s mt args below meth c g Q u nL t m pc lv st := by
  intro H locs cells slots ls hH hS h1 h2 hv
  refine kk H locs cells slots ls hH hS h1 h2 ⟨hv.1, hv.2.1, fun q hq => ?_⟩
  obtain ⟨q0, hq0, rfl⟩ := List.mem_map.mp hq
  rw [← hl] at hq0
  obtain ⟨k, -, hk⟩ := List.mem_filterMap.mp hq0
  exact hv.2.2 _ (List.mem_map.mpr ⟨q0, List.mem_of_getElem? hk, rfl⟩)
theorem z_eq {pc2 : Nat} {st2 : List Value} (h1 : pc = pc2) (h2 : st = st2) (kk : zW p l e R s mt args below meth c g Q u nL t m pc2 lv st2) : zW p l e R s mt args below meth c g Q u nL t m pc lv st := by subst h1; subst h2; exact kk
theorem z_int {x : Int32} (kk : ∀ y : Int32, y = x → zW p l e R s mt args below meth c g Q u nL t m pc lv (.int y :: st)) : zW p l e R s mt args below meth c g Q u nL t m pc lv (.int x :: st) := kk x rfl
theorem z_long {x : Int64} (kk : ∀ y : Int64, y = x → zW p l e R s mt args below meth c g Q u nL t m pc lv (.long y :: st)) : zW p l e R s mt args below meth c g Q u nL t m pc lv (.long x :: st) := kk x rfl
theorem z_ref {x : Nat} (kk : ∀ y : Nat, y = x → zW p l e R s mt args below meth c g Q u nL t m pc lv (.ref y :: st)) : zW p l e R s mt args below meth c g Q u nL t m pc lv (.ref x :: st) := kk x rfl
theorem z_mem (kk : ∀ y : zM, y = m → zW p l e R s mt args below meth c g Q u nL t y pc lv st) : zW p l e R s mt args below meth c g Q u nL t m pc lv st := kk m rfl
theorem z_iconst (C : zC p R s mt args meth c g cc nL own h) {n : Int} {v : Int32} (hdg : decode cc pc = .ok (.iconst n, 1)) (hv9 : Int32.ofInt n = v) (kk : zW p l e R s mt args below meth c g Q u nL t m (pc + 1) lv (.int v :: st)) : zW p l e R s mt args below meth c g Q u nL t m pc lv (st) := by
  intro H locs cells slots ls hH hS h1 h2 hv
  exact lv_iconst C.1 C.2.1 hdg hv9 (kk H locs cells slots ls hH hS h1 h2 hv)
theorem z_bipush (C : zC p R s mt args meth c g cc nL own h) {n : Int} {v : Int32} (hdg : decode cc pc = .ok (.bipush n, 2)) (hv9 : (Int8.ofInt n).toInt32 = v) (kk : zW p l e R s mt args below meth c g Q u nL t m (pc + 2) lv (.int v :: st)) : zW p l e R s mt args below meth c g Q u nL t m pc lv (st) := by
  intro H locs cells slots ls hH hS h1 h2 hv
  exact lv_bipush C.1 C.2.1 hdg hv9 (kk H locs cells slots ls hH hS h1 h2 hv)
theorem z_sipush (C : zC p R s mt args meth c g cc nL own h) {n : Int} {v : Int32} (hdg : decode cc pc = .ok (.sipush n, 3)) (hv9 : (Int16.ofInt n).toInt32 = v) (kk : zW p l e R s mt args below meth c g Q u nL t m (pc + 3) lv (.int v :: st)) : zW p l e R s mt args below meth c g Q u nL t m pc lv (st) := by
  intro H locs cells slots ls hH hS h1 h2 hv
  exact lv_sipush C.1 C.2.1 hdg hv9 (kk H locs cells slots ls hH hS h1 h2 hv)
theorem z_lconst (C : zC p R s mt args meth c g cc nL own h) {n : Fin 2} {v : Int64} (hdg : decode cc pc = .ok (.lconst n, 1)) (hv9 : Int64.ofNat (n : Nat) = v) (kk : zW p l e R s mt args below meth c g Q u nL t m (pc + 1) lv (.long v :: st)) : zW p l e R s mt args below meth c g Q u nL t m pc lv (st) := by
  intro H locs cells slots ls hH hS h1 h2 hv
  exact lv_lconst C.1 C.2.1 hdg hv9 (kk H locs cells slots ls hH hS h1 h2 hv)
theorem z_ldc (C : zC p R s mt args meth c g cc nL own h) {index : Nat} {v : Int32} (hw : Jvm.Cond.constant own index v ∈ zTs) (hdg : decode cc pc = .ok (.ldc index, 2))  (kk : zW p l e R s mt args below meth c g Q u nL t m (pc + 2) lv (.int v :: st)) : zW p l e R s mt args below meth c g Q u nL t m pc lv (st) := by
  intro H locs cells slots ls hH hS h1 h2 hv
  exact lv_ldc C.1 C.2.1 C.2.2.2.1 (C.2.2.2.2.1 _ hw) hdg (kk H locs cells slots ls hH hS h1 h2 hv)
theorem z_ldcw (C : zC p R s mt args meth c g cc nL own h) {index : Nat} {v : Int32} (hw : Jvm.Cond.constant own index v ∈ zTs) (hdg : decode cc pc = .ok (.ldc_w index, 3))  (kk : zW p l e R s mt args below meth c g Q u nL t m (pc + 3) lv (.int v :: st)) : zW p l e R s mt args below meth c g Q u nL t m pc lv (st) := by
  intro H locs cells slots ls hH hS h1 h2 hv
  exact lv_ldcw C.1 C.2.1 C.2.2.2.1 (C.2.2.2.2.1 _ hw) hdg (kk H locs cells slots ls hH hS h1 h2 hv)
theorem z_ldc2 (C : zC p R s mt args meth c g cc nL own h) {index : Nat} {v : Int64} (hw : Jvm.Cond.constantLong own index v ∈ zTs) (hdg : decode cc pc = .ok (.ldc2_w index, 3))  (kk : zW p l e R s mt args below meth c g Q u nL t m (pc + 3) lv (.long v :: st)) : zW p l e R s mt args below meth c g Q u nL t m pc lv (st) := by
  intro H locs cells slots ls hH hS h1 h2 hv
  exact lv_ldc2 C.1 C.2.1 C.2.2.2.1 (C.2.2.2.2.1 _ hw) hdg (kk H locs cells slots ls hH hS h1 h2 hv)
theorem z_iload_n (C : zC p R s mt args meth c g cc nL own h) {k : Fin 4} {i : Nat} {x : Int32} (hdg : decode cc pc = .ok (.iload_n k, 1)) (hi : (k : Nat) = i) (j : Nat) (hl : lv[j]? = some (i, .int x)) (kk : zW p l e R s mt args below meth c g Q u nL t m (pc + 1) lv (.int x :: st)) : zW p l e R s mt args below meth c g Q u nL t m pc lv (st) := by
  intro H locs cells slots ls hH hS h1 h2 hv
  exact lv_iload_n C.1 C.2.1 hdg hi (zv_at hv j hl) (kk H locs cells slots ls hH hS h1 h2 hv)
theorem z_iload (C : zC p R s mt args meth c g cc nL own h) {i : Nat} {x : Int32} (hdg : decode cc pc = .ok (.iload i, 2)) (j : Nat) (hl : lv[j]? = some (i, .int x)) (kk : zW p l e R s mt args below meth c g Q u nL t m (pc + 2) lv (.int x :: st)) : zW p l e R s mt args below meth c g Q u nL t m pc lv (st) := by
  intro H locs cells slots ls hH hS h1 h2 hv
  exact lv_iload C.1 C.2.1 hdg (zv_at hv j hl) (kk H locs cells slots ls hH hS h1 h2 hv)
theorem z_lload_n (C : zC p R s mt args meth c g cc nL own h) {k : Fin 4} {i : Nat} {x : Int64} (hdg : decode cc pc = .ok (.lload_n k, 1)) (hi : (k : Nat) = i) (j : Nat) (hl : lv[j]? = some (i, .long x)) (kk : zW p l e R s mt args below meth c g Q u nL t m (pc + 1) lv (.long x :: st)) : zW p l e R s mt args below meth c g Q u nL t m pc lv (st) := by
  intro H locs cells slots ls hH hS h1 h2 hv
  exact lv_lload_n C.1 C.2.1 hdg hi (zv_at hv j hl) (kk H locs cells slots ls hH hS h1 h2 hv)
theorem z_lload (C : zC p R s mt args meth c g cc nL own h) {i : Nat} {x : Int64} (hdg : decode cc pc = .ok (.lload i, 2)) (j : Nat) (hl : lv[j]? = some (i, .long x)) (kk : zW p l e R s mt args below meth c g Q u nL t m (pc + 2) lv (.long x :: st)) : zW p l e R s mt args below meth c g Q u nL t m pc lv (st) := by
  intro H locs cells slots ls hH hS h1 h2 hv
  exact lv_lload C.1 C.2.1 hdg (zv_at hv j hl) (kk H locs cells slots ls hH hS h1 h2 hv)
theorem z_aload_n (C : zC p R s mt args meth c g cc nL own h) {k : Fin 4} {i : Nat} {x : Nat} (hdg : decode cc pc = .ok (.aload_n k, 1)) (hi : (k : Nat) = i) (j : Nat) (hl : lv[j]? = some (i, .ref x)) (kk : zW p l e R s mt args below meth c g Q u nL t m (pc + 1) lv (.ref x :: st)) : zW p l e R s mt args below meth c g Q u nL t m pc lv st := by
  intro H locs cells slots ls hH hS h1 h2 hv
  have hk := kk H locs cells slots ls hH hS h1 h2 hv
  have ha := zv_at hv j hl
  simp only [List.map_cons, zV] at hk ha
  unfold zRf at hk ha
  by_cases hx : x = 0
  · rw [if_pos hx] at hk ha
    exact lv_aload_nN C.1 C.2.1 hdg hi ha hk
  · rw [if_neg hx] at hk ha
    exact lv_aload_n C.1 C.2.1 hdg hi ha hk
theorem z_aload (C : zC p R s mt args meth c g cc nL own h) {i : Nat} {x : Nat} (hdg : decode cc pc = .ok (.aload i, 2)) (j : Nat) (hl : lv[j]? = some (i, .ref x)) (kk : zW p l e R s mt args below meth c g Q u nL t m (pc + 2) lv (.ref x :: st)) : zW p l e R s mt args below meth c g Q u nL t m pc lv st := by
  intro H locs cells slots ls hH hS h1 h2 hv
  have hk := kk H locs cells slots ls hH hS h1 h2 hv
  have ha := zv_at hv j hl
  simp only [List.map_cons, zV] at hk ha
  unfold zRf at hk ha
  by_cases hx : x = 0
  · rw [if_pos hx] at hk ha
    exact lv_aloadN C.1 C.2.1 hdg ha hk
  · rw [if_neg hx] at hk ha
    exact lv_aload C.1 C.2.1 hdg ha hk
/-- a text's place, as an argument -/
theorem z_aload_nS (C : zC p R s mt args meth c g cc nL own h) {k : Fin 4} {i : Nat} {x : Nat} (hdg : decode cc pc = .ok (.aload_n k, 1)) (hi : (k : Nat) = i) (j : Nat) (hl : lv[j]? = some (i, .retAddr x)) (kk : zW p l e R s mt args below meth c g Q u nL t m (pc + 1) lv (.retAddr x :: st)) : zW p l e R s mt args below meth c g Q u nL t m pc lv st := by
  intro H locs cells slots ls hH hS h1 h2 hv
  exact lv_aload_n C.1 C.2.1 hdg hi (zv_at hv j hl) (kk H locs cells slots ls hH hS h1 h2 hv)
theorem z_istore_n (C : zC p R s mt args meth c g cc nL own h) {k : Fin 4} {i : Nat} {x : Int32} (hdg : decode cc pc = .ok (.istore_n k, 1)) (hi : (k : Nat) = i) (hn : i < nL) (hl : (i, Value.int x) :: lv.filter (fun q => !(q.1 == i) && !(q.1 + 1 == i && q.2.category == 2)) = lv2) (kk : zW p l e R s mt args below meth c g Q u nL t m (pc + 1) lv2 st) : zW p l e R s mt args below meth c g Q u nL t m pc lv (.int x :: st) := by
  intro H locs cells slots ls hH hS h1 h2 hv
  refine lv_istore_n C.1 C.2.1 hdg hi hv hn rfl (fun ls' hv' => kk H locs cells slots ls' hH hS h1 h2 ?_)
  rw [← hl]
  rw [zv_flt (fun a b => !(a == i) && !(a + 1 == i && b == 2))] at hv'
  exact hv'
theorem z_istore (C : zC p R s mt args meth c g cc nL own h) {i : Nat} {x : Int32} (hdg : decode cc pc = .ok (.istore i, 2)) (hn : i < nL) (hl : (i, Value.int x) :: lv.filter (fun q => !(q.1 == i) && !(q.1 + 1 == i && q.2.category == 2)) = lv2) (kk : zW p l e R s mt args below meth c g Q u nL t m (pc + 2) lv2 st) : zW p l e R s mt args below meth c g Q u nL t m pc lv (.int x :: st) := by
  intro H locs cells slots ls hH hS h1 h2 hv
  refine lv_istore C.1 C.2.1 hdg hv hn rfl (fun ls' hv' => kk H locs cells slots ls' hH hS h1 h2 ?_)
  rw [← hl]
  rw [zv_flt (fun a b => !(a == i) && !(a + 1 == i && b == 2))] at hv'
  exact hv'
theorem z_lstore_n (C : zC p R s mt args meth c g cc nL own h) {k : Fin 4} {i : Nat} {x : Int64} (hdg : decode cc pc = .ok (.lstore_n k, 1)) (hi : (k : Nat) = i) (hn : i + 1 < nL) (hl : (i, Value.long x) :: lv.filter (fun q => !(q.1 == i) && (!(q.1 == i + 1) && !(q.1 + 1 == i && q.2.category == 2))) = lv2) (kk : zW p l e R s mt args below meth c g Q u nL t m (pc + 1) lv2 st) : zW p l e R s mt args below meth c g Q u nL t m pc lv (.long x :: st) := by
  intro H locs cells slots ls hH hS h1 h2 hv
  refine lv_lstore_n C.1 C.2.1 hdg hi hv hn rfl (fun ls' hv' => kk H locs cells slots ls' hH hS h1 h2 ?_)
  rw [← hl]
  rw [zv_flt (fun a b => !(a == i) && (!(a == i + 1) && !(a + 1 == i && b == 2)))] at hv'
  exact hv'
theorem z_lstore (C : zC p R s mt args meth c g cc nL own h) {i : Nat} {x : Int64} (hdg : decode cc pc = .ok (.lstore i, 2)) (hn : i + 1 < nL) (hl : (i, Value.long x) :: lv.filter (fun q => !(q.1 == i) && (!(q.1 == i + 1) && !(q.1 + 1 == i && q.2.category == 2))) = lv2) (kk : zW p l e R s mt args below meth c g Q u nL t m (pc + 2) lv2 st) : zW p l e R s mt args below meth c g Q u nL t m pc lv (.long x :: st) := by
  intro H locs cells slots ls hH hS h1 h2 hv
  refine lv_lstore C.1 C.2.1 hdg hv hn rfl (fun ls' hv' => kk H locs cells slots ls' hH hS h1 h2 ?_)
  rw [← hl]
  rw [zv_flt (fun a b => !(a == i) && (!(a == i + 1) && !(a + 1 == i && b == 2)))] at hv'
  exact hv'
theorem z_astore_n (C : zC p R s mt args meth c g cc nL own h) {k : Fin 4} {i : Nat} {x : Nat} (hdg : decode cc pc = .ok (.astore_n k, 1)) (hi : (k : Nat) = i) (hn : i < nL) (hl : (i, Value.ref x) :: lv.filter (fun q => !(q.1 == i) && !(q.1 + 1 == i && q.2.category == 2)) = lv2) (kk : zW p l e R s mt args below meth c g Q u nL t m (pc + 1) lv2 st) : zW p l e R s mt args below meth c g Q u nL t m pc lv (.ref x :: st) := by
  intro H locs cells slots ls hH hS h1 h2 hv
  have key : ∀ ls' : Array Slot, lv_has ls' nL ((i, zRf g x) :: (lv.map (fun q => (q.1, zV g q.2))).filter (fun q => !(q.1 == i) && !(q.1 + 1 == i && q.2.category == 2))) → W p l e R s mt args below meth c H locs cells slots Q (F0 mt (pc + 1) ls' (st.map (zV g))) := fun ls' hv' => kk H locs cells slots ls' hH hS h1 h2 (by
    rw [← hl]
    rw [zv_flt (fun a b => !(a == i) && !(a + 1 == i && b == 2))] at hv'
    exact hv')
  show W p l e R s mt args below meth c H locs cells slots Q (F0 mt pc ls (zRf g x :: st.map (zV g)))
  unfold zRf at key ⊢
  by_cases hx : x = 0
  · rw [if_pos hx] at key ⊢
    exact lv_astore_nN C.1 C.2.1 hdg hi hv hn rfl key
  · rw [if_neg hx] at key ⊢
    exact lv_astore_n C.1 C.2.1 hdg hi hv hn rfl key
theorem z_astore (C : zC p R s mt args meth c g cc nL own h) {i : Nat} {x : Nat} (hdg : decode cc pc = .ok (.astore i, 2)) (hn : i < nL) (hl : (i, Value.ref x) :: lv.filter (fun q => !(q.1 == i) && !(q.1 + 1 == i && q.2.category == 2)) = lv2) (kk : zW p l e R s mt args below meth c g Q u nL t m (pc + 2) lv2 st) : zW p l e R s mt args below meth c g Q u nL t m pc lv (.ref x :: st) := by
  intro H locs cells slots ls hH hS h1 h2 hv
  have key : ∀ ls' : Array Slot, lv_has ls' nL ((i, zRf g x) :: (lv.map (fun q => (q.1, zV g q.2))).filter (fun q => !(q.1 == i) && !(q.1 + 1 == i && q.2.category == 2))) → W p l e R s mt args below meth c H locs cells slots Q (F0 mt (pc + 2) ls' (st.map (zV g))) := fun ls' hv' => kk H locs cells slots ls' hH hS h1 h2 (by
    rw [← hl]
    rw [zv_flt (fun a b => !(a == i) && !(a + 1 == i && b == 2))] at hv'
    exact hv')
  show W p l e R s mt args below meth c H locs cells slots Q (F0 mt pc ls (zRf g x :: st.map (zV g)))
  unfold zRf at key ⊢
  by_cases hx : x = 0
  · rw [if_pos hx] at key ⊢
    exact lv_astoreN C.1 C.2.1 hdg hv hn rfl key
  · rw [if_neg hx] at key ⊢
    exact lv_astore C.1 C.2.1 hdg hv hn rfl key
theorem z_iinc (C : zC p R s mt args meth c g cc nL own h) {i : Nat} {n : Int} {x v : Int32} (hdg : decode cc pc = .ok (.iinc i n, 3)) (j : Nat) (hj : lv[j]? = some (i, .int x)) (hx : x + Int32.ofInt n = v) (hn : i < nL) (hl : (i, Value.int v) :: lv.filter (fun q => !(q.1 == i) && !(q.1 + 1 == i && q.2.category == 2)) = lv2) (kk : zW p l e R s mt args below meth c g Q u nL t m (pc + 3) lv2 st) : zW p l e R s mt args below meth c g Q u nL t m pc lv st := by
  intro H locs cells slots ls hH hS h1 h2 hv
  refine lv_iinc C.1 C.2.1 hdg hv (k := j) (by rw [List.getElem?_map, hj]; rfl) hx hn rfl (fun ls' hv' => kk H locs cells slots ls' hH hS h1 h2 ?_)
  rw [← hl]
  rw [zv_flt (fun a b => !(a == i) && !(a + 1 == i && b == 2))] at hv'
  exact hv'
theorem z_iadd (C : zC p R s mt args meth c g cc nL own h) {x y : Int32} (hdg : decode cc pc = .ok (.iadd, 1))  (kk : zW p l e R s mt args below meth c g Q u nL t m (pc + 1) lv (.int (x + y) :: st)) : zW p l e R s mt args below meth c g Q u nL t m pc lv (.int y :: .int x :: st) := by
  intro H locs cells slots ls hH hS h1 h2 hv
  exact lv_iadd C.1 C.2.1 hdg (kk H locs cells slots ls hH hS h1 h2 hv)
theorem z_isub (C : zC p R s mt args meth c g cc nL own h) {x y : Int32} (hdg : decode cc pc = .ok (.isub, 1))  (kk : zW p l e R s mt args below meth c g Q u nL t m (pc + 1) lv (.int (x - y) :: st)) : zW p l e R s mt args below meth c g Q u nL t m pc lv (.int y :: .int x :: st) := by
  intro H locs cells slots ls hH hS h1 h2 hv
  exact lv_isub C.1 C.2.1 hdg (kk H locs cells slots ls hH hS h1 h2 hv)
theorem z_imul (C : zC p R s mt args meth c g cc nL own h) {x y : Int32} (hdg : decode cc pc = .ok (.imul, 1))  (kk : zW p l e R s mt args below meth c g Q u nL t m (pc + 1) lv (.int (x * y) :: st)) : zW p l e R s mt args below meth c g Q u nL t m pc lv (.int y :: .int x :: st) := by
  intro H locs cells slots ls hH hS h1 h2 hv
  exact lv_imul C.1 C.2.1 hdg (kk H locs cells slots ls hH hS h1 h2 hv)
theorem z_iand (C : zC p R s mt args meth c g cc nL own h) {x y : Int32} (hdg : decode cc pc = .ok (.iand, 1))  (kk : zW p l e R s mt args below meth c g Q u nL t m (pc + 1) lv (.int (x &&& y) :: st)) : zW p l e R s mt args below meth c g Q u nL t m pc lv (.int y :: .int x :: st) := by
  intro H locs cells slots ls hH hS h1 h2 hv
  exact lv_iand C.1 C.2.1 hdg (kk H locs cells slots ls hH hS h1 h2 hv)
theorem z_ior (C : zC p R s mt args meth c g cc nL own h) {x y : Int32} (hdg : decode cc pc = .ok (.ior, 1))  (kk : zW p l e R s mt args below meth c g Q u nL t m (pc + 1) lv (.int (x ||| y) :: st)) : zW p l e R s mt args below meth c g Q u nL t m pc lv (.int y :: .int x :: st) := by
  intro H locs cells slots ls hH hS h1 h2 hv
  exact lv_ior C.1 C.2.1 hdg (kk H locs cells slots ls hH hS h1 h2 hv)
theorem z_ixor (C : zC p R s mt args meth c g cc nL own h) {x y : Int32} (hdg : decode cc pc = .ok (.ixor, 1))  (kk : zW p l e R s mt args below meth c g Q u nL t m (pc + 1) lv (.int (x ^^^ y) :: st)) : zW p l e R s mt args below meth c g Q u nL t m pc lv (.int y :: .int x :: st) := by
  intro H locs cells slots ls hH hS h1 h2 hv
  exact lv_ixor C.1 C.2.1 hdg (kk H locs cells slots ls hH hS h1 h2 hv)
theorem z_ishl (C : zC p R s mt args meth c g cc nL own h) {x y : Int32} (hdg : decode cc pc = .ok (.ishl, 1))  (kk : zW p l e R s mt args below meth c g Q u nL t m (pc + 1) lv (.int (x <<< (y &&& 31)) :: st)) : zW p l e R s mt args below meth c g Q u nL t m pc lv (.int y :: .int x :: st) := by
  intro H locs cells slots ls hH hS h1 h2 hv
  exact lv_ishl C.1 C.2.1 hdg (kk H locs cells slots ls hH hS h1 h2 hv)
theorem z_ishr (C : zC p R s mt args meth c g cc nL own h) {x y : Int32} (hdg : decode cc pc = .ok (.ishr, 1))  (kk : zW p l e R s mt args below meth c g Q u nL t m (pc + 1) lv (.int (x >>> (y &&& 31)) :: st)) : zW p l e R s mt args below meth c g Q u nL t m pc lv (.int y :: .int x :: st) := by
  intro H locs cells slots ls hH hS h1 h2 hv
  exact lv_ishr C.1 C.2.1 hdg (kk H locs cells slots ls hH hS h1 h2 hv)
theorem z_idiv (C : zC p R s mt args meth c g cc nL own h) {x y : Int32} (hdg : decode cc pc = .ok (.idiv, 1)) (hne : ¬ y = 0) (kk : zW p l e R s mt args below meth c g Q u nL t m (pc + 1) lv (.int (x / y) :: st)) : zW p l e R s mt args below meth c g Q u nL t m pc lv (.int y :: .int x :: st) := by
  intro H locs cells slots ls hH hS h1 h2 hv
  exact lv_idiv C.1 C.2.1 hdg hne (kk H locs cells slots ls hH hS h1 h2 hv)
theorem z_irem (C : zC p R s mt args meth c g cc nL own h) {x y : Int32} (hdg : decode cc pc = .ok (.irem, 1)) (hne : ¬ y = 0) (kk : zW p l e R s mt args below meth c g Q u nL t m (pc + 1) lv (.int (x - x / y * y) :: st)) : zW p l e R s mt args below meth c g Q u nL t m pc lv (.int y :: .int x :: st) := by
  intro H locs cells slots ls hH hS h1 h2 hv
  exact lv_irem C.1 C.2.1 hdg hne (kk H locs cells slots ls hH hS h1 h2 hv)
theorem z_iushr (C : zC p R s mt args meth c g cc nL own h) {x y : Int32} (hdg : decode cc pc = .ok (.iushr, 1))  (kk : zW p l e R s mt args below meth c g Q u nL t m (pc + 1) lv (.int ((x.toUInt32 >>> (y.toUInt32 &&& Int32.toUInt32 31)).toInt32) :: st)) : zW p l e R s mt args below meth c g Q u nL t m pc lv (.int y :: .int x :: st) := by
  intro H locs cells slots ls hH hS h1 h2 hv
  exact lv_iushr C.1 C.2.1 hdg rfl (kk H locs cells slots ls hH hS h1 h2 hv)
theorem z_ladd (C : zC p R s mt args meth c g cc nL own h) {x y : Int64} (hdg : decode cc pc = .ok (.ladd, 1))  (kk : zW p l e R s mt args below meth c g Q u nL t m (pc + 1) lv (.long (x + y) :: st)) : zW p l e R s mt args below meth c g Q u nL t m pc lv (.long y :: .long x :: st) := by
  intro H locs cells slots ls hH hS h1 h2 hv
  exact lv_ladd C.1 C.2.1 hdg (kk H locs cells slots ls hH hS h1 h2 hv)
theorem z_lsub (C : zC p R s mt args meth c g cc nL own h) {x y : Int64} (hdg : decode cc pc = .ok (.lsub, 1))  (kk : zW p l e R s mt args below meth c g Q u nL t m (pc + 1) lv (.long (x - y) :: st)) : zW p l e R s mt args below meth c g Q u nL t m pc lv (.long y :: .long x :: st) := by
  intro H locs cells slots ls hH hS h1 h2 hv
  exact lv_lsub C.1 C.2.1 hdg (kk H locs cells slots ls hH hS h1 h2 hv)
theorem z_lmul (C : zC p R s mt args meth c g cc nL own h) {x y : Int64} (hdg : decode cc pc = .ok (.lmul, 1))  (kk : zW p l e R s mt args below meth c g Q u nL t m (pc + 1) lv (.long (x * y) :: st)) : zW p l e R s mt args below meth c g Q u nL t m pc lv (.long y :: .long x :: st) := by
  intro H locs cells slots ls hH hS h1 h2 hv
  exact lv_lmul C.1 C.2.1 hdg (kk H locs cells slots ls hH hS h1 h2 hv)
theorem z_land (C : zC p R s mt args meth c g cc nL own h) {x y : Int64} (hdg : decode cc pc = .ok (.land, 1))  (kk : zW p l e R s mt args below meth c g Q u nL t m (pc + 1) lv (.long (x &&& y) :: st)) : zW p l e R s mt args below meth c g Q u nL t m pc lv (.long y :: .long x :: st) := by
  intro H locs cells slots ls hH hS h1 h2 hv
  exact lv_land C.1 C.2.1 hdg (kk H locs cells slots ls hH hS h1 h2 hv)
theorem z_lor (C : zC p R s mt args meth c g cc nL own h) {x y : Int64} (hdg : decode cc pc = .ok (.lor, 1))  (kk : zW p l e R s mt args below meth c g Q u nL t m (pc + 1) lv (.long (x ||| y) :: st)) : zW p l e R s mt args below meth c g Q u nL t m pc lv (.long y :: .long x :: st) := by
  intro H locs cells slots ls hH hS h1 h2 hv
  exact lv_lor C.1 C.2.1 hdg (kk H locs cells slots ls hH hS h1 h2 hv)
theorem z_lxor (C : zC p R s mt args meth c g cc nL own h) {x y : Int64} (hdg : decode cc pc = .ok (.lxor, 1))  (kk : zW p l e R s mt args below meth c g Q u nL t m (pc + 1) lv (.long (x ^^^ y) :: st)) : zW p l e R s mt args below meth c g Q u nL t m pc lv (.long y :: .long x :: st) := by
  intro H locs cells slots ls hH hS h1 h2 hv
  exact lv_lxor C.1 C.2.1 hdg (kk H locs cells slots ls hH hS h1 h2 hv)
theorem z_ldiv (C : zC p R s mt args meth c g cc nL own h) {x y : Int64} (hdg : decode cc pc = .ok (.ldiv, 1)) (hne : ¬ y = 0) (kk : zW p l e R s mt args below meth c g Q u nL t m (pc + 1) lv (.long (x / y) :: st)) : zW p l e R s mt args below meth c g Q u nL t m pc lv (.long y :: .long x :: st) := by
  intro H locs cells slots ls hH hS h1 h2 hv
  exact lv_ldiv C.1 C.2.1 hdg hne (kk H locs cells slots ls hH hS h1 h2 hv)
theorem z_lrem (C : zC p R s mt args meth c g cc nL own h) {x y : Int64} (hdg : decode cc pc = .ok (.lrem, 1)) (hne : ¬ y = 0) (kk : zW p l e R s mt args below meth c g Q u nL t m (pc + 1) lv (.long (x - x / y * y) :: st)) : zW p l e R s mt args below meth c g Q u nL t m pc lv (.long y :: .long x :: st) := by
  intro H locs cells slots ls hH hS h1 h2 hv
  exact lv_lrem C.1 C.2.1 hdg hne (kk H locs cells slots ls hH hS h1 h2 hv)
theorem z_lneg (C : zC p R s mt args meth c g cc nL own h) {x : Int64} (hdg : decode cc pc = .ok (.lneg, 1))  (kk : zW p l e R s mt args below meth c g Q u nL t m (pc + 1) lv (.long (-x) :: st)) : zW p l e R s mt args below meth c g Q u nL t m pc lv (.long x :: st) := by
  intro H locs cells slots ls hH hS h1 h2 hv
  exact lv_lneg C.1 C.2.1 hdg (kk H locs cells slots ls hH hS h1 h2 hv)
theorem z_lshl (C : zC p R s mt args meth c g cc nL own h) {x : Int64} {y : Int32} (hdg : decode cc pc = .ok (.lshl, 1))  (kk : zW p l e R s mt args below meth c g Q u nL t m (pc + 1) lv (.long (x <<< (y.toInt64 &&& 63)) :: st)) : zW p l e R s mt args below meth c g Q u nL t m pc lv (.int y :: .long x :: st) := by
  intro H locs cells slots ls hH hS h1 h2 hv
  exact lv_lshl C.1 C.2.1 hdg rfl (kk H locs cells slots ls hH hS h1 h2 hv)
theorem z_lushr (C : zC p R s mt args meth c g cc nL own h) {x : Int64} {y : Int32} (hdg : decode cc pc = .ok (.lushr, 1))  (kk : zW p l e R s mt args below meth c g Q u nL t m (pc + 1) lv (.long ((x.toUInt64 >>> (y.toInt64.toUInt64 &&& Int64.toUInt64 63)).toInt64) :: st)) : zW p l e R s mt args below meth c g Q u nL t m pc lv (.int y :: .long x :: st) := by
  intro H locs cells slots ls hH hS h1 h2 hv
  exact lv_lushr C.1 C.2.1 hdg rfl (kk H locs cells slots ls hH hS h1 h2 hv)
theorem z_i2l (C : zC p R s mt args meth c g cc nL own h) {x : Int32} (hdg : decode cc pc = .ok (.i2l, 1))  (kk : zW p l e R s mt args below meth c g Q u nL t m (pc + 1) lv (.long (x.toInt64) :: st)) : zW p l e R s mt args below meth c g Q u nL t m pc lv (.int x :: st) := by
  intro H locs cells slots ls hH hS h1 h2 hv
  exact lv_i2l C.1 C.2.1 hdg rfl (kk H locs cells slots ls hH hS h1 h2 hv)
theorem z_l2i (C : zC p R s mt args meth c g cc nL own h) {x : Int64} (hdg : decode cc pc = .ok (.l2i, 1))  (kk : zW p l e R s mt args below meth c g Q u nL t m (pc + 1) lv (.int (x.toInt32) :: st)) : zW p l e R s mt args below meth c g Q u nL t m pc lv (.long x :: st) := by
  intro H locs cells slots ls hH hS h1 h2 hv
  exact lv_l2i C.1 C.2.1 hdg rfl (kk H locs cells slots ls hH hS h1 h2 hv)
theorem z_i2b (C : zC p R s mt args meth c g cc nL own h) {x : Int32} (hdg : decode cc pc = .ok (.i2b, 1))  (kk : zW p l e R s mt args below meth c g Q u nL t m (pc + 1) lv (.int (x.toInt8.toInt32) :: st)) : zW p l e R s mt args below meth c g Q u nL t m pc lv (.int x :: st) := by
  intro H locs cells slots ls hH hS h1 h2 hv
  exact lv_i2b C.1 C.2.1 hdg rfl (kk H locs cells slots ls hH hS h1 h2 hv)
theorem z_i2c (C : zC p R s mt args meth c g cc nL own h) {x : Int32} (hdg : decode cc pc = .ok (.i2c, 1))  (kk : zW p l e R s mt args below meth c g Q u nL t m (pc + 1) lv (.int ((x.toUInt32 % 65536).toInt32) :: st)) : zW p l e R s mt args below meth c g Q u nL t m pc lv (.int x :: st) := by
  intro H locs cells slots ls hH hS h1 h2 hv
  exact lv_i2c C.1 C.2.1 hdg rfl (kk H locs cells slots ls hH hS h1 h2 hv)
theorem z_lcmp (C : zC p R s mt args meth c g cc nL own h) {x y : Int64} (hdg : decode cc pc = .ok (.lcmp, 1))  (kk : zW p l e R s mt args below meth c g Q u nL t m (pc + 1) lv (.int (lg_cmp x y) :: st)) : zW p l e R s mt args below meth c g Q u nL t m pc lv (.long y :: .long x :: st) := by
  intro H locs cells slots ls hH hS h1 h2 hv
  exact W.lcmp C.1 C.2.1 hdg (kk H locs cells slots ls hH hS h1 h2 hv)
theorem z_dup (C : zC p R s mt args meth c g cc nL own h) {v : Value} (hdg : decode cc pc = .ok (.dup, 1)) (hc9 : v.category = 1) (kk : zW p l e R s mt args below meth c g Q u nL t m (pc + 1) lv (v :: v :: st)) : zW p l e R s mt args below meth c g Q u nL t m pc lv (v :: st) := by
  intro H locs cells slots ls hH hS h1 h2 hv
  exact lv_dup C.1 C.2.1 hdg ((zv_cat g v).trans hc9) (kk H locs cells slots ls hH hS h1 h2 hv)
theorem z_pop (C : zC p R s mt args meth c g cc nL own h) {v : Value} (hdg : decode cc pc = .ok (.pop, 1)) (hc9 : v.category = 1) (kk : zW p l e R s mt args below meth c g Q u nL t m (pc + 1) lv (st)) : zW p l e R s mt args below meth c g Q u nL t m pc lv (v :: st) := by
  intro H locs cells slots ls hH hS h1 h2 hv
  exact lv_pop C.1 C.2.1 hdg ((zv_cat g v).trans hc9) (kk H locs cells slots ls hH hS h1 h2 hv)
theorem z_dup2_11 (C : zC p R s mt args meth c g cc nL own h) {v w : Value} (hdg : decode cc pc = .ok (.dup2, 1)) (hc9 : v.category = 1) (hc8 : w.category = 1) (kk : zW p l e R s mt args below meth c g Q u nL t m (pc + 1) lv (v :: w :: v :: w :: st)) : zW p l e R s mt args below meth c g Q u nL t m pc lv (v :: w :: st) := by
  intro H locs cells slots ls hH hS h1 h2 hv
  exact lv_dup2_11 C.1 C.2.1 hdg ((zv_cat g v).trans hc9) ((zv_cat g w).trans hc8) (kk H locs cells slots ls hH hS h1 h2 hv)
theorem z_dup2_2 (C : zC p R s mt args meth c g cc nL own h) {v : Value} (hdg : decode cc pc = .ok (.dup2, 1)) (hc9 : v.category = 2) (kk : zW p l e R s mt args below meth c g Q u nL t m (pc + 1) lv (v :: v :: st)) : zW p l e R s mt args below meth c g Q u nL t m pc lv (v :: st) := by
  intro H locs cells slots ls hH hS h1 h2 hv
  exact lv_dup2_2 C.1 C.2.1 hdg ((zv_cat g v).trans hc9) (kk H locs cells slots ls hH hS h1 h2 hv)
theorem z_goto (C : zC p R s mt args meth c g cc nL own h) {off : Int} {tgt : Nat} (hdg : decode cc pc = .ok (.goto off, 3)) (ht : (pc : Int) + off = (tgt : Int)) (kk : zW p l e R s mt args below meth c g Q u nL t m tgt lv st) : zW p l e R s mt args below meth c g Q u nL t m pc lv st := by
  intro H locs cells slots ls hH hS h1 h2 hv
  exact lv_goto C.1 C.2.1 hdg ht (kk H locs cells slots ls hH hS h1 h2 hv)
theorem z_if_eq (C : zC p R s mt args meth c g cc nL own h) {x : Int32} {off : Int} {tgt : Nat} (hdg : decode cc pc = .ok (.ifCond .eq off, 3)) (ht : (pc : Int) + off = (tgt : Int)) (kt : x = 0 → zW p l e R s mt args below meth c g Q u nL t m tgt lv st) (kf : ¬ x = 0 → zW p l e R s mt args below meth c g Q u nL t m (pc + 3) lv st) : zW p l e R s mt args below meth c g Q u nL t m pc lv (.int x :: st) := by
  intro H locs cells slots ls hH hS h1 h2 hv
  exact lv_if_eq C.1 C.2.1 hdg ht (fun q => kt q H locs cells slots ls hH hS h1 h2 hv) (fun q => kf q H locs cells slots ls hH hS h1 h2 hv)
theorem z_icmp_eq (C : zC p R s mt args meth c g cc nL own h) {x y : Int32} {off : Int} {tgt : Nat} (hdg : decode cc pc = .ok (.if_icmp .eq off, 3)) (ht : (pc : Int) + off = (tgt : Int)) (kt : x = y → zW p l e R s mt args below meth c g Q u nL t m tgt lv st) (kf : ¬ x = y → zW p l e R s mt args below meth c g Q u nL t m (pc + 3) lv st) : zW p l e R s mt args below meth c g Q u nL t m pc lv (.int y :: .int x :: st) := by
  intro H locs cells slots ls hH hS h1 h2 hv
  exact lv_icmp_eq C.1 C.2.1 hdg ht (fun q => kt q H locs cells slots ls hH hS h1 h2 hv) (fun q => kf q H locs cells slots ls hH hS h1 h2 hv)
theorem z_if_ne (C : zC p R s mt args meth c g cc nL own h) {x : Int32} {off : Int} {tgt : Nat} (hdg : decode cc pc = .ok (.ifCond .ne off, 3)) (ht : (pc : Int) + off = (tgt : Int)) (kt : ¬ x = 0 → zW p l e R s mt args below meth c g Q u nL t m tgt lv st) (kf : x = 0 → zW p l e R s mt args below meth c g Q u nL t m (pc + 3) lv st) : zW p l e R s mt args below meth c g Q u nL t m pc lv (.int x :: st) := by
  intro H locs cells slots ls hH hS h1 h2 hv
  exact lv_if_ne C.1 C.2.1 hdg ht (fun q => kt q H locs cells slots ls hH hS h1 h2 hv) (fun q => kf q H locs cells slots ls hH hS h1 h2 hv)
theorem z_icmp_ne (C : zC p R s mt args meth c g cc nL own h) {x y : Int32} {off : Int} {tgt : Nat} (hdg : decode cc pc = .ok (.if_icmp .ne off, 3)) (ht : (pc : Int) + off = (tgt : Int)) (kt : ¬ x = y → zW p l e R s mt args below meth c g Q u nL t m tgt lv st) (kf : x = y → zW p l e R s mt args below meth c g Q u nL t m (pc + 3) lv st) : zW p l e R s mt args below meth c g Q u nL t m pc lv (.int y :: .int x :: st) := by
  intro H locs cells slots ls hH hS h1 h2 hv
  exact lv_icmp_ne C.1 C.2.1 hdg ht (fun q => kt q H locs cells slots ls hH hS h1 h2 hv) (fun q => kf q H locs cells slots ls hH hS h1 h2 hv)
theorem z_if_lt (C : zC p R s mt args meth c g cc nL own h) {x : Int32} {off : Int} {tgt : Nat} (hdg : decode cc pc = .ok (.ifCond .lt off, 3)) (ht : (pc : Int) + off = (tgt : Int)) (kt : x < 0 → zW p l e R s mt args below meth c g Q u nL t m tgt lv st) (kf : ¬ x < 0 → zW p l e R s mt args below meth c g Q u nL t m (pc + 3) lv st) : zW p l e R s mt args below meth c g Q u nL t m pc lv (.int x :: st) := by
  intro H locs cells slots ls hH hS h1 h2 hv
  exact lv_if_lt C.1 C.2.1 hdg ht (fun q => kt q H locs cells slots ls hH hS h1 h2 hv) (fun q => kf q H locs cells slots ls hH hS h1 h2 hv)
theorem z_icmp_lt (C : zC p R s mt args meth c g cc nL own h) {x y : Int32} {off : Int} {tgt : Nat} (hdg : decode cc pc = .ok (.if_icmp .lt off, 3)) (ht : (pc : Int) + off = (tgt : Int)) (kt : x < y → zW p l e R s mt args below meth c g Q u nL t m tgt lv st) (kf : ¬ x < y → zW p l e R s mt args below meth c g Q u nL t m (pc + 3) lv st) : zW p l e R s mt args below meth c g Q u nL t m pc lv (.int y :: .int x :: st) := by
  intro H locs cells slots ls hH hS h1 h2 hv
  exact lv_icmp_lt C.1 C.2.1 hdg ht (fun q => kt q H locs cells slots ls hH hS h1 h2 hv) (fun q => kf q H locs cells slots ls hH hS h1 h2 hv)
theorem z_if_ge (C : zC p R s mt args meth c g cc nL own h) {x : Int32} {off : Int} {tgt : Nat} (hdg : decode cc pc = .ok (.ifCond .ge off, 3)) (ht : (pc : Int) + off = (tgt : Int)) (kt : 0 ≤ x → zW p l e R s mt args below meth c g Q u nL t m tgt lv st) (kf : ¬ 0 ≤ x → zW p l e R s mt args below meth c g Q u nL t m (pc + 3) lv st) : zW p l e R s mt args below meth c g Q u nL t m pc lv (.int x :: st) := by
  intro H locs cells slots ls hH hS h1 h2 hv
  exact lv_if_ge C.1 C.2.1 hdg ht (fun q => kt q H locs cells slots ls hH hS h1 h2 hv) (fun q => kf q H locs cells slots ls hH hS h1 h2 hv)
theorem z_icmp_ge (C : zC p R s mt args meth c g cc nL own h) {x y : Int32} {off : Int} {tgt : Nat} (hdg : decode cc pc = .ok (.if_icmp .ge off, 3)) (ht : (pc : Int) + off = (tgt : Int)) (kt : y ≤ x → zW p l e R s mt args below meth c g Q u nL t m tgt lv st) (kf : ¬ y ≤ x → zW p l e R s mt args below meth c g Q u nL t m (pc + 3) lv st) : zW p l e R s mt args below meth c g Q u nL t m pc lv (.int y :: .int x :: st) := by
  intro H locs cells slots ls hH hS h1 h2 hv
  exact lv_icmp_ge C.1 C.2.1 hdg ht (fun q => kt q H locs cells slots ls hH hS h1 h2 hv) (fun q => kf q H locs cells slots ls hH hS h1 h2 hv)
theorem z_if_gt (C : zC p R s mt args meth c g cc nL own h) {x : Int32} {off : Int} {tgt : Nat} (hdg : decode cc pc = .ok (.ifCond .gt off, 3)) (ht : (pc : Int) + off = (tgt : Int)) (kt : 0 < x → zW p l e R s mt args below meth c g Q u nL t m tgt lv st) (kf : ¬ 0 < x → zW p l e R s mt args below meth c g Q u nL t m (pc + 3) lv st) : zW p l e R s mt args below meth c g Q u nL t m pc lv (.int x :: st) := by
  intro H locs cells slots ls hH hS h1 h2 hv
  exact lv_if_gt C.1 C.2.1 hdg ht (fun q => kt q H locs cells slots ls hH hS h1 h2 hv) (fun q => kf q H locs cells slots ls hH hS h1 h2 hv)
theorem z_icmp_gt (C : zC p R s mt args meth c g cc nL own h) {x y : Int32} {off : Int} {tgt : Nat} (hdg : decode cc pc = .ok (.if_icmp .gt off, 3)) (ht : (pc : Int) + off = (tgt : Int)) (kt : y < x → zW p l e R s mt args below meth c g Q u nL t m tgt lv st) (kf : ¬ y < x → zW p l e R s mt args below meth c g Q u nL t m (pc + 3) lv st) : zW p l e R s mt args below meth c g Q u nL t m pc lv (.int y :: .int x :: st) := by
  intro H locs cells slots ls hH hS h1 h2 hv
  exact lv_icmp_gt C.1 C.2.1 hdg ht (fun q => kt q H locs cells slots ls hH hS h1 h2 hv) (fun q => kf q H locs cells slots ls hH hS h1 h2 hv)
theorem z_if_le (C : zC p R s mt args meth c g cc nL own h) {x : Int32} {off : Int} {tgt : Nat} (hdg : decode cc pc = .ok (.ifCond .le off, 3)) (ht : (pc : Int) + off = (tgt : Int)) (kt : x ≤ 0 → zW p l e R s mt args below meth c g Q u nL t m tgt lv st) (kf : ¬ x ≤ 0 → zW p l e R s mt args below meth c g Q u nL t m (pc + 3) lv st) : zW p l e R s mt args below meth c g Q u nL t m pc lv (.int x :: st) := by
  intro H locs cells slots ls hH hS h1 h2 hv
  exact lv_if_le C.1 C.2.1 hdg ht (fun q => kt q H locs cells slots ls hH hS h1 h2 hv) (fun q => kf q H locs cells slots ls hH hS h1 h2 hv)
theorem z_icmp_le (C : zC p R s mt args meth c g cc nL own h) {x y : Int32} {off : Int} {tgt : Nat} (hdg : decode cc pc = .ok (.if_icmp .le off, 3)) (ht : (pc : Int) + off = (tgt : Int)) (kt : x ≤ y → zW p l e R s mt args below meth c g Q u nL t m tgt lv st) (kf : ¬ x ≤ y → zW p l e R s mt args below meth c g Q u nL t m (pc + 3) lv st) : zW p l e R s mt args below meth c g Q u nL t m pc lv (.int y :: .int x :: st) := by
  intro H locs cells slots ls hH hS h1 h2 hv
  exact lv_icmp_le C.1 C.2.1 hdg ht (fun q => kt q H locs cells slots ls hH hS h1 h2 hv) (fun q => kf q H locs cells slots ls hH hS h1 h2 hv)
theorem z_ifnull (C : zC p R s mt args meth c g cc nL own h) {x : Nat} {off : Int} {tgt : Nat} (hdg : decode cc pc = .ok (.ifnull off, 3)) (ht : (pc : Int) + off = (tgt : Int)) (kt : x = 0 → zW p l e R s mt args below meth c g Q u nL t m tgt lv st) (kf : ¬ x = 0 → zW p l e R s mt args below meth c g Q u nL t m (pc + 3) lv st) : zW p l e R s mt args below meth c g Q u nL t m pc lv (.ref x :: st) := by
  intro H locs cells slots ls hH hS h1 h2 hv
  show W p l e R s mt args below meth c H locs cells slots Q (F0 mt pc ls (zRf g x :: st.map (zV g)))
  unfold zRf
  by_cases hx : x = 0
  · rw [if_pos hx]
    exact lv_ifnullN C.1 C.2.1 hdg ht (kt hx H locs cells slots ls hH hS h1 h2 hv)
  · rw [if_neg hx]
    exact lv_ifnull C.1 C.2.1 hdg (kf hx H locs cells slots ls hH hS h1 h2 hv)
theorem z_ifnonnull (C : zC p R s mt args meth c g cc nL own h) {x : Nat} {off : Int} {tgt : Nat} (hdg : decode cc pc = .ok (.ifnonnull off, 3)) (ht : (pc : Int) + off = (tgt : Int)) (kt : x = 0 → zW p l e R s mt args below meth c g Q u nL t m (pc + 3) lv st) (kf : ¬ x = 0 → zW p l e R s mt args below meth c g Q u nL t m tgt lv st) : zW p l e R s mt args below meth c g Q u nL t m pc lv (.ref x :: st) := by
  intro H locs cells slots ls hH hS h1 h2 hv
  show W p l e R s mt args below meth c H locs cells slots Q (F0 mt pc ls (zRf g x :: st.map (zV g)))
  unfold zRf
  by_cases hx : x = 0
  · rw [if_pos hx]
    exact lv_ifnonnullN C.1 C.2.1 hdg (kt hx H locs cells slots ls hH hS h1 h2 hv)
  · rw [if_neg hx]
    exact lv_ifnonnull C.1 C.2.1 hdg ht (kf hx H locs cells slots ls hH hS h1 h2 hv)
theorem z_tableOut (C : zC p R s mt args meth c g cc nL own h) {dflt lo hi : Int} {offs : Array Int} {len : Nat} {x : Int32} {tgt : Nat} (hdg : decode cc pc = .ok (.tableswitch dflt lo hi offs, len)) (hx : x.toInt < lo ∨ hi < x.toInt) (ht : (pc : Int) + dflt = (tgt : Int)) (kk : zW p l e R s mt args below meth c g Q u nL t m tgt lv st) : zW p l e R s mt args below meth c g Q u nL t m pc lv (.int x :: st) := by
  intro H locs cells slots ls hH hS h1 h2 hv
  exact lv_tableOut C.1 C.2.1 hdg hx ht (kk H locs cells slots ls hH hS h1 h2 hv)
theorem z_tableIn (C : zC p R s mt args meth c g cc nL own h) {dflt lo hi : Int} {offs : Array Int} {len : Nat} {x : Int32} {off : Int} {tgt : Nat} (hdg : decode cc pc = .ok (.tableswitch dflt lo hi offs, len)) (hx1 : ¬ x.toInt < lo) (hx2 : ¬ hi < x.toInt) (ho : offs[(x.toInt - lo).toNat]? = some off) (ht : (pc : Int) + off = (tgt : Int)) (kk : zW p l e R s mt args below meth c g Q u nL t m tgt lv st) : zW p l e R s mt args below meth c g Q u nL t m pc lv (.int x :: st) := by
  intro H locs cells slots ls hH hS h1 h2 hv
  exact lv_tableIn C.1 C.2.1 hdg hx1 hx2 ho ht (kk H locs cells slots ls hH hS h1 h2 hv)
end ZROWS
