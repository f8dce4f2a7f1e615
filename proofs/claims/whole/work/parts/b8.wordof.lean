/-! The words of the reference: String's own methods over the constants -/
def zMg (g : zG) (l : Launch) (y : MethodName) (cy : ByteArray) (nLy : Nat) (rety : Option FieldType) (h mc ms : Nat) (t : zT) (m : zM) (As : List Value) (P : Option Value → zT → zM → Prop) : Prop := Met l y (.code y cy nLy rety :: zTs) (zRm h mc ms) (va_Pc (As.map (zV g)) (fun U => zH g t m U.heap ∧ zK g U)) (zQc g P) mc ms (zFar g)
def gs (g : zG) (j a : Nat) : zG := (g.1, (fun i => if i = j then a else g.2.1 i), g.2.2)
theorem zK_gs {g : zG} {s : State} {j a : Nat} (hj : 18 ≤ j) (h : zK g s) : zK (gs g j a) s := by
  obtain ⟨h1, h2, ⟨h3, h4⟩, h5, h6⟩ := h
  have e : ∀ i, i < 18 → (gs g j a).2.1 i = g.2.1 i := fun i hi => if_neg (by omega)
  refine ⟨h1, h2, ⟨⟨fun i hi => ?_, fun i k hi hk he => ?_⟩, fun i hi => ?_⟩, h5, h6⟩
  · rw [e i hi]; exact h3.1 i hi
  · rw [e i hi, e k hk] at he; exact h3.2 i k hi hk he
  · rw [e i hi]; exact h4 i hi
theorem zmg {g : zG} {l : Launch} {y : MethodName} {cy : ByteArray} {nLy : Nat} {rety : Option FieldType} {h mc ms : Nat} {t : zT} {m : zM} {As : List Value} {P : Option Value → zT → zM → Prop} (hy : plainName y.cls = true) (hlen : (lg_sl As).length ≤ nLy)
    (body : ∀ (p : Program) (e : Env) (s : State) (mt : MethodId) (args : Array Value) (below : List Frame) (meth : Method) (c : Code), zC p (zRm h mc ms) s mt args meth c g cy nLy y.cls h → meth.sig.returnType = rety → meth.name = y.name → zW p l e (zRm h mc ms) s mt args below meth c g (MQ below (zQc g P) args s mc ms (zFar g)) (0, 0) nLy t m 0 (lv_args 0 As) []) : zMg g l y cy nLy rety h mc ms t m As P := by
  refine Met.ofW (cc := cy) (maxL := nLy) (ret := rety) hy rfl ?_
  intro p e s mt args below meth c s₁ B hml hv
  obtain ⟨rfl, hH, hK⟩ := hv
  have hts := atoms_spec (ws := .code y cy nLy rety :: zTs) B.pre
  have hown : s.vm.findClass y.cls = some mt.cls := findClass_of_methodNamed B.named
  have C : zC p (zRm h mc ms) s mt (As.map (zV g)).toArray meth c g cy nLy y.cls h := ⟨B.exec, B.bytes, hml, hown, fun w hw => hts w (List.mem_cons_of_mem _ hw), hK, B.notSynchronized, Nat.le_refl h, Nat.le_refl _⟩
  have hb := body p e s mt _ below meth c C B.returns (name_of_methodNamed B.named B.method).1
  have hsl : ∀ vs : List Value, (lg_sl (vs.map (zV g))).length = (lg_sl vs).length := by
    intro vs
    induction vs with
    | nil => rfl
    | cons v vs ih =>
      simp only [lg_sl, List.map_cons, List.flatMap_cons, List.length_append, zv_cat] at ih ⊢
      rw [ih]
      split <;> rfl
  have hla : ∀ (vs : List Value) (i : Nat), lv_args i (vs.map (zV g)) = (lv_args i vs).map (fun q => (q.1, zV g q.2)) := by
    intro vs
    induction vs with
    | nil => intro i; rfl
    | cons v vs ih => intro i; simp only [List.map_cons, lv_args, zv_cat, ih]
  have hl := lv_entry (As.map (zV g)) (n := nLy) (by rw [hsl]; exact hlen)
  rw [lg_entry_eq]
  refine hb s.heap [] 0 0 _ hH va_S.rf (Nat.le_refl 0) (Nat.le_refl 0) ?_
  rw [← hla]
  exact hl
theorem wfJ9 : Cond.fieldLink RJ0 9 RJ0 "value" "[B" ∈ zTs := zts_mem (by decide +kernel) rfl
theorem wfJ15 : Cond.fieldLink RJ0 15 RJ0 "coder" "B" ∈ zTs := zts_mem (by decide +kernel) rfl
theorem wfJ38 : Cond.fieldLink RJ0 38 RJ0 "COMPACT_STRINGS" "Z" ∈ zTs := zts_mem (by decide +kernel) rfl
theorem wfJ1053 : Cond.fieldLink RJ0 1053 "jdk/internal/util/Preconditions" "SIOOBE_FORMATTER" "Ljava/util/function/BiFunction;" ∈ zTs := zts_mem (by decide +kernel) rfl
/-- the char at k of constant i -/
def chv (i k : Nat) : Int32 := (((zSb.getD i []).getD k 0 &&& 255).toUInt32 % 65536).toInt32
theorem chv_n : ∀ i, i < 18 → ∀ k, k < zSl.getD i 0 → narrow .char (.int (chv i k)) = .int (chv i k) ∧ chv i k - 97 + 1 = (zSb.getD i []).getD k 0 - 96 := by decide +kernel
theorem sl_n : ∀ i, i < 18 → zSl.getD i 0 ≤ 23 ∧ (zSb.getD i []).length = zSl.getD i 0 ∧ nI (zSl.getD i 0) >>> ((0 : Int32) &&& 31) = nI (zSl.getD i 0) := by decide +kernel
section ZSTR
variable {p : Program} {l : Launch} {e : Env} {R : Room} {s : State} {mt : MethodId} {args : Array Value} {below : List Frame} {meth : Method} {c : Code} {g : zG} {Q : State → Prop} {u : Nat × Nat} {nL : Nat} {t : zT} {m : zM} {pc : Nat} {lv lv2 : List (Nat × Value)} {st rest : List Value} {cc : ByteArray} {own : String} {h i k j a : Nat}
theorem zC_gs (hj : 18 ≤ j) (C : zC p R s mt args meth c g cc nL own h) : zC p R s mt args meth c (gs g j a) cc nL own h := ⟨C.1, C.2.1, C.2.2.1, C.2.2.2.1, C.2.2.2.2.1, zK_gs hj C.2.2.2.2.2.1, C.2.2.2.2.2.2⟩
theorem zW_to (hl : lv.map (fun q => (q.1, zV (gs g j a) q.2)) = lv.map (fun q => (q.1, zV g q.2))) (hs : st.map (zV (gs g j a)) = st.map (zV g)) (kk : zW p l e R s mt args below meth c (gs g j a) Q u nL t m pc lv st) : zW p l e R s mt args below meth c g Q u nL t m pc lv st := by
  intro H locs cells slots ls hH hS h1 h2 hv
  have q := kk H locs cells slots ls hH hS h1 h2 (by rw [hl]; exact hv)
  rw [hs] at q
  exact q
theorem zW_fro (hl : lv.map (fun q => (q.1, zV (gs g j a) q.2)) = lv.map (fun q => (q.1, zV g q.2))) (hs : st.map (zV (gs g j a)) = st.map (zV g)) (kk : zW p l e R s mt args below meth c g Q u nL t m pc lv st) : zW p l e R s mt args below meth c (gs g j a) Q u nL t m pc lv st := by
  intro H locs cells slots ls hH hS h1 h2 hv
  have q := kk H locs cells slots ls hH hS h1 h2 (by rw [← hl]; exact hv)
  rw [hs]
  exact q
theorem z_compact (C : zC p R s mt args meth c g cc nL RJ0 h) (hdg : decode cc pc = .ok (.getstatic 38, 3)) (kk : zW p l e R s mt args below meth c g Q u nL t m (pc + 3) lv (.int 1 :: st)) : zW p l e R s mt args below meth c g Q u nL t m pc lv st := by
  intro H locs cells slots ls hH hS h1 h2 hv
  exact va_gets C.1 C.2.1 (C.2.2.2.2.2.1.2.2.2.1.1 ("java/lang/String", "COMPACT_STRINGS", "Z", .int 1) (by decide)) hS C.2.2.2.1 (C.2.2.2.2.1 _ wfJ38) (fun _ h => h) hdg (kk H locs cells slots ls hH hS h1 h2 hv)
theorem z_coder (C : zC p R s mt args meth c g cc nL RJ0 h) (hi : i < 18) (hdg : decode cc pc = .ok (.getfield 15, 3)) (kk : zW p l e R s mt args below meth c g Q u nL t m (pc + 3) lv (.int 0 :: st)) : zW p l e R s mt args below meth c g Q u nL t m pc lv (.retAddr i :: st) := by
  intro H locs cells slots ls hH hS h1 h2 hv
  exact vk_getf C.1 C.2.1 (C.2.2.2.2.2.1.2.2.1.1.1 i hi).2.1 hS C.2.2.2.1 (C.2.2.2.2.1 _ wfJ15) (fun _ h => h) hdg (kk H locs cells slots ls hH hS h1 h2 hv)
theorem z_value (C : zC p R s mt args meth c g cc nL RJ0 h) (hi : i < 18) (hl : lv.map (fun q => (q.1, zV (gs g 50 (g.2.2.1 i)) q.2)) = lv.map (fun q => (q.1, zV g q.2))) (hs : st.map (zV (gs g 50 (g.2.2.1 i))) = st.map (zV g)) (hdg : decode cc pc = .ok (.getfield 9, 3)) (kk : zW p l e R s mt args below meth c (gs g 50 (g.2.2.1 i)) Q u nL t m (pc + 3) lv (.retAddr 50 :: st)) : zW p l e R s mt args below meth c g Q u nL t m pc lv (.retAddr i :: st) := by
  intro H locs cells slots ls hH hS h1 h2 hv
  refine vk_getf C.1 C.2.1 (C.2.2.2.2.2.1.2.2.1.1.1 i hi).2.2.1 hS C.2.2.2.1 (C.2.2.2.2.1 _ wfJ9) (fun _ h => h) hdg ?_
  have q := kk H locs cells slots ls hH hS h1 h2 (by rw [hl]; exact hv)
  rw [List.map_cons, hs] at q
  exact q
theorem z_tlen (C : zC p R s mt args meth c g cc nL own h) (hi : i < 18) (hg : g.2.1 50 = g.2.2.1 i) (hdg : decode cc pc = .ok (.arraylength, 1)) (kk : zW p l e R s mt args below meth c g Q u nL t m (pc + 1) lv (.int (nI (zSl.getD i 0)) :: st)) : zW p l e R s mt args below meth c g Q u nL t m pc lv (.retAddr 50 :: st) := by
  intro H locs cells slots ls hH hS h1 h2 hv
  have e0 : zV g (.retAddr 50) = .ref (g.2.2.1 i) := by show Value.ref (g.2.1 50) = _; rw [hg]
  rw [List.map_cons, e0]
  exact va_tlen C.1 C.2.1 (C.2.2.2.2.2.1.2.2.1.1.1 i hi).2.2.2 hS rfl hdg (kk H locs cells slots ls hH hS h1 h2 hv)
theorem z_tb (C : zC p R s mt args meth c g cc nL own h) (hi : i < 18) (hg : g.2.1 50 = g.2.2.1 i) (hk : k < zSl.getD i 0) (hdg : decode cc pc = .ok (.baload, 1)) (kk : zW p l e R s mt args below meth c g Q u nL t m (pc + 1) lv (.int ((zSb.getD i []).getD k 0) :: st)) : zW p l e R s mt args below meth c g Q u nL t m pc lv (.int (nI k) :: .retAddr 50 :: st) := by
  have b := sl_n i hi
  intro H locs cells slots ls hH hS h1 h2 hv
  have e0 : zV g (.retAddr 50) = .ref (g.2.2.1 i) := by show Value.ref (g.2.1 50) = _; rw [hg]
  rw [List.map_cons, List.map_cons, e0]
  refine va_tb C.1 C.2.1 (C.2.2.2.2.2.1.2.2.1.1.1 i hi).2.2.2 hS (vp_in_nI hk (by omega)) (v := .int ((zSb.getD i []).getD k 0)) ?_ hdg (kk H locs cells slots ls hH hS h1 h2 hv)
  show Value.int ((zSb.getD i []).getD (nI k).toNatClampNeg 0) = _
  rw [nI_clamp (by omega)]
theorem z_nret (C : zC p R s mt args meth c g cc nL own h) {P : Option Value → zT → zM → Prop} {x : Int32} {mc ms : Nat} {ty : FieldType} (hr : meth.sig.returnType = some ty) (hn : narrow ty (.int x) = .int x) (hu1 : u.1 ≤ mc) (hu2 : u.2 ≤ ms) (hdg : decode cc pc = .ok (.ireturn, 1)) (hP : P (some (.int x)) t m) : zW p l e R s mt args below meth c g (MQ below (zQc g P) args s mc ms (zFar g)) u nL t m pc lv [.int x] := by
  intro H locs cells slots ls hH hS h1 h2 hv
  refine W.widen (k := mc) (n := ms) (by omega) (by omega) ?_
  exact W.zret (v := x) (ty := ty) C.1 C.2.1 hr hn (fun tt ht hW => ⟨⟨_, t, m, rfl, hP, by rw [ht]; exact hH⟩, hS.F ht⟩) hS.2.2 hdg C.2.2.2.2.2.2.1
theorem z_callSg (C : zC p R s mt args meth c g cc nL own h) {y : MethodName} {cy : ByteArray} {nLy n idx : Nat} {rety : Option FieldType} (Y : zYS y cy nLy rety n) (L : Cond.methodLink own idx y ∈ zTs) {h2 mc ms : Nat} {As : List Value} {P : Option Value → zT → zM → Prop} (hM : zMg g l y cy nLy rety h2 mc ms t m As P) (hh : h2 + 1 ≤ h) (hdg : decode cc pc = .ok (.invokestatic idx, 3)) (hn : As.length = n) (hu1 : u.1 + mc ≤ R.cells) (hu2 : u.2 + ms ≤ R.slots) (hw : (rest.map fun v => v.category).sum ≤ 8) (hst : st = As.reverse ++ rest) (kk : ∀ (v : Option Value) (t' : zT) (m' : zM), P v t' m' → zW p l e R s mt args below meth c g Q (u.1 + mc, u.2 + ms) nL t' m' (pc + 3) lv (v.toList ++ rest)) : zW p l e R s mt args below meth c g Q u nL t m pc lv st := by
  intro H locs cells slots ls hH hS h1 h2' hv
  have hR : (zRm h2 mc ms).frames + 1 ≤ R.frames ∧ 8 + (nLy + 11) + (zRm h2 mc ms).locals ≤ R.locals := by
    have := C.2.2.2.2.2.2.2.1; have := C.2.2.2.2.2.2.2.2; have := Y.2.2.2.2
    constructor
    · show h2 + 1 ≤ R.frames; omega
    · show 8 + (nLy + 11) + 31 * h2 ≤ R.locals; omega
  subst hst
  have e9 : (As.reverse ++ rest).map (zV g) = (As.map (zV g)).reverse ++ rest.map (zV g) := by
    rw [List.map_append, List.map_reverse]
  rw [e9]
  refine z_after (P := P) (va_runS (As := As.map (zV g)) (rest := rest.map (zV g)) ⟨C.1, C.2.1, C.2.2.1, C.2.2.2.1, C.2.2.2.2.1⟩ hM ⟨callB_of n C.2.2.2.2.1 (zgood Y.2.2.1) rfl rfl rfl (C.2.2.2.2.1 _ Y.2.1) (C.2.2.2.2.1 _ L) Y.2.2.2.1 hR, C.2.2.2.2.1 _ Y.1⟩ ⟨zblind, zpre C rfl hH hS⟩ rfl (by rw [List.length_map]; exact hn) hv.1 rfl (z_words hw) hdg ⟨by omega, by omega⟩) hS fun v t' m' H1 locs1 hP hH1 hS1 => ?_
  have hk9 := kk v t' m' hP H1 locs1 (cells + mc) (slots + ms) ls hH1 hS1 (Nat.add_le_add_right h1 mc) (Nat.add_le_add_right h2' ms) hv
  rw [List.map_append] at hk9
  cases v with
  | none => exact hk9
  | some v => exact hk9
theorem z_callVs (C : zC p R s mt args meth c g cc nL own h) {y : MethodName} {cy : ByteArray} {nLy n idx : Nat} {rety : Option FieldType} (Y : zYV y RJ0 cy nLy rety n) (L : Cond.methodLink own idx y ∈ zTs) {h2 mc ms : Nat} {As : List Value} {P : Option Value → zT → zM → Prop} (hi : i < 18) (hM : zMet l y cy nLy rety h2 mc ms t m (.retAddr i :: As) P) (hh : h2 + 1 ≤ h) (hdg : decode cc pc = .ok (.invokevirtual idx, 3)) (hn : As.length = n) (hu1 : u.1 + mc ≤ R.cells) (hu2 : u.2 + ms ≤ R.slots) (hw : (rest.map fun v => v.category).sum ≤ 8) (hst : st = As.reverse ++ .retAddr i :: rest) (kk : ∀ (v : Option Value) (t' : zT) (m' : zM), P v t' m' → zW p l e R s mt args below meth c g Q (u.1 + mc, u.2 + ms) nL t' m' (pc + 3) lv (v.toList ++ rest)) : zW p l e R s mt args below meth c g Q u nL t m pc lv st := by
  intro H locs cells slots ls hH hS h1 h2' hv
  have hrec := vk_recv C.2.2.2.2.2.1.2.2.1.1 hi hS
  have hR : (zRm h2 mc ms).frames + 1 ≤ R.frames ∧ 8 + (nLy + 11) + (zRm h2 mc ms).locals ≤ R.locals := by
    have := C.2.2.2.2.2.2.2.1; have := C.2.2.2.2.2.2.2.2; have := Y.2.2.2.2.2
    constructor
    · show h2 + 1 ≤ R.frames; omega
    · show 8 + (nLy + 11) + 31 * h2 ≤ R.locals; omega
  subst hst
  have e9 : (As.reverse ++ .retAddr i :: rest).map (zV g) = (As.map (zV g)).reverse ++ .ref (g.2.1 i) :: rest.map (zV g) := by
    rw [List.map_append, List.map_reverse, List.map_cons]
    rfl
  rw [e9]
  refine z_after (P := P) (va_runV (As := As.map (zV g)) (rest := rest.map (zV g)) ⟨C.1, C.2.1, C.2.2.1, C.2.2.2.1, C.2.2.2.2.1⟩ (hM g) ⟨callB_of n C.2.2.2.2.1 (zgood Y.2.2.2.1) rfl rfl rfl (by rw [Y.2.2.2.2.1.1]; exact C.2.2.2.2.1 _ Y.2.2.1) (C.2.2.2.2.1 _ L) Y.2.2.2.2.1.2 hR, C.2.2.2.2.1 _ Y.1, C.2.2.2.2.1 _ Y.2.1⟩ ⟨zblind, hrec, zpre C rfl hH hS⟩ rfl (by rw [List.length_map]; exact hn) hv.1 rfl (z_words hw) hdg ⟨by omega, by omega⟩) hS fun v t' m' H1 locs1 hP hH1 hS1 => ?_
  have hk9 := kk v t' m' hP H1 locs1 (cells + mc) (slots + ms) ls hH1 hS1 (Nat.add_le_add_right h1 mc) (Nat.add_le_add_right h2' ms) hv
  rw [List.map_append] at hk9
  cases v with
  | none => exact hk9
  | some v => exact hk9
end ZSTR
