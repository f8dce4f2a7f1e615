def zWord (k : Nat) : Int64 := (zSb.getD k []).foldl (fun v b => 32 * v + (b - 96).toInt64) 0
/-! The words of the reference: String's own methods over the constants -/
def zMg (g : zG) (l : Launch) (y : MethodName) (cy : ByteArray) (nLy : Nat) (rety : Option FieldType) (h mc ms : Nat) (t : zT) (m : zM) (As : List Value) (P : Option Value → zT → zM → Prop) : Prop := Met l y (.code y cy nLy rety :: zTs) (zRm h mc ms) (va_Pc (As.map (zV g)) (fun U => zH g t m U.heap ∧ zK g U)) (zQc g P) mc ms (zFar g)
def gs (g : zG) (j a : Nat) : zG := (g.1, (fun i => if i = j then a else g.2.1 i), g.2.2)
theorem zK_gs {g : zG} {s : State} {j a : Nat} (hj : 18 ≤ j) (h : zK g s) : zK (gs g j a) s := by
  obtain ⟨h1, h2, ⟨h3, h4⟩, h5, h6⟩ := h
  have e : ∀ i, i < 18 → (gs g j a).2.1 i = g.2.1 i := fun i hi => if_neg (by omega)
  refine ⟨h1, h2, ⟨⟨fun i hi => ?_, fun i k hi hk he => ?_⟩, fun i hi => ?_⟩, h5, h6⟩
  · rw [e i hi]; exact h3.1 i hi
  · rw [e i hi, e k hk] at he; exact h3.2 i k hi hk he
  · rw [e i hi]; exact h4 i hi
theorem zmg {g : zG} {l : Launch} {y : MethodName} {cy : ByteArray} {nLy : Nat} {rety : Option FieldType} {h mc ms : Nat} {t : zT} {m : zM} {As : List Value} {P : Option Value → zT → zM → Prop} (hy : plainName y.cls = true) (hlen : (lg_sl As).length ≤ nLy)
    (body : ∀ (p : Program) (e : Env) (s : State) (mt : MethodId) (args : Array Value) (below : List Frame) (meth : Method) (c : Code), zC p (zRm h mc ms) s mt args meth c g cy nLy y.cls h → meth.sig.returnType = rety → meth.name = y.name → zW p l e (zRm h mc ms) s mt args below meth c g (MQ below (zQc g P) args s mc ms (zFar g)) (0, 0) nLy t m 0 (lv_args 0 As) []) : zMg g l y cy nLy rety h mc ms t m As P := by
  refine Met.ofW (cc := cy) (maxL := nLy) (ret := rety) hy rfl ?_
  intro p e s mt args below meth c s₁ B hml hv
  obtain ⟨rfl, hH, hK⟩ := hv
  have hts := atoms_spec (ws := .code y cy nLy rety :: zTs) B.pre
  have hown : s.vm.findClass y.cls = some mt.cls := findClass_of_methodNamed B.named
  have C : zC p (zRm h mc ms) s mt (As.map (zV g)).toArray meth c g cy nLy y.cls h := ⟨B.exec, B.bytes, hml, hown, fun w hw => hts w (List.mem_cons_of_mem _ hw), hK, B.notSynchronized, Nat.le_refl h, Nat.le_refl _⟩
  have hb := body p e s mt _ below meth c C B.returns (name_of_methodNamed B.named B.method).1
  have hsl : ∀ vs : List Value, (lg_sl (vs.map (zV g))).length = (lg_sl vs).length := by
    intro vs
    induction vs with
    | nil => rfl
    | cons v vs ih =>
      simp only [lg_sl, List.map_cons, List.flatMap_cons, List.length_append, zv_cat] at ih ⊢
      rw [ih]
      split <;> rfl
  have hla : ∀ (vs : List Value) (i : Nat), lv_args i (vs.map (zV g)) = (lv_args i vs).map (fun q => (q.1, zV g q.2)) := by
    intro vs
    induction vs with
    | nil => intro i; rfl
    | cons v vs ih => intro i; simp only [List.map_cons, lv_args, zv_cat, ih]
  have hl := lv_entry (As.map (zV g)) (n := nLy) (by rw [hsl]; exact hlen)
  rw [lg_entry_eq]
  refine hb s.heap [] 0 0 _ hH va_S.rf (Nat.le_refl 0) (Nat.le_refl 0) ?_
  rw [← hla]
  exact hl
theorem wfJ9 : Cond.fieldLink RJ0 9 RJ0 "value" "[B" ∈ zTs := zts_mem (by decide +kernel) rfl
theorem wfJ15 : Cond.fieldLink RJ0 15 RJ0 "coder" "B" ∈ zTs := zts_mem (by decide +kernel) rfl
theorem wfJ38 : Cond.fieldLink RJ0 38 RJ0 "COMPACT_STRINGS" "Z" ∈ zTs := zts_mem (by decide +kernel) rfl
theorem wfJ1053 : Cond.fieldLink RJ0 1053 "jdk/internal/util/Preconditions" "SIOOBE_FORMATTER" "Ljava/util/function/BiFunction;" ∈ zTs := zts_mem (by decide +kernel) rfl
/-- the char at k of constant i -/
def chv (i k : Nat) : Int32 := (((zSb.getD i []).getD k 0 &&& 255).toUInt32 % 65536).toInt32
theorem chv_n : ∀ i, i < 18 → ∀ k, k < zSl.getD i 0 → narrow .char (.int (chv i k)) = .int (chv i k) ∧ chv i k - 97 + 1 = (zSb.getD i []).getD k 0 - 96 := by decide +kernel
theorem sl_n : ∀ i, i < 18 → zSl.getD i 0 ≤ 23 ∧ (zSb.getD i []).length = zSl.getD i 0 ∧ nI (zSl.getD i 0) >>> ((0 : Int32) &&& 31) = nI (zSl.getD i 0) := by decide +kernel
section ZSTR
variable {p : Program} {l : Launch} {e : Env} {R : Room} {s : State} {mt : MethodId} {args : Array Value} {below : List Frame} {meth : Method} {c : Code} {g : zG} {Q : State → Prop} {u : Nat × Nat} {nL : Nat} {t : zT} {m : zM} {pc : Nat} {lv lv2 : List (Nat × Value)} {st rest : List Value} {cc : ByteArray} {own : String} {h i k j a : Nat}
theorem zC_gs (hj : 18 ≤ j) (C : zC p R s mt args meth c g cc nL own h) : zC p R s mt args meth c (gs g j a) cc nL own h := ⟨C.1, C.2.1, C.2.2.1, C.2.2.2.1, C.2.2.2.2.1, zK_gs hj C.2.2.2.2.2.1, C.2.2.2.2.2.2⟩
theorem zW_to (hl : lv.map (fun q => (q.1, zV (gs g j a) q.2)) = lv.map (fun q => (q.1, zV g q.2))) (hs : st.map (zV (gs g j a)) = st.map (zV g)) (kk : zW p l e R s mt args below meth c (gs g j a) Q u nL t m pc lv st) : zW p l e R s mt args below meth c g Q u nL t m pc lv st := by
  intro H locs cells slots ls hH hS h1 h2 hv
  have q := kk H locs cells slots ls hH hS h1 h2 (by rw [hl]; exact hv)
  rw [hs] at q
  exact q
theorem zW_fro (hl : lv.map (fun q => (q.1, zV (gs g j a) q.2)) = lv.map (fun q => (q.1, zV g q.2))) (hs : st.map (zV (gs g j a)) = st.map (zV g)) (kk : zW p l e R s mt args below meth c g Q u nL t m pc lv st) : zW p l e R s mt args below meth c (gs g j a) Q u nL t m pc lv st := by
  intro H locs cells slots ls hH hS h1 h2 hv
  have q := kk H locs cells slots ls hH hS h1 h2 (by rw [← hl]; exact hv)
  rw [hs]
  exact q
theorem z_compact (C : zC p R s mt args meth c g cc nL RJ0 h) (hdg : decode cc pc = .ok (.getstatic 38, 3)) (kk : zW p l e R s mt args below meth c g Q u nL t m (pc + 3) lv (.int 1 :: st)) : zW p l e R s mt args below meth c g Q u nL t m pc lv st := by
  intro H locs cells slots ls hH hS h1 h2 hv
  exact va_gets C.1 C.2.1 (C.2.2.2.2.2.1.2.2.2.1.1 ("java/lang/String", "COMPACT_STRINGS", "Z", .int 1) (by decide)) hS C.2.2.2.1 (C.2.2.2.2.1 _ wfJ38) (fun _ h => h) hdg (kk H locs cells slots ls hH hS h1 h2 hv)
theorem z_coder (C : zC p R s mt args meth c g cc nL RJ0 h) (hi : i < 18) (hdg : decode cc pc = .ok (.getfield 15, 3)) (kk : zW p l e R s mt args below meth c g Q u nL t m (pc + 3) lv (.int 0 :: st)) : zW p l e R s mt args below meth c g Q u nL t m pc lv (.retAddr i :: st) := by
  intro H locs cells slots ls hH hS h1 h2 hv
  exact vk_getf C.1 C.2.1 (C.2.2.2.2.2.1.2.2.1.1.1 i hi).2.1 hS C.2.2.2.1 (C.2.2.2.2.1 _ wfJ15) (fun _ h => h) hdg (kk H locs cells slots ls hH hS h1 h2 hv)
theorem z_value (C : zC p R s mt args meth c g cc nL RJ0 h) (hi : i < 18) (hl : lv.map (fun q => (q.1, zV (gs g 50 (g.2.2.1 i)) q.2)) = lv.map (fun q => (q.1, zV g q.2))) (hs : st.map (zV (gs g 50 (g.2.2.1 i))) = st.map (zV g)) (hdg : decode cc pc = .ok (.getfield 9, 3)) (kk : zW p l e R s mt args below meth c (gs g 50 (g.2.2.1 i)) Q u nL t m (pc + 3) lv (.retAddr 50 :: st)) : zW p l e R s mt args below meth c g Q u nL t m pc lv (.retAddr i :: st) := by
  intro H locs cells slots ls hH hS h1 h2 hv
  refine vk_getf C.1 C.2.1 (C.2.2.2.2.2.1.2.2.1.1.1 i hi).2.2.1 hS C.2.2.2.1 (C.2.2.2.2.1 _ wfJ9) (fun _ h => h) hdg ?_
  have q := kk H locs cells slots ls hH hS h1 h2 (by rw [hl]; exact hv)
  rw [List.map_cons, hs] at q
  exact q
theorem z_tlen (C : zC p R s mt args meth c g cc nL own h) (hi : i < 18) (hg : g.2.1 50 = g.2.2.1 i) (hdg : decode cc pc = .ok (.arraylength, 1)) (kk : zW p l e R s mt args below meth c g Q u nL t m (pc + 1) lv (.int (nI (zSl.getD i 0)) :: st)) : zW p l e R s mt args below meth c g Q u nL t m pc lv (.retAddr 50 :: st) := by
  intro H locs cells slots ls hH hS h1 h2 hv
  have e0 : zV g (.retAddr 50) = .ref (g.2.2.1 i) := by show Value.ref (g.2.1 50) = _; rw [hg]
  rw [List.map_cons, e0]
  exact va_tlen C.1 C.2.1 (C.2.2.2.2.2.1.2.2.1.1.1 i hi).2.2.2 hS rfl hdg (kk H locs cells slots ls hH hS h1 h2 hv)
theorem z_tb (C : zC p R s mt args meth c g cc nL own h) (hi : i < 18) (hg : g.2.1 50 = g.2.2.1 i) (hk : k < zSl.getD i 0) (hdg : decode cc pc = .ok (.baload, 1)) (kk : zW p l e R s mt args below meth c g Q u nL t m (pc + 1) lv (.int ((zSb.getD i []).getD k 0) :: st)) : zW p l e R s mt args below meth c g Q u nL t m pc lv (.int (nI k) :: .retAddr 50 :: st) := by
  have b := sl_n i hi
  intro H locs cells slots ls hH hS h1 h2 hv
  have e0 : zV g (.retAddr 50) = .ref (g.2.2.1 i) := by show Value.ref (g.2.1 50) = _; rw [hg]
  rw [List.map_cons, List.map_cons, e0]
  refine va_tb C.1 C.2.1 (C.2.2.2.2.2.1.2.2.1.1.1 i hi).2.2.2 hS (vp_in_nI hk (by omega)) (v := .int ((zSb.getD i []).getD k 0)) ?_ hdg (kk H locs cells slots ls hH hS h1 h2 hv)
  show Value.int ((zSb.getD i []).getD (nI k).toNatClampNeg 0) = _
  rw [nI_clamp (by omega)]
theorem z_nret (C : zC p R s mt args meth c g cc nL own h) {P : Option Value → zT → zM → Prop} {x : Int32} {mc ms : Nat} {ty : FieldType} (hr : meth.sig.returnType = some ty) (hn : narrow ty (.int x) = .int x) (hu1 : u.1 ≤ mc) (hu2 : u.2 ≤ ms) (hdg : decode cc pc = .ok (.ireturn, 1)) (hP : P (some (.int x)) t m) : zW p l e R s mt args below meth c g (MQ below (zQc g P) args s mc ms (zFar g)) u nL t m pc lv [.int x] := by
  intro H locs cells slots ls hH hS h1 h2 hv
  refine W.widen (k := mc) (n := ms) (by omega) (by omega) ?_
  exact W.zret (v := x) (ty := ty) C.1 C.2.1 hr hn (fun tt ht hW => ⟨⟨_, t, m, rfl, hP, by rw [ht]; exact hH⟩, hS.F ht⟩) hS.2.2 hdg C.2.2.2.2.2.2.1
theorem z_callSg (C : zC p R s mt args meth c g cc nL own h) {y : MethodName} {cy : ByteArray} {nLy n idx : Nat} {rety : Option FieldType} (Y : zYS y cy nLy rety n) (L : Cond.methodLink own idx y ∈ zTs) {h2 mc ms : Nat} {As : List Value} {P : Option Value → zT → zM → Prop} (hM : zMg g l y cy nLy rety h2 mc ms t m As P) (hh : h2 + 1 ≤ h) (hdg : decode cc pc = .ok (.invokestatic idx, 3)) (hn : As.length = n) (hu1 : u.1 + mc ≤ R.cells) (hu2 : u.2 + ms ≤ R.slots) (hw : (rest.map fun v => v.category).sum ≤ 8) (hst : st = As.reverse ++ rest) (kk : ∀ (v : Option Value) (t' : zT) (m' : zM), P v t' m' → zW p l e R s mt args below meth c g Q (u.1 + mc, u.2 + ms) nL t' m' (pc + 3) lv (v.toList ++ rest)) : zW p l e R s mt args below meth c g Q u nL t m pc lv st := by
  intro H locs cells slots ls hH hS h1 h2' hv
  have hR : (zRm h2 mc ms).frames + 1 ≤ R.frames ∧ 8 + (nLy + 11) + (zRm h2 mc ms).locals ≤ R.locals := by
    have := C.2.2.2.2.2.2.2.1; have := C.2.2.2.2.2.2.2.2; have := Y.2.2.2.2
    constructor
    · show h2 + 1 ≤ R.frames; omega
    · show 8 + (nLy + 11) + 31 * h2 ≤ R.locals; omega
  subst hst
  have e9 : (As.reverse ++ rest).map (zV g) = (As.map (zV g)).reverse ++ rest.map (zV g) := by
    rw [List.map_append, List.map_reverse]
  rw [e9]
  refine z_after (P := P) (va_runS (As := As.map (zV g)) (rest := rest.map (zV g)) ⟨C.1, C.2.1, C.2.2.1, C.2.2.2.1, C.2.2.2.2.1⟩ hM ⟨callB_of n C.2.2.2.2.1 (zgood Y.2.2.1) rfl rfl rfl (C.2.2.2.2.1 _ Y.2.1) (C.2.2.2.2.1 _ L) Y.2.2.2.1 hR, C.2.2.2.2.1 _ Y.1⟩ ⟨zblind, zpre C rfl hH hS⟩ rfl (by rw [List.length_map]; exact hn) hv.1 rfl (z_words hw) hdg ⟨by omega, by omega⟩) hS fun v t' m' H1 locs1 hP hH1 hS1 => ?_
  have hk9 := kk v t' m' hP H1 locs1 (cells + mc) (slots + ms) ls hH1 hS1 (Nat.add_le_add_right h1 mc) (Nat.add_le_add_right h2' ms) hv
  rw [List.map_append] at hk9
  cases v with
  | none => exact hk9
  | some v => exact hk9
theorem z_callVs (C : zC p R s mt args meth c g cc nL own h) {y : MethodName} {cy : ByteArray} {nLy n idx : Nat} {rety : Option FieldType} (Y : zYV y RJ0 cy nLy rety n) (L : Cond.methodLink own idx y ∈ zTs) {h2 mc ms : Nat} {As : List Value} {P : Option Value → zT → zM → Prop} (hi : i < 18) (hM : zMet l y cy nLy rety h2 mc ms t m (.retAddr i :: As) P) (hh : h2 + 1 ≤ h) (hdg : decode cc pc = .ok (.invokevirtual idx, 3)) (hn : As.length = n) (hu1 : u.1 + mc ≤ R.cells) (hu2 : u.2 + ms ≤ R.slots) (hw : (rest.map fun v => v.category).sum ≤ 8) (hst : st = As.reverse ++ .retAddr i :: rest) (kk : ∀ (v : Option Value) (t' : zT) (m' : zM), P v t' m' → zW p l e R s mt args below meth c g Q (u.1 + mc, u.2 + ms) nL t' m' (pc + 3) lv (v.toList ++ rest)) : zW p l e R s mt args below meth c g Q u nL t m pc lv st := by
  intro H locs cells slots ls hH hS h1 h2' hv
  have hrec := vk_recv C.2.2.2.2.2.1.2.2.1.1 hi hS
  have hR : (zRm h2 mc ms).frames + 1 ≤ R.frames ∧ 8 + (nLy + 11) + (zRm h2 mc ms).locals ≤ R.locals := by
    have := C.2.2.2.2.2.2.2.1; have := C.2.2.2.2.2.2.2.2; have := Y.2.2.2.2.2
    constructor
    · show h2 + 1 ≤ R.frames; omega
    · show 8 + (nLy + 11) + 31 * h2 ≤ R.locals; omega
  subst hst
  have e9 : (As.reverse ++ .retAddr i :: rest).map (zV g) = (As.map (zV g)).reverse ++ .ref (g.2.1 i) :: rest.map (zV g) := by
    rw [List.map_append, List.map_reverse, List.map_cons]
    rfl
  rw [e9]
  refine z_after (P := P) (va_runV (As := As.map (zV g)) (rest := rest.map (zV g)) ⟨C.1, C.2.1, C.2.2.1, C.2.2.2.1, C.2.2.2.2.1⟩ (hM g) ⟨callB_of n C.2.2.2.2.1 (zgood Y.2.2.2.1) rfl rfl rfl (by rw [Y.2.2.2.2.1.1]; exact C.2.2.2.2.1 _ Y.2.2.1) (C.2.2.2.2.1 _ L) Y.2.2.2.2.1.2 hR, C.2.2.2.2.1 _ Y.1, C.2.2.2.2.1 _ Y.2.1⟩ ⟨zblind, hrec, zpre C rfl hH hS⟩ rfl (by rw [List.length_map]; exact hn) hv.1 rfl (z_words hw) hdg ⟨by omega, by omega⟩) hS fun v t' m' H1 locs1 hP hH1 hS1 => ?_
  have hk9 := kk v t' m' hP H1 locs1 (cells + mc) (slots + ms) ls hH1 hS1 (Nat.add_le_add_right h1 mc) (Nat.add_le_add_right h2' ms) hv
  rw [List.map_append] at hk9
  cases v with
  | none => exact hk9
  | some v => exact hk9
end ZSTR
theorem ni24 : ∀ n, n < 24 → ∀ k, k < 24 → ((nI n ≤ nI k) ↔ n ≤ k) ∧ ¬ (nI k < 0) ∧ ((nI k < nI n) ↔ k < n) ∧ nI k + Int32.ofInt 1 = nI (k + 1) := by decide +kernel
theorem gs50 (g : zG) (a : Nat) : (gs g 50 a).2.1 50 = a := by show (if (50 : Nat) = 50 then a else g.2.1 50) = a; exact if_pos rfl
section ZSTQ
variable {p : Program} {l : Launch} {e : Env} {R : Room} {s : State} {mt : MethodId} {args : Array Value} {below : List Frame} {meth : Method} {c : Code} {g : zG} {Q : State → Prop} {u : Nat × Nat} {nL : Nat} {t : zT} {m : zM} {pc : Nat} {lv lv2 : List (Nat × Value)} {st rest : List Value} {cc : ByteArray} {own : String} {h i k j a : Nat}
theorem z_getsQ (C : zC p R s mt args meth c g cc nL RJ0 h) (hl : ∀ a, lv.map (fun q => (q.1, zV (gs g 51 a) q.2)) = lv.map (fun q => (q.1, zV g q.2))) (hs : ∀ a, st.map (zV (gs g 51 a)) = st.map (zV g)) (hdg : decode cc pc = .ok (.getstatic 1053, 3)) (k0 : zW p l e R s mt args below meth c g Q u nL t m (pc + 3) lv (.ref 0 :: st)) (k1 : ∀ a, zW p l e R s mt args below meth c (gs g 51 a) Q u nL t m (pc + 3) lv (.retAddr 51 :: st)) : zW p l e R s mt args below meth c g Q u nL t m pc lv st := by
  intro H locs cells slots ls hH hS h1 h2 hv
  rcases C.2.2.2.2.2.1.2.2.2.1.2 ("jdk/internal/util/Preconditions", "SIOOBE_FORMATTER", "Ljava/util/function/BiFunction;") (by decide) with hz | ⟨a, hz⟩
  · exact va_gets C.1 C.2.1 hz hS C.2.2.2.1 (C.2.2.2.2.1 _ wfJ1053) (fun _ h => h) hdg (k0 H locs cells slots ls hH hS h1 h2 hv)
  · refine va_gets C.1 C.2.1 hz hS C.2.2.2.1 (C.2.2.2.2.1 _ wfJ1053) (fun _ h => h) hdg ?_
    have q := k1 a H locs cells slots ls hH hS h1 h2 (by rw [hl]; exact hv)
    rw [List.map_cons, hs] at q
    exact q
end ZSTQ
def pV (v : Option Value) (t : zT) (m : zM) : Option Value → zT → zM → Prop := fun r t' m' => r = v ∧ t' = t ∧ m' = m
section KSTR
variable {l : Launch} {t : zT} {m : zM} {i k : Nat}
theorem kJ3_checkIndex {x y : Int32} {v : Value} (hv : v.category = 1) (h0 : ¬ x < 0) (h1 : x < y) : zMet l yJ3_checkIndex_8e157 cJ3_checkIndex_8e157 3 (some .int) 0 0 0 t m [.int x, .int y, v] (pV (some (.int x)) t m) := by
  refine zmet (by decide +kernel) (by simp only [lg_sl, List.flatMap_cons, List.flatMap_nil, List.length_append, hv]; exact Nat.le_of_ble_eq_true rfl) ?_
  intro p e s mt args below meth c g C hr hm
  refine z_iload_n (pc := 0) C (dJ3_checkIndex_8e157 0 rfl) rfl 0 rfl ?_
  refine z_if_lt (pc := 1) (tgt := 9) C (dJ3_checkIndex_8e157 1 rfl) rfl (fun q => absurd q h0) (fun _ => ?_)
  refine z_iload_n (pc := 4) C (dJ3_checkIndex_8e157 2 rfl) rfl 0 rfl ?_
  refine z_iload_n (pc := 5) C (dJ3_checkIndex_8e157 3 rfl) rfl 1 rfl ?_
  refine z_icmp_lt (pc := 6) (tgt := 16) C (dJ3_checkIndex_8e157 4 rfl) rfl (fun _ => ?_) (fun q => absurd h1 q)
  refine z_iload_n (pc := 16) C (dJ3_checkIndex_8e157 10 rfl) rfl 0 rfl ?_
  exact z_iret (pc := 17) C hr (Nat.le_refl _) (Nat.le_refl _) (dJ3_checkIndex_8e157 11 rfl) ⟨rfl, rfl, rfl⟩
theorem kJ0_checkIndex {x y : Int32} (h0 : ¬ x < 0) (h1 : x < y) : zMet l yJ0_checkIndex_df160 cJ0_checkIndex_df160 2 none 1 0 0 t m [.int x, .int y] (pV none t m) := by
  refine zmet (by decide +kernel) (Nat.le_of_ble_eq_true rfl) ?_
  intro p e s mt args below meth c g C hr hm
  refine z_iload_n (pc := 0) C (dJ0_checkIndex_df160 0 rfl) rfl 0 rfl ?_
  refine z_iload_n (pc := 1) C (dJ0_checkIndex_df160 1 rfl) rfl 1 rfl ?_
  refine z_getsQ (pc := 2) C (fun _ => rfl) (fun _ => rfl) (dJ0_checkIndex_df160 2 rfl) ?_ (fun a => ?_)
  · refine z_callS (pc := 5) (rest := []) C YJ3_checkIndex_8e157 wl_J0_1059 (kJ3_checkIndex (v := .ref 0) rfl h0 h1) (Nat.le_refl _) (dJ0_checkIndex_df160 3 rfl) rfl (Nat.le_refl _) (Nat.le_refl _) (Nat.le_of_ble_eq_true rfl) rfl (fun v t' m' hP => ?_)
    obtain ⟨rfl, rfl, rfl⟩ := hP
    refine z_pop (pc := 8) C (dJ0_checkIndex_df160 4 rfl) rfl ?_
    exact z_vret (pc := 9) C hr (Nat.le_refl _) (Nat.le_refl _) (dJ0_checkIndex_df160 5 rfl) ⟨rfl, rfl, rfl⟩
  · refine z_callS (pc := 5) (rest := []) (zC_gs (by decide) C) YJ3_checkIndex_8e157 wl_J0_1059 (kJ3_checkIndex (v := .retAddr 51) rfl h0 h1) (Nat.le_refl _) (dJ0_checkIndex_df160 3 rfl) rfl (Nat.le_refl _) (Nat.le_refl _) (Nat.le_of_ble_eq_true rfl) rfl (fun v t' m' hP => ?_)
    obtain ⟨rfl, rfl, rfl⟩ := hP
    refine zW_fro rfl rfl ?_
    refine z_pop (pc := 8) C (dJ0_checkIndex_df160 4 rfl) rfl ?_
    exact z_vret (pc := 9) C hr (Nat.le_refl _) (Nat.le_refl _) (dJ0_checkIndex_df160 5 rfl) ⟨rfl, rfl, rfl⟩
theorem kJ1_charAt {g : zG} (hi : i < 18) (hk : k < zSl.getD i 0) (hg : g.2.1 50 = g.2.2.1 i) : zMg g l yJ1_charAt_3b067 cJ1_charAt_3b067 2 (some .char) 2 0 0 t m [.retAddr 50, .int (nI k)] (pV (some (.int (chv i k))) t m) := by
  have b := sl_n i hi
  have q := ni24 (zSl.getD i 0) (by omega) k (by omega)
  refine zmg (by decide +kernel) (Nat.le_of_ble_eq_true rfl) ?_
  intro p e s mt args below meth c C hr hm
  refine z_iload_n (pc := 0) C (dJ1_charAt_3b067 0 rfl) rfl 1 rfl ?_
  refine z_aload_nS (pc := 1) C (dJ1_charAt_3b067 1 rfl) rfl 0 rfl ?_
  refine z_tlen (pc := 2) C hi hg (dJ1_charAt_3b067 2 rfl) ?_
  refine z_callS (pc := 3) (rest := []) C YJ0_checkIndex_df160 wl_J1_9 (kJ0_checkIndex q.2.1 (q.2.2.1.mpr hk)) (Nat.le_refl _) (dJ1_charAt_3b067 3 rfl) rfl (Nat.le_refl _) (Nat.le_refl _) (Nat.le_of_ble_eq_true rfl) rfl (fun v t' m' hP => ?_)
  obtain ⟨rfl, rfl, rfl⟩ := hP
  refine z_aload_nS (pc := 6) C (dJ1_charAt_3b067 4 rfl) rfl 0 rfl ?_
  refine z_iload_n (pc := 7) C (dJ1_charAt_3b067 5 rfl) rfl 1 rfl ?_
  refine z_tb (pc := 8) C hi hg hk (dJ1_charAt_3b067 6 rfl) ?_
  refine z_sipush (pc := 9) (v := 255) C (dJ1_charAt_3b067 7 rfl) (by decide) ?_
  refine z_iand (pc := 12) C (dJ1_charAt_3b067 8 rfl) ?_
  refine z_i2c (pc := 13) C (dJ1_charAt_3b067 9 rfl) ?_
  exact z_nret (pc := 14) (ty := .char) C hr (chv_n i hi k hk).1 (Nat.le_refl _) (Nat.le_refl _) (dJ1_charAt_3b067 10 rfl) ⟨rfl, rfl, rfl⟩
theorem kJ0_isLatin1 (hi : i < 18) : zMet l yJ0_isLatin1_aae02 cJ0_isLatin1_aae02 1 (some .boolean) 0 0 0 t m [.retAddr i] (pV (some (.int 1)) t m) := by
  refine zmet (by decide +kernel) (Nat.le_of_ble_eq_true rfl) ?_
  intro p e s mt args below meth c g C hr hm
  refine z_compact (pc := 0) C (dJ0_isLatin1_aae02 0 rfl) ?_
  refine z_if_eq (pc := 3) (tgt := 17) C (dJ0_isLatin1_aae02 1 rfl) rfl (fun q => absurd q (by decide)) (fun _ => ?_)
  refine z_aload_nS (pc := 6) C (dJ0_isLatin1_aae02 2 rfl) rfl 0 rfl ?_
  refine z_coder (pc := 7) C hi (dJ0_isLatin1_aae02 3 rfl) ?_
  refine z_if_ne (pc := 10) (tgt := 17) C (dJ0_isLatin1_aae02 4 rfl) rfl (fun q => absurd rfl q) (fun _ => ?_)
  refine z_iconst (pc := 13) (v := 1) C (dJ0_isLatin1_aae02 5 rfl) (by decide) ?_
  refine z_goto (pc := 14) (tgt := 18) C (dJ0_isLatin1_aae02 6 rfl) rfl ?_
  exact z_nret (pc := 18) (ty := .boolean) C hr (by decide) (Nat.le_refl _) (Nat.le_refl _) (dJ0_isLatin1_aae02 8 rfl) ⟨rfl, rfl, rfl⟩
theorem kJ0_coder (hi : i < 18) : zMet l yJ0_coder_7d493 cJ0_coder_7d493 1 (some .byte) 0 0 0 t m [.retAddr i] (pV (some (.int 0)) t m) := by
  refine zmet (by decide +kernel) (Nat.le_of_ble_eq_true rfl) ?_
  intro p e s mt args below meth c g C hr hm
  refine z_compact (pc := 0) C (dJ0_coder_7d493 0 rfl) ?_
  refine z_if_eq (pc := 3) (tgt := 13) C (dJ0_coder_7d493 1 rfl) rfl (fun q => absurd q (by decide)) (fun _ => ?_)
  refine z_aload_nS (pc := 6) C (dJ0_coder_7d493 2 rfl) rfl 0 rfl ?_
  refine z_coder (pc := 7) C hi (dJ0_coder_7d493 3 rfl) ?_
  refine z_goto (pc := 10) (tgt := 14) C (dJ0_coder_7d493 4 rfl) rfl ?_
  exact z_nret (pc := 14) (ty := .byte) C hr (by decide) (Nat.le_refl _) (Nat.le_refl _) (dJ0_coder_7d493 6 rfl) ⟨rfl, rfl, rfl⟩
theorem kJ0_length (hi : i < 18) : zMet l yJ0_length_8abf5 cJ0_length_8abf5 1 (some .int) 1 0 0 t m [.retAddr i] (pV (some (.int (nI (zSl.getD i 0)))) t m) := by
  have b := sl_n i hi
  refine zmet (by decide +kernel) (Nat.le_of_ble_eq_true rfl) ?_
  intro p e s mt args below meth c g C hr hm
  have e18 : ∀ a, (gs g 50 a).2.1 i = g.2.1 i := fun a => if_neg (by omega)
  have e1 : ∀ a, (lv_args 0 [Value.retAddr i]).map (fun q => (q.1, zV (gs g 50 a) q.2)) = (lv_args 0 [Value.retAddr i]).map (fun q => (q.1, zV g q.2)) := by
    intro a
    show [(0, Value.ref ((gs g 50 a).2.1 i))] = [(0, Value.ref (g.2.1 i))]
    rw [e18]
  refine z_aload_nS (pc := 0) C (dJ0_length_8abf5 0 rfl) rfl 0 rfl ?_
  refine z_value (pc := 1) C hi (e1 _) rfl (dJ0_length_8abf5 1 rfl) ?_
  refine z_tlen (pc := 4) (i := i) (zC_gs (by decide) C) hi (gs50 g _) (dJ0_length_8abf5 2 rfl) ?_
  refine zW_fro (e1 _) rfl ?_
  refine z_aload_nS (pc := 5) C (dJ0_length_8abf5 3 rfl) rfl 0 rfl ?_
  refine z_callVs (pc := 6) (As := []) (rest := [.int (nI (zSl.getD i 0))]) C YJ0_coder_7d493 wl_J0_335 hi (kJ0_coder hi) (Nat.le_refl _) (dJ0_length_8abf5 4 rfl) rfl (Nat.le_refl _) (Nat.le_refl _) (Nat.le_of_ble_eq_true rfl) rfl (fun v t' m' hP => ?_)
  obtain ⟨rfl, rfl, rfl⟩ := hP
  refine z_ishr (pc := 9) C (dJ0_length_8abf5 5 rfl) ?_
  rw [b.2.2]
  exact z_iret (pc := 10) C hr (Nat.le_refl _) (Nat.le_refl _) (dJ0_length_8abf5 6 rfl) ⟨rfl, rfl, rfl⟩
theorem kJ0_charAt (hi : i < 18) (hk : k < zSl.getD i 0) : zMet l yJ0_charAt_5068e cJ0_charAt_5068e 2 (some .char) 3 0 0 t m [.retAddr i, .int (nI k)] (pV (some (.int (chv i k))) t m) := by
  refine zmet (by decide +kernel) (Nat.le_of_ble_eq_true rfl) ?_
  intro p e s mt args below meth c g C hr hm
  have e18 : ∀ a, (gs g 50 a).2.1 i = g.2.1 i := fun a => if_neg (by omega)
  have e1 : ∀ a, (lv_args 0 [Value.retAddr i, .int (nI k)]).map (fun q => (q.1, zV (gs g 50 a) q.2)) = (lv_args 0 [Value.retAddr i, .int (nI k)]).map (fun q => (q.1, zV g q.2)) := by
    intro a
    show [(0, Value.ref ((gs g 50 a).2.1 i)), (1, .int (nI k))] = [(0, Value.ref (g.2.1 i)), (1, .int (nI k))]
    rw [e18]
  refine z_aload_nS (pc := 0) C (dJ0_charAt_5068e 0 rfl) rfl 0 rfl ?_
  refine z_callVs (pc := 1) (As := []) (rest := []) C YJ0_isLatin1_aae02 wl_J0_492 hi (kJ0_isLatin1 hi) (by omega) (dJ0_charAt_5068e 1 rfl) rfl (Nat.le_refl _) (Nat.le_refl _) (Nat.le_of_ble_eq_true rfl) rfl (fun v t' m' hP => ?_)
  obtain ⟨rfl, rfl, rfl⟩ := hP
  refine z_if_eq (pc := 4) (tgt := 16) C (dJ0_charAt_5068e 2 rfl) rfl (fun q => absurd q (by decide)) (fun _ => ?_)
  refine z_aload_nS (pc := 7) C (dJ0_charAt_5068e 3 rfl) rfl 0 rfl ?_
  refine z_value (pc := 8) C hi (e1 _) rfl (dJ0_charAt_5068e 4 rfl) ?_
  refine z_iload_n (pc := 11) (zC_gs (by decide) C) (dJ0_charAt_5068e 5 rfl) rfl 1 rfl ?_
  refine z_callSg (pc := 12) (rest := []) (zC_gs (by decide) C) YJ1_charAt_3b067 wl_J0_495 (kJ1_charAt hi hk (gs50 g _)) (Nat.le_refl _) (dJ0_charAt_5068e 6 rfl) rfl (Nat.le_refl _) (Nat.le_refl _) (Nat.le_of_ble_eq_true rfl) rfl (fun v t' m' hP => ?_)
  obtain ⟨rfl, rfl, rfl⟩ := hP
  refine zW_fro (e1 _) rfl ?_
  exact z_nret (pc := 15) (ty := .char) C hr (chv_n i hi k hk).1 (Nat.le_refl _) (Nat.le_refl _) (dJ0_charAt_5068e 7 rfl) ⟨rfl, rfl, rfl⟩
theorem kW_wordOf {Q : Int64 → zM → Prop} (hi : i < 18) (H : Q (zWord i) m) : zMet l yX12_wordOf cX12_wordOf 4 (some .long) 6 0 0 t m [.retAddr i] (zPl t Q) := by
  have b := sl_n i hi
  refine zmet (by decide +kernel) (Nat.le_of_ble_eq_true rfl) ?_
  intro p e s mt args below meth c g C hr hm
  have L : ∀ d k v, k + d = zSl.getD i 0 → ((zSb.getD i []).drop k).foldl (fun v b => 32 * v + (b - 96).toInt64) v = zWord i → zW p l e (zRm 6 0 0) s mt args below meth c g (MQ below (zQc g (zPl t Q)) args s 0 0 (zFar g)) (0, 0) 4 t m 4 [(3, .int (nI k)), (1, .long v), (0, .retAddr i)] [] := by
    intro d
    induction d with
    | zero =>
      intro k v hk hv
      have q := ni24 (zSl.getD i 0) (by omega) k (by omega)
      refine z_iload_n (pc := 4) C (dX12_wordOf 4 rfl) rfl 0 rfl ?_
      refine z_aload_nS (pc := 5) C (dX12_wordOf 5 rfl) rfl 2 rfl ?_
      refine z_callVs (pc := 6) (As := []) (rest := [.int (nI k)]) C YJ0_length_8abf5 wl_X12_57 hi (kJ0_length hi) (by omega) (dX12_wordOf 6 rfl) rfl (Nat.le_refl _) (Nat.le_refl _) (Nat.le_of_ble_eq_true rfl) rfl (fun r t' m' hP => ?_)
      obtain ⟨rfl, rfl, rfl⟩ := hP
      refine z_icmp_ge (pc := 9) (tgt := 36) C (dX12_wordOf 7 rfl) rfl (fun _ => ?_) (fun h9 => absurd (q.1.mpr (by omega)) h9)
      refine z_lload_n (pc := 36) C (dX12_wordOf 23 rfl) rfl 1 rfl ?_
      rw [List.drop_eq_nil_of_le (by omega)] at hv
      exact z_lret (pc := 37) C hr (Nat.le_refl _) (Nat.le_refl _) (dX12_wordOf 24 rfl) ⟨rfl, v, rfl, by rw [show v = zWord i from hv]; exact H⟩
    | succ d ih =>
      intro k v hk hv
      have hkl : k < zSl.getD i 0 := by omega
      have q := ni24 (zSl.getD i 0) (by omega) k (by omega)
      refine z_iload_n (pc := 4) C (dX12_wordOf 4 rfl) rfl 0 rfl ?_
      refine z_aload_nS (pc := 5) C (dX12_wordOf 5 rfl) rfl 2 rfl ?_
      refine z_callVs (pc := 6) (As := []) (rest := [.int (nI k)]) C YJ0_length_8abf5 wl_X12_57 hi (kJ0_length hi) (by omega) (dX12_wordOf 6 rfl) rfl (Nat.le_refl _) (Nat.le_refl _) (Nat.le_of_ble_eq_true rfl) rfl (fun r t' m' hP => ?_)
      obtain ⟨rfl, rfl, rfl⟩ := hP
      refine z_icmp_ge (pc := 9) (tgt := 36) C (dX12_wordOf 7 rfl) rfl (fun h9 => absurd (q.1.mp h9) (by omega)) (fun _ => ?_)
      refine z_ldc2 (pc := 12) C wj_X12_63 (dX12_wordOf 8 rfl) ?_
      refine z_lload_n (pc := 15) C (dX12_wordOf 9 rfl) rfl 1 rfl ?_
      refine z_lmul (pc := 16) C (dX12_wordOf 10 rfl) ?_
      refine z_aload_nS (pc := 17) C (dX12_wordOf 11 rfl) rfl 2 rfl ?_
      refine z_iload_n (pc := 18) C (dX12_wordOf 12 rfl) rfl 0 rfl ?_
      refine z_callVs (pc := 19) (As := [.int (nI k)]) (rest := [.long (32 * v)]) C YJ0_charAt_5068e wl_X12_65 hi (kJ0_charAt hi hkl) (by omega) (dX12_wordOf 13 rfl) rfl (Nat.le_refl _) (Nat.le_refl _) (Nat.le_of_ble_eq_true rfl) rfl (fun r t' m' hP => ?_)
      obtain ⟨rfl, rfl, rfl⟩ := hP
      refine z_bipush (pc := 22) (v := 97) C (dX12_wordOf 14 rfl) (by decide) ?_
      refine z_isub (pc := 24) C (dX12_wordOf 15 rfl) ?_
      refine z_iconst (pc := 25) (v := 1) C (dX12_wordOf 16 rfl) (by decide) ?_
      refine z_iadd (pc := 26) C (dX12_wordOf 17 rfl) ?_
      rw [(chv_n i hi k hkl).2]
      refine z_i2l (pc := 27) C (dX12_wordOf 18 rfl) ?_
      refine z_ladd (pc := 28) C (dX12_wordOf 19 rfl) ?_
      refine z_lstore_n (pc := 29) C (dX12_wordOf 20 rfl) rfl (by decide) rfl ?_
      refine z_iinc (pc := 30) C (dX12_wordOf 21 rfl) 1 rfl q.2.2.2 (by decide) rfl ?_
      refine z_goto (pc := 33) (tgt := 4) C (dX12_wordOf 22 rfl) rfl ?_
      refine ih (k + 1) _ (by omega) ?_
      have hl9 : k < (zSb.getD i []).length := by omega
      rw [List.drop_eq_getElem_cons hl9, List.foldl_cons] at hv
      rw [← hv]
      rw [List.getD_eq_getElem?_getD, List.getElem?_eq_getElem hl9]
      rfl
  refine z_lconst (pc := 0) (v := 0) C (dX12_wordOf 0 rfl) (by decide) ?_
  refine z_lstore_n (pc := 1) C (dX12_wordOf 1 rfl) rfl (by decide) rfl ?_
  refine z_iconst (pc := 2) (v := 0) C (dX12_wordOf 2 rfl) (by decide) ?_
  refine z_istore_n (pc := 3) C (dX12_wordOf 3 rfl) rfl (by decide) rfl ?_
  exact L (zSl.getD i 0) 0 0 (by omega) rfl
end KSTR
/-- wordOf: of the k-th text (by hand) -/
def wX12_wordOf (t : zT) (m : zM) (p1 : Nat) (Q : Int64 → zM → Prop) : Prop := p1 < 18 ∧ Q (zWord p1) m
theorem kX12_wordOf {l : Launch} {t : zT} {m : zM} {p1 : Nat} {Q : Int64 → zM → Prop} (H : wX12_wordOf t m p1 Q) : zMet l yX12_wordOf cX12_wordOf 4 (some .long) 6 0 0 t m [.retAddr p1] (zPl t Q) := kW_wordOf H.1 H.2
