/-! THE GROUND: addresses are g.1 + an id; id 0 is null. zT: how many ids, the kind of each, the length of each array. zM: ints, longs, references by id and place. -/
abbrev zT : Type := Nat × (Nat → Nat) × (Nat → Nat)
abbrev zM : Type := (Nat → Nat → Int32) × (Nat → Nat → Int64) × (Nat → Nat → Nat)
abbrev zG : Type := Nat × (Nat → Nat) × (Nat → Nat) × va_G × (Nat → ClassId)
def tN (t : zT) : Nat := t.1
def tK (t : zT) (a : Nat) : Nat := t.2.1 a
def tL (t : zT) (a : Nat) : Nat := t.2.2 a
def gI (m : zM) (a k : Nat) : Int32 := m.1 a k
def gJ (m : zM) (a k : Nat) : Int64 := m.2.1 a k
def gR (m : zM) (a k : Nat) : Nat := m.2.2 a k
def z_up {α : Type} (f : Nat → Nat → α) (a k : Nat) (v : α) : Nat → Nat → α := fun b j => if b = a ∧ j = k then v else f b j
def pI (m : zM) (a k : Nat) (v : Int32) : zM := (z_up m.1 a k v, m.2.1, m.2.2)
def pJ (m : zM) (a k : Nat) (v : Int64) : zM := (m.1, z_up m.2.1 a k v, m.2.2)
def pR (m : zM) (a k : Nat) (v : Nat) : zM := (m.1, m.2.1, z_up m.2.2 a k v)
def zRf (g : zG) (r : Nat) : Value := if r = 0 then .null else .ref (g.1 + r)
def zV (g : zG) (v : Value) : Value := match v with
  | .ref a => zRf g a
  | .retAddr k => .ref (g.2.1 k)
  | v => v
/-- the kind of a field: 0 an int, 1 a long, 2 a reference -/
def zFt : Nat → Nat → Nat := fun k j => match k with
  | 0 => [2, 2, 0, 0, 0, 2, 2, 2, 2, 0, 2, 2, 2, 2, 0, 2, 2].getD j 0
  | 1 => [0, 0, 0, 0, 0, 0, 0, 0, 2, 2, 2, 2, 2, 2, 2, 2].getD j 0
  | 2 => [2, 0, 0, 2].getD j 0
  | 3 => [2, 0, 0, 0, 2, 0, 0, 1, 0, 0, 0, 0, 2, 2, 2].getD j 0
  | 4 => [2, 0, 0].getD j 0
  | 5 => [0, 2, 0, 2, 0, 0, 2, 2, 2, 2, 0, 2, 0, 0, 0, 2, 2, 2, 0, 2].getD j 0
  | 6 => [2].getD j 0
  | 7 => [0, 0, 0, 0, 0, 2, 2, 2, 2].getD j 0
  | 8 => [2, 0, 0, 2, 2, 2].getD j 0
  | 9 => [2, 2, 2, 2, 2, 2, 2, 2, 2, 2, 2, 2, 0, 0, 0, 0, 0].getD j 0
  | 10 => [2, 2].getD j 0
  | 11 => [0, 0, 0, 0, 0, 0, 0, 0, 0, 0, 2, 2, 2, 2, 2, 2, 2, 2, 2, 2, 2, 2, 2, 2].getD j 0
  | 12 => [0, 0, 0, 2, 2, 2, 0, 0, 0, 0, 0, 0, 0, 0, 0, 1, 2, 2, 2, 0, 2, 2, 2, 2, 0, 2, 2, 2, 0].getD j 0
  | _ => 0
def zNf : Nat → Nat := fun k => [17, 16, 4, 15, 3, 20, 1, 9, 6, 17, 2, 24, 29].getD k 0
def zFv (g : zG) (m : zM) (a k j : Nat) : Value := if zFt k j = 0 then .int (gI m a j) else if zFt k j = 1 then .long (gJ m a j) else zRf g (gR m a j)
def zAv (m : zM) (a k j : Nat) : Value := if k = 15 then .long (gJ m a j) else .int (gI m a j)
def zCell (g : zG) (t : zT) (m : zM) (a : Nat) (H : Heap) : Prop := if tK t a ≤ 12 then t_OB (g.1 + a) (g.2.2.2.1.1 (tK t a)) (zNf (tK t a)) (g.2.2.2.1.2 (tK t a)) H (zFv g m a (tK t a)) else H[g.1 + a]? = some (arrV (g.2.2.2.2 (tK t a)) (tL t a) (zAv m a (tK t a)))
def zH (g : zG) (t : zT) (m : zM) (H : Heap) : Prop := H.size = g.1 + tN t ∧ ∀ a, tK t a ≤ 16 → 0 < a ∧ zCell g t m a H
def zTs : List Cond := lw_tbl.filter goodWord
theorem zts_mem {w : Cond} (h : w ∈ lw_tbl) (h2 : goodWord w = true) : w ∈ zTs := List.mem_filter.mpr ⟨h, h2⟩
theorem zts_at {w : Cond} (i : Nat) (h : lw_tbl[i]? = some w) (h2 : goodWord w = true) : w ∈ zTs := zts_mem (List.mem_of_getElem? h) h2
theorem zts_all (ws : List Cond) (h : ws.all (fun w => decide (w ∈ lw_tbl) && goodWord w) = true) : ∀ w ∈ ws, w ∈ zTs := by
  intro w hw
  have h1 := List.all_eq_true.mp h w hw
  simp only [Bool.and_eq_true, decide_eq_true_eq] at h1
  exact zts_mem h1.1 h1.2
theorem zts_good : GoodIn zTs zTs := fun w h => ⟨h, good_of_word (List.mem_filter.mp h).2⟩
def zIsNest : Cond → Bool
  | .fieldLinkNest .. => true
  | .methodLinkNest .. => true
  | _ => false
def zNest : List Cond := lw_tbl.filter zIsNest
theorem znest_at {w : Cond} (i : Nat) (h : lw_tbl[i]? = some w) (h2 : zIsNest w = true) : w ∈ zNest := List.mem_filter.mpr ⟨List.mem_of_getElem? h, h2⟩
def zTys (g : zG) : List (ClassId × FieldType) := [(g.2.2.2.2 13, .byte), (g.2.2.2.2 14, .int), (g.2.2.2.2 15, .long), (g.2.2.2.2 16, .boolean)]
def zSo : Nat → String := fun i => ["TwoMasters", "TwoMastersModel", "TwoMastersModel", "TwoMastersModel", "TwoMastersModel", "TwoMastersModel", "TwoMastersModel", "TwoMastersModel", "TwoMastersModel", "TwoMastersModel", "TwoMastersModel", "TwoMastersModel", "TwoMastersModel", "TwoMastersModel", "TwoMastersModel", "TwoMastersModel", "TwoMastersModel", "TwoMastersModel"].getD i ""
def zSx : Nat → Nat := fun i => [427, 127, 129, 131, 133, 135, 137, 139, 212, 249, 254, 256, 258, 263, 265, 267, 292, 303].getD i 0
def zSt : Nat → String := fun i => ["no such thing is unsure", "thing", "follows", "master", "law", "says", "child", "trial", "answers", "plain", "ever", "blind", "change", "pair", "wrong", "runs", "hears", "cost"].getD i ""
def zSl : List Nat := [23, 5, 7, 6, 3, 4, 5, 5, 7, 5, 4, 5, 6, 4, 5, 4, 5, 4]
def zSb : List (List Int32) := [[110, 111, 32, 115, 117, 99, 104, 32, 116, 104, 105, 110, 103, 32, 105, 115, 32, 117, 110, 115, 117, 114, 101], [116, 104, 105, 110, 103], [102, 111, 108, 108, 111, 119, 115], [109, 97, 115, 116, 101, 114], [108, 97, 119], [115, 97, 121, 115], [99, 104, 105, 108, 100], [116, 114, 105, 97, 108], [97, 110, 115, 119, 101, 114, 115], [112, 108, 97, 105, 110], [101, 118, 101, 114], [98, 108, 105, 110, 100], [99, 104, 97, 110, 103, 101], [112, 97, 105, 114], [119, 114, 111, 110, 103], [114, 117, 110, 115], [104, 101, 97, 114, 115], [99, 111, 115, 116]]
def zFar (g : zG) : Nat → Prop := fun q => g.1 < q
def zStr (g : zG) (U : State) : Prop := vk_S 18 zSl zSb g.2.1 g.2.2.1 (zFar g) U U.heap ∧ ∀ i, i < 18 → vk_R (zSo i) (zSx i) (zSt i) (g.2.1 i) U
def zSta : List (String × String × String × Value) := [("java/lang/String", "COMPACT_STRINGS", "Z", .int 1), ("java/lang/StringUTF16", "$assertionsDisabled", "Z", .int 1), ("java/lang/StringUTF16", "HI_BYTE_SHIFT", "I", .int 0), ("java/lang/StringUTF16", "LO_BYTE_SHIFT", "I", .int 8)]
def zStq : List (String × String × String) := [("java/lang/Throwable", "UNASSIGNED_STACK", "[Ljava/lang/StackTraceElement;"), ("java/lang/Throwable", "SUPPRESSED_SENTINEL", "Ljava/util/List;"), ("jdk/internal/util/Preconditions", "SIOOBE_FORMATTER", "Ljava/util/function/BiFunction;")]
def zStat (g : zG) (U : State) : Prop := (∀ q ∈ zSta, va_Z q.1 q.2.1 q.2.2.1 q.2.2.2 (zFar g) U U.heap) ∧ ∀ q ∈ zStq, va_Zq q.1 q.2.1 q.2.2 (zFar g) U U.heap
/-- what the tables and the old heap say, at any state of the run -/
def zK (g : zG) (U : State) : Prop := va_K g.2.2.2.1 vwCl (zTys g) U ∧ (∀ w ∈ zNest, va_Nw w U) ∧ zStr g U ∧ zStat g U ∧ g.1 < U.heap.size
theorem zK.go {g : zG} {s U : State} (hW : s.WarmedH U.vm) (hz : s.heap.size ≤ U.heap.size) (hq : ∀ q : Nat, q < s.heap.size → ¬ zFar g q → U.heap[q]? = s.heap[q]?) (h : zK g s) : zK g U := by
  obtain ⟨h1, h2, ⟨h3, h4⟩, ⟨h5, h6⟩, h7⟩ := h
  refine ⟨va_K.moved hW.alike h1, fun w hw => ?_, ⟨vk_S.moved hW.alike (h3.kept hq), fun i hi => (h4 i hi).warm hW⟩, ⟨fun q hm => ?_, fun q hm => ?_⟩, by omega⟩
  · have hn := (List.mem_filter.mp hw).2
    have hu := h2 w hw
    cases w <;> first | (exact va_Nw.warmF hW hu) | (exact va_Nw.warmM hW hu) | (exact absurd hn (by simp [zIsNest]))
  · exact va_Z.moved hW.alike ((h5 q hm).kept hq)
  · rcases h6 q hm with h | ⟨t, h⟩
    · exact Or.inl (va_Z.moved hW.alike (h.kept hq))
    · exact Or.inr ⟨t, va_Z.moved hW.alike (h.kept hq)⟩
theorem zK.calling {g : zG} {U : State} {f : JFrame} {mk : MethodId} {a : Array Value} (h : zK g U) : zK g (U.calling f mk a) := by
  obtain ⟨h1, h2, ⟨h3, h4⟩, ⟨h5, h6⟩, h7⟩ := h
  refine ⟨va_K.moved (u := U) (Vm.Alike.refl U.vm) h1, fun w hw => ?_, ⟨vk_S.moved (u := U) (Vm.Alike.refl U.vm) h3, fun i hi => (h4 i hi).same rfl⟩, ⟨fun q hm => va_Z.moved (u := U) (Vm.Alike.refl U.vm) (h5 q hm), fun q hm => ?_⟩, h7⟩
  · have hn := (List.mem_filter.mp hw).2
    have hu := h2 w hw
    cases w <;> first | (exact va_Nw.same rfl (u := U) rfl hu) | (exact absurd hn (by simp [zIsNest]))
  · rcases h6 q hm with h | ⟨t, h⟩
    · exact Or.inl (va_Z.moved (u := U) (Vm.Alike.refl U.vm) h)
    · exact Or.inr ⟨t, va_Z.moved (u := U) (Vm.Alike.refl U.vm) h⟩
