/-! What the law's start gives: classes, strings, statics -/
theorem arr_start {s : State} {A : Array Value} {ty : FieldType} (h : (Cond.arrayClass ty).before A s = true) (hty : ∀ C, ty ≠ .object C) : ∃ cA : ClassId, ArrOfT s cA ty ∧ va_RA s cA ty := by
  obtain ⟨cA, kA, comp, h1, h2, h3⟩ := Cond.arrayClass_spec h
  refine ⟨cA, fun n z => ⟨fun k h => (by cases h), kA, h2, comp, h3⟩, ?_⟩
  cases ty with
  | object C => exact absurd rfl (hty C)
  | _ => exact h1
theorem zts_lw {w : Cond} (h : w ∈ zTs) : w ∈ lw_tbl := (List.mem_filter.mp h).1
def zTm (i : Nat) : Term := .string (zSo i) (zSx i)
def zBlk (i : Nat) : List Cond := [Cond.exactly (zTm i) "java/lang/String", Cond.eq (.field (zTm i) "java/lang/String" "coder" "B") (.int 0), Cond.arrayOf (.field (zTm i) "java/lang/String" "value" "[B") .byte, Cond.eq (.length (.field (zTm i) "java/lang/String" "value" "[B")) (.int (Int32.ofNat (zSl.getD i 0)))] ++ (List.range (zSl.getD i 0)).map (fun j => Cond.eq (.elem (.field (zTm i) "java/lang/String" "value" "[B") (.int (Int32.ofNat j))) (.int ((zSb.getD i []).getD j 0))) ++ (List.range i).map (fun j => Cond.not (Cond.eq (zTm j) (zTm i)))
set_option maxHeartbeats 4000000 in
set_option maxRecDepth 40000 in
theorem str_blk : (flatC narrow_1).drop 22 = (List.range 18).flatMap zBlk := by decide +kernel
theorem blk_in {i : Nat} (hi : i < 18) {w : Cond} (h : w ∈ zBlk i) : w ∈ flatC narrow_1 := by
  refine List.mem_of_mem_drop (i := 22) ?_
  rw [str_blk]
  exact List.mem_flatMap.mpr ⟨i, List.mem_range.mpr hi, h⟩
theorem str_tbl : ∀ i, i < 18 → Cond.stringRef (zSo i) (zSx i) (zSt i) ∈ lw_tbl := by decide +kernel
theorem str_len : ∀ i, i < 18 → zSl.getD i 0 < 2 ^ 31 := by decide
theorem cls_ins : ∀ i, i < 13 → ∃ n, Cond.instantiable (vwCl.getD i (RX0, TX0, 17)).1 n ∈ lw_tbl := by
  intro i hi
  rcases (show i = 0 ∨ i = 1 ∨ i = 2 ∨ i = 3 ∨ i = 4 ∨ i = 5 ∨ i = 6 ∨ i = 7 ∨ i = 8 ∨ i = 9 ∨ i = 10 ∨ i = 11 ∨ i = 12 by omega) with rfl | rfl | rfl | rfl | rfl | rfl | rfl | rfl | rfl | rfl | rfl | rfl | rfl
  · exact ⟨17, by decide +kernel⟩
  · exact ⟨16, by decide +kernel⟩
  · exact ⟨4, by decide +kernel⟩
  · exact ⟨15, by decide +kernel⟩
  · exact ⟨3, by decide +kernel⟩
  · exact ⟨20, by decide +kernel⟩
  · exact ⟨1, by decide +kernel⟩
  · exact ⟨9, by decide +kernel⟩
  · exact ⟨6, by decide +kernel⟩
  · exact ⟨17, by decide +kernel⟩
  · exact ⟨2, by decide +kernel⟩
  · exact ⟨24, by decide +kernel⟩
  · exact ⟨29, by decide +kernel⟩
theorem sta_in : (∀ q ∈ zSta, Cond.laysStatic q.1 q.2.1 q.2.2.1 ∈ lw_tbl ∧ Cond.initialized q.1 ∈ lw_tbl) ∧ (∀ q ∈ zStq, Cond.laysStatic q.1 q.2.1 q.2.2 ∈ lw_tbl ∧ Cond.initialized q.1 ∈ lw_tbl ∧ Cond.isRef (.static q.1 q.2.1 q.2.2) ∈ (flatC narrow_1).take 22) := by decide +kernel
theorem sta_eq : ∀ q ∈ zSta, ∃ z : Int32, q.2.2.2 = .int z ∧ Cond.eq (.static q.1 q.2.1 q.2.2.1) (.int z) ∈ (flatC narrow_1).take 22 := by
  intro q hq
  simp only [zSta, List.mem_cons, List.not_mem_nil, or_false] at hq
  rcases hq with rfl | rfl | rfl | rfl
  · exact ⟨1, rfl, by decide +kernel⟩
  · exact ⟨1, rfl, by decide +kernel⟩
  · exact ⟨0, rfl, by decide +kernel⟩
  · exact ⟨8, rfl, by decide +kernel⟩
theorem zk_start {s : State} {b : Nat} (hts : ∀ w ∈ lw_tbl, w.before #[Value.ref b] s = true) (hgv : (Jvm.Cond.and given_1 narrow_1).before #[Value.ref b] s = true) (hbl : b < s.heap.size) : ∃ g : zG, g.1 + 1 = s.heap.size ∧ g.2.1 18 = b ∧ zK g s := by
  have hs : ∀ w ∈ flatC narrow_1, w.before #[Value.ref b] s = true := fun w hw => flat_of_before _ hgv w (List.mem_append_right _ hw)
  have hb : ∀ i, i < 18 → ∀ w, w ∈ zBlk i → w.before #[Value.ref b] s = true := fun i hi w hw => hs w (blk_in hi hw)
  have ht : ∀ w, w ∈ (flatC narrow_1).take 22 → w.before #[Value.ref b] s = true := fun w hw => hs w (List.mem_of_mem_take hw)
  have hA : ∀ a : Nat, a < s.heap.size → ¬ (fun q => s.heap.size - 1 < q) a := fun a ha h => by
    have h' : s.heap.size - 1 < a := h
    omega
  obtain ⟨adK, adV, hS, hE⟩ := vk_Sof (N := 18) (tm := zTm) (len := zSl) (byt := zSb) (A := fun q => s.heap.size - 1 < q) str_len (fun i hi => hb i hi _ (by unfold zBlk; simp)) (fun i hi => hb i hi _ (by unfold zBlk; simp)) (fun i hi => hb i hi _ (by unfold zBlk; simp)) (fun i hi => hb i hi _ (by unfold zBlk; simp)) (fun i hi j hj => hb i hi _ (by
      unfold zBlk
      exact List.mem_append_left _ (List.mem_append_right _ (List.mem_map.mpr ⟨j, List.mem_range.mpr hj, rfl⟩)))) (fun i j hi hj hij => by
      rcases Nat.lt_or_gt_of_ne hij with h | h
      · exact Or.inl (hb j hj _ (by unfold zBlk; exact List.mem_append_right _ (List.mem_map.mpr ⟨i, List.mem_range.mpr h, rfl⟩)))
      · exact Or.inr (hb i hi _ (by unfold zBlk; exact List.mem_append_right _ (List.mem_map.mpr ⟨j, List.mem_range.mpr h, rfl⟩)))) hA
  obtain ⟨cB, aB, rB⟩ := arr_start (ty := .byte) (hts (.arrayClass .byte) (by decide +kernel)) (fun C h => by cases h)
  obtain ⟨cI, aI, rI⟩ := arr_start (ty := .int) (hts (.arrayClass .int) (by decide +kernel)) (fun C h => by cases h)
  obtain ⟨cJ, aJ, rJ⟩ := arr_start (ty := .long) (hts (.arrayClass .long) (by decide +kernel)) (fun C h => by cases h)
  obtain ⟨cZ, aZ, rZ⟩ := arr_start (ty := .boolean) (hts (.arrayClass .boolean) (by decide +kernel)) (fun C h => by cases h)
  have hkn : ∀ c : Nat, ∃ D : ClassId × (Nat → Nat), ∀ q : vw_C, vwCl[c]? = some q → u_Kn s q.1 q.2.1 q.2.2 D.1 D.2 := by
    intro c
    by_cases hc : c < 13
    · obtain ⟨n, hn⟩ := cls_ins c hc
      have hw : ∀ q : vw_C, vwCl[c]? = some q → ∀ w ∈ u_ws q.1 q.2.1 q.2.2, w ∈ lw_tbl := by
        intro q hq w hw
        rcases (show c = 0 ∨ c = 1 ∨ c = 2 ∨ c = 3 ∨ c = 4 ∨ c = 5 ∨ c = 6 ∨ c = 7 ∨ c = 8 ∨ c = 9 ∨ c = 10 ∨ c = 11 ∨ c = 12 by omega) with rfl | rfl | rfl | rfl | rfl | rfl | rfl | rfl | rfl | rfl | rfl | rfl | rfl
        · cases hq; exact zts_lw (zc0.2.1 w hw)
        · cases hq; exact zts_lw (zc1.2.1 w hw)
        · cases hq; exact zts_lw (zc2.2.1 w hw)
        · cases hq; exact zts_lw (zc3.2.1 w hw)
        · cases hq; exact zts_lw (zc4.2.1 w hw)
        · cases hq; exact zts_lw (zc5.2.1 w hw)
        · cases hq; exact zts_lw (zc6.2.1 w hw)
        · cases hq; exact zts_lw (zc7.2.1 w hw)
        · cases hq; exact zts_lw (zc8.2.1 w hw)
        · cases hq; exact zts_lw (zc9.2.1 w hw)
        · cases hq; exact zts_lw (zc10.2.1 w hw)
        · cases hq; exact zts_lw (zc11.2.1 w hw)
        · cases hq; exact zts_lw (zc12.2.1 w hw)
      have hl : c < vwCl.length := hc
      obtain ⟨cC, iS, h⟩ := u_known (C := vwCl[c].1) (T := vwCl[c].2.1) (N := vwCl[c].2.2) (n := n) hts (hw _ (List.getElem?_eq_getElem hl)) (by
        have e : vwCl.getD c (RX0, TX0, 17) = vwCl[c] := by rw [List.getD_eq_getElem?_getD, List.getElem?_eq_getElem hl]; rfl
        rw [e] at hn
        exact hts _ hn)
      refine ⟨(cC, iS), fun q hq => ?_⟩
      rw [List.getElem?_eq_getElem hl] at hq
      cases hq
      exact h
    · refine ⟨(cB, fun _ => 0), fun q hq => ?_⟩
      rw [List.getElem?_eq_none (by show vwCl.length ≤ c; exact Nat.not_lt.mp hc)] at hq
      cases hq
  obtain ⟨D, hD⟩ := Classical.axiomOfChoice hkn
  refine ⟨(s.heap.size - 1, (fun i => if i < 18 then adK i else b), adV, ((fun c => (D c).1), (fun c => (D c).2)), (fun k => if k = 13 then cB else if k = 14 then cI else if k = 15 then cJ else cZ)), ?_, rfl, ?_, ?_, ⟨?_, ?_⟩, ⟨?_, ?_⟩, ?_⟩
  · show s.heap.size - 1 + 1 = s.heap.size
    omega
  · refine ⟨fun c q hq => hD c q hq, fun k q hq => ?_⟩
    have hk : k < 4 := (List.getElem?_eq_some_iff.mp hq).1
    rcases (show k = 0 ∨ k = 1 ∨ k = 2 ∨ k = 3 by omega) with rfl | rfl | rfl | rfl
    · cases hq; exact ⟨aB, rB⟩
    · cases hq; exact ⟨aI, rI⟩
    · cases hq; exact ⟨aJ, rJ⟩
    · cases hq; exact ⟨aZ, rZ⟩
  · intro w hw
    have h1 := List.mem_filter.mp hw
    have h2 := hts w h1.1
    have h3 := h1.2
    cases w <;> first | (exact va_Nw.of rfl h2) | (exact absurd h3 (by simp [zIsNest]))
  · refine ⟨fun i hi => ?_, fun i j hi hj e => ?_⟩
    · show va_O "java/lang/String" (if i < 18 then adK i else b) _ s s.heap ∧ va_OF "java/lang/String" "coder" "B" (.int 0) (if i < 18 then adK i else b) _ s s.heap ∧ va_OF "java/lang/String" "value" "[B" (.ref (adV i)) (if i < 18 then adK i else b) _ s s.heap ∧ _
      rw [if_pos hi]
      exact hS.1 i hi
    · have e' : (if i < 18 then adK i else b) = (if j < 18 then adK j else b) := e
      rw [if_pos hi, if_pos hj] at e'
      exact hS.2 i j hi hj e'
  · intro i hi
    refine vk_R.of (A := #[Value.ref b]) (hts _ (str_tbl i hi)) ?_
    have := hE i hi
    show (zTm i).eval #[Value.ref b] s none [] s = some (.ref (if i < 18 then adK i else b))
    rw [if_pos hi]
    exact this
  · intro q hq
    obtain ⟨h1, h2⟩ := sta_in.1 q hq
    obtain ⟨z, e, h3⟩ := sta_eq q hq
    rw [e]
    exact va_Zof (hts _ h1) (hts _ h2) (va_eqt (ht _ h3)) hA
  · intro q hq
    obtain ⟨h1, h2, h3⟩ := sta_in.2 q hq
    exact va_Zqof (hts _ h1) (hts _ h2) (ht _ h3) hA
  · show s.heap.size - 1 < s.heap.size
    omega
