/-! THE CLAIM OUT OF ONE WALK OF THE LAW'S BODY. Your part is whole_start (and what it stands on); all else here is the same for every law, but numbers. -/
def R_law : String := "TwoMastersLaw"
def lw_P (b : Addr) (xs : List Int32) (args : Array Value) (s : State) : Prop := args = #[.ref b] ∧ s.IntsAt b xs ∧ xs.length ≤ 3072 ∧ (Jvm.Cond.and given_1 narrow_1).before args s = true
def lw_Q (_ : Array Value) (s : State) (o : Outcome) (t : State) : Prop := o = .returned (some (.int 1)) ∧ Framed s o t [] 601024 7293033
def lw_Z (below : List Frame) (a : Array Value) (s : State) : State → Prop := fun t => ∃ o, t.status = .running ∧ Ended t below o ∧ lw_Q a s o t
/-- the law's own end, with 1 on the stack, nothing written that was there before, its room as the claim has it -/
theorem lw_ret {p : Program} {l : Launch} {e : Env} {s : State} {m : MethodId} {below : List Frame} {meth : Method} {c : Code} {b : Nat} (hx : p.tables.exec = Jvm.exec) (hb : c.code = code) (hr : meth.sig.returnType = ret) (hlocks : meth.locks = false) {pc : Nat} {H : Heap} {ls : Array Slot} (hdg : decode code pc = .ok (.ireturn, 1)) : W p l e room_1 s m #[Value.ref b] below meth c H [] 601024 7293033 (lw_Z below #[Value.ref b] s) (F0 m pc ls [.int 1]) := by
  intro T hT X
  obtain ⟨fs, hret, hrun, hended, hW, hframe⟩ := X.leave (v := some (.int 1)) (hlocks := hlocks) (fun h => by rw [hr] at h; cases h)
  have hmeth' : T.vm.method? m = some meth := X.method'
  refine ⟨T.setFrames fs, ?_, .returned (some (.int 1)), hrun, hended, rfl, ⟨_, rfl⟩, hW, hframe⟩
  jvm_step X.here [X.here.top, hx, hb, hdg, hmeth', hr, ret, narrow_b1]
  (try refine ⟨rfl, ?_⟩); (try refine ⟨rfl, ?_⟩)
  first | (intro acts; rw [hret _ acts rfl rfl rfl]) | rw [hret _ _ rfl rfl rfl]
  exact Steps.refl _
/-- what holds at the law's entry: the machine, the code, the tables' words (any of lw_tbl by 'hts w (by decide +kernel)'), the script of L ints xs at the cell b, what the Statement gives of the start (any of its parts by flat_of_before) -/
def lw_At (p : Program) (s : State) (m : MethodId) (meth : Method) (c : Code) (b L : Nat) (xs : Nat → Int32) : Prop :=
  p.tables.exec = Jvm.exec ∧ c.code = code ∧ meth.sig.returnType = ret ∧ c.maxLocals = 7 ∧ s.vm.findClass R_law = some m.cls ∧ (∀ w ∈ lw_tbl, w.before #[Value.ref b] s = true) ∧ va_X b L xs s s.heap ∧ b < s.heap.size ∧ meth.locks = false ∧ (Jvm.Cond.and given_1 narrow_1).before #[Value.ref b] s = true
/-! The law, its loop -/
section
variable {p : Program} {l : Launch} {e : Env} {R : Room} {s : State} {mt : MethodId} {args : Array Value} {below : List Frame} {meth : Method} {c : Code} {g : zG} {Q : State → Prop} {u u2 : Nat × Nat} {nL : Nat} {t : zT} {m : zM} {pc p1 p2 : Nat} {lv lv2 : List (Nat × Value)} {st rest : List Value} {cc : ByteArray} {own : String} {h b L k j w : Nat} {xs : Nat → Int32}
abbrev LW (p : Program) (l : Launch) (e : Env) (s : State) (mt : MethodId) (b : Nat) (below : List Frame) (meth : Method) (c : Code) (g : zG) (Q : State → Prop) (u : Nat × Nat) (t : zT) (m : zM) (pc : Nat) (lv : List (Nat × Value)) (st : List Value) : Prop := zW p l e room_1 s mt #[Value.ref b] below meth c g Q u 7 t m pc lv st
def Led (p : Program) (l : Launch) (e : Env) (s : State) (mt : MethodId) (b : Nat) (below : List Frame) (meth : Method) (c : Code) (g : zG) (Q : State → Prop) (L : Nat) (xs : Nat → Int32) : Prop := ∀ (k j w : Nat) (t : zT) (m : zM), SCR s g b L xs k → Inv t m w → j < 512 → (∀ t' m' w', Inv t' m' w' → LW p l e s mt b below meth c g Q (cu (j + 1), su (j + 1) w') t' m' 1496 (lwl k) []) → LW p l e s mt b below meth c g Q (cu j, su j w) t m 1402 (lwl k) []
theorem law_switch (C : zC p room_1 s mt #[Value.ref b] meth c g code 7 RL 16) (H42 : Led p l e s mt b below meth c g Q L xs) (S : SCR s g b L xs k) (i : Inv t m w) (hj : j < 512) (next : ∀ t' m' w', Inv t' m' w' → LW p l e s mt b below meth c g Q (cu (j + 1), su (j + 1) w') t' m' 1496 (lwl k) []) (v : Int32) : LW p l e s mt b below meth c g Q (cu j, su j w) t m 40 (lwl k) [.int v] := by
  by_cases hv : v.toInt < 0 ∨ 44 < v.toInt
  · exact z_tableOut (pc := 40) (tgt := 1496) C (dL_law_p0 24 rfl) hv (by decide) (z_widen (u2 := (cu (j + 1), su (j + 1) w)) (by show cu j ≤ cu (j + 1); unfold cu; omega) (by show su j w ≤ su (j + 1) w; unfold su; omega) (next t m w i))
  · rcases zsw44 hv with rfl | rfl | rfl | rfl | rfl | rfl | rfl | rfl | rfl | rfl | rfl | rfl | rfl | rfl | rfl | rfl | rfl | rfl | rfl | rfl | rfl | rfl | rfl | rfl | rfl | rfl | rfl | rfl | rfl | rfl | rfl | rfl | rfl | rfl | rfl | rfl | rfl | rfl | rfl | rfl | rfl | rfl | rfl | rfl | rfl
    · exact z_tableIn (pc := 40) (off := 196) (tgt := 236) C (dL_law_p0 24 rfl) (by decide) (by decide) rfl (by decide) (law_c0 C S i hj next)
    · exact z_tableIn (pc := 40) (off := 269) (tgt := 309) C (dL_law_p0 24 rfl) (by decide) (by decide) rfl (by decide) (law_c1 C S i hj next)
    · exact z_tableIn (pc := 40) (off := 294) (tgt := 334) C (dL_law_p0 24 rfl) (by decide) (by decide) rfl (by decide) (law_c2 C S i hj next)
    · exact z_tableIn (pc := 40) (off := 307) (tgt := 347) C (dL_law_p0 24 rfl) (by decide) (by decide) rfl (by decide) (law_c3 C S i hj next)
    · exact z_tableIn (pc := 40) (off := 320) (tgt := 360) C (dL_law_p0 24 rfl) (by decide) (by decide) rfl (by decide) (law_c4 C S i hj next)
    · exact z_tableIn (pc := 40) (off := 333) (tgt := 373) C (dL_law_p0 24 rfl) (by decide) (by decide) rfl (by decide) (law_c5 C S i hj next)
    · exact z_tableIn (pc := 40) (off := 346) (tgt := 386) C (dL_law_p0 24 rfl) (by decide) (by decide) rfl (by decide) (law_c6 C S i hj next)
    · exact z_tableIn (pc := 40) (off := 371) (tgt := 411) C (dL_law_p0 24 rfl) (by decide) (by decide) rfl (by decide) (law_c7 C S i hj next)
    · exact z_tableIn (pc := 40) (off := 396) (tgt := 436) C (dL_law_p0 24 rfl) (by decide) (by decide) rfl (by decide) (law_c8 C S i hj next)
    · exact z_tableIn (pc := 40) (off := 409) (tgt := 449) C (dL_law_p0 24 rfl) (by decide) (by decide) rfl (by decide) (law_c9 C S i hj next)
    · exact z_tableIn (pc := 40) (off := 434) (tgt := 474) C (dL_law_p0 24 rfl) (by decide) (by decide) rfl (by decide) (law_c10 C S i hj next)
    · exact z_tableIn (pc := 40) (off := 459) (tgt := 499) C (dL_law_p0 24 rfl) (by decide) (by decide) rfl (by decide) (law_c11 C S i hj next)
    · exact z_tableIn (pc := 40) (off := 524) (tgt := 564) C (dL_law_p0 24 rfl) (by decide) (by decide) rfl (by decide) (law_c12 C S i hj next)
    · exact z_tableIn (pc := 40) (off := 537) (tgt := 577) C (dL_law_p0 24 rfl) (by decide) (by decide) rfl (by decide) (law_c13 C S i hj next)
    · exact z_tableIn (pc := 40) (off := 562) (tgt := 602) C (dL_law_p0 24 rfl) (by decide) (by decide) rfl (by decide) (law_c14 C S i hj next)
    · exact z_tableIn (pc := 40) (off := 615) (tgt := 655) C (dL_law_p0 24 rfl) (by decide) (by decide) rfl (by decide) (law_c15 C S i hj next)
    · exact z_tableIn (pc := 40) (off := 640) (tgt := 680) C (dL_law_p0 24 rfl) (by decide) (by decide) rfl (by decide) (law_c16 C S i hj next)
    · exact z_tableIn (pc := 40) (off := 665) (tgt := 705) C (dL_law_p0 24 rfl) (by decide) (by decide) rfl (by decide) (law_c17 C S i hj next)
    · exact z_tableIn (pc := 40) (off := 678) (tgt := 718) C (dL_law_p0 24 rfl) (by decide) (by decide) rfl (by decide) (law_c18 C S i hj next)
    · exact z_tableIn (pc := 40) (off := 691) (tgt := 731) C (dL_law_p0 24 rfl) (by decide) (by decide) rfl (by decide) (law_c19 C S i hj next)
    · exact z_tableIn (pc := 40) (off := 732) (tgt := 772) C (dL_law_p0 24 rfl) (by decide) (by decide) rfl (by decide) (law_c20 C S i hj next)
    · exact z_tableIn (pc := 40) (off := 745) (tgt := 785) C (dL_law_p0 24 rfl) (by decide) (by decide) rfl (by decide) (law_c21 C S i hj next)
    · exact z_tableIn (pc := 40) (off := 782) (tgt := 822) C (dL_law_p0 24 rfl) (by decide) (by decide) rfl (by decide) (law_c22 C S i hj next)
    · exact z_tableIn (pc := 40) (off := 795) (tgt := 835) C (dL_law_p0 24 rfl) (by decide) (by decide) rfl (by decide) (law_c23 C S i hj next)
    · exact z_tableIn (pc := 40) (off := 832) (tgt := 872) C (dL_law_p0 24 rfl) (by decide) (by decide) rfl (by decide) (law_c24 C S i hj next)
    · exact z_tableIn (pc := 40) (off := 857) (tgt := 897) C (dL_law_p0 24 rfl) (by decide) (by decide) rfl (by decide) (law_c25 C S i hj next)
    · exact z_tableIn (pc := 40) (off := 882) (tgt := 922) C (dL_law_p0 24 rfl) (by decide) (by decide) rfl (by decide) (law_c26 C S i hj next)
    · exact z_tableIn (pc := 40) (off := 947) (tgt := 987) C (dL_law_p0 24 rfl) (by decide) (by decide) rfl (by decide) (law_c27 C S i hj next)
    · exact z_tableIn (pc := 40) (off := 1012) (tgt := 1052) C (dL_law_p0 24 rfl) (by decide) (by decide) rfl (by decide) (law_c28 C S i hj next)
    · exact z_tableIn (pc := 40) (off := 1037) (tgt := 1077) C (dL_law_p0 24 rfl) (by decide) (by decide) rfl (by decide) (law_c29 C S i hj next)
    · exact z_tableIn (pc := 40) (off := 1050) (tgt := 1090) C (dL_law_p0 24 rfl) (by decide) (by decide) rfl (by decide) (law_c30 C S i hj next)
    · exact z_tableIn (pc := 40) (off := 1075) (tgt := 1115) C (dL_law_p0 24 rfl) (by decide) (by decide) rfl (by decide) (law_c31 C S i hj next)
    · exact z_tableIn (pc := 40) (off := 1088) (tgt := 1128) C (dL_law_p0 24 rfl) (by decide) (by decide) rfl (by decide) (law_c32 C S i hj next)
    · exact z_tableIn (pc := 40) (off := 1137) (tgt := 1177) C (dL_law_p0 24 rfl) (by decide) (by decide) rfl (by decide) (law_c33 C S i hj next)
    · exact z_tableIn (pc := 40) (off := 1186) (tgt := 1226) C (dL_law_p0 24 rfl) (by decide) (by decide) rfl (by decide) (law_c34 C S i hj next)
    · exact z_tableIn (pc := 40) (off := 1211) (tgt := 1251) C (dL_law_p0 24 rfl) (by decide) (by decide) rfl (by decide) (law_c35 C S i hj next)
    · exact z_tableIn (pc := 40) (off := 1224) (tgt := 1264) C (dL_law_p0 24 rfl) (by decide) (by decide) rfl (by decide) (law_c36 C S i hj next)
    · exact z_tableIn (pc := 40) (off := 1249) (tgt := 1289) C (dL_law_p0 24 rfl) (by decide) (by decide) rfl (by decide) (law_c37 C S i hj next)
    · exact z_tableIn (pc := 40) (off := 1274) (tgt := 1314) C (dL_law_p0 24 rfl) (by decide) (by decide) rfl (by decide) (law_c38 C S i hj next)
    · exact z_tableIn (pc := 40) (off := 1287) (tgt := 1327) C (dL_law_p0 24 rfl) (by decide) (by decide) rfl (by decide) (law_c39 C S i hj next)
    · exact z_tableIn (pc := 40) (off := 1300) (tgt := 1340) C (dL_law_p0 24 rfl) (by decide) (by decide) rfl (by decide) (law_c40 C S i hj next)
    · exact z_tableIn (pc := 40) (off := 1325) (tgt := 1365) C (dL_law_p0 24 rfl) (by decide) (by decide) rfl (by decide) (law_c41 C S i hj next)
    · exact z_tableIn (pc := 40) (off := 1362) (tgt := 1402) C (dL_law_p0 24 rfl) (by decide) (by decide) rfl (by decide) (H42 k j w t m S i hj next)
    · exact z_tableIn (pc := 40) (off := 1418) (tgt := 1458) C (dL_law_p0 24 rfl) (by decide) (by decide) rfl (by decide) (law_c43 C S i hj next)
    · exact z_tableIn (pc := 40) (off := 1443) (tgt := 1483) C (dL_law_p0 24 rfl) (by decide) (by decide) rfl (by decide) (law_c44 C S i hj next)
theorem law_end (C : zC p room_1 s mt #[Value.ref b] meth c g code 7 RL 16) (hr : meth.sig.returnType = ret) (hg1 : g.1 + 1 = s.heap.size) (h1 : u.1 ≤ 601024) (h2 : u.2 ≤ 7293033) : LW p l e s mt b below meth c g (lw_Z below #[Value.ref b] s) u t m 1502 lv [] := by
  refine z_iconst (pc := 1502) (v := 1) C (dL_law_p7 30 rfl) (by decide) ?_
  intro H locs cells slots ls hH hS q1 q2 hv
  refine va_forget (fun q hq => ?_) (W.widen (k := 601024) (n := 7293033) (Nat.le_trans q1 h1) (Nat.le_trans q2 h2) (lw_ret C.1 C.2.1 hr C.2.2.2.2.2.2.1 (dL_law_p7 31 rfl)))
  have hf : g.1 < q.base := hS.2.2 q hq
  omega
theorem law_loop (C : zC p room_1 s mt #[Value.ref b] meth c g code 7 RL 16) (hr : meth.sig.returnType = ret) (hg1 : g.1 + 1 = s.heap.size) (hX : va_X b L xs s s.heap) (hb : b < s.heap.size) (hgb : g.2.1 18 = b) (hL : L ≤ 3072) (H42 : Led p l e s mt b below meth c g (lw_Z below #[Value.ref b] s) L xs) : ∀ (n k j w : Nat) (t : zT) (m : zM), k = 6 * j → L ≤ k + 6 * n + 5 → k ≤ L → Inv t m w → LW p l e s mt b below meth c g (lw_Z below #[Value.ref b] s) (cu j, su j w) t m 23 (lwl k) [] := by
  have hf : ¬ zFar g b := fun h => by
    have h' : g.1 < b := h
    omega
  intro n
  induction n with
  | zero =>
    intro k j w t m hk hn hkl i
    have hm := i.max
    refine z_iload (pc := 23) C (dL_law_p0 13 rfl) 0 rfl (z_aload_nS (pc := 25) C (dL_law_p0 14 rfl) rfl 4 rfl (z_slen (pc := 26) C hX hb hgb hf (dL_law_p0 15 rfl) (z_bipush (pc := 27) (v := 6) C (dL_law_p0 16 rfl) (by decide) (z_isub (pc := 29) C (dL_law_p0 17 rfl) (z_icmp_gt (pc := 30) (tgt := 1502) C (dL_law_p0 18 rfl) (by decide) (fun _ => law_end C hr hg1 (by show cu j ≤ 601024; unfold cu; omega) (by show su j w ≤ 7293033; unfold su; omega)) (fun h => ?_))))))
    exfalso
    rw [fa_lt, nI_toInt (by omega), show (6 : Int32) = nI 6 from rfl, pk_sub_toInt (by omega) (by decide)] at h
    omega
  | succ n ih =>
    intro k j w t m hk hn hkl i
    have hm := i.max
    refine z_iload (pc := 23) C (dL_law_p0 13 rfl) 0 rfl (z_aload_nS (pc := 25) C (dL_law_p0 14 rfl) rfl 4 rfl (z_slen (pc := 26) C hX hb hgb hf (dL_law_p0 15 rfl) (z_bipush (pc := 27) (v := 6) C (dL_law_p0 16 rfl) (by decide) (z_isub (pc := 29) C (dL_law_p0 17 rfl) (z_icmp_gt (pc := 30) (tgt := 1502) C (dL_law_p0 18 rfl) (by decide) (fun _ => law_end C hr hg1 (by show cu j ≤ 601024; unfold cu; omega) (by show su j w ≤ 7293033; unfold su; omega)) (fun h => ?_))))))
    rw [fa_lt, nI_toInt (by omega), show (6 : Int32) = nI 6 from rfl, pk_sub_toInt (by omega) (by decide)] at h
    have S : SCR s g b L xs k := ⟨hX, hb, hgb, hf, by omega, hL⟩
    refine z_aload_nS (pc := 33) C (dL_law_p0 19 rfl) rfl 4 rfl (z_iload (pc := 34) C (dL_law_p0 20 rfl) 0 rfl (z_sld (pc := 36) C S (vp_nI (by omega) (by omega)) (dL_law_p0 21 rfl) (z_bipush (pc := 37) (v := 63) C (dL_law_p0 22 rfl) (by decide) (z_iand (pc := 39) C (dL_law_p0 23 rfl) (law_switch C H42 S i (by omega) (fun t' m' w' i' => ?_) _)))))
    refine z_iinc (pc := 1496) (v := nI (k + 6)) (lv2 := lwl (k + 6)) C (dL_law_p7 28 rfl) 0 rfl ?_ (by decide) rfl (z_goto (pc := 1499) (tgt := 23) C (dL_law_p7 29 rfl) (by decide) (ih (k + 6) (j + 1) w' t' m' (by omega) (by omega) (by omega) i'))
    show nI k + 6 = nI (k + 6)
    rw [show (6 : Int32) = nI 6 from rfl, nI_add]
end
