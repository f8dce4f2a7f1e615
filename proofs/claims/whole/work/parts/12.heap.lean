def zTc : FieldType → Nat
  | .long => 1
  | .object _ => 2
  | .array _ => 2
  | _ => 0
/-- a class by its number: name, fields, their types, and that the tables say so -/
def zCl (k : Nat) (Cn : String) (T : u_T) (N : Nat) (ty : Nat → FieldType) : Prop := vwCl[k]? = some (Cn, T, N) ∧ (∀ w ∈ u_ws Cn T N, w ∈ zTs) ∧ (∀ j, j < N → parseFieldDescriptor (T j).2.2.1 = some (ty j)) ∧ (∀ a, a < N → ∀ b, b < N → a ≠ b → (T a).2.1 ≠ (T b).2.1) ∧ k ≤ 12 ∧ zNf k = N ∧ ∀ j, j < N → zFt k j = zTc (ty j) ∧ ty j ≠ .float ∧ ty j ≠ .double
def zClr (m : zM) (a : Nat) : zM := (fun b j => if b = a then 0 else m.1 b j, fun b j => if b = a then 0 else m.2.1 b j, fun b j => if b = a then 0 else m.2.2 b j)
def tNew (t : zT) (k len : Nat) : zT := (tN t + 1, fun b => if b = tN t then k else tK t b, fun b => if b = tN t then len else tL t b)
def zQc (g : zG) (P : Option Value → zT → zM → Prop) : Array Value → State → Outcome → State → Prop := fun _ st o tt => (∃ v t' m', o = .returned (v.map (zV g)) ∧ P v t' m' ∧ zH g t' m' tt.heap) ∧ va_F (zFar g) st tt
def zRm (h mc ms : Nat) : Room := { frames := h, cells := mc, slots := ms, locals := 31 * h }
/-- a method's contract -/
def zMet (l : Launch) (y : MethodName) (cy : ByteArray) (nLy : Nat) (rety : Option FieldType) (h mc ms : Nat) (t : zT) (m : zM) (As : List Value) (P : Option Value → zT → zM → Prop) : Prop :=
  ∀ g : zG, Met l y (.code y cy nLy rety :: zTs) (zRm h mc ms) (va_Pc (As.map (zV g)) (fun U => zH g t m U.heap ∧ zK g U)) (zQc g P) mc ms (zFar g)
section ZHEAP
variable {p : Program} {l : Launch} {e : Env} {R : Room} {s : State} {mt : MethodId} {args : Array Value} {below : List Frame} {meth : Method} {c : Code} {g : zG} {Q : State → Prop} {u : Nat × Nat} {nL : Nat} {t : zT} {m : zM} {pc : Nat} {lv lv2 : List (Nat × Value)} {st rest : List Value} {cc : ByteArray} {own : String} {h : Nat}
theorem zrf_pos (g : zG) {a : Nat} (h : 0 < a) : zRf g a = .ref (g.1 + a) := if_neg (by omega)
theorem zH_set {H H1 : Heap} {m1 : zM} {a : Nat} (hH : zH g t m H) (hz : H1.size = H.size) (ho : ∀ q : Nat, q ≠ g.1 + a → H1[q]? = H[q]?) (hm : ∀ b, b ≠ a → m1.1 b = m.1 b ∧ m1.2.1 b = m.2.1 b ∧ m1.2.2 b = m.2.2 b) (hc : zCell g t m1 a H1) : zH g t m1 H1 := by
  refine ⟨hz.trans hH.1, fun b hb => ⟨(hH.2 b hb).1, ?_⟩⟩
  by_cases hba : b = a
  · subst hba; exact hc
  · have h0 := (hH.2 b hb).2
    obtain ⟨e1, e2, e3⟩ := hm b hba
    have hq := ho (g.1 + b) (by omega)
    unfold zCell at h0 ⊢
    split at h0
    · rename_i hk
      rw [if_pos hk]
      refine (h0.kept hq).to (fun j _ => ?_)
      simp only [zFv, gI, gJ, gR, e1, e2, e3]
    · rename_i hk
      rw [if_neg hk, hq, h0]
      congr 2
      funext j
      simp only [zAv, gI, gJ, e1, e2]
theorem zu_ne {α : Type} {f : Nat → Nat → α} {a k b : Nat} {v : α} (h : b ≠ a) : z_up f a k v b = f b := by
  funext j; simp [z_up, h]
theorem zu_at {α : Type} {f : Nat → Nat → α} {a k : Nat} {v : α} : z_up f a k v a = fun j => if j = k then v else f a j := by
  funext j; simp [z_up]
theorem zFar_at {H : Heap} {a : Nat} (hH : zH g t m H) (ha : tK t a ≤ 16) : zFar g (g.1 + a) := by
  have := (hH.2 a ha).1
  show g.1 < g.1 + a
  omega
/-- a field is read -/
theorem z_getV (C : zC p R s mt args meth c g cc nL own h) {k : Nat} {Cn : String} {T : u_T} {N : Nat} {ty : Nat → FieldType} (K : zCl k Cn T N ty) {a : Nat} (hk : tK t a = k) (j : Nat) (hj : j < N) {idx : Nat} (hw : Cond.fieldLink own idx (T j).1 (T j).2.1 (T j).2.2.1 ∈ zTs) (hdg : decode cc pc = .ok (.getfield idx, 3)) {v : Value} (hv9 : zFv g m a k j = zV g v) (kk : zW p l e R s mt args below meth c g Q u nL t m (pc + 3) lv (v :: st)) : zW p l e R s mt args below meth c g Q u nL t m pc lv (.ref a :: st) := by
  intro H locs cells slots ls hH hS h1 h2 hv
  obtain ⟨ha0, hc⟩ := hH.2 a (by rw [hk]; exact Nat.le_trans K.2.2.2.2.1 (by decide))
  unfold zCell at hc
  rw [if_pos (by rw [hk]; exact K.2.2.2.2.1), hk, K.2.2.2.2.2.1] at hc
  obtain ⟨cell, q1, q2, q3, q4⟩ := hc
  obtain ⟨hSl, hfc, kC, hkC, hkind⟩ := C.2.2.2.2.2.1.1.1 k _ K.1
  obtain ⟨cf, kf, fi, f, hi, hsl⟩ := hSl j hj
  show W p l e R s mt args below meth c H locs cells slots Q (F0 mt pc ls (zRf g a :: st.map (zV g)))
  rw [zrf_pos g ha0]
  refine W.getf C.1 C.2.1 C.2.2.2.1 (C.2.2.2.2.1 _ hw) hi (u_facts hfc hkC (u_lays C.2.2.2.2.1 K.2.1 hj) hi).1 q1 (by rw [q3]; exact fun h => by cases h) (v := zV g v) ?_ rfl rfl hdg (kk H locs cells slots ls hH hS h1 h2 hv)
  rw [hsl, q4 j hj, hv9]
theorem z_getVN (C : zC p R s mt args meth c g cc nL own h) {k : Nat} {Cn : String} {T : u_T} {N : Nat} {ty : Nat → FieldType} (K : zCl k Cn T N ty) {a : Nat} (hk : tK t a = k) (j : Nat) (hj : j < N) {idx : Nat} {host : String} (hw : Cond.fieldLinkNest own idx (T j).1 (T j).2.1 (T j).2.2.1 host ∈ zNest) (hdg : decode cc pc = .ok (.getfield idx, 3)) {v : Value} (hv9 : zFv g m a k j = zV g v) (kk : zW p l e R s mt args below meth c g Q u nL t m (pc + 3) lv (v :: st)) : zW p l e R s mt args below meth c g Q u nL t m pc lv (.ref a :: st) := by
  intro H locs cells slots ls hH hS h1 h2 hv
  obtain ⟨ha0, hc⟩ := hH.2 a (by rw [hk]; exact Nat.le_trans K.2.2.2.2.1 (by decide))
  unfold zCell at hc
  rw [if_pos (by rw [hk]; exact K.2.2.2.2.1), hk, K.2.2.2.2.2.1] at hc
  obtain ⟨cell, q1, q2, q3, q4⟩ := hc
  obtain ⟨hSl, hfc, kC, hkC, hkind⟩ := C.2.2.2.2.2.1.1.1 k _ K.1
  obtain ⟨cf, kf, fi, f, hi, hsl⟩ := hSl j hj
  show W p l e R s mt args below meth c H locs cells slots Q (F0 mt pc ls (zRf g a :: st.map (zV g)))
  rw [zrf_pos g ha0]
  refine va_Wgetf C.1 C.2.1 C.2.2.2.1 (va_Nw.use rfl (C.2.2.2.2.2.1.2.1 _ hw)) hi (u_facts hfc hkC (u_lays C.2.2.2.2.1 K.2.1 hj) hi).1 q1 (by rw [q3]; exact fun h => by cases h) (v := zV g v) ?_ rfl rfl hdg (kk H locs cells slots ls hH hS h1 h2 hv)
  rw [hsl, q4 j hj, hv9]
theorem z_getI (C : zC p R s mt args meth c g cc nL own h) {k : Nat} {Cn : String} {T : u_T} {N : Nat} {ty : Nat → FieldType} (K : zCl k Cn T N ty) {a : Nat} (hk : tK t a = k) (j : Nat) (hj : j < N) (hft : zFt k j = 0) {idx : Nat} (hw : Cond.fieldLink own idx (T j).1 (T j).2.1 (T j).2.2.1 ∈ zTs) (hdg : decode cc pc = .ok (.getfield idx, 3)) (kk : zW p l e R s mt args below meth c g Q u nL t m (pc + 3) lv (.int (gI m a j) :: st)) : zW p l e R s mt args below meth c g Q u nL t m pc lv (.ref a :: st) := z_getV C K hk j hj hw hdg (by simp [zFv, zV, hft]) kk
theorem z_getJ (C : zC p R s mt args meth c g cc nL own h) {k : Nat} {Cn : String} {T : u_T} {N : Nat} {ty : Nat → FieldType} (K : zCl k Cn T N ty) {a : Nat} (hk : tK t a = k) (j : Nat) (hj : j < N) (hft : zFt k j = 1) {idx : Nat} (hw : Cond.fieldLink own idx (T j).1 (T j).2.1 (T j).2.2.1 ∈ zTs) (hdg : decode cc pc = .ok (.getfield idx, 3)) (kk : zW p l e R s mt args below meth c g Q u nL t m (pc + 3) lv (.long (gJ m a j) :: st)) : zW p l e R s mt args below meth c g Q u nL t m pc lv (.ref a :: st) := z_getV C K hk j hj hw hdg (by simp [zFv, zV, hft]) kk
theorem z_getR (C : zC p R s mt args meth c g cc nL own h) {k : Nat} {Cn : String} {T : u_T} {N : Nat} {ty : Nat → FieldType} (K : zCl k Cn T N ty) {a : Nat} (hk : tK t a = k) (j : Nat) (hj : j < N) (hft : zFt k j = 2) {idx : Nat} (hw : Cond.fieldLink own idx (T j).1 (T j).2.1 (T j).2.2.1 ∈ zTs) (hdg : decode cc pc = .ok (.getfield idx, 3)) (kk : zW p l e R s mt args below meth c g Q u nL t m (pc + 3) lv (.ref (gR m a j) :: st)) : zW p l e R s mt args below meth c g Q u nL t m pc lv (.ref a :: st) := z_getV C K hk j hj hw hdg (by simp [zFv, zV, hft]) kk
theorem z_getIN (C : zC p R s mt args meth c g cc nL own h) {k : Nat} {Cn : String} {T : u_T} {N : Nat} {ty : Nat → FieldType} (K : zCl k Cn T N ty) {a : Nat} (hk : tK t a = k) (j : Nat) (hj : j < N) (hft : zFt k j = 0) {idx : Nat} {host : String} (hw : Cond.fieldLinkNest own idx (T j).1 (T j).2.1 (T j).2.2.1 host ∈ zNest) (hdg : decode cc pc = .ok (.getfield idx, 3)) (kk : zW p l e R s mt args below meth c g Q u nL t m (pc + 3) lv (.int (gI m a j) :: st)) : zW p l e R s mt args below meth c g Q u nL t m pc lv (.ref a :: st) := z_getVN C K hk j hj hw hdg (by simp [zFv, zV, hft]) kk
theorem z_getJN (C : zC p R s mt args meth c g cc nL own h) {k : Nat} {Cn : String} {T : u_T} {N : Nat} {ty : Nat → FieldType} (K : zCl k Cn T N ty) {a : Nat} (hk : tK t a = k) (j : Nat) (hj : j < N) (hft : zFt k j = 1) {idx : Nat} {host : String} (hw : Cond.fieldLinkNest own idx (T j).1 (T j).2.1 (T j).2.2.1 host ∈ zNest) (hdg : decode cc pc = .ok (.getfield idx, 3)) (kk : zW p l e R s mt args below meth c g Q u nL t m (pc + 3) lv (.long (gJ m a j) :: st)) : zW p l e R s mt args below meth c g Q u nL t m pc lv (.ref a :: st) := z_getVN C K hk j hj hw hdg (by simp [zFv, zV, hft]) kk
theorem z_getRN (C : zC p R s mt args meth c g cc nL own h) {k : Nat} {Cn : String} {T : u_T} {N : Nat} {ty : Nat → FieldType} (K : zCl k Cn T N ty) {a : Nat} (hk : tK t a = k) (j : Nat) (hj : j < N) (hft : zFt k j = 2) {idx : Nat} {host : String} (hw : Cond.fieldLinkNest own idx (T j).1 (T j).2.1 (T j).2.2.1 host ∈ zNest) (hdg : decode cc pc = .ok (.getfield idx, 3)) (kk : zW p l e R s mt args below meth c g Q u nL t m (pc + 3) lv (.ref (gR m a j) :: st)) : zW p l e R s mt args below meth c g Q u nL t m pc lv (.ref a :: st) := z_getVN C K hk j hj hw hdg (by simp [zFv, zV, hft]) kk
theorem z_putV (C : zC p R s mt args meth c g cc nL own h) {k : Nat} {Cn : String} {T : u_T} {N : Nat} {ty : Nat → FieldType} (K : zCl k Cn T N ty) {a : Nat} (hk : tK t a = k) (j : Nat) (hj : j < N) (hfin : (T j).2.2.2 = false) {idx : Nat} (hw : Cond.fieldLink own idx (T j).1 (T j).2.1 (T j).2.2.1 ∈ zTs) (hdg : decode cc pc = .ok (.putfield idx, 3)) {v : Value} {m1 : zM} (hn : narrow (ty j) (zV g v) = zV g v) (hfit : fits (ty j) (zV g v) = true) (hm : ∀ b, b ≠ a → m1.1 b = m.1 b ∧ m1.2.1 b = m.2.1 b ∧ m1.2.2 b = m.2.2 b) (hm1 : ∀ i, i < N → zFv g m1 a k i = updV (zFv g m a k) j (zV g v) i) (kk : zW p l e R s mt args below meth c g Q u nL t m1 (pc + 3) lv st) : zW p l e R s mt args below meth c g Q u nL t m pc lv (v :: .ref a :: st) := by
  intro H locs cells slots ls hH hS h1 h2 hv
  have hk16 : tK t a ≤ 16 := by rw [hk]; exact Nat.le_trans K.2.2.2.2.1 (by decide)
  obtain ⟨ha0, hc⟩ := hH.2 a hk16
  unfold zCell at hc
  rw [if_pos (by rw [hk]; exact K.2.2.2.2.1), hk, K.2.2.2.2.2.1] at hc
  have hap := va_apart (own := own) C.2.2.2.2.1 K.2.1 ty K.2.2.1 K.2.2.2.1 C.2.2.2.2.2.1.1 K.1
  obtain ⟨cell, q1, q2, q3, q4⟩ := hc
  obtain ⟨hSl, hfc, kC, hkC, hkind⟩ := C.2.2.2.2.2.1.1.1 k _ K.1
  obtain ⟨cf, kf, fi, f, hi, hsl⟩ := hSl j hj
  have hlay := C.2.2.2.2.1 _ (K.2.1 _ (u_in_lay hj))
  unfold u_lay at hlay
  rw [if_neg (by rw [hfin]; decide)] at hlay
  have hst := (u_facts hfc hkC (u_lays C.2.2.2.2.1 K.2.1 hj) hi).1
  have h6 := u_store hfc hkC hkind hlay hi (K.2.2.1 j hj) hn hfit
  show W p l e R s mt args below meth c H locs cells slots Q (F0 mt pc ls (zV g v :: zRf g a :: st.map (zV g)))
  rw [zrf_pos g ha0]
  refine W.putK C.1 C.2.1 (f := f) ⟨C.2.2.2.1, C.2.2.2.2.1 _ hw, ⟨_, _, _, hi⟩, hst⟩ (by rw [q2]; exact h6) q1 q3 (by rw [hsl]; exact k2_hasslot (q4 j hj)) rfl rfl hdg fun H1 e1 e2 e3 => ?_
  rw [hsl] at e1
  refine kk H1 _ cells slots ls (zH_set hH e2 e3 hm ?_) (hS.put e2 e3 (zFar_at hH hk16)) h1 h2 hv
  unfold zCell
  rw [if_pos (by rw [hk]; exact K.2.2.2.2.1), hk, K.2.2.2.2.2.1]
  exact t_OB.to (V := updV (zFv g m a k) j (zV g v)) ⟨_, e1, q2, q3, t_set q4 hap hj _⟩ (fun i hi9 => (hm1 i hi9).symm)
theorem z_putVN (C : zC p R s mt args meth c g cc nL own h) {k : Nat} {Cn : String} {T : u_T} {N : Nat} {ty : Nat → FieldType} (K : zCl k Cn T N ty) {a : Nat} (hk : tK t a = k) (j : Nat) (hj : j < N) (hfin : (T j).2.2.2 = false) {idx : Nat} {host : String} (hw : Cond.fieldLinkNest own idx (T j).1 (T j).2.1 (T j).2.2.1 host ∈ zNest) (hdg : decode cc pc = .ok (.putfield idx, 3)) {v : Value} {m1 : zM} (hn : narrow (ty j) (zV g v) = zV g v) (hfit : fits (ty j) (zV g v) = true) (hm : ∀ b, b ≠ a → m1.1 b = m.1 b ∧ m1.2.1 b = m.2.1 b ∧ m1.2.2 b = m.2.2 b) (hm1 : ∀ i, i < N → zFv g m1 a k i = updV (zFv g m a k) j (zV g v) i) (kk : zW p l e R s mt args below meth c g Q u nL t m1 (pc + 3) lv st) : zW p l e R s mt args below meth c g Q u nL t m pc lv (v :: .ref a :: st) := by
  intro H locs cells slots ls hH hS h1 h2 hv
  have hk16 : tK t a ≤ 16 := by rw [hk]; exact Nat.le_trans K.2.2.2.2.1 (by decide)
  obtain ⟨ha0, hc⟩ := hH.2 a hk16
  unfold zCell at hc
  rw [if_pos (by rw [hk]; exact K.2.2.2.2.1), hk, K.2.2.2.2.2.1] at hc
  have hap := va_apart (own := own) C.2.2.2.2.1 K.2.1 ty K.2.2.1 K.2.2.2.1 C.2.2.2.2.2.1.1 K.1
  obtain ⟨cell, q1, q2, q3, q4⟩ := hc
  obtain ⟨hSl, hfc, kC, hkC, hkind⟩ := C.2.2.2.2.2.1.1.1 k _ K.1
  obtain ⟨cf, kf, fi, f, hi, hsl⟩ := hSl j hj
  have hlay := C.2.2.2.2.1 _ (K.2.1 _ (u_in_lay hj))
  unfold u_lay at hlay
  rw [if_neg (by rw [hfin]; decide)] at hlay
  have hst := (u_facts hfc hkC (u_lays C.2.2.2.2.1 K.2.1 hj) hi).1
  have h6 := u_store hfc hkC hkind hlay hi (K.2.2.1 j hj) hn hfit
  show W p l e R s mt args below meth c H locs cells slots Q (F0 mt pc ls (zV g v :: zRf g a :: st.map (zV g)))
  rw [zrf_pos g ha0]
  refine va_WputK C.1 C.2.1 (f := f) C.2.2.2.1 (va_Nw.use rfl (C.2.2.2.2.2.1.2.1 _ hw)) hi hst (by rw [q2]; exact h6) q1 q3 (by rw [hsl]; exact k2_hasslot (q4 j hj)) rfl rfl hdg fun H1 e1 e2 e3 => ?_
  rw [hsl] at e1
  refine kk H1 _ cells slots ls (zH_set hH e2 e3 hm ?_) (hS.put e2 e3 (zFar_at hH hk16)) h1 h2 hv
  unfold zCell
  rw [if_pos (by rw [hk]; exact K.2.2.2.2.1), hk, K.2.2.2.2.2.1]
  exact t_OB.to (V := updV (zFv g m a k) j (zV g v)) ⟨_, e1, q2, q3, t_set q4 hap hj _⟩ (fun i hi9 => (hm1 i hi9).symm)
theorem z_putVF (C : zC p R s mt args meth c g cc nL own h) {k : Nat} {Cn : String} {T : u_T} {N : Nat} {ty : Nat → FieldType} (K : zCl k Cn T N ty) {a : Nat} (hk : tK t a = k) (j : Nat) (hj : j < N) (hfin : (T j).2.2.2 = true) (hin2 : meth.name = "<init>") (hdecl : (T j).1 = own) {idx : Nat} (hw : Cond.fieldLink own idx (T j).1 (T j).2.1 (T j).2.2.1 ∈ zTs) (hdg : decode cc pc = .ok (.putfield idx, 3)) {v : Value} {m1 : zM} (hn : narrow (ty j) (zV g v) = zV g v) (hfit : fits (ty j) (zV g v) = true) (hm : ∀ b, b ≠ a → m1.1 b = m.1 b ∧ m1.2.1 b = m.2.1 b ∧ m1.2.2 b = m.2.2 b) (hm1 : ∀ i, i < N → zFv g m1 a k i = updV (zFv g m a k) j (zV g v) i) (kk : zW p l e R s mt args below meth c g Q u nL t m1 (pc + 3) lv st) : zW p l e R s mt args below meth c g Q u nL t m pc lv (v :: .ref a :: st) := by
  intro H locs cells slots ls hH hS h1 h2 hv
  have hk16 : tK t a ≤ 16 := by rw [hk]; exact Nat.le_trans K.2.2.2.2.1 (by decide)
  obtain ⟨ha0, hc⟩ := hH.2 a hk16
  unfold zCell at hc
  rw [if_pos (by rw [hk]; exact K.2.2.2.2.1), hk, K.2.2.2.2.2.1] at hc
  have hap := va_apart (own := own) C.2.2.2.2.1 K.2.1 ty K.2.2.1 K.2.2.2.1 C.2.2.2.2.2.1.1 K.1
  obtain ⟨cell, q1, q2, q3, q4⟩ := hc
  obtain ⟨hSl, hfc, kC, hkC, hkind⟩ := C.2.2.2.2.2.1.1.1 k _ K.1
  obtain ⟨cf, kf, fi, f, hi, hsl⟩ := hSl j hj
  have hlay := C.2.2.2.2.1 _ (K.2.1 _ (u_in_lay hj))
  unfold u_lay at hlay
  rw [if_pos hfin] at hlay
  have hst := (u_facts hfc hkC (u_lays C.2.2.2.2.1 K.2.1 hj) hi).1
  have hcf : mt.cls = cf := by
    obtain ⟨_, _, c', _, _, _, -, -, hf', -, -, -, hown2, -⟩ := Cond.laysFinal_spec hlay
    have e1 : c' = cf := by have := hi.symm.trans hf'; simp at this; exact this.1.symm
    rw [hdecl] at hown2
    rw [← e1]; exact Option.some.inj (C.2.2.2.1.symm.trans hown2)
  have h6 := u_fits hfc hkC hkind (Or.inr hlay) hi (K.2.2.1 j hj) hn hfit
  show W p l e R s mt args below meth c H locs cells slots Q (F0 mt pc ls (zV g v :: zRf g a :: st.map (zV g)))
  rw [zrf_pos g ha0]
  refine W.putFinK C.1 C.2.1 C.2.2.2.1 (C.2.2.2.2.1 _ hw) hi hst hcf hin2 (by rw [q2]; exact h6) q1 q3 (by rw [hsl]; exact k2_hasslot (q4 j hj)) rfl rfl hdg fun H1 e1 e2 e3 => ?_
  rw [hsl] at e1
  refine kk H1 _ cells slots ls (zH_set hH e2 e3 hm ?_) (hS.put e2 e3 (zFar_at hH hk16)) h1 h2 hv
  unfold zCell
  rw [if_pos (by rw [hk]; exact K.2.2.2.2.1), hk, K.2.2.2.2.2.1]
  exact t_OB.to (V := updV (zFv g m a k) j (zV g v)) ⟨_, e1, q2, q3, t_set q4 hap hj _⟩ (fun i hi9 => (hm1 i hi9).symm)
theorem zpI_ne {m : zM} {a k : Nat} {x : Int32} : ∀ b, b ≠ a → (pI m a k x).1 b = m.1 b ∧ (pI m a k x).2.1 b = m.2.1 b ∧ (pI m a k x).2.2 b = m.2.2 b := fun b hb => ⟨zu_ne hb, rfl, rfl⟩
theorem zpJ_ne {m : zM} {a k : Nat} {x : Int64} : ∀ b, b ≠ a → (pJ m a k x).1 b = m.1 b ∧ (pJ m a k x).2.1 b = m.2.1 b ∧ (pJ m a k x).2.2 b = m.2.2 b := fun b hb => ⟨rfl, zu_ne hb, rfl⟩
theorem zpR_ne {m : zM} {a k : Nat} {x : Nat} : ∀ b, b ≠ a → (pR m a k x).1 b = m.1 b ∧ (pR m a k x).2.1 b = m.2.1 b ∧ (pR m a k x).2.2 b = m.2.2 b := fun b hb => ⟨rfl, rfl, zu_ne hb⟩
theorem zpI_fv {k j : Nat} (a : Nat) (x : Int32) (hft : zFt k j = 0) (i : Nat) : zFv g (pI m a j x) a k i = updV (zFv g m a k) j (.int x) i := by
  by_cases hij : i = j
  · subst hij; simp [zFv, updV, hft, gI, pI, z_up]
  · simp [zFv, updV, hij, gI, gJ, gR, pI, z_up]
theorem zpJ_fv {k j : Nat} (a : Nat) (x : Int64) (hft : zFt k j = 1) (i : Nat) : zFv g (pJ m a j x) a k i = updV (zFv g m a k) j (.long x) i := by
  by_cases hij : i = j
  · subst hij; simp [zFv, updV, hft, gJ, pJ, z_up]
  · simp [zFv, updV, hij, gI, gJ, gR, pJ, z_up]
theorem zpR_fv {k j : Nat} (a : Nat) (x : Nat) (hft : zFt k j = 2) (i : Nat) : zFv g (pR m a j x) a k i = updV (zFv g m a k) j (zRf g x) i := by
  by_cases hij : i = j
  · subst hij; simp [zFv, updV, hft, gR, pR, z_up]
  · simp [zFv, updV, hij, gI, gJ, gR, pR, z_up]
theorem zbool {x : Int32} (h : x = 0 ∨ x = 1) : narrow .boolean (.int x) = .int x ∧ fits .boolean (.int x) = true := by
  rcases h with rfl | rfl <;> exact ⟨by decide, by decide⟩
theorem zfit_r (g : zG) (x : Nat) {ty : FieldType} (h : zTc ty = 2) : narrow ty (zRf g x) = zRf g x ∧ fits ty (zRf g x) = true := by
  unfold zRf
  cases ty <;> first | (exact absurd h (by decide)) | (split <;> exact ⟨rfl, rfl⟩)
theorem z_putI (C : zC p R s mt args meth c g cc nL own h) {k : Nat} {Cn : String} {T : u_T} {N : Nat} {ty : Nat → FieldType} (K : zCl k Cn T N ty) {a : Nat} (hk : tK t a = k) (j : Nat) (hj : j < N) (hty : ty j = .int) (hfin : (T j).2.2.2 = false) {idx : Nat} (hw : Cond.fieldLink own idx (T j).1 (T j).2.1 (T j).2.2.1 ∈ zTs) (hdg : decode cc pc = .ok (.putfield idx, 3)) {x : Int32} (kk : zW p l e R s mt args below meth c g Q u nL t (pI m a j x) (pc + 3) lv st) : zW p l e R s mt args below meth c g Q u nL t m pc lv (.int x :: .ref a :: st) := z_putV C K hk j hj hfin hw hdg (by rw [hty]; rfl) (by rw [hty]; rfl) zpI_ne (fun i _ => zpI_fv a x (by rw [(K.2.2.2.2.2.2 j hj).1, hty]; rfl) i) kk
theorem z_putZ (C : zC p R s mt args meth c g cc nL own h) {k : Nat} {Cn : String} {T : u_T} {N : Nat} {ty : Nat → FieldType} (K : zCl k Cn T N ty) {a : Nat} (hk : tK t a = k) (j : Nat) (hj : j < N) (hty : ty j = .boolean) (hfin : (T j).2.2.2 = false) {idx : Nat} (hw : Cond.fieldLink own idx (T j).1 (T j).2.1 (T j).2.2.1 ∈ zTs) (hdg : decode cc pc = .ok (.putfield idx, 3)) {x : Int32} (hb : x = 0 ∨ x = 1) (kk : zW p l e R s mt args below meth c g Q u nL t (pI m a j x) (pc + 3) lv st) : zW p l e R s mt args below meth c g Q u nL t m pc lv (.int x :: .ref a :: st) := z_putV C K hk j hj hfin hw hdg (by rw [hty]; exact (zbool hb).1) (by rw [hty]; exact (zbool hb).2) zpI_ne (fun i _ => zpI_fv a x (by rw [(K.2.2.2.2.2.2 j hj).1, hty]; rfl) i) kk
theorem z_putJ (C : zC p R s mt args meth c g cc nL own h) {k : Nat} {Cn : String} {T : u_T} {N : Nat} {ty : Nat → FieldType} (K : zCl k Cn T N ty) {a : Nat} (hk : tK t a = k) (j : Nat) (hj : j < N) (hty : ty j = .long) (hfin : (T j).2.2.2 = false) {idx : Nat} (hw : Cond.fieldLink own idx (T j).1 (T j).2.1 (T j).2.2.1 ∈ zTs) (hdg : decode cc pc = .ok (.putfield idx, 3)) {x : Int64} (kk : zW p l e R s mt args below meth c g Q u nL t (pJ m a j x) (pc + 3) lv st) : zW p l e R s mt args below meth c g Q u nL t m pc lv (.long x :: .ref a :: st) := z_putV C K hk j hj hfin hw hdg (by rw [hty]; rfl) (by rw [hty]; rfl) zpJ_ne (fun i _ => zpJ_fv a x (by rw [(K.2.2.2.2.2.2 j hj).1, hty]; rfl) i) kk
theorem z_putR (C : zC p R s mt args meth c g cc nL own h) {k : Nat} {Cn : String} {T : u_T} {N : Nat} {ty : Nat → FieldType} (K : zCl k Cn T N ty) {a : Nat} (hk : tK t a = k) (j : Nat) (hj : j < N) (hty : zTc (ty j) = 2) (hfin : (T j).2.2.2 = false) {idx : Nat} (hw : Cond.fieldLink own idx (T j).1 (T j).2.1 (T j).2.2.1 ∈ zTs) (hdg : decode cc pc = .ok (.putfield idx, 3)) {x : Nat} (kk : zW p l e R s mt args below meth c g Q u nL t (pR m a j x) (pc + 3) lv st) : zW p l e R s mt args below meth c g Q u nL t m pc lv (.ref x :: .ref a :: st) := z_putV C K hk j hj hfin hw hdg (zfit_r g x hty).1 (zfit_r g x hty).2 zpR_ne (fun i _ => zpR_fv a x (by rw [(K.2.2.2.2.2.2 j hj).1, hty]) i) kk
theorem z_putIN (C : zC p R s mt args meth c g cc nL own h) {k : Nat} {Cn : String} {T : u_T} {N : Nat} {ty : Nat → FieldType} (K : zCl k Cn T N ty) {a : Nat} (hk : tK t a = k) (j : Nat) (hj : j < N) (hty : ty j = .int) (hfin : (T j).2.2.2 = false) {idx : Nat} {host : String} (hw : Cond.fieldLinkNest own idx (T j).1 (T j).2.1 (T j).2.2.1 host ∈ zNest) (hdg : decode cc pc = .ok (.putfield idx, 3)) {x : Int32} (kk : zW p l e R s mt args below meth c g Q u nL t (pI m a j x) (pc + 3) lv st) : zW p l e R s mt args below meth c g Q u nL t m pc lv (.int x :: .ref a :: st) := z_putVN C K hk j hj hfin hw hdg (by rw [hty]; rfl) (by rw [hty]; rfl) zpI_ne (fun i _ => zpI_fv a x (by rw [(K.2.2.2.2.2.2 j hj).1, hty]; rfl) i) kk
theorem z_putZN (C : zC p R s mt args meth c g cc nL own h) {k : Nat} {Cn : String} {T : u_T} {N : Nat} {ty : Nat → FieldType} (K : zCl k Cn T N ty) {a : Nat} (hk : tK t a = k) (j : Nat) (hj : j < N) (hty : ty j = .boolean) (hfin : (T j).2.2.2 = false) {idx : Nat} {host : String} (hw : Cond.fieldLinkNest own idx (T j).1 (T j).2.1 (T j).2.2.1 host ∈ zNest) (hdg : decode cc pc = .ok (.putfield idx, 3)) {x : Int32} (hb : x = 0 ∨ x = 1) (kk : zW p l e R s mt args below meth c g Q u nL t (pI m a j x) (pc + 3) lv st) : zW p l e R s mt args below meth c g Q u nL t m pc lv (.int x :: .ref a :: st) := z_putVN C K hk j hj hfin hw hdg (by rw [hty]; exact (zbool hb).1) (by rw [hty]; exact (zbool hb).2) zpI_ne (fun i _ => zpI_fv a x (by rw [(K.2.2.2.2.2.2 j hj).1, hty]; rfl) i) kk
theorem z_putJN (C : zC p R s mt args meth c g cc nL own h) {k : Nat} {Cn : String} {T : u_T} {N : Nat} {ty : Nat → FieldType} (K : zCl k Cn T N ty) {a : Nat} (hk : tK t a = k) (j : Nat) (hj : j < N) (hty : ty j = .long) (hfin : (T j).2.2.2 = false) {idx : Nat} {host : String} (hw : Cond.fieldLinkNest own idx (T j).1 (T j).2.1 (T j).2.2.1 host ∈ zNest) (hdg : decode cc pc = .ok (.putfield idx, 3)) {x : Int64} (kk : zW p l e R s mt args below meth c g Q u nL t (pJ m a j x) (pc + 3) lv st) : zW p l e R s mt args below meth c g Q u nL t m pc lv (.long x :: .ref a :: st) := z_putVN C K hk j hj hfin hw hdg (by rw [hty]; rfl) (by rw [hty]; rfl) zpJ_ne (fun i _ => zpJ_fv a x (by rw [(K.2.2.2.2.2.2 j hj).1, hty]; rfl) i) kk
theorem z_putRN (C : zC p R s mt args meth c g cc nL own h) {k : Nat} {Cn : String} {T : u_T} {N : Nat} {ty : Nat → FieldType} (K : zCl k Cn T N ty) {a : Nat} (hk : tK t a = k) (j : Nat) (hj : j < N) (hty : zTc (ty j) = 2) (hfin : (T j).2.2.2 = false) {idx : Nat} {host : String} (hw : Cond.fieldLinkNest own idx (T j).1 (T j).2.1 (T j).2.2.1 host ∈ zNest) (hdg : decode cc pc = .ok (.putfield idx, 3)) {x : Nat} (kk : zW p l e R s mt args below meth c g Q u nL t (pR m a j x) (pc + 3) lv st) : zW p l e R s mt args below meth c g Q u nL t m pc lv (.ref x :: .ref a :: st) := z_putVN C K hk j hj hfin hw hdg (zfit_r g x hty).1 (zfit_r g x hty).2 zpR_ne (fun i _ => zpR_fv a x (by rw [(K.2.2.2.2.2.2 j hj).1, hty]) i) kk
theorem z_putIF (C : zC p R s mt args meth c g cc nL own h) {k : Nat} {Cn : String} {T : u_T} {N : Nat} {ty : Nat → FieldType} (K : zCl k Cn T N ty) {a : Nat} (hk : tK t a = k) (j : Nat) (hj : j < N) (hty : ty j = .int) (hfin : (T j).2.2.2 = true) (hin2 : meth.name = "<init>") (hdecl : (T j).1 = own) {idx : Nat} (hw : Cond.fieldLink own idx (T j).1 (T j).2.1 (T j).2.2.1 ∈ zTs) (hdg : decode cc pc = .ok (.putfield idx, 3)) {x : Int32} (kk : zW p l e R s mt args below meth c g Q u nL t (pI m a j x) (pc + 3) lv st) : zW p l e R s mt args below meth c g Q u nL t m pc lv (.int x :: .ref a :: st) := z_putVF C K hk j hj hfin hin2 hdecl hw hdg (by rw [hty]; rfl) (by rw [hty]; rfl) zpI_ne (fun i _ => zpI_fv a x (by rw [(K.2.2.2.2.2.2 j hj).1, hty]; rfl) i) kk
theorem z_putZF (C : zC p R s mt args meth c g cc nL own h) {k : Nat} {Cn : String} {T : u_T} {N : Nat} {ty : Nat → FieldType} (K : zCl k Cn T N ty) {a : Nat} (hk : tK t a = k) (j : Nat) (hj : j < N) (hty : ty j = .boolean) (hfin : (T j).2.2.2 = true) (hin2 : meth.name = "<init>") (hdecl : (T j).1 = own) {idx : Nat} (hw : Cond.fieldLink own idx (T j).1 (T j).2.1 (T j).2.2.1 ∈ zTs) (hdg : decode cc pc = .ok (.putfield idx, 3)) {x : Int32} (hb : x = 0 ∨ x = 1) (kk : zW p l e R s mt args below meth c g Q u nL t (pI m a j x) (pc + 3) lv st) : zW p l e R s mt args below meth c g Q u nL t m pc lv (.int x :: .ref a :: st) := z_putVF C K hk j hj hfin hin2 hdecl hw hdg (by rw [hty]; exact (zbool hb).1) (by rw [hty]; exact (zbool hb).2) zpI_ne (fun i _ => zpI_fv a x (by rw [(K.2.2.2.2.2.2 j hj).1, hty]; rfl) i) kk
theorem z_putJF (C : zC p R s mt args meth c g cc nL own h) {k : Nat} {Cn : String} {T : u_T} {N : Nat} {ty : Nat → FieldType} (K : zCl k Cn T N ty) {a : Nat} (hk : tK t a = k) (j : Nat) (hj : j < N) (hty : ty j = .long) (hfin : (T j).2.2.2 = true) (hin2 : meth.name = "<init>") (hdecl : (T j).1 = own) {idx : Nat} (hw : Cond.fieldLink own idx (T j).1 (T j).2.1 (T j).2.2.1 ∈ zTs) (hdg : decode cc pc = .ok (.putfield idx, 3)) {x : Int64} (kk : zW p l e R s mt args below meth c g Q u nL t (pJ m a j x) (pc + 3) lv st) : zW p l e R s mt args below meth c g Q u nL t m pc lv (.long x :: .ref a :: st) := z_putVF C K hk j hj hfin hin2 hdecl hw hdg (by rw [hty]; rfl) (by rw [hty]; rfl) zpJ_ne (fun i _ => zpJ_fv a x (by rw [(K.2.2.2.2.2.2 j hj).1, hty]; rfl) i) kk
theorem z_putRF (C : zC p R s mt args meth c g cc nL own h) {k : Nat} {Cn : String} {T : u_T} {N : Nat} {ty : Nat → FieldType} (K : zCl k Cn T N ty) {a : Nat} (hk : tK t a = k) (j : Nat) (hj : j < N) (hty : zTc (ty j) = 2) (hfin : (T j).2.2.2 = true) (hin2 : meth.name = "<init>") (hdecl : (T j).1 = own) {idx : Nat} (hw : Cond.fieldLink own idx (T j).1 (T j).2.1 (T j).2.2.1 ∈ zTs) (hdg : decode cc pc = .ok (.putfield idx, 3)) {x : Nat} (kk : zW p l e R s mt args below meth c g Q u nL t (pR m a j x) (pc + 3) lv st) : zW p l e R s mt args below meth c g Q u nL t m pc lv (.ref x :: .ref a :: st) := z_putVF C K hk j hj hfin hin2 hdecl hw hdg (zfit_r g x hty).1 (zfit_r g x hty).2 zpR_ne (fun i _ => zpR_fv a x (by rw [(K.2.2.2.2.2.2 j hj).1, hty]) i) kk
theorem zArr {H : Heap} {a k : Nat} (hH : zH g t m H) (hk : tK t a = k) (h1 : 12 < k) (h2 : k ≤ 16) : 0 < a ∧ H[g.1 + a]? = some (arrV (g.2.2.2.2 k) (tL t a) (zAv m a k)) := by
  obtain ⟨ha0, hc⟩ := hH.2 a (by omega)
  unfold zCell at hc
  rw [if_neg (by omega), hk] at hc
  exact ⟨ha0, hc⟩
theorem zTyat (C : zC p R s mt args meth c g cc nL own h) (i : Nat) {cA : ClassId} {ty : FieldType} (hi : (zTys g)[i]? = some (cA, ty)) : ArrOfT s cA ty := (C.2.2.2.2.2.1.1.2 i _ hi).1
theorem z_iaload (C : zC p R s mt args meth c g cc nL own h) {a : Nat} (hk : tK t a = 14) {i : Int32} (hin : vp_in i (tL t a)) (hdg : decode cc pc = .ok (.iaload, 1)) (kk : zW p l e R s mt args below meth c g Q u nL t m (pc + 1) lv (.int (gI m a i.toNatClampNeg) :: st)) : zW p l e R s mt args below meth c g Q u nL t m pc lv (.int i :: .ref a :: st) := by
  intro H locs cells slots ls hH hS h1 h2 hv
  obtain ⟨ha0, hc⟩ := zArr hH hk (by decide) (by decide)
  show W p l e R s mt args below meth c H locs cells slots Q (F0 mt pc ls (.int i :: zRf g a :: st.map (zV g)))
  rw [zrf_pos g ha0]
  have hlt : i.toNatClampNeg < tL t a := Nat.not_le.mp fun q => hin (Or.inr q)
  exact W.iald (v := .int (gI m a i.toNatClampNeg)) C.1 C.2.1 hc (zTyat C 1 rfl _ _) (fun q => by cases q) (by rw [arrV_size]; exact hin) (by rw [arrV_read _ _ hlt]; rfl) rfl rfl hdg (kk H locs cells slots ls hH hS h1 h2 hv)
theorem z_baload (C : zC p R s mt args meth c g cc nL own h) {a : Nat} (hk : tK t a = 13) {i : Int32} (hin : vp_in i (tL t a)) (hdg : decode cc pc = .ok (.baload, 1)) (kk : zW p l e R s mt args below meth c g Q u nL t m (pc + 1) lv (.int (gI m a i.toNatClampNeg) :: st)) : zW p l e R s mt args below meth c g Q u nL t m pc lv (.int i :: .ref a :: st) := by
  intro H locs cells slots ls hH hS h1 h2 hv
  obtain ⟨ha0, hc⟩ := zArr hH hk (by decide) (by decide)
  show W p l e R s mt args below meth c H locs cells slots Q (F0 mt pc ls (.int i :: zRf g a :: st.map (zV g)))
  rw [zrf_pos g ha0]
  have hlt : i.toNatClampNeg < tL t a := Nat.not_le.mp fun q => hin (Or.inr q)
  exact W.bald (v := .int (gI m a i.toNatClampNeg)) C.1 C.2.1 hc (zTyat C 0 rfl _ _) (fun q => by cases q) (by rw [arrV_size]; exact hin) (by rw [arrV_read _ _ hlt]; rfl) rfl rfl hdg (kk H locs cells slots ls hH hS h1 h2 hv)
theorem z_zaload (C : zC p R s mt args meth c g cc nL own h) {a : Nat} (hk : tK t a = 16) {i : Int32} (hin : vp_in i (tL t a)) (hdg : decode cc pc = .ok (.baload, 1)) (kk : zW p l e R s mt args below meth c g Q u nL t m (pc + 1) lv (.int (gI m a i.toNatClampNeg) :: st)) : zW p l e R s mt args below meth c g Q u nL t m pc lv (.int i :: .ref a :: st) := by
  intro H locs cells slots ls hH hS h1 h2 hv
  obtain ⟨ha0, hc⟩ := zArr hH hk (by decide) (by decide)
  show W p l e R s mt args below meth c H locs cells slots Q (F0 mt pc ls (.int i :: zRf g a :: st.map (zV g)))
  rw [zrf_pos g ha0]
  have hlt : i.toNatClampNeg < tL t a := Nat.not_le.mp fun q => hin (Or.inr q)
  exact W.zald (v := .int (gI m a i.toNatClampNeg)) C.1 C.2.1 hc (zTyat C 3 rfl _ _) (fun q => by cases q) (by rw [arrV_size]; exact hin) (by rw [arrV_read _ _ hlt]; rfl) rfl rfl hdg (kk H locs cells slots ls hH hS h1 h2 hv)
theorem z_laload (C : zC p R s mt args meth c g cc nL own h) {a : Nat} (hk : tK t a = 15) {i : Int32} (hin : vp_in i (tL t a)) (hdg : decode cc pc = .ok (.laload, 1)) (kk : zW p l e R s mt args below meth c g Q u nL t m (pc + 1) lv (.long (gJ m a i.toNatClampNeg) :: st)) : zW p l e R s mt args below meth c g Q u nL t m pc lv (.int i :: .ref a :: st) := by
  intro H locs cells slots ls hH hS h1 h2 hv
  obtain ⟨ha0, hc⟩ := zArr hH hk (by decide) (by decide)
  show W p l e R s mt args below meth c H locs cells slots Q (F0 mt pc ls (.int i :: zRf g a :: st.map (zV g)))
  rw [zrf_pos g ha0]
  have hlt : i.toNatClampNeg < tL t a := Nat.not_le.mp fun q => hin (Or.inr q)
  exact W.lald (v := .long (gJ m a i.toNatClampNeg)) C.1 C.2.1 hc (zTyat C 2 rfl _ _) (fun q => by cases q) (by rw [arrV_size]; exact hin) (by rw [arrV_read _ _ hlt]; rfl) rfl rfl hdg (kk H locs cells slots ls hH hS h1 h2 hv)
theorem z_iastore (C : zC p R s mt args meth c g cc nL own h) {a : Nat} (hk : tK t a = 14) {i : Int32} {x : Int32} (hin : vp_in i (tL t a)) (hdg : decode cc pc = .ok (.iastore, 1)) (kk : zW p l e R s mt args below meth c g Q u nL t (pI m a i.toNatClampNeg x) (pc + 1) lv st) : zW p l e R s mt args below meth c g Q u nL t m pc lv (.int x :: .int i :: .ref a :: st) := by
  intro H locs cells slots ls hH hS h1 h2 hv
  obtain ⟨ha0, hc⟩ := zArr hH hk (by decide) (by decide)
  show W p l e R s mt args below meth c H locs cells slots Q (F0 mt pc ls (.int x :: .int i :: zRf g a :: st.map (zV g)))
  rw [zrf_pos g ha0]
  refine W.iast C.1 C.2.1 hc (zTyat C 1 rfl _ _) (fun q => by cases q) (by rw [arrV_size]; exact hin) rfl rfl hdg fun H1 e1 e2 e3 => ?_
  refine kk H1 _ cells slots ls (zH_set hH e2 e3 zpI_ne ?_) (hS.put e2 e3 (zFar_at hH (by rw [hk]; decide))) h1 h2 hv
  unfold zCell
  rw [if_neg (by rw [hk]; decide), hk, e1, arrV_store]
  congr 2
  funext j
  by_cases hj : j = i.toNatClampNeg
  · subst hj
    simp [updV, zAv, gI, gJ, pI, pJ, z_up, narrow]
  · simp [updV, zAv, gI, gJ, pI, pJ, z_up, hj]
theorem z_bastore (C : zC p R s mt args meth c g cc nL own h) {a : Nat} (hk : tK t a = 13) {i : Int32} {x : Int32} (hin : vp_in i (tL t a)) (hdg : decode cc pc = .ok (.bastore, 1)) (kk : zW p l e R s mt args below meth c g Q u nL t (pI m a i.toNatClampNeg x.toInt8.toInt32) (pc + 1) lv st) : zW p l e R s mt args below meth c g Q u nL t m pc lv (.int x :: .int i :: .ref a :: st) := by
  intro H locs cells slots ls hH hS h1 h2 hv
  obtain ⟨ha0, hc⟩ := zArr hH hk (by decide) (by decide)
  show W p l e R s mt args below meth c H locs cells slots Q (F0 mt pc ls (.int x :: .int i :: zRf g a :: st.map (zV g)))
  rw [zrf_pos g ha0]
  refine W.bast C.1 C.2.1 hc (zTyat C 0 rfl _ _) (fun q => by cases q) (by rw [arrV_size]; exact hin) rfl rfl hdg fun H1 e1 e2 e3 => ?_
  refine kk H1 _ cells slots ls (zH_set hH e2 e3 zpI_ne ?_) (hS.put e2 e3 (zFar_at hH (by rw [hk]; decide))) h1 h2 hv
  unfold zCell
  rw [if_neg (by rw [hk]; decide), hk, e1, arrV_store]
  congr 2
  funext j
  by_cases hj : j = i.toNatClampNeg
  · subst hj
    simp [updV, zAv, gI, gJ, pI, pJ, z_up, narrow]
  · simp [updV, zAv, gI, gJ, pI, pJ, z_up, hj]
theorem z_zastore (C : zC p R s mt args meth c g cc nL own h) {a : Nat} (hk : tK t a = 16) {i : Int32} {x : Int32} (hin : vp_in i (tL t a)) (hdg : decode cc pc = .ok (.bastore, 1)) (kk : zW p l e R s mt args below meth c g Q u nL t (pI m a i.toNatClampNeg (x &&& 1)) (pc + 1) lv st) : zW p l e R s mt args below meth c g Q u nL t m pc lv (.int x :: .int i :: .ref a :: st) := by
  intro H locs cells slots ls hH hS h1 h2 hv
  obtain ⟨ha0, hc⟩ := zArr hH hk (by decide) (by decide)
  show W p l e R s mt args below meth c H locs cells slots Q (F0 mt pc ls (.int x :: .int i :: zRf g a :: st.map (zV g)))
  rw [zrf_pos g ha0]
  refine W.zast C.1 C.2.1 hc (zTyat C 3 rfl _ _) (fun q => by cases q) (by rw [arrV_size]; exact hin) rfl rfl hdg fun H1 e1 e2 e3 => ?_
  refine kk H1 _ cells slots ls (zH_set hH e2 e3 zpI_ne ?_) (hS.put e2 e3 (zFar_at hH (by rw [hk]; decide))) h1 h2 hv
  unfold zCell
  rw [if_neg (by rw [hk]; decide), hk, e1, arrV_store]
  congr 2
  funext j
  by_cases hj : j = i.toNatClampNeg
  · subst hj
    simp [updV, zAv, gI, gJ, pI, pJ, z_up, narrow]
  · simp [updV, zAv, gI, gJ, pI, pJ, z_up, hj]
theorem z_lastore (C : zC p R s mt args meth c g cc nL own h) {a : Nat} (hk : tK t a = 15) {i : Int32} {x : Int64} (hin : vp_in i (tL t a)) (hdg : decode cc pc = .ok (.lastore, 1)) (kk : zW p l e R s mt args below meth c g Q u nL t (pJ m a i.toNatClampNeg x) (pc + 1) lv st) : zW p l e R s mt args below meth c g Q u nL t m pc lv (.long x :: .int i :: .ref a :: st) := by
  intro H locs cells slots ls hH hS h1 h2 hv
  obtain ⟨ha0, hc⟩ := zArr hH hk (by decide) (by decide)
  show W p l e R s mt args below meth c H locs cells slots Q (F0 mt pc ls (.long x :: .int i :: zRf g a :: st.map (zV g)))
  rw [zrf_pos g ha0]
  refine W.last C.1 C.2.1 hc (zTyat C 2 rfl _ _) (fun q => by cases q) (by rw [arrV_size]; exact hin) rfl rfl hdg fun H1 e1 e2 e3 => ?_
  refine kk H1 _ cells slots ls (zH_set hH e2 e3 zpJ_ne ?_) (hS.put e2 e3 (zFar_at hH (by rw [hk]; decide))) h1 h2 hv
  unfold zCell
  rw [if_neg (by rw [hk]; decide), hk, e1, arrV_store]
  congr 2
  funext j
  by_cases hj : j = i.toNatClampNeg
  · subst hj
    simp [updV, zAv, gI, gJ, pI, pJ, z_up, narrow]
  · simp [updV, zAv, gI, gJ, pI, pJ, z_up, hj]
theorem z_alen (C : zC p R s mt args meth c g cc nL own h) {a k : Nat} (hk : tK t a = k) (hlo : 12 < k) (hhi : k ≤ 16) (hdg : decode cc pc = .ok (.arraylength, 1)) (kk : zW p l e R s mt args below meth c g Q u nL t m (pc + 1) lv (.int (Int32.ofNat (tL t a)) :: st)) : zW p l e R s mt args below meth c g Q u nL t m pc lv (.ref a :: st) := by
  intro H locs cells slots ls hH hS h1 h2 hv
  obtain ⟨ha0, hc⟩ := zArr hH hk hlo hhi
  show W p l e R s mt args below meth c H locs cells slots Q (F0 mt pc ls (zRf g a :: st.map (zV g)))
  rw [zrf_pos g ha0]
  have key : ∀ ty : FieldType, ArrOfT s (g.2.2.2.2 k) ty → W p l e R s mt args below meth c H locs cells slots Q (F0 mt pc ls (.ref (g.1 + a) :: st.map (zV g))) := fun ty hty => W.alen (n := Int32.ofNat (tL t a)) C.1 C.2.1 hc (hty _ _) (by rw [arrV_size]) rfl rfl hdg (kk H locs cells slots ls hH hS h1 h2 hv)
  rcases (show k = 13 ∨ k = 14 ∨ k = 15 ∨ k = 16 by omega) with rfl | rfl | rfl | rfl
  · exact key _ (zTyat C 0 rfl)
  · exact key _ (zTyat C 1 rfl)
  · exact key _ (zTyat C 2 rfl)
  · exact key _ (zTyat C 3 rfl)
end ZHEAP
