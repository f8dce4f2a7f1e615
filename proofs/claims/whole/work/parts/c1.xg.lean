/-! led: a throw makes cells that nobody reads -/
section
variable {t : zT} {m m' m1 m2 : zM} {s u w k : Nat} {S : Sc} {T : Ts} {x : Int32} {a1 a2 a3 len : Nat}
def xg (t : zT) : Nat → zT
  | 0 => t
  | d + 1 => tNew (xg t d) 99 0
theorem inv_xg (i : Inv t m w) (d : Nat) : Inv (xg t d) m w := by
  induction d with
  | zero => exact i
  | succ d ih => exact ih.exc
theorem op_xg (o : Op t m s u S T a1 a2 a3 len) (d : Nat) : Op (xg t d) m s u S T a1 a2 a3 len := by
  induction d with
  | zero => exact o
  | succ d ih => exact op_fault ih Fr.rf (fun _ _ => rfl) Gx.exc (fun _ _ => rfl)
theorem xg_N (d : Nat) : tN (xg t d) = tN t + d := by
  induction d with
  | zero => rfl
  | succ d ih =>
    show tN (xg t d) + 1 = tN t + (d + 1)
    omega
theorem xg_K {a : Nat} (d : Nat) (h : tK (xg t d) a ≤ 16) : tK (xg t d) a = tK t a ∧ tL (xg t d) a = tL t a := by
  induction d with
  | zero => exact ⟨rfl, rfl⟩
  | succ d ih =>
    by_cases e : a = tN (xg t d)
    · have h9 : tK (xg t (d + 1)) a = 99 := if_pos e
      omega
    · have h1 : tK (xg t (d + 1)) a = tK (xg t d) a := tK_new e
      have h2 : tL (xg t (d + 1)) a = tL (xg t d) a := tL_new e
      rw [h1] at h
      rw [h1, h2]
      exact ih h
theorem zH_xg {g : zG} {H H1 : Heap} (hH : zH g t m H) (hz : H.size ≤ H1.size) (ho : ∀ q : Nat, q < H.size → H1[q]? = H[q]?) : zH g (xg t (H1.size - H.size)) m H1 := by
  have h0 := hH.1
  refine ⟨by rw [xg_N]; omega, fun b hb => ?_⟩
  obtain ⟨ek, el⟩ := xg_K _ hb
  rw [ek] at hb
  obtain ⟨h1, h2⟩ := hH.2 b hb
  refine ⟨h1, ?_⟩
  have hlt : g.1 + b < H.size := by
    unfold zCell at h2
    split at h2
    · obtain ⟨cell, q1, -⟩ := h2
      exact (Array.getElem?_eq_some_iff.mp q1).1
    · exact (Array.getElem?_eq_some_iff.mp h2).1
  have hq := ho (g.1 + b) hlt
  unfold zCell at h2 ⊢
  rw [ek, el]
  split at h2
  · rename_i hk
    rw [if_pos hk]
    exact h2.kept hq
  · rename_i hk
    rw [if_neg hk, hq, h2]
theorem st_led2 (i : Inv t m w) : wX9_led t m 1 x (fun r m1 => m1 = m ∧ wX12_led t (pJ m 84 0 r.toInt64) 75 x (fun b m2 => gI m2 75 0 = 0 ∧ b = r ∧ gJ m2 84 0 = r.toInt64 ∧ Inv t m2 w)) (fun m1 => m1 = m ∧ ∀ d, wX12_led (xg t d) m 75 x (fun b m2 => gI m2 75 0 = 1 ∧ Inv (xg t d) m2 w)) := by
  rcases i with ⟨c, ⟨s, u, S, T, a1, a2, a3, len, o, rfl⟩ | ⟨a1, a2, a3, len, o, rfl⟩⟩
  · refine sp_ledO o.co (fun k hk => ⟨rfl, ?_⟩) (fun hn => ⟨rfl, fun d => ?_⟩)
    · have f84 : Fr [84] m (pJ m 84 0 (nI k).toInt64) := Fr.pJ Fr.rf (by decide)
      have o' := o.fr f84 (fun a ha => by simp only [List.mem_cons, List.not_mem_nil, or_false] at ha; omega) rfl
      have c' : Cmn (pJ m 84 0 (nI k).toInt64) := c.fr (fun _ => rfl) (fun _ => rfl) (fun _ => rfl) (fun _ => rfl) (fun _ _ _ => rfl)
      refine rsp_ledO o'.ro (fun k' m' hk' f g z => ?_) (fun m' hn' => ?_)
      · rw [hk] at hk'
        cases hk'
        refine ⟨z, rfl, ?_, ?_⟩
        · rw [f.J (by decide), gJJ, if_pos ⟨rfl, rfl⟩]
        · have y := op_asked c' o' f g
          rw [us_e (f84.2 _ _)] at y
          exact y
      · rw [hk] at hn'
        cases hn'
    · have o' := op_xg o d
      refine rsp_ledO o'.ro (fun k' m' hk' => ?_) (fun m' _ f g z => ⟨z, op_asked c o' f g⟩)
      rw [hn] at hk'
      cases hk'
  · refine sp_ledC o ⟨rfl, fun d => ?_⟩
    have i0 : Inv (xg t d) m (us m len) := inv_xg ⟨c, Or.inr ⟨a1, a2, a3, len, o, rfl⟩⟩ d
    refine rsp_ledC (lk75 i0.lay) o.cb.r3 ⟨by rw [gII, if_pos ⟨rfl, rfl⟩], (i0.thr 0).thr 1⟩
end
def nX : String := "java/util/NoSuchElementException"
def nXs : List String := ["java/lang/RuntimeException", "java/lang/Exception"]
theorem wx_425 : Cond.classLink RX9 425 nX ∈ zTs := (zk6 11 rfl rfl)
theorem wx_ini : Cond.initialized nX ∈ zTs := (zk1 25 rfl rfl)
theorem wx_13 : Cond.classLink RL 13 nX ∈ zTs := (zk6 6 rfl rfl)
theorem wx_cw : Cond.codeWith yL_led cL_led 4 (some .int) [(0, 9, 12, 13)] ∈ zTs := (zk6 5 rfl rfl)
theorem wx_st : Cond.static yL_led ∈ zTs := (zk6 4 rfl rfl)
theorem wx_iniL : Cond.initialized RL ∈ zTs := (zk1 0 rfl rfl)
