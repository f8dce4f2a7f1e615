/-! Every call keeps what holds between calls -/
section
variable {t t1 t2 : zT} {m m1 m2 : zM} {s u w len : Nat} {S : Sc} {T : Ts} {x x2 x3 x4 x5 : Int32}
theorem pot_max : pot len ≤ 455625 := by unfold pot; split <;> omega
theorem cp_max (v : Vs S) : us m len + (cpC S T m len).2 + (cpR S T m).2 ≤ 556877 := by
  have p0 := pot_max (len := len)
  by_cases h : 0 < mny S (Wd S T)
  · have p1 := plCap_pot (P := Wd S T) (m := m) (len := len) v
    have p2 := pot_max (len := plLen S (Wd S T) m len)
    rw [cpC_1 h]
    by_cases z : gR m 75 21 = 0
    · rw [cpR_1 h z, us_0 z]
      show pot len + (plCap S (Wd S T) m len).2 + 101252 ≤ 556877
      omega
    · rw [cpR_2 z, us_1 z]
      show pot len + 101252 + (plCap S (Wd S T) m len).2 + 0 ≤ 556877
      omega
  · rw [cpC_0 (by omega), cpR_0 (by omega)]
    show us m len + 0 + 0 ≤ 556877
    by_cases z : gR m 75 21 = 0
    · rw [us_0 z]; omega
    · rw [us_1 z]; omega
theorem st_ways (i : Inv t m w) : ∃ P : Int32 → Int32 → zM → Prop, wX9_ways t m 1 (fun r m1 => wX12_ways t m1 75 (fun r2 m2 => P r r2 m2)) ∧ ∀ r r2 m2, P r r2 m2 → r = r2 ∧ ∃ w', Inv t m2 w' ∧ w ≤ w' := by
  rcases i with ⟨c, ⟨s, u, S, T, a1, a2, a3, len, o, rfl⟩ | ⟨a1, a2, a3, len, o, rfl⟩⟩
  · exact ⟨fun r r2 m2 => Fin m m2 r r2, call_ways o.co o.ro, fun r r2 m2 h => inv_res c (res_fin o h)⟩
  · exact ⟨fun r r2 m2 => Fin m m2 r r2, cl_ways o.cb, fun r r2 m2 h => inv_cl c o h⟩
theorem st_worlds (i : Inv t m w) : ∃ P : Int32 → Int32 → zM → Prop, wX9_worlds t m 1 (fun r m1 => wX12_worlds t m1 75 (fun r2 m2 => P r r2 m2)) ∧ ∀ r r2 m2, P r r2 m2 → r = r2 ∧ ∃ w', Inv t m2 w' ∧ w ≤ w' := by
  rcases i with ⟨c, ⟨s, u, S, T, a1, a2, a3, len, o, rfl⟩ | ⟨a1, a2, a3, len, o, rfl⟩⟩
  · exact ⟨fun r r2 m2 => Fin m m2 r r2, call_worlds o.co o.ro, fun r r2 m2 h => inv_res c (res_fin o h)⟩
  · exact ⟨fun r r2 m2 => Fin m m2 r r2, cl_worlds o.cb, fun r r2 m2 h => inv_cl c o h⟩
theorem st_world (i : Inv t m w) : ∃ P : Int32 → Int32 → zM → Prop, wX9_world t m 1 x (fun r m1 => wX12_world t m1 75 x (fun r2 m2 => P r r2 m2)) ∧ ∀ r r2 m2, P r r2 m2 → r = r2 ∧ ∃ w', Inv t m2 w' ∧ w ≤ w' := by
  rcases i with ⟨c, ⟨s, u, S, T, a1, a2, a3, len, o, rfl⟩ | ⟨a1, a2, a3, len, o, rfl⟩⟩
  · exact ⟨fun r r2 m2 => Fin m m2 r r2, call_world o.co o.ro, fun r r2 m2 h => inv_res c (res_fin o h)⟩
  · exact ⟨fun r r2 m2 => Fin m m2 r r2, cl_world o.cb, fun r r2 m2 h => inv_cl c o h⟩
theorem st_lawful (i : Inv t m w) : ∃ P : Int32 → Int32 → zM → Prop, wX9_lawful t m 1 x (fun r m1 => wX12_lawful t m1 75 x (fun r2 m2 => P r r2 m2)) ∧ ∀ r r2 m2, P r r2 m2 → r = r2 ∧ ∃ w', Inv t m2 w' ∧ w ≤ w' := by
  rcases i with ⟨c, ⟨s, u, S, T, a1, a2, a3, len, o, rfl⟩ | ⟨a1, a2, a3, len, o, rfl⟩⟩
  · exact ⟨fun r r2 m2 => Fin m m2 r r2, call_lawful o.co o.ro, fun r r2 m2 h => inv_res c (res_fin o h)⟩
  · exact ⟨fun r r2 m2 => Fin m m2 r r2, cl_lawful o.cb, fun r r2 m2 h => inv_cl c o h⟩
theorem st_culprit (i : Inv t m w) : ∃ P : Int32 → Int32 → zM → Prop, wX9_culprit t m 1 (fun r m1 => wX12_culprit t m1 75 (fun r2 m2 => P r r2 m2)) ∧ ∀ r r2 m2, P r r2 m2 → r = r2 ∧ ∃ w', Inv t m2 w' ∧ w ≤ w' := by
  rcases i with ⟨c, ⟨s, u, S, T, a1, a2, a3, len, o, rfl⟩ | ⟨a1, a2, a3, len, o, rfl⟩⟩
  · exact ⟨fun r r2 m2 => Fin m m2 r r2, call_culprit o.co o.ro, fun r r2 m2 h => inv_res c (res_fin o h)⟩
  · exact ⟨fun r r2 m2 => Fin m m2 r r2, cl_culprit o.cb, fun r r2 m2 h => inv_cl c o h⟩
theorem st_sure (i : Inv t m w) : ∃ P : Int32 → Int32 → zM → Prop, wX9_sure t m 1 x (fun r m1 => wX12_sure t m1 75 x (fun r2 m2 => P r r2 m2)) ∧ ∀ r r2 m2, P r r2 m2 → r = r2 ∧ ∃ w', Inv t m2 w' ∧ w ≤ w' := by
  rcases i with ⟨c, ⟨s, u, S, T, a1, a2, a3, len, o, rfl⟩ | ⟨a1, a2, a3, len, o, rfl⟩⟩
  · exact ⟨fun r r2 m2 => Fin m m2 r r2, call_sure o.co o.ro, fun r r2 m2 h => inv_res c (res_fin o h)⟩
  · exact ⟨fun r r2 m2 => Fin m m2 r r2, cl_sure o.cb, fun r r2 m2 h => inv_cl c o h⟩
theorem st_may (i : Inv t m w) : ∃ P : Int32 → Int32 → zM → Prop, wX9_may t m 1 x (fun r m1 => wX12_may t m1 75 x (fun r2 m2 => P r r2 m2)) ∧ ∀ r r2 m2, P r r2 m2 → r = r2 ∧ ∃ w', Inv t m2 w' ∧ w ≤ w' := by
  rcases i with ⟨c, ⟨s, u, S, T, a1, a2, a3, len, o, rfl⟩ | ⟨a1, a2, a3, len, o, rfl⟩⟩
  · exact ⟨fun r r2 m2 => Fin m m2 r r2, call_may o.co o.ro, fun r r2 m2 h => inv_res c (res_fin o h)⟩
  · exact ⟨fun r r2 m2 => Fin m m2 r r2, cl_may o.cb, fun r r2 m2 h => inv_cl c o h⟩
theorem st_likely (i : Inv t m w) : ∃ P : Int32 → Int32 → zM → Prop, wX9_likely t m 1 x x2 x3 (fun r m1 => wX12_likely t m1 75 x x2 x3 (fun r2 m2 => P r r2 m2)) ∧ ∀ r r2 m2, P r r2 m2 → r = r2 ∧ ∃ w', Inv t m2 w' ∧ w ≤ w' := by
  rcases i with ⟨c, ⟨s, u, S, T, a1, a2, a3, len, o, rfl⟩ | ⟨a1, a2, a3, len, o, rfl⟩⟩
  · exact ⟨fun r r2 m2 => Fin m m2 r r2, call_likely o.co o.ro, fun r r2 m2 h => inv_res c (res_fin o h)⟩
  · exact ⟨fun r r2 m2 => Fin m m2 r r2, cl_likely o.cb, fun r r2 m2 h => inv_cl c o h⟩
theorem st_settled (i : Inv t m w) : ∃ P : Int32 → Int32 → zM → Prop, wX9_settled t m 1 (fun r m1 => wX12_settled t m1 75 (fun r2 m2 => P r r2 m2)) ∧ ∀ r r2 m2, P r r2 m2 → r = r2 ∧ ∃ w', Inv t m2 w' ∧ w ≤ w' := by
  rcases i with ⟨c, ⟨s, u, S, T, a1, a2, a3, len, o, rfl⟩ | ⟨a1, a2, a3, len, o, rfl⟩⟩
  · exact ⟨fun r r2 m2 => Fin m m2 r r2, call_settled o.co o.ro, fun r r2 m2 h => inv_res c (res_fin o h)⟩
  · exact ⟨fun r r2 m2 => Fin m m2 r r2, cl_settled o.cb, fun r r2 m2 h => inv_cl c o h⟩
theorem st_right (i : Inv t m w) : ∃ P : Int32 → Int32 → zM → Prop, wX9_right t m 1 x (fun r m1 => wX12_right t m1 75 x (fun r2 m2 => P r r2 m2)) ∧ ∀ r r2 m2, P r r2 m2 → r = r2 ∧ ∃ w', Inv t m2 w' ∧ w ≤ w' := by
  rcases i with ⟨c, ⟨s, u, S, T, a1, a2, a3, len, o, rfl⟩ | ⟨a1, a2, a3, len, o, rfl⟩⟩
  · exact ⟨fun r r2 m2 => Fin m m2 r r2, call_right o.co o.ro, fun r r2 m2 h => inv_res c (res_fin o h)⟩
  · exact ⟨fun r r2 m2 => Fin m m2 r r2, cl_right o.cb, fun r r2 m2 h => inv_cl c o h⟩
theorem st_wrongs (i : Inv t m w) : ∃ P : Int32 → Int32 → zM → Prop, wX9_wrongs t m 1 x x2 (fun r m1 => wX12_wrongs t m1 75 x x2 (fun r2 m2 => P r r2 m2)) ∧ ∀ r r2 m2, P r r2 m2 → r = r2 ∧ ∃ w', Inv t m2 w' ∧ w ≤ w' := by
  rcases i with ⟨c, ⟨s, u, S, T, a1, a2, a3, len, o, rfl⟩ | ⟨a1, a2, a3, len, o, rfl⟩⟩
  · exact ⟨fun r r2 m2 => Fin m m2 r r2, call_wrongs o.co o.ro, fun r r2 m2 h => inv_res c (res_fin o h)⟩
  · exact ⟨fun r r2 m2 => Fin m m2 r r2, cl_wrongs o.cb, fun r r2 m2 h => inv_cl c o h⟩
theorem st_proof (i : Inv t m w) : ∃ P : Int32 → Int32 → zM → Prop, wX9_proof t m 1 x (fun r m1 => wX12_proof t m1 75 x (fun r2 m2 => P r r2 m2)) ∧ ∀ r r2 m2, P r r2 m2 → r = r2 ∧ ∃ w', Inv t m2 w' ∧ w ≤ w' := by
  rcases i with ⟨c, ⟨s, u, S, T, a1, a2, a3, len, o, rfl⟩ | ⟨a1, a2, a3, len, o, rfl⟩⟩
  · exact ⟨fun r r2 m2 => Fin m m2 r r2 ∨ FinP S m m2 r r2, call_proof o.co o.ro o.pf, fun r r2 m2 h => h.elim (fun h => inv_res c (res_fin o h)) (fun h => inv_res c (res_finP o h))⟩
  · exact ⟨fun r r2 m2 => Fin m m2 r r2, cl_proof o.cb, fun r r2 m2 h => inv_cl c o h⟩
theorem st_proofBy (i : Inv t m w) : ∃ P : Int32 → Int32 → zM → Prop, wX9_proofBy t m 1 x (fun r m1 => wX12_proofBy t m1 75 x (fun r2 m2 => P r r2 m2)) ∧ ∀ r r2 m2, P r r2 m2 → r = r2 ∧ ∃ w', Inv t m2 w' ∧ w ≤ w' := by
  rcases i with ⟨c, ⟨s, u, S, T, a1, a2, a3, len, o, rfl⟩ | ⟨a1, a2, a3, len, o, rfl⟩⟩
  · exact ⟨fun r r2 m2 => Fin m m2 r r2 ∨ FinP S m m2 r r2, call_proofBy o.co o.ro o.pf, fun r r2 m2 h => h.elim (fun h => inv_res c (res_fin o h)) (fun h => inv_res c (res_finP o h))⟩
  · exact ⟨fun r r2 m2 => Fin m m2 r r2, cl_proofBy o.cb, fun r r2 m2 h => inv_cl c o h⟩
theorem st_left (i : Inv t m w) : ∃ P : Int32 → Int32 → zM → Prop, wX9_left t m 1 x x2 (fun r m1 => wX12_left t m1 75 x x2 (fun r2 m2 => P r r2 m2)) ∧ ∀ r r2 m2, P r r2 m2 → r = r2 ∧ ∃ w', Inv t m2 w' ∧ w ≤ w' := by
  rcases i with ⟨c, ⟨s, u, S, T, a1, a2, a3, len, o, rfl⟩ | ⟨a1, a2, a3, len, o, rfl⟩⟩
  · exact ⟨fun r r2 m2 => Fin m m2 r r2 ∨ FinL u S T m m2 r r2, call_left o.co o.ro, fun r r2 m2 h => h.elim (fun h => inv_res c (res_fin o h)) (fun h => inv_res c (res_finL o h))⟩
  · exact ⟨fun r r2 m2 => Fin m m2 r r2, cl_left o.cb, fun r r2 m2 h => inv_cl c o h⟩
theorem st_listen (i : Inv t m w) : ∃ P : Int32 → Int32 → zM → Prop, wX9_listen t m 1 (fun r m1 => wX12_listen t m1 75 (fun r2 m2 => P r r2 m2)) ∧ ∀ r r2 m2, P r r2 m2 → r = r2 ∧ ∃ w', Inv t m2 w' ∧ w ≤ w' := by
  rcases i with ⟨c, ⟨s, u, S, T, a1, a2, a3, len, o, rfl⟩ | ⟨a1, a2, a3, len, o, rfl⟩⟩
  · exact ⟨fun r r2 m2 => FinL u S T m m2 r r2, call_listen o.co o.ro o.les, fun r r2 m2 h => inv_res c (res_finL o h)⟩
  · exact ⟨fun r r2 m2 => Fin m m2 r r2, cl_listen o.cb, fun r r2 m2 h => inv_cl c o h⟩
theorem st_believes (i : Inv t m w) : ∃ P : Int32 → Int32 → zM → Prop, wX9_believes t m 1 x x2 (fun r m1 => wX12_believes t m1 75 x x2 (fun r2 m2 => P r r2 m2)) ∧ ∀ r r2 m2, P r r2 m2 → r = r2 ∧ ∃ w', Inv t m2 w' ∧ w ≤ w' := by
  rcases i with ⟨c, ⟨s, u, S, T, a1, a2, a3, len, o, rfl⟩ | ⟨a1, a2, a3, len, o, rfl⟩⟩
  · exact ⟨fun r r2 m2 => Fin m m2 r r2, call_believes o.co o.ro, fun r r2 m2 h => inv_res c (res_fin o h)⟩
  · exact ⟨fun r r2 m2 => Fin m m2 r r2, cl_believes o.cb, fun r r2 m2 h => inv_cl c o h⟩
theorem st_knows (i : Inv t m w) : ∃ P : Int32 → Int32 → zM → Prop, wX9_knows t m 1 x (fun r m1 => wX12_knows t m1 75 x (fun r2 m2 => P r r2 m2)) ∧ ∀ r r2 m2, P r r2 m2 → r = r2 ∧ ∃ w', Inv t m2 w' ∧ w ≤ w' := by
  rcases i with ⟨c, ⟨s, u, S, T, a1, a2, a3, len, o, rfl⟩ | ⟨a1, a2, a3, len, o, rfl⟩⟩
  · exact ⟨fun r r2 m2 => Fin m m2 r r2, call_knows o.co o.ro, fun r r2 m2 h => inv_res c (res_fin o h)⟩
  · exact ⟨fun r r2 m2 => Fin m m2 r r2, cl_knows o.cb, fun r r2 m2 h => inv_cl c o h⟩
theorem st_share (i : Inv t m w) : ∃ P : Int32 → Int32 → zM → Prop, wX9_share t m 1 x (fun r m1 => wX12_share t m1 75 x (fun r2 m2 => P r r2 m2)) ∧ ∀ r r2 m2, P r r2 m2 → r = r2 ∧ ∃ w', Inv t m2 w' ∧ w ≤ w' := by
  rcases i with ⟨c, ⟨s, u, S, T, a1, a2, a3, len, o, rfl⟩ | ⟨a1, a2, a3, len, o, rfl⟩⟩
  · exact ⟨fun r r2 m2 => Fin m m2 r r2, call_share o.co o.ro, fun r r2 m2 h => inv_res c (res_fin o h)⟩
  · exact ⟨fun r r2 m2 => Fin m m2 r r2, cl_share o.cb, fun r r2 m2 h => inv_cl c o h⟩
theorem st_passes (i : Inv t m w) : ∃ P : Int32 → Int32 → zM → Prop, wX9_passes t m 1 x x2 x3 (fun r m1 => wX12_passes t m1 75 x x2 x3 (fun r2 m2 => P r r2 m2)) ∧ ∀ r r2 m2, P r r2 m2 → r = r2 ∧ ∃ w', Inv t m2 w' ∧ w ≤ w' := by
  rcases i with ⟨c, ⟨s, u, S, T, a1, a2, a3, len, o, rfl⟩ | ⟨a1, a2, a3, len, o, rfl⟩⟩
  · exact ⟨fun r r2 m2 => Fin m m2 r r2, call_passes o.co o.ro, fun r r2 m2 h => inv_res c (res_fin o h)⟩
  · exact ⟨fun r r2 m2 => Fin m m2 r r2, cl_passes o.cb, fun r r2 m2 h => inv_cl c o h⟩
theorem st_agree (i : Inv t m w) : ∃ P : Int32 → Int32 → zM → Prop, wX9_agree t m 1 x x2 x3 (fun r m1 => wX12_agree t m1 75 x x2 x3 (fun r2 m2 => P r r2 m2)) ∧ ∀ r r2 m2, P r r2 m2 → r = r2 ∧ ∃ w', Inv t m2 w' ∧ w ≤ w' := by
  rcases i with ⟨c, ⟨s, u, S, T, a1, a2, a3, len, o, rfl⟩ | ⟨a1, a2, a3, len, o, rfl⟩⟩
  · exact ⟨fun r r2 m2 => Fin m m2 r r2, call_agree o.co o.ro, fun r r2 m2 h => inv_res c (res_fin o h)⟩
  · exact ⟨fun r r2 m2 => Fin m m2 r r2, cl_agree o.cb, fun r r2 m2 h => inv_cl c o h⟩
theorem st_home (i : Inv t m w) : ∃ P : Int32 → Int32 → zM → Prop, wX9_home t m 1 x (fun r m1 => wX12_home t m1 75 x (fun r2 m2 => P r r2 m2)) ∧ ∀ r r2 m2, P r r2 m2 → r = r2 ∧ ∃ w', Inv t m2 w' ∧ w ≤ w' := by
  rcases i with ⟨c, ⟨s, u, S, T, a1, a2, a3, len, o, rfl⟩ | ⟨a1, a2, a3, len, o, rfl⟩⟩
  · exact ⟨fun r r2 m2 => Fin m m2 r r2, call_home o.co o.ro, fun r r2 m2 h => inv_res c (res_fin o h)⟩
  · exact ⟨fun r r2 m2 => Fin m m2 r r2, cl_home o.cb, fun r r2 m2 h => inv_cl c o h⟩
theorem st_bestHome (i : Inv t m w) : ∃ P : Int32 → Int32 → zM → Prop, wX9_bestHome t m 1 (fun r m1 => wX12_bestHome t m1 75 (fun r2 m2 => P r r2 m2)) ∧ ∀ r r2 m2, P r r2 m2 → r = r2 ∧ ∃ w', Inv t m2 w' ∧ w ≤ w' := by
  rcases i with ⟨c, ⟨s, u, S, T, a1, a2, a3, len, o, rfl⟩ | ⟨a1, a2, a3, len, o, rfl⟩⟩
  · exact ⟨fun r r2 m2 => Fin m m2 r r2, call_bestHome o.co o.ro, fun r r2 m2 h => inv_res c (res_fin o h)⟩
  · exact ⟨fun r r2 m2 => Fin m m2 r r2, cl_bestHome o.cb, fun r r2 m2 h => inv_cl c o h⟩
theorem st_byLaws (i : Inv t m w) : ∃ P : Int32 → Int32 → zM → Prop, wX9_byLaws t m 1 x (fun r m1 => wX12_byLaws t m1 75 x (fun r2 m2 => P r r2 m2)) ∧ ∀ r r2 m2, P r r2 m2 → r = r2 ∧ ∃ w', Inv t m2 w' ∧ w ≤ w' := by
  rcases i with ⟨c, ⟨s, u, S, T, a1, a2, a3, len, o, rfl⟩ | ⟨a1, a2, a3, len, o, rfl⟩⟩
  · exact ⟨fun r r2 m2 => Fin m m2 r r2, call_byLaws o.co o.ro, fun r r2 m2 h => inv_res c (res_fin o h)⟩
  · exact ⟨fun r r2 m2 => Fin m m2 r r2, cl_byLaws o.cb, fun r r2 m2 h => inv_cl c o h⟩
theorem st_cheapest (i : Inv t m w) : ∃ P : Int32 → Int32 → zM → Prop, wX9_cheapest t m 1 (fun r m1 => wX12_cheapest t m1 75 (fun r2 m2 => P r r2 m2)) ∧ ∀ r r2 m2, P r r2 m2 → r = r2 ∧ ∃ w', Inv t m2 w' ∧ w ≤ w' := by
  rcases i with ⟨c, ⟨s, u, S, T, a1, a2, a3, len, o, rfl⟩ | ⟨a1, a2, a3, len, o, rfl⟩⟩
  · exact ⟨fun r r2 m2 => Fin m m2 r r2, call_cheapest o.co o.ro, fun r r2 m2 h => inv_res c (res_fin o h)⟩
  · exact ⟨fun r r2 m2 => Fin m m2 r r2, cl_cheapest o.cb, fun r r2 m2 h => inv_cl c o h⟩
theorem st_years (i : Inv t m w) : ∃ P : Int32 → Int32 → zM → Prop, wX9_years t m 1 x x2 x3 (fun r m1 => wX12_years t m1 75 x x2 x3 (fun r2 m2 => P r r2 m2)) ∧ ∀ r r2 m2, P r r2 m2 → r = r2 ∧ ∃ w', Inv t m2 w' ∧ w ≤ w' := by
  rcases i with ⟨c, ⟨s, u, S, T, a1, a2, a3, len, o, rfl⟩ | ⟨a1, a2, a3, len, o, rfl⟩⟩
  · exact ⟨fun r r2 m2 => Fin m m2 r r2, call_years o.co.cor.lay, fun r r2 m2 h => inv_res c (res_fin o h)⟩
  · exact ⟨fun r r2 m2 => Fin m m2 r r2, call_years o.cb.lay, fun r r2 m2 h => inv_cl c o h⟩
theorem st_still (i : Inv t m w) : ∃ P : Int32 → Int32 → zM → Prop, wX9_still t m 1 x x2 x3 (fun r m1 => wX12_still t m1 75 x x2 x3 (fun r2 m2 => P r r2 m2)) ∧ ∀ r r2 m2, P r r2 m2 → r = r2 ∧ ∃ w', Inv t m2 w' ∧ w ≤ w' := by
  rcases i with ⟨c, ⟨s, u, S, T, a1, a2, a3, len, o, rfl⟩ | ⟨a1, a2, a3, len, o, rfl⟩⟩
  · exact ⟨fun r r2 m2 => Fin m m2 r r2, call_still o.co.cor.lay, fun r r2 m2 h => inv_res c (res_fin o h)⟩
  · exact ⟨fun r r2 m2 => Fin m m2 r r2, call_still o.cb.lay, fun r r2 m2 h => inv_cl c o h⟩
theorem st_seed (i : Inv t m w) : ∃ P : Int32 → Int32 → zM → Prop, wX9_seed t m 1 x (fun r m1 => wX12_seed t m1 75 x (fun r2 m2 => P r r2 m2)) ∧ ∀ r r2 m2, P r r2 m2 → r = r2 ∧ ∃ w', Inv t m2 w' ∧ w ≤ w' := by
  rcases i with ⟨c, ⟨s, u, S, T, a1, a2, a3, len, o, rfl⟩ | ⟨a1, a2, a3, len, o, rfl⟩⟩
  · exact ⟨fun r r2 m2 => Fin m m2 r r2 ∨ FinT t s u S T m m2 r r2, call_seed o.co o.ro, fun r r2 m2 h => h.elim (fun h => inv_res c (res_fin o h)) (fun h => inv_res c (res_finT o h))⟩
  · exact ⟨fun r r2 m2 => Fin m m2 r r2, cl_seed o.cb, fun r r2 m2 h => inv_cl c o h⟩
theorem st_draw (i : Inv t m w) : ∃ P : Int32 → Int32 → zM → Prop, wX9_draw t m 1 (fun r m1 => wX12_draw t m1 75 (fun r2 m2 => P r r2 m2)) ∧ ∀ r r2 m2, P r r2 m2 → r = r2 ∧ ∃ w', Inv t m2 w' ∧ w ≤ w' := by
  rcases i with ⟨c, ⟨s, u, S, T, a1, a2, a3, len, o, rfl⟩ | ⟨a1, a2, a3, len, o, rfl⟩⟩
  · exact ⟨fun r r2 m2 => Fin m m2 r r2 ∨ FinT t s u S T m m2 r r2, call_draw o.co o.ro, fun r r2 m2 h => h.elim (fun h => inv_res c (res_fin o h)) (fun h => inv_res c (res_finT o h))⟩
  · exact ⟨fun r r2 m2 => Fin m m2 r r2, cl_draw o.cb, fun r r2 m2 h => inv_cl c o h⟩
theorem st_tries (i : Inv t m w) : ∃ P : Int32 → Int32 → zM → Prop, wX9_tries t m 1 x (fun r m1 => wX12_tries t m1 75 x (fun r2 m2 => P r r2 m2)) ∧ ∀ r r2 m2, P r r2 m2 → r = r2 ∧ ∃ w', Inv t m2 w' ∧ w ≤ w' := by
  rcases i with ⟨c, ⟨s, u, S, T, a1, a2, a3, len, o, rfl⟩ | ⟨a1, a2, a3, len, o, rfl⟩⟩
  · exact ⟨fun r r2 m2 => Fin m m2 r r2 ∨ FinT t s u S T m m2 r r2, call_tries o.co o.ro, fun r r2 m2 h => h.elim (fun h => inv_res c (res_fin o h)) (fun h => inv_res c (res_finT o h))⟩
  · exact ⟨fun r r2 m2 => Fin m m2 r r2, cl_tries o.cb, fun r r2 m2 h => inv_cl c o h⟩
theorem st_fact (i : Inv t m w) : ∃ P : Int32 → Int32 → zM → Prop, wX9_fact t m 1 x (fun r m1 => wX12_fact t m1 75 x (fun r2 m2 => P r r2 m2)) ∧ ∀ r r2 m2, P r r2 m2 → r = r2 ∧ ∃ w', Inv t m2 w' ∧ w ≤ w' := by
  rcases i with ⟨c, ⟨s, u, S, T, a1, a2, a3, len, o, rfl⟩ | ⟨a1, a2, a3, len, o, rfl⟩⟩
  · exact ⟨fun r r2 m2 => Fin m m2 r r2, call_fact o.co o.ro, fun r r2 m2 h => inv_res c (res_fin o h)⟩
  · exact ⟨fun r r2 m2 => Fin m m2 r r2, cl_fact o.cb, fun r r2 m2 h => inv_cl c o h⟩
theorem st_spent (i : Inv t m w) : ∃ P : Int32 → Int32 → zM → Prop, wX9_spent t m 1 (fun r m1 => wX12_spent t m1 75 (fun r2 m2 => P r r2 m2)) ∧ ∀ r r2 m2, P r r2 m2 → r = r2 ∧ ∃ w', Inv t m2 w' ∧ w ≤ w' := by
  rcases i with ⟨c, ⟨s, u, S, T, a1, a2, a3, len, o, rfl⟩ | ⟨a1, a2, a3, len, o, rfl⟩⟩
  · exact ⟨fun r r2 m2 => Fin m m2 r r2, call_spent o.co o.ro, fun r r2 m2 h => inv_res c (res_fin o h)⟩
  · exact ⟨fun r r2 m2 => Fin m m2 r r2, cl_spent o.cb, fun r r2 m2 h => inv_cl c o h⟩
theorem st_mark (i : Inv t m w) : ∃ P : Int32 → Int32 → zM → Prop, wX9_mark t m 1 (fun r m1 => wX12_mark t m1 75 (fun r2 m2 => P r r2 m2)) ∧ ∀ r r2 m2, P r r2 m2 → r = r2 ∧ ∃ w', Inv t m2 w' ∧ w ≤ w' := by
  rcases i with ⟨c, ⟨s, u, S, T, a1, a2, a3, len, o, rfl⟩ | ⟨a1, a2, a3, len, o, rfl⟩⟩
  · exact ⟨fun r r2 m2 => Fin m m2 r r2 ∨ FinT t s u S T m m2 r r2, call_mark o.co o.ro, fun r r2 m2 h => h.elim (fun h => inv_res c (res_fin o h)) (fun h => inv_res c (res_finT o h))⟩
  · exact ⟨fun r r2 m2 => Fin m m2 r r2, cl_mark o.cb, fun r r2 m2 h => inv_cl c o h⟩
theorem st_back (i : Inv t m w) : ∃ P : Int32 → Int32 → zM → Prop, wX9_back t m 1 x (fun r m1 => wX12_back t m1 75 x (fun r2 m2 => P r r2 m2)) ∧ ∀ r r2 m2, P r r2 m2 → r = r2 ∧ ∃ w', Inv t m2 w' ∧ w ≤ w' := by
  rcases i with ⟨c, ⟨s, u, S, T, a1, a2, a3, len, o, rfl⟩ | ⟨a1, a2, a3, len, o, rfl⟩⟩
  · exact ⟨fun r r2 m2 => Fin m m2 r r2 ∨ FinT t s u S T m m2 r r2, call_back o.co o.ro, fun r r2 m2 h => h.elim (fun h => inv_res c (res_fin o h)) (fun h => inv_res c (res_finT o h))⟩
  · exact ⟨fun r r2 m2 => Fin m m2 r r2, cl_back o.cb, fun r r2 m2 h => inv_cl c o h⟩
theorem st_saying (i : Inv t m w) : ∃ P : Int32 → Int32 → zM → Prop, wX9_saying t m 1 x x2 (fun r m1 => wX12_saying t m1 75 x x2 (fun r2 m2 => P r r2 m2)) ∧ ∀ r r2 m2, P r r2 m2 → r = r2 ∧ ∃ w', Inv t m2 w' ∧ w ≤ w' := by
  rcases i with ⟨c, ⟨s, u, S, T, a1, a2, a3, len, o, rfl⟩ | ⟨a1, a2, a3, len, o, rfl⟩⟩
  · exact ⟨fun r r2 m2 => Fin m m2 r r2, call_saying o.co o.ro, fun r r2 m2 h => inv_res c (res_fin o h)⟩
  · exact ⟨fun r r2 m2 => Fin m m2 r r2, cl_saying o.cb, fun r r2 m2 h => inv_cl c o h⟩
theorem st_worst (i : Inv t m w) : ∃ (c1 c2 : Nat × Nat) (P : Int32 → Int32 → zT → zM → Prop), c1.1 ≤ 3 ∧ c2.1 ≤ 3 ∧ w + c1.2 + c2.2 ≤ 556877 ∧ wX9_worst c1 t m 1 (fun r t1 m1 => wX12_worst c2 t1 m1 75 (fun r2 t2 m2 => P r r2 t2 m2)) ∧ ∀ r r2 t2 m2, P r r2 t2 m2 → r = r2 ∧ ∃ w', Inv t2 m2 w' ∧ w + c1.2 + c2.2 ≤ w' := by
  have mx := i.max
  rcases i with ⟨c, ⟨s, u, S, T, a1, a2, a3, len, o, rfl⟩ | ⟨a1, a2, a3, len, o, rfl⟩⟩
  · exact ⟨cpC S T m len, cpR S T m, fun r r2 t2 m2 => Res t m s u S len (cpC S T m len) (cpR S T m) r r2 t2 m2, cpC_3, cpR_3, cp_max o.co.cor.vs, call_worst o, fun r r2 t2 m2 h => inv_res c h⟩
  · exact ⟨(0, 0), (0, 0), fun r r2 t2 m2 => t2 = t ∧ Fin m m2 r r2, Nat.zero_le _, Nat.zero_le _, mx, cl_worst o.cb, fun r r2 t2 m2 h => by
      obtain ⟨e, h⟩ := h
      subst e
      exact inv_cl c o h⟩
theorem st_first (i : Inv t m w) : ∃ (c1 c2 : Nat × Nat) (P : Int32 → Int32 → zT → zM → Prop), c1.1 ≤ 3 ∧ c2.1 ≤ 3 ∧ w + c1.2 + c2.2 ≤ 556877 ∧ wX9_first c1 t m 1 (fun r t1 m1 => wX12_first c2 t1 m1 75 (fun r2 t2 m2 => P r r2 t2 m2)) ∧ ∀ r r2 t2 m2, P r r2 t2 m2 → r = r2 ∧ ∃ w', Inv t2 m2 w' ∧ w + c1.2 + c2.2 ≤ w' := by
  have mx := i.max
  rcases i with ⟨c, ⟨s, u, S, T, a1, a2, a3, len, o, rfl⟩ | ⟨a1, a2, a3, len, o, rfl⟩⟩
  · exact ⟨cpC S T m len, cpR S T m, fun r r2 t2 m2 => Res t m s u S len (cpC S T m len) (cpR S T m) r r2 t2 m2, cpC_3, cpR_3, cp_max o.co.cor.vs, call_first o, fun r r2 t2 m2 h => inv_res c h⟩
  · exact ⟨(0, 0), (0, 0), fun r r2 t2 m2 => t2 = t ∧ Fin m m2 r r2, Nat.zero_le _, Nat.zero_le _, mx, cl_first o.cb, fun r r2 t2 m2 h => by
      obtain ⟨e, h⟩ := h
      subst e
      exact inv_cl c o h⟩
theorem st_meanFirst (i : Inv t m w) : ∃ (c1 c2 : Nat × Nat) (P : Int32 → Int32 → zT → zM → Prop), c1.1 ≤ 3 ∧ c2.1 ≤ 3 ∧ w + c1.2 + c2.2 ≤ 556877 ∧ wX9_meanFirst c1 t m 1 (fun r t1 m1 => wX12_meanFirst c2 t1 m1 75 (fun r2 t2 m2 => P r r2 t2 m2)) ∧ ∀ r r2 t2 m2, P r r2 t2 m2 → r = r2 ∧ ∃ w', Inv t2 m2 w' ∧ w + c1.2 + c2.2 ≤ w' := by
  have mx := i.max
  rcases i with ⟨c, ⟨s, u, S, T, a1, a2, a3, len, o, rfl⟩ | ⟨a1, a2, a3, len, o, rfl⟩⟩
  · exact ⟨cpC S T m len, cpR S T m, fun r r2 t2 m2 => Res t m s u S len (cpC S T m len) (cpR S T m) r r2 t2 m2, cpC_3, cpR_3, cp_max o.co.cor.vs, call_meanFirst o, fun r r2 t2 m2 h => inv_res c h⟩
  · exact ⟨(0, 0), (0, 0), fun r r2 t2 m2 => t2 = t ∧ Fin m m2 r r2, Nat.zero_le _, Nat.zero_le _, mx, cl_meanFirst o.cb, fun r r2 t2 m2 h => by
      obtain ⟨e, h⟩ := h
      subst e
      exact inv_cl c o h⟩
theorem st_mean (i : Inv t m w) : ∃ (c1 c2 : Nat × Nat) (P : Int32 → Int32 → zT → zM → Prop), c1.1 ≤ 3 ∧ c2.1 ≤ 3 ∧ w + c1.2 + c2.2 ≤ 556877 ∧ wX9_mean c1 t m 1 x (fun r t1 m1 => wX12_mean c2 t1 m1 75 x (fun r2 t2 m2 => P r r2 t2 m2)) ∧ ∀ r r2 t2 m2, P r r2 t2 m2 → r = r2 ∧ ∃ w', Inv t2 m2 w' ∧ w + c1.2 + c2.2 ≤ w' := by
  have mx := i.max
  rcases i with ⟨c, ⟨s, u, S, T, a1, a2, a3, len, o, rfl⟩ | ⟨a1, a2, a3, len, o, rfl⟩⟩
  · exact ⟨cpC S T m len, cpR S T m, fun r r2 t2 m2 => Res t m s u S len (cpC S T m len) (cpR S T m) r r2 t2 m2, cpC_3, cpR_3, cp_max o.co.cor.vs, call_mean o, fun r r2 t2 m2 h => inv_res c h⟩
  · exact ⟨(0, 0), (0, 0), fun r r2 t2 m2 => t2 = t ∧ Fin m m2 r r2, Nat.zero_le _, Nat.zero_le _, mx, cl_mean o.cb, fun r r2 t2 m2 h => by
      obtain ⟨e, h⟩ := h
      subst e
      exact inv_cl c o h⟩
theorem st_feed (i : Inv t m w) : ∃ P : Int32 → Int32 → zM → Prop, wX9_feed t m 1 x x2 x3 x4 x5 (fun r m1 => wX12_feed t m1 75 x x2 x3 x4 x5 (fun r2 m2 => P r r2 m2)) ∧ ∀ r r2 m2, P r r2 m2 → r = r2 ∧ ∃ w', Inv t m2 w' ∧ w ≤ w' := by
  obtain ⟨f, B, Tp⟩ := i.1.tp
  exact ⟨fun r r2 m2 => FinF m m2 r r2, call_feed i.lay Tp, fun r r2 m2 h => inv_finF i h⟩
theorem st_fault (i : Inv t m w) : ∃ P : Int32 → Int32 → zM → Prop, wX9_fault t m 1 (fun r m1 => wX12_fault t m1 75 (fun r2 m2 => P r r2 m2)) ∧ ∀ r r2 m2, P r r2 m2 → r = r2 ∧ ∃ w', Inv t m2 w' ∧ w ≤ w' := by
  refine ⟨fun r r2 m2 => r = r2 ∧ m2 = pI m 75 0 0, ⟨lk1 i.lay, lk75 i.lay, ?_, rfl⟩, fun r r2 m2 h => ⟨h.1, w, by rw [h.2]; exact i.thr 0, Nat.le_refl _⟩⟩
  rw [gII, if_neg (by decide)]; exact i.1.fl
theorem st_trouble (i : Inv t m w) : ∃ P : Int32 → Int32 → zM → Prop, wX9_trouble t m 1 (fun r m1 => wX12_trouble t m1 75 (fun r2 m2 => P r r2 m2)) ∧ ∀ r r2 m2, P r r2 m2 → r = r2 ∧ ∃ w', Inv t m2 w' ∧ w ≤ w' := by
  refine ⟨fun r r2 m2 => r = r2 ∧ m2 = pI m 75 0 0, ⟨lk1 i.lay, lk75 i.lay, ?_, rfl⟩, fun r r2 m2 h => ⟨h.1, w, by rw [h.2]; exact i.thr 0, Nat.le_refl _⟩⟩
  rw [gII, if_neg (by decide)]; exact i.1.tr
theorem st_where (i : Inv t m w) : ∃ P : Int32 → Int32 → zM → Prop, wX9_where t m 1 (fun r m1 => wX12_where t m1 75 (fun r2 m2 => P r r2 m2)) ∧ ∀ r r2 m2, P r r2 m2 → r = r2 ∧ ∃ w', Inv t m2 w' ∧ w ≤ w' := by
  refine ⟨fun r r2 m2 => r = r2 ∧ m2 = pI m 75 0 0, ⟨lk1 i.lay, fun h4 => ⟨lk75 i.lay, ?_, rfl⟩, fun h4 => ⟨lk75 i.lay, ?_, rfl⟩⟩, fun r r2 m2 h => ⟨h.1, w, by rw [h.2]; exact i.thr 0, Nat.le_refl _⟩⟩
  · rw [gII, if_neg (by decide)]
    rcases i.1.wh with ⟨_, z⟩ | ⟨z, _⟩
    · exact z.symm
    · exact absurd h4 z
  · rw [gII, if_neg (by decide)]
    rcases i.1.wh with ⟨z, _⟩ | ⟨_, z⟩
    · exact absurd z h4
    · exact z.symm
end
