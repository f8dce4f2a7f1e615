section
variable {p : Program} {l : Launch} {e : Env} {R : Room} {s : State} {mt : MethodId} {args : Array Value} {below : List Frame} {meth : Method} {c : Code} {g : zG} {Q : State → Prop} {u u2 : Nat × Nat} {nL : Nat} {t : zT} {m : zM} {pc p1 p2 : Nat} {lv lv2 : List (Nat × Value)} {st rest : List Value} {cc : ByteArray} {own : String} {h b L k j w : Nat} {xs : Nat → Int32}
theorem law_c30 (C : zC p room_1 s mt #[Value.ref b] meth c g code 7 RL 16) (S : SCR s g b L xs k) (i : Inv t m w) (hj : j < 512) (next : ∀ t' m' w', Inv t' m' w' → zW p l e room_1 s mt #[Value.ref b] below meth c g Q (cu (j + 1), su (j + 1) w') 7 t' m' 1496 (lwl k) []) : zW p l e room_1 s mt #[Value.ref b] below meth c g Q (cu j, su j w) 7 t m 1090 (lwl k) [] := by
  have hm := i.max
  have bd := cu_b hj (w := w) hm
  obtain ⟨P, H, hP⟩ := st_byLaws (x := (xs (nI k + 1).toNatClampNeg)) i
  have K := lk1 i.lay
  have K2 := lk75 i.lay
  refine z_aload_n (pc := 1090) C (dL_law_p4 115 rfl) rfl 3 rfl ?_
  refine z_aload_nS (pc := 1091) C (dL_law_p4 116 rfl) rfl 4 rfl ?_
  refine z_iload (pc := 1092) C (dL_law_p4 117 rfl) 0 rfl ?_
  refine z_iconst (pc := 1094) (v := 1) C (dL_law_p4 118 rfl) (by decide) ?_
  refine z_iadd (pc := 1095) C (dL_law_p4 119 rfl) ?_
  refine z_sld (pc := 1096) C S (sc_in S.2.2.2.2.1 S.2.2.2.2.2 (by decide) rfl) (dL_law_p5 0 rfl) ?_
  refine zc_Vi (pc := 1097) (rest := []) C YX9_byLaws wl_L_145 (kX9_byLaws H) (by decide) K rfl (by decide) (dL_law_p5 1 rfl) rfl bd.2.1 bd.2.2.1 (Nat.le_of_ble_eq_true rfl) rfl (fun r m1 H => ?_)
  refine z_aload_n (pc := 1100) C (dL_law_p5 2 rfl) rfl 2 rfl ?_
  refine z_aload_nS (pc := 1101) C (dL_law_p5 3 rfl) rfl 4 rfl ?_
  refine z_iload (pc := 1102) C (dL_law_p5 4 rfl) 0 rfl ?_
  refine z_iconst (pc := 1104) (v := 1) C (dL_law_p5 5 rfl) (by decide) ?_
  refine z_iadd (pc := 1105) C (dL_law_p5 6 rfl) ?_
  refine z_sld (pc := 1106) C S (sc_in S.2.2.2.2.1 S.2.2.2.2.2 (by decide) rfl) (dL_law_p5 7 rfl) ?_
  refine zc_Vi (pc := 1107) (rest := [.int r]) C YX12_byLaws wl_L_148 (kX12_byLaws H) (by decide) K2 rfl (by decide) (dL_law_p5 8 rfl) rfl bd.2.1 bd.2.2.1 (Nat.le_of_ble_eq_true rfl) rfl (fun r2 m2 H => ?_)
  obtain ⟨e, w', i', hw⟩ := hP r r2 m2 H
  exact z_icmp_eq (pc := 1110) (tgt := 1496) C (dL_law_p5 9 rfl) (by decide) (fun _ => z_widen (u2 := (cu (j + 1), su (j + 1) w')) (by show cu j ≤ cu (j + 1); unfold cu; omega) (by show su j w ≤ su (j + 1) w'; unfold su; omega) (next t m2 w' i')) (fun h => absurd e h)
theorem law_c31 (C : zC p room_1 s mt #[Value.ref b] meth c g code 7 RL 16) (S : SCR s g b L xs k) (i : Inv t m w) (hj : j < 512) (next : ∀ t' m' w', Inv t' m' w' → zW p l e room_1 s mt #[Value.ref b] below meth c g Q (cu (j + 1), su (j + 1) w') 7 t' m' 1496 (lwl k) []) : zW p l e room_1 s mt #[Value.ref b] below meth c g Q (cu j, su j w) 7 t m 1115 (lwl k) [] := by
  have hm := i.max
  have bd := cu_b hj (w := w) hm
  obtain ⟨P, H, hP⟩ := st_cheapest  i
  have K := lk1 i.lay
  have K2 := lk75 i.lay
  refine z_aload_n (pc := 1115) C (dL_law_p5 12 rfl) rfl 3 rfl ?_
  refine zc_Vi (pc := 1116) (rest := []) C YX9_cheapest wl_L_149 (kX9_cheapest H) (by decide) K rfl (by decide) (dL_law_p5 13 rfl) rfl bd.2.1 bd.2.2.1 (Nat.le_of_ble_eq_true rfl) rfl (fun r m1 H => ?_)
  refine z_aload_n (pc := 1119) C (dL_law_p5 14 rfl) rfl 2 rfl ?_
  refine zc_Vi (pc := 1120) (rest := [.int r]) C YX12_cheapest wl_L_152 (kX12_cheapest H) (by decide) K2 rfl (by decide) (dL_law_p5 15 rfl) rfl bd.2.1 bd.2.2.1 (Nat.le_of_ble_eq_true rfl) rfl (fun r2 m2 H => ?_)
  obtain ⟨e, w', i', hw⟩ := hP r r2 m2 H
  exact z_icmp_eq (pc := 1123) (tgt := 1496) C (dL_law_p5 16 rfl) (by decide) (fun _ => z_widen (u2 := (cu (j + 1), su (j + 1) w')) (by show cu j ≤ cu (j + 1); unfold cu; omega) (by show su j w ≤ su (j + 1) w'; unfold su; omega) (next t m2 w' i')) (fun h => absurd e h)
theorem law_c32 (C : zC p room_1 s mt #[Value.ref b] meth c g code 7 RL 16) (S : SCR s g b L xs k) (i : Inv t m w) (hj : j < 512) (next : ∀ t' m' w', Inv t' m' w' → zW p l e room_1 s mt #[Value.ref b] below meth c g Q (cu (j + 1), su (j + 1) w') 7 t' m' 1496 (lwl k) []) : zW p l e room_1 s mt #[Value.ref b] below meth c g Q (cu j, su j w) 7 t m 1128 (lwl k) [] := by
  have hm := i.max
  have bd := cu_b hj (w := w) hm
  obtain ⟨P, H, hP⟩ := st_years (x := (xs (nI k + 1).toNatClampNeg)) (x2 := (xs (nI k + 2).toNatClampNeg)) (x3 := (xs (nI k + 3).toNatClampNeg)) i
  have K := lk1 i.lay
  have K2 := lk75 i.lay
  refine z_aload_n (pc := 1128) C (dL_law_p5 19 rfl) rfl 3 rfl ?_
  refine z_aload_nS (pc := 1129) C (dL_law_p5 20 rfl) rfl 4 rfl ?_
  refine z_iload (pc := 1130) C (dL_law_p5 21 rfl) 0 rfl ?_
  refine z_iconst (pc := 1132) (v := 1) C (dL_law_p5 22 rfl) (by decide) ?_
  refine z_iadd (pc := 1133) C (dL_law_p5 23 rfl) ?_
  refine z_sld (pc := 1134) C S (sc_in S.2.2.2.2.1 S.2.2.2.2.2 (by decide) rfl) (dL_law_p5 24 rfl) ?_
  refine z_aload_nS (pc := 1135) C (dL_law_p5 25 rfl) rfl 4 rfl ?_
  refine z_iload (pc := 1136) C (dL_law_p5 26 rfl) 0 rfl ?_
  refine z_iconst (pc := 1138) (v := 2) C (dL_law_p5 27 rfl) (by decide) ?_
  refine z_iadd (pc := 1139) C (dL_law_p5 28 rfl) ?_
  refine z_sld (pc := 1140) C S (sc_in S.2.2.2.2.1 S.2.2.2.2.2 (by decide) rfl) (dL_law_p5 29 rfl) ?_
  refine z_aload_nS (pc := 1141) C (dL_law_p5 30 rfl) rfl 4 rfl ?_
  refine z_iload (pc := 1142) C (dL_law_p5 31 rfl) 0 rfl ?_
  refine z_iconst (pc := 1144) (v := 3) C (dL_law_p5 32 rfl) (by decide) ?_
  refine z_iadd (pc := 1145) C (dL_law_p5 33 rfl) ?_
  refine z_sld (pc := 1146) C S (sc_in S.2.2.2.2.1 S.2.2.2.2.2 (by decide) rfl) (dL_law_p5 34 rfl) ?_
  refine zc_Vi (pc := 1147) (rest := []) C YX9_years wl_L_153 (kX9_years H) (by decide) K rfl (by decide) (dL_law_p5 35 rfl) rfl bd.2.1 bd.2.2.1 (Nat.le_of_ble_eq_true rfl) rfl (fun r m1 H => ?_)
  refine z_aload_n (pc := 1150) C (dL_law_p5 36 rfl) rfl 2 rfl ?_
  refine z_aload_nS (pc := 1151) C (dL_law_p5 37 rfl) rfl 4 rfl ?_
  refine z_iload (pc := 1152) C (dL_law_p5 38 rfl) 0 rfl ?_
  refine z_iconst (pc := 1154) (v := 1) C (dL_law_p5 39 rfl) (by decide) ?_
  refine z_iadd (pc := 1155) C (dL_law_p5 40 rfl) ?_
  refine z_sld (pc := 1156) C S (sc_in S.2.2.2.2.1 S.2.2.2.2.2 (by decide) rfl) (dL_law_p5 41 rfl) ?_
  refine z_aload_nS (pc := 1157) C (dL_law_p5 42 rfl) rfl 4 rfl ?_
  refine z_iload (pc := 1158) C (dL_law_p5 43 rfl) 0 rfl ?_
  refine z_iconst (pc := 1160) (v := 2) C (dL_law_p5 44 rfl) (by decide) ?_
  refine z_iadd (pc := 1161) C (dL_law_p5 45 rfl) ?_
  refine z_sld (pc := 1162) C S (sc_in S.2.2.2.2.1 S.2.2.2.2.2 (by decide) rfl) (dL_law_p5 46 rfl) ?_
  refine z_aload_nS (pc := 1163) C (dL_law_p5 47 rfl) rfl 4 rfl ?_
  refine z_iload (pc := 1164) C (dL_law_p5 48 rfl) 0 rfl ?_
  refine z_iconst (pc := 1166) (v := 3) C (dL_law_p5 49 rfl) (by decide) ?_
  refine z_iadd (pc := 1167) C (dL_law_p5 50 rfl) ?_
  refine z_sld (pc := 1168) C S (sc_in S.2.2.2.2.1 S.2.2.2.2.2 (by decide) rfl) (dL_law_p5 51 rfl) ?_
  refine zc_Vi (pc := 1169) (rest := [.int r]) C YX12_years wl_L_157 (kX12_years H) (by decide) K2 rfl (by decide) (dL_law_p5 52 rfl) rfl bd.2.1 bd.2.2.1 (Nat.le_of_ble_eq_true rfl) rfl (fun r2 m2 H => ?_)
  obtain ⟨e, w', i', hw⟩ := hP r r2 m2 H
  exact z_icmp_eq (pc := 1172) (tgt := 1496) C (dL_law_p5 53 rfl) (by decide) (fun _ => z_widen (u2 := (cu (j + 1), su (j + 1) w')) (by show cu j ≤ cu (j + 1); unfold cu; omega) (by show su j w ≤ su (j + 1) w'; unfold su; omega) (next t m2 w' i')) (fun h => absurd e h)
theorem law_c33 (C : zC p room_1 s mt #[Value.ref b] meth c g code 7 RL 16) (S : SCR s g b L xs k) (i : Inv t m w) (hj : j < 512) (next : ∀ t' m' w', Inv t' m' w' → zW p l e room_1 s mt #[Value.ref b] below meth c g Q (cu (j + 1), su (j + 1) w') 7 t' m' 1496 (lwl k) []) : zW p l e room_1 s mt #[Value.ref b] below meth c g Q (cu j, su j w) 7 t m 1177 (lwl k) [] := by
  have hm := i.max
  have bd := cu_b hj (w := w) hm
  obtain ⟨P, H, hP⟩ := st_still (x := (xs (nI k + 1).toNatClampNeg)) (x2 := (xs (nI k + 2).toNatClampNeg)) (x3 := (xs (nI k + 3).toNatClampNeg)) i
  have K := lk1 i.lay
  have K2 := lk75 i.lay
  refine z_aload_n (pc := 1177) C (dL_law_p5 56 rfl) rfl 3 rfl ?_
  refine z_aload_nS (pc := 1178) C (dL_law_p5 57 rfl) rfl 4 rfl ?_
  refine z_iload (pc := 1179) C (dL_law_p5 58 rfl) 0 rfl ?_
  refine z_iconst (pc := 1181) (v := 1) C (dL_law_p5 59 rfl) (by decide) ?_
  refine z_iadd (pc := 1182) C (dL_law_p5 60 rfl) ?_
  refine z_sld (pc := 1183) C S (sc_in S.2.2.2.2.1 S.2.2.2.2.2 (by decide) rfl) (dL_law_p5 61 rfl) ?_
  refine z_aload_nS (pc := 1184) C (dL_law_p5 62 rfl) rfl 4 rfl ?_
  refine z_iload (pc := 1185) C (dL_law_p5 63 rfl) 0 rfl ?_
  refine z_iconst (pc := 1187) (v := 2) C (dL_law_p5 64 rfl) (by decide) ?_
  refine z_iadd (pc := 1188) C (dL_law_p5 65 rfl) ?_
  refine z_sld (pc := 1189) C S (sc_in S.2.2.2.2.1 S.2.2.2.2.2 (by decide) rfl) (dL_law_p5 66 rfl) ?_
  refine z_aload_nS (pc := 1190) C (dL_law_p5 67 rfl) rfl 4 rfl ?_
  refine z_iload (pc := 1191) C (dL_law_p5 68 rfl) 0 rfl ?_
  refine z_iconst (pc := 1193) (v := 3) C (dL_law_p5 69 rfl) (by decide) ?_
  refine z_iadd (pc := 1194) C (dL_law_p5 70 rfl) ?_
  refine z_sld (pc := 1195) C S (sc_in S.2.2.2.2.1 S.2.2.2.2.2 (by decide) rfl) (dL_law_p5 71 rfl) ?_
  refine zc_Vi (pc := 1196) (rest := []) C YX9_still wl_L_158 (kX9_still H) (by decide) K rfl (by decide) (dL_law_p5 72 rfl) rfl bd.2.1 bd.2.2.1 (Nat.le_of_ble_eq_true rfl) rfl (fun r m1 H => ?_)
  refine z_aload_n (pc := 1199) C (dL_law_p5 73 rfl) rfl 2 rfl ?_
  refine z_aload_nS (pc := 1200) C (dL_law_p5 74 rfl) rfl 4 rfl ?_
  refine z_iload (pc := 1201) C (dL_law_p5 75 rfl) 0 rfl ?_
  refine z_iconst (pc := 1203) (v := 1) C (dL_law_p5 76 rfl) (by decide) ?_
  refine z_iadd (pc := 1204) C (dL_law_p5 77 rfl) ?_
  refine z_sld (pc := 1205) C S (sc_in S.2.2.2.2.1 S.2.2.2.2.2 (by decide) rfl) (dL_law_p5 78 rfl) ?_
  refine z_aload_nS (pc := 1206) C (dL_law_p5 79 rfl) rfl 4 rfl ?_
  refine z_iload (pc := 1207) C (dL_law_p5 80 rfl) 0 rfl ?_
  refine z_iconst (pc := 1209) (v := 2) C (dL_law_p5 81 rfl) (by decide) ?_
  refine z_iadd (pc := 1210) C (dL_law_p5 82 rfl) ?_
  refine z_sld (pc := 1211) C S (sc_in S.2.2.2.2.1 S.2.2.2.2.2 (by decide) rfl) (dL_law_p5 83 rfl) ?_
  refine z_aload_nS (pc := 1212) C (dL_law_p5 84 rfl) rfl 4 rfl ?_
  refine z_iload (pc := 1213) C (dL_law_p5 85 rfl) 0 rfl ?_
  refine z_iconst (pc := 1215) (v := 3) C (dL_law_p5 86 rfl) (by decide) ?_
  refine z_iadd (pc := 1216) C (dL_law_p5 87 rfl) ?_
  refine z_sld (pc := 1217) C S (sc_in S.2.2.2.2.1 S.2.2.2.2.2 (by decide) rfl) (dL_law_p5 88 rfl) ?_
  refine zc_Vi (pc := 1218) (rest := [.int r]) C YX12_still wl_L_161 (kX12_still H) (by decide) K2 rfl (by decide) (dL_law_p5 89 rfl) rfl bd.2.1 bd.2.2.1 (Nat.le_of_ble_eq_true rfl) rfl (fun r2 m2 H => ?_)
  obtain ⟨e, w', i', hw⟩ := hP r r2 m2 H
  exact z_icmp_eq (pc := 1221) (tgt := 1496) C (dL_law_p5 90 rfl) (by decide) (fun _ => z_widen (u2 := (cu (j + 1), su (j + 1) w')) (by show cu j ≤ cu (j + 1); unfold cu; omega) (by show su j w ≤ su (j + 1) w'; unfold su; omega) (next t m2 w' i')) (fun h => absurd e h)
theorem law_c34 (C : zC p room_1 s mt #[Value.ref b] meth c g code 7 RL 16) (S : SCR s g b L xs k) (i : Inv t m w) (hj : j < 512) (next : ∀ t' m' w', Inv t' m' w' → zW p l e room_1 s mt #[Value.ref b] below meth c g Q (cu (j + 1), su (j + 1) w') 7 t' m' 1496 (lwl k) []) : zW p l e room_1 s mt #[Value.ref b] below meth c g Q (cu j, su j w) 7 t m 1226 (lwl k) [] := by
  have hm := i.max
  have bd := cu_b hj (w := w) hm
  obtain ⟨P, H, hP⟩ := st_seed (x := (xs (nI k + 1).toNatClampNeg)) i
  have K := lk1 i.lay
  have K2 := lk75 i.lay
  refine z_aload_n (pc := 1226) C (dL_law_p5 93 rfl) rfl 3 rfl ?_
  refine z_aload_nS (pc := 1227) C (dL_law_p5 94 rfl) rfl 4 rfl ?_
  refine z_iload (pc := 1228) C (dL_law_p5 95 rfl) 0 rfl ?_
  refine z_iconst (pc := 1230) (v := 1) C (dL_law_p5 96 rfl) (by decide) ?_
  refine z_iadd (pc := 1231) C (dL_law_p5 97 rfl) ?_
  refine z_sld (pc := 1232) C S (sc_in S.2.2.2.2.1 S.2.2.2.2.2 (by decide) rfl) (dL_law_p5 98 rfl) ?_
  refine zc_Vi (pc := 1233) (rest := []) C YX9_seed wl_L_162 (kX9_seed H) (by decide) K rfl (by decide) (dL_law_p5 99 rfl) rfl bd.2.1 bd.2.2.1 (Nat.le_of_ble_eq_true rfl) rfl (fun r m1 H => ?_)
  refine z_aload_n (pc := 1236) C (dL_law_p5 100 rfl) rfl 2 rfl ?_
  refine z_aload_nS (pc := 1237) C (dL_law_p5 101 rfl) rfl 4 rfl ?_
  refine z_iload (pc := 1238) C (dL_law_p5 102 rfl) 0 rfl ?_
  refine z_iconst (pc := 1240) (v := 1) C (dL_law_p5 103 rfl) (by decide) ?_
  refine z_iadd (pc := 1241) C (dL_law_p5 104 rfl) ?_
  refine z_sld (pc := 1242) C S (sc_in S.2.2.2.2.1 S.2.2.2.2.2 (by decide) rfl) (dL_law_p5 105 rfl) ?_
  refine zc_Vi (pc := 1243) (rest := [.int r]) C YX12_seed wl_L_166 (kX12_seed H) (by decide) K2 rfl (by decide) (dL_law_p5 106 rfl) rfl bd.2.1 bd.2.2.1 (Nat.le_of_ble_eq_true rfl) rfl (fun r2 m2 H => ?_)
  obtain ⟨e, w', i', hw⟩ := hP r r2 m2 H
  exact z_icmp_eq (pc := 1246) (tgt := 1496) C (dL_law_p5 107 rfl) (by decide) (fun _ => z_widen (u2 := (cu (j + 1), su (j + 1) w')) (by show cu j ≤ cu (j + 1); unfold cu; omega) (by show su j w ≤ su (j + 1) w'; unfold su; omega) (next t m2 w' i')) (fun h => absurd e h)
theorem law_c35 (C : zC p room_1 s mt #[Value.ref b] meth c g code 7 RL 16) (S : SCR s g b L xs k) (i : Inv t m w) (hj : j < 512) (next : ∀ t' m' w', Inv t' m' w' → zW p l e room_1 s mt #[Value.ref b] below meth c g Q (cu (j + 1), su (j + 1) w') 7 t' m' 1496 (lwl k) []) : zW p l e room_1 s mt #[Value.ref b] below meth c g Q (cu j, su j w) 7 t m 1251 (lwl k) [] := by
  have hm := i.max
  have bd := cu_b hj (w := w) hm
  obtain ⟨P, H, hP⟩ := st_draw  i
  have K := lk1 i.lay
  have K2 := lk75 i.lay
  refine z_aload_n (pc := 1251) C (dL_law_p5 110 rfl) rfl 3 rfl ?_
  refine zc_Vi (pc := 1252) (rest := []) C YX9_draw wl_L_167 (kX9_draw H) (by decide) K rfl (by decide) (dL_law_p5 111 rfl) rfl bd.2.1 bd.2.2.1 (Nat.le_of_ble_eq_true rfl) rfl (fun r m1 H => ?_)
  refine z_aload_n (pc := 1255) C (dL_law_p5 112 rfl) rfl 2 rfl ?_
  refine zc_Vi (pc := 1256) (rest := [.int r]) C YX12_draw wl_L_170 (kX12_draw H) (by decide) K2 rfl (by decide) (dL_law_p5 113 rfl) rfl bd.2.1 bd.2.2.1 (Nat.le_of_ble_eq_true rfl) rfl (fun r2 m2 H => ?_)
  obtain ⟨e, w', i', hw⟩ := hP r r2 m2 H
  exact z_icmp_eq (pc := 1259) (tgt := 1496) C (dL_law_p5 114 rfl) (by decide) (fun _ => z_widen (u2 := (cu (j + 1), su (j + 1) w')) (by show cu j ≤ cu (j + 1); unfold cu; omega) (by show su j w ≤ su (j + 1) w'; unfold su; omega) (next t m2 w' i')) (fun h => absurd e h)
theorem law_c36 (C : zC p room_1 s mt #[Value.ref b] meth c g code 7 RL 16) (S : SCR s g b L xs k) (i : Inv t m w) (hj : j < 512) (next : ∀ t' m' w', Inv t' m' w' → zW p l e room_1 s mt #[Value.ref b] below meth c g Q (cu (j + 1), su (j + 1) w') 7 t' m' 1496 (lwl k) []) : zW p l e room_1 s mt #[Value.ref b] below meth c g Q (cu j, su j w) 7 t m 1264 (lwl k) [] := by
  have hm := i.max
  have bd := cu_b hj (w := w) hm
  obtain ⟨P, H, hP⟩ := st_tries (x := (xs (nI k + 1).toNatClampNeg)) i
  have K := lk1 i.lay
  have K2 := lk75 i.lay
  refine z_aload_n (pc := 1264) C (dL_law_p5 117 rfl) rfl 3 rfl ?_
  refine z_aload_nS (pc := 1265) C (dL_law_p5 118 rfl) rfl 4 rfl ?_
  refine z_iload (pc := 1266) C (dL_law_p5 119 rfl) 0 rfl ?_
  refine z_iconst (pc := 1268) (v := 1) C (dL_law_p6 0 rfl) (by decide) ?_
  refine z_iadd (pc := 1269) C (dL_law_p6 1 rfl) ?_
  refine z_sld (pc := 1270) C S (sc_in S.2.2.2.2.1 S.2.2.2.2.2 (by decide) rfl) (dL_law_p6 2 rfl) ?_
  refine zc_Vi (pc := 1271) (rest := []) C YX9_tries wl_L_171 (kX9_tries H) (by decide) K rfl (by decide) (dL_law_p6 3 rfl) rfl bd.2.1 bd.2.2.1 (Nat.le_of_ble_eq_true rfl) rfl (fun r m1 H => ?_)
  refine z_aload_n (pc := 1274) C (dL_law_p6 4 rfl) rfl 2 rfl ?_
  refine z_aload_nS (pc := 1275) C (dL_law_p6 5 rfl) rfl 4 rfl ?_
  refine z_iload (pc := 1276) C (dL_law_p6 6 rfl) 0 rfl ?_
  refine z_iconst (pc := 1278) (v := 1) C (dL_law_p6 7 rfl) (by decide) ?_
  refine z_iadd (pc := 1279) C (dL_law_p6 8 rfl) ?_
  refine z_sld (pc := 1280) C S (sc_in S.2.2.2.2.1 S.2.2.2.2.2 (by decide) rfl) (dL_law_p6 9 rfl) ?_
  refine zc_Vi (pc := 1281) (rest := [.int r]) C YX12_tries wl_L_174 (kX12_tries H) (by decide) K2 rfl (by decide) (dL_law_p6 10 rfl) rfl bd.2.1 bd.2.2.1 (Nat.le_of_ble_eq_true rfl) rfl (fun r2 m2 H => ?_)
  obtain ⟨e, w', i', hw⟩ := hP r r2 m2 H
  exact z_icmp_eq (pc := 1284) (tgt := 1496) C (dL_law_p6 11 rfl) (by decide) (fun _ => z_widen (u2 := (cu (j + 1), su (j + 1) w')) (by show cu j ≤ cu (j + 1); unfold cu; omega) (by show su j w ≤ su (j + 1) w'; unfold su; omega) (next t m2 w' i')) (fun h => absurd e h)
theorem law_c37 (C : zC p room_1 s mt #[Value.ref b] meth c g code 7 RL 16) (S : SCR s g b L xs k) (i : Inv t m w) (hj : j < 512) (next : ∀ t' m' w', Inv t' m' w' → zW p l e room_1 s mt #[Value.ref b] below meth c g Q (cu (j + 1), su (j + 1) w') 7 t' m' 1496 (lwl k) []) : zW p l e room_1 s mt #[Value.ref b] below meth c g Q (cu j, su j w) 7 t m 1289 (lwl k) [] := by
  have hm := i.max
  have bd := cu_b hj (w := w) hm
  obtain ⟨P, H, hP⟩ := st_fact (x := (xs (nI k + 1).toNatClampNeg)) i
  have K := lk1 i.lay
  have K2 := lk75 i.lay
  refine z_aload_n (pc := 1289) C (dL_law_p6 14 rfl) rfl 3 rfl ?_
  refine z_aload_nS (pc := 1290) C (dL_law_p6 15 rfl) rfl 4 rfl ?_
  refine z_iload (pc := 1291) C (dL_law_p6 16 rfl) 0 rfl ?_
  refine z_iconst (pc := 1293) (v := 1) C (dL_law_p6 17 rfl) (by decide) ?_
  refine z_iadd (pc := 1294) C (dL_law_p6 18 rfl) ?_
  refine z_sld (pc := 1295) C S (sc_in S.2.2.2.2.1 S.2.2.2.2.2 (by decide) rfl) (dL_law_p6 19 rfl) ?_
  refine zc_Vi (pc := 1296) (rest := []) C YX9_fact wl_L_175 (kX9_fact H) (by decide) K rfl (by decide) (dL_law_p6 20 rfl) rfl bd.2.1 bd.2.2.1 (Nat.le_of_ble_eq_true rfl) rfl (fun r m1 H => ?_)
  refine z_aload_n (pc := 1299) C (dL_law_p6 21 rfl) rfl 2 rfl ?_
  refine z_aload_nS (pc := 1300) C (dL_law_p6 22 rfl) rfl 4 rfl ?_
  refine z_iload (pc := 1301) C (dL_law_p6 23 rfl) 0 rfl ?_
  refine z_iconst (pc := 1303) (v := 1) C (dL_law_p6 24 rfl) (by decide) ?_
  refine z_iadd (pc := 1304) C (dL_law_p6 25 rfl) ?_
  refine z_sld (pc := 1305) C S (sc_in S.2.2.2.2.1 S.2.2.2.2.2 (by decide) rfl) (dL_law_p6 26 rfl) ?_
  refine zc_Vi (pc := 1306) (rest := [.int r]) C YX12_fact wl_L_178 (kX12_fact H) (by decide) K2 rfl (by decide) (dL_law_p6 27 rfl) rfl bd.2.1 bd.2.2.1 (Nat.le_of_ble_eq_true rfl) rfl (fun r2 m2 H => ?_)
  obtain ⟨e, w', i', hw⟩ := hP r r2 m2 H
  exact z_icmp_eq (pc := 1309) (tgt := 1496) C (dL_law_p6 28 rfl) (by decide) (fun _ => z_widen (u2 := (cu (j + 1), su (j + 1) w')) (by show cu j ≤ cu (j + 1); unfold cu; omega) (by show su j w ≤ su (j + 1) w'; unfold su; omega) (next t m2 w' i')) (fun h => absurd e h)
theorem law_c38 (C : zC p room_1 s mt #[Value.ref b] meth c g code 7 RL 16) (S : SCR s g b L xs k) (i : Inv t m w) (hj : j < 512) (next : ∀ t' m' w', Inv t' m' w' → zW p l e room_1 s mt #[Value.ref b] below meth c g Q (cu (j + 1), su (j + 1) w') 7 t' m' 1496 (lwl k) []) : zW p l e room_1 s mt #[Value.ref b] below meth c g Q (cu j, su j w) 7 t m 1314 (lwl k) [] := by
  have hm := i.max
  have bd := cu_b hj (w := w) hm
  obtain ⟨P, H, hP⟩ := st_spent  i
  have K := lk1 i.lay
  have K2 := lk75 i.lay
  refine z_aload_n (pc := 1314) C (dL_law_p6 31 rfl) rfl 3 rfl ?_
  refine zc_Vi (pc := 1315) (rest := []) C YX9_spent wl_L_179 (kX9_spent H) (by decide) K rfl (by decide) (dL_law_p6 32 rfl) rfl bd.2.1 bd.2.2.1 (Nat.le_of_ble_eq_true rfl) rfl (fun r m1 H => ?_)
  refine z_aload_n (pc := 1318) C (dL_law_p6 33 rfl) rfl 2 rfl ?_
  refine zc_Vi (pc := 1319) (rest := [.int r]) C YX12_spent wl_L_182 (kX12_spent H) (by decide) K2 rfl (by decide) (dL_law_p6 34 rfl) rfl bd.2.1 bd.2.2.1 (Nat.le_of_ble_eq_true rfl) rfl (fun r2 m2 H => ?_)
  obtain ⟨e, w', i', hw⟩ := hP r r2 m2 H
  exact z_icmp_eq (pc := 1322) (tgt := 1496) C (dL_law_p6 35 rfl) (by decide) (fun _ => z_widen (u2 := (cu (j + 1), su (j + 1) w')) (by show cu j ≤ cu (j + 1); unfold cu; omega) (by show su j w ≤ su (j + 1) w'; unfold su; omega) (next t m2 w' i')) (fun h => absurd e h)
theorem law_c39 (C : zC p room_1 s mt #[Value.ref b] meth c g code 7 RL 16) (S : SCR s g b L xs k) (i : Inv t m w) (hj : j < 512) (next : ∀ t' m' w', Inv t' m' w' → zW p l e room_1 s mt #[Value.ref b] below meth c g Q (cu (j + 1), su (j + 1) w') 7 t' m' 1496 (lwl k) []) : zW p l e room_1 s mt #[Value.ref b] below meth c g Q (cu j, su j w) 7 t m 1327 (lwl k) [] := by
  have hm := i.max
  have bd := cu_b hj (w := w) hm
  obtain ⟨P, H, hP⟩ := st_mark  i
  have K := lk1 i.lay
  have K2 := lk75 i.lay
  refine z_aload_n (pc := 1327) C (dL_law_p6 38 rfl) rfl 3 rfl ?_
  refine zc_Vi (pc := 1328) (rest := []) C YX9_mark wl_L_183 (kX9_mark H) (by decide) K rfl (by decide) (dL_law_p6 39 rfl) rfl bd.2.1 bd.2.2.1 (Nat.le_of_ble_eq_true rfl) rfl (fun r m1 H => ?_)
  refine z_aload_n (pc := 1331) C (dL_law_p6 40 rfl) rfl 2 rfl ?_
  refine zc_Vi (pc := 1332) (rest := [.int r]) C YX12_mark wl_L_186 (kX12_mark H) (by decide) K2 rfl (by decide) (dL_law_p6 41 rfl) rfl bd.2.1 bd.2.2.1 (Nat.le_of_ble_eq_true rfl) rfl (fun r2 m2 H => ?_)
  obtain ⟨e, w', i', hw⟩ := hP r r2 m2 H
  exact z_icmp_eq (pc := 1335) (tgt := 1496) C (dL_law_p6 42 rfl) (by decide) (fun _ => z_widen (u2 := (cu (j + 1), su (j + 1) w')) (by show cu j ≤ cu (j + 1); unfold cu; omega) (by show su j w ≤ su (j + 1) w'; unfold su; omega) (next t m2 w' i')) (fun h => absurd e h)
theorem law_c40 (C : zC p room_1 s mt #[Value.ref b] meth c g code 7 RL 16) (S : SCR s g b L xs k) (i : Inv t m w) (hj : j < 512) (next : ∀ t' m' w', Inv t' m' w' → zW p l e room_1 s mt #[Value.ref b] below meth c g Q (cu (j + 1), su (j + 1) w') 7 t' m' 1496 (lwl k) []) : zW p l e room_1 s mt #[Value.ref b] below meth c g Q (cu j, su j w) 7 t m 1340 (lwl k) [] := by
  have hm := i.max
  have bd := cu_b hj (w := w) hm
  obtain ⟨P, H, hP⟩ := st_back (x := (xs (nI k + 1).toNatClampNeg)) i
  have K := lk1 i.lay
  have K2 := lk75 i.lay
  refine z_aload_n (pc := 1340) C (dL_law_p6 45 rfl) rfl 3 rfl ?_
  refine z_aload_nS (pc := 1341) C (dL_law_p6 46 rfl) rfl 4 rfl ?_
  refine z_iload (pc := 1342) C (dL_law_p6 47 rfl) 0 rfl ?_
  refine z_iconst (pc := 1344) (v := 1) C (dL_law_p6 48 rfl) (by decide) ?_
  refine z_iadd (pc := 1345) C (dL_law_p6 49 rfl) ?_
  refine z_sld (pc := 1346) C S (sc_in S.2.2.2.2.1 S.2.2.2.2.2 (by decide) rfl) (dL_law_p6 50 rfl) ?_
  refine zc_Vi (pc := 1347) (rest := []) C YX9_back wl_L_187 (kX9_back H) (by decide) K rfl (by decide) (dL_law_p6 51 rfl) rfl bd.2.1 bd.2.2.1 (Nat.le_of_ble_eq_true rfl) rfl (fun r m1 H => ?_)
  refine z_aload_n (pc := 1350) C (dL_law_p6 52 rfl) rfl 2 rfl ?_
  refine z_aload_nS (pc := 1351) C (dL_law_p6 53 rfl) rfl 4 rfl ?_
  refine z_iload (pc := 1352) C (dL_law_p6 54 rfl) 0 rfl ?_
  refine z_iconst (pc := 1354) (v := 1) C (dL_law_p6 55 rfl) (by decide) ?_
  refine z_iadd (pc := 1355) C (dL_law_p6 56 rfl) ?_
  refine z_sld (pc := 1356) C S (sc_in S.2.2.2.2.1 S.2.2.2.2.2 (by decide) rfl) (dL_law_p6 57 rfl) ?_
  refine zc_Vi (pc := 1357) (rest := [.int r]) C YX12_back wl_L_190 (kX12_back H) (by decide) K2 rfl (by decide) (dL_law_p6 58 rfl) rfl bd.2.1 bd.2.2.1 (Nat.le_of_ble_eq_true rfl) rfl (fun r2 m2 H => ?_)
  obtain ⟨e, w', i', hw⟩ := hP r r2 m2 H
  exact z_icmp_eq (pc := 1360) (tgt := 1496) C (dL_law_p6 59 rfl) (by decide) (fun _ => z_widen (u2 := (cu (j + 1), su (j + 1) w')) (by show cu j ≤ cu (j + 1); unfold cu; omega) (by show su j w ≤ su (j + 1) w'; unfold su; omega) (next t m2 w' i')) (fun h => absurd e h)
theorem law_c41 (C : zC p room_1 s mt #[Value.ref b] meth c g code 7 RL 16) (S : SCR s g b L xs k) (i : Inv t m w) (hj : j < 512) (next : ∀ t' m' w', Inv t' m' w' → zW p l e room_1 s mt #[Value.ref b] below meth c g Q (cu (j + 1), su (j + 1) w') 7 t' m' 1496 (lwl k) []) : zW p l e room_1 s mt #[Value.ref b] below meth c g Q (cu j, su j w) 7 t m 1365 (lwl k) [] := by
  have hm := i.max
  have bd := cu_b hj (w := w) hm
  obtain ⟨P, H, hP⟩ := st_saying (x := (xs (nI k + 1).toNatClampNeg)) (x2 := (xs (nI k + 2).toNatClampNeg)) i
  have K := lk1 i.lay
  have K2 := lk75 i.lay
  refine z_aload_n (pc := 1365) C (dL_law_p6 62 rfl) rfl 3 rfl ?_
  refine z_aload_nS (pc := 1366) C (dL_law_p6 63 rfl) rfl 4 rfl ?_
  refine z_iload (pc := 1367) C (dL_law_p6 64 rfl) 0 rfl ?_
  refine z_iconst (pc := 1369) (v := 1) C (dL_law_p6 65 rfl) (by decide) ?_
  refine z_iadd (pc := 1370) C (dL_law_p6 66 rfl) ?_
  refine z_sld (pc := 1371) C S (sc_in S.2.2.2.2.1 S.2.2.2.2.2 (by decide) rfl) (dL_law_p6 67 rfl) ?_
  refine z_aload_nS (pc := 1372) C (dL_law_p6 68 rfl) rfl 4 rfl ?_
  refine z_iload (pc := 1373) C (dL_law_p6 69 rfl) 0 rfl ?_
  refine z_iconst (pc := 1375) (v := 2) C (dL_law_p6 70 rfl) (by decide) ?_
  refine z_iadd (pc := 1376) C (dL_law_p6 71 rfl) ?_
  refine z_sld (pc := 1377) C S (sc_in S.2.2.2.2.1 S.2.2.2.2.2 (by decide) rfl) (dL_law_p6 72 rfl) ?_
  refine zc_Vi (pc := 1378) (rest := []) C YX9_saying wl_L_191 (kX9_saying H) (by decide) K rfl (by decide) (dL_law_p6 73 rfl) rfl bd.2.1 bd.2.2.1 (Nat.le_of_ble_eq_true rfl) rfl (fun r m1 H => ?_)
  refine z_aload_n (pc := 1381) C (dL_law_p6 74 rfl) rfl 2 rfl ?_
  refine z_aload_nS (pc := 1382) C (dL_law_p6 75 rfl) rfl 4 rfl ?_
  refine z_iload (pc := 1383) C (dL_law_p6 76 rfl) 0 rfl ?_
  refine z_iconst (pc := 1385) (v := 1) C (dL_law_p6 77 rfl) (by decide) ?_
  refine z_iadd (pc := 1386) C (dL_law_p6 78 rfl) ?_
  refine z_sld (pc := 1387) C S (sc_in S.2.2.2.2.1 S.2.2.2.2.2 (by decide) rfl) (dL_law_p6 79 rfl) ?_
  refine z_aload_nS (pc := 1388) C (dL_law_p6 80 rfl) rfl 4 rfl ?_
  refine z_iload (pc := 1389) C (dL_law_p6 81 rfl) 0 rfl ?_
  refine z_iconst (pc := 1391) (v := 2) C (dL_law_p6 82 rfl) (by decide) ?_
  refine z_iadd (pc := 1392) C (dL_law_p6 83 rfl) ?_
  refine z_sld (pc := 1393) C S (sc_in S.2.2.2.2.1 S.2.2.2.2.2 (by decide) rfl) (dL_law_p6 84 rfl) ?_
  refine zc_Vi (pc := 1394) (rest := [.int r]) C YX12_saying wl_L_194 (kX12_saying H) (by decide) K2 rfl (by decide) (dL_law_p6 85 rfl) rfl bd.2.1 bd.2.2.1 (Nat.le_of_ble_eq_true rfl) rfl (fun r2 m2 H => ?_)
  obtain ⟨e, w', i', hw⟩ := hP r r2 m2 H
  exact z_icmp_eq (pc := 1397) (tgt := 1496) C (dL_law_p6 86 rfl) (by decide) (fun _ => z_widen (u2 := (cu (j + 1), su (j + 1) w')) (by show cu j ≤ cu (j + 1); unfold cu; omega) (by show su j w ≤ su (j + 1) w'; unfold su; omega) (next t m2 w' i')) (fun h => absurd e h)
theorem law_c43 (C : zC p room_1 s mt #[Value.ref b] meth c g code 7 RL 16) (S : SCR s g b L xs k) (i : Inv t m w) (hj : j < 512) (next : ∀ t' m' w', Inv t' m' w' → zW p l e room_1 s mt #[Value.ref b] below meth c g Q (cu (j + 1), su (j + 1) w') 7 t' m' 1496 (lwl k) []) : zW p l e room_1 s mt #[Value.ref b] below meth c g Q (cu j, su j w) 7 t m 1458 (lwl k) [] := by
  have hm := i.max
  have bd := cu_b hj (w := w) hm
  obtain ⟨P, H, hP⟩ := st_size (x := (xs (nI k + 1).toNatClampNeg)) i
  have K := lk1 i.lay
  have K2 := lk75 i.lay
  refine z_aload_n (pc := 1458) C (dL_law_p7 4 rfl) rfl 3 rfl ?_
  refine z_aload_nS (pc := 1459) C (dL_law_p7 5 rfl) rfl 4 rfl ?_
  refine z_iload (pc := 1460) C (dL_law_p7 6 rfl) 0 rfl ?_
  refine z_iconst (pc := 1462) (v := 1) C (dL_law_p7 7 rfl) (by decide) ?_
  refine z_iadd (pc := 1463) C (dL_law_p7 8 rfl) ?_
  refine z_sld (pc := 1464) C S (sc_in S.2.2.2.2.1 S.2.2.2.2.2 (by decide) rfl) (dL_law_p7 9 rfl) ?_
  refine zc_Vi (pc := 1465) (rest := []) C YX9_size wl_L_204 (kX9_size H) (by decide) K rfl (by decide) (dL_law_p7 10 rfl) rfl bd.2.1 bd.2.2.1 (Nat.le_of_ble_eq_true rfl) rfl (fun r m1 H => ?_)
  refine z_aload_n (pc := 1468) C (dL_law_p7 11 rfl) rfl 2 rfl ?_
  refine z_aload_nS (pc := 1469) C (dL_law_p7 12 rfl) rfl 4 rfl ?_
  refine z_iload (pc := 1470) C (dL_law_p7 13 rfl) 0 rfl ?_
  refine z_iconst (pc := 1472) (v := 1) C (dL_law_p7 14 rfl) (by decide) ?_
  refine z_iadd (pc := 1473) C (dL_law_p7 15 rfl) ?_
  refine z_sld (pc := 1474) C S (sc_in S.2.2.2.2.1 S.2.2.2.2.2 (by decide) rfl) (dL_law_p7 16 rfl) ?_
  refine zc_Vi (pc := 1475) (rest := [.int r]) C YX12_size wl_L_207 (kX12_size H) (by decide) K2 rfl (by decide) (dL_law_p7 17 rfl) rfl bd.2.1 bd.2.2.1 (Nat.le_of_ble_eq_true rfl) rfl (fun r2 m2 H => ?_)
  obtain ⟨e, w', i', hw⟩ := hP r r2 m2 H
  exact z_icmp_eq (pc := 1478) (tgt := 1496) C (dL_law_p7 18 rfl) (by decide) (fun _ => z_widen (u2 := (cu (j + 1), su (j + 1) w')) (by show cu j ≤ cu (j + 1); unfold cu; omega) (by show su j w ≤ su (j + 1) w'; unfold su; omega) (next t m2 w' i')) (fun h => absurd e h)
theorem law_c44 (C : zC p room_1 s mt #[Value.ref b] meth c g code 7 RL 16) (S : SCR s g b L xs k) (i : Inv t m w) (hj : j < 512) (next : ∀ t' m' w', Inv t' m' w' → zW p l e room_1 s mt #[Value.ref b] below meth c g Q (cu (j + 1), su (j + 1) w') 7 t' m' 1496 (lwl k) []) : zW p l e room_1 s mt #[Value.ref b] below meth c g Q (cu j, su j w) 7 t m 1483 (lwl k) [] := by
  have hm := i.max
  have bd := cu_b hj (w := w) hm
  obtain ⟨P, H, hP⟩ := st_trouble  i
  have K := lk1 i.lay
  have K2 := lk75 i.lay
  refine z_aload_n (pc := 1483) C (dL_law_p7 21 rfl) rfl 3 rfl ?_
  refine zc_Vi (pc := 1484) (rest := []) C YX9_trouble wl_L_208 (kX9_trouble H) (by decide) K rfl (by decide) (dL_law_p7 22 rfl) rfl bd.2.1 bd.2.2.1 (Nat.le_of_ble_eq_true rfl) rfl (fun r m1 H => ?_)
  refine z_aload_n (pc := 1487) C (dL_law_p7 23 rfl) rfl 2 rfl ?_
  refine zc_Vi (pc := 1488) (rest := [.int r]) C YX12_trouble wl_L_211 (kX12_trouble H) (by decide) K2 rfl (by decide) (dL_law_p7 24 rfl) rfl bd.2.1 bd.2.2.1 (Nat.le_of_ble_eq_true rfl) rfl (fun r2 m2 H => ?_)
  obtain ⟨e, w', i', hw⟩ := hP r r2 m2 H
  exact z_icmp_eq (pc := 1491) (tgt := 1496) C (dL_law_p7 25 rfl) (by decide) (fun _ => z_widen (u2 := (cu (j + 1), su (j + 1) w')) (by show cu j ≤ cu (j + 1); unfold cu; omega) (by show su j w ≤ su (j + 1) w'; unfold su; omega) (next t m2 w' i')) (fun h => absurd e h)
end
