/-! The reference's lines -/
def RQ (t : zT) (m : zM) (B : Nat → Nat) (n : Nat) (u : Nat) (S : Sc) (N : Sc) (k : Tk) : Prop := (RP t m B n u N k) ∧ (SG m u er or_ S) ∧ (Vq S N)
theorem RQ.rp {t : zT} {m : zM} {B : Nat → Nat} {n : Nat} {u : Nat} {S : Sc} {N : Sc} {k : Tk} (h_ : RQ t m B n u S N k) : RP t m B n u N k := h_.1
theorem RQ.sg {t : zT} {m : zM} {B : Nat → Nat} {n : Nat} {u : Nat} {S : Sc} {N : Sc} {k : Tk} (h_ : RQ t m B n u S N k) : SG m u er or_ S := h_.2.1
theorem RQ.vq {t : zT} {m : zM} {B : Nat → Nat} {n : Nat} {u : Nat} {S : Sc} {N : Sc} {k : Tk} (h_ : RQ t m B n u S N k) : Vq S N := h_.2.2
def rpT (u : Nat) : List Nat := [75, u, u + 1, u + 2, u + 3, u + 4, u + 5, u + 6, u + 7, u + 8, u + 9, u + 10, u + 11, u + 12, u + 13, u + 14]
/-- what reading a school may touch in the reference -/
def RwF (u : Nat) (m m' : zM) : Prop := Fr (rpT u) m m' ∧ ∀ j, j < 8 ∨ 14 < j → gI m' 75 j = gI m 75 j
section
variable {t : zT} {m m' m1 m2 : zM} {B : Nat → Nat} {n a b c s u j i v w : Nat} {k : Tk} {x y : Int32} {z : Int64} {N S : Sc} {e : Er} {Q : zM → Prop}
theorem rpT_m {q : Nat} : q ∈ rpT u ↔ q = 75 ∨ (u ≤ q ∧ q ≤ u + 14) := by
  unfold rpT
  simp only [List.mem_cons, List.not_mem_nil, or_false]
  omega
theorem RwF.rf : RwF u m m := ⟨Fr.rf, fun _ _ => rfl⟩
theorem RwF.tr (h1 : RwF u m m1) (h2 : RwF u m1 m2) : RwF u m m2 := ⟨h1.1.tr h2.1, fun j hj => (h2.2 j hj).trans (h1.2 j hj)⟩
theorem RF.wd (h : RF m m') : RwF u m m' := ⟨h.1.mono (fun q hq => rpT_m.mpr (by simp only [List.mem_cons, List.not_mem_nil, or_false] at hq; omega)), h.2⟩
theorem RwF.pw (h : RwF u m m1) (hu : 85 ≤ u) {j : Nat} (hj : j ≤ 14) (i : Nat) (v : Int32) : RwF u m (pI m1 (u + j) i v) := ⟨Fr.pI h.1 (rpT_m.mpr (by omega)), fun q hq => by rw [gII, if_neg (by omega)]; exact h.2 q hq⟩
theorem RwF.jw (h : RwF u m m1) (i : Nat) (v : Int64) : RwF u m (pJ m1 (u + 12) i v) := ⟨Fr.pJ h.1 (rpT_m.mpr (by omega)), h.2⟩
theorem SG.rF (h : SG m u er or_ S) (f : RF m m') (hu : 85 ≤ u) : SG m' u er or_ S := h.fr EOr f.1 (fun j hj => o75 (by omega))
theorem RTk.eq (h : RTk m k) (e1 : ∀ j, gI m' 75 j = gI m 75 j) (e2 : ∀ j, gJ m' 75 j = gJ m 75 j) : RTk m' k := by
  unfold RTk at h ⊢
  simp only [e1, e2]
  exact h
theorem RP.out (P : RP t m B n u N k) {j : Nat} (hj : j ≤ 11) {i : Nat} (hi : j = 0 → i ≠ 8) (v : Int32) : RP t (pI m (u + j) i v) B n u N k := by
  have R := P.rb.rl
  have hu := R.u85
  have f : Fr [u + j] m (pI m (u + j) i v) := Fr.pI Fr.rf (List.mem_cons_self ..)
  have e1 : ∀ q i', q < 85 → gI (pI m (u + j) i v) q i' = gI m q i' := fun q i' hq => by rw [gII, if_neg (by omega)]
  have e8 : gI (pI m (u + j) i v) u 8 = gI m u 8 := by rw [gII, if_neg (fun z => hi (by omega) z.2.symm)]
  obtain ⟨c, c1, c2⟩ := P.rb.cb
  refine ⟨⟨P.rb.lay.fr f, R.fr f, (f.2 _ _).trans P.rb.rd, c, c1, e8.trans c2⟩, P.n9, (e1 _ _ (by decide)).trans P.en, fun q hq => by rw [e1 _ _ (by decide)]; exact P.tape q hq, P.tk.eq (fun q => e1 _ _ (by decide)) (fun q => gJI _ _ _ _ _ _), P.ok, (e1 _ _ (by decide)).trans P.fl, e8.trans P.nm.cn, P.nm.c19, fun q hq => P.nm.wo q hq, fun q hq => ?_, fun q hq => ?_⟩
  · rw [gII, if_neg (by omega)]; exact P.nm.so q hq
  · rw [gII, if_neg (by omega)]; exact P.nm.nu q hq
theorem rsp_names (P : RP t m B n u N k) (sg : SG m u er or_ S) (hN : N 0 0 < 19) (hz : z = lN w) (hw : w < 1099511627776) (hx : x = nI s) (hs : s ≤ 2) (hy : y = nI a) (h : ∀ m', RwF u m m' → RP t m' B n u (aN N w s a) k → SG m' u er or_ S → Q m') : wX12_names t m 75 z x y Q := by
  have L := P.rb.lay
  have R := P.rb.rl
  have hu := R.u85
  have cn := P.nm.cn
  unfold wX12_names
  rw [P.rb.rd, R.r12, R.r13, R.r14, R.l12, R.l13, R.l14, cn, nI_cl (show N 0 0 < 2 ^ 31 by omega)]
  have w1 : gI (pI (pJ m (u + 12) (N 0 0) z) (u + 13) (N 0 0) x) u 8 = nI (N 0 0) := by rw [gII, if_neg (by omega), gIJ]; exact cn
  rw [w1, nI_cl (show N 0 0 < 2 ^ 31 by omega)]
  have w2 : gI (pI (pI (pJ m (u + 12) (N 0 0) z) (u + 13) (N 0 0) x) (u + 14) (N 0 0) y) u 8 = nI (N 0 0) := by rw [gII, if_neg (by omega)]; exact w1
  rw [w2, nI_1]
  refine ⟨lk75 L, R.k, R.k12, vp_nI (by omega) (by decide), R.k13, vp_nI (by omega) (by decide), R.k14, vp_nI (by omega) (by decide), ?_⟩
  have W : RwF u m (pI (pI (pI (pJ m (u + 12) (N 0 0) z) (u + 13) (N 0 0) x) (u + 14) (N 0 0) y) u 8 (nI (N 0 0 + 1))) := (((RwF.rf.jw _ _).pw hu (j := 13) (by decide) _ _).pw hu (j := 14) (by decide) _ _).pw hu (j := 0) (by decide) _ _
  have e1 : ∀ q i', q < 85 → gI (pI (pI (pI (pJ m (u + 12) (N 0 0) z) (u + 13) (N 0 0) x) (u + 14) (N 0 0) y) u 8 (nI (N 0 0 + 1))) q i' = gI m q i' := fun q i' hq => by rw [gII, if_neg (by omega), gII, if_neg (by omega), gII, if_neg (by omega), gIJ]
  have e8 : gI (pI (pI (pI (pJ m (u + 12) (N 0 0) z) (u + 13) (N 0 0) x) (u + 14) (N 0 0) y) u 8 (nI (N 0 0 + 1))) u 8 = nI (N 0 0 + 1) := by rw [gII, if_pos ⟨rfl, rfl⟩]
  have f := W.1
  refine h _ W ⟨⟨L.fr f, R.fr f, (f.2 _ _).trans P.rb.rd, N 0 0 + 1, hN, e8⟩, P.n9, (e1 _ _ (by decide)).trans P.en, fun q hq => by rw [e1 _ _ (by decide)]; exact P.tape q hq, P.tk.eq (fun q => e1 _ _ (by decide)) (fun q => ?_), P.ok, (e1 _ _ (by decide)).trans P.fl, ?_⟩ ⟨fun i hi => ?_, fun j hj q hq => ?_⟩
  · rw [gJI, gJI, gJI, gJJ, if_neg (by omega)]
  · refine ⟨by rw [aN_0]; exact e8, by rw [aN_0]; exact hN, fun i hi => ?_, fun i hi => ?_, fun i hi => ?_⟩
    · rw [aN_0] at hi
      rw [aN_1, gJI, gJI, gJI, gJJ]
      by_cases q : i = N 0 0
      · rw [if_pos ⟨rfl, q⟩, if_pos q]; exact ⟨hz, hw⟩
      · rw [if_neg (fun y => q y.2), if_neg q]; exact P.nm.wo i (by omega)
    · rw [aN_0] at hi
      rw [aN_2, gII, if_neg (by omega), gII, if_neg (by omega), gII]
      by_cases q : i = N 0 0
      · rw [if_pos ⟨rfl, q⟩, if_pos q]; exact ⟨hx, hs⟩
      · rw [if_neg (fun y => q y.2), if_neg q, gIJ]; exact P.nm.so i (by omega)
    · rw [aN_0] at hi
      rw [aN_3, gII, if_neg (by omega), gII]
      by_cases q : i = N 0 0
      · rw [if_pos ⟨rfl, q⟩, if_pos q]; exact hy
      · rw [if_neg (fun y => q y.2), if_neg q, gII, if_neg (by omega), gIJ]; exact P.nm.nu i (by omega)
  · have e9 : er i ≠ 8 := by rcases c9 hi with rfl | rfl | rfl | rfl | rfl | rfl | rfl | rfl | rfl <;> decide
    rw [gII, if_neg (fun y => e9 y.2), gII, if_neg (by omega), gII, if_neg (by omega), gIJ]
    exact sg.1 i hi
  · have b := EOr.2.2 j hj
    rw [gII, if_neg (by omega), gII, if_neg (by omega), gII, if_neg (by omega), gIJ]
    exact sg.2 j hj q hq
theorem rsp_readThing (C : RQ t m B n u S N k) (hk : k.1 ≠ 5) (h0 : ∀ e m', pThing B n S N k = .inl e → RwF u m m' → RDd t m' u e → Q m') (h1 : ∀ S' N' k' m', pThing B n S N k = .inr (S', N', k') → RwF u m m' → RQ t m' B n u S' N' k' → Q m') : wX12_readThing t m 75 Q := by
  have V := C.vq
  have P := C.rp
  have L := P.rb.lay
  have R := P.rb.rl
  have hu := R.u85
  have nc := V.nc
  have m6 := V.m6
  have ch5 := V.ch5
  have dJ : ∀ e m1 y x, RDd t m1 u e → Q m1 → wX12_readThing_J52 t m1 75 y x Q := fun e m1 y x D h => ⟨lk75 L, rd_go D ⟨fun _ => h, fun w => absurd D.s5 w⟩⟩
  have d4 : ∀ e m1 y r, RDd t m1 u e → Q m1 → (tK t (gR m1 75 4) = 11 ∧ (((gI m1 (gR m1 75 4) 9 * r) ≤ 4096 → wX12_readThing_J52 t m1 75 y r Q) ∧ (¬ (gI m1 (gR m1 75 4) 9 * r) ≤ 4096 → wX12_flaw t m1 75 7 (fun m24 => wX12_readThing_J52 t m24 75 y r Q)))) := fun e m1 y r D h => ⟨by rw [D.rb.rd]; exact D.rb.rl.k, fun _ => dJ e m1 y r D h, fun _ => rd_flaw D (dJ e m1 y r D h)⟩
  unfold wX12_readThing
  rw [P.rb.rd, show gI m u 0 = nI (cT S) from C.sg.1 0 (by decide)]
  refine ⟨lk75 L, R.k, rsp_begins P hk rfl rfl V.t8 (by decide) (fun e m' he f d => rd_readFresh d (fun y => rd_needs d (rd_bounded d (fun r => d4 e m' y r d (h0 e m' (bd_l he) f.wd d))))) (fun m4 hm f4 P4 => ?_)⟩
  refine rsp_readFresh P4 (fun y e m' he f d => rd_needs d (rd_bounded d (fun r => d4 e m' y r d (h0 e m' ((bd_r hm).trans (bd_l he)) (f4.tr f).wd d)))) (fun w m6 hw w40 f6 P6 => ?_)
  refine rsp_needs P6 (by decide) zw_8 (by decide) (fun e m' he f d => rd_bounded d (fun r => d4 e m' _ r d (h0 e m' ((bd_r hm).trans ((bd_r hw).trans (bd_l he))) (f4.tr (f6.tr f)).wd d))) (fun m8 hp f8 P8 => ?_)
  have F8 : RF m m8 := f4.tr (f6.tr f8)
  refine rsp_bounded P8 (lo := 2) (hi := 4) rfl rfl (by decide) (by decide) (fun r e m' he f d => d4 e m' _ r d (h0 e m' ((bd_r hm).trans ((bd_r hw).trans ((bd_r hp).trans (bd_l he)))) (F8.tr f).wd d)) (fun v hv => ?_)
  have S8 := C.sg.rF F8 hu
  have pv := pWh_i hv
  have c8 := pMn_i hm
  have cb := V.cnt
  have cv : cnt S * v ≤ 4096 * 4 := Nat.mul_le_mul cb pv.2.2.1
  rw [P8.rb.rd, show gI m8 u 9 = nI (cnt S) from S8.1 1 (by decide), pk_mul, show (4096 : Int32) = nI 4096 from rfl, nI_leI (by omega) (by decide)]
  refine ⟨R.k, fun hle => ⟨lk75 L, rsp_go P8 (by omega) (fun m15 f15 P15 => ⟨fun w => absurd w P15.s5, fun _ => ?_⟩)⟩, fun hgt => rsp_flaw P8 (c := 7) rfl (fun m' f d => dJ _ m' _ _ d (h0 _ m' ((bd_r hm).trans ((bd_r hw).trans ((bd_r hp).trans ((bd_r hv).trans (if_neg hgt))))) (F8.tr f).wd d))⟩
  have S15 := S8.rF f15 hu
  rw [P15.rb.rd, show gI m15 u 0 = nI (cT S) from S15.1 0 (by decide)]
  refine ⟨R.k, rsp_names P15 S15 (by omega) rfl w40 (s := 0) rfl (by decide) rfl (fun m19 f19 P19 S19 => ?_)⟩
  have R19 := P19.rb.rl
  rw [P19.rb.rd, R19.r1, R19.l1, show gI m19 u 0 = nI (cT S) from S19.1 0 (by decide), nI_cl (show cT S < 2 ^ 31 by omega)]
  have w2 : gI (pI m19 (u + 1) (cT S) (nI v)) u 9 = nI (cnt S) := by rw [gII, if_neg (by omega)]; exact S19.1 1 (by decide)
  rw [w2, pk_mul]
  have w0 : gI (pI (pI m19 (u + 1) (cT S) (nI v)) u 9 (nI (cnt S * v))) u 0 = nI (cT S) := by rw [gII, if_neg (by omega), gII, if_neg (by omega)]; exact S19.1 0 (by decide)
  rw [w0, nI_1]
  have eq : pThing B n S N k = .inr _ := (bd_r hm).trans ((bd_r hw).trans ((bd_r hp).trans ((bd_r hv).trans (if_pos hle))))
  have PP := ((P19.out (j := 1) (by decide) (i := cT S) (fun h => absurd h (by decide)) (nI v)).out (j := 0) (by decide) (i := 9) (fun _ => by decide) (nI (cnt S * v))).out (j := 0) (by decide) (i := 0) (fun _ => by decide) (nI (cT S + 1))
  have SS := (S19.out EOr (j := 0) (by decide) (Nat.le_refl _) (nI v)).thing EOr (v := v) (by rw [gII, if_pos ⟨rfl, rfl⟩])
  exact ⟨R.k, R19.k1, vp_nI (by omega) (by decide), h1 _ _ _ _ eq ((((F8.tr f15).wd.tr f19).pw hu (j := 1) (by decide) _ _).pw hu (j := 0) (by decide) _ _ |>.pw hu (j := 0) (by decide) _ _) ⟨PP, SS, (pThing_ok V P.ok eq).1⟩⟩
theorem rsp_readMaster (C : RQ t m B n u S N k) (hk : k.1 ≠ 5) (h0 : ∀ e m', pMaster B n S N k = .inl e → RwF u m m' → RDd t m' u e → Q m') (h1 : ∀ S' N' k' m', pMaster B n S N k = .inr (S', N', k') → RwF u m m' → RQ t m' B n u S' N' k' → Q m') : wX12_readMaster t m 75 Q := by
  have V := C.vq
  have P := C.rp
  have L := P.rb.lay
  have R := P.rb.rl
  have hu := R.u85
  have nc := V.nc
  have t8 := V.t8
  have ch5 := V.ch5
  have dJ : ∀ e m1 y x, RDd t m1 u e → Q m1 → wX12_readMaster_J84 t m1 75 y x Q := fun e m1 y x D h => ⟨lk75 L, fun _ => h, fun w => absurd D.s5 w⟩
  have d73 : ∀ e m1 y, RDd t m1 u e → Q m1 → wX12_readMaster_J73 t m1 75 y (-1) Q := fun e m1 y D h => ⟨fun _ => ⟨lk75 L, rd_flaw D (dJ e m1 y _ D h)⟩, fun w => absurd rfl w⟩
  unfold wX12_readMaster
  rw [P.rb.rd, show gI m u 2 = nI (cM S) from C.sg.1 4 (by decide)]
  refine ⟨lk75 L, R.k, rsp_begins P hk rfl rfl V.m6 (by decide) (fun e m' he f d => rd_readFresh d (fun y => rd_eatsWord d (q0 (rd_eatsWord d (q0 (rd_eatsWord d (q0 (rd_eatsWord d (q0 (d73 e m' y d (h0 e m' (bd_l he) f.wd d))))))))))) (fun m4 hm f4 P4 => ?_)⟩
  refine rsp_readFresh P4 (fun y e m' he f d => rd_eatsWord d (q0 (rd_eatsWord d (q0 (rd_eatsWord d (q0 (rd_eatsWord d (q0 (d73 e m' y d (h0 e m' ((bd_r hm).trans (bd_l he)) (f4.tr f).wd d)))))))))) (fun w m6 hw w40 f6 P6 => ?_)
  have F6 : RF m m6 := f4.tr f6
  have c8 := pMn_i hm
  have fin : ∀ d m8, pKd (adv B n (adv B n k)) = .inr d → RF m6 m8 → RP t m8 B n u N (adv B n (adv B n (adv B n k))) → wX12_readMaster_J73 t m8 75 (lN w) (nI d) Q := by
    intro d m8 hd f8 P8
    have d4 := (pKd_i hd).2
    have S8 := C.sg.rF (F6.tr f8) hu
    unfold wX12_readMaster_J73 wX12_readMaster_J84
    refine ⟨fun q => absurd q (nI_m1 (by omega)), fun _ => ⟨lk75 L, fun q => absurd q P8.s5, fun _ => ?_⟩⟩
    rw [P8.rb.rd, show gI m8 u 2 = nI (cM S) from S8.1 4 (by decide)]
    refine ⟨R.k, rsp_names P8 S8 (by omega) rfl w40 (s := 1) rfl (by decide) rfl (fun m19 f19 P19 S19 => ?_)⟩
    have R19 := P19.rb.rl
    rw [P19.rb.rd, R19.r3, R19.l3, show gI m19 u 2 = nI (cM S) from S19.1 4 (by decide), nI_cl (show cM S < 2 ^ 31 by omega)]
    have w0 : gI (pI m19 (u + 3) (cM S) (nI d)) u 2 = nI (cM S) := by rw [gII, if_neg (by omega)]; exact S19.1 4 (by decide)
    rw [w0, nI_1]
    have eq : pMaster B n S N k = .inr _ := (bd_r hm).trans ((bd_r hw).trans (bd_r hd))
    have PP := (P19.out (j := 3) (by decide) (i := cM S) (fun h => absurd h (by decide)) (nI d)).out (j := 0) (by decide) (i := 2) (fun _ => by decide) (nI (cM S + 1))
    have SS := (S19.out EOr (j := 6) (by decide) (Nat.le_refl _) (nI d)).mas EOr (d := d) (by rw [gII, if_pos ⟨rfl, rfl⟩])
    exact ⟨R.k, R19.k3, vp_nI (by omega) (by decide), h1 _ _ _ _ eq ((((F6.tr f8).wd.tr f19).pw hu (j := 3) (by decide) _ _).pw hu (j := 0) (by decide) _ _) ⟨PP, SS, (pMaster_ok V P.ok eq).1⟩⟩
  refine rsp_eatsWord P6 (by decide) zw_9 (by decide) (fun m' q f p => q1 (fin 0 m' (by unfold pKd; rw [q]; rfl) f p)) (fun w1 => q0 ?_)
  refine rsp_eatsWord P6 (by decide) zw_10 (by decide) (fun m' q f p => q1 (fin 1 m' (by unfold pKd; rw [w1, q]; rfl) f p)) (fun w2 => q0 ?_)
  refine rsp_eatsWord P6 (by decide) zw_11 (by decide) (fun m' q f p => q1 (fin 2 m' (by unfold pKd; rw [w1, w2, q]; rfl) f p)) (fun w3 => q0 ?_)
  refine rsp_eatsWord P6 (by decide) zw_12 (by decide) (fun m' q f p => q1 (fin 3 m' (by unfold pKd; rw [w1, w2, w3, q]; rfl) f p)) (fun w4 => q0 ?_)
  refine ⟨fun _ => ⟨lk75 L, rsp_flaw P6 (c := 1) rfl (fun m' f d => dJ _ m' _ _ d (h0 _ m' ((bd_r hm).trans ((bd_r hw).trans (bd_l ?_))) (F6.tr f).wd d))⟩, fun w => absurd rfl w⟩
  unfold pKd
  rw [w1, w2, w3, w4]
  rfl
theorem rsp_readTrial (C : RQ t m B n u S N k) (hk : k.1 ≠ 5) (h0 : ∀ e m', pTrial B n S N k = .inl e → RwF u m m' → RDd t m' u e → Q m') (h1 : ∀ S' N' k' m', pTrial B n S N k = .inr (S', N', k') → RwF u m m' → RQ t m' B n u S' N' k' → Q m') : wX12_readTrial t m 75 Q := by
  have V := C.vq
  have P := C.rp
  have L := P.rb.lay
  have R := P.rb.rl
  have hu := R.u85
  have t8 := V.t8
  have dJ : ∀ e m1 x, RDd t m1 u e → Q m1 → wX12_readTrial_J35 t m1 75 x Q := fun e m1 x D h => ⟨lk75 L, rd_go D (rd_needs D (rd_readWhole D (fun r => ⟨fun _ => h, fun w => absurd D.s5 w⟩)))⟩
  refine ⟨lk75 L, rsp_go P hk (fun m3 f3 P3 => rsp_known P3 (s := 0) rfl (by decide) (fun r e m' he f d => ⟨fun _ => dJ e m' r d (h0 e m' (bd_l he) (f3.tr f).wd d), fun w => absurd d.s5 w⟩) (fun a ha => ⟨fun w => absurd w P3.s5, fun _ => ?_⟩))⟩
  have a_ := pKn_0 V ha
  have S3 := C.sg.rF f3 hu
  have c99 := V.c99 a (by omega)
  have R3 := P3.rb.rl
  rw [P3.rb.rd, R3.r2, R3.l2, nI_cl (show a < 2 ^ 31 by omega), show gI m3 (u + 2) a = nI (cC S a) from S3.2 1 (by decide) a (show a < 8 by omega), show (0 : Int32) = nI 0 from rfl, nI_leI (by omega) (by decide)]
  refine ⟨R.k, R.k2, vp_nI (by omega) (by decide), fun hc => ?_, fun hc => rsp_flaw P3 (c := 3) rfl (fun m' f d => dJ _ m' _ d (h0 _ m' ((bd_r ha).trans (if_neg (by omega))) (f3.tr f).wd d))⟩
  have hc0 : cC S a = 0 := by omega
  refine ⟨lk75 L, rsp_go P3 (by have := (pKn_i ha).1; omega) (fun m9 f9 P9 => ?_)⟩
  refine rsp_needs P9 (by decide) zw_17 (by decide) (fun e m' he f d => rd_readWhole d (fun r => ⟨fun _ => h0 e m' ((bd_r ha).trans ((if_pos hc0).trans (bd_l he))) (f3.tr (f9.tr f)).wd d, fun w => absurd d.s5 w⟩)) (fun m11 hp f11 P11 => ?_)
  refine rsp_readWhole P11 (lo := 1) (hi := 99) rfl rfl (by decide) (by decide) (fun r e m' he f d => ⟨fun _ => h0 e m' ((bd_r ha).trans ((if_pos hc0).trans ((bd_r hp).trans (bd_l he)))) (f3.tr (f9.tr (f11.tr f))).wd d, fun w => absurd d.s5 w⟩) (fun v m13 hv f13 P13 => ⟨fun w => absurd w P13.s5, fun _ => ?_⟩)
  have F13 : RF m m13 := f3.tr (f9.tr (f11.tr f13))
  have S13 := C.sg.rF F13 hu
  have R13 := P13.rb.rl
  rw [P13.rb.rd, R13.r2, R13.l2, nI_cl (show a < 2 ^ 31 by omega)]
  have w4 : gI (pI m13 (u + 2) a (nI v)) u 5 = nI (cTr S) := by rw [gII, if_neg (by omega)]; exact S13.1 2 (by decide)
  rw [w4, nI_1]
  have eq : pTrial B n S N k = .inr _ := (bd_r ha).trans ((if_pos hc0).trans ((bd_r hp).trans (bd_r hv)))
  have PP := (P13.out (j := 2) (by decide) (i := a) (fun h => absurd h (by decide)) (nI v)).out (j := 0) (by decide) (i := 5) (fun _ => by decide) (nI (cTr S + 1))
  have SS := S13.tri EOr (v := v) (show a < 8 by omega)
  exact ⟨R.k, R.k2, vp_nI (by omega) (by decide), h1 _ _ _ _ eq ((F13.wd.pw hu (j := 2) (by decide) _ _).pw hu (j := 0) (by decide) _ _) ⟨PP, SS, (pTrial_ok V P.ok eq).1⟩⟩
end
