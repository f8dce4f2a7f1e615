/-! The reference's small readers -/
/-- the names in the reference -/
def RNm (m : zM) (u : Nat) (N : Sc) : Prop := (gI m u 8 = nI (N 0 0)) ∧ (N 0 0 ≤ 19) ∧ (∀ i, i < N 0 0 → gJ m (u + 12) i = lN (N 1 i) ∧ N 1 i < 1099511627776) ∧ (∀ i, i < N 0 0 → gI m (u + 13) i = nI (N 2 i) ∧ N 2 i ≤ 2) ∧ (∀ i, i < N 0 0 → gI m (u + 14) i = nI (N 3 i))
theorem RNm.cn {m : zM} {u : Nat} {N : Sc} (h_ : RNm m u N) : gI m u 8 = nI (N 0 0) := h_.1
theorem RNm.c19 {m : zM} {u : Nat} {N : Sc} (h_ : RNm m u N) : N 0 0 ≤ 19 := h_.2.1
theorem RNm.wo {m : zM} {u : Nat} {N : Sc} (h_ : RNm m u N) : ∀ i, i < N 0 0 → gJ m (u + 12) i = lN (N 1 i) ∧ N 1 i < 1099511627776 := h_.2.2.1
theorem RNm.so {m : zM} {u : Nat} {N : Sc} (h_ : RNm m u N) : ∀ i, i < N 0 0 → gI m (u + 13) i = nI (N 2 i) ∧ N 2 i ≤ 2 := h_.2.2.2.1
theorem RNm.nu {m : zM} {u : Nat} {N : Sc} (h_ : RNm m u N) : ∀ i, i < N 0 0 → gI m (u + 14) i = nI (N 3 i) := h_.2.2.2.2
def RB (t : zT) (m : zM) (u : Nat) : Prop := (Lay t m) ∧ (RLy t m u) ∧ (gR m 75 4 = u) ∧ (∃ c, c ≤ 19 ∧ gI m u 8 = nI c)
theorem RB.lay {t : zT} {m : zM} {u : Nat} (h_ : RB t m u) : Lay t m := h_.1
theorem RB.rl {t : zT} {m : zM} {u : Nat} (h_ : RB t m u) : RLy t m u := h_.2.1
theorem RB.rd {t : zT} {m : zM} {u : Nat} (h_ : RB t m u) : gR m 75 4 = u := h_.2.2.1
theorem RB.cb {t : zT} {m : zM} {u : Nat} (h_ : RB t m u) : ∃ c, c ≤ 19 ∧ gI m u 8 = nI c := h_.2.2.2
/-- reading goes on -/
def RP (t : zT) (m : zM) (B : Nat → Nat) (n : Nat) (u : Nat) (N : Sc) (k : Tk) : Prop := (RB t m u) ∧ (n ≤ 900) ∧ (gI m 75 7 = nI n) ∧ (∀ j, j < n → TB (gI m 76 j) (B j)) ∧ (RTk m k) ∧ (TO n k) ∧ (gI m 75 13 = 0) ∧ (RNm m u N)
theorem RP.rb {t : zT} {m : zM} {B : Nat → Nat} {n : Nat} {u : Nat} {N : Sc} {k : Tk} (h_ : RP t m B n u N k) : RB t m u := h_.1
theorem RP.n9 {t : zT} {m : zM} {B : Nat → Nat} {n : Nat} {u : Nat} {N : Sc} {k : Tk} (h_ : RP t m B n u N k) : n ≤ 900 := h_.2.1
theorem RP.en {t : zT} {m : zM} {B : Nat → Nat} {n : Nat} {u : Nat} {N : Sc} {k : Tk} (h_ : RP t m B n u N k) : gI m 75 7 = nI n := h_.2.2.1
theorem RP.tape {t : zT} {m : zM} {B : Nat → Nat} {n : Nat} {u : Nat} {N : Sc} {k : Tk} (h_ : RP t m B n u N k) : ∀ j, j < n → TB (gI m 76 j) (B j) := h_.2.2.2.1
theorem RP.tk {t : zT} {m : zM} {B : Nat → Nat} {n : Nat} {u : Nat} {N : Sc} {k : Tk} (h_ : RP t m B n u N k) : RTk m k := h_.2.2.2.2.1
theorem RP.ok {t : zT} {m : zM} {B : Nat → Nat} {n : Nat} {u : Nat} {N : Sc} {k : Tk} (h_ : RP t m B n u N k) : TO n k := h_.2.2.2.2.2.1
theorem RP.fl {t : zT} {m : zM} {B : Nat → Nat} {n : Nat} {u : Nat} {N : Sc} {k : Tk} (h_ : RP t m B n u N k) : gI m 75 13 = 0 := h_.2.2.2.2.2.2.1
theorem RP.nm {t : zT} {m : zM} {B : Nat → Nat} {n : Nat} {u : Nat} {N : Sc} {k : Tk} (h_ : RP t m B n u N k) : RNm m u N := h_.2.2.2.2.2.2.2
/-- reading has ended at a flaw -/
def RDd (t : zT) (m : zM) (u : Nat) (e : Er) : Prop := (RB t m u) ∧ (gI m 75 9 = 5) ∧ (gI m 75 13 = nI e.1) ∧ (gI m 75 14 = nI e.2) ∧ (0 < e.1 ∧ e.1 < 8)
theorem RDd.rb {t : zT} {m : zM} {u : Nat} {e : Er} (h_ : RDd t m u e) : RB t m u := h_.1
theorem RDd.s5 {t : zT} {m : zM} {u : Nat} {e : Er} (h_ : RDd t m u e) : gI m 75 9 = 5 := h_.2.1
theorem RDd.f {t : zT} {m : zM} {u : Nat} {e : Er} (h_ : RDd t m u e) : gI m 75 13 = nI e.1 := h_.2.2.1
theorem RDd.w {t : zT} {m : zM} {u : Nat} {e : Er} (h_ : RDd t m u e) : gI m 75 14 = nI e.2 := h_.2.2.2.1
theorem RDd.b {t : zT} {m : zM} {u : Nat} {e : Er} (h_ : RDd t m u e) : 0 < e.1 ∧ e.1 < 8 := h_.2.2.2.2
def RF (m m' : zM) : Prop := Fr [75] m m' ∧ ∀ j, j < 8 ∨ 14 < j → gI m' 75 j = gI m 75 j
section
variable {t : zT} {m m' m1 m2 : zM} {B : Nat → Nat} {n a b c s u j : Nat} {k : Tk} {x y : Int32} {z : Int64} {N S : Sc} {e : Er}
theorem rs_all : ∀ i, i < 6 → (rsI i = 2 ↔ i = 1) ∧ (rsI i = 1 ↔ i = 0) ∧ (rsI i = 3 ↔ i = 2) ∧ (rsI i = 4 ↔ i = 3 ∨ i = 4) ∧ rsI i ≠ 5 := by decide
theorem nI_m1 {i : Nat} (h : i < 2 ^ 31) : ¬ nI i = -1 := fun z => by
  have q := congrArg Int32.toInt z
  rw [nI_toInt h] at q
  have e : (-1 : Int32).toInt = -1 := by decide
  omega
theorem o75 {q : Nat} (h : q ≠ 75) : q ∉ [75] := fun z => by simp only [List.mem_cons, List.not_mem_nil, or_false] at z; omega
theorem RF.rf : RF m m := ⟨Fr.rf, fun _ _ => rfl⟩
theorem RF.tr (h1 : RF m m1) (h2 : RF m1 m2) : RF m m2 := ⟨h1.1.tr h2.1, fun j hj => (h2.2 j hj).trans (h1.2 j hj)⟩
theorem RkF.rF (h : RkF m m') : RF m m' := ⟨h.1, fun j hj => h.2 j (by omega) (by omega) (by omega) (by omega) (by omega)⟩
theorem RNm.fr (h : RNm m u N) (f : Fr [75] m m') (hu : 85 ≤ u) : RNm m' u N := by
  refine ⟨(f.I (o75 (by omega)) _).trans h.cn, h.c19, fun i hi => ?_, fun i hi => ?_, fun i hi => ?_⟩
  · rw [f.J (o75 (by omega))]; exact h.wo i hi
  · rw [f.I (o75 (by omega))]; exact h.so i hi
  · rw [f.I (o75 (by omega))]; exact h.nu i hi
theorem RB.fr (h : RB t m u) (f : Fr [75] m m') : RB t m' u := by
  have hu := h.rl.u85
  obtain ⟨c, c1, c2⟩ := h.cb
  exact ⟨h.lay.fr f, h.rl.fr f, (f.2 _ _).trans h.rd, c, c1, (f.I (o75 (by omega)) _).trans c2⟩
theorem RP.s5 (P : RP t m B n u N k) : ¬ gI m 75 9 = 5 := by
  rw [P.tk.kd]
  exact (rs_all k.1 (by have := P.ok.kd; omega)).2.2.2.2
theorem isW_5 (h : isW k c = true) : k.1 ≠ 5 := by rw [(isW_t.mp h).1]; decide
theorem isNm_5 (h : isNm k = true) : k.1 ≠ 5 := by rw [isNm_1 h]; decide
-- a flaw, and what stands behind it
theorem rsp_flaw (P : RP t m B n u N k) (hx : x = nI c) {Q : zM → Prop} (h : ∀ m', RF m m' → RDd t m' u (c, k.2.1) → Q m') (hc : 0 < c ∧ c < 8 := by decide) : wX12_flaw t m 75 x Q := by
  unfold wX12_flaw
  have L := P.rb.lay
  have f : RF m (pI (pI (pI m 75 13 x) 75 14 (gI (pI m 75 13 x) 75 10)) 75 9 5) := ⟨Fr.pI (Fr.pI (Fr.pI Fr.rf (by decide)) (by decide)) (by decide), fun j hj => by rw [gII, if_neg (by omega), gII, if_neg (by omega), gII, if_neg (by omega)]⟩
  refine ⟨lk75 L, fun z => absurd z P.s5, fun _ => h _ f ⟨P.rb.fr f.1, ?_, ?_, ?_, hc⟩⟩
  · rw [gII, if_pos ⟨rfl, rfl⟩]
  · rw [gII, if_neg (by decide), gII, if_neg (by decide), gII, if_pos ⟨rfl, rfl⟩]; exact hx
  · rw [gII, if_neg (by decide), gII, if_pos ⟨rfl, rfl⟩, gII, if_neg (by decide)]; exact P.tk.pl_
theorem rd_flaw (D : RDd t m u e) {Q : zM → Prop} (h : Q m) : wX12_flaw t m 75 x Q := ⟨lk75 D.rb.lay, fun _ => h, fun z => absurd D.s5 z⟩
theorem rd_go (D : RDd t m u e) {Q : zM → Prop} (h : Q m) : wX12_goesOn t m 75 Q := ⟨lk75 D.rb.lay, fun _ => h, fun z => absurd D.s5 z⟩
theorem rsp_go (P : RP t m B n u N k) (hk : k.1 ≠ 5) {Q : zM → Prop} (h : ∀ m', RF m m' → RP t m' B n u N (adv B n k) → Q m') : wX12_goesOn t m 75 Q :=
  rsp_goesOn P.rb.lay P.en P.n9 P.tape (P.tk.nx_ hk) P.ok.nx_ P.s5 (fun m' f q => h m' f.rF ⟨P.rb.fr f.1, P.n9, (f.rF.2 7 (by decide)).trans P.en, fun j hj => by rw [f.1.I (by decide)]; exact P.tape j hj, q, adv_ok P.ok, (f.2 13 (by decide) (by decide) (by decide) (by decide) (by decide)).trans P.fl, P.nm.fr f.1 P.rb.rl.u85⟩)
theorem rsp_isWord (P : RP t m B n u N k) (hj : j < 18) (hz : zWord j = lN c) (hc : c < 1099511627776) {Q : Int32 → zM → Prop} (h1 : isW k c = true → Q 1 m) (h0 : isW k c = false → Q 0 m) : wX12_isWord t m 75 j Q := by
  show tK t 75 = 12 ∧ ((gI m 75 9 = 2 → (j < 18 ∧ ((lg_cmp (gJ m 75 15) (zWord j) = 0 → Q 1 m) ∧ (¬ lg_cmp (gJ m 75 15) (zWord j) = 0 → Q 0 m)))) ∧ (¬ gI m 75 9 = 2 → Q 0 m))
  have L := P.rb.lay
  rw [P.tk.kd, (rs_all k.1 (by have := P.ok.kd; omega)).1, hz, lg_cmp_eq]
  refine ⟨lk75 L, fun w => ⟨hj, ?_⟩, fun w => h0 ?_⟩
  · have b := P.ok.wd w
    rw [P.tk.wd w, pk_lEQ (by omega) (by omega)]
    refine ⟨fun q => h1 (isW_t.mpr ⟨w, q⟩), fun q => h0 ?_⟩
    unfold isW
    rw [beq_false_of_ne q, Bool.and_false]
  · unfold isW
    rw [beq_false_of_ne w, Bool.false_and]
theorem rd_isWord (D : RDd t m u e) {Q : Int32 → zM → Prop} (h : Q 0 m) : wX12_isWord t m 75 j Q := ⟨lk75 D.rb.lay, fun z => absurd (D.s5.symm.trans z) (by decide), fun _ => h⟩
theorem rsp_eatsWord (P : RP t m B n u N k) (hj : j < 18) (hz : zWord j = lN c) (hc : c < 1099511627776) {Q : Int32 → zM → Prop} (h1 : ∀ m', isW k c = true → RF m m' → RP t m' B n u N (adv B n k) → Q 1 m') (h0 : isW k c = false → Q 0 m) : wX12_eatsWord t m 75 j Q :=
  ⟨lk75 P.rb.lay, rsp_isWord P hj hz hc (fun q => q1 (rsp_go P (isW_5 q) (fun m' f p => ⟨Or.inr rfl, h1 m' q f p⟩))) (fun q => q0 ⟨Or.inl rfl, h0 q⟩)⟩
theorem rd_eatsWord (D : RDd t m u e) {Q : Int32 → zM → Prop} (h : Q 0 m) : wX12_eatsWord t m 75 j Q := ⟨lk75 D.rb.lay, rd_isWord D (q0 ⟨Or.inl rfl, h⟩)⟩
theorem rsp_eatsSign (P : RP t m B n u N k) (hg : (s = 3 ∧ x = 59) ∨ (s = 4 ∧ x = 44)) {Q : Int32 → zM → Prop} (h1 : ∀ m', k.1 = s → RF m m' → RP t m' B n u N (adv B n k) → Q 1 m') (h0 : k.1 ≠ s → Q 0 m) : wX12_eatsSign t m 75 x Q := by
  have L := P.rb.lay
  have J1 : k.1 = s → wX12_eatsSign_J21 t m 75 1 Q := fun hk => ⟨fun z => absurd z (by decide), fun _ => ⟨lk75 L, rsp_go P (by omega) (fun m' f p => ⟨Or.inr rfl, h1 m' hk f p⟩)⟩⟩
  have J0 : k.1 ≠ s → wX12_eatsSign_J21 t m 75 0 Q := fun hk => ⟨fun _ => ⟨Or.inl rfl, h0 hk⟩, fun z => absurd rfl z⟩
  unfold wX12_eatsSign wX12_eatsSign_J20
  rw [P.tk.kd, (rs_all k.1 (by have := P.ok.kd; omega)).2.2.2.1]
  refine ⟨lk75 L, fun q => ⟨fun y => J1 ?_, fun y => J0 ?_⟩, fun q => J0 (by omega)⟩
  · rcases q with q | q
    · rw [P.tk.s3 q] at y
      rcases hg with g | g
      · omega
      · rw [g.2] at y; exact absurd y (by decide)
    · rw [P.tk.s4 q] at y
      rcases hg with g | g
      · rw [g.2] at y; exact absurd y (by decide)
      · omega
  · rcases q with q | q
    · rw [P.tk.s3 q] at y
      rcases hg with g | g
      · exact absurd g.2.symm y
      · omega
    · rw [P.tk.s4 q] at y
      rcases hg with g | g
      · omega
      · exact absurd g.2.symm y
theorem rd_eatsSign (D : RDd t m u e) {Q : Int32 → zM → Prop} (h : Q 0 m) : wX12_eatsSign t m 75 x Q := ⟨lk75 D.rb.lay, fun z => absurd (D.s5.symm.trans z) (by decide), fun _ => ⟨fun _ => ⟨Or.inl rfl, h⟩, fun z => absurd rfl z⟩⟩
theorem rsp_needs (P : RP t m B n u N k) (hj : j < 18) (hz : zWord j = lN c) (hc : c < 1099511627776) {Q : zM → Prop} (h0 : ∀ e m', pWd c k = .inl e → RF m m' → RDd t m' u e → Q m') (h1 : ∀ m', pWd c k = .inr () → RF m m' → RP t m' B n u N (adv B n k) → Q m') : wX12_needs t m 75 j Q :=
  ⟨lk75 P.rb.lay, rsp_isWord P hj hz hc (fun q => q1 ⟨lk75 P.rb.lay, rsp_go P (isW_5 q) (fun m' f p => h1 m' (by unfold pWd; rw [q]; rfl) f p)⟩) (fun q => q0 (rsp_flaw P (c := 1) rfl (fun m' f d => ⟨lk75 P.rb.lay, rd_go d (h0 (1, k.2.1) m' (by unfold pWd; rw [q]; rfl) f d)⟩)))⟩
theorem rd_needs (D : RDd t m u e) {Q : zM → Prop} (h : Q m) : wX12_needs t m 75 j Q := ⟨lk75 D.rb.lay, rd_isWord D (q0 (rd_flaw D ⟨lk75 D.rb.lay, rd_go D h⟩))⟩
theorem rsp_needsSign (P : RP t m B n u N k) {Q : zM → Prop} (h0 : ∀ m', k.1 ≠ 4 → RF m m' → RDd t m' u (1, k.2.1) → Q m') (h1 : ∀ m', k.1 = 4 → RF m m' → RP t m' B n u N (adv B n k) → Q m') : wX12_needsSign t m 75 44 Q := by
  have L := P.rb.lay
  have J1 : k.1 = 4 → wX12_needsSign_J21 t m 75 Q := fun hk => ⟨lk75 L, rsp_go P (by omega) (fun m' f p => h1 m' hk f p)⟩
  have J0 : k.1 ≠ 4 → wX12_needsSign_J16 t m 75 Q := fun hk => ⟨lk75 L, rsp_flaw P (c := 1) rfl (fun m' f d => ⟨lk75 L, rd_go d (h0 m' hk f d)⟩)⟩
  unfold wX12_needsSign
  rw [P.tk.kd, (rs_all k.1 (by have := P.ok.kd; omega)).2.2.2.1]
  refine ⟨lk75 L, fun q => ⟨fun y => J1 ?_, fun y => J0 ?_⟩, fun q => J0 (by omega)⟩
  · rcases q with q | q
    · rw [P.tk.s3 q] at y; exact absurd y (by decide)
    · exact q
  · rcases q with q | q
    · omega
    · exact absurd (P.tk.s4 q) y
theorem rd_needsSign (D : RDd t m u e) {Q : zM → Prop} (h : Q m) : wX12_needsSign t m 75 x Q := ⟨lk75 D.rb.lay, fun z => absurd (D.s5.symm.trans z) (by decide), fun _ => ⟨lk75 D.rb.lay, rd_flaw D ⟨lk75 D.rb.lay, rd_go D h⟩⟩⟩
theorem rsp_begins (P : RP t m B n u N k) (hk : k.1 ≠ 5) {h most : Nat} (hx : x = nI h) (hy : y = nI most) (hb : h ≤ most) (hm : most < 2 ^ 31) {Q : zM → Prop} (h0 : ∀ e m', pMn h most k = .inl e → RF m m' → RDd t m' u e → Q m') (h1 : ∀ m', pMn h most k = .inr () → RF m m' → RP t m' B n u N (adv B n k) → Q m') : wX12_begins t m 75 x y Q := by
  have L := P.rb.lay
  unfold wX12_begins
  rw [hx, hy, nI_eq (by omega) hm]
  refine ⟨fun q => ⟨lk75 L, rsp_flaw P (c := 5) rfl (fun m' f d => ⟨lk75 L, rd_go d (h0 (5, k.2.1) m' (if_neg (by omega)) f d)⟩)⟩, fun q => ⟨lk75 L, rsp_go P hk (fun m' f p => h1 m' (if_pos (by omega)) f p)⟩⟩
theorem rsp_bounded (P : RP t m B n u N k) {lo hi : Nat} (hx : x = nI lo) (hy : y = nI hi) (hl : lo < 2 ^ 31) (hh : hi < 2 ^ 31) {Q : Int32 → zM → Prop} (h0 : ∀ r e m', pWh lo hi k = .inl e → RF m m' → RDd t m' u e → Q r m') (h1 : ∀ v, pWh lo hi k = .inr v → Q (nI v) m) : wX12_bounded t m 75 x y Q := by
  have L := P.rb.lay
  have J : ∀ e m', pWh lo hi k = .inl e → RF m m' → RDd t m' u e → wX12_bounded_J33 t m' 75 x Q := fun e m' he f d => ⟨lk75 L, fun _ => h0 _ e m' he f d, fun z => absurd d.s5 z⟩
  unfold wX12_bounded
  rw [P.tk.kd, (rs_all k.1 (by have := P.ok.kd; omega)).2.2.1]
  refine ⟨lk75 L, fun q => ?_, fun q => rsp_flaw P (c := 1) rfl (fun m' f d => J _ m' (if_neg q) f d)⟩
  have b := P.ok.wh q
  have en := P.tk.wh q
  unfold wX12_in
  rw [en, hx, hy, nI_ltI (by omega) hl, nI_ltI hh (by omega)]
  have base : pWh lo hi k = if lo ≤ k.2.2.2 ∧ k.2.2.2 ≤ hi then .inr k.2.2.2 else .inl (4, k.2.1) := if_pos q
  refine ⟨fun w => q0 (rsp_flaw P (c := 4) rfl (fun m' f d => by rw [← hx]; exact J _ m' (base.trans (if_neg (by omega))) f d)), fun w => ⟨fun w2 => q0 (rsp_flaw P (c := 4) rfl (fun m' f d => by rw [← hx]; exact J _ m' (base.trans (if_neg (by omega))) f d)), fun w2 => q1 ⟨lk75 L, fun z => absurd z P.s5, fun _ => ?_⟩⟩⟩
  rw [en]
  exact h1 _ (base.trans (if_pos (by omega)))
theorem rd_bounded (D : RDd t m u e) {Q : Int32 → zM → Prop} (h : ∀ r, Q r m) : wX12_bounded t m 75 x y Q := ⟨lk75 D.rb.lay, fun z => absurd (D.s5.symm.trans z) (by decide), fun _ => rd_flaw D ⟨lk75 D.rb.lay, fun _ => h _, fun z => absurd D.s5 z⟩⟩
theorem rsp_readWhole (P : RP t m B n u N k) {lo hi : Nat} (hx : x = nI lo) (hy : y = nI hi) (hl : lo < 2 ^ 31) (hh : hi < 2 ^ 31) {Q : Int32 → zM → Prop} (h0 : ∀ r e m', pWh lo hi k = .inl e → RF m m' → RDd t m' u e → Q r m') (h1 : ∀ v m', pWh lo hi k = .inr v → RF m m' → RP t m' B n u N (adv B n k) → Q (nI v) m') : wX12_readWhole t m 75 x y Q :=
  ⟨lk75 P.rb.lay, rsp_bounded P hx hy hl hh (fun r e m' he f d => rd_go d (h0 r e m' he f d)) (fun v hv => rsp_go P (by have := (pWh_i hv).1; omega) (fun m' f p => h1 v m' hv f p))⟩
theorem rd_readWhole (D : RDd t m u e) {Q : Int32 → zM → Prop} (h : ∀ r, Q r m) : wX12_readWhole t m 75 x y Q := ⟨lk75 D.rb.lay, rd_bounded D (fun r => rd_go D (h r))⟩
theorem rsp_readAnswer (P : RP t m B n u N k) (V : Vq S N) (sg : SG m u er or_ S) (ha : a < cT S) (hx : x = nI a) {Q : Int32 → zM → Prop} (h0 : ∀ r e m', pWh 0 (cA S a - 1) k = .inl e → RF m m' → RDd t m' u e → Q r m') (h1 : ∀ v m', pWh 0 (cA S a - 1) k = .inr v → RF m m' → RP t m' B n u N (adv B n k) → Q (nI v) m') : wX12_readAnswer t m 75 x Q := by
  have L := P.rb.lay
  have R := P.rb.rl
  have t8 := V.t8
  have a2 := V.a2 a ha
  have e1 : gI m (u + 1) a = nI (cA S a) := sg.2 0 (by decide) a ha
  unfold wX12_readAnswer
  rw [P.rb.rd, R.r1, hx, nI_cl (show a < 2 ^ 31 by omega), e1, R.l1, show (1 : Int32) = nI 1 from rfl, pk_sub (by omega)]
  refine ⟨lk75 L, fun z => absurd z P.s5, fun _ => ⟨R.k, R.k1, vp_nI (by omega) (by decide), lk75 L, ?_⟩⟩
  exact rsp_bounded P (lo := 0) rfl rfl (by decide) (by omega) (fun r e m' he f d => ⟨lk75 L, rd_go d (h0 r e m' he f d)⟩) (fun v hv => ⟨lk75 L, rsp_go P (by have := (pWh_i hv).1; omega) (fun m' f p => h1 v m' hv f p)⟩)
theorem rd_readAnswer (D : RDd t m u e) {Q : Int32 → zM → Prop} (h : ∀ r, Q r m) : wX12_readAnswer t m 75 x Q := ⟨lk75 D.rb.lay, fun _ => ⟨lk75 D.rb.lay, rd_bounded D (fun r => ⟨lk75 D.rb.lay, rd_go D (h r)⟩)⟩, fun z => absurd D.s5 z⟩
theorem zw_1 : zWord 1 = lN 21243335 := by decide +kernel
theorem zw_2 : zWord 2 = lN 6958759667 := by decide +kernel
theorem zw_3 : zWord 3 = lN 437899442 := by decide +kernel
theorem zw_4 : zWord 4 = lN 12343 := by decide +kernel
theorem zw_5 : zWord 5 = lN 624435 := by decide +kernel
theorem zw_6 : zWord 6 = lN 3417476 := by decide +kernel
theorem zw_7 : zWord 7 = lN 21570604 := by decide +kernel
theorem zw_8 : zWord 8 = lN 1564186195 := by decide +kernel
theorem zw_9 : zWord 9 = lN 17171758 := by decide +kernel
theorem zw_10 : zWord 10 = lN 186546 := by decide +kernel
theorem zw_11 : zWord 11 = lN 2500036 := by decide +kernel
theorem zw_12 : zWord 12 = lN 109099237 := by decide +kernel
theorem zw_13 : zWord 13 = lN 525618 := by decide +kernel
theorem zw_14 : zWord 14 = lN 24722887 := by decide +kernel
theorem zw_15 : zWord 15 = lN 611795 := by decide +kernel
theorem zw_16 : zWord 16 = lN 8554067 := by decide +kernel
theorem zw_17 : zWord 17 = lN 114292 := by decide +kernel
theorem rsp_isName (P : RP t m B n u N k) {Q : Int32 → zM → Prop} (h1 : isNm k = true → Q 1 m) (h0 : isNm k = false → Q 0 m) : wX12_isName t m 75 Q := by
  unfold wX12_isName
  rw [P.tk.kd, (rs_all k.1 (by have := P.ok.kd; omega)).1]
  refine ⟨lk75 P.rb.lay, fun w => ?_, fun w => h0 ?_⟩
  · refine rsp_isWord P (by decide) zw_1 (by decide) (fun q => q1 (h0 (isNm_0 q (by decide)))) (fun w1 => q0 ?_)
    refine rsp_isWord P (by decide) zw_2 (by decide) (fun q => q1 (h0 (isNm_0 q (by decide)))) (fun w2 => q0 ?_)
    refine rsp_isWord P (by decide) zw_3 (by decide) (fun q => q1 (h0 (isNm_0 q (by decide)))) (fun w3 => q0 ?_)
    refine rsp_isWord P (by decide) zw_4 (by decide) (fun q => q1 (h0 (isNm_0 q (by decide)))) (fun w4 => q0 ?_)
    refine rsp_isWord P (by decide) zw_5 (by decide) (fun q => q1 (h0 (isNm_0 q (by decide)))) (fun w5 => q0 ?_)
    refine rsp_isWord P (by decide) zw_6 (by decide) (fun q => q1 (h0 (isNm_0 q (by decide)))) (fun w6 => q0 ?_)
    refine rsp_isWord P (by decide) zw_7 (by decide) (fun q => q1 (h0 (isNm_0 q (by decide)))) (fun w7 => q0 (h1 ?_))
    unfold isNm
    rw [w1, w2, w3, w4, w5, w6, w7, w]
    rfl
  · unfold isNm
    rw [beq_false_of_ne w, Bool.false_and]
theorem rd_isName (D : RDd t m u e) {Q : Int32 → zM → Prop} (h : Q 0 m) : wX12_isName t m 75 Q := ⟨lk75 D.rb.lay, fun z => absurd (D.s5.symm.trans z) (by decide), fun _ => h⟩
theorem rsp_find (R : RLy t m u) (c19 : c ≤ 19) (hc : gI m u 8 = nI c) {Q : Int32 → zM → Prop} (h0 : (∀ i, i < c → gJ m (u + 12) i ≠ z) → Q (-1) m) (h1 : ∀ i, i < c → gJ m (u + 12) i = z → (∀ j, j < i → gJ m (u + 12) j ≠ z) → Q (nI i) m) : wX11_find t m u z Q := by
  unfold wX11_find
  refine ⟨c + 1, ?_⟩
  have key : ∀ dd i : Nat, i + dd = c → (∀ j, j < i → gJ m (u + 12) j ≠ z) → wX11_find_L2 t u z Q (fun m6 => Q (-1) m6) (dd + 1) (nI i) m := by
    intro dd
    induction dd with
    | zero =>
      intro i hi ha
      rw [wX11_find_L2, hc, nI_leI (by omega) (by omega)]
      exact ⟨R.k, fun _ => h0 (fun j hj => ha j (by omega)), fun w => absurd (by omega) w⟩
    | succ dd ih =>
      intro i hi ha
      rw [wX11_find_L2, hc, nI_leI (by omega) (by omega), R.r12, R.l12, nI_cl (show i < 2 ^ 31 by omega), lg_cmp_eq, nI_1]
      refine ⟨R.k, fun w => by omega, fun w => ⟨R.k12, vp_nI (by omega) (by decide), fun y => h1 i (by omega) y ha, fun y => ih (i + 1) (by omega) (fun j hj => ?_)⟩⟩
      rcases (show j < i ∨ j = i by omega) with v | v
      · exact ha j v
      · rw [v]; exact y
  exact key c 0 (by omega) (fun j hj => absurd hj (Nat.not_lt_zero _))
theorem rd_find (D : RDd t m u e) {Q : Int32 → zM → Prop} (h0 : Q (-1) m) (h1 : ∀ i, i < 19 → Q (nI i) m) : wX11_find t m u z Q := by
  obtain ⟨c, c1, c2⟩ := D.rb.cb
  exact rsp_find D.rb.rl c1 c2 (fun _ => h0) (fun i hi _ _ => h1 i (by omega))
theorem rsp_findW (P : RP t m B n u N k) (hk : k.1 = 1) {Q : Int32 → zM → Prop} (h1 : fnd N k.2.2.2 < N 0 0 → Q (nI (fnd N k.2.2.2)) m) (h0 : ¬ fnd N k.2.2.2 < N 0 0 → Q (-1) m) : wX11_find t m u (gJ m 75 15) Q := by
  have b := P.ok.wd hk
  rw [P.tk.wd hk]
  have E : ∀ i, i < N 0 0 → (gJ m (u + 12) i = lN k.2.2.2 ↔ N 1 i = k.2.2.2) := fun i hi => by
    obtain ⟨w1, w2⟩ := P.nm.wo i hi
    rw [w1, pk_lEQ (by omega) (by omega)]
  refine rsp_find P.rb.rl P.nm.c19 P.nm.cn (fun h => h0 (fun w => ?_)) (fun i hi y hj => ?_)
  · exact h _ w ((E _ w).mpr (fnd_is w))
  · have : fnd N k.2.2.2 = i := fnd_eq (by omega) (fun _ => (E i hi).mp y) (fun j hj' w => hj j hj' ((E j (by omega)).mpr w))
    rw [← this]
    exact h1 (by omega)
theorem rd_fresh (D : RDd t m u e) {Q : Int64 → zM → Prop} (h : ∀ r, Q r m) : wX12_readFresh_J12 t m 75 Q := by
  have L := D.rb.lay
  have J : wX12_readFresh_J32 t m 75 Q := ⟨lk75 L, fun x _ => rd_go D (h x)⟩
  unfold wX12_readFresh_J12
  rw [D.rb.rd]
  exact ⟨lk75 L, D.rb.rl.k, rd_find D ⟨fun _ => J, fun w => absurd rfl w⟩ (fun i hi => ⟨fun w => J, fun w => rd_flaw D J⟩)⟩
theorem rd_readFresh (D : RDd t m u e) {Q : Int64 → zM → Prop} (h : ∀ r, Q r m) : wX12_readFresh t m 75 Q := ⟨lk75 D.rb.lay, rd_isName D (q0 (rd_flaw D (rd_fresh D h)))⟩
theorem rsp_readFresh (P : RP t m B n u N k) {Q : Int64 → zM → Prop} (h0 : ∀ r e m', pNew N k = .inl e → RF m m' → RDd t m' u e → Q r m') (h1 : ∀ w m', pNew N k = .inr w → w < 1099511627776 → RF m m' → RP t m' B n u N (adv B n k) → Q (lN w) m') : wX12_readFresh t m 75 Q := by
  have L := P.rb.lay
  refine ⟨lk75 L, rsp_isName P (fun q => q1 ?_) (fun q => q0 (rsp_flaw P (c := 1) rfl (fun m' f d => rd_fresh d (fun r => h0 r _ m' (by unfold pNew; rw [q]; rfl) f d))))⟩
  have b := P.ok.wd (isNm_1 q)
  unfold wX12_readFresh_J12
  rw [P.rb.rd]
  refine ⟨lk75 L, P.rb.rl.k, rsp_findW P (isNm_1 q) (fun w => ⟨fun y => absurd y (nI_m1 (by have := P.nm.c19; omega)), fun _ => rsp_flaw P (c := 3) rfl (fun m' f d => ⟨lk75 L, fun x _ => rd_go d (h0 x _ m' ?_ f d)⟩)⟩) (fun w => ⟨fun _ => ⟨lk75 L, fun x hx => rsp_go P (isNm_5 q) (fun m' f p => ?_)⟩, fun y => absurd rfl y⟩)⟩
  · unfold pNew; rw [if_pos q, if_pos w]
  · rw [hx, P.tk.wd (isNm_1 q)]
    exact h1 _ m' (by unfold pNew; rw [if_pos q, if_neg w]) b f p
theorem rd_kn (D : RDd t m u e) {Q : Int32 → zM → Prop} (h : ∀ r, Q r m) : wX12_known_J12 t m 75 x Q := by
  have L := D.rb.lay
  have R := D.rb.rl
  have J47 : ∀ y, wX12_known_J47 t m 75 y Q := fun y => ⟨lk75 L, fun _ => h 0, fun z => absurd D.s5 z⟩
  have J42 : ∀ y, wX12_known_J42 t m 75 y Q := fun y => ⟨lk75 L, rd_flaw D (J47 y)⟩
  unfold wX12_known_J12
  rw [D.rb.rd]
  exact ⟨lk75 L, R.k, rd_find D ⟨fun _ => J42 _, fun w => absurd rfl w⟩ (fun i hi => ⟨fun _ => J42 _, fun _ => by rw [D.rb.rd, R.r13, R.l13]; exact ⟨R.k, R.k13, vp_nI (by omega) (by decide), fun _ => J47 _, fun _ => J42 _⟩⟩)⟩
theorem rd_known (D : RDd t m u e) {Q : Int32 → zM → Prop} (h : ∀ r, Q r m) : wX12_known t m 75 x Q := ⟨lk75 D.rb.lay, rd_isName D (q0 (rd_flaw D (rd_kn D h)))⟩
theorem rsp_known (P : RP t m B n u N k) (hx : x = nI s) (hs : s ≤ 2) {Q : Int32 → zM → Prop} (h0 : ∀ r e m', pKn N s k = .inl e → RF m m' → RDd t m' u e → Q r m') (h1 : ∀ v, pKn N s k = .inr v → Q (nI v) m) : wX12_known t m 75 x Q := by
  have L := P.rb.lay
  have R := P.rb.rl
  have c19 := P.nm.c19
  refine ⟨lk75 L, rsp_isName P (fun q => q1 ?_) (fun q => q0 (rsp_flaw P (c := 1) rfl (fun m' f d => rd_kn d (fun r => h0 r _ m' (by unfold pKn; rw [q]; rfl) f d))))⟩
  have J42 : ¬ (fnd N k.2.2.2 < N 0 0 ∧ N 2 (fnd N k.2.2.2) = s) → ∀ y, wX12_known_J42 t m 75 y Q := fun hn y => ⟨lk75 L, rsp_flaw P (c := 2) rfl (fun m' f d => ⟨lk75 L, fun _ => h0 0 _ m' (by unfold pKn; rw [if_pos q, if_neg hn]) f d, fun z => absurd d.s5 z⟩)⟩
  unfold wX12_known_J12
  rw [P.rb.rd]
  refine ⟨lk75 L, R.k, rsp_findW P (isNm_1 q) (fun w => ⟨fun y => absurd y (nI_m1 (by omega)), fun _ => ?_⟩) (fun w => ⟨fun _ => J42 (fun y => w y.1) _, fun y => absurd rfl y⟩)⟩
  obtain ⟨so, s2⟩ := P.nm.so _ w
  rw [P.rb.rd, R.r13, R.l13, nI_cl (by omega), so, hx, nI_eq (by omega) (by omega)]
  refine ⟨R.k, R.k13, vp_nI (by omega) (by decide), fun y => ?_, fun y => J42 (fun v => y v.2) _⟩
  unfold wX12_known_J47
  rw [P.rb.rd, R.r14, R.l14, nI_cl (by omega), P.nm.nu _ w]
  exact ⟨lk75 L, fun z => absurd z P.s5, fun _ => ⟨R.k, R.k14, vp_nI (by omega) (by decide), h1 _ (by unfold pKn; rw [if_pos q, if_pos ⟨w, y⟩])⟩⟩
theorem rsp_readKnown (P : RP t m B n u N k) (hx : x = nI s) (hs : s ≤ 2) {Q : Int32 → zM → Prop} (h0 : ∀ r e m', pKn N s k = .inl e → RF m m' → RDd t m' u e → Q r m') (h1 : ∀ v m', pKn N s k = .inr v → RF m m' → RP t m' B n u N (adv B n k) → Q (nI v) m') : wX12_readKnown t m 75 x Q :=
  ⟨lk75 P.rb.lay, rsp_known P hx hs (fun r e m' he f d => rd_go d (h0 r e m' he f d)) (fun v hv => rsp_go P (by have := (pKn_i hv).1; omega) (fun m' f p => h1 v m' hv f p))⟩
theorem rd_readKnown (D : RDd t m u e) {Q : Int32 → zM → Prop} (h : ∀ r, Q r m) : wX12_readKnown t m 75 x Q := ⟨lk75 D.rb.lay, rd_known D (fun r => rd_go D (h r))⟩
theorem rd_begins (D : RDd t m u e) {Q : zM → Prop} (h : Q m) : wX12_begins t m 75 x y Q := ⟨fun _ => ⟨lk75 D.rb.lay, rd_flaw D ⟨lk75 D.rb.lay, rd_go D h⟩⟩, fun _ => ⟨lk75 D.rb.lay, rd_go D h⟩⟩
end
