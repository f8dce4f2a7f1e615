/-! The class's small readers -/
/-- the names in the class -/
def CNm (m : zM) (N : Sc) : Prop := (gI m 2 11 = nI (N 0 0)) ∧ (N 0 0 ≤ 19) ∧ (∀ i, i < N 0 0 → gJ m 16 i = lN (cvf 8 (N 1 i)) ∧ N 1 i < 1099511627776) ∧ (∀ i, i < N 0 0 → gI m 17 i = nI (N 2 i) ∧ N 2 i ≤ 2) ∧ (∀ i, i < N 0 0 → gI m 18 i = nI (N 3 i))
theorem CNm.cn {m : zM} {N : Sc} (h_ : CNm m N) : gI m 2 11 = nI (N 0 0) := h_.1
theorem CNm.c19 {m : zM} {N : Sc} (h_ : CNm m N) : N 0 0 ≤ 19 := h_.2.1
theorem CNm.wo {m : zM} {N : Sc} (h_ : CNm m N) : ∀ i, i < N 0 0 → gJ m 16 i = lN (cvf 8 (N 1 i)) ∧ N 1 i < 1099511627776 := h_.2.2.1
theorem CNm.so {m : zM} {N : Sc} (h_ : CNm m N) : ∀ i, i < N 0 0 → gI m 17 i = nI (N 2 i) ∧ N 2 i ≤ 2 := h_.2.2.2.1
theorem CNm.nu {m : zM} {N : Sc} (h_ : CNm m N) : ∀ i, i < N 0 0 → gI m 18 i = nI (N 3 i) := h_.2.2.2.2
/-- what the reader touches between names -/
def PFr (m m' : zM) : Prop := Fr [2] m m' ∧ gI m' 2 11 = gI m 2 11 ∧ gI m' 2 1 = gI m 2 1
def Fl (m : zM) (e : Er) : Prop := gI m 2 9 = nI e.1 ∧ gI m 2 5 = nI e.2 ∧ 0 < e.1 ∧ e.1 < 8
section
variable {t : zT} {m m' m1 m2 : zM} {B : Nat → Nat} {n a b c s : Nat} {k : Tk} {x y : Int32} {z : Int64} {N S : Sc} {Q : Int32 → zM → Prop}
theorem PFr.rf : PFr m m := ⟨Fr.rf, rfl, rfl⟩
theorem PFr.tr (h1 : PFr m m1) (h2 : PFr m1 m2) : PFr m m2 := ⟨h1.1.tr h2.1, h2.2.1.trans h1.2.1, h2.2.2.trans h1.2.2⟩
theorem TkF.pf (h : TkF m m') : PFr m m' := ⟨h.1, h.2 11 (by decide) (by decide) (by decide) (by decide), h.2 1 (by decide) (by decide) (by decide) (by decide)⟩
theorem PFr.set (h : PFr m m1) {j : Nat} (hj : j ≠ 11) (hj' : j ≠ 1) (v : Int32) : PFr m (pI m1 2 j v) := ⟨Fr.pI h.1 (by decide), by rw [gII, if_neg (fun q => hj q.2.symm)]; exact h.2.1, by rw [gII, if_neg (fun q => hj' q.2.symm)]; exact h.2.2⟩
theorem CNm.fr (h : CNm m N) (f : PFr m m') : CNm m' N := by
  refine ⟨f.2.1.trans h.cn, h.c19, fun i hi => ?_, fun i hi => ?_, fun i hi => ?_⟩
  · rw [f.1.J (by decide)]; exact h.wo i hi
  · rw [f.1.I (by decide)]; exact h.so i hi
  · rw [f.1.I (by decide)]; exact h.nu i hi
theorem sp_fail (P : PB t m B n k) (hx : x = nI c) (h : ∀ m', PFr m m' → Fl m' (c, k.2.1) → Q 0 m') (hc : 0 < c ∧ c < 8 := by decide) : wX3_fail t m 2 x Q := by
  refine ⟨lk2 P.lay, h _ (PFr.rf.set (by decide) (by decide) _) ⟨?_, ?_, hc.1, hc.2⟩⟩
  · rw [gII, if_pos ⟨rfl, rfl⟩, hx]
  · rw [gII, if_neg (by decide)]; exact P.tk.pl_
theorem sp_hasRoom (P : PB t m B n k) {h most : Nat} (hx : x = nI h) (hy : y = nI most) (hb : h < 2 ^ 31) (hm : most < 2 ^ 31) (h0 : ∀ e m', pMn h most k = .inl e → PFr m m' → Fl m' e → Q 0 m') (h1 : ∀ m', pMn h most k = .inr () → PFr m m' → PB t m' B n (adv B n k) → Q 1 m') : wX3_hasRoom t m 2 x y Q := by
  unfold wX3_hasRoom
  rw [hx, hy, nI_ltI hb hm]
  refine ⟨fun z => ⟨lk2 P.lay, sp_nx P (fun m' f p => h1 m' (by unfold pMn; rw [if_pos z]) f.pf p)⟩, fun z => ⟨lk2 P.lay, sp_fail P (c := 5) rfl (fun m' f g => ⟨Or.inl rfl, h0 _ m' (by unfold pMn; rw [if_neg z]) f g⟩)⟩⟩
theorem sp_stands (P : PB t m B n k) (hz : z = lN (cvf 8 c)) (hc : c < 1099511627776) (h1 : isW k c = true → Q 1 m) (h0 : isW k c = false → Q 0 m) : wX3_stands t m 2 z Q := by
  unfold wX3_stands
  have k5 := P.ok.kd
  rw [P.tk.kd, show (1 : Int32) = nI 1 from rfl, nI_eq (by omega) (by decide), lg_cmp_eq, hz]
  refine ⟨lk2 P.lay, fun w => ?_, fun w => h0 ?_⟩
  · obtain ⟨e1, e2⟩ := P.tk.wd w
    rw [e1, cvf_eq e2 hc]
    refine ⟨fun y => h1 (isW_t.mpr ⟨w, y⟩), fun y => h0 ?_⟩
    cases q : isW k c with
    | false => rfl
    | true => exact absurd (isW_t.mp q).2 y
  · cases q : isW k c with
    | false => rfl
    | true => exact absurd (isW_t.mp q).1 w
theorem isNm_0 (h : isW k c = true) (hc : c = 21243335 ∨ c = 6958759667 ∨ c = 437899442 ∨ c = 12343 ∨ c = 624435 ∨ c = 3417476 ∨ c = 21570604) : isNm k = false := by
  unfold isNm
  rcases hc with rfl | rfl | rfl | rfl | rfl | rfl | rfl <;> simp only [h, Bool.or_true, Bool.true_or, Bool.not_true, Bool.and_false]
theorem sp_isName (P : PB t m B n k) (h1 : isNm k = true → Q 1 m) (h0 : isNm k = false → Q 0 m) : wX3_isName t m 2 Q := by
  unfold wX3_isName
  have k5 := P.ok.kd
  rw [P.tk.kd, show (1 : Int32) = nI 1 from rfl, nI_eq (by omega) (by decide)]
  refine ⟨lk2 P.lay, fun w => ?_, fun w => h0 ?_⟩
  · refine sp_stands P (c := 21243335) (by decide) (by decide) (fun q => ⟨fun y => absurd y (by decide), fun _ => h0 (isNm_0 q (by decide))⟩) (fun q1 => ⟨fun _ => ?_, fun y => absurd rfl y⟩)
    refine sp_stands P (c := 6958759667) (by decide) (by decide) (fun q => ⟨fun y => absurd y (by decide), fun _ => h0 (isNm_0 q (by decide))⟩) (fun q2 => ⟨fun _ => ?_, fun y => absurd rfl y⟩)
    refine sp_stands P (c := 437899442) (by decide) (by decide) (fun q => ⟨fun y => absurd y (by decide), fun _ => h0 (isNm_0 q (by decide))⟩) (fun q3 => ⟨fun _ => ?_, fun y => absurd rfl y⟩)
    refine sp_stands P (c := 12343) (by decide) (by decide) (fun q => ⟨fun y => absurd y (by decide), fun _ => h0 (isNm_0 q (by decide))⟩) (fun q4 => ⟨fun _ => ?_, fun y => absurd rfl y⟩)
    refine sp_stands P (c := 624435) (by decide) (by decide) (fun q => ⟨fun y => absurd y (by decide), fun _ => h0 (isNm_0 q (by decide))⟩) (fun q5 => ⟨fun _ => ?_, fun y => absurd rfl y⟩)
    refine sp_stands P (c := 3417476) (by decide) (by decide) (fun q => ⟨fun y => absurd y (by decide), fun _ => h0 (isNm_0 q (by decide))⟩) (fun q6 => ⟨fun _ => ?_, fun y => absurd rfl y⟩)
    refine sp_stands P (c := 21570604) (by decide) (by decide) (fun q => ⟨fun y => absurd y (by decide), fun _ => h0 (isNm_0 q (by decide))⟩) (fun q7 => ⟨fun _ => h1 ?_, fun y => absurd rfl y⟩)
    unfold isNm
    rw [q1, q2, q3, q4, q5, q6, q7, w]
    rfl
  · unfold isNm
    rw [beq_false_of_ne w, Bool.false_and]
theorem sp_placeOfName (P : PB t m B n k) (C : CNm m N) (hk : k.1 = 1) (h1 : fnd N k.2.2.2 < N 0 0 → Q (nI (fnd N k.2.2.2)) m) (h0 : ¬ fnd N k.2.2.2 < N 0 0 → Q (-1) m) : wX3_placeOfName t m 2 Q := by
  unfold wX3_placeOfName
  obtain ⟨e1, e2⟩ := P.tk.wd hk
  have le := fnd_le (N := N) (w := k.2.2.2)
  have c19 := C.c19
  have L := P.lay
  refine ⟨fnd N k.2.2.2 + 1, ?_⟩
  have key : ∀ dd i : Nat, i + dd = fnd N k.2.2.2 → wX3_placeOfName_L2 t 2 Q (fun m6 => Q (-1) m6) (dd + 1) (nI i) m := by
    intro dd
    induction dd with
    | zero =>
      intro i hi
      have e : i = fnd N k.2.2.2 := by omega
      rw [wX3_placeOfName_L2, C.cn, nI_leI (by omega) (by omega), lr2_12 L, ll16 L, nI_cl (show i < 2 ^ 31 by omega), lg_cmp_eq, e1]
      refine ⟨lk2 L, fun z => h0 (by omega), fun z => ⟨lk16 L, vp_nI (by omega) (by decide), fun _ => by rw [e]; exact h1 (by omega), fun y => ?_⟩⟩
      exfalso
      obtain ⟨w1, w2⟩ := C.wo i (by omega)
      refine y ?_
      rw [w1, cvf_eq w2 e2, e]
      exact fnd_is (by omega)
    | succ dd ih =>
      intro i hi
      rw [wX3_placeOfName_L2, C.cn, nI_leI (by omega) (by omega), lr2_12 L, ll16 L, nI_cl (show i < 2 ^ 31 by omega), lg_cmp_eq, e1]
      refine ⟨lk2 L, fun z => by omega, fun z => ⟨lk16 L, vp_nI (by omega) (by decide), fun y => ?_, fun y => by rw [nI_1]; exact ih (i + 1) (by omega)⟩⟩
      exfalso
      obtain ⟨w1, w2⟩ := C.wo i (by omega)
      rw [w1, cvf_eq w2 e2] at y
      exact fnd_no (show i < fnd N k.2.2.2 by omega) y
  exact key (fnd N k.2.2.2) 0 (by omega)
theorem sp_isNameOf (P : PB t m B n k) (C : CNm m N) (hx : x = nI s) (hs : s ≤ 2) (h0 : ∀ e m', pKn N s k = .inl e → PFr m m' → Fl m' e → Q 0 m') (h1 : ∀ v m', pKn N s k = .inr v → PFr m m' → PB t m' B n k → gI m' 2 10 = nI v → Q 1 m') : wX3_isNameOf t m 2 x Q := by
  unfold wX3_isNameOf
  have L := P.lay
  have c19 := C.c19
  refine ⟨lk2 L, sp_isName P (fun q => ⟨fun y => absurd y (by decide), fun _ => ?_⟩) (fun q => ⟨fun _ => sp_fail P (c := 1) rfl (fun m' f g => ⟨Or.inl rfl, h0 _ m' (by unfold pKn; rw [q]; rfl) f g⟩), fun y => absurd rfl y⟩)⟩
  have J : ¬ (fnd N k.2.2.2 < N 0 0 ∧ N 2 (fnd N k.2.2.2) = s) → wX3_isNameOf_J32 t m 2 Q := by
    intro hn
    refine ⟨lk2 L, sp_fail P (c := 2) rfl (fun m' f g => ⟨Or.inl rfl, h0 _ m' ?_ f g⟩)⟩
    unfold pKn
    rw [if_pos q, if_neg hn]
  refine sp_placeOfName P C (isNm_1 q) (fun lt => ⟨fun y => absurd y (nI_pos (by omega)), fun _ => ?_⟩) (fun lt => ⟨fun _ => J (fun z => lt z.1), fun y => absurd (by decide) y⟩)
  obtain ⟨so, s2⟩ := C.so _ lt
  rw [lr2_13 L, lr2_14 L, ll17 L, ll18 L, nI_cl (by omega), so, hx, nI_eq (by omega) (by omega)]
  refine ⟨lk17 L, vp_nI (by omega) (by decide), fun y => ⟨lk18 L, vp_nI (by omega) (by decide), h1 (N 3 (fnd N k.2.2.2)) _ ?_ (PFr.rf.set (by decide) (by decide) _) (P.p10 10 (Or.inl rfl) _) ?_⟩, fun y => J (fun z => y z.2)⟩
  · unfold pKn
    rw [if_pos q, if_pos ⟨lt, y⟩]
  · rw [gII, if_pos ⟨rfl, rfl⟩]; exact C.nu _ lt
theorem sp_isWhole (P : PB t m B n k) {lo hi : Nat} (hx : x = nI lo) (hy : y = nI hi) (hl : lo < 2 ^ 31) (hh : hi < 2 ^ 31) (h0 : ∀ e m', pWh lo hi k = .inl e → PFr m m' → Fl m' e → Q 0 m') (h1 : ∀ v, pWh lo hi k = .inr v → gI m 2 8 = nI v → Q 1 m) : wX3_isWhole t m 2 x y Q := by
  unfold wX3_isWhole
  have L := P.lay
  have k5 := P.ok.kd
  rw [P.tk.kd, show (2 : Int32) = nI 2 from rfl, nI_eq (by omega) (by decide), hx, hy]
  refine ⟨lk2 L, fun q => ?_, fun q => sp_fail P (c := 1) rfl (fun m' f g => ⟨Or.inl rfl, h0 _ m' (by unfold pWh; rw [if_neg q]) f g⟩)⟩
  obtain ⟨e1, e2⟩ := P.tk.wh q
  have J : ¬ (lo ≤ k.2.2.2 ∧ k.2.2.2 ≤ hi) → wX3_isWhole_J30 t m 2 Q := by
    intro hn
    refine ⟨lk2 L, sp_fail P (c := 4) rfl (fun m' f g => ⟨fun _ => h0 _ m' ?_ f g, fun y => absurd rfl y⟩)⟩
    unfold pWh
    rw [if_pos q, if_neg hn]
  rw [e1, nI_ltI (by omega) hl, nI_leI (by omega) hh]
  refine ⟨fun z => J (fun w => by omega), fun z => ⟨fun z2 => h1 k.2.2.2 ?_ e1, fun z2 => J (fun w => z2 w.2)⟩⟩
  unfold pWh
  rw [if_pos q, if_pos ⟨by omega, z2⟩]
theorem sp_passWord (P : PB t m B n k) (hz : z = lN (cvf 8 c)) (hc : c < 1099511627776) (h0 : ∀ e m', pWd c k = .inl e → PFr m m' → Fl m' e → Q 0 m') (h1 : ∀ m', pWd c k = .inr () → PFr m m' → PB t m' B n (adv B n k) → Q 1 m') : wX3_passWord t m 2 z Q := by
  unfold wX3_passWord
  refine ⟨lk2 P.lay, sp_stands P hz hc (fun q => ⟨fun y => absurd y (by decide), fun _ => sp_nx P (fun m' f p => h1 m' (by unfold pWd; rw [if_pos q]) f.pf p)⟩) (fun q => ⟨fun _ => sp_fail P (c := 1) rfl (fun m' f g => ⟨Or.inl rfl, h0 _ m' (by unfold pWd; rw [q]; rfl) f g⟩), fun y => absurd rfl y⟩)⟩
theorem sp_kind (P : PB t m B n k) (h0 : pKd k = .inl (1, k.2.1) → Q (-1) m) (h1 : ∀ d, pKd k = .inr d → Q (nI d) m) : wX3_kindThatStands t m 2 Q := by
  unfold wX3_kindThatStands
  unfold pKd at h0 h1
  refine ⟨lk2 P.lay, sp_stands P (c := 17171758) (by decide) (by decide) (fun q => ⟨fun y => absurd y (by decide), fun _ => h1 0 (by rw [if_pos q])⟩) (fun q1 => ⟨fun _ => ?_, fun y => absurd rfl y⟩)⟩
  refine sp_stands P (c := 186546) (by decide) (by decide) (fun q => ⟨fun y => absurd y (by decide), fun _ => h1 1 (by rw [q1, if_neg (by decide), if_pos q])⟩) (fun q2 => ⟨fun _ => ?_, fun y => absurd rfl y⟩)
  refine sp_stands P (c := 2500036) (by decide) (by decide) (fun q => ⟨fun y => absurd y (by decide), fun _ => h1 2 (by rw [q1, if_neg (by decide), q2, if_neg (by decide), if_pos q])⟩) (fun q3 => ⟨fun _ => ?_, fun y => absurd rfl y⟩)
  refine sp_stands P (c := 109099237) (by decide) (by decide) (fun q => ⟨fun y => absurd y (by decide), fun _ => h1 3 (by rw [q1, if_neg (by decide), q2, if_neg (by decide), q3, if_neg (by decide), if_pos q])⟩) (fun q4 => ⟨fun _ => h0 ?_, fun y => absurd rfl y⟩)
  rw [q1, if_neg (by decide), q2, if_neg (by decide), q3, if_neg (by decide), q4, if_neg (by decide)]
theorem sp_law (P : PB t m B n k) (h0 : pLx k = .inl (1, k.2.1) → Q 0 m) (h1 : ∀ j, pLx k = .inr j → Q (nI (2 ^ j)) m) : wX3_lawThatStands t m 2 Q := by
  unfold wX3_lawThatStands
  unfold pLx at h0 h1
  refine ⟨lk2 P.lay, sp_stands P (c := 525618) (by decide) (by decide) (fun q => ⟨fun y => absurd y (by decide), fun _ => h1 0 (by rw [if_pos q])⟩) (fun q1 => ⟨fun _ => ?_, fun y => absurd rfl y⟩)⟩
  refine sp_stands P (c := 24722887) (by decide) (by decide) (fun q => ⟨fun y => absurd y (by decide), fun _ => h1 1 (by rw [q1, if_neg (by decide), if_pos q])⟩) (fun q2 => ⟨fun _ => ?_, fun y => absurd rfl y⟩)
  refine sp_stands P (c := 611795) (by decide) (by decide) (fun q => ⟨fun y => absurd y (by decide), fun _ => h1 2 (by rw [q1, if_neg (by decide), q2, if_neg (by decide), if_pos q])⟩) (fun q3 => ⟨fun _ => h0 ?_, fun y => absurd rfl y⟩)
  rw [q1, if_neg (by decide), q2, if_neg (by decide), q3, if_neg (by decide)]
/-- what a new name touches -/
def NFr (m m' : zM) : Prop := Fr [2, 16, 17, 18] m m' ∧ gI m' 2 1 = gI m 2 1
theorem sp_newName (P : PB t m B n k) (C : CNm m N) (hN : N 0 0 < 19) (hx : x = nI s) (hs : s ≤ 2) (hy : y = nI a) (h0 : ∀ e m', pNew N k = .inl e → PFr m m' → Fl m' e → Q 0 m') (h1 : ∀ w m', pNew N k = .inr w → NFr m m' → PB t m' B n (adv B n k) → CNm m' (aN N w s a) → Q 1 m') : wX3_newName t m 2 x y Q := by
  unfold wX3_newName
  have L := P.lay
  refine ⟨lk2 L, sp_isName P (fun q => ⟨fun y => absurd y (by decide), fun _ => ?_⟩) (fun q => ⟨fun _ => sp_fail P (c := 1) rfl (fun m' f g => ⟨Or.inl rfl, h0 _ m' (by unfold pNew; rw [q]; rfl) f g⟩), fun y => absurd rfl y⟩)⟩
  refine sp_placeOfName P C (isNm_1 q) (fun lt => ⟨fun y => absurd y (nI_pos (by omega)), fun _ => sp_fail P (c := 3) rfl (fun m' f g => ⟨Or.inl rfl, h0 _ m' (by unfold pNew; rw [if_pos q, if_pos lt]) f g⟩)⟩) (fun lt => ⟨fun _ => ⟨fun z => ?_, fun z => ?_⟩, fun y => absurd (by decide) y⟩)
  · rw [C.cn, show (19 : Int32) = nI 19 from rfl, nI_leI (by decide) (by omega)] at z
    omega
  · obtain ⟨e1, e2⟩ := P.tk.wd (isNm_1 q)
    rw [lr2_12 L, lr2_13 L, lr2_14 L, ll16 L, ll17 L, ll18 L]
    have g1 : ∀ v : Int32, ∀ i, gI (pI (pJ m 16 i (gJ m 2 7)) 17 i v) 2 11 = gI m 2 11 := fun v i => by rw [gII, if_neg (by omega)]; rfl
    have g2 : ∀ v v' : Int32, ∀ i j, gI (pI (pI (pJ m 16 i (gJ m 2 7)) 17 i v) 18 j v') 2 11 = gI m 2 11 := fun v v' i j => by rw [gII, if_neg (by omega), gII, if_neg (by omega)]; rfl
    rw [g1, g2, C.cn, nI_cl (show N 0 0 < 2 ^ 31 by omega), nI_1, e1]
    refine ⟨lk16 L, vp_nI (by omega) (by decide), lk17 L, vp_nI (by omega) (by decide), lk18 L, vp_nI (by omega) (by decide), ?_⟩
    have F : Fr [16, 17, 18] m (pI (pI (pJ m 16 (N 0 0) (lN (cvf 8 k.2.2.2))) 17 (N 0 0) x) 18 (N 0 0) y) := Fr.pI (Fr.pI (Fr.pJ Fr.rf (by decide)) (by decide)) (by decide)
    have P1 := (P.fr F (by decide) (by decide)).p10 11 (Or.inr rfl) (nI (N 0 0 + 1))
    unfold wX3_newName_J78
    refine ⟨lk2 L, sp_nx P1 (fun m' f p => ?_)⟩
    have f' := f.pf
    refine h1 k.2.2.2 m' (by unfold pNew; rw [if_pos q, if_neg lt]) ⟨((Fr.pI (F.mono (by decide)) (by decide)).tr (f.1.mono (by decide)) : Fr [2, 16, 17, 18] m m'), f'.2.2⟩ p (CNm.fr ?_ f')
    refine ⟨?_, by rw [aN_0]; omega, fun i hi => ?_, fun i hi => ?_, fun i hi => ?_⟩
    · rw [gII, if_pos ⟨rfl, rfl⟩, aN_0]
    · rw [aN_0] at hi
      rw [aN_1]
      show (if 16 = 16 ∧ i = N 0 0 then lN (cvf 8 k.2.2.2) else gJ m 16 i) = _ ∧ _
      by_cases z : i = N 0 0
      · rw [if_pos ⟨rfl, z⟩, if_pos z]; exact ⟨rfl, e2⟩
      · rw [if_neg (fun y => z y.2), if_neg z]; exact C.wo i (by omega)
    · rw [aN_0] at hi
      rw [aN_2, gII, if_neg (by omega), gII, if_neg (by omega), gII]
      by_cases z : i = N 0 0
      · rw [if_pos ⟨rfl, z⟩, if_pos z]; exact ⟨hx, hs⟩
      · rw [if_neg (fun y => z y.2), if_neg z]; exact C.so i (by omega)
    · rw [aN_0] at hi
      rw [aN_3, gII, if_neg (by omega), gII]
      by_cases z : i = N 0 0
      · rw [if_pos ⟨rfl, z⟩, if_pos z]; exact hy
      · rw [if_neg (fun y => z y.2), if_neg z, gII, if_neg (by omega)]; exact C.nu i (by omega)
end
