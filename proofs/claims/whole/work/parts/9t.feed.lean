/-! feed -/
def shI : Nat → Int32
  | 0 => 24
  | 1 => 16
  | 2 => 8
  | 3 => 0
  | _ => -8
def byt (x : Int32) (i : Nat) : Int32 := ((x >>> (shI i &&& 31)).toInt8.toInt32).toInt8.toInt32
def sel (x1 x2 x3 x4 x5 : Int32) (k : Nat) : Int32 := if k < 4 then x1 else if k < 8 then x2 else if k < 12 then x3 else if k < 16 then x4 else x5
def fby (x1 x2 x3 x4 x5 : Int32) (k : Nat) : Int32 := byt (sel x1 x2 x3 x4 x5 k) (k % 4)
def Tpe (m : zM) (f : Nat) (B : Nat → Nat) : Prop := (f ≤ 900) ∧ (gI m 2 1 = nI f) ∧ (gI m 75 6 = nI f) ∧ (∀ k, k < f → TB (gI m 3 k) (B k)) ∧ (∀ k, k < f → TB (gI m 76 k) (B k))
theorem Tpe.f9 {m : zM} {f : Nat} {B : Nat → Nat} (h_ : Tpe m f B) : f ≤ 900 := h_.1
theorem Tpe.cl {m : zM} {f : Nat} {B : Nat → Nat} (h_ : Tpe m f B) : gI m 2 1 = nI f := h_.2.1
theorem Tpe.rf {m : zM} {f : Nat} {B : Nat → Nat} (h_ : Tpe m f B) : gI m 75 6 = nI f := h_.2.2.1
theorem Tpe.tc {m : zM} {f : Nat} {B : Nat → Nat} (h_ : Tpe m f B) : ∀ k, k < f → TB (gI m 3 k) (B k) := h_.2.2.2.1
theorem Tpe.tr {m : zM} {f : Nat} {B : Nat → Nat} (h_ : Tpe m f B) : ∀ k, k < f → TB (gI m 76 k) (B k) := h_.2.2.2.2
def FinF (m m2 : zM) (r1 r2 : Int32) : Prop := r1 = r2 ∧ (∃ f B, Tpe m2 f B) ∧ Fr [2, 3, 75, 76] m m2 ∧ (∀ j, j ≠ 1 → gI m2 2 j = gI m 2 j) ∧ ∀ j, j ≠ 0 → j ≠ 6 → gI m2 75 j = gI m 75 j
/-- the class's tape has grown by i bytes -/
def Fdc (m : zM) (m' : zM) (f : Nat) (i : Nat) (y : Nat → Int32) : Prop := (Fr [2, 3] m m') ∧ (∀ j, j ≠ 1 → gI m' 2 j = gI m 2 j) ∧ (gI m' 2 1 = nI (f + i)) ∧ (∀ k, k < f → gI m' 3 k = gI m 3 k) ∧ (∀ q, q < i → gI m' 3 (f + q) = y q)
theorem Fdc.fr {m : zM} {m' : zM} {f : Nat} {i : Nat} {y : Nat → Int32} (h_ : Fdc m m' f i y) : Fr [2, 3] m m' := h_.1
theorem Fdc.k2 {m : zM} {m' : zM} {f : Nat} {i : Nat} {y : Nat → Int32} (h_ : Fdc m m' f i y) : ∀ j, j ≠ 1 → gI m' 2 j = gI m 2 j := h_.2.1
theorem Fdc.n {m : zM} {m' : zM} {f : Nat} {i : Nat} {y : Nat → Int32} (h_ : Fdc m m' f i y) : gI m' 2 1 = nI (f + i) := h_.2.2.1
theorem Fdc.old {m : zM} {m' : zM} {f : Nat} {i : Nat} {y : Nat → Int32} (h_ : Fdc m m' f i y) : ∀ k, k < f → gI m' 3 k = gI m 3 k := h_.2.2.2.1
theorem Fdc.new_ {m : zM} {m' : zM} {f : Nat} {i : Nat} {y : Nat → Int32} (h_ : Fdc m m' f i y) : ∀ q, q < i → gI m' 3 (f + q) = y q := h_.2.2.2.2
def Fdr (m : zM) (m' : zM) (f : Nat) (i : Nat) (y : Nat → Int32) : Prop := (Fr [75, 76] m m') ∧ (∀ j, j ≠ 6 → gI m' 75 j = gI m 75 j) ∧ (gI m' 75 6 = nI (f + i)) ∧ (∀ k, k < f → gI m' 76 k = gI m 76 k) ∧ (∀ q, q < i → gI m' 76 (f + q) = y q)
theorem Fdr.fr {m : zM} {m' : zM} {f : Nat} {i : Nat} {y : Nat → Int32} (h_ : Fdr m m' f i y) : Fr [75, 76] m m' := h_.1
theorem Fdr.k75 {m : zM} {m' : zM} {f : Nat} {i : Nat} {y : Nat → Int32} (h_ : Fdr m m' f i y) : ∀ j, j ≠ 6 → gI m' 75 j = gI m 75 j := h_.2.1
theorem Fdr.n {m : zM} {m' : zM} {f : Nat} {i : Nat} {y : Nat → Int32} (h_ : Fdr m m' f i y) : gI m' 75 6 = nI (f + i) := h_.2.2.1
theorem Fdr.old {m : zM} {m' : zM} {f : Nat} {i : Nat} {y : Nat → Int32} (h_ : Fdr m m' f i y) : ∀ k, k < f → gI m' 76 k = gI m 76 k := h_.2.2.2.1
theorem Fdr.new_ {m : zM} {m' : zM} {f : Nat} {i : Nat} {y : Nat → Int32} (h_ : Fdr m m' f i y) : ∀ q, q < i → gI m' 76 (f + q) = y q := h_.2.2.2.2
section
variable {t : zT} {m m' m1 m2 : zM} {f i : Nat} {B : Nat → Nat} {x x1 x2 x3 x4 x5 : Int32} {y : Nat → Int32}
theorem tb_ex (w : Int32) : ∃ b, TB (w.toInt8.toInt32) b := by
  have h1 := Int8.toInt_lt w.toInt8
  have h2 := Int8.le_toInt w.toInt8
  have e : w.toInt8.toInt32.toInt = w.toInt8.toInt := Int8.toInt_toInt32 _
  generalize w.toInt8.toInt = z at *
  refine ⟨(if 0 ≤ z then z else z + 256).toNat, ?_, ?_⟩
  · split <;> omega
  · rw [e]
    split <;> split <;> omega
theorem Fdc.one (h : Fdc m m1 f i y) (hy : y i = x) : Fdc m (pI (pI m1 3 (f + i) x) 2 1 (nI (f + i + 1))) f (i + 1) y := by
  refine ⟨Fr.pI (Fr.pI h.fr (by decide)) (by decide), fun j hj => ?_, ?_, fun k hk => ?_, fun q hq => ?_⟩
  · rw [gII, if_neg (fun z => hj z.2), gII, if_neg (by omega)]; exact h.k2 j hj
  · rw [gII, if_pos ⟨rfl, rfl⟩]; rfl
  · rw [gII, if_neg (by omega), gII, if_neg (by omega)]; exact h.old k hk
  · rw [gII, if_neg (by omega), gII]
    by_cases z : q = i
    · rw [if_pos ⟨rfl, by rw [z]⟩, z, hy]
    · rw [if_neg (by omega)]; exact h.new_ q (by omega)
theorem Fdr.one (h : Fdr m m1 f i y) (hy : y i = x) : Fdr m (pI (pI m1 76 (f + i) x) 75 6 (nI (f + i + 1))) f (i + 1) y := by
  refine ⟨Fr.pI (Fr.pI h.fr (by decide)) (by decide), fun j hj => ?_, ?_, fun k hk => ?_, fun q hq => ?_⟩
  · rw [gII, if_neg (fun z => hj z.2), gII, if_neg (by omega)]; exact h.k75 j hj
  · rw [gII, if_pos ⟨rfl, rfl⟩]; rfl
  · rw [gII, if_neg (by omega), gII, if_neg (by omega)]; exact h.old k hk
  · rw [gII, if_neg (by omega), gII]
    by_cases z : q = i
    · rw [if_pos ⟨rfl, by rw [z]⟩, z, hy]
    · rw [if_neg (by omega)]; exact h.new_ q (by omega)
theorem shI_s : ∀ i, i < 4 → ¬ shI i < 0 ∧ shI i + (-8) = shI (i + 1) := by decide
theorem shI_r : ∀ k, k < 20 → (24 : Int32) - (8 : Int32) * (nI k - nI k / 4 * 4) = shI (k % 4) := by decide
theorem sp_put (L : Lay t m) {c : Nat} (h0 : Fdc m m1 f (4 * c) y) (hf : f + 4 * c + 4 ≤ 900) (hy : ∀ i, i < 4 → y (4 * c + i) = byt x i) {Q : zM → Prop} (h : ∀ m', Fdc m m' f (4 * (c + 1)) y → Q m') : wX3_put t m1 2 x Q := by
  unfold wX3_put
  refine ⟨4 + 1, ?_⟩
  have key : ∀ d i : Nat, i + d = 4 → ∀ m1, Fdc m m1 f (4 * c + i) y → wX3_put_L3 t 2 x Q (fun m6 => Q m6) (d + 1) (shI i) m1 := by
    intro d
    induction d with
    | zero =>
      intro i hi m1 g
      have e : i = 4 := by omega
      subst e
      rw [wX3_put_L3]
      exact ⟨fun _ => h m1 g, fun z => absurd (by decide) z⟩
    | succ d ih =>
      intro i hi m1 g
      have s := shI_s i (by omega)
      have L1 := L.fr g.fr
      rw [wX3_put_L3, g.n, show (900 : Int32) = nI 900 from rfl, nI_leI (by decide) (by omega), lr2_0 L1, ll3 L, nI_cl (by omega), s.2]
      have e1 : ∀ v, gI (pI m1 3 (f + (4 * c + i)) v) 2 1 = nI (f + (4 * c + i)) := fun v => by rw [gII, if_neg (by omega)]; exact g.n
      rw [e1, nI_1]
      exact ⟨fun z => absurd z s.1, fun _ => ⟨lk2 L, fun z => by omega, fun _ => ⟨lk3 L, vp_nI (by omega) (by decide), ih (i + 1) (by omega) _ (g.one (hy i (by omega)))⟩⟩⟩
  exact key 4 0 rfl m1 h0
theorem sp_feed (L : Lay t m) (e1 : gI m 2 1 = nI f) (hf : f ≤ 900) {Q : Int32 → zM → Prop} (h0 : ¬ f + 20 ≤ 900 → Q (-1) m) (h1 : f + 20 ≤ 900 → ∀ m', Fdc m m' f 20 (fby x1 x2 x3 x4 x5) → Q (nI (f + 20)) m') : wX9_feed t m 1 x1 x2 x3 x4 x5 Q := by
  unfold wX9_feed
  rw [lr1_0 L, e1, show (20 : Int32) = nI 20 from rfl, nI_add, show (900 : Int32) = nI 900 from rfl, nI_leI (by omega) (by decide)]
  refine ⟨lk1 L, lk2 L, fun hle => ?_, fun hgt => h0 hgt⟩
  have z0 : Fdc m m f (4 * 0) (fby x1 x2 x3 x4 x5) := ⟨Fr.rf, fun _ _ => rfl, e1, fun _ _ => rfl, fun q hq => absurd hq (Nat.not_lt_zero _)⟩
  have yy : ∀ c i, i < 4 → fby x1 x2 x3 x4 x5 (4 * c + i) = byt (sel x1 x2 x3 x4 x5 (4 * c + i)) i := fun c i hi => by
    unfold fby
    rw [show (4 * c + i) % 4 = i by omega]
  have ss : ∀ i, i < 4 → sel x1 x2 x3 x4 x5 (4 * 0 + i) = x1 ∧ sel x1 x2 x3 x4 x5 (4 * 1 + i) = x2 ∧ sel x1 x2 x3 x4 x5 (4 * 2 + i) = x3 ∧ sel x1 x2 x3 x4 x5 (4 * 3 + i) = x4 ∧ sel x1 x2 x3 x4 x5 (4 * 4 + i) = x5 := fun i hi => by
    unfold sel
    refine ⟨if_pos (by omega), (if_neg (by omega)).trans (if_pos (by omega)), (if_neg (by omega)).trans ((if_neg (by omega)).trans (if_pos (by omega))), (if_neg (by omega)).trans ((if_neg (by omega)).trans ((if_neg (by omega)).trans (if_pos (by omega)))), (if_neg (by omega)).trans ((if_neg (by omega)).trans ((if_neg (by omega)).trans (if_neg (by omega))))⟩
  refine sp_put L (c := 0) z0 (by omega) (fun i hi => by rw [yy 0 i hi, (ss i hi).1]) (fun m5 g5 => ?_)
  rw [lr1_0 (L.fr g5.fr)]
  refine ⟨lk2 L, sp_put L (c := 1) g5 (by omega) (fun i hi => by rw [yy 1 i hi, (ss i hi).2.1]) (fun m8 g8 => ?_)⟩
  rw [lr1_0 (L.fr g8.fr)]
  refine ⟨lk2 L, sp_put L (c := 2) g8 (by omega) (fun i hi => by rw [yy 2 i hi, (ss i hi).2.2.1]) (fun m11 g11 => ?_)⟩
  rw [lr1_0 (L.fr g11.fr)]
  refine ⟨lk2 L, sp_put L (c := 3) g11 (by omega) (fun i hi => by rw [yy 3 i hi, (ss i hi).2.2.2.1]) (fun m14 g14 => ?_)⟩
  rw [lr1_0 (L.fr g14.fr)]
  refine ⟨lk2 L, sp_put L (c := 4) g14 (by omega) (fun i hi => by rw [yy 4 i hi, (ss i hi).2.2.2.2]) (fun m17 g17 => ?_)⟩
  rw [lr1_0 (L.fr g17.fr), g17.n]
  exact ⟨lk2 L, h1 hle m17 g17⟩
theorem rsp_feed (L : Lay t m) (e1 : gI m 75 6 = nI f) (hf : f ≤ 900) {Q : Int32 → zM → Prop} (h0 : ¬ f + 20 ≤ 900 → Q (-1) (pI m 75 0 0)) (h1 : f + 20 ≤ 900 → ∀ m', Fdr (pI m 75 0 0) m' f 20 (fby x1 x2 x3 x4 x5) → Q (nI (f + 20)) m') : wX12_feed t m 75 x1 x2 x3 x4 x5 Q := by
  unfold wX12_feed
  have e0 : gI (pI m 75 0 0) 75 6 = nI f := by rw [gII, if_neg (by decide)]; exact e1
  rw [e0, show (20 : Int32) = nI 20 from rfl, nI_add, show (900 : Int32) = nI 900 from rfl, nI_leI (by omega) (by decide)]
  refine ⟨lk75 L, fun hle => ⟨20 + 1, ?_⟩, fun hgt => h0 hgt⟩
  have L0 : Lay t (pI m 75 0 0) := L.fr (S := [75]) (Fr.pI Fr.rf (by decide))
  generalize pI m 75 0 0 = ma at *
  have z0 : Fdr ma ma f 0 (fby x1 x2 x3 x4 x5) := ⟨Fr.rf, fun _ _ => rfl, e0, fun _ _ => rfl, fun q hq => absurd hq (Nat.not_lt_zero _)⟩
  have key : ∀ d k : Nat, k + d = 20 → ∀ m1, Fdr ma m1 f k (fby x1 x2 x3 x4 x5) → wX12_feed_L23 t 75 x1 x2 x3 x4 x5 Q (fun m11 => Q (gI m11 75 6) m11) (d + 1) (nI k) m1 := by
    intro d
    induction d with
    | zero =>
      intro k hk m1 g
      have e : k = 20 := by omega
      subst e
      rw [wX12_feed_L23]
      refine ⟨fun _ => ?_, fun z => absurd (by decide) z⟩
      show Q (gI m1 75 6) m1
      rw [g.n]
      exact h1 hle m1 g
    | succ d ih =>
      intro k hk m1 g
      have L1 := L0.fr g.fr
      have J : ∀ v, sel x1 x2 x3 x4 x5 k = v → wX12_feed_J76 t m1 75 x1 x2 x3 x4 x5 (nI k) v Q (wX12_feed_L23 t 75 x1 x2 x3 x4 x5 Q (fun m11 => Q (gI m11 75 6) m11) (d + 1)) := by
        intro v hv
        unfold wX12_feed_J76
        rw [lr75_5 L1, ll76 L, g.n, nI_cl (by omega), shI_r k (by omega)]
        have e2 : ∀ w, gI (pI m1 76 (f + k) w) 75 6 = nI (f + k) := fun w => by rw [gII, if_neg (by omega)]; exact g.n
        rw [e2, nI_1, nI_1]
        exact ⟨lk75 L, lk76 L, vp_nI (by omega) (by decide), ih (k + 1) (by omega) _ (g.one (by unfold fby byt; rw [hv]))⟩
      rw [wX12_feed_L23, show (20 : Int32) = nI 20 from rfl, show (4 : Int32) = nI 4 from rfl, show (8 : Int32) = nI 8 from rfl, show (12 : Int32) = nI 12 from rfl, show (16 : Int32) = nI 16 from rfl, nI_leI (by decide) (by omega), nI_leI (by decide) (by omega), nI_leI (by decide) (by omega), nI_leI (by decide) (by omega), nI_leI (by decide) (by omega)]
      refine ⟨fun z => by omega, fun _ => ⟨fun a4 => ⟨fun a8 => ⟨fun a12 => ⟨fun a16 => J x5 ?_, fun a16 => J x4 ?_⟩, fun a12 => J x3 ?_⟩, fun a8 => J x2 ?_⟩, fun a4 => J x1 ?_⟩⟩
      · unfold sel; rw [if_neg (by omega), if_neg (by omega), if_neg (by omega), if_neg (by omega)]
      · unfold sel; rw [if_neg (by omega), if_neg (by omega), if_neg (by omega), if_pos (by omega)]
      · unfold sel; rw [if_neg (by omega), if_neg (by omega), if_pos (by omega)]
      · unfold sel; rw [if_neg (by omega), if_pos (by omega)]
      · unfold sel; rw [if_pos (by omega)]
  exact key 20 0 rfl ma z0
theorem call_feed (L : Lay t m) (T : Tpe m f B) : wX9_feed t m 1 x1 x2 x3 x4 x5 (fun r m1 => wX12_feed t m1 75 x1 x2 x3 x4 x5 (fun r2 m2 => FinF m m2 r r2)) := by
  have f9 := T.f9
  refine sp_feed L T.cl f9 (fun hgt => rsp_feed L T.rf f9 (fun _ => ?_) (fun hle => absurd hle hgt)) (fun hle m1 g => ?_)
  · refine ⟨rfl, ⟨f, B, f9, ?_, ?_, fun k hk => ?_, fun k hk => ?_⟩, Fr.pI Fr.rf (by decide), fun j hj => ?_, fun j h0 h6 => ?_⟩
    · rw [gII, if_neg (by decide)]; exact T.cl
    · rw [gII, if_neg (by decide)]; exact T.rf
    · rw [gII, if_neg (by omega)]; exact T.tc k hk
    · rw [gII, if_neg (by omega)]; exact T.tr k hk
    · rw [gII, if_neg (by omega)]
    · rw [gII, if_neg (by omega)]
  · have o : ∀ a, 75 ≤ a → a ∉ [2, 3] := fun a ha z => by simp only [List.mem_cons, List.not_mem_nil, or_false] at z; omega
    have o' : ∀ a, a < 75 → a ∉ [75, 76] := fun a ha z => by simp only [List.mem_cons, List.not_mem_nil, or_false] at z; omega
    refine rsp_feed (L.fr g.fr) ((g.fr.I (o 75 (by decide)) _).trans T.rf) f9 (fun hgt => absurd hle hgt) (fun _ m2 g2 => ⟨rfl, ⟨f + 20, fun k => if k < f then B k else (tb_ex ((sel x1 x2 x3 x4 x5 (k - f) >>> (shI ((k - f) % 4) &&& 31)).toInt8.toInt32)).choose, by omega, ?_, g2.n, fun k hk => ?_, fun k hk => ?_⟩, ?_, fun j hj => ?_, fun j h0 h6 => ?_⟩)
    · rw [g2.fr.I (o' 2 (by decide)), gII, if_neg (by decide)]; exact g.n
    · rw [g2.fr.I (o' 3 (by decide)), gII, if_neg (by omega)]
      show TB _ (if k < f then B k else _)
      by_cases z : k < f
      · rw [if_pos z, g.old k z]; exact T.tc k z
      · rw [if_neg z, show k = f + (k - f) by omega, g.new_ (k - f) (by omega), show f + (k - f) - f = k - f by omega]
        exact (tb_ex _).choose_spec
    · show TB _ (if k < f then B k else _)
      by_cases z : k < f
      · rw [if_pos z, g2.old k z, gII, if_neg (by omega), g.fr.I (o 76 (by decide))]; exact T.tr k z
      · rw [if_neg z, show k = f + (k - f) by omega, g2.new_ (k - f) (by omega), show f + (k - f) - f = k - f by omega]
        exact (tb_ex _).choose_spec
    · have h1 : Fr [2, 3, 75, 76] m m1 := g.fr.mono (fun a ha => by simp only [List.mem_cons, List.not_mem_nil, or_false] at ha ⊢; omega)
      have h2 : Fr [2, 3, 75, 76] (pI m1 75 0 0) m2 := g2.fr.mono (fun a ha => by simp only [List.mem_cons, List.not_mem_nil, or_false] at ha ⊢; omega)
      exact (Fr.pI h1 (by decide)).tr h2
    · rw [g2.fr.I (o' 2 (by decide)), gII, if_neg (by omega)]; exact g.k2 j hj
    · rw [g2.k75 j h6, gII, if_neg (by omega), g.fr.I (o 75 (by decide))]
end
