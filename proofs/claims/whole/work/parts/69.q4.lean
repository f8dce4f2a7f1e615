/-! Queries: passes, agree -/
noncomputable def rcB (S : Sc) (P : Nat → Bool) (w tt : Nat) : Bool := @decide (isCm S P tt (nI (ans S w tt))) (Classical.propDecidable _)
noncomputable def rcW (S : Sc) (P : Nat → Bool) (w : Nat) : Nat := fb_ct (rcB S P w) (cT S)
def cP (S : Sc) (P : Nat → Bool) (w : Nat) : Bool := decide (w < cnt S) && P w
section
variable {t : zT} {m m' m1 m2 : zM} {s u r : Nat} {S : Sc} {T : Ts} {P : Nat → Bool} {x x2 x3 : Int32}
theorem rcB_iff {w tt : Nat} : rcB S P w tt = true ↔ isCm S P tt (nI (ans S w tt)) := by
  unfold rcB
  exact @decide_eq_true_iff _ (Classical.propDecidable _)
theorem blk {y : Int64} {W : Nat} (h : ∀ i, i < 64 → (bw y i = true ↔ 64 * W + i < cnt S ∧ P (64 * W + i) = true)) : fb_ct (cP S P) (64 * W) + wpop y = fb_ct (cP S P) (64 * (W + 1)) := by
  have e := fb_ct_split (cP S P) (64 * W) 64
  rw [show 64 * (W + 1) = 64 * W + 64 by omega, e]
  have e2 : wpop y = fb_ct (fun k => cP S P (64 * W + k)) 64 := fb_ct_cong (fun k hk => by rw [← bt_iff, h k hk]; simp [cP])
  rw [e2]
theorem blk_end : fb_ct (cP S P) (64 * wds S) = fb_ct P (cnt S) := by
  have hc := cnt_wds (S := S)
  have e := fb_ct_split (cP S P) (cnt S) (64 * wds S - cnt S)
  rw [show cnt S + (64 * wds S - cnt S) = 64 * wds S by omega] at e
  have e2 : fb_ct (fun k => cP S P (cnt S + k)) (64 * wds S - cnt S) = 0 := fb_ct_zero.mpr (fun k _ => by simp only [cP]; rw [decide_eq_false (by omega)]; rfl)
  rw [e, e2, Nat.add_zero]
  exact fb_ct_cong (fun k hk => by simp [cP, hk])
/-- whether a belief is right in a way -/
theorem rc_of {w tt : Nat} {b : Int32} (hb : isCm S P tt b) : rcB S P w tt = true ↔ b = nI (ans S w tt) := by
  rw [rcB_iff]
  constructor
  · exact fun h => isCm_one hb h
  · rintro rfl; exact hb
theorem pw_in (c : CO t m s S T) {W : Nat} (hW : W < wds S) (hb : ∀ tt, tt < cT S → isCm S P tt (gI m 74 tt)) {y1 y2 : Int32} {Q : Int32 → zM → Prop} {K : zM → Prop} (hK : ∀ m3, Fr [73] m m3 → (∀ i, i < 64 → tv m3 73 i ≤ 8) → (∀ i, i < 64 → 64 * W + i < cnt S → tv m3 73 i = rcW S P (64 * W + i)) → K m3) : ∀ d2 k : Nat, k + d2 = cT S → ∀ m3, Fr [73] m m3 → (∀ i, i < 64 → tv m3 73 i ≤ k) → (∀ i, i < 64 → 64 * W + i < cnt S → tv m3 73 i = fb_ct (rcB S P (64 * W + i)) k) → ∀ z : Int32, z = nI k → wX9_passedWorlds_L25 t 1 y1 y2 (nI W) Q K (d2 + 1) z m3 := by
  have L := c.cor.lay
  have v := c.cor.vs
  have t8 := v.t8
  have w64 := wds_le v
  intro d2
  induction d2 with
  | zero =>
    intro k hk m3 f3 h1 h2 z hz
    have e : k = cT S := by omega
    subst e
    have c3 := c.q (QF.rf.of f3 (by decide))
    rw [hz, wX9_passedWorlds_L25, c3.x3, c3.cor.sm.things]
    exact ⟨lk1 L, ls_k L c.cor.sch, fun _ => hK m3 f3 (fun i hi => by have := h1 i hi; omega) (fun i hi hc => h2 i hi hc), fun hh => absurd (nI_le (Nat.le_refl _) (by omega)) hh⟩
  | succ d2 ih =>
    intro k hk m3 f3 h1 h2 z hz
    have c3 := c.q (QF.rf.of f3 (by decide))
    have L3 := c3.cor.lay
    have hk1 : k < cT S := by omega
    rw [hz, wX9_passedWorlds_L25, c3.x3, c3.cor.sm.things, lr1_11 L3, lk74 L, ll74 L, lr1_2 L3, lr1_10 L3, nI_cl (show k < 2 ^ 31 by omega), f3.I (show 74 ∉ [73] by decide)]
    unfold wX9_passedWorlds_J71
    refine ⟨lk1 L, ls_k L c.cor.sch, fun hh => absurd hh (nI_ge (by omega) (by omega)), fun _ => ⟨rfl, vp_nI (by omega) (by decide), fun hn => ih (k + 1) (by omega) m3 f3 (fun i hi => by have := h1 i hi; omega) (fun i hi hc => ?_) _ (nI_1 k), fun hn => ?_⟩⟩
    · rw [h2 i hi hc, fb_ct_succ]
      cases hr : rcB S P (64 * W + i) k with
      | false => simp
      | true =>
        rw [(rc_of (hb k hk1)).mp hr] at hn
        exact absurd hn (nI_pos (by have := ans_4 v (w := 64 * W + i) hk1; omega))
    · rcases hb k hk1 with ⟨_, q⟩ | ⟨_, a, a1, a2, _⟩
      · rw [q] at hn; exact absurd (by decide) hn
      · have a4 := (v.a2 k hk1).2
        rw [a2]
        refine ⟨lk20 L, sp_truthWord L3 (by omega) (by omega) (by omega) ⟨lk72 L, sp_tadd (lk72 L) (lr72_0 L3) (lk73 L) (ll73 L) (fun i hi => by have := h1 i hi; omega) (fun m5 f5 g5 => ih (k + 1) (by omega) m5 (f3.tr f5) (fun i hi => ?_) (fun i hi hc => ?_) _ (nI_1 k))⟩⟩
        · rw [g5 i hi]
          have := h1 i hi
          split <;> omega
        · rw [g5 i hi, h2 i hi hc, fb_ct_succ]
          congr 1
          have e : bw (gJ m3 34 ((k * 4 + a) * 64 + W)) i = rcB S P (64 * W + i) k := by
            rw [← bt_iff, c3.cor.way.truth k hk1 a (by omega) W (by omega) i hi, rc_of (hb k hk1), a2, nI_eq (by omega) (by have := ans_4 v (w := 64 * W + i) hk1; omega)]
            constructor
            · rintro ⟨_, q⟩; exact q.symm
            · intro q; exact ⟨hc, q.symm⟩
          rw [e]
theorem sp_passedWorlds (c : CO t m s S T) {need : Nat} (hn : need ≤ 8) (hb : ∀ tt, tt < cT S → isCm S P tt (gI m 74 tt)) {Q : Int32 → zM → Prop} (hQ : ∀ m', QF m m' → Q (nI (fb_ct (fun w => Wd S T w && decide (need ≤ rcW S P w)) (cnt S))) m') : wX9_passedWorlds t m 1 (nI need) Q := by
  have L := c.cor.lay
  have v := c.cor.vs
  have t8 := v.t8
  have hc := v.cnt
  have w64 := wds_le v
  unfold wX9_passedWorlds
  refine ⟨wds S + 1, ?_⟩
  have key : ∀ dd W : Nat, W + dd = wds S → ∀ m1, QF m m1 → (∀ tt, gI m1 74 tt = gI m 74 tt) → ∀ z2 z3 : Int32, z2 = nI (fb_ct (cP S (fun w => Wd S T w && decide (need ≤ rcW S P w))) (64 * W)) → z3 = nI W → wX9_passedWorlds_L4 t 1 (nI need) Q (fun v29 m30 => Q v29 m30) (dd + 1) z2 z3 m1 := by
    intro dd
    induction dd with
    | zero =>
      intro W hW m1 q1 g z2 z3 h2 h3
      have e : W = wds S := by omega
      subst e
      have c1 := c.q q1
      rw [h2, h3, wX9_passedWorlds_L4, lr1_8 c1.cor.lay, c1.wor.words, blk_end]
      exact ⟨lk1 L, lk68 L, fun _ => hQ m1 q1, fun hh => absurd (nI_le (Nat.le_refl _) (by omega)) hh⟩
    | succ dd ih =>
      intro W hW m1 q1 g z2 z3 h2 h3
      have c1 := c.q q1
      have L1 := c1.cor.lay
      have hW1 : W < wds S := by omega
      rw [h2, h3, wX9_passedWorlds_L4, lr1_8 L1, c1.wor.words, lr1_10 L1]
      refine ⟨lk1 L, lk68 L, fun hh => absurd hh (nI_ge (by omega) (by omega)), fun _ => ⟨lk72 L, sp_tclear (lk72 L) (lr72_0 L1) (lk73 L) (ll73 L) (fun m2 f2 g2 => ⟨cT S + 1, pw_in c1 (P := P) hW1 (fun tt ht => by rw [g tt]; exact hb tt ht) (fun m3 f3 t1 t2 => ?_) (cT S) 0 (by omega) m2 f2 (fun i hi => by rw [g2 i]; exact Nat.le_refl _) (fun i hi _ => by rw [g2 i]; rfl) 0 rfl⟩)⟩⟩
      have q3 : QF m m3 := q1.of f3 (by decide)
      have L3 := (c.q q3).cor.lay
      rw [lr1_8 L3, lr68_0 L3, lr1_10 L3, lk69 L, ll69 L, nI_cl (show W < 2 ^ 31 by omega)]
      refine ⟨lk68 L, rfl, vp_nI (by omega) (by decide), lk72 L, ?_⟩
      have fin : ∀ y : Int64, (∀ i, i < 64 → bw y i = decide (tv m3 73 i < need)) → wJ13_bitCount_95d88 t m3 (gJ m3 69 W &&& (y ^^^ (-1))) (fun r26 m27 => wX9_passedWorlds_L4 t 1 (nI need) Q (fun v29 m30 => Q v29 m30) (dd + 1) (nI (fb_ct (cP S (fun w => Wd S T w && decide (need ≤ rcW S P w))) (64 * W)) + r26) (nI W + 1) m27) := by
        intro y hy
        refine sp_bc64 (ih (W + 1) (by omega) m3 q3 (fun tt => by rw [f3.I (by decide)]; exact g tt) _ _ ?_ (nI_1 W))
        rw [nI_add, blk (fun i hi => ?_)]
        rw [bw_and, bw_not _ hi, Bool.and_eq_true, (c.q q3).wor.bit W hW1 i hi, hy i hi]
        constructor
        · rintro ⟨⟨a1, a2⟩, a3⟩
          rw [t2 i hi a1] at a3
          refine ⟨a1, ?_⟩
          rw [Bool.and_eq_true]
          refine ⟨a2, decide_eq_true ?_⟩
          simp at a3; exact a3
        · rintro ⟨a1, a2⟩
          rw [Bool.and_eq_true, decide_eq_true_eq] at a2
          refine ⟨⟨a1, a2.1⟩, ?_⟩
          rw [t2 i hi a1]
          simp; exact a2.2
      rcases Nat.eq_zero_or_pos need with z | z
      · subst z
        rw [show nI 0 - (1 : Int32) = -1 by decide]
        exact sp_atMost_neg (fin 0 (fun i hi => by rw [bw_0]; simp))
      · rw [show (1 : Int32) = nI 1 from rfl, pk_sub z]
        exact sp_atMost (by omega) (lk72 L) (lr72_0 L3) (lk73 L) (ll73 L) (fun y hy => fin y (fun i hi => by rw [hy i hi]; exact decide_eq_decide.mpr (by omega)))
  exact key (wds S) 0 (by omega) m QF.rf (fun _ => rfl) 0 0 rfl rfl
theorem rx_in {lo hi n : Nat} (hn : n < 2 ^ 31) (hlo : lo < 2 ^ 31) (hhi : hi < 2 ^ 31) {Q : Int32 → zM → Prop} (h1 : lo ≤ n → n ≤ hi → Q 1 m) (h0 : ¬ (lo ≤ n ∧ n ≤ hi) → Q 0 m) : wX12_in t m (nI n) (nI lo) (nI hi) Q := by
  unfold wX12_in
  rw [nI_ltI hn hlo, nI_ltI hhi hn]
  exact ⟨fun h => h0 (by omega), fun h => ⟨fun h2 => h0 (by omega), fun h2 => h1 (by omega) (by omega)⟩⟩
theorem rx_in0 {hi : Nat} (hhi : hi < 2 ^ 31) {Q : Int32 → zM → Prop} (h1 : ∀ n, n ≤ hi → x = nI n → Q 1 m) (h0 : (∀ n, n ≤ hi → x ≠ nI n) → Q 0 m) : wX12_in t m x 0 (nI hi) Q := by
  unfold wX12_in
  refine ⟨fun h => h0 (fun n hn e => by rw [e] at h; exact nI_pos (by omega) h), fun h => ?_⟩
  obtain ⟨n, hn, e⟩ := nI_of h
  subst e
  rw [nI_ltI hhi hn]
  exact ⟨fun h => h0 (fun k hk e => by have := (nI_eq hn (by omega)).mp e; omega), fun h => h1 n (by omega) rfl⟩
theorem AskM.fr {Tl : List Nat} (A : AskM m S P) (f : Fr Tl m m') (h1 : 75 ∉ Tl) (h2 : 78 ∉ Tl) (h3 : 79 ∉ Tl) : AskM m' S P := ⟨(f.I h1 _).trans A.many, fun w hw => (f.I h2 _).trans (A.is_ w hw), fun k hk a ha => (f.I h3 _).trans (A.often k hk a ha)⟩
theorem rx_asksW (c : RO t m u S T) {Q : zM → Prop} (hQ : ∀ m', Fr [75, 78, 79] m m' → QR m m' → RO t m' u S T → AskM m' S (Wd S T) → Q m') : wX12_asksWorlds t m 75 Q := by
  have v := c.rc.vs
  have n16 := v.n16
  have t8 := v.t8
  unfold wX12_asksWorlds wX11_allSayings
  simp only [c.rc.told, c.rc.sm.sayings, all_bits (show cN S < 31 by omega), c.rc.sm.laws]
  refine ⟨lk75 c.rc.lay, c.rc.rl.k, c.rc.rl.k, c.rc.rl.k, rsp_asks (fa := true) (Fc := Fcf S (thd T 3) (tfb T 3)) c.rc c.sy (fun i hi => allS_tb hi) (by omega) (allS_lt v) (fun h => h) (fun _ k hk => ⟨c.tm.fact k (by omega), Fcf_le v hk⟩) (fun m' f g A => ?_)⟩
  have q : QR m m' := QR.rf.of f (by decide) g
  exact hQ m' f q (c.q q) A
theorem rsp_passes_L63 (d : RO t m u S T) {P : Nat → Bool} {y2 y3 : Int32} {Q : Int32 → zM → Prop} {K : zM → Prop} (A : AskM m S P) (hK : ∀ m3, Fr [81] m m3 → (∀ tt, tt < cT S → isCm S P tt (gI m3 81 tt)) → K m3) : ∀ d2 k : Nat, k + d2 = cT S → ∀ m3, Fr [81] m m3 → (∀ tt, tt < k → isCm S P tt (gI m3 81 tt)) → ∀ z : Int32, z = nI k → wX12_passes_L63 t 75 y2 y3 Q K (d2 + 1) z m3 := by
  have L := d.rc.lay
  have v := d.rc.vs
  have t8 := v.t8
  intro d2
  induction d2 with
  | zero =>
    intro k hk m3 f3 g z hz
    have e : k = cT S := by omega
    subst e
    have d3 := d.q (QR.rf.of f3 (by decide) (fun j _ => f3.I (by decide) j))
    rw [hz, wX12_passes_L63, d3.rc.told, d3.rc.sm.things]
    exact ⟨lk75 L, d3.rc.rl.k, fun _ => hK m3 f3 g, fun hh => absurd (nI_le (Nat.le_refl _) (by omega)) hh⟩
  | succ d2 ih =>
    intro k hk m3 f3 g z hz
    have d3 := d.q (QR.rf.of f3 (by decide) (fun j _ => f3.I (by decide) j))
    have A3 : AskM m3 S P := A.fr f3 (by decide) (by decide) (by decide)
    rw [hz, wX12_passes_L63, d3.rc.told, d3.rc.sm.things, lr75_25 d3.rc.lay, lk81 L, ll81 L, nI_cl (show k < 2 ^ 31 by omega)]
    refine ⟨lk75 L, d3.rc.rl.k, fun hh => absurd hh (nI_ge (by omega) (by omega)), fun _ => rsp_believed d3 A3 (by omega) (fun z2 hz2 => ⟨rfl, vp_nI (by omega) (by decide), ih (k + 1) (by omega) _ (Fr.pI f3 (by decide)) (fun tt ht => ?_) _ (nI_1 k)⟩)⟩
    rcases (show tt < k ∨ tt = k by omega) with q | q
    · rw [gII, if_neg (by omega)]; exact g tt q
    · subst q; rw [gII, if_pos ⟨rfl, rfl⟩]; exact hz2
theorem rsp_passes_L136 (d : RO t m u S T) {P : Nat → Bool} (hb : ∀ tt, tt < cT S → isCm S P tt (gI m 81 tt)) {w : Nat} (hw : w < cnt S) {y2 y3 y4 : Int32} {Q : Int32 → zM → Prop} {K : Int32 → zM → Prop} (hK : K (nI (rcW S P w)) m) : ∀ d2 k : Nat, k + d2 = cT S → ∀ z z2 : Int32, z2 = nI k → z = nI (fb_ct (rcB S P w) k) → wX12_passes_L136 t 75 y2 y3 y4 (nI w) Q K (d2 + 1) z z2 m := by
  have L := d.rc.lay
  have v := d.rc.vs
  have t8 := v.t8
  intro d2
  induction d2 with
  | zero =>
    intro k hk z z2 hz2 hz
    have e : k = cT S := by omega
    subst e
    rw [hz, hz2, wX12_passes_L136, d.rc.told, d.rc.sm.things]
    exact ⟨lk75 L, d.rc.rl.k, fun _ => hK, fun hh => absurd (nI_le (Nat.le_refl _) (by omega)) hh⟩
  | succ d2 ih =>
    intro k hk z z2 hz2 hz
    have hk1 : k < cT S := by omega
    rw [hz, hz2, wX12_passes_L136, d.rc.told, d.rc.sm.things, lr75_25 L, lk81 L, ll81 L, nI_cl (show k < 2 ^ 31 by omega)]
    unfold wX12_passes_J173
    refine ⟨lk75 L, d.rc.rl.k, fun hh => absurd hh (nI_ge (by omega) (by omega)), fun _ => ⟨rfl, vp_nI (by omega) (by decide), rsp_answerOf d.rc hw hk1 ?_⟩⟩
    rw [← rc_of (hb k hk1)]
    refine ⟨fun h => ih (k + 1) (by omega) _ _ (nI_1 k) ?_, fun h => ih (k + 1) (by omega) _ _ (nI_1 k) ?_⟩
    · rw [fb_ct_succ, h, nI_1]; rfl
    · rw [fb_ct_succ, if_neg h, show (0 : Int32) = nI 0 from rfl, nI_add]
theorem rsp_passes_L118 (d : RO t m u S T) {P P2 : Nat → Bool} (A : AskM m S P2) (hb : ∀ tt, tt < cT S → isCm S P tt (gI m 81 tt)) {need : Nat} (hn : need ≤ 8) {y3 : Int32} {Q : Int32 → zM → Prop} {K : Int32 → zM → Prop} (hK : K (nI (fb_ct (fun w => P2 w && decide (need ≤ rcW S P w)) (cnt S))) m) : ∀ d2 k : Nat, k + d2 = cnt S → ∀ z z2 : Int32, z2 = nI k → z = nI (fb_ct (fun w => P2 w && decide (need ≤ rcW S P w)) k) → wX12_passes_L118 t 75 (nI need) y3 Q K (d2 + 1) z z2 m := by
  have L := d.rc.lay
  have v := d.rc.vs
  have t8 := v.t8
  have hc := v.cnt
  intro d2
  induction d2 with
  | zero =>
    intro k hk z z2 hz2 hz
    have e : k = cnt S := by omega
    subst e
    rw [hz, hz2, wX12_passes_L118, d.rc.told, d.rc.sm.ways]
    exact ⟨lk75 L, d.rc.rl.k, fun _ => hK, fun hh => absurd (nI_le (Nat.le_refl _) (by omega)) hh⟩
  | succ d2 ih =>
    intro k hk z z2 hz2 hz
    have hk1 : k < cnt S := by omega
    have r8 : rcW S P k ≤ cT S := fb_ct_le _ _
    rw [hz, hz2, wX12_passes_L118, d.rc.told, d.rc.sm.ways]
    refine ⟨lk75 L, d.rc.rl.k, fun hh => absurd hh (nI_ge (by omega) (by omega)), fun _ => ⟨cT S + 1, rsp_passes_L136 d hb hk1 ?_ (cT S) 0 (by omega) 0 0 rfl rfl⟩⟩
    rw [lr75_17 L, lk78 L, ll78 L, nI_cl (show k < 2 ^ 31 by omega), A.is_ k hk1, bI_0, nI_ltI (by omega) (by omega)]
    unfold wX12_passes_J204 wX12_passes_J205
    have no : (P2 k && decide (need ≤ rcW S P k)) = false → wX12_passes_L118 t 75 (nI need) y3 Q K (d2 + 1) (nI (fb_ct (fun w => P2 w && decide (need ≤ rcW S P w)) k) + 0) (nI k + 1) m := fun h => ih (k + 1) (by omega) _ _ (nI_1 k) (by rw [fb_ct_succ, h, show (0 : Int32) = nI 0 from rfl, nI_add]; simp)
    refine ⟨rfl, vp_nI (by omega) (by decide), fun h => no (by rw [h]; rfl), fun h => ⟨fun h2 => no (by rw [decide_eq_false (by omega)]; simp), fun h2 => ih (k + 1) (by omega) _ _ (nI_1 k) ?_⟩⟩
    rw [fb_ct_succ, ts_false h, decide_eq_true (show need ≤ rcW S P k by omega), nI_1]
    rfl
theorem call_passes (c : CO t m s S T) (d : RO t m u S T) : wX9_passes t m 1 x x2 x3 (fun r m1 => wX12_passes t m1 75 x x2 x3 (fun r2 m2 => Fin m m2 r r2)) := by
  have L := c.cor.lay
  have v := c.cor.vs
  have ch5 := v.ch5
  have t8 := v.t8
  have hc := v.cnt
  have ml := mny_le (S := S) (Wd S T)
  have no2 : (∃ k, k < cCh S ∧ x = nI k) → (∀ n, n ≤ 8 → x2 ≠ nI n) → wX9_passes_J24 t m 1 (fun r m1 => wX12_passes t m1 75 x x2 x3 (fun r2 m2 => Fin m m2 r r2)) := by
    intro hx hn
    have q1 : QF m (pI m 1 14 2) := QF.rf.why 2
    have d2 := (d.c q1).q (thr _)
    unfold wX9_passes_J24
    refine ⟨lk1 L, cx_refuse L ?_⟩
    unfold wX12_passes
    refine ⟨lk75 L, rx_isChild d2 (fun k hk e => ⟨fun h => absurd h (by decide), fun _ => rx_in0 (hi := 8) (by decide) (fun n h1 h2 => absurd h2 (hn n h1)) (fun _ => ⟨fun _ => fin_refused L q1 (w14 m 2) (thr _) (by decide), fun h => absurd rfl h⟩)⟩) (fun h => ?_)⟩
    obtain ⟨k, hk, e⟩ := hx
    exact absurd e (h k hk)
  -- the reference, for a child and a need
  have refs : ∀ k need m1, k < cCh S → need ≤ 8 → x = nI k → x2 = nI need → QF m m1 → ∀ r1 : Int32, (mny S (Wd S T) = 0 → gI m1 1 14 = 6 ∧ r1 = -1) → (0 < mny S (Wd S T) → gI m1 1 14 = 0 ∧ r1 = nI ((if x3 = 0 then fb_ct (fun w => Wd S T w && decide (need ≤ rcW S (chP S k) w)) (cnt S) else mny S (Wd S T)) / Nat.gcd (fb_ct (fun w => Wd S T w && decide (need ≤ rcW S (chP S k) w)) (cnt S)) (mny S (Wd S T)))) → wX12_passes t m1 75 x x2 x3 (fun r2 m2 => Fin m m2 r1 r2) := by
    intro k need m1 hk hn8 e1 e2 q1 r1 hz hp
    subst e1
    subst e2
    have d2 := (d.c q1).q (thr _)
    have RLc := d2.rc.rl
    have nl := fb_ct_le (fun w => Wd S T w && decide (need ≤ rcW S (chP S k) w)) (cnt S)
    unfold wX12_passes
    refine ⟨lk75 L, rx_isChild d2 (fun k' _ _ => ⟨fun h => absurd h (by decide), fun _ => rx_in0 (hi := 8) (by decide) (fun n h1 h2 => ⟨fun h => absurd h (by decide), fun _ => ?_⟩) (fun h => absurd rfl (h need hn8))⟩) (fun h => absurd rfl (h k hk))⟩
    simp only [d2.rc.told, RLc.k, RLc.r1, RLc.k1, RLc.l1, RLc.r2, RLc.k2, RLc.l2, RLc.r3, RLc.k3, RLc.l3, RLc.r4, RLc.k4, RLc.l4, RLc.r5, RLc.k5, RLc.l5, RLc.r6, RLc.k6, RLc.l6, RLc.r7, RLc.k7, RLc.l7, RLc.r8, RLc.k8, RLc.l8, RLc.r9, RLc.k9, RLc.l9, RLc.r10, RLc.k10, RLc.l10, RLc.r11, RLc.k11, RLc.l11, RLc.r12, RLc.k12, RLc.l12, RLc.r13, RLc.k13, RLc.l13, RLc.r14, RLc.k14, RLc.l14, nI_cl (show k < 2 ^ 31 by omega), d2.rc.sm.hears k hk, true_and]
    refine ⟨vp_nI (by omega) (by decide), rx_child d2 hk (fun m5 q5 d5 A => ⟨cT S + 1, rsp_passes_L63 d5 A (fun m6 f6 g6 => ?_) (cT S) 0 (by omega) m5 Fr.rf (fun tt ht => absurd ht (by omega)) 0 rfl⟩)⟩
    have q6 : QR m5 m6 := QR.rf.of f6 (by decide) (fun j _ => f6.I (by decide) j)
    refine rx_asksW (d5.q q6) (fun m7 f7 q7 d7 A7 => ?_)
    have q17 := (((thr m1).tr q5).tr q6).tr q7
    rw [A7.many, nI_small v ml]
    refine ⟨fun h0 => ?_, fun h0 => ⟨cnt S + 1, rsp_passes_L118 d7 A7 (P := chP S k) (fun tt ht => ?_) hn8 ?_ (cnt S) 0 (by omega) 0 0 rfl rfl⟩⟩
    · rw [(hz h0).2]
      exact fin_refused L q1 (hz h0).1 q17 (by decide)
    · rw [f7.I (by decide)]; exact g6 tt ht
    · obtain ⟨hw, hr⟩ := hp (by omega)
      rw [A7.many, nI_l (by omega), nI_l (by omega), hr]
      exact fin_lowest L (by omega) (by omega) (by omega) q1 hw q17
  unfold wX9_passes
  refine ⟨lk1 L, cx_isChild c (fun k hk e => ⟨fun h => absurd h (by decide), fun _ => ⟨fun h0 => no2 ⟨k, hk, e⟩ (fun n hn e2 => by rw [e2] at h0; exact nI_pos (by omega) h0), fun h0 => ?_⟩⟩) (fun hn => ⟨fun _ => cx_refuse L ?_, fun h => absurd rfl h⟩)⟩
  · obtain ⟨need, hn, e2⟩ := nI_of h0
    rw [lr1_8 L, c.wor.members]
    have em : nI (fb_ct (Wd S T) (cnt S)) = 0 ↔ mny S (Wd S T) = 0 := nI_small v ml
    rw [em]
    refine ⟨fun hle => ⟨lk68 L, fun hz => cx_refuse L ?_, fun hz => ?_⟩, fun hle => no2 ⟨k, hk, e⟩ (fun n h1 h2 => hle (by rw [h2]; exact nI_le (b := 8) h1 (by decide)))⟩
    · have n8 : need ≤ 8 := by rw [e2] at hle; exact (nI_leI (b := 8) hn (by decide)).mp hle
      exact refs k need _ hk n8 e e2 (QF.rf.why 6) _ (fun _ => ⟨w14 m 6, rfl⟩) (fun h => by omega)
    · have n8 : need ≤ 8 := by rw [e2] at hle; exact (nI_leI (b := 8) hn (by decide)).mp hle
      subst e
      refine sp_teach c hk (fun m3 q3 R => ⟨cT S + 1, ?_⟩)
      have key : ∀ dd j : Nat, j + dd = cT S → ∀ m4, Fr [74] m3 m4 → (∀ tt, tt < j → isCm S (chP S k) tt (gI m4 74 tt)) → ∀ z : Int32, z = nI j → wX9_passes_L55 t 1 x2 x3 (fun r m1 => wX12_passes t m1 75 (nI k) x2 x3 (fun r2 m2 => Fin m m2 r r2)) (fun m22 => wX9_passedWorlds t m22 1 x2 (fun r23 m24 => tK t (gR m24 1 8) = 4 ∧ wX9_lowest t m24 r23 (gI m24 (gR m24 1 8) 2) x3 (fun r26 m27 => wX9_accept t m27 1 r26 (fun r28 m29 => wX12_passes t m29 75 (nI k) x2 x3 (fun r2 m2 => Fin m m2 r28 r2))))) (dd + 1) z m4 := by
        intro dd
        induction dd with
        | zero =>
          intro j hj m4 f4 g z hz'
          have ej : j = cT S := by omega
          subst ej
          have q4 : QF m m4 := q3.of f4 (by decide)
          have c4 := c.q q4
          rw [hz', wX9_passes_L55, c4.x3, c4.cor.sm.things]
          refine ⟨lk1 L, ls_k L c.cor.sch, fun _ => ?_, fun hh => absurd (nI_le (Nat.le_refl _) (by omega)) hh⟩
          rw [e2]
          refine sp_passedWorlds c4 n8 g (fun m5 q5 => ?_)
          have c5 := c4.q q5
          have nl := fb_ct_le (fun w => Wd S T w && decide (need ≤ rcW S (chP S k) w)) (cnt S)
          rw [lr1_8 c5.cor.lay, c5.wor.members]
          have mle : fb_ct (Wd S T) (cnt S) ≤ cnt S := ml
          have mpos : 0 < fb_ct (Wd S T) (cnt S) := by unfold mny at hz; omega
          refine ⟨lk68 L, sp_lowest (by omega) (by omega) mpos (cx_accept L ?_)⟩
          rw [← e2]
          exact refs k need _ hk n8 rfl e2 ((q4.tr q5).why 0) _ (fun h => absurd h hz) (fun _ => ⟨w14 _ 0, rfl⟩)
        | succ dd ih =>
          intro j hj m4 f4 g z hz'
          have q4 : QF m m4 := q3.of f4 (by decide)
          have c4 := c.q q4
          have L4 := c4.cor.lay
          rw [hz', wX9_passes_L55, c4.x3, c4.cor.sm.things, lr1_2 L4, lr1_9 L4, lr1_11 L4, lk74 L, ll74 L, nI_cl (show j < 2 ^ 31 by omega)]
          refine ⟨lk1 L, ls_k L c.cor.sch, fun hh => absurd hh (nI_ge (by omega) (by omega)), fun _ => ⟨lk20 L, sp_commonest c4.cor (Or.inr (Or.inr (Or.inl rfl))) (R.fr f4 (by decide) (by decide)) (by omega) (fun z2 hz2 => ⟨rfl, vp_nI (by omega) (by decide), ih (j + 1) (by omega) _ (Fr.pI f4 (by decide)) (fun tt ht => ?_) _ (nI_1 j)⟩)⟩⟩
          rcases (show tt < j ∨ tt = j by omega) with q | q
          · rw [gII, if_neg (by omega)]; exact g tt q
          · subst q; rw [gII, if_pos ⟨rfl, rfl⟩]; exact hz2
      exact key (cT S) 0 (by omega) m3 Fr.rf (fun tt ht => absurd ht (by omega)) 0 rfl
  · have q1 : QF m (pI m 1 14 1) := QF.rf.why 1
    have d2 := (d.c q1).q (thr _)
    unfold wX12_passes
    refine ⟨lk75 L, rx_isChild d2 (fun k hk e => absurd e (hn k hk)) (fun h => ⟨fun _ => fin_refused L q1 (w14 m 1) (thr _) (by decide), fun h => absurd rfl h⟩)⟩
end
