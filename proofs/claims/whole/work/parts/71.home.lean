/-! Queries: home, bestHome -/
def wAns (S : Sc) (P : Nat → Bool) (tt a : Nat) : Nat → Bool := fun w => P w && (ans S w tt == a)
/-- how many things one true word settles -/
def hm (S : Sc) (P : Nat → Bool) (tt a : Nat) : Nat := fb_ct (sureB S (wAns S P tt a)) (cT S)
def isHm (S : Sc) (P : Nat → Bool) (tt n : Nat) : Prop := (∃ a, a < cA S tt ∧ 0 < oft S P tt a ∧ hm S P tt a = n) ∧ ∀ a, a < cA S tt → 0 < oft S P tt a → n ≤ hm S P tt a
section
variable {t : zT} {m m' m1 m2 : zM} {s u r : Nat} {S : Sc} {T : Ts} {P : Nat → Bool} {x x2 x3 : Int32}
theorem isHm_one {tt a b : Nat} (h1 : isHm S P tt a) (h2 : isHm S P tt b) : a = b := by
  obtain ⟨⟨p, p1, p2, p3⟩, f⟩ := h1
  obtain ⟨⟨q, q1, q2, q3⟩, g⟩ := h2
  have := f q q1 q2
  have := g p p1 p2
  omega
theorem hm_le {tt a : Nat} : hm S P tt a ≤ cT S := fb_ct_le _ _
theorem isHm_le {tt n : Nat} (h : isHm S P tt n) : n ≤ cT S := by
  obtain ⟨⟨p, _, _, p3⟩, _⟩ := h
  rw [← p3]; exact hm_le
theorem mny_wAns {tt a : Nat} : mny S (wAns S P tt a) = oft S P tt a := rfl
theorem sp_leastSure (c : CO t m s S T) {tt : Nat} (ht : tt < cT S) (hp : 0 < mny S (Wd S T)) {Q : Int32 → zM → Prop} (hQ : ∀ n m', isHm S (Wd S T) tt n → QF m m' → Q (nI n) m') : wX9_leastSure t m 1 (nI tt) Q := by
  have L := c.cor.lay
  have v := c.cor.vs
  have t8 := v.t8
  have hc := v.cnt
  have hs := c.cor.sch
  have a4 := v.a2 tt ht
  unfold wX9_leastSure
  rw [c.x3, c.cor.sm.things]
  refine ⟨lk1 L, ls_k L hs, fun x3 h3 => ⟨cA S tt + 1, ?_⟩⟩
  have key : ∀ dd k : Nat, k + dd = cA S tt → ∀ m1, QF m m1 → ∀ n, n ≤ cT S → (∀ a, a < k → 0 < oft S (Wd S T) tt a → n ≤ hm S (Wd S T) tt a) → ((∃ a, a < k ∧ 0 < oft S (Wd S T) tt a ∧ hm S (Wd S T) tt a = n) ∨ (n = cT S ∧ ∀ a, a < k → 0 < oft S (Wd S T) tt a → hm S (Wd S T) tt a = n)) → ∀ z2 z3 : Int32, z2 = nI n → z3 = nI k → wX9_leastSure_L10 t 1 (nI tt) Q (fun v23 m24 => Q v23 m24) (dd + 1) z2 z3 m1 := by
    intro dd
    induction dd with
    | zero =>
      intro k hk m1 q1 n hn g1 g2 z2 z3 h2 h3
      have e : k = cA S tt := by omega
      subst e
      have c1 := c.q q1
      have L1 := c1.cor.lay
      rw [h2, h3, wX9_leastSure_L10, c1.x3]
      simp only [ls_k L1 hs, ls_r1 L1 hs, ls_k1 L1 hs, ls_l1 L1 hs, ls_r3 L1 hs, ls_k3 L1 hs, ls_l3 L1 hs, ls_r6 L1 hs, ls_k6 L1 hs, ls_l6 L1 hs, ls_r7 L1 hs, ls_k7 L1 hs, ls_l7 L1 hs, ls_r8 L1 hs, ls_k8 L1 hs, ls_l8 L1 hs, ls_r9 L1 hs, ls_k9 L1 hs, ls_l9 L1 hs, ls_r11 L1 hs, ls_k11 L1 hs, ls_l11 L1 hs, ls_r15 L1 hs, ls_k15 L1 hs, ls_l15 L1 hs, ls_r16 L1 hs, ls_k16 L1 hs, ls_l16 L1 hs, ls_r17 L1 hs, ls_k17 L1 hs, ls_l17 L1 hs, ls_r19 L1 hs, ls_k19 L1 hs, ls_l19 L1 hs, nI_cl (show tt < 2 ^ 31 by omega), c1.cor.sm.answers tt ht, true_and]
      refine ⟨lk1 L, vp_nI (by omega) (by decide), fun _ => hQ n m1 ⟨?_, g1⟩ q1, fun hh => absurd (nI_le (Nat.le_refl _) (by omega)) hh⟩
      rcases g2 with g2 | ⟨g2, g3⟩
      · exact g2
      · obtain ⟨a, a1, a2⟩ := oft_ex v ht hp
        exact ⟨a, a1, a2, g3 a a1 a2⟩
    | succ dd ih =>
      intro k hk m1 q1 n hn g1 g2 z2 z3 h2 h3
      have c1 := c.q q1
      have L1 := c1.cor.lay
      rw [h2, h3, wX9_leastSure_L10, c1.x3]
      simp only [ls_k L1 hs, ls_r1 L1 hs, ls_k1 L1 hs, ls_l1 L1 hs, ls_r3 L1 hs, ls_k3 L1 hs, ls_l3 L1 hs, ls_r6 L1 hs, ls_k6 L1 hs, ls_l6 L1 hs, ls_r7 L1 hs, ls_k7 L1 hs, ls_l7 L1 hs, ls_r8 L1 hs, ls_k8 L1 hs, ls_l8 L1 hs, ls_r9 L1 hs, ls_k9 L1 hs, ls_l9 L1 hs, ls_r11 L1 hs, ls_k11 L1 hs, ls_l11 L1 hs, ls_r15 L1 hs, ls_k15 L1 hs, ls_l15 L1 hs, ls_r16 L1 hs, ls_k16 L1 hs, ls_l16 L1 hs, ls_r17 L1 hs, ls_k17 L1 hs, ls_l17 L1 hs, ls_r19 L1 hs, ls_k19 L1 hs, ls_l19 L1 hs, nI_cl (show tt < 2 ^ 31 by omega), c1.cor.sm.answers tt ht, lr1_9 L1, lr1_8 L1, true_and]
      refine ⟨lk1 L, vp_nI (by omega) (by decide), fun hh => absurd hh (nI_ge (by omega) (by omega)), fun _ => ⟨lk70 L, sp_copy L1 (Or.inr (Or.inr (Or.inl rfl))) (Or.inr (Or.inl rfl)) (by decide) v c1.wor (fun m2 f2 R2 => ?_)⟩⟩
      have q2 : QF m m2 := q1.of f2 (by decide)
      have c2 := c.q q2
      rw [lr1_2 c2.cor.lay, lr1_9 c2.cor.lay]
      refine ⟨lk20 L, sp_keepOnly c2.cor (Or.inr (Or.inr (Or.inl rfl))) R2 ht (by omega) (fun m3 f3 R3 => ?_)⟩
      have q3 : QF m m3 := q2.of f3 (by decide)
      have c3 := c.q q3
      have R3' : RowM m3 70 S (wAns S (Wd S T) tt k) := R3
      have ol : oft S (Wd S T) tt k ≤ cnt S := fb_ct_le _ _
      have em : gI m3 70 2 = nI (oft S (Wd S T) tt k) := R3'.members
      rw [lr1_9 c3.cor.lay, em, lr1_2 c3.cor.lay]
      unfold wX9_leastSure_J76
      have hl := hm_le (S := S) (P := Wd S T) (tt := tt) (a := k)
      refine ⟨lk70 L, fun h0 => ih (k + 1) (by omega) m3 q3 n hn (fun a ha ho => ?_) ?_ _ _ rfl (nI_1 k), fun h0 => ⟨lk20 L, sp_sureIn c3.cor (Or.inr (Or.inr (Or.inl rfl))) R3' (sp_bc32 (Nat.lt_of_lt_of_le (bts_lt _ _) (Nat.pow_le_pow_right (by decide) (by omega))) ?_)⟩⟩
      · have z : oft S (Wd S T) tt k = 0 := by
          rcases Nat.eq_zero_or_pos (oft S (Wd S T) tt k) with q | q
          · exact q
          · exact absurd h0 (nI_nle q (by omega))
        rcases (show a < k ∨ a = k by omega) with q | q
        · exact g1 a q ho
        · subst q; omega
      · have z : oft S (Wd S T) tt k = 0 := by
          rcases Nat.eq_zero_or_pos (oft S (Wd S T) tt k) with q | q
          · exact q
          · exact absurd h0 (nI_nle q (by omega))
        rcases g2 with ⟨a, a1, a2⟩ | ⟨g2, g3⟩
        · exact Or.inl ⟨a, by omega, a2⟩
        · refine Or.inr ⟨g2, fun a ha ho => ?_⟩
          rcases (show a < k ∨ a = k by omega) with q | q
          · exact g3 a q ho
          · subst q; omega
      · rw [bts_ct (by omega)]
        have pos : 0 < oft S (Wd S T) tt k := by
          rcases Nat.eq_zero_or_pos (oft S (Wd S T) tt k) with q | q
          · rw [q] at h0; exact absurd (by decide) h0
          · exact q
        intro x22 h22
        have e : x22 = nI (if hm S (Wd S T) tt k < n then hm S (Wd S T) tt k else n) := by
          rw [h22]
          show (if nI (hm S (Wd S T) tt k) < nI n then nI (hm S (Wd S T) tt k) else nI n) = _
          by_cases q : hm S (Wd S T) tt k < n
          · rw [if_pos q, if_pos (nI_lt q (by omega))]
          · rw [if_neg q, if_neg (nI_nlt (by omega) (by omega))]
        refine ih (k + 1) (by omega) m3 q3 (if hm S (Wd S T) tt k < n then hm S (Wd S T) tt k else n) (by split <;> omega) (fun a ha ho => ?_) ?_ _ _ e (nI_1 k)
        · rcases (show a < k ∨ a = k by omega) with q | q
          · have := g1 a q ho; split <;> omega
          · subst q; split <;> omega
        · by_cases q : hm S (Wd S T) tt k < n
          · rw [if_pos q]; exact Or.inl ⟨k, by omega, pos, rfl⟩
          · rw [if_neg q]
            rcases g2 with ⟨a, a1, a2⟩ | ⟨g2, g3⟩
            · exact Or.inl ⟨a, by omega, a2⟩
            · exact Or.inl ⟨k, by omega, pos, by omega⟩
  exact key (cA S tt) 0 (by omega) m QF.rf (cT S) (Nat.le_refl _) (fun a ha => absurd ha (by omega)) (Or.inr ⟨rfl, fun a ha => absurd ha (by omega)⟩) x3 0 h3 rfl
/-- the facts with one word more -/
theorem askP_word {Fc : Nat → Nat} {tt a : Nat} (ht : tt < cT S) (h : Fc tt = 0 ∨ Fc tt = a + 1) {set lw : Nat} : askP S set lw true (fun k => if k = tt then a + 1 else Fc k) = wAns S (askP S set lw true Fc) tt a := by
  funext w
  unfold wAns
  rw [askP_eq, askP_eq, Bool.not_true, Bool.false_or, Bool.false_or, Bool.and_assoc]
  congr 1
  rw [← bt_iff, Bool.and_eq_true, FacB_iff, FacB_iff, beq_iff_eq]
  constructor
  · intro g
    have ga := g tt ht
    rw [if_pos rfl] at ga
    refine ⟨fun k hk => ?_, by omega⟩
    by_cases z : k = tt
    · subst z; omega
    · have := g k hk
      rw [if_neg z] at this; exact this
  · rintro ⟨g, e⟩ k hk
    by_cases z : k = tt
    · subst z; rw [if_pos rfl]; omega
    · rw [if_neg z]; exact g k hk
theorem oft_fact {Fc : Nat → Nat} {tt a set lw : Nat} (ht : tt < cT S) (h : 0 < oft S (askP S set lw true Fc) tt a) : Fc tt = 0 ∨ Fc tt = a + 1 := by
  obtain ⟨w, hw, hp⟩ := fb_ct_pos.mp h
  rw [Bool.and_eq_true, askP_eq, Bool.not_true, Bool.false_or, Bool.and_eq_true, beq_iff_eq, FacB_iff] at hp
  have := hp.1.2 tt ht
  rw [hp.2] at this
  exact this
/-- what a word at home leaves behind -/
def HmF (tt : Nat) (m m1 : zM) : Prop := Fr [75, 78, 79, 82] m m1 ∧ (∀ k, (k ≠ tt → gI m1 82 k = gI m 82 k) ∧ gJ m1 82 k = gJ m 82 k) ∧ ∀ j, j ≠ 19 → gI m1 75 j = gI m 75 j
theorem HmF.back {tt : Nat} (h : HmF tt m m1) : QR m (pI m1 82 tt (gI m 82 tt)) := by
  obtain ⟨f, g, g2⟩ := h
  refine ⟨⟨fun a ha k => ?_, fun a k => f.2 a k⟩, fun j _ _ _ d => ?_⟩
  · by_cases z : a = 82
    · subst z
      refine ⟨?_, ?_⟩
      · by_cases z2 : k = tt
        · subst z2; rw [gII, if_pos ⟨rfl, rfl⟩]
        · rw [gII, if_neg (fun q => z2 q.2)]; exact (g k).1 z2
      · exact (g k).2
    · have : a ∉ [75, 78, 79, 82] := by
        simp only [rT, List.mem_cons, List.not_mem_nil, or_false] at ha ⊢
        omega
      refine ⟨?_, f.J this k⟩
      rw [gII, if_neg (fun q => z q.1)]; exact f.I this k
  · rw [gII, if_neg (fun q => absurd q.1 (by decide))]; exact g2 j d
theorem rsp_homeNow (d : RO t m u S T) {tt : Nat} (ht : tt < cT S) {Q : Int32 → zM → Prop} (h0 : mny S (Wd S T) = 0 → ∀ m', QR m m' → Q (-1) m') (h1 : 0 < mny S (Wd S T) → ∀ n m', isHm S (Wd S T) tt n → QR m m' → Q (nI n) m') : wX12_homeNow t m 75 (nI tt) Q := by
  have L := d.rc.lay
  have v := d.rc.vs
  have t8 := v.t8
  have hc := v.cnt
  have n16 := v.n16
  have a4 := v.a2 tt ht
  have u85 := d.rc.rl.u85
  have FL := Fcf_le v (hd := thd T 3) (fb := tfb T 3) ht
  have eF := d.tm.fact tt (by omega)
  unfold wX12_homeNow
  rw [lr75_26 L, lk82 L, ll82 L, nI_cl (show tt < 2 ^ 31 by omega)]
  refine ⟨lk75 L, rfl, vp_nI (by omega) (by decide), fun x4 h4 => ⟨cA S tt + 1, ?_⟩⟩
  have oT : ∀ a, 85 ≤ a → a ∉ [75, 78, 79, 82] := by
    intro a ha
    simp only [List.mem_cons, List.not_mem_nil, or_false]
    omega
  have key : ∀ dd k : Nat, k + dd = cA S tt → ∀ m1, HmF tt m m1 → ∀ z2 z3 : Int32, ((z2 = -1 ∧ ∀ a, a < k → oft S (Wd S T) tt a = 0) ∨ ∃ n, z2 = nI n ∧ n ≤ cT S ∧ (∃ a, a < k ∧ 0 < oft S (Wd S T) tt a ∧ hm S (Wd S T) tt a = n) ∧ ∀ a, a < k → 0 < oft S (Wd S T) tt a → n ≤ hm S (Wd S T) tt a) → z3 = nI k → wX12_homeNow_L12 t 75 (nI tt) x4 Q (fun v29 m30 => tK t (gR m30 75 26) = 14 ∧ vp_in (nI tt) (tL t (gR m30 75 26)) ∧ Q v29 (pI m30 (gR m30 75 26) tt x4)) (dd + 1) z2 z3 m1 := by
    intro dd
    induction dd with
    | zero =>
      intro k hk m1 hf z2 z3 g h3
      have e : k = cA S tt := by omega
      subst e
      have c1 := d.rc.fr hf.1 oT (by decide)
      have RLc := c1.rl
      have L1 := c1.lay
      rw [h3, wX12_homeNow_L12]
      simp only [c1.told, RLc.k, RLc.r1, RLc.k1, RLc.l1, RLc.r2, RLc.k2, RLc.l2, RLc.r3, RLc.k3, RLc.l3, RLc.r4, RLc.k4, RLc.l4, RLc.r5, RLc.k5, RLc.l5, RLc.r6, RLc.k6, RLc.l6, RLc.r7, RLc.k7, RLc.l7, RLc.r8, RLc.k8, RLc.l8, RLc.r9, RLc.k9, RLc.l9, RLc.r10, RLc.k10, RLc.l10, RLc.r11, RLc.k11, RLc.l11, RLc.r12, RLc.k12, RLc.l12, RLc.r13, RLc.k13, RLc.l13, RLc.r14, RLc.k14, RLc.l14, nI_cl (show tt < 2 ^ 31 by omega), c1.sm.answers tt ht, true_and]
      refine ⟨lk75 L, vp_nI (by omega) (by decide), fun _ => ?_, fun hh => absurd (nI_le (Nat.le_refl _) (by omega)) hh⟩
      rw [lr75_26 L1, lk82 L, ll82 L, h4]
      refine ⟨rfl, vp_nI (by omega) (by decide), ?_⟩
      rcases g with ⟨g1, g2⟩ | ⟨n, g1, gn, g2, g3⟩
      · rw [g1]
        refine h0 ?_ _ hf.back
        rcases Nat.eq_zero_or_pos (mny S (Wd S T)) with q | q
        · exact q
        · obtain ⟨a, a1, a2⟩ := oft_ex v ht q
          have := g2 a a1; omega
      · rw [g1]
        refine h1 ?_ n _ ⟨g2, g3⟩ hf.back
        obtain ⟨a, a1, a2, _⟩ := g2
        have := oft_le (S := S) (P := Wd S T) (tt := tt) (a := a)
        omega
    | succ dd ih =>
      intro k hk m1 hf z2 z3 g h3
      have c1 := d.rc.fr hf.1 oT (by decide)
      have y1 := d.sy.fr hf.1 (fun a ha => oT a (by omega))
      have RLc := c1.rl
      have L1 := c1.lay
      have hk4 : k < cA S tt := by omega
      rw [h3, wX12_homeNow_L12]
      simp only [c1.told, RLc.k, RLc.r1, RLc.k1, RLc.l1, RLc.r2, RLc.k2, RLc.l2, RLc.r3, RLc.k3, RLc.l3, RLc.r4, RLc.k4, RLc.l4, RLc.r5, RLc.k5, RLc.l5, RLc.r6, RLc.k6, RLc.l6, RLc.r7, RLc.k7, RLc.l7, RLc.r8, RLc.k8, RLc.l8, RLc.r9, RLc.k9, RLc.l9, RLc.r10, RLc.k10, RLc.l10, RLc.r11, RLc.k11, RLc.l11, RLc.r12, RLc.k12, RLc.l12, RLc.r13, RLc.k13, RLc.l13, RLc.r14, RLc.k14, RLc.l14, nI_cl (show tt < 2 ^ 31 by omega), c1.sm.answers tt ht, true_and]
      -- no world with this answer
      have skip : oft S (Wd S T) tt k = 0 → ∀ m2, HmF tt m m2 → wX12_homeNow_L12 t 75 (nI tt) x4 Q (fun v29 m30 => tK t (gR m30 75 26) = 14 ∧ vp_in (nI tt) (tL t (gR m30 75 26)) ∧ Q v29 (pI m30 (gR m30 75 26) tt x4)) (dd + 1) z2 (nI k + 1) m2 := by
        intro hz m2 hf2
        refine ih (k + 1) (by omega) m2 hf2 _ _ ?_ (nI_1 k)
        rcases g with ⟨g1, g2⟩ | ⟨n, g1, gn, ⟨a, a1, a2⟩, g3⟩
        · refine Or.inl ⟨g1, fun a ha => ?_⟩
          rcases (show a < k ∨ a = k by omega) with q | q
          · exact g2 a q
          · subst q; exact hz
        · refine Or.inr ⟨n, g1, gn, ⟨a, by omega, a2⟩, fun a ha ho => ?_⟩
          rcases (show a < k ∨ a = k by omega) with q | q
          · exact g3 a q ho
          · subst q; omega
      -- the word is tried
      have main : (Fcf S (thd T 3) (tfb T 3) tt = 0 ∨ Fcf S (thd T 3) (tfb T 3) tt = k + 1) → wX12_homeNow_J41 t m1 75 (nI tt) z2 x4 (nI k) Q (wX12_homeNow_L12 t 75 (nI tt) x4 Q (fun v29 m30 => tK t (gR m30 75 26) = 14 ∧ vp_in (nI tt) (tL t (gR m30 75 26)) ∧ Q v29 (pI m30 (gR m30 75 26) tt x4)) (dd + 1)) := by
        intro hF
        have fp : HmF tt m (pI m1 82 tt (nI k)) := ⟨Fr.pI hf.1 (by decide), fun j => ⟨fun hj => by rw [gII, if_neg (fun q => hj q.2)]; exact (hf.2.1 j).1 hj, (hf.2.1 j).2⟩, fun j hj => by rw [gII, if_neg (fun q => absurd q.1 (by decide))]; exact hf.2.2 j hj⟩
        have c2 := d.rc.fr fp.1 oT (by decide)
        have y2 := d.sy.fr fp.1 (fun a ha => oT a (by omega))
        unfold wX12_homeNow_J41 wX12_asksWorlds wX11_allSayings
        rw [lr75_26 L1, lk82 L, ll82 L, nI_cl (show tt < 2 ^ 31 by omega)]
        simp only [c2.told, c2.sm.sayings, all_bits (show cN S < 31 by omega), c2.sm.laws]
        refine ⟨lk75 L, trivial, vp_nI (by omega) (by decide), lk75 L, c2.rl.k, c2.rl.k, c2.rl.k, rsp_asks (fa := true) (Fc := fun j => if j = tt then k + 1 else Fcf S (thd T 3) (tfb T 3) j) c2 y2 (fun i hi => allS_tb hi) (by omega) (allS_lt v) (fun h => h) (fun _ j hj => ?_) (fun m3 f3 g3 A => ?_)⟩
        · by_cases z : j = tt
          · subst z
            rw [gII, if_pos ⟨rfl, rfl⟩, if_pos rfl]
            exact ⟨by simp [fcI], by omega⟩
          · rw [gII, if_neg (fun q => z q.2), if_neg z, (hf.2.1 j).1 z]
            exact ⟨d.tm.fact j (by omega), Fcf_le v hj⟩
        · rw [askP_word ht hF] at A
          have A' : AskM m3 S (wAns S (Wd S T) tt k) := A
          have hf3 : HmF tt m m3 := ⟨fp.1.tr (f3.mono (by decide)), fun j => ⟨fun hj => (f3.I (by decide) j).trans ((fp.2.1 j).1 hj), (f3.J (by decide) j).trans (fp.2.1 j).2⟩, fun j hj => (g3 j hj).trans (fp.2.2 j hj)⟩
          have c3 := d.rc.fr hf3.1 oT (by decide)
          have ol : oft S (Wd S T) tt k ≤ cnt S := fb_ct_le _ _
          have hl := hm_le (S := S) (P := Wd S T) (tt := tt) (a := k)
          have bl : bts (sureB S (wAns S (Wd S T) tt k)) (cT S) < 2 ^ 31 := Nat.lt_of_lt_of_le (bts_lt _ _) (Nat.pow_le_pow_right (by decide) (by omega))
          rw [A'.many, mny_wAns]
          unfold wX12_homeNow_J84 wX12_homeNow_J76
          refine ⟨fun hz => skip ?_ m3 hf3, fun hz => ?_⟩
          · rcases Nat.eq_zero_or_pos (oft S (Wd S T) tt k) with q | q
            · exact q
            · exact absurd hz (nI_nle q (by omega))
          · have pos : 0 < oft S (Wd S T) tt k := by
              rcases Nat.eq_zero_or_pos (oft S (Wd S T) tt k) with q | q
              · rw [q] at hz; exact absurd (by decide) hz
              · exact q
            -- it is taken
            have take : (∀ a, a < k → 0 < oft S (Wd S T) tt a → hm S (Wd S T) tt k ≤ hm S (Wd S T) tt a) → tK t 75 = 12 ∧ wX12_oneBits t m3 75 (fun r19 m20 => wX12_bits t m20 r19 (fun r21 m22 => wX12_homeNow_L12 t 75 (nI tt) x4 Q (fun v29 m30 => tK t (gR m30 75 26) = 14 ∧ vp_in (nI tt) (tL t (gR m30 75 26)) ∧ Q v29 (pI m30 (gR m30 75 26) tt x4)) (dd + 1) r21 (nI k + 1) m22)) := by
              intro hall
              refine ⟨lk75 L, rsp_oneBits c3 A' (rsp_bits bl ?_)⟩
              rw [bts_ct (by omega)]
              refine ih (k + 1) (by omega) m3 hf3 _ _ (Or.inr ⟨hm S (Wd S T) tt k, rfl, hl, ⟨k, by omega, pos, rfl⟩, fun a ha ho => ?_⟩) (nI_1 k)
              rcases (show a < k ∨ a = k by omega) with q | q
              · exact hall a q ho
              · subst q; exact Nat.le_refl _
            refine ⟨fun hm1 => take (fun a ha ho => ?_), fun hm1 => rsp_oneBits c3 A' (rsp_bits bl ?_)⟩
            · rcases g with ⟨_, g2⟩ | ⟨n, g1, gn, _⟩
              · have := g2 a ha; omega
              · rw [g1] at hm1
                exact absurd (show nI n < 0 by rw [hm1]; decide) (nI_pos (by omega))
            · rw [bts_ct (by omega)]
              rcases g with ⟨g1, _⟩ | ⟨n, g1, gn, ⟨a, a1, a2⟩, g3⟩
              · exact absurd g1 hm1
              · rw [g1]
                have el : nI n ≤ nI (fb_ct (sureB S (wAns S (Wd S T) tt k)) (cT S)) ↔ n ≤ hm S (Wd S T) tt k := nI_leI (by omega) (by unfold hm at hl; omega)
                rw [el]
                refine ⟨fun hle => ih (k + 1) (by omega) m3 hf3 _ _ (Or.inr ⟨n, rfl, gn, ⟨a, by omega, a2⟩, fun a' ha' ho' => ?_⟩) (nI_1 k), fun hle => take (fun a' ha' ho' => by have := g3 a' ha' ho'; omega)⟩
                rcases (show a' < k ∨ a' = k by omega) with q | q
                · exact g3 a' q ho'
                · subst q; exact hle
      have n0 : ¬ (Fcf S (thd T 3) (tfb T 3) tt = 0 ∨ Fcf S (thd T 3) (tfb T 3) tt = k + 1) → oft S (Wd S T) tt k = 0 := by
        intro hn
        rcases Nat.eq_zero_or_pos (oft S (Wd S T) tt k) with q | q
        · exact q
        · exact absurd (oft_fact ht q) hn
      refine ⟨lk75 L, vp_nI (by omega) (by decide), fun hh => absurd hh (nI_ge (by omega) (by omega)), fun _ => ⟨fun hx => main (Or.inl ?_), fun hx => ⟨fun hx2 => main (Or.inr ?_), fun hx2 => ?_⟩⟩⟩
      · rw [h4, eF] at hx
        unfold fcI at hx
        by_cases z : Fcf S (thd T 3) (tfb T 3) tt = 0
        · exact z
        · rw [if_neg z] at hx
          exact absurd (show nI (Fcf S (thd T 3) (tfb T 3) tt - 1) < 0 by rw [hx]; decide) (nI_pos (by omega))
      · rw [h4, eF] at hx hx2
        unfold fcI at hx hx2
        by_cases z : Fcf S (thd T 3) (tfb T 3) tt = 0
        · rw [if_pos z] at hx; exact absurd rfl hx
        · rw [if_neg z, nI_eq (by omega) (by omega)] at hx2
          omega
      · unfold wX12_homeNow_J84
        refine skip (n0 ?_) m1 hf
        rw [h4, eF] at hx hx2
        unfold fcI at hx hx2
        by_cases z : Fcf S (thd T 3) (tfb T 3) tt = 0
        · rw [if_pos z] at hx; exact absurd rfl hx
        · rw [if_neg z, nI_eq (by omega) (by omega)] at hx2
          omega
  exact key (cA S tt) 0 (by omega) m ⟨Fr.rf, fun k => ⟨fun _ => rfl, rfl⟩, fun _ _ => rfl⟩ (-1) 0 (Or.inl ⟨rfl, fun a ha => absurd ha (by omega)⟩) rfl
theorem call_home (c : CO t m s S T) (d : RO t m u S T) : wX9_home t m 1 x (fun r m1 => wX12_home t m1 75 x (fun r2 m2 => Fin m m2 r r2)) := by
  have L := c.cor.lay
  have v := c.cor.vs
  have t8 := v.t8
  unfold wX9_home
  refine ⟨lk1 L, cx_isThing c (fun k hk e => cx_without c (fun h => absurd h (by decide)) (fun _ hz => ⟨fun h => absurd h (by decide), fun _ => cx_refuse L ?_⟩) (fun _ hp => ⟨fun _ => ?_, fun h => absurd rfl h⟩)) (fun hn => cx_without c (fun _ => ⟨fun h => absurd h (by decide), fun _ => cx_refuse L ?_⟩) (fun h => absurd rfl h) (fun h => absurd rfl h))⟩
  · subst e
    have q1 : QF m (pI m 1 14 6) := QF.rf.why 6
    have d2 := (d.c q1).q (thr _)
    unfold wX12_home
    exact ⟨lk75 L, rx_isThing d2 (fun k' _ _ => ⟨fun h => absurd h (by decide), fun _ => rsp_homeNow d2 hk (fun _ m' q => ⟨fun _ => fin_refused L q1 (w14 m 6) ((thr _).tr q) (by decide), fun h => absurd rfl h⟩) (fun h => absurd hz (by omega))⟩) (fun h => absurd rfl (h k hk))⟩
  · subst e
    refine sp_leastSure c hk hp (fun n m3 hn q3 => cx_accept L ?_)
    have q1 : QF m (pI m3 1 14 0) := q3.why 0
    have d2 := (d.c q1).q (thr _)
    unfold wX12_home
    refine ⟨lk75 L, rx_isThing d2 (fun k' _ _ => ⟨fun h => absurd h (by decide), fun _ => rsp_homeNow d2 hk (fun h => absurd h (by omega)) (fun _ n2 m' hn2 q => ?_)⟩) (fun h => absurd rfl (h k hk))⟩
    have en := isHm_one hn hn2
    have nl := isHm_le hn2
    refine ⟨fun h => absurd (show nI n2 < 0 by rw [h]; decide) (nI_pos (by omega)), fun _ => fin_good L (by rw [en]) q1 (w14 _ 0) ((thr _).tr q)⟩
  · have q1 : QF m (pI m 1 14 1) := QF.rf.why 1
    have d2 := (d.c q1).q (thr _)
    unfold wX12_home
    exact ⟨lk75 L, rx_isThing d2 (fun k hk e => absurd e (hn k hk)) (fun h => ⟨fun _ => fin_refused L q1 (w14 m 1) (thr _) (by decide), fun h => absurd rfl h⟩)⟩
/-- the best so far -/
def isBh (S : Sc) (P : Nat → Bool) (k b n : Nat) : Prop := b < k ∧ isHm S P b n ∧ (∀ j, j < k → ∀ n', isHm S P j n' → n' ≤ n) ∧ ∀ j, j < b → ∀ n', isHm S P j n' → n' < n
theorem isBh_one {k b n b2 n2 : Nat} (h1 : isBh S P k b n) (h2 : isBh S P k b2 n2) : b = b2 := by
  obtain ⟨a1, a2, a3, a4⟩ := h1
  obtain ⟨c1, c2, c3, c4⟩ := h2
  rcases Nat.lt_trichotomy b b2 with q | q | q
  · have := c4 b q n a2; have := a3 b2 c1 n2 c2; omega
  · exact q
  · have := a4 b2 q n2 c2; have := c3 b a1 n a2; omega
theorem bh_up {k b n n2 : Nat} (h : isBh S P k b n) (hk : isHm S P k n2) : (n2 ≤ n → isBh S P (k + 1) b n) ∧ (n < n2 → isBh S P (k + 1) k n2) := by
  obtain ⟨a1, a2, a3, a4⟩ := h
  refine ⟨fun hle => ⟨by omega, a2, fun j hj n' hn' => ?_, a4⟩, fun hlt => ⟨by omega, hk, fun j hj n' hn' => ?_, fun j hj n' hn' => ?_⟩⟩
  · rcases (show j < k ∨ j = k by omega) with q | q
    · exact a3 j q n' hn'
    · subst q; rw [isHm_one hn' hk]; exact hle
  · rcases (show j < k ∨ j = k by omega) with q | q
    · have := a3 j q n' hn'; omega
    · subst q; rw [isHm_one hn' hk]; exact Nat.le_refl _
  · have := a3 j hj n' hn'; omega
theorem bh_first {n : Nat} (h : isHm S P 0 n) : isBh S P 1 0 n := ⟨by omega, h, fun j hj n' hn' => by
  rw [show j = 0 by omega] at hn'
  rw [isHm_one hn' h]; exact Nat.le_refl _, fun j hj => absurd hj (by omega)⟩
theorem call_bestHome (c : CO t m s S T) (d : RO t m u S T) : wX9_bestHome t m 1 (fun r m1 => wX12_bestHome t m1 75 (fun r2 m2 => Fin m m2 r r2)) := by
  have L := c.cor.lay
  have v := c.cor.vs
  have t8 := v.t8
  have t1 := v.t1
  have hs := c.cor.sch
  -- the reference
  have refs0 : ∀ m1, QF m m1 → mny S (Wd S T) = 0 → ∀ (dd k : Nat) m3 (x0 x1 : Int32), k + dd = cT S → QR m1 m3 → x0 = nI k → gI m1 1 14 = 6 → wX12_bestHome_L24 t 75 (fun r2 m2 => Fin m m2 (-1) r2) (fun v11 m12 => (v11 = -1 → wX12_refused t m12 75 6 (fun r16 m17 => Fin m m17 (-1) r16)) ∧ (¬ v11 = -1 → wX12_good t m12 75 v11 (fun r14 m15 => Fin m m15 (-1) r14))) (dd + 1) (-1) (-1) x0 m3 := by
    intro m1 q1 hz dd
    induction dd with
    | zero =>
      intro k m3 x0 x1 hk q3 hx hw
      have e : k = cT S := by omega
      subst e
      have d3 := (d.c q1).q q3
      rw [hx, wX12_bestHome_L24, d3.rc.told, d3.rc.sm.things]
      exact ⟨lk75 L, d3.rc.rl.k, fun _ => ⟨fun _ => fin_refused L q1 hw q3 (by decide), fun h => absurd rfl h⟩, fun hh => absurd (nI_le (Nat.le_refl _) (by omega)) hh⟩
    | succ dd ih =>
      intro k m3 x0 x1 hk q3 hx hw
      have d3 := (d.c q1).q q3
      rw [hx, wX12_bestHome_L24, d3.rc.told, d3.rc.sm.things]
      unfold wX12_bestHome_J56
      exact ⟨lk75 L, d3.rc.rl.k, fun hh => absurd hh (nI_ge (by omega) (by omega)), fun _ => rsp_homeNow d3 (by omega) (fun _ m' q => ⟨fun h => absurd h (by decide), fun _ => ih (k + 1) m' _ 0 (by omega) (q3.tr q) (nI_1 k) hw⟩) (fun h => absurd hz (by omega))⟩
  have refs1 : ∀ m1, QF m m1 → 0 < mny S (Wd S T) → gI m1 1 14 = 0 → ∀ b n, isBh S (Wd S T) (cT S) b n → ∀ (dd k : Nat) m3 (x0 x1 x2 : Int32), k + dd = cT S → QR m1 m3 → x0 = nI k → ((k = 0 ∧ x1 = -1 ∧ x2 = -1) ∨ ∃ b' n', isBh S (Wd S T) k b' n' ∧ x1 = nI b' ∧ x2 = nI n') → wX12_bestHome_L24 t 75 (fun r2 m2 => Fin m m2 (nI b) r2) (fun v11 m12 => (v11 = -1 → wX12_refused t m12 75 6 (fun r16 m17 => Fin m m17 (nI b) r16)) ∧ (¬ v11 = -1 → wX12_good t m12 75 v11 (fun r14 m15 => Fin m m15 (nI b) r14))) (dd + 1) x1 x2 x0 m3 := by
    intro m1 q1 hp hw b n hb dd
    induction dd with
    | zero =>
      intro k m3 x0 x1 x2 hk q3 hx g
      have e : k = cT S := by omega
      subst e
      have d3 := (d.c q1).q q3
      rw [hx, wX12_bestHome_L24, d3.rc.told, d3.rc.sm.things]
      refine ⟨lk75 L, d3.rc.rl.k, fun _ => ?_, fun hh => absurd (nI_le (Nat.le_refl _) (by omega)) hh⟩
      rcases g with ⟨g1, _⟩ | ⟨b', n', g1, g2, g3⟩
      · omega
      · rw [g2, isBh_one hb g1]
        have := g1.1
        exact ⟨fun h => absurd (show nI b' < 0 by rw [h]; decide) (nI_pos (by omega)), fun _ => fin_good L rfl q1 hw q3⟩
    | succ dd ih =>
      intro k m3 x0 x1 x2 hk q3 hx g
      have d3 := (d.c q1).q q3
      rw [hx, wX12_bestHome_L24, d3.rc.told, d3.rc.sm.things]
      unfold wX12_bestHome_J56
      refine ⟨lk75 L, d3.rc.rl.k, fun hh => absurd hh (nI_ge (by omega) (by omega)), fun _ => rsp_homeNow d3 (by omega) (fun h => absurd h (by omega)) (fun _ n2 m' hn2 q => ?_)⟩
      have nl := isHm_le hn2
      rcases g with ⟨g1, g2, g3⟩ | ⟨b', n', g1, g2, g3⟩
      · subst g1
        rw [g2, g3]
        refine ⟨fun _ => ih 1 m' _ _ _ (by omega) (q3.tr q) (nI_1 0) (Or.inr ⟨0, n2, bh_first hn2, rfl, rfl⟩), fun h => absurd (fa_trans (show (-1 : Int32) < 0 by decide) (nI_pos' (by omega))) h⟩
      · have nl' := isHm_le g1.2.1
        rw [g2, g3, nI_ltI (by omega) (by omega)]
        exact ⟨fun h => ih (k + 1) m' _ _ _ (by omega) (q3.tr q) (nI_1 k) (Or.inr ⟨k, n2, (bh_up g1 hn2).2 h, rfl, rfl⟩), fun h => ih (k + 1) m' _ _ _ (by omega) (q3.tr q) (nI_1 k) (Or.inr ⟨b', n', (bh_up g1 hn2).1 (by omega), rfl, rfl⟩)⟩
  unfold wX9_bestHome
  refine ⟨lk1 L, cx_isOpen c (cx_without c (fun h => absurd h (by decide)) (fun _ hz => ⟨fun h => absurd h (by decide), fun _ => cx_refuse L ?_⟩) (fun _ hp => ⟨fun _ => ⟨cT S + 1, ?_⟩, fun h => absurd rfl h⟩))⟩
  · have q1 : QF m (pI m 1 14 6) := QF.rf.why 6
    have d1 := d.c q1
    unfold wX12_bestHome
    exact ⟨lk75 L, fun h => absurd h (u_ne d1), fun _ => ⟨cT S + 1, refs0 _ q1 hz (cT S) 0 _ 0 0 (by omega) (thr _) rfl (w14 m 6)⟩⟩
  · have key : ∀ dd k : Nat, k + dd = cT S → ∀ m1, QF m m1 → ∀ z2 z3 z4 : Int32, ((k = 0 ∧ z2 = 0 ∧ z3 = -1) ∨ ∃ b' n', isBh S (Wd S T) k b' n' ∧ z2 = nI b' ∧ z3 = nI n') → z4 = nI k → wX9_bestHome_L26 t 1 (fun r m1 => wX12_bestHome t m1 75 (fun r2 m2 => Fin m m2 r r2)) (fun v13 m14 => wX9_accept t m14 1 v13 (fun r15 m16 => wX12_bestHome t m16 75 (fun r2 m2 => Fin m m2 r15 r2))) (dd + 1) z2 z3 z4 m1 := by
      intro dd
      induction dd with
      | zero =>
        intro k hk m1 q1 z2 z3 z4 g h4
        have e : k = cT S := by omega
        subst e
        have c1 := c.q q1
        rw [h4, wX9_bestHome_L26, c1.x3, c1.cor.sm.things]
        refine ⟨lk1 L, ls_k L hs, fun _ => cx_accept L ?_, fun hh => absurd (nI_le (Nat.le_refl _) (by omega)) hh⟩
        rcases g with ⟨g1, _⟩ | ⟨b', n', g1, g2, g3⟩
        · omega
        · have q2 : QF m (pI m1 1 14 0) := q1.why 0
          rw [g2]
          unfold wX12_bestHome
          exact ⟨lk75 L, fun h => absurd h (u_ne (d.c q2)), fun _ => ⟨cT S + 1, refs1 _ q2 hp (w14 m1 0) b' n' g1 (cT S) 0 _ 0 (-1) (-1) (by omega) (thr _) rfl (Or.inl ⟨rfl, rfl, rfl⟩)⟩⟩
      | succ dd ih =>
        intro k hk m1 q1 z2 z3 z4 g h4
        have c1 := c.q q1
        rw [h4, wX9_bestHome_L26, c1.x3, c1.cor.sm.things]
        unfold wX9_bestHome_J58
        refine ⟨lk1 L, ls_k L hs, fun hh => absurd hh (nI_ge (by omega) (by omega)), fun _ => sp_leastSure c1 (by omega) hp (fun n2 m3 hn2 q3 => ?_)⟩
        have nl := isHm_le hn2
        rcases g with ⟨g1, g2, g3⟩ | ⟨b', n', g1, g2, g3⟩
        · subst g1
          rw [g2, g3]
          refine ⟨fun h => ?_, fun _ => ih 1 (by omega) m3 (q1.tr q3) _ _ _ (Or.inr ⟨0, n2, bh_first hn2, rfl, rfl⟩) (nI_1 0)⟩
          have := fa_trans (show (-1 : Int32) < 0 by decide) (nI_pos' (n := n2) (by omega))
          rw [fa_lt] at this
          rw [fa_le] at h
          omega
        · have nl' := isHm_le g1.2.1
          rw [g2, g3, nI_leI (by omega) (by omega)]
          exact ⟨fun h => ih (k + 1) (by omega) m3 (q1.tr q3) _ _ _ (Or.inr ⟨b', n', (bh_up g1 hn2).1 h, rfl, rfl⟩) (nI_1 k), fun h => ih (k + 1) (by omega) m3 (q1.tr q3) _ _ _ (Or.inr ⟨k, n2, (bh_up g1 hn2).2 (by omega), rfl, rfl⟩) (nI_1 k)⟩
    exact key (cT S) 0 (by omega) m QF.rf 0 (-1) 0 (Or.inl ⟨rfl, rfl, rfl⟩) rfl
end
