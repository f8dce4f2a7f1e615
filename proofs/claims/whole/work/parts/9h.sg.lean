/-! A school in a memory, whatever its fields are called -/
def fvI (S : Sc) : Nat → Int32
  | 0 => nI (cT S)
  | 1 => nI (cnt S)
  | 2 => nI (cTr S)
  | 3 => nI (cF S)
  | 4 => nI (cM S)
  | 5 => nI (cLw S)
  | 6 => wrI S
  | 7 => nI (cN S)
  | _ => nI (cCh S)
def ari : Nat → Nat
  | 0 => 1
  | 1 => 2
  | 2 => 4
  | 3 => 5
  | 4 => 6
  | 5 => 7
  | 6 => 9
  | 7 => 13
  | 8 => 14
  | 9 => 15
  | _ => 17
def lim (S : Sc) : Nat → Nat
  | 0 => cT S
  | 1 => 8
  | 2 => cF S
  | 3 => cF S
  | 4 => cF S
  | 5 => cF S
  | 6 => cM S
  | 7 => cN S
  | 8 => cN S
  | 9 => cN S
  | _ => cCh S
def EO (e o : Nat → Nat) : Prop := (∀ i, i < 9 → ∀ j, j < 9 → e i = e j → i = j) ∧ (∀ i, i < 11 → ∀ j, j < 11 → o i = o j → i = j) ∧ ∀ j, j < 11 → 1 ≤ o j ∧ o j ≤ 11
def SG (m : zM) (s : Nat) (e o : Nat → Nat) (S : Sc) : Prop := (∀ i, i < 9 → gI m s (e i) = fvI S i) ∧ ∀ j, j < 11 → ∀ k, k < lim S j → gI m (s + o j) k = nI (S (ari j) k)
def ec (i : Nat) : Nat := [0, 2, 4, 5, 10, 12, 13, 14, 18].getD i 0
def oc (i : Nat) : Nat := [1, 2, 3, 4, 5, 6, 7, 8, 9, 10, 11].getD i 0
def er (i : Nat) : Nat := [0, 9, 5, 1, 2, 6, 7, 3, 4].getD i 0
def or_ (i : Nat) : Nat := [1, 2, 5, 6, 7, 8, 3, 9, 10, 11, 4].getD i 0
theorem EOc : EO ec oc := by unfold EO; decide
theorem EOr : EO er or_ := by unfold EO; decide
section
variable {m m' : zM} {s : Nat} {e o : Nat → Nat} {S S' N : Sc} {v w a b c d u : Nat} {X : List Nat}
theorem c9 {i : Nat} (h : i < 9) : i = 0 ∨ i = 1 ∨ i = 2 ∨ i = 3 ∨ i = 4 ∨ i = 5 ∨ i = 6 ∨ i = 7 ∨ i = 8 := by omega
theorem c11 {i : Nat} (h : i < 11) : i = 0 ∨ i = 1 ∨ i = 2 ∨ i = 3 ∨ i = 4 ∨ i = 5 ∨ i = 6 ∨ i = 7 ∨ i = 8 ∨ i = 9 ∨ i = 10 := by omega
theorem SG.fr (h : SG m s e o S) (E : EO e o) (f : Fr X m m') (hX : ∀ j, j ≤ 11 → s + j ∉ X) : SG m' s e o S := by
  refine ⟨fun i hi => ?_, fun j hj k hk => ?_⟩
  · rw [f.I (show s ∉ X from hX 0 (by decide))]; exact h.1 i hi
  · rw [f.I (hX _ (E.2.2 j hj).2)]; exact h.2 j hj k hk
theorem SG.out (h : SG m s e o S) (E : EO e o) {j k : Nat} (hj : j < 11) (hk : lim S j ≤ k) (x : Int32) : SG (pI m (s + o j) k x) s e o S := by
  refine ⟨fun i hi => ?_, fun i hi q hq => ?_⟩
  · rw [gII, if_neg (by have := (E.2.2 j hj).1; omega)]; exact h.1 i hi
  · rw [gII, if_neg]
    · exact h.2 i hi q hq
    · intro z
      have := E.2.1 i hi j hj (by omega)
      subst this
      omega
theorem SG.up (h : SG m s e o S) (hf : ∀ i, i < 9 → gI m' s (e i) = fvI S' i) (ha : ∀ j, j < 11 → ∀ k, gI m' (s + o j) k = gI m (s + o j) k) (hn : ∀ j, j < 11 → ∀ k, k < lim S' j → (k < lim S j ∧ S' (ari j) k = S (ari j) k) ∨ gI m (s + o j) k = nI (S' (ari j) k)) : SG m' s e o S' := by
  refine ⟨hf, fun j hj k hk => ?_⟩
  rw [ha j hj]
  rcases hn j hj k hk with ⟨h1, h2⟩ | h1
  · rw [h2]; exact h.2 j hj k h1
  · exact h1
theorem SG.one (h : SG m s e o S) (E : EO e o) {i0 : Nat} {x : Int32} (hi0 : i0 < 9) (hf : ∀ i, i < 9 → i ≠ i0 → fvI S' i = fvI S i) (hv : fvI S' i0 = x) (hn : ∀ j, j < 11 → ∀ k, k < lim S' j → (k < lim S j ∧ S' (ari j) k = S (ari j) k) ∨ gI m (s + o j) k = nI (S' (ari j) k)) : SG (pI m s (e i0) x) s e o S' := by
  refine h.up (fun i hi => ?_) (fun j hj k => ?_) hn
  · rw [gII]
    by_cases z : i = i0
    · rw [if_pos ⟨rfl, by rw [z]⟩, z, hv]
    · rw [if_neg (fun y => z (E.1 i hi i0 hi0 y.2)), hf i hi z]; exact h.1 i hi
  · rw [gII, if_neg (by have := (E.2.2 j hj).1; omega)]
theorem SG.thing (h : SG m s e o S) (E : EO e o) (h1 : gI m (s + o 0) (cT S) = nI v) : SG (pI (pI m s (e 1) (nI (cnt S * v))) s (e 0) (nI (cT S + 1))) s e o (stS (stS S 1 (cT S) v) 0 0 (cT S + 1)) := by
  refine h.up (fun i hi => ?_) (fun j hj k => ?_) (fun j hj k hk => ?_)
  · rw [gII, gII]
    by_cases z0 : i = 0
    · rw [if_pos ⟨rfl, by rw [z0]⟩, z0]; rfl
    · rw [if_neg (fun y => z0 (E.1 i hi 0 (by decide) y.2))]
      by_cases z1 : i = 1
      · rw [if_pos ⟨rfl, by rw [z1]⟩, z1]
        show _ = nI (cnt _)
        rw [cnt_thing]
      · rw [if_neg (fun y => z1 (E.1 i hi 1 (by decide) y.2)), h.1 i hi]
        rcases c9 hi with rfl | rfl | rfl | rfl | rfl | rfl | rfl | rfl | rfl
        · exact absurd rfl z0
        · exact absurd rfl z1
        all_goals rfl
  · rw [gII, if_neg (by have := (E.2.2 j hj).1; omega), gII, if_neg (by have := (E.2.2 j hj).1; omega)]
  · rcases c11 hj with rfl | rfl | rfl | rfl | rfl | rfl | rfl | rfl | rfl | rfl | rfl
    · have hk' : k < cT S + 1 := hk
      by_cases z : k = cT S
      · right
        rw [z, h1]
        show nI v = nI (cA _ (cT S))
        rw [cA_thing, if_pos rfl]
      · left
        refine ⟨show k < cT S by omega, ?_⟩
        show cA _ k = cA S k
        rw [cA_thing, if_neg z]
    all_goals exact Or.inl ⟨hk, rfl⟩
theorem SG.fol (h : SG m s e o S) (E : EO e o) (h1 : gI m (s + o 2) (cF S) = nI a) (h2 : gI m (s + o 3) (cF S) = nI v) (h3 : gI m (s + o 4) (cF S) = nI b) (h4 : gI m (s + o 5) (cF S) = nI u) : SG (pI m s (e 3) (nI (cF S + 1))) s e o (stS (stS (stS (stS (stS S 4 (cF S) a) 5 (cF S) v) 6 (cF S) b) 7 (cF S) u) 3 0 (cF S + 1)) := by
  refine h.one E (by decide) (fun i hi z => ?_) rfl (fun j hj k hk => ?_)
  · rcases c9 hi with rfl | rfl | rfl | rfl | rfl | rfl | rfl | rfl | rfl
    · rfl
    · rfl
    · rfl
    · exact absurd rfl z
    all_goals rfl
  · rcases c11 hj with rfl | rfl | rfl | rfl | rfl | rfl | rfl | rfl | rfl | rfl | rfl
    · exact Or.inl ⟨hk, rfl⟩
    · exact Or.inl ⟨hk, rfl⟩
    · have hk' : k < cF S + 1 := hk
      show (_ ∧ (if 4 = 3 ∧ k = 0 then cF S + 1 else if 4 = 7 ∧ k = cF S then u else if 4 = 6 ∧ k = cF S then b else if 4 = 5 ∧ k = cF S then v else if 4 = 4 ∧ k = cF S then a else S 4 k) = S 4 k) ∨ gI m (s + o 2) k = nI (if 4 = 3 ∧ k = 0 then cF S + 1 else if 4 = 7 ∧ k = cF S then u else if 4 = 6 ∧ k = cF S then b else if 4 = 5 ∧ k = cF S then v else if 4 = 4 ∧ k = cF S then a else S 4 k)
      by_cases z : k = cF S
      · simp (config := { decide := true }) only [z, false_and, true_and, if_false, if_true]
        exact Or.inr h1
      · simp (config := { decide := true }) only [z, false_and, and_false, if_false]
        exact Or.inl ⟨show k < cF S by omega, trivial⟩
    · have hk' : k < cF S + 1 := hk
      show (_ ∧ (if 5 = 3 ∧ k = 0 then cF S + 1 else if 5 = 7 ∧ k = cF S then u else if 5 = 6 ∧ k = cF S then b else if 5 = 5 ∧ k = cF S then v else if 5 = 4 ∧ k = cF S then a else S 5 k) = S 5 k) ∨ gI m (s + o 3) k = nI (if 5 = 3 ∧ k = 0 then cF S + 1 else if 5 = 7 ∧ k = cF S then u else if 5 = 6 ∧ k = cF S then b else if 5 = 5 ∧ k = cF S then v else if 5 = 4 ∧ k = cF S then a else S 5 k)
      by_cases z : k = cF S
      · simp (config := { decide := true }) only [z, false_and, true_and, if_false, if_true]
        exact Or.inr h2
      · simp (config := { decide := true }) only [z, false_and, and_false, if_false]
        exact Or.inl ⟨show k < cF S by omega, trivial⟩
    · have hk' : k < cF S + 1 := hk
      show (_ ∧ (if 6 = 3 ∧ k = 0 then cF S + 1 else if 6 = 7 ∧ k = cF S then u else if 6 = 6 ∧ k = cF S then b else if 6 = 5 ∧ k = cF S then v else if 6 = 4 ∧ k = cF S then a else S 6 k) = S 6 k) ∨ gI m (s + o 4) k = nI (if 6 = 3 ∧ k = 0 then cF S + 1 else if 6 = 7 ∧ k = cF S then u else if 6 = 6 ∧ k = cF S then b else if 6 = 5 ∧ k = cF S then v else if 6 = 4 ∧ k = cF S then a else S 6 k)
      by_cases z : k = cF S
      · simp (config := { decide := true }) only [z, false_and, true_and, if_false, if_true]
        exact Or.inr h3
      · simp (config := { decide := true }) only [z, false_and, and_false, if_false]
        exact Or.inl ⟨show k < cF S by omega, trivial⟩
    · have hk' : k < cF S + 1 := hk
      show (_ ∧ (if 7 = 3 ∧ k = 0 then cF S + 1 else if 7 = 7 ∧ k = cF S then u else if 7 = 6 ∧ k = cF S then b else if 7 = 5 ∧ k = cF S then v else if 7 = 4 ∧ k = cF S then a else S 7 k) = S 7 k) ∨ gI m (s + o 5) k = nI (if 7 = 3 ∧ k = 0 then cF S + 1 else if 7 = 7 ∧ k = cF S then u else if 7 = 6 ∧ k = cF S then b else if 7 = 5 ∧ k = cF S then v else if 7 = 4 ∧ k = cF S then a else S 7 k)
      by_cases z : k = cF S
      · simp (config := { decide := true }) only [z, false_and, true_and, if_false, if_true]
        exact Or.inr h4
      · simp (config := { decide := true }) only [z, false_and, and_false, if_false]
        exact Or.inl ⟨show k < cF S by omega, trivial⟩
    all_goals exact Or.inl ⟨hk, rfl⟩
theorem SG.mas (h : SG m s e o S) (E : EO e o) (h1 : gI m (s + o 6) (cM S) = nI d) : SG (pI m s (e 4) (nI (cM S + 1))) s e o (stS (stS S 9 (cM S) d) 8 0 (cM S + 1)) := by
  refine h.one E (by decide) (fun i hi z => ?_) rfl (fun j hj k hk => ?_)
  · rcases c9 hi with rfl | rfl | rfl | rfl | rfl | rfl | rfl | rfl | rfl
    · rfl
    · rfl
    · rfl
    · rfl
    · exact absurd rfl z
    all_goals rfl
  · rcases c11 hj with rfl | rfl | rfl | rfl | rfl | rfl | rfl | rfl | rfl | rfl | rfl
    · exact Or.inl ⟨hk, rfl⟩
    · exact Or.inl ⟨hk, rfl⟩
    · exact Or.inl ⟨hk, rfl⟩
    · exact Or.inl ⟨hk, rfl⟩
    · exact Or.inl ⟨hk, rfl⟩
    · exact Or.inl ⟨hk, rfl⟩
    · have hk' : k < cM S + 1 := hk
      show (_ ∧ (if 9 = 8 ∧ k = 0 then cM S + 1 else if 9 = 9 ∧ k = cM S then d else S 9 k) = S 9 k) ∨ gI m (s + o 6) k = nI (if 9 = 8 ∧ k = 0 then cM S + 1 else if 9 = 9 ∧ k = cM S then d else S 9 k)
      by_cases z : k = cM S
      · simp (config := { decide := true }) only [z, false_and, true_and, if_false, if_true]
        exact Or.inr h1
      · simp (config := { decide := true }) only [z, false_and, and_false, if_false]
        exact Or.inl ⟨show k < cM S by omega, trivial⟩
    all_goals exact Or.inl ⟨hk, rfl⟩
theorem SG.say (h : SG m s e o S) (E : EO e o) (h1 : gI m (s + o 7) (cN S) = nI a) (h2 : gI m (s + o 8) (cN S) = nI b) (h3 : gI m (s + o 9) (cN S) = nI v) : SG (pI m s (e 7) (nI (cN S + 1))) s e o (stS (stS (stS (stS S 13 (cN S) a) 14 (cN S) b) 15 (cN S) v) 12 0 (cN S + 1)) := by
  refine h.one E (by decide) (fun i hi z => ?_) rfl (fun j hj k hk => ?_)
  · rcases c9 hi with rfl | rfl | rfl | rfl | rfl | rfl | rfl | rfl | rfl
    · rfl
    · rfl
    · rfl
    · rfl
    · rfl
    · rfl
    · rfl
    · exact absurd rfl z
    · rfl
  · rcases c11 hj with rfl | rfl | rfl | rfl | rfl | rfl | rfl | rfl | rfl | rfl | rfl
    · exact Or.inl ⟨hk, rfl⟩
    · exact Or.inl ⟨hk, rfl⟩
    · exact Or.inl ⟨hk, rfl⟩
    · exact Or.inl ⟨hk, rfl⟩
    · exact Or.inl ⟨hk, rfl⟩
    · exact Or.inl ⟨hk, rfl⟩
    · exact Or.inl ⟨hk, rfl⟩
    · have hk' : k < cN S + 1 := hk
      show (_ ∧ (if 13 = 12 ∧ k = 0 then cN S + 1 else if 13 = 15 ∧ k = cN S then v else if 13 = 14 ∧ k = cN S then b else if 13 = 13 ∧ k = cN S then a else S 13 k) = S 13 k) ∨ gI m (s + o 7) k = nI (if 13 = 12 ∧ k = 0 then cN S + 1 else if 13 = 15 ∧ k = cN S then v else if 13 = 14 ∧ k = cN S then b else if 13 = 13 ∧ k = cN S then a else S 13 k)
      by_cases z : k = cN S
      · simp (config := { decide := true }) only [z, false_and, true_and, if_false, if_true]
        exact Or.inr h1
      · simp (config := { decide := true }) only [z, false_and, and_false, if_false]
        exact Or.inl ⟨show k < cN S by omega, trivial⟩
    · have hk' : k < cN S + 1 := hk
      show (_ ∧ (if 14 = 12 ∧ k = 0 then cN S + 1 else if 14 = 15 ∧ k = cN S then v else if 14 = 14 ∧ k = cN S then b else if 14 = 13 ∧ k = cN S then a else S 14 k) = S 14 k) ∨ gI m (s + o 8) k = nI (if 14 = 12 ∧ k = 0 then cN S + 1 else if 14 = 15 ∧ k = cN S then v else if 14 = 14 ∧ k = cN S then b else if 14 = 13 ∧ k = cN S then a else S 14 k)
      by_cases z : k = cN S
      · simp (config := { decide := true }) only [z, false_and, true_and, if_false, if_true]
        exact Or.inr h2
      · simp (config := { decide := true }) only [z, false_and, and_false, if_false]
        exact Or.inl ⟨show k < cN S by omega, trivial⟩
    · have hk' : k < cN S + 1 := hk
      show (_ ∧ (if 15 = 12 ∧ k = 0 then cN S + 1 else if 15 = 15 ∧ k = cN S then v else if 15 = 14 ∧ k = cN S then b else if 15 = 13 ∧ k = cN S then a else S 15 k) = S 15 k) ∨ gI m (s + o 9) k = nI (if 15 = 12 ∧ k = 0 then cN S + 1 else if 15 = 15 ∧ k = cN S then v else if 15 = 14 ∧ k = cN S then b else if 15 = 13 ∧ k = cN S then a else S 15 k)
      by_cases z : k = cN S
      · simp (config := { decide := true }) only [z, false_and, true_and, if_false, if_true]
        exact Or.inr h3
      · simp (config := { decide := true }) only [z, false_and, and_false, if_false]
        exact Or.inl ⟨show k < cN S by omega, trivial⟩
    · exact Or.inl ⟨hk, rfl⟩
theorem SG.chd (h : SG m s e o S) (E : EO e o) (h1 : gI m (s + o 10) (cCh S) = nI d) : SG (pI m s (e 8) (nI (cCh S + 1))) s e o (stS (stS S 17 (cCh S) d) 16 0 (cCh S + 1)) := by
  refine h.one E (by decide) (fun i hi z => ?_) rfl (fun j hj k hk => ?_)
  · rcases c9 hi with rfl | rfl | rfl | rfl | rfl | rfl | rfl | rfl | rfl
    · rfl
    · rfl
    · rfl
    · rfl
    · rfl
    · rfl
    · rfl
    · rfl
    · exact absurd rfl z
  · rcases c11 hj with rfl | rfl | rfl | rfl | rfl | rfl | rfl | rfl | rfl | rfl | rfl
    · exact Or.inl ⟨hk, rfl⟩
    · exact Or.inl ⟨hk, rfl⟩
    · exact Or.inl ⟨hk, rfl⟩
    · exact Or.inl ⟨hk, rfl⟩
    · exact Or.inl ⟨hk, rfl⟩
    · exact Or.inl ⟨hk, rfl⟩
    · exact Or.inl ⟨hk, rfl⟩
    · exact Or.inl ⟨hk, rfl⟩
    · exact Or.inl ⟨hk, rfl⟩
    · exact Or.inl ⟨hk, rfl⟩
    · have hk' : k < cCh S + 1 := hk
      show (_ ∧ (if 17 = 16 ∧ k = 0 then cCh S + 1 else if 17 = 17 ∧ k = cCh S then d else S 17 k) = S 17 k) ∨ gI m (s + o 10) k = nI (if 17 = 16 ∧ k = 0 then cCh S + 1 else if 17 = 17 ∧ k = cCh S then d else S 17 k)
      by_cases z : k = cCh S
      · simp (config := { decide := true }) only [z, false_and, true_and, if_false, if_true]
        exact Or.inr h1
      · simp (config := { decide := true }) only [z, false_and, and_false, if_false]
        exact Or.inl ⟨show k < cCh S by omega, trivial⟩
theorem wrI_or {j : Nat} (hj : j ≠ 1) : wrI (stS S 10 0 (cLw S ||| 2 ^ j)) = wrI S := by
  unfold wrI
  show (if (cLw S ||| 2 ^ j).testBit 1 then nI (cWr S) else -2) = _
  rw [Nat.testBit_or, Nat.testBit_two_pow_of_ne hj, Bool.or_false]
theorem SG.law (h : SG m s e o S) (E : EO e o) {j : Nat} (hj : j ≠ 1) : SG (pI m s (e 5) (nI (cLw S ||| 2 ^ j))) s e o (stS S 10 0 (cLw S ||| 2 ^ j)) := by
  refine h.one E (by decide) (fun i hi z => ?_) rfl (fun j hj k hk => ?_)
  · rcases c9 hi with rfl | rfl | rfl | rfl | rfl | rfl | rfl | rfl | rfl
    · rfl
    · rfl
    · rfl
    · rfl
    · rfl
    · exact absurd rfl z
    · exact wrI_or hj
    all_goals rfl
  · rcases c11 hj with rfl | rfl | rfl | rfl | rfl | rfl | rfl | rfl | rfl | rfl | rfl
    all_goals exact Or.inl ⟨hk, rfl⟩
theorem SG.lwr (h : SG m s e o S) (E : EO e o) (h5 : gI m' s (e 5) = nI (cLw S ||| 2 ^ 1)) (h6 : gI m' s (e 6) = nI v) (hs : ∀ k, k ≠ e 5 → k ≠ e 6 → gI m' s k = gI m s k) (ha : ∀ j, j < 11 → ∀ k, gI m' (s + o j) k = gI m (s + o j) k) : SG m' s e o (stS (stS S 10 0 (cLw S ||| 2 ^ 1)) 11 0 v) := by
  refine h.up (fun i hi => ?_) ha (fun j hj k hk => ?_)
  · by_cases z5 : i = 5
    · rw [z5]; exact h5
    · by_cases z6 : i = 6
      · rw [z6, h6]
        show nI v = if (cLw S ||| 2 ^ 1).testBit 1 then nI v else -2
        rw [if_pos (by rw [Nat.testBit_or, Nat.testBit_two_pow_self, Bool.or_true])]
      · rw [hs _ (fun y => z5 (E.1 i hi 5 (by decide) y)) (fun y => z6 (E.1 i hi 6 (by decide) y)), h.1 i hi]
        rcases c9 hi with rfl | rfl | rfl | rfl | rfl | rfl | rfl | rfl | rfl
        · rfl
        · rfl
        · rfl
        · rfl
        · rfl
        · exact absurd rfl z5
        · exact absurd rfl z6
        all_goals rfl
  · rcases c11 hj with rfl | rfl | rfl | rfl | rfl | rfl | rfl | rfl | rfl | rfl | rfl
    all_goals exact Or.inl ⟨hk, rfl⟩
theorem SG.tri (h : SG m s e o S) (E : EO e o) (ha : a < 8) : SG (pI (pI m (s + o 1) a (nI v)) s (e 2) (nI (cTr S + 1))) s e o (stS (stS S 2 a v) 18 0 (cTr S + 1)) := by
  refine ⟨fun i hi => ?_, fun j hj k hk => ?_⟩
  · rw [gII]
    by_cases z : i = 2
    · rw [if_pos ⟨rfl, by rw [z]⟩, z]; rfl
    · rw [if_neg (fun y => z (E.1 i hi 2 (by decide) y.2)), gII, if_neg (by have := (E.2.2 1 (by decide)).1; omega), h.1 i hi]
      rcases c9 hi with rfl | rfl | rfl | rfl | rfl | rfl | rfl | rfl | rfl
      · rfl
      · rfl
      · exact absurd rfl z
      all_goals rfl
  · rw [gII, if_neg (by have := (E.2.2 j hj).1; omega), gII]
    by_cases z : j = 1
    · subst z
      show _ = nI (if 2 = 18 ∧ k = 0 then cTr S + 1 else if 2 = 2 ∧ k = a then v else S 2 k)
      by_cases y : k = a
      · simp (config := { decide := true }) only [y, false_and, true_and, if_false, if_true, and_true]
      · simp (config := { decide := true }) only [y, false_and, and_false, if_false]
        exact h.2 1 (by decide) k hk
    · rw [if_neg (fun y => z (E.2.1 j hj 1 (by decide) (by omega)))]
      rcases c11 hj with rfl | rfl | rfl | rfl | rfl | rfl | rfl | rfl | rfl | rfl | rfl
      · exact h.2 0 hj k hk
      · exact absurd rfl z
      · exact h.2 2 hj k hk
      · exact h.2 3 hj k hk
      · exact h.2 4 hj k hk
      · exact h.2 5 hj k hk
      · exact h.2 6 hj k hk
      · exact h.2 7 hj k hk
      · exact h.2 8 hj k hk
      · exact h.2 9 hj k hk
      · exact h.2 10 hj k hk
theorem say4 (V : Vq S N) : ∀ i, i < cN S → cBy S i < cM S ∧ cOf S i < cT S ∧ cWh S i < 4 := by
  intro i hi
  obtain ⟨h1, h2, h3⟩ := V.say i hi
  have := V.a2 _ h2
  exact ⟨h1, h2, by omega⟩
theorem SG.cls (h : SG m s ec oc S) (V : Vq S N) : SchM m s S ∧ SayM m s S (cN S) := by
  have n16 := V.n16
  obtain ⟨f, g⟩ := h
  exact ⟨⟨f 0 (by decide), g 0 (by decide), f 1 (by decide), g 1 (by decide), f 2 (by decide), f 3 (by decide), fun k hk => ⟨g 2 (by decide) k hk, g 3 (by decide) k hk, g 4 (by decide) k hk, g 5 (by decide) k hk⟩, f 4 (by decide), g 6 (by decide), f 5 (by decide), f 6 (by decide), f 7 (by decide), f 8 (by decide), g 10 (by decide)⟩, ⟨by omega, fun i hi => ⟨g 7 (by decide) i hi, g 8 (by decide) i hi, g 9 (by decide) i hi⟩, say4 V⟩⟩
theorem SG.rfr (h : SG m s er or_ S) (V : Vq S N) : RSm m s S ∧ RSy m s S (cN S) := by
  have n16 := V.n16
  obtain ⟨f, g⟩ := h
  exact ⟨⟨f 0 (by decide), g 0 (by decide), f 1 (by decide), g 1 (by decide), f 2 (by decide), f 3 (by decide), fun k hk => ⟨g 2 (by decide) k hk, g 3 (by decide) k hk, g 4 (by decide) k hk, g 5 (by decide) k hk⟩, f 4 (by decide), g 6 (by decide), f 5 (by decide), f 6 (by decide), f 7 (by decide), f 8 (by decide), g 10 (by decide)⟩, ⟨by omega, fun i hi => ⟨g 7 (by decide) i hi, g 8 (by decide) i hi, g 9 (by decide) i hi⟩, say4 V⟩⟩
theorem Vq.vs (V : Vq S N) (h : cT S ≠ 0) : Vs S := ⟨by omega, V.t8, V.a2, V.cnt, V.c99, V.f6, V.fol, V.m6, V.kd, V.lw, V.wr, V.n16, V.say, V.ch5, V.he⟩
theorem Vq.z : Vq zSc zSc := ⟨by decide, fun t h => absurd h (Nat.not_lt_zero _), by decide, fun t h => Nat.zero_le _, by decide, fun k h => absurd h (Nat.not_lt_zero _), by decide, fun k h => absurd h (Nat.not_lt_zero _), by decide, fun h => absurd h (by decide), by decide, fun k h => absurd h (Nat.not_lt_zero _), by decide, fun k h => absurd h (Nat.not_lt_zero _), by decide, fun k h => absurd h (Nat.not_lt_zero _), fun k h => absurd h (Nat.not_lt_zero _), fun k h => absurd h (Nat.not_lt_zero _)⟩
end
