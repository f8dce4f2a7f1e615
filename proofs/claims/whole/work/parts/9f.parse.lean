/-! Reading a text, as mathematics -/
abbrev Er : Type := Nat × Nat
abbrev PS : Type := Sc × Sc × Tk
def bd {α β : Type} (r : Sum Er α) (F : α → Sum Er β) : Sum Er β :=
  match r with
  | .inl e => .inl e
  | .inr x => F x
def stS (S : Sc) (a i v : Nat) : Sc := fun b j => if b = a ∧ j = i then v else S b j
def fnN (N : Sc) (w : Nat) : Nat → Nat → Nat
  | 0, i => i
  | f + 1, i => if N 1 i = w then i else fnN N w f (i + 1)
/-- the place of a name, or the number of names -/
def fnd (N : Sc) (w : Nat) : Nat := fnN N w (N 0 0) 0
/-- a name more: its word, its sort, its number -/
def aN (N : Sc) (w s x : Nat) : Sc := stS (stS (stS (stS N 1 (N 0 0) w) 2 (N 0 0) s) 3 (N 0 0) x) 0 0 (N 0 0 + 1)
def isW (k : Tk) (c : Nat) : Bool := k.1 == 1 && k.2.2.2 == c
def isNm (k : Tk) : Bool := k.1 == 1 && !(isW k 21243335 || isW k 6958759667 || isW k 437899442 || isW k 12343 || isW k 624435 || isW k 3417476 || isW k 21570604)
def pMn (h most : Nat) (k : Tk) : Sum Er Unit := if h < most then .inr () else .inl (5, k.2.1)
def pWd (c : Nat) (k : Tk) : Sum Er Unit := if isW k c then .inr () else .inl (1, k.2.1)
def pNew (N : Sc) (k : Tk) : Sum Er Nat := if isNm k then (if fnd N k.2.2.2 < N 0 0 then .inl (3, k.2.1) else .inr k.2.2.2) else .inl (1, k.2.1)
def pKn (N : Sc) (s : Nat) (k : Tk) : Sum Er Nat := if isNm k then (if fnd N k.2.2.2 < N 0 0 ∧ N 2 (fnd N k.2.2.2) = s then .inr (N 3 (fnd N k.2.2.2)) else .inl (2, k.2.1)) else .inl (1, k.2.1)
def pWh (lo hi : Nat) (k : Tk) : Sum Er Nat := if k.1 = 2 then (if lo ≤ k.2.2.2 ∧ k.2.2.2 ≤ hi then .inr k.2.2.2 else .inl (4, k.2.1)) else .inl (1, k.2.1)
def pKd (k : Tk) : Sum Er Nat := if isW k 17171758 then .inr 0 else if isW k 186546 then .inr 1 else if isW k 2500036 then .inr 2 else if isW k 109099237 then .inr 3 else .inl (1, k.2.1)
def pLx (k : Tk) : Sum Er Nat := if isW k 525618 then .inr 0 else if isW k 24722887 then .inr 1 else if isW k 611795 then .inr 2 else .inl (1, k.2.1)
section
variable (B : Nat → Nat) (n : Nat)
def pThing (S N : Sc) (k : Tk) : Sum Er PS := bd (pMn (cT S) 8 k) fun _ => bd (pNew N (adv B n k)) fun w => bd (pWd 1564186195 (adv B n (adv B n k))) fun _ => bd (pWh 2 4 (adv B n (adv B n (adv B n k)))) fun v => if cnt S * v ≤ 4096 then .inr (stS (stS S 1 (cT S) v) 0 0 (cT S + 1), aN N w 0 (cT S), adv B n (adv B n (adv B n (adv B n k)))) else .inl (7, (adv B n (adv B n (adv B n k))).2.1)
def pFollow2 (S N : Sc) (k : Tk) (a v : Nat) : Sum Er PS := bd (pKn N 0 k) fun b => if a = b then .inl (3, k.2.1) else bd (pWh 0 (cA S b - 1) (adv B n k)) fun u => .inr (stS (stS (stS (stS (stS S 4 (cF S) a) 5 (cF S) v) 6 (cF S) b) 7 (cF S) u) 3 0 (cF S + 1), N, adv B n (adv B n k))
def pFollows (S N : Sc) (k : Tk) : Sum Er PS := bd (pMn (cF S) 6 k) fun _ => bd (pKn N 0 (adv B n k)) fun a => bd (pWh 0 (cA S a - 1) (adv B n (adv B n k))) fun v => if (adv B n (adv B n (adv B n k))).1 = 4 then pFollow2 B n S N (adv B n (adv B n (adv B n (adv B n k)))) a v else .inl (1, (adv B n (adv B n (adv B n k))).2.1)
def pMaster (S N : Sc) (k : Tk) : Sum Er PS := bd (pMn (cM S) 6 k) fun _ => bd (pNew N (adv B n k)) fun w => bd (pKd (adv B n (adv B n k))) fun d => .inr (stS (stS S 9 (cM S) d) 8 0 (cM S + 1), aN N w 1 (cM S), adv B n (adv B n (adv B n k)))
def pLaw (S N : Sc) (k : Tk) : Sum Er PS := bd (pLx (adv B n k)) fun j => if (cLw S).testBit j then .inl (3, (adv B n k).2.1) else if j = 1 then bd (pWh 0 8 (adv B n (adv B n k))) fun v => .inr (stS (stS S 10 0 (cLw S ||| 2 ^ j)) 11 0 v, N, adv B n (adv B n (adv B n k))) else .inr (stS S 10 0 (cLw S ||| 2 ^ j), N, adv B n (adv B n k))
def pSays (S N : Sc) (k : Tk) : Sum Er PS := bd (pMn (cN S) 16 k) fun _ => bd (pKn N 1 (adv B n k)) fun a => bd (pKn N 0 (adv B n (adv B n k))) fun b => bd (pWh 0 (cA S b - 1) (adv B n (adv B n (adv B n k)))) fun v => .inr (stS (stS (stS (stS S 13 (cN S) a) 14 (cN S) b) 15 (cN S) v) 12 0 (cN S + 1), N, adv B n (adv B n (adv B n (adv B n k))))
/-- the masters that a child hears -/
def pHr (N : Sc) : Nat → Nat → Tk → Sum Er (Nat × Tk)
  | 0, _, _ => .inl (0, 0)
  | f + 1, set, k => bd (pKn N 1 k) fun a => if set.testBit a then .inl (3, k.2.1) else if (adv B n k).1 = 4 then pHr N f (set ||| 2 ^ a) (adv B n (adv B n k)) else .inr (set ||| 2 ^ a, adv B n k)
def pChild (S N : Sc) (k : Tk) : Sum Er PS := bd (pMn (cCh S) 5 k) fun _ => bd (pNew N (adv B n k)) fun w => bd (pWd 8554067 (adv B n (adv B n k))) fun _ => bd (pHr B n N 7 0 (adv B n (adv B n (adv B n k)))) fun q => .inr (stS (stS S 17 (cCh S) q.1) 16 0 (cCh S + 1), aN N w 2 (cCh S), q.2)
def pTrial (S N : Sc) (k : Tk) : Sum Er PS := bd (pKn N 0 (adv B n k)) fun a => if cC S a = 0 then bd (pWd 114292 (adv B n (adv B n k))) fun _ => bd (pWh 1 99 (adv B n (adv B n (adv B n k)))) fun v => .inr (stS (stS S 2 a v) 18 0 (cTr S + 1), N, adv B n (adv B n (adv B n (adv B n k)))) else .inl (3, (adv B n k).2.1)
def pLine (S N : Sc) (k : Tk) : Sum Er PS := if isW k 21243335 then pThing B n S N k else if isW k 6958759667 then pFollows B n S N k else if isW k 437899442 then pMaster B n S N k else if isW k 12343 then pLaw B n S N k else if isW k 624435 then pSays B n S N k else if isW k 3417476 then pChild B n S N k else if isW k 21570604 then pTrial B n S N k else .inl (1, k.2.1)
def pLines : Nat → Sc → Sc → Tk → Sum Er PS
  | 0, _, _, _ => .inl (0, 0)
  | f + 1, S, N, k => bd (pLine B n S N k) fun q => if q.2.2.1 = 3 then pLines f q.1 q.2.1 (adv B n q.2.2) else .inr q
def zSc : Sc := fun _ _ => 0
/-- a whole text: its school, or its fault and where -/
def pAll : Sum Er PS := bd (pLines B n 500 zSc zSc (tkn B n 0)) fun q => if q.2.2.1 = 0 then (if cT q.1 = 0 then .inl (6, q.2.2.2.1) else .inr q) else .inl (1, q.2.2.2.1)
end
/-- what a school that is being read keeps to -/
def Vq (S : Sc) (N : Sc) : Prop := (cT S ≤ 8) ∧ (∀ t, t < cT S → 2 ≤ cA S t ∧ cA S t ≤ 4) ∧ (cnt S ≤ 4096) ∧ (∀ t, t < 8 → cC S t ≤ 99) ∧ (cF S ≤ 6) ∧ (∀ k, k < cF S → cIt S k < cT S ∧ cIa S k < cA S (cIt S k) ∧ cTt S k < cT S ∧ cTa S k < cA S (cTt S k)) ∧ (cM S ≤ 6) ∧ (∀ k, k < cM S → cKd S k < 4) ∧ (cLw S < 8) ∧ ((cLw S).testBit 1 = true → cWr S ≤ 8) ∧ (cN S ≤ 16) ∧ (∀ i, i < cN S → cBy S i < cM S ∧ cOf S i < cT S ∧ cWh S i < cA S (cOf S i)) ∧ (cCh S ≤ 5) ∧ (∀ k, k < cCh S → cHe S k < 2 ^ cM S) ∧ (N 0 0 = cT S + cM S + cCh S) ∧ (∀ i, i < N 0 0 → N 1 i < 1099511627776) ∧ (∀ i, i < N 0 0 → N 2 i = 0 → N 3 i < cT S) ∧ (∀ i, i < N 0 0 → N 2 i = 1 → N 3 i < cM S)
theorem Vq.t8 {S : Sc} {N : Sc} (h_ : Vq S N) : cT S ≤ 8 := h_.1
theorem Vq.a2 {S : Sc} {N : Sc} (h_ : Vq S N) : ∀ t, t < cT S → 2 ≤ cA S t ∧ cA S t ≤ 4 := h_.2.1
theorem Vq.cnt {S : Sc} {N : Sc} (h_ : Vq S N) : cnt S ≤ 4096 := h_.2.2.1
theorem Vq.c99 {S : Sc} {N : Sc} (h_ : Vq S N) : ∀ t, t < 8 → cC S t ≤ 99 := h_.2.2.2.1
theorem Vq.f6 {S : Sc} {N : Sc} (h_ : Vq S N) : cF S ≤ 6 := h_.2.2.2.2.1
theorem Vq.fol {S : Sc} {N : Sc} (h_ : Vq S N) : ∀ k, k < cF S → cIt S k < cT S ∧ cIa S k < cA S (cIt S k) ∧ cTt S k < cT S ∧ cTa S k < cA S (cTt S k) := h_.2.2.2.2.2.1
theorem Vq.m6 {S : Sc} {N : Sc} (h_ : Vq S N) : cM S ≤ 6 := h_.2.2.2.2.2.2.1
theorem Vq.kd {S : Sc} {N : Sc} (h_ : Vq S N) : ∀ k, k < cM S → cKd S k < 4 := h_.2.2.2.2.2.2.2.1
theorem Vq.lw {S : Sc} {N : Sc} (h_ : Vq S N) : cLw S < 8 := h_.2.2.2.2.2.2.2.2.1
theorem Vq.wr {S : Sc} {N : Sc} (h_ : Vq S N) : (cLw S).testBit 1 = true → cWr S ≤ 8 := h_.2.2.2.2.2.2.2.2.2.1
theorem Vq.n16 {S : Sc} {N : Sc} (h_ : Vq S N) : cN S ≤ 16 := h_.2.2.2.2.2.2.2.2.2.2.1
theorem Vq.say {S : Sc} {N : Sc} (h_ : Vq S N) : ∀ i, i < cN S → cBy S i < cM S ∧ cOf S i < cT S ∧ cWh S i < cA S (cOf S i) := h_.2.2.2.2.2.2.2.2.2.2.2.1
theorem Vq.ch5 {S : Sc} {N : Sc} (h_ : Vq S N) : cCh S ≤ 5 := h_.2.2.2.2.2.2.2.2.2.2.2.2.1
theorem Vq.he {S : Sc} {N : Sc} (h_ : Vq S N) : ∀ k, k < cCh S → cHe S k < 2 ^ cM S := h_.2.2.2.2.2.2.2.2.2.2.2.2.2.1
theorem Vq.nc {S : Sc} {N : Sc} (h_ : Vq S N) : N 0 0 = cT S + cM S + cCh S := h_.2.2.2.2.2.2.2.2.2.2.2.2.2.2.1
theorem Vq.nw {S : Sc} {N : Sc} (h_ : Vq S N) : ∀ i, i < N 0 0 → N 1 i < 1099511627776 := h_.2.2.2.2.2.2.2.2.2.2.2.2.2.2.2.1
theorem Vq.n0 {S : Sc} {N : Sc} (h_ : Vq S N) : ∀ i, i < N 0 0 → N 2 i = 0 → N 3 i < cT S := h_.2.2.2.2.2.2.2.2.2.2.2.2.2.2.2.2.1
theorem Vq.n1 {S : Sc} {N : Sc} (h_ : Vq S N) : ∀ i, i < N 0 0 → N 2 i = 1 → N 3 i < cM S := h_.2.2.2.2.2.2.2.2.2.2.2.2.2.2.2.2.2
section
variable {B : Nat → Nat} {n a : Nat} {S N S' N' : Sc} {k k' : Tk} {w v c s x : Nat} {α β : Type} {r : Sum Er α} {F : α → Sum Er β} {e : Er}
theorem bd_l (h : r = .inl e) : bd r F = .inl e := by rw [h]; rfl
theorem bd_r {y : α} (h : r = .inr y) : bd r F = F y := by rw [h]; rfl
theorem bd_inv {z : β} (h : bd r F = .inr z) : ∃ y, r = .inr y ∧ F y = .inr z := by
  cases r with
  | inl e => cases h
  | inr y => exact ⟨y, rfl, h⟩
theorem adv_ok (h : TO n k) : TO n (adv B n k) := tkn_ok h.nx_
theorem adv_le (h : TO n k) : k.2.2.1 ≤ (adv B n k).2.2.1 := by
  have := (tkn_bd (B := B) h.nx_).1
  have := (tkn_bd (B := B) h.nx_).2.1
  exact Nat.le_trans (tkn_bd (B := B) h.nx_).1 (tkn_bd (B := B) h.nx_).2.1
theorem adv_lt (h : TO n k) (h1 : (adv B n k).1 ≠ 0) : k.2.2.1 < (adv B n k).2.2.1 := Nat.lt_of_le_of_lt (tkn_bd (B := B) h.nx_).1 ((tkn_bd (B := B) h.nx_).2.2.2 h1)
-- names
theorem fnN_b : ∀ f i, i ≤ fnN N w f i ∧ fnN N w f i ≤ i + f ∧ (fnN N w f i < i + f → N 1 (fnN N w f i) = w) ∧ ∀ j, i ≤ j → j < fnN N w f i → N 1 j ≠ w := by
  intro f
  induction f with
  | zero => intro i; exact ⟨Nat.le_refl _, Nat.le_refl _, fun h => absurd h (Nat.lt_irrefl _), fun j h1 h2 => absurd h2 (by rw [fnN]; omega)⟩
  | succ f ih =>
    intro i
    rw [fnN]
    by_cases h : N 1 i = w
    · rw [if_pos h]
      exact ⟨Nat.le_refl _, by omega, fun _ => h, fun j h1 h2 => by omega⟩
    · rw [if_neg h]
      obtain ⟨q1, q2, q3, q4⟩ := ih (i + 1)
      refine ⟨by omega, by omega, fun z => q3 (by omega), fun j h1 h2 => ?_⟩
      rcases (show j = i ∨ i + 1 ≤ j by omega) with z | z
      · rw [z]; exact h
      · exact q4 j z h2
theorem fnd_le : fnd N w ≤ N 0 0 := by have := (fnN_b (N := N) (w := w) (N 0 0) 0).2.1; unfold fnd; omega
theorem fnd_is (h : fnd N w < N 0 0) : N 1 (fnd N w) = w := (fnN_b (N := N) (w := w) (N 0 0) 0).2.2.1 (by unfold fnd at h; omega)
theorem fnd_no {j : Nat} (h : j < fnd N w) : N 1 j ≠ w := (fnN_b (N := N) (w := w) (N 0 0) 0).2.2.2 j (Nat.zero_le _) h
theorem fnd_eq {r : Nat} (h1 : r ≤ N 0 0) (h2 : r < N 0 0 → N 1 r = w) (h3 : ∀ j, j < r → N 1 j ≠ w) : fnd N w = r := by
  rcases Nat.lt_trichotomy (fnd N w) r with z | z | z
  · exact absurd (fnd_is (Nat.lt_of_lt_of_le z h1)) (h3 _ z)
  · exact z
  · have := fnd_le (N := N) (w := w)
    exact absurd (h2 (by omega)) (fnd_no z)
theorem aN_0 : aN N w s x 0 0 = N 0 0 + 1 := rfl
theorem aN_1 {i : Nat} : aN N w s x 1 i = if i = N 0 0 then w else N 1 i := by
  show (if 1 = 0 ∧ i = 0 then N 0 0 + 1 else if 1 = 3 ∧ i = N 0 0 then x else if 1 = 2 ∧ i = N 0 0 then s else if 1 = 1 ∧ i = N 0 0 then w else N 1 i) = _
  rw [if_neg (by omega), if_neg (by omega), if_neg (by omega)]
  by_cases h : i = N 0 0
  · rw [if_pos ⟨rfl, h⟩, if_pos h]
  · rw [if_neg (fun z => h z.2), if_neg h]
theorem aN_2 {i : Nat} : aN N w s x 2 i = if i = N 0 0 then s else N 2 i := by
  show (if 2 = 0 ∧ i = 0 then N 0 0 + 1 else if 2 = 3 ∧ i = N 0 0 then x else if 2 = 2 ∧ i = N 0 0 then s else if 2 = 1 ∧ i = N 0 0 then w else N 2 i) = _
  rw [if_neg (by omega), if_neg (by omega)]
  by_cases h : i = N 0 0
  · rw [if_pos ⟨rfl, h⟩, if_pos h]
  · rw [if_neg (fun z => h z.2), if_neg h, if_neg (by omega)]
theorem aN_3 {i : Nat} : aN N w s x 3 i = if i = N 0 0 then x else N 3 i := by
  show (if 3 = 0 ∧ i = 0 then N 0 0 + 1 else if 3 = 3 ∧ i = N 0 0 then x else if 3 = 2 ∧ i = N 0 0 then s else if 3 = 1 ∧ i = N 0 0 then w else N 3 i) = _
  rw [if_neg (by omega)]
  by_cases h : i = N 0 0
  · rw [if_pos ⟨rfl, h⟩, if_pos h]
  · rw [if_neg (fun z => h z.2), if_neg h, if_neg (by omega), if_neg (by omega)]
theorem fnd_aN {y : Nat} (h : fnd N y < N 0 0) : fnd (aN N w s x) y = fnd N y := by
  refine fnd_eq (by rw [aN_0]; omega) (fun _ => ?_) (fun j hj => ?_)
  · rw [aN_1, if_neg (by omega)]; exact fnd_is h
  · rw [aN_1, if_neg (by omega)]; exact fnd_no hj
theorem fnd_aN' {y : Nat} (h : ¬ fnd N y < N 0 0) : N 0 0 ≤ fnd (aN N w s x) y := by
  have h' : fnd N y = N 0 0 := by have := fnd_le (N := N) (w := y); omega
  rcases Nat.lt_or_ge (fnd (aN N w s x) y) (N 0 0) with z | z
  · have q := fnd_is (N := aN N w s x) (w := y) (by rw [aN_0]; omega)
    rw [aN_1, if_neg (by omega)] at q
    exact absurd q (fnd_no (by omega))
  · exact z
/-- a name of another sort doesn't matter -/
theorem pKn_aN (hs : s ≠ c) : pKn (aN N w s x) c k = pKn N c k := by
  unfold pKn
  cases isNm k with
  | false => rfl
  | true =>
    rw [if_pos rfl, if_pos rfl]
    by_cases h : fnd N k.2.2.2 < N 0 0
    · rw [fnd_aN h, aN_0, aN_2, aN_3, if_neg (show ¬ fnd N k.2.2.2 = N 0 0 by omega), if_neg (show ¬ fnd N k.2.2.2 = N 0 0 by omega)]
      by_cases h2 : N 2 (fnd N k.2.2.2) = c
      · rw [if_pos ⟨by omega, h2⟩, if_pos ⟨h, h2⟩]
      · rw [if_neg (fun z => h2 z.2), if_neg (fun z => h2 z.2)]
    · have g := fnd_aN' (w := w) (s := s) (x := x) h
      rw [if_neg (c := fnd N k.2.2.2 < N 0 0 ∧ N 2 (fnd N k.2.2.2) = c) (fun z => h z.1)]
      rw [if_neg]
      intro z
      have z1 := z.1
      rw [aN_0] at z1
      have z2 := z.2
      rw [aN_2, if_pos (by omega)] at z2
      exact hs z2
-- what the small ones give
theorem isW_t : isW k c = true ↔ k.1 = 1 ∧ k.2.2.2 = c := by unfold isW; rw [Bool.and_eq_true, beq_iff_eq, beq_iff_eq]
theorem isNm_1 (h : isNm k = true) : k.1 = 1 := by unfold isNm at h; rw [Bool.and_eq_true, beq_iff_eq] at h; exact h.1
theorem pMn_i {h most : Nat} {y : Unit} (e : pMn h most k = .inr y) : h < most := by
  unfold pMn at e
  by_cases z : h < most
  · exact z
  · rw [if_neg z] at e; cases e
theorem pWd_i {y : Unit} (e : pWd c k = .inr y) : k.1 = 1 := by
  unfold pWd at e
  by_cases z : isW k c = true
  · exact (isW_t.mp z).1
  · rw [if_neg z] at e; cases e
theorem pNew_i (e : pNew N k = .inr w) : k.1 = 1 ∧ w = k.2.2.2 := by
  unfold pNew at e
  by_cases z : isNm k = true
  · rw [if_pos z] at e
    by_cases y : fnd N k.2.2.2 < N 0 0
    · rw [if_pos y] at e; cases e
    · rw [if_neg y] at e; cases e; exact ⟨isNm_1 z, rfl⟩
  · rw [if_neg z] at e; cases e
theorem pKn_i {y : Nat} (e : pKn N s k = .inr y) : k.1 = 1 ∧ fnd N k.2.2.2 < N 0 0 ∧ N 2 (fnd N k.2.2.2) = s ∧ y = N 3 (fnd N k.2.2.2) := by
  unfold pKn at e
  by_cases z : isNm k = true
  · rw [if_pos z] at e
    by_cases y : fnd N k.2.2.2 < N 0 0 ∧ N 2 (fnd N k.2.2.2) = s
    · rw [if_pos y] at e; cases e; exact ⟨isNm_1 z, y.1, y.2, rfl⟩
    · rw [if_neg y] at e; cases e
  · rw [if_neg z] at e; cases e
theorem pWh_i {lo hi y : Nat} (e : pWh lo hi k = .inr y) : k.1 = 2 ∧ lo ≤ y ∧ y ≤ hi ∧ y = k.2.2.2 := by
  unfold pWh at e
  by_cases z : k.1 = 2
  · rw [if_pos z] at e
    by_cases y : lo ≤ k.2.2.2 ∧ k.2.2.2 ≤ hi
    · rw [if_pos y] at e; cases e; exact ⟨z, y.1, y.2, rfl⟩
    · rw [if_neg y] at e; cases e
  · rw [if_neg z] at e; cases e
theorem pKd_i {y : Nat} (e : pKd k = .inr y) : k.1 = 1 ∧ y < 4 := by
  unfold pKd at e
  by_cases z1 : isW k 17171758 = true
  · rw [if_pos z1] at e; cases e; exact ⟨(isW_t.mp z1).1, by decide⟩
  · rw [if_neg z1] at e
    by_cases z2 : isW k 186546 = true
    · rw [if_pos z2] at e; cases e; exact ⟨(isW_t.mp z2).1, by decide⟩
    · rw [if_neg z2] at e
      by_cases z3 : isW k 2500036 = true
      · rw [if_pos z3] at e; cases e; exact ⟨(isW_t.mp z3).1, by decide⟩
      · rw [if_neg z3] at e
        by_cases z4 : isW k 109099237 = true
        · rw [if_pos z4] at e; cases e; exact ⟨(isW_t.mp z4).1, by decide⟩
        · rw [if_neg z4] at e; cases e
theorem pLx_i {y : Nat} (e : pLx k = .inr y) : k.1 = 1 ∧ y < 3 := by
  unfold pLx at e
  by_cases z1 : isW k 525618 = true
  · rw [if_pos z1] at e; cases e; exact ⟨(isW_t.mp z1).1, by decide⟩
  · rw [if_neg z1] at e
    by_cases z2 : isW k 24722887 = true
    · rw [if_pos z2] at e; cases e; exact ⟨(isW_t.mp z2).1, by decide⟩
    · rw [if_neg z2] at e
      by_cases z3 : isW k 611795 = true
      · rw [if_pos z3] at e; cases e; exact ⟨(isW_t.mp z3).1, by decide⟩
      · rw [if_neg z3] at e; cases e
theorem pKn_0 (V : Vq S N) {y : Nat} (e : pKn N 0 k = .inr y) : y < cT S := by
  obtain ⟨_, h1, h2, h3⟩ := pKn_i e
  rw [h3]; exact V.n0 _ h1 h2
theorem pKn_1 (V : Vq S N) {y : Nat} (e : pKn N 1 k = .inr y) : y < cM S := by
  obtain ⟨_, h1, h2, h3⟩ := pKn_i e
  rw [h3]; exact V.n1 _ h1 h2
end
