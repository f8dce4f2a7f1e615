/-! THE MODEL: a school as plain numbers -/
abbrev Sc : Type := Nat → Nat → Nat
abbrev cT (S : Sc) : Nat := S 0 0
abbrev cA (S : Sc) (t : Nat) : Nat := S 1 t
abbrev cC (S : Sc) (t : Nat) : Nat := S 2 t
abbrev cF (S : Sc) : Nat := S 3 0
abbrev cIt (S : Sc) (k : Nat) : Nat := S 4 k
abbrev cIa (S : Sc) (k : Nat) : Nat := S 5 k
abbrev cTt (S : Sc) (k : Nat) : Nat := S 6 k
abbrev cTa (S : Sc) (k : Nat) : Nat := S 7 k
abbrev cM (S : Sc) : Nat := S 8 0
abbrev cKd (S : Sc) (m : Nat) : Nat := S 9 m
abbrev cLw (S : Sc) : Nat := S 10 0
abbrev cWr (S : Sc) : Nat := S 11 0
abbrev cN (S : Sc) : Nat := S 12 0
abbrev cBy (S : Sc) (i : Nat) : Nat := S 13 i
abbrev cOf (S : Sc) (i : Nat) : Nat := S 14 i
abbrev cWh (S : Sc) (i : Nat) : Nat := S 15 i
abbrev cCh (S : Sc) : Nat := S 16 0
abbrev cHe (S : Sc) (c : Nat) : Nat := S 17 c
abbrev cTr (S : Sc) : Nat := S 18 0
/-- the product of n numbers from lo on -/
def pw (A : Nat → Nat) : Nat → Nat → Nat
  | _, 0 => 1
  | lo, n + 1 => A lo * pw A (lo + 1) n
def wgt (S : Sc) (t : Nat) : Nat := pw (cA S) (t + 1) (cT S - (t + 1))
def cnt (S : Sc) : Nat := pw (cA S) 0 (cT S)
/-- the answer of a thing in a way -/
def ans (S : Sc) (w t : Nat) : Nat := w / wgt S t % cA S t
/-- whether a saying is right in a way -/
def rt (S : Sc) (w i : Nat) : Bool := ans S w (cOf S i) == cWh S i
def Fol (S : Sc) (w : Nat) : Prop := ∀ k, k < cF S → ans S w (cIt S k) = cIa S k → ans S w (cTt S k) = cTa S k
/-- j is the last one ahead of i, of those in the set, by i's master -/
def Prev (S : Sc) (set i j : Nat) : Prop := j < i ∧ set.testBit j = true ∧ cBy S j = cBy S i ∧ ∀ k, j < k → k < i → set.testBit k = true → cBy S k ≠ cBy S i
def LfK (S : Sc) (set laws w : Nat) : Prop := ∀ i, i < 17 → set.testBit i = true → (cKd S (cBy S i) = 1 → rt S w i = false) ∧ ∀ j, Prev S set i j → (cKd S (cBy S i) = 3 → rt S w i = !rt S w j) ∧ (cKd S (cBy S i) = 0 → laws.testBit 2 = true → (rt S w i || rt S w j) = true)
/-- a master is wrong in a thing -/
def wrg (S : Sc) (set w mm tt : Nat) : Bool := (List.range 17).any fun i => set.testBit i && (cBy S i == mm) && (cOf S i == tt) && !rt S w i
def LfW (S : Sc) (set laws w : Nat) : Prop := laws.testBit 1 = true → ∀ mm, mm < cM S → cKd S mm = 0 → fb_ct (wrg S set w mm) 8 ≤ cWr S
/-- a master says something of a thing -/
def Says (S : Sc) (set mm tt : Nat) : Prop := ∃ i, i < 17 ∧ set.testBit i = true ∧ cBy S i = mm ∧ cOf S i = tt
def AllR (S : Sc) (set w mm tt : Nat) (b : Bool) : Prop := ∀ i, i < 17 → set.testBit i = true → cBy S i = mm → cOf S i = tt → rt S w i = b
def LfP (S : Sc) (set laws w : Nat) : Prop := laws.testBit 0 = true → ∀ tt, tt < cT S → ∀ m1 m2, m1 ≠ m2 → Says S set m1 tt → cKd S m1 ≠ 2 → Says S set m2 tt → cKd S m2 ≠ 2 → (∀ m3, Says S set m3 tt → cKd S m3 ≠ 2 → m3 = m1 ∨ m3 = m2) → (AllR S set w m1 tt true ∧ AllR S set w m2 tt false) ∨ (AllR S set w m1 tt false ∧ AllR S set w m2 tt true)
def Lf (S : Sc) (set laws w : Nat) : Prop := Fol S w ∧ LfK S set laws w ∧ LfP S set laws w ∧ LfW S set laws w
/-- what every school keeps to -/
def VS (S : Sc) : Prop := (1 ≤ cT S ∧ cT S ≤ 8) ∧ (∀ t, t < cT S → 2 ≤ cA S t ∧ cA S t ≤ 4) ∧ cnt S ≤ 4096 ∧ (∀ t, t < 8 → cC S t ≤ 99) ∧ (cF S ≤ 6 ∧ ∀ k, k < cF S → cIt S k < cT S ∧ cIa S k < cA S (cIt S k) ∧ cTt S k < cT S ∧ cTa S k < cA S (cTt S k)) ∧ (cM S ≤ 6 ∧ ∀ k, k < cM S → cKd S k < 4) ∧ cLw S < 8 ∧ ((cLw S).testBit 1 = true → cWr S ≤ 8) ∧ (cN S ≤ 16 ∧ ∀ i, i < cN S → cBy S i < cM S ∧ cOf S i < cT S ∧ cWh S i < cA S (cOf S i)) ∧ (cCh S ≤ 5 ∧ ∀ k, k < cCh S → cHe S k < 2 ^ cM S)
theorem pw_pos {A : Nat → Nat} : ∀ (n lo : Nat), (∀ i, lo ≤ i → i < lo + n → 0 < A i) → 0 < pw A lo n := by
  intro n
  induction n with
  | zero => intro lo _; exact Nat.one_pos
  | succ n ih => intro lo h; exact Nat.mul_pos (h lo (Nat.le_refl _) (by omega)) (ih (lo + 1) (fun i h1 h2 => h i (by omega) (by omega)))
