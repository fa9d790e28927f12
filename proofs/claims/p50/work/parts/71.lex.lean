/-! THE TEXT: blanks, letters, digits -/
def isB (x : Int) : Bool := decide (x = 32) || decide (x = 10)
def isL (x : Int) : Bool := decide (97 ≤ x) && decide (x ≤ 122)
def isD (x : Int) : Bool := decide (48 ≤ x) && decide (x ≤ 57)
/-- as far as a kind goes -/
def run (P : Int → Bool) (b : Int → Int) (e : Int) : Nat → Int → Int
  | 0, p => p
  | k + 1, p => if p < e ∧ P (b p) = true then run P b e k (p + 1) else p
theorem run_ge (P : Int → Bool) (b : Int → Int) (e : Int) : ∀ (k : Nat) (p : Int), p ≤ run P b e k p
  | 0, p => Int.le_refl _
  | k + 1, p => by
    show p ≤ (if p < e ∧ P (b p) = true then run P b e k (p + 1) else p)
    have := run_ge P b e k (p + 1)
    split <;> omega
theorem run_le (P : Int → Bool) (b : Int → Int) (e : Int) : ∀ (k : Nat) (p : Int), p ≤ e → run P b e k p ≤ e
  | 0, p, h => h
  | k + 1, p, h => by
    show (if p < e ∧ P (b p) = true then run P b e k (p + 1) else p) ≤ e
    by_cases q : p < e ∧ P (b p) = true
    · rw [if_pos q]
      exact run_le P b e k (p + 1) (by omega)
    · rw [if_neg q]
      exact h
/-- enough fuel: it stands where the kind ends -/
theorem run_st (P : Int → Bool) (b : Int → Int) (e : Int) : ∀ (k : Nat) (p : Int), e - p < (k : Int) → ¬ (run P b e k p < e ∧ P (b (run P b e k p)) = true)
  | 0, p, h => by
    show ¬ (p < e ∧ _)
    omega
  | k + 1, p, h => by
    show ¬ ((if p < e ∧ P (b p) = true then run P b e k (p + 1) else p) < e ∧ P (b (if p < e ∧ P (b p) = true then run P b e k (p + 1) else p)) = true)
    by_cases q : p < e ∧ P (b p) = true
    · rw [if_pos q]
      exact run_st P b e k (p + 1) (by omega)
    · rw [if_neg q]
      exact q
theorem run_in (P : Int → Bool) (b : Int → Int) (e : Int) : ∀ (k : Nat) (p i : Int), p ≤ i → i < run P b e k p → i < e ∧ P (b i) = true
  | 0, p, i, h1, h2 => by
    have h2' : i < p := h2
    omega
  | k + 1, p, i, h1, h2 => by
    have h2' : i < (if p < e ∧ P (b p) = true then run P b e k (p + 1) else p) := h2
    by_cases q : p < e ∧ P (b p) = true
    · rw [if_pos q] at h2'
      by_cases c1 : i = p
      · rw [c1]
        exact q
      · exact run_in P b e k (p + 1) i (by omega) h2'
    · rw [if_neg q] at h2'
      omega
