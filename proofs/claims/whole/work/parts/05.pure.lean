/-! ===== plain words ===== -/
/-- each of the first J joints is br or more from pl -/
def brk (ed : Nat → Int) (br pl : Int) : Nat → Bool
  | 0 => true
  | j + 1 => brk ed br pl j && decide (br ≤ ed j - pl ∨ br ≤ pl - ed j)
theorem brk_iff {ed : Nat → Int} {br pl : Int} : ∀ {J : Nat}, brk ed br pl J = true ↔ ∀ i : Nat, i < J → br ≤ ed i - pl ∨ br ≤ pl - ed i
  | 0 => ⟨fun _ i hi => absurd hi (Nat.not_lt_zero i), fun _ => rfl⟩
  | j + 1 => by
    have ih := brk_iff (ed := ed) (br := br) (pl := pl) (J := j)
    simp only [brk, Bool.and_eq_true, decide_eq_true_eq, ih]
    constructor
    · intro h i hi
      rcases Nat.lt_or_ge i j with q | q
      · exact h.1 i q
      · have e1 : i = j := by omega
        subst e1; exact h.2
    · intro h
      exact ⟨fun i hi => h i (by omega), h j (by omega)⟩
