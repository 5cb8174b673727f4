theorem rdC_none {tx : Nat → Int} {tl f i : Nat} {P : pT} (h1 : i < tl) (h : itC tx tl i P = none) : rdC tx tl (f + 1) i P = ((i : Int), P) := by rw [rdC, if_pos h1, h]
theorem rdC_some {tx : Nat → Int} {tl f i e : Nat} {P P1 : pT} (h1 : i < tl) (h : itC tx tl i P = some (e, P1)) : rdC tx tl (f + 1) i P = rdC tx tl f e P1 := by rw [rdC, if_pos h1, h]
theorem rdC_end {tx : Nat → Int} {tl f i : Nat} {P : pT} (h1 : tl ≤ i) : rdC tx tl f i P = (-4, P) := by
  cases f with
  | zero => rfl
  | succ f => rw [rdC, if_neg (by omega)]
theorem itC_len {tx : Nat → Int} {tl i e : Nat} {P P1 : pT} (h1 : i < tl) (h : itC tx tl i P = some (e, P1)) : i + 1 ≤ e ∧ e ≤ tl := by
  obtain ⟨ns, h2, -⟩ := itC_some h
  obtain ⟨-, h3, h4, -⟩ := nmA_len h2
  exact ⟨by omega, h4 (by omega)⟩
theorem itC_good {tx : Nat → Int} {tl i e : Nat} {P P1 : pT} (hg : goodP P) (h : itC tx tl i P = some (e, P1)) : goodP P1 := by
  obtain ⟨ns, -, h2⟩ := itC_some h
  exact takeC_good hg h2
theorem goodP_0 (ln br sl : Nat → Int) : goodP (0, ln, br, sl, 100, 120, 6, 4, 0) := by
  refine ⟨(by decide : (0 : Int) ≤ 0 ∧ (0 : Int) ≤ 8), fun i hi => ?_, fun i j _ hj => ?_, (by decide : (20 : Int) ≤ 100 ∧ (100 : Int) ≤ 400), (by decide : (40 : Int) ≤ 120 ∧ (120 : Int) ≤ 240), (by decide : (1 : Int) ≤ 6 ∧ (6 : Int) ≤ 10), (by decide : (1 : Int) ≤ 4 ∧ (4 : Int) ≤ 9), (by decide : (0 : Int) ≤ 0 ∧ (0 : Int) ≤ 9)⟩
  · have : (i : Int) < 0 := hi
    omega
  · have : (j : Int) < 0 := hj
    omega
