theorem getD_snoc_lt {a : List Int} {x : Int} {i : Nat} (h : i < a.length) : (a ++ [x]).getD i 0 = a.getD i 0 := by
  simp [List.getD_eq_getElem?_getD, List.getElem?_append_left h]
theorem getD_snoc_at {a : List Int} {x : Int} : (a ++ [x]).getD a.length 0 = x := by
  simp [List.getD_eq_getElem?_getD]
theorem up_nums {nb : Nat → Int} {acc : List Int} {k : Nat} {x : Int} (hk : k = acc.length) (h : ∀ i : Nat, i < acc.length → nb i = acc.getD i 0) : ∀ i : Nat, i < (acc ++ [x]).length → va_up nb k x i = (acc ++ [x]).getD i 0 := by
  intro i hi
  rw [List.length_append] at hi
  simp only [List.length_cons, List.length_nil] at hi
  unfold va_up
  by_cases e : i = k
  · rw [if_pos e, e, hk, getD_snoc_at]
  · rw [if_neg e, getD_snoc_lt (by omega)]; exact h i (by omega)
theorem itC_some {tx : Nat → Int} {tl i e : Nat} {P P1 : pT} (h : itC tx tl i P = some (e, P1)) : ∃ ns : List Int, nmA tx tl (nOf (tx i)) (i + 1) = some (ns, e) ∧ takeC (tx i) (ns.getD 0 0) (ns.getD 1 0) (ns.getD 2 0) P = some P1 := by
  unfold itC at h
  cases hz : nmA tx tl (nOf (tx i)) (i + 1) with
  | none => rw [hz] at h; cases h
  | some z =>
    rw [hz] at h
    have h' : (takeC (tx i) (z.1.getD 0 0) (z.1.getD 1 0) (z.1.getD 2 0) P).map (fun Q => (z.2, Q)) = some (e, P1) := h
    cases hy : takeC (tx i) (z.1.getD 0 0) (z.1.getD 1 0) (z.1.getD 2 0) P with
    | none => rw [hy] at h'; cases h'
    | some Q =>
      rw [hy] at h'
      have h2 : (z.2, Q) = (e, P1) := Option.some.inj h'
      cases h2
      exact ⟨z.1, rfl, hy⟩
theorem itC_none {tx : Nat → Int} {tl i : Nat} {P : pT} (h : itC tx tl i P = none) : nmA tx tl (nOf (tx i)) (i + 1) = none ∨ ∃ (ns : List Int) (e : Nat), nmA tx tl (nOf (tx i)) (i + 1) = some (ns, e) ∧ takeC (tx i) (ns.getD 0 0) (ns.getD 1 0) (ns.getD 2 0) P = none := by
  unfold itC at h
  cases hz : nmA tx tl (nOf (tx i)) (i + 1) with
  | none => exact Or.inl rfl
  | some z =>
    rw [hz] at h
    have h' : (takeC (tx i) (z.1.getD 0 0) (z.1.getD 1 0) (z.1.getD 2 0) P).map (fun Q => (z.2, Q)) = none := h
    refine Or.inr ⟨z.1, z.2, rfl, ?_⟩
    cases hy : takeC (tx i) (z.1.getD 0 0) (z.1.getD 1 0) (z.1.getD 2 0) P with
    | none => rfl
    | some Q => rw [hy] at h'; cases h'
