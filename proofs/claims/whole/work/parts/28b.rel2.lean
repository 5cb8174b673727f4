theorem takeC_104 {a b c : Int} {P : pT} : takeC 104 a b c P = if (20 ≤ a ∧ a ≤ 60) ∧ (10 ≤ b ∧ b ≤ 60) ∧ (1 ≤ c ∧ c ≤ 99) then addC P a b c else none := by
  unfold takeC; rw [if_pos rfl]
theorem takeC_114 {a b c : Int} {P : pT} : takeC 114 a b c P = if (20 ≤ a ∧ a ≤ 400) ∧ (40 ≤ b ∧ b ≤ 240) then some (P.1, P.2.1, P.2.2.1, P.2.2.2.1, a, b, P.2.2.2.2.2.2) else none := by
  unfold takeC; rw [if_neg (by decide), if_pos rfl]
theorem takeC_112 {a b c : Int} {P : pT} : takeC 112 a b c P = if (1 ≤ a ∧ a ≤ 10) ∧ (1 ≤ b ∧ b ≤ 9) then some (P.1, P.2.1, P.2.2.1, P.2.2.2.1, P.2.2.2.2.1, P.2.2.2.2.2.1, a, b, P.2.2.2.2.2.2.2.2) else none := by
  unfold takeC; rw [if_neg (by decide), if_neg (by decide), if_pos rfl]
theorem takeC_105 {a b c : Int} {P : pT} : takeC 105 a b c P = if 0 ≤ a ∧ a ≤ 9 then some (P.1, P.2.1, P.2.2.1, P.2.2.2.1, P.2.2.2.2.1, P.2.2.2.2.2.1, P.2.2.2.2.2.2.1, P.2.2.2.2.2.2.2.1, a) else none := by
  unfold takeC; rw [if_neg (by decide), if_neg (by decide), if_neg (by decide), if_pos rfl]
theorem takeC_oth {kd a b c : Int} {P : pT} (h1 : kd ≠ 104) (h2 : kd ≠ 105) (h3 : kd ≠ 112) (h4 : kd ≠ 114) : takeC kd a b c P = none := by
  unfold takeC; rw [if_neg h1, if_neg h4, if_neg h3, if_neg h2]
theorem itC_oth {tx : Nat → Int} {tl i : Nat} {P : pT} (h1 : tx i ≠ 104) (h2 : tx i ≠ 105) (h3 : tx i ≠ 112) (h4 : tx i ≠ 114) : itC tx tl i P = none := by
  unfold itC
  cases nmA tx tl (nOf (tx i)) (i + 1) with
  | none => rfl
  | some z => show Option.map _ _ = none; rw [takeC_oth h1 h2 h3 h4]; rfl
theorem relP_r {RC : Int} {rh rst : Nat → Int} {P : pT} {a b : Int} (h : relP RC rh rst P) : relP RC rh (va_up (va_up rst 0 a) 1 b) (P.1, P.2.1, P.2.2.1, P.2.2.2.1, a, b, P.2.2.2.2.2.2) := by
  obtain ⟨h1, ⟨pi, h2⟩, h3, h4, h5, h6, h7⟩ := h
  refine ⟨h1, ⟨pi, h2⟩, ?_, ?_, ?_, ?_, ?_⟩
  · rw [va_up_ne _ _ (by decide), va_up_self]
  · rw [va_up_self]
  · rw [va_up_ne _ _ (by decide), va_up_ne _ _ (by decide)]; exact h5
  · rw [va_up_ne _ _ (by decide), va_up_ne _ _ (by decide)]; exact h6
  · rw [va_up_ne _ _ (by decide), va_up_ne _ _ (by decide)]; exact h7
theorem relP_p {RC : Int} {rh rst : Nat → Int} {P : pT} {a b : Int} (h : relP RC rh rst P) : relP RC rh (va_up (va_up rst 2 a) 3 b) (P.1, P.2.1, P.2.2.1, P.2.2.2.1, P.2.2.2.2.1, P.2.2.2.2.2.1, a, b, P.2.2.2.2.2.2.2.2) := by
  obtain ⟨h1, ⟨pi, h2⟩, h3, h4, h5, h6, h7⟩ := h
  refine ⟨h1, ⟨pi, h2⟩, ?_, ?_, ?_, ?_, ?_⟩
  · rw [va_up_ne _ _ (by decide), va_up_ne _ _ (by decide)]; exact h3
  · rw [va_up_ne _ _ (by decide), va_up_ne _ _ (by decide)]; exact h4
  · rw [va_up_ne _ _ (by decide), va_up_self]
  · rw [va_up_self]
  · rw [va_up_ne _ _ (by decide), va_up_ne _ _ (by decide)]; exact h7
theorem relP_i {RC : Int} {rh rst : Nat → Int} {P : pT} {a : Int} (h : relP RC rh rst P) : relP RC rh (va_up rst 4 a) (P.1, P.2.1, P.2.2.1, P.2.2.2.1, P.2.2.2.2.1, P.2.2.2.2.2.1, P.2.2.2.2.2.2.1, P.2.2.2.2.2.2.2.1, a) := by
  obtain ⟨h1, ⟨pi, h2⟩, h3, h4, h5, h6, h7⟩ := h
  refine ⟨h1, ⟨pi, h2⟩, ?_, ?_, ?_, ?_, ?_⟩
  · rw [va_up_ne _ _ (by decide)]; exact h3
  · rw [va_up_ne _ _ (by decide)]; exact h4
  · rw [va_up_ne _ _ (by decide)]; exact h5
  · rw [va_up_ne _ _ (by decide)]; exact h6
  · rw [va_up_self]
theorem relP_rng {RC : Int} {rh rst : Nat → Int} {P : pT} (hg : goodP P) (h : relP RC rh rst P) (i : Nat) (hi : (i : Int) < RC) : (20 ≤ rh (3 * i) ∧ rh (3 * i) ≤ 60) ∧ (10 ≤ rh (3 * i + 1) ∧ rh (3 * i + 1) ≤ 60) ∧ (1 ≤ rh (3 * i + 2) ∧ rh (3 * i + 2) ≤ 999) := by
  obtain ⟨h1, ⟨pi, h2⟩, -⟩ := h
  obtain ⟨a1, a2, a3, a4⟩ := h2.1 i (by omega)
  rw [a2, a3, a4]
  exact hg.2.1 (pi i) a1
theorem dgt_ifI {tx : Nat → Int} {tl i : Nat} : (if dgt tx tl i = true then (1 : Int) else 0) = if i < tl ∧ 48 ≤ tx i ∧ tx i ≤ 57 then 1 else 0 := by
  by_cases h : i < tl ∧ 48 ≤ tx i ∧ tx i ≤ 57
  · rw [if_pos h, if_pos (dgt_iff.mpr h)]
  · rw [if_neg h, if_neg (fun q => h (dgt_iff.mp q))]
theorem nOf_h : nOf 104 = 3 := by decide
theorem nOf_r : nOf 114 = 2 := by decide
theorem nOf_p : nOf 112 = 2 := by decide
theorem nOf_i : nOf 105 = 1 := by decide
theorem getD_rng {ns : List Int} (h : ∀ x ∈ ns, 0 ≤ x ∧ x ≤ 1000) (i : Nat) : 0 ≤ ns.getD i 0 ∧ ns.getD i 0 ≤ 1000 := by
  rw [List.getD_eq_getElem?_getD]
  cases e : ns[i]? with
  | none => decide
  | some x => exact h x (List.mem_of_getElem? e)
