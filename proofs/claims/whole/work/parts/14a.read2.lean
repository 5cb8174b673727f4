theorem getD_snoc_lt {a : List Int} {x : Int} {i : Nat} (h : i < a.length) : (a ++ [x]).getD i 0 = a.getD i 0 := by
  simp [List.getD_eq_getElem?_getD, List.getElem?_append_left h]
theorem getD_snoc_at {a : List Int} {x : Int} : (a ++ [x]).getD a.length 0 = x := by
  simp [List.getD_eq_getElem?_getD]
theorem up_nums {nb : Nat → Int} {acc : List Int} {k : Nat} {x : Int} (hk : k = acc.length) (h : ∀ i : Nat, i < acc.length → nb i = acc.getD i 0) : ∀ i : Nat, i < (acc ++ [x]).length → va_up nb k x i = (acc ++ [x]).getD i 0 := by
  intro i hi
  rw [List.length_append] at hi
  simp only [List.length_cons, List.length_nil] at hi
  unfold va_up
  by_cases e : i = k
  · rw [if_pos e, e, hk, getD_snoc_at]
  · rw [if_neg e, getD_snoc_lt (by omega)]; exact h i (by omega)
theorem itC_some {tx : Nat → Int} {tl i e : Nat} {P P1 : pT} (h : itC tx tl i P = some (e, P1)) : ∃ ns : List Int, nmA tx tl (nOf (tx i)) (i + 1) = some (ns, e) ∧ takeC (tx i) (ns.getD 0 0) (ns.getD 1 0) (ns.getD 2 0) P = some P1 := by
  unfold itC at h
  cases hz : nmA tx tl (nOf (tx i)) (i + 1) with
  | none => rw [hz] at h; cases h
  | some z =>
    rw [hz] at h
    have h' : (takeC (tx i) (z.1.getD 0 0) (z.1.getD 1 0) (z.1.getD 2 0) P).map (fun Q => (z.2, Q)) = some (e, P1) := h
    cases hy : takeC (tx i) (z.1.getD 0 0) (z.1.getD 1 0) (z.1.getD 2 0) P with
    | none => rw [hy] at h'; cases h'
    | some Q =>
      rw [hy] at h'
      have h2 : (z.2, Q) = (e, P1) := Option.some.inj h'
      cases h2
      exact ⟨z.1, rfl, hy⟩
theorem itC_none {tx : Nat → Int} {tl i : Nat} {P : pT} (h : itC tx tl i P = none) : nmA tx tl (nOf (tx i)) (i + 1) = none ∨ ∃ (ns : List Int) (e : Nat), nmA tx tl (nOf (tx i)) (i + 1) = some (ns, e) ∧ takeC (tx i) (ns.getD 0 0) (ns.getD 1 0) (ns.getD 2 0) P = none := by
  unfold itC at h
  cases hz : nmA tx tl (nOf (tx i)) (i + 1) with
  | none => exact Or.inl rfl
  | some z =>
    rw [hz] at h
    have h' : (takeC (tx i) (z.1.getD 0 0) (z.1.getD 1 0) (z.1.getD 2 0) P).map (fun Q => (z.2, Q)) = none := h
    refine Or.inr ⟨z.1, z.2, rfl, ?_⟩
    cases hy : takeC (tx i) (z.1.getD 0 0) (z.1.getD 1 0) (z.1.getD 2 0) P with
    | none => rfl
    | some Q => rw [hy] at h'; cases h'
/-- heaps stand in their order -/
def srt (nH : Int) (ln br : Nat → Int) : Prop := ∀ i j : Nat, i < j → (j : Int) < nH → ln j < ln i ∨ (ln i = ln j ∧ br j < br i)
def goodP (P : pT) : Prop := (0 ≤ P.1 ∧ P.1 ≤ 8) ∧ (∀ i : Nat, (i : Int) < P.1 → (20 ≤ P.2.1 i ∧ P.2.1 i ≤ 60) ∧ (10 ≤ P.2.2.1 i ∧ P.2.2.1 i ≤ 60) ∧ (1 ≤ P.2.2.2.1 i ∧ P.2.2.2.1 i ≤ 999)) ∧ srt P.1 P.2.1 P.2.2.1 ∧
  (20 ≤ P.2.2.2.2.1 ∧ P.2.2.2.2.1 ≤ 400) ∧ (40 ≤ P.2.2.2.2.2.1 ∧ P.2.2.2.2.2.1 ≤ 240) ∧ (1 ≤ P.2.2.2.2.2.2.1 ∧ P.2.2.2.2.2.2.1 ≤ 10) ∧ (1 ≤ P.2.2.2.2.2.2.2.1 ∧ P.2.2.2.2.2.2.2.1 ≤ 9) ∧ (0 ≤ P.2.2.2.2.2.2.2.2 ∧ P.2.2.2.2.2.2.2.2 ≤ 9)
theorem plI_spec (ln br : Nat → Int) (l b : Int) (nH : Nat) : ∃ p : Nat, plI ln br l b nH = p ∧ p ≤ nH ∧ (∀ i : Nat, i < p → l < ln i ∨ (ln i = l ∧ b < br i)) ∧ (p < nH → ¬ (l < ln p ∨ (ln p = l ∧ b < br p))) := by
  unfold plI
  rcases fstI_spec (q := plQ ln br l b) (n := nH) with h | ⟨p, h1, h2, h3, h4⟩
  · rw [if_pos h]
    exact ⟨nH, rfl, Nat.le_refl _, fun i hi => plQ_f.mp (fstI_none.mp h i hi), fun z => absurd z (Nat.lt_irrefl _)⟩
  · rw [if_neg (by rw [h1]; omega), h1]
    exact ⟨p, rfl, by omega, fun i hi => plQ_f.mp (h4 i hi), fun _ => plQ_iff.mp h3⟩
theorem insF_lt {f : Nat → Int} {p nH j : Nat} {x : Int} (h : j < p) : insF f p x nH j = f j := by
  unfold insF; rw [if_neg (by omega), if_neg (by omega)]
theorem insF_at {f : Nat → Int} {p nH : Nat} {x : Int} : insF f p x nH p = x := by
  unfold insF; rw [if_pos rfl]
theorem insF_gt {f : Nat → Int} {p nH j : Nat} {x : Int} (h : p < j) (h2 : j ≤ nH) : insF f p x nH j = f (j - 1) := by
  unfold insF; rw [if_neg (by omega), if_pos ⟨h, h2⟩]
theorem addC_good {P P1 : pT} {l b c : Int} (hl : 20 ≤ l ∧ l ≤ 60) (hb : 10 ≤ b ∧ b ≤ 60) (hc : 1 ≤ c ∧ c ≤ 99) (hg : goodP P) (h : addC P l b c = some P1) : goodP P1 := by
  obtain ⟨nH, ln, br, sl, rest⟩ := P
  obtain ⟨g1, g2, g3, g4⟩ := hg
  dsimp only at g1 g2 g3 g4
  obtain ⟨p, e, hp, hlo, hat⟩ := plI_spec ln br l b nH.toNat
  unfold addC at h
  dsimp only at h
  rw [e] at h
  simp only [Int.toNat_natCast] at h
  by_cases c1 : (p : Int) < nH ∧ ln p = l ∧ br p = b
  · rw [if_pos c1] at h
    by_cases c2 : sl p + c ≤ 999
    · rw [if_pos c2] at h
      cases h
      refine ⟨g1, fun i hi => ?_, g3, g4⟩
      obtain ⟨k1, k2, k3⟩ := g2 i hi
      refine ⟨k1, k2, ?_⟩
      show 1 ≤ va_up sl p (sl p + c) i ∧ va_up sl p (sl p + c) i ≤ 999
      unfold va_up
      split
      · rename_i e2; rw [e2] at k3; omega
      · exact k3
    · rw [if_neg c2] at h; cases h
  · rw [if_neg c1] at h
    by_cases c2 : nH < 8
    · rw [if_pos c2] at h
      cases h
      refine ⟨by show 0 ≤ nH + 1 ∧ nH + 1 ≤ 8; omega, fun i hi => ?_, fun i j hij hj => ?_, g4⟩
      · have hi' : (i : Int) < nH + 1 := hi
        show (20 ≤ insF ln p l nH.toNat i ∧ insF ln p l nH.toNat i ≤ 60) ∧ (10 ≤ insF br p b nH.toNat i ∧ insF br p b nH.toNat i ≤ 60) ∧ (1 ≤ insF sl p c nH.toNat i ∧ insF sl p c nH.toNat i ≤ 999)
        rcases Nat.lt_trichotomy i p with q | q | q
        · rw [insF_lt q, insF_lt q, insF_lt q]; exact g2 i (by omega)
        · subst q; rw [insF_at, insF_at, insF_at]; exact ⟨hl, hb, by omega⟩
        · rw [insF_gt q (by omega), insF_gt q (by omega), insF_gt q (by omega)]; exact g2 (i - 1) (by omega)
      · have hj' : (j : Int) < nH + 1 := hj
        show insF ln p l nH.toNat j < insF ln p l nH.toNat i ∨ (insF ln p l nH.toNat i = insF ln p l nH.toNat j ∧ insF br p b nH.toNat j < insF br p b nH.toNat i)
        rcases Nat.lt_trichotomy i p with q | q | q
        · rcases Nat.lt_trichotomy j p with r | r | r
          · rw [insF_lt q, insF_lt q, insF_lt r, insF_lt r]; exact g3 i j hij (by omega)
          · subst r; rw [insF_lt q, insF_lt q, insF_at, insF_at]; have := hlo i q; omega
          · rw [insF_lt q, insF_lt q, insF_gt r (by omega), insF_gt r (by omega)]; exact g3 i (j - 1) (by omega) (by omega)
        · subst q
          rw [insF_at, insF_at, insF_gt hij (by omega), insF_gt hij (by omega)]
          have h1 := hat (by omega)
          by_cases e2 : j - 1 = i
          · rw [e2]; omega
          · have h3 : ln (j - 1) < ln i ∨ (ln i = ln (j - 1) ∧ br (j - 1) < br i) := g3 i (j - 1) (by omega) (by omega)
            omega
        · rw [insF_gt q (by omega), insF_gt q (by omega), insF_gt (by omega) (by omega), insF_gt (by omega) (by omega)]
          exact g3 (i - 1) (j - 1) (by omega) (by omega)
    · rw [if_neg c2] at h; cases h
theorem takeC_good {P P1 : pT} {kd a b c : Int} (hg : goodP P) (h : takeC kd a b c P = some P1) : goodP P1 := by
  unfold takeC at h
  by_cases k1 : kd = 104
  · rw [if_pos k1] at h
    by_cases r : (20 ≤ a ∧ a ≤ 60) ∧ (10 ≤ b ∧ b ≤ 60) ∧ (1 ≤ c ∧ c ≤ 99)
    · rw [if_pos r] at h; exact addC_good r.1 r.2.1 r.2.2 hg h
    · rw [if_neg r] at h; cases h
  · rw [if_neg k1] at h
    obtain ⟨g1, g2, g3, g4, g5, g6, g7, g8⟩ := hg
    by_cases k2 : kd = 114
    · rw [if_pos k2] at h
      by_cases r : (20 ≤ a ∧ a ≤ 400) ∧ (40 ≤ b ∧ b ≤ 240)
      · rw [if_pos r] at h; cases h; exact ⟨g1, g2, g3, r.1, r.2, g6, g7, g8⟩
      · rw [if_neg r] at h; cases h
    · rw [if_neg k2] at h
      by_cases k3 : kd = 112
      · rw [if_pos k3] at h
        by_cases r : (1 ≤ a ∧ a ≤ 10) ∧ (1 ≤ b ∧ b ≤ 9)
        · rw [if_pos r] at h; cases h; exact ⟨g1, g2, g3, g4, g5, r.1, r.2, g8⟩
        · rw [if_neg r] at h; cases h
      · rw [if_neg k3] at h
        by_cases k4 : kd = 105
        · rw [if_pos k4] at h
          by_cases r : 0 ≤ a ∧ a ≤ 9
          · rw [if_pos r] at h; cases h; exact ⟨g1, g2, g3, g4, g5, g6, g7, r⟩
          · rw [if_neg r] at h; cases h
        · rw [if_neg k4] at h; cases h
