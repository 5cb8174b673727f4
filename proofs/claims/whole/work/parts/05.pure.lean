/-! ===== plain words ===== -/
/-- each of the first J joints is br or more from pl -/
def brk (ed : Nat → Int) (br pl : Int) : Nat → Bool
  | 0 => true
  | j + 1 => brk ed br pl j && decide (br ≤ ed j - pl ∨ br ≤ pl - ed j)
theorem brk_iff {ed : Nat → Int} {br pl : Int} : ∀ {J : Nat}, brk ed br pl J = true ↔ ∀ i : Nat, i < J → br ≤ ed i - pl ∨ br ≤ pl - ed i
  | 0 => ⟨fun _ i hi => absurd hi (Nat.not_lt_zero i), fun _ => rfl⟩
  | j + 1 => by
    have ih := brk_iff (ed := ed) (br := br) (pl := pl) (J := j)
    simp only [brk, Bool.and_eq_true, decide_eq_true_eq, ih]
    constructor
    · intro h i hi
      rcases Nat.lt_or_ge i j with q | q
      · exact h.1 i q
      · have e1 : i = j := by omega
        subst e1; exact h.2
    · intro h
      exact ⟨fun i hi => h i (by omega), h j (by omega)⟩
/-- values that are far from the ends -/
def sm (f : Nat → Int) (N : Nat) : Prop := ∀ i : Nat, i < N → -100000000 ≤ f i ∧ f i ≤ 100000000
/-- the last, the first place below n at which q holds; -4: there is none -/
def lstI (q : Nat → Bool) : Nat → Int
  | 0 => -4
  | n + 1 => if q n = true then (n : Int) else lstI q n
def fstI (q : Nat → Bool) : Nat → Int
  | 0 => -4
  | n + 1 => if fstI q n = -4 then (if q n = true then (n : Int) else -4) else fstI q n
/-- the greatest v of 1 .. n at which q holds; -4: there is none -/
def cutI (q : Nat → Bool) : Nat → Int
  | 0 => -4
  | n + 1 => if q (n + 1) = true then ((n + 1 : Nat) : Int) else cutI q n
theorem lstI_hit {q : Nat → Bool} {h : Int} (h0 : 0 ≤ h) (hq : q h.toNat = true) : lstI q (h + 1).toNat = h := by
  rw [show (h + 1).toNat = h.toNat + 1 by omega, lstI, if_pos hq]
  omega
theorem lstI_miss {q : Nat → Bool} {h : Int} (h0 : 0 ≤ h) (hq : q h.toNat = false) : lstI q (h + 1).toNat = lstI q h.toNat := by
  rw [show (h + 1).toNat = h.toNat + 1 by omega, lstI, if_neg (by rw [hq]; decide)]
theorem cutI_hit {q : Nat → Bool} {h : Int} (h0 : 1 ≤ h) (hq : q h.toNat = true) : cutI q h.toNat = h := by
  obtain ⟨k, hk⟩ : ∃ k : Nat, h.toNat = k + 1 := ⟨h.toNat - 1, by omega⟩
  rw [hk] at hq ⊢
  rw [cutI, if_pos hq]
  omega
theorem cutI_miss {q : Nat → Bool} {h : Int} (h0 : 1 ≤ h) (hq : q h.toNat = false) : cutI q h.toNat = cutI q (h - 1).toNat := by
  obtain ⟨k, hk⟩ : ∃ k : Nat, h.toNat = k + 1 := ⟨h.toNat - 1, by omega⟩
  rw [show (h - 1).toNat = k by omega]
  rw [hk] at hq ⊢
  rw [cutI, if_neg (by rw [hq]; decide)]
theorem fstI_none {q : Nat → Bool} : ∀ {n : Nat}, fstI q n = -4 ↔ ∀ i : Nat, i < n → q i = false
  | 0 => ⟨fun _ i hi => absurd hi (Nat.not_lt_zero i), fun _ => rfl⟩
  | n + 1 => by
    have ih := fstI_none (q := q) (n := n)
    rw [fstI]
    constructor
    · intro h i hi
      by_cases hf : fstI q n = -4
      · rw [if_pos hf] at h
        by_cases hq : q n = true
        · rw [if_pos hq] at h; omega
        · rcases Nat.lt_or_ge i n with z | z
          · exact ih.mp hf i z
          · have e1 : i = n := by omega
            rw [e1]
            exact Bool.eq_false_iff.mpr hq
      · rw [if_neg hf] at h; exact absurd h hf
    · intro h
      rw [if_pos (ih.mpr (fun i hi => h i (by omega))), if_neg (by rw [h n (by omega)]; decide)]
theorem fstI_some {q : Nat → Bool} : ∀ {n h : Nat}, h < n → q h = true → (∀ i : Nat, i < h → q i = false) → fstI q n = h
  | 0, h, hh, _, _ => absurd hh (Nat.not_lt_zero h)
  | n + 1, h, hh, hq, hb => by
    rw [fstI]
    rcases Nat.lt_or_ge h n with z | z
    · have e1 := fstI_some z hq hb
      rw [if_neg (by rw [e1]; omega), e1]
    · have e1 : h = n := by omega
      subst e1
      rw [if_pos (fstI_none.mpr hb), if_pos hq]
theorem fstI_spec {q : Nat → Bool} : ∀ {n : Nat}, fstI q n = -4 ∨ ∃ h : Nat, fstI q n = h ∧ h < n ∧ q h = true ∧ ∀ i : Nat, i < h → q i = false
  | 0 => Or.inl rfl
  | n + 1 => by
    rcases fstI_spec (q := q) (n := n) with h | ⟨h, h1, h2, h3, h4⟩
    · by_cases hq : q n = true
      · refine Or.inr ⟨n, ?_, by omega, hq, fstI_none.mp h⟩
        rw [fstI, if_pos h, if_pos hq]
      · refine Or.inl ?_
        rw [fstI, if_pos h, if_neg hq]
    · exact Or.inr ⟨h, by rw [fstI, if_neg (by rw [h1]; omega), h1], by omega, h3, h4⟩
theorem lstI_none {q : Nat → Bool} : ∀ {n : Nat}, lstI q n = -4 ↔ ∀ i : Nat, i < n → q i = false
  | 0 => ⟨fun _ i hi => absurd hi (Nat.not_lt_zero i), fun _ => rfl⟩
  | n + 1 => by
    have ih := lstI_none (q := q) (n := n)
    rw [lstI]
    constructor
    · intro h i hi
      by_cases hq : q n = true
      · rw [if_pos hq] at h; omega
      · rw [if_neg hq] at h
        rcases Nat.lt_or_ge i n with z | z
        · exact ih.mp h i z
        · have e1 : i = n := by omega
          rw [e1]
          exact Bool.eq_false_iff.mpr hq
    · intro h
      rw [if_neg (by rw [h n (by omega)]; decide)]
      exact ih.mpr (fun i hi => h i (by omega))
theorem lstI_spec {q : Nat → Bool} : ∀ {n : Nat}, lstI q n = -4 ∨ ∃ h : Nat, lstI q n = h ∧ h < n ∧ q h = true ∧ ∀ i : Nat, h < i → i < n → q i = false
  | 0 => Or.inl rfl
  | n + 1 => by
    by_cases hq : q n = true
    · exact Or.inr ⟨n, by rw [lstI, if_pos hq], by omega, hq, fun i h1 h2 => absurd h1 (by omega)⟩
    · rcases lstI_spec (q := q) (n := n) with h | ⟨h, h1, h2, h3, h4⟩
      · exact Or.inl (by rw [lstI, if_neg hq]; exact h)
      · refine Or.inr ⟨h, by rw [lstI, if_neg hq]; exact h1, by omega, h3, fun i g1 g2 => ?_⟩
        rcases Nat.lt_or_ge i n with z | z
        · exact h4 i g1 z
        · have e1 : i = n := by omega
          rw [e1]
          exact Bool.eq_false_iff.mpr hq
/-- a heap of the length that has slates; one that ends the course; one whose joint is broken -/
def srv (ln rs : Nat → Int) (L : Int) (h : Nat) : Bool := decide (ln h = L ∧ 0 < rs h)
def pE (ln br rs : Nat → Int) (L R p : Int) (h : Nat) : Bool := srv ln rs L h && decide (R ≤ p + br h)
def pB (ln br rs : Nat → Int) (L : Int) (ed : Nat → Int) (bk : Int) (J : Nat) (p : Int) (h : Nat) : Bool := srv ln rs L h && brk ed bk (p + br h) J
theorem srv_iff {ln rs : Nat → Int} {L : Int} {h : Nat} : srv ln rs L h = true ↔ ln h = L ∧ 0 < rs h := by simp [srv]
theorem pE_iff {ln br rs : Nat → Int} {L R p : Int} {h : Nat} : pE ln br rs L R p h = true ↔ (ln h = L ∧ 0 < rs h) ∧ R ≤ p + br h := by simp [pE, srv]
theorem pB_iff {ln br rs : Nat → Int} {L : Int} {ed : Nat → Int} {bk : Int} {J : Nat} {p : Int} {h : Nat} : pB ln br rs L ed bk J p h = true ↔ (ln h = L ∧ 0 < rs h) ∧ brk ed bk (p + br h) J = true := by simp [pB, srv]
theorem b_no {b : Bool} {P : Prop} (h : b = true ↔ P) (hp : ¬ P) : b = false := Bool.eq_false_iff.mpr (fun q => hp (h.mp q))
theorem off_ne {x a b : Nat} (h : a ≠ b) : x + a ≠ x + b := fun q => h (Nat.add_left_cancel q)
theorem off_nr {x a : Nat} (h : 0 < a) : x + a ≠ x := fun q => by omega
theorem off_nl {x a : Nat} (h : 0 < a) : x ≠ x + a := fun q => by omega
