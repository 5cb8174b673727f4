theorem lstI_s {q : Nat → Bool} {h : Int} (h0 : 0 ≤ h) : lstI q (h + 1).toNat = if q h.toNat = true then h else lstI q h.toNat := by
  rw [toNat_succ h0, lstI, show ((h.toNat : Nat) : Int) = h by omega]
theorem fstI_s {q : Nat → Bool} {h : Int} (h0 : 0 ≤ h) : fstI q (h + 1).toNat = if fstI q h.toNat = -4 then (if q h.toNat = true then h else -4) else fstI q h.toNat := by
  rw [toNat_succ h0, fstI, show ((h.toNat : Nat) : Int) = h by omega]
def pBn (ln br rs : Nat → Int) (L R : Int) (ed : Nat → Int) (bk : Int) (J : Nat) (p : Int) (h : Nat) : Bool := decide ((ln h = L ∧ 0 < rs h) ∧ p + br h < R) && brk ed bk (p + br h) J
theorem pBn_iff {ln br rs : Nat → Int} {L R : Int} {ed : Nat → Int} {bk : Int} {J : Nat} {p : Int} {h : Nat} : pBn ln br rs L R ed bk J p h = true ↔ ((ln h = L ∧ 0 < rs h) ∧ p + br h < R) ∧ brk ed bk (p + br h) J = true := by
  unfold pBn
  rw [Bool.and_eq_true, decide_eq_true_iff]
theorem pBn_pB {ln br rs : Nat → Int} {L R : Int} {ed : Nat → Int} {bk : Int} {J nH : Nat} {p : Int} (h : lstI (pE ln br rs L R p) nH = -4) : fstI (pBn ln br rs L R ed bk J p) nH = fstI (pB ln br rs L ed bk J p) nH := by
  refine fstI_congr (fun i hi => ?_)
  have h1 := lstI_none.mp h i hi
  have h2 : ¬ ((ln i = L ∧ 0 < rs i) ∧ R ≤ p + br i) := fun q => by rw [pE_iff.mpr q] at h1; cases h1
  cases hb : pB ln br rs L ed bk J p i with
  | true =>
    have h3 := pB_iff.mp hb
    exact pBn_iff.mpr ⟨⟨h3.1, by omega⟩, h3.2⟩
  | false =>
    refine Bool.eq_false_iff.mpr (fun q => ?_)
    have h3 := pBn_iff.mp q
    rw [pB_iff.mpr ⟨h3.1.1, h3.2⟩] at hb
    cases hb
theorem fst_keep {q : Nat → Bool} {h : Int} (h0 : 0 ≤ h) (hk : q h.toNat = false ∨ fstI q h.toNat ≠ -4) : fstI q h.toNat = fstI q (h + 1).toNat := by
  rw [fstI_s h0]
  by_cases e : fstI q h.toNat = -4
  · rw [if_pos e, if_neg (by rcases hk with z | z; rw [z]; decide; exact absurd e z), e]
  · rw [if_neg e]
theorem fst_take {q : Nat → Bool} {h : Int} (h0 : 0 ≤ h) (e : fstI q h.toNat = -4) (hq : q h.toNat = true) : h = fstI q (h + 1).toNat := by
  rw [fstI_s h0, if_pos e, if_pos hq]
theorem lst_keep {q : Nat → Bool} {h : Int} (h0 : 0 ≤ h) (hk : q h.toNat = false) : lstI q h.toNat = lstI q (h + 1).toNat := by
  rw [lstI_s h0, if_neg (by rw [hk]; decide)]
theorem lst_take {q : Nat → Bool} {h : Int} (h0 : 0 ≤ h) (hq : q h.toNat = true) : h = lstI q (h + 1).toNat := by
  rw [lstI_s h0, if_pos hq]
