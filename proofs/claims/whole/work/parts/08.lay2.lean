def rmF (wi hp f : Int) : Int := if 20 < wi - hp * f / 10 then wi - hp * f / 10 else 20
theorem rmF_ge (wi hp f : Int) : 20 ≤ rmF wi hp f := by unfold rmF; split <;> omega
theorem fstI_r (q : Nat → Bool) (n : Nat) : fstI q n = -4 ∨ (0 ≤ fstI q n ∧ fstI q n < n) := by
  rcases fstI_spec (q := q) (n := n) with h | ⟨h, h1, h2, -, -⟩
  · exact Or.inl h
  · exact Or.inr (by rw [h1]; omega)
theorem lstI_r (q : Nat → Bool) (n : Nat) : lstI q n = -4 ∨ (0 ≤ lstI q n ∧ lstI q n < n) := by
  rcases lstI_spec (q := q) (n := n) with h | ⟨h, h1, h2, -, -⟩
  · exact Or.inl h
  · exact Or.inr (by rw [h1]; omega)
theorem cutI_r (q : Nat → Bool) (n : Nat) : cutI q n = -4 ∨ (1 ≤ cutI q n ∧ cutI q n ≤ n) := by
  rcases cutI_spec (q := q) (n := n) with h | h
  · exact Or.inl h
  · exact Or.inr ⟨h.1, h.2.1⟩
theorem fstI_q {q : Nat → Bool} {n : Nat} (h : 0 ≤ fstI q n) : q (fstI q n).toNat = true := by
  rcases fstI_spec (q := q) (n := n) with z | ⟨k, h1, h2, h3, -⟩
  · omega
  · rw [h1, Int.toNat_natCast]; exact h3
theorem lstI_q {q : Nat → Bool} {n : Nat} (h : 0 ≤ lstI q n) : q (lstI q n).toNat = true := by
  rcases lstI_spec (q := q) (n := n) with z | ⟨k, h1, h2, h3, -⟩
  · omega
  · rw [h1, Int.toNat_natCast]; exact h3
theorem fstI_congr {q q' : Nat → Bool} : ∀ {n : Nat}, (∀ i : Nat, i < n → q i = q' i) → fstI q n = fstI q' n
  | 0, _ => rfl
  | n + 1, h => by
    rw [fstI, fstI, fstI_congr (fun i hi => h i (by omega)), h n (by omega)]
theorem lstI_congr {q q' : Nat → Bool} : ∀ {n : Nat}, (∀ i : Nat, i < n → q i = q' i) → lstI q n = lstI q' n
  | 0, _ => rfl
  | n + 1, h => by
    rw [lstI, lstI, lstI_congr (fun i hi => h i (by omega)), h n (by omega)]
theorem pj_congr {nH : Nat} {ln br rs rs' : Nat → Int} {L : Int} {ed : Nat → Int} {bk : Int} {J : Nat} {p : Int} (h : ∀ i : Nat, i < nH → rs i = rs' i) : pj nH ln br rs L ed bk J p = pj nH ln br rs' L ed bk J p := by
  have e1 : fstI (pB ln br rs L ed bk J p) nH = fstI (pB ln br rs' L ed bk J p) nH := fstI_congr (fun i hi => by simp only [pB, srv, h i hi])
  have e2 : fstI (srv ln rs L) nH = fstI (srv ln rs' L) nH := fstI_congr (fun i hi => by simp only [srv, h i hi])
  unfold pj
  rw [e1, e2]
theorem layG_congr {nH : Nat} {ln br : Nat → Int} {L R : Int} {ed : Nat → Int} {bk : Int} {J : Nat} : ∀ (f : Nat) (rs rs' : Nat → Int) (p : Int), (∀ i : Nat, i < nH → rs i = rs' i) → layG nH ln br L R ed bk J f rs p = layG nH ln br L R ed bk J f rs' p
  | 0, _, _, _, _ => rfl
  | f + 1, rs, rs', p, h => by
    have e1 : lstI (pE ln br rs L R p) nH = lstI (pE ln br rs' L R p) nH := lstI_congr (fun i hi => by simp only [pE, srv, h i hi])
    rw [layG, layG, e1, pj_congr h]
    by_cases h1 : lstI (pE ln br rs' L R p) nH = -4
    · rw [if_pos h1, if_pos h1]
      cases hp : pj nH ln br rs' L ed bk J p with
      | none => rfl
      | some x =>
        show Option.map _ _ = Option.map _ _
        rw [layG_congr f (va_up rs x.1 (rs x.1 - 1)) (va_up rs' x.1 (rs' x.1 - 1)) (p + x.2) (fun i hi => by
          unfold va_up
          by_cases hx : i = x.1
          · rw [if_pos hx, if_pos hx, ← hx, h i hi]
          · rw [if_neg hx, if_neg hx, h i hi])]
    · rw [if_neg h1, if_neg h1]
theorem layG_end {nH : Nat} {ln br rs : Nat → Int} {L R : Int} {ed : Nat → Int} {bk : Int} {J f : Nat} {p : Int} {tl : sL} (h : layG nH ln br L R ed bk J (f + 1) rs p = some tl) (h1 : 0 ≤ lstI (pE ln br rs L R p) nH) : tl = [((lstI (pE ln br rs L R p) nH).toNat, R - p)] := by
  rw [layG, if_neg (by omega)] at h
  exact (Option.some.inj h).symm
theorem layG_step {nH : Nat} {ln br rs : Nat → Int} {L R : Int} {ed : Nat → Int} {bk : Int} {J f : Nat} {p : Int} {tl : sL} (h : layG nH ln br L R ed bk J (f + 1) rs p = some tl) (h1 : lstI (pE ln br rs L R p) nH < 0) :
    ∃ (x : Nat × Int) (r : sL), pj nH ln br rs L ed bk J p = some x ∧ tl = x :: r ∧ layG nH ln br L R ed bk J f (va_up rs x.1 (rs x.1 - 1)) (p + x.2) = some r := by
  have hr := lstI_r (pE ln br rs L R p) nH
  rw [layG, if_pos (by omega)] at h
  cases hp : pj nH ln br rs L ed bk J p with
  | none => rw [hp] at h; cases h
  | some x =>
    rw [hp] at h
    have h' : Option.map (fun r => x :: r) (layG nH ln br L R ed bk J f (va_up rs x.1 (rs x.1 - 1)) (p + x.2)) = some tl := h
    cases hz : layG nH ln br L R ed bk J f (va_up rs x.1 (rs x.1 - 1)) (p + x.2) with
    | none => rw [hz] at h'; cases h'
    | some r =>
      rw [hz] at h'
      exact ⟨x, r, rfl, (Option.some.inj h').symm, hz⟩
theorem layG_no {nH : Nat} {ln br rs : Nat → Int} {L R : Int} {ed : Nat → Int} {bk : Int} {J f : Nat} {p : Int} (h : layG nH ln br L R ed bk J (f + 1) rs p = none) :
    lstI (pE ln br rs L R p) nH = -4 ∧ (pj nH ln br rs L ed bk J p = none ∨ ∃ x : Nat × Int, pj nH ln br rs L ed bk J p = some x ∧ layG nH ln br L R ed bk J f (va_up rs x.1 (rs x.1 - 1)) (p + x.2) = none) := by
  by_cases h1 : lstI (pE ln br rs L R p) nH = -4
  · rw [layG, if_pos h1] at h
    refine ⟨h1, ?_⟩
    cases hp : pj nH ln br rs L ed bk J p with
    | none => exact Or.inl rfl
    | some x =>
      rw [hp] at h
      have h' : Option.map (fun r => x :: r) (layG nH ln br L R ed bk J f (va_up rs x.1 (rs x.1 - 1)) (p + x.2)) = none := h
      refine Or.inr ⟨x, rfl, ?_⟩
      cases hz : layG nH ln br L R ed bk J f (va_up rs x.1 (rs x.1 - 1)) (p + x.2) with
      | none => rfl
      | some r => rw [hz] at h'; cases h'
  · rw [layG, if_neg h1] at h; cases h
/-- a slate with a joint leaves room -/
theorem pj_fits {nH : Nat} {ln br rs : Nat → Int} {L R : Int} {ed : Nat → Int} {bk : Int} {J : Nat} {p : Int} {x : Nat × Int} (hbr : ∀ i : Nat, i < nH → 1 ≤ br i) (h1 : lstI (pE ln br rs L R p) nH = -4) (e : pj nH ln br rs L ed bk J p = some x) : x.1 < nH ∧ 0 < rs x.1 ∧ 1 ≤ x.2 ∧ x.2 ≤ br x.1 ∧ p + x.2 < R := by
  obtain ⟨g1, g2, g3, g4, g5⟩ := pj_some (h := x.1) (v := x.2) hbr e
  have h2 := lstI_none.mp h1 x.1 g1
  refine ⟨g1, g3, g4, g5, ?_⟩
  have h3 : ¬ R ≤ p + br x.1 := fun z => by
    have := pE_iff.mpr ⟨⟨g2, g3⟩, z⟩
    rw [h2] at this; cases this
  omega
theorem start_tot {k : Int} {eo : Nat → Int} {acc : sL} (hk : k = acc.length) (h6 : k ≤ 60) (he : ∀ i : Nat, i < acc.length → eo i = slE acc i) : (if 0 < k ∧ k ≤ 60 then eo (k - 1).toNat else 0) = tot acc := by
  by_cases h : 0 < k
  · rw [if_pos ⟨h, h6⟩, he _ (by omega), show (k - 1).toNat = acc.length - 1 by omega, slE_last (by omega)]
  · rw [if_neg (by omega)]
    have e0 : acc = [] := List.length_eq_zero_iff.mp (by omega)
    rw [e0]; rfl
theorem up_slH {hf : Nat → Int} {acc : sL} {k : Nat} {x : Nat × Int} {z : Int} (hk : k = acc.length) (hz : z = x.1) (h : ∀ i : Nat, i < acc.length → hf i = slH acc i) : ∀ i : Nat, i < (acc ++ [x]).length → va_up hf k z i = slH (acc ++ [x]) i := by
  intro i hi
  rw [List.length_append] at hi
  simp only [List.length_cons, List.length_nil] at hi
  unfold va_up
  by_cases e : i = k
  · rw [if_pos e, e, hk]
    have := slH_at acc x.1 x.2
    rw [hz]; exact this.symm
  · rw [if_neg e, slH_lt (by omega)]; exact h i (by omega)
theorem up_slE {ed : Nat → Int} {acc : sL} {k : Nat} {x : Nat × Int} {z : Int} (hk : k = acc.length) (hz : z = tot acc + x.2) (h : ∀ i : Nat, i < acc.length → ed i = slE acc i) : ∀ i : Nat, i < (acc ++ [x]).length → va_up ed k z i = slE (acc ++ [x]) i := by
  intro i hi
  rw [List.length_append] at hi
  simp only [List.length_cons, List.length_nil] at hi
  unfold va_up
  by_cases e : i = k
  · rw [if_pos e, e, hk]
    have := slE_at acc x.1 x.2
    rw [hz]; exact this.symm
  · rw [if_neg e, slE_lt (by omega)]; exact h i (by omega)
theorem cpy8 {f h : Nat → Int} {i : Nat} (hi : i < 8) : va_cpy f h 0 0 8 i = f i := by
  unfold va_cpy
  rw [if_pos (by omega)]
  congr 1
  omega
/-! ===== sums, counts, slates to and from the heaps ===== -/
def sumI (f : Nat → Int) : Nat → Int
  | 0 => 0
  | k + 1 => sumI f k + f k
def cnt1 (hf : Nat → Int) (h : Int) : Nat → Int
  | 0 => 0
  | k + 1 => cnt1 hf h k + (if hf k = h then 1 else 0)
def cnt2 (kh : Nat → Nat → Int) (kZ : Nat → Int) (h : Int) : Nat → Int
  | 0 => 0
  | c + 1 => cnt2 kh kZ h c + cnt1 (kh c) h (kZ c).toNat
def adS (lv hf : Nat → Int) (d : Int) : Nat → Nat → Int
  | 0 => lv
  | k + 1 => va_up (adS lv hf d k) (hf k).toNat (adS lv hf d k (hf k).toNat + d)
def shf (kp : Nat → Option Nat) (k : Nat) : Nat → Option Nat := fun j => if j + 1 < k then kp (j + 1) else kp j
theorem toNat_succ {k : Int} (h : 0 ≤ k) : (k + 1).toNat = k.toNat + 1 := by omega
theorem sumI_s {f : Nat → Int} {k : Int} (h : 0 ≤ k) : sumI f (k + 1).toNat = sumI f k.toNat + f k.toNat := by rw [toNat_succ h]; rfl
theorem adS_s {lv hf : Nat → Int} {d k : Int} (h : 0 ≤ k) : adS lv hf d (k + 1).toNat = va_up (adS lv hf d k.toNat) (hf k.toNat).toNat (adS lv hf d k.toNat (hf k.toNat).toNat + d) := by rw [toNat_succ h]; rfl
theorem cnt1_s {hf : Nat → Int} {h k : Int} (h0 : 0 ≤ k) : cnt1 hf h (k + 1).toNat = cnt1 hf h k.toNat + (if hf k.toNat = h then 1 else 0) := by rw [toNat_succ h0]; rfl
theorem cnt2_s {kh : Nat → Nat → Int} {kZ : Nat → Int} {h c : Int} (h0 : 0 ≤ c) : cnt2 kh kZ h (c + 1).toNat = cnt2 kh kZ h c.toNat + cnt1 (kh c.toNat) h (kZ c.toNat).toNat := by rw [toNat_succ h0]; rfl
theorem sumI_le {f : Nat → Int} {b : Int} : ∀ {n : Nat}, (∀ i : Nat, i < n → 0 ≤ f i ∧ f i ≤ b) → 0 ≤ sumI f n ∧ sumI f n ≤ n * b
  | 0, _ => by simp [sumI]
  | n + 1, h => by
    have ih := sumI_le (fun i hi => h i (by omega) : ∀ i : Nat, i < n → 0 ≤ f i ∧ f i ≤ b)
    have h1 := h n (by omega)
    rw [sumI, show ((n + 1 : Nat) : Int) * b = n * b + b by rw [Int.natCast_add, Int.add_mul]; simp]
    omega
theorem shf_1 (kp : Nat → Option Nat) : shf kp 1 = kp := by
  funext j
  unfold shf
  rw [if_neg (by omega)]
theorem shf_s {kp : Nat → Option Nat} {k : Nat} (h : 1 ≤ k) : va_up (shf kp k) (k - 1) (kp k) = shf kp (k + 1) := by
  funext j
  unfold va_up shf
  by_cases e1 : j = k - 1
  · rw [if_pos e1, if_pos (by omega), show j + 1 = k by omega]
  · rw [if_neg e1]
    by_cases e2 : j + 1 < k
    · rw [if_pos e2, if_pos (by omega)]
    · rw [if_neg e2, if_neg (by omega)]
theorem ne_oR {g : gG} {S : Nat → gE} {q b ci t N : Nat} {vs : List Value} {f : Nat → Option Nat} (h1 : S q = oO ci vs) (h2 : S b = oR g t N f) : q ≠ b := by
  intro h
  rw [h, h2] at h1
  unfold oR oO at h1
  cases h1
theorem ne_oI {g : gG} {S : Nat → gE} {q b ci N : Nat} {vs : List Value} {f : Nat → Int} (h1 : S q = oO ci vs) (h2 : S b = oI g N f) : q ≠ b := by
  intro h
  rw [h, h2] at h1
  unfold oI oO at h1
  cases h1
theorem ne_oO {S : Nat → gE} {q b ci cj : Nat} {vs vt : List Value} (h1 : S q = oO ci vs) (h2 : S b = oO cj vt) (hc : ci ≠ cj) : q ≠ b := by
  intro h
  rw [h, h2] at h1
  unfold oO at h1
  have h3 := Option.some.inj h1
  have h4 := Sum.inr.inj h3
  exact hc (congrArg Prod.fst h4).symm
