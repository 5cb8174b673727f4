/-! ===== a course as a list of slates: heap, breadth that is seen ===== -/
abbrev sL : Type := List (Nat × Int)
def tot : sL → Int
  | [] => 0
  | x :: r => x.2 + tot r
def slH (sl : sL) (i : Nat) : Int := ((sl.getD i (0, 0)).1 : Int)
def slV (sl : sL) (i : Nat) : Int := (sl.getD i (0, 0)).2
def slE (sl : sL) (i : Nat) : Int := tot (sl.take (i + 1))
def wst (br : Nat → Int) (L : Int) : sL → Int
  | [] => 0
  | x :: r => (if x.2 < br x.1 then (br x.1 - x.2) * L else 0) + wst br L r
def cuts (br : Nat → Int) : sL → Int
  | [] => 0
  | x :: r => (if x.2 < br x.1 then 1 else 0) + cuts br r
theorem tot_app : ∀ (a b : sL), tot (a ++ b) = tot a + tot b
  | [], b => by simp [tot]
  | x :: r, b => by
    have h := tot_app r b
    simp only [List.cons_append, tot, h]
    omega
theorem wst_app (br : Nat → Int) (L : Int) : ∀ (a b : sL), wst br L (a ++ b) = wst br L a + wst br L b
  | [], b => by simp [wst]
  | x :: r, b => by
    have h := wst_app br L r b
    simp only [List.cons_append, wst, h]
    omega
theorem cuts_app (br : Nat → Int) : ∀ (a b : sL), cuts br (a ++ b) = cuts br a + cuts br b
  | [], b => by simp [cuts]
  | x :: r, b => by
    have h := cuts_app br r b
    simp only [List.cons_append, cuts, h]
    omega
theorem tot_snoc (a : sL) (h : Nat) (v : Int) : tot (a ++ [(h, v)]) = tot a + v := by rw [tot_app]; simp [tot]
theorem wst_snoc (br : Nat → Int) (L : Int) (a : sL) (h : Nat) (v : Int) : wst br L (a ++ [(h, v)]) = wst br L a + (if v < br h then (br h - v) * L else 0) := by rw [wst_app]; simp [wst]
theorem cuts_snoc (br : Nat → Int) (a : sL) (h : Nat) (v : Int) : cuts br (a ++ [(h, v)]) = cuts br a + (if v < br h then 1 else 0) := by rw [cuts_app]; simp [cuts]
theorem slH_lt {a b : sL} {i : Nat} (hi : i < a.length) : slH (a ++ b) i = slH a i := by
  unfold slH
  simp [List.getD_eq_getElem?_getD, List.getElem?_append_left hi]
theorem slH_at (a : sL) (h : Nat) (v : Int) : slH (a ++ [(h, v)]) a.length = h := by
  unfold slH
  simp [List.getD_eq_getElem?_getD]
theorem slV_lt {a b : sL} {i : Nat} (hi : i < a.length) : slV (a ++ b) i = slV a i := by
  unfold slV
  simp [List.getD_eq_getElem?_getD, List.getElem?_append_left hi]
theorem slV_at (a : sL) (h : Nat) (v : Int) : slV (a ++ [(h, v)]) a.length = v := by
  unfold slV
  simp [List.getD_eq_getElem?_getD]
theorem slE_lt {a b : sL} {i : Nat} (hi : i < a.length) : slE (a ++ b) i = slE a i := by
  unfold slE
  rw [List.take_append_of_le_length (by omega)]
theorem slE_at (a : sL) (h : Nat) (v : Int) : slE (a ++ [(h, v)]) a.length = tot a + v := by
  unfold slE
  rw [List.take_of_length_le (by simp), tot_snoc]
theorem slE_last {a : sL} (h : 0 < a.length) : slE a (a.length - 1) = tot a := by
  unfold slE
  rw [List.take_of_length_le (by omega)]
theorem slE_step (a : sL) {i : Nat} (hi : i < a.length) : slE a i = (if 0 < i then slE a (i - 1) else 0) + slV a i := by
  have e1 : a.take (i + 1) = a.take i ++ [a[i]] := by rw [List.take_succ_eq_append_getElem hi]
  have e2 : slV a i = a[i].2 := by unfold slV; simp [List.getD_eq_getElem?_getD, hi]
  unfold slE
  rw [e1, e2]
  show tot (a.take i ++ [(a[i].1, a[i].2)]) = _
  rw [tot_snoc]
  by_cases h0 : 0 < i
  · rw [if_pos h0, show i - 1 + 1 = i by omega]
  · have e0 : i = 0 := by omega
    subst e0
    simp [tot]
/-! ===== the laying of a course ===== -/
/-- a slate with a joint at p: heap and breadth seen -/
def pj (nH : Nat) (ln br rs : Nat → Int) (L : Int) (ed : Nat → Int) (bk : Int) (J : Nat) (p : Int) : Option (Nat × Int) :=
  if fstI (pB ln br rs L ed bk J p) nH = -4 then
    (if fstI (srv ln rs L) nH = -4 then none
     else if cutI (fun v => brk ed bk (p + v) J) (br (fstI (srv ln rs L) nH).toNat - 1).toNat = -4 then none
     else some ((fstI (srv ln rs L) nH).toNat, cutI (fun v => brk ed bk (p + v) J) (br (fstI (srv ln rs L) nH).toNat - 1).toNat))
  else some ((fstI (pB ln br rs L ed bk J p) nH).toNat, br (fstI (pB ln br rs L ed bk J p) nH).toNat)
/-- the slates from the place p on, f more at most -/
def layG (nH : Nat) (ln br : Nat → Int) (L R : Int) (ed : Nat → Int) (bk : Int) (J : Nat) : Nat → (Nat → Int) → Int → Option sL
  | 0, _, _ => none
  | f + 1, rs, p =>
    if lstI (pE ln br rs L R p) nH = -4 then
      (match pj nH ln br rs L ed bk J p with
       | none => none
       | some x => (layG nH ln br L R ed bk J f (va_up rs x.1 (rs x.1 - 1)) (p + x.2)).map (fun r => x :: r))
    else some [((lstI (pE ln br rs L R p) nH).toNat, R - p)]
theorem cutI_spec {q : Nat → Bool} : ∀ {n : Nat}, cutI q n = -4 ∨ (1 ≤ cutI q n ∧ cutI q n ≤ n ∧ q (cutI q n).toNat = true)
  | 0 => Or.inl rfl
  | n + 1 => by
    by_cases hq : q (n + 1) = true
    · refine Or.inr ?_
      rw [cutI, if_pos hq]
      refine ⟨by omega, by omega, ?_⟩
      rw [Int.toNat_natCast]; exact hq
    · rcases cutI_spec (q := q) (n := n) with h | h
      · exact Or.inl (by rw [cutI, if_neg hq]; exact h)
      · refine Or.inr ?_
        rw [cutI, if_neg hq]
        exact ⟨h.1, by omega, h.2.2⟩
/-- what pj gives: a heap that serves; 1 or more is seen, not more than its breadth -/
theorem pj_some {nH : Nat} {ln br rs : Nat → Int} {L : Int} {ed : Nat → Int} {bk : Int} {J : Nat} {p : Int} {h : Nat} {v : Int} (hbr : ∀ i : Nat, i < nH → 1 ≤ br i) (e : pj nH ln br rs L ed bk J p = some (h, v)) : h < nH ∧ ln h = L ∧ 0 < rs h ∧ 1 ≤ v ∧ v ≤ br h := by
  unfold pj at e
  by_cases h1 : fstI (pB ln br rs L ed bk J p) nH = -4
  · rw [if_pos h1] at e
    by_cases h2 : fstI (srv ln rs L) nH = -4
    · rw [if_pos h2] at e; cases e
    · rw [if_neg h2] at e
      rcases fstI_spec (q := srv ln rs L) (n := nH) with z | ⟨w, z1, z2, z3, -⟩
      · exact absurd z h2
      · rw [z1] at e
        simp only [Int.toNat_natCast] at e
        rcases cutI_spec (q := fun v => brk ed bk (p + v) J) (n := (br w - 1).toNat) with y | ⟨y1, y2, -⟩
        · rw [if_pos y] at e; cases e
        · rw [if_neg (by omega)] at e
          cases e
          have := hbr h z2
          exact ⟨z2, (srv_iff.mp z3).1, (srv_iff.mp z3).2, y1, by omega⟩
  · rw [if_neg h1] at e
    rcases fstI_spec (q := pB ln br rs L ed bk J p) (n := nH) with z | ⟨w, z1, z2, z3, -⟩
    · exact absurd z h1
    · rw [z1] at e
      simp only [Int.toNat_natCast] at e
      cases e
      have := hbr h z2
      have z4 := (pB_iff.mp z3).1
      exact ⟨z2, z4.1, z4.2, this, Int.le_refl _⟩
