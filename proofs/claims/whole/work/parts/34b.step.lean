/-! ===== what each call answers, and what it makes of the roof ===== -/
def layA (P : pT) (rs : Nat → Int) (rows : rT) (y : Int) : Option sL := layR P.1.toNat P.2.1 P.2.2.1 P.2.2.2.2.1 P.2.2.2.2.2.2.1 P.2.2.2.2.2.1 P.2.2.2.2.2.2.2.2 P.2.2.2.2.2.2.2.1 rs rows y
def nxA (P : pT) (how : Int) (rs : Nat → Int) (rows : rT) : Int := nxR P.1.toNat P.2.1 P.2.2.1 P.2.2.2.2.1 P.2.2.2.2.2.2.1 P.2.2.2.2.2.1 P.2.2.2.2.2.2.2.2 P.2.2.2.2.2.2.2.1 how rs rows
def goA (P : pT) (how : Int) (rs : Nat → Int) (rows : rT) : Int × Int × Int := goR P.1.toNat P.2.1 P.2.2.1 P.2.2.2.2.1 P.2.2.2.2.2.2.1 P.2.2.2.2.2.1 P.2.2.2.2.2.2.2.2 P.2.2.2.2.2.2.2.1 how rs rows
def cpP (R P : pT) : pT := (R.1, va_cpy R.2.1 P.2.1 0 0 8, va_cpy R.2.2.1 P.2.2.1 0 0 8, va_cpy R.2.2.2.1 P.2.2.2.1 0 0 8, R.2.2.2.2)
def sWrite (A : aT) (y : Int) : Int × aT := if 32 ≤ y ∧ y ≤ 126 then (if A.1 = 200 then (-3, A) else ((A.1 : Int) + 1, (A.1 + 1, va_up A.2.1 A.1 y, A.2.2))) else (-1, A)
def sWipe (A : aT) : Int × aT := ((A.1 : Int), (0, A.2))
def sFault (A : aT) (J : jT) : Int × aT := ((rdC A.2.1 A.1 200 0 (j0 J)).1, A)
def sLay (A : aT) (J : jT) : Int × aT := if (rdC A.2.1 A.1 200 0 (j0 J)).1 = -4 ∧ (rdC A.2.1 A.1 200 0 (j0 J)).2.1 ≠ 0 then ((rdC A.2.1 A.1 200 0 (j0 J)).2.1, (A.1, A.2.1, cpP (rdC A.2.1 A.1 200 0 (j0 J)).2 A.2.2.1, (fun i => if (i : Int) < (rdC A.2.1 A.1 200 0 (j0 J)).2.1 then (rdC A.2.1 A.1 200 0 (j0 J)).2.2.2.2.1 i else 0), [], [])) else (-2, A)
def sCourse (A : aT) (y : Int) : Int × aT := if 20 ≤ y ∧ y ≤ 60 then (match layA A.2.2.1 A.2.2.2.1 A.2.2.2.2.1 y with
    | none => (-2, A)
    | some sl => ((sl.length : Int), (A.1, A.2.1, A.2.2.1, (fun i => A.2.2.2.1 i + (-1) * cntH sl i), A.2.2.2.2.1 ++ [(y, sl)], pushH A.2.2.2.2.2 (A.2.2.2.1, A.2.2.2.2.1)))) else (-1, A)
def sUp (A : aT) : Int × aT := if A.2.2.2.2.1.length = 0 then (-2, A) else (((A.2.2.2.2.1.length - 1 : Nat) : Int), (A.1, A.2.1, A.2.2.1, (fun i => A.2.2.2.1 i + cntH (tpS A.2.2.2.2.1) i), A.2.2.2.2.1.dropLast, pushH A.2.2.2.2.2 (A.2.2.2.1, A.2.2.2.2.1)))
def sBring (A : aT) (h k : Int) : Int × aT := if (0 ≤ h ∧ h < A.2.2.1.1) ∧ (1 ≤ k ∧ k ≤ 99) then (if A.2.2.2.1 h.toNat + k ≤ 999 then (A.2.2.2.1 h.toNat + k, (A.1, A.2.1, A.2.2.1, va_up A.2.2.2.1 h.toNat (A.2.2.2.1 h.toNat + k), A.2.2.2.2.1, pushH A.2.2.2.2.2 (A.2.2.2.1, A.2.2.2.2.1))) else (-3, A)) else (-1, A)
def sUndo (A : aT) : Int × aT := if A.2.2.2.2.2.length = 0 then (-2, A) else (((A.2.2.2.2.2.length - 1 : Nat) : Int), (A.1, A.2.1, A.2.2.1, hsR A.2.2.2.2.2 (A.2.2.2.2.2.length - 1), hsW A.2.2.2.2.2 (A.2.2.2.2.2.length - 1), A.2.2.2.2.2.dropLast))
def sHeap (A : aT) (h w : Int) : Int := if (0 ≤ h ∧ h < A.2.2.1.1) ∧ (0 ≤ w ∧ w ≤ 3) then aHeap A.2.2.1.2.1 A.2.2.1.2.2.1 A.2.2.2.1 A.2.2.2.2.1 h.toNat w else -1
def sTold (A : aT) (c w : Int) : Int := if (0 ≤ c ∧ c < A.2.2.2.2.1.length) ∧ (0 ≤ w ∧ w ≤ 7) then aTold A.2.2.1.2.2.1 A.2.2.1.2.2.2.2.2.2.1 A.2.2.1.2.2.2.2.2.1 A.2.2.1.2.2.2.2.2.2.2.2 A.2.2.2.2.1 c.toNat w else -1
def sJoint (A : aT) (c k : Int) : Int := if (0 ≤ c ∧ c < A.2.2.2.2.1.length) ∧ 0 ≤ k then aJoint (rS A.2.2.2.2.1 c.toNat) k.toNat else -1
def sSlate (A : aT) (c k w : Int) : Int := if (0 ≤ c ∧ c < A.2.2.2.2.1.length) ∧ 0 ≤ k ∧ (0 ≤ w ∧ w ≤ 1) then aSlate (rS A.2.2.2.2.1 c.toNat) k.toNat w else -1
def sTried (A : aT) (y w : Int) : Int := if (20 ≤ y ∧ y ≤ 60) ∧ (0 ≤ w ∧ w ≤ 1) then (match layA A.2.2.1 A.2.2.2.1 A.2.2.2.2.1 y with
    | none => -2
    | some sl => if w = 0 then (sl.length : Int) else wst A.2.2.1.2.2.1 y sl) else -1
def sNext (A : aT) (how : Int) : Int := if 0 ≤ how ∧ how ≤ 1 then nxA A.2.2.1 how A.2.2.2.1 A.2.2.2.2.1 else -1
def sItself (A : aT) (how w : Int) : Int := if (0 ≤ how ∧ how ≤ 1) ∧ (0 ≤ w ∧ w ≤ 2) then aIts A.2.2.1.2.2.2.2.1 (goA A.2.2.1 how A.2.2.2.1 A.2.2.2.2.1) w else -1
def sCount (A : aT) (w : Int) : Int := aCount A.2.2.1.1 A.2.2.1.2.2.2.2.1 A.2.2.1.2.2.2.2.2.1 A.2.2.1.2.2.2.2.2.2.1 A.2.2.1.2.2.2.2.2.2.2.1 A.2.2.1.2.2.2.2.2.2.2.2 A.2.2.1.2.2.1 A.2.2.2.1 A.2.2.2.2.1 A.2.2.2.2.2.length A.1 w
def goodA (A : aT) : Prop := A.1 ≤ 200 ∧ (∀ i : Nat, i < A.1 → 32 ≤ A.2.1 i ∧ A.2.1 i ≤ 126) ∧ goodP A.2.2.1 ∧ goodR A.2.2.1.1.toNat A.2.2.1.2.1 A.2.2.1.2.2.1 A.2.2.2.1 A.2.2.2.2.1 ∧ goodH A.2.2.1.1.toNat A.2.2.1.2.1 A.2.2.1.2.2.1 A.2.2.2.2.2
def CA (g : gG) (S : Nat → gE) (n x : Nat) (A : aT) (J : jT) : Prop := CI g S n x A.1 A.2.1 A.2.2.1 J A.2.2.2.1 A.2.2.2.2.1 A.2.2.2.2.2
def MA (g : gG) (S : Nat → gE) (z : Nat) (A : aT) : Prop := MI g S z A.1 A.2.1 A.2.2.1 A.2.2.2.1 A.2.2.2.2.1 A.2.2.2.2.2
theorem cpy8' {f h : Nat → Int} {i : Nat} (hi : i < 8) : va_cpy f h 0 0 8 i = f i := cpy8 hi
theorem cpP_good {R P : pT} (h : goodP R) : goodP (cpP R P) := by
  obtain ⟨h1, h2, h3, h4⟩ := h
  refine ⟨h1, fun i hi => ?_, fun i j hij hj => ?_, h4⟩
  · have hi' : (i : Int) < R.1 := hi
    show (20 ≤ va_cpy R.2.1 P.2.1 0 0 8 i ∧ va_cpy R.2.1 P.2.1 0 0 8 i ≤ 60) ∧ (10 ≤ va_cpy R.2.2.1 P.2.2.1 0 0 8 i ∧ va_cpy R.2.2.1 P.2.2.1 0 0 8 i ≤ 60) ∧ (1 ≤ va_cpy R.2.2.2.1 P.2.2.2.1 0 0 8 i ∧ va_cpy R.2.2.2.1 P.2.2.2.1 0 0 8 i ≤ 999)
    rw [cpy8' (by omega), cpy8' (by omega), cpy8' (by omega)]
    exact h2 i hi'
  · have hj' : (j : Int) < R.1 := hj
    show va_cpy R.2.1 P.2.1 0 0 8 j < va_cpy R.2.1 P.2.1 0 0 8 i ∨ (va_cpy R.2.1 P.2.1 0 0 8 i = va_cpy R.2.1 P.2.1 0 0 8 j ∧ va_cpy R.2.2.1 P.2.2.1 0 0 8 j < va_cpy R.2.2.1 P.2.2.1 0 0 8 i)
    rw [cpy8' (by omega), cpy8' (by omega), cpy8' (by omega), cpy8' (by omega)]
    exact h3 i j hij hj'
theorem j0_good (J : jT) : goodP (j0 J) := goodP_0 _ _ _
theorem tp_last {rows : rT} (h : ¬ rows.length = 0) : rows = rows.dropLast ++ [(tpL rows, tpS rows)] := by
  obtain ⟨r, y, s, e⟩ := rows_last (rows := rows) (by omega)
  subst e
  rw [tpL_sn, tpS_sn, List.dropLast_concat]
theorem hs_last {hist : List sT} (h : ¬ hist.length = 0) : hist = hist.dropLast ++ [(hsR hist (hist.length - 1), hsW hist (hist.length - 1))] := by
  obtain ⟨r, y, s, e⟩ := hist_last (hist := hist) (by omega)
  subst e
  rw [hlen_sn, Nat.add_sub_cancel, hsR_at, hsW_at, List.dropLast_concat]
section GOODA
variable {A : aT}
theorem goodA_br (h : goodA A) : ∀ i : Nat, i < A.2.2.1.1.toNat → 1 ≤ A.2.2.1.2.2.1 i := fun i hi => by
  have := h.2.2.1.2.1 i (by omega); omega
theorem gWrite (h : goodA A) (y : Int) : goodA (sWrite A y).2 := by
  unfold sWrite
  by_cases c : 32 ≤ y ∧ y ≤ 126
  · rw [if_pos c]
    by_cases c2 : A.1 = 200
    · rw [if_pos c2]; exact h
    · rw [if_neg c2]
      have h1 := h.1
      refine ⟨show A.1 + 1 ≤ 200 by omega, fun i hi => ?_, h.2.2⟩
      show 32 ≤ va_up A.2.1 A.1 y i ∧ va_up A.2.1 A.1 y i ≤ 126
      have hi' : i < A.1 + 1 := hi
      unfold va_up
      split
      · exact c
      · exact h.2.1 i (by omega)
  · rw [if_neg c]; exact h
theorem gWipe (h : goodA A) : goodA (sWipe A).2 := ⟨Nat.zero_le _, fun i hi => absurd hi (Nat.not_lt_zero i), h.2.2⟩
theorem gLay (h : goodA A) (J : jT) : goodA (sLay A J).2 := by
  unfold sLay
  by_cases c : (rdC A.2.1 A.1 200 0 (j0 J)).1 = -4 ∧ (rdC A.2.1 A.1 200 0 (j0 J)).2.1 ≠ 0
  · rw [if_pos c]
    have hg := rdC_good (tx := A.2.1) (tl := A.1) 200 0 (j0 J) (j0_good J)
    refine ⟨h.1, h.2.1, cpP_good hg, goodR_0 (fun i hi => ?_), goodH_0⟩
    have hi' : i < (rdC A.2.1 A.1 200 0 (j0 J)).2.1.toNat := hi
    show 0 ≤ (if (i : Int) < (rdC A.2.1 A.1 200 0 (j0 J)).2.1 then (rdC A.2.1 A.1 200 0 (j0 J)).2.2.2.2.1 i else 0) ∧ (if (i : Int) < (rdC A.2.1 A.1 200 0 (j0 J)).2.1 then (rdC A.2.1 A.1 200 0 (j0 J)).2.2.2.2.1 i else 0) ≤ 999
    rw [if_pos (by omega)]
    have := hg.2.1 i (by omega)
    omega
  · rw [if_neg c]; exact h
theorem sCourse_bad {A : aT} {y : Int} (c : ¬ (20 ≤ y ∧ y ≤ 60)) : sCourse A y = (-1, A) := by unfold sCourse; rw [if_neg c]
theorem sCourse_none {A : aT} {y : Int} (c : 20 ≤ y ∧ y ≤ 60) (e : layA A.2.2.1 A.2.2.2.1 A.2.2.2.2.1 y = none) : sCourse A y = (-2, A) := by unfold sCourse; rw [if_pos c, e]
theorem sCourse_some {A : aT} {y : Int} {sl : sL} (c : 20 ≤ y ∧ y ≤ 60) (e : layA A.2.2.1 A.2.2.2.1 A.2.2.2.2.1 y = some sl) : sCourse A y = ((sl.length : Int), (A.1, A.2.1, A.2.2.1, (fun i => A.2.2.2.1 i + (-1) * cntH sl i), A.2.2.2.2.1 ++ [(y, sl)], pushH A.2.2.2.2.2 (A.2.2.2.1, A.2.2.2.2.1))) := by unfold sCourse; rw [if_pos c, e]
theorem gCourse (h : goodA A) (y : Int) : goodA (sCourse A y).2 := by
  by_cases c : 20 ≤ y ∧ y ≤ 60
  · rcases opt_cases (layA A.2.2.1 A.2.2.2.1 A.2.2.2.2.1 y) with e | ⟨sl, e⟩
    · rw [sCourse_none c e]; exact h
    · rw [sCourse_some c e]
      have hb := goodA_br h
      obtain ⟨h1, h2, h3, h4, h5⟩ := h
      obtain ⟨p1, p2, p3, p4, p5, p6, p7, p8⟩ := id h3
      exact ⟨h1, h2, h3, goodR_push h4 hb c ⟨by omega, by omega⟩ p8.1 p6 e, goodH_push h5 h4⟩
  · rw [sCourse_bad c]; exact h
theorem gUp (h : goodA A) : goodA (sUp A).2 := by
  unfold sUp
  by_cases c : A.2.2.2.2.1.length = 0
  · rw [if_pos c]; exact h
  · rw [if_neg c]
    obtain ⟨h1, h2, h3, h4, h5⟩ := h
    refine ⟨h1, h2, h3, ?_, goodH_push h5 h4⟩
    have h6 := h4
    rw [tp_last c] at h6
    exact goodR_pop h6
theorem gBring (h : goodA A) (y k : Int) : goodA (sBring A y k).2 := by
  unfold sBring
  by_cases c : (0 ≤ y ∧ y < A.2.2.1.1) ∧ (1 ≤ k ∧ k ≤ 99)
  · rw [if_pos c]
    by_cases c2 : A.2.2.2.1 y.toNat + k ≤ 999
    · rw [if_pos c2]
      obtain ⟨h1, h2, h3, h4, h5⟩ := h
      have h6 := goodR_rs h4 (i := y.toNat) (by omega)
      exact ⟨h1, h2, h3, goodR_bring h4 ⟨by omega, c2⟩, goodH_push h5 h4⟩
    · rw [if_neg c2]; exact h
  · rw [if_neg c]; exact h
theorem gUndo (h : goodA A) : goodA (sUndo A).2 := by
  unfold sUndo
  by_cases c : A.2.2.2.2.2.length = 0
  · rw [if_pos c]; exact h
  · rw [if_neg c]
    obtain ⟨h1, h2, h3, h4, h5⟩ := h
    rw [hs_last c] at h5
    have h6 := goodH_pop h5
    exact ⟨h1, h2, h3, h6.2, h6.1⟩
end GOODA
