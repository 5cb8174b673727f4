/-! ===== copies of states, the history ===== -/
theorem opt_cases {α : Type} (o : Option α) : o = none ∨ ∃ x, o = some x := by
  cases o with
  | none => exact Or.inl rfl
  | some x => exact Or.inr ⟨x, rfl⟩
def cpS (f : Nat → Int) (i : Nat) (h : Nat → Int) (j k : Nat) : Nat → Int := fun q => if j ≤ q ∧ q < j + k then f (i + (q - j)) else h q
theorem cpS_0 (f : Nat → Int) (i : Nat) (h : Nat → Int) (j : Nat) : cpS f i h j 0 = h := by
  funext q; unfold cpS; rw [if_neg (by omega)]
theorem cpS_s {f : Nat → Int} {i : Nat} {h : Nat → Int} {j k : Nat} : va_up (cpS f i h j k) (j + k) (f (i + k)) = cpS f i h j (k + 1) := by
  funext q
  unfold va_up cpS
  by_cases e : q = j + k
  · rw [if_pos e, if_pos (by omega), show i + (q - j) = i + k by omega]
  · rw [if_neg e]
    by_cases e2 : j ≤ q ∧ q < j + k
    · rw [if_pos e2, if_pos (by omega)]
    · rw [if_neg e2, if_neg (by omega)]
def shS (h : Nat → Int) (d k : Nat) : Nat → Int := fun q => if q < k then h (q + d) else h q
theorem shS_0 (h : Nat → Int) (d : Nat) : shS h d 0 = h := by
  funext q; unfold shS; rw [if_neg (by omega)]
theorem shS_s {h : Nat → Int} {d k : Nat} : va_up (shS h d k) k (shS h d k (k + d)) = shS h d (k + 1) := by
  funext q
  unfold va_up shS
  rw [if_neg (show ¬ (k + d < k) by omega)]
  by_cases e : q = k
  · rw [if_pos e, if_pos (by omega), e]
  · rw [if_neg e]
    by_cases e2 : q < k
    · rw [if_pos e2, if_pos (by omega)]
    · rw [if_neg e2, if_neg (by omega)]
abbrev sT : Type := (Nat → Int) × rT
def hsR (hist : List sT) (k : Nat) : Nat → Int := (hist.getD k ((fun _ => 0), [])).1
def hsW (hist : List sT) (k : Nat) : rT := (hist.getD k ((fun _ => 0), [])).2
def mHi (hs : Nat → Int) (hist : List sT) : Prop := ∀ k : Nat, k < hist.length → mS (fun i => hs (1249 * k + i)) (hsR hist k) (hsW hist k)
def goodH (nH : Nat) (ln br : Nat → Int) (hist : List sT) : Prop := hist.length ≤ 6 ∧ ∀ k : Nat, k < hist.length → goodR nH ln br (hsR hist k) (hsW hist k)
def pushH (hist : List sT) (y : sT) : List sT := (if hist.length = 6 then hist.drop 1 else hist) ++ [y]
section HIST
variable {nH : Nat} {ln br : Nat → Int} {hist : List sT} {y : sT} {k : Nat} {nw kw rs hs : Nat → Int} {rows : rT}
theorem hsR_lt (h : k < hist.length) : hsR (hist ++ [y]) k = hsR hist k := by
  unfold hsR; simp [List.getD_eq_getElem?_getD, List.getElem?_append_left h]
theorem hsW_lt (h : k < hist.length) : hsW (hist ++ [y]) k = hsW hist k := by
  unfold hsW; simp [List.getD_eq_getElem?_getD, List.getElem?_append_left h]
theorem hsR_at : hsR (hist ++ [y]) hist.length = y.1 := by
  unfold hsR; simp [List.getD_eq_getElem?_getD]
theorem hsW_at : hsW (hist ++ [y]) hist.length = y.2 := by
  unfold hsW; simp [List.getD_eq_getElem?_getD]
theorem hsR_dr : hsR (hist.drop 1) k = hsR hist (k + 1) := by
  unfold hsR; simp [List.getD_eq_getElem?_getD, Nat.add_comm]
theorem hsW_dr : hsW (hist.drop 1) k = hsW hist (k + 1) := by
  unfold hsW; simp [List.getD_eq_getElem?_getD, Nat.add_comm]
theorem hlen_sn : (hist ++ [y]).length = hist.length + 1 := by simp
theorem pushH_len (h : hist.length ≤ 6) : (pushH hist y).length = if hist.length = 6 then 6 else hist.length + 1 := by
  unfold pushH
  rw [hlen_sn]
  split
  · rw [List.length_drop]; omega
  · rfl
theorem mS_copy (h : mS nw rs rows) (hl : rows.length ≤ 20 ∧ ∀ c : Nat, c < rows.length → (rS rows c).length ≤ 60) (e : ∀ i : Nat, i < 1249 → kw i = nw i) : mS kw rs rows := by
  obtain ⟨h1, h2, h3⟩ := h
  refine ⟨fun i hi => by rw [e i (by omega)]; exact h1 i hi, by rw [e 8 (by omega)]; exact h2, fun c hc => ?_⟩
  obtain ⟨k1, k2, k3⟩ := h3 c hc
  have h4 := hl.2 c hc
  exact ⟨by rw [e _ (by omega)]; exact k1, by rw [e _ (by omega)]; exact k2, fun i hi => by rw [e _ (by omega)]; exact k3 i hi⟩
theorem goodR.lens (h : goodR nH ln br rs rows) : rows.length ≤ 20 ∧ ∀ c : Nat, c < rows.length → (rS rows c).length ≤ 60 := ⟨h.1, fun c hc => (h.2.1 c hc).2.1.2⟩
theorem goodH_push (h : goodH nH ln br hist) (hy : goodR nH ln br y.1 y.2) : goodH nH ln br (pushH hist y) := by
  have h1 := h.1
  have hl := pushH_len (y := y) h.1
  refine ⟨by rw [hl]; split <;> omega, fun k hk => ?_⟩
  rw [hl] at hk
  unfold pushH
  by_cases e : hist.length = 6
  · rw [if_pos e] at hk ⊢
    have hd : (hist.drop 1).length = 5 := by rw [List.length_drop]; omega
    by_cases e2 : k < 5
    · rw [hsR_lt (by omega), hsW_lt (by omega), hsR_dr, hsW_dr]; exact h.2 (k + 1) (by omega)
    · have e3 : k = (hist.drop 1).length := by omega
      rw [e3, hsR_at, hsW_at]; exact hy
  · rw [if_neg e] at hk ⊢
    by_cases e2 : k < hist.length
    · rw [hsR_lt e2, hsW_lt e2]; exact h.2 k e2
    · have e3 : k = hist.length := by omega
      rw [e3, hsR_at, hsW_at]; exact hy
theorem mHi_push (hg : goodH nH ln br hist) (hR : goodR nH ln br y.1 y.2) (h : mHi hs hist) (hS : mS nw y.1 y.2) (hl : hist.length < 6) : mHi (cpS nw 0 hs (1249 * hist.length) 1249) (pushH hist y) := by
  intro k hk
  have hll := pushH_len (y := y) hg.1
  rw [hll, if_neg (by omega)] at hk
  unfold pushH
  rw [if_neg (by omega)]
  by_cases e2 : k < hist.length
  · rw [hsR_lt e2, hsW_lt e2]
    refine mS_copy (h k e2) (hg.2 k e2).lens (fun i hi => ?_)
    show cpS nw 0 hs (1249 * hist.length) 1249 (1249 * k + i) = hs (1249 * k + i)
    unfold cpS; rw [if_neg (by omega)]
  · have e3 : k = hist.length := by omega
    rw [e3, hsR_at, hsW_at]
    refine mS_copy hS hR.lens (fun i hi => ?_)
    show cpS nw 0 hs (1249 * hist.length) 1249 (1249 * hist.length + i) = nw i
    unfold cpS; rw [if_pos (by omega), show 0 + (1249 * hist.length + i - 1249 * hist.length) = i by omega]
theorem mHi_full (hg : goodH nH ln br hist) (hR : goodR nH ln br y.1 y.2) (h : mHi hs hist) (hS : mS nw y.1 y.2) (hl : hist.length = 6) : mHi (cpS nw 0 (shS hs 1249 6245) 6245 1249) (pushH hist y) := by
  intro k hk
  have hll := pushH_len (y := y) hg.1
  rw [hll, if_pos hl] at hk
  unfold pushH
  rw [if_pos hl]
  have hd : (hist.drop 1).length = 5 := by rw [List.length_drop]; omega
  by_cases e2 : k < 5
  · rw [hsR_lt (by omega), hsW_lt (by omega), hsR_dr, hsW_dr]
    refine mS_copy (h (k + 1) (by omega)) (hg.2 (k + 1) (by omega)).lens (fun i hi => ?_)
    show cpS nw 0 (shS hs 1249 6245) 6245 1249 (1249 * k + i) = hs (1249 * (k + 1) + i)
    unfold cpS shS
    rw [if_neg (by omega), if_pos (by omega), show 1249 * k + i + 1249 = 1249 * (k + 1) + i by omega]
  · have e3 : k = (hist.drop 1).length := by omega
    rw [e3, hsR_at, hsW_at]
    refine mS_copy hS hR.lens (fun i hi => ?_)
    show cpS nw 0 (shS hs 1249 6245) 6245 1249 (1249 * (hist.drop 1).length + i) = nw i
    rw [hd]
    unfold cpS; rw [if_pos (by omega), show 0 + (1249 * 5 + i - 6245) = i by omega]
theorem hist_last (h : 0 < hist.length) : ∃ (r : List sT) (y : Nat → Int) (s : rT), hist = r ++ [(y, s)] := by
  have h1 : hist ≠ [] := fun e => by rw [e] at h; exact absurd h (Nat.lt_irrefl 0)
  exact ⟨hist.dropLast, (hist.getLast h1).1, (hist.getLast h1).2, (List.dropLast_concat_getLast h1).symm⟩
theorem goodH_pop (h : goodH nH ln br (hist ++ [y])) : goodH nH ln br hist ∧ goodR nH ln br y.1 y.2 := by
  obtain ⟨h1, h2⟩ := h
  rw [hlen_sn] at h1 h2
  refine ⟨⟨by omega, fun k hk => ?_⟩, ?_⟩
  · have := h2 k (by omega)
    rw [hsR_lt hk, hsW_lt hk] at this
    exact this
  · have := h2 hist.length (by omega)
    rw [hsR_at, hsW_at] at this
    exact this
theorem mHi_pop (h : mHi hs (hist ++ [y])) : mHi hs hist ∧ mS (fun i => hs (1249 * hist.length + i)) y.1 y.2 := by
  refine ⟨fun k hk => ?_, ?_⟩
  · have := h k (by rw [hlen_sn]; omega)
    rw [hsR_lt hk, hsW_lt hk] at this
    exact this
  · have := h hist.length (by rw [hlen_sn]; omega)
    rw [hsR_at, hsW_at] at this
    exact this
theorem goodH_0 : goodH nH ln br [] := ⟨by simp, fun k hk => absurd hk (Nat.not_lt_zero k)⟩
theorem mHi_0 : mHi hs [] := fun k hk => absurd hk (Nat.not_lt_zero k)
end HIST
/-- the length of the next course -/
def nxR (nH : Nat) (ln br : Nat → Int) (hi lp wi hp bk how : Int) (rs : Nat → Int) (rows : rT) : Int :=
  if rows.length < 20 ∧ hdR lp rows rows.length < hi then chL nH ln br lp wi hp bk how rs (tpL rows) (hdR lp rows rows.length) (tpS rows) else -4
def goR (nH : Nat) (ln br : Nat → Int) (hi lp wi hp bk how : Int) (rs : Nat → Int) (rows : rT) : Int × Int × Int := goG nH ln br hi lp wi hp bk how (20 - rows.length) rs (tpL rows) (hdR lp rows rows.length) (tpS rows)
section NXR
variable {nH : Nat} {ln br : Nat → Int} {hi lp wi hp bk how : Int} {rs : Nat → Int} {rows : rT}
theorem nxR_some (hln : ∀ i : Nat, i < nH → 20 ≤ ln i ∧ ln i ≤ 60) (h : nxR nH ln br hi lp wi hp bk how rs rows ≠ -4) : ∃ sl : sL, layR nH ln br hi lp wi hp bk rs rows (nxR nH ln br hi lp wi hp bk how rs rows) = some sl ∧ (20 ≤ nxR nH ln br hi lp wi hp bk how rs rows ∧ nxR nH ln br hi lp wi hp bk how rs rows ≤ 60) ∧
    goR nH ln br hi lp wi hp bk how rs rows = ((goR nH ln br hi lp wi hp bk how (fun i => rs i + (-1) * cntH sl i) (rows ++ [(nxR nH ln br hi lp wi hp bk how rs rows, sl)])).1 + 1, (goR nH ln br hi lp wi hp bk how (fun i => rs i + (-1) * cntH sl i) (rows ++ [(nxR nH ln br hi lp wi hp bk how rs rows, sl)])).2.1 + wst br (nxR nH ln br hi lp wi hp bk how rs rows) sl, (goR nH ln br hi lp wi hp bk how (fun i => rs i + (-1) * cntH sl i) (rows ++ [(nxR nH ln br hi lp wi hp bk how rs rows, sl)])).2.2) := by
  by_cases c : rows.length < 20 ∧ hdR lp rows rows.length < hi
  · have e : nxR nH ln br hi lp wi hp bk how rs rows = chL nH ln br lp wi hp bk how rs (tpL rows) (hdR lp rows rows.length) (tpS rows) := by unfold nxR; rw [if_pos c]
    rw [e] at h ⊢
    rcases chL_ok (br := br) (lp := lp) (wi := wi) (hp := hp) (bk := bk) (how := how) hln (lv := rs) (bL := tpL rows) (hd := hdR lp rows rows.length) (bs := tpS rows) with q | ⟨sl, q1, q2, q3⟩
    · exact absurd q h
    · refine ⟨sl, ?_, q2, ?_⟩
      · unfold layR
        rw [if_pos ⟨c.1, c.2, q3⟩]; exact q1
      · unfold goR
        rw [hdR_sn, tpL_sn, tpS_sn, len_sn, show 20 - rows.length = 20 - (rows.length + 1) + 1 by omega]
        exact goG_step c.2 h q1
  · exact absurd (by unfold nxR; rw [if_neg c]) h
theorem nxR_none (h : nxR nH ln br hi lp wi hp bk how rs rows = -4) : goR nH ln br hi lp wi hp bk how rs rows = (0, 0, hdR lp rows rows.length) := by
  unfold goR
  by_cases c : rows.length < 20 ∧ hdR lp rows rows.length < hi
  · unfold nxR at h
    rw [if_pos c] at h
    exact goG_none h
  · by_cases c1 : rows.length < 20
    · exact goG_ready (by omega)
    · rw [show 20 - rows.length = 0 by omega]; rfl
end NXR
