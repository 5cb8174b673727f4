/-! ===== the roof as it stands: what the heaps have left, the courses from the eaves up ===== -/
abbrev rT : Type := List (Int × sL)
def rL (rows : rT) (c : Nat) : Int := (rows.getD c (0, [])).1
def rS (rows : rT) (c : Nat) : sL := (rows.getD c (0, [])).2
def hdR (lp : Int) (rows : rT) (c : Nat) : Int := sumI (fun k => (rL rows k - lp) / 2) c
def tpL (rows : rT) : Int := if rows.length = 0 then 60 else rL rows (rows.length - 1)
def tpS (rows : rT) : sL := if rows.length = 0 then [] else rS rows (rows.length - 1)
def cntR (rows : rT) (h : Nat) : Int := sumI (fun c => cntH (rS rows c) h) rows.length
def layR (nH : Nat) (ln br : Nat → Int) (hi lp wi hp bk : Int) (rs : Nat → Int) (rows : rT) (x : Int) : Option sL :=
  if rows.length < 20 ∧ hdR lp rows rows.length < hi ∧ x ≤ tpL rows then layC nH ln br wi hp bk x rs (hdR lp rows rows.length) (tpS rows) else none
def goodR (nH : Nat) (ln br : Nat → Int) (rs : Nat → Int) (rows : rT) : Prop := rows.length ≤ 20 ∧ (∀ c : Nat, c < rows.length → okS nH ln br (rL rows c) (rS rows c) ∧ (1 ≤ (rS rows c).length ∧ (rS rows c).length ≤ 60) ∧ (20 ≤ rL rows c ∧ rL rows c ≤ 60) ∧ tot (rS rows c) ≤ 1000) ∧ ∀ i : Nat, i < nH → 0 ≤ rs i ∧ rs i + cntR rows i ≤ 10000
section ROOF
variable {nH : Nat} {ln br : Nat → Int} {hi lp wi hp bk x : Int} {rs : Nat → Int} {rows : rT} {sl : sL}
theorem rL_lt {c : Nat} {y : Int × sL} (h : c < rows.length) : rL (rows ++ [y]) c = rL rows c := by
  unfold rL; simp [List.getD_eq_getElem?_getD, List.getElem?_append_left h]
theorem rS_lt {c : Nat} {y : Int × sL} (h : c < rows.length) : rS (rows ++ [y]) c = rS rows c := by
  unfold rS; simp [List.getD_eq_getElem?_getD, List.getElem?_append_left h]
theorem rL_at {y : Int × sL} : rL (rows ++ [y]) rows.length = y.1 := by
  unfold rL; simp [List.getD_eq_getElem?_getD]
theorem rS_at {y : Int × sL} : rS (rows ++ [y]) rows.length = y.2 := by
  unfold rS; simp [List.getD_eq_getElem?_getD]
theorem len_sn {y : Int × sL} : (rows ++ [y]).length = rows.length + 1 := by simp
theorem tpL_sn {y : Int × sL} : tpL (rows ++ [y]) = y.1 := by
  unfold tpL; rw [len_sn, if_neg (by omega), Nat.add_sub_cancel, rL_at]
theorem tpS_sn {y : Int × sL} : tpS (rows ++ [y]) = y.2 := by
  unfold tpS; rw [len_sn, if_neg (by omega), Nat.add_sub_cancel, rS_at]
theorem hdR_lt {c : Nat} {y : Int × sL} (h : c ≤ rows.length) : hdR lp (rows ++ [y]) c = hdR lp rows c := sumI_congr (fun i hi => by rw [rL_lt (by omega)])
theorem hdR_sn {y : Int × sL} : hdR lp (rows ++ [y]) (rows ++ [y]).length = hdR lp rows rows.length + (y.1 - lp) / 2 := by
  rw [len_sn]
  unfold hdR
  rw [sumI, rL_at]
  congr 1
  exact sumI_congr (fun i hi => by rw [rL_lt hi])
theorem cntR_sn {y : Int × sL} {h : Nat} : cntR (rows ++ [y]) h = cntR rows h + cntH y.2 h := by
  unfold cntR
  rw [len_sn, sumI, rS_at]
  congr 1
  exact sumI_congr (fun i hi => by rw [rS_lt hi])
theorem cntR_r (h : goodR nH ln br rs rows) (i : Nat) : 0 ≤ cntR rows i ∧ cntR rows i ≤ 1200 := by
  have h1 := sumI_le (f := fun c => cntH (rS rows c) i) (b := 60) (n := rows.length) (fun c hc => by
    have h2 := cntH_pos (rS rows c) i
    have h3 := (h.2.1 c hc).2.1
    show 0 ≤ cntH (rS rows c) i ∧ cntH (rS rows c) i ≤ 60
    omega)
  have h4 := h.1
  unfold cntR
  omega
theorem hd_r (h : goodR nH ln br rs rows) (hl : 1 ≤ lp ∧ lp ≤ 10) {c : Nat} (hc : c ≤ rows.length) : 0 ≤ hdR lp rows c ∧ hdR lp rows c ≤ 30 * c := by
  have h1 := sumI_le (f := fun k => (rL rows k - lp) / 2) (b := 30) (n := c) (fun k hk => by
    have h3 := (h.2.1 k (by omega)).2.2.1
    show 0 ≤ (rL rows k - lp) / 2 ∧ (rL rows k - lp) / 2 ≤ 30
    omega)
  unfold hdR
  omega
theorem goodR_rs (h : goodR nH ln br rs rows) {i : Nat} (hi : i < nH) : 0 ≤ rs i ∧ rs i ≤ 10000 := by
  have h1 := h.2.2 i hi
  have h2 := (cntR_r h i).1
  omega
theorem tpL_r (h : goodR nH ln br rs rows) : 20 ≤ tpL rows ∧ tpL rows ≤ 60 := by
  unfold tpL
  split
  · omega
  · exact (h.2.1 _ (by omega)).2.2.1
theorem tpS_len (h : goodR nH ln br rs rows) : (tpS rows).length ≤ 60 := by
  unfold tpS
  split
  · simp
  · exact (h.2.1 _ (by omega)).2.1.2
theorem tpS_ok (h : goodR nH ln br rs rows) : okS nH ln br (tpL rows) (tpS rows) := by
  unfold tpS tpL
  split
  · intro z hz; cases hz
  · exact (h.2.1 _ (by omega)).1
theorem tpS_tot (h : goodR nH ln br rs rows) : tot (tpS rows) ≤ 1000 := by
  unfold tpS
  split
  · decide
  · exact (h.2.1 _ (by omega)).2.2.2
theorem tpS_e (h : goodR nH ln br rs rows) (i : Nat) : -1000000 ≤ slE (tpS rows) i ∧ slE (tpS rows) i ≤ 1000000 := by
  have h1 := slE_rng (tpS_ok h) i
  have h2 := tpS_tot h
  omega
theorem layR_some (h : layR nH ln br hi lp wi hp bk rs rows x = some sl) : (rows.length < 20 ∧ hdR lp rows rows.length < hi ∧ x ≤ tpL rows) ∧ layC nH ln br wi hp bk x rs (hdR lp rows rows.length) (tpS rows) = some sl := by
  unfold layR at h
  by_cases c : rows.length < 20 ∧ hdR lp rows rows.length < hi ∧ x ≤ tpL rows
  · rw [if_pos c] at h; exact ⟨c, h⟩
  · rw [if_neg c] at h; cases h
theorem layR_none (h : layR nH ln br hi lp wi hp bk rs rows x = none) : ¬ (rows.length < 20 ∧ hdR lp rows rows.length < hi ∧ x ≤ tpL rows) ∨ layC nH ln br wi hp bk x rs (hdR lp rows rows.length) (tpS rows) = none := by
  unfold layR at h
  by_cases c : rows.length < 20 ∧ hdR lp rows rows.length < hi ∧ x ≤ tpL rows
  · rw [if_pos c] at h; exact Or.inr h
  · exact Or.inl c
theorem goodR_push (h : goodR nH ln br rs rows) (hbr : ∀ i : Nat, i < nH → 1 ≤ br i) (hx : 20 ≤ x ∧ x ≤ 60) (hwi : 0 ≤ wi ∧ wi ≤ 1000) (hhp : 0 ≤ hp) (hlp : 1 ≤ lp ∧ lp ≤ 10) (hl : layR nH ln br hi lp wi hp bk rs rows x = some sl) : goodR nH ln br (fun i => rs i + (-1) * cntH sl i) (rows ++ [(x, sl)]) := by
  obtain ⟨⟨c1, c2, c3⟩, hl⟩ := layR_some hl
  obtain ⟨k1, k2, k3, k4⟩ := layC_good hbr hl
  have hd := hd_r h hlp (Nat.le_refl rows.length)
  have hR := rmF_le (wi := wi) (hp := hp) (f := hdR lp rows rows.length) hwi (Int.mul_nonneg hhp hd.1)
  refine ⟨by rw [len_sn]; omega, fun c hc => ?_, fun i hi => ?_⟩
  · rw [len_sn] at hc
    by_cases e : c < rows.length
    · rw [rL_lt e, rS_lt e]; exact h.2.1 c e
    · have e1 : c = rows.length := by omega
      rw [e1, rL_at, rS_at]
      exact ⟨k1, ⟨k2.2, k2.1⟩, hx, by show tot sl ≤ 1000; omega⟩
  · rw [cntR_sn]
    have h1 := h.2.2 i hi
    have h2 := k4 i (by omega)
    show 0 ≤ rs i + (-1) * cntH sl i ∧ rs i + (-1) * cntH sl i + (cntR rows i + cntH sl i) ≤ 10000
    omega
theorem goodR_pop (h : goodR nH ln br rs (rows ++ [(x, sl)])) : goodR nH ln br (fun i => rs i + cntH sl i) rows := by
  obtain ⟨h1, h2, h3⟩ := h
  rw [len_sn] at h1 h2
  refine ⟨by omega, fun c hc => ?_, fun i hi => ?_⟩
  · have h4 := h2 c (by omega)
    rw [rL_lt hc, rS_lt hc] at h4
    exact h4
  · have h4 := h3 i hi
    rw [cntR_sn] at h4
    have h5 : cntH (x, sl).2 i = cntH sl i := rfl
    have h6 := cntH_pos sl i
    show 0 ≤ rs i + cntH sl i ∧ rs i + cntH sl i + cntR rows i ≤ 10000
    omega
theorem goodR_bring {k : Nat} {v : Int} (h : goodR nH ln br rs rows) (hk : 0 ≤ v ∧ v ≤ 999) : goodR nH ln br (va_up rs k v) rows := by
  refine ⟨h.1, h.2.1, fun i hi => ?_⟩
  have h1 := cntR_r h i
  unfold va_up
  split
  · omega
  · exact h.2.2 i hi
theorem goodR_0 (h : ∀ i : Nat, i < nH → 0 ≤ rs i ∧ rs i ≤ 999) : goodR nH ln br rs [] := by
  refine ⟨by simp, fun c hc => absurd hc (Nat.not_lt_zero c), fun i hi => ?_⟩
  have h1 := h i hi
  have h2 : cntR [] i = 0 := rfl
  omega
theorem rows_last (h : 0 < rows.length) : ∃ (r : rT) (y : Int) (s : sL), rows = r ++ [(y, s)] := by
  have h1 : rows ≠ [] := fun e => by rw [e] at h; exact absurd h (Nat.lt_irrefl 0)
  exact ⟨rows.dropLast, (rows.getLast h1).1, (rows.getLast h1).2, (List.dropLast_concat_getLast h1).symm⟩
end ROOF
/-! ===== the model's state of a roof ===== -/
def mS (nw rs : Nat → Int) (rows : rT) : Prop := (∀ i : Nat, i < 8 → nw i = rs i) ∧ nw 8 = rows.length ∧ ∀ c : Nat, c < rows.length → rowIs nw c (rL rows c) (rS rows c)
def goodM (mHC : Int) (stg hps : Nat → Int) : Prop := (0 ≤ mHC ∧ mHC ≤ 8) ∧ (∀ i : Nat, (i : Int) < mHC → (20 ≤ mLn hps i ∧ mLn hps i ≤ 60) ∧ (10 ≤ mBr hps i ∧ mBr hps i ≤ 60)) ∧ srt mHC (mLn hps) (mBr hps) ∧ (20 ≤ stg 0 ∧ stg 0 ≤ 400) ∧ (40 ≤ stg 1 ∧ stg 1 ≤ 240) ∧ (1 ≤ stg 2 ∧ stg 2 ≤ 10) ∧ (1 ≤ stg 3 ∧ stg 3 ≤ 9) ∧ (0 ≤ stg 4 ∧ stg 4 ≤ 9)
def hasL (ln : Nat → Int) (x : Int) : Nat → Bool
  | 0 => false
  | n + 1 => hasL ln x n || decide (ln n = x)
theorem hasL_of {ln : Nat → Int} {x : Int} : ∀ {n h : Nat}, h < n → ln h = x → hasL ln x n = true
  | 0, h, hh, _ => absurd hh (Nat.not_lt_zero h)
  | n + 1, h, hh, e => by
    rw [hasL, Bool.or_eq_true, decide_eq_true_eq]
    by_cases c : h < n
    · exact Or.inl (hasL_of c e)
    · have e1 : h = n := by omega
      exact Or.inr (by rw [← e1]; exact e)
theorem hasL_s {ln : Nat → Int} {x k : Int} (h : 0 ≤ k) : hasL ln x (k + 1).toNat = (hasL ln x k.toNat || decide (ln k.toNat = x)) := by rw [toNat_succ h]; rfl
section MST
variable {mHC : Int} {stg hps nw rs kw : Nat → Int} {rows : rT} {x : Int} {sl acc : sL}
theorem mS_hd (h : mS nw rs rows) (lp : Int) : sumI (fun k => (nw (9 + 62 * k) - lp) / 2) (nw 8).toNat = hdR lp rows rows.length := by
  rw [h.2.1, Int.toNat_natCast]
  exact sumI_congr (fun i hi => by rw [(h.2.2 i hi).1])
theorem mS_hdc (h : mS nw rs rows) (lp : Int) {c : Nat} (hc : c ≤ rows.length) : sumI (fun k => (nw (9 + 62 * k) - lp) / 2) c = hdR lp rows c := sumI_congr (fun i hi => by rw [(h.2.2 i (by omega)).1])
theorem mS_rg (hM : goodM mHC stg hps) (hR : goodR mHC.toNat (mLn hps) (mBr hps) rs rows) (h : mS nw rs rows) (k : Nat) (hk : (k : Int) < nw 8) : 0 ≤ nw (9 + 62 * k) - stg 2 ∧ nw (9 + 62 * k) - stg 2 ≤ 1000 := by
  rw [h.2.1] at hk
  have h1 := (h.2.2 k (by omega)).1
  have h2 := (hR.2.1 k (by omega)).2.2.1
  have h3 := hM.2.2.2.2.2.1
  rw [h1]; omega
theorem mS_top (h : mS nw rs rows) (hn : 0 < nw 8) : tpL rows = nw (9 + 62 * (nw 8 - 1).toNat) := by
  have h8 := h.2.1
  unfold tpL
  rw [if_neg (by omega), ← (h.2.2 (rows.length - 1) (by omega)).1, show (nw 8 - 1).toNat = rows.length - 1 by omega]
theorem mS_bs (hR : goodR mHC.toNat (mLn hps) (mBr hps) rs rows) (h : mS nw rs rows) : (nw 8 = 0 ∧ tpS rows = []) ∨ (0 < nw 8 ∧ rowIs nw (nw 8 - 1).toNat (tpL rows) (tpS rows) ∧ 1 ≤ (tpS rows).length ∧ (tpS rows).length ≤ 60) := by
  have h8 := h.2.1
  by_cases e : rows.length = 0
  · exact Or.inl ⟨by omega, by unfold tpS; rw [if_pos e]⟩
  · refine Or.inr ⟨by omega, ?_⟩
    unfold tpL tpS
    rw [if_neg e, if_neg e, show (nw 8 - 1).toNat = rows.length - 1 by omega]
    exact ⟨h.2.2 _ (by omega), (hR.2.1 _ (by omega)).2.1⟩
theorem ok_bv (hM : goodM mHC stg hps) {L : Int} (hok : okS mHC.toNat (mLn hps) (mBr hps) L sl) (i : Nat) (hi : i < sl.length) : 0 ≤ slV sl i ∧ slV sl i < 64 ∧ 0 ≤ slH sl i ∧ slH sl i < 8 := by
  have h1 := slV_ok hok hi
  have h2 := slH_ok hok hi
  have h3 := hM.2.1 (slH sl i).toNat (by omega)
  have h4 := hM.1
  omega
theorem mS_push (hmr : mRow nw kw (nw 8).toNat x sl) (h : mS nw rs rows) (hl : ∀ c : Nat, c < rows.length → (rS rows c).length ≤ 60) {v : Int} (hv : v = nw 8 + 1) : mS (va_up kw 8 v) (fun i => rs i + (-1) * cntH sl i) (rows ++ [(x, sl)]) := by
  obtain ⟨m1, m2, m3⟩ := hmr
  have h8 := h.2.1
  have hk : (nw 8).toNat = rows.length := by omega
  rw [hk] at m2 m3
  refine ⟨fun i hi => ?_, ?_, fun c hc => ?_⟩
  · rw [va_up_ne _ _ (by omega), m1 i hi, h.1 i hi]
  · rw [va_up_self, len_sn]; omega
  · rw [len_sn] at hc
    have hup : ∀ j : Nat, 8 < j → va_up kw 8 v j = kw j := fun j hj => va_up_ne _ _ (by omega)
    have key : rowIs kw c (rL (rows ++ [(x, sl)]) c) (rS (rows ++ [(x, sl)]) c) := by
      by_cases e : c < rows.length
      · rw [rL_lt e, rS_lt e]
        exact (h.2.2 c e).kept (hl c e) e m2
      · have e1 : c = rows.length := by omega
        rw [e1, rL_at, rS_at]; exact m3
    obtain ⟨k1, k2, k3⟩ := key
    exact ⟨by rw [hup _ (by omega)]; exact k1, by rw [hup _ (by omega)]; exact k2, fun i hi => by rw [hup _ (by omega)]; exact k3 i hi⟩
theorem mS_back (hM : goodM mHC stg hps) (hmr : mRow nw kw (nw 8).toNat x acc) (hok : okS mHC.toNat (mLn hps) (mBr hps) x acc) (h : mS nw rs rows) (hl : ∀ c : Nat, c < rows.length → (rS rows c).length ≤ 60) : mS (fun i => kw i + cntH acc i) rs rows := by
  obtain ⟨m1, m2, m3⟩ := hmr
  have h8 := h.2.1
  have hk : (nw 8).toNat = rows.length := by omega
  rw [hk] at m2
  have hM1 := hM.1
  have hz : ∀ j : Nat, 8 ≤ j → kw j + cntH acc j = kw j := fun j hj => by rw [cnt_big hok (by omega)]; omega
  refine ⟨fun i hi => ?_, ?_, fun c hc => ?_⟩
  · show kw i + cntH acc i = rs i
    rw [m1 i hi, h.1 i hi]; omega
  · show kw 8 + cntH acc 8 = _
    rw [hz 8 (Nat.le_refl 8), m2 8 (by omega) (by omega), h8]
  · obtain ⟨k1, k2, k3⟩ := (h.2.2 c hc).kept (hl c hc) hc m2
    refine ⟨?_, ?_, fun i hi => ?_⟩
    · show kw (9 + 62 * c) + cntH acc (9 + 62 * c) = _
      rw [hz _ (by omega)]; exact k1
    · show kw (9 + 62 * c + 1) + cntH acc (9 + 62 * c + 1) = _
      rw [hz _ (by omega)]; exact k2
    · show kw (9 + 62 * c + 2 + i) + cntH acc (9 + 62 * c + 2 + i) = _
      rw [hz _ (by omega)]; exact k3 i hi
theorem mS_pop (hM : goodM mHC stg hps) (hok : okS mHC.toNat (mLn hps) (mBr hps) x sl) (h : mS nw rs (rows ++ [(x, sl)])) {v : Int} (hv : v = nw 8 - 1) : mS (fun i => va_up nw 8 v i + cntH sl i) (fun i => rs i + cntH sl i) rows := by
  have h8 := h.2.1
  rw [len_sn] at h8
  have hM1 := hM.1
  have hz : ∀ j : Nat, 8 ≤ j → va_up nw 8 v j + cntH sl j = va_up nw 8 v j := fun j hj => by rw [cnt_big hok (by omega)]; omega
  refine ⟨fun i hi => ?_, ?_, fun c hc => ?_⟩
  · show va_up nw 8 v i + cntH sl i = rs i + cntH sl i
    rw [va_up_ne _ _ (by omega), h.1 i hi]
  · show va_up nw 8 v 8 + cntH sl 8 = _
    rw [hz 8 (Nat.le_refl 8), va_up_self]; omega
  · have k := h.2.2 c (by rw [len_sn]; omega)
    rw [rL_lt hc, rS_lt hc] at k
    obtain ⟨k1, k2, k3⟩ := k
    refine ⟨?_, ?_, fun i hi => ?_⟩
    · show va_up nw 8 v (9 + 62 * c) + cntH sl (9 + 62 * c) = _
      rw [hz _ (by omega), va_up_ne _ _ (by omega)]; exact k1
    · show va_up nw 8 v (9 + 62 * c + 1) + cntH sl (9 + 62 * c + 1) = _
      rw [hz _ (by omega), va_up_ne _ _ (by omega)]; exact k2
    · show va_up nw 8 v (9 + 62 * c + 2 + i) + cntH sl (9 + 62 * c + 2 + i) = _
      rw [hz _ (by omega), va_up_ne _ _ (by omega)]; exact k3 i hi
theorem mS_cg {rs' : Nat → Int} (h : mS nw rs rows) (e : ∀ i : Nat, i < 8 → rs i = rs' i) : mS nw rs' rows := ⟨fun i hi => (h.1 i hi).trans (e i hi), h.2⟩
theorem layC_has {nH : Nat} {ln br : Nat → Int} {wi hp bk L : Int} {lv : Nat → Int} {hd : Int} {bs sl : sL} (hbr : ∀ i : Nat, i < nH → 1 ≤ br i) (h : layC nH ln br wi hp bk L lv hd bs = some sl) : hasL ln L nH = true := by
  obtain ⟨k1, k2, -⟩ := layC_good hbr h
  cases sl with
  | nil => exact absurd k2.2 (by decide)
  | cons y r =>
    have h1 := k1 y List.mem_cons_self
    exact hasL_of h1.1 h1.2.1
end MST
