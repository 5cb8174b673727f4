def cntH : sL → Nat → Int
  | [], _ => 0
  | x :: r, h => (if x.1 = h then 1 else 0) + cntH r h
theorem cntH_app : ∀ (a b : sL) (h : Nat), cntH (a ++ b) h = cntH a h + cntH b h
  | [], b, h => by simp [cntH]
  | x :: r, b, h => by
    have e := cntH_app r b h
    simp only [List.cons_append, cntH, e]
    omega
theorem cntH_pos : ∀ (a : sL) (h : Nat), 0 ≤ cntH a h ∧ cntH a h ≤ a.length
  | [], h => by simp [cntH]
  | x :: r, h => by
    have e := cntH_pos r h
    simp only [cntH, List.length_cons]
    split <;> omega
/-- adding d for each slate -/
theorem adS_take {lv hf : Nat → Int} {d : Int} (sl : sL) (hh : ∀ i : Nat, i < sl.length → hf i = slH sl i) : ∀ k : Nat, k ≤ sl.length → adS lv hf d k = fun h => lv h + d * cntH (sl.take k) h
  | 0, _ => by funext h; simp [adS, cntH]
  | k + 1, hk => by
    have h1 := adS_take (lv := lv) (d := d) sl hh k (by omega)
    have h2 : hf k = sl[k].1 := by
      rw [hh k (by omega)]
      unfold slH
      simp [List.getD_eq_getElem?_getD, show k < sl.length by omega]
    rw [adS, h1, h2, List.take_succ_eq_append_getElem (by omega)]
    funext h
    unfold va_up
    rw [cntH_app]
    simp only [cntH, Int.toNat_natCast]
    by_cases e : h = sl[k].1
    · rw [if_pos e, if_pos e.symm, e, Int.mul_add]; omega
    · rw [if_neg e, if_neg (fun q => e q.symm), Int.mul_add]; omega
theorem adS_cnt {lv hf : Nat → Int} {d : Int} (sl : sL) (hh : ∀ i : Nat, i < sl.length → hf i = slH sl i) : adS lv hf d sl.length = fun h => lv h + d * cntH sl h := by
  have h1 := adS_take (lv := lv) (d := d) sl hh sl.length (Nat.le_refl _)
  rw [List.take_length] at h1
  exact h1
theorem brk_congr {ed ed' : Nat → Int} {bk p : Int} : ∀ {J : Nat}, (∀ i : Nat, i < J → ed i = ed' i) → brk ed bk p J = brk ed' bk p J
  | 0, _ => rfl
  | J + 1, h => by rw [brk, brk, brk_congr (fun i hi => h i (by omega)), h J (by omega)]
theorem cutI_congr {q q' : Nat → Bool} : ∀ {n : Nat}, (∀ i : Nat, q i = q' i) → cutI q n = cutI q' n
  | 0, _ => rfl
  | n + 1, h => by rw [cutI, cutI, cutI_congr h, h (n + 1)]
theorem pj_ed {nH : Nat} {ln br rs : Nat → Int} {L : Int} {ed ed' : Nat → Int} {bk : Int} {J : Nat} {p : Int} (h : ∀ i : Nat, i < J → ed i = ed' i) : pj nH ln br rs L ed bk J p = pj nH ln br rs L ed' bk J p := by
  have e1 : fstI (pB ln br rs L ed bk J p) nH = fstI (pB ln br rs L ed' bk J p) nH := fstI_congr (fun i hi => by simp only [pB, brk_congr h])
  have e2 : ∀ n : Nat, cutI (fun v => brk ed bk (p + v) J) n = cutI (fun v => brk ed' bk (p + v) J) n := fun n => cutI_congr (fun i => brk_congr h)
  unfold pj
  rw [e1, e2]
theorem layG_ed {nH : Nat} {ln br : Nat → Int} {L R : Int} {ed ed' : Nat → Int} {bk : Int} {J : Nat} (h : ∀ i : Nat, i < J → ed i = ed' i) : ∀ (f : Nat) (rs : Nat → Int) (p : Int), layG nH ln br L R ed bk J f rs p = layG nH ln br L R ed' bk J f rs p
  | 0, _, _ => rfl
  | f + 1, rs, p => by
    rw [layG, layG, pj_ed h]
    by_cases h1 : lstI (pE ln br rs L R p) nH = -4
    · rw [if_pos h1, if_pos h1]
      cases hp : pj nH ln br rs L ed' bk J p with
      | none => rfl
      | some x =>
        show Option.map _ _ = Option.map _ _
        rw [layG_ed h f]
    · rw [if_neg h1, if_neg h1]
/-- slates as they may be: a heap of the length, 1 or more is seen -/
def okS (nH : Nat) (ln br : Nat → Int) (L : Int) (sl : sL) : Prop := ∀ x ∈ sl, x.1 < nH ∧ ln x.1 = L ∧ 1 ≤ x.2 ∧ x.2 ≤ br x.1
theorem layG_good {nH : Nat} {ln br : Nat → Int} {L R : Int} {ed : Nat → Int} {bk : Int} {J : Nat} (hbr : ∀ i : Nat, i < nH → 1 ≤ br i) : ∀ (f : Nat) (rs : Nat → Int) (p : Int) (sl : sL), p < R → layG nH ln br L R ed bk J f rs p = some sl →
    okS nH ln br L sl ∧ (sl.length ≤ f ∧ 1 ≤ sl.length) ∧ p + tot sl = R ∧ ∀ h : Nat, 0 ≤ rs h → cntH sl h ≤ rs h
  | 0, _, _, _, _, h => by cases h
  | f + 1, rs, p, sl, hp, h => by
    by_cases h1 : lstI (pE ln br rs L R p) nH < 0
    · obtain ⟨x, r, g1, g2, g3⟩ := layG_step h h1
      have hr := lstI_r (pE ln br rs L R p) nH
      obtain ⟨k1, k2, k3, k4, k5⟩ := pj_fits (R := R) hbr (by omega) g1
      have k6 := (pj_some (h := x.1) (v := x.2) hbr g1).2.1
      obtain ⟨i1, i2, i3, i4⟩ := layG_good hbr f _ _ r k5 g3
      subst g2
      refine ⟨fun z hz => ?_, by simp only [List.length_cons]; omega, by simp only [tot]; omega, fun q hq => ?_⟩
      · rcases List.mem_cons.mp hz with e | e
        · rw [e]; exact ⟨k1, k6, k3, k4⟩
        · exact i1 z e
      · have i5 := i4 q
        simp only [cntH]
        unfold va_up at i5
        by_cases e : q = x.1
        · rw [if_pos e, ← e] at i5
          rw [if_pos e.symm]
          rw [← e] at k2
          have := i5 (by omega)
          omega
        · rw [if_neg e] at i5
          rw [if_neg (fun z => e z.symm)]
          have := i5 hq
          omega
    · have h1 : 0 ≤ lstI (pE ln br rs L R p) nH := by omega
      have g1 := layG_end h h1
      subst g1
      have k1 := pE_iff.mp (lstI_q h1)
      have k2 := lstI_r (pE ln br rs L R p) nH
      refine ⟨fun z hz => ?_, by simp, by simp only [tot]; omega, fun q hq => ?_⟩
      · rw [List.mem_singleton.mp hz]
        exact ⟨by omega, k1.1.1, by show 1 ≤ R - p; omega, by show R - p ≤ br (lstI (pE ln br rs L R p) nH).toNat; omega⟩
      · simp only [cntH]
        by_cases e : (lstI (pE ln br rs L R p) nH).toNat = q
        · rw [if_pos e, ← e]; omega
        · rw [if_neg e]; omega
theorem wst_rng {nH : Nat} {ln br : Nat → Int} {L : Int} (hbr : ∀ i : Nat, i < nH → 1 ≤ br i ∧ br i ≤ 60) (hL : 0 ≤ L ∧ L ≤ 60) : ∀ (sl : sL), okS nH ln br L sl → 0 ≤ wst br L sl ∧ wst br L sl ≤ 3600 * sl.length
  | [], _ => by simp [wst]
  | x :: r, h => by
    have ih := wst_rng hbr hL r (fun z hz => h z (List.mem_cons_of_mem _ hz))
    obtain ⟨k1, -, k3, k4⟩ := h x List.mem_cons_self
    have k5 := hbr x.1 k1
    simp only [wst, List.length_cons]
    by_cases e : x.2 < br x.1
    · rw [if_pos e]
      have m1 : 0 ≤ (br x.1 - x.2) * L := Int.mul_nonneg (by omega) hL.1
      have m2 : (br x.1 - x.2) * L ≤ 60 * 60 := Int.mul_le_mul (by omega) hL.2 hL.1 (by decide)
      omega
    · rw [if_neg e]; omega
theorem slH_ok {nH : Nat} {ln br : Nat → Int} {L : Int} {sl : sL} (h : okS nH ln br L sl) {i : Nat} (hi : i < sl.length) : 0 ≤ slH sl i ∧ slH sl i < nH := by
  have e : sl.getD i (0, 0) = sl[i] := by simp [List.getD_eq_getElem?_getD, hi]
  have := (h sl[i] (List.getElem_mem hi)).1
  unfold slH
  rw [e]; omega
theorem tot_nonneg {nH : Nat} {ln br : Nat → Int} {L : Int} : ∀ {sl : sL}, okS nH ln br L sl → 0 ≤ tot sl
  | [], _ => Int.le_refl 0
  | x :: r, h => by
    have ih := tot_nonneg (sl := r) (fun z hz => h z (List.mem_cons_of_mem _ hz))
    have := (h x List.mem_cons_self).2.2.1
    simp only [tot]; omega
theorem slE_rng {nH : Nat} {ln br : Nat → Int} {L : Int} {sl : sL} (h : okS nH ln br L sl) (i : Nat) : 0 ≤ slE sl i ∧ slE sl i ≤ tot sl := by
  unfold slE
  have e : tot sl = tot (sl.take (i + 1)) + tot (sl.drop (i + 1)) := by rw [← tot_app, List.take_append_drop]
  have h1 := tot_nonneg (sl := sl.take (i + 1)) (fun z hz => h z (List.mem_of_mem_take hz))
  have h2 := tot_nonneg (sl := sl.drop (i + 1)) (fun z hz => h z (List.mem_of_mem_drop hz))
  omega
/-! ===== the course of a length on another, the best length, courses laid by themselves ===== -/
def layC (nH : Nat) (ln br : Nat → Int) (wi hp bk L : Int) (lv : Nat → Int) (hd : Int) (bs : sL) : Option sL := layG nH ln br L (rmF wi hp hd) (slE bs) bk (bs.length - 1) 60 lv 0
theorem layC_good {nH : Nat} {ln br : Nat → Int} {wi hp bk L : Int} {lv : Nat → Int} {hd : Int} {bs sl : sL} (hbr : ∀ i : Nat, i < nH → 1 ≤ br i) (h : layC nH ln br wi hp bk L lv hd bs = some sl) : okS nH ln br L sl ∧ (sl.length ≤ 60 ∧ 1 ≤ sl.length) ∧ tot sl = rmF wi hp hd ∧ ∀ q : Nat, 0 ≤ lv q → cntH sl q ≤ lv q := by
  have hR := rmF_ge wi hp hd
  obtain ⟨h1, h2, h3, h4⟩ := layG_good hbr 60 lv 0 sl (by omega) h
  exact ⟨h1, h2, by omega, h4⟩
/-- heap h is the first one of its length, and not too long -/
def isN (ln : Nat → Int) (bL : Int) (h : Nat) : Bool := decide ((h = 0 ∨ ln (h - 1) ≠ ln h) ∧ ln h ≤ bL)
theorem isN_iff {ln : Nat → Int} {bL : Int} {h : Nat} : isN ln bL h = true ↔ (h = 0 ∨ ln (h - 1) ≠ ln h) ∧ ln h ≤ bL := by simp [isN]
def chG (nH : Nat) (ln br : Nat → Int) (lp wi hp bk how : Int) (lv : Nat → Int) (bL hd : Int) (bs : sL) : Nat → Int × Int × Int
  | 0 => (-4, 0, 1)
  | h + 1 =>
    if isN ln bL h = true then
      (match layC nH ln br wi hp bk (ln h) lv hd bs with
       | none => chG nH ln br lp wi hp bk how lv bL hd bs h
       | some sl => if (chG nH ln br lp wi hp bk how lv bL hd bs h).1 = -4 ∨ (how = 0 ∧ wst br (ln h) sl * (chG nH ln br lp wi hp bk how lv bL hd bs h).2.2 < (chG nH ln br lp wi hp bk how lv bL hd bs h).2.1 * ((ln h - lp) / 2))
          then (ln h, wst br (ln h) sl, (ln h - lp) / 2) else chG nH ln br lp wi hp bk how lv bL hd bs h)
    else chG nH ln br lp wi hp bk how lv bL hd bs h
def chL (nH : Nat) (ln br : Nat → Int) (lp wi hp bk how : Int) (lv : Nat → Int) (bL hd : Int) (bs : sL) : Int := (chG nH ln br lp wi hp bk how lv bL hd bs nH).1
section CHG
variable {nH : Nat} {ln br : Nat → Int} {lp wi hp bk how : Int} {lv : Nat → Int} {bL hd : Int} {bs : sL}
theorem chG_skip {h : Nat} (e : isN ln bL h = false) : chG nH ln br lp wi hp bk how lv bL hd bs (h + 1) = chG nH ln br lp wi hp bk how lv bL hd bs h := by
  rw [chG, if_neg (by rw [e]; decide)]
theorem chG_none {h : Nat} (e : layC nH ln br wi hp bk (ln h) lv hd bs = none) : chG nH ln br lp wi hp bk how lv bL hd bs (h + 1) = chG nH ln br lp wi hp bk how lv bL hd bs h := by
  rw [chG, e]
  split <;> rfl
theorem chG_take {h : Nat} {sl : sL} (e0 : isN ln bL h = true) (e : layC nH ln br wi hp bk (ln h) lv hd bs = some sl) (c : (chG nH ln br lp wi hp bk how lv bL hd bs h).1 = -4 ∨ (how = 0 ∧ wst br (ln h) sl * (chG nH ln br lp wi hp bk how lv bL hd bs h).2.2 < (chG nH ln br lp wi hp bk how lv bL hd bs h).2.1 * ((ln h - lp) / 2))) : chG nH ln br lp wi hp bk how lv bL hd bs (h + 1) = (ln h, wst br (ln h) sl, (ln h - lp) / 2) := by
  rw [chG, e, if_pos e0]
  exact if_pos c
theorem chG_keep {h : Nat} {sl : sL} (e : layC nH ln br wi hp bk (ln h) lv hd bs = some sl) (c : ¬ ((chG nH ln br lp wi hp bk how lv bL hd bs h).1 = -4 ∨ (how = 0 ∧ wst br (ln h) sl * (chG nH ln br lp wi hp bk how lv bL hd bs h).2.2 < (chG nH ln br lp wi hp bk how lv bL hd bs h).2.1 * ((ln h - lp) / 2)))) : chG nH ln br lp wi hp bk how lv bL hd bs (h + 1) = chG nH ln br lp wi hp bk how lv bL hd bs h := by
  rw [chG, e]
  split
  · exact if_neg c
  · rfl
/-- what is chosen can be laid -/
theorem chG_ok (hln : ∀ i : Nat, i < nH → 20 ≤ ln i ∧ ln i ≤ 60) : ∀ {n : Nat}, n ≤ nH → (chG nH ln br lp wi hp bk how lv bL hd bs n).1 = -4 ∨ ∃ (sl : sL) (h : Nat), h < n ∧ (chG nH ln br lp wi hp bk how lv bL hd bs n).1 = ln h ∧ ln h ≤ bL ∧ layC nH ln br wi hp bk (ln h) lv hd bs = some sl ∧ (chG nH ln br lp wi hp bk how lv bL hd bs n).2.1 = wst br (ln h) sl ∧ (chG nH ln br lp wi hp bk how lv bL hd bs n).2.2 = (ln h - lp) / 2
  | 0, _ => Or.inl rfl
  | n + 1, hn => by
    have ih := chG_ok hln (n := n) (by omega)
    have keep : chG nH ln br lp wi hp bk how lv bL hd bs (n + 1) = chG nH ln br lp wi hp bk how lv bL hd bs n → (chG nH ln br lp wi hp bk how lv bL hd bs (n + 1)).1 = -4 ∨ ∃ (sl : sL) (h : Nat), h < n + 1 ∧ (chG nH ln br lp wi hp bk how lv bL hd bs (n + 1)).1 = ln h ∧ ln h ≤ bL ∧ layC nH ln br wi hp bk (ln h) lv hd bs = some sl ∧ (chG nH ln br lp wi hp bk how lv bL hd bs (n + 1)).2.1 = wst br (ln h) sl ∧ (chG nH ln br lp wi hp bk how lv bL hd bs (n + 1)).2.2 = (ln h - lp) / 2 := by
      intro e
      rw [e]
      rcases ih with z | ⟨sl, h, z1, z2, z3⟩
      · exact Or.inl z
      · exact Or.inr ⟨sl, h, by omega, z2, z3⟩
    cases e0 : isN ln bL n with
    | false => exact keep (chG_skip e0)
    | true =>
      cases e : layC nH ln br wi hp bk (ln n) lv hd bs with
      | none => exact keep (chG_none e)
      | some sl =>
        by_cases c : (chG nH ln br lp wi hp bk how lv bL hd bs n).1 = -4 ∨ (how = 0 ∧ wst br (ln n) sl * (chG nH ln br lp wi hp bk how lv bL hd bs n).2.2 < (chG nH ln br lp wi hp bk how lv bL hd bs n).2.1 * ((ln n - lp) / 2))
        · rw [chG_take e0 e c]
          exact Or.inr ⟨sl, n, by omega, rfl, (isN_iff.mp e0).2, e, rfl, rfl⟩
        · exact keep (chG_keep e c)
/-- the greatest: the first one that can be laid stays -/
theorem chG_stay (hh : how ≠ 0) {k : Nat} (hk : (chG nH ln br lp wi hp bk how lv bL hd bs k).1 ≠ -4) : ∀ (d : Nat), chG nH ln br lp wi hp bk how lv bL hd bs (k + d) = chG nH ln br lp wi hp bk how lv bL hd bs k
  | 0 => rfl
  | d + 1 => by
    have ih := chG_stay hh hk d
    rw [← Nat.add_assoc]
    cases e0 : isN ln bL (k + d) with
    | false => rw [chG_skip e0, ih]
    | true =>
      cases e : layC nH ln br wi hp bk (ln (k + d)) lv hd bs with
      | none => rw [chG_none e, ih]
      | some sl => rw [chG_keep e (by rw [ih]; exact fun c => c.elim hk (fun z => hh z.1)), ih]
end CHG
/-- courses laid by themselves: how many, their waste, where the next would have its foot -/
def goG (nH : Nat) (ln br : Nat → Int) (hi lp wi hp bk how : Int) : Nat → (Nat → Int) → Int → Int → sL → Int × Int × Int
  | 0, _, _, hd, _ => (0, 0, hd)
  | f + 1, lv, bL, hd, bs =>
    if hi ≤ hd then (0, 0, hd) else
    if chL nH ln br lp wi hp bk how lv bL hd bs = -4 then (0, 0, hd) else
    match layC nH ln br wi hp bk (chL nH ln br lp wi hp bk how lv bL hd bs) lv hd bs with
    | none => (0, 0, hd)
    | some sl =>
      ((goG nH ln br hi lp wi hp bk how f (fun h => lv h + (-1) * cntH sl h) (chL nH ln br lp wi hp bk how lv bL hd bs) (hd + (chL nH ln br lp wi hp bk how lv bL hd bs - lp) / 2) sl).1 + 1,
       (goG nH ln br hi lp wi hp bk how f (fun h => lv h + (-1) * cntH sl h) (chL nH ln br lp wi hp bk how lv bL hd bs) (hd + (chL nH ln br lp wi hp bk how lv bL hd bs - lp) / 2) sl).2.1 + wst br (chL nH ln br lp wi hp bk how lv bL hd bs) sl,
       (goG nH ln br hi lp wi hp bk how f (fun h => lv h + (-1) * cntH sl h) (chL nH ln br lp wi hp bk how lv bL hd bs) (hd + (chL nH ln br lp wi hp bk how lv bL hd bs - lp) / 2) sl).2.2)
/-- a course in the store -/
def crs (g : gG) (S : Nat → gE) (a : Nat) (L F G R : Int) (br : Nat → Int) (sl : sL) : Prop :=
  S a = oO 3 [.ref (a + 1), .ref (a + 2), .int (iI L), .int (iI F), .int (iI G), .int (iI R), .int (iI sl.length), .int (iI (wst br L sl)), .int (iI (cuts br sl))] ∧
  (∃ hf : Nat → Int, S (a + 1) = oI g 60 hf ∧ ∀ i : Nat, i < sl.length → hf i = slH sl i) ∧ (∃ ed : Nat → Int, S (a + 2) = oI g 60 ed ∧ ∀ i : Nat, i < sl.length → ed i = slE sl i)
theorem crs.kept {g : gG} {S S1 : Nat → gE} {a : Nat} {L F G R : Int} {br : Nat → Int} {sl : sL} (h : crs g S a L F G R br sl) (h0 : S1 a = S a) (h1 : S1 (a + 1) = S (a + 1)) (h2 : S1 (a + 2) = S (a + 2)) : crs g S1 a L F G R br sl := by
  obtain ⟨g1, ⟨hf, g2, g3⟩, ⟨ed, g4, g5⟩⟩ := h
  exact ⟨h0.trans g1, ⟨hf, h1.trans g2, g3⟩, ⟨ed, h2.trans g4, g5⟩⟩
/-- cells that are apart: the laying ahead, the layer, the plan, the course below, the heaps -/
def apA (u y pl bl lf : Nat) : Prop := ((u + 11 ≤ y ∨ y + 2 ≤ u) ∧ (u + 11 ≤ pl ∨ pl + 4 ≤ u) ∧ (u + 5 ≤ bl ∨ bl + 3 ≤ u + 2)) ∧ ((y + 2 ≤ pl ∨ pl + 4 ≤ y) ∧ (y + 2 ≤ bl ∨ bl + 3 ≤ y)) ∧ (lf < u + 2 ∨ u + 5 ≤ lf) ∧ lf ≠ y + 1
section CONG
variable {nH : Nat} {ln br : Nat → Int} {hi lp wi hp bk how : Int}
theorem layC_congr {L : Int} {lv lv' : Nat → Int} {hd : Int} {bs : sL} (h : ∀ i : Nat, i < nH → lv i = lv' i) : layC nH ln br wi hp bk L lv hd bs = layC nH ln br wi hp bk L lv' hd bs := layG_congr 60 lv lv' 0 h
theorem chG_congr {lv lv' : Nat → Int} {bL hd : Int} {bs : sL} (h : ∀ i : Nat, i < nH → lv i = lv' i) : ∀ n : Nat, chG nH ln br lp wi hp bk how lv bL hd bs n = chG nH ln br lp wi hp bk how lv' bL hd bs n
  | 0 => rfl
  | n + 1 => by rw [chG, chG, chG_congr h n, layC_congr h]
theorem chL_congr {lv lv' : Nat → Int} {bL hd : Int} {bs : sL} (h : ∀ i : Nat, i < nH → lv i = lv' i) : chL nH ln br lp wi hp bk how lv bL hd bs = chL nH ln br lp wi hp bk how lv' bL hd bs := by unfold chL; rw [chG_congr h]
theorem goG_congr : ∀ (f : Nat) (lv lv' : Nat → Int) (bL hd : Int) (bs : sL), (∀ i : Nat, i < nH → lv i = lv' i) → goG nH ln br hi lp wi hp bk how f lv bL hd bs = goG nH ln br hi lp wi hp bk how f lv' bL hd bs
  | 0, _, _, _, _, _, _ => rfl
  | f + 1, lv, lv', bL, hd, bs, h => by
    rw [goG, goG, chL_congr h, layC_congr h]
    by_cases h1 : hi ≤ hd
    · rw [if_pos h1, if_pos h1]
    · rw [if_neg h1, if_neg h1]
      by_cases h2 : chL nH ln br lp wi hp bk how lv' bL hd bs = -4
      · rw [if_pos h2, if_pos h2]
      · rw [if_neg h2, if_neg h2]
        cases hz : layC nH ln br wi hp bk (chL nH ln br lp wi hp bk how lv' bL hd bs) lv' hd bs with
        | none => rfl
        | some sl =>
          have e := goG_congr f (fun q => lv q + (-1) * cntH sl q) (fun q => lv' q + (-1) * cntH sl q) (chL nH ln br lp wi hp bk how lv' bL hd bs) (hd + (chL nH ln br lp wi hp bk how lv' bL hd bs - lp) / 2) sl (fun i hi => by simp only [h i hi])
          simp only [e]
theorem goG_ready {f : Nat} {lv : Nat → Int} {bL hd : Int} {bs : sL} (h : hi ≤ hd) : goG nH ln br hi lp wi hp bk how f lv bL hd bs = (0, 0, hd) := by
  cases f with
  | zero => rfl
  | succ f => rw [goG, if_pos h]
theorem goG_none {f : Nat} {lv : Nat → Int} {bL hd : Int} {bs : sL} (h : chL nH ln br lp wi hp bk how lv bL hd bs = -4) : goG nH ln br hi lp wi hp bk how f lv bL hd bs = (0, 0, hd) := by
  cases f with
  | zero => rfl
  | succ f =>
    rw [goG, if_pos h]
    split <;> rfl
theorem goG_step {f : Nat} {lv : Nat → Int} {bL hd : Int} {bs sl : sL} (h1 : hd < hi) (h2 : chL nH ln br lp wi hp bk how lv bL hd bs ≠ -4) (h3 : layC nH ln br wi hp bk (chL nH ln br lp wi hp bk how lv bL hd bs) lv hd bs = some sl) : goG nH ln br hi lp wi hp bk how (f + 1) lv bL hd bs =
    ((goG nH ln br hi lp wi hp bk how f (fun h => lv h + (-1) * cntH sl h) (chL nH ln br lp wi hp bk how lv bL hd bs) (hd + (chL nH ln br lp wi hp bk how lv bL hd bs - lp) / 2) sl).1 + 1,
     (goG nH ln br hi lp wi hp bk how f (fun h => lv h + (-1) * cntH sl h) (chL nH ln br lp wi hp bk how lv bL hd bs) (hd + (chL nH ln br lp wi hp bk how lv bL hd bs - lp) / 2) sl).2.1 + wst br (chL nH ln br lp wi hp bk how lv bL hd bs) sl,
     (goG nH ln br hi lp wi hp bk how f (fun h => lv h + (-1) * cntH sl h) (chL nH ln br lp wi hp bk how lv bL hd bs) (hd + (chL nH ln br lp wi hp bk how lv bL hd bs - lp) / 2) sl).2.2) := by
  rw [goG, if_neg (by omega), if_neg h2, h3]
theorem chL_ok (hln : ∀ i : Nat, i < nH → 20 ≤ ln i ∧ ln i ≤ 60) {lv : Nat → Int} {bL hd : Int} {bs : sL} : chL nH ln br lp wi hp bk how lv bL hd bs = -4 ∨ ∃ sl : sL, layC nH ln br wi hp bk (chL nH ln br lp wi hp bk how lv bL hd bs) lv hd bs = some sl ∧ (20 ≤ chL nH ln br lp wi hp bk how lv bL hd bs ∧ chL nH ln br lp wi hp bk how lv bL hd bs ≤ 60) ∧ chL nH ln br lp wi hp bk how lv bL hd bs ≤ bL := by
  rcases chG_ok (br := br) (lp := lp) (wi := wi) (hp := hp) (bk := bk) (how := how) (lv := lv) (bL := bL) (hd := hd) (bs := bs) hln (Nat.le_refl nH) with h | ⟨sl, h, h1, h2, h3, h4, -⟩
  · exact Or.inl h
  · refine Or.inr ⟨sl, ?_⟩
    unfold chL
    rw [h2]
    exact ⟨h4, hln h h1, h3⟩
end CONG
/-- a course in the store of which nothing is known -/
def gbc (g : gG) (S : Nat → gE) (a : Nat) : Prop := ∃ (i1 i2 i3 i4 i5 i6 i7 : Int) (f1 f2 : Nat → Int), S a = oO 3 [.ref (a + 1), .ref (a + 2), .int (iI i1), .int (iI i2), .int (iI i3), .int (iI i4), .int (iI i5), .int (iI i6), .int (iI i7)] ∧ S (a + 1) = oI g 60 f1 ∧ S (a + 2) = oI g 60 f2
theorem rmF_le {wi hp f : Int} (h1 : 0 ≤ wi ∧ wi ≤ 1000) (h2 : 0 ≤ hp * f) : rmF wi hp f ≤ 1000 := by unfold rmF; split <;> omega
theorem gbc.kept {g : gG} {S S1 : Nat → gE} {a : Nat} (h : gbc g S a) (h0 : S1 a = S a) (h1 : S1 (a + 1) = S (a + 1)) (h2 : S1 (a + 2) = S (a + 2)) : gbc g S1 a := by
  obtain ⟨i1, i2, i3, i4, i5, i6, i7, f1, f2, g1, g2, g3⟩ := h
  exact ⟨i1, i2, i3, i4, i5, i6, i7, f1, f2, h0.trans g1, h1.trans g2, h2.trans g3⟩
def apG (u y pl o q : Nat) : Prop := (pl + 4 ≤ y ∧ y + 2 ≤ o ∧ o + 6 ≤ u) ∧ (q = o + 3 ∨ u + 11 ≤ q)
theorem nn_fb (P : Prop) [Decidable P] : fits .boolean (.int (iI (if P then 1 else 0))) = true := by
  split <;> rfl
