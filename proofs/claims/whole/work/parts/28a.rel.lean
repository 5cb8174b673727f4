/-! ===== heaps as they were told, heaps in their order ===== -/
def relH (P : pT) (rh : Nat → Int) (pi : Nat → Nat) : Prop :=
  (∀ i : Nat, (i : Int) < P.1 → ((pi i : Nat) : Int) < P.1 ∧ rh (3 * i) = P.2.1 (pi i) ∧ rh (3 * i + 1) = P.2.2.1 (pi i) ∧ rh (3 * i + 2) = P.2.2.2.1 (pi i)) ∧ (∀ i j : Nat, (i : Int) < P.1 → (j : Int) < P.1 → pi i = pi j → i = j) ∧ (∀ q : Nat, (q : Int) ≤ P.1 → sumI (fun g => if pi g < q then 1 else 0) P.1.toNat = q)
def relS (P : pT) (rst : Nat → Int) : Prop := rst 0 = P.2.2.2.2.1 ∧ rst 1 = P.2.2.2.2.2.1 ∧ rst 2 = P.2.2.2.2.2.2.1 ∧ rst 3 = P.2.2.2.2.2.2.2.1 ∧ rst 4 = P.2.2.2.2.2.2.2.2
def relP (RC : Int) (rh rst : Nat → Int) (P : pT) : Prop := RC = P.1 ∧ (∃ pi : Nat → Nat, relH P rh pi) ∧ relS P rst
theorem relH_cover {P : pT} {rh : Nat → Int} {pi : Nat → Nat} (h : relH P rh pi) {j : Nat} (hj : (j : Int) < P.1) : ∃ i : Nat, (i : Int) < P.1 ∧ pi i = j := by
  refine Classical.byContradiction fun hn => ?_
  have h1 := h.2.2 (j + 1) (by omega)
  have h2 := h.2.2 j (by omega)
  have h3 : sumI (fun g => if pi g < j + 1 then 1 else 0) P.1.toNat = sumI (fun g => if pi g < j then 1 else 0) P.1.toNat := by
    refine sumI_congr (fun i hi => ?_)
    have h4 : pi i ≠ j := fun e => hn ⟨i, by omega, e⟩
    by_cases e : pi i < j
    · rw [if_pos e, if_pos (by omega)]
    · rw [if_neg e, if_neg (by omega)]
  omega
/-- the place of a heap is how many stand before it -/
theorem relH_rank {P : pT} {rh : Nat → Int} {pi : Nat → Nat} (hg : goodP P) (h : relH P rh pi) {i : Nat} (hi : (i : Int) < P.1) : sumI (fun g => if 100 * rh (3 * g) + rh (3 * g + 1) > 100 * rh (3 * i) + rh (3 * i + 1) then 1 else 0) P.1.toNat = pi i := by
  have h1 := (h.1 i hi).1
  rw [← h.2.2 (pi i) (by omega)]
  refine sumI_congr (fun q hq => ?_)
  obtain ⟨a1, a2, a3, -⟩ := h.1 i hi
  obtain ⟨b1, b2, b3, -⟩ := h.1 q (by omega)
  have r1 := (hg.2.1 (pi i) a1).2.1
  have r2 := (hg.2.1 (pi q) b1).2.1
  rw [a2, a3, b2, b3]
  rcases Nat.lt_trichotomy (pi q) (pi i) with e | e | e
  · have h3 : P.2.1 (pi i) < P.2.1 (pi q) ∨ (P.2.1 (pi q) = P.2.1 (pi i) ∧ P.2.2.1 (pi i) < P.2.2.1 (pi q)) := hg.2.2.1 (pi q) (pi i) e a1
    rw [if_pos (by omega), if_pos e]
  · rw [e, if_neg (by omega), if_neg (by omega)]
  · have h3 : P.2.1 (pi q) < P.2.1 (pi i) ∨ (P.2.1 (pi i) = P.2.1 (pi q) ∧ P.2.2.1 (pi q) < P.2.2.1 (pi i)) := hg.2.2.1 (pi i) (pi q) e b1
    rw [if_neg (by omega), if_neg (by omega)]
theorem addC_found {RC : Int} {rh rst : Nat → Int} {P : pT} {l b c : Int} {h : Nat} (hg : goodP P) (hr : relP RC rh rst P) (hh : (h : Int) < RC) (e1 : rh (3 * h) = l) (e2 : rh (3 * h + 1) = b) :
    (rh (3 * h + 2) + c ≤ 999 → ∃ P1 : pT, addC P l b c = some P1 ∧ relP RC (va_up (va_up (va_up rh (3 * h) l) (3 * h + 1) b) (3 * h + 2) (rh (3 * h + 2) + c)) rst P1) ∧ (999 < rh (3 * h + 2) + c → addC P l b c = none) := by
  obtain ⟨hRC, ⟨pi, hp⟩, hs⟩ := hr
  rw [hRC] at hh
  obtain ⟨a1, a2, a3, a4⟩ := hp.1 h hh
  obtain ⟨p, e, hpl, hlo, hat⟩ := plI_spec P.2.1 P.2.2.1 l b P.1.toNat
  have hpi : p = pi h := by
    rcases Nat.lt_trichotomy p (pi h) with q | q | q
    · have h3 : P.2.1 (pi h) < P.2.1 p ∨ (P.2.1 p = P.2.1 (pi h) ∧ P.2.2.1 (pi h) < P.2.2.1 p) := hg.2.2.1 p (pi h) q a1
      have h4 := hat (by omega)
      rw [← a2, ← a3, e1, e2] at h3
      omega
    · exact q
    · have h4 := hlo (pi h) q
      rw [← a2, ← a3, e1, e2] at h4
      omega
  have c1 : (p : Int) < P.1 ∧ P.2.1 p = l ∧ P.2.2.1 p = b := by rw [hpi]; exact ⟨a1, by rw [← a2]; exact e1, by rw [← a3]; exact e2⟩
  have key : addC P l b c = if P.2.2.2.1 p + c ≤ 999 then some (P.1, P.2.1, P.2.2.1, va_up P.2.2.2.1 p (P.2.2.2.1 p + c), P.2.2.2.2) else none := by
    unfold addC
    rw [e]
    simp only [Int.toNat_natCast]
    rw [if_pos c1]
  have e4 : rh (3 * h + 2) = P.2.2.2.1 p := by rw [hpi]; exact a4
  rw [e4]
  refine ⟨fun q => ⟨(P.1, P.2.1, P.2.2.1, va_up P.2.2.2.1 p (P.2.2.2.1 p + c), P.2.2.2.2), by rw [key, if_pos q], hRC, ⟨pi, ?_, hp.2.1, hp.2.2⟩, hs⟩, fun q => by rw [key, if_neg (by omega)]⟩
  intro i hi
  have hi : (i : Int) < P.1 := hi
  obtain ⟨b1, b2, b3, b4⟩ := hp.1 i hi
  refine ⟨b1, ?_, ?_, ?_⟩
  · show va_up (va_up (va_up rh (3 * h) l) (3 * h + 1) b) (3 * h + 2) _ (3 * i) = P.2.1 (pi i)
    rw [va_up_ne _ _ (by omega), va_up_ne _ _ (by omega)]
    by_cases q2 : i = h
    · rw [q2, va_up_self, ← a2]; exact e1.symm
    · rw [va_up_ne _ _ (by omega)]; exact b2
  · show va_up (va_up (va_up rh (3 * h) l) (3 * h + 1) b) (3 * h + 2) _ (3 * i + 1) = P.2.2.1 (pi i)
    rw [va_up_ne _ _ (by omega)]
    by_cases q2 : i = h
    · rw [q2, va_up_self, ← a3]; exact e2.symm
    · rw [va_up_ne _ _ (by omega), va_up_ne _ _ (by omega)]; exact b3
  · show va_up (va_up (va_up rh (3 * h) l) (3 * h + 1) b) (3 * h + 2) (P.2.2.2.1 p + c) (3 * i + 2) = va_up P.2.2.2.1 p (P.2.2.2.1 p + c) (pi i)
    by_cases q2 : i = h
    · rw [q2, va_up_self, ← hpi, va_up_self]
    · rw [va_up_ne _ _ (by omega), va_up_ne _ _ (by omega), va_up_ne _ _ (by omega), va_up_ne _ _ (fun q3 => q2 (hp.2.1 i h hi hh (by rw [q3, hpi])))]
      exact b4
theorem addC_new {RC : Int} {rh rst : Nat → Int} {P : pT} {l b c : Int} (hg : goodP P) (hr : relP RC rh rst P) (hno : ∀ i : Nat, (i : Int) < RC → ¬ (rh (3 * i) = l ∧ rh (3 * i + 1) = b)) :
    (RC < 8 → ∃ P1 : pT, addC P l b c = some P1 ∧ relP (RC + 1) (va_up (va_up (va_up rh (3 * RC.toNat) l) (3 * RC.toNat + 1) b) (3 * RC.toNat + 2) c) rst P1) ∧ (RC = 8 → addC P l b c = none) := by
  obtain ⟨hRC, ⟨pi, hp⟩, hs⟩ := hr
  subst hRC
  have hP1 := hg.1
  obtain ⟨p, e, hpl, hlo, hat⟩ := plI_spec P.2.1 P.2.2.1 l b P.1.toNat
  have hc1 : ¬ ((p : Int) < P.1 ∧ P.2.1 p = l ∧ P.2.2.1 p = b) := by
    intro q
    obtain ⟨i, q1, q2⟩ := relH_cover hp q.1
    obtain ⟨-, b2, b3, -⟩ := hp.1 i q1
    rw [q2] at b2 b3
    exact hno i q1 ⟨b2.trans q.2.1, b3.trans q.2.2⟩
  have key : addC P l b c = if P.1 < 8 then some (P.1 + 1, insF P.2.1 p l P.1.toNat, insF P.2.2.1 p b P.1.toNat, insF P.2.2.2.1 p c P.1.toNat, P.2.2.2.2) else none := by
    unfold addC
    rw [e]
    simp only [Int.toNat_natCast]
    rw [if_neg hc1]
  refine ⟨fun q => ⟨(P.1 + 1, insF P.2.1 p l P.1.toNat, insF P.2.2.1 p b P.1.toNat, insF P.2.2.2.1 p c P.1.toNat, P.2.2.2.2), by rw [key, if_pos q], rfl, ⟨fun i => if (i : Int) < P.1 then (if pi i < p then pi i else pi i + 1) else p, ?_, ?_, ?_⟩, hs⟩, fun q => by rw [key, if_neg (by omega)]⟩
  · intro i hi
    have hi' : (i : Int) < P.1 + 1 := hi
    by_cases q2 : (i : Int) < P.1
    · obtain ⟨b1, b2, b3, b4⟩ := hp.1 i q2
      show ((((if (i : Int) < P.1 then (if pi i < p then pi i else pi i + 1) else p : Nat) : Nat) : Int) < P.1 + 1) ∧ va_up (va_up (va_up rh (3 * P.1.toNat) l) (3 * P.1.toNat + 1) b) (3 * P.1.toNat + 2) c (3 * i) = insF P.2.1 p l P.1.toNat (if (i : Int) < P.1 then (if pi i < p then pi i else pi i + 1) else p) ∧ va_up (va_up (va_up rh (3 * P.1.toNat) l) (3 * P.1.toNat + 1) b) (3 * P.1.toNat + 2) c (3 * i + 1) = insF P.2.2.1 p b P.1.toNat (if (i : Int) < P.1 then (if pi i < p then pi i else pi i + 1) else p) ∧ va_up (va_up (va_up rh (3 * P.1.toNat) l) (3 * P.1.toNat + 1) b) (3 * P.1.toNat + 2) c (3 * i + 2) = insF P.2.2.2.1 p c P.1.toNat (if (i : Int) < P.1 then (if pi i < p then pi i else pi i + 1) else p)
      rw [if_pos q2]
      rw [va_up_ne _ _ (by omega), va_up_ne _ _ (by omega), va_up_ne _ _ (by omega), va_up_ne _ _ (by omega), va_up_ne _ _ (by omega), va_up_ne _ _ (by omega), va_up_ne _ _ (by omega), va_up_ne _ _ (by omega), va_up_ne _ _ (by omega)]
      by_cases q3 : pi i < p
      · rw [if_pos q3, insF_lt q3, insF_lt q3, insF_lt q3]; exact ⟨by omega, b2, b3, b4⟩
      · rw [if_neg q3, insF_gt (by omega) (by omega), insF_gt (by omega) (by omega), insF_gt (by omega) (by omega), Nat.add_sub_cancel]; exact ⟨by omega, b2, b3, b4⟩
    · have q3 : i = P.1.toNat := by omega
      show ((((if (i : Int) < P.1 then (if pi i < p then pi i else pi i + 1) else p : Nat) : Nat) : Int) < P.1 + 1) ∧ va_up (va_up (va_up rh (3 * P.1.toNat) l) (3 * P.1.toNat + 1) b) (3 * P.1.toNat + 2) c (3 * i) = insF P.2.1 p l P.1.toNat (if (i : Int) < P.1 then (if pi i < p then pi i else pi i + 1) else p) ∧ va_up (va_up (va_up rh (3 * P.1.toNat) l) (3 * P.1.toNat + 1) b) (3 * P.1.toNat + 2) c (3 * i + 1) = insF P.2.2.1 p b P.1.toNat (if (i : Int) < P.1 then (if pi i < p then pi i else pi i + 1) else p) ∧ va_up (va_up (va_up rh (3 * P.1.toNat) l) (3 * P.1.toNat + 1) b) (3 * P.1.toNat + 2) c (3 * i + 2) = insF P.2.2.2.1 p c P.1.toNat (if (i : Int) < P.1 then (if pi i < p then pi i else pi i + 1) else p)
      rw [if_neg q2, insF_at, insF_at, insF_at, q3]
      refine ⟨by omega, ?_, ?_, ?_⟩
      · rw [va_up_ne _ _ (by omega), va_up_ne _ _ (by omega), va_up_self]
      · rw [va_up_ne _ _ (by omega), va_up_self]
      · rw [va_up_self]
  · intro i j hi hj
    have hi' : (i : Int) < P.1 + 1 := hi
    have hj' : (j : Int) < P.1 + 1 := hj
    show (if (i : Int) < P.1 then (if pi i < p then pi i else pi i + 1) else p) = (if (j : Int) < P.1 then (if pi j < p then pi j else pi j + 1) else p) → i = j
    intro e3
    by_cases q1 : (i : Int) < P.1
    · by_cases q2 : (j : Int) < P.1
      · rw [if_pos q1, if_pos q2] at e3
        refine hp.2.1 i j q1 q2 ?_
        split at e3 <;> split at e3 <;> omega
      · rw [if_pos q1, if_neg q2] at e3
        split at e3 <;> omega
    · by_cases q2 : (j : Int) < P.1
      · rw [if_neg q1, if_pos q2] at e3
        split at e3 <;> omega
      · omega
  · intro k hk
    have hk' : (k : Int) ≤ P.1 + 1 := hk
    show sumI (fun g => if (if (g : Int) < P.1 then (if pi g < p then pi g else pi g + 1) else p) < k then 1 else 0) (P.1 + 1).toNat = k
    rw [toNat_succ (by omega), sumI, if_neg (show ¬ (((P.1.toNat : Nat) : Int) < P.1) by omega)]
    by_cases q1 : k ≤ p
    · rw [if_neg (by omega), ← hp.2.2 k (by omega), Int.add_zero]
      refine sumI_congr (fun g hg2 => ?_)
      rw [if_pos (show (g : Int) < P.1 by omega)]
      by_cases q2 : pi g < p
      · rw [if_pos q2]
      · rw [if_neg q2, if_neg (by omega), if_neg (by omega)]
    · rw [if_pos (by omega), show (k : Int) = ((k - 1 : Nat) : Int) + 1 by omega, ← hp.2.2 (k - 1) (by omega)]
      congr 1
      refine sumI_congr (fun g hg2 => ?_)
      rw [if_pos (show (g : Int) < P.1 by omega)]
      by_cases q2 : pi g < p
      · rw [if_pos q2, if_pos (by omega), if_pos (by omega)]
      · rw [if_neg q2]
        by_cases q3 : pi g + 1 < k
        · rw [if_pos q3, if_pos (by omega)]
        · rw [if_neg q3, if_neg (by omega)]
theorem relP_0 {rh rst : Nat → Int} {f1 f2 f3 : Nat → Int} {a b c d e : Int} (h : rst 0 = a ∧ rst 1 = b ∧ rst 2 = c ∧ rst 3 = d ∧ rst 4 = e) : relP 0 rh rst (0, f1, f2, f3, a, b, c, d, e) := by
  refine ⟨rfl, ⟨fun i => i, fun i hi => ?_, fun i j hi => ?_, fun q hq => ?_⟩, h⟩
  · have : (i : Int) < 0 := hi
    omega
  · have : (i : Int) < 0 := hi
    omega
  · have h1 : (q : Int) ≤ 0 := hq
    have h2 : q = 0 := by omega
    subst h2
    rfl
/-- the texts agree as far as they go -/
theorem dgt_cg {tx tx' : Nat → Int} {tl : Nat} (h : ∀ i : Nat, i < tl → tx i = tx' i) (i : Nat) : dgt tx tl i = dgt tx' tl i := by
  unfold dgt
  by_cases e : i < tl
  · rw [h i e]
  · simp [e]
theorem rdV_cg {tx tx' : Nat → Int} {tl : Nat} (h : ∀ i : Nat, i < tl → tx i = tx' i) : ∀ (f i : Nat) (v : Int), rdV tx tl f i v = rdV tx' tl f i v
  | 0, _, _ => rfl
  | f + 1, i, v => by
    by_cases e : dgt tx tl i = true
    · have e2 : dgt tx' tl i = true := by rw [← dgt_cg h]; exact e
      rw [rdV_yes e, rdV_yes e2, rdV_cg h f, h i (dgt_iff.mp e).1]
    · have e1 := Bool.eq_false_iff.mpr e
      have e2 : dgt tx' tl i = false := by rw [← dgt_cg h]; exact e1
      rw [rdV_no e1, rdV_no e2]
theorem nmA_cg {tx tx' : Nat → Int} {tl : Nat} (h : ∀ i : Nat, i < tl → tx i = tx' i) : ∀ (k i : Nat), nmA tx tl k i = nmA tx' tl k i
  | 0, _ => rfl
  | k + 1, i => by
    rw [nmA, nmA, rdV_cg h, nmA_cg h k]
    by_cases e : (rdV tx' tl 3 i 0).2 < tl
    · rw [h _ e]
    · rw [if_neg (show ¬ ((rdV tx' tl 3 i 0).2 < tl ∧ tx (rdV tx' tl 3 i 0).2 = (if k = 0 then 59 else 44)) from fun q => e q.1), if_neg (show ¬ ((rdV tx' tl 3 i 0).2 < tl ∧ tx' (rdV tx' tl 3 i 0).2 = (if k = 0 then 59 else 44)) from fun q => e q.1)]
theorem itC_cg {tx tx' : Nat → Int} {tl : Nat} (h : ∀ i : Nat, i < tl → tx i = tx' i) {i : Nat} (hi : i < tl) (P : pT) : itC tx tl i P = itC tx' tl i P := by
  unfold itC
  rw [h i hi, nmA_cg h]
theorem rdC_cg {tx tx' : Nat → Int} {tl : Nat} (h : ∀ i : Nat, i < tl → tx i = tx' i) : ∀ (f i : Nat) (P : pT), rdC tx tl f i P = rdC tx' tl f i P
  | 0, _, _ => rfl
  | f + 1, i, P => by
    rw [rdC, rdC]
    by_cases e : i < tl
    · rw [if_pos e, if_pos e, itC_cg h e]
      cases itC tx' tl i P with
      | none => rfl
      | some z => exact rdC_cg h f z.1 z.2
    · rw [if_neg e, if_neg e]
