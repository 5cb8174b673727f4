theorem rowIs.kept {nw kw : Nat → Int} {c j : Nat} {L : Int} {sl : sL} (h : rowIs nw j L sl) (hl : sl.length ≤ 60) (hj : j < c) (hk : ∀ i : Nat, 8 ≤ i → i < 9 + 62 * c → kw i = nw i) : rowIs kw j L sl := by
  obtain ⟨h1, h2, h3⟩ := h
  refine ⟨by rw [hk _ (by omega) (by omega)]; exact h1, by rw [hk _ (by omega) (by omega)]; exact h2, fun i hi => by rw [hk _ (by omega) (by omega)]; exact h3 i hi⟩
theorem cnt_big {nH : Nat} {ln br : Nat → Int} {L : Int} : ∀ {sl : sL} {i : Nat}, okS nH ln br L sl → nH ≤ i → cntH sl i = 0
  | [], _, _, _ => rfl
  | x :: r, i, h, hi => by
    have ih := cnt_big (sl := r) (i := i) (fun z hz => h z (List.mem_cons_of_mem _ hz)) hi
    have h1 := (h x List.mem_cons_self).1
    simp only [cntH]
    rw [if_neg (by omega), ih]; rfl
theorem okS_take {nH : Nat} {ln br : Nat → Int} {L : Int} {sl : sL} (h : okS nH ln br L sl) (k : Nat) : okS nH ln br L (sl.take k) := fun z hz => h z (List.mem_of_mem_take hz)
theorem cnt_take {sl : sL} {k i : Nat} (hk : k < sl.length) : cntH (sl.take (k + 1)) i = cntH (sl.take k) i + (if (slH sl k).toNat = i then 1 else 0) := by
  rw [List.take_succ_eq_append_getElem hk, cntH_app]
  have e : slH sl k = sl[k].1 := by unfold slH; simp [List.getD_eq_getElem?_getD, hk]
  rw [e, Int.toNat_natCast]
  simp [cntH]
theorem gB_step {nw : Nat → Int} {sl : sL} {k : Nat} {h : Nat} (hk : k < sl.length) (hh : (slH sl k).toNat = h) : va_up (fun i => nw i + cntH (sl.take k) i) h (nw h + cntH (sl.take k) h + 1) = fun i => nw i + cntH (sl.take (k + 1)) i := by
  funext i
  unfold va_up
  rw [cnt_take hk, hh]
  by_cases e : i = h
  · rw [if_pos e, e, if_pos rfl]; omega
  · rw [if_neg e, if_neg (fun q => e q.symm)]; show nw i + cntH (sl.take k) i = _; omega
theorem okS_snoc {nH : Nat} {ln br : Nat → Int} {L : Int} {a : sL} {x : Nat × Int} (h : okS nH ln br L a) (hx : x.1 < nH ∧ ln x.1 = L ∧ 1 ≤ x.2 ∧ x.2 ≤ br x.1) : okS nH ln br L (a ++ [x]) := fun z hz => by
  rcases List.mem_append.mp hz with q | q
  · exact h z q
  · rw [List.mem_singleton.mp q]; exact hx
