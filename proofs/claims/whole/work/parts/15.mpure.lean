/-! ===== the model's rows ===== -/
def mLn (hps : Nat → Int) (h : Nat) : Int := hps (3 * h)
def mBr (hps : Nat → Int) (h : Nat) : Int := hps (3 * h + 1)
/-- row c of the model's state is the course of length L and slates sl -/
def rowIs (nw : Nat → Int) (c : Nat) (L : Int) (sl : sL) : Prop := nw (9 + 62 * c) = L ∧ nw (9 + 62 * c + 1) = sl.length ∧ ∀ i : Nat, i < sl.length → nw (9 + 62 * c + 2 + i) = 64 * slH sl i + slV sl i
theorem slV_ok {nH : Nat} {ln br : Nat → Int} {L : Int} {sl : sL} (h : okS nH ln br L sl) {i : Nat} (hi : i < sl.length) : 1 ≤ slV sl i ∧ slV sl i ≤ br (slH sl i).toNat := by
  have e : sl.getD i (0, 0) = sl[i] := by simp [List.getD_eq_getElem?_getD, hi]
  have := (h sl[i] (List.getElem_mem hi)).2.2
  unfold slV slH
  rw [e, Int.toNat_natCast]; exact this
theorem sumI_congr {f f' : Nat → Int} : ∀ {n : Nat}, (∀ i : Nat, i < n → f i = f' i) → sumI f n = sumI f' n
  | 0, _ => rfl
  | n + 1, h => by rw [sumI, sumI, sumI_congr (fun i hi => h i (by omega)), h n (by omega)]
theorem sumI_cons (f : Nat → Int) : ∀ n : Nat, sumI f (n + 1) = f 0 + sumI (fun i => f (i + 1)) n
  | 0 => by simp [sumI]
  | n + 1 => by
    have ih := sumI_cons f n
    rw [sumI, ih, sumI]
    omega
theorem slH_cons {x : Nat × Int} {r : sL} {i : Nat} : slH (x :: r) (i + 1) = slH r i := by unfold slH; simp
theorem slV_cons {x : Nat × Int} {r : sL} {i : Nat} : slV (x :: r) (i + 1) = slV r i := by unfold slV; simp
/-- the model's sum of what is cut away -/
theorem wst_sum {nH : Nat} {ln br : Nat → Int} {L : Int} : ∀ {sl : sL}, okS nH ln br L sl → wst br L sl = sumI (fun i => br (slH sl i).toNat - slV sl i) sl.length * L
  | [], _ => by simp [wst, sumI]
  | x :: r, h => by
    have ih := wst_sum (sl := r) (fun z hz => h z (List.mem_cons_of_mem _ hz))
    obtain ⟨-, -, k3, k4⟩ := h x List.mem_cons_self
    have e0 : sumI (fun i => br (slH (x :: r) i).toNat - slV (x :: r) i) (x :: r).length = (br x.1 - x.2) + sumI (fun i => br (slH r i).toNat - slV r i) r.length := by
      rw [List.length_cons, sumI_cons]
      have e1 : slH (x :: r) 0 = x.1 := rfl
      have e2 : slV (x :: r) 0 = x.2 := rfl
      rw [e1, e2, Int.toNat_natCast]
      congr 1
    rw [e0, wst, ih, Int.add_mul]
    congr 1
    split
    · rfl
    · rw [show br x.1 - x.2 = 0 by omega, Int.zero_mul]
theorem cuts_sum {br : Nat → Int} : ∀ {sl : sL}, cuts br sl = sumI (fun i => if slV sl i < br (slH sl i).toNat then 1 else 0) sl.length
  | [] => by simp [cuts, sumI]
  | x :: r => by
    have ih := cuts_sum (br := br) (sl := r)
    rw [List.length_cons, sumI_cons, cuts, ih]
    have e1 : slH (x :: r) 0 = x.1 := rfl
    have e2 : slV (x :: r) 0 = x.2 := rfl
    rw [e1, e2, Int.toNat_natCast]
    congr 1
theorem d64 {h v : Int} (hv : 0 ≤ v ∧ v < 64) : (64 * h + v) / 64 = h ∧ (64 * h + v) % 64 = v := by omega
