theorem cnt1_T {hf : Nat → Int} {sl : sL} {h : Int} (h0 : 0 ≤ h) (e : ∀ i : Nat, i < sl.length → hf i = slH sl i) : ∀ k : Nat, k ≤ sl.length → cnt1 hf h k = cntH (sl.take k) h.toNat
  | 0, _ => by rw [List.take_zero]; rfl
  | k + 1, hk => by
    have h1 := cntH_s (sl := sl) (h := h.toNat) (k := (k : Int)) (by omega) (by omega)
    rw [show ((k : Int) + 1).toNat = k + 1 by omega, Int.toNat_natCast, show ((h.toNat : Nat) : Int) = h by omega] at h1
    rw [cnt1, cnt1_T h0 e k (by omega), h1, e k (by omega)]
theorem cnt2_R {rows : rT} {kh : Nat → Nat → Int} {h : Int} (h0 : 0 ≤ h) (e : ∀ j : Nat, j < rows.length → ∀ i : Nat, i < (rS rows j).length → kh j i = slH (rS rows j) i) : ∀ {c : Nat}, c ≤ rows.length → cnt2 kh (fun j => ((rS rows j).length : Int)) h c = sumI (fun c => cntH (rS rows c) h.toNat) c
  | 0, _ => rfl
  | c + 1, hc => by
    rw [cnt2, sumI, cnt2_R h0 e (by omega)]
    congr 1
    show cnt1 (kh c) h ((rS rows c).length : Int).toNat = _
    rw [Int.toNat_natCast, cnt1_T h0 (e c hc) _ (Nat.le_refl _), List.take_length]
