/-! ===== the model's object ===== -/
def MI0 (g : gG) (S : Nat → gE) (z : Nat) (tz : Nat) (tx : Nat → Int) (mHC : Int) (stg hps rs : Nat → Int) (rows : rT) (hist : List sT) : Prop :=
  ∃ (mAt mRC mJC mCh mVi : Int) (txa rst rhp nw sv hs nbs js : Nat → Int),
    S z = oO 9 [.ref (z + 1), .int (iI (tz : Int)), .int (iI mAt), .ref (z + 2), .ref (z + 3), .ref (z + 4), .ref (z + 5), .int (iI mHC), .int (iI mRC), .ref (z + 6), .ref (z + 7), .ref (z + 8), .int (iI (hist.length : Int)), .ref (z + 9), .ref (z + 10), .int (iI mJC), .int (iI mCh), .int (iI mVi)] ∧
    S (z + 1) = oI g 200 txa ∧ (∀ i : Nat, i < tz → txa i = tx i) ∧ S (z + 2) = oI g 5 stg ∧ S (z + 3) = oI g 5 rst ∧ S (z + 4) = oI g 24 hps ∧ S (z + 5) = oI g 24 rhp ∧ S (z + 6) = oI g 1249 nw ∧ S (z + 7) = oI g 1249 sv ∧ S (z + 8) = oI g 7494 hs ∧ S (z + 9) = oI g 3 nbs ∧ S (z + 10) = oI g 60 js ∧ mS nw rs rows ∧ mHi hs hist
theorem MI0.kept {g : gG} {S S1 : Nat → gE} {z : Nat} {tz : Nat} {tx : Nat → Int} {mHC : Int} {stg hps rs : Nat → Int} {rows : rT} {hist : List sT} (h : MI0 g S z tz tx mHC stg hps rs rows hist) (e : ∀ bb : Nat, z ≤ bb → bb < z + 11 → S1 bb = S bb) : MI0 g S1 z tz tx mHC stg hps rs rows hist := by
  obtain ⟨mAt, mRC, mJC, mCh, mVi, txa, rst, rhp, nw, sv, hs, nbs, js, h0, h1, ht, h2, h3, h4, h5, h6, h7, h8, h9, h10, hS, hH⟩ := h
  exact ⟨mAt, mRC, mJC, mCh, mVi, txa, rst, rhp, nw, sv, hs, nbs, js, (e _ (by omega) (by omega)).trans h0, (e _ (by omega) (by omega)).trans h1, ht, (e _ (by omega) (by omega)).trans h2, (e _ (by omega) (by omega)).trans h3, (e _ (by omega) (by omega)).trans h4, (e _ (by omega) (by omega)).trans h5, (e _ (by omega) (by omega)).trans h6, (e _ (by omega) (by omega)).trans h7, (e _ (by omega) (by omega)).trans h8, (e _ (by omega) (by omega)).trans h9, (e _ (by omega) (by omega)).trans h10, hS, hH⟩
def lapR (lp : Int) (rows : rT) (c : Nat) : Int := if c + 1 = rows.length then -4 else rL rows c - (rL rows c - lp) / 2 - (rL rows (c + 1) - lp) / 2
def aTold (br : Nat → Int) (lp wi hp : Int) (rows : rT) (c : Nat) (what : Int) : Int :=
  if what = 0 then rL rows c else if what = 1 then hdR lp rows c else if what = 2 then (rL rows c - lp) / 2 else if what = 3 then rmF wi hp (hdR lp rows c) else if what = 4 then ((rS rows c).length : Int) else if what = 5 then wst br (rL rows c) (rS rows c) else if what = 6 then lapR lp rows c else cuts br (rS rows c)
def aHeap (ln br rs : Nat → Int) (rows : rT) (h : Nat) (what : Int) : Int := if what = 0 then ln h else if what = 1 then br h else if what = 2 then rs h else cntR rows h
def aJoint (sl : sL) (k : Nat) : Int := if k + 1 < sl.length then slE sl k else -4
def aSlate (sl : sL) (k : Nat) (what : Int) : Int := if sl.length ≤ k then -4 else if what = 0 then slH sl k else slV sl k
def wstR (br : Nat → Int) (rows : rT) : Int := sumI (fun c => wst br (rL rows c) (rS rows c)) rows.length
def aCount (nH hi wi lp bk hp : Int) (br rs : Nat → Int) (rows : rT) (hz tz : Nat) (what : Int) : Int :=
  if what = 0 then nH else if what = 1 then (rows.length : Int) else if what = 2 then hi else if what = 3 then wi else if what = 4 then lp else if what = 5 then bk else if what = 6 then hp else if what = 7 then hdR lp rows rows.length else if what = 8 then (if hi ≤ hdR lp rows rows.length then 1 else 0) else if what = 9 then wstR br rows else if what = 10 then sumI rs nH.toNat else if what = 11 then (hz : Int) else if what = 12 then (tz : Int) else -1
theorem cntR_s {rows : rT} {h : Nat} {c : Int} (h0 : 0 ≤ c) : sumI (fun c => cntH (rS rows c) h) (c + 1).toNat = sumI (fun c => cntH (rS rows c) h) c.toNat + cntH (rS rows c.toNat) h := by rw [sumI_s h0]
theorem cntH_s {sl : sL} {h : Nat} {k : Int} (h0 : 0 ≤ k) (hk : k < sl.length) : cntH (sl.take (k + 1).toNat) h = cntH (sl.take k.toNat) h + (if slH sl k.toNat = (h : Int) then 1 else 0) := by
  rw [toNat_succ h0, cnt_take (by omega)]
  have h1 : 0 ≤ slH sl k.toNat := by unfold slH; omega
  congr 1
  by_cases e : slH sl k.toNat = (h : Int)
  · rw [if_pos e, if_pos (by omega)]
  · rw [if_neg e, if_neg (by omega)]
