/-! ===== reading the text ===== -/
def dgt (tx : Nat → Int) (tl i : Nat) : Bool := decide (i < tl ∧ 48 ≤ tx i ∧ tx i ≤ 57)
theorem dgt_iff {tx : Nat → Int} {tl i : Nat} : dgt tx tl i = true ↔ i < tl ∧ 48 ≤ tx i ∧ tx i ≤ 57 := by simp [dgt]
/-- at most f figures from i on, behind the number v: the number, the place behind -/
def rdV (tx : Nat → Int) (tl : Nat) : Nat → Nat → Int → Int × Nat
  | 0, i, v => (v, i)
  | f + 1, i, v => if dgt tx tl i = true then rdV tx tl f (i + 1) (v * 10 + (tx i - 48)) else (v, i)
theorem rdV_yes {tx : Nat → Int} {tl f i : Nat} {v : Int} (h : dgt tx tl i = true) : rdV tx tl (f + 1) i v = rdV tx tl f (i + 1) (v * 10 + (tx i - 48)) := by rw [rdV, if_pos h]
theorem rdV_no {tx : Nat → Int} {tl f i : Nat} {v : Int} (h : dgt tx tl i = false) : rdV tx tl f i v = (v, i) := by
  cases f with
  | zero => rfl
  | succ f => rw [rdV, if_neg (by rw [h]; decide)]
theorem rdV_ge (tx : Nat → Int) (tl : Nat) : ∀ (f i : Nat) (v : Int), i ≤ (rdV tx tl f i v).2 ∧ (rdV tx tl f i v).2 ≤ i + f ∧ (i ≤ tl → (rdV tx tl f i v).2 ≤ tl)
  | 0, i, v => ⟨Nat.le_refl _, Nat.le_refl _, fun h => h⟩
  | f + 1, i, v => by
    by_cases h : dgt tx tl i = true
    · rw [rdV_yes h]
      have ih := rdV_ge tx tl f (i + 1) (v * 10 + (tx i - 48))
      have hd := dgt_iff.mp h
      exact ⟨by omega, by omega, fun _ => ih.2.2 (by omega)⟩
    · rw [rdV_no (Bool.eq_false_iff.mpr h)]
      exact ⟨Nat.le_refl _, by omega, fun z => z⟩
theorem rdV_rng (tx : Nat → Int) (tl : Nat) : ∀ (f i : Nat) (v : Int), 0 ≤ v → 0 ≤ (rdV tx tl f i v).1 ∧ (f ≤ 3 → v ≤ 999999 → (rdV tx tl f i v).1 ≤ (v + 1) * 1000)
  | 0, i, v, h => by
    rw [rdV]
    exact ⟨h, fun _ _ => by show v ≤ _; omega⟩
  | f + 1, i, v, h => by
    by_cases hd : dgt tx tl i = true
    · rw [rdV_yes hd]
      have h1 := dgt_iff.mp hd
      have h2 := rdV_rng tx tl f (i + 1) (v * 10 + (tx i - 48)) (by omega)
      refine ⟨h2.1, fun hf hv => ?_⟩
      clear h2
      -- figures one by one
      rcases f with _ | f
      · rw [rdV]; show v * 10 + (tx i - 48) ≤ _; omega
      · by_cases hd2 : dgt tx tl (i + 1) = true
        · rw [rdV_yes hd2]
          have h3 := dgt_iff.mp hd2
          rcases f with _ | f
          · rw [rdV]; show (v * 10 + (tx i - 48)) * 10 + (tx (i + 1) - 48) ≤ _; omega
          · have hf0 : f = 0 := by omega
            subst hf0
            by_cases hd3 : dgt tx tl (i + 1 + 1) = true
            · rw [rdV_yes hd3, rdV]
              have h4 := dgt_iff.mp hd3
              show ((v * 10 + (tx i - 48)) * 10 + (tx (i + 1) - 48)) * 10 + (tx (i + 1 + 1) - 48) ≤ _
              omega
            · rw [rdV_no (Bool.eq_false_iff.mpr hd3)]
              show (v * 10 + (tx i - 48)) * 10 + (tx (i + 1) - 48) ≤ _; omega
        · rw [rdV_no (Bool.eq_false_iff.mpr hd2)]
          show v * 10 + (tx i - 48) ≤ _; omega
    · rw [rdV_no (Bool.eq_false_iff.mpr hd)]
      exact ⟨h, fun _ _ => by show v ≤ _; omega⟩
/-- k numbers with , between them and ; behind: the numbers, the place behind -/
def nmA (tx : Nat → Int) (tl : Nat) : Nat → Nat → Option (List Int × Nat)
  | 0, i => some ([], i)
  | k + 1, i =>
    if (rdV tx tl 3 i 0).2 = i then none
    else if (rdV tx tl 3 i 0).2 < tl ∧ tx (rdV tx tl 3 i 0).2 = (if k = 0 then 59 else 44) then
      (nmA tx tl k ((rdV tx tl 3 i 0).2 + 1)).map (fun z => ((rdV tx tl 3 i 0).1 :: z.1, z.2))
    else none
theorem nmA_some {tx : Nat → Int} {tl k i e : Nat} {ns : List Int} (h : nmA tx tl (k + 1) i = some (ns, e)) : ((rdV tx tl 3 i 0).2 ≠ i ∧ (rdV tx tl 3 i 0).2 < tl ∧ tx (rdV tx tl 3 i 0).2 = (if k = 0 then 59 else 44)) ∧ ∃ r : List Int, ns = (rdV tx tl 3 i 0).1 :: r ∧ nmA tx tl k ((rdV tx tl 3 i 0).2 + 1) = some (r, e) := by
  rw [nmA] at h
  by_cases h1 : (rdV tx tl 3 i 0).2 = i
  · rw [if_pos h1] at h; cases h
  · rw [if_neg h1] at h
    by_cases h2 : (rdV tx tl 3 i 0).2 < tl ∧ tx (rdV tx tl 3 i 0).2 = (if k = 0 then 59 else 44)
    · rw [if_pos h2] at h
      cases hz : nmA tx tl k ((rdV tx tl 3 i 0).2 + 1) with
      | none => rw [hz] at h; cases h
      | some z =>
        rw [hz] at h
        have h3 := Option.some.inj h
        have h4 : ((rdV tx tl 3 i 0).1 :: z.1, z.2) = (ns, e) := h3
        cases h4
        exact ⟨⟨h1, h2⟩, z.1, rfl, rfl⟩
    · rw [if_neg h2] at h; cases h
theorem nmA_none {tx : Nat → Int} {tl k i : Nat} (h : nmA tx tl (k + 1) i = none) : (rdV tx tl 3 i 0).2 = i ∨ ¬ ((rdV tx tl 3 i 0).2 < tl ∧ tx (rdV tx tl 3 i 0).2 = (if k = 0 then 59 else 44)) ∨ nmA tx tl k ((rdV tx tl 3 i 0).2 + 1) = none := by
  rw [nmA] at h
  by_cases h1 : (rdV tx tl 3 i 0).2 = i
  · exact Or.inl h1
  · rw [if_neg h1] at h
    by_cases h2 : (rdV tx tl 3 i 0).2 < tl ∧ tx (rdV tx tl 3 i 0).2 = (if k = 0 then 59 else 44)
    · rw [if_pos h2] at h
      refine Or.inr (Or.inr ?_)
      cases hz : nmA tx tl k ((rdV tx tl 3 i 0).2 + 1) with
      | none => rfl
      | some z => rw [hz] at h; cases h
    · exact Or.inr (Or.inl h2)
theorem nmA_len {tx : Nat → Int} {tl : Nat} : ∀ {k i e : Nat} {ns : List Int}, nmA tx tl k i = some (ns, e) → ns.length = k ∧ i + k ≤ e ∧ (i ≤ tl → e ≤ tl) ∧ ∀ x ∈ ns, 0 ≤ x ∧ x ≤ 1000
  | 0, i, e, ns, h => by
    cases h
    exact ⟨rfl, Nat.le_refl _, fun z => z, fun x hx => by cases hx⟩
  | k + 1, i, e, ns, h => by
    obtain ⟨⟨h1, h2, h3⟩, r, h4, h5⟩ := nmA_some h
    obtain ⟨i1, i2, i3, i4⟩ := nmA_len h5
    have g := rdV_ge tx tl 3 i 0
    have g2 := rdV_rng tx tl 3 i 0 (Int.le_refl 0)
    subst h4
    refine ⟨by rw [List.length_cons, i1], by omega, fun _ => i3 (by omega), fun x hx => ?_⟩
    rcases List.mem_cons.mp hx with q | q
    · rw [q]; exact ⟨g2.1, g2.2 (by decide) (by decide)⟩
    · exact i4 x q
def nOf (kd : Int) : Nat := if kd = 104 then 3 else if kd = 114 ∨ kd = 112 then 2 else if kd = 105 then 1 else 0
/-! heaps in their order -/
def plQ (ln br : Nat → Int) (l b : Int) (h : Nat) : Bool := decide (¬ (l < ln h ∨ (ln h = l ∧ b < br h)))
theorem plQ_iff {ln br : Nat → Int} {l b : Int} {h : Nat} : plQ ln br l b h = true ↔ ¬ (l < ln h ∨ (ln h = l ∧ b < br h)) := by
  unfold plQ
  exact decide_eq_true_iff
theorem plQ_f {ln br : Nat → Int} {l b : Int} {h : Nat} : plQ ln br l b h = false ↔ (l < ln h ∨ (ln h = l ∧ b < br h)) := by
  constructor
  · intro h1
    exact Classical.byContradiction fun q => by rw [plQ_iff.mpr q] at h1; cases h1
  · intro h1
    exact Bool.eq_false_iff.mpr (fun q => plQ_iff.mp q h1)
def plI (ln br : Nat → Int) (l b : Int) (nH : Nat) : Int := if fstI (plQ ln br l b) nH = -4 then (nH : Int) else fstI (plQ ln br l b) nH
def shD (f : Nat → Int) (h nH : Nat) : Nat → Int := fun j => if h < j ∧ j ≤ nH then f (j - 1) else f j
def insF (f : Nat → Int) (p : Nat) (x : Int) (nH : Nat) : Nat → Int := fun j => if j = p then x else if p < j ∧ j ≤ nH then f (j - 1) else f j
theorem shD_0 (f : Nat → Int) (n : Nat) : shD f n n = f := by
  funext j
  unfold shD
  rw [if_neg (by omega)]
theorem shD_s {f : Nat → Int} {h nH : Nat} (h0 : 0 < h) (h1 : h ≤ nH) : va_up (shD f h nH) h (shD f h nH (h - 1)) = shD f (h - 1) nH := by
  funext j
  unfold va_up shD
  by_cases e : j = h
  · rw [if_pos e, if_neg (by omega), if_pos (by omega), e]
  · rw [if_neg e]
    by_cases e2 : h < j ∧ j ≤ nH
    · rw [if_pos e2, if_pos (by omega)]
    · rw [if_neg e2, if_neg (by omega)]
theorem shD_ins {f : Nat → Int} {p nH : Nat} {x : Int} : va_up (shD f p nH) p x = insF f p x nH := rfl
/-- a plan: heaps, lengths, breadths, slates, high, wide, lap, break, hip -/
abbrev pT : Type := Int × (Nat → Int) × (Nat → Int) × (Nat → Int) × Int × Int × Int × Int × Int
def addC (P : pT) (l b c : Int) : Option pT :=
  if plI P.2.1 P.2.2.1 l b P.1.toNat < P.1 ∧ P.2.1 (plI P.2.1 P.2.2.1 l b P.1.toNat).toNat = l ∧ P.2.2.1 (plI P.2.1 P.2.2.1 l b P.1.toNat).toNat = b then
    (if P.2.2.2.1 (plI P.2.1 P.2.2.1 l b P.1.toNat).toNat + c ≤ 999 then some (P.1, P.2.1, P.2.2.1, va_up P.2.2.2.1 (plI P.2.1 P.2.2.1 l b P.1.toNat).toNat (P.2.2.2.1 (plI P.2.1 P.2.2.1 l b P.1.toNat).toNat + c), P.2.2.2.2) else none)
  else (if P.1 < 8 then some (P.1 + 1, insF P.2.1 (plI P.2.1 P.2.2.1 l b P.1.toNat).toNat l P.1.toNat, insF P.2.2.1 (plI P.2.1 P.2.2.1 l b P.1.toNat).toNat b P.1.toNat, insF P.2.2.2.1 (plI P.2.1 P.2.2.1 l b P.1.toNat).toNat c P.1.toNat, P.2.2.2.2) else none)
def takeC (kd a b c : Int) (P : pT) : Option pT :=
  if kd = 104 then (if (20 ≤ a ∧ a ≤ 60) ∧ (10 ≤ b ∧ b ≤ 60) ∧ (1 ≤ c ∧ c ≤ 99) then addC P a b c else none)
  else if kd = 114 then (if (20 ≤ a ∧ a ≤ 400) ∧ (40 ≤ b ∧ b ≤ 240) then some (P.1, P.2.1, P.2.2.1, P.2.2.2.1, a, b, P.2.2.2.2.2.2) else none)
  else if kd = 112 then (if (1 ≤ a ∧ a ≤ 10) ∧ (1 ≤ b ∧ b ≤ 9) then some (P.1, P.2.1, P.2.2.1, P.2.2.2.1, P.2.2.2.2.1, P.2.2.2.2.2.1, a, b, P.2.2.2.2.2.2.2.2) else none)
  else if kd = 105 then (if 0 ≤ a ∧ a ≤ 9 then some (P.1, P.2.1, P.2.2.1, P.2.2.2.1, P.2.2.2.2.1, P.2.2.2.2.2.1, P.2.2.2.2.2.2.1, P.2.2.2.2.2.2.2.1, a) else none)
  else none
/-- a plan in the store of which nothing is known -/
def gbP (g : gG) (S : Nat → gE) (a : Nat) : Prop := ∃ (i1 i2 i3 i4 i5 i6 : Int) (f1 f2 f3 : Nat → Int), S a = oO 5 [.ref (a + 1), .ref (a + 2), .ref (a + 3), .int (iI i1), .int (iI i2), .int (iI i3), .int (iI i4), .int (iI i5), .int (iI i6)] ∧ S (a + 1) = oI g 8 f1 ∧ S (a + 2) = oI g 8 f2 ∧ S (a + 3) = oI g 8 f3
theorem ch_nw {r : Int} (h : 0 ≤ r ∧ r ≤ 65535) : narrow .char (.int (iI r)) = .int (iI r) := by
  have e : iI r = nI r.toNat := by
    unfold iI nI
    rw [← Int32.ofInt_eq_ofNat, show ((r.toNat : Nat) : Int) = r by omega]
  rw [e]
  exact (pk_charN (by omega)).1
theorem ch_vn {r : Int} (h : 0 ≤ r ∧ r ≤ 65535) : vp_nar .char (iI r) = iI r := by
  unfold vp_nar
  rw [ch_nw h]
theorem plI_r (ln br : Nat → Int) (l b : Int) (nH : Nat) : 0 ≤ plI ln br l b nH ∧ plI ln br l b nH ≤ nH := by
  have h := fstI_r (plQ ln br l b) nH
  unfold plI
  split <;> omega
def itC (tx : Nat → Int) (tl i : Nat) (P : pT) : Option (Nat × pT) :=
  match nmA tx tl (nOf (tx i)) (i + 1) with
  | none => none
  | some z => (takeC (tx i) (z.1.getD 0 0) (z.1.getD 1 0) (z.1.getD 2 0) P).map (fun Q => (z.2, Q))
def rdC (tx : Nat → Int) (tl : Nat) : Nat → Nat → pT → Int × pT
  | 0, _, P => (-4, P)
  | f + 1, i, P => if i < tl then (match itC tx tl i P with
      | none => ((i : Int), P)
      | some z => rdC tx tl f z.1 z.2) else (-4, P)
theorem takeC_irr {kd a b c a' b' c' : Int} {P : pT} (h0 : 1 ≤ nOf kd → a = a') (h1 : 2 ≤ nOf kd → b = b') (h2 : 3 ≤ nOf kd → c = c') : takeC kd a b c P = takeC kd a' b' c' P := by
  unfold nOf at h0 h1 h2
  unfold takeC
  by_cases k1 : kd = 104
  · rw [if_pos k1, if_pos k1]
    rw [if_pos k1] at h0 h1 h2
    rw [h0 (by decide), h1 (by decide), h2 (by decide)]
  · rw [if_neg k1, if_neg k1]
    rw [if_neg k1] at h0 h1 h2
    by_cases k2 : kd = 114
    · rw [if_pos k2, if_pos k2]
      rw [if_pos (Or.inl k2)] at h0 h1
      rw [h0 (by decide), h1 (by decide)]
    · rw [if_neg k2, if_neg k2]
      by_cases k3 : kd = 112
      · rw [if_pos k3, if_pos k3]
        rw [if_pos (Or.inr k3)] at h0 h1
        rw [h0 (by decide), h1 (by decide)]
      · rw [if_neg k3, if_neg k3]
        rw [if_neg (fun q => q.elim k2 k3)] at h0
        by_cases k4 : kd = 105
        · rw [if_pos k4, if_pos k4]
          rw [if_pos k4] at h0
          rw [h0 (by decide)]
        · rw [if_neg k4, if_neg k4]
theorem nOf_le (kd : Int) : nOf kd ≤ 3 := by
  unfold nOf
  (repeat' split) <;> omega
