/-! ===== the model's object, by the plan that it was given ===== -/
def mP (P : pT) (mHC : Int) (stg hps : Nat → Int) : Prop := mHC = P.1 ∧ (∀ i : Nat, (i : Int) < P.1 → mLn hps i = P.2.1 i ∧ mBr hps i = P.2.2.1 i) ∧ stg 0 = P.2.2.2.2.1 ∧ stg 1 = P.2.2.2.2.2.1 ∧ stg 2 = P.2.2.2.2.2.2.1 ∧ stg 3 = P.2.2.2.2.2.2.2.1 ∧ stg 4 = P.2.2.2.2.2.2.2.2
def MI (g : gG) (S : Nat → gE) (z tz : Nat) (tx : Nat → Int) (P : pT) (rs : Nat → Int) (rows : rT) (hist : List sT) : Prop := ∃ (mHC : Int) (stg hps : Nat → Int), mP P mHC stg hps ∧ MI0 g S z tz tx mHC stg hps rs rows hist
theorem MI.kept {g : gG} {S S1 : Nat → gE} {z tz : Nat} {tx : Nat → Int} {P : pT} {rs : Nat → Int} {rows : rT} {hist : List sT} (h : MI g S z tz tx P rs rows hist) (e : ∀ bb : Nat, z ≤ bb → bb < z + 11 → S1 bb = S bb) : MI g S1 z tz tx P rs rows hist := by
  obtain ⟨mHC, stg, hps, h1, h2⟩ := h
  exact ⟨mHC, stg, hps, h1, h2.kept e⟩
theorem mP_of {P : pT} {RC : Int} {rh rst stg hps : Nat → Int} (hr : relP RC rh rst P) (h0 : ∀ i : Nat, (i : Int) < P.1 → mLn hps i = P.2.1 i ∧ mBr hps i = P.2.2.1 i) (h1 : ∀ i : Nat, i < 5 → stg i = rst i) : mP P RC stg hps := by
  obtain ⟨a, -, b0, b1, b2, b3, b4⟩ := hr
  exact ⟨a, h0, (h1 0 (by decide)).trans b0, (h1 1 (by decide)).trans b1, (h1 2 (by decide)).trans b2, (h1 3 (by decide)).trans b3, (h1 4 (by decide)).trans b4⟩
theorem mP_sam {P : pT} {mHC : Int} {stg hps : Nat → Int} (h : mP P mHC stg hps) : sam P.1.toNat P.2.1 P.2.2.1 (mLn hps) (mBr hps) := fun i hi => by
  have h1 := h.2.1 i (by omega)
  exact ⟨h1.1.symm, h1.2.symm⟩
theorem mP_good {P : pT} {mHC : Int} {stg hps : Nat → Int} (hg : goodP P) (h : mP P mHC stg hps) : goodM mHC stg hps := by
  obtain ⟨g1, g2, g3, g4, g5, g6, g7, g8⟩ := hg
  obtain ⟨h0, h1, s0, s1, s2, s3, s4⟩ := h
  subst h0
  refine ⟨g1, fun i hi => ?_, fun i j hij hj => ?_, by rw [s0]; exact g4, by rw [s1]; exact g5, by rw [s2]; exact g6, by rw [s3]; exact g7, by rw [s4]; exact g8⟩
  · rw [(h1 i hi).1, (h1 i hi).2]
    have h2 := g2 i hi
    exact ⟨h2.1, h2.2.1⟩
  · rw [(h1 i (by omega)).1, (h1 i (by omega)).2, (h1 j hj).1, (h1 j hj).2]
    exact g3 i j hij hj
theorem rdC_good {tx : Nat → Int} {tl : Nat} : ∀ (f i : Nat) (P : pT), goodP P → goodP (rdC tx tl f i P).2
  | 0, _, _, h => h
  | f + 1, i, P, h => by
    by_cases c : i < tl
    · rcases opt_cases (itC tx tl i P) with e | ⟨⟨e1, P1⟩, e⟩
      · rw [rdC_none c e]; exact h
      · rw [rdC_some c e]; exact rdC_good f e1 P1 (itC_good h e)
    · rw [rdC_end (by omega)]; exact h
/-! the plan at first -/
def ipA (P : pT) (l b c : Int) : pT := (addC P l b c).getD P
def ip0 : pT := (0, fun _ => 0, fun _ => 0, fun _ => 0, 100, 120, 6, 4, 0)
def ip1 : pT := ipA ip0 40 30 30
def ip2 : pT := ipA ip1 40 22 30
def ip3 : pT := ipA ip2 40 17 9
def ip4 : pT := ipA ip3 30 25 40
def ip5 : pT := ipA ip4 30 18 40
def ip6 : pT := ipA ip5 24 20 60
def ip7 : pT := ipA ip6 24 11 30
def ip8 : pT := (ip7.1, ip7.2.1, ip7.2.2.1, ip7.2.2.2.1, 110, 130, 6, 4, 2)
theorem ip_some {P : pT} {l b c : Int} (h : (addC P l b c).isSome = true) : addC P l b c = some (ipA P l b c) := by
  unfold ipA
  cases hz : addC P l b c with
  | none => rw [hz] at h; cases h
  | some Q => rfl
theorem ia1 : addC ip0 40 30 30 = some ip1 := ip_some (by decide +kernel)
theorem ia2 : addC ip1 40 22 30 = some ip2 := ip_some (by decide +kernel)
theorem ia3 : addC ip2 40 17 9 = some ip3 := ip_some (by decide +kernel)
theorem ia4 : addC ip3 30 25 40 = some ip4 := ip_some (by decide +kernel)
theorem ia5 : addC ip4 30 18 40 = some ip5 := ip_some (by decide +kernel)
theorem ia6 : addC ip5 24 20 60 = some ip6 := ip_some (by decide +kernel)
theorem ia7 : addC ip6 24 11 30 = some ip7 := ip_some (by decide +kernel)
theorem ig0 : goodP ip0 := goodP_0 _ _ _
theorem ig1 : goodP ip1 := addC_good (by decide) (by decide) (by decide) ig0 ia1
theorem ig2 : goodP ip2 := addC_good (by decide) (by decide) (by decide) ig1 ia2
theorem ig3 : goodP ip3 := addC_good (by decide) (by decide) (by decide) ig2 ia3
theorem ig4 : goodP ip4 := addC_good (by decide) (by decide) (by decide) ig3 ia4
theorem ig5 : goodP ip5 := addC_good (by decide) (by decide) (by decide) ig4 ia5
theorem ig6 : goodP ip6 := addC_good (by decide) (by decide) (by decide) ig5 ia6
theorem ig7 : goodP ip7 := addC_good (by decide) (by decide) (by decide) ig6 ia7
theorem ig8 : goodP ip8 := by
  obtain ⟨g1, g2, g3, -⟩ := ig7
  exact ⟨g1, g2, g3, by decide, by decide, by decide, by decide, by decide⟩
theorem ip7_r : ip7.2.2.2.2.2.2.1 = 6 ∧ ip7.2.2.2.2.2.2.2.1 = 4 := by decide +kernel
theorem irel {RC : Int} {rh rst : Nat → Int} (h : relP RC rh rst ip7) : relP RC rh (va_up (va_up (va_up rst 0 110) 1 130) 4 2) ip8 := by
  obtain ⟨h1, h2, -, -, h3, h4, -⟩ := h
  have h5 := ip7_r
  refine ⟨h1, h2, rfl, rfl, ?_, ?_, rfl⟩
  · show rst 2 = 6
    rw [h3]; exact h5.1
  · show rst 3 = 4
    rw [h4]; exact h5.2
theorem rdC_ans (tx : Nat → Int) (tl : Nat) : ∀ (f i : Nat) (P : pT), tl ≤ 200 → -4 ≤ (rdC tx tl f i P).1 ∧ (rdC tx tl f i P).1 ≤ 200
  | 0, _, _, _ => by show (-4 : Int) ≤ -4 ∧ (-4 : Int) ≤ 200; decide
  | f + 1, i, P, h => by
    by_cases c : i < tl
    · rcases opt_cases (itC tx tl i P) with e | ⟨⟨e1, P1⟩, e⟩
      · rw [rdC_none c e]
        show (-4 : Int) ≤ (i : Int) ∧ (i : Int) ≤ 200
        omega
      · rw [rdC_some c e]; exact rdC_ans tx tl f e1 P1 h
    · rw [rdC_end (by omega)]; show (-4 : Int) ≤ -4 ∧ (-4 : Int) ≤ 200; decide
