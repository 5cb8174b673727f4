theorem mP_cp {R P : pT} {mHC : Int} {stg hps : Nat → Int} (h8 : R.1 ≤ 8) (h : mP R mHC stg hps) : mP (cpP R P) mHC stg hps := by
  obtain ⟨h0, h1, h2⟩ := h
  refine ⟨h0, fun i hi => ?_, h2⟩
  have hi' : (i : Int) < R.1 := hi
  show mLn hps i = va_cpy R.2.1 P.2.1 0 0 8 i ∧ mBr hps i = va_cpy R.2.2.1 P.2.2.1 0 0 8 i
  rw [cpy8' (by omega), cpy8' (by omega)]
  exact h1 i hi'
set_option maxHeartbeats 4000000 in
set_option maxRecDepth 100000 in
theorem w_M_write (l : Launch) (g : gG) {n : Nat} {S : Nat → gE} {z : Nat} {A : aT} {y : Int} (hA : MA g S z A) (hg : goodA A) (ry0 : -2147483648 ≤ y ∧ y < 2147483648) : g_Cs l yX9_write wsX9_write { frames := 1, cells := 0, slots := 0, locals := 22 } g [.ref z, .int (iI y)] n S (fun vr n1 S1 => vr = some (.int (iI (sWrite A y).1)) ∧ n = n1 ∧ MA g S1 z (sWrite A y).2 ∧ ∀ bb, (bb < z ∨ z + 11 ≤ bb) → S1 bb = S bb) 0 0 := by
  obtain ⟨tz, tx, P, rs, rows, hist⟩ := A
  obtain ⟨g1, g2, g3, g4, g5⟩ : tz ≤ 200 ∧ (∀ i : Nat, i < tz → 32 ≤ tx i ∧ tx i ≤ 126) ∧ goodP P ∧ goodR P.1.toNat P.2.1 P.2.2.1 rs rows ∧ goodH P.1.toNat P.2.1 P.2.2.1 hist := hg
  obtain ⟨mHC, stg, hps, hmP, mAt, mRC, mJC, mCh, mVi, txa, rst, rhp, nw, sv, hs, nbs, js, z0, z1, ztx, z2, z3, z4, z5, z6, z7, z8, z9, z10, hS, hHi⟩ : MI g S z tz tx P rs rows hist := hA
  have hM := mP_good g3 hmP
  have hsm := mP_sam hmP
  obtain ⟨e0, hlb, s0, s1, s2, s3, s4⟩ := id hmP
  subst e0
  have hR := goodR_lb hsm g4
  have hHg := goodH_lb hsm g5
  have hbr : ∀ i : Nat, i < P.1.toNat → 1 ≤ P.2.2.1 i := fun i hi => by have := g3.2.1 i (by omega); omega
  have eL : ∀ y : Int, layR P.1.toNat (mLn hps) (mBr hps) (stg 0) (stg 2) (stg 1) (stg 4) (stg 3) rs rows y = layA P rs rows y := fun y => by unfold layA; rw [s0, s1, s2, s3, s4]; exact (layR_lb hsm).symm
  by_cases c1 : 32 ≤ y ∧ y ≤ 126
  · by_cases c2 : tz = 200
    · refine ((c_M_write_full l g  z0 z1 z2 z3 z4 z5 z6 z7 z8 z9 z10 g1 ztx hM hR hS hHi hHg ry0 c1 c2).wide (Nat.le_of_ble_eq_true rfl) (Nat.le_of_ble_eq_true rfl) (Nat.le_of_ble_eq_true rfl) (Nat.le_of_ble_eq_true rfl)).mono (fun v n1 S1 h => ?_)
      obtain ⟨rfl, rfl, h1, fr⟩ := h
      rw [show sWrite (tz, tx, P, rs, rows, hist) y = (-3, (tz, tx, P, rs, rows, hist)) by unfold sWrite; rw [if_pos c1]; exact if_pos c2]
      exact ⟨rfl, rfl, ⟨P.1, stg, hps, hmP, h1⟩, fr⟩
    · refine ((c_M_write_ok l g  z0 z1 z2 z3 z4 z5 z6 z7 z8 z9 z10 g1 ztx hM hR hS hHi hHg ry0 c1 (by omega)).wide (Nat.le_of_ble_eq_true rfl) (Nat.le_of_ble_eq_true rfl) (Nat.le_of_ble_eq_true rfl) (Nat.le_of_ble_eq_true rfl)).mono (fun v n1 S1 h => ?_)
      obtain ⟨rfl, rfl, h1, fr⟩ := h
      rw [show sWrite (tz, tx, P, rs, rows, hist) y = ((tz : Int) + 1, (tz + 1, va_up tx tz y, P, rs, rows, hist)) by unfold sWrite; rw [if_pos c1]; exact if_neg c2]
      exact ⟨rfl, rfl, ⟨P.1, stg, hps, hmP, h1⟩, fr⟩
  · refine ((c_M_write_bad l g  z0 z1 z2 z3 z4 z5 z6 z7 z8 z9 z10 g1 ztx hM hR hS hHi hHg ry0 c1).wide (Nat.le_of_ble_eq_true rfl) (Nat.le_of_ble_eq_true rfl) (Nat.le_of_ble_eq_true rfl) (Nat.le_of_ble_eq_true rfl)).mono (fun v n1 S1 h => ?_)
    obtain ⟨rfl, rfl, h1, fr⟩ := h
    rw [show sWrite (tz, tx, P, rs, rows, hist) y = (-1, (tz, tx, P, rs, rows, hist)) by unfold sWrite; exact if_neg c1]
    exact ⟨rfl, rfl, ⟨P.1, stg, hps, hmP, h1⟩, fr⟩

set_option maxHeartbeats 4000000 in
set_option maxRecDepth 100000 in
theorem w_M_wipe (l : Launch) (g : gG) {n : Nat} {S : Nat → gE} {z : Nat} {A : aT} (hA : MA g S z A) (hg : goodA A)  : g_Cs l yX9_wipe wsX9_wipe { frames := 0, cells := 0, slots := 0, locals := 0 } g [.ref z] n S (fun vr n1 S1 => vr = some (.int (iI (sWipe A).1)) ∧ n = n1 ∧ MA g S1 z (sWipe A).2 ∧ ∀ bb, (bb < z ∨ z + 11 ≤ bb) → S1 bb = S bb) 0 0 := by
  obtain ⟨tz, tx, P, rs, rows, hist⟩ := A
  obtain ⟨g1, g2, g3, g4, g5⟩ : tz ≤ 200 ∧ (∀ i : Nat, i < tz → 32 ≤ tx i ∧ tx i ≤ 126) ∧ goodP P ∧ goodR P.1.toNat P.2.1 P.2.2.1 rs rows ∧ goodH P.1.toNat P.2.1 P.2.2.1 hist := hg
  obtain ⟨mHC, stg, hps, hmP, mAt, mRC, mJC, mCh, mVi, txa, rst, rhp, nw, sv, hs, nbs, js, z0, z1, ztx, z2, z3, z4, z5, z6, z7, z8, z9, z10, hS, hHi⟩ : MI g S z tz tx P rs rows hist := hA
  have hM := mP_good g3 hmP
  have hsm := mP_sam hmP
  obtain ⟨e0, hlb, s0, s1, s2, s3, s4⟩ := id hmP
  subst e0
  have hR := goodR_lb hsm g4
  have hHg := goodH_lb hsm g5
  have hbr : ∀ i : Nat, i < P.1.toNat → 1 ≤ P.2.2.1 i := fun i hi => by have := g3.2.1 i (by omega); omega
  have eL : ∀ y : Int, layR P.1.toNat (mLn hps) (mBr hps) (stg 0) (stg 2) (stg 1) (stg 4) (stg 3) rs rows y = layA P rs rows y := fun y => by unfold layA; rw [s0, s1, s2, s3, s4]; exact (layR_lb hsm).symm
  refine ((c_M_wipe l g  z0 z1 z2 z3 z4 z5 z6 z7 z8 z9 z10 g1 ztx hM hR hS hHi hHg ).wide (Nat.le_of_ble_eq_true rfl) (Nat.le_of_ble_eq_true rfl) (Nat.le_of_ble_eq_true rfl) (Nat.le_of_ble_eq_true rfl)).mono (fun v n1 S1 h => ?_)
  obtain ⟨rfl, rfl, h1, fr⟩ := h
  exact ⟨rfl, rfl, ⟨P.1, stg, hps, hmP, h1⟩, fr⟩

set_option maxHeartbeats 4000000 in
set_option maxRecDepth 100000 in
theorem w_M_fault (l : Launch) (g : gG) {n : Nat} {S : Nat → gE} {z : Nat} {A : aT} (J : jT) (hA : MA g S z A) (hg : goodA A)  : g_Cs l yX9_fault wsX9_fault { frames := 5, cells := 0, slots := 0, locals := 110 } g [.ref z] n S (fun vr n1 S1 => vr = some (.int (iI (sFault A J).1)) ∧ n = n1 ∧ MA g S1 z (sFault A J).2 ∧ ∀ bb, (bb < z ∨ z + 11 ≤ bb) → S1 bb = S bb) 0 0 := by
  obtain ⟨tz, tx, P, rs, rows, hist⟩ := A
  obtain ⟨g1, g2, g3, g4, g5⟩ : tz ≤ 200 ∧ (∀ i : Nat, i < tz → 32 ≤ tx i ∧ tx i ≤ 126) ∧ goodP P ∧ goodR P.1.toNat P.2.1 P.2.2.1 rs rows ∧ goodH P.1.toNat P.2.1 P.2.2.1 hist := hg
  obtain ⟨mHC, stg, hps, hmP, mAt, mRC, mJC, mCh, mVi, txa, rst, rhp, nw, sv, hs, nbs, js, z0, z1, ztx, z2, z3, z4, z5, z6, z7, z8, z9, z10, hS, hHi⟩ : MI g S z tz tx P rs rows hist := hA
  have hM := mP_good g3 hmP
  have hsm := mP_sam hmP
  obtain ⟨e0, hlb, s0, s1, s2, s3, s4⟩ := id hmP
  subst e0
  have hR := goodR_lb hsm g4
  have hHg := goodH_lb hsm g5
  have hbr : ∀ i : Nat, i < P.1.toNat → 1 ≤ P.2.2.1 i := fun i hi => by have := g3.2.1 i (by omega); omega
  have eL : ∀ y : Int, layR P.1.toNat (mLn hps) (mBr hps) (stg 0) (stg 2) (stg 1) (stg 4) (stg 3) rs rows y = layA P rs rows y := fun y => by unfold layA; rw [s0, s1, s2, s3, s4]; exact (layR_lb hsm).symm
  refine ((c_M_fault l g (f1 := J.1) (f2 := J.2.1) (f3 := J.2.2) z0 z1 z2 z3 z4 z5 z6 z7 z8 z9 z10 g1 ztx hM hR hS hHi hHg g2).wide (Nat.le_of_ble_eq_true rfl) (Nat.le_of_ble_eq_true rfl) (Nat.le_of_ble_eq_true rfl) (Nat.le_of_ble_eq_true rfl)).mono (fun v n1 S1 h => ?_)
  obtain ⟨rfl, rfl, h1, fr⟩ := h
  exact ⟨rfl, rfl, ⟨P.1, stg, hps, hmP, h1⟩, fr⟩

set_option maxHeartbeats 4000000 in
set_option maxRecDepth 100000 in
theorem w_M_lay (l : Launch) (g : gG) {n : Nat} {S : Nat → gE} {z : Nat} {A : aT} (J : jT) (hA : MA g S z A) (hg : goodA A)  : g_Cs l yX9_lay wsX9_lay { frames := 5, cells := 0, slots := 0, locals := 110 } g [.ref z] n S (fun vr n1 S1 => vr = some (.int (iI (sLay A J).1)) ∧ n = n1 ∧ MA g S1 z (sLay A J).2 ∧ ∀ bb, (bb < z ∨ z + 11 ≤ bb) → S1 bb = S bb) 0 0 := by
  obtain ⟨tz, tx, P, rs, rows, hist⟩ := A
  obtain ⟨g1, g2, g3, g4, g5⟩ : tz ≤ 200 ∧ (∀ i : Nat, i < tz → 32 ≤ tx i ∧ tx i ≤ 126) ∧ goodP P ∧ goodR P.1.toNat P.2.1 P.2.2.1 rs rows ∧ goodH P.1.toNat P.2.1 P.2.2.1 hist := hg
  obtain ⟨mHC, stg, hps, hmP, mAt, mRC, mJC, mCh, mVi, txa, rst, rhp, nw, sv, hs, nbs, js, z0, z1, ztx, z2, z3, z4, z5, z6, z7, z8, z9, z10, hS, hHi⟩ : MI g S z tz tx P rs rows hist := hA
  have hM := mP_good g3 hmP
  have hsm := mP_sam hmP
  obtain ⟨e0, hlb, s0, s1, s2, s3, s4⟩ := id hmP
  subst e0
  have hR := goodR_lb hsm g4
  have hHg := goodH_lb hsm g5
  have hbr : ∀ i : Nat, i < P.1.toNat → 1 ≤ P.2.2.1 i := fun i hi => by have := g3.2.1 i (by omega); omega
  have eL : ∀ y : Int, layR P.1.toNat (mLn hps) (mBr hps) (stg 0) (stg 2) (stg 1) (stg 4) (stg 3) rs rows y = layA P rs rows y := fun y => by unfold layA; rw [s0, s1, s2, s3, s4]; exact (layR_lb hsm).symm
  by_cases c1 : (rdC tx tz 200 0 (j0 J)).1 = -4 ∧ (rdC tx tz 200 0 (j0 J)).2.1 ≠ 0
  · refine ((c_M_lay_yes l g (f1 := J.1) (f2 := J.2.1) (f3 := J.2.2) z0 z1 z2 z3 z4 z5 z6 z7 z8 z9 z10 g1 ztx hM hR hS hHi hHg g2 c1).wide (Nat.le_of_ble_eq_true rfl) (Nat.le_of_ble_eq_true rfl) (Nat.le_of_ble_eq_true rfl) (Nat.le_of_ble_eq_true rfl)).mono (fun v n1 S1 h => ?_)
    obtain ⟨rfl, rfl, h1, fr⟩ := h
    rw [show sLay (tz, tx, P, rs, rows, hist) J = ((rdC tx tz 200 0 (j0 J)).2.1, (tz, tx, cpP (rdC tx tz 200 0 (j0 J)).2 P, (fun i : Nat => if (i : Int) < (rdC tx tz 200 0 (j0 J)).2.1 then (rdC tx tz 200 0 (j0 J)).2.2.2.2.1 i else 0), [], [])) by unfold sLay; exact if_pos c1]
    obtain ⟨mH1, st1, hp1, k1, k2⟩ := h1
    exact ⟨rfl, rfl, ⟨mH1, st1, hp1, mP_cp (rdC_good (tx := tx) (tl := tz) 200 0 (j0 J) (j0_good J)).1.2 k1, k2⟩, fr⟩
  · refine ((c_M_lay_no l g (f1 := J.1) (f2 := J.2.1) (f3 := J.2.2) z0 z1 z2 z3 z4 z5 z6 z7 z8 z9 z10 g1 ztx hM hR hS hHi hHg g2 (by by_cases q9 : (rdC tx tz 200 0 (j0 J)).1 = -4; exact Or.inr (Classical.byContradiction fun q8 => c1 ⟨q9, q8⟩); exact Or.inl q9)).wide (Nat.le_of_ble_eq_true rfl) (Nat.le_of_ble_eq_true rfl) (Nat.le_of_ble_eq_true rfl) (Nat.le_of_ble_eq_true rfl)).mono (fun v n1 S1 h => ?_)
    obtain ⟨rfl, rfl, h1, fr⟩ := h
    rw [show sLay (tz, tx, P, rs, rows, hist) J = (-2, (tz, tx, P, rs, rows, hist)) by unfold sLay; exact if_neg c1]
    exact ⟨rfl, rfl, ⟨P.1, stg, hps, hmP, h1⟩, fr⟩

set_option maxHeartbeats 4000000 in
set_option maxRecDepth 100000 in
theorem w_M_course (l : Launch) (g : gG) {n : Nat} {S : Nat → gE} {z : Nat} {A : aT} {y : Int} (hA : MA g S z A) (hg : goodA A) (ry0 : -2147483648 ≤ y ∧ y < 2147483648) : g_Cs l yX9_course wsX9_course { frames := 6, cells := 0, slots := 0, locals := 134 } g [.ref z, .int (iI y)] n S (fun vr n1 S1 => vr = some (.int (iI (sCourse A y).1)) ∧ n = n1 ∧ MA g S1 z (sCourse A y).2 ∧ ∀ bb, (bb < z ∨ z + 11 ≤ bb) → S1 bb = S bb) 0 0 := by
  obtain ⟨tz, tx, P, rs, rows, hist⟩ := A
  obtain ⟨g1, g2, g3, g4, g5⟩ : tz ≤ 200 ∧ (∀ i : Nat, i < tz → 32 ≤ tx i ∧ tx i ≤ 126) ∧ goodP P ∧ goodR P.1.toNat P.2.1 P.2.2.1 rs rows ∧ goodH P.1.toNat P.2.1 P.2.2.1 hist := hg
  obtain ⟨mHC, stg, hps, hmP, mAt, mRC, mJC, mCh, mVi, txa, rst, rhp, nw, sv, hs, nbs, js, z0, z1, ztx, z2, z3, z4, z5, z6, z7, z8, z9, z10, hS, hHi⟩ : MI g S z tz tx P rs rows hist := hA
  have hM := mP_good g3 hmP
  have hsm := mP_sam hmP
  obtain ⟨e0, hlb, s0, s1, s2, s3, s4⟩ := id hmP
  subst e0
  have hR := goodR_lb hsm g4
  have hHg := goodH_lb hsm g5
  have hbr : ∀ i : Nat, i < P.1.toNat → 1 ≤ P.2.2.1 i := fun i hi => by have := g3.2.1 i (by omega); omega
  have eL : ∀ y : Int, layR P.1.toNat (mLn hps) (mBr hps) (stg 0) (stg 2) (stg 1) (stg 4) (stg 3) rs rows y = layA P rs rows y := fun y => by unfold layA; rw [s0, s1, s2, s3, s4]; exact (layR_lb hsm).symm
  by_cases c1 : 20 ≤ y ∧ y ≤ 60
  · rcases opt_cases (layA P rs rows y) with e | ⟨sl, e⟩
    · refine ((c_M_course_no l g  z0 z1 z2 z3 z4 z5 z6 z7 z8 z9 z10 g1 ztx hM hR hS hHi hHg c1 ((eL y).trans e)).wide (Nat.le_of_ble_eq_true rfl) (Nat.le_of_ble_eq_true rfl) (Nat.le_of_ble_eq_true rfl) (Nat.le_of_ble_eq_true rfl)).mono (fun v n1 S1 h => ?_)
      obtain ⟨rfl, rfl, h1, fr⟩ := h
      rw [sCourse_none (A := (tz, tx, P, rs, rows, hist)) c1 e]
      exact ⟨rfl, rfl, ⟨P.1, stg, hps, hmP, h1⟩, fr⟩
    · refine ((c_M_course_yes l g  z0 z1 z2 z3 z4 z5 z6 z7 z8 z9 z10 g1 ztx hM hR hS hHi hHg c1 ((eL y).trans e)).wide (Nat.le_of_ble_eq_true rfl) (Nat.le_of_ble_eq_true rfl) (Nat.le_of_ble_eq_true rfl) (Nat.le_of_ble_eq_true rfl)).mono (fun v n1 S1 h => ?_)
      obtain ⟨rfl, rfl, h1, fr⟩ := h
      rw [sCourse_some (A := (tz, tx, P, rs, rows, hist)) c1 e]
      exact ⟨rfl, rfl, ⟨P.1, stg, hps, hmP, h1⟩, fr⟩
  · refine ((c_M_course_bad l g  z0 z1 z2 z3 z4 z5 z6 z7 z8 z9 z10 g1 ztx hM hR hS hHi hHg ry0 c1).wide (Nat.le_of_ble_eq_true rfl) (Nat.le_of_ble_eq_true rfl) (Nat.le_of_ble_eq_true rfl) (Nat.le_of_ble_eq_true rfl)).mono (fun v n1 S1 h => ?_)
    obtain ⟨rfl, rfl, h1, fr⟩ := h
    rw [sCourse_bad (A := (tz, tx, P, rs, rows, hist)) c1]
    exact ⟨rfl, rfl, ⟨P.1, stg, hps, hmP, h1⟩, fr⟩

set_option maxHeartbeats 4000000 in
set_option maxRecDepth 100000 in
theorem w_M_up (l : Launch) (g : gG) {n : Nat} {S : Nat → gE} {z : Nat} {A : aT} (hA : MA g S z A) (hg : goodA A)  : g_Cs l yX9_up wsX9_up { frames := 3, cells := 0, slots := 0, locals := 64 } g [.ref z] n S (fun vr n1 S1 => vr = some (.int (iI (sUp A).1)) ∧ n = n1 ∧ MA g S1 z (sUp A).2 ∧ ∀ bb, (bb < z ∨ z + 11 ≤ bb) → S1 bb = S bb) 0 0 := by
  obtain ⟨tz, tx, P, rs, rows, hist⟩ := A
  obtain ⟨g1, g2, g3, g4, g5⟩ : tz ≤ 200 ∧ (∀ i : Nat, i < tz → 32 ≤ tx i ∧ tx i ≤ 126) ∧ goodP P ∧ goodR P.1.toNat P.2.1 P.2.2.1 rs rows ∧ goodH P.1.toNat P.2.1 P.2.2.1 hist := hg
  obtain ⟨mHC, stg, hps, hmP, mAt, mRC, mJC, mCh, mVi, txa, rst, rhp, nw, sv, hs, nbs, js, z0, z1, ztx, z2, z3, z4, z5, z6, z7, z8, z9, z10, hS, hHi⟩ : MI g S z tz tx P rs rows hist := hA
  have hM := mP_good g3 hmP
  have hsm := mP_sam hmP
  obtain ⟨e0, hlb, s0, s1, s2, s3, s4⟩ := id hmP
  subst e0
  have hR := goodR_lb hsm g4
  have hHg := goodH_lb hsm g5
  have hbr : ∀ i : Nat, i < P.1.toNat → 1 ≤ P.2.2.1 i := fun i hi => by have := g3.2.1 i (by omega); omega
  have eL : ∀ y : Int, layR P.1.toNat (mLn hps) (mBr hps) (stg 0) (stg 2) (stg 1) (stg 4) (stg 3) rs rows y = layA P rs rows y := fun y => by unfold layA; rw [s0, s1, s2, s3, s4]; exact (layR_lb hsm).symm
  by_cases c1 : rows.length = 0
  · refine ((c_M_up_no l g  z0 z1 z2 z3 z4 z5 z6 z7 z8 z9 z10 g1 ztx hM hR hS hHi hHg c1).wide (Nat.le_of_ble_eq_true rfl) (Nat.le_of_ble_eq_true rfl) (Nat.le_of_ble_eq_true rfl) (Nat.le_of_ble_eq_true rfl)).mono (fun v n1 S1 h => ?_)
    obtain ⟨rfl, rfl, h1, fr⟩ := h
    rw [show sUp (tz, tx, P, rs, rows, hist) = (-2, (tz, tx, P, rs, rows, hist)) by unfold sUp; exact if_pos c1]
    exact ⟨rfl, rfl, ⟨P.1, stg, hps, hmP, h1⟩, fr⟩
  · obtain ⟨r, y0, w0, hr⟩ := rows_last (rows := rows) (by omega)
    subst hr
    refine ((c_M_up_yes l g  z0 z1 z2 z3 z4 z5 z6 z7 z8 z9 z10 g1 ztx hM hR hS hHi hHg ).wide (Nat.le_of_ble_eq_true rfl) (Nat.le_of_ble_eq_true rfl) (Nat.le_of_ble_eq_true rfl) (Nat.le_of_ble_eq_true rfl)).mono (fun v n1 S1 h => ?_)
    obtain ⟨rfl, rfl, h1, fr⟩ := h
    rw [show sUp (tz, tx, P, rs, r ++ [(y0, w0)], hist) = ((r.length : Int), (tz, tx, P, (fun i => rs i + cntH w0 i), r, pushH hist (rs, r ++ [(y0, w0)]))) by unfold sUp; refine (if_neg c1).trans ?_; show ((((r ++ [(y0, w0)]).length - 1 : Nat) : Int), (tz, tx, P, (fun i => rs i + cntH (tpS (r ++ [(y0, w0)])) i), (r ++ [(y0, w0)]).dropLast, pushH hist (rs, r ++ [(y0, w0)]))) = _; rw [tpS_sn, List.dropLast_concat, len_sn, Nat.add_sub_cancel]]
    exact ⟨rfl, rfl, ⟨P.1, stg, hps, hmP, h1⟩, fr⟩

set_option maxHeartbeats 4000000 in
set_option maxRecDepth 100000 in
theorem w_M_bring (l : Launch) (g : gG) {n : Nat} {S : Nat → gE} {z : Nat} {A : aT} {y w : Int} (hA : MA g S z A) (hg : goodA A) (ry0 : -2147483648 ≤ y ∧ y < 2147483648) (rw0 : -2147483648 ≤ w ∧ w < 2147483648) : g_Cs l yX9_bring wsX9_bring { frames := 2, cells := 0, slots := 0, locals := 45 } g [.ref z, .int (iI y), .int (iI w)] n S (fun vr n1 S1 => vr = some (.int (iI (sBring A y w).1)) ∧ n = n1 ∧ MA g S1 z (sBring A y w).2 ∧ ∀ bb, (bb < z ∨ z + 11 ≤ bb) → S1 bb = S bb) 0 0 := by
  obtain ⟨tz, tx, P, rs, rows, hist⟩ := A
  obtain ⟨g1, g2, g3, g4, g5⟩ : tz ≤ 200 ∧ (∀ i : Nat, i < tz → 32 ≤ tx i ∧ tx i ≤ 126) ∧ goodP P ∧ goodR P.1.toNat P.2.1 P.2.2.1 rs rows ∧ goodH P.1.toNat P.2.1 P.2.2.1 hist := hg
  obtain ⟨mHC, stg, hps, hmP, mAt, mRC, mJC, mCh, mVi, txa, rst, rhp, nw, sv, hs, nbs, js, z0, z1, ztx, z2, z3, z4, z5, z6, z7, z8, z9, z10, hS, hHi⟩ : MI g S z tz tx P rs rows hist := hA
  have hM := mP_good g3 hmP
  have hsm := mP_sam hmP
  obtain ⟨e0, hlb, s0, s1, s2, s3, s4⟩ := id hmP
  subst e0
  have hR := goodR_lb hsm g4
  have hHg := goodH_lb hsm g5
  have hbr : ∀ i : Nat, i < P.1.toNat → 1 ≤ P.2.2.1 i := fun i hi => by have := g3.2.1 i (by omega); omega
  have eL : ∀ y : Int, layR P.1.toNat (mLn hps) (mBr hps) (stg 0) (stg 2) (stg 1) (stg 4) (stg 3) rs rows y = layA P rs rows y := fun y => by unfold layA; rw [s0, s1, s2, s3, s4]; exact (layR_lb hsm).symm
  by_cases c1 : (0 ≤ y ∧ y < P.1) ∧ (1 ≤ w ∧ w ≤ 99)
  · by_cases c2 : rs y.toNat + w ≤ 999
    · refine ((c_M_bring_ok l g  z0 z1 z2 z3 z4 z5 z6 z7 z8 z9 z10 g1 ztx hM hR hS hHi hHg c1 c2).wide (Nat.le_of_ble_eq_true rfl) (Nat.le_of_ble_eq_true rfl) (Nat.le_of_ble_eq_true rfl) (Nat.le_of_ble_eq_true rfl)).mono (fun v n1 S1 h => ?_)
      obtain ⟨rfl, rfl, h1, fr⟩ := h
      rw [show sBring (tz, tx, P, rs, rows, hist) y w = (rs y.toNat + w, (tz, tx, P, va_up rs y.toNat (rs y.toNat + w), rows, pushH hist (rs, rows))) by unfold sBring; refine (if_pos c1).trans ?_; exact if_pos c2]
      exact ⟨rfl, rfl, ⟨P.1, stg, hps, hmP, h1⟩, fr⟩
    · refine ((c_M_bring_full l g  z0 z1 z2 z3 z4 z5 z6 z7 z8 z9 z10 g1 ztx hM hR hS hHi hHg c1 (by omega)).wide (Nat.le_of_ble_eq_true rfl) (Nat.le_of_ble_eq_true rfl) (Nat.le_of_ble_eq_true rfl) (Nat.le_of_ble_eq_true rfl)).mono (fun v n1 S1 h => ?_)
      obtain ⟨rfl, rfl, h1, fr⟩ := h
      rw [show sBring (tz, tx, P, rs, rows, hist) y w = (-3, (tz, tx, P, rs, rows, hist)) by unfold sBring; refine (if_pos c1).trans ?_; exact if_neg c2]
      exact ⟨rfl, rfl, ⟨P.1, stg, hps, hmP, h1⟩, fr⟩
  · refine ((c_M_bring_bad l g  z0 z1 z2 z3 z4 z5 z6 z7 z8 z9 z10 g1 ztx hM hR hS hHi hHg ry0 rw0 c1).wide (Nat.le_of_ble_eq_true rfl) (Nat.le_of_ble_eq_true rfl) (Nat.le_of_ble_eq_true rfl) (Nat.le_of_ble_eq_true rfl)).mono (fun v n1 S1 h => ?_)
    obtain ⟨rfl, rfl, h1, fr⟩ := h
    rw [show sBring (tz, tx, P, rs, rows, hist) y w = (-1, (tz, tx, P, rs, rows, hist)) by unfold sBring; exact if_neg c1]
    exact ⟨rfl, rfl, ⟨P.1, stg, hps, hmP, h1⟩, fr⟩

set_option maxHeartbeats 4000000 in
set_option maxRecDepth 100000 in
theorem w_M_undo (l : Launch) (g : gG) {n : Nat} {S : Nat → gE} {z : Nat} {A : aT} (hA : MA g S z A) (hg : goodA A)  : g_Cs l yX9_undo wsX9_undo { frames := 1, cells := 0, slots := 0, locals := 24 } g [.ref z] n S (fun vr n1 S1 => vr = some (.int (iI (sUndo A).1)) ∧ n = n1 ∧ MA g S1 z (sUndo A).2 ∧ ∀ bb, (bb < z ∨ z + 11 ≤ bb) → S1 bb = S bb) 0 0 := by
  obtain ⟨tz, tx, P, rs, rows, hist⟩ := A
  obtain ⟨g1, g2, g3, g4, g5⟩ : tz ≤ 200 ∧ (∀ i : Nat, i < tz → 32 ≤ tx i ∧ tx i ≤ 126) ∧ goodP P ∧ goodR P.1.toNat P.2.1 P.2.2.1 rs rows ∧ goodH P.1.toNat P.2.1 P.2.2.1 hist := hg
  obtain ⟨mHC, stg, hps, hmP, mAt, mRC, mJC, mCh, mVi, txa, rst, rhp, nw, sv, hs, nbs, js, z0, z1, ztx, z2, z3, z4, z5, z6, z7, z8, z9, z10, hS, hHi⟩ : MI g S z tz tx P rs rows hist := hA
  have hM := mP_good g3 hmP
  have hsm := mP_sam hmP
  obtain ⟨e0, hlb, s0, s1, s2, s3, s4⟩ := id hmP
  subst e0
  have hR := goodR_lb hsm g4
  have hHg := goodH_lb hsm g5
  have hbr : ∀ i : Nat, i < P.1.toNat → 1 ≤ P.2.2.1 i := fun i hi => by have := g3.2.1 i (by omega); omega
  have eL : ∀ y : Int, layR P.1.toNat (mLn hps) (mBr hps) (stg 0) (stg 2) (stg 1) (stg 4) (stg 3) rs rows y = layA P rs rows y := fun y => by unfold layA; rw [s0, s1, s2, s3, s4]; exact (layR_lb hsm).symm
  by_cases c1 : hist.length = 0
  · refine ((c_M_undo_no l g  z0 z1 z2 z3 z4 z5 z6 z7 z8 z9 z10 g1 ztx hM hR hS hHi hHg c1).wide (Nat.le_of_ble_eq_true rfl) (Nat.le_of_ble_eq_true rfl) (Nat.le_of_ble_eq_true rfl) (Nat.le_of_ble_eq_true rfl)).mono (fun v n1 S1 h => ?_)
    obtain ⟨rfl, rfl, h1, fr⟩ := h
    rw [show sUndo (tz, tx, P, rs, rows, hist) = (-2, (tz, tx, P, rs, rows, hist)) by unfold sUndo; exact if_pos c1]
    exact ⟨rfl, rfl, ⟨P.1, stg, hps, hmP, h1⟩, fr⟩
  · obtain ⟨hq, y0, w0, hr⟩ := hist_last (hist := hist) (by omega)
    subst hr
    refine ((c_M_undo_yes l g  z0 z1 z2 z3 z4 z5 z6 z7 z8 z9 z10 g1 ztx hM hR hS hHi hHg ).wide (Nat.le_of_ble_eq_true rfl) (Nat.le_of_ble_eq_true rfl) (Nat.le_of_ble_eq_true rfl) (Nat.le_of_ble_eq_true rfl)).mono (fun v n1 S1 h => ?_)
    obtain ⟨rfl, rfl, h1, fr⟩ := h
    rw [show sUndo (tz, tx, P, rs, rows, hq ++ [(y0, w0)]) = ((hq.length : Int), (tz, tx, P, y0, w0, hq)) by unfold sUndo; refine (if_neg c1).trans ?_; show ((((hq ++ [(y0, w0)]).length - 1 : Nat) : Int), (tz, tx, P, hsR (hq ++ [(y0, w0)]) ((hq ++ [(y0, w0)]).length - 1), hsW (hq ++ [(y0, w0)]) ((hq ++ [(y0, w0)]).length - 1), (hq ++ [(y0, w0)]).dropLast)) = _; rw [hlen_sn, Nat.add_sub_cancel, hsR_at, hsW_at, List.dropLast_concat]]
    exact ⟨rfl, rfl, ⟨P.1, stg, hps, hmP, h1⟩, fr⟩

set_option maxHeartbeats 4000000 in
set_option maxRecDepth 100000 in
theorem w_M_joint (l : Launch) (g : gG) {n : Nat} {S : Nat → gE} {z : Nat} {A : aT} {y w : Int} (hA : MA g S z A) (hg : goodA A) (ry0 : -2147483648 ≤ y ∧ y < 2147483648) (rw0 : -2147483648 ≤ w ∧ w < 2147483648) : g_Cs l yX9_joint wsX9_joint { frames := 2, cells := 0, slots := 0, locals := 45 } g [.ref z, .int (iI y), .int (iI w)] n S (fun vr n1 S1 => vr = some (.int (iI (sJoint A y w))) ∧ n = n1 ∧ MA g S1 z A ∧ ∀ bb, (bb < z ∨ z + 11 ≤ bb) → S1 bb = S bb) 0 0 := by
  obtain ⟨tz, tx, P, rs, rows, hist⟩ := A
  obtain ⟨g1, g2, g3, g4, g5⟩ : tz ≤ 200 ∧ (∀ i : Nat, i < tz → 32 ≤ tx i ∧ tx i ≤ 126) ∧ goodP P ∧ goodR P.1.toNat P.2.1 P.2.2.1 rs rows ∧ goodH P.1.toNat P.2.1 P.2.2.1 hist := hg
  obtain ⟨mHC, stg, hps, hmP, mAt, mRC, mJC, mCh, mVi, txa, rst, rhp, nw, sv, hs, nbs, js, z0, z1, ztx, z2, z3, z4, z5, z6, z7, z8, z9, z10, hS, hHi⟩ : MI g S z tz tx P rs rows hist := hA
  have hM := mP_good g3 hmP
  have hsm := mP_sam hmP
  obtain ⟨e0, hlb, s0, s1, s2, s3, s4⟩ := id hmP
  subst e0
  have hR := goodR_lb hsm g4
  have hHg := goodH_lb hsm g5
  have hbr : ∀ i : Nat, i < P.1.toNat → 1 ≤ P.2.2.1 i := fun i hi => by have := g3.2.1 i (by omega); omega
  have eL : ∀ y : Int, layR P.1.toNat (mLn hps) (mBr hps) (stg 0) (stg 2) (stg 1) (stg 4) (stg 3) rs rows y = layA P rs rows y := fun y => by unfold layA; rw [s0, s1, s2, s3, s4]; exact (layR_lb hsm).symm
  by_cases c1 : (0 ≤ y ∧ y < rows.length) ∧ 0 ≤ w
  · refine ((c_M_joint_ok l g  z0 z1 z2 z3 z4 z5 z6 z7 z8 z9 z10 g1 ztx hM hR hS hHi hHg rw0 c1).wide (Nat.le_of_ble_eq_true rfl) (Nat.le_of_ble_eq_true rfl) (Nat.le_of_ble_eq_true rfl) (Nat.le_of_ble_eq_true rfl)).mono (fun v n1 S1 h => ?_)
    obtain ⟨rfl, rfl, h1, fr⟩ := h
    rw [show sJoint (tz, tx, P, rs, rows, hist) y w = aJoint (rS rows y.toNat) w.toNat by unfold sJoint; exact if_pos c1]
    exact ⟨rfl, rfl, ⟨P.1, stg, hps, hmP, h1⟩, fr⟩
  · refine ((c_M_joint_bad l g  z0 z1 z2 z3 z4 z5 z6 z7 z8 z9 z10 g1 ztx hM hR hS hHi hHg ry0 rw0 c1).wide (Nat.le_of_ble_eq_true rfl) (Nat.le_of_ble_eq_true rfl) (Nat.le_of_ble_eq_true rfl) (Nat.le_of_ble_eq_true rfl)).mono (fun v n1 S1 h => ?_)
    obtain ⟨rfl, rfl, h1, fr⟩ := h
    rw [show sJoint (tz, tx, P, rs, rows, hist) y w = -1 by unfold sJoint; exact if_neg c1]
    exact ⟨rfl, rfl, ⟨P.1, stg, hps, hmP, h1⟩, fr⟩

set_option maxHeartbeats 4000000 in
set_option maxRecDepth 100000 in
theorem w_M_tried (l : Launch) (g : gG) {n : Nat} {S : Nat → gE} {z : Nat} {A : aT} {y w : Int} (hA : MA g S z A) (hg : goodA A) (ry0 : -2147483648 ≤ y ∧ y < 2147483648) (rw0 : -2147483648 ≤ w ∧ w < 2147483648) : g_Cs l yX9_tried wsX9_tried { frames := 5, cells := 0, slots := 0, locals := 112 } g [.ref z, .int (iI y), .int (iI w)] n S (fun vr n1 S1 => vr = some (.int (iI (sTried A y w))) ∧ n = n1 ∧ MA g S1 z A ∧ ∀ bb, (bb < z ∨ z + 11 ≤ bb) → S1 bb = S bb) 0 0 := by
  obtain ⟨tz, tx, P, rs, rows, hist⟩ := A
  obtain ⟨g1, g2, g3, g4, g5⟩ : tz ≤ 200 ∧ (∀ i : Nat, i < tz → 32 ≤ tx i ∧ tx i ≤ 126) ∧ goodP P ∧ goodR P.1.toNat P.2.1 P.2.2.1 rs rows ∧ goodH P.1.toNat P.2.1 P.2.2.1 hist := hg
  obtain ⟨mHC, stg, hps, hmP, mAt, mRC, mJC, mCh, mVi, txa, rst, rhp, nw, sv, hs, nbs, js, z0, z1, ztx, z2, z3, z4, z5, z6, z7, z8, z9, z10, hS, hHi⟩ : MI g S z tz tx P rs rows hist := hA
  have hM := mP_good g3 hmP
  have hsm := mP_sam hmP
  obtain ⟨e0, hlb, s0, s1, s2, s3, s4⟩ := id hmP
  subst e0
  have hR := goodR_lb hsm g4
  have hHg := goodH_lb hsm g5
  have hbr : ∀ i : Nat, i < P.1.toNat → 1 ≤ P.2.2.1 i := fun i hi => by have := g3.2.1 i (by omega); omega
  have eL : ∀ y : Int, layR P.1.toNat (mLn hps) (mBr hps) (stg 0) (stg 2) (stg 1) (stg 4) (stg 3) rs rows y = layA P rs rows y := fun y => by unfold layA; rw [s0, s1, s2, s3, s4]; exact (layR_lb hsm).symm
  by_cases c1 : (20 ≤ y ∧ y ≤ 60) ∧ (0 ≤ w ∧ w ≤ 1)
  · rcases opt_cases (layA P rs rows y) with e | ⟨sl, e⟩
    · refine ((c_M_tried_no l g  z0 z1 z2 z3 z4 z5 z6 z7 z8 z9 z10 g1 ztx hM hR hS hHi hHg c1 ((eL y).trans e)).wide (Nat.le_of_ble_eq_true rfl) (Nat.le_of_ble_eq_true rfl) (Nat.le_of_ble_eq_true rfl) (Nat.le_of_ble_eq_true rfl)).mono (fun v n1 S1 h => ?_)
      obtain ⟨rfl, rfl, h1, fr⟩ := h
      rw [show sTried (tz, tx, P, rs, rows, hist) y w = -2 by unfold sTried; rw [if_pos c1]; show (match layA P rs rows y with | none => (-2 : Int) | some sl => _) = -2; rw [e]]
      exact ⟨rfl, rfl, ⟨P.1, stg, hps, hmP, h1⟩, fr⟩
    · refine ((c_M_tried_yes l g  z0 z1 z2 z3 z4 z5 z6 z7 z8 z9 z10 g1 ztx hM hR hS hHi hHg c1 ((eL y).trans e)).wide (Nat.le_of_ble_eq_true rfl) (Nat.le_of_ble_eq_true rfl) (Nat.le_of_ble_eq_true rfl) (Nat.le_of_ble_eq_true rfl)).mono (fun v n1 S1 h => ?_)
      obtain ⟨rfl, rfl, h1, fr⟩ := h
      rw [show sTried (tz, tx, P, rs, rows, hist) y w = (if w = 0 then (sl.length : Int) else wst (mBr hps) y sl) by unfold sTried; rw [if_pos c1]; show (match layA P rs rows y with | none => (-2 : Int) | some sl => (if w = 0 then (sl.length : Int) else wst P.2.2.1 y sl)) = _; rw [e, ← wst_lb hsm (layC_good hbr (layR_some e).2).1]]
      exact ⟨rfl, rfl, ⟨P.1, stg, hps, hmP, h1⟩, fr⟩
  · refine ((c_M_tried_bad l g  z0 z1 z2 z3 z4 z5 z6 z7 z8 z9 z10 g1 ztx hM hR hS hHi hHg ry0 rw0 c1).wide (Nat.le_of_ble_eq_true rfl) (Nat.le_of_ble_eq_true rfl) (Nat.le_of_ble_eq_true rfl) (Nat.le_of_ble_eq_true rfl)).mono (fun v n1 S1 h => ?_)
    obtain ⟨rfl, rfl, h1, fr⟩ := h
    rw [show sTried (tz, tx, P, rs, rows, hist) y w = -1 by unfold sTried; exact if_neg c1]
    exact ⟨rfl, rfl, ⟨P.1, stg, hps, hmP, h1⟩, fr⟩

set_option maxHeartbeats 4000000 in
set_option maxRecDepth 100000 in
theorem w_M_next (l : Launch) (g : gG) {n : Nat} {S : Nat → gE} {z : Nat} {A : aT} {y : Int} (hA : MA g S z A) (hg : goodA A) (ry0 : -2147483648 ≤ y ∧ y < 2147483648) : g_Cs l yX9_next wsX9_next { frames := 6, cells := 0, slots := 0, locals := 139 } g [.ref z, .int (iI y)] n S (fun vr n1 S1 => vr = some (.int (iI (sNext A y))) ∧ n = n1 ∧ MA g S1 z A ∧ ∀ bb, (bb < z ∨ z + 11 ≤ bb) → S1 bb = S bb) 0 0 := by
  obtain ⟨tz, tx, P, rs, rows, hist⟩ := A
  obtain ⟨g1, g2, g3, g4, g5⟩ : tz ≤ 200 ∧ (∀ i : Nat, i < tz → 32 ≤ tx i ∧ tx i ≤ 126) ∧ goodP P ∧ goodR P.1.toNat P.2.1 P.2.2.1 rs rows ∧ goodH P.1.toNat P.2.1 P.2.2.1 hist := hg
  obtain ⟨mHC, stg, hps, hmP, mAt, mRC, mJC, mCh, mVi, txa, rst, rhp, nw, sv, hs, nbs, js, z0, z1, ztx, z2, z3, z4, z5, z6, z7, z8, z9, z10, hS, hHi⟩ : MI g S z tz tx P rs rows hist := hA
  have hM := mP_good g3 hmP
  have hsm := mP_sam hmP
  obtain ⟨e0, hlb, s0, s1, s2, s3, s4⟩ := id hmP
  subst e0
  have hR := goodR_lb hsm g4
  have hHg := goodH_lb hsm g5
  have hbr : ∀ i : Nat, i < P.1.toNat → 1 ≤ P.2.2.1 i := fun i hi => by have := g3.2.1 i (by omega); omega
  have eL : ∀ y : Int, layR P.1.toNat (mLn hps) (mBr hps) (stg 0) (stg 2) (stg 1) (stg 4) (stg 3) rs rows y = layA P rs rows y := fun y => by unfold layA; rw [s0, s1, s2, s3, s4]; exact (layR_lb hsm).symm
  by_cases c1 : 0 ≤ y ∧ y ≤ 1
  · refine ((c_M_next_ok l g  z0 z1 z2 z3 z4 z5 z6 z7 z8 z9 z10 g1 ztx hM hR hS hHi hHg c1).wide (Nat.le_of_ble_eq_true rfl) (Nat.le_of_ble_eq_true rfl) (Nat.le_of_ble_eq_true rfl) (Nat.le_of_ble_eq_true rfl)).mono (fun v n1 S1 h => ?_)
    obtain ⟨rfl, rfl, h1, fr⟩ := h
    rw [show sNext (tz, tx, P, rs, rows, hist) y = nxR P.1.toNat (mLn hps) (mBr hps) (stg 0) (stg 2) (stg 1) (stg 4) (stg 3) y rs rows by unfold sNext; refine (if_pos c1).trans ?_; show nxA P y rs rows = _; unfold nxA; rw [s0, s1, s2, s3, s4]; exact nxR_lb hbr hsm]
    exact ⟨rfl, rfl, ⟨P.1, stg, hps, hmP, h1⟩, fr⟩
  · refine ((c_M_next_bad l g  z0 z1 z2 z3 z4 z5 z6 z7 z8 z9 z10 g1 ztx hM hR hS hHi hHg ry0 c1).wide (Nat.le_of_ble_eq_true rfl) (Nat.le_of_ble_eq_true rfl) (Nat.le_of_ble_eq_true rfl) (Nat.le_of_ble_eq_true rfl)).mono (fun v n1 S1 h => ?_)
    obtain ⟨rfl, rfl, h1, fr⟩ := h
    rw [show sNext (tz, tx, P, rs, rows, hist) y = -1 by unfold sNext; exact if_neg c1]
    exact ⟨rfl, rfl, ⟨P.1, stg, hps, hmP, h1⟩, fr⟩

set_option maxHeartbeats 4000000 in
set_option maxRecDepth 100000 in
theorem w_M_itself (l : Launch) (g : gG) {n : Nat} {S : Nat → gE} {z : Nat} {A : aT} {y w : Int} (hA : MA g S z A) (hg : goodA A) (ry0 : -2147483648 ≤ y ∧ y < 2147483648) (rw0 : -2147483648 ≤ w ∧ w < 2147483648) : g_Cs l yX9_itself wsX9_itself { frames := 6, cells := 0, slots := 0, locals := 139 } g [.ref z, .int (iI y), .int (iI w)] n S (fun vr n1 S1 => vr = some (.int (iI (sItself A y w))) ∧ n = n1 ∧ MA g S1 z A ∧ ∀ bb, (bb < z ∨ z + 11 ≤ bb) → S1 bb = S bb) 0 0 := by
  obtain ⟨tz, tx, P, rs, rows, hist⟩ := A
  obtain ⟨g1, g2, g3, g4, g5⟩ : tz ≤ 200 ∧ (∀ i : Nat, i < tz → 32 ≤ tx i ∧ tx i ≤ 126) ∧ goodP P ∧ goodR P.1.toNat P.2.1 P.2.2.1 rs rows ∧ goodH P.1.toNat P.2.1 P.2.2.1 hist := hg
  obtain ⟨mHC, stg, hps, hmP, mAt, mRC, mJC, mCh, mVi, txa, rst, rhp, nw, sv, hs, nbs, js, z0, z1, ztx, z2, z3, z4, z5, z6, z7, z8, z9, z10, hS, hHi⟩ : MI g S z tz tx P rs rows hist := hA
  have hM := mP_good g3 hmP
  have hsm := mP_sam hmP
  obtain ⟨e0, hlb, s0, s1, s2, s3, s4⟩ := id hmP
  subst e0
  have hR := goodR_lb hsm g4
  have hHg := goodH_lb hsm g5
  have hbr : ∀ i : Nat, i < P.1.toNat → 1 ≤ P.2.2.1 i := fun i hi => by have := g3.2.1 i (by omega); omega
  have eL : ∀ y : Int, layR P.1.toNat (mLn hps) (mBr hps) (stg 0) (stg 2) (stg 1) (stg 4) (stg 3) rs rows y = layA P rs rows y := fun y => by unfold layA; rw [s0, s1, s2, s3, s4]; exact (layR_lb hsm).symm
  by_cases c1 : (0 ≤ y ∧ y ≤ 1) ∧ (0 ≤ w ∧ w ≤ 2)
  · refine ((c_M_itself_ok l g  z0 z1 z2 z3 z4 z5 z6 z7 z8 z9 z10 g1 ztx hM hR hS hHi hHg c1).wide (Nat.le_of_ble_eq_true rfl) (Nat.le_of_ble_eq_true rfl) (Nat.le_of_ble_eq_true rfl) (Nat.le_of_ble_eq_true rfl)).mono (fun v n1 S1 h => ?_)
    obtain ⟨rfl, rfl, h1, fr⟩ := h
    rw [show sItself (tz, tx, P, rs, rows, hist) y w = aIts (stg 0) (goR P.1.toNat (mLn hps) (mBr hps) (stg 0) (stg 2) (stg 1) (stg 4) (stg 3) y rs rows) w by unfold sItself; refine (if_pos c1).trans ?_; show aIts P.2.2.2.2.1 (goA P y rs rows) w = _; unfold goA; rw [s0, s1, s2, s3, s4, goR_lb hbr hsm]]
    exact ⟨rfl, rfl, ⟨P.1, stg, hps, hmP, h1⟩, fr⟩
  · refine ((c_M_itself_bad l g  z0 z1 z2 z3 z4 z5 z6 z7 z8 z9 z10 g1 ztx hM hR hS hHi hHg ry0 rw0 c1).wide (Nat.le_of_ble_eq_true rfl) (Nat.le_of_ble_eq_true rfl) (Nat.le_of_ble_eq_true rfl) (Nat.le_of_ble_eq_true rfl)).mono (fun v n1 S1 h => ?_)
    obtain ⟨rfl, rfl, h1, fr⟩ := h
    rw [show sItself (tz, tx, P, rs, rows, hist) y w = -1 by unfold sItself; exact if_neg c1]
    exact ⟨rfl, rfl, ⟨P.1, stg, hps, hmP, h1⟩, fr⟩

set_option maxHeartbeats 4000000 in
set_option maxRecDepth 100000 in
theorem w_M_heap (l : Launch) (g : gG) {n : Nat} {S : Nat → gE} {z : Nat} {A : aT} {y w : Int} (hA : MA g S z A) (hg : goodA A) (ry0 : -2147483648 ≤ y ∧ y < 2147483648) (rw0 : -2147483648 ≤ w ∧ w < 2147483648) : g_Cp l yX9_heap wsX9_heap { frames := 2, cells := 0, slots := 0, locals := 46 } g [.ref z, .int (iI y), .int (iI w)] n S (some (.int (iI (sHeap A y w)))) := by
  obtain ⟨tz, tx, P, rs, rows, hist⟩ := A
  obtain ⟨g1, g2, g3, g4, g5⟩ : tz ≤ 200 ∧ (∀ i : Nat, i < tz → 32 ≤ tx i ∧ tx i ≤ 126) ∧ goodP P ∧ goodR P.1.toNat P.2.1 P.2.2.1 rs rows ∧ goodH P.1.toNat P.2.1 P.2.2.1 hist := hg
  obtain ⟨mHC, stg, hps, hmP, mAt, mRC, mJC, mCh, mVi, txa, rst, rhp, nw, sv, hs, nbs, js, z0, z1, ztx, z2, z3, z4, z5, z6, z7, z8, z9, z10, hS, hHi⟩ : MI g S z tz tx P rs rows hist := hA
  have hM := mP_good g3 hmP
  have hsm := mP_sam hmP
  obtain ⟨e0, hlb, s0, s1, s2, s3, s4⟩ := id hmP
  subst e0
  have hR := goodR_lb hsm g4
  have hHg := goodH_lb hsm g5
  have hbr : ∀ i : Nat, i < P.1.toNat → 1 ≤ P.2.2.1 i := fun i hi => by have := g3.2.1 i (by omega); omega
  have eL : ∀ y : Int, layR P.1.toNat (mLn hps) (mBr hps) (stg 0) (stg 2) (stg 1) (stg 4) (stg 3) rs rows y = layA P rs rows y := fun y => by unfold layA; rw [s0, s1, s2, s3, s4]; exact (layR_lb hsm).symm
  rw [show sHeap (tz, tx, P, rs, rows, hist) y w = (if (0 ≤ y ∧ y < P.1) ∧ (0 ≤ w ∧ w ≤ 3) then aHeap (mLn hps) (mBr hps) rs rows y.toNat w else -1) by
    show (if (0 ≤ y ∧ y < P.1) ∧ (0 ≤ w ∧ w ≤ 3) then aHeap P.2.1 P.2.2.1 rs rows y.toNat w else -1) = _
    by_cases q9 : (0 ≤ y ∧ y < P.1) ∧ (0 ≤ w ∧ w ≤ 3)
    · rw [if_pos q9, if_pos q9]; unfold aHeap; rw [(hlb y.toNat (by omega)).1, (hlb y.toNat (by omega)).2]
    · rw [if_neg q9, if_neg q9]]
  exact c_X9_heap l g z0 z4 z6 hM hR hS ry0 rw0

set_option maxHeartbeats 4000000 in
set_option maxRecDepth 100000 in
theorem w_M_told (l : Launch) (g : gG) {n : Nat} {S : Nat → gE} {z : Nat} {A : aT} {y w : Int} (hA : MA g S z A) (hg : goodA A) (ry0 : -2147483648 ≤ y ∧ y < 2147483648) (rw0 : -2147483648 ≤ w ∧ w < 2147483648) : g_Cp l yX9_told wsX9_told { frames := 3, cells := 0, slots := 0, locals := 66 } g [.ref z, .int (iI y), .int (iI w)] n S (some (.int (iI (sTold A y w)))) := by
  obtain ⟨tz, tx, P, rs, rows, hist⟩ := A
  obtain ⟨g1, g2, g3, g4, g5⟩ : tz ≤ 200 ∧ (∀ i : Nat, i < tz → 32 ≤ tx i ∧ tx i ≤ 126) ∧ goodP P ∧ goodR P.1.toNat P.2.1 P.2.2.1 rs rows ∧ goodH P.1.toNat P.2.1 P.2.2.1 hist := hg
  obtain ⟨mHC, stg, hps, hmP, mAt, mRC, mJC, mCh, mVi, txa, rst, rhp, nw, sv, hs, nbs, js, z0, z1, ztx, z2, z3, z4, z5, z6, z7, z8, z9, z10, hS, hHi⟩ : MI g S z tz tx P rs rows hist := hA
  have hM := mP_good g3 hmP
  have hsm := mP_sam hmP
  obtain ⟨e0, hlb, s0, s1, s2, s3, s4⟩ := id hmP
  subst e0
  have hR := goodR_lb hsm g4
  have hHg := goodH_lb hsm g5
  have hbr : ∀ i : Nat, i < P.1.toNat → 1 ≤ P.2.2.1 i := fun i hi => by have := g3.2.1 i (by omega); omega
  have eL : ∀ y : Int, layR P.1.toNat (mLn hps) (mBr hps) (stg 0) (stg 2) (stg 1) (stg 4) (stg 3) rs rows y = layA P rs rows y := fun y => by unfold layA; rw [s0, s1, s2, s3, s4]; exact (layR_lb hsm).symm
  rw [show sTold (tz, tx, P, rs, rows, hist) y w = (if (0 ≤ y ∧ y < rows.length) ∧ (0 ≤ w ∧ w ≤ 7) then aTold (mBr hps) (stg 2) (stg 1) (stg 4) rows y.toNat w else -1) by
    show (if (0 ≤ y ∧ y < rows.length) ∧ (0 ≤ w ∧ w ≤ 7) then aTold P.2.2.1 P.2.2.2.2.2.2.1 P.2.2.2.2.2.1 P.2.2.2.2.2.2.2.2 rows y.toNat w else -1) = _
    by_cases q9 : (0 ≤ y ∧ y < rows.length) ∧ (0 ≤ w ∧ w ≤ 7)
    · rw [if_pos q9, if_pos q9]; unfold aTold; rw [s1, s2, s4, wst_lb hsm (g4.2.1 y.toNat (by omega)).1, cuts_lb hsm (g4.2.1 y.toNat (by omega)).1]
    · rw [if_neg q9, if_neg q9]]
  exact c_X9_told l g z0 z2 z4 z6 hM hR hS ry0 rw0

set_option maxHeartbeats 4000000 in
set_option maxRecDepth 100000 in
theorem w_M_slate (l : Launch) (g : gG) {n : Nat} {S : Nat → gE} {z : Nat} {A : aT} {y k w : Int} (hA : MA g S z A) (hg : goodA A) (ry0 : -2147483648 ≤ y ∧ y < 2147483648) (rk0 : -2147483648 ≤ k ∧ k < 2147483648) (rw0 : -2147483648 ≤ w ∧ w < 2147483648) : g_Cp l yX9_slate wsX9_slate { frames := 2, cells := 0, slots := 0, locals := 43 } g [.ref z, .int (iI y), .int (iI k), .int (iI w)] n S (some (.int (iI (sSlate A y k w)))) := by
  obtain ⟨tz, tx, P, rs, rows, hist⟩ := A
  obtain ⟨g1, g2, g3, g4, g5⟩ : tz ≤ 200 ∧ (∀ i : Nat, i < tz → 32 ≤ tx i ∧ tx i ≤ 126) ∧ goodP P ∧ goodR P.1.toNat P.2.1 P.2.2.1 rs rows ∧ goodH P.1.toNat P.2.1 P.2.2.1 hist := hg
  obtain ⟨mHC, stg, hps, hmP, mAt, mRC, mJC, mCh, mVi, txa, rst, rhp, nw, sv, hs, nbs, js, z0, z1, ztx, z2, z3, z4, z5, z6, z7, z8, z9, z10, hS, hHi⟩ : MI g S z tz tx P rs rows hist := hA
  have hM := mP_good g3 hmP
  have hsm := mP_sam hmP
  obtain ⟨e0, hlb, s0, s1, s2, s3, s4⟩ := id hmP
  subst e0
  have hR := goodR_lb hsm g4
  have hHg := goodH_lb hsm g5
  have hbr : ∀ i : Nat, i < P.1.toNat → 1 ≤ P.2.2.1 i := fun i hi => by have := g3.2.1 i (by omega); omega
  have eL : ∀ y : Int, layR P.1.toNat (mLn hps) (mBr hps) (stg 0) (stg 2) (stg 1) (stg 4) (stg 3) rs rows y = layA P rs rows y := fun y => by unfold layA; rw [s0, s1, s2, s3, s4]; exact (layR_lb hsm).symm
  exact c_X9_slate l g z0 z6 hM hR hS ry0 rk0 rw0

set_option maxHeartbeats 4000000 in
set_option maxRecDepth 100000 in
theorem w_M_count (l : Launch) (g : gG) {n : Nat} {S : Nat → gE} {z : Nat} {A : aT} {w : Int} (hA : MA g S z A) (hg : goodA A) (rw0 : -2147483648 ≤ w ∧ w < 2147483648) : g_Cp l yX9_count wsX9_count { frames := 3, cells := 0, slots := 0, locals := 68 } g [.ref z, .int (iI w)] n S (some (.int (iI (sCount A w)))) := by
  obtain ⟨tz, tx, P, rs, rows, hist⟩ := A
  obtain ⟨g1, g2, g3, g4, g5⟩ : tz ≤ 200 ∧ (∀ i : Nat, i < tz → 32 ≤ tx i ∧ tx i ≤ 126) ∧ goodP P ∧ goodR P.1.toNat P.2.1 P.2.2.1 rs rows ∧ goodH P.1.toNat P.2.1 P.2.2.1 hist := hg
  obtain ⟨mHC, stg, hps, hmP, mAt, mRC, mJC, mCh, mVi, txa, rst, rhp, nw, sv, hs, nbs, js, z0, z1, ztx, z2, z3, z4, z5, z6, z7, z8, z9, z10, hS, hHi⟩ : MI g S z tz tx P rs rows hist := hA
  have hM := mP_good g3 hmP
  have hsm := mP_sam hmP
  obtain ⟨e0, hlb, s0, s1, s2, s3, s4⟩ := id hmP
  subst e0
  have hR := goodR_lb hsm g4
  have hHg := goodH_lb hsm g5
  have hbr : ∀ i : Nat, i < P.1.toNat → 1 ≤ P.2.2.1 i := fun i hi => by have := g3.2.1 i (by omega); omega
  have eL : ∀ y : Int, layR P.1.toNat (mLn hps) (mBr hps) (stg 0) (stg 2) (stg 1) (stg 4) (stg 3) rs rows y = layA P rs rows y := fun y => by unfold layA; rw [s0, s1, s2, s3, s4]; exact (layR_lb hsm).symm
  rw [show sCount (tz, tx, P, rs, rows, hist) w = aCount P.1 (stg 0) (stg 1) (stg 2) (stg 3) (stg 4) (mBr hps) rs rows (hist.length : Int).toNat (tz : Int).toNat w by
    show aCount P.1 P.2.2.2.2.1 P.2.2.2.2.2.1 P.2.2.2.2.2.2.1 P.2.2.2.2.2.2.2.1 P.2.2.2.2.2.2.2.2 P.2.2.1 rs rows hist.length tz w = _
    unfold aCount; rw [s0, s1, s2, s3, s4, wstR_lb hsm g4, Int.toNat_natCast, Int.toNat_natCast]]
  exact c_X9_count l g z0 z2 z4 z6 hM hR hS (by omega) (by omega) rw0

