set_option maxHeartbeats 4000000 in
set_option maxRecDepth 100000 in
theorem w_K_write (l : Launch) (g : gG) {n : Nat} {S : Nat → gE} {x : Nat} {A : aT} {J : jT} {y : Int} (hA : CA g S n x A J) (hg : goodA A) (ry : -2147483648 ≤ y ∧ y < 2147483648) : g_Cs l yX8_write wsX8_write { frames := 1, cells := 0, slots := 0, locals := 22 } g [.ref x, .int (iI y)] n S (fun vr n1 S1 => vr = some (.int (iI (sWrite A y).1)) ∧ n ≤ n1 ∧ (∃ J1 : jT, CA g S1 n1 x (sWrite A y).2 J1) ∧ ∀ bb, (bb < x ∨ (x + 36 ≤ bb ∧ bb < x + 47)) → S1 bb = S bb) 0 0 := by
  obtain ⟨tz, tx, P, rs, rows, hist⟩ := A
  obtain ⟨g1, g2, g3, g4, g5⟩ : tz ≤ 200 ∧ (∀ i : Nat, i < tz → 32 ≤ tx i ∧ tx i ≤ 126) ∧ goodP P ∧ goodR P.1.toNat P.2.1 P.2.2.1 rs rows ∧ goodH P.1.toNat P.2.1 P.2.2.1 hist := hg
  obtain ⟨tr, lv, cs, ca, kp, h0, hT, hP, hJ, hL, hR, hG, hAh, hW, htr, ⟨hta1, hta2, hta3⟩, hlv, hQ, hH⟩ : CI g S n x tz tx P J rs rows hist := hA
  obtain ⟨ta, nb, t0, t1, t2, t3⟩ := id hT
  obtain ⟨p0, p1, p2, p3⟩ := id hP
  obtain ⟨j1, j2, j3, j4, j5, j6, e0, e1, e2, e3⟩ := id hJ
  obtain ⟨l0, rf, l1⟩ := id hL
  obtain ⟨r0, r1, r2⟩ := id hR
  obtain ⟨w0, w1⟩ := id hW
  obtain ⟨k1, k2, k3, k4, k5, k6, k7, kf, ke, tr0, tr1, tr2⟩ := id htr
  obtain ⟨m1, m2, m3, m4, m5, m6, m7, m8⟩ := id g3
  have g41 := g4.1
  have g51 := g5.1
  by_cases c1 : 32 ≤ y ∧ y ≤ 126
  · by_cases c2 : tz = 200
    · refine (((c_K_write_full l g h0 t0 t1 c1 c2)).wide (Nat.le_of_ble_eq_true rfl) (Nat.le_of_ble_eq_true rfl) (Nat.le_of_ble_eq_true rfl) (Nat.le_of_ble_eq_true rfl)).mono (fun v n1 S1 h => ?_)
      obtain ⟨rfl, rfl, rfl⟩ := h
      rw [show sWrite (tz, tx, P, rs, rows, hist) y = (-3, (tz, tx, P, rs, rows, hist)) by unfold sWrite; rw [if_pos c1]; exact if_pos c2]
      exact ⟨rfl, Nat.le_refl _, ⟨J, tr, lv, cs, ca, kp, h0, hT, hP, hJ, hL, hR, hG, hAh, hW, htr, ⟨hta1, hta2, hta3⟩, hlv, hQ, hH⟩, fun _ _ => rfl⟩
    · refine (((c_K_write_ok l g h0 t0 t1 c1 (by omega))).wide (Nat.le_of_ble_eq_true rfl) (Nat.le_of_ble_eq_true rfl) (Nat.le_of_ble_eq_true rfl) (Nat.le_of_ble_eq_true rfl)).mono (fun v n1 S1 h => ?_)
      obtain ⟨rfl, rfl, a1, a2, fr⟩ := h
      rw [show sWrite (tz, tx, P, rs, rows, hist) y = ((tz : Int) + 1, (tz + 1, va_up tx tz y, P, rs, rows, hist)) by unfold sWrite; rw [if_pos c1]; exact if_neg c2]
      have eC : ∀ q : Nat, okC x n tr q → okC x n tr q ∧ S1 q = S q ∧ S1 (q + 1) = S (q + 1) ∧ S1 (q + 2) = S (q + 2) := fun q hq => by
        have hq' := hq
        unfold okC at hq'
        exact ⟨by unfold okC; omega, (fr _ (by omega) (by omega)), (fr _ (by omega) (by omega)), (fr _ (by omega) (by omega))⟩
      have eD : ∀ a : Nat, okD x n tr a → okD x n tr a ∧ S1 a = S a := fun a ha => by
        have ha' := ha
        unfold okD at ha'
        exact ⟨by unfold okD; omega, (fr _ (by omega) (by omega))⟩
      exact ⟨rfl, Nat.le_refl _, ⟨J, ⟨tr, lv, cs, ca, kp, ((fr _ (by omega) (by omega)).trans h0), ⟨ta, nb, a1, a2, (fr _ (by omega) (by omega)).trans t2, t3⟩, (hP.kept (fun bb a b => fr bb (by omega) (by omega))), (hJ.kept (fun bb a b => fr bb (by omega) (by omega))), (hL.kept (fun bb a b => fr bb (by omega) (by omega))), (hR.kept (fun bb a b => fr bb (by omega) (by omega))), (hG.kept (fr _ (by omega) (by omega)) (fr _ (by omega) (by omega)) (fr _ (by omega) (by omega))), (hAh.kept (fun bb a b => fr bb (by omega) (by omega))), (hW.kept (fun bb a b => fr bb (by omega) (by omega))), (htr.kept (fr _ (by omega) (by omega)) (fr _ (by omega) (by omega)) (fr _ (by omega) (by omega))), ⟨hta1, hta2, hta3⟩, hlv, (hQ.kept eC), (hH.kept eC eD)⟩⟩, (fun bb hbb => fr bb (by omega) (by omega))⟩
  · refine (((c_K_write_bad l g h0 ry c1)).wide (Nat.le_of_ble_eq_true rfl) (Nat.le_of_ble_eq_true rfl) (Nat.le_of_ble_eq_true rfl) (Nat.le_of_ble_eq_true rfl)).mono (fun v n1 S1 h => ?_)
    obtain ⟨rfl, rfl, rfl⟩ := h
    rw [show sWrite (tz, tx, P, rs, rows, hist) y = (-1, (tz, tx, P, rs, rows, hist)) by unfold sWrite; exact if_neg c1]
    exact ⟨rfl, Nat.le_refl _, ⟨J, tr, lv, cs, ca, kp, h0, hT, hP, hJ, hL, hR, hG, hAh, hW, htr, ⟨hta1, hta2, hta3⟩, hlv, hQ, hH⟩, fun _ _ => rfl⟩

set_option maxHeartbeats 4000000 in
set_option maxRecDepth 100000 in
theorem w_K_wipe (l : Launch) (g : gG) {n : Nat} {S : Nat → gE} {x : Nat} {A : aT} {J : jT} (hA : CA g S n x A J) (hg : goodA A)  : g_Cs l yX8_wipe wsX8_wipe { frames := 1, cells := 0, slots := 0, locals := 20 } g [.ref x] n S (fun vr n1 S1 => vr = some (.int (iI (sWipe A).1)) ∧ n ≤ n1 ∧ (∃ J1 : jT, CA g S1 n1 x (sWipe A).2 J1) ∧ ∀ bb, (bb < x ∨ (x + 36 ≤ bb ∧ bb < x + 47)) → S1 bb = S bb) 0 0 := by
  obtain ⟨tz, tx, P, rs, rows, hist⟩ := A
  obtain ⟨g1, g2, g3, g4, g5⟩ : tz ≤ 200 ∧ (∀ i : Nat, i < tz → 32 ≤ tx i ∧ tx i ≤ 126) ∧ goodP P ∧ goodR P.1.toNat P.2.1 P.2.2.1 rs rows ∧ goodH P.1.toNat P.2.1 P.2.2.1 hist := hg
  obtain ⟨tr, lv, cs, ca, kp, h0, hT, hP, hJ, hL, hR, hG, hAh, hW, htr, ⟨hta1, hta2, hta3⟩, hlv, hQ, hH⟩ : CI g S n x tz tx P J rs rows hist := hA
  obtain ⟨ta, nb, t0, t1, t2, t3⟩ := id hT
  obtain ⟨p0, p1, p2, p3⟩ := id hP
  obtain ⟨j1, j2, j3, j4, j5, j6, e0, e1, e2, e3⟩ := id hJ
  obtain ⟨l0, rf, l1⟩ := id hL
  obtain ⟨r0, r1, r2⟩ := id hR
  obtain ⟨w0, w1⟩ := id hW
  obtain ⟨k1, k2, k3, k4, k5, k6, k7, kf, ke, tr0, tr1, tr2⟩ := id htr
  obtain ⟨m1, m2, m3, m4, m5, m6, m7, m8⟩ := id g3
  have g41 := g4.1
  have g51 := g5.1
  refine (((c_K_wipe l g h0 t0)).wide (Nat.le_of_ble_eq_true rfl) (Nat.le_of_ble_eq_true rfl) (Nat.le_of_ble_eq_true rfl) (Nat.le_of_ble_eq_true rfl)).mono (fun v n1 S1 h => ?_)
  obtain ⟨rfl, rfl, a1, fr⟩ := h
  have eC : ∀ q : Nat, okC x n tr q → okC x n tr q ∧ S1 q = S q ∧ S1 (q + 1) = S (q + 1) ∧ S1 (q + 2) = S (q + 2) := fun q hq => by
    have hq' := hq
    unfold okC at hq'
    exact ⟨by unfold okC; omega, (fr _ (by omega)), (fr _ (by omega)), (fr _ (by omega))⟩
  have eD : ∀ a : Nat, okD x n tr a → okD x n tr a ∧ S1 a = S a := fun a ha => by
    have ha' := ha
    unfold okD at ha'
    exact ⟨by unfold okD; omega, (fr _ (by omega))⟩
  exact ⟨rfl, Nat.le_refl _, ⟨J, ⟨tr, lv, cs, ca, kp, ((fr _ (by omega)).trans h0), ⟨ta, nb, a1, (fr _ (by omega)).trans t1, (fr _ (by omega)).trans t2, t3⟩, (hP.kept (fun bb a b => fr bb (by omega))), (hJ.kept (fun bb a b => fr bb (by omega))), (hL.kept (fun bb a b => fr bb (by omega))), (hR.kept (fun bb a b => fr bb (by omega))), (hG.kept (fr _ (by omega)) (fr _ (by omega)) (fr _ (by omega))), (hAh.kept (fun bb a b => fr bb (by omega))), (hW.kept (fun bb a b => fr bb (by omega))), (htr.kept (fr _ (by omega)) (fr _ (by omega)) (fr _ (by omega))), ⟨hta1, hta2, hta3⟩, hlv, (hQ.kept eC), (hH.kept eC eD)⟩⟩, (fun bb hbb => fr bb (by omega))⟩

set_option maxHeartbeats 4000000 in
set_option maxRecDepth 100000 in
theorem w_K_fault (l : Launch) (g : gG) {n : Nat} {S : Nat → gE} {x : Nat} {A : aT} {J : jT} (hA : CA g S n x A J) (hg : goodA A)  : g_Cs l yX8_fault wsX8_fault { frames := 5, cells := 0, slots := 0, locals := 121 } g [.ref x] n S (fun vr n1 S1 => vr = some (.int (iI (sFault A J).1)) ∧ n ≤ n1 ∧ (∃ J1 : jT, CA g S1 n1 x (sFault A J).2 J1) ∧ ∀ bb, (bb < x ∨ (x + 36 ≤ bb ∧ bb < x + 47)) → S1 bb = S bb) 0 0 := by
  obtain ⟨tz, tx, P, rs, rows, hist⟩ := A
  obtain ⟨g1, g2, g3, g4, g5⟩ : tz ≤ 200 ∧ (∀ i : Nat, i < tz → 32 ≤ tx i ∧ tx i ≤ 126) ∧ goodP P ∧ goodR P.1.toNat P.2.1 P.2.2.1 rs rows ∧ goodH P.1.toNat P.2.1 P.2.2.1 hist := hg
  obtain ⟨tr, lv, cs, ca, kp, h0, hT, hP, hJ, hL, hR, hG, hAh, hW, htr, ⟨hta1, hta2, hta3⟩, hlv, hQ, hH⟩ : CI g S n x tz tx P J rs rows hist := hA
  obtain ⟨ta, nb, t0, t1, t2, t3⟩ := id hT
  obtain ⟨p0, p1, p2, p3⟩ := id hP
  obtain ⟨j1, j2, j3, j4, j5, j6, e0, e1, e2, e3⟩ := id hJ
  obtain ⟨l0, rf, l1⟩ := id hL
  obtain ⟨r0, r1, r2⟩ := id hR
  obtain ⟨w0, w1⟩ := id hW
  obtain ⟨k1, k2, k3, k4, k5, k6, k7, kf, ke, tr0, tr1, tr2⟩ := id htr
  obtain ⟨m1, m2, m3, m4, m5, m6, m7, m8⟩ := id g3
  have g41 := g4.1
  have g51 := g5.1
  refine (((c_K_fault l g h0 t0 t1 t2 e0 e1 e2 e3 g1 g2 t3)).wide (Nat.le_of_ble_eq_true rfl) (Nat.le_of_ble_eq_true rfl) (Nat.le_of_ble_eq_true rfl) (Nat.le_of_ble_eq_true rfl)).mono (fun v n1 S1 h => ?_)
  obtain ⟨rfl, rfl, a1, ⟨a2, a3⟩, ⟨a4, a5, a6⟩, fr⟩ := h
  obtain ⟨J1, hJ1⟩ := bJ_of a1
  have eC : ∀ q : Nat, okC x n tr q → okC x n tr q ∧ S1 q = S q ∧ S1 (q + 1) = S (q + 1) ∧ S1 (q + 2) = S (q + 2) := fun q hq => by
    have hq' := hq
    unfold okC at hq'
    exact ⟨by unfold okC; omega, (fr _ (by omega) (by omega) (by omega) (by omega) (by omega) (by omega)), (fr _ (by omega) (by omega) (by omega) (by omega) (by omega) (by omega)), (fr _ (by omega) (by omega) (by omega) (by omega) (by omega) (by omega))⟩
  have eD : ∀ a : Nat, okD x n tr a → okD x n tr a ∧ S1 a = S a := fun a ha => by
    have ha' := ha
    unfold okD at ha'
    exact ⟨by unfold okD; omega, (fr _ (by omega) (by omega) (by omega) (by omega) (by omega) (by omega))⟩
  exact ⟨rfl, Nat.le_refl _, ⟨J1, ⟨tr, lv, cs, ca, kp, ((fr _ (by omega) (by omega) (by omega) (by omega) (by omega) (by omega)).trans h0), ⟨a2, a4, a3, (fr _ (by omega) (by omega) (by omega) (by omega) (by omega) (by omega)).trans t1, a5, a6⟩, (hP.kept (fun bb a b => fr bb (by omega) (by omega) (by omega) (by omega) (by omega) (by omega))), hJ1, (hL.kept (fun bb a b => fr bb (by omega) (by omega) (by omega) (by omega) (by omega) (by omega))), (hR.kept (fun bb a b => fr bb (by omega) (by omega) (by omega) (by omega) (by omega) (by omega))), (hG.kept (fr _ (by omega) (by omega) (by omega) (by omega) (by omega) (by omega)) (fr _ (by omega) (by omega) (by omega) (by omega) (by omega) (by omega)) (fr _ (by omega) (by omega) (by omega) (by omega) (by omega) (by omega))), (hAh.kept (fun bb a b => fr bb (by omega) (by omega) (by omega) (by omega) (by omega) (by omega))), (hW.kept (fun bb a b => fr bb (by omega) (by omega) (by omega) (by omega) (by omega) (by omega))), (htr.kept (fr _ (by omega) (by omega) (by omega) (by omega) (by omega) (by omega)) (fr _ (by omega) (by omega) (by omega) (by omega) (by omega) (by omega)) (fr _ (by omega) (by omega) (by omega) (by omega) (by omega) (by omega))), ⟨hta1, hta2, hta3⟩, hlv, (hQ.kept eC), (hH.kept eC eD)⟩⟩, (fun bb hbb => fr bb (by omega) (by omega) (by omega) (by omega) (by omega) (by omega))⟩

set_option maxHeartbeats 4000000 in
set_option maxRecDepth 100000 in
theorem w_K_lay (l : Launch) (g : gG) {n : Nat} {S : Nat → gE} {x : Nat} {A : aT} {J : jT} (hA : CA g S n x A J) (hg : goodA A)  : g_Cs l yX8_lay wsX8_lay { frames := 5, cells := 0, slots := 0, locals := 121 } g [.ref x] n S (fun vr n1 S1 => vr = some (.int (iI (sLay A J).1)) ∧ n ≤ n1 ∧ (∃ J1 : jT, CA g S1 n1 x (sLay A J).2 J1) ∧ ∀ bb, (bb < x ∨ (x + 36 ≤ bb ∧ bb < x + 47)) → S1 bb = S bb) 0 0 := by
  obtain ⟨tz, tx, P, rs, rows, hist⟩ := A
  obtain ⟨g1, g2, g3, g4, g5⟩ : tz ≤ 200 ∧ (∀ i : Nat, i < tz → 32 ≤ tx i ∧ tx i ≤ 126) ∧ goodP P ∧ goodR P.1.toNat P.2.1 P.2.2.1 rs rows ∧ goodH P.1.toNat P.2.1 P.2.2.1 hist := hg
  obtain ⟨tr, lv, cs, ca, kp, h0, hT, hP, hJ, hL, hR, hG, hAh, hW, htr, ⟨hta1, hta2, hta3⟩, hlv, hQ, hH⟩ : CI g S n x tz tx P J rs rows hist := hA
  obtain ⟨ta, nb, t0, t1, t2, t3⟩ := id hT
  obtain ⟨p0, p1, p2, p3⟩ := id hP
  obtain ⟨j1, j2, j3, j4, j5, j6, e0, e1, e2, e3⟩ := id hJ
  obtain ⟨l0, rf, l1⟩ := id hL
  obtain ⟨r0, r1, r2⟩ := id hR
  obtain ⟨w0, w1⟩ := id hW
  obtain ⟨k1, k2, k3, k4, k5, k6, k7, kf, ke, tr0, tr1, tr2⟩ := id htr
  obtain ⟨m1, m2, m3, m4, m5, m6, m7, m8⟩ := id g3
  have g41 := g4.1
  have g51 := g5.1
  by_cases c1 : (rdC tx tz 200 0 (j0 J)).1 = -4
  · by_cases c2 : (rdC tx tz 200 0 (j0 J)).2.1 = 0
    · refine (((c_K_lay_0 l g h0 t0 t1 t2 e0 e1 e2 e3 g1 g2 t3 c1 c2)).wide (Nat.le_of_ble_eq_true rfl) (Nat.le_of_ble_eq_true rfl) (Nat.le_of_ble_eq_true rfl) (Nat.le_of_ble_eq_true rfl)).mono (fun v n1 S1 h => ?_)
      obtain ⟨rfl, rfl, a1, ⟨a2, a3⟩, ⟨a4, a5, a6⟩, fr⟩ := h
      obtain ⟨J1, hJ1⟩ := bJ_of a1
      rw [show sLay (tz, tx, P, rs, rows, hist) J = (-2, (tz, tx, P, rs, rows, hist)) by unfold sLay; exact if_neg (fun q9 => q9.2 c2)]
      have eC : ∀ q : Nat, okC x n tr q → okC x n tr q ∧ S1 q = S q ∧ S1 (q + 1) = S (q + 1) ∧ S1 (q + 2) = S (q + 2) := fun q hq => by
        have hq' := hq
        unfold okC at hq'
        exact ⟨by unfold okC; omega, (fr _ (by omega) (by omega) (by omega) (by omega) (by omega) (by omega)), (fr _ (by omega) (by omega) (by omega) (by omega) (by omega) (by omega)), (fr _ (by omega) (by omega) (by omega) (by omega) (by omega) (by omega))⟩
      have eD : ∀ a : Nat, okD x n tr a → okD x n tr a ∧ S1 a = S a := fun a ha => by
        have ha' := ha
        unfold okD at ha'
        exact ⟨by unfold okD; omega, (fr _ (by omega) (by omega) (by omega) (by omega) (by omega) (by omega))⟩
      exact ⟨rfl, Nat.le_refl _, ⟨J1, ⟨tr, lv, cs, ca, kp, ((fr _ (by omega) (by omega) (by omega) (by omega) (by omega) (by omega)).trans h0), ⟨a2, a4, a3, (fr _ (by omega) (by omega) (by omega) (by omega) (by omega) (by omega)).trans t1, a5, a6⟩, (hP.kept (fun bb a b => fr bb (by omega) (by omega) (by omega) (by omega) (by omega) (by omega))), hJ1, (hL.kept (fun bb a b => fr bb (by omega) (by omega) (by omega) (by omega) (by omega) (by omega))), (hR.kept (fun bb a b => fr bb (by omega) (by omega) (by omega) (by omega) (by omega) (by omega))), (hG.kept (fr _ (by omega) (by omega) (by omega) (by omega) (by omega) (by omega)) (fr _ (by omega) (by omega) (by omega) (by omega) (by omega) (by omega)) (fr _ (by omega) (by omega) (by omega) (by omega) (by omega) (by omega))), (hAh.kept (fun bb a b => fr bb (by omega) (by omega) (by omega) (by omega) (by omega) (by omega))), (hW.kept (fun bb a b => fr bb (by omega) (by omega) (by omega) (by omega) (by omega) (by omega))), (htr.kept (fr _ (by omega) (by omega) (by omega) (by omega) (by omega) (by omega)) (fr _ (by omega) (by omega) (by omega) (by omega) (by omega) (by omega)) (fr _ (by omega) (by omega) (by omega) (by omega) (by omega) (by omega))), ⟨hta1, hta2, hta3⟩, hlv, (hQ.kept eC), (hH.kept eC eD)⟩⟩, (fun bb hbb => fr bb (by omega) (by omega) (by omega) (by omega) (by omega) (by omega))⟩
    · refine (((c_K_lay_yes l g h0 t0 t1 t2 e0 e1 e2 e3 p0 p1 p2 p3 r0 r1 w0 g1 g2 t3 c1 c2)).wide (Nat.le_of_ble_eq_true rfl) (Nat.le_of_ble_eq_true rfl) (Nat.le_of_ble_eq_true rfl) (Nat.le_of_ble_eq_true rfl)).mono (fun v n1 S1 h => ?_)
      obtain ⟨rfl, rfl, b0, b1, b2, b3, b4, b5, b6, b7, b8, b9, b10, ⟨a2, a3⟩, ⟨a4, a5, a6⟩, fr⟩ := h
      rw [show sLay (tz, tx, P, rs, rows, hist) J = ((rdC tx tz 200 0 (j0 J)).2.1, (tz, tx, cpP (rdC tx tz 200 0 (j0 J)).2 P, (fun i : Nat => if (i : Int) < (rdC tx tz 200 0 (j0 J)).2.1 then (rdC tx tz 200 0 (j0 J)).2.2.2.2.1 i else 0), [], [])) by unfold sLay; exact if_pos ⟨c1, c2⟩]
      have hgR := (rdC_good (tx := tx) (tl := tz) 200 0 (j0 J) (j0_good J)).1
      exact ⟨rfl, Nat.le_refl _, ⟨((rdC tx tz 200 0 (j0 J)).2.2.1, (rdC tx tz 200 0 (j0 J)).2.2.2.1, (rdC tx tz 200 0 (j0 J)).2.2.2.2.1), ⟨tr, (va_cpy (va_cpy (rdC tx tz 200 0 (j0 J)).2.2.2.2.1 P.2.2.2.1 0 0 8) lv 0 0 8), cs, ca, kp, ((fr _ (by omega) (by omega) (by omega) (by omega) (by omega) (by omega) (by omega) (by omega) (by omega) (by omega) (by omega) (by omega) (by omega)).trans h0), ⟨a2, a4, a3, (fr _ (by omega) (by omega) (by omega) (by omega) (by omega) (by omega) (by omega) (by omega) (by omega) (by omega) (by omega) (by omega) (by omega)).trans t1, a5, a6⟩, ⟨b0, b1, b2, b3⟩, ⟨_, _, _, _, _, _, b4, b5, b6, b7⟩, (hL.kept (fun bb a b => fr bb (by omega) (by omega) (by omega) (by omega) (by omega) (by omega) (by omega) (by omega) (by omega) (by omega) (by omega) (by omega) (by omega))), ⟨b8, b9, (fr _ (by omega) (by omega) (by omega) (by omega) (by omega) (by omega) (by omega) (by omega) (by omega) (by omega) (by omega) (by omega) (by omega)).trans r2⟩, (hG.kept (fr _ (by omega) (by omega) (by omega) (by omega) (by omega) (by omega) (by omega) (by omega) (by omega) (by omega) (by omega) (by omega) (by omega)) (fr _ (by omega) (by omega) (by omega) (by omega) (by omega) (by omega) (by omega) (by omega) (by omega) (by omega) (by omega) (by omega) (by omega)) (fr _ (by omega) (by omega) (by omega) (by omega) (by omega) (by omega) (by omega) (by omega) (by omega) (by omega) (by omega) (by omega) (by omega))), (hAh.kept (fun bb a b => fr bb (by omega) (by omega) (by omega) (by omega) (by omega) (by omega) (by omega) (by omega) (by omega) (by omega) (by omega) (by omega) (by omega))), ⟨b10, (fr _ (by omega) (by omega) (by omega) (by omega) (by omega) (by omega) (by omega) (by omega) (by omega) (by omega) (by omega) (by omega) (by omega)).trans w1⟩, (htr.kept (fr _ (by omega) (by omega) (by omega) (by omega) (by omega) (by omega) (by omega) (by omega) (by omega) (by omega) (by omega) (by omega) (by omega)) (fr _ (by omega) (by omega) (by omega) (by omega) (by omega) (by omega) (by omega) (by omega) (by omega) (by omega) (by omega) (by omega) (by omega)) (fr _ (by omega) (by omega) (by omega) (by omega) (by omega) (by omega) (by omega) (by omega) (by omega) (by omega) (by omega) (by omega) (by omega))), ⟨hta1, hta2, hta3⟩, (fun i hi => by have hi' : (i : Int) < (rdC tx tz 200 0 (j0 J)).2.1 := hi; show va_cpy (va_cpy (rdC tx tz 200 0 (j0 J)).2.2.2.2.1 P.2.2.2.1 0 0 8) lv 0 0 8 i = if (i : Int) < (rdC tx tz 200 0 (j0 J)).2.1 then (rdC tx tz 200 0 (j0 J)).2.2.2.2.1 i else 0; rw [cpy8' (by omega), cpy8' (by omega), if_pos hi']), (fun c hc => absurd hc (Nat.not_lt_zero c)), CH_0⟩⟩, (fun bb hbb => fr bb (by omega) (by omega) (by omega) (by omega) (by omega) (by omega) (by omega) (by omega) (by omega) (by omega) (by omega) (by omega) (by omega))⟩
  · refine (((c_K_lay_bad l g h0 t0 t1 t2 e0 e1 e2 e3 g1 g2 t3 c1)).wide (Nat.le_of_ble_eq_true rfl) (Nat.le_of_ble_eq_true rfl) (Nat.le_of_ble_eq_true rfl) (Nat.le_of_ble_eq_true rfl)).mono (fun v n1 S1 h => ?_)
    obtain ⟨rfl, rfl, a1, ⟨a2, a3⟩, ⟨a4, a5, a6⟩, fr⟩ := h
    obtain ⟨J1, hJ1⟩ := bJ_of a1
    rw [show sLay (tz, tx, P, rs, rows, hist) J = (-2, (tz, tx, P, rs, rows, hist)) by unfold sLay; exact if_neg (fun q9 => c1 q9.1)]
    have eC : ∀ q : Nat, okC x n tr q → okC x n tr q ∧ S1 q = S q ∧ S1 (q + 1) = S (q + 1) ∧ S1 (q + 2) = S (q + 2) := fun q hq => by
      have hq' := hq
      unfold okC at hq'
      exact ⟨by unfold okC; omega, (fr _ (by omega) (by omega) (by omega) (by omega) (by omega) (by omega)), (fr _ (by omega) (by omega) (by omega) (by omega) (by omega) (by omega)), (fr _ (by omega) (by omega) (by omega) (by omega) (by omega) (by omega))⟩
    have eD : ∀ a : Nat, okD x n tr a → okD x n tr a ∧ S1 a = S a := fun a ha => by
      have ha' := ha
      unfold okD at ha'
      exact ⟨by unfold okD; omega, (fr _ (by omega) (by omega) (by omega) (by omega) (by omega) (by omega))⟩
    exact ⟨rfl, Nat.le_refl _, ⟨J1, ⟨tr, lv, cs, ca, kp, ((fr _ (by omega) (by omega) (by omega) (by omega) (by omega) (by omega)).trans h0), ⟨a2, a4, a3, (fr _ (by omega) (by omega) (by omega) (by omega) (by omega) (by omega)).trans t1, a5, a6⟩, (hP.kept (fun bb a b => fr bb (by omega) (by omega) (by omega) (by omega) (by omega) (by omega))), hJ1, (hL.kept (fun bb a b => fr bb (by omega) (by omega) (by omega) (by omega) (by omega) (by omega))), (hR.kept (fun bb a b => fr bb (by omega) (by omega) (by omega) (by omega) (by omega) (by omega))), (hG.kept (fr _ (by omega) (by omega) (by omega) (by omega) (by omega) (by omega)) (fr _ (by omega) (by omega) (by omega) (by omega) (by omega) (by omega)) (fr _ (by omega) (by omega) (by omega) (by omega) (by omega) (by omega))), (hAh.kept (fun bb a b => fr bb (by omega) (by omega) (by omega) (by omega) (by omega) (by omega))), (hW.kept (fun bb a b => fr bb (by omega) (by omega) (by omega) (by omega) (by omega) (by omega))), (htr.kept (fr _ (by omega) (by omega) (by omega) (by omega) (by omega) (by omega)) (fr _ (by omega) (by omega) (by omega) (by omega) (by omega) (by omega)) (fr _ (by omega) (by omega) (by omega) (by omega) (by omega) (by omega))), ⟨hta1, hta2, hta3⟩, hlv, (hQ.kept eC), (hH.kept eC eD)⟩⟩, (fun bb hbb => fr bb (by omega) (by omega) (by omega) (by omega) (by omega) (by omega))⟩

set_option maxHeartbeats 4000000 in
set_option maxRecDepth 100000 in
theorem w_K_tried (l : Launch) (g : gG) {n : Nat} {S : Nat → gE} {x : Nat} {A : aT} {J : jT} {y w : Int} (hA : CA g S n x A J) (hg : goodA A) (ry : -2147483648 ≤ y ∧ y < 2147483648) (rw0 : -2147483648 ≤ w ∧ w < 2147483648) : g_Cs l yX8_tried wsX8_tried { frames := 6, cells := 0, slots := 0, locals := 136 } g [.ref x, .int (iI y), .int (iI w)] n S (fun vr n1 S1 => vr = some (.int (iI (sTried A y w))) ∧ n ≤ n1 ∧ (∃ J1 : jT, CA g S1 n1 x A J1) ∧ ∀ bb, (bb < x ∨ (x + 36 ≤ bb ∧ bb < x + 47)) → S1 bb = S bb) 0 0 := by
  obtain ⟨tz, tx, P, rs, rows, hist⟩ := A
  obtain ⟨g1, g2, g3, g4, g5⟩ : tz ≤ 200 ∧ (∀ i : Nat, i < tz → 32 ≤ tx i ∧ tx i ≤ 126) ∧ goodP P ∧ goodR P.1.toNat P.2.1 P.2.2.1 rs rows ∧ goodH P.1.toNat P.2.1 P.2.2.1 hist := hg
  obtain ⟨tr, lv, cs, ca, kp, h0, hT, hP, hJ, hL, hR, hG, hAh, hW, htr, ⟨hta1, hta2, hta3⟩, hlv, hQ, hH⟩ : CI g S n x tz tx P J rs rows hist := hA
  obtain ⟨ta, nb, t0, t1, t2, t3⟩ := id hT
  obtain ⟨p0, p1, p2, p3⟩ := id hP
  obtain ⟨j1, j2, j3, j4, j5, j6, e0, e1, e2, e3⟩ := id hJ
  obtain ⟨l0, rf, l1⟩ := id hL
  obtain ⟨r0, r1, r2⟩ := id hR
  obtain ⟨w0, w1⟩ := id hW
  obtain ⟨k1, k2, k3, k4, k5, k6, k7, kf, ke, tr0, tr1, tr2⟩ := id htr
  obtain ⟨m1, m2, m3, m4, m5, m6, m7, m8⟩ := id g3
  have g41 := g4.1
  have g51 := g5.1
  obtain ⟨q, qF, qG, qR, hla, hqc, hqs, hqa, hqt⟩ := CI_last hR hG hta1 hQ
  obtain ⟨q0, ⟨qf, q1, q1'⟩, ⟨ed, q2, q2'⟩⟩ := id hqc
  have hdr := hd_r g4 m6 (Nat.le_refl rows.length)
  have htl := tpL_r g4
  have htn := tpS_len g4
  have hte := tpS_e g4
  have hrV : ∀ i : Nat, (i : Int) < P.1 → 0 ≤ lv i ∧ lv i ≤ 1000000 := fun i hi => by rw [hlv i hi]; have := goodR_rs g4 (i := i) (by omega); omega
  have hrP : ∀ i : Nat, (i : Int) < P.1 → (20 ≤ P.2.1 i ∧ P.2.1 i ≤ 60) ∧ (10 ≤ P.2.2.1 i ∧ P.2.2.1 i ≤ 60) := fun i hi => ⟨(m2 i hi).1, (m2 i hi).2.1⟩
  by_cases c1 : (20 ≤ y ∧ y ≤ 60) ∧ (0 ≤ w ∧ w ≤ 1)
  · rcases opt_cases (layA P rs rows y) with e | ⟨sl, e⟩
    · refine (((c_K_tried_no l g h0 p0 p1 p2 l0 l1 r0 r1 r2 tr0 tr1 tr2 q0 q2 m1 hrP hrV (by omega) (by omega) (by omega) (by omega) (by omega) (by omega) hla (by omega) (by omega) q2' hte hta1 hqa hqt c1 (by rcases layR_none e with h9 | h9; exact Or.inl (fun q9 => h9 ⟨by omega, by omega, q9.2.2⟩); exact Or.inr (by rw [hqs, layC_congr (fun i hi => hlv i (by omega))]; exact h9)))).wide (Nat.le_of_ble_eq_true rfl) (Nat.le_of_ble_eq_true rfl) (Nat.le_of_ble_eq_true rfl) (Nat.le_of_ble_eq_true rfl)).mono (fun v n1 S1 h => ?_)
      obtain ⟨rfl, rfl, a1, ⟨a2, a3⟩, fr⟩ := h
      rw [show sTried (tz, tx, P, rs, rows, hist) y w = -2 by unfold sTried; rw [if_pos c1]; show (match layA P rs rows y with | none => (-2 : Int) | some sl => _) = -2; rw [e]]
      have eC : ∀ q : Nat, okC x n tr q → okC x n tr q ∧ S1 q = S q ∧ S1 (q + 1) = S (q + 1) ∧ S1 (q + 2) = S (q + 2) := fun q hq => by
        have hq' := hq
        unfold okC at hq'
        exact ⟨by unfold okC; omega, (fr _ (by omega) (by omega) (by omega) (by omega)), (fr _ (by omega) (by omega) (by omega) (by omega)), (fr _ (by omega) (by omega) (by omega) (by omega))⟩
      have eD : ∀ a : Nat, okD x n tr a → okD x n tr a ∧ S1 a = S a := fun a ha => by
        have ha' := ha
        unfold okD at ha'
        exact ⟨by unfold okD; omega, (fr _ (by omega) (by omega) (by omega) (by omega))⟩
      exact ⟨rfl, Nat.le_refl _, ⟨J, ⟨tr, lv, cs, ca, kp, ((fr _ (by omega) (by omega) (by omega) (by omega)).trans h0), (hT.kept (fun bb a b => fr bb (by omega) (by omega) (by omega) (by omega))), (hP.kept (fun bb a b => fr bb (by omega) (by omega) (by omega) (by omega))), (hJ.kept (fun bb a b => fr bb (by omega) (by omega) (by omega) (by omega))), ⟨(fr _ (by omega) (by omega) (by omega) (by omega)).trans l0, a2, a3⟩, (hR.kept (fun bb a b => fr bb (by omega) (by omega) (by omega) (by omega))), (hG.kept (fr _ (by omega) (by omega) (by omega) (by omega)) (fr _ (by omega) (by omega) (by omega) (by omega)) (fr _ (by omega) (by omega) (by omega) (by omega))), (hAh.kept (fun bb a b => fr bb (by omega) (by omega) (by omega) (by omega))), (hW.kept (fun bb a b => fr bb (by omega) (by omega) (by omega) (by omega))), a1, ⟨hta1, hta2, hta3⟩, hlv, (hQ.kept eC), (hH.kept eC eD)⟩⟩, (fun bb hbb => fr bb (by omega) (by omega) (by omega) (by omega))⟩
    · have h9 := layR_some e
      refine (((c_K_tried_yes l g h0 p0 p1 p2 l0 l1 r0 r1 r2 tr0 tr1 tr2 q0 q2 m1 hrP hrV (by omega) (by omega) (by omega) (by omega) (by omega) (by omega) hla (by omega) (by omega) q2' hte hta1 hqa hqt c1 ⟨by omega, by omega, h9.1.2.2⟩ (by rw [hqs, layC_congr (fun i hi => hlv i (by omega))]; exact h9.2))).wide (Nat.le_of_ble_eq_true rfl) (Nat.le_of_ble_eq_true rfl) (Nat.le_of_ble_eq_true rfl) (Nat.le_of_ble_eq_true rfl)).mono (fun v n1 S1 h => ?_)
      obtain ⟨r9, f9, d9, rfl, rfl, a1, a2, a3, a4, a5, a6, fr⟩ := h
      rw [show sTried (tz, tx, P, rs, rows, hist) y w = (if w = 0 then (sl.length : Int) else wst P.2.2.1 y sl) by unfold sTried; rw [if_pos c1]; show (match layA P rs rows y with | none => (-2 : Int) | some sl => (if w = 0 then (sl.length : Int) else wst P.2.2.1 y sl)) = _; rw [e]]
      have eC : ∀ q : Nat, okC x n tr q → okC x n tr q ∧ S1 q = S q ∧ S1 (q + 1) = S (q + 1) ∧ S1 (q + 2) = S (q + 2) := fun q hq => by
        have hq' := hq
        unfold okC at hq'
        exact ⟨by unfold okC; omega, (fr _ (by omega) (by omega) (by omega) (by omega)), (fr _ (by omega) (by omega) (by omega) (by omega)), (fr _ (by omega) (by omega) (by omega) (by omega))⟩
      have eD : ∀ a : Nat, okD x n tr a → okD x n tr a ∧ S1 a = S a := fun a ha => by
        have ha' := ha
        unfold okD at ha'
        exact ⟨by unfold okD; omega, (fr _ (by omega) (by omega) (by omega) (by omega))⟩
      exact ⟨rfl, Nat.le_refl _, ⟨J, ⟨tr, lv, cs, ca, kp, ((fr _ (by omega) (by omega) (by omega) (by omega)).trans h0), (hT.kept (fun bb a b => fr bb (by omega) (by omega) (by omega) (by omega))), (hP.kept (fun bb a b => fr bb (by omega) (by omega) (by omega) (by omega))), (hJ.kept (fun bb a b => fr bb (by omega) (by omega) (by omega) (by omega))), ⟨(fr _ (by omega) (by omega) (by omega) (by omega)).trans l0, r9, a1⟩, (hR.kept (fun bb a b => fr bb (by omega) (by omega) (by omega) (by omega))), (hG.kept (fr _ (by omega) (by omega) (by omega) (by omega)) (fr _ (by omega) (by omega) (by omega) (by omega)) (fr _ (by omega) (by omega) (by omega) (by omega))), (hAh.kept (fun bb a b => fr bb (by omega) (by omega) (by omega) (by omega))), (hW.kept (fun bb a b => fr bb (by omega) (by omega) (by omega) (by omega))), ⟨_, _, _, _, _, _, _, _, _, a2, a3, a4⟩, ⟨hta1, hta2, hta3⟩, hlv, (hQ.kept eC), (hH.kept eC eD)⟩⟩, (fun bb hbb => fr bb (by omega) (by omega) (by omega) (by omega))⟩
  · refine (((c_K_tried_bad l g h0 ry rw0 c1)).wide (Nat.le_of_ble_eq_true rfl) (Nat.le_of_ble_eq_true rfl) (Nat.le_of_ble_eq_true rfl) (Nat.le_of_ble_eq_true rfl)).mono (fun v n1 S1 h => ?_)
    obtain ⟨rfl, rfl, rfl⟩ := h
    rw [show sTried (tz, tx, P, rs, rows, hist) y w = -1 by unfold sTried; exact if_neg c1]
    exact ⟨rfl, Nat.le_refl _, ⟨J, tr, lv, cs, ca, kp, h0, hT, hP, hJ, hL, hR, hG, hAh, hW, htr, ⟨hta1, hta2, hta3⟩, hlv, hQ, hH⟩, fun _ _ => rfl⟩

set_option maxHeartbeats 4000000 in
set_option maxRecDepth 100000 in
theorem w_K_next (l : Launch) (g : gG) {n : Nat} {S : Nat → gE} {x : Nat} {A : aT} {J : jT} {y : Int} (hA : CA g S n x A J) (hg : goodA A) (ry : -2147483648 ≤ y ∧ y < 2147483648) : g_Cs l yX8_next wsX8_next { frames := 6, cells := 0, slots := 0, locals := 143 } g [.ref x, .int (iI y)] n S (fun vr n1 S1 => vr = some (.int (iI (sNext A y))) ∧ n ≤ n1 ∧ (∃ J1 : jT, CA g S1 n1 x A J1) ∧ ∀ bb, (bb < x ∨ (x + 36 ≤ bb ∧ bb < x + 47)) → S1 bb = S bb) 0 0 := by
  obtain ⟨tz, tx, P, rs, rows, hist⟩ := A
  obtain ⟨g1, g2, g3, g4, g5⟩ : tz ≤ 200 ∧ (∀ i : Nat, i < tz → 32 ≤ tx i ∧ tx i ≤ 126) ∧ goodP P ∧ goodR P.1.toNat P.2.1 P.2.2.1 rs rows ∧ goodH P.1.toNat P.2.1 P.2.2.1 hist := hg
  obtain ⟨tr, lv, cs, ca, kp, h0, hT, hP, hJ, hL, hR, hG, hAh, hW, htr, ⟨hta1, hta2, hta3⟩, hlv, hQ, hH⟩ : CI g S n x tz tx P J rs rows hist := hA
  obtain ⟨ta, nb, t0, t1, t2, t3⟩ := id hT
  obtain ⟨p0, p1, p2, p3⟩ := id hP
  obtain ⟨j1, j2, j3, j4, j5, j6, e0, e1, e2, e3⟩ := id hJ
  obtain ⟨l0, rf, l1⟩ := id hL
  obtain ⟨r0, r1, r2⟩ := id hR
  obtain ⟨w0, w1⟩ := id hW
  obtain ⟨k1, k2, k3, k4, k5, k6, k7, kf, ke, tr0, tr1, tr2⟩ := id htr
  obtain ⟨m1, m2, m3, m4, m5, m6, m7, m8⟩ := id g3
  have g41 := g4.1
  have g51 := g5.1
  obtain ⟨q, qF, qG, qR, hla, hqc, hqs, hqa, hqt⟩ := CI_last hR hG hta1 hQ
  obtain ⟨q0, ⟨qf, q1, q1'⟩, ⟨ed, q2, q2'⟩⟩ := id hqc
  have hdr := hd_r g4 m6 (Nat.le_refl rows.length)
  have htl := tpL_r g4
  have htn := tpS_len g4
  have hte := tpS_e g4
  have hrV : ∀ i : Nat, (i : Int) < P.1 → 0 ≤ lv i ∧ lv i ≤ 1000000 := fun i hi => by rw [hlv i hi]; have := goodR_rs g4 (i := i) (by omega); omega
  have hrP : ∀ i : Nat, (i : Int) < P.1 → (20 ≤ P.2.1 i ∧ P.2.1 i ≤ 60) ∧ (10 ≤ P.2.2.1 i ∧ P.2.2.1 i ≤ 60) := fun i hi => ⟨(m2 i hi).1, (m2 i hi).2.1⟩
  by_cases c1 : 0 ≤ y ∧ y ≤ 1
  · by_cases c2 : rows.length < 20 ∧ hdR P.2.2.2.2.2.2.1 rows rows.length < P.2.2.2.2.1
    · obtain ⟨hu, hul, hu2, hu5, hu8⟩ := id hAh
      obtain ⟨ua, ub, uc, hu0⟩ := hu
      obtain ⟨v1, v2, v3, v4, v5, v6, v7, vf, ve, u0, u1, u2⟩ := hu2
      refine (((c_K_next_ok l g h0 p0 p1 p2 l0 l1 r0 r1 r2 hu0 u0 u1 u2 q0 q2 m1 hrP hrV (by omega) (by omega) (by omega) (by omega) (by omega) (by omega) hla (by omega) (by omega) q2' hte hqa c1 ⟨by omega, by omega⟩)).wide (Nat.le_of_ble_eq_true rfl) (Nat.le_of_ble_eq_true rfl) (Nat.le_of_ble_eq_true rfl) (Nat.le_of_ble_eq_true rfl)).mono (fun v n1 S1 h => ?_)
      obtain ⟨rfl, rfl, a1, ⟨a2, a3⟩, fr⟩ := h
      rw [show sNext (tz, tx, P, rs, rows, hist) y = chL P.1.toNat P.2.1 P.2.2.1 P.2.2.2.2.2.2.1 P.2.2.2.2.2.1 P.2.2.2.2.2.2.2.2 P.2.2.2.2.2.2.2.1 y lv (tpL rows) (qF + qG) (tpS rows) by unfold sNext; rw [if_pos c1]; show nxA P y rs rows = _; unfold nxA nxR; rw [if_pos c2, hqs]; exact chL_congr (fun i hi => (hlv i (by omega)).symm)]
      have eC : ∀ q : Nat, okC x n tr q → okC x n tr q ∧ S1 q = S q ∧ S1 (q + 1) = S (q + 1) ∧ S1 (q + 2) = S (q + 2) := fun q hq => by
        have hq' := hq
        unfold okC at hq'
        exact ⟨by unfold okC; omega, (fr _ (by omega) (by omega) (by omega) (by omega)), (fr _ (by omega) (by omega) (by omega) (by omega)), (fr _ (by omega) (by omega) (by omega) (by omega))⟩
      have eD : ∀ a : Nat, okD x n tr a → okD x n tr a ∧ S1 a = S a := fun a ha => by
        have ha' := ha
        unfold okD at ha'
        exact ⟨by unfold okD; omega, (fr _ (by omega) (by omega) (by omega) (by omega))⟩
      exact ⟨rfl, Nat.le_refl _, ⟨J, ⟨tr, lv, cs, ca, kp, ((fr _ (by omega) (by omega) (by omega) (by omega)).trans h0), (hT.kept (fun bb a b => fr bb (by omega) (by omega) (by omega) (by omega))), (hP.kept (fun bb a b => fr bb (by omega) (by omega) (by omega) (by omega))), (hJ.kept (fun bb a b => fr bb (by omega) (by omega) (by omega) (by omega))), ⟨(fr _ (by omega) (by omega) (by omega) (by omega)).trans l0, a2, a3⟩, (hR.kept (fun bb a b => fr bb (by omega) (by omega) (by omega) (by omega))), (hG.kept (fr _ (by omega) (by omega) (by omega) (by omega)) (fr _ (by omega) (by omega) (by omega) (by omega)) (fr _ (by omega) (by omega) (by omega) (by omega))), ⟨⟨ua, ub, uc, (fr _ (by omega) (by omega) (by omega) (by omega)).trans hu0⟩, (by obtain ⟨f9, hf9⟩ := hul; exact ⟨f9, (fr _ (by omega) (by omega) (by omega) (by omega)).trans hf9⟩), a1, (hu5.kept (fr _ (by omega) (by omega) (by omega) (by omega)) (fr _ (by omega) (by omega) (by omega) (by omega)) (fr _ (by omega) (by omega) (by omega) (by omega))), (hu8.kept (fr _ (by omega) (by omega) (by omega) (by omega)) (fr _ (by omega) (by omega) (by omega) (by omega)) (fr _ (by omega) (by omega) (by omega) (by omega)))⟩, (hW.kept (fun bb a b => fr bb (by omega) (by omega) (by omega) (by omega))), (htr.kept (fr _ (by omega) (by omega) (by omega) (by omega)) (fr _ (by omega) (by omega) (by omega) (by omega)) (fr _ (by omega) (by omega) (by omega) (by omega))), ⟨hta1, hta2, hta3⟩, hlv, (hQ.kept eC), (hH.kept eC eD)⟩⟩, (fun bb hbb => fr bb (by omega) (by omega) (by omega) (by omega))⟩
    · refine (((c_K_next_shut l g h0 p0 r0 r2 q0 q2 (by omega) hla (by omega) (by omega) q2' hte (by omega) c1 (fun q9 => c2 ⟨by omega, by omega⟩))).wide (Nat.le_of_ble_eq_true rfl) (Nat.le_of_ble_eq_true rfl) (Nat.le_of_ble_eq_true rfl) (Nat.le_of_ble_eq_true rfl)).mono (fun v n1 S1 h => ?_)
      obtain ⟨rfl, rfl, rfl⟩ := h
      rw [show sNext (tz, tx, P, rs, rows, hist) y = -4 by unfold sNext; rw [if_pos c1]; show nxA P y rs rows = _; unfold nxA nxR; rw [if_neg c2]]
      exact ⟨rfl, Nat.le_refl _, ⟨J, tr, lv, cs, ca, kp, h0, hT, hP, hJ, hL, hR, hG, hAh, hW, htr, ⟨hta1, hta2, hta3⟩, hlv, hQ, hH⟩, fun _ _ => rfl⟩
  · refine (((c_K_next_bad l g h0 ry c1)).wide (Nat.le_of_ble_eq_true rfl) (Nat.le_of_ble_eq_true rfl) (Nat.le_of_ble_eq_true rfl) (Nat.le_of_ble_eq_true rfl)).mono (fun v n1 S1 h => ?_)
    obtain ⟨rfl, rfl, rfl⟩ := h
    rw [show sNext (tz, tx, P, rs, rows, hist) y = -1 by unfold sNext; exact if_neg c1]
    exact ⟨rfl, Nat.le_refl _, ⟨J, tr, lv, cs, ca, kp, h0, hT, hP, hJ, hL, hR, hG, hAh, hW, htr, ⟨hta1, hta2, hta3⟩, hlv, hQ, hH⟩, fun _ _ => rfl⟩

set_option maxHeartbeats 4000000 in
set_option maxRecDepth 100000 in
theorem w_K_itself (l : Launch) (g : gG) {n : Nat} {S : Nat → gE} {x : Nat} {A : aT} {J : jT} {y w : Int} (hA : CA g S n x A J) (hg : goodA A) (ry : -2147483648 ≤ y ∧ y < 2147483648) (rw0 : -2147483648 ≤ w ∧ w < 2147483648) : g_Cs l yX8_itself wsX8_itself { frames := 7, cells := 0, slots := 0, locals := 168 } g [.ref x, .int (iI y), .int (iI w)] n S (fun vr n1 S1 => vr = some (.int (iI (sItself A y w))) ∧ n ≤ n1 ∧ (∃ J1 : jT, CA g S1 n1 x A J1) ∧ ∀ bb, (bb < x ∨ (x + 36 ≤ bb ∧ bb < x + 47)) → S1 bb = S bb) 0 0 := by
  obtain ⟨tz, tx, P, rs, rows, hist⟩ := A
  obtain ⟨g1, g2, g3, g4, g5⟩ : tz ≤ 200 ∧ (∀ i : Nat, i < tz → 32 ≤ tx i ∧ tx i ≤ 126) ∧ goodP P ∧ goodR P.1.toNat P.2.1 P.2.2.1 rs rows ∧ goodH P.1.toNat P.2.1 P.2.2.1 hist := hg
  obtain ⟨tr, lv, cs, ca, kp, h0, hT, hP, hJ, hL, hR, hG, hAh, hW, htr, ⟨hta1, hta2, hta3⟩, hlv, hQ, hH⟩ : CI g S n x tz tx P J rs rows hist := hA
  obtain ⟨ta, nb, t0, t1, t2, t3⟩ := id hT
  obtain ⟨p0, p1, p2, p3⟩ := id hP
  obtain ⟨j1, j2, j3, j4, j5, j6, e0, e1, e2, e3⟩ := id hJ
  obtain ⟨l0, rf, l1⟩ := id hL
  obtain ⟨r0, r1, r2⟩ := id hR
  obtain ⟨w0, w1⟩ := id hW
  obtain ⟨k1, k2, k3, k4, k5, k6, k7, kf, ke, tr0, tr1, tr2⟩ := id htr
  obtain ⟨m1, m2, m3, m4, m5, m6, m7, m8⟩ := id g3
  have g41 := g4.1
  have g51 := g5.1
  obtain ⟨q, qF, qG, qR, hla, hqc, hqs, hqa, hqt⟩ := CI_last hR hG hta1 hQ
  obtain ⟨q0, ⟨qf, q1, q1'⟩, ⟨ed, q2, q2'⟩⟩ := id hqc
  have hdr := hd_r g4 m6 (Nat.le_refl rows.length)
  have htl := tpL_r g4
  have htn := tpS_len g4
  have hte := tpS_e g4
  have hrV : ∀ i : Nat, (i : Int) < P.1 → 0 ≤ lv i ∧ lv i ≤ 1000000 := fun i hi => by rw [hlv i hi]; have := goodR_rs g4 (i := i) (by omega); omega
  have hrP : ∀ i : Nat, (i : Int) < P.1 → (20 ≤ P.2.1 i ∧ P.2.1 i ≤ 60) ∧ (10 ≤ P.2.2.1 i ∧ P.2.2.1 i ≤ 60) := fun i hi => ⟨(m2 i hi).1, (m2 i hi).2.1⟩
  by_cases c1 : (0 ≤ y ∧ y ≤ 1) ∧ (0 ≤ w ∧ w ≤ 2)
  · obtain ⟨hu, hul, hu2, hu5, hu8⟩ := id hAh
    obtain ⟨ua, ub, uc, hu0⟩ := hu
    obtain ⟨uf, hu1⟩ := hul
    refine (((c_K_itself_ok l g h0 p0 p1 p2 l0 r0 r1 r2 hu0 hu1 m1 hrP hrV (by omega) (by omega) (by omega) (by omega) (by omega) (by omega) hla (by omega) (by omega) hte hqc hu2 hu5 hu8 ⟨rf, l1⟩ hqa c1)).wide (Nat.le_of_ble_eq_true rfl) (Nat.le_of_ble_eq_true rfl) (Nat.le_of_ble_eq_true rfl) (Nat.le_of_ble_eq_true rfl)).mono (fun v n1 S1 h => ?_)
    obtain ⟨rfl, rfl, a0, a1, a2, a3, ⟨a4, a5⟩, a6, fr⟩ := h
    rw [show sItself (tz, tx, P, rs, rows, hist) y w = aIts P.2.2.2.2.1 (goG P.1.toNat P.2.1 P.2.2.1 P.2.2.2.2.1 P.2.2.2.2.2.2.1 P.2.2.2.2.2.1 P.2.2.2.2.2.2.2.2 P.2.2.2.2.2.2.2.1 y (20 - (rows.length : Int)).toNat lv (tpL rows) (qF + qG) (tpS rows)) w by unfold sItself; rw [if_pos c1]; show aIts P.2.2.2.2.1 (goA P y rs rows) w = _; unfold goA goR; rw [hqs, show (20 - (rows.length : Int)).toNat = 20 - rows.length by omega, goG_congr _ lv rs _ _ _ (fun i hi => hlv i (by omega))]]
    have eC : ∀ q : Nat, okC x n tr q → okC x n tr q ∧ S1 q = S q ∧ S1 (q + 1) = S (q + 1) ∧ S1 (q + 2) = S (q + 2) := fun q hq => by
      have hq' := hq
      unfold okC at hq'
      exact ⟨by unfold okC; omega, (fr _ (by omega) (by omega) (by omega) (by omega) (by omega) (by omega) (by omega) (by omega) (by omega) (by omega) (by omega) (by omega)), (fr _ (by omega) (by omega) (by omega) (by omega) (by omega) (by omega) (by omega) (by omega) (by omega) (by omega) (by omega) (by omega)), (fr _ (by omega) (by omega) (by omega) (by omega) (by omega) (by omega) (by omega) (by omega) (by omega) (by omega) (by omega) (by omega))⟩
    have eD : ∀ a : Nat, okD x n tr a → okD x n tr a ∧ S1 a = S a := fun a ha => by
      have ha' := ha
      unfold okD at ha'
      exact ⟨by unfold okD; omega, (fr _ (by omega) (by omega) (by omega) (by omega) (by omega) (by omega) (by omega) (by omega) (by omega) (by omega) (by omega) (by omega))⟩
    exact ⟨rfl, Nat.le_refl _, ⟨J, ⟨tr, lv, cs, ca, kp, ((fr _ (by omega) (by omega) (by omega) (by omega) (by omega) (by omega) (by omega) (by omega) (by omega) (by omega) (by omega) (by omega)).trans h0), (hT.kept (fun bb a b => fr bb (by omega) (by omega) (by omega) (by omega) (by omega) (by omega) (by omega) (by omega) (by omega) (by omega) (by omega) (by omega))), (hP.kept (fun bb a b => fr bb (by omega) (by omega) (by omega) (by omega) (by omega) (by omega) (by omega) (by omega) (by omega) (by omega) (by omega) (by omega))), (hJ.kept (fun bb a b => fr bb (by omega) (by omega) (by omega) (by omega) (by omega) (by omega) (by omega) (by omega) (by omega) (by omega) (by omega) (by omega))), ⟨(fr _ (by omega) (by omega) (by omega) (by omega) (by omega) (by omega) (by omega) (by omega) (by omega) (by omega) (by omega) (by omega)).trans l0, a4, a5⟩, (hR.kept (fun bb a b => fr bb (by omega) (by omega) (by omega) (by omega) (by omega) (by omega) (by omega) (by omega) (by omega) (by omega) (by omega) (by omega))), (hG.kept (fr _ (by omega) (by omega) (by omega) (by omega) (by omega) (by omega) (by omega) (by omega) (by omega) (by omega) (by omega) (by omega)) (fr _ (by omega) (by omega) (by omega) (by omega) (by omega) (by omega) (by omega) (by omega) (by omega) (by omega) (by omega) (by omega)) (fr _ (by omega) (by omega) (by omega) (by omega) (by omega) (by omega) (by omega) (by omega) (by omega) (by omega) (by omega) (by omega))), ⟨a0, a6, a1, a2, a3⟩, (hW.kept (fun bb a b => fr bb (by omega) (by omega) (by omega) (by omega) (by omega) (by omega) (by omega) (by omega) (by omega) (by omega) (by omega) (by omega))), (htr.kept (fr _ (by omega) (by omega) (by omega) (by omega) (by omega) (by omega) (by omega) (by omega) (by omega) (by omega) (by omega) (by omega)) (fr _ (by omega) (by omega) (by omega) (by omega) (by omega) (by omega) (by omega) (by omega) (by omega) (by omega) (by omega) (by omega)) (fr _ (by omega) (by omega) (by omega) (by omega) (by omega) (by omega) (by omega) (by omega) (by omega) (by omega) (by omega) (by omega))), ⟨hta1, hta2, hta3⟩, hlv, (hQ.kept eC), (hH.kept eC eD)⟩⟩, (fun bb hbb => fr bb (by omega) (by omega) (by omega) (by omega) (by omega) (by omega) (by omega) (by omega) (by omega) (by omega) (by omega) (by omega))⟩
  · refine (((c_K_itself_bad l g h0 ry rw0 c1)).wide (Nat.le_of_ble_eq_true rfl) (Nat.le_of_ble_eq_true rfl) (Nat.le_of_ble_eq_true rfl) (Nat.le_of_ble_eq_true rfl)).mono (fun v n1 S1 h => ?_)
    obtain ⟨rfl, rfl, rfl⟩ := h
    rw [show sItself (tz, tx, P, rs, rows, hist) y w = -1 by unfold sItself; exact if_neg c1]
    exact ⟨rfl, Nat.le_refl _, ⟨J, tr, lv, cs, ca, kp, h0, hT, hP, hJ, hL, hR, hG, hAh, hW, htr, ⟨hta1, hta2, hta3⟩, hlv, hQ, hH⟩, fun _ _ => rfl⟩

