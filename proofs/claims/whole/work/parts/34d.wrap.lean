set_option maxHeartbeats 4000000 in
set_option maxRecDepth 100000 in
theorem w_K_course (l : Launch) (g : gG) {n : Nat} {S : Nat → gE} {x : Nat} {A : aT} {J : jT} {y : Int} (hA : CA g S n x A J) (hg : goodA A) (ry : -2147483648 ≤ y ∧ y < 2147483648) : g_Cs l yX8_course wsX8_course { frames := 6, cells := 4, slots := 133, locals := 136 } g [.ref x, .int (iI y)] n S (fun vr n1 S1 => vr = some (.int (iI (sCourse A y).1)) ∧ n ≤ n1 ∧ (∃ J1 : jT, CA g S1 n1 x (sCourse A y).2 J1) ∧ ∀ bb, (bb < x ∨ (x + 36 ≤ bb ∧ bb < x + 47)) → S1 bb = S bb) 4 133 := by
  obtain ⟨tz, tx, P, rs, rows, hist⟩ := A
  obtain ⟨g1, g2, g3, g4, g5⟩ : tz ≤ 200 ∧ (∀ i : Nat, i < tz → 32 ≤ tx i ∧ tx i ≤ 126) ∧ goodP P ∧ goodR P.1.toNat P.2.1 P.2.2.1 rs rows ∧ goodH P.1.toNat P.2.1 P.2.2.1 hist := hg
  obtain ⟨tr, lv, cs, ca, kp, h0, hT, hP, hJ, hL, hR, hG, hAh, hW, htr, ⟨hta1, hta2, hta3⟩, hlv, hQ, hH⟩ : CI g S n x tz tx P J rs rows hist := hA
  obtain ⟨ta, nb, t0, t1, t2, t3⟩ := id hT
  obtain ⟨p0, p1, p2, p3⟩ := id hP
  obtain ⟨j1, j2, j3, j4, j5, j6, e0, e1, e2, e3⟩ := id hJ
  obtain ⟨l0, rf, l1⟩ := id hL
  obtain ⟨r0, r1, r2⟩ := id hR
  obtain ⟨w0, w1⟩ := id hW
  obtain ⟨k1, k2, k3, k4, k5, k6, k7, kf, ke, tr0, tr1, tr2⟩ := id htr
  obtain ⟨m1, m2, m3, m4, m5, m6, m7, m8⟩ := id g3
  have g41 := g4.1
  have g51 := g5.1
  obtain ⟨q, qF, qG, qR, hla, hqc, hqs, hqa, hqt⟩ := CI_last hR hG hta1 hQ
  obtain ⟨q0, ⟨qf, q1, q1'⟩, ⟨ed, q2, q2'⟩⟩ := id hqc
  have hdr := hd_r g4 m6 (Nat.le_refl rows.length)
  have htl := tpL_r g4
  have htn := tpS_len g4
  have hte := tpS_e g4
  have hrV : ∀ i : Nat, (i : Int) < P.1 → 0 ≤ lv i ∧ lv i ≤ 1000000 := fun i hi => by rw [hlv i hi]; have := goodR_rs g4 (i := i) (by omega); omega
  have hrP : ∀ i : Nat, (i : Int) < P.1 → (20 ≤ P.2.1 i ∧ P.2.1 i ≤ 60) ∧ (10 ≤ P.2.2.1 i ∧ P.2.2.1 i ≤ 60) := fun i hi => ⟨(m2 i hi).1, (m2 i hi).2.1⟩
  by_cases c1 : 20 ≤ y ∧ y ≤ 60
  · rcases opt_cases (layA P rs rows y) with e | ⟨sl, e⟩
    · refine (((c_K_course_no l g h0 p0 p1 p2 l0 l1 r0 r1 r2 tr0 tr1 tr2 q0 q2 m1 hrP hrV (by omega) (by omega) (by omega) (by omega) (by omega) (by omega) hla (by omega) (by omega) q2' hte hta1 hqa hqt c1 (by rcases layR_none e with h9 | h9; exact Or.inl (fun q9 => h9 ⟨by omega, by omega, q9.2.2⟩); exact Or.inr (by rw [hqs, layC_congr (fun i hi => hlv i (by omega))]; exact h9)))).wide (Nat.le_of_ble_eq_true rfl) (Nat.le_of_ble_eq_true rfl) (Nat.le_of_ble_eq_true rfl) (Nat.le_of_ble_eq_true rfl)).mono (fun v n1 S1 h => ?_)
      obtain ⟨rfl, rfl, a1, ⟨a2, a3⟩, fr⟩ := h
      rw [sCourse_none (A := (tz, tx, P, rs, rows, hist)) c1 e]
      have eC : ∀ q : Nat, okC x n tr q → okC x n tr q ∧ S1 q = S q ∧ S1 (q + 1) = S (q + 1) ∧ S1 (q + 2) = S (q + 2) := fun q hq => by
        have hq' := hq
        unfold okC at hq'
        exact ⟨by unfold okC; omega, (fr _ (by omega) (by omega) (by omega) (by omega)), (fr _ (by omega) (by omega) (by omega) (by omega)), (fr _ (by omega) (by omega) (by omega) (by omega))⟩
      have eD : ∀ a : Nat, okD x n tr a → okD x n tr a ∧ S1 a = S a := fun a ha => by
        have ha' := ha
        unfold okD at ha'
        exact ⟨by unfold okD; omega, (fr _ (by omega) (by omega) (by omega) (by omega))⟩
      exact ⟨rfl, Nat.le_refl _, ⟨J, ⟨tr, lv, cs, ca, kp, ((fr _ (by omega) (by omega) (by omega) (by omega)).trans h0), (hT.kept (fun bb a b => fr bb (by omega) (by omega) (by omega) (by omega))), (hP.kept (fun bb a b => fr bb (by omega) (by omega) (by omega) (by omega))), (hJ.kept (fun bb a b => fr bb (by omega) (by omega) (by omega) (by omega))), ⟨(fr _ (by omega) (by omega) (by omega) (by omega)).trans l0, a2, a3⟩, (hR.kept (fun bb a b => fr bb (by omega) (by omega) (by omega) (by omega))), (hG.kept (fr _ (by omega) (by omega) (by omega) (by omega)) (fr _ (by omega) (by omega) (by omega) (by omega)) (fr _ (by omega) (by omega) (by omega) (by omega))), (hAh.kept (fun bb a b => fr bb (by omega) (by omega) (by omega) (by omega))), (hW.kept (fun bb a b => fr bb (by omega) (by omega) (by omega) (by omega))), a1, ⟨hta1, hta2, hta3⟩, hlv, (hQ.kept eC), (hH.kept eC eD)⟩⟩, (fun bb hbb => fr bb (by omega) (by omega) (by omega) (by omega))⟩
    · have h9 := layR_some e
      refine (((c_K_course_yes l g h0 p0 p1 p2 l0 l1 r0 r1 r2 tr0 tr1 tr2 q0 q2 w0 w1 m1 hrP hrV (by omega) (by omega) (by omega) (by omega) (by omega) (by omega) hla (by omega) (by omega) q2' hte hta1 hqa hqt c1 ⟨by omega, by omega, h9.1.2.2⟩ (by rw [hqs, layC_congr (fun i hi => hlv i (by omega))]; exact h9.2) (by omega) (fun j hj => by obtain ⟨a9, g9, d9, c9⟩ := hH j (by rw [hlen_sn]; omega); unfold okD at d9; rcases c9 with ⟨co9, hn9, sn9, y9, sl9, z9, -⟩ | ⟨q9, hn9, sn9, y9, sl9, z9, -⟩ | ⟨cu9, h9, sn9, z9, -⟩ <;> exact ⟨a9, _, g9, z9, by omega, by omega⟩) ⟨hta3, hta2⟩)).wide (Nat.le_of_ble_eq_true rfl) (Nat.le_of_ble_eq_true rfl) (Nat.le_of_ble_eq_true rfl) (Nat.le_of_ble_eq_true rfl)).mono (fun v n1 S1 h => ?_)
      obtain ⟨r9, f9, d9, lv9, rfl, rfl, a0, a1, a2, a3, a4, b1, b2, b3, c2, c3, c4, c5, b4, b5, a5, a6, a7, fr⟩ := h
      rw [sCourse_some (A := (tz, tx, P, rs, rows, hist)) c1 e]
      have eC : ∀ q : Nat, okC x n tr q → okC x (n + 4) n q ∧ S1 q = S q ∧ S1 (q + 1) = S (q + 1) ∧ S1 (q + 2) = S (q + 2) := fun q hq => by
        have hq' := hq
        unfold okC at hq'
        exact ⟨by unfold okC; omega, (fr _ (by omega) (by omega) (by omega) (by omega) (by omega) (by omega) (by omega) (by omega) (by omega) (by omega) (by omega) (by omega) (by omega) (by omega)), (fr _ (by omega) (by omega) (by omega) (by omega) (by omega) (by omega) (by omega) (by omega) (by omega) (by omega) (by omega) (by omega) (by omega) (by omega)), (fr _ (by omega) (by omega) (by omega) (by omega) (by omega) (by omega) (by omega) (by omega) (by omega) (by omega) (by omega) (by omega) (by omega) (by omega))⟩
      have eD : ∀ a : Nat, okD x n tr a → okD x (n + 4) n a ∧ S1 a = S a := fun a ha => by
        have ha' := ha
        unfold okD at ha'
        exact ⟨by unfold okD; omega, (fr _ (by omega) (by omega) (by omega) (by omega) (by omega) (by omega) (by omega) (by omega) (by omega) (by omega) (by omega) (by omega) (by omega) (by omega))⟩
      have hpl := pushH_len (y := (rs, rows)) g51
      have hQn : CQ g S1 x (n + 4) n P (rows ++ [(y, sl)]) (va_up cs (rows.length : Int).toNat (some tr)) (va_up ca rows.length tr) := by
        intro c hc
        rw [len_sn] at hc
        by_cases q9 : c < rows.length
        · obtain ⟨d1, d2, d3⟩ := hQ c q9
          obtain ⟨e1, e2, e3, e4⟩ := eC _ d2
          refine ⟨?_, ?_, ?_⟩
          · rw [va_up_ne _ _ (by omega), va_up_ne _ _ (by omega)]; exact d1
          · rw [va_up_ne _ _ (by omega)]; exact e1
          · rw [va_up_ne _ _ (by omega), rL_lt q9, rS_lt q9, hdR_lt (by omega)]; exact crs.kept d3 e2 e3 e4
        · have q8 : c = rows.length := by omega
          subst q8
          refine ⟨?_, ?_, ?_⟩
          · rw [Int.toNat_natCast, va_up_self, va_up_self]
          · rw [va_up_self]; unfold okC; omega
          · rw [va_up_self, rL_at, rS_at, hdR_lt (Nat.le_refl _), ← hqs]; exact ⟨a2, ⟨f9, a3, a5⟩, ⟨d9, a4, a6⟩⟩
      have hHn := CH_add (y := (((fun i => rs i + (-1) * cntH sl i), rows ++ [(y, sl)]) : sT)) (a := n + 3) (hH.kept eC eD) g51 (by unfold okD; omega) (Or.inl ⟨tr, 0, 0, y, sl, c5, rfl, fun i hi => rfl⟩)
      refine ⟨rfl, by omega, ⟨J, ⟨n, lv9, _, _, _, a0, (hT.kept (fun bb a b => fr bb (by omega) (by omega) (by omega) (by omega) (by omega) (by omega) (by omega) (by omega) (by omega) (by omega) (by omega) (by omega) (by omega) (by omega))), (hP.kept (fun bb a b => fr bb (by omega) (by omega) (by omega) (by omega) (by omega) (by omega) (by omega) (by omega) (by omega) (by omega) (by omega) (by omega) (by omega) (by omega))), (hJ.kept (fun bb a b => fr bb (by omega) (by omega) (by omega) (by omega) (by omega) (by omega) (by omega) (by omega) (by omega) (by omega) (by omega) (by omega) (by omega) (by omega))), ⟨(fr _ (by omega) (by omega) (by omega) (by omega) (by omega) (by omega) (by omega) (by omega) (by omega) (by omega) (by omega) (by omega) (by omega) (by omega)).trans l0, r9, a1⟩, ⟨?_, b2, b3⟩, (hG.kept (fr _ (by omega) (by omega) (by omega) (by omega) (by omega) (by omega) (by omega) (by omega) (by omega) (by omega) (by omega) (by omega) (by omega) (by omega)) (fr _ (by omega) (by omega) (by omega) (by omega) (by omega) (by omega) (by omega) (by omega) (by omega) (by omega) (by omega) (by omega) (by omega) (by omega)) (fr _ (by omega) (by omega) (by omega) (by omega) (by omega) (by omega) (by omega) (by omega) (by omega) (by omega) (by omega) (by omega) (by omega) (by omega))), (hAh.kept (fun bb a b => fr bb (by omega) (by omega) (by omega) (by omega) (by omega) (by omega) (by omega) (by omega) (by omega) (by omega) (by omega) (by omega) (by omega) (by omega))), ⟨?_, b5⟩, ⟨_, _, _, _, _, _, _, _, _, c2, c3, c4⟩, ⟨Or.inr hta3, by omega, by omega⟩, (fun i hi => by rw [a7]; show lv i + (-1) * cntH sl i = rs i + (-1) * cntH sl i; rw [hlv i hi]), hQn, hHn⟩⟩, (fun bb hbb => fr bb (by omega) (by omega) (by omega) (by omega) (by omega) (by omega) (by omega) (by omega) (by omega) (by omega) (by omega) (by omega) (by omega) (by omega))⟩
      · show S1 (x + 14) = _
        rw [len_sn, show ((rows.length + 1 : Nat) : Int) = (rows.length : Int) + 1 by omega]; exact b1
      · show S1 (x + 31) = _
        rw [hpl, show (((if hist.length = 6 then 6 else hist.length + 1 : Nat)) : Int) = (if (hist.length : Int) = 6 then 6 else (hist.length : Int) + 1) by split <;> split <;> omega]; exact b4
  · refine (((c_K_course_bad l g h0 ry c1)).wide (Nat.le_of_ble_eq_true rfl) (Nat.le_of_ble_eq_true rfl) (Nat.le_of_ble_eq_true rfl) (Nat.le_of_ble_eq_true rfl)).mono (fun v n1 S1 h => ?_)
    obtain ⟨rfl, rfl, rfl⟩ := h
    rw [sCourse_bad (A := (tz, tx, P, rs, rows, hist)) c1]
    exact ⟨rfl, Nat.le_refl _, ⟨J, tr, lv, cs, ca, kp, h0, hT, hP, hJ, hL, hR, hG, hAh, hW, htr, ⟨hta1, hta2, hta3⟩, hlv, hQ, hH⟩, fun _ _ => rfl⟩

set_option maxHeartbeats 4000000 in
set_option maxRecDepth 100000 in
theorem w_K_up (l : Launch) (g : gG) {n : Nat} {S : Nat → gE} {x : Nat} {A : aT} {J : jT} (hA : CA g S n x A J) (hg : goodA A)  : g_Cs l yX8_up wsX8_up { frames := 4, cells := 1, slots := 4, locals := 88 } g [.ref x] n S (fun vr n1 S1 => vr = some (.int (iI (sUp A).1)) ∧ n ≤ n1 ∧ (∃ J1 : jT, CA g S1 n1 x (sUp A).2 J1) ∧ ∀ bb, (bb < x ∨ (x + 36 ≤ bb ∧ bb < x + 47)) → S1 bb = S bb) 1 4 := by
  obtain ⟨tz, tx, P, rs, rows, hist⟩ := A
  obtain ⟨g1, g2, g3, g4, g5⟩ : tz ≤ 200 ∧ (∀ i : Nat, i < tz → 32 ≤ tx i ∧ tx i ≤ 126) ∧ goodP P ∧ goodR P.1.toNat P.2.1 P.2.2.1 rs rows ∧ goodH P.1.toNat P.2.1 P.2.2.1 hist := hg
  obtain ⟨tr, lv, cs, ca, kp, h0, hT, hP, hJ, hL, hR, hG, hAh, hW, htr, ⟨hta1, hta2, hta3⟩, hlv, hQ, hH⟩ : CI g S n x tz tx P J rs rows hist := hA
  obtain ⟨ta, nb, t0, t1, t2, t3⟩ := id hT
  obtain ⟨p0, p1, p2, p3⟩ := id hP
  obtain ⟨j1, j2, j3, j4, j5, j6, e0, e1, e2, e3⟩ := id hJ
  obtain ⟨l0, rf, l1⟩ := id hL
  obtain ⟨r0, r1, r2⟩ := id hR
  obtain ⟨w0, w1⟩ := id hW
  obtain ⟨k1, k2, k3, k4, k5, k6, k7, kf, ke, tr0, tr1, tr2⟩ := id htr
  obtain ⟨m1, m2, m3, m4, m5, m6, m7, m8⟩ := id g3
  have g41 := g4.1
  have g51 := g5.1
  by_cases c1 : rows.length = 0
  · refine (((c_K_up_no l g h0 r0 (by omega))).wide (Nat.le_of_ble_eq_true rfl) (Nat.le_of_ble_eq_true rfl) (Nat.le_of_ble_eq_true rfl) (Nat.le_of_ble_eq_true rfl)).mono (fun v n1 S1 h => ?_)
    obtain ⟨rfl, rfl, rfl⟩ := h
    rw [show sUp (tz, tx, P, rs, rows, hist) = (-2, (tz, tx, P, rs, rows, hist)) by unfold sUp; exact if_pos c1]
    exact ⟨rfl, Nat.le_refl _, ⟨J, tr, lv, cs, ca, kp, h0, hT, hP, hJ, hL, hR, hG, hAh, hW, htr, ⟨hta1, hta2, hta3⟩, hlv, hQ, hH⟩, fun _ _ => rfl⟩
  · obtain ⟨r, y0, s0, hr⟩ := rows_last (rows := rows) (by omega)
    subst hr
    obtain ⟨d1, d2, d3⟩ := hQ r.length (by rw [len_sn]; omega)
    rw [rL_at, rS_at, hdR_lt (Nat.le_refl _)] at d3
    obtain ⟨q0, ⟨qf, q1, q1'⟩, ⟨ed, q2, q2'⟩⟩ := id d3
    have hln9 := len_sn (rows := r) (y := (y0, s0))
    have hgd := g4.2.1 r.length (by omega)
    rw [rL_at, rS_at] at hgd
    have d2' := d2
    unfold okC at d2'
    refine (((c_K_up_yes l g (q := ca r.length) h0 r0 r1 r2 q0 q2 q1 w0 w1 (by omega) (by rw [show (((r ++ [(y0, s0)]).length : Int) - 1).toNat = r.length by omega]; exact d1) hgd.2.1.2 (fun k hk => by have h8 := q1' k hk; have h7 := slH_ok hgd.1 (i := k) hk; omega) (by omega) (fun j hj => by obtain ⟨a9, g9, d9, c9⟩ := hH j (by rw [hlen_sn]; omega); unfold okD at d9; rcases c9 with ⟨co9, hn9, sn9, y9, sl9, z9, -⟩ | ⟨q9, hn9, sn9, y9, sl9, z9, -⟩ | ⟨cu9, h9, sn9, z9, -⟩ <;> exact ⟨a9, _, g9, z9, by omega, by omega⟩) hta3 (by omega))).wide (Nat.le_of_ble_eq_true rfl) (Nat.le_of_ble_eq_true rfl) (Nat.le_of_ble_eq_true rfl) (Nat.le_of_ble_eq_true rfl)).mono (fun v n1 S1 h => ?_)
    obtain ⟨rfl, rfl, b1, b2, c5, b4, b5, fr⟩ := h
    rw [show sUp (tz, tx, P, rs, r ++ [(y0, s0)], hist) = ((r.length : Int), (tz, tx, P, (fun i => rs i + cntH s0 i), r, pushH hist (rs, r ++ [(y0, s0)]))) by unfold sUp; refine (if_neg c1).trans ?_; show ((((r ++ [(y0, s0)]).length - 1 : Nat) : Int), (tz, tx, P, (fun i => rs i + cntH (tpS (r ++ [(y0, s0)])) i), (r ++ [(y0, s0)]).dropLast, pushH hist (rs, r ++ [(y0, s0)]))) = _; rw [tpS_sn, List.dropLast_concat, hln9, Nat.add_sub_cancel]]
    have eC : ∀ q : Nat, okC x n tr q → okC x (n + 1) tr q ∧ S1 q = S q ∧ S1 (q + 1) = S (q + 1) ∧ S1 (q + 2) = S (q + 2) := fun q hq => by
      have hq' := hq
      unfold okC at hq'
      exact ⟨by unfold okC; omega, (fr _ (by omega) (by omega) (by omega) (by omega) (by omega)), (fr _ (by omega) (by omega) (by omega) (by omega) (by omega)), (fr _ (by omega) (by omega) (by omega) (by omega) (by omega))⟩
    have eD : ∀ a : Nat, okD x n tr a → okD x (n + 1) tr a ∧ S1 a = S a := fun a ha => by
      have ha' := ha
      unfold okD at ha'
      exact ⟨by unfold okD; omega, (fr _ (by omega) (by omega) (by omega) (by omega) (by omega))⟩
    have hpl := pushH_len (y := (rs, r ++ [(y0, s0)])) g51
    have hC9 := eC _ d2
    have hHn := CH_add (y := (((fun i => rs i + cntH s0 i), r) : sT)) (a := n) (hH.kept eC eD) g51 (by unfold okD; omega) (Or.inr (Or.inl ⟨ca r.length, 0, 0, y0, s0, c5, hC9.1, rfl, (fun i hi => by show rs i = rs i + cntH s0 i + (-1) * cntH s0 i; omega), crs.kept d3 hC9.2.1 hC9.2.2.1 hC9.2.2.2⟩))
    have hQn : CQ g S1 x (n + 1) tr P r cs ca := by
      intro c hc
      obtain ⟨e1, e2, e3⟩ := hQ c (by omega)
      obtain ⟨f1, f2, f3, f4⟩ := eC _ e2
      rw [rL_lt hc, rS_lt hc, hdR_lt (by omega)] at e3
      exact ⟨e1, f1, crs.kept e3 f2 f3 f4⟩
    refine ⟨by rw [show (((r ++ [(y0, s0)]).length : Int) - 1) = r.length by omega], by omega, ⟨J, ⟨tr, _, cs, ca, _, ((fr _ (by omega) (by omega) (by omega) (by omega) (by omega)).trans h0), (hT.kept (fun bb a b => fr bb (by omega) (by omega) (by omega) (by omega) (by omega))), (hP.kept (fun bb a b => fr bb (by omega) (by omega) (by omega) (by omega) (by omega))), (hJ.kept (fun bb a b => fr bb (by omega) (by omega) (by omega) (by omega) (by omega))), (hL.kept (fun bb a b => fr bb (by omega) (by omega) (by omega) (by omega) (by omega))), ⟨?_, b2, (fr _ (by omega) (by omega) (by omega) (by omega) (by omega)).trans r2⟩, (hG.kept (fr _ (by omega) (by omega) (by omega) (by omega) (by omega)) (fr _ (by omega) (by omega) (by omega) (by omega) (by omega)) (fr _ (by omega) (by omega) (by omega) (by omega) (by omega))), (hAh.kept (fun bb a b => fr bb (by omega) (by omega) (by omega) (by omega) (by omega))), ⟨?_, b5⟩, (htr.kept (fr _ (by omega) (by omega) (by omega) (by omega) (by omega)) (fr _ (by omega) (by omega) (by omega) (by omega) (by omega)) (fr _ (by omega) (by omega) (by omega) (by omega) (by omega))), ⟨hta1, by omega, by omega⟩, (fun i hi => by rw [show s0.length = s0.length from rfl, adS_cnt s0 q1']; show lv i + 1 * cntH s0 i = rs i + cntH s0 i; rw [hlv i hi, Int.one_mul]), hQn, hHn⟩⟩, (fun bb hbb => fr bb (by omega) (by omega) (by omega) (by omega) (by omega))⟩
    · show S1 (x + 14) = _
      rw [show ((r.length : Nat) : Int) = ((r ++ [(y0, s0)]).length : Int) - 1 by omega]; exact b1
    · show S1 (x + 31) = _
      rw [hpl, show (((if hist.length = 6 then 6 else hist.length + 1 : Nat)) : Int) = (if (hist.length : Int) = 6 then 6 else (hist.length : Int) + 1) by split <;> split <;> omega]; exact b4

set_option maxHeartbeats 4000000 in
set_option maxRecDepth 100000 in
theorem w_K_bring (l : Launch) (g : gG) {n : Nat} {S : Nat → gE} {x : Nat} {A : aT} {J : jT} {y w : Int} (hA : CA g S n x A J) (hg : goodA A) (ry : -2147483648 ≤ y ∧ y < 2147483648) (rw0 : -2147483648 ≤ w ∧ w < 2147483648) : g_Cs l yX8_bring wsX8_bring { frames := 2, cells := 1, slots := 4, locals := 44 } g [.ref x, .int (iI y), .int (iI w)] n S (fun vr n1 S1 => vr = some (.int (iI (sBring A y w).1)) ∧ n ≤ n1 ∧ (∃ J1 : jT, CA g S1 n1 x (sBring A y w).2 J1) ∧ ∀ bb, (bb < x ∨ (x + 36 ≤ bb ∧ bb < x + 47)) → S1 bb = S bb) 1 4 := by
  obtain ⟨tz, tx, P, rs, rows, hist⟩ := A
  obtain ⟨g1, g2, g3, g4, g5⟩ : tz ≤ 200 ∧ (∀ i : Nat, i < tz → 32 ≤ tx i ∧ tx i ≤ 126) ∧ goodP P ∧ goodR P.1.toNat P.2.1 P.2.2.1 rs rows ∧ goodH P.1.toNat P.2.1 P.2.2.1 hist := hg
  obtain ⟨tr, lv, cs, ca, kp, h0, hT, hP, hJ, hL, hR, hG, hAh, hW, htr, ⟨hta1, hta2, hta3⟩, hlv, hQ, hH⟩ : CI g S n x tz tx P J rs rows hist := hA
  obtain ⟨ta, nb, t0, t1, t2, t3⟩ := id hT
  obtain ⟨p0, p1, p2, p3⟩ := id hP
  obtain ⟨j1, j2, j3, j4, j5, j6, e0, e1, e2, e3⟩ := id hJ
  obtain ⟨l0, rf, l1⟩ := id hL
  obtain ⟨r0, r1, r2⟩ := id hR
  obtain ⟨w0, w1⟩ := id hW
  obtain ⟨k1, k2, k3, k4, k5, k6, k7, kf, ke, tr0, tr1, tr2⟩ := id htr
  obtain ⟨m1, m2, m3, m4, m5, m6, m7, m8⟩ := id g3
  have g41 := g4.1
  have g51 := g5.1
  have hrV : ∀ i : Nat, (i : Int) < P.1 → 0 ≤ lv i ∧ lv i ≤ 1000000 := fun i hi => by rw [hlv i hi]; have := goodR_rs g4 (i := i) (by omega); omega
  by_cases c1 : (0 ≤ y ∧ y < P.1) ∧ (1 ≤ w ∧ w ≤ 99)
  · have hly := hlv y.toNat (by omega)
    by_cases c2 : rs y.toNat + w ≤ 999
    · refine (((c_K_bring_ok l g h0 p0 r0 r1 w0 w1 m1 c1 hrV (by omega) (by omega) (fun j hj => by obtain ⟨a9, g9, d9, c9⟩ := hH j (by rw [hlen_sn]; omega); unfold okD at d9; rcases c9 with ⟨co9, hn9, sn9, y9, sl9, z9, -⟩ | ⟨q9, hn9, sn9, y9, sl9, z9, -⟩ | ⟨cu9, h9, sn9, z9, -⟩ <;> exact ⟨a9, _, g9, z9, by omega, by omega⟩) hta3)).wide (Nat.le_of_ble_eq_true rfl) (Nat.le_of_ble_eq_true rfl) (Nat.le_of_ble_eq_true rfl) (Nat.le_of_ble_eq_true rfl)).mono (fun v n1 S1 h => ?_)
      obtain ⟨rfl, rfl, b2, c5, b4, b5, fr⟩ := h
      rw [show sBring (tz, tx, P, rs, rows, hist) y w = (rs y.toNat + w, (tz, tx, P, va_up rs y.toNat (rs y.toNat + w), rows, pushH hist (rs, rows))) by unfold sBring; refine (if_pos c1).trans ?_; exact if_pos c2]
      have eC : ∀ q : Nat, okC x n tr q → okC x (n + 1) tr q ∧ S1 q = S q ∧ S1 (q + 1) = S (q + 1) ∧ S1 (q + 2) = S (q + 2) := fun q hq => by
        have hq' := hq
        unfold okC at hq'
        exact ⟨by unfold okC; omega, (fr _ (by omega) (by omega) (by omega) (by omega)), (fr _ (by omega) (by omega) (by omega) (by omega)), (fr _ (by omega) (by omega) (by omega) (by omega))⟩
      have eD : ∀ a : Nat, okD x n tr a → okD x (n + 1) tr a ∧ S1 a = S a := fun a ha => by
        have ha' := ha
        unfold okD at ha'
        exact ⟨by unfold okD; omega, (fr _ (by omega) (by omega) (by omega) (by omega))⟩
      have hpl := pushH_len (y := (rs, rows)) g51
      have hHn := CH_add (y := ((va_up rs y.toNat (rs y.toNat + w), rows) : sT)) (a := n) (hH.kept eC eD) g51 (by unfold okD; omega) (Or.inr (Or.inr ⟨x + 17, y.toNat, w, (by rw [show ((y.toNat : Nat) : Int) = y by omega]; exact c5), by omega, rfl, fun i hi => rfl⟩))
      refine ⟨by rw [hly], by omega, ⟨J, ⟨tr, _, cs, ca, _, ((fr _ (by omega) (by omega) (by omega) (by omega)).trans h0), (hT.kept (fun bb a b => fr bb (by omega) (by omega) (by omega) (by omega))), (hP.kept (fun bb a b => fr bb (by omega) (by omega) (by omega) (by omega))), (hJ.kept (fun bb a b => fr bb (by omega) (by omega) (by omega) (by omega))), (hL.kept (fun bb a b => fr bb (by omega) (by omega) (by omega) (by omega))), ⟨(fr _ (by omega) (by omega) (by omega) (by omega)).trans r0, b2, (fr _ (by omega) (by omega) (by omega) (by omega)).trans r2⟩, (hG.kept (fr _ (by omega) (by omega) (by omega) (by omega)) (fr _ (by omega) (by omega) (by omega) (by omega)) (fr _ (by omega) (by omega) (by omega) (by omega))), (hAh.kept (fun bb a b => fr bb (by omega) (by omega) (by omega) (by omega))), ⟨?_, b5⟩, (htr.kept (fr _ (by omega) (by omega) (by omega) (by omega)) (fr _ (by omega) (by omega) (by omega) (by omega)) (fr _ (by omega) (by omega) (by omega) (by omega))), ⟨hta1, by omega, by omega⟩, (fun i hi => by show va_up lv y.toNat (lv y.toNat + w) i = va_up rs y.toNat (rs y.toNat + w) i; unfold va_up; split; (rw [hly]); exact hlv i hi), (hQ.kept eC), hHn⟩⟩, (fun bb hbb => fr bb (by omega) (by omega) (by omega) (by omega))⟩
      show S1 (x + 31) = _
      rw [hpl, show (((if hist.length = 6 then 6 else hist.length + 1 : Nat)) : Int) = (if (hist.length : Int) = 6 then 6 else (hist.length : Int) + 1) by split <;> split <;> omega]; exact b4
    · refine (((c_K_bring_full l g h0 p0 r0 r1 m1 c1 hrV (by omega))).wide (Nat.le_of_ble_eq_true rfl) (Nat.le_of_ble_eq_true rfl) (Nat.le_of_ble_eq_true rfl) (Nat.le_of_ble_eq_true rfl)).mono (fun v n1 S1 h => ?_)
      obtain ⟨rfl, rfl, rfl⟩ := h
      rw [show sBring (tz, tx, P, rs, rows, hist) y w = (-3, (tz, tx, P, rs, rows, hist)) by unfold sBring; refine (if_pos c1).trans ?_; exact if_neg c2]
      exact ⟨rfl, Nat.le_refl _, ⟨J, tr, lv, cs, ca, kp, h0, hT, hP, hJ, hL, hR, hG, hAh, hW, htr, ⟨hta1, hta2, hta3⟩, hlv, hQ, hH⟩, fun _ _ => rfl⟩
  · refine (((c_K_bring_bad l g h0 p0 m1 ry rw0 c1)).wide (Nat.le_of_ble_eq_true rfl) (Nat.le_of_ble_eq_true rfl) (Nat.le_of_ble_eq_true rfl) (Nat.le_of_ble_eq_true rfl)).mono (fun v n1 S1 h => ?_)
    obtain ⟨rfl, rfl, rfl⟩ := h
    rw [show sBring (tz, tx, P, rs, rows, hist) y w = (-1, (tz, tx, P, rs, rows, hist)) by unfold sBring; exact if_neg c1]
    exact ⟨rfl, Nat.le_refl _, ⟨J, tr, lv, cs, ca, kp, h0, hT, hP, hJ, hL, hR, hG, hAh, hW, htr, ⟨hta1, hta2, hta3⟩, hlv, hQ, hH⟩, fun _ _ => rfl⟩

set_option maxHeartbeats 4000000 in
set_option maxRecDepth 100000 in
theorem w_K_undo (l : Launch) (g : gG) {n : Nat} {S : Nat → gE} {x : Nat} {A : aT} {J : jT} (hA : CA g S n x A J) (hg : goodA A)  : g_Cs l yX8_undo wsX8_undo { frames := 5, cells := 0, slots := 0, locals := 109 } g [.ref x] n S (fun vr n1 S1 => vr = some (.int (iI (sUndo A).1)) ∧ n ≤ n1 ∧ (∃ J1 : jT, CA g S1 n1 x (sUndo A).2 J1) ∧ ∀ bb, (bb < x ∨ (x + 36 ≤ bb ∧ bb < x + 47)) → S1 bb = S bb) 0 0 := by
  obtain ⟨tz, tx, P, rs, rows, hist⟩ := A
  obtain ⟨g1, g2, g3, g4, g5⟩ : tz ≤ 200 ∧ (∀ i : Nat, i < tz → 32 ≤ tx i ∧ tx i ≤ 126) ∧ goodP P ∧ goodR P.1.toNat P.2.1 P.2.2.1 rs rows ∧ goodH P.1.toNat P.2.1 P.2.2.1 hist := hg
  obtain ⟨tr, lv, cs, ca, kp, h0, hT, hP, hJ, hL, hR, hG, hAh, hW, htr, ⟨hta1, hta2, hta3⟩, hlv, hQ, hH⟩ : CI g S n x tz tx P J rs rows hist := hA
  obtain ⟨ta, nb, t0, t1, t2, t3⟩ := id hT
  obtain ⟨p0, p1, p2, p3⟩ := id hP
  obtain ⟨j1, j2, j3, j4, j5, j6, e0, e1, e2, e3⟩ := id hJ
  obtain ⟨l0, rf, l1⟩ := id hL
  obtain ⟨r0, r1, r2⟩ := id hR
  obtain ⟨w0, w1⟩ := id hW
  obtain ⟨k1, k2, k3, k4, k5, k6, k7, kf, ke, tr0, tr1, tr2⟩ := id htr
  obtain ⟨m1, m2, m3, m4, m5, m6, m7, m8⟩ := id g3
  have g41 := g4.1
  have g51 := g5.1
  by_cases c1 : hist.length = 0
  · refine (((c_K_undo_no l g h0 w0 (by omega))).wide (Nat.le_of_ble_eq_true rfl) (Nat.le_of_ble_eq_true rfl) (Nat.le_of_ble_eq_true rfl) (Nat.le_of_ble_eq_true rfl)).mono (fun v n1 S1 h => ?_)
    obtain ⟨rfl, rfl, rfl⟩ := h
    rw [show sUndo (tz, tx, P, rs, rows, hist) = (-2, (tz, tx, P, rs, rows, hist)) by unfold sUndo; exact if_pos c1]
    exact ⟨rfl, Nat.le_refl _, ⟨J, tr, lv, cs, ca, kp, h0, hT, hP, hJ, hL, hR, hG, hAh, hW, htr, ⟨hta1, hta2, hta3⟩, hlv, hQ, hH⟩, fun _ _ => rfl⟩
  · obtain ⟨hs, y0, s0, hr⟩ := hist_last (hist := hist) (by omega)
    subst hr
    have hln9 := hlen_sn (hist := hs) (y := (y0, s0))
    have hpop := goodH_pop g5
    obtain ⟨a9, d1, d2, d3⟩ := hH hs.length (by rw [hlen_sn]; omega)
    rw [hsR_lt (by omega), hsW_lt (by omega), hsR_at, hsW_at, show hs.length + 1 = (hs ++ [(y0, s0)]).length by omega, hsR_at, hsW_at] at d3
    have hHp := CH_pop hH
    unfold okD at d2
    have hkl : kp (((hs ++ [(y0, s0)]).length : Int) - 1).toNat = some a9 := by rw [show (((hs ++ [(y0, s0)]).length : Int) - 1).toNat = hs.length by omega]; exact d1
    have hst : sUndo (tz, tx, P, rs, rows, hs ++ [(y0, s0)]) = ((hs.length : Int), (tz, tx, P, y0, s0, hs)) := by
      unfold sUndo
      refine (if_neg c1).trans ?_
      show ((((hs ++ [(y0, s0)]).length - 1 : Nat) : Int), (tz, tx, P, hsR (hs ++ [(y0, s0)]) ((hs ++ [(y0, s0)]).length - 1), hsW (hs ++ [(y0, s0)]) ((hs ++ [(y0, s0)]).length - 1), (hs ++ [(y0, s0)]).dropLast)) = _
      rw [hln9, Nat.add_sub_cancel, hsR_at, hsW_at, List.dropLast_concat]
    have hv9 : (((hs ++ [(y0, s0)]).length : Int) - 1) = hs.length := by omega
    rcases d3 with ⟨co, hn, sn, y, sl, d3, d4, d5⟩ | ⟨q, hn, sn, y, sl, d3, d4, d5, d6, d7⟩ | ⟨cu, hh, sn, d3, d4, d5, d6⟩
    · have d4' : rows = s0 ++ [(y, sl)] := d4
      subst d4'
      obtain ⟨f1, f2, f3⟩ := hQ s0.length (by rw [len_sn]; omega)
      rw [rL_at, rS_at, hdR_lt (Nat.le_refl _)] at f3
      obtain ⟨q0, ⟨qf, q1, q1'⟩, ⟨ed, q2, q2'⟩⟩ := id f3
      have hlr9 := len_sn (rows := s0) (y := (y, sl))
      have hgd := g4.2.1 s0.length (by omega)
      rw [rL_at, rS_at] at hgd
      have f2' := f2
      unfold okC at f2'
      refine (((c_K_undo_0 l g (q := ca s0.length) h0 w0 w1 d3 r0 r1 r2 q0 q2 q1 (by omega) hkl (by omega) (by omega) (by rw [show (((s0 ++ [(y, sl)]).length : Int) - 1).toNat = s0.length by omega]; exact f1) hgd.2.1.2 (fun k hk => by have h8 := q1' k hk; have h7 := slH_ok hgd.1 (i := k) hk; omega) (by omega))).wide (Nat.le_of_ble_eq_true rfl) (Nat.le_of_ble_eq_true rfl) (Nat.le_of_ble_eq_true rfl) (Nat.le_of_ble_eq_true rfl)).mono (fun v n1 S1 h => ?_)
      obtain ⟨rfl, rfl, b1, b2, b4, fr⟩ := h
      rw [hst]
      have eC : ∀ q : Nat, okC x n tr q → okC x n tr q ∧ S1 q = S q ∧ S1 (q + 1) = S (q + 1) ∧ S1 (q + 2) = S (q + 2) := fun q hq => by
        have hq' := hq
        unfold okC at hq'
        exact ⟨by unfold okC; omega, (fr _ (by omega) (by omega) (by omega)), (fr _ (by omega) (by omega) (by omega)), (fr _ (by omega) (by omega) (by omega))⟩
      have eD : ∀ a : Nat, okD x n tr a → okD x n tr a ∧ S1 a = S a := fun a ha => by
        have ha' := ha
        unfold okD at ha'
        exact ⟨by unfold okD; omega, (fr _ (by omega) (by omega) (by omega))⟩
      have hQn : CQ g S1 x n tr P s0 cs ca := by
        intro c hc
        obtain ⟨e1, e2, e3⟩ := hQ c (by omega)
        obtain ⟨f1, f2, f3, f4⟩ := eC _ e2
        rw [rL_lt hc, rS_lt hc, hdR_lt (by omega)] at e3
        exact ⟨e1, f1, crs.kept e3 f2 f3 f4⟩
      exact ⟨by rw [hv9], Nat.le_refl _, ⟨J, ⟨tr, _, cs, ca, kp, ((fr _ (by omega) (by omega) (by omega)).trans h0), (hT.kept (fun bb a b => fr bb (by omega) (by omega) (by omega))), (hP.kept (fun bb a b => fr bb (by omega) (by omega) (by omega))), (hJ.kept (fun bb a b => fr bb (by omega) (by omega) (by omega))), (hL.kept (fun bb a b => fr bb (by omega) (by omega) (by omega))), ⟨(by show S1 (x + 14) = _; rw [show ((s0.length : Nat) : Int) = ((s0 ++ [(y, sl)]).length : Int) - 1 by omega]; exact b1), b2, (fr _ (by omega) (by omega) (by omega)).trans r2⟩, (hG.kept (fr _ (by omega) (by omega) (by omega)) (fr _ (by omega) (by omega) (by omega)) (fr _ (by omega) (by omega) (by omega))), (hAh.kept (fun bb a b => fr bb (by omega) (by omega) (by omega))), ⟨(by show S1 (x + 31) = _; rw [← hv9]; exact b4), (fr _ (by omega) (by omega) (by omega)).trans w1⟩, (htr.kept (fr _ (by omega) (by omega) (by omega)) (fr _ (by omega) (by omega) (by omega)) (fr _ (by omega) (by omega) (by omega))), ⟨hta1, hta2, hta3⟩, (fun i hi => by have d9 := d5 i hi; rw [adS_cnt sl q1']; show lv i + 1 * cntH sl i = y0 i; have d8 : rs i = y0 i + (-1) * cntH sl i := d9; rw [hlv i hi]; omega), hQn, (hHp.kept eC eD)⟩⟩, (fun bb hbb => fr bb (by omega) (by omega) (by omega))⟩
    · have d5' : s0 = rows ++ [(y, sl)] := d5
      subst d5'
      have hlr9 := len_sn (rows := rows) (y := (y, sl))
      have hg0 := hpop.2.1
      have hgd := hpop.2.2.1 rows.length (by show rows.length < (rows ++ [(y, sl)]).length; omega)
      have hgd : okS P.1.toNat P.2.1 P.2.2.1 y sl ∧ (1 ≤ sl.length ∧ sl.length ≤ 60) ∧ (20 ≤ y ∧ y ≤ 60) ∧ tot sl ≤ 1000 := by
        have h8 := hgd
        rw [rL_at, rS_at] at h8
        exact h8
      have hg0' : (rows ++ [(y, sl)]).length ≤ 20 := hg0
      obtain ⟨q0, ⟨qf, q1, q1'⟩, ⟨ed, q2, q2'⟩⟩ := id d7
      have d4' := d4
      unfold okC at d4'
      refine (((c_K_undo_1 l g (q := q) h0 w0 w1 d3 r0 r1 r2 q0 q2 q1 (by omega) hkl (by omega) (by omega) hgd.2.1.2 (fun k hk => by have h8 := q1' k hk; have h7 := slH_ok hgd.1 (i := k) hk; omega) (by omega))).wide (Nat.le_of_ble_eq_true rfl) (Nat.le_of_ble_eq_true rfl) (Nat.le_of_ble_eq_true rfl) (Nat.le_of_ble_eq_true rfl)).mono (fun v n1 S1 h => ?_)
      obtain ⟨rfl, rfl, b1, b2, b3, b4, fr⟩ := h
      rw [hst]
      have eC : ∀ q : Nat, okC x n tr q → okC x n tr q ∧ S1 q = S q ∧ S1 (q + 1) = S (q + 1) ∧ S1 (q + 2) = S (q + 2) := fun q hq => by
        have hq' := hq
        unfold okC at hq'
        exact ⟨by unfold okC; omega, (fr _ (by omega) (by omega) (by omega) (by omega)), (fr _ (by omega) (by omega) (by omega) (by omega)), (fr _ (by omega) (by omega) (by omega) (by omega))⟩
      have eD : ∀ a : Nat, okD x n tr a → okD x n tr a ∧ S1 a = S a := fun a ha => by
        have ha' := ha
        unfold okD at ha'
        exact ⟨by unfold okD; omega, (fr _ (by omega) (by omega) (by omega) (by omega))⟩
      have hQn : CQ g S1 x n tr P (rows ++ [(y, sl)]) (va_up cs (rows.length : Int).toNat (some q)) (va_up ca rows.length q) := by
        intro c hc
        rw [len_sn] at hc
        by_cases q9 : c < rows.length
        · obtain ⟨d1, d2, d3⟩ := hQ c q9
          obtain ⟨e1, e2, e3, e4⟩ := eC _ d2
          refine ⟨?_, ?_, ?_⟩
          · rw [va_up_ne _ _ (by omega), va_up_ne _ _ (by omega)]; exact d1
          · rw [va_up_ne _ _ (by omega)]; exact e1
          · rw [va_up_ne _ _ (by omega), rL_lt q9, rS_lt q9, hdR_lt (by omega)]; exact crs.kept d3 e2 e3 e4
        · have q8 : c = rows.length := by omega
          subst q8
          obtain ⟨e1, e2, e3, e4⟩ := eC _ d4
          refine ⟨?_, ?_, ?_⟩
          · rw [Int.toNat_natCast, va_up_self, va_up_self]
          · rw [va_up_self]; exact e1
          · rw [va_up_self, rL_at, rS_at, hdR_lt (Nat.le_refl _)]; exact crs.kept d7 e2 e3 e4
      exact ⟨by rw [hv9], Nat.le_refl _, ⟨J, ⟨tr, _, _, _, kp, ((fr _ (by omega) (by omega) (by omega) (by omega)).trans h0), (hT.kept (fun bb a b => fr bb (by omega) (by omega) (by omega) (by omega))), (hP.kept (fun bb a b => fr bb (by omega) (by omega) (by omega) (by omega))), (hJ.kept (fun bb a b => fr bb (by omega) (by omega) (by omega) (by omega))), (hL.kept (fun bb a b => fr bb (by omega) (by omega) (by omega) (by omega))), ⟨(by show S1 (x + 14) = _; rw [len_sn, show ((rows.length + 1 : Nat) : Int) = (rows.length : Int) + 1 by omega]; exact b1), b2, b3⟩, (hG.kept (fr _ (by omega) (by omega) (by omega) (by omega)) (fr _ (by omega) (by omega) (by omega) (by omega)) (fr _ (by omega) (by omega) (by omega) (by omega))), (hAh.kept (fun bb a b => fr bb (by omega) (by omega) (by omega) (by omega))), ⟨(by show S1 (x + 31) = _; rw [← hv9]; exact b4), (fr _ (by omega) (by omega) (by omega) (by omega)).trans w1⟩, (htr.kept (fr _ (by omega) (by omega) (by omega) (by omega)) (fr _ (by omega) (by omega) (by omega) (by omega)) (fr _ (by omega) (by omega) (by omega) (by omega))), ⟨hta1, hta2, hta3⟩, (fun i hi => by have d9 := d6 i hi; rw [adS_cnt sl q1']; show lv i + (-1) * cntH sl i = y0 i; have d8 : y0 i = rs i + (-1) * cntH sl i := d9; rw [hlv i hi]; omega), hQn, (hHp.kept eC eD)⟩⟩, (fun bb hbb => fr bb (by omega) (by omega) (by omega) (by omega))⟩
    · have d5' : rows = s0 := d5
      subst d5'
      refine (((c_K_undo_2 l g h0 w0 w1 d3 r0 r1 (by omega) hkl (by omega) (by omega))).wide (Nat.le_of_ble_eq_true rfl) (Nat.le_of_ble_eq_true rfl) (Nat.le_of_ble_eq_true rfl) (Nat.le_of_ble_eq_true rfl)).mono (fun v n1 S1 h => ?_)
      obtain ⟨rfl, rfl, b2, b4, fr⟩ := h
      rw [hst]
      have eC : ∀ q : Nat, okC x n tr q → okC x n tr q ∧ S1 q = S q ∧ S1 (q + 1) = S (q + 1) ∧ S1 (q + 2) = S (q + 2) := fun q hq => by
        have hq' := hq
        unfold okC at hq'
        exact ⟨by unfold okC; omega, (fr _ (by omega) (by omega)), (fr _ (by omega) (by omega)), (fr _ (by omega) (by omega))⟩
      have eD : ∀ a : Nat, okD x n tr a → okD x n tr a ∧ S1 a = S a := fun a ha => by
        have ha' := ha
        unfold okD at ha'
        exact ⟨by unfold okD; omega, (fr _ (by omega) (by omega))⟩
      exact ⟨by rw [hv9], Nat.le_refl _, ⟨J, ⟨tr, _, cs, ca, kp, ((fr _ (by omega) (by omega)).trans h0), (hT.kept (fun bb a b => fr bb (by omega) (by omega))), (hP.kept (fun bb a b => fr bb (by omega) (by omega))), (hJ.kept (fun bb a b => fr bb (by omega) (by omega))), (hL.kept (fun bb a b => fr bb (by omega) (by omega))), ⟨(fr _ (by omega) (by omega)).trans r0, b2, (fr _ (by omega) (by omega)).trans r2⟩, (hG.kept (fr _ (by omega) (by omega)) (fr _ (by omega) (by omega)) (fr _ (by omega) (by omega))), (hAh.kept (fun bb a b => fr bb (by omega) (by omega))), ⟨(by show S1 (x + 31) = _; rw [← hv9]; exact b4), (fr _ (by omega) (by omega)).trans w1⟩, (htr.kept (fr _ (by omega) (by omega)) (fr _ (by omega) (by omega)) (fr _ (by omega) (by omega))), ⟨hta1, hta2, hta3⟩, (fun i hi => by have d9 : rs i = va_up y0 hh (y0 hh + sn) i := d6 i hi; have d8 : rs hh = va_up y0 hh (y0 hh + sn) hh := d6 hh d4; rw [va_up_self] at d8; show va_up lv ((hh : Nat) : Int).toNat (lv ((hh : Nat) : Int).toNat - sn) i = y0 i; rw [Int.toNat_natCast]; by_cases q9 : i = hh; (rw [q9, va_up_self, hlv hh d4]; omega); (rw [va_up_ne _ _ q9, hlv i hi, d9, va_up_ne _ _ q9])), (hQ.kept eC), (hHp.kept eC eD)⟩⟩, (fun bb hbb => fr bb (by omega) (by omega))⟩

set_option maxHeartbeats 4000000 in
set_option maxRecDepth 100000 in
theorem w_K_told (l : Launch) (g : gG) {n : Nat} {S : Nat → gE} {x : Nat} {A : aT} {J : jT} {y w : Int} (hA : CA g S n x A J) (hg : goodA A) (ry0 : -2147483648 ≤ y ∧ y < 2147483648) (rw0 : -2147483648 ≤ w ∧ w < 2147483648) : g_Cp l yX8_told wsX8_told { frames := 2, cells := 0, slots := 0, locals := 43 } g [.ref x, .int (iI y), .int (iI w)] n S (some (.int (iI (sTold A y w)))) := by
  obtain ⟨tz, tx, P, rs, rows, hist⟩ := A
  obtain ⟨g1, g2, g3, g4, g5⟩ : tz ≤ 200 ∧ (∀ i : Nat, i < tz → 32 ≤ tx i ∧ tx i ≤ 126) ∧ goodP P ∧ goodR P.1.toNat P.2.1 P.2.2.1 rs rows ∧ goodH P.1.toNat P.2.1 P.2.2.1 hist := hg
  obtain ⟨tr, lv, cs, ca, kp, h0, hT, hP, hJ, hL, hR, hG, hAh, hW, htr, ⟨hta1, hta2, hta3⟩, hlv, hQ, hH⟩ : CI g S n x tz tx P J rs rows hist := hA
  obtain ⟨ta, nb, t0, t1, t2, t3⟩ := id hT
  obtain ⟨p0, p1, p2, p3⟩ := id hP
  obtain ⟨j1, j2, j3, j4, j5, j6, e0, e1, e2, e3⟩ := id hJ
  obtain ⟨l0, rf, l1⟩ := id hL
  obtain ⟨r0, r1, r2⟩ := id hR
  obtain ⟨w0, w1⟩ := id hW
  obtain ⟨k1, k2, k3, k4, k5, k6, k7, kf, ke, tr0, tr1, tr2⟩ := id htr
  obtain ⟨m1, m2, m3, m4, m5, m6, m7, m8⟩ := id g3
  have g41 := g4.1
  have g51 := g5.1
  have hca : ∀ j : Nat, (j : Int) < (rows.length : Int) → cs j = some (ca j) := fun j hj => (hQ j (by omega)).1
  have hck : ∀ j : Nat, (j : Int) < (rows.length : Int) → crs g S (ca j) (rL rows j) (hdR P.2.2.2.2.2.2.1 rows j) ((rL rows j - P.2.2.2.2.2.2.1) / 2) (rmF P.2.2.2.2.2.1 P.2.2.2.2.2.2.2.2 (hdR P.2.2.2.2.2.2.1 rows j)) P.2.2.1 (rS rows j) := fun j hj => (hQ j (by omega)).2.2
  have hsz : ∀ j : Nat, j < rows.length → 1 ≤ (rS rows j).length ∧ (rS rows j).length ≤ 60 := fun j hj => (g4.2.1 j hj).2.1
  exact c_K_told l g h0 r0 r2 (by omega) hca hck ⟨rfl, g41⟩ ry0 rw0

set_option maxHeartbeats 4000000 in
set_option maxRecDepth 100000 in
theorem w_K_joint (l : Launch) (g : gG) {n : Nat} {S : Nat → gE} {x : Nat} {A : aT} {J : jT} {y w : Int} (hA : CA g S n x A J) (hg : goodA A) (ry0 : -2147483648 ≤ y ∧ y < 2147483648) (rw0 : -2147483648 ≤ w ∧ w < 2147483648) : g_Cp l yX8_joint wsX8_joint { frames := 2, cells := 0, slots := 0, locals := 43 } g [.ref x, .int (iI y), .int (iI w)] n S (some (.int (iI (sJoint A y w)))) := by
  obtain ⟨tz, tx, P, rs, rows, hist⟩ := A
  obtain ⟨g1, g2, g3, g4, g5⟩ : tz ≤ 200 ∧ (∀ i : Nat, i < tz → 32 ≤ tx i ∧ tx i ≤ 126) ∧ goodP P ∧ goodR P.1.toNat P.2.1 P.2.2.1 rs rows ∧ goodH P.1.toNat P.2.1 P.2.2.1 hist := hg
  obtain ⟨tr, lv, cs, ca, kp, h0, hT, hP, hJ, hL, hR, hG, hAh, hW, htr, ⟨hta1, hta2, hta3⟩, hlv, hQ, hH⟩ : CI g S n x tz tx P J rs rows hist := hA
  obtain ⟨ta, nb, t0, t1, t2, t3⟩ := id hT
  obtain ⟨p0, p1, p2, p3⟩ := id hP
  obtain ⟨j1, j2, j3, j4, j5, j6, e0, e1, e2, e3⟩ := id hJ
  obtain ⟨l0, rf, l1⟩ := id hL
  obtain ⟨r0, r1, r2⟩ := id hR
  obtain ⟨w0, w1⟩ := id hW
  obtain ⟨k1, k2, k3, k4, k5, k6, k7, kf, ke, tr0, tr1, tr2⟩ := id htr
  obtain ⟨m1, m2, m3, m4, m5, m6, m7, m8⟩ := id g3
  have g41 := g4.1
  have g51 := g5.1
  have hca : ∀ j : Nat, (j : Int) < (rows.length : Int) → cs j = some (ca j) := fun j hj => (hQ j (by omega)).1
  have hck : ∀ j : Nat, (j : Int) < (rows.length : Int) → crs g S (ca j) (rL rows j) (hdR P.2.2.2.2.2.2.1 rows j) ((rL rows j - P.2.2.2.2.2.2.1) / 2) (rmF P.2.2.2.2.2.1 P.2.2.2.2.2.2.2.2 (hdR P.2.2.2.2.2.2.1 rows j)) P.2.2.1 (rS rows j) := fun j hj => (hQ j (by omega)).2.2
  have hsz : ∀ j : Nat, j < rows.length → 1 ≤ (rS rows j).length ∧ (rS rows j).length ≤ 60 := fun j hj => (g4.2.1 j hj).2.1
  exact c_K_joint l g h0 r0 r2 (by omega) hca hck ⟨rfl, g41⟩ hsz ry0 rw0

set_option maxHeartbeats 4000000 in
set_option maxRecDepth 100000 in
theorem w_K_slate (l : Launch) (g : gG) {n : Nat} {S : Nat → gE} {x : Nat} {A : aT} {J : jT} {y k w : Int} (hA : CA g S n x A J) (hg : goodA A) (ry0 : -2147483648 ≤ y ∧ y < 2147483648) (rk0 : -2147483648 ≤ k ∧ k < 2147483648) (rw0 : -2147483648 ≤ w ∧ w < 2147483648) : g_Cp l yX8_slate wsX8_slate { frames := 2, cells := 0, slots := 0, locals := 43 } g [.ref x, .int (iI y), .int (iI k), .int (iI w)] n S (some (.int (iI (sSlate A y k w)))) := by
  obtain ⟨tz, tx, P, rs, rows, hist⟩ := A
  obtain ⟨g1, g2, g3, g4, g5⟩ : tz ≤ 200 ∧ (∀ i : Nat, i < tz → 32 ≤ tx i ∧ tx i ≤ 126) ∧ goodP P ∧ goodR P.1.toNat P.2.1 P.2.2.1 rs rows ∧ goodH P.1.toNat P.2.1 P.2.2.1 hist := hg
  obtain ⟨tr, lv, cs, ca, kp, h0, hT, hP, hJ, hL, hR, hG, hAh, hW, htr, ⟨hta1, hta2, hta3⟩, hlv, hQ, hH⟩ : CI g S n x tz tx P J rs rows hist := hA
  obtain ⟨ta, nb, t0, t1, t2, t3⟩ := id hT
  obtain ⟨p0, p1, p2, p3⟩ := id hP
  obtain ⟨j1, j2, j3, j4, j5, j6, e0, e1, e2, e3⟩ := id hJ
  obtain ⟨l0, rf, l1⟩ := id hL
  obtain ⟨r0, r1, r2⟩ := id hR
  obtain ⟨w0, w1⟩ := id hW
  obtain ⟨k1, k2, k3, k4, k5, k6, k7, kf, ke, tr0, tr1, tr2⟩ := id htr
  obtain ⟨m1, m2, m3, m4, m5, m6, m7, m8⟩ := id g3
  have g41 := g4.1
  have g51 := g5.1
  have hca : ∀ j : Nat, (j : Int) < (rows.length : Int) → cs j = some (ca j) := fun j hj => (hQ j (by omega)).1
  have hck : ∀ j : Nat, (j : Int) < (rows.length : Int) → crs g S (ca j) (rL rows j) (hdR P.2.2.2.2.2.2.1 rows j) ((rL rows j - P.2.2.2.2.2.2.1) / 2) (rmF P.2.2.2.2.2.1 P.2.2.2.2.2.2.2.2 (hdR P.2.2.2.2.2.2.1 rows j)) P.2.2.1 (rS rows j) := fun j hj => (hQ j (by omega)).2.2
  have hsz : ∀ j : Nat, j < rows.length → 1 ≤ (rS rows j).length ∧ (rS rows j).length ≤ 60 := fun j hj => (g4.2.1 j hj).2.1
  exact c_K_slate l g h0 r0 r2 (by omega) hca hck ⟨rfl, g41⟩ hsz ry0 rk0 rw0

set_option maxHeartbeats 4000000 in
set_option maxRecDepth 100000 in
theorem w_K_count (l : Launch) (g : gG) {n : Nat} {S : Nat → gE} {x : Nat} {A : aT} {J : jT} {w : Int} (hA : CA g S n x A J) (hg : goodA A) (rw0 : -2147483648 ≤ w ∧ w < 2147483648) : g_Cp l yX8_count wsX8_count { frames := 2, cells := 0, slots := 0, locals := 41 } g [.ref x, .int (iI w)] n S (some (.int (iI (sCount A w)))) := by
  obtain ⟨tz, tx, P, rs, rows, hist⟩ := A
  obtain ⟨g1, g2, g3, g4, g5⟩ : tz ≤ 200 ∧ (∀ i : Nat, i < tz → 32 ≤ tx i ∧ tx i ≤ 126) ∧ goodP P ∧ goodR P.1.toNat P.2.1 P.2.2.1 rs rows ∧ goodH P.1.toNat P.2.1 P.2.2.1 hist := hg
  obtain ⟨tr, lv, cs, ca, kp, h0, hT, hP, hJ, hL, hR, hG, hAh, hW, htr, ⟨hta1, hta2, hta3⟩, hlv, hQ, hH⟩ : CI g S n x tz tx P J rs rows hist := hA
  obtain ⟨ta, nb, t0, t1, t2, t3⟩ := id hT
  obtain ⟨p0, p1, p2, p3⟩ := id hP
  obtain ⟨j1, j2, j3, j4, j5, j6, e0, e1, e2, e3⟩ := id hJ
  obtain ⟨l0, rf, l1⟩ := id hL
  obtain ⟨r0, r1, r2⟩ := id hR
  obtain ⟨w0, w1⟩ := id hW
  obtain ⟨k1, k2, k3, k4, k5, k6, k7, kf, ke, tr0, tr1, tr2⟩ := id htr
  obtain ⟨m1, m2, m3, m4, m5, m6, m7, m8⟩ := id g3
  have g41 := g4.1
  have g51 := g5.1
  obtain ⟨q, qF, qG, qR, hla, hqc, hqs, hqa, hqt⟩ := CI_last hR hG hta1 hQ
  obtain ⟨q0, ⟨qf, q1, q1'⟩, ⟨ed, q2, q2'⟩⟩ := id hqc
  have hdr := hd_r g4 m6 (Nat.le_refl rows.length)
  have htl := tpL_r g4
  have htn := tpS_len g4
  have hte := tpS_e g4
  have hrV : ∀ i : Nat, (i : Int) < P.1 → 0 ≤ lv i ∧ lv i ≤ 1000000 := fun i hi => by rw [hlv i hi]; have := goodR_rs g4 (i := i) (by omega); omega
  have hrP : ∀ i : Nat, (i : Int) < P.1 → (20 ≤ P.2.1 i ∧ P.2.1 i ≤ 60) ∧ (10 ≤ P.2.2.1 i ∧ P.2.2.1 i ≤ 60) := fun i hi => ⟨(m2 i hi).1, (m2 i hi).2.1⟩
  have hca : ∀ j : Nat, (j : Int) < (rows.length : Int) → cs j = some (ca j) := fun j hj => (hQ j (by omega)).1
  have hck : ∀ j : Nat, (j : Int) < (rows.length : Int) → crs g S (ca j) (rL rows j) (hdR P.2.2.2.2.2.2.1 rows j) ((rL rows j - P.2.2.2.2.2.2.1) / 2) (rmF P.2.2.2.2.2.1 P.2.2.2.2.2.2.2.2 (hdR P.2.2.2.2.2.2.1 rows j)) P.2.2.1 (rS rows j) := fun j hj => (hQ j (by omega)).2.2
  have hsz : ∀ j : Nat, j < rows.length → 1 ≤ (rS rows j).length ∧ (rS rows j).length ≤ 60 := fun j hj => (g4.2.1 j hj).2.1
  have hc := c_K_count l g (n := n) (k9 := hist.length) h0 t0 p0 r0 r1 r2 w0 q0 m1 (by omega) hla hca hck ⟨rfl, g41⟩ ⟨hqs, by omega⟩ (by omega) rfl rw0
  have he : aCount P.1 P.2.2.2.2.1 P.2.2.2.2.2.1 P.2.2.2.2.2.2.1 P.2.2.2.2.2.2.2.1 P.2.2.2.2.2.2.2.2 P.2.2.1 lv rows hist.length tz w = sCount (tz, tx, P, rs, rows, hist) w := by
    show _ = aCount P.1 P.2.2.2.2.1 P.2.2.2.2.2.1 P.2.2.2.2.2.2.1 P.2.2.2.2.2.2.2.1 P.2.2.2.2.2.2.2.2 P.2.2.1 rs rows hist.length tz w
    unfold aCount
    rw [sumI_congr (f := lv) (f' := rs) (fun i hi => hlv i (by omega))]
  rw [← he]
  exact hc

set_option maxHeartbeats 4000000 in
set_option maxRecDepth 100000 in
theorem w_K_heap (l : Launch) (g : gG) {n : Nat} {S : Nat → gE} {x : Nat} {A : aT} {J : jT} {y w : Int} (hA : CA g S n x A J) (hg : goodA A) (ry0 : -2147483648 ≤ y ∧ y < 2147483648) (rw0 : -2147483648 ≤ w ∧ w < 2147483648) : g_Cp l yX8_heap wsX8_heap { frames := 2, cells := 0, slots := 0, locals := 43 } g [.ref x, .int (iI y), .int (iI w)] n S (some (.int (iI (sHeap A y w)))) := by
  obtain ⟨tz, tx, P, rs, rows, hist⟩ := A
  obtain ⟨g1, g2, g3, g4, g5⟩ : tz ≤ 200 ∧ (∀ i : Nat, i < tz → 32 ≤ tx i ∧ tx i ≤ 126) ∧ goodP P ∧ goodR P.1.toNat P.2.1 P.2.2.1 rs rows ∧ goodH P.1.toNat P.2.1 P.2.2.1 hist := hg
  obtain ⟨tr, lv, cs, ca, kp, h0, hT, hP, hJ, hL, hR, hG, hAh, hW, htr, ⟨hta1, hta2, hta3⟩, hlv, hQ, hH⟩ : CI g S n x tz tx P J rs rows hist := hA
  obtain ⟨ta, nb, t0, t1, t2, t3⟩ := id hT
  obtain ⟨p0, p1, p2, p3⟩ := id hP
  obtain ⟨j1, j2, j3, j4, j5, j6, e0, e1, e2, e3⟩ := id hJ
  obtain ⟨l0, rf, l1⟩ := id hL
  obtain ⟨r0, r1, r2⟩ := id hR
  obtain ⟨w0, w1⟩ := id hW
  obtain ⟨k1, k2, k3, k4, k5, k6, k7, kf, ke, tr0, tr1, tr2⟩ := id htr
  obtain ⟨m1, m2, m3, m4, m5, m6, m7, m8⟩ := id g3
  have g41 := g4.1
  have g51 := g5.1
  have hca : ∀ j : Nat, (j : Int) < (rows.length : Int) → cs j = some (ca j) := fun j hj => (hQ j (by omega)).1
  have hck : ∀ j : Nat, (j : Int) < (rows.length : Int) → crs g S (ca j) (rL rows j) (hdR P.2.2.2.2.2.2.1 rows j) ((rL rows j - P.2.2.2.2.2.2.1) / 2) (rmF P.2.2.2.2.2.1 P.2.2.2.2.2.2.2.2 (hdR P.2.2.2.2.2.2.1 rows j)) P.2.2.1 (rS rows j) := fun j hj => (hQ j (by omega)).2.2
  have hsz : ∀ j : Nat, j < rows.length → 1 ≤ (rS rows j).length ∧ (rS rows j).length ≤ 60 := fun j hj => (g4.2.1 j hj).2.1
  obtain ⟨kh, hkh⟩ := Classical.axiomOfChoice (show ∀ j : Nat, ∃ f : Nat → Int, j < rows.length → S (ca j + 1) = oI g 60 f ∧ ∀ i : Nat, i < (rS rows j).length → f i = slH (rS rows j) i from fun j => by
    by_cases hj : j < rows.length
    · obtain ⟨-, ⟨f, f1, f2⟩, -⟩ := hck j (by omega)
      exact ⟨f, fun _ => ⟨f1, f2⟩⟩
    · exact ⟨fun _ => 0, fun q => absurd q hj⟩)
  have hc := c_K_heap l g (n := n) (kh := kh) h0 p0 p1 p2 r0 r1 r2 m1 (by omega) hca hck (fun j hj => ⟨(hkh j (by omega)).1, (hsz j (by omega)).2, fun k hk => by rw [(hkh j (by omega)).2 k hk]; have h7 := slH_ok (g4.2.1 j (by omega)).1 (i := k) hk; omega⟩) (fun hy => by rw [Int.toNat_natCast]; exact cnt2_R hy (fun j hj => (hkh j hj).2) (Nat.le_refl _)) ry0 rw0
  have he : (if (0 ≤ y ∧ y < P.1) ∧ (0 ≤ w ∧ w ≤ 3) then aHeap P.2.1 P.2.2.1 lv rows y.toNat w else -1) = sHeap (tz, tx, P, rs, rows, hist) y w := by
    show _ = (if (0 ≤ y ∧ y < P.1) ∧ (0 ≤ w ∧ w ≤ 3) then aHeap P.2.1 P.2.2.1 rs rows y.toNat w else -1)
    by_cases q9 : (0 ≤ y ∧ y < P.1) ∧ (0 ≤ w ∧ w ≤ 3)
    · rw [if_pos q9, if_pos q9]
      unfold aHeap
      rw [hlv y.toNat (by omega)]
    · rw [if_neg q9, if_neg q9]
  rw [← he]
  exact hc

