set_option maxHeartbeats 4000000 in
set_option maxRecDepth 100000 in
theorem c_M_fault (l : Launch) (g : gG) {n : Nat} {S : Nat → gE} {z : Nat} {mAt mHC mRC mJC mCh mVi : Int} {stg hps nw js : Nat → Int} {rs : Nat → Int} {rows : rT} {hs sv : Nat → Int} {hist : List sT} {tz : Nat} {tx txa rst rhp nbs : Nat → Int} {f1 f2 f3 : Nat → Int} (hz : S z = oO 9 [.ref (z + 1), .int (iI (tz : Int)), .int (iI mAt), .ref (z + 2), .ref (z + 3), .ref (z + 4), .ref (z + 5), .int (iI mHC), .int (iI mRC), .ref (z + 6), .ref (z + 7), .ref (z + 8), .int (iI (hist.length : Int)), .ref (z + 9), .ref (z + 10), .int (iI mJC), .int (iI mCh), .int (iI mVi)]) (htx : S (z + 1) = oI g 200 txa) (hst : S (z + 2) = oI g 5 stg) (hrst : S (z + 3) = oI g 5 rst) (hhp : S (z + 4) = oI g 24 hps) (hrhp : S (z + 5) = oI g 24 rhp) (hnw : S (z + 6) = oI g 1249 nw) (hsv : S (z + 7) = oI g 1249 sv) (hhs : S (z + 8) = oI g 7494 hs) (hnb : S (z + 9) = oI g 3 nbs) (hjs : S (z + 10) = oI g 60 js) (rtz : tz ≤ 200) (htx0 : ∀ i : Nat, i < tz → txa i = tx i) (hM : goodM mHC stg hps) (hR : goodR mHC.toNat (mLn hps) (mBr hps) rs rows) (hS : mS nw rs rows) (hHi : mHi hs hist) (hHg : goodH mHC.toNat (mLn hps) (mBr hps) hist) (rtx : ∀ i : Nat, i < tz → 32 ≤ tx i ∧ tx i ≤ 126) : g_Cs l yX9_fault wsX9_fault { frames := 5, cells := 0, slots := 0, locals := 110 } g [.ref z] n S (fun vr n1 S1 => vr = some (.int (iI ((rdC tx tz 200 0 (0, f1, f2, f3, 100, 120, 6, 4, 0)).1))) ∧ n = n1 ∧ MI0 g S1 z tz tx mHC stg hps rs rows hist ∧ (∀ bb, (bb < z ∨ z + 11 ≤ bb) → S1 bb = S bb)) 0 0 := by
  refine g_Cs.of (cc := cX9_fault) (maxL := 1) (ret := (some .int)) (by decide) rfl (Nat.le_of_ble_eq_true rfl) ?_
  intro pp ee s m below meth cK Q H locs ls hc hnm hw hl hret
  have hl : lv_has ls 1 [(0, .ref z)] := hl
  have hcg := rdC_cg htx0 200 0 ((0, f1, f2, f3, 100, 120, 6, 4, 0) : pT)
  have rtxa : ∀ i : Nat, i < tz → 32 ≤ txa i ∧ txa i ≤ 126 := fun i hi => by rw [htx0 i hi]; exact rtx i hi
  refine lv_aload_n hc.1 hc.2.1 dX9_fault_0 rfl (lv_at hl 0 rfl) ?_
  refine nn_Vs (As := []) (st := []) hc hw hz rfl (c_X9_parse l g (f1 := f1) (f2 := f2) (f3 := f3) hz htx hrst hrhp hnb (rtz) (rtxa)) (cwV 0 hc.2.2.2.2 gX9_fault_X9_parse rfl rfl rfl (by decide +kernel) ⟨Nat.le_of_ble_eq_true rfl, Nat.le_of_ble_eq_true rfl⟩) rfl hl.1 rfl (Nat.le_of_ble_eq_true rfl) ⟨Nat.le_of_ble_eq_true rfl, Nat.le_of_ble_eq_true rfl⟩ dX9_fault_1 (fun vr n1 S1 H locs qS1 hw => ?_)
  obtain ⟨at9_2, rc9_3, rst9_4, rh9_5, nb9_6, rfl, rfl, hS1_0, hS1_1, hS1_2, hS1_3, kS1_0, fS1⟩ := qS1
  refine W.eq (g2 := F0 m 4 ls [.int (iI ((rdC txa tz 200 0 (0, f1, f2, f3, 100, 120, 6, 4, 0)).1))]) rfl ?_
  have e7 : S1 (z + 1) = oI g 200 txa := (fS1 (z + 1) (off_nr (x := z) (a := 1) (by decide)) (off_ne (x := z) (a := 1) (b := 3) (by decide)) (off_ne (x := z) (a := 1) (b := 5) (by decide)) (off_ne (x := z) (a := 1) (b := 9) (by decide))).trans htx
  have e8 : S1 (z + 2) = oI g 5 stg := (fS1 (z + 2) (off_nr (x := z) (a := 2) (by decide)) (off_ne (x := z) (a := 2) (b := 3) (by decide)) (off_ne (x := z) (a := 2) (b := 5) (by decide)) (off_ne (x := z) (a := 2) (b := 9) (by decide))).trans hst
  have e9 : S1 (z + 4) = oI g 24 hps := (fS1 (z + 4) (off_nr (x := z) (a := 4) (by decide)) (off_ne (x := z) (a := 4) (b := 3) (by decide)) (off_ne (x := z) (a := 4) (b := 5) (by decide)) (off_ne (x := z) (a := 4) (b := 9) (by decide))).trans hhp
  have e10 : S1 (z + 6) = oI g 1249 nw := (fS1 (z + 6) (off_nr (x := z) (a := 6) (by decide)) (off_ne (x := z) (a := 6) (b := 3) (by decide)) (off_ne (x := z) (a := 6) (b := 5) (by decide)) (off_ne (x := z) (a := 6) (b := 9) (by decide))).trans hnw
  have e11 : S1 (z + 7) = oI g 1249 sv := (fS1 (z + 7) (off_nr (x := z) (a := 7) (by decide)) (off_ne (x := z) (a := 7) (b := 3) (by decide)) (off_ne (x := z) (a := 7) (b := 5) (by decide)) (off_ne (x := z) (a := 7) (b := 9) (by decide))).trans hsv
  have e12 : S1 (z + 8) = oI g 7494 hs := (fS1 (z + 8) (off_nr (x := z) (a := 8) (by decide)) (off_ne (x := z) (a := 8) (b := 3) (by decide)) (off_ne (x := z) (a := 8) (b := 5) (by decide)) (off_ne (x := z) (a := 8) (b := 9) (by decide))).trans hhs
  have e13 : S1 (z + 10) = oI g 60 js := (fS1 (z + 10) (off_nr (x := z) (a := 10) (by decide)) (off_ne (x := z) (a := 10) (b := 3) (by decide)) (off_ne (x := z) (a := 10) (b := 5) (by decide)) (off_ne (x := z) (a := 10) (b := 9) (by decide))).trans hjs
  exact hret (some (.int (iI ((rdC txa tz 200 0 (0, f1, f2, f3, 100, 120, 6, 4, 0)).1)))) _ S1 _ _ _ _ hw (⟨(by rw [hcg]), rfl, ⟨_, _, _, _, _, _, _, _, _, _, _, _, _, hS1_0, e7, htx0, e8, hS1_1, e9, hS1_2, e10, e11, e12, hS1_3, e13, hS, hHi⟩, fun bb hbb  => (fS1 bb (by omega) (by omega) (by omega) (by omega))⟩) ⟨_, rfl, rfl, dX9_fault_4⟩

set_option maxHeartbeats 4000000 in
set_option maxRecDepth 100000 in
theorem c_M_lay_no (l : Launch) (g : gG) {n : Nat} {S : Nat → gE} {z : Nat} {mAt mHC mRC mJC mCh mVi : Int} {stg hps nw js : Nat → Int} {rs : Nat → Int} {rows : rT} {hs sv : Nat → Int} {hist : List sT} {tz : Nat} {tx txa rst rhp nbs : Nat → Int} {f1 f2 f3 : Nat → Int} (hz : S z = oO 9 [.ref (z + 1), .int (iI (tz : Int)), .int (iI mAt), .ref (z + 2), .ref (z + 3), .ref (z + 4), .ref (z + 5), .int (iI mHC), .int (iI mRC), .ref (z + 6), .ref (z + 7), .ref (z + 8), .int (iI (hist.length : Int)), .ref (z + 9), .ref (z + 10), .int (iI mJC), .int (iI mCh), .int (iI mVi)]) (htx : S (z + 1) = oI g 200 txa) (hst : S (z + 2) = oI g 5 stg) (hrst : S (z + 3) = oI g 5 rst) (hhp : S (z + 4) = oI g 24 hps) (hrhp : S (z + 5) = oI g 24 rhp) (hnw : S (z + 6) = oI g 1249 nw) (hsv : S (z + 7) = oI g 1249 sv) (hhs : S (z + 8) = oI g 7494 hs) (hnb : S (z + 9) = oI g 3 nbs) (hjs : S (z + 10) = oI g 60 js) (rtz : tz ≤ 200) (htx0 : ∀ i : Nat, i < tz → txa i = tx i) (hM : goodM mHC stg hps) (hR : goodR mHC.toNat (mLn hps) (mBr hps) rs rows) (hS : mS nw rs rows) (hHi : mHi hs hist) (hHg : goodH mHC.toNat (mLn hps) (mBr hps) hist) (rtx : ∀ i : Nat, i < tz → 32 ≤ tx i ∧ tx i ≤ 126) (hb : (rdC tx tz 200 0 (0, f1, f2, f3, 100, 120, 6, 4, 0)).1 ≠ -4 ∨ (rdC tx tz 200 0 (0, f1, f2, f3, 100, 120, 6, 4, 0)).2.1 = 0) : g_Cs l yX9_lay wsX9_lay { frames := 5, cells := 0, slots := 0, locals := 110 } g [.ref z] n S (fun vr n1 S1 => vr = some (.int (iI (-2))) ∧ n = n1 ∧ MI0 g S1 z tz tx mHC stg hps rs rows hist ∧ (∀ bb, (bb < z ∨ z + 11 ≤ bb) → S1 bb = S bb)) 0 0 := by
  refine g_Cs.of (cc := cX9_lay) (maxL := 1) (ret := (some .int)) (by decide) rfl (Nat.le_of_ble_eq_true rfl) ?_
  intro pp ee s m below meth cK Q H locs ls hc hnm hw hl hret
  have hl : lv_has ls 1 [(0, .ref z)] := hl
  have hiX9 : ∀ w ∈ u_ws RX9 TX9 18, w ∈ wsX9_lay := by decide +kernel
  have lk50 : Cond.fieldLink RX9 50 "RoofCoursesModel" "readCount" "I" ∈ wsX9_lay := by decide +kernel
  have hcg := rdC_cg htx0 200 0 ((0, f1, f2, f3, 100, 120, 6, 4, 0) : pT)
  have rtxa : ∀ i : Nat, i < tz → 32 ≤ txa i ∧ txa i ≤ 126 := fun i hi => by rw [htx0 i hi]; exact rtx i hi
  have hrr9 := rdC_ans txa tz 200 0 (0, f1, f2, f3, 100, 120, 6, 4, 0) (by omega)
  refine lv_aload_n hc.1 hc.2.1 dX9_lay_0 rfl (lv_at hl 0 rfl) ?_
  refine nn_Vs (As := []) (st := []) hc hw hz rfl (c_X9_parse l g (f1 := f1) (f2 := f2) (f3 := f3) hz htx hrst hrhp hnb (rtz) (rtxa)) (cwV 0 hc.2.2.2.2 gX9_lay_X9_parse rfl rfl rfl (by decide +kernel) ⟨Nat.le_of_ble_eq_true rfl, Nat.le_of_ble_eq_true rfl⟩) rfl hl.1 rfl (Nat.le_of_ble_eq_true rfl) ⟨Nat.le_of_ble_eq_true rfl, Nat.le_of_ble_eq_true rfl⟩ dX9_lay_1 (fun vr n1 S1 H locs qS1 hw => ?_)
  obtain ⟨at9_2, rc9_3, rst9_4, rh9_5, nb9_6, rfl, rfl, hS1_0, hS1_1, hS1_2, hS1_3, kS1_0, fS1⟩ := qS1
  refine W.eq (g2 := F0 m 4 ls [.int (iI ((rdC txa tz 200 0 (0, f1, f2, f3, 100, 120, 6, 4, 0)).1))]) rfl ?_
  refine nn_bipush hc dX9_lay_4 (by decide +kernel) ?_
  refine nn_icmp_ne hc dX9_lay_6 (tgt := 16) (by decide) (by omega) (by decide) (fun c7 => ?_) (fun c7 => ?_)
  · refine nn_bipush hc dX9_lay_16 (by decide +kernel) ?_
    have e8 : S1 (z + 1) = oI g 200 txa := (fS1 (z + 1) (off_nr (x := z) (a := 1) (by decide)) (off_ne (x := z) (a := 1) (b := 3) (by decide)) (off_ne (x := z) (a := 1) (b := 5) (by decide)) (off_ne (x := z) (a := 1) (b := 9) (by decide))).trans htx
    have e9 : S1 (z + 2) = oI g 5 stg := (fS1 (z + 2) (off_nr (x := z) (a := 2) (by decide)) (off_ne (x := z) (a := 2) (b := 3) (by decide)) (off_ne (x := z) (a := 2) (b := 5) (by decide)) (off_ne (x := z) (a := 2) (b := 9) (by decide))).trans hst
    have e10 : S1 (z + 4) = oI g 24 hps := (fS1 (z + 4) (off_nr (x := z) (a := 4) (by decide)) (off_ne (x := z) (a := 4) (b := 3) (by decide)) (off_ne (x := z) (a := 4) (b := 5) (by decide)) (off_ne (x := z) (a := 4) (b := 9) (by decide))).trans hhp
    have e11 : S1 (z + 6) = oI g 1249 nw := (fS1 (z + 6) (off_nr (x := z) (a := 6) (by decide)) (off_ne (x := z) (a := 6) (b := 3) (by decide)) (off_ne (x := z) (a := 6) (b := 5) (by decide)) (off_ne (x := z) (a := 6) (b := 9) (by decide))).trans hnw
    have e12 : S1 (z + 7) = oI g 1249 sv := (fS1 (z + 7) (off_nr (x := z) (a := 7) (by decide)) (off_ne (x := z) (a := 7) (b := 3) (by decide)) (off_ne (x := z) (a := 7) (b := 5) (by decide)) (off_ne (x := z) (a := 7) (b := 9) (by decide))).trans hsv
    have e13 : S1 (z + 8) = oI g 7494 hs := (fS1 (z + 8) (off_nr (x := z) (a := 8) (by decide)) (off_ne (x := z) (a := 8) (b := 3) (by decide)) (off_ne (x := z) (a := 8) (b := 5) (by decide)) (off_ne (x := z) (a := 8) (b := 9) (by decide))).trans hhs
    have e14 : S1 (z + 10) = oI g 60 js := (fS1 (z + 10) (off_nr (x := z) (a := 10) (by decide)) (off_ne (x := z) (a := 10) (b := 3) (by decide)) (off_ne (x := z) (a := 10) (b := 5) (by decide)) (off_ne (x := z) (a := 10) (b := 9) (by decide))).trans hjs
    exact hret (some (.int (iI (-2)))) _ S1 _ _ _ _ hw (⟨rfl, rfl, ⟨_, _, _, _, _, _, _, _, _, _, _, _, _, hS1_0, e8, htx0, e9, hS1_1, e10, hS1_2, e11, e12, e13, hS1_3, e14, hS, hHi⟩, fun bb hbb  => (fS1 bb (by omega) (by omega) (by omega) (by omega))⟩) ⟨_, rfl, rfl, dX9_lay_18⟩
  · refine lv_aload_n hc.1 hc.2.1 dX9_lay_9 rfl (lv_at hl 0 rfl) ?_
    refine nn_get hc hw hS1_0 hiX9 rfl 8 (by decide) rfl lk50 dX9_lay_10 ?_
    have hrel9 := kS1_0 (by omega)
    have hrc9 := hrel9.1
    rw [hcg] at hrc9
    have hgd9 := rdC_good (tx := tx) (tl := tz) 200 0 (0, f1, f2, f3, 100, 120, 6, 4, 0) (goodP_0 f1 f2 f3)
    have hgd8 := hgd9.1
    refine nn_if_ne hc dX9_lay_13 (tgt := 19) (by decide) (by omega) (fun c15 => ?_) (fun c15 => ?_)
    · exfalso; rw [hcg] at *; omega
    · refine nn_bipush hc dX9_lay_16 (by decide +kernel) ?_
      have e16 : S1 (z + 1) = oI g 200 txa := (fS1 (z + 1) (off_nr (x := z) (a := 1) (by decide)) (off_ne (x := z) (a := 1) (b := 3) (by decide)) (off_ne (x := z) (a := 1) (b := 5) (by decide)) (off_ne (x := z) (a := 1) (b := 9) (by decide))).trans htx
      have e17 : S1 (z + 2) = oI g 5 stg := (fS1 (z + 2) (off_nr (x := z) (a := 2) (by decide)) (off_ne (x := z) (a := 2) (b := 3) (by decide)) (off_ne (x := z) (a := 2) (b := 5) (by decide)) (off_ne (x := z) (a := 2) (b := 9) (by decide))).trans hst
      have e18 : S1 (z + 4) = oI g 24 hps := (fS1 (z + 4) (off_nr (x := z) (a := 4) (by decide)) (off_ne (x := z) (a := 4) (b := 3) (by decide)) (off_ne (x := z) (a := 4) (b := 5) (by decide)) (off_ne (x := z) (a := 4) (b := 9) (by decide))).trans hhp
      have e19 : S1 (z + 6) = oI g 1249 nw := (fS1 (z + 6) (off_nr (x := z) (a := 6) (by decide)) (off_ne (x := z) (a := 6) (b := 3) (by decide)) (off_ne (x := z) (a := 6) (b := 5) (by decide)) (off_ne (x := z) (a := 6) (b := 9) (by decide))).trans hnw
      have e20 : S1 (z + 7) = oI g 1249 sv := (fS1 (z + 7) (off_nr (x := z) (a := 7) (by decide)) (off_ne (x := z) (a := 7) (b := 3) (by decide)) (off_ne (x := z) (a := 7) (b := 5) (by decide)) (off_ne (x := z) (a := 7) (b := 9) (by decide))).trans hsv
      have e21 : S1 (z + 8) = oI g 7494 hs := (fS1 (z + 8) (off_nr (x := z) (a := 8) (by decide)) (off_ne (x := z) (a := 8) (b := 3) (by decide)) (off_ne (x := z) (a := 8) (b := 5) (by decide)) (off_ne (x := z) (a := 8) (b := 9) (by decide))).trans hhs
      have e22 : S1 (z + 10) = oI g 60 js := (fS1 (z + 10) (off_nr (x := z) (a := 10) (by decide)) (off_ne (x := z) (a := 10) (b := 3) (by decide)) (off_ne (x := z) (a := 10) (b := 5) (by decide)) (off_ne (x := z) (a := 10) (b := 9) (by decide))).trans hjs
      exact hret (some (.int (iI (-2)))) _ S1 _ _ _ _ hw (⟨rfl, rfl, ⟨_, _, _, _, _, _, _, _, _, _, _, _, _, hS1_0, e16, htx0, e17, hS1_1, e18, hS1_2, e19, e20, e21, hS1_3, e22, hS, hHi⟩, fun bb hbb  => (fS1 bb (by omega) (by omega) (by omega) (by omega))⟩) ⟨_, rfl, rfl, dX9_lay_18⟩

set_option maxHeartbeats 4000000 in
set_option maxRecDepth 100000 in
theorem c_M_lay_yes (l : Launch) (g : gG) {n : Nat} {S : Nat → gE} {z : Nat} {mAt mHC mRC mJC mCh mVi : Int} {stg hps nw js : Nat → Int} {rs : Nat → Int} {rows : rT} {hs sv : Nat → Int} {hist : List sT} {tz : Nat} {tx txa rst rhp nbs : Nat → Int} {f1 f2 f3 : Nat → Int} (hz : S z = oO 9 [.ref (z + 1), .int (iI (tz : Int)), .int (iI mAt), .ref (z + 2), .ref (z + 3), .ref (z + 4), .ref (z + 5), .int (iI mHC), .int (iI mRC), .ref (z + 6), .ref (z + 7), .ref (z + 8), .int (iI (hist.length : Int)), .ref (z + 9), .ref (z + 10), .int (iI mJC), .int (iI mCh), .int (iI mVi)]) (htx : S (z + 1) = oI g 200 txa) (hst : S (z + 2) = oI g 5 stg) (hrst : S (z + 3) = oI g 5 rst) (hhp : S (z + 4) = oI g 24 hps) (hrhp : S (z + 5) = oI g 24 rhp) (hnw : S (z + 6) = oI g 1249 nw) (hsv : S (z + 7) = oI g 1249 sv) (hhs : S (z + 8) = oI g 7494 hs) (hnb : S (z + 9) = oI g 3 nbs) (hjs : S (z + 10) = oI g 60 js) (rtz : tz ≤ 200) (htx0 : ∀ i : Nat, i < tz → txa i = tx i) (hM : goodM mHC stg hps) (hR : goodR mHC.toNat (mLn hps) (mBr hps) rs rows) (hS : mS nw rs rows) (hHi : mHi hs hist) (hHg : goodH mHC.toNat (mLn hps) (mBr hps) hist) (rtx : ∀ i : Nat, i < tz → 32 ≤ tx i ∧ tx i ≤ 126) (hb : (rdC tx tz 200 0 (0, f1, f2, f3, 100, 120, 6, 4, 0)).1 = -4 ∧ (rdC tx tz 200 0 (0, f1, f2, f3, 100, 120, 6, 4, 0)).2.1 ≠ 0) : g_Cs l yX9_lay wsX9_lay { frames := 5, cells := 0, slots := 0, locals := 110 } g [.ref z] n S (fun vr n1 S1 => vr = some (.int (iI ((rdC tx tz 200 0 (0, f1, f2, f3, 100, 120, 6, 4, 0)).2.1))) ∧ n = n1 ∧ MI g S1 z tz tx (rdC tx tz 200 0 (0, f1, f2, f3, 100, 120, 6, 4, 0)).2 (fun i => if (i : Int) < (rdC tx tz 200 0 (0, f1, f2, f3, 100, 120, 6, 4, 0)).2.1 then (rdC tx tz 200 0 (0, f1, f2, f3, 100, 120, 6, 4, 0)).2.2.2.2.1 i else 0) [] [] ∧ (∀ bb, (bb < z ∨ z + 11 ≤ bb) → S1 bb = S bb)) 0 0 := by
  refine g_Cs.of (cc := cX9_lay) (maxL := 1) (ret := (some .int)) (by decide) rfl (Nat.le_of_ble_eq_true rfl) ?_
  intro pp ee s m below meth cK Q H locs ls hc hnm hw hl hret
  have hl : lv_has ls 1 [(0, .ref z)] := hl
  have hiX9 : ∀ w ∈ u_ws RX9 TX9 18, w ∈ wsX9_lay := by decide +kernel
  have lk50 : Cond.fieldLink RX9 50 "RoofCoursesModel" "readCount" "I" ∈ wsX9_lay := by decide +kernel
  have lk54 : Cond.fieldLink RX9 54 "RoofCoursesModel" "heapCount" "I" ∈ wsX9_lay := by decide +kernel
  have hcg := rdC_cg htx0 200 0 ((0, f1, f2, f3, 100, 120, 6, 4, 0) : pT)
  have rtxa : ∀ i : Nat, i < tz → 32 ≤ txa i ∧ txa i ≤ 126 := fun i hi => by rw [htx0 i hi]; exact rtx i hi
  rw [← hcg] at hb
  refine lv_aload_n hc.1 hc.2.1 dX9_lay_0 rfl (lv_at hl 0 rfl) ?_
  refine nn_Vs (As := []) (st := []) hc hw hz rfl (c_X9_parse l g (f1 := f1) (f2 := f2) (f3 := f3) hz htx hrst hrhp hnb (rtz) (rtxa)) (cwV 0 hc.2.2.2.2 gX9_lay_X9_parse rfl rfl rfl (by decide +kernel) ⟨Nat.le_of_ble_eq_true rfl, Nat.le_of_ble_eq_true rfl⟩) rfl hl.1 rfl (Nat.le_of_ble_eq_true rfl) ⟨Nat.le_of_ble_eq_true rfl, Nat.le_of_ble_eq_true rfl⟩ dX9_lay_1 (fun vr n1 S1 H locs qS1 hw => ?_)
  obtain ⟨at9_2, rc9_3, rst9_4, rh9_5, nb9_6, rfl, rfl, hS1_0, hS1_1, hS1_2, hS1_3, kS1_0, fS1⟩ := qS1
  refine W.eq (g2 := F0 m 4 ls [.int (iI ((rdC txa tz 200 0 (0, f1, f2, f3, 100, 120, 6, 4, 0)).1))]) rfl ?_
  refine nn_bipush hc dX9_lay_4 (by decide +kernel) ?_
  refine nn_icmp_ne hc dX9_lay_6 (tgt := 16) (by decide) (by omega) (by decide) (fun c7 => ?_) (fun c7 => ?_)
  · exact absurd hb.1 c7
  · have hrel9 := kS1_0 hb.1
    have hrc9 := hrel9.1
    have hgd9 := rdC_good (tx := txa) (tl := tz) 200 0 (0, f1, f2, f3, 100, 120, 6, 4, 0) (goodP_0 f1 f2 f3)
    have hgd8 := hgd9.1
    refine lv_aload_n hc.1 hc.2.1 dX9_lay_9 rfl (lv_at hl 0 rfl) ?_
    refine nn_get hc hw hS1_0 hiX9 rfl 8 (by decide) rfl lk50 dX9_lay_10 ?_
    refine nn_if_ne hc dX9_lay_13 (tgt := 19) (by decide) (by omega) (fun c8 => ?_) (fun c8 => ?_)
    · refine lv_aload_n hc.1 hc.2.1 dX9_lay_19 rfl (lv_at hl 0 rfl) ?_
      have e9 : S1 (z + 2) = oI g 5 stg := (fS1 (z + 2) (off_nr (x := z) (a := 2) (by decide)) (off_ne (x := z) (a := 2) (b := 3) (by decide)) (off_ne (x := z) (a := 2) (b := 5) (by decide)) (off_ne (x := z) (a := 2) (b := 9) (by decide))).trans hst
      have e10 : S1 (z + 4) = oI g 24 hps := (fS1 (z + 4) (off_nr (x := z) (a := 4) (by decide)) (off_ne (x := z) (a := 4) (b := 3) (by decide)) (off_ne (x := z) (a := 4) (b := 5) (by decide)) (off_ne (x := z) (a := 4) (b := 9) (by decide))).trans hhp
      have e11 : S1 (z + 6) = oI g 1249 nw := (fS1 (z + 6) (off_nr (x := z) (a := 6) (by decide)) (off_ne (x := z) (a := 6) (b := 3) (by decide)) (off_ne (x := z) (a := 6) (b := 5) (by decide)) (off_ne (x := z) (a := 6) (b := 9) (by decide))).trans hnw
      refine nn_Vs (As := []) (st := []) hc hw hS1_0 rfl (c_X9_takeRead l g (P := ((rdC txa tz 200 0 (0, f1, f2, f3, 100, 120, 6, 4, 0)).2)) hS1_0 e9 hS1_1 e10 hS1_2 e11 (hgd9) (hrel9)) (cwV 0 hc.2.2.2.2 gX9_lay_X9_takeRead rfl rfl rfl (by decide +kernel) ⟨Nat.le_of_ble_eq_true rfl, Nat.le_of_ble_eq_true rfl⟩) rfl hl.1 rfl (Nat.le_of_ble_eq_true rfl) ⟨Nat.le_of_ble_eq_true rfl, Nat.le_of_ble_eq_true rfl⟩ dX9_lay_20 (fun vr n1 S12 H locs qS12 hw => ?_)
      obtain ⟨stg9_13, hps9_14, nw9_15, rfl, rfl, hS12_0, hS12_1, hS12_2, hS12_3, kS12_0, kS12_1, kS12_2, fS12⟩ := qS12
      refine W.eq (g2 := F0 m 23 ls []) rfl ?_
      refine lv_aload_n hc.1 hc.2.1 dX9_lay_23 rfl (lv_at hl 0 rfl) ?_
      refine nn_get hc hw hS12_0 hiX9 rfl 7 (by decide) rfl lk54 dX9_lay_24 ?_
      have e16 : S1 (z + 1) = oI g 200 txa := (fS1 (z + 1) (off_nr (x := z) (a := 1) (by decide)) (off_ne (x := z) (a := 1) (b := 3) (by decide)) (off_ne (x := z) (a := 1) (b := 5) (by decide)) (off_ne (x := z) (a := 1) (b := 9) (by decide))).trans htx
      have e17 : S12 (z + 1) = oI g 200 txa := (fS12 (z + 1) (off_nr (x := z) (a := 1) (by decide)) (off_ne (x := z) (a := 1) (b := 2) (by decide)) (off_ne (x := z) (a := 1) (b := 4) (by decide)) (off_ne (x := z) (a := 1) (b := 6) (by decide))).trans e16
      have e18 : S12 (z + 3) = oI g 5 rst9_4 := (fS12 (z + 3) (off_nr (x := z) (a := 3) (by decide)) (off_ne (x := z) (a := 3) (b := 2) (by decide)) (off_ne (x := z) (a := 3) (b := 4) (by decide)) (off_ne (x := z) (a := 3) (b := 6) (by decide))).trans hS1_1
      have e19 : S12 (z + 5) = oI g 24 rh9_5 := (fS12 (z + 5) (off_nr (x := z) (a := 5) (by decide)) (off_ne (x := z) (a := 5) (b := 2) (by decide)) (off_ne (x := z) (a := 5) (b := 4) (by decide)) (off_ne (x := z) (a := 5) (b := 6) (by decide))).trans hS1_2
      have e20 : S1 (z + 7) = oI g 1249 sv := (fS1 (z + 7) (off_nr (x := z) (a := 7) (by decide)) (off_ne (x := z) (a := 7) (b := 3) (by decide)) (off_ne (x := z) (a := 7) (b := 5) (by decide)) (off_ne (x := z) (a := 7) (b := 9) (by decide))).trans hsv
      have e21 : S12 (z + 7) = oI g 1249 sv := (fS12 (z + 7) (off_nr (x := z) (a := 7) (by decide)) (off_ne (x := z) (a := 7) (b := 2) (by decide)) (off_ne (x := z) (a := 7) (b := 4) (by decide)) (off_ne (x := z) (a := 7) (b := 6) (by decide))).trans e20
      have e22 : S1 (z + 8) = oI g 7494 hs := (fS1 (z + 8) (off_nr (x := z) (a := 8) (by decide)) (off_ne (x := z) (a := 8) (b := 3) (by decide)) (off_ne (x := z) (a := 8) (b := 5) (by decide)) (off_ne (x := z) (a := 8) (b := 9) (by decide))).trans hhs
      have e23 : S12 (z + 8) = oI g 7494 hs := (fS12 (z + 8) (off_nr (x := z) (a := 8) (by decide)) (off_ne (x := z) (a := 8) (b := 2) (by decide)) (off_ne (x := z) (a := 8) (b := 4) (by decide)) (off_ne (x := z) (a := 8) (b := 6) (by decide))).trans e22
      have e24 : S12 (z + 9) = oI g 3 nb9_6 := (fS12 (z + 9) (off_nr (x := z) (a := 9) (by decide)) (off_ne (x := z) (a := 9) (b := 2) (by decide)) (off_ne (x := z) (a := 9) (b := 4) (by decide)) (off_ne (x := z) (a := 9) (b := 6) (by decide))).trans hS1_3
      have e25 : S1 (z + 10) = oI g 60 js := (fS1 (z + 10) (off_nr (x := z) (a := 10) (by decide)) (off_ne (x := z) (a := 10) (b := 3) (by decide)) (off_ne (x := z) (a := 10) (b := 5) (by decide)) (off_ne (x := z) (a := 10) (b := 9) (by decide))).trans hjs
      have e26 : S12 (z + 10) = oI g 60 js := (fS12 (z + 10) (off_nr (x := z) (a := 10) (by decide)) (off_ne (x := z) (a := 10) (b := 2) (by decide)) (off_ne (x := z) (a := 10) (b := 4) (by decide)) (off_ne (x := z) (a := 10) (b := 6) (by decide))).trans e25
      exact hret (some (.int (iI rc9_3))) _ S12 _ _ _ _ hw (⟨(by rw [hrc9, hcg]), rfl, (by rw [← hcg]; exact ⟨_, _, _, mP_of hrel9 kS12_0 kS12_1, ⟨_, _, _, _, _, _, _, _, _, _, _, _, _, hS12_0, e17, htx0, hS12_1, e18, hS12_2, e19, hS12_3, e21, e23, e24, e26, kS12_2, mHi_0⟩⟩), fun bb hbb  => ((fS12 bb (by omega) (by omega) (by omega) (by omega))).trans (fS1 bb (by omega) (by omega) (by omega) (by omega))⟩) ⟨_, rfl, rfl, dX9_lay_27⟩
    · exfalso; omega

set_option maxHeartbeats 4000000 in
set_option maxRecDepth 100000 in
theorem c_M_init (l : Launch) (g : gG) {S : Nat → gE} {z : Nat} {tx : Nat → Int} (hz : S z = oO 9 [.null, .int (iI 0), .int (iI 0), .null, .null, .null, .null, .int (iI 0), .int (iI 0), .null, .null, .null, .int (iI 0), .null, .null, .int (iI 0), .int (iI 0), .int (iI 0)])  : g_Cs l yX9_init wsX9_init { frames := 1, cells := 10, slots := 10313, locals := 24 } g [.ref z] (z + 1) S (fun vr n1 S1 => vr = none ∧ z + 11 = n1 ∧ MI g S1 z 0 tx ip8 (fun i => if (i : Int) < ip8.1 then ip8.2.2.2.1 i else 0) [] [] ∧ (∀ bb, bb < z → S1 bb = S bb)) 10 10313 := by
  refine g_Cs.of (cc := cX9_init) (maxL := 1) (ret := none) (by decide) rfl (Nat.le_of_ble_eq_true rfl) ?_
  intro pp ee s m below meth cK Q H locs ls hc hnm hw hl hret
  have hl : lv_has ls 1 [(0, .ref z)] := hl
  have hiX9 : ∀ w ∈ u_ws RX9 TX9 18, w ∈ wsX9_init := by decide +kernel
  have lkO : Cond.methodLink RX9 1 objectInit ∈ wsX9_init := by decide +kernel
  have lkOi : Cond.instanceMethod objectInit ∈ wsX9_init := by decide +kernel
  have lkOc : Cond.code objectInit ⟨#[0xb1]⟩ 1 none ∈ wsX9_init := by decide +kernel
  have lkAint : Cond.arrayClass .int ∈ wsX9_init := by decide +kernel
  have lk7 : Cond.fieldLink RX9 7 "RoofCoursesModel" "text" "[I" ∈ wsX9_init := by decide +kernel
  have lk13 : Cond.fieldLink RX9 13 "RoofCoursesModel" "settings" "[I" ∈ wsX9_init := by decide +kernel
  have lk16 : Cond.fieldLink RX9 16 "RoofCoursesModel" "readSettings" "[I" ∈ wsX9_init := by decide +kernel
  have lk19 : Cond.fieldLink RX9 19 "RoofCoursesModel" "heaps" "[I" ∈ wsX9_init := by decide +kernel
  have lk22 : Cond.fieldLink RX9 22 "RoofCoursesModel" "readHeaps" "[I" ∈ wsX9_init := by decide +kernel
  have lk25 : Cond.fieldLink RX9 25 "RoofCoursesModel" "now" "[I" ∈ wsX9_init := by decide +kernel
  have lk28 : Cond.fieldLink RX9 28 "RoofCoursesModel" "saved" "[I" ∈ wsX9_init := by decide +kernel
  have lk31 : Cond.fieldLink RX9 31 "RoofCoursesModel" "history" "[I" ∈ wsX9_init := by decide +kernel
  have lk34 : Cond.fieldLink RX9 34 "RoofCoursesModel" "numbers" "[I" ∈ wsX9_init := by decide +kernel
  have lk37 : Cond.fieldLink RX9 37 "RoofCoursesModel" "joints" "[I" ∈ wsX9_init := by decide +kernel
  refine lv_aload_n hc.1 hc.2.1 dX9_init_0 rfl (lv_at hl 0 rfl) ?_
  refine W.objInit hc.1 hc.2.1 hc.2.2.2.1 (hc.2.2.2.2 _ lkO) (hc.2.2.2.2 _ lkOi) (hc.2.2.2.2 _ lkOc) rfl (by rw [hc.2.2.1]; exact hl.1) rfl dX9_init_1 (Nat.le_of_ble_eq_true rfl) (Nat.le_of_ble_eq_true rfl) ?_
  refine W.eq (g2 := F0 m 4 ls []) rfl ?_
  refine lv_aload_n hc.1 hc.2.1 dX9_init_4 rfl (lv_at hl 0 rfl) ?_
  refine nn_sipush hc dX9_init_5 (by decide +kernel) ?_
  refine nn_newI (N := 200) hc hw lkAint (by decide) rfl (Nat.le_of_ble_eq_true rfl) (Nat.le_of_ble_eq_true rfl) (Nat.le_of_ble_eq_true rfl) dX9_init_8 (fun S1 H hS1 fS1 hw => ?_)
  have hS1 : S1 (z + 1) = oI g 200 (fun _ => 0) := hS1
  have hw : g_W g (z + 2) S1 s H locs := hw
  refine W.cs (cells' := 1) (slots' := 200) (by decide) (by decide) ?_
  have e2 : S1 z = oO 9 [.null, .int (iI 0), .int (iI 0), .null, .null, .null, .null, .int (iI 0), .int (iI 0), .null, .null, .null, .int (iI 0), .null, .null, .int (iI 0), .int (iI 0), .int (iI 0)] := (fS1 z (off_nl (x := z) (a := 1) (by decide))).trans hz
  refine nn_putF hc hnm hw e2 hiX9 tyX9 tyX9_ok nmX9 rfl 0 (by decide) (Nat.le_of_ble_eq_true rfl) lk7 rfl rfl rfl rfl dX9_init_10 (fun S3 H locs hS3 fS3 hw => ?_)
  have hS3 : S3 z = oO 9 [.ref (z + 1), .int (iI 0), .int (iI 0), .null, .null, .null, .null, .int (iI 0), .int (iI 0), .null, .null, .null, .int (iI 0), .null, .null, .int (iI 0), .int (iI 0), .int (iI 0)] := hS3
  refine lv_aload_n hc.1 hc.2.1 dX9_init_13 rfl (lv_at hl 0 rfl) ?_
  refine nn_iconst hc dX9_init_14 ?_
  refine nn_newI (N := 5) hc hw lkAint (by decide) rfl (Nat.le_of_ble_eq_true rfl) (Nat.le_of_ble_eq_true rfl) (Nat.le_of_ble_eq_true rfl) dX9_init_15 (fun S4 H hS4 fS4 hw => ?_)
  have hS4 : S4 (z + 2) = oI g 5 (fun _ => 0) := hS4
  have hw : g_W g (z + 3) S4 s H locs := hw
  refine W.cs (cells' := 2) (slots' := 205) (by decide) (by decide) ?_
  have e5 : S4 z = oO 9 [.ref (z + 1), .int (iI 0), .int (iI 0), .null, .null, .null, .null, .int (iI 0), .int (iI 0), .null, .null, .null, .int (iI 0), .null, .null, .int (iI 0), .int (iI 0), .int (iI 0)] := (fS4 z (off_nl (x := z) (a := 2) (by decide))).trans hS3
  refine nn_putF hc hnm hw e5 hiX9 tyX9 tyX9_ok nmX9 rfl 3 (by decide) (Nat.le_of_ble_eq_true rfl) lk13 rfl rfl rfl rfl dX9_init_17 (fun S6 H locs hS6 fS6 hw => ?_)
  have hS6 : S6 z = oO 9 [.ref (z + 1), .int (iI 0), .int (iI 0), .ref (z + 2), .null, .null, .null, .int (iI 0), .int (iI 0), .null, .null, .null, .int (iI 0), .null, .null, .int (iI 0), .int (iI 0), .int (iI 0)] := hS6
  refine lv_aload_n hc.1 hc.2.1 dX9_init_20 rfl (lv_at hl 0 rfl) ?_
  refine nn_iconst hc dX9_init_21 ?_
  refine nn_newI (N := 5) hc hw lkAint (by decide) rfl (Nat.le_of_ble_eq_true rfl) (Nat.le_of_ble_eq_true rfl) (Nat.le_of_ble_eq_true rfl) dX9_init_22 (fun S7 H hS7 fS7 hw => ?_)
  have hS7 : S7 (z + 3) = oI g 5 (fun _ => 0) := hS7
  have hw : g_W g (z + 4) S7 s H locs := hw
  refine W.cs (cells' := 3) (slots' := 210) (by decide) (by decide) ?_
  have e8 : S7 z = oO 9 [.ref (z + 1), .int (iI 0), .int (iI 0), .ref (z + 2), .null, .null, .null, .int (iI 0), .int (iI 0), .null, .null, .null, .int (iI 0), .null, .null, .int (iI 0), .int (iI 0), .int (iI 0)] := (fS7 z (off_nl (x := z) (a := 3) (by decide))).trans hS6
  refine nn_putF hc hnm hw e8 hiX9 tyX9 tyX9_ok nmX9 rfl 4 (by decide) (Nat.le_of_ble_eq_true rfl) lk16 rfl rfl rfl rfl dX9_init_24 (fun S9 H locs hS9 fS9 hw => ?_)
  have hS9 : S9 z = oO 9 [.ref (z + 1), .int (iI 0), .int (iI 0), .ref (z + 2), .ref (z + 3), .null, .null, .int (iI 0), .int (iI 0), .null, .null, .null, .int (iI 0), .null, .null, .int (iI 0), .int (iI 0), .int (iI 0)] := hS9
  refine lv_aload_n hc.1 hc.2.1 dX9_init_27 rfl (lv_at hl 0 rfl) ?_
  refine nn_bipush hc dX9_init_28 (by decide +kernel) ?_
  refine nn_newI (N := 24) hc hw lkAint (by decide) rfl (Nat.le_of_ble_eq_true rfl) (Nat.le_of_ble_eq_true rfl) (Nat.le_of_ble_eq_true rfl) dX9_init_30 (fun S10 H hS10 fS10 hw => ?_)
  have hS10 : S10 (z + 4) = oI g 24 (fun _ => 0) := hS10
  have hw : g_W g (z + 5) S10 s H locs := hw
  refine W.cs (cells' := 4) (slots' := 234) (by decide) (by decide) ?_
  have e11 : S10 z = oO 9 [.ref (z + 1), .int (iI 0), .int (iI 0), .ref (z + 2), .ref (z + 3), .null, .null, .int (iI 0), .int (iI 0), .null, .null, .null, .int (iI 0), .null, .null, .int (iI 0), .int (iI 0), .int (iI 0)] := (fS10 z (off_nl (x := z) (a := 4) (by decide))).trans hS9
  refine nn_putF hc hnm hw e11 hiX9 tyX9 tyX9_ok nmX9 rfl 5 (by decide) (Nat.le_of_ble_eq_true rfl) lk19 rfl rfl rfl rfl dX9_init_32 (fun S12 H locs hS12 fS12 hw => ?_)
  have hS12 : S12 z = oO 9 [.ref (z + 1), .int (iI 0), .int (iI 0), .ref (z + 2), .ref (z + 3), .ref (z + 4), .null, .int (iI 0), .int (iI 0), .null, .null, .null, .int (iI 0), .null, .null, .int (iI 0), .int (iI 0), .int (iI 0)] := hS12
  refine lv_aload_n hc.1 hc.2.1 dX9_init_35 rfl (lv_at hl 0 rfl) ?_
  refine nn_bipush hc dX9_init_36 (by decide +kernel) ?_
  refine nn_newI (N := 24) hc hw lkAint (by decide) rfl (Nat.le_of_ble_eq_true rfl) (Nat.le_of_ble_eq_true rfl) (Nat.le_of_ble_eq_true rfl) dX9_init_38 (fun S13 H hS13 fS13 hw => ?_)
  have hS13 : S13 (z + 5) = oI g 24 (fun _ => 0) := hS13
  have hw : g_W g (z + 6) S13 s H locs := hw
  refine W.cs (cells' := 5) (slots' := 258) (by decide) (by decide) ?_
  have e14 : S13 z = oO 9 [.ref (z + 1), .int (iI 0), .int (iI 0), .ref (z + 2), .ref (z + 3), .ref (z + 4), .null, .int (iI 0), .int (iI 0), .null, .null, .null, .int (iI 0), .null, .null, .int (iI 0), .int (iI 0), .int (iI 0)] := (fS13 z (off_nl (x := z) (a := 5) (by decide))).trans hS12
  refine nn_putF hc hnm hw e14 hiX9 tyX9 tyX9_ok nmX9 rfl 6 (by decide) (Nat.le_of_ble_eq_true rfl) lk22 rfl rfl rfl rfl dX9_init_40 (fun S15 H locs hS15 fS15 hw => ?_)
  have hS15 : S15 z = oO 9 [.ref (z + 1), .int (iI 0), .int (iI 0), .ref (z + 2), .ref (z + 3), .ref (z + 4), .ref (z + 5), .int (iI 0), .int (iI 0), .null, .null, .null, .int (iI 0), .null, .null, .int (iI 0), .int (iI 0), .int (iI 0)] := hS15
  refine lv_aload_n hc.1 hc.2.1 dX9_init_43 rfl (lv_at hl 0 rfl) ?_
  refine nn_sipush hc dX9_init_44 (by decide +kernel) ?_
  refine nn_newI (N := 1249) hc hw lkAint (by decide) rfl (Nat.le_of_ble_eq_true rfl) (Nat.le_of_ble_eq_true rfl) (Nat.le_of_ble_eq_true rfl) dX9_init_47 (fun S16 H hS16 fS16 hw => ?_)
  have hS16 : S16 (z + 6) = oI g 1249 (fun _ => 0) := hS16
  have hw : g_W g (z + 7) S16 s H locs := hw
  refine W.cs (cells' := 6) (slots' := 1507) (by decide) (by decide) ?_
  have e17 : S16 z = oO 9 [.ref (z + 1), .int (iI 0), .int (iI 0), .ref (z + 2), .ref (z + 3), .ref (z + 4), .ref (z + 5), .int (iI 0), .int (iI 0), .null, .null, .null, .int (iI 0), .null, .null, .int (iI 0), .int (iI 0), .int (iI 0)] := (fS16 z (off_nl (x := z) (a := 6) (by decide))).trans hS15
  refine nn_putF hc hnm hw e17 hiX9 tyX9 tyX9_ok nmX9 rfl 9 (by decide) (Nat.le_of_ble_eq_true rfl) lk25 rfl rfl rfl rfl dX9_init_49 (fun S18 H locs hS18 fS18 hw => ?_)
  have hS18 : S18 z = oO 9 [.ref (z + 1), .int (iI 0), .int (iI 0), .ref (z + 2), .ref (z + 3), .ref (z + 4), .ref (z + 5), .int (iI 0), .int (iI 0), .ref (z + 6), .null, .null, .int (iI 0), .null, .null, .int (iI 0), .int (iI 0), .int (iI 0)] := hS18
  refine lv_aload_n hc.1 hc.2.1 dX9_init_52 rfl (lv_at hl 0 rfl) ?_
  refine nn_sipush hc dX9_init_53 (by decide +kernel) ?_
  refine nn_newI (N := 1249) hc hw lkAint (by decide) rfl (Nat.le_of_ble_eq_true rfl) (Nat.le_of_ble_eq_true rfl) (Nat.le_of_ble_eq_true rfl) dX9_init_56 (fun S19 H hS19 fS19 hw => ?_)
  have hS19 : S19 (z + 7) = oI g 1249 (fun _ => 0) := hS19
  have hw : g_W g (z + 8) S19 s H locs := hw
  refine W.cs (cells' := 7) (slots' := 2756) (by decide) (by decide) ?_
  have e20 : S19 z = oO 9 [.ref (z + 1), .int (iI 0), .int (iI 0), .ref (z + 2), .ref (z + 3), .ref (z + 4), .ref (z + 5), .int (iI 0), .int (iI 0), .ref (z + 6), .null, .null, .int (iI 0), .null, .null, .int (iI 0), .int (iI 0), .int (iI 0)] := (fS19 z (off_nl (x := z) (a := 7) (by decide))).trans hS18
  refine nn_putF hc hnm hw e20 hiX9 tyX9 tyX9_ok nmX9 rfl 10 (by decide) (Nat.le_of_ble_eq_true rfl) lk28 rfl rfl rfl rfl dX9_init_58 (fun S21 H locs hS21 fS21 hw => ?_)
  have hS21 : S21 z = oO 9 [.ref (z + 1), .int (iI 0), .int (iI 0), .ref (z + 2), .ref (z + 3), .ref (z + 4), .ref (z + 5), .int (iI 0), .int (iI 0), .ref (z + 6), .ref (z + 7), .null, .int (iI 0), .null, .null, .int (iI 0), .int (iI 0), .int (iI 0)] := hS21
  refine lv_aload_n hc.1 hc.2.1 dX9_init_61 rfl (lv_at hl 0 rfl) ?_
  refine nn_sipush hc dX9_init_62 (by decide +kernel) ?_
  refine nn_newI (N := 7494) hc hw lkAint (by decide) rfl (Nat.le_of_ble_eq_true rfl) (Nat.le_of_ble_eq_true rfl) (Nat.le_of_ble_eq_true rfl) dX9_init_65 (fun S22 H hS22 fS22 hw => ?_)
  have hS22 : S22 (z + 8) = oI g 7494 (fun _ => 0) := hS22
  have hw : g_W g (z + 9) S22 s H locs := hw
  refine W.cs (cells' := 8) (slots' := 10250) (by decide) (by decide) ?_
  have e23 : S22 z = oO 9 [.ref (z + 1), .int (iI 0), .int (iI 0), .ref (z + 2), .ref (z + 3), .ref (z + 4), .ref (z + 5), .int (iI 0), .int (iI 0), .ref (z + 6), .ref (z + 7), .null, .int (iI 0), .null, .null, .int (iI 0), .int (iI 0), .int (iI 0)] := (fS22 z (off_nl (x := z) (a := 8) (by decide))).trans hS21
  refine nn_putF hc hnm hw e23 hiX9 tyX9 tyX9_ok nmX9 rfl 11 (by decide) (Nat.le_of_ble_eq_true rfl) lk31 rfl rfl rfl rfl dX9_init_67 (fun S24 H locs hS24 fS24 hw => ?_)
  have hS24 : S24 z = oO 9 [.ref (z + 1), .int (iI 0), .int (iI 0), .ref (z + 2), .ref (z + 3), .ref (z + 4), .ref (z + 5), .int (iI 0), .int (iI 0), .ref (z + 6), .ref (z + 7), .ref (z + 8), .int (iI 0), .null, .null, .int (iI 0), .int (iI 0), .int (iI 0)] := hS24
  refine lv_aload_n hc.1 hc.2.1 dX9_init_70 rfl (lv_at hl 0 rfl) ?_
  refine nn_iconst hc dX9_init_71 ?_
  refine nn_newI (N := 3) hc hw lkAint (by decide) rfl (Nat.le_of_ble_eq_true rfl) (Nat.le_of_ble_eq_true rfl) (Nat.le_of_ble_eq_true rfl) dX9_init_72 (fun S25 H hS25 fS25 hw => ?_)
  have hS25 : S25 (z + 9) = oI g 3 (fun _ => 0) := hS25
  have hw : g_W g (z + 10) S25 s H locs := hw
  refine W.cs (cells' := 9) (slots' := 10253) (by decide) (by decide) ?_
  have e26 : S25 z = oO 9 [.ref (z + 1), .int (iI 0), .int (iI 0), .ref (z + 2), .ref (z + 3), .ref (z + 4), .ref (z + 5), .int (iI 0), .int (iI 0), .ref (z + 6), .ref (z + 7), .ref (z + 8), .int (iI 0), .null, .null, .int (iI 0), .int (iI 0), .int (iI 0)] := (fS25 z (off_nl (x := z) (a := 9) (by decide))).trans hS24
  refine nn_putF hc hnm hw e26 hiX9 tyX9 tyX9_ok nmX9 rfl 13 (by decide) (Nat.le_of_ble_eq_true rfl) lk34 rfl rfl rfl rfl dX9_init_74 (fun S27 H locs hS27 fS27 hw => ?_)
  have hS27 : S27 z = oO 9 [.ref (z + 1), .int (iI 0), .int (iI 0), .ref (z + 2), .ref (z + 3), .ref (z + 4), .ref (z + 5), .int (iI 0), .int (iI 0), .ref (z + 6), .ref (z + 7), .ref (z + 8), .int (iI 0), .ref (z + 9), .null, .int (iI 0), .int (iI 0), .int (iI 0)] := hS27
  refine lv_aload_n hc.1 hc.2.1 dX9_init_77 rfl (lv_at hl 0 rfl) ?_
  refine nn_bipush hc dX9_init_78 (by decide +kernel) ?_
  refine nn_newI (N := 60) hc hw lkAint (by decide) rfl (Nat.le_of_ble_eq_true rfl) (Nat.le_of_ble_eq_true rfl) (Nat.le_of_ble_eq_true rfl) dX9_init_80 (fun S28 H hS28 fS28 hw => ?_)
  have hS28 : S28 (z + 10) = oI g 60 (fun _ => 0) := hS28
  have hw : g_W g (z + 11) S28 s H locs := hw
  refine W.cs (cells' := 10) (slots' := 10313) (by decide) (by decide) ?_
  have e29 : S28 z = oO 9 [.ref (z + 1), .int (iI 0), .int (iI 0), .ref (z + 2), .ref (z + 3), .ref (z + 4), .ref (z + 5), .int (iI 0), .int (iI 0), .ref (z + 6), .ref (z + 7), .ref (z + 8), .int (iI 0), .ref (z + 9), .null, .int (iI 0), .int (iI 0), .int (iI 0)] := (fS28 z (off_nl (x := z) (a := 10) (by decide))).trans hS27
  refine nn_putF hc hnm hw e29 hiX9 tyX9 tyX9_ok nmX9 rfl 14 (by decide) (Nat.le_of_ble_eq_true rfl) lk37 rfl rfl rfl rfl dX9_init_82 (fun S30 H locs hS30 fS30 hw => ?_)
  have hS30 : S30 z = oO 9 [.ref (z + 1), .int (iI 0), .int (iI 0), .ref (z + 2), .ref (z + 3), .ref (z + 4), .ref (z + 5), .int (iI 0), .int (iI 0), .ref (z + 6), .ref (z + 7), .ref (z + 8), .int (iI 0), .ref (z + 9), .ref (z + 10), .int (iI 0), .int (iI 0), .int (iI 0)] := hS30
  refine lv_aload_n hc.1 hc.2.1 dX9_init_85 rfl (lv_at hl 0 rfl) ?_
  have e31 : S9 (z + 3) = oI g 5 (fun _ => 0) := (fS9 (z + 3) (off_nr (x := z) (a := 3) (by decide))).trans hS7
  have e32 : S10 (z + 3) = oI g 5 (fun _ => 0) := (fS10 (z + 3) (off_ne (x := z) (a := 3) (b := 4) (by decide))).trans e31
  have e33 : S12 (z + 3) = oI g 5 (fun _ => 0) := (fS12 (z + 3) (off_nr (x := z) (a := 3) (by decide))).trans e32
  have e34 : S13 (z + 3) = oI g 5 (fun _ => 0) := (fS13 (z + 3) (off_ne (x := z) (a := 3) (b := 5) (by decide))).trans e33
  have e35 : S15 (z + 3) = oI g 5 (fun _ => 0) := (fS15 (z + 3) (off_nr (x := z) (a := 3) (by decide))).trans e34
  have e36 : S16 (z + 3) = oI g 5 (fun _ => 0) := (fS16 (z + 3) (off_ne (x := z) (a := 3) (b := 6) (by decide))).trans e35
  have e37 : S18 (z + 3) = oI g 5 (fun _ => 0) := (fS18 (z + 3) (off_nr (x := z) (a := 3) (by decide))).trans e36
  have e38 : S19 (z + 3) = oI g 5 (fun _ => 0) := (fS19 (z + 3) (off_ne (x := z) (a := 3) (b := 7) (by decide))).trans e37
  have e39 : S21 (z + 3) = oI g 5 (fun _ => 0) := (fS21 (z + 3) (off_nr (x := z) (a := 3) (by decide))).trans e38
  have e40 : S22 (z + 3) = oI g 5 (fun _ => 0) := (fS22 (z + 3) (off_ne (x := z) (a := 3) (b := 8) (by decide))).trans e39
  have e41 : S24 (z + 3) = oI g 5 (fun _ => 0) := (fS24 (z + 3) (off_nr (x := z) (a := 3) (by decide))).trans e40
  have e42 : S25 (z + 3) = oI g 5 (fun _ => 0) := (fS25 (z + 3) (off_ne (x := z) (a := 3) (b := 9) (by decide))).trans e41
  have e43 : S27 (z + 3) = oI g 5 (fun _ => 0) := (fS27 (z + 3) (off_nr (x := z) (a := 3) (by decide))).trans e42
  have e44 : S28 (z + 3) = oI g 5 (fun _ => 0) := (fS28 (z + 3) (off_ne (x := z) (a := 3) (b := 10) (by decide))).trans e43
  have e45 : S30 (z + 3) = oI g 5 (fun _ => 0) := (fS30 (z + 3) (off_nr (x := z) (a := 3) (by decide))).trans e44
  refine nn_Vs (As := []) (st := []) hc hw hS30 rfl (c_X9_beginRead l g  hS30 e45 ) (cwV 0 hc.2.2.2.2 gX9_init_X9_beginRead rfl rfl rfl (by decide +kernel) ⟨Nat.le_of_ble_eq_true rfl, Nat.le_of_ble_eq_true rfl⟩) rfl hl.1 rfl (Nat.le_of_ble_eq_true rfl) ⟨Nat.le_of_ble_eq_true rfl, Nat.le_of_ble_eq_true rfl⟩ dX9_init_86 (fun vr n1 S46 H locs qS46 hw => ?_)
  obtain ⟨rst9_47, rfl, rfl, hS46_0, hS46_1, kS46_0, fS46⟩ := qS46
  refine W.eq (g2 := F0 m 89 ls []) rfl ?_
  have e48 : S15 (z + 5) = oI g 24 (fun _ => 0) := (fS15 (z + 5) (off_nr (x := z) (a := 5) (by decide))).trans hS13
  have e49 : S16 (z + 5) = oI g 24 (fun _ => 0) := (fS16 (z + 5) (off_ne (x := z) (a := 5) (b := 6) (by decide))).trans e48
  have e50 : S18 (z + 5) = oI g 24 (fun _ => 0) := (fS18 (z + 5) (off_nr (x := z) (a := 5) (by decide))).trans e49
  have e51 : S19 (z + 5) = oI g 24 (fun _ => 0) := (fS19 (z + 5) (off_ne (x := z) (a := 5) (b := 7) (by decide))).trans e50
  have e52 : S21 (z + 5) = oI g 24 (fun _ => 0) := (fS21 (z + 5) (off_nr (x := z) (a := 5) (by decide))).trans e51
  have e53 : S22 (z + 5) = oI g 24 (fun _ => 0) := (fS22 (z + 5) (off_ne (x := z) (a := 5) (b := 8) (by decide))).trans e52
  have e54 : S24 (z + 5) = oI g 24 (fun _ => 0) := (fS24 (z + 5) (off_nr (x := z) (a := 5) (by decide))).trans e53
  have e55 : S25 (z + 5) = oI g 24 (fun _ => 0) := (fS25 (z + 5) (off_ne (x := z) (a := 5) (b := 9) (by decide))).trans e54
  have e56 : S27 (z + 5) = oI g 24 (fun _ => 0) := (fS27 (z + 5) (off_nr (x := z) (a := 5) (by decide))).trans e55
  have e57 : S28 (z + 5) = oI g 24 (fun _ => 0) := (fS28 (z + 5) (off_ne (x := z) (a := 5) (b := 10) (by decide))).trans e56
  have e58 : S30 (z + 5) = oI g 24 (fun _ => 0) := (fS30 (z + 5) (off_nr (x := z) (a := 5) (by decide))).trans e57
  have e59 : S46 (z + 5) = oI g 24 (fun _ => 0) := (fS46 (z + 5) (off_nr (x := z) (a := 5) (by decide)) (off_ne (x := z) (a := 5) (b := 3) (by decide))).trans e58
  have hr0 : relP 0 ((fun _ => 0)) (rst9_47) ip0 := relP_0 kS46_0
  refine lv_aload_n hc.1 hc.2.1 dX9_init_89 rfl (lv_at hl 0 rfl) ?_
  refine nn_bipush hc dX9_init_90 (by decide +kernel) ?_
  refine nn_bipush hc dX9_init_92 (by decide +kernel) ?_
  refine nn_bipush hc dX9_init_94 (by decide +kernel) ?_
  refine nn_Vs (As := [.int (iI 40), .int (iI 30), .int (iI 30)]) (st := []) hc hw hS46_0 rfl (c_X9_addHeap_yes l g  hS46_0 e59 (by decide) (by decide) (by decide) (ig0) (hr0) (ia1)) (cwV 3 hc.2.2.2.2 gX9_init_X9_addHeap rfl rfl rfl (by decide +kernel) ⟨Nat.le_of_ble_eq_true rfl, Nat.le_of_ble_eq_true rfl⟩) rfl hl.1 rfl (Nat.le_of_ble_eq_true rfl) ⟨Nat.le_of_ble_eq_true rfl, Nat.le_of_ble_eq_true rfl⟩ dX9_init_96 (fun vr n1 S60 H locs qS60 hw => ?_)
  obtain ⟨rh9_61, rc9_62, rfl, rfl, hS60_0, hS60_1, kS60_0, fS60⟩ := qS60
  refine W.eq (g2 := F0 m 99 ls [.int (iI 1)]) rfl ?_
  have hr1 := kS60_0
  refine lv_pop hc.1 hc.2.1 dX9_init_99 rfl ?_
  refine lv_aload_n hc.1 hc.2.1 dX9_init_100 rfl (lv_at hl 0 rfl) ?_
  refine nn_bipush hc dX9_init_101 (by decide +kernel) ?_
  refine nn_bipush hc dX9_init_103 (by decide +kernel) ?_
  refine nn_bipush hc dX9_init_105 (by decide +kernel) ?_
  refine nn_Vs (As := [.int (iI 40), .int (iI 22), .int (iI 30)]) (st := []) hc hw hS60_0 rfl (c_X9_addHeap_yes l g  hS60_0 hS60_1 (by decide) (by decide) (by decide) (ig1) (hr1) (ia2)) (cwV 3 hc.2.2.2.2 gX9_init_X9_addHeap rfl rfl rfl (by decide +kernel) ⟨Nat.le_of_ble_eq_true rfl, Nat.le_of_ble_eq_true rfl⟩) rfl hl.1 rfl (Nat.le_of_ble_eq_true rfl) ⟨Nat.le_of_ble_eq_true rfl, Nat.le_of_ble_eq_true rfl⟩ dX9_init_107 (fun vr n1 S63 H locs qS63 hw => ?_)
  obtain ⟨rh9_64, rc9_65, rfl, rfl, hS63_0, hS63_1, kS63_0, fS63⟩ := qS63
  refine W.eq (g2 := F0 m 110 ls [.int (iI 1)]) rfl ?_
  have hr2 := kS63_0
  refine lv_pop hc.1 hc.2.1 dX9_init_110 rfl ?_
  refine lv_aload_n hc.1 hc.2.1 dX9_init_111 rfl (lv_at hl 0 rfl) ?_
  refine nn_bipush hc dX9_init_112 (by decide +kernel) ?_
  refine nn_bipush hc dX9_init_114 (by decide +kernel) ?_
  refine nn_bipush hc dX9_init_116 (by decide +kernel) ?_
  refine nn_Vs (As := [.int (iI 40), .int (iI 17), .int (iI 9)]) (st := []) hc hw hS63_0 rfl (c_X9_addHeap_yes l g  hS63_0 hS63_1 (by decide) (by decide) (by decide) (ig2) (hr2) (ia3)) (cwV 3 hc.2.2.2.2 gX9_init_X9_addHeap rfl rfl rfl (by decide +kernel) ⟨Nat.le_of_ble_eq_true rfl, Nat.le_of_ble_eq_true rfl⟩) rfl hl.1 rfl (Nat.le_of_ble_eq_true rfl) ⟨Nat.le_of_ble_eq_true rfl, Nat.le_of_ble_eq_true rfl⟩ dX9_init_118 (fun vr n1 S66 H locs qS66 hw => ?_)
  obtain ⟨rh9_67, rc9_68, rfl, rfl, hS66_0, hS66_1, kS66_0, fS66⟩ := qS66
  refine W.eq (g2 := F0 m 121 ls [.int (iI 1)]) rfl ?_
  have hr3 := kS66_0
  refine lv_pop hc.1 hc.2.1 dX9_init_121 rfl ?_
  refine lv_aload_n hc.1 hc.2.1 dX9_init_122 rfl (lv_at hl 0 rfl) ?_
  refine nn_bipush hc dX9_init_123 (by decide +kernel) ?_
  refine nn_bipush hc dX9_init_125 (by decide +kernel) ?_
  refine nn_bipush hc dX9_init_127 (by decide +kernel) ?_
  refine nn_Vs (As := [.int (iI 30), .int (iI 25), .int (iI 40)]) (st := []) hc hw hS66_0 rfl (c_X9_addHeap_yes l g  hS66_0 hS66_1 (by decide) (by decide) (by decide) (ig3) (hr3) (ia4)) (cwV 3 hc.2.2.2.2 gX9_init_X9_addHeap rfl rfl rfl (by decide +kernel) ⟨Nat.le_of_ble_eq_true rfl, Nat.le_of_ble_eq_true rfl⟩) rfl hl.1 rfl (Nat.le_of_ble_eq_true rfl) ⟨Nat.le_of_ble_eq_true rfl, Nat.le_of_ble_eq_true rfl⟩ dX9_init_129 (fun vr n1 S69 H locs qS69 hw => ?_)
  obtain ⟨rh9_70, rc9_71, rfl, rfl, hS69_0, hS69_1, kS69_0, fS69⟩ := qS69
  refine W.eq (g2 := F0 m 132 ls [.int (iI 1)]) rfl ?_
  have hr4 := kS69_0
  refine lv_pop hc.1 hc.2.1 dX9_init_132 rfl ?_
  refine lv_aload_n hc.1 hc.2.1 dX9_init_133 rfl (lv_at hl 0 rfl) ?_
  refine nn_bipush hc dX9_init_134 (by decide +kernel) ?_
  refine nn_bipush hc dX9_init_136 (by decide +kernel) ?_
  refine nn_bipush hc dX9_init_138 (by decide +kernel) ?_
  refine nn_Vs (As := [.int (iI 30), .int (iI 18), .int (iI 40)]) (st := []) hc hw hS69_0 rfl (c_X9_addHeap_yes l g  hS69_0 hS69_1 (by decide) (by decide) (by decide) (ig4) (hr4) (ia5)) (cwV 3 hc.2.2.2.2 gX9_init_X9_addHeap rfl rfl rfl (by decide +kernel) ⟨Nat.le_of_ble_eq_true rfl, Nat.le_of_ble_eq_true rfl⟩) rfl hl.1 rfl (Nat.le_of_ble_eq_true rfl) ⟨Nat.le_of_ble_eq_true rfl, Nat.le_of_ble_eq_true rfl⟩ dX9_init_140 (fun vr n1 S72 H locs qS72 hw => ?_)
  obtain ⟨rh9_73, rc9_74, rfl, rfl, hS72_0, hS72_1, kS72_0, fS72⟩ := qS72
  refine W.eq (g2 := F0 m 143 ls [.int (iI 1)]) rfl ?_
  have hr5 := kS72_0
  refine lv_pop hc.1 hc.2.1 dX9_init_143 rfl ?_
  refine lv_aload_n hc.1 hc.2.1 dX9_init_144 rfl (lv_at hl 0 rfl) ?_
  refine nn_bipush hc dX9_init_145 (by decide +kernel) ?_
  refine nn_bipush hc dX9_init_147 (by decide +kernel) ?_
  refine nn_bipush hc dX9_init_149 (by decide +kernel) ?_
  refine nn_Vs (As := [.int (iI 24), .int (iI 20), .int (iI 60)]) (st := []) hc hw hS72_0 rfl (c_X9_addHeap_yes l g  hS72_0 hS72_1 (by decide) (by decide) (by decide) (ig5) (hr5) (ia6)) (cwV 3 hc.2.2.2.2 gX9_init_X9_addHeap rfl rfl rfl (by decide +kernel) ⟨Nat.le_of_ble_eq_true rfl, Nat.le_of_ble_eq_true rfl⟩) rfl hl.1 rfl (Nat.le_of_ble_eq_true rfl) ⟨Nat.le_of_ble_eq_true rfl, Nat.le_of_ble_eq_true rfl⟩ dX9_init_151 (fun vr n1 S75 H locs qS75 hw => ?_)
  obtain ⟨rh9_76, rc9_77, rfl, rfl, hS75_0, hS75_1, kS75_0, fS75⟩ := qS75
  refine W.eq (g2 := F0 m 154 ls [.int (iI 1)]) rfl ?_
  have hr6 := kS75_0
  refine lv_pop hc.1 hc.2.1 dX9_init_154 rfl ?_
  refine lv_aload_n hc.1 hc.2.1 dX9_init_155 rfl (lv_at hl 0 rfl) ?_
  refine nn_bipush hc dX9_init_156 (by decide +kernel) ?_
  refine nn_bipush hc dX9_init_158 (by decide +kernel) ?_
  refine nn_bipush hc dX9_init_160 (by decide +kernel) ?_
  refine nn_Vs (As := [.int (iI 24), .int (iI 11), .int (iI 30)]) (st := []) hc hw hS75_0 rfl (c_X9_addHeap_yes l g  hS75_0 hS75_1 (by decide) (by decide) (by decide) (ig6) (hr6) (ia7)) (cwV 3 hc.2.2.2.2 gX9_init_X9_addHeap rfl rfl rfl (by decide +kernel) ⟨Nat.le_of_ble_eq_true rfl, Nat.le_of_ble_eq_true rfl⟩) rfl hl.1 rfl (Nat.le_of_ble_eq_true rfl) ⟨Nat.le_of_ble_eq_true rfl, Nat.le_of_ble_eq_true rfl⟩ dX9_init_162 (fun vr n1 S78 H locs qS78 hw => ?_)
  obtain ⟨rh9_79, rc9_80, rfl, rfl, hS78_0, hS78_1, kS78_0, fS78⟩ := qS78
  refine W.eq (g2 := F0 m 165 ls [.int (iI 1)]) rfl ?_
  have hr7 := kS78_0
  refine lv_pop hc.1 hc.2.1 dX9_init_165 rfl ?_
  refine lv_aload_n hc.1 hc.2.1 dX9_init_166 rfl (lv_at hl 0 rfl) ?_
  refine nn_get hc hw hS78_0 hiX9 rfl 4 (by decide) rfl lk16 dX9_init_167 ?_
  refine nn_iconst hc dX9_init_170 ?_
  refine nn_bipush hc dX9_init_171 (by decide +kernel) ?_
  have e81 : S60 (z + 3) = oI g 5 rst9_47 := (fS60 (z + 3) (off_nr (x := z) (a := 3) (by decide)) (off_ne (x := z) (a := 3) (b := 5) (by decide))).trans hS46_1
  have e82 : S63 (z + 3) = oI g 5 rst9_47 := (fS63 (z + 3) (off_nr (x := z) (a := 3) (by decide)) (off_ne (x := z) (a := 3) (b := 5) (by decide))).trans e81
  have e83 : S66 (z + 3) = oI g 5 rst9_47 := (fS66 (z + 3) (off_nr (x := z) (a := 3) (by decide)) (off_ne (x := z) (a := 3) (b := 5) (by decide))).trans e82
  have e84 : S69 (z + 3) = oI g 5 rst9_47 := (fS69 (z + 3) (off_nr (x := z) (a := 3) (by decide)) (off_ne (x := z) (a := 3) (b := 5) (by decide))).trans e83
  have e85 : S72 (z + 3) = oI g 5 rst9_47 := (fS72 (z + 3) (off_nr (x := z) (a := 3) (by decide)) (off_ne (x := z) (a := 3) (b := 5) (by decide))).trans e84
  have e86 : S75 (z + 3) = oI g 5 rst9_47 := (fS75 (z + 3) (off_nr (x := z) (a := 3) (by decide)) (off_ne (x := z) (a := 3) (b := 5) (by decide))).trans e85
  have e87 : S78 (z + 3) = oI g 5 rst9_47 := (fS78 (z + 3) (off_nr (x := z) (a := 3) (by decide)) (off_ne (x := z) (a := 3) (b := 5) (by decide))).trans e86
  refine nn_iast hc hw e87 (by omega) (by omega) dX9_init_173 (fun S88 H locs hS88 fS88 hw => ?_)
  have hS88 : S88 (z + 3) = oI g 5 (va_up rst9_47 0 110) := hS88
  refine lv_aload_n hc.1 hc.2.1 dX9_init_174 rfl (lv_at hl 0 rfl) ?_
  have e89 : S88 z = oO 9 [.ref (z + 1), .int (iI 0), .int (iI 0), .ref (z + 2), .ref (z + 3), .ref (z + 4), .ref (z + 5), .int (iI 0), .int (iI rc9_80), .ref (z + 6), .ref (z + 7), .ref (z + 8), .int (iI 0), .ref (z + 9), .ref (z + 10), .int (iI 0), .int (iI 0), .int (iI 0)] := (fS88 z (off_nl (x := z) (a := 3) (by decide))).trans hS78_0
  refine nn_get hc hw e89 hiX9 rfl 4 (by decide) rfl lk16 dX9_init_175 ?_
  refine nn_iconst hc dX9_init_178 ?_
  refine nn_sipush hc dX9_init_179 (by decide +kernel) ?_
  refine nn_iast hc hw hS88 (by omega) (by omega) dX9_init_182 (fun S90 H locs hS90 fS90 hw => ?_)
  have hS90 : S90 (z + 3) = oI g 5 (va_up (va_up rst9_47 0 110) 1 130) := hS90
  refine lv_aload_n hc.1 hc.2.1 dX9_init_183 rfl (lv_at hl 0 rfl) ?_
  have e91 : S90 z = oO 9 [.ref (z + 1), .int (iI 0), .int (iI 0), .ref (z + 2), .ref (z + 3), .ref (z + 4), .ref (z + 5), .int (iI 0), .int (iI rc9_80), .ref (z + 6), .ref (z + 7), .ref (z + 8), .int (iI 0), .ref (z + 9), .ref (z + 10), .int (iI 0), .int (iI 0), .int (iI 0)] := (fS90 z (off_nl (x := z) (a := 3) (by decide))).trans e89
  refine nn_get hc hw e91 hiX9 rfl 4 (by decide) rfl lk16 dX9_init_184 ?_
  refine nn_iconst hc dX9_init_187 ?_
  refine nn_iconst hc dX9_init_188 ?_
  refine nn_iast hc hw hS90 (by omega) (by omega) dX9_init_189 (fun S92 H locs hS92 fS92 hw => ?_)
  have hS92 : S92 (z + 3) = oI g 5 (va_up (va_up (va_up rst9_47 0 110) 1 130) 4 2) := hS92
  have hr8 := irel hr7
  refine lv_aload_n hc.1 hc.2.1 dX9_init_190 rfl (lv_at hl 0 rfl) ?_
  have e93 : S92 z = oO 9 [.ref (z + 1), .int (iI 0), .int (iI 0), .ref (z + 2), .ref (z + 3), .ref (z + 4), .ref (z + 5), .int (iI 0), .int (iI rc9_80), .ref (z + 6), .ref (z + 7), .ref (z + 8), .int (iI 0), .ref (z + 9), .ref (z + 10), .int (iI 0), .int (iI 0), .int (iI 0)] := (fS92 z (off_nl (x := z) (a := 3) (by decide))).trans e91
  have e94 : S6 (z + 2) = oI g 5 (fun _ => 0) := (fS6 (z + 2) (off_nr (x := z) (a := 2) (by decide))).trans hS4
  have e95 : S7 (z + 2) = oI g 5 (fun _ => 0) := (fS7 (z + 2) (off_ne (x := z) (a := 2) (b := 3) (by decide))).trans e94
  have e96 : S9 (z + 2) = oI g 5 (fun _ => 0) := (fS9 (z + 2) (off_nr (x := z) (a := 2) (by decide))).trans e95
  have e97 : S10 (z + 2) = oI g 5 (fun _ => 0) := (fS10 (z + 2) (off_ne (x := z) (a := 2) (b := 4) (by decide))).trans e96
  have e98 : S12 (z + 2) = oI g 5 (fun _ => 0) := (fS12 (z + 2) (off_nr (x := z) (a := 2) (by decide))).trans e97
  have e99 : S13 (z + 2) = oI g 5 (fun _ => 0) := (fS13 (z + 2) (off_ne (x := z) (a := 2) (b := 5) (by decide))).trans e98
  have e100 : S15 (z + 2) = oI g 5 (fun _ => 0) := (fS15 (z + 2) (off_nr (x := z) (a := 2) (by decide))).trans e99
  have e101 : S16 (z + 2) = oI g 5 (fun _ => 0) := (fS16 (z + 2) (off_ne (x := z) (a := 2) (b := 6) (by decide))).trans e100
  have e102 : S18 (z + 2) = oI g 5 (fun _ => 0) := (fS18 (z + 2) (off_nr (x := z) (a := 2) (by decide))).trans e101
  have e103 : S19 (z + 2) = oI g 5 (fun _ => 0) := (fS19 (z + 2) (off_ne (x := z) (a := 2) (b := 7) (by decide))).trans e102
  have e104 : S21 (z + 2) = oI g 5 (fun _ => 0) := (fS21 (z + 2) (off_nr (x := z) (a := 2) (by decide))).trans e103
  have e105 : S22 (z + 2) = oI g 5 (fun _ => 0) := (fS22 (z + 2) (off_ne (x := z) (a := 2) (b := 8) (by decide))).trans e104
  have e106 : S24 (z + 2) = oI g 5 (fun _ => 0) := (fS24 (z + 2) (off_nr (x := z) (a := 2) (by decide))).trans e105
  have e107 : S25 (z + 2) = oI g 5 (fun _ => 0) := (fS25 (z + 2) (off_ne (x := z) (a := 2) (b := 9) (by decide))).trans e106
  have e108 : S27 (z + 2) = oI g 5 (fun _ => 0) := (fS27 (z + 2) (off_nr (x := z) (a := 2) (by decide))).trans e107
  have e109 : S28 (z + 2) = oI g 5 (fun _ => 0) := (fS28 (z + 2) (off_ne (x := z) (a := 2) (b := 10) (by decide))).trans e108
  have e110 : S30 (z + 2) = oI g 5 (fun _ => 0) := (fS30 (z + 2) (off_nr (x := z) (a := 2) (by decide))).trans e109
  have e111 : S46 (z + 2) = oI g 5 (fun _ => 0) := (fS46 (z + 2) (off_nr (x := z) (a := 2) (by decide)) (off_ne (x := z) (a := 2) (b := 3) (by decide))).trans e110
  have e112 : S60 (z + 2) = oI g 5 (fun _ => 0) := (fS60 (z + 2) (off_nr (x := z) (a := 2) (by decide)) (off_ne (x := z) (a := 2) (b := 5) (by decide))).trans e111
  have e113 : S63 (z + 2) = oI g 5 (fun _ => 0) := (fS63 (z + 2) (off_nr (x := z) (a := 2) (by decide)) (off_ne (x := z) (a := 2) (b := 5) (by decide))).trans e112
  have e114 : S66 (z + 2) = oI g 5 (fun _ => 0) := (fS66 (z + 2) (off_nr (x := z) (a := 2) (by decide)) (off_ne (x := z) (a := 2) (b := 5) (by decide))).trans e113
  have e115 : S69 (z + 2) = oI g 5 (fun _ => 0) := (fS69 (z + 2) (off_nr (x := z) (a := 2) (by decide)) (off_ne (x := z) (a := 2) (b := 5) (by decide))).trans e114
  have e116 : S72 (z + 2) = oI g 5 (fun _ => 0) := (fS72 (z + 2) (off_nr (x := z) (a := 2) (by decide)) (off_ne (x := z) (a := 2) (b := 5) (by decide))).trans e115
  have e117 : S75 (z + 2) = oI g 5 (fun _ => 0) := (fS75 (z + 2) (off_nr (x := z) (a := 2) (by decide)) (off_ne (x := z) (a := 2) (b := 5) (by decide))).trans e116
  have e118 : S78 (z + 2) = oI g 5 (fun _ => 0) := (fS78 (z + 2) (off_nr (x := z) (a := 2) (by decide)) (off_ne (x := z) (a := 2) (b := 5) (by decide))).trans e117
  have e119 : S88 (z + 2) = oI g 5 (fun _ => 0) := (fS88 (z + 2) (off_ne (x := z) (a := 2) (b := 3) (by decide))).trans e118
  have e120 : S90 (z + 2) = oI g 5 (fun _ => 0) := (fS90 (z + 2) (off_ne (x := z) (a := 2) (b := 3) (by decide))).trans e119
  have e121 : S92 (z + 2) = oI g 5 (fun _ => 0) := (fS92 (z + 2) (off_ne (x := z) (a := 2) (b := 3) (by decide))).trans e120
  have e122 : S12 (z + 4) = oI g 24 (fun _ => 0) := (fS12 (z + 4) (off_nr (x := z) (a := 4) (by decide))).trans hS10
  have e123 : S13 (z + 4) = oI g 24 (fun _ => 0) := (fS13 (z + 4) (off_ne (x := z) (a := 4) (b := 5) (by decide))).trans e122
  have e124 : S15 (z + 4) = oI g 24 (fun _ => 0) := (fS15 (z + 4) (off_nr (x := z) (a := 4) (by decide))).trans e123
  have e125 : S16 (z + 4) = oI g 24 (fun _ => 0) := (fS16 (z + 4) (off_ne (x := z) (a := 4) (b := 6) (by decide))).trans e124
  have e126 : S18 (z + 4) = oI g 24 (fun _ => 0) := (fS18 (z + 4) (off_nr (x := z) (a := 4) (by decide))).trans e125
  have e127 : S19 (z + 4) = oI g 24 (fun _ => 0) := (fS19 (z + 4) (off_ne (x := z) (a := 4) (b := 7) (by decide))).trans e126
  have e128 : S21 (z + 4) = oI g 24 (fun _ => 0) := (fS21 (z + 4) (off_nr (x := z) (a := 4) (by decide))).trans e127
  have e129 : S22 (z + 4) = oI g 24 (fun _ => 0) := (fS22 (z + 4) (off_ne (x := z) (a := 4) (b := 8) (by decide))).trans e128
  have e130 : S24 (z + 4) = oI g 24 (fun _ => 0) := (fS24 (z + 4) (off_nr (x := z) (a := 4) (by decide))).trans e129
  have e131 : S25 (z + 4) = oI g 24 (fun _ => 0) := (fS25 (z + 4) (off_ne (x := z) (a := 4) (b := 9) (by decide))).trans e130
  have e132 : S27 (z + 4) = oI g 24 (fun _ => 0) := (fS27 (z + 4) (off_nr (x := z) (a := 4) (by decide))).trans e131
  have e133 : S28 (z + 4) = oI g 24 (fun _ => 0) := (fS28 (z + 4) (off_ne (x := z) (a := 4) (b := 10) (by decide))).trans e132
  have e134 : S30 (z + 4) = oI g 24 (fun _ => 0) := (fS30 (z + 4) (off_nr (x := z) (a := 4) (by decide))).trans e133
  have e135 : S46 (z + 4) = oI g 24 (fun _ => 0) := (fS46 (z + 4) (off_nr (x := z) (a := 4) (by decide)) (off_ne (x := z) (a := 4) (b := 3) (by decide))).trans e134
  have e136 : S60 (z + 4) = oI g 24 (fun _ => 0) := (fS60 (z + 4) (off_nr (x := z) (a := 4) (by decide)) (off_ne (x := z) (a := 4) (b := 5) (by decide))).trans e135
  have e137 : S63 (z + 4) = oI g 24 (fun _ => 0) := (fS63 (z + 4) (off_nr (x := z) (a := 4) (by decide)) (off_ne (x := z) (a := 4) (b := 5) (by decide))).trans e136
  have e138 : S66 (z + 4) = oI g 24 (fun _ => 0) := (fS66 (z + 4) (off_nr (x := z) (a := 4) (by decide)) (off_ne (x := z) (a := 4) (b := 5) (by decide))).trans e137
  have e139 : S69 (z + 4) = oI g 24 (fun _ => 0) := (fS69 (z + 4) (off_nr (x := z) (a := 4) (by decide)) (off_ne (x := z) (a := 4) (b := 5) (by decide))).trans e138
  have e140 : S72 (z + 4) = oI g 24 (fun _ => 0) := (fS72 (z + 4) (off_nr (x := z) (a := 4) (by decide)) (off_ne (x := z) (a := 4) (b := 5) (by decide))).trans e139
  have e141 : S75 (z + 4) = oI g 24 (fun _ => 0) := (fS75 (z + 4) (off_nr (x := z) (a := 4) (by decide)) (off_ne (x := z) (a := 4) (b := 5) (by decide))).trans e140
  have e142 : S78 (z + 4) = oI g 24 (fun _ => 0) := (fS78 (z + 4) (off_nr (x := z) (a := 4) (by decide)) (off_ne (x := z) (a := 4) (b := 5) (by decide))).trans e141
  have e143 : S88 (z + 4) = oI g 24 (fun _ => 0) := (fS88 (z + 4) (off_ne (x := z) (a := 4) (b := 3) (by decide))).trans e142
  have e144 : S90 (z + 4) = oI g 24 (fun _ => 0) := (fS90 (z + 4) (off_ne (x := z) (a := 4) (b := 3) (by decide))).trans e143
  have e145 : S92 (z + 4) = oI g 24 (fun _ => 0) := (fS92 (z + 4) (off_ne (x := z) (a := 4) (b := 3) (by decide))).trans e144
  have e146 : S88 (z + 5) = oI g 24 rh9_79 := (fS88 (z + 5) (off_ne (x := z) (a := 5) (b := 3) (by decide))).trans hS78_1
  have e147 : S90 (z + 5) = oI g 24 rh9_79 := (fS90 (z + 5) (off_ne (x := z) (a := 5) (b := 3) (by decide))).trans e146
  have e148 : S92 (z + 5) = oI g 24 rh9_79 := (fS92 (z + 5) (off_ne (x := z) (a := 5) (b := 3) (by decide))).trans e147
  have e149 : S18 (z + 6) = oI g 1249 (fun _ => 0) := (fS18 (z + 6) (off_nr (x := z) (a := 6) (by decide))).trans hS16
  have e150 : S19 (z + 6) = oI g 1249 (fun _ => 0) := (fS19 (z + 6) (off_ne (x := z) (a := 6) (b := 7) (by decide))).trans e149
  have e151 : S21 (z + 6) = oI g 1249 (fun _ => 0) := (fS21 (z + 6) (off_nr (x := z) (a := 6) (by decide))).trans e150
  have e152 : S22 (z + 6) = oI g 1249 (fun _ => 0) := (fS22 (z + 6) (off_ne (x := z) (a := 6) (b := 8) (by decide))).trans e151
  have e153 : S24 (z + 6) = oI g 1249 (fun _ => 0) := (fS24 (z + 6) (off_nr (x := z) (a := 6) (by decide))).trans e152
  have e154 : S25 (z + 6) = oI g 1249 (fun _ => 0) := (fS25 (z + 6) (off_ne (x := z) (a := 6) (b := 9) (by decide))).trans e153
  have e155 : S27 (z + 6) = oI g 1249 (fun _ => 0) := (fS27 (z + 6) (off_nr (x := z) (a := 6) (by decide))).trans e154
  have e156 : S28 (z + 6) = oI g 1249 (fun _ => 0) := (fS28 (z + 6) (off_ne (x := z) (a := 6) (b := 10) (by decide))).trans e155
  have e157 : S30 (z + 6) = oI g 1249 (fun _ => 0) := (fS30 (z + 6) (off_nr (x := z) (a := 6) (by decide))).trans e156
  have e158 : S46 (z + 6) = oI g 1249 (fun _ => 0) := (fS46 (z + 6) (off_nr (x := z) (a := 6) (by decide)) (off_ne (x := z) (a := 6) (b := 3) (by decide))).trans e157
  have e159 : S60 (z + 6) = oI g 1249 (fun _ => 0) := (fS60 (z + 6) (off_nr (x := z) (a := 6) (by decide)) (off_ne (x := z) (a := 6) (b := 5) (by decide))).trans e158
  have e160 : S63 (z + 6) = oI g 1249 (fun _ => 0) := (fS63 (z + 6) (off_nr (x := z) (a := 6) (by decide)) (off_ne (x := z) (a := 6) (b := 5) (by decide))).trans e159
  have e161 : S66 (z + 6) = oI g 1249 (fun _ => 0) := (fS66 (z + 6) (off_nr (x := z) (a := 6) (by decide)) (off_ne (x := z) (a := 6) (b := 5) (by decide))).trans e160
  have e162 : S69 (z + 6) = oI g 1249 (fun _ => 0) := (fS69 (z + 6) (off_nr (x := z) (a := 6) (by decide)) (off_ne (x := z) (a := 6) (b := 5) (by decide))).trans e161
  have e163 : S72 (z + 6) = oI g 1249 (fun _ => 0) := (fS72 (z + 6) (off_nr (x := z) (a := 6) (by decide)) (off_ne (x := z) (a := 6) (b := 5) (by decide))).trans e162
  have e164 : S75 (z + 6) = oI g 1249 (fun _ => 0) := (fS75 (z + 6) (off_nr (x := z) (a := 6) (by decide)) (off_ne (x := z) (a := 6) (b := 5) (by decide))).trans e163
  have e165 : S78 (z + 6) = oI g 1249 (fun _ => 0) := (fS78 (z + 6) (off_nr (x := z) (a := 6) (by decide)) (off_ne (x := z) (a := 6) (b := 5) (by decide))).trans e164
  have e166 : S88 (z + 6) = oI g 1249 (fun _ => 0) := (fS88 (z + 6) (off_ne (x := z) (a := 6) (b := 3) (by decide))).trans e165
  have e167 : S90 (z + 6) = oI g 1249 (fun _ => 0) := (fS90 (z + 6) (off_ne (x := z) (a := 6) (b := 3) (by decide))).trans e166
  have e168 : S92 (z + 6) = oI g 1249 (fun _ => 0) := (fS92 (z + 6) (off_ne (x := z) (a := 6) (b := 3) (by decide))).trans e167
  refine nn_Vs (As := []) (st := []) hc hw e93 rfl (c_X9_takeRead l g (P := ip8) e93 e121 hS92 e145 e148 e168 (ig8) (hr8)) (cwV 0 hc.2.2.2.2 gX9_init_X9_takeRead rfl rfl rfl (by decide +kernel) ⟨Nat.le_of_ble_eq_true rfl, Nat.le_of_ble_eq_true rfl⟩) rfl hl.1 rfl (Nat.le_of_ble_eq_true rfl) ⟨Nat.le_of_ble_eq_true rfl, Nat.le_of_ble_eq_true rfl⟩ dX9_init_191 (fun vr n1 S169 H locs qS169 hw => ?_)
  obtain ⟨stg9_170, hps9_171, nw9_172, rfl, rfl, hS169_0, hS169_1, hS169_2, hS169_3, kS169_0, kS169_1, kS169_2, fS169⟩ := qS169
  refine W.eq (g2 := F0 m 194 ls []) rfl ?_
  have e173 : S3 (z + 1) = oI g 200 (fun _ => 0) := (fS3 (z + 1) (off_nr (x := z) (a := 1) (by decide))).trans hS1
  have e174 : S4 (z + 1) = oI g 200 (fun _ => 0) := (fS4 (z + 1) (off_ne (x := z) (a := 1) (b := 2) (by decide))).trans e173
  have e175 : S6 (z + 1) = oI g 200 (fun _ => 0) := (fS6 (z + 1) (off_nr (x := z) (a := 1) (by decide))).trans e174
  have e176 : S7 (z + 1) = oI g 200 (fun _ => 0) := (fS7 (z + 1) (off_ne (x := z) (a := 1) (b := 3) (by decide))).trans e175
  have e177 : S9 (z + 1) = oI g 200 (fun _ => 0) := (fS9 (z + 1) (off_nr (x := z) (a := 1) (by decide))).trans e176
  have e178 : S10 (z + 1) = oI g 200 (fun _ => 0) := (fS10 (z + 1) (off_ne (x := z) (a := 1) (b := 4) (by decide))).trans e177
  have e179 : S12 (z + 1) = oI g 200 (fun _ => 0) := (fS12 (z + 1) (off_nr (x := z) (a := 1) (by decide))).trans e178
  have e180 : S13 (z + 1) = oI g 200 (fun _ => 0) := (fS13 (z + 1) (off_ne (x := z) (a := 1) (b := 5) (by decide))).trans e179
  have e181 : S15 (z + 1) = oI g 200 (fun _ => 0) := (fS15 (z + 1) (off_nr (x := z) (a := 1) (by decide))).trans e180
  have e182 : S16 (z + 1) = oI g 200 (fun _ => 0) := (fS16 (z + 1) (off_ne (x := z) (a := 1) (b := 6) (by decide))).trans e181
  have e183 : S18 (z + 1) = oI g 200 (fun _ => 0) := (fS18 (z + 1) (off_nr (x := z) (a := 1) (by decide))).trans e182
  have e184 : S19 (z + 1) = oI g 200 (fun _ => 0) := (fS19 (z + 1) (off_ne (x := z) (a := 1) (b := 7) (by decide))).trans e183
  have e185 : S21 (z + 1) = oI g 200 (fun _ => 0) := (fS21 (z + 1) (off_nr (x := z) (a := 1) (by decide))).trans e184
  have e186 : S22 (z + 1) = oI g 200 (fun _ => 0) := (fS22 (z + 1) (off_ne (x := z) (a := 1) (b := 8) (by decide))).trans e185
  have e187 : S24 (z + 1) = oI g 200 (fun _ => 0) := (fS24 (z + 1) (off_nr (x := z) (a := 1) (by decide))).trans e186
  have e188 : S25 (z + 1) = oI g 200 (fun _ => 0) := (fS25 (z + 1) (off_ne (x := z) (a := 1) (b := 9) (by decide))).trans e187
  have e189 : S27 (z + 1) = oI g 200 (fun _ => 0) := (fS27 (z + 1) (off_nr (x := z) (a := 1) (by decide))).trans e188
  have e190 : S28 (z + 1) = oI g 200 (fun _ => 0) := (fS28 (z + 1) (off_ne (x := z) (a := 1) (b := 10) (by decide))).trans e189
  have e191 : S30 (z + 1) = oI g 200 (fun _ => 0) := (fS30 (z + 1) (off_nr (x := z) (a := 1) (by decide))).trans e190
  have e192 : S46 (z + 1) = oI g 200 (fun _ => 0) := (fS46 (z + 1) (off_nr (x := z) (a := 1) (by decide)) (off_ne (x := z) (a := 1) (b := 3) (by decide))).trans e191
  have e193 : S60 (z + 1) = oI g 200 (fun _ => 0) := (fS60 (z + 1) (off_nr (x := z) (a := 1) (by decide)) (off_ne (x := z) (a := 1) (b := 5) (by decide))).trans e192
  have e194 : S63 (z + 1) = oI g 200 (fun _ => 0) := (fS63 (z + 1) (off_nr (x := z) (a := 1) (by decide)) (off_ne (x := z) (a := 1) (b := 5) (by decide))).trans e193
  have e195 : S66 (z + 1) = oI g 200 (fun _ => 0) := (fS66 (z + 1) (off_nr (x := z) (a := 1) (by decide)) (off_ne (x := z) (a := 1) (b := 5) (by decide))).trans e194
  have e196 : S69 (z + 1) = oI g 200 (fun _ => 0) := (fS69 (z + 1) (off_nr (x := z) (a := 1) (by decide)) (off_ne (x := z) (a := 1) (b := 5) (by decide))).trans e195
  have e197 : S72 (z + 1) = oI g 200 (fun _ => 0) := (fS72 (z + 1) (off_nr (x := z) (a := 1) (by decide)) (off_ne (x := z) (a := 1) (b := 5) (by decide))).trans e196
  have e198 : S75 (z + 1) = oI g 200 (fun _ => 0) := (fS75 (z + 1) (off_nr (x := z) (a := 1) (by decide)) (off_ne (x := z) (a := 1) (b := 5) (by decide))).trans e197
  have e199 : S78 (z + 1) = oI g 200 (fun _ => 0) := (fS78 (z + 1) (off_nr (x := z) (a := 1) (by decide)) (off_ne (x := z) (a := 1) (b := 5) (by decide))).trans e198
  have e200 : S88 (z + 1) = oI g 200 (fun _ => 0) := (fS88 (z + 1) (off_ne (x := z) (a := 1) (b := 3) (by decide))).trans e199
  have e201 : S90 (z + 1) = oI g 200 (fun _ => 0) := (fS90 (z + 1) (off_ne (x := z) (a := 1) (b := 3) (by decide))).trans e200
  have e202 : S92 (z + 1) = oI g 200 (fun _ => 0) := (fS92 (z + 1) (off_ne (x := z) (a := 1) (b := 3) (by decide))).trans e201
  have e203 : S169 (z + 1) = oI g 200 (fun _ => 0) := (fS169 (z + 1) (off_nr (x := z) (a := 1) (by decide)) (off_ne (x := z) (a := 1) (b := 2) (by decide)) (off_ne (x := z) (a := 1) (b := 4) (by decide)) (off_ne (x := z) (a := 1) (b := 6) (by decide))).trans e202
  have e204 : S169 (z + 3) = oI g 5 (va_up (va_up (va_up rst9_47 0 110) 1 130) 4 2) := (fS169 (z + 3) (off_nr (x := z) (a := 3) (by decide)) (off_ne (x := z) (a := 3) (b := 2) (by decide)) (off_ne (x := z) (a := 3) (b := 4) (by decide)) (off_ne (x := z) (a := 3) (b := 6) (by decide))).trans hS92
  have e205 : S169 (z + 5) = oI g 24 rh9_79 := (fS169 (z + 5) (off_nr (x := z) (a := 5) (by decide)) (off_ne (x := z) (a := 5) (b := 2) (by decide)) (off_ne (x := z) (a := 5) (b := 4) (by decide)) (off_ne (x := z) (a := 5) (b := 6) (by decide))).trans e148
  have e206 : S21 (z + 7) = oI g 1249 (fun _ => 0) := (fS21 (z + 7) (off_nr (x := z) (a := 7) (by decide))).trans hS19
  have e207 : S22 (z + 7) = oI g 1249 (fun _ => 0) := (fS22 (z + 7) (off_ne (x := z) (a := 7) (b := 8) (by decide))).trans e206
  have e208 : S24 (z + 7) = oI g 1249 (fun _ => 0) := (fS24 (z + 7) (off_nr (x := z) (a := 7) (by decide))).trans e207
  have e209 : S25 (z + 7) = oI g 1249 (fun _ => 0) := (fS25 (z + 7) (off_ne (x := z) (a := 7) (b := 9) (by decide))).trans e208
  have e210 : S27 (z + 7) = oI g 1249 (fun _ => 0) := (fS27 (z + 7) (off_nr (x := z) (a := 7) (by decide))).trans e209
  have e211 : S28 (z + 7) = oI g 1249 (fun _ => 0) := (fS28 (z + 7) (off_ne (x := z) (a := 7) (b := 10) (by decide))).trans e210
  have e212 : S30 (z + 7) = oI g 1249 (fun _ => 0) := (fS30 (z + 7) (off_nr (x := z) (a := 7) (by decide))).trans e211
  have e213 : S46 (z + 7) = oI g 1249 (fun _ => 0) := (fS46 (z + 7) (off_nr (x := z) (a := 7) (by decide)) (off_ne (x := z) (a := 7) (b := 3) (by decide))).trans e212
  have e214 : S60 (z + 7) = oI g 1249 (fun _ => 0) := (fS60 (z + 7) (off_nr (x := z) (a := 7) (by decide)) (off_ne (x := z) (a := 7) (b := 5) (by decide))).trans e213
  have e215 : S63 (z + 7) = oI g 1249 (fun _ => 0) := (fS63 (z + 7) (off_nr (x := z) (a := 7) (by decide)) (off_ne (x := z) (a := 7) (b := 5) (by decide))).trans e214
  have e216 : S66 (z + 7) = oI g 1249 (fun _ => 0) := (fS66 (z + 7) (off_nr (x := z) (a := 7) (by decide)) (off_ne (x := z) (a := 7) (b := 5) (by decide))).trans e215
  have e217 : S69 (z + 7) = oI g 1249 (fun _ => 0) := (fS69 (z + 7) (off_nr (x := z) (a := 7) (by decide)) (off_ne (x := z) (a := 7) (b := 5) (by decide))).trans e216
  have e218 : S72 (z + 7) = oI g 1249 (fun _ => 0) := (fS72 (z + 7) (off_nr (x := z) (a := 7) (by decide)) (off_ne (x := z) (a := 7) (b := 5) (by decide))).trans e217
  have e219 : S75 (z + 7) = oI g 1249 (fun _ => 0) := (fS75 (z + 7) (off_nr (x := z) (a := 7) (by decide)) (off_ne (x := z) (a := 7) (b := 5) (by decide))).trans e218
  have e220 : S78 (z + 7) = oI g 1249 (fun _ => 0) := (fS78 (z + 7) (off_nr (x := z) (a := 7) (by decide)) (off_ne (x := z) (a := 7) (b := 5) (by decide))).trans e219
  have e221 : S88 (z + 7) = oI g 1249 (fun _ => 0) := (fS88 (z + 7) (off_ne (x := z) (a := 7) (b := 3) (by decide))).trans e220
  have e222 : S90 (z + 7) = oI g 1249 (fun _ => 0) := (fS90 (z + 7) (off_ne (x := z) (a := 7) (b := 3) (by decide))).trans e221
  have e223 : S92 (z + 7) = oI g 1249 (fun _ => 0) := (fS92 (z + 7) (off_ne (x := z) (a := 7) (b := 3) (by decide))).trans e222
  have e224 : S169 (z + 7) = oI g 1249 (fun _ => 0) := (fS169 (z + 7) (off_nr (x := z) (a := 7) (by decide)) (off_ne (x := z) (a := 7) (b := 2) (by decide)) (off_ne (x := z) (a := 7) (b := 4) (by decide)) (off_ne (x := z) (a := 7) (b := 6) (by decide))).trans e223
  have e225 : S24 (z + 8) = oI g 7494 (fun _ => 0) := (fS24 (z + 8) (off_nr (x := z) (a := 8) (by decide))).trans hS22
  have e226 : S25 (z + 8) = oI g 7494 (fun _ => 0) := (fS25 (z + 8) (off_ne (x := z) (a := 8) (b := 9) (by decide))).trans e225
  have e227 : S27 (z + 8) = oI g 7494 (fun _ => 0) := (fS27 (z + 8) (off_nr (x := z) (a := 8) (by decide))).trans e226
  have e228 : S28 (z + 8) = oI g 7494 (fun _ => 0) := (fS28 (z + 8) (off_ne (x := z) (a := 8) (b := 10) (by decide))).trans e227
  have e229 : S30 (z + 8) = oI g 7494 (fun _ => 0) := (fS30 (z + 8) (off_nr (x := z) (a := 8) (by decide))).trans e228
  have e230 : S46 (z + 8) = oI g 7494 (fun _ => 0) := (fS46 (z + 8) (off_nr (x := z) (a := 8) (by decide)) (off_ne (x := z) (a := 8) (b := 3) (by decide))).trans e229
  have e231 : S60 (z + 8) = oI g 7494 (fun _ => 0) := (fS60 (z + 8) (off_nr (x := z) (a := 8) (by decide)) (off_ne (x := z) (a := 8) (b := 5) (by decide))).trans e230
  have e232 : S63 (z + 8) = oI g 7494 (fun _ => 0) := (fS63 (z + 8) (off_nr (x := z) (a := 8) (by decide)) (off_ne (x := z) (a := 8) (b := 5) (by decide))).trans e231
  have e233 : S66 (z + 8) = oI g 7494 (fun _ => 0) := (fS66 (z + 8) (off_nr (x := z) (a := 8) (by decide)) (off_ne (x := z) (a := 8) (b := 5) (by decide))).trans e232
  have e234 : S69 (z + 8) = oI g 7494 (fun _ => 0) := (fS69 (z + 8) (off_nr (x := z) (a := 8) (by decide)) (off_ne (x := z) (a := 8) (b := 5) (by decide))).trans e233
  have e235 : S72 (z + 8) = oI g 7494 (fun _ => 0) := (fS72 (z + 8) (off_nr (x := z) (a := 8) (by decide)) (off_ne (x := z) (a := 8) (b := 5) (by decide))).trans e234
  have e236 : S75 (z + 8) = oI g 7494 (fun _ => 0) := (fS75 (z + 8) (off_nr (x := z) (a := 8) (by decide)) (off_ne (x := z) (a := 8) (b := 5) (by decide))).trans e235
  have e237 : S78 (z + 8) = oI g 7494 (fun _ => 0) := (fS78 (z + 8) (off_nr (x := z) (a := 8) (by decide)) (off_ne (x := z) (a := 8) (b := 5) (by decide))).trans e236
  have e238 : S88 (z + 8) = oI g 7494 (fun _ => 0) := (fS88 (z + 8) (off_ne (x := z) (a := 8) (b := 3) (by decide))).trans e237
  have e239 : S90 (z + 8) = oI g 7494 (fun _ => 0) := (fS90 (z + 8) (off_ne (x := z) (a := 8) (b := 3) (by decide))).trans e238
  have e240 : S92 (z + 8) = oI g 7494 (fun _ => 0) := (fS92 (z + 8) (off_ne (x := z) (a := 8) (b := 3) (by decide))).trans e239
  have e241 : S169 (z + 8) = oI g 7494 (fun _ => 0) := (fS169 (z + 8) (off_nr (x := z) (a := 8) (by decide)) (off_ne (x := z) (a := 8) (b := 2) (by decide)) (off_ne (x := z) (a := 8) (b := 4) (by decide)) (off_ne (x := z) (a := 8) (b := 6) (by decide))).trans e240
  have e242 : S27 (z + 9) = oI g 3 (fun _ => 0) := (fS27 (z + 9) (off_nr (x := z) (a := 9) (by decide))).trans hS25
  have e243 : S28 (z + 9) = oI g 3 (fun _ => 0) := (fS28 (z + 9) (off_ne (x := z) (a := 9) (b := 10) (by decide))).trans e242
  have e244 : S30 (z + 9) = oI g 3 (fun _ => 0) := (fS30 (z + 9) (off_nr (x := z) (a := 9) (by decide))).trans e243
  have e245 : S46 (z + 9) = oI g 3 (fun _ => 0) := (fS46 (z + 9) (off_nr (x := z) (a := 9) (by decide)) (off_ne (x := z) (a := 9) (b := 3) (by decide))).trans e244
  have e246 : S60 (z + 9) = oI g 3 (fun _ => 0) := (fS60 (z + 9) (off_nr (x := z) (a := 9) (by decide)) (off_ne (x := z) (a := 9) (b := 5) (by decide))).trans e245
  have e247 : S63 (z + 9) = oI g 3 (fun _ => 0) := (fS63 (z + 9) (off_nr (x := z) (a := 9) (by decide)) (off_ne (x := z) (a := 9) (b := 5) (by decide))).trans e246
  have e248 : S66 (z + 9) = oI g 3 (fun _ => 0) := (fS66 (z + 9) (off_nr (x := z) (a := 9) (by decide)) (off_ne (x := z) (a := 9) (b := 5) (by decide))).trans e247
  have e249 : S69 (z + 9) = oI g 3 (fun _ => 0) := (fS69 (z + 9) (off_nr (x := z) (a := 9) (by decide)) (off_ne (x := z) (a := 9) (b := 5) (by decide))).trans e248
  have e250 : S72 (z + 9) = oI g 3 (fun _ => 0) := (fS72 (z + 9) (off_nr (x := z) (a := 9) (by decide)) (off_ne (x := z) (a := 9) (b := 5) (by decide))).trans e249
  have e251 : S75 (z + 9) = oI g 3 (fun _ => 0) := (fS75 (z + 9) (off_nr (x := z) (a := 9) (by decide)) (off_ne (x := z) (a := 9) (b := 5) (by decide))).trans e250
  have e252 : S78 (z + 9) = oI g 3 (fun _ => 0) := (fS78 (z + 9) (off_nr (x := z) (a := 9) (by decide)) (off_ne (x := z) (a := 9) (b := 5) (by decide))).trans e251
  have e253 : S88 (z + 9) = oI g 3 (fun _ => 0) := (fS88 (z + 9) (off_ne (x := z) (a := 9) (b := 3) (by decide))).trans e252
  have e254 : S90 (z + 9) = oI g 3 (fun _ => 0) := (fS90 (z + 9) (off_ne (x := z) (a := 9) (b := 3) (by decide))).trans e253
  have e255 : S92 (z + 9) = oI g 3 (fun _ => 0) := (fS92 (z + 9) (off_ne (x := z) (a := 9) (b := 3) (by decide))).trans e254
  have e256 : S169 (z + 9) = oI g 3 (fun _ => 0) := (fS169 (z + 9) (off_nr (x := z) (a := 9) (by decide)) (off_ne (x := z) (a := 9) (b := 2) (by decide)) (off_ne (x := z) (a := 9) (b := 4) (by decide)) (off_ne (x := z) (a := 9) (b := 6) (by decide))).trans e255
  have e257 : S30 (z + 10) = oI g 60 (fun _ => 0) := (fS30 (z + 10) (off_nr (x := z) (a := 10) (by decide))).trans hS28
  have e258 : S46 (z + 10) = oI g 60 (fun _ => 0) := (fS46 (z + 10) (off_nr (x := z) (a := 10) (by decide)) (off_ne (x := z) (a := 10) (b := 3) (by decide))).trans e257
  have e259 : S60 (z + 10) = oI g 60 (fun _ => 0) := (fS60 (z + 10) (off_nr (x := z) (a := 10) (by decide)) (off_ne (x := z) (a := 10) (b := 5) (by decide))).trans e258
  have e260 : S63 (z + 10) = oI g 60 (fun _ => 0) := (fS63 (z + 10) (off_nr (x := z) (a := 10) (by decide)) (off_ne (x := z) (a := 10) (b := 5) (by decide))).trans e259
  have e261 : S66 (z + 10) = oI g 60 (fun _ => 0) := (fS66 (z + 10) (off_nr (x := z) (a := 10) (by decide)) (off_ne (x := z) (a := 10) (b := 5) (by decide))).trans e260
  have e262 : S69 (z + 10) = oI g 60 (fun _ => 0) := (fS69 (z + 10) (off_nr (x := z) (a := 10) (by decide)) (off_ne (x := z) (a := 10) (b := 5) (by decide))).trans e261
  have e263 : S72 (z + 10) = oI g 60 (fun _ => 0) := (fS72 (z + 10) (off_nr (x := z) (a := 10) (by decide)) (off_ne (x := z) (a := 10) (b := 5) (by decide))).trans e262
  have e264 : S75 (z + 10) = oI g 60 (fun _ => 0) := (fS75 (z + 10) (off_nr (x := z) (a := 10) (by decide)) (off_ne (x := z) (a := 10) (b := 5) (by decide))).trans e263
  have e265 : S78 (z + 10) = oI g 60 (fun _ => 0) := (fS78 (z + 10) (off_nr (x := z) (a := 10) (by decide)) (off_ne (x := z) (a := 10) (b := 5) (by decide))).trans e264
  have e266 : S88 (z + 10) = oI g 60 (fun _ => 0) := (fS88 (z + 10) (off_ne (x := z) (a := 10) (b := 3) (by decide))).trans e265
  have e267 : S90 (z + 10) = oI g 60 (fun _ => 0) := (fS90 (z + 10) (off_ne (x := z) (a := 10) (b := 3) (by decide))).trans e266
  have e268 : S92 (z + 10) = oI g 60 (fun _ => 0) := (fS92 (z + 10) (off_ne (x := z) (a := 10) (b := 3) (by decide))).trans e267
  have e269 : S169 (z + 10) = oI g 60 (fun _ => 0) := (fS169 (z + 10) (off_nr (x := z) (a := 10) (by decide)) (off_ne (x := z) (a := 10) (b := 2) (by decide)) (off_ne (x := z) (a := 10) (b := 4) (by decide)) (off_ne (x := z) (a := 10) (b := 6) (by decide))).trans e268
  exact hret none _ S169 _ _ _ _ hw (⟨rfl, rfl, ⟨_, _, _, mP_of hr8 kS169_0 kS169_1, ⟨_, _, _, _, _, _, _, _, _, _, _, _, _, hS169_0, e203, (fun i hi => absurd hi (Nat.not_lt_zero i)), hS169_1, e204, hS169_2, e205, hS169_3, e224, e241, e256, e269, kS169_2, mHi_0⟩⟩, fun bb hbb  => ((((((((((((((((((((((((((((((((fS169 bb (by omega) (by omega) (by omega) (by omega))).trans (fS92 bb (by omega))).trans (fS90 bb (by omega))).trans (fS88 bb (by omega))).trans (fS78 bb (by omega) (by omega))).trans (fS75 bb (by omega) (by omega))).trans (fS72 bb (by omega) (by omega))).trans (fS69 bb (by omega) (by omega))).trans (fS66 bb (by omega) (by omega))).trans (fS63 bb (by omega) (by omega))).trans (fS60 bb (by omega) (by omega))).trans (fS46 bb (by omega) (by omega))).trans (fS30 bb (by omega))).trans (fS28 bb (by omega))).trans (fS27 bb (by omega))).trans (fS25 bb (by omega))).trans (fS24 bb (by omega))).trans (fS22 bb (by omega))).trans (fS21 bb (by omega))).trans (fS19 bb (by omega))).trans (fS18 bb (by omega))).trans (fS16 bb (by omega))).trans (fS15 bb (by omega))).trans (fS13 bb (by omega))).trans (fS12 bb (by omega))).trans (fS10 bb (by omega))).trans (fS9 bb (by omega))).trans (fS7 bb (by omega))).trans (fS6 bb (by omega))).trans (fS4 bb (by omega))).trans (fS3 bb (by omega))).trans (fS1 bb (by omega))⟩) ⟨rfl, dX9_init_194⟩

