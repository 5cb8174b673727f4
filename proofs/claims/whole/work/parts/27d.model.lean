set_option maxHeartbeats 4000000 in
set_option maxRecDepth 100000 in
theorem c_M_write_bad (l : Launch) (g : gG) {n : Nat} {S : Nat → gE} {z : Nat} {mAt mHC mRC mJC mCh mVi : Int} {stg hps nw js : Nat → Int} {x0 : Int} {rs : Nat → Int} {rows : rT} {hs sv : Nat → Int} {hist : List sT} {tz : Nat} {tx txa rst rhp nbs : Nat → Int} (hz : S z = oO 9 [.ref (z + 1), .int (iI (tz : Int)), .int (iI mAt), .ref (z + 2), .ref (z + 3), .ref (z + 4), .ref (z + 5), .int (iI mHC), .int (iI mRC), .ref (z + 6), .ref (z + 7), .ref (z + 8), .int (iI (hist.length : Int)), .ref (z + 9), .ref (z + 10), .int (iI mJC), .int (iI mCh), .int (iI mVi)]) (htx : S (z + 1) = oI g 200 txa) (hst : S (z + 2) = oI g 5 stg) (hrst : S (z + 3) = oI g 5 rst) (hhp : S (z + 4) = oI g 24 hps) (hrhp : S (z + 5) = oI g 24 rhp) (hnw : S (z + 6) = oI g 1249 nw) (hsv : S (z + 7) = oI g 1249 sv) (hhs : S (z + 8) = oI g 7494 hs) (hnb : S (z + 9) = oI g 3 nbs) (hjs : S (z + 10) = oI g 60 js) (rtz : tz ≤ 200) (htx0 : ∀ i : Nat, i < tz → txa i = tx i) (hM : goodM mHC stg hps) (hR : goodR mHC.toNat (mLn hps) (mBr hps) rs rows) (hS : mS nw rs rows) (hHi : mHi hs hist) (hHg : goodH mHC.toNat (mLn hps) (mBr hps) hist) (r_x0 : -2147483648 ≤ x0 ∧ x0 < 2147483648) (hb : ¬ (32 ≤ x0 ∧ x0 ≤ 126)) : g_Cs l yX9_write wsX9_write { frames := 1, cells := 0, slots := 0, locals := 22 } g [.ref z, .int (iI x0)] n S (fun vr n1 S1 => vr = some (.int (iI (-1))) ∧ n = n1 ∧ MI0 g S1 z tz tx mHC stg hps rs rows hist ∧ (∀ bb, (bb < z ∨ z + 11 ≤ bb) → S1 bb = S bb)) 0 0 := by
  refine g_Cs.of (cc := cX9_write) (maxL := 2) (ret := (some .int)) (by decide) rfl (Nat.le_of_ble_eq_true rfl) ?_
  intro pp ee s m below meth cK Q H locs ls hc hnm hw hl hret
  have hl : lv_has ls 2 [(0, .ref z), (1, .int (iI x0))] := hl
  refine lv_iload_n hc.1 hc.2.1 dX9_write_0 rfl (lv_at hl 1 rfl) ?_
  refine nn_bipush hc dX9_write_1 (by decide +kernel) ?_
  refine nn_bipush hc dX9_write_3 (by decide +kernel) ?_
  refine nn_Sp (As := [.int (iI x0), .int (iI 32), .int (iI 126)]) (st := []) hc hw (c_X9_in l g   (by omega) (by omega) (by omega)) (va_cwS 3 hc.2.2.2.2 gX9_write_X9_in rfl rfl rfl (by decide +kernel) ⟨Nat.le_of_ble_eq_true rfl, Nat.le_of_ble_eq_true rfl⟩) rfl hl.1 rfl (Nat.le_of_ble_eq_true rfl) ⟨Nat.le_of_ble_eq_true rfl, Nat.le_of_ble_eq_true rfl⟩ dX9_write_5 ?_
  refine W.eq (g2 := F0 m 8 ls [.int (iI (if 32 ≤ x0 ∧ x0 ≤ 126 then 1 else 0))]) rfl ?_
  refine nn_if_ne hc dX9_write_8 (tgt := 13) (by decide) (by omega) (fun c1 => ?_) (fun c1 => ?_)
  · exfalso; omega
  · refine nn_iconst hc dX9_write_11 ?_
    exact hret (some (.int (iI (-1)))) _ S _ _ _ _ hw (⟨rfl, rfl, ⟨_, _, _, _, _, _, _, _, _, _, _, _, _, hz, htx, htx0, hst, hrst, hhp, hrhp, hnw, hsv, hhs, hnb, hjs, hS, hHi⟩, fun bb hbb  => rfl⟩) ⟨_, rfl, rfl, dX9_write_12⟩

set_option maxHeartbeats 4000000 in
set_option maxRecDepth 100000 in
theorem c_M_write_full (l : Launch) (g : gG) {n : Nat} {S : Nat → gE} {z : Nat} {mAt mHC mRC mJC mCh mVi : Int} {stg hps nw js : Nat → Int} {x0 : Int} {rs : Nat → Int} {rows : rT} {hs sv : Nat → Int} {hist : List sT} {tz : Nat} {tx txa rst rhp nbs : Nat → Int} (hz : S z = oO 9 [.ref (z + 1), .int (iI (tz : Int)), .int (iI mAt), .ref (z + 2), .ref (z + 3), .ref (z + 4), .ref (z + 5), .int (iI mHC), .int (iI mRC), .ref (z + 6), .ref (z + 7), .ref (z + 8), .int (iI (hist.length : Int)), .ref (z + 9), .ref (z + 10), .int (iI mJC), .int (iI mCh), .int (iI mVi)]) (htx : S (z + 1) = oI g 200 txa) (hst : S (z + 2) = oI g 5 stg) (hrst : S (z + 3) = oI g 5 rst) (hhp : S (z + 4) = oI g 24 hps) (hrhp : S (z + 5) = oI g 24 rhp) (hnw : S (z + 6) = oI g 1249 nw) (hsv : S (z + 7) = oI g 1249 sv) (hhs : S (z + 8) = oI g 7494 hs) (hnb : S (z + 9) = oI g 3 nbs) (hjs : S (z + 10) = oI g 60 js) (rtz : tz ≤ 200) (htx0 : ∀ i : Nat, i < tz → txa i = tx i) (hM : goodM mHC stg hps) (hR : goodR mHC.toNat (mLn hps) (mBr hps) rs rows) (hS : mS nw rs rows) (hHi : mHi hs hist) (hHg : goodH mHC.toNat (mLn hps) (mBr hps) hist) (r_x0 : -2147483648 ≤ x0 ∧ x0 < 2147483648) (hb : 32 ≤ x0 ∧ x0 ≤ 126) (ht2 : tz = 200) : g_Cs l yX9_write wsX9_write { frames := 1, cells := 0, slots := 0, locals := 22 } g [.ref z, .int (iI x0)] n S (fun vr n1 S1 => vr = some (.int (iI (-3))) ∧ n = n1 ∧ MI0 g S1 z tz tx mHC stg hps rs rows hist ∧ (∀ bb, (bb < z ∨ z + 11 ≤ bb) → S1 bb = S bb)) 0 0 := by
  refine g_Cs.of (cc := cX9_write) (maxL := 2) (ret := (some .int)) (by decide) rfl (Nat.le_of_ble_eq_true rfl) ?_
  intro pp ee s m below meth cK Q H locs ls hc hnm hw hl hret
  have hl : lv_has ls 2 [(0, .ref z), (1, .int (iI x0))] := hl
  have hiX9 : ∀ w ∈ u_ws RX9 TX9 18, w ∈ wsX9_write := by decide +kernel
  have lk63 : Cond.fieldLink RX9 63 "RoofCoursesModel" "length" "I" ∈ wsX9_write := by decide +kernel
  refine lv_iload_n hc.1 hc.2.1 dX9_write_0 rfl (lv_at hl 1 rfl) ?_
  refine nn_bipush hc dX9_write_1 (by decide +kernel) ?_
  refine nn_bipush hc dX9_write_3 (by decide +kernel) ?_
  refine nn_Sp (As := [.int (iI x0), .int (iI 32), .int (iI 126)]) (st := []) hc hw (c_X9_in l g   (by omega) (by omega) (by omega)) (va_cwS 3 hc.2.2.2.2 gX9_write_X9_in rfl rfl rfl (by decide +kernel) ⟨Nat.le_of_ble_eq_true rfl, Nat.le_of_ble_eq_true rfl⟩) rfl hl.1 rfl (Nat.le_of_ble_eq_true rfl) ⟨Nat.le_of_ble_eq_true rfl, Nat.le_of_ble_eq_true rfl⟩ dX9_write_5 ?_
  refine W.eq (g2 := F0 m 8 ls [.int (iI (if 32 ≤ x0 ∧ x0 ≤ 126 then 1 else 0))]) rfl ?_
  refine nn_if_ne hc dX9_write_8 (tgt := 13) (by decide) (by omega) (fun c1 => ?_) (fun c1 => ?_)
  · refine lv_aload_n hc.1 hc.2.1 dX9_write_13 rfl (lv_at hl 0 rfl) ?_
    refine nn_get hc hw hz hiX9 rfl 1 (by decide) rfl lk63 dX9_write_14 ?_
    refine nn_sipush hc dX9_write_17 (by decide +kernel) ?_
    refine nn_icmp_ne hc dX9_write_20 (tgt := 26) (by decide) (by omega) (by decide) (fun c2 => ?_) (fun c2 => ?_)
    · exfalso; omega
    · refine nn_bipush hc dX9_write_23 (by decide +kernel) ?_
      exact hret (some (.int (iI (-3)))) _ S _ _ _ _ hw (⟨rfl, rfl, ⟨_, _, _, _, _, _, _, _, _, _, _, _, _, hz, htx, htx0, hst, hrst, hhp, hrhp, hnw, hsv, hhs, hnb, hjs, hS, hHi⟩, fun bb hbb  => rfl⟩) ⟨_, rfl, rfl, dX9_write_25⟩
  · exfalso; omega

set_option maxHeartbeats 4000000 in
set_option maxRecDepth 100000 in
theorem c_M_write_ok (l : Launch) (g : gG) {n : Nat} {S : Nat → gE} {z : Nat} {mAt mHC mRC mJC mCh mVi : Int} {stg hps nw js : Nat → Int} {x0 : Int} {rs : Nat → Int} {rows : rT} {hs sv : Nat → Int} {hist : List sT} {tz : Nat} {tx txa rst rhp nbs : Nat → Int} (hz : S z = oO 9 [.ref (z + 1), .int (iI (tz : Int)), .int (iI mAt), .ref (z + 2), .ref (z + 3), .ref (z + 4), .ref (z + 5), .int (iI mHC), .int (iI mRC), .ref (z + 6), .ref (z + 7), .ref (z + 8), .int (iI (hist.length : Int)), .ref (z + 9), .ref (z + 10), .int (iI mJC), .int (iI mCh), .int (iI mVi)]) (htx : S (z + 1) = oI g 200 txa) (hst : S (z + 2) = oI g 5 stg) (hrst : S (z + 3) = oI g 5 rst) (hhp : S (z + 4) = oI g 24 hps) (hrhp : S (z + 5) = oI g 24 rhp) (hnw : S (z + 6) = oI g 1249 nw) (hsv : S (z + 7) = oI g 1249 sv) (hhs : S (z + 8) = oI g 7494 hs) (hnb : S (z + 9) = oI g 3 nbs) (hjs : S (z + 10) = oI g 60 js) (rtz : tz ≤ 200) (htx0 : ∀ i : Nat, i < tz → txa i = tx i) (hM : goodM mHC stg hps) (hR : goodR mHC.toNat (mLn hps) (mBr hps) rs rows) (hS : mS nw rs rows) (hHi : mHi hs hist) (hHg : goodH mHC.toNat (mLn hps) (mBr hps) hist) (r_x0 : -2147483648 ≤ x0 ∧ x0 < 2147483648) (hb : 32 ≤ x0 ∧ x0 ≤ 126) (ht2 : tz < 200) : g_Cs l yX9_write wsX9_write { frames := 1, cells := 0, slots := 0, locals := 22 } g [.ref z, .int (iI x0)] n S (fun vr n1 S1 => vr = some (.int (iI ((tz : Int) + 1))) ∧ n = n1 ∧ MI0 g S1 z (tz + 1) (va_up tx tz x0) mHC stg hps rs rows hist ∧ (∀ bb, (bb < z ∨ z + 11 ≤ bb) → S1 bb = S bb)) 0 0 := by
  refine g_Cs.of (cc := cX9_write) (maxL := 2) (ret := (some .int)) (by decide) rfl (Nat.le_of_ble_eq_true rfl) ?_
  intro pp ee s m below meth cK Q H locs ls hc hnm hw hl hret
  have hl : lv_has ls 2 [(0, .ref z), (1, .int (iI x0))] := hl
  have hiX9 : ∀ w ∈ u_ws RX9 TX9 18, w ∈ wsX9_write := by decide +kernel
  have lk63 : Cond.fieldLink RX9 63 "RoofCoursesModel" "length" "I" ∈ wsX9_write := by decide +kernel
  have lk7 : Cond.fieldLink RX9 7 "RoofCoursesModel" "text" "[I" ∈ wsX9_write := by decide +kernel
  refine lv_iload_n hc.1 hc.2.1 dX9_write_0 rfl (lv_at hl 1 rfl) ?_
  refine nn_bipush hc dX9_write_1 (by decide +kernel) ?_
  refine nn_bipush hc dX9_write_3 (by decide +kernel) ?_
  refine nn_Sp (As := [.int (iI x0), .int (iI 32), .int (iI 126)]) (st := []) hc hw (c_X9_in l g   (by omega) (by omega) (by omega)) (va_cwS 3 hc.2.2.2.2 gX9_write_X9_in rfl rfl rfl (by decide +kernel) ⟨Nat.le_of_ble_eq_true rfl, Nat.le_of_ble_eq_true rfl⟩) rfl hl.1 rfl (Nat.le_of_ble_eq_true rfl) ⟨Nat.le_of_ble_eq_true rfl, Nat.le_of_ble_eq_true rfl⟩ dX9_write_5 ?_
  refine W.eq (g2 := F0 m 8 ls [.int (iI (if 32 ≤ x0 ∧ x0 ≤ 126 then 1 else 0))]) rfl ?_
  refine nn_if_ne hc dX9_write_8 (tgt := 13) (by decide) (by omega) (fun c1 => ?_) (fun c1 => ?_)
  · refine lv_aload_n hc.1 hc.2.1 dX9_write_13 rfl (lv_at hl 0 rfl) ?_
    refine nn_get hc hw hz hiX9 rfl 1 (by decide) rfl lk63 dX9_write_14 ?_
    refine nn_sipush hc dX9_write_17 (by decide +kernel) ?_
    refine nn_icmp_ne hc dX9_write_20 (tgt := 26) (by decide) (by omega) (by decide) (fun c2 => ?_) (fun c2 => ?_)
    · refine lv_aload_n hc.1 hc.2.1 dX9_write_26 rfl (lv_at hl 0 rfl) ?_
      refine nn_get hc hw hz hiX9 rfl 0 (by decide) rfl lk7 dX9_write_27 ?_
      refine lv_aload_n hc.1 hc.2.1 dX9_write_30 rfl (lv_at hl 0 rfl) ?_
      refine nn_get hc hw hz hiX9 rfl 1 (by decide) rfl lk63 dX9_write_31 ?_
      refine lv_iload_n hc.1 hc.2.1 dX9_write_34 rfl (lv_at hl 1 rfl) ?_
      refine nn_iast hc hw htx (by omega) (by omega) dX9_write_35 (fun S3 H locs hS3 fS3 hw => ?_)
      refine lv_aload_n hc.1 hc.2.1 dX9_write_36 rfl (lv_at hl 0 rfl) ?_
      refine lv_dup hc.1 hc.2.1 dX9_write_37 rfl ?_
      have e4 : S3 z = oO 9 [.ref (z + 1), .int (iI (tz : Int)), .int (iI mAt), .ref (z + 2), .ref (z + 3), .ref (z + 4), .ref (z + 5), .int (iI mHC), .int (iI mRC), .ref (z + 6), .ref (z + 7), .ref (z + 8), .int (iI (hist.length : Int)), .ref (z + 9), .ref (z + 10), .int (iI mJC), .int (iI mCh), .int (iI mVi)] := (fS3 z (off_nl (x := z) (a := 1) (by decide))).trans hz
      refine nn_get hc hw e4 hiX9 rfl 1 (by decide) rfl lk63 dX9_write_38 ?_
      refine nn_iconst hc dX9_write_41 ?_
      refine nn_iadd hc dX9_write_42 ?_
      refine nn_put hc hw e4 hiX9 tyX9 tyX9_ok nmX9 rfl 1 (by decide) (Nat.le_of_ble_eq_true rfl) lk63 rfl rfl rfl dX9_write_43 (fun S5 H locs hS5 fS5 hw => ?_)
      have hS5 : S5 z = oO 9 [.ref (z + 1), .int (iI ((tz : Int) + 1)), .int (iI mAt), .ref (z + 2), .ref (z + 3), .ref (z + 4), .ref (z + 5), .int (iI mHC), .int (iI mRC), .ref (z + 6), .ref (z + 7), .ref (z + 8), .int (iI (hist.length : Int)), .ref (z + 9), .ref (z + 10), .int (iI mJC), .int (iI mCh), .int (iI mVi)] := hS5
      refine lv_aload_n hc.1 hc.2.1 dX9_write_46 rfl (lv_at hl 0 rfl) ?_
      refine nn_get hc hw hS5 hiX9 rfl 1 (by decide) rfl lk63 dX9_write_47 ?_
      have e6 : S5 (z + 1) = oI g 200 (va_up txa (tz : Int).toNat x0) := (fS5 (z + 1) (off_nr (x := z) (a := 1) (by decide))).trans hS3
      have e7 : S3 (z + 2) = oI g 5 stg := (fS3 (z + 2) (off_ne (x := z) (a := 2) (b := 1) (by decide))).trans hst
      have e8 : S5 (z + 2) = oI g 5 stg := (fS5 (z + 2) (off_nr (x := z) (a := 2) (by decide))).trans e7
      have e9 : S3 (z + 3) = oI g 5 rst := (fS3 (z + 3) (off_ne (x := z) (a := 3) (b := 1) (by decide))).trans hrst
      have e10 : S5 (z + 3) = oI g 5 rst := (fS5 (z + 3) (off_nr (x := z) (a := 3) (by decide))).trans e9
      have e11 : S3 (z + 4) = oI g 24 hps := (fS3 (z + 4) (off_ne (x := z) (a := 4) (b := 1) (by decide))).trans hhp
      have e12 : S5 (z + 4) = oI g 24 hps := (fS5 (z + 4) (off_nr (x := z) (a := 4) (by decide))).trans e11
      have e13 : S3 (z + 5) = oI g 24 rhp := (fS3 (z + 5) (off_ne (x := z) (a := 5) (b := 1) (by decide))).trans hrhp
      have e14 : S5 (z + 5) = oI g 24 rhp := (fS5 (z + 5) (off_nr (x := z) (a := 5) (by decide))).trans e13
      have e15 : S3 (z + 6) = oI g 1249 nw := (fS3 (z + 6) (off_ne (x := z) (a := 6) (b := 1) (by decide))).trans hnw
      have e16 : S5 (z + 6) = oI g 1249 nw := (fS5 (z + 6) (off_nr (x := z) (a := 6) (by decide))).trans e15
      have e17 : S3 (z + 7) = oI g 1249 sv := (fS3 (z + 7) (off_ne (x := z) (a := 7) (b := 1) (by decide))).trans hsv
      have e18 : S5 (z + 7) = oI g 1249 sv := (fS5 (z + 7) (off_nr (x := z) (a := 7) (by decide))).trans e17
      have e19 : S3 (z + 8) = oI g 7494 hs := (fS3 (z + 8) (off_ne (x := z) (a := 8) (b := 1) (by decide))).trans hhs
      have e20 : S5 (z + 8) = oI g 7494 hs := (fS5 (z + 8) (off_nr (x := z) (a := 8) (by decide))).trans e19
      have e21 : S3 (z + 9) = oI g 3 nbs := (fS3 (z + 9) (off_ne (x := z) (a := 9) (b := 1) (by decide))).trans hnb
      have e22 : S5 (z + 9) = oI g 3 nbs := (fS5 (z + 9) (off_nr (x := z) (a := 9) (by decide))).trans e21
      have e23 : S3 (z + 10) = oI g 60 js := (fS3 (z + 10) (off_ne (x := z) (a := 10) (b := 1) (by decide))).trans hjs
      have e24 : S5 (z + 10) = oI g 60 js := (fS5 (z + 10) (off_nr (x := z) (a := 10) (by decide))).trans e23
      exact hret (some (.int (iI ((tz : Int) + 1)))) _ S5 _ _ _ _ hw (⟨rfl, rfl, ⟨_, _, _, _, _, _, _, _, _, _, _, _, _, hS5, e6, (fun i hi => by unfold va_up; rw [show ((tz : Int)).toNat = tz from Int.toNat_natCast tz]; split; rfl; exact htx0 i (by omega)), e8, e10, e12, e14, e16, e18, e20, e22, e24, hS, hHi⟩, fun bb hbb  => ((fS5 bb (by omega))).trans (fS3 bb (by omega))⟩) ⟨_, rfl, rfl, dX9_write_50⟩
    · exfalso; omega
  · exfalso; omega

set_option maxHeartbeats 4000000 in
set_option maxRecDepth 100000 in
theorem c_M_wipe (l : Launch) (g : gG) {n : Nat} {S : Nat → gE} {z : Nat} {mAt mHC mRC mJC mCh mVi : Int} {stg hps nw js : Nat → Int} {rs : Nat → Int} {rows : rT} {hs sv : Nat → Int} {hist : List sT} {tz : Nat} {tx txa rst rhp nbs : Nat → Int} (hz : S z = oO 9 [.ref (z + 1), .int (iI (tz : Int)), .int (iI mAt), .ref (z + 2), .ref (z + 3), .ref (z + 4), .ref (z + 5), .int (iI mHC), .int (iI mRC), .ref (z + 6), .ref (z + 7), .ref (z + 8), .int (iI (hist.length : Int)), .ref (z + 9), .ref (z + 10), .int (iI mJC), .int (iI mCh), .int (iI mVi)]) (htx : S (z + 1) = oI g 200 txa) (hst : S (z + 2) = oI g 5 stg) (hrst : S (z + 3) = oI g 5 rst) (hhp : S (z + 4) = oI g 24 hps) (hrhp : S (z + 5) = oI g 24 rhp) (hnw : S (z + 6) = oI g 1249 nw) (hsv : S (z + 7) = oI g 1249 sv) (hhs : S (z + 8) = oI g 7494 hs) (hnb : S (z + 9) = oI g 3 nbs) (hjs : S (z + 10) = oI g 60 js) (rtz : tz ≤ 200) (htx0 : ∀ i : Nat, i < tz → txa i = tx i) (hM : goodM mHC stg hps) (hR : goodR mHC.toNat (mLn hps) (mBr hps) rs rows) (hS : mS nw rs rows) (hHi : mHi hs hist) (hHg : goodH mHC.toNat (mLn hps) (mBr hps) hist) : g_Cs l yX9_wipe wsX9_wipe { frames := 0, cells := 0, slots := 0, locals := 0 } g [.ref z] n S (fun vr n1 S1 => vr = some (.int (iI (tz : Int))) ∧ n = n1 ∧ MI0 g S1 z 0 tx mHC stg hps rs rows hist ∧ (∀ bb, (bb < z ∨ z + 11 ≤ bb) → S1 bb = S bb)) 0 0 := by
  refine g_Cs.of (cc := cX9_wipe) (maxL := 2) (ret := (some .int)) (by decide) rfl (Nat.le_of_ble_eq_true rfl) ?_
  intro pp ee s m below meth cK Q H locs ls hc hnm hw hl hret
  have hl : lv_has ls 2 [(0, .ref z)] := hl
  have hiX9 : ∀ w ∈ u_ws RX9 TX9 18, w ∈ wsX9_wipe := by decide +kernel
  have lk63 : Cond.fieldLink RX9 63 "RoofCoursesModel" "length" "I" ∈ wsX9_wipe := by decide +kernel
  refine lv_aload_n hc.1 hc.2.1 dX9_wipe_0 rfl (lv_at hl 0 rfl) ?_
  refine nn_get hc hw hz hiX9 rfl 1 (by decide) rfl lk63 dX9_wipe_1 ?_
  refine lv_istore_n (lv' := [(1, .int (iI (tz : Int))), (0, .ref z)]) hc.1 hc.2.1 dX9_wipe_4 rfl hl (by decide) rfl (fun ls hl => ?_)
  refine lv_aload_n hc.1 hc.2.1 dX9_wipe_5 rfl (lv_at hl 1 rfl) ?_
  refine nn_iconst hc dX9_wipe_6 ?_
  refine nn_put hc hw hz hiX9 tyX9 tyX9_ok nmX9 rfl 1 (by decide) (Nat.le_of_ble_eq_true rfl) lk63 rfl rfl rfl dX9_wipe_7 (fun S1 H locs hS1 fS1 hw => ?_)
  have hS1 : S1 z = oO 9 [.ref (z + 1), .int (iI 0), .int (iI mAt), .ref (z + 2), .ref (z + 3), .ref (z + 4), .ref (z + 5), .int (iI mHC), .int (iI mRC), .ref (z + 6), .ref (z + 7), .ref (z + 8), .int (iI (hist.length : Int)), .ref (z + 9), .ref (z + 10), .int (iI mJC), .int (iI mCh), .int (iI mVi)] := hS1
  refine lv_iload_n hc.1 hc.2.1 dX9_wipe_10 rfl (lv_at hl 0 rfl) ?_
  have e2 : S1 (z + 1) = oI g 200 txa := (fS1 (z + 1) (off_nr (x := z) (a := 1) (by decide))).trans htx
  have e3 : S1 (z + 2) = oI g 5 stg := (fS1 (z + 2) (off_nr (x := z) (a := 2) (by decide))).trans hst
  have e4 : S1 (z + 3) = oI g 5 rst := (fS1 (z + 3) (off_nr (x := z) (a := 3) (by decide))).trans hrst
  have e5 : S1 (z + 4) = oI g 24 hps := (fS1 (z + 4) (off_nr (x := z) (a := 4) (by decide))).trans hhp
  have e6 : S1 (z + 5) = oI g 24 rhp := (fS1 (z + 5) (off_nr (x := z) (a := 5) (by decide))).trans hrhp
  have e7 : S1 (z + 6) = oI g 1249 nw := (fS1 (z + 6) (off_nr (x := z) (a := 6) (by decide))).trans hnw
  have e8 : S1 (z + 7) = oI g 1249 sv := (fS1 (z + 7) (off_nr (x := z) (a := 7) (by decide))).trans hsv
  have e9 : S1 (z + 8) = oI g 7494 hs := (fS1 (z + 8) (off_nr (x := z) (a := 8) (by decide))).trans hhs
  have e10 : S1 (z + 9) = oI g 3 nbs := (fS1 (z + 9) (off_nr (x := z) (a := 9) (by decide))).trans hnb
  have e11 : S1 (z + 10) = oI g 60 js := (fS1 (z + 10) (off_nr (x := z) (a := 10) (by decide))).trans hjs
  exact hret (some (.int (iI (tz : Int)))) _ S1 _ _ _ _ hw (⟨rfl, rfl, ⟨_, _, _, _, _, _, _, _, _, _, _, _, _, hS1, e2, (fun i hi => absurd hi (Nat.not_lt_zero i)), e3, e4, e5, e6, e7, e8, e9, e10, e11, hS, hHi⟩, fun bb hbb  => (fS1 bb (by omega))⟩) ⟨_, rfl, rfl, dX9_wipe_11⟩

set_option maxHeartbeats 4000000 in
set_option maxRecDepth 100000 in
theorem c_M_next_bad (l : Launch) (g : gG) {n : Nat} {S : Nat → gE} {z : Nat} {mAt mHC mRC mJC mCh mVi : Int} {stg hps nw js : Nat → Int} {rs : Nat → Int} {rows : rT} {hs sv : Nat → Int} {hist : List sT} {how : Int} {tz : Nat} {tx txa rst rhp nbs : Nat → Int} (hz : S z = oO 9 [.ref (z + 1), .int (iI (tz : Int)), .int (iI mAt), .ref (z + 2), .ref (z + 3), .ref (z + 4), .ref (z + 5), .int (iI mHC), .int (iI mRC), .ref (z + 6), .ref (z + 7), .ref (z + 8), .int (iI (hist.length : Int)), .ref (z + 9), .ref (z + 10), .int (iI mJC), .int (iI mCh), .int (iI mVi)]) (htx : S (z + 1) = oI g 200 txa) (hst : S (z + 2) = oI g 5 stg) (hrst : S (z + 3) = oI g 5 rst) (hhp : S (z + 4) = oI g 24 hps) (hrhp : S (z + 5) = oI g 24 rhp) (hnw : S (z + 6) = oI g 1249 nw) (hsv : S (z + 7) = oI g 1249 sv) (hhs : S (z + 8) = oI g 7494 hs) (hnb : S (z + 9) = oI g 3 nbs) (hjs : S (z + 10) = oI g 60 js) (rtz : tz ≤ 200) (htx0 : ∀ i : Nat, i < tz → txa i = tx i) (hM : goodM mHC stg hps) (hR : goodR mHC.toNat (mLn hps) (mBr hps) rs rows) (hS : mS nw rs rows) (hHi : mHi hs hist) (hHg : goodH mHC.toNat (mLn hps) (mBr hps) hist) (r_how : -2147483648 ≤ how ∧ how < 2147483648) (hb : ¬ (0 ≤ how ∧ how ≤ 1)) : g_Cs l yX9_next wsX9_next { frames := 1, cells := 0, slots := 0, locals := 22 } g [.ref z, .int (iI how)] n S (fun vr n1 S1 => vr = some (.int (iI (-1))) ∧ n = n1 ∧ MI0 g S1 z tz tx mHC stg hps rs rows hist ∧ (∀ bb, (bb < z ∨ z + 11 ≤ bb) → S1 bb = S bb)) 0 0 := by
  refine g_Cs.of (cc := cX9_next) (maxL := 2) (ret := (some .int)) (by decide) rfl (Nat.le_of_ble_eq_true rfl) ?_
  intro pp ee s m below meth cK Q H locs ls hc hnm hw hl hret
  have hl : lv_has ls 2 [(0, .ref z), (1, .int (iI how))] := hl
  refine lv_iload_n hc.1 hc.2.1 dX9_next_0 rfl (lv_at hl 1 rfl) ?_
  refine nn_iconst hc dX9_next_1 ?_
  refine nn_iconst hc dX9_next_2 ?_
  refine nn_Sp (As := [.int (iI how), .int (iI 0), .int (iI 1)]) (st := []) hc hw (c_X9_in l g   (by omega) (by omega) (by omega)) (va_cwS 3 hc.2.2.2.2 gX9_next_X9_in rfl rfl rfl (by decide +kernel) ⟨Nat.le_of_ble_eq_true rfl, Nat.le_of_ble_eq_true rfl⟩) rfl hl.1 rfl (Nat.le_of_ble_eq_true rfl) ⟨Nat.le_of_ble_eq_true rfl, Nat.le_of_ble_eq_true rfl⟩ dX9_next_3 ?_
  refine W.eq (g2 := F0 m 6 ls [.int (iI (if 0 ≤ how ∧ how ≤ 1 then 1 else 0))]) rfl ?_
  refine nn_if_eq hc dX9_next_6 (tgt := 17) (by decide) (by omega) (fun c1 => ?_) (fun c1 => ?_)
  · refine nn_iconst hc dX9_next_17 ?_
    exact hret (some (.int (iI (-1)))) _ S _ _ _ _ hw (⟨rfl, rfl, ⟨_, _, _, _, _, _, _, _, _, _, _, _, _, hz, htx, htx0, hst, hrst, hhp, hrhp, hnw, hsv, hhs, hnb, hjs, hS, hHi⟩, fun bb hbb  => rfl⟩) ⟨_, rfl, rfl, dX9_next_18⟩
  · exfalso; omega

set_option maxHeartbeats 4000000 in
set_option maxRecDepth 100000 in
theorem c_M_next_ok (l : Launch) (g : gG) {n : Nat} {S : Nat → gE} {z : Nat} {mAt mHC mRC mJC mCh mVi : Int} {stg hps nw js : Nat → Int} {rs : Nat → Int} {rows : rT} {hs sv : Nat → Int} {hist : List sT} {how : Int} {tz : Nat} {tx txa rst rhp nbs : Nat → Int} (hz : S z = oO 9 [.ref (z + 1), .int (iI (tz : Int)), .int (iI mAt), .ref (z + 2), .ref (z + 3), .ref (z + 4), .ref (z + 5), .int (iI mHC), .int (iI mRC), .ref (z + 6), .ref (z + 7), .ref (z + 8), .int (iI (hist.length : Int)), .ref (z + 9), .ref (z + 10), .int (iI mJC), .int (iI mCh), .int (iI mVi)]) (htx : S (z + 1) = oI g 200 txa) (hst : S (z + 2) = oI g 5 stg) (hrst : S (z + 3) = oI g 5 rst) (hhp : S (z + 4) = oI g 24 hps) (hrhp : S (z + 5) = oI g 24 rhp) (hnw : S (z + 6) = oI g 1249 nw) (hsv : S (z + 7) = oI g 1249 sv) (hhs : S (z + 8) = oI g 7494 hs) (hnb : S (z + 9) = oI g 3 nbs) (hjs : S (z + 10) = oI g 60 js) (rtz : tz ≤ 200) (htx0 : ∀ i : Nat, i < tz → txa i = tx i) (hM : goodM mHC stg hps) (hR : goodR mHC.toNat (mLn hps) (mBr hps) rs rows) (hS : mS nw rs rows) (hHi : mHi hs hist) (hHg : goodH mHC.toNat (mLn hps) (mBr hps) hist) (hb : 0 ≤ how ∧ how ≤ 1) : g_Cs l yX9_next wsX9_next { frames := 6, cells := 0, slots := 0, locals := 139 } g [.ref z, .int (iI how)] n S (fun vr n1 S1 => vr = some (.int (iI (nxR mHC.toNat (mLn hps) (mBr hps) (stg 0) (stg 2) (stg 1) (stg 4) (stg 3) how rs rows))) ∧ n = n1 ∧ MI0 g S1 z tz tx mHC stg hps rs rows hist ∧ (∀ bb, (bb < z ∨ z + 11 ≤ bb) → S1 bb = S bb)) 0 0 := by
  refine g_Cs.of (cc := cX9_next) (maxL := 2) (ret := (some .int)) (by decide) rfl (Nat.le_of_ble_eq_true rfl) ?_
  intro pp ee s m below meth cK Q H locs ls hc hnm hw hl hret
  have hl : lv_has ls 2 [(0, .ref z), (1, .int (iI how))] := hl
  refine lv_iload_n hc.1 hc.2.1 dX9_next_0 rfl (lv_at hl 1 rfl) ?_
  refine nn_iconst hc dX9_next_1 ?_
  refine nn_iconst hc dX9_next_2 ?_
  refine nn_Sp (As := [.int (iI how), .int (iI 0), .int (iI 1)]) (st := []) hc hw (c_X9_in l g   (by omega) (by omega) (by omega)) (va_cwS 3 hc.2.2.2.2 gX9_next_X9_in rfl rfl rfl (by decide +kernel) ⟨Nat.le_of_ble_eq_true rfl, Nat.le_of_ble_eq_true rfl⟩) rfl hl.1 rfl (Nat.le_of_ble_eq_true rfl) ⟨Nat.le_of_ble_eq_true rfl, Nat.le_of_ble_eq_true rfl⟩ dX9_next_3 ?_
  refine W.eq (g2 := F0 m 6 ls [.int (iI (if 0 ≤ how ∧ how ≤ 1 then 1 else 0))]) rfl ?_
  refine nn_if_eq hc dX9_next_6 (tgt := 17) (by decide) (by omega) (fun c1 => ?_) (fun c1 => ?_)
  · exfalso; omega
  · refine lv_aload_n hc.1 hc.2.1 dX9_next_9 rfl (lv_at hl 0 rfl) ?_
    refine lv_iload_n hc.1 hc.2.1 dX9_next_10 rfl (lv_at hl 1 rfl) ?_
    refine nn_Vs (As := [.int (iI how)]) (st := []) hc hw hz rfl (c_X9_nextLength l g  hz hst hhp hnw hjs (hM) (hR) (hS) (by omega)) (cwV 1 hc.2.2.2.2 gX9_next_X9_nextLength rfl rfl rfl (by decide +kernel) ⟨Nat.le_of_ble_eq_true rfl, Nat.le_of_ble_eq_true rfl⟩) rfl hl.1 rfl (Nat.le_of_ble_eq_true rfl) ⟨Nat.le_of_ble_eq_true rfl, Nat.le_of_ble_eq_true rfl⟩ dX9_next_11 (fun vr n1 S2 H locs qS2 hw => ?_)
    obtain ⟨jf9_3, kw9_4, jc9_5, ch9_6, vi9_7, rfl, rfl, hS2_0, hS2_1, hS2_2, kS2_0, fS2⟩ := qS2
    refine W.eq (g2 := F0 m 14 ls [.int (iI (nxR mHC.toNat (mLn hps) (mBr hps) (stg 0) (stg 2) (stg 1) (stg 4) (stg 3) how rs rows))]) rfl ?_
    refine lv_goto hc.1 hc.2.1 dX9_next_14 (tgt := 18) (by decide) ?_
    have e8 : S2 (z + 1) = oI g 200 txa := (fS2 (z + 1) (off_nr (x := z) (a := 1) (by decide)) (off_ne (x := z) (a := 1) (b := 6) (by decide)) (off_ne (x := z) (a := 1) (b := 10) (by decide))).trans htx
    have e9 : S2 (z + 2) = oI g 5 stg := (fS2 (z + 2) (off_nr (x := z) (a := 2) (by decide)) (off_ne (x := z) (a := 2) (b := 6) (by decide)) (off_ne (x := z) (a := 2) (b := 10) (by decide))).trans hst
    have e10 : S2 (z + 3) = oI g 5 rst := (fS2 (z + 3) (off_nr (x := z) (a := 3) (by decide)) (off_ne (x := z) (a := 3) (b := 6) (by decide)) (off_ne (x := z) (a := 3) (b := 10) (by decide))).trans hrst
    have e11 : S2 (z + 4) = oI g 24 hps := (fS2 (z + 4) (off_nr (x := z) (a := 4) (by decide)) (off_ne (x := z) (a := 4) (b := 6) (by decide)) (off_ne (x := z) (a := 4) (b := 10) (by decide))).trans hhp
    have e12 : S2 (z + 5) = oI g 24 rhp := (fS2 (z + 5) (off_nr (x := z) (a := 5) (by decide)) (off_ne (x := z) (a := 5) (b := 6) (by decide)) (off_ne (x := z) (a := 5) (b := 10) (by decide))).trans hrhp
    have e13 : S2 (z + 7) = oI g 1249 sv := (fS2 (z + 7) (off_nr (x := z) (a := 7) (by decide)) (off_ne (x := z) (a := 7) (b := 6) (by decide)) (off_ne (x := z) (a := 7) (b := 10) (by decide))).trans hsv
    have e14 : S2 (z + 8) = oI g 7494 hs := (fS2 (z + 8) (off_nr (x := z) (a := 8) (by decide)) (off_ne (x := z) (a := 8) (b := 6) (by decide)) (off_ne (x := z) (a := 8) (b := 10) (by decide))).trans hhs
    have e15 : S2 (z + 9) = oI g 3 nbs := (fS2 (z + 9) (off_nr (x := z) (a := 9) (by decide)) (off_ne (x := z) (a := 9) (b := 6) (by decide)) (off_ne (x := z) (a := 9) (b := 10) (by decide))).trans hnb
    exact hret (some (.int (iI (nxR mHC.toNat (mLn hps) (mBr hps) (stg 0) (stg 2) (stg 1) (stg 4) (stg 3) how rs rows)))) _ S2 _ _ _ _ hw (⟨rfl, rfl, ⟨_, _, _, _, _, _, _, _, _, _, _, _, _, hS2_0, e8, htx0, e9, e10, e11, e12, hS2_1, e13, e14, e15, hS2_2, kS2_0, hHi⟩, fun bb hbb  => (fS2 bb (by omega) (by omega) (by omega))⟩) ⟨_, rfl, rfl, dX9_next_18⟩

set_option maxHeartbeats 4000000 in
set_option maxRecDepth 100000 in
theorem c_M_tried_bad (l : Launch) (g : gG) {n : Nat} {S : Nat → gE} {z : Nat} {mAt mHC mRC mJC mCh mVi : Int} {stg hps nw js : Nat → Int} {x0 : Int} {rs : Nat → Int} {rows : rT} {hs sv : Nat → Int} {hist : List sT} {what : Int} {tz : Nat} {tx txa rst rhp nbs : Nat → Int} (hz : S z = oO 9 [.ref (z + 1), .int (iI (tz : Int)), .int (iI mAt), .ref (z + 2), .ref (z + 3), .ref (z + 4), .ref (z + 5), .int (iI mHC), .int (iI mRC), .ref (z + 6), .ref (z + 7), .ref (z + 8), .int (iI (hist.length : Int)), .ref (z + 9), .ref (z + 10), .int (iI mJC), .int (iI mCh), .int (iI mVi)]) (htx : S (z + 1) = oI g 200 txa) (hst : S (z + 2) = oI g 5 stg) (hrst : S (z + 3) = oI g 5 rst) (hhp : S (z + 4) = oI g 24 hps) (hrhp : S (z + 5) = oI g 24 rhp) (hnw : S (z + 6) = oI g 1249 nw) (hsv : S (z + 7) = oI g 1249 sv) (hhs : S (z + 8) = oI g 7494 hs) (hnb : S (z + 9) = oI g 3 nbs) (hjs : S (z + 10) = oI g 60 js) (rtz : tz ≤ 200) (htx0 : ∀ i : Nat, i < tz → txa i = tx i) (hM : goodM mHC stg hps) (hR : goodR mHC.toNat (mLn hps) (mBr hps) rs rows) (hS : mS nw rs rows) (hHi : mHi hs hist) (hHg : goodH mHC.toNat (mLn hps) (mBr hps) hist) (r_x0 : -2147483648 ≤ x0 ∧ x0 < 2147483648) (r_what : -2147483648 ≤ what ∧ what < 2147483648) (hb : ¬ ((20 ≤ x0 ∧ x0 ≤ 60) ∧ (0 ≤ what ∧ what ≤ 1))) : g_Cs l yX9_tried wsX9_tried { frames := 1, cells := 0, slots := 0, locals := 22 } g [.ref z, .int (iI x0), .int (iI what)] n S (fun vr n1 S1 => vr = some (.int (iI (-1))) ∧ n = n1 ∧ MI0 g S1 z tz tx mHC stg hps rs rows hist ∧ (∀ bb, (bb < z ∨ z + 11 ≤ bb) → S1 bb = S bb)) 0 0 := by
  refine g_Cs.of (cc := cX9_tried) (maxL := 5) (ret := (some .int)) (by decide) rfl (Nat.le_of_ble_eq_true rfl) ?_
  intro pp ee s m below meth cK Q H locs ls hc hnm hw hl hret
  have hl : lv_has ls 5 [(0, .ref z), (1, .int (iI x0)), (2, .int (iI what))] := hl
  refine lv_iload_n hc.1 hc.2.1 dX9_tried_0 rfl (lv_at hl 1 rfl) ?_
  refine nn_bipush hc dX9_tried_1 (by decide +kernel) ?_
  refine nn_bipush hc dX9_tried_3 (by decide +kernel) ?_
  refine nn_Sp (As := [.int (iI x0), .int (iI 20), .int (iI 60)]) (st := []) hc hw (c_X9_in l g   (by omega) (by omega) (by omega)) (va_cwS 3 hc.2.2.2.2 gX9_tried_X9_in rfl rfl rfl (by decide +kernel) ⟨Nat.le_of_ble_eq_true rfl, Nat.le_of_ble_eq_true rfl⟩) rfl hl.1 rfl (Nat.le_of_ble_eq_true rfl) ⟨Nat.le_of_ble_eq_true rfl, Nat.le_of_ble_eq_true rfl⟩ dX9_tried_5 ?_
  refine W.eq (g2 := F0 m 8 ls [.int (iI (if 20 ≤ x0 ∧ x0 ≤ 60 then 1 else 0))]) rfl ?_
  refine nn_if_eq hc dX9_tried_8 (tgt := 20) (by decide) (by omega) (fun c1 => ?_) (fun c1 => ?_)
  · refine nn_iconst hc dX9_tried_20 ?_
    exact hret (some (.int (iI (-1)))) _ S _ _ _ _ hw (⟨rfl, rfl, ⟨_, _, _, _, _, _, _, _, _, _, _, _, _, hz, htx, htx0, hst, hrst, hhp, hrhp, hnw, hsv, hhs, hnb, hjs, hS, hHi⟩, fun bb hbb  => rfl⟩) ⟨_, rfl, rfl, dX9_tried_21⟩
  · refine lv_iload_n hc.1 hc.2.1 dX9_tried_11 rfl (lv_at hl 2 rfl) ?_
    refine nn_iconst hc dX9_tried_12 ?_
    refine nn_iconst hc dX9_tried_13 ?_
    refine nn_Sp (As := [.int (iI what), .int (iI 0), .int (iI 1)]) (st := []) hc hw (c_X9_in l g   (by omega) (by omega) (by omega)) (va_cwS 3 hc.2.2.2.2 gX9_tried_X9_in rfl rfl rfl (by decide +kernel) ⟨Nat.le_of_ble_eq_true rfl, Nat.le_of_ble_eq_true rfl⟩) rfl hl.1 rfl (Nat.le_of_ble_eq_true rfl) ⟨Nat.le_of_ble_eq_true rfl, Nat.le_of_ble_eq_true rfl⟩ dX9_tried_14 ?_
    refine W.eq (g2 := F0 m 17 ls [.int (iI (if 0 ≤ what ∧ what ≤ 1 then 1 else 0))]) rfl ?_
    refine nn_if_ne hc dX9_tried_17 (tgt := 22) (by decide) (by omega) (fun c2 => ?_) (fun c2 => ?_)
    · exfalso; omega
    · refine nn_iconst hc dX9_tried_20 ?_
      exact hret (some (.int (iI (-1)))) _ S _ _ _ _ hw (⟨rfl, rfl, ⟨_, _, _, _, _, _, _, _, _, _, _, _, _, hz, htx, htx0, hst, hrst, hhp, hrhp, hnw, hsv, hhs, hnb, hjs, hS, hHi⟩, fun bb hbb  => rfl⟩) ⟨_, rfl, rfl, dX9_tried_21⟩

set_option maxHeartbeats 4000000 in
set_option maxRecDepth 100000 in
theorem c_M_tried_no (l : Launch) (g : gG) {n : Nat} {S : Nat → gE} {z : Nat} {mAt mHC mRC mJC mCh mVi : Int} {stg hps nw js : Nat → Int} {x0 : Int} {rs : Nat → Int} {rows : rT} {hs sv : Nat → Int} {hist : List sT} {what : Int} {tz : Nat} {tx txa rst rhp nbs : Nat → Int} (hz : S z = oO 9 [.ref (z + 1), .int (iI (tz : Int)), .int (iI mAt), .ref (z + 2), .ref (z + 3), .ref (z + 4), .ref (z + 5), .int (iI mHC), .int (iI mRC), .ref (z + 6), .ref (z + 7), .ref (z + 8), .int (iI (hist.length : Int)), .ref (z + 9), .ref (z + 10), .int (iI mJC), .int (iI mCh), .int (iI mVi)]) (htx : S (z + 1) = oI g 200 txa) (hst : S (z + 2) = oI g 5 stg) (hrst : S (z + 3) = oI g 5 rst) (hhp : S (z + 4) = oI g 24 hps) (hrhp : S (z + 5) = oI g 24 rhp) (hnw : S (z + 6) = oI g 1249 nw) (hsv : S (z + 7) = oI g 1249 sv) (hhs : S (z + 8) = oI g 7494 hs) (hnb : S (z + 9) = oI g 3 nbs) (hjs : S (z + 10) = oI g 60 js) (rtz : tz ≤ 200) (htx0 : ∀ i : Nat, i < tz → txa i = tx i) (hM : goodM mHC stg hps) (hR : goodR mHC.toNat (mLn hps) (mBr hps) rs rows) (hS : mS nw rs rows) (hHi : mHi hs hist) (hHg : goodH mHC.toNat (mLn hps) (mBr hps) hist) (hb : (20 ≤ x0 ∧ x0 ≤ 60) ∧ (0 ≤ what ∧ what ≤ 1)) (hlay : layR mHC.toNat (mLn hps) (mBr hps) (stg 0) (stg 2) (stg 1) (stg 4) (stg 3) rs rows x0 = none) : g_Cs l yX9_tried wsX9_tried { frames := 5, cells := 0, slots := 0, locals := 112 } g [.ref z, .int (iI x0), .int (iI what)] n S (fun vr n1 S1 => vr = some (.int (iI (-2))) ∧ n = n1 ∧ MI0 g S1 z tz tx mHC stg hps rs rows hist ∧ (∀ bb, (bb < z ∨ z + 11 ≤ bb) → S1 bb = S bb)) 0 0 := by
  refine g_Cs.of (cc := cX9_tried) (maxL := 5) (ret := (some .int)) (by decide) rfl (Nat.le_of_ble_eq_true rfl) ?_
  intro pp ee s m below meth cK Q H locs ls hc hnm hw hl hret
  have hl : lv_has ls 5 [(0, .ref z), (1, .int (iI x0)), (2, .int (iI what))] := hl
  have hM0 := hM
  refine lv_iload_n hc.1 hc.2.1 dX9_tried_0 rfl (lv_at hl 1 rfl) ?_
  refine nn_bipush hc dX9_tried_1 (by decide +kernel) ?_
  refine nn_bipush hc dX9_tried_3 (by decide +kernel) ?_
  refine nn_Sp (As := [.int (iI x0), .int (iI 20), .int (iI 60)]) (st := []) hc hw (c_X9_in l g   (by omega) (by omega) (by omega)) (va_cwS 3 hc.2.2.2.2 gX9_tried_X9_in rfl rfl rfl (by decide +kernel) ⟨Nat.le_of_ble_eq_true rfl, Nat.le_of_ble_eq_true rfl⟩) rfl hl.1 rfl (Nat.le_of_ble_eq_true rfl) ⟨Nat.le_of_ble_eq_true rfl, Nat.le_of_ble_eq_true rfl⟩ dX9_tried_5 ?_
  refine W.eq (g2 := F0 m 8 ls [.int (iI (if 20 ≤ x0 ∧ x0 ≤ 60 then 1 else 0))]) rfl ?_
  refine nn_if_eq hc dX9_tried_8 (tgt := 20) (by decide) (by omega) (fun c1 => ?_) (fun c1 => ?_)
  · exfalso; omega
  · refine lv_iload_n hc.1 hc.2.1 dX9_tried_11 rfl (lv_at hl 2 rfl) ?_
    refine nn_iconst hc dX9_tried_12 ?_
    refine nn_iconst hc dX9_tried_13 ?_
    refine nn_Sp (As := [.int (iI what), .int (iI 0), .int (iI 1)]) (st := []) hc hw (c_X9_in l g   (by omega) (by omega) (by omega)) (va_cwS 3 hc.2.2.2.2 gX9_tried_X9_in rfl rfl rfl (by decide +kernel) ⟨Nat.le_of_ble_eq_true rfl, Nat.le_of_ble_eq_true rfl⟩) rfl hl.1 rfl (Nat.le_of_ble_eq_true rfl) ⟨Nat.le_of_ble_eq_true rfl, Nat.le_of_ble_eq_true rfl⟩ dX9_tried_14 ?_
    refine W.eq (g2 := F0 m 17 ls [.int (iI (if 0 ≤ what ∧ what ≤ 1 then 1 else 0))]) rfl ?_
    refine nn_if_ne hc dX9_tried_17 (tgt := 22) (by decide) (by omega) (fun c2 => ?_) (fun c2 => ?_)
    · refine lv_aload_n hc.1 hc.2.1 dX9_tried_22 rfl (lv_at hl 0 rfl) ?_
      refine lv_iload_n hc.1 hc.2.1 dX9_tried_23 rfl (lv_at hl 1 rfl) ?_
      refine nn_Vs (As := [.int (iI x0)]) (st := []) hc hw hz rfl (c_X9_layCourse_no l g  hz hst hhp hnw hjs (hM0) (hR) (hS) (by omega) (hlay)) (cwV 1 hc.2.2.2.2 gX9_tried_X9_layCourse rfl rfl rfl (by decide +kernel) ⟨Nat.le_of_ble_eq_true rfl, Nat.le_of_ble_eq_true rfl⟩) rfl hl.1 rfl (Nat.le_of_ble_eq_true rfl) ⟨Nat.le_of_ble_eq_true rfl, Nat.le_of_ble_eq_true rfl⟩ dX9_tried_24 (fun vr n1 S3 H locs qS3 hw => ?_)
      obtain ⟨jf9_4, kw9_5, jc9_6, ch9_7, vi9_8, rfl, rfl, hS3_0, hS3_1, hS3_2, kS3_0, fS3⟩ := qS3
      refine W.eq (g2 := F0 m 27 ls [.int (iI 0)]) rfl ?_
      refine nn_if_ne hc dX9_tried_27 (tgt := 33) (by decide) (by decide) (fun c9 => ?_) (fun c9 => ?_)
      · exact absurd c9 (by decide)
      · refine nn_bipush hc dX9_tried_30 (by decide +kernel) ?_
        have e10 : S3 (z + 1) = oI g 200 txa := (fS3 (z + 1) (off_nr (x := z) (a := 1) (by decide)) (off_ne (x := z) (a := 1) (b := 6) (by decide)) (off_ne (x := z) (a := 1) (b := 10) (by decide))).trans htx
        have e11 : S3 (z + 2) = oI g 5 stg := (fS3 (z + 2) (off_nr (x := z) (a := 2) (by decide)) (off_ne (x := z) (a := 2) (b := 6) (by decide)) (off_ne (x := z) (a := 2) (b := 10) (by decide))).trans hst
        have e12 : S3 (z + 3) = oI g 5 rst := (fS3 (z + 3) (off_nr (x := z) (a := 3) (by decide)) (off_ne (x := z) (a := 3) (b := 6) (by decide)) (off_ne (x := z) (a := 3) (b := 10) (by decide))).trans hrst
        have e13 : S3 (z + 4) = oI g 24 hps := (fS3 (z + 4) (off_nr (x := z) (a := 4) (by decide)) (off_ne (x := z) (a := 4) (b := 6) (by decide)) (off_ne (x := z) (a := 4) (b := 10) (by decide))).trans hhp
        have e14 : S3 (z + 5) = oI g 24 rhp := (fS3 (z + 5) (off_nr (x := z) (a := 5) (by decide)) (off_ne (x := z) (a := 5) (b := 6) (by decide)) (off_ne (x := z) (a := 5) (b := 10) (by decide))).trans hrhp
        have e15 : S3 (z + 7) = oI g 1249 sv := (fS3 (z + 7) (off_nr (x := z) (a := 7) (by decide)) (off_ne (x := z) (a := 7) (b := 6) (by decide)) (off_ne (x := z) (a := 7) (b := 10) (by decide))).trans hsv
        have e16 : S3 (z + 8) = oI g 7494 hs := (fS3 (z + 8) (off_nr (x := z) (a := 8) (by decide)) (off_ne (x := z) (a := 8) (b := 6) (by decide)) (off_ne (x := z) (a := 8) (b := 10) (by decide))).trans hhs
        have e17 : S3 (z + 9) = oI g 3 nbs := (fS3 (z + 9) (off_nr (x := z) (a := 9) (by decide)) (off_ne (x := z) (a := 9) (b := 6) (by decide)) (off_ne (x := z) (a := 9) (b := 10) (by decide))).trans hnb
        exact hret (some (.int (iI (-2)))) _ S3 _ _ _ _ hw (⟨rfl, rfl, ⟨_, _, _, _, _, _, _, _, _, _, _, _, _, hS3_0, e10, htx0, e11, e12, e13, e14, hS3_1, e15, e16, e17, hS3_2, kS3_0, hHi⟩, fun bb hbb  => (fS3 bb (by omega) (by omega) (by omega))⟩) ⟨_, rfl, rfl, dX9_tried_32⟩
    · exfalso; omega

set_option maxHeartbeats 4000000 in
set_option maxRecDepth 100000 in
theorem c_M_tried_yes (l : Launch) (g : gG) {n : Nat} {S : Nat → gE} {z : Nat} {mAt mHC mRC mJC mCh mVi : Int} {stg hps nw js : Nat → Int} {x0 : Int} {rs : Nat → Int} {rows : rT} {sl : sL} {hs sv : Nat → Int} {hist : List sT} {what : Int} {tz : Nat} {tx txa rst rhp nbs : Nat → Int} (hz : S z = oO 9 [.ref (z + 1), .int (iI (tz : Int)), .int (iI mAt), .ref (z + 2), .ref (z + 3), .ref (z + 4), .ref (z + 5), .int (iI mHC), .int (iI mRC), .ref (z + 6), .ref (z + 7), .ref (z + 8), .int (iI (hist.length : Int)), .ref (z + 9), .ref (z + 10), .int (iI mJC), .int (iI mCh), .int (iI mVi)]) (htx : S (z + 1) = oI g 200 txa) (hst : S (z + 2) = oI g 5 stg) (hrst : S (z + 3) = oI g 5 rst) (hhp : S (z + 4) = oI g 24 hps) (hrhp : S (z + 5) = oI g 24 rhp) (hnw : S (z + 6) = oI g 1249 nw) (hsv : S (z + 7) = oI g 1249 sv) (hhs : S (z + 8) = oI g 7494 hs) (hnb : S (z + 9) = oI g 3 nbs) (hjs : S (z + 10) = oI g 60 js) (rtz : tz ≤ 200) (htx0 : ∀ i : Nat, i < tz → txa i = tx i) (hM : goodM mHC stg hps) (hR : goodR mHC.toNat (mLn hps) (mBr hps) rs rows) (hS : mS nw rs rows) (hHi : mHi hs hist) (hHg : goodH mHC.toNat (mLn hps) (mBr hps) hist) (hb : (20 ≤ x0 ∧ x0 ≤ 60) ∧ (0 ≤ what ∧ what ≤ 1)) (hlay : layR mHC.toNat (mLn hps) (mBr hps) (stg 0) (stg 2) (stg 1) (stg 4) (stg 3) rs rows x0 = some sl) : g_Cs l yX9_tried wsX9_tried { frames := 5, cells := 0, slots := 0, locals := 112 } g [.ref z, .int (iI x0), .int (iI what)] n S (fun vr n1 S1 => vr = some (.int (iI (if what = 0 then (sl.length : Int) else wst (mBr hps) x0 sl))) ∧ n = n1 ∧ MI0 g S1 z tz tx mHC stg hps rs rows hist ∧ (∀ bb, (bb < z ∨ z + 11 ≤ bb) → S1 bb = S bb)) 0 0 := by
  refine g_Cs.of (cc := cX9_tried) (maxL := 5) (ret := (some .int)) (by decide) rfl (Nat.le_of_ble_eq_true rfl) ?_
  intro pp ee s m below meth cK Q H locs ls hc hnm hw hl hret
  have hl : lv_has ls 5 [(0, .ref z), (1, .int (iI x0)), (2, .int (iI what))] := hl
  have hiX9 : ∀ w ∈ u_ws RX9 TX9 18, w ∈ wsX9_tried := by decide +kernel
  have lk25 : Cond.fieldLink RX9 25 "RoofCoursesModel" "now" "[I" ∈ wsX9_tried := by decide +kernel
  have hM0 := hM
  obtain ⟨m1, m2, m3, m4, m5, m6, m7, m8⟩ := hM
  have hRl := hR.1
  have h8 := hS.2.1
  have hdr := hd_r hR m6 (Nat.le_refl rows.length)
  have hrg := mS_rg hM0 hR hS
  have hHD := mS_hd hS (stg 2)
  have hbr2 : ∀ i : Nat, i < mHC.toNat → 1 ≤ mBr hps i ∧ mBr hps i ≤ 60 := fun i hi => by have := m2 i (by omega); omega
  have hbr1 : ∀ i : Nat, i < mHC.toNat → 1 ≤ mBr hps i := fun i hi => (hbr2 i hi).1
  refine lv_iload_n hc.1 hc.2.1 dX9_tried_0 rfl (lv_at hl 1 rfl) ?_
  refine nn_bipush hc dX9_tried_1 (by decide +kernel) ?_
  refine nn_bipush hc dX9_tried_3 (by decide +kernel) ?_
  refine nn_Sp (As := [.int (iI x0), .int (iI 20), .int (iI 60)]) (st := []) hc hw (c_X9_in l g   (by omega) (by omega) (by omega)) (va_cwS 3 hc.2.2.2.2 gX9_tried_X9_in rfl rfl rfl (by decide +kernel) ⟨Nat.le_of_ble_eq_true rfl, Nat.le_of_ble_eq_true rfl⟩) rfl hl.1 rfl (Nat.le_of_ble_eq_true rfl) ⟨Nat.le_of_ble_eq_true rfl, Nat.le_of_ble_eq_true rfl⟩ dX9_tried_5 ?_
  refine W.eq (g2 := F0 m 8 ls [.int (iI (if 20 ≤ x0 ∧ x0 ≤ 60 then 1 else 0))]) rfl ?_
  refine nn_if_eq hc dX9_tried_8 (tgt := 20) (by decide) (by omega) (fun c1 => ?_) (fun c1 => ?_)
  · exfalso; omega
  · refine lv_iload_n hc.1 hc.2.1 dX9_tried_11 rfl (lv_at hl 2 rfl) ?_
    refine nn_iconst hc dX9_tried_12 ?_
    refine nn_iconst hc dX9_tried_13 ?_
    refine nn_Sp (As := [.int (iI what), .int (iI 0), .int (iI 1)]) (st := []) hc hw (c_X9_in l g   (by omega) (by omega) (by omega)) (va_cwS 3 hc.2.2.2.2 gX9_tried_X9_in rfl rfl rfl (by decide +kernel) ⟨Nat.le_of_ble_eq_true rfl, Nat.le_of_ble_eq_true rfl⟩) rfl hl.1 rfl (Nat.le_of_ble_eq_true rfl) ⟨Nat.le_of_ble_eq_true rfl, Nat.le_of_ble_eq_true rfl⟩ dX9_tried_14 ?_
    refine W.eq (g2 := F0 m 17 ls [.int (iI (if 0 ≤ what ∧ what ≤ 1 then 1 else 0))]) rfl ?_
    refine nn_if_ne hc dX9_tried_17 (tgt := 22) (by decide) (by omega) (fun c2 => ?_) (fun c2 => ?_)
    · refine lv_aload_n hc.1 hc.2.1 dX9_tried_22 rfl (lv_at hl 0 rfl) ?_
      refine lv_iload_n hc.1 hc.2.1 dX9_tried_23 rfl (lv_at hl 1 rfl) ?_
      refine nn_Vs (As := [.int (iI x0)]) (st := []) hc hw hz rfl (c_X9_layCourse_yes l g  hz hst hhp hnw hjs (hM0) (hR) (hS) (by omega) (hlay)) (cwV 1 hc.2.2.2.2 gX9_tried_X9_layCourse rfl rfl rfl (by decide +kernel) ⟨Nat.le_of_ble_eq_true rfl, Nat.le_of_ble_eq_true rfl⟩) rfl hl.1 rfl (Nat.le_of_ble_eq_true rfl) ⟨Nat.le_of_ble_eq_true rfl, Nat.le_of_ble_eq_true rfl⟩ dX9_tried_24 (fun vr n1 S3 H locs qS3 hw => ?_)
      obtain ⟨jf9_4, kw9_5, jc9_6, ch9_7, vi9_8, rfl, rfl, hS3_0, hS3_1, hS3_2, kS3_0, fS3⟩ := qS3
      refine W.eq (g2 := F0 m 27 ls [.int (iI 1)]) rfl ?_
      refine nn_if_ne hc dX9_tried_27 (tgt := 33) (by decide) (by decide) (fun c9 => ?_) (fun c9 => ?_)
      · have hS2 := kS3_0
        have h82 := hS2.2.1
        rw [len_sn] at h82
        have hly3 := layC_good hbr1 (layR_some hlay).2
        have hop9 := (layR_some hlay).1
        have hrw := hS2.2.2 rows.length (by rw [len_sn]; omega)
        rw [rL_at, rS_at] at hrw
        have hrw1 : rowIs (kw9_5) ((kw9_5) 8 - 1).toNat x0 sl := by rw [h82, show (((rows.length + 1 : Nat) : Int) - 1).toNat = rows.length by omega]; exact hrw
        have hrw2 := hrw1.2.1
        refine lv_aload_n hc.1 hc.2.1 dX9_tried_33 rfl (lv_at hl 0 rfl) ?_
        refine nn_get hc hw hS3_0 hiX9 rfl 9 (by decide) rfl lk25 dX9_tried_34 ?_
        refine nn_bipush hc dX9_tried_37 (by decide +kernel) ?_
        refine nn_iald hc hw hS3_1 (by omega) (by omega) dX9_tried_39 ?_
        refine W.eq (g2 := F0 m 40 ls [.int (iI (kw9_5 8))]) rfl ?_
        refine nn_iconst hc dX9_tried_40 ?_
        refine nn_isub hc dX9_tried_41 ?_
        refine lv_istore_n (lv' := [(3, .int (iI ((kw9_5 8) - 1))), (0, .ref z), (1, .int (iI x0)), (2, .int (iI what))]) hc.1 hc.2.1 dX9_tried_42 rfl hl (by decide) rfl (fun ls hl => ?_)
        refine lv_iload_n hc.1 hc.2.1 dX9_tried_43 rfl (lv_at hl 3 rfl) ?_
        refine nn_if_ne hc dX9_tried_44 (tgt := 55) (by decide) (by omega) (fun c10 => ?_) (fun c10 => ?_)
        · refine lv_aload_n hc.1 hc.2.1 dX9_tried_55 rfl (lv_at hl 1 rfl) ?_
          refine lv_iload_n hc.1 hc.2.1 dX9_tried_56 rfl (lv_at hl 0 rfl) ?_
          have e11 : S3 (z + 4) = oI g 24 hps := (fS3 (z + 4) (off_nr (x := z) (a := 4) (by decide)) (off_ne (x := z) (a := 4) (b := 6) (by decide)) (off_ne (x := z) (a := 4) (b := 10) (by decide))).trans hhp
          refine nn_Vp (As := [.int (iI ((kw9_5 8) - 1))]) (st := []) hc hw hS3_0 rfl (c_X9_waste l g  hS3_0 hS3_1 e11 (by omega) (hrw1) (hly3.1) (hly3.2.1.1) (by omega) (hbr2)) (cwV 1 hc.2.2.2.2 gX9_tried_X9_waste rfl rfl rfl (by decide +kernel) ⟨Nat.le_of_ble_eq_true rfl, Nat.le_of_ble_eq_true rfl⟩) rfl hl.1 rfl (Nat.le_of_ble_eq_true rfl) ⟨Nat.le_of_ble_eq_true rfl, Nat.le_of_ble_eq_true rfl⟩ dX9_tried_57 ?_
          refine W.eq (g2 := F0 m 60 ls [.int (iI (wst (mBr hps) x0 sl))]) rfl ?_
          refine nn_name (fun xa exa => ?_)
          refine lv_istore (lv' := [(4, .int (iI xa)), (3, .int (iI ((kw9_5 8) - 1))), (0, .ref z), (1, .int (iI x0)), (2, .int (iI what))]) hc.1 hc.2.1 dX9_tried_60 hl (by decide) rfl (fun ls hl => ?_)
          have exa1 := exa
          refine lv_aload_n hc.1 hc.2.1 dX9_tried_62 rfl (lv_at hl 2 rfl) ?_
          refine nn_Vs (As := []) (st := []) hc hw hS3_0 rfl (c_X9_takeUp l g  hS3_0 hS3_1 (hM0) (goodR_push hR hbr1 (by omega) (by omega) m8.1 m6 hlay) (hS2)) (cwV 0 hc.2.2.2.2 gX9_tried_X9_takeUp rfl rfl rfl (by decide +kernel) ⟨Nat.le_of_ble_eq_true rfl, Nat.le_of_ble_eq_true rfl⟩) rfl hl.1 rfl (Nat.le_of_ble_eq_true rfl) ⟨Nat.le_of_ble_eq_true rfl, Nat.le_of_ble_eq_true rfl⟩ dX9_tried_63 (fun vr n1 S12 H locs qS12 hw => ?_)
          obtain ⟨kw9_13, rfl, rfl, hS12_0, kS12_0, fS12⟩ := qS12
          refine W.eq (g2 := F0 m 66 ls []) rfl ?_
          refine lv_iload hc.1 hc.2.1 dX9_tried_66 (lv_at hl 0 rfl) ?_
          have e14 : S12 z = oO 9 [.ref (z + 1), .int (iI (tz : Int)), .int (iI mAt), .ref (z + 2), .ref (z + 3), .ref (z + 4), .ref (z + 5), .int (iI mHC), .int (iI mRC), .ref (z + 6), .ref (z + 7), .ref (z + 8), .int (iI (hist.length : Int)), .ref (z + 9), .ref (z + 10), .int (iI jc9_6), .int (iI ch9_7), .int (iI vi9_8)] := (fS12 z (off_nl (x := z) (a := 6) (by decide))).trans hS3_0
          have e15 : S3 (z + 1) = oI g 200 txa := (fS3 (z + 1) (off_nr (x := z) (a := 1) (by decide)) (off_ne (x := z) (a := 1) (b := 6) (by decide)) (off_ne (x := z) (a := 1) (b := 10) (by decide))).trans htx
          have e16 : S12 (z + 1) = oI g 200 txa := (fS12 (z + 1) (off_ne (x := z) (a := 1) (b := 6) (by decide))).trans e15
          have e17 : S3 (z + 2) = oI g 5 stg := (fS3 (z + 2) (off_nr (x := z) (a := 2) (by decide)) (off_ne (x := z) (a := 2) (b := 6) (by decide)) (off_ne (x := z) (a := 2) (b := 10) (by decide))).trans hst
          have e18 : S12 (z + 2) = oI g 5 stg := (fS12 (z + 2) (off_ne (x := z) (a := 2) (b := 6) (by decide))).trans e17
          have e19 : S3 (z + 3) = oI g 5 rst := (fS3 (z + 3) (off_nr (x := z) (a := 3) (by decide)) (off_ne (x := z) (a := 3) (b := 6) (by decide)) (off_ne (x := z) (a := 3) (b := 10) (by decide))).trans hrst
          have e20 : S12 (z + 3) = oI g 5 rst := (fS12 (z + 3) (off_ne (x := z) (a := 3) (b := 6) (by decide))).trans e19
          have e21 : S12 (z + 4) = oI g 24 hps := (fS12 (z + 4) (off_ne (x := z) (a := 4) (b := 6) (by decide))).trans e11
          have e22 : S3 (z + 5) = oI g 24 rhp := (fS3 (z + 5) (off_nr (x := z) (a := 5) (by decide)) (off_ne (x := z) (a := 5) (b := 6) (by decide)) (off_ne (x := z) (a := 5) (b := 10) (by decide))).trans hrhp
          have e23 : S12 (z + 5) = oI g 24 rhp := (fS12 (z + 5) (off_ne (x := z) (a := 5) (b := 6) (by decide))).trans e22
          have e24 : S3 (z + 7) = oI g 1249 sv := (fS3 (z + 7) (off_nr (x := z) (a := 7) (by decide)) (off_ne (x := z) (a := 7) (b := 6) (by decide)) (off_ne (x := z) (a := 7) (b := 10) (by decide))).trans hsv
          have e25 : S12 (z + 7) = oI g 1249 sv := (fS12 (z + 7) (off_ne (x := z) (a := 7) (b := 6) (by decide))).trans e24
          have e26 : S3 (z + 8) = oI g 7494 hs := (fS3 (z + 8) (off_nr (x := z) (a := 8) (by decide)) (off_ne (x := z) (a := 8) (b := 6) (by decide)) (off_ne (x := z) (a := 8) (b := 10) (by decide))).trans hhs
          have e27 : S12 (z + 8) = oI g 7494 hs := (fS12 (z + 8) (off_ne (x := z) (a := 8) (b := 6) (by decide))).trans e26
          have e28 : S3 (z + 9) = oI g 3 nbs := (fS3 (z + 9) (off_nr (x := z) (a := 9) (by decide)) (off_ne (x := z) (a := 9) (b := 6) (by decide)) (off_ne (x := z) (a := 9) (b := 10) (by decide))).trans hnb
          have e29 : S12 (z + 9) = oI g 3 nbs := (fS12 (z + 9) (off_ne (x := z) (a := 9) (b := 6) (by decide))).trans e28
          have e30 : S12 (z + 10) = oI g 60 jf9_4 := (fS12 (z + 10) (off_ne (x := z) (a := 10) (b := 6) (by decide))).trans hS3_2
          exact hret (some (.int (iI xa))) _ S12 _ _ _ _ hw (⟨(by rw [exa]; first | (rw [if_pos (show what = 0 by omega)]; rw [hrw2]) | (rw [if_neg (show ¬ what = 0 by omega)])), rfl, ⟨_, _, _, _, _, _, _, _, _, _, _, _, _, e14, e16, htx0, e18, e20, e21, e23, hS12_0, e25, e27, e29, e30, (mS_cg kS12_0 (fun i hi => by show rs i + (-1) * cntH sl i + cntH sl i = rs i; omega)), hHi⟩, fun bb hbb  => ((fS12 bb (by omega))).trans (fS3 bb (by omega) (by omega) (by omega))⟩) ⟨_, rfl, rfl, dX9_tried_68⟩
        · refine lv_aload_n hc.1 hc.2.1 dX9_tried_47 rfl (lv_at hl 1 rfl) ?_
          refine lv_iload_n hc.1 hc.2.1 dX9_tried_48 rfl (lv_at hl 0 rfl) ?_
          refine nn_Vp (As := [.int (iI ((kw9_5 8) - 1))]) (st := []) hc hw hS3_0 rfl (c_X9_slateCount l g  hS3_0 hS3_1 (by omega)) (cwV 1 hc.2.2.2.2 gX9_tried_X9_slateCount rfl rfl rfl (by decide +kernel) ⟨Nat.le_of_ble_eq_true rfl, Nat.le_of_ble_eq_true rfl⟩) rfl hl.1 rfl (Nat.le_of_ble_eq_true rfl) ⟨Nat.le_of_ble_eq_true rfl, Nat.le_of_ble_eq_true rfl⟩ dX9_tried_49 ?_
          refine W.eq (g2 := F0 m 52 ls [.int (iI (kw9_5 (9 + 62 * ((kw9_5 8) - 1).toNat + 1)))]) rfl ?_
          refine lv_goto hc.1 hc.2.1 dX9_tried_52 (tgt := 60) (by decide) ?_
          refine nn_name (fun xa exa => ?_)
          refine lv_istore (lv' := [(4, .int (iI xa)), (3, .int (iI ((kw9_5 8) - 1))), (0, .ref z), (1, .int (iI x0)), (2, .int (iI what))]) hc.1 hc.2.1 dX9_tried_60 hl (by decide) rfl (fun ls hl => ?_)
          have exa1 := exa
          refine lv_aload_n hc.1 hc.2.1 dX9_tried_62 rfl (lv_at hl 2 rfl) ?_
          refine nn_Vs (As := []) (st := []) hc hw hS3_0 rfl (c_X9_takeUp l g  hS3_0 hS3_1 (hM0) (goodR_push hR hbr1 (by omega) (by omega) m8.1 m6 hlay) (hS2)) (cwV 0 hc.2.2.2.2 gX9_tried_X9_takeUp rfl rfl rfl (by decide +kernel) ⟨Nat.le_of_ble_eq_true rfl, Nat.le_of_ble_eq_true rfl⟩) rfl hl.1 rfl (Nat.le_of_ble_eq_true rfl) ⟨Nat.le_of_ble_eq_true rfl, Nat.le_of_ble_eq_true rfl⟩ dX9_tried_63 (fun vr n1 S31 H locs qS31 hw => ?_)
          obtain ⟨kw9_32, rfl, rfl, hS31_0, kS31_0, fS31⟩ := qS31
          refine W.eq (g2 := F0 m 66 ls []) rfl ?_
          refine lv_iload hc.1 hc.2.1 dX9_tried_66 (lv_at hl 0 rfl) ?_
          have e33 : S31 z = oO 9 [.ref (z + 1), .int (iI (tz : Int)), .int (iI mAt), .ref (z + 2), .ref (z + 3), .ref (z + 4), .ref (z + 5), .int (iI mHC), .int (iI mRC), .ref (z + 6), .ref (z + 7), .ref (z + 8), .int (iI (hist.length : Int)), .ref (z + 9), .ref (z + 10), .int (iI jc9_6), .int (iI ch9_7), .int (iI vi9_8)] := (fS31 z (off_nl (x := z) (a := 6) (by decide))).trans hS3_0
          have e34 : S3 (z + 1) = oI g 200 txa := (fS3 (z + 1) (off_nr (x := z) (a := 1) (by decide)) (off_ne (x := z) (a := 1) (b := 6) (by decide)) (off_ne (x := z) (a := 1) (b := 10) (by decide))).trans htx
          have e35 : S31 (z + 1) = oI g 200 txa := (fS31 (z + 1) (off_ne (x := z) (a := 1) (b := 6) (by decide))).trans e34
          have e36 : S3 (z + 2) = oI g 5 stg := (fS3 (z + 2) (off_nr (x := z) (a := 2) (by decide)) (off_ne (x := z) (a := 2) (b := 6) (by decide)) (off_ne (x := z) (a := 2) (b := 10) (by decide))).trans hst
          have e37 : S31 (z + 2) = oI g 5 stg := (fS31 (z + 2) (off_ne (x := z) (a := 2) (b := 6) (by decide))).trans e36
          have e38 : S3 (z + 3) = oI g 5 rst := (fS3 (z + 3) (off_nr (x := z) (a := 3) (by decide)) (off_ne (x := z) (a := 3) (b := 6) (by decide)) (off_ne (x := z) (a := 3) (b := 10) (by decide))).trans hrst
          have e39 : S31 (z + 3) = oI g 5 rst := (fS31 (z + 3) (off_ne (x := z) (a := 3) (b := 6) (by decide))).trans e38
          have e40 : S3 (z + 4) = oI g 24 hps := (fS3 (z + 4) (off_nr (x := z) (a := 4) (by decide)) (off_ne (x := z) (a := 4) (b := 6) (by decide)) (off_ne (x := z) (a := 4) (b := 10) (by decide))).trans hhp
          have e41 : S31 (z + 4) = oI g 24 hps := (fS31 (z + 4) (off_ne (x := z) (a := 4) (b := 6) (by decide))).trans e40
          have e42 : S3 (z + 5) = oI g 24 rhp := (fS3 (z + 5) (off_nr (x := z) (a := 5) (by decide)) (off_ne (x := z) (a := 5) (b := 6) (by decide)) (off_ne (x := z) (a := 5) (b := 10) (by decide))).trans hrhp
          have e43 : S31 (z + 5) = oI g 24 rhp := (fS31 (z + 5) (off_ne (x := z) (a := 5) (b := 6) (by decide))).trans e42
          have e44 : S3 (z + 7) = oI g 1249 sv := (fS3 (z + 7) (off_nr (x := z) (a := 7) (by decide)) (off_ne (x := z) (a := 7) (b := 6) (by decide)) (off_ne (x := z) (a := 7) (b := 10) (by decide))).trans hsv
          have e45 : S31 (z + 7) = oI g 1249 sv := (fS31 (z + 7) (off_ne (x := z) (a := 7) (b := 6) (by decide))).trans e44
          have e46 : S3 (z + 8) = oI g 7494 hs := (fS3 (z + 8) (off_nr (x := z) (a := 8) (by decide)) (off_ne (x := z) (a := 8) (b := 6) (by decide)) (off_ne (x := z) (a := 8) (b := 10) (by decide))).trans hhs
          have e47 : S31 (z + 8) = oI g 7494 hs := (fS31 (z + 8) (off_ne (x := z) (a := 8) (b := 6) (by decide))).trans e46
          have e48 : S3 (z + 9) = oI g 3 nbs := (fS3 (z + 9) (off_nr (x := z) (a := 9) (by decide)) (off_ne (x := z) (a := 9) (b := 6) (by decide)) (off_ne (x := z) (a := 9) (b := 10) (by decide))).trans hnb
          have e49 : S31 (z + 9) = oI g 3 nbs := (fS31 (z + 9) (off_ne (x := z) (a := 9) (b := 6) (by decide))).trans e48
          have e50 : S31 (z + 10) = oI g 60 jf9_4 := (fS31 (z + 10) (off_ne (x := z) (a := 10) (b := 6) (by decide))).trans hS3_2
          exact hret (some (.int (iI xa))) _ S31 _ _ _ _ hw (⟨(by rw [exa]; first | (rw [if_pos (show what = 0 by omega)]; rw [hrw2]) | (rw [if_neg (show ¬ what = 0 by omega)])), rfl, ⟨_, _, _, _, _, _, _, _, _, _, _, _, _, e33, e35, htx0, e37, e39, e41, e43, hS31_0, e45, e47, e49, e50, (mS_cg kS31_0 (fun i hi => by show rs i + (-1) * cntH sl i + cntH sl i = rs i; omega)), hHi⟩, fun bb hbb  => ((fS31 bb (by omega))).trans (fS3 bb (by omega) (by omega) (by omega))⟩) ⟨_, rfl, rfl, dX9_tried_68⟩
      · exact absurd c9 (by decide)
    · exfalso; omega

set_option maxHeartbeats 4000000 in
set_option maxRecDepth 100000 in
theorem c_M_course_bad (l : Launch) (g : gG) {n : Nat} {S : Nat → gE} {z : Nat} {mAt mHC mRC mJC mCh mVi : Int} {stg hps nw js : Nat → Int} {x0 : Int} {rs : Nat → Int} {rows : rT} {hs sv : Nat → Int} {hist : List sT} {tz : Nat} {tx txa rst rhp nbs : Nat → Int} (hz : S z = oO 9 [.ref (z + 1), .int (iI (tz : Int)), .int (iI mAt), .ref (z + 2), .ref (z + 3), .ref (z + 4), .ref (z + 5), .int (iI mHC), .int (iI mRC), .ref (z + 6), .ref (z + 7), .ref (z + 8), .int (iI (hist.length : Int)), .ref (z + 9), .ref (z + 10), .int (iI mJC), .int (iI mCh), .int (iI mVi)]) (htx : S (z + 1) = oI g 200 txa) (hst : S (z + 2) = oI g 5 stg) (hrst : S (z + 3) = oI g 5 rst) (hhp : S (z + 4) = oI g 24 hps) (hrhp : S (z + 5) = oI g 24 rhp) (hnw : S (z + 6) = oI g 1249 nw) (hsv : S (z + 7) = oI g 1249 sv) (hhs : S (z + 8) = oI g 7494 hs) (hnb : S (z + 9) = oI g 3 nbs) (hjs : S (z + 10) = oI g 60 js) (rtz : tz ≤ 200) (htx0 : ∀ i : Nat, i < tz → txa i = tx i) (hM : goodM mHC stg hps) (hR : goodR mHC.toNat (mLn hps) (mBr hps) rs rows) (hS : mS nw rs rows) (hHi : mHi hs hist) (hHg : goodH mHC.toNat (mLn hps) (mBr hps) hist) (r_x0 : -2147483648 ≤ x0 ∧ x0 < 2147483648) (hb : ¬ (20 ≤ x0 ∧ x0 ≤ 60)) : g_Cs l yX9_course wsX9_course { frames := 1, cells := 0, slots := 0, locals := 22 } g [.ref z, .int (iI x0)] n S (fun vr n1 S1 => vr = some (.int (iI (-1))) ∧ n = n1 ∧ MI0 g S1 z tz tx mHC stg hps rs rows hist ∧ (∀ bb, (bb < z ∨ z + 11 ≤ bb) → S1 bb = S bb)) 0 0 := by
  refine g_Cs.of (cc := cX9_course) (maxL := 3) (ret := (some .int)) (by decide) rfl (Nat.le_of_ble_eq_true rfl) ?_
  intro pp ee s m below meth cK Q H locs ls hc hnm hw hl hret
  have hl : lv_has ls 3 [(0, .ref z), (1, .int (iI x0))] := hl
  refine lv_iload_n hc.1 hc.2.1 dX9_course_0 rfl (lv_at hl 1 rfl) ?_
  refine nn_bipush hc dX9_course_1 (by decide +kernel) ?_
  refine nn_bipush hc dX9_course_3 (by decide +kernel) ?_
  refine nn_Sp (As := [.int (iI x0), .int (iI 20), .int (iI 60)]) (st := []) hc hw (c_X9_in l g   (by omega) (by omega) (by omega)) (va_cwS 3 hc.2.2.2.2 gX9_course_X9_in rfl rfl rfl (by decide +kernel) ⟨Nat.le_of_ble_eq_true rfl, Nat.le_of_ble_eq_true rfl⟩) rfl hl.1 rfl (Nat.le_of_ble_eq_true rfl) ⟨Nat.le_of_ble_eq_true rfl, Nat.le_of_ble_eq_true rfl⟩ dX9_course_5 ?_
  refine W.eq (g2 := F0 m 8 ls [.int (iI (if 20 ≤ x0 ∧ x0 ≤ 60 then 1 else 0))]) rfl ?_
  refine nn_if_ne hc dX9_course_8 (tgt := 13) (by decide) (by omega) (fun c1 => ?_) (fun c1 => ?_)
  · exfalso; omega
  · refine nn_iconst hc dX9_course_11 ?_
    exact hret (some (.int (iI (-1)))) _ S _ _ _ _ hw (⟨rfl, rfl, ⟨_, _, _, _, _, _, _, _, _, _, _, _, _, hz, htx, htx0, hst, hrst, hhp, hrhp, hnw, hsv, hhs, hnb, hjs, hS, hHi⟩, fun bb hbb  => rfl⟩) ⟨_, rfl, rfl, dX9_course_12⟩

set_option maxHeartbeats 4000000 in
set_option maxRecDepth 100000 in
theorem c_M_course_no (l : Launch) (g : gG) {n : Nat} {S : Nat → gE} {z : Nat} {mAt mHC mRC mJC mCh mVi : Int} {stg hps nw js : Nat → Int} {x0 : Int} {rs : Nat → Int} {rows : rT} {hs sv : Nat → Int} {hist : List sT} {tz : Nat} {tx txa rst rhp nbs : Nat → Int} (hz : S z = oO 9 [.ref (z + 1), .int (iI (tz : Int)), .int (iI mAt), .ref (z + 2), .ref (z + 3), .ref (z + 4), .ref (z + 5), .int (iI mHC), .int (iI mRC), .ref (z + 6), .ref (z + 7), .ref (z + 8), .int (iI (hist.length : Int)), .ref (z + 9), .ref (z + 10), .int (iI mJC), .int (iI mCh), .int (iI mVi)]) (htx : S (z + 1) = oI g 200 txa) (hst : S (z + 2) = oI g 5 stg) (hrst : S (z + 3) = oI g 5 rst) (hhp : S (z + 4) = oI g 24 hps) (hrhp : S (z + 5) = oI g 24 rhp) (hnw : S (z + 6) = oI g 1249 nw) (hsv : S (z + 7) = oI g 1249 sv) (hhs : S (z + 8) = oI g 7494 hs) (hnb : S (z + 9) = oI g 3 nbs) (hjs : S (z + 10) = oI g 60 js) (rtz : tz ≤ 200) (htx0 : ∀ i : Nat, i < tz → txa i = tx i) (hM : goodM mHC stg hps) (hR : goodR mHC.toNat (mLn hps) (mBr hps) rs rows) (hS : mS nw rs rows) (hHi : mHi hs hist) (hHg : goodH mHC.toNat (mLn hps) (mBr hps) hist) (hb : 20 ≤ x0 ∧ x0 ≤ 60) (hlay : layR mHC.toNat (mLn hps) (mBr hps) (stg 0) (stg 2) (stg 1) (stg 4) (stg 3) rs rows x0 = none) : g_Cs l yX9_course wsX9_course { frames := 6, cells := 0, slots := 0, locals := 134 } g [.ref z, .int (iI x0)] n S (fun vr n1 S1 => vr = some (.int (iI (-2))) ∧ n = n1 ∧ MI0 g S1 z tz tx mHC stg hps rs rows hist ∧ (∀ bb, (bb < z ∨ z + 11 ≤ bb) → S1 bb = S bb)) 0 0 := by
  refine g_Cs.of (cc := cX9_course) (maxL := 3) (ret := (some .int)) (by decide) rfl (Nat.le_of_ble_eq_true rfl) ?_
  intro pp ee s m below meth cK Q H locs ls hc hnm hw hl hret
  have hl : lv_has ls 3 [(0, .ref z), (1, .int (iI x0))] := hl
  have hM0 := hM
  refine lv_iload_n hc.1 hc.2.1 dX9_course_0 rfl (lv_at hl 1 rfl) ?_
  refine nn_bipush hc dX9_course_1 (by decide +kernel) ?_
  refine nn_bipush hc dX9_course_3 (by decide +kernel) ?_
  refine nn_Sp (As := [.int (iI x0), .int (iI 20), .int (iI 60)]) (st := []) hc hw (c_X9_in l g   (by omega) (by omega) (by omega)) (va_cwS 3 hc.2.2.2.2 gX9_course_X9_in rfl rfl rfl (by decide +kernel) ⟨Nat.le_of_ble_eq_true rfl, Nat.le_of_ble_eq_true rfl⟩) rfl hl.1 rfl (Nat.le_of_ble_eq_true rfl) ⟨Nat.le_of_ble_eq_true rfl, Nat.le_of_ble_eq_true rfl⟩ dX9_course_5 ?_
  refine W.eq (g2 := F0 m 8 ls [.int (iI (if 20 ≤ x0 ∧ x0 ≤ 60 then 1 else 0))]) rfl ?_
  refine nn_if_ne hc dX9_course_8 (tgt := 13) (by decide) (by omega) (fun c1 => ?_) (fun c1 => ?_)
  · refine lv_aload_n hc.1 hc.2.1 dX9_course_13 rfl (lv_at hl 0 rfl) ?_
    refine lv_iload_n hc.1 hc.2.1 dX9_course_14 rfl (lv_at hl 1 rfl) ?_
    refine nn_Vs (As := [.int (iI x0)]) (st := []) hc hw hz rfl (c_X9_canLay_no l g  hz hst hhp hnw hjs (hM0) (hR) (hS) (by omega) (hlay)) (cwV 1 hc.2.2.2.2 gX9_course_X9_canLay rfl rfl rfl (by decide +kernel) ⟨Nat.le_of_ble_eq_true rfl, Nat.le_of_ble_eq_true rfl⟩) rfl hl.1 rfl (Nat.le_of_ble_eq_true rfl) ⟨Nat.le_of_ble_eq_true rfl, Nat.le_of_ble_eq_true rfl⟩ dX9_course_15 (fun vr n1 S2 H locs qS2 hw => ?_)
    obtain ⟨jf9_3, kw9_4, jc9_5, ch9_6, vi9_7, rfl, rfl, hS2_0, hS2_1, hS2_2, kS2_0, fS2⟩ := qS2
    refine W.eq (g2 := F0 m 18 ls [.int (iI 0)]) rfl ?_
    refine nn_if_ne hc dX9_course_18 (tgt := 24) (by decide) (by decide) (fun c8 => ?_) (fun c8 => ?_)
    · exact absurd c8 (by decide)
    · refine nn_bipush hc dX9_course_21 (by decide +kernel) ?_
      have e9 : S2 (z + 1) = oI g 200 txa := (fS2 (z + 1) (off_nr (x := z) (a := 1) (by decide)) (off_ne (x := z) (a := 1) (b := 6) (by decide)) (off_ne (x := z) (a := 1) (b := 10) (by decide))).trans htx
      have e10 : S2 (z + 2) = oI g 5 stg := (fS2 (z + 2) (off_nr (x := z) (a := 2) (by decide)) (off_ne (x := z) (a := 2) (b := 6) (by decide)) (off_ne (x := z) (a := 2) (b := 10) (by decide))).trans hst
      have e11 : S2 (z + 3) = oI g 5 rst := (fS2 (z + 3) (off_nr (x := z) (a := 3) (by decide)) (off_ne (x := z) (a := 3) (b := 6) (by decide)) (off_ne (x := z) (a := 3) (b := 10) (by decide))).trans hrst
      have e12 : S2 (z + 4) = oI g 24 hps := (fS2 (z + 4) (off_nr (x := z) (a := 4) (by decide)) (off_ne (x := z) (a := 4) (b := 6) (by decide)) (off_ne (x := z) (a := 4) (b := 10) (by decide))).trans hhp
      have e13 : S2 (z + 5) = oI g 24 rhp := (fS2 (z + 5) (off_nr (x := z) (a := 5) (by decide)) (off_ne (x := z) (a := 5) (b := 6) (by decide)) (off_ne (x := z) (a := 5) (b := 10) (by decide))).trans hrhp
      have e14 : S2 (z + 7) = oI g 1249 sv := (fS2 (z + 7) (off_nr (x := z) (a := 7) (by decide)) (off_ne (x := z) (a := 7) (b := 6) (by decide)) (off_ne (x := z) (a := 7) (b := 10) (by decide))).trans hsv
      have e15 : S2 (z + 8) = oI g 7494 hs := (fS2 (z + 8) (off_nr (x := z) (a := 8) (by decide)) (off_ne (x := z) (a := 8) (b := 6) (by decide)) (off_ne (x := z) (a := 8) (b := 10) (by decide))).trans hhs
      have e16 : S2 (z + 9) = oI g 3 nbs := (fS2 (z + 9) (off_nr (x := z) (a := 9) (by decide)) (off_ne (x := z) (a := 9) (b := 6) (by decide)) (off_ne (x := z) (a := 9) (b := 10) (by decide))).trans hnb
      exact hret (some (.int (iI (-2)))) _ S2 _ _ _ _ hw (⟨rfl, rfl, ⟨_, _, _, _, _, _, _, _, _, _, _, _, _, hS2_0, e9, htx0, e10, e11, e12, e13, hS2_1, e14, e15, e16, hS2_2, kS2_0, hHi⟩, fun bb hbb  => (fS2 bb (by omega) (by omega) (by omega))⟩) ⟨_, rfl, rfl, dX9_course_23⟩
  · exfalso; omega

set_option maxHeartbeats 4000000 in
set_option maxRecDepth 100000 in
theorem c_M_course_yes (l : Launch) (g : gG) {n : Nat} {S : Nat → gE} {z : Nat} {mAt mHC mRC mJC mCh mVi : Int} {stg hps nw js : Nat → Int} {x0 : Int} {rs : Nat → Int} {rows : rT} {sl : sL} {hs sv : Nat → Int} {hist : List sT} {tz : Nat} {tx txa rst rhp nbs : Nat → Int} (hz : S z = oO 9 [.ref (z + 1), .int (iI (tz : Int)), .int (iI mAt), .ref (z + 2), .ref (z + 3), .ref (z + 4), .ref (z + 5), .int (iI mHC), .int (iI mRC), .ref (z + 6), .ref (z + 7), .ref (z + 8), .int (iI (hist.length : Int)), .ref (z + 9), .ref (z + 10), .int (iI mJC), .int (iI mCh), .int (iI mVi)]) (htx : S (z + 1) = oI g 200 txa) (hst : S (z + 2) = oI g 5 stg) (hrst : S (z + 3) = oI g 5 rst) (hhp : S (z + 4) = oI g 24 hps) (hrhp : S (z + 5) = oI g 24 rhp) (hnw : S (z + 6) = oI g 1249 nw) (hsv : S (z + 7) = oI g 1249 sv) (hhs : S (z + 8) = oI g 7494 hs) (hnb : S (z + 9) = oI g 3 nbs) (hjs : S (z + 10) = oI g 60 js) (rtz : tz ≤ 200) (htx0 : ∀ i : Nat, i < tz → txa i = tx i) (hM : goodM mHC stg hps) (hR : goodR mHC.toNat (mLn hps) (mBr hps) rs rows) (hS : mS nw rs rows) (hHi : mHi hs hist) (hHg : goodH mHC.toNat (mLn hps) (mBr hps) hist) (hb : 20 ≤ x0 ∧ x0 ≤ 60) (hlay : layR mHC.toNat (mLn hps) (mBr hps) (stg 0) (stg 2) (stg 1) (stg 4) (stg 3) rs rows x0 = some sl) : g_Cs l yX9_course wsX9_course { frames := 6, cells := 0, slots := 0, locals := 134 } g [.ref z, .int (iI x0)] n S (fun vr n1 S1 => vr = some (.int (iI (sl.length : Int))) ∧ n = n1 ∧ MI0 g S1 z tz tx mHC stg hps (fun i => rs i + (-1) * cntH sl i) (rows ++ [(x0, sl)]) (pushH hist (rs, rows)) ∧ (∀ bb, (bb < z ∨ z + 11 ≤ bb) → S1 bb = S bb)) 0 0 := by
  refine g_Cs.of (cc := cX9_course) (maxL := 3) (ret := (some .int)) (by decide) rfl (Nat.le_of_ble_eq_true rfl) ?_
  intro pp ee s m below meth cK Q H locs ls hc hnm hw hl hret
  have hl : lv_has ls 3 [(0, .ref z), (1, .int (iI x0))] := hl
  have hiX9 : ∀ w ∈ u_ws RX9 TX9 18, w ∈ wsX9_course := by decide +kernel
  have lk25 : Cond.fieldLink RX9 25 "RoofCoursesModel" "now" "[I" ∈ wsX9_course := by decide +kernel
  have hM0 := hM
  obtain ⟨m1, m2, m3, m4, m5, m6, m7, m8⟩ := hM
  have hRl := hR.1
  have h8 := hS.2.1
  have hdr := hd_r hR m6 (Nat.le_refl rows.length)
  have hrg := mS_rg hM0 hR hS
  have hHD := mS_hd hS (stg 2)
  have hbr2 : ∀ i : Nat, i < mHC.toNat → 1 ≤ mBr hps i ∧ mBr hps i ≤ 60 := fun i hi => by have := m2 i (by omega); omega
  have hbr1 : ∀ i : Nat, i < mHC.toNat → 1 ≤ mBr hps i := fun i hi => (hbr2 i hi).1
  refine lv_iload_n hc.1 hc.2.1 dX9_course_0 rfl (lv_at hl 1 rfl) ?_
  refine nn_bipush hc dX9_course_1 (by decide +kernel) ?_
  refine nn_bipush hc dX9_course_3 (by decide +kernel) ?_
  refine nn_Sp (As := [.int (iI x0), .int (iI 20), .int (iI 60)]) (st := []) hc hw (c_X9_in l g   (by omega) (by omega) (by omega)) (va_cwS 3 hc.2.2.2.2 gX9_course_X9_in rfl rfl rfl (by decide +kernel) ⟨Nat.le_of_ble_eq_true rfl, Nat.le_of_ble_eq_true rfl⟩) rfl hl.1 rfl (Nat.le_of_ble_eq_true rfl) ⟨Nat.le_of_ble_eq_true rfl, Nat.le_of_ble_eq_true rfl⟩ dX9_course_5 ?_
  refine W.eq (g2 := F0 m 8 ls [.int (iI (if 20 ≤ x0 ∧ x0 ≤ 60 then 1 else 0))]) rfl ?_
  refine nn_if_ne hc dX9_course_8 (tgt := 13) (by decide) (by omega) (fun c1 => ?_) (fun c1 => ?_)
  · refine lv_aload_n hc.1 hc.2.1 dX9_course_13 rfl (lv_at hl 0 rfl) ?_
    refine lv_iload_n hc.1 hc.2.1 dX9_course_14 rfl (lv_at hl 1 rfl) ?_
    refine nn_Vs (As := [.int (iI x0)]) (st := []) hc hw hz rfl (c_X9_canLay_yes l g  hz hst hhp hnw hjs (hM0) (hR) (hS) (by omega) (hlay)) (cwV 1 hc.2.2.2.2 gX9_course_X9_canLay rfl rfl rfl (by decide +kernel) ⟨Nat.le_of_ble_eq_true rfl, Nat.le_of_ble_eq_true rfl⟩) rfl hl.1 rfl (Nat.le_of_ble_eq_true rfl) ⟨Nat.le_of_ble_eq_true rfl, Nat.le_of_ble_eq_true rfl⟩ dX9_course_15 (fun vr n1 S2 H locs qS2 hw => ?_)
    obtain ⟨jf9_3, kw9_4, jc9_5, ch9_6, vi9_7, rfl, rfl, hS2_0, hS2_1, hS2_2, kS2_0, fS2⟩ := qS2
    refine W.eq (g2 := F0 m 18 ls [.int (iI 1)]) rfl ?_
    refine nn_if_ne hc dX9_course_18 (tgt := 24) (by decide) (by decide) (fun c8 => ?_) (fun c8 => ?_)
    · refine lv_aload_n hc.1 hc.2.1 dX9_course_24 rfl (lv_at hl 0 rfl) ?_
      have e9 : S2 (z + 8) = oI g 7494 hs := (fS2 (z + 8) (off_nr (x := z) (a := 8) (by decide)) (off_ne (x := z) (a := 8) (b := 6) (by decide)) (off_ne (x := z) (a := 8) (b := 10) (by decide))).trans hhs
      refine nn_Vs (As := []) (st := []) hc hw hS2_0 rfl (c_X9_save l g  hS2_0 hS2_1 e9 (hR) (kS2_0) (hHi) (hHg) (by omega)) (cwV 0 hc.2.2.2.2 gX9_course_X9_save rfl rfl rfl (by decide +kernel) ⟨Nat.le_of_ble_eq_true rfl, Nat.le_of_ble_eq_true rfl⟩) rfl hl.1 rfl (Nat.le_of_ble_eq_true rfl) ⟨Nat.le_of_ble_eq_true rfl, Nat.le_of_ble_eq_true rfl⟩ dX9_course_25 (fun vr n1 S10 H locs qS10 hw => ?_)
      obtain ⟨hs9_11, rfl, rfl, hS10_0, hS10_1, kS10_0, fS10⟩ := qS10
      refine W.eq (g2 := F0 m 28 ls []) rfl ?_
      refine lv_aload_n hc.1 hc.2.1 dX9_course_28 rfl (lv_at hl 0 rfl) ?_
      refine lv_iload_n hc.1 hc.2.1 dX9_course_29 rfl (lv_at hl 1 rfl) ?_
      have e12 : S2 (z + 2) = oI g 5 stg := (fS2 (z + 2) (off_nr (x := z) (a := 2) (by decide)) (off_ne (x := z) (a := 2) (b := 6) (by decide)) (off_ne (x := z) (a := 2) (b := 10) (by decide))).trans hst
      have e13 : S10 (z + 2) = oI g 5 stg := (fS10 (z + 2) (off_nr (x := z) (a := 2) (by decide)) (off_ne (x := z) (a := 2) (b := 8) (by decide))).trans e12
      have e14 : S2 (z + 4) = oI g 24 hps := (fS2 (z + 4) (off_nr (x := z) (a := 4) (by decide)) (off_ne (x := z) (a := 4) (b := 6) (by decide)) (off_ne (x := z) (a := 4) (b := 10) (by decide))).trans hhp
      have e15 : S10 (z + 4) = oI g 24 hps := (fS10 (z + 4) (off_nr (x := z) (a := 4) (by decide)) (off_ne (x := z) (a := 4) (b := 8) (by decide))).trans e14
      have e16 : S10 (z + 6) = oI g 1249 kw9_4 := (fS10 (z + 6) (off_nr (x := z) (a := 6) (by decide)) (off_ne (x := z) (a := 6) (b := 8) (by decide))).trans hS2_1
      have e17 : S10 (z + 10) = oI g 60 jf9_3 := (fS10 (z + 10) (off_nr (x := z) (a := 10) (by decide)) (off_ne (x := z) (a := 10) (b := 8) (by decide))).trans hS2_2
      refine nn_Vs (As := [.int (iI x0)]) (st := []) hc hw hS10_0 rfl (c_X9_layCourse_yes l g  hS10_0 e13 e15 e16 e17 (hM0) (hR) (kS2_0) (by omega) (hlay)) (cwV 1 hc.2.2.2.2 gX9_course_X9_layCourse rfl rfl rfl (by decide +kernel) ⟨Nat.le_of_ble_eq_true rfl, Nat.le_of_ble_eq_true rfl⟩) rfl hl.1 rfl (Nat.le_of_ble_eq_true rfl) ⟨Nat.le_of_ble_eq_true rfl, Nat.le_of_ble_eq_true rfl⟩ dX9_course_30 (fun vr n1 S18 H locs qS18 hw => ?_)
      obtain ⟨jf9_19, kw9_20, jc9_21, ch9_22, vi9_23, rfl, rfl, hS18_0, hS18_1, hS18_2, kS18_0, fS18⟩ := qS18
      refine W.eq (g2 := F0 m 33 ls [.int (iI 1)]) rfl ?_
      refine lv_istore_n (lv' := [(2, .int (iI 1)), (0, .ref z), (1, .int (iI x0))]) hc.1 hc.2.1 dX9_course_33 rfl hl (by decide) rfl (fun ls hl => ?_)
      have hS2 := kS18_0
      have h82 := hS2.2.1
      rw [len_sn] at h82
      have hly3 := layC_good hbr1 (layR_some hlay).2
      have hop9 := (layR_some hlay).1
      have hrw := hS2.2.2 rows.length (by rw [len_sn]; omega)
      rw [rL_at, rS_at] at hrw
      have hrw1 : rowIs (kw9_20) ((kw9_20) 8 - 1).toNat x0 sl := by rw [h82, show (((rows.length + 1 : Nat) : Int) - 1).toNat = rows.length by omega]; exact hrw
      have hrw2 := hrw1.2.1
      refine lv_aload_n hc.1 hc.2.1 dX9_course_34 rfl (lv_at hl 1 rfl) ?_
      refine lv_aload_n hc.1 hc.2.1 dX9_course_35 rfl (lv_at hl 1 rfl) ?_
      refine nn_get hc hw hS18_0 hiX9 rfl 9 (by decide) rfl lk25 dX9_course_36 ?_
      refine nn_bipush hc dX9_course_39 (by decide +kernel) ?_
      refine nn_iald hc hw hS18_1 (by omega) (by omega) dX9_course_41 ?_
      refine W.eq (g2 := F0 m 42 ls [.int (iI (kw9_20 8)), .ref z]) rfl ?_
      refine nn_iconst hc dX9_course_42 ?_
      refine nn_isub hc dX9_course_43 ?_
      refine nn_Vp (As := [.int (iI ((kw9_20 8) - 1))]) (st := []) hc hw hS18_0 rfl (c_X9_slateCount l g  hS18_0 hS18_1 (by omega)) (cwV 1 hc.2.2.2.2 gX9_course_X9_slateCount rfl rfl rfl (by decide +kernel) ⟨Nat.le_of_ble_eq_true rfl, Nat.le_of_ble_eq_true rfl⟩) rfl hl.1 rfl (Nat.le_of_ble_eq_true rfl) ⟨Nat.le_of_ble_eq_true rfl, Nat.le_of_ble_eq_true rfl⟩ dX9_course_44 ?_
      refine W.eq (g2 := F0 m 47 ls [.int (iI (kw9_20 (9 + 62 * ((kw9_20 8) - 1).toNat + 1)))]) rfl ?_
      have e24 : S2 (z + 1) = oI g 200 txa := (fS2 (z + 1) (off_nr (x := z) (a := 1) (by decide)) (off_ne (x := z) (a := 1) (b := 6) (by decide)) (off_ne (x := z) (a := 1) (b := 10) (by decide))).trans htx
      have e25 : S10 (z + 1) = oI g 200 txa := (fS10 (z + 1) (off_nr (x := z) (a := 1) (by decide)) (off_ne (x := z) (a := 1) (b := 8) (by decide))).trans e24
      have e26 : S18 (z + 1) = oI g 200 txa := (fS18 (z + 1) (off_nr (x := z) (a := 1) (by decide)) (off_ne (x := z) (a := 1) (b := 6) (by decide)) (off_ne (x := z) (a := 1) (b := 10) (by decide))).trans e25
      have e27 : S18 (z + 2) = oI g 5 stg := (fS18 (z + 2) (off_nr (x := z) (a := 2) (by decide)) (off_ne (x := z) (a := 2) (b := 6) (by decide)) (off_ne (x := z) (a := 2) (b := 10) (by decide))).trans e13
      have e28 : S2 (z + 3) = oI g 5 rst := (fS2 (z + 3) (off_nr (x := z) (a := 3) (by decide)) (off_ne (x := z) (a := 3) (b := 6) (by decide)) (off_ne (x := z) (a := 3) (b := 10) (by decide))).trans hrst
      have e29 : S10 (z + 3) = oI g 5 rst := (fS10 (z + 3) (off_nr (x := z) (a := 3) (by decide)) (off_ne (x := z) (a := 3) (b := 8) (by decide))).trans e28
      have e30 : S18 (z + 3) = oI g 5 rst := (fS18 (z + 3) (off_nr (x := z) (a := 3) (by decide)) (off_ne (x := z) (a := 3) (b := 6) (by decide)) (off_ne (x := z) (a := 3) (b := 10) (by decide))).trans e29
      have e31 : S18 (z + 4) = oI g 24 hps := (fS18 (z + 4) (off_nr (x := z) (a := 4) (by decide)) (off_ne (x := z) (a := 4) (b := 6) (by decide)) (off_ne (x := z) (a := 4) (b := 10) (by decide))).trans e15
      have e32 : S2 (z + 5) = oI g 24 rhp := (fS2 (z + 5) (off_nr (x := z) (a := 5) (by decide)) (off_ne (x := z) (a := 5) (b := 6) (by decide)) (off_ne (x := z) (a := 5) (b := 10) (by decide))).trans hrhp
      have e33 : S10 (z + 5) = oI g 24 rhp := (fS10 (z + 5) (off_nr (x := z) (a := 5) (by decide)) (off_ne (x := z) (a := 5) (b := 8) (by decide))).trans e32
      have e34 : S18 (z + 5) = oI g 24 rhp := (fS18 (z + 5) (off_nr (x := z) (a := 5) (by decide)) (off_ne (x := z) (a := 5) (b := 6) (by decide)) (off_ne (x := z) (a := 5) (b := 10) (by decide))).trans e33
      have e35 : S2 (z + 7) = oI g 1249 sv := (fS2 (z + 7) (off_nr (x := z) (a := 7) (by decide)) (off_ne (x := z) (a := 7) (b := 6) (by decide)) (off_ne (x := z) (a := 7) (b := 10) (by decide))).trans hsv
      have e36 : S10 (z + 7) = oI g 1249 sv := (fS10 (z + 7) (off_nr (x := z) (a := 7) (by decide)) (off_ne (x := z) (a := 7) (b := 8) (by decide))).trans e35
      have e37 : S18 (z + 7) = oI g 1249 sv := (fS18 (z + 7) (off_nr (x := z) (a := 7) (by decide)) (off_ne (x := z) (a := 7) (b := 6) (by decide)) (off_ne (x := z) (a := 7) (b := 10) (by decide))).trans e36
      have e38 : S18 (z + 8) = oI g 7494 hs9_11 := (fS18 (z + 8) (off_nr (x := z) (a := 8) (by decide)) (off_ne (x := z) (a := 8) (b := 6) (by decide)) (off_ne (x := z) (a := 8) (b := 10) (by decide))).trans hS10_1
      have e39 : S2 (z + 9) = oI g 3 nbs := (fS2 (z + 9) (off_nr (x := z) (a := 9) (by decide)) (off_ne (x := z) (a := 9) (b := 6) (by decide)) (off_ne (x := z) (a := 9) (b := 10) (by decide))).trans hnb
      have e40 : S10 (z + 9) = oI g 3 nbs := (fS10 (z + 9) (off_nr (x := z) (a := 9) (by decide)) (off_ne (x := z) (a := 9) (b := 8) (by decide))).trans e39
      have e41 : S18 (z + 9) = oI g 3 nbs := (fS18 (z + 9) (off_nr (x := z) (a := 9) (by decide)) (off_ne (x := z) (a := 9) (b := 6) (by decide)) (off_ne (x := z) (a := 9) (b := 10) (by decide))).trans e40
      exact hret (some (.int (iI (kw9_20 (9 + 62 * ((kw9_20 8) - 1).toNat + 1))))) _ S18 _ _ _ _ hw (⟨(by rw [hrw2]), rfl, ⟨_, _, _, _, _, _, _, _, _, _, _, _, _, hS18_0, e26, htx0, e27, e30, e31, e34, hS18_1, e37, e38, e41, hS18_2, hS2, kS10_0⟩, fun bb hbb  => (((fS18 bb (by omega) (by omega) (by omega))).trans (fS10 bb (by omega) (by omega))).trans (fS2 bb (by omega) (by omega) (by omega))⟩) ⟨_, rfl, rfl, dX9_course_47⟩
    · exact absurd c8 (by decide)
  · exfalso; omega

set_option maxHeartbeats 4000000 in
set_option maxRecDepth 100000 in
theorem c_M_up_no (l : Launch) (g : gG) {n : Nat} {S : Nat → gE} {z : Nat} {mAt mHC mRC mJC mCh mVi : Int} {stg hps nw js : Nat → Int} {rs : Nat → Int} {rows : rT} {hs sv : Nat → Int} {hist : List sT} {tz : Nat} {tx txa rst rhp nbs : Nat → Int} (hz : S z = oO 9 [.ref (z + 1), .int (iI (tz : Int)), .int (iI mAt), .ref (z + 2), .ref (z + 3), .ref (z + 4), .ref (z + 5), .int (iI mHC), .int (iI mRC), .ref (z + 6), .ref (z + 7), .ref (z + 8), .int (iI (hist.length : Int)), .ref (z + 9), .ref (z + 10), .int (iI mJC), .int (iI mCh), .int (iI mVi)]) (htx : S (z + 1) = oI g 200 txa) (hst : S (z + 2) = oI g 5 stg) (hrst : S (z + 3) = oI g 5 rst) (hhp : S (z + 4) = oI g 24 hps) (hrhp : S (z + 5) = oI g 24 rhp) (hnw : S (z + 6) = oI g 1249 nw) (hsv : S (z + 7) = oI g 1249 sv) (hhs : S (z + 8) = oI g 7494 hs) (hnb : S (z + 9) = oI g 3 nbs) (hjs : S (z + 10) = oI g 60 js) (rtz : tz ≤ 200) (htx0 : ∀ i : Nat, i < tz → txa i = tx i) (hM : goodM mHC stg hps) (hR : goodR mHC.toNat (mLn hps) (mBr hps) rs rows) (hS : mS nw rs rows) (hHi : mHi hs hist) (hHg : goodH mHC.toNat (mLn hps) (mBr hps) hist) (hb : rows.length = 0) : g_Cs l yX9_up wsX9_up { frames := 0, cells := 0, slots := 0, locals := 0 } g [.ref z] n S (fun vr n1 S1 => vr = some (.int (iI (-2))) ∧ n = n1 ∧ MI0 g S1 z tz tx mHC stg hps rs rows hist ∧ (∀ bb, (bb < z ∨ z + 11 ≤ bb) → S1 bb = S bb)) 0 0 := by
  refine g_Cs.of (cc := cX9_up) (maxL := 1) (ret := (some .int)) (by decide) rfl (Nat.le_of_ble_eq_true rfl) ?_
  intro pp ee s m below meth cK Q H locs ls hc hnm hw hl hret
  have hl : lv_has ls 1 [(0, .ref z)] := hl
  have hiX9 : ∀ w ∈ u_ws RX9 TX9 18, w ∈ wsX9_up := by decide +kernel
  have lk25 : Cond.fieldLink RX9 25 "RoofCoursesModel" "now" "[I" ∈ wsX9_up := by decide +kernel
  have h8 := hS.2.1
  have hRl := hR.1
  refine lv_aload_n hc.1 hc.2.1 dX9_up_0 rfl (lv_at hl 0 rfl) ?_
  refine nn_get hc hw hz hiX9 rfl 9 (by decide) rfl lk25 dX9_up_1 ?_
  refine nn_bipush hc dX9_up_4 (by decide +kernel) ?_
  refine nn_iald hc hw hnw (by omega) (by omega) dX9_up_6 ?_
  refine W.eq (g2 := F0 m 7 ls [.int (iI (nw 8))]) rfl ?_
  refine nn_if_ne hc dX9_up_7 (tgt := 13) (by decide) (by omega) (fun c1 => ?_) (fun c1 => ?_)
  · exfalso; omega
  · refine nn_bipush hc dX9_up_10 (by decide +kernel) ?_
    exact hret (some (.int (iI (-2)))) _ S _ _ _ _ hw (⟨rfl, rfl, ⟨_, _, _, _, _, _, _, _, _, _, _, _, _, hz, htx, htx0, hst, hrst, hhp, hrhp, hnw, hsv, hhs, hnb, hjs, hS, hHi⟩, fun bb hbb  => rfl⟩) ⟨_, rfl, rfl, dX9_up_12⟩

set_option maxHeartbeats 4000000 in
set_option maxRecDepth 100000 in
theorem c_M_up_yes (l : Launch) (g : gG) {n : Nat} {S : Nat → gE} {z : Nat} {mAt mHC mRC mJC mCh mVi : Int} {stg hps nw js : Nat → Int} {x0 : Int} {rs : Nat → Int} {rows : rT} {sl : sL} {hs sv : Nat → Int} {hist : List sT} {tz : Nat} {tx txa rst rhp nbs : Nat → Int} (hz : S z = oO 9 [.ref (z + 1), .int (iI (tz : Int)), .int (iI mAt), .ref (z + 2), .ref (z + 3), .ref (z + 4), .ref (z + 5), .int (iI mHC), .int (iI mRC), .ref (z + 6), .ref (z + 7), .ref (z + 8), .int (iI (hist.length : Int)), .ref (z + 9), .ref (z + 10), .int (iI mJC), .int (iI mCh), .int (iI mVi)]) (htx : S (z + 1) = oI g 200 txa) (hst : S (z + 2) = oI g 5 stg) (hrst : S (z + 3) = oI g 5 rst) (hhp : S (z + 4) = oI g 24 hps) (hrhp : S (z + 5) = oI g 24 rhp) (hnw : S (z + 6) = oI g 1249 nw) (hsv : S (z + 7) = oI g 1249 sv) (hhs : S (z + 8) = oI g 7494 hs) (hnb : S (z + 9) = oI g 3 nbs) (hjs : S (z + 10) = oI g 60 js) (rtz : tz ≤ 200) (htx0 : ∀ i : Nat, i < tz → txa i = tx i) (hM : goodM mHC stg hps) (hR : goodR mHC.toNat (mLn hps) (mBr hps) rs (rows ++ [(x0, sl)])) (hS : mS nw rs (rows ++ [(x0, sl)])) (hHi : mHi hs hist) (hHg : goodH mHC.toNat (mLn hps) (mBr hps) hist) : g_Cs l yX9_up wsX9_up { frames := 3, cells := 0, slots := 0, locals := 64 } g [.ref z] n S (fun vr n1 S1 => vr = some (.int (iI (rows.length : Int))) ∧ n = n1 ∧ MI0 g S1 z tz tx mHC stg hps (fun i => rs i + cntH sl i) rows (pushH hist (rs, rows ++ [(x0, sl)])) ∧ (∀ bb, (bb < z ∨ z + 11 ≤ bb) → S1 bb = S bb)) 0 0 := by
  refine g_Cs.of (cc := cX9_up) (maxL := 1) (ret := (some .int)) (by decide) rfl (Nat.le_of_ble_eq_true rfl) ?_
  intro pp ee s m below meth cK Q H locs ls hc hnm hw hl hret
  have hl : lv_has ls 1 [(0, .ref z)] := hl
  have hiX9 : ∀ w ∈ u_ws RX9 TX9 18, w ∈ wsX9_up := by decide +kernel
  have lk25 : Cond.fieldLink RX9 25 "RoofCoursesModel" "now" "[I" ∈ wsX9_up := by decide +kernel
  have h8 := hS.2.1
  have hRl := hR.1
  rw [len_sn] at h8 hRl
  refine lv_aload_n hc.1 hc.2.1 dX9_up_0 rfl (lv_at hl 0 rfl) ?_
  refine nn_get hc hw hz hiX9 rfl 9 (by decide) rfl lk25 dX9_up_1 ?_
  refine nn_bipush hc dX9_up_4 (by decide +kernel) ?_
  refine nn_iald hc hw hnw (by omega) (by omega) dX9_up_6 ?_
  refine W.eq (g2 := F0 m 7 ls [.int (iI (nw 8))]) rfl ?_
  refine nn_if_ne hc dX9_up_7 (tgt := 13) (by decide) (by omega) (fun c1 => ?_) (fun c1 => ?_)
  · refine lv_aload_n hc.1 hc.2.1 dX9_up_13 rfl (lv_at hl 0 rfl) ?_
    refine nn_Vs (As := []) (st := []) hc hw hz rfl (c_X9_save l g  hz hnw hhs (hR) (hS) (hHi) (hHg) (by omega)) (cwV 0 hc.2.2.2.2 gX9_up_X9_save rfl rfl rfl (by decide +kernel) ⟨Nat.le_of_ble_eq_true rfl, Nat.le_of_ble_eq_true rfl⟩) rfl hl.1 rfl (Nat.le_of_ble_eq_true rfl) ⟨Nat.le_of_ble_eq_true rfl, Nat.le_of_ble_eq_true rfl⟩ dX9_up_14 (fun vr n1 S2 H locs qS2 hw => ?_)
    obtain ⟨hs9_3, rfl, rfl, hS2_0, hS2_1, kS2_0, fS2⟩ := qS2
    refine W.eq (g2 := F0 m 17 ls []) rfl ?_
    refine lv_aload_n hc.1 hc.2.1 dX9_up_17 rfl (lv_at hl 0 rfl) ?_
    have e4 : S2 (z + 6) = oI g 1249 nw := (fS2 (z + 6) (off_nr (x := z) (a := 6) (by decide)) (off_ne (x := z) (a := 6) (b := 8) (by decide))).trans hnw
    refine nn_Vs (As := []) (st := []) hc hw hS2_0 rfl (c_X9_takeUp l g  hS2_0 e4 (hM) (hR) (hS)) (cwV 0 hc.2.2.2.2 gX9_up_X9_takeUp rfl rfl rfl (by decide +kernel) ⟨Nat.le_of_ble_eq_true rfl, Nat.le_of_ble_eq_true rfl⟩) rfl hl.1 rfl (Nat.le_of_ble_eq_true rfl) ⟨Nat.le_of_ble_eq_true rfl, Nat.le_of_ble_eq_true rfl⟩ dX9_up_18 (fun vr n1 S5 H locs qS5 hw => ?_)
    obtain ⟨kw9_6, rfl, rfl, hS5_0, kS5_0, fS5⟩ := qS5
    refine W.eq (g2 := F0 m 21 ls []) rfl ?_
    have hS3 := kS5_0
    refine lv_aload_n hc.1 hc.2.1 dX9_up_21 rfl (lv_at hl 0 rfl) ?_
    have e7 : S5 z = oO 9 [.ref (z + 1), .int (iI (tz : Int)), .int (iI mAt), .ref (z + 2), .ref (z + 3), .ref (z + 4), .ref (z + 5), .int (iI mHC), .int (iI mRC), .ref (z + 6), .ref (z + 7), .ref (z + 8), .int (iI ((pushH hist (rs, (rows ++ [(x0, sl)]))).length : Int)), .ref (z + 9), .ref (z + 10), .int (iI mJC), .int (iI mCh), .int (iI mVi)] := (fS5 z (off_nl (x := z) (a := 6) (by decide))).trans hS2_0
    refine nn_get hc hw e7 hiX9 rfl 9 (by decide) rfl lk25 dX9_up_22 ?_
    refine nn_bipush hc dX9_up_25 (by decide +kernel) ?_
    refine nn_iald hc hw hS5_0 (by omega) (by omega) dX9_up_27 ?_
    refine W.eq (g2 := F0 m 28 ls [.int (iI (kw9_6 8))]) rfl ?_
    have e8 : S2 (z + 1) = oI g 200 txa := (fS2 (z + 1) (off_nr (x := z) (a := 1) (by decide)) (off_ne (x := z) (a := 1) (b := 8) (by decide))).trans htx
    have e9 : S5 (z + 1) = oI g 200 txa := (fS5 (z + 1) (off_ne (x := z) (a := 1) (b := 6) (by decide))).trans e8
    have e10 : S2 (z + 2) = oI g 5 stg := (fS2 (z + 2) (off_nr (x := z) (a := 2) (by decide)) (off_ne (x := z) (a := 2) (b := 8) (by decide))).trans hst
    have e11 : S5 (z + 2) = oI g 5 stg := (fS5 (z + 2) (off_ne (x := z) (a := 2) (b := 6) (by decide))).trans e10
    have e12 : S2 (z + 3) = oI g 5 rst := (fS2 (z + 3) (off_nr (x := z) (a := 3) (by decide)) (off_ne (x := z) (a := 3) (b := 8) (by decide))).trans hrst
    have e13 : S5 (z + 3) = oI g 5 rst := (fS5 (z + 3) (off_ne (x := z) (a := 3) (b := 6) (by decide))).trans e12
    have e14 : S2 (z + 4) = oI g 24 hps := (fS2 (z + 4) (off_nr (x := z) (a := 4) (by decide)) (off_ne (x := z) (a := 4) (b := 8) (by decide))).trans hhp
    have e15 : S5 (z + 4) = oI g 24 hps := (fS5 (z + 4) (off_ne (x := z) (a := 4) (b := 6) (by decide))).trans e14
    have e16 : S2 (z + 5) = oI g 24 rhp := (fS2 (z + 5) (off_nr (x := z) (a := 5) (by decide)) (off_ne (x := z) (a := 5) (b := 8) (by decide))).trans hrhp
    have e17 : S5 (z + 5) = oI g 24 rhp := (fS5 (z + 5) (off_ne (x := z) (a := 5) (b := 6) (by decide))).trans e16
    have e18 : S2 (z + 7) = oI g 1249 sv := (fS2 (z + 7) (off_nr (x := z) (a := 7) (by decide)) (off_ne (x := z) (a := 7) (b := 8) (by decide))).trans hsv
    have e19 : S5 (z + 7) = oI g 1249 sv := (fS5 (z + 7) (off_ne (x := z) (a := 7) (b := 6) (by decide))).trans e18
    have e20 : S5 (z + 8) = oI g 7494 hs9_3 := (fS5 (z + 8) (off_ne (x := z) (a := 8) (b := 6) (by decide))).trans hS2_1
    have e21 : S2 (z + 9) = oI g 3 nbs := (fS2 (z + 9) (off_nr (x := z) (a := 9) (by decide)) (off_ne (x := z) (a := 9) (b := 8) (by decide))).trans hnb
    have e22 : S5 (z + 9) = oI g 3 nbs := (fS5 (z + 9) (off_ne (x := z) (a := 9) (b := 6) (by decide))).trans e21
    have e23 : S2 (z + 10) = oI g 60 js := (fS2 (z + 10) (off_nr (x := z) (a := 10) (by decide)) (off_ne (x := z) (a := 10) (b := 8) (by decide))).trans hjs
    have e24 : S5 (z + 10) = oI g 60 js := (fS5 (z + 10) (off_ne (x := z) (a := 10) (b := 6) (by decide))).trans e23
    exact hret (some (.int (iI (kw9_6 8)))) _ S5 _ _ _ _ hw (⟨(by rw [hS3.2.1]), rfl, ⟨_, _, _, _, _, _, _, _, _, _, _, _, _, e7, e9, htx0, e11, e13, e15, e17, hS5_0, e19, e20, e22, e24, hS3, kS2_0⟩, fun bb hbb  => ((fS5 bb (by omega))).trans (fS2 bb (by omega) (by omega))⟩) ⟨_, rfl, rfl, dX9_up_28⟩
  · exfalso; omega

set_option maxHeartbeats 4000000 in
set_option maxRecDepth 100000 in
theorem c_M_bring_bad (l : Launch) (g : gG) {n : Nat} {S : Nat → gE} {z : Nat} {mAt mHC mRC mJC mCh mVi : Int} {stg hps nw js : Nat → Int} {rs : Nat → Int} {rows : rT} {hs sv : Nat → Int} {hist : List sT} {h nn : Int} {tz : Nat} {tx txa rst rhp nbs : Nat → Int} (hz : S z = oO 9 [.ref (z + 1), .int (iI (tz : Int)), .int (iI mAt), .ref (z + 2), .ref (z + 3), .ref (z + 4), .ref (z + 5), .int (iI mHC), .int (iI mRC), .ref (z + 6), .ref (z + 7), .ref (z + 8), .int (iI (hist.length : Int)), .ref (z + 9), .ref (z + 10), .int (iI mJC), .int (iI mCh), .int (iI mVi)]) (htx : S (z + 1) = oI g 200 txa) (hst : S (z + 2) = oI g 5 stg) (hrst : S (z + 3) = oI g 5 rst) (hhp : S (z + 4) = oI g 24 hps) (hrhp : S (z + 5) = oI g 24 rhp) (hnw : S (z + 6) = oI g 1249 nw) (hsv : S (z + 7) = oI g 1249 sv) (hhs : S (z + 8) = oI g 7494 hs) (hnb : S (z + 9) = oI g 3 nbs) (hjs : S (z + 10) = oI g 60 js) (rtz : tz ≤ 200) (htx0 : ∀ i : Nat, i < tz → txa i = tx i) (hM : goodM mHC stg hps) (hR : goodR mHC.toNat (mLn hps) (mBr hps) rs rows) (hS : mS nw rs rows) (hHi : mHi hs hist) (hHg : goodH mHC.toNat (mLn hps) (mBr hps) hist) (r_h : -2147483648 ≤ h ∧ h < 2147483648) (r_nn : -2147483648 ≤ nn ∧ nn < 2147483648) (hb : ¬ ((0 ≤ h ∧ h < mHC) ∧ (1 ≤ nn ∧ nn ≤ 99))) : g_Cs l yX9_bring wsX9_bring { frames := 2, cells := 0, slots := 0, locals := 43 } g [.ref z, .int (iI h), .int (iI nn)] n S (fun vr n1 S1 => vr = some (.int (iI (-1))) ∧ n = n1 ∧ MI0 g S1 z tz tx mHC stg hps rs rows hist ∧ (∀ bb, (bb < z ∨ z + 11 ≤ bb) → S1 bb = S bb)) 0 0 := by
  refine g_Cs.of (cc := cX9_bring) (maxL := 3) (ret := (some .int)) (by decide) rfl (Nat.le_of_ble_eq_true rfl) ?_
  intro pp ee s m below meth cK Q H locs ls hc hnm hw hl hret
  have hl : lv_has ls 3 [(0, .ref z), (1, .int (iI h)), (2, .int (iI nn))] := hl
  have m1 := hM.1
  refine lv_aload_n hc.1 hc.2.1 dX9_bring_0 rfl (lv_at hl 0 rfl) ?_
  refine lv_iload_n hc.1 hc.2.1 dX9_bring_1 rfl (lv_at hl 1 rfl) ?_
  refine nn_Vp (As := [.int (iI h)]) (st := []) hc hw hz rfl (c_X9_isHeap l g  hz (by omega) (by omega)) (cwV 1 hc.2.2.2.2 gX9_bring_X9_isHeap rfl rfl rfl (by decide +kernel) ⟨Nat.le_of_ble_eq_true rfl, Nat.le_of_ble_eq_true rfl⟩) rfl hl.1 rfl (Nat.le_of_ble_eq_true rfl) ⟨Nat.le_of_ble_eq_true rfl, Nat.le_of_ble_eq_true rfl⟩ dX9_bring_2 ?_
  refine W.eq (g2 := F0 m 5 ls [.int (iI (if 0 ≤ h ∧ h ≤ mHC - 1 then 1 else 0))]) rfl ?_
  refine nn_if_eq hc dX9_bring_5 (tgt := 18) (by decide) (by omega) (fun c1 => ?_) (fun c1 => ?_)
  · refine nn_iconst hc dX9_bring_18 ?_
    exact hret (some (.int (iI (-1)))) _ S _ _ _ _ hw (⟨rfl, rfl, ⟨_, _, _, _, _, _, _, _, _, _, _, _, _, hz, htx, htx0, hst, hrst, hhp, hrhp, hnw, hsv, hhs, hnb, hjs, hS, hHi⟩, fun bb hbb  => rfl⟩) ⟨_, rfl, rfl, dX9_bring_19⟩
  · refine lv_iload_n hc.1 hc.2.1 dX9_bring_8 rfl (lv_at hl 2 rfl) ?_
    refine nn_iconst hc dX9_bring_9 ?_
    refine nn_bipush hc dX9_bring_10 (by decide +kernel) ?_
    refine nn_Sp (As := [.int (iI nn), .int (iI 1), .int (iI 99)]) (st := []) hc hw (c_X9_in l g   (by omega) (by omega) (by omega)) (va_cwS 3 hc.2.2.2.2 gX9_bring_X9_in rfl rfl rfl (by decide +kernel) ⟨Nat.le_of_ble_eq_true rfl, Nat.le_of_ble_eq_true rfl⟩) rfl hl.1 rfl (Nat.le_of_ble_eq_true rfl) ⟨Nat.le_of_ble_eq_true rfl, Nat.le_of_ble_eq_true rfl⟩ dX9_bring_12 ?_
    refine W.eq (g2 := F0 m 15 ls [.int (iI (if 1 ≤ nn ∧ nn ≤ 99 then 1 else 0))]) rfl ?_
    refine nn_if_ne hc dX9_bring_15 (tgt := 20) (by decide) (by omega) (fun c2 => ?_) (fun c2 => ?_)
    · exfalso; omega
    · refine nn_iconst hc dX9_bring_18 ?_
      exact hret (some (.int (iI (-1)))) _ S _ _ _ _ hw (⟨rfl, rfl, ⟨_, _, _, _, _, _, _, _, _, _, _, _, _, hz, htx, htx0, hst, hrst, hhp, hrhp, hnw, hsv, hhs, hnb, hjs, hS, hHi⟩, fun bb hbb  => rfl⟩) ⟨_, rfl, rfl, dX9_bring_19⟩

set_option maxHeartbeats 4000000 in
set_option maxRecDepth 100000 in
theorem c_M_bring_full (l : Launch) (g : gG) {n : Nat} {S : Nat → gE} {z : Nat} {mAt mHC mRC mJC mCh mVi : Int} {stg hps nw js : Nat → Int} {rs : Nat → Int} {rows : rT} {hs sv : Nat → Int} {hist : List sT} {h nn : Int} {tz : Nat} {tx txa rst rhp nbs : Nat → Int} (hz : S z = oO 9 [.ref (z + 1), .int (iI (tz : Int)), .int (iI mAt), .ref (z + 2), .ref (z + 3), .ref (z + 4), .ref (z + 5), .int (iI mHC), .int (iI mRC), .ref (z + 6), .ref (z + 7), .ref (z + 8), .int (iI (hist.length : Int)), .ref (z + 9), .ref (z + 10), .int (iI mJC), .int (iI mCh), .int (iI mVi)]) (htx : S (z + 1) = oI g 200 txa) (hst : S (z + 2) = oI g 5 stg) (hrst : S (z + 3) = oI g 5 rst) (hhp : S (z + 4) = oI g 24 hps) (hrhp : S (z + 5) = oI g 24 rhp) (hnw : S (z + 6) = oI g 1249 nw) (hsv : S (z + 7) = oI g 1249 sv) (hhs : S (z + 8) = oI g 7494 hs) (hnb : S (z + 9) = oI g 3 nbs) (hjs : S (z + 10) = oI g 60 js) (rtz : tz ≤ 200) (htx0 : ∀ i : Nat, i < tz → txa i = tx i) (hM : goodM mHC stg hps) (hR : goodR mHC.toNat (mLn hps) (mBr hps) rs rows) (hS : mS nw rs rows) (hHi : mHi hs hist) (hHg : goodH mHC.toNat (mLn hps) (mBr hps) hist) (hb : (0 ≤ h ∧ h < mHC) ∧ (1 ≤ nn ∧ nn ≤ 99)) (hfu : 999 < rs h.toNat + nn) : g_Cs l yX9_bring wsX9_bring { frames := 2, cells := 0, slots := 0, locals := 43 } g [.ref z, .int (iI h), .int (iI nn)] n S (fun vr n1 S1 => vr = some (.int (iI (-3))) ∧ n = n1 ∧ MI0 g S1 z tz tx mHC stg hps rs rows hist ∧ (∀ bb, (bb < z ∨ z + 11 ≤ bb) → S1 bb = S bb)) 0 0 := by
  refine g_Cs.of (cc := cX9_bring) (maxL := 3) (ret := (some .int)) (by decide) rfl (Nat.le_of_ble_eq_true rfl) ?_
  intro pp ee s m below meth cK Q H locs ls hc hnm hw hl hret
  have hl : lv_has ls 3 [(0, .ref z), (1, .int (iI h)), (2, .int (iI nn))] := hl
  have hiX9 : ∀ w ∈ u_ws RX9 TX9 18, w ∈ wsX9_bring := by decide +kernel
  have lk25 : Cond.fieldLink RX9 25 "RoofCoursesModel" "now" "[I" ∈ wsX9_bring := by decide +kernel
  have m1 := hM.1
  have hns := hS.1 h.toNat (by omega)
  have hrr := goodR_rs hR (i := h.toNat) (by omega)
  refine lv_aload_n hc.1 hc.2.1 dX9_bring_0 rfl (lv_at hl 0 rfl) ?_
  refine lv_iload_n hc.1 hc.2.1 dX9_bring_1 rfl (lv_at hl 1 rfl) ?_
  refine nn_Vp (As := [.int (iI h)]) (st := []) hc hw hz rfl (c_X9_isHeap l g  hz (by omega) (by omega)) (cwV 1 hc.2.2.2.2 gX9_bring_X9_isHeap rfl rfl rfl (by decide +kernel) ⟨Nat.le_of_ble_eq_true rfl, Nat.le_of_ble_eq_true rfl⟩) rfl hl.1 rfl (Nat.le_of_ble_eq_true rfl) ⟨Nat.le_of_ble_eq_true rfl, Nat.le_of_ble_eq_true rfl⟩ dX9_bring_2 ?_
  refine W.eq (g2 := F0 m 5 ls [.int (iI (if 0 ≤ h ∧ h ≤ mHC - 1 then 1 else 0))]) rfl ?_
  refine nn_if_eq hc dX9_bring_5 (tgt := 18) (by decide) (by omega) (fun c1 => ?_) (fun c1 => ?_)
  · exfalso; omega
  · refine lv_iload_n hc.1 hc.2.1 dX9_bring_8 rfl (lv_at hl 2 rfl) ?_
    refine nn_iconst hc dX9_bring_9 ?_
    refine nn_bipush hc dX9_bring_10 (by decide +kernel) ?_
    refine nn_Sp (As := [.int (iI nn), .int (iI 1), .int (iI 99)]) (st := []) hc hw (c_X9_in l g   (by omega) (by omega) (by omega)) (va_cwS 3 hc.2.2.2.2 gX9_bring_X9_in rfl rfl rfl (by decide +kernel) ⟨Nat.le_of_ble_eq_true rfl, Nat.le_of_ble_eq_true rfl⟩) rfl hl.1 rfl (Nat.le_of_ble_eq_true rfl) ⟨Nat.le_of_ble_eq_true rfl, Nat.le_of_ble_eq_true rfl⟩ dX9_bring_12 ?_
    refine W.eq (g2 := F0 m 15 ls [.int (iI (if 1 ≤ nn ∧ nn ≤ 99 then 1 else 0))]) rfl ?_
    refine nn_if_ne hc dX9_bring_15 (tgt := 20) (by decide) (by omega) (fun c2 => ?_) (fun c2 => ?_)
    · refine lv_aload_n hc.1 hc.2.1 dX9_bring_20 rfl (lv_at hl 0 rfl) ?_
      refine nn_get hc hw hz hiX9 rfl 9 (by decide) rfl lk25 dX9_bring_21 ?_
      refine lv_iload_n hc.1 hc.2.1 dX9_bring_24 rfl (lv_at hl 1 rfl) ?_
      refine nn_iald hc hw hnw (by omega) (by omega) dX9_bring_25 ?_
      refine lv_iload_n hc.1 hc.2.1 dX9_bring_26 rfl (lv_at hl 2 rfl) ?_
      refine nn_iadd hc dX9_bring_27 ?_
      refine nn_sipush hc dX9_bring_28 (by decide +kernel) ?_
      refine nn_icmp_le hc dX9_bring_31 (tgt := 37) (by decide) (by omega) (by decide) (fun c3 => ?_) (fun c3 => ?_)
      · exfalso; omega
      · refine nn_bipush hc dX9_bring_34 (by decide +kernel) ?_
        exact hret (some (.int (iI (-3)))) _ S _ _ _ _ hw (⟨rfl, rfl, ⟨_, _, _, _, _, _, _, _, _, _, _, _, _, hz, htx, htx0, hst, hrst, hhp, hrhp, hnw, hsv, hhs, hnb, hjs, hS, hHi⟩, fun bb hbb  => rfl⟩) ⟨_, rfl, rfl, dX9_bring_36⟩
    · exfalso; omega

set_option maxHeartbeats 4000000 in
set_option maxRecDepth 100000 in
theorem c_M_bring_ok (l : Launch) (g : gG) {n : Nat} {S : Nat → gE} {z : Nat} {mAt mHC mRC mJC mCh mVi : Int} {stg hps nw js : Nat → Int} {rs : Nat → Int} {rows : rT} {hs sv : Nat → Int} {hist : List sT} {h nn : Int} {tz : Nat} {tx txa rst rhp nbs : Nat → Int} (hz : S z = oO 9 [.ref (z + 1), .int (iI (tz : Int)), .int (iI mAt), .ref (z + 2), .ref (z + 3), .ref (z + 4), .ref (z + 5), .int (iI mHC), .int (iI mRC), .ref (z + 6), .ref (z + 7), .ref (z + 8), .int (iI (hist.length : Int)), .ref (z + 9), .ref (z + 10), .int (iI mJC), .int (iI mCh), .int (iI mVi)]) (htx : S (z + 1) = oI g 200 txa) (hst : S (z + 2) = oI g 5 stg) (hrst : S (z + 3) = oI g 5 rst) (hhp : S (z + 4) = oI g 24 hps) (hrhp : S (z + 5) = oI g 24 rhp) (hnw : S (z + 6) = oI g 1249 nw) (hsv : S (z + 7) = oI g 1249 sv) (hhs : S (z + 8) = oI g 7494 hs) (hnb : S (z + 9) = oI g 3 nbs) (hjs : S (z + 10) = oI g 60 js) (rtz : tz ≤ 200) (htx0 : ∀ i : Nat, i < tz → txa i = tx i) (hM : goodM mHC stg hps) (hR : goodR mHC.toNat (mLn hps) (mBr hps) rs rows) (hS : mS nw rs rows) (hHi : mHi hs hist) (hHg : goodH mHC.toNat (mLn hps) (mBr hps) hist) (hb : (0 ≤ h ∧ h < mHC) ∧ (1 ≤ nn ∧ nn ≤ 99)) (hfu : rs h.toNat + nn ≤ 999) : g_Cs l yX9_bring wsX9_bring { frames := 2, cells := 0, slots := 0, locals := 45 } g [.ref z, .int (iI h), .int (iI nn)] n S (fun vr n1 S1 => vr = some (.int (iI (rs h.toNat + nn))) ∧ n = n1 ∧ MI0 g S1 z tz tx mHC stg hps (va_up rs h.toNat (rs h.toNat + nn)) rows (pushH hist (rs, rows)) ∧ (∀ bb, (bb < z ∨ z + 11 ≤ bb) → S1 bb = S bb)) 0 0 := by
  refine g_Cs.of (cc := cX9_bring) (maxL := 3) (ret := (some .int)) (by decide) rfl (Nat.le_of_ble_eq_true rfl) ?_
  intro pp ee s m below meth cK Q H locs ls hc hnm hw hl hret
  have hl : lv_has ls 3 [(0, .ref z), (1, .int (iI h)), (2, .int (iI nn))] := hl
  have hiX9 : ∀ w ∈ u_ws RX9 TX9 18, w ∈ wsX9_bring := by decide +kernel
  have lk25 : Cond.fieldLink RX9 25 "RoofCoursesModel" "now" "[I" ∈ wsX9_bring := by decide +kernel
  have m1 := hM.1
  have hns := hS.1 h.toNat (by omega)
  have hrr := goodR_rs hR (i := h.toNat) (by omega)
  refine lv_aload_n hc.1 hc.2.1 dX9_bring_0 rfl (lv_at hl 0 rfl) ?_
  refine lv_iload_n hc.1 hc.2.1 dX9_bring_1 rfl (lv_at hl 1 rfl) ?_
  refine nn_Vp (As := [.int (iI h)]) (st := []) hc hw hz rfl (c_X9_isHeap l g  hz (by omega) (by omega)) (cwV 1 hc.2.2.2.2 gX9_bring_X9_isHeap rfl rfl rfl (by decide +kernel) ⟨Nat.le_of_ble_eq_true rfl, Nat.le_of_ble_eq_true rfl⟩) rfl hl.1 rfl (Nat.le_of_ble_eq_true rfl) ⟨Nat.le_of_ble_eq_true rfl, Nat.le_of_ble_eq_true rfl⟩ dX9_bring_2 ?_
  refine W.eq (g2 := F0 m 5 ls [.int (iI (if 0 ≤ h ∧ h ≤ mHC - 1 then 1 else 0))]) rfl ?_
  refine nn_if_eq hc dX9_bring_5 (tgt := 18) (by decide) (by omega) (fun c1 => ?_) (fun c1 => ?_)
  · exfalso; omega
  · refine lv_iload_n hc.1 hc.2.1 dX9_bring_8 rfl (lv_at hl 2 rfl) ?_
    refine nn_iconst hc dX9_bring_9 ?_
    refine nn_bipush hc dX9_bring_10 (by decide +kernel) ?_
    refine nn_Sp (As := [.int (iI nn), .int (iI 1), .int (iI 99)]) (st := []) hc hw (c_X9_in l g   (by omega) (by omega) (by omega)) (va_cwS 3 hc.2.2.2.2 gX9_bring_X9_in rfl rfl rfl (by decide +kernel) ⟨Nat.le_of_ble_eq_true rfl, Nat.le_of_ble_eq_true rfl⟩) rfl hl.1 rfl (Nat.le_of_ble_eq_true rfl) ⟨Nat.le_of_ble_eq_true rfl, Nat.le_of_ble_eq_true rfl⟩ dX9_bring_12 ?_
    refine W.eq (g2 := F0 m 15 ls [.int (iI (if 1 ≤ nn ∧ nn ≤ 99 then 1 else 0))]) rfl ?_
    refine nn_if_ne hc dX9_bring_15 (tgt := 20) (by decide) (by omega) (fun c2 => ?_) (fun c2 => ?_)
    · refine lv_aload_n hc.1 hc.2.1 dX9_bring_20 rfl (lv_at hl 0 rfl) ?_
      refine nn_get hc hw hz hiX9 rfl 9 (by decide) rfl lk25 dX9_bring_21 ?_
      refine lv_iload_n hc.1 hc.2.1 dX9_bring_24 rfl (lv_at hl 1 rfl) ?_
      refine nn_iald hc hw hnw (by omega) (by omega) dX9_bring_25 ?_
      refine lv_iload_n hc.1 hc.2.1 dX9_bring_26 rfl (lv_at hl 2 rfl) ?_
      refine nn_iadd hc dX9_bring_27 ?_
      refine nn_sipush hc dX9_bring_28 (by decide +kernel) ?_
      refine nn_icmp_le hc dX9_bring_31 (tgt := 37) (by decide) (by omega) (by decide) (fun c3 => ?_) (fun c3 => ?_)
      · refine lv_aload_n hc.1 hc.2.1 dX9_bring_37 rfl (lv_at hl 0 rfl) ?_
        refine nn_Vs (As := []) (st := []) hc hw hz rfl (c_X9_save l g  hz hnw hhs (hR) (hS) (hHi) (hHg) (by omega)) (cwV 0 hc.2.2.2.2 gX9_bring_X9_save rfl rfl rfl (by decide +kernel) ⟨Nat.le_of_ble_eq_true rfl, Nat.le_of_ble_eq_true rfl⟩) rfl hl.1 rfl (Nat.le_of_ble_eq_true rfl) ⟨Nat.le_of_ble_eq_true rfl, Nat.le_of_ble_eq_true rfl⟩ dX9_bring_38 (fun vr n1 S4 H locs qS4 hw => ?_)
        obtain ⟨hs9_5, rfl, rfl, hS4_0, hS4_1, kS4_0, fS4⟩ := qS4
        refine W.eq (g2 := F0 m 41 ls []) rfl ?_
        refine lv_aload_n hc.1 hc.2.1 dX9_bring_41 rfl (lv_at hl 0 rfl) ?_
        refine nn_get hc hw hS4_0 hiX9 rfl 9 (by decide) rfl lk25 dX9_bring_42 ?_
        refine lv_iload_n hc.1 hc.2.1 dX9_bring_45 rfl (lv_at hl 1 rfl) ?_
        refine lv_dup2_11 hc.1 hc.2.1 dX9_bring_46 rfl rfl ?_
        have e6 : S4 (z + 6) = oI g 1249 nw := (fS4 (z + 6) (off_nr (x := z) (a := 6) (by decide)) (off_ne (x := z) (a := 6) (b := 8) (by decide))).trans hnw
        refine nn_iald hc hw e6 (by omega) (by omega) dX9_bring_47 ?_
        refine lv_iload_n hc.1 hc.2.1 dX9_bring_48 rfl (lv_at hl 2 rfl) ?_
        refine nn_iadd hc dX9_bring_49 ?_
        refine nn_iast hc hw e6 (by omega) (by omega) dX9_bring_50 (fun S7 H locs hS7 fS7 hw => ?_)
        refine lv_aload_n hc.1 hc.2.1 dX9_bring_51 rfl (lv_at hl 0 rfl) ?_
        have e8 : S7 z = oO 9 [.ref (z + 1), .int (iI (tz : Int)), .int (iI mAt), .ref (z + 2), .ref (z + 3), .ref (z + 4), .ref (z + 5), .int (iI mHC), .int (iI mRC), .ref (z + 6), .ref (z + 7), .ref (z + 8), .int (iI ((pushH hist (rs, rows)).length : Int)), .ref (z + 9), .ref (z + 10), .int (iI mJC), .int (iI mCh), .int (iI mVi)] := (fS7 z (off_nl (x := z) (a := 6) (by decide))).trans hS4_0
        refine nn_get hc hw e8 hiX9 rfl 9 (by decide) rfl lk25 dX9_bring_52 ?_
        refine lv_iload_n hc.1 hc.2.1 dX9_bring_55 rfl (lv_at hl 1 rfl) ?_
        refine nn_iald hc hw hS7 (by omega) (by omega) dX9_bring_56 ?_
        have e9 : S4 (z + 1) = oI g 200 txa := (fS4 (z + 1) (off_nr (x := z) (a := 1) (by decide)) (off_ne (x := z) (a := 1) (b := 8) (by decide))).trans htx
        have e10 : S7 (z + 1) = oI g 200 txa := (fS7 (z + 1) (off_ne (x := z) (a := 1) (b := 6) (by decide))).trans e9
        have e11 : S4 (z + 2) = oI g 5 stg := (fS4 (z + 2) (off_nr (x := z) (a := 2) (by decide)) (off_ne (x := z) (a := 2) (b := 8) (by decide))).trans hst
        have e12 : S7 (z + 2) = oI g 5 stg := (fS7 (z + 2) (off_ne (x := z) (a := 2) (b := 6) (by decide))).trans e11
        have e13 : S4 (z + 3) = oI g 5 rst := (fS4 (z + 3) (off_nr (x := z) (a := 3) (by decide)) (off_ne (x := z) (a := 3) (b := 8) (by decide))).trans hrst
        have e14 : S7 (z + 3) = oI g 5 rst := (fS7 (z + 3) (off_ne (x := z) (a := 3) (b := 6) (by decide))).trans e13
        have e15 : S4 (z + 4) = oI g 24 hps := (fS4 (z + 4) (off_nr (x := z) (a := 4) (by decide)) (off_ne (x := z) (a := 4) (b := 8) (by decide))).trans hhp
        have e16 : S7 (z + 4) = oI g 24 hps := (fS7 (z + 4) (off_ne (x := z) (a := 4) (b := 6) (by decide))).trans e15
        have e17 : S4 (z + 5) = oI g 24 rhp := (fS4 (z + 5) (off_nr (x := z) (a := 5) (by decide)) (off_ne (x := z) (a := 5) (b := 8) (by decide))).trans hrhp
        have e18 : S7 (z + 5) = oI g 24 rhp := (fS7 (z + 5) (off_ne (x := z) (a := 5) (b := 6) (by decide))).trans e17
        have e19 : S4 (z + 7) = oI g 1249 sv := (fS4 (z + 7) (off_nr (x := z) (a := 7) (by decide)) (off_ne (x := z) (a := 7) (b := 8) (by decide))).trans hsv
        have e20 : S7 (z + 7) = oI g 1249 sv := (fS7 (z + 7) (off_ne (x := z) (a := 7) (b := 6) (by decide))).trans e19
        have e21 : S7 (z + 8) = oI g 7494 hs9_5 := (fS7 (z + 8) (off_ne (x := z) (a := 8) (b := 6) (by decide))).trans hS4_1
        have e22 : S4 (z + 9) = oI g 3 nbs := (fS4 (z + 9) (off_nr (x := z) (a := 9) (by decide)) (off_ne (x := z) (a := 9) (b := 8) (by decide))).trans hnb
        have e23 : S7 (z + 9) = oI g 3 nbs := (fS7 (z + 9) (off_ne (x := z) (a := 9) (b := 6) (by decide))).trans e22
        have e24 : S4 (z + 10) = oI g 60 js := (fS4 (z + 10) (off_nr (x := z) (a := 10) (by decide)) (off_ne (x := z) (a := 10) (b := 8) (by decide))).trans hjs
        have e25 : S7 (z + 10) = oI g 60 js := (fS7 (z + 10) (off_ne (x := z) (a := 10) (b := 6) (by decide))).trans e24
        exact hret (some (.int (iI ((va_up nw h.toNat ((nw h.toNat) + nn)) h.toNat)))) _ S7 _ _ _ _ hw (⟨(by rw [va_up_self, hns]), rfl, ⟨_, _, _, _, _, _, _, _, _, _, _, _, _, e8, e10, htx0, e12, e14, e16, e18, hS7, e20, e21, e23, e25, (by rw [← hns]; exact mS_bring hS (by omega)), kS4_0⟩, fun bb hbb  => ((fS7 bb (by omega))).trans (fS4 bb (by omega) (by omega))⟩) ⟨_, rfl, rfl, dX9_bring_57⟩
      · exfalso; omega
    · exfalso; omega

set_option maxHeartbeats 4000000 in
set_option maxRecDepth 100000 in
theorem c_M_undo_no (l : Launch) (g : gG) {n : Nat} {S : Nat → gE} {z : Nat} {mAt mHC mRC mJC mCh mVi : Int} {stg hps nw js : Nat → Int} {rs : Nat → Int} {rows : rT} {hs sv : Nat → Int} {hist : List sT} {tz : Nat} {tx txa rst rhp nbs : Nat → Int} (hz : S z = oO 9 [.ref (z + 1), .int (iI (tz : Int)), .int (iI mAt), .ref (z + 2), .ref (z + 3), .ref (z + 4), .ref (z + 5), .int (iI mHC), .int (iI mRC), .ref (z + 6), .ref (z + 7), .ref (z + 8), .int (iI (hist.length : Int)), .ref (z + 9), .ref (z + 10), .int (iI mJC), .int (iI mCh), .int (iI mVi)]) (htx : S (z + 1) = oI g 200 txa) (hst : S (z + 2) = oI g 5 stg) (hrst : S (z + 3) = oI g 5 rst) (hhp : S (z + 4) = oI g 24 hps) (hrhp : S (z + 5) = oI g 24 rhp) (hnw : S (z + 6) = oI g 1249 nw) (hsv : S (z + 7) = oI g 1249 sv) (hhs : S (z + 8) = oI g 7494 hs) (hnb : S (z + 9) = oI g 3 nbs) (hjs : S (z + 10) = oI g 60 js) (rtz : tz ≤ 200) (htx0 : ∀ i : Nat, i < tz → txa i = tx i) (hM : goodM mHC stg hps) (hR : goodR mHC.toNat (mLn hps) (mBr hps) rs rows) (hS : mS nw rs rows) (hHi : mHi hs hist) (hHg : goodH mHC.toNat (mLn hps) (mBr hps) hist) (hb : hist.length = 0) : g_Cs l yX9_undo wsX9_undo { frames := 0, cells := 0, slots := 0, locals := 0 } g [.ref z] n S (fun vr n1 S1 => vr = some (.int (iI (-2))) ∧ n = n1 ∧ MI0 g S1 z tz tx mHC stg hps rs rows hist ∧ (∀ bb, (bb < z ∨ z + 11 ≤ bb) → S1 bb = S bb)) 0 0 := by
  refine g_Cs.of (cc := cX9_undo) (maxL := 1) (ret := (some .int)) (by decide) rfl (Nat.le_of_ble_eq_true rfl) ?_
  intro pp ee s m below meth cK Q H locs ls hc hnm hw hl hret
  have hl : lv_has ls 1 [(0, .ref z)] := hl
  have hiX9 : ∀ w ∈ u_ws RX9 TX9 18, w ∈ wsX9_undo := by decide +kernel
  have lk57 : Cond.fieldLink RX9 57 "RoofCoursesModel" "historySize" "I" ∈ wsX9_undo := by decide +kernel
  refine lv_aload_n hc.1 hc.2.1 dX9_undo_0 rfl (lv_at hl 0 rfl) ?_
  refine nn_get hc hw hz hiX9 rfl 12 (by decide) rfl lk57 dX9_undo_1 ?_
  refine nn_if_ne hc dX9_undo_4 (tgt := 10) (by decide) (by omega) (fun c1 => ?_) (fun c1 => ?_)
  · exfalso; omega
  · refine nn_bipush hc dX9_undo_7 (by decide +kernel) ?_
    exact hret (some (.int (iI (-2)))) _ S _ _ _ _ hw (⟨rfl, rfl, ⟨_, _, _, _, _, _, _, _, _, _, _, _, _, hz, htx, htx0, hst, hrst, hhp, hrhp, hnw, hsv, hhs, hnb, hjs, hS, hHi⟩, fun bb hbb  => rfl⟩) ⟨_, rfl, rfl, dX9_undo_9⟩

set_option maxHeartbeats 4000000 in
set_option maxRecDepth 100000 in
theorem c_M_undo_yes (l : Launch) (g : gG) {n : Nat} {S : Nat → gE} {z : Nat} {mAt mHC mRC mJC mCh mVi : Int} {stg hps nw js : Nat → Int} {rs : Nat → Int} {rows : rT} {hs sv : Nat → Int} {hist : List sT} {tz : Nat} {tx txa rst rhp nbs : Nat → Int} {y0 : Nat → Int} {s0 : rT} (hz : S z = oO 9 [.ref (z + 1), .int (iI (tz : Int)), .int (iI mAt), .ref (z + 2), .ref (z + 3), .ref (z + 4), .ref (z + 5), .int (iI mHC), .int (iI mRC), .ref (z + 6), .ref (z + 7), .ref (z + 8), .int (iI ((hist ++ [(y0, s0)]).length : Int)), .ref (z + 9), .ref (z + 10), .int (iI mJC), .int (iI mCh), .int (iI mVi)]) (htx : S (z + 1) = oI g 200 txa) (hst : S (z + 2) = oI g 5 stg) (hrst : S (z + 3) = oI g 5 rst) (hhp : S (z + 4) = oI g 24 hps) (hrhp : S (z + 5) = oI g 24 rhp) (hnw : S (z + 6) = oI g 1249 nw) (hsv : S (z + 7) = oI g 1249 sv) (hhs : S (z + 8) = oI g 7494 hs) (hnb : S (z + 9) = oI g 3 nbs) (hjs : S (z + 10) = oI g 60 js) (rtz : tz ≤ 200) (htx0 : ∀ i : Nat, i < tz → txa i = tx i) (hM : goodM mHC stg hps) (hR : goodR mHC.toNat (mLn hps) (mBr hps) rs rows) (hS : mS nw rs rows) (hHi : mHi hs (hist ++ [(y0, s0)])) (hHg : goodH mHC.toNat (mLn hps) (mBr hps) (hist ++ [(y0, s0)])) : g_Cs l yX9_undo wsX9_undo { frames := 1, cells := 0, slots := 0, locals := 24 } g [.ref z] n S (fun vr n1 S1 => vr = some (.int (iI (hist.length : Int))) ∧ n = n1 ∧ MI0 g S1 z tz tx mHC stg hps y0 s0 hist ∧ (∀ bb, (bb < z ∨ z + 11 ≤ bb) → S1 bb = S bb)) 0 0 := by
  refine g_Cs.of (cc := cX9_undo) (maxL := 1) (ret := (some .int)) (by decide) rfl (Nat.le_of_ble_eq_true rfl) ?_
  intro pp ee s m below meth cK Q H locs ls hc hnm hw hl hret
  have hl : lv_has ls 1 [(0, .ref z)] := hl
  have hiX9 : ∀ w ∈ u_ws RX9 TX9 18, w ∈ wsX9_undo := by decide +kernel
  have lk57 : Cond.fieldLink RX9 57 "RoofCoursesModel" "historySize" "I" ∈ wsX9_undo := by decide +kernel
  have lk31 : Cond.fieldLink RX9 31 "RoofCoursesModel" "history" "[I" ∈ wsX9_undo := by decide +kernel
  have lk25 : Cond.fieldLink RX9 25 "RoofCoursesModel" "now" "[I" ∈ wsX9_undo := by decide +kernel
  have hln9 := hlen_sn (hist := hist) (y := (y0, s0))
  have hhg := goodH_pop hHg
  have hhi := mHi_pop hHi
  have hl6 := hHg.1
  refine lv_aload_n hc.1 hc.2.1 dX9_undo_0 rfl (lv_at hl 0 rfl) ?_
  refine nn_get hc hw hz hiX9 rfl 12 (by decide) rfl lk57 dX9_undo_1 ?_
  refine nn_if_ne hc dX9_undo_4 (tgt := 10) (by decide) (by omega) (fun c1 => ?_) (fun c1 => ?_)
  · refine lv_aload_n hc.1 hc.2.1 dX9_undo_10 rfl (lv_at hl 0 rfl) ?_
    refine lv_dup hc.1 hc.2.1 dX9_undo_11 rfl ?_
    refine nn_get hc hw hz hiX9 rfl 12 (by decide) rfl lk57 dX9_undo_12 ?_
    refine nn_iconst hc dX9_undo_15 ?_
    refine nn_isub hc dX9_undo_16 ?_
    refine nn_put hc hw hz hiX9 tyX9 tyX9_ok nmX9 rfl 12 (by decide) (Nat.le_of_ble_eq_true rfl) lk57 rfl rfl rfl dX9_undo_17 (fun S2 H locs hS2 fS2 hw => ?_)
    have hS2 : S2 z = oO 9 [.ref (z + 1), .int (iI (tz : Int)), .int (iI mAt), .ref (z + 2), .ref (z + 3), .ref (z + 4), .ref (z + 5), .int (iI mHC), .int (iI mRC), .ref (z + 6), .ref (z + 7), .ref (z + 8), .int (iI (((hist ++ [(y0, s0)]).length : Int) - 1)), .ref (z + 9), .ref (z + 10), .int (iI mJC), .int (iI mCh), .int (iI mVi)] := hS2
    refine lv_aload_n hc.1 hc.2.1 dX9_undo_20 rfl (lv_at hl 0 rfl) ?_
    refine nn_get hc hw hS2 hiX9 rfl 11 (by decide) rfl lk31 dX9_undo_21 ?_
    refine nn_sipush hc dX9_undo_24 (by decide +kernel) ?_
    refine lv_aload_n hc.1 hc.2.1 dX9_undo_27 rfl (lv_at hl 0 rfl) ?_
    refine nn_get hc hw hS2 hiX9 rfl 12 (by decide) rfl lk57 dX9_undo_28 ?_
    refine nn_imul hc dX9_undo_31 ?_
    refine lv_aload_n hc.1 hc.2.1 dX9_undo_32 rfl (lv_at hl 0 rfl) ?_
    refine nn_get hc hw hS2 hiX9 rfl 9 (by decide) rfl lk25 dX9_undo_33 ?_
    refine nn_iconst hc dX9_undo_36 ?_
    have e3 : S2 (z + 8) = oI g 7494 hs := (fS2 (z + 8) (off_nr (x := z) (a := 8) (by decide))).trans hhs
    have e4 : S2 (z + 6) = oI g 1249 nw := (fS2 (z + 6) (off_nr (x := z) (a := 6) (by decide))).trans hnw
    refine nn_Ss (As := [.ref (z + 8), .int (iI (1249 * (((hist ++ [(y0, s0)]).length : Int) - 1))), .ref (z + 6), .int (iI 0)]) (st := []) hc hw (c_X9_copyState l g  e3 e4 (by omega) (by omega) (by omega) (by omega)) (va_cwS 4 hc.2.2.2.2 gX9_undo_X9_copyState rfl rfl rfl (by decide +kernel) ⟨Nat.le_of_ble_eq_true rfl, Nat.le_of_ble_eq_true rfl⟩) rfl hl.1 rfl (Nat.le_of_ble_eq_true rfl) ⟨Nat.le_of_ble_eq_true rfl, Nat.le_of_ble_eq_true rfl⟩ dX9_undo_37 (fun vr n1 S5 H locs qS5 hw => ?_)
    obtain ⟨rfl, rfl, hS5_0, fS5⟩ := qS5
    refine W.eq (g2 := F0 m 40 ls []) rfl ?_
    refine lv_aload_n hc.1 hc.2.1 dX9_undo_40 rfl (lv_at hl 0 rfl) ?_
    have e6 : S5 z = oO 9 [.ref (z + 1), .int (iI (tz : Int)), .int (iI mAt), .ref (z + 2), .ref (z + 3), .ref (z + 4), .ref (z + 5), .int (iI mHC), .int (iI mRC), .ref (z + 6), .ref (z + 7), .ref (z + 8), .int (iI (((hist ++ [(y0, s0)]).length : Int) - 1)), .ref (z + 9), .ref (z + 10), .int (iI mJC), .int (iI mCh), .int (iI mVi)] := (fS5 z (off_nl (x := z) (a := 6) (by decide))).trans hS2
    refine nn_get hc hw e6 hiX9 rfl 12 (by decide) rfl lk57 dX9_undo_41 ?_
    have e7 : S2 (z + 1) = oI g 200 txa := (fS2 (z + 1) (off_nr (x := z) (a := 1) (by decide))).trans htx
    have e8 : S5 (z + 1) = oI g 200 txa := (fS5 (z + 1) (off_ne (x := z) (a := 1) (b := 6) (by decide))).trans e7
    have e9 : S2 (z + 2) = oI g 5 stg := (fS2 (z + 2) (off_nr (x := z) (a := 2) (by decide))).trans hst
    have e10 : S5 (z + 2) = oI g 5 stg := (fS5 (z + 2) (off_ne (x := z) (a := 2) (b := 6) (by decide))).trans e9
    have e11 : S2 (z + 3) = oI g 5 rst := (fS2 (z + 3) (off_nr (x := z) (a := 3) (by decide))).trans hrst
    have e12 : S5 (z + 3) = oI g 5 rst := (fS5 (z + 3) (off_ne (x := z) (a := 3) (b := 6) (by decide))).trans e11
    have e13 : S2 (z + 4) = oI g 24 hps := (fS2 (z + 4) (off_nr (x := z) (a := 4) (by decide))).trans hhp
    have e14 : S5 (z + 4) = oI g 24 hps := (fS5 (z + 4) (off_ne (x := z) (a := 4) (b := 6) (by decide))).trans e13
    have e15 : S2 (z + 5) = oI g 24 rhp := (fS2 (z + 5) (off_nr (x := z) (a := 5) (by decide))).trans hrhp
    have e16 : S5 (z + 5) = oI g 24 rhp := (fS5 (z + 5) (off_ne (x := z) (a := 5) (b := 6) (by decide))).trans e15
    have e17 : S2 (z + 7) = oI g 1249 sv := (fS2 (z + 7) (off_nr (x := z) (a := 7) (by decide))).trans hsv
    have e18 : S5 (z + 7) = oI g 1249 sv := (fS5 (z + 7) (off_ne (x := z) (a := 7) (b := 6) (by decide))).trans e17
    have e19 : S5 (z + 8) = oI g 7494 hs := (fS5 (z + 8) (off_ne (x := z) (a := 8) (b := 6) (by decide))).trans e3
    have e20 : S2 (z + 9) = oI g 3 nbs := (fS2 (z + 9) (off_nr (x := z) (a := 9) (by decide))).trans hnb
    have e21 : S5 (z + 9) = oI g 3 nbs := (fS5 (z + 9) (off_ne (x := z) (a := 9) (b := 6) (by decide))).trans e20
    have e22 : S2 (z + 10) = oI g 60 js := (fS2 (z + 10) (off_nr (x := z) (a := 10) (by decide))).trans hjs
    have e23 : S5 (z + 10) = oI g 60 js := (fS5 (z + 10) (off_ne (x := z) (a := 10) (b := 6) (by decide))).trans e22
    exact hret (some (.int (iI (((hist ++ [(y0, s0)]).length : Int) - 1)))) _ S5 _ _ _ _ hw (⟨(by rw [show ((hist ++ [(y0, s0)]).length : Int) - 1 = hist.length by omega]), rfl, ⟨_, _, _, _, _, _, _, _, _, _, _, _, _, (by rw [show (hist.length : Int) = ((hist ++ [(y0, s0)]).length : Int) - 1 by omega]; exact e6), e8, htx0, e10, e12, e14, e16, hS5_0, e18, e19, e21, e23, (mS_copy hhi.2 hhg.2.lens (fun i hi => by unfold cpS; rw [show (0 : Int).toNat = 0 from rfl, if_pos (by omega), show (1249 * (((hist ++ [(y0, s0)]).length : Int) - 1)).toNat + (i - 0) = 1249 * hist.length + i by omega])), hhi.1⟩, fun bb hbb  => ((fS5 bb (by omega))).trans (fS2 bb (by omega))⟩) ⟨_, rfl, rfl, dX9_undo_44⟩
  · exfalso; omega

set_option maxHeartbeats 4000000 in
set_option maxRecDepth 100000 in
theorem c_M_joint_bad (l : Launch) (g : gG) {n : Nat} {S : Nat → gE} {z : Nat} {mAt mHC mRC mJC mCh mVi : Int} {stg hps nw js : Nat → Int} {rs : Nat → Int} {rows : rT} {hs sv : Nat → Int} {hist : List sT} {c k : Int} {tz : Nat} {tx txa rst rhp nbs : Nat → Int} (hz : S z = oO 9 [.ref (z + 1), .int (iI (tz : Int)), .int (iI mAt), .ref (z + 2), .ref (z + 3), .ref (z + 4), .ref (z + 5), .int (iI mHC), .int (iI mRC), .ref (z + 6), .ref (z + 7), .ref (z + 8), .int (iI (hist.length : Int)), .ref (z + 9), .ref (z + 10), .int (iI mJC), .int (iI mCh), .int (iI mVi)]) (htx : S (z + 1) = oI g 200 txa) (hst : S (z + 2) = oI g 5 stg) (hrst : S (z + 3) = oI g 5 rst) (hhp : S (z + 4) = oI g 24 hps) (hrhp : S (z + 5) = oI g 24 rhp) (hnw : S (z + 6) = oI g 1249 nw) (hsv : S (z + 7) = oI g 1249 sv) (hhs : S (z + 8) = oI g 7494 hs) (hnb : S (z + 9) = oI g 3 nbs) (hjs : S (z + 10) = oI g 60 js) (rtz : tz ≤ 200) (htx0 : ∀ i : Nat, i < tz → txa i = tx i) (hM : goodM mHC stg hps) (hR : goodR mHC.toNat (mLn hps) (mBr hps) rs rows) (hS : mS nw rs rows) (hHi : mHi hs hist) (hHg : goodH mHC.toNat (mLn hps) (mBr hps) hist) (r_c : -2147483648 ≤ c ∧ c < 2147483648) (r_k : -2147483648 ≤ k ∧ k < 2147483648) (hb : ¬ ((0 ≤ c ∧ c < rows.length) ∧ 0 ≤ k)) : g_Cs l yX9_joint wsX9_joint { frames := 2, cells := 0, slots := 0, locals := 43 } g [.ref z, .int (iI c), .int (iI k)] n S (fun vr n1 S1 => vr = some (.int (iI (-1))) ∧ n = n1 ∧ MI0 g S1 z tz tx mHC stg hps rs rows hist ∧ (∀ bb, (bb < z ∨ z + 11 ≤ bb) → S1 bb = S bb)) 0 0 := by
  refine g_Cs.of (cc := cX9_joint) (maxL := 3) (ret := (some .int)) (by decide) rfl (Nat.le_of_ble_eq_true rfl) ?_
  intro pp ee s m below meth cK Q H locs ls hc hnm hw hl hret
  have hl : lv_has ls 3 [(0, .ref z), (1, .int (iI c)), (2, .int (iI k))] := hl
  have h8 := hS.2.1
  have hRl := hR.1
  refine lv_aload_n hc.1 hc.2.1 dX9_joint_0 rfl (lv_at hl 0 rfl) ?_
  refine lv_iload_n hc.1 hc.2.1 dX9_joint_1 rfl (lv_at hl 1 rfl) ?_
  refine nn_Vp (As := [.int (iI c)]) (st := []) hc hw hz rfl (c_X9_isCourse l g  hz hnw (by omega) (by omega)) (cwV 1 hc.2.2.2.2 gX9_joint_X9_isCourse rfl rfl rfl (by decide +kernel) ⟨Nat.le_of_ble_eq_true rfl, Nat.le_of_ble_eq_true rfl⟩) rfl hl.1 rfl (Nat.le_of_ble_eq_true rfl) ⟨Nat.le_of_ble_eq_true rfl, Nat.le_of_ble_eq_true rfl⟩ dX9_joint_2 ?_
  refine W.eq (g2 := F0 m 5 ls [.int (iI (if 0 ≤ c ∧ c ≤ nw 8 - 1 then 1 else 0))]) rfl ?_
  refine nn_if_eq hc dX9_joint_5 (tgt := 12) (by decide) (by omega) (fun c1 => ?_) (fun c1 => ?_)
  · refine nn_iconst hc dX9_joint_12 ?_
    exact hret (some (.int (iI (-1)))) _ S _ _ _ _ hw (⟨rfl, rfl, ⟨_, _, _, _, _, _, _, _, _, _, _, _, _, hz, htx, htx0, hst, hrst, hhp, hrhp, hnw, hsv, hhs, hnb, hjs, hS, hHi⟩, fun bb hbb  => rfl⟩) ⟨_, rfl, rfl, dX9_joint_13⟩
  · refine lv_iload_n hc.1 hc.2.1 dX9_joint_8 rfl (lv_at hl 2 rfl) ?_
    refine nn_if_ge hc dX9_joint_9 (tgt := 14) (by decide) (by omega) (fun c2 => ?_) (fun c2 => ?_)
    · exfalso; omega
    · refine nn_iconst hc dX9_joint_12 ?_
      exact hret (some (.int (iI (-1)))) _ S _ _ _ _ hw (⟨rfl, rfl, ⟨_, _, _, _, _, _, _, _, _, _, _, _, _, hz, htx, htx0, hst, hrst, hhp, hrhp, hnw, hsv, hhs, hnb, hjs, hS, hHi⟩, fun bb hbb  => rfl⟩) ⟨_, rfl, rfl, dX9_joint_13⟩

set_option maxHeartbeats 4000000 in
set_option maxRecDepth 100000 in
theorem c_M_joint_ok (l : Launch) (g : gG) {n : Nat} {S : Nat → gE} {z : Nat} {mAt mHC mRC mJC mCh mVi : Int} {stg hps nw js : Nat → Int} {rs : Nat → Int} {rows : rT} {hs sv : Nat → Int} {hist : List sT} {c k : Int} {tz : Nat} {tx txa rst rhp nbs : Nat → Int} (hz : S z = oO 9 [.ref (z + 1), .int (iI (tz : Int)), .int (iI mAt), .ref (z + 2), .ref (z + 3), .ref (z + 4), .ref (z + 5), .int (iI mHC), .int (iI mRC), .ref (z + 6), .ref (z + 7), .ref (z + 8), .int (iI (hist.length : Int)), .ref (z + 9), .ref (z + 10), .int (iI mJC), .int (iI mCh), .int (iI mVi)]) (htx : S (z + 1) = oI g 200 txa) (hst : S (z + 2) = oI g 5 stg) (hrst : S (z + 3) = oI g 5 rst) (hhp : S (z + 4) = oI g 24 hps) (hrhp : S (z + 5) = oI g 24 rhp) (hnw : S (z + 6) = oI g 1249 nw) (hsv : S (z + 7) = oI g 1249 sv) (hhs : S (z + 8) = oI g 7494 hs) (hnb : S (z + 9) = oI g 3 nbs) (hjs : S (z + 10) = oI g 60 js) (rtz : tz ≤ 200) (htx0 : ∀ i : Nat, i < tz → txa i = tx i) (hM : goodM mHC stg hps) (hR : goodR mHC.toNat (mLn hps) (mBr hps) rs rows) (hS : mS nw rs rows) (hHi : mHi hs hist) (hHg : goodH mHC.toNat (mLn hps) (mBr hps) hist) (r_k : -2147483648 ≤ k ∧ k < 2147483648) (hb : (0 ≤ c ∧ c < rows.length) ∧ 0 ≤ k) : g_Cs l yX9_joint wsX9_joint { frames := 2, cells := 0, slots := 0, locals := 45 } g [.ref z, .int (iI c), .int (iI k)] n S (fun vr n1 S1 => vr = some (.int (iI (aJoint (rS rows c.toNat) k.toNat))) ∧ n = n1 ∧ MI0 g S1 z tz tx mHC stg hps rs rows hist ∧ (∀ bb, (bb < z ∨ z + 11 ≤ bb) → S1 bb = S bb)) 0 0 := by
  refine g_Cs.of (cc := cX9_joint) (maxL := 3) (ret := (some .int)) (by decide) rfl (Nat.le_of_ble_eq_true rfl) ?_
  intro pp ee s m below meth cK Q H locs ls hc hnm hw hl hret
  have hl : lv_has ls 3 [(0, .ref z), (1, .int (iI c)), (2, .int (iI k))] := hl
  have hiX9 : ∀ w ∈ u_ws RX9 TX9 18, w ∈ wsX9_joint := by decide +kernel
  have lk111 : Cond.fieldLink RX9 111 "RoofCoursesModel" "jointCount" "I" ∈ wsX9_joint := by decide +kernel
  have lk37 : Cond.fieldLink RX9 37 "RoofCoursesModel" "joints" "[I" ∈ wsX9_joint := by decide +kernel
  have hM0 := hM
  obtain ⟨m1, m2, m3, m4, m5, m6, m7, m8⟩ := hM
  have hRl := hR.1
  have h8 := hS.2.1
  have hdr := hd_r hR m6 (Nat.le_refl rows.length)
  have hrg := mS_rg hM0 hR hS
  have hHD := mS_hd hS (stg 2)
  have hbr2 : ∀ i : Nat, i < mHC.toNat → 1 ≤ mBr hps i ∧ mBr hps i ≤ 60 := fun i hi => by have := m2 i (by omega); omega
  have hrw := hS.2.2 c.toNat (by omega)
  have hgd := hR.2.1 c.toNat (by omega)
  refine lv_aload_n hc.1 hc.2.1 dX9_joint_0 rfl (lv_at hl 0 rfl) ?_
  refine lv_iload_n hc.1 hc.2.1 dX9_joint_1 rfl (lv_at hl 1 rfl) ?_
  refine nn_Vp (As := [.int (iI c)]) (st := []) hc hw hz rfl (c_X9_isCourse l g  hz hnw (by omega) (by omega)) (cwV 1 hc.2.2.2.2 gX9_joint_X9_isCourse rfl rfl rfl (by decide +kernel) ⟨Nat.le_of_ble_eq_true rfl, Nat.le_of_ble_eq_true rfl⟩) rfl hl.1 rfl (Nat.le_of_ble_eq_true rfl) ⟨Nat.le_of_ble_eq_true rfl, Nat.le_of_ble_eq_true rfl⟩ dX9_joint_2 ?_
  refine W.eq (g2 := F0 m 5 ls [.int (iI (if 0 ≤ c ∧ c ≤ nw 8 - 1 then 1 else 0))]) rfl ?_
  refine nn_if_eq hc dX9_joint_5 (tgt := 12) (by decide) (by omega) (fun c1 => ?_) (fun c1 => ?_)
  · exfalso; omega
  · refine lv_iload_n hc.1 hc.2.1 dX9_joint_8 rfl (lv_at hl 2 rfl) ?_
    refine nn_if_ge hc dX9_joint_9 (tgt := 14) (by decide) (by omega) (fun c2 => ?_) (fun c2 => ?_)
    · refine lv_aload_n hc.1 hc.2.1 dX9_joint_14 rfl (lv_at hl 0 rfl) ?_
      refine lv_iload_n hc.1 hc.2.1 dX9_joint_15 rfl (lv_at hl 1 rfl) ?_
      refine nn_Vs (As := [.int (iI c)]) (st := []) hc hw hz rfl (c_X9_findJoints l g  hz hnw hjs (by omega) (hrw) (hgd.2.1) (ok_bv hM0 hgd.1)) (cwV 1 hc.2.2.2.2 gX9_joint_X9_findJoints rfl rfl rfl (by decide +kernel) ⟨Nat.le_of_ble_eq_true rfl, Nat.le_of_ble_eq_true rfl⟩) rfl hl.1 rfl (Nat.le_of_ble_eq_true rfl) ⟨Nat.le_of_ble_eq_true rfl, Nat.le_of_ble_eq_true rfl⟩ dX9_joint_16 (fun vr n1 S3 H locs qS3 hw => ?_)
      obtain ⟨jf_4, rfl, rfl, hS3_0, hS3_1, kS3_0, fS3⟩ := qS3
      refine W.eq (g2 := F0 m 19 ls []) rfl ?_
      refine lv_iload_n hc.1 hc.2.1 dX9_joint_19 rfl (lv_at hl 2 rfl) ?_
      refine lv_aload_n hc.1 hc.2.1 dX9_joint_20 rfl (lv_at hl 0 rfl) ?_
      refine nn_get hc hw hS3_0 hiX9 rfl 15 (by decide) rfl lk111 dX9_joint_21 ?_
      refine nn_icmp_ge hc dX9_joint_24 (tgt := 36) (by decide) (by omega) (by omega) (fun c5 => ?_) (fun c5 => ?_)
      · refine nn_bipush hc dX9_joint_36 (by decide +kernel) ?_
        have e6 : S3 (z + 1) = oI g 200 txa := (fS3 (z + 1) (off_nr (x := z) (a := 1) (by decide)) (off_ne (x := z) (a := 1) (b := 10) (by decide))).trans htx
        have e7 : S3 (z + 2) = oI g 5 stg := (fS3 (z + 2) (off_nr (x := z) (a := 2) (by decide)) (off_ne (x := z) (a := 2) (b := 10) (by decide))).trans hst
        have e8 : S3 (z + 3) = oI g 5 rst := (fS3 (z + 3) (off_nr (x := z) (a := 3) (by decide)) (off_ne (x := z) (a := 3) (b := 10) (by decide))).trans hrst
        have e9 : S3 (z + 4) = oI g 24 hps := (fS3 (z + 4) (off_nr (x := z) (a := 4) (by decide)) (off_ne (x := z) (a := 4) (b := 10) (by decide))).trans hhp
        have e10 : S3 (z + 5) = oI g 24 rhp := (fS3 (z + 5) (off_nr (x := z) (a := 5) (by decide)) (off_ne (x := z) (a := 5) (b := 10) (by decide))).trans hrhp
        have e11 : S3 (z + 6) = oI g 1249 nw := (fS3 (z + 6) (off_nr (x := z) (a := 6) (by decide)) (off_ne (x := z) (a := 6) (b := 10) (by decide))).trans hnw
        have e12 : S3 (z + 7) = oI g 1249 sv := (fS3 (z + 7) (off_nr (x := z) (a := 7) (by decide)) (off_ne (x := z) (a := 7) (b := 10) (by decide))).trans hsv
        have e13 : S3 (z + 8) = oI g 7494 hs := (fS3 (z + 8) (off_nr (x := z) (a := 8) (by decide)) (off_ne (x := z) (a := 8) (b := 10) (by decide))).trans hhs
        have e14 : S3 (z + 9) = oI g 3 nbs := (fS3 (z + 9) (off_nr (x := z) (a := 9) (by decide)) (off_ne (x := z) (a := 9) (b := 10) (by decide))).trans hnb
        exact hret (some (.int (iI (-4)))) _ S3 _ _ _ _ hw (⟨(by unfold aJoint; first | (rw [if_pos (show k.toNat + 1 < (rS rows c.toNat).length by omega), ← kS3_0 k.toNat (by omega)]) | (rw [if_neg (show ¬ (k.toNat + 1 < (rS rows c.toNat).length) by omega)])), rfl, ⟨_, _, _, _, _, _, _, _, _, _, _, _, _, hS3_0, e6, htx0, e7, e8, e9, e10, e11, e12, e13, e14, hS3_1, hS, hHi⟩, fun bb hbb  => (fS3 bb (by omega) (by omega))⟩) ⟨_, rfl, rfl, dX9_joint_38⟩
      · refine lv_aload_n hc.1 hc.2.1 dX9_joint_27 rfl (lv_at hl 0 rfl) ?_
        refine nn_get hc hw hS3_0 hiX9 rfl 14 (by decide) rfl lk37 dX9_joint_28 ?_
        refine lv_iload_n hc.1 hc.2.1 dX9_joint_31 rfl (lv_at hl 2 rfl) ?_
        refine nn_iald hc hw hS3_1 (by omega) (by omega) dX9_joint_32 ?_
        refine lv_goto hc.1 hc.2.1 dX9_joint_33 (tgt := 38) (by decide) ?_
        have e15 : S3 (z + 1) = oI g 200 txa := (fS3 (z + 1) (off_nr (x := z) (a := 1) (by decide)) (off_ne (x := z) (a := 1) (b := 10) (by decide))).trans htx
        have e16 : S3 (z + 2) = oI g 5 stg := (fS3 (z + 2) (off_nr (x := z) (a := 2) (by decide)) (off_ne (x := z) (a := 2) (b := 10) (by decide))).trans hst
        have e17 : S3 (z + 3) = oI g 5 rst := (fS3 (z + 3) (off_nr (x := z) (a := 3) (by decide)) (off_ne (x := z) (a := 3) (b := 10) (by decide))).trans hrst
        have e18 : S3 (z + 4) = oI g 24 hps := (fS3 (z + 4) (off_nr (x := z) (a := 4) (by decide)) (off_ne (x := z) (a := 4) (b := 10) (by decide))).trans hhp
        have e19 : S3 (z + 5) = oI g 24 rhp := (fS3 (z + 5) (off_nr (x := z) (a := 5) (by decide)) (off_ne (x := z) (a := 5) (b := 10) (by decide))).trans hrhp
        have e20 : S3 (z + 6) = oI g 1249 nw := (fS3 (z + 6) (off_nr (x := z) (a := 6) (by decide)) (off_ne (x := z) (a := 6) (b := 10) (by decide))).trans hnw
        have e21 : S3 (z + 7) = oI g 1249 sv := (fS3 (z + 7) (off_nr (x := z) (a := 7) (by decide)) (off_ne (x := z) (a := 7) (b := 10) (by decide))).trans hsv
        have e22 : S3 (z + 8) = oI g 7494 hs := (fS3 (z + 8) (off_nr (x := z) (a := 8) (by decide)) (off_ne (x := z) (a := 8) (b := 10) (by decide))).trans hhs
        have e23 : S3 (z + 9) = oI g 3 nbs := (fS3 (z + 9) (off_nr (x := z) (a := 9) (by decide)) (off_ne (x := z) (a := 9) (b := 10) (by decide))).trans hnb
        exact hret (some (.int (iI (jf_4 k.toNat)))) _ S3 _ _ _ _ hw (⟨(by unfold aJoint; first | (rw [if_pos (show k.toNat + 1 < (rS rows c.toNat).length by omega), ← kS3_0 k.toNat (by omega)]) | (rw [if_neg (show ¬ (k.toNat + 1 < (rS rows c.toNat).length) by omega)])), rfl, ⟨_, _, _, _, _, _, _, _, _, _, _, _, _, hS3_0, e15, htx0, e16, e17, e18, e19, e20, e21, e22, e23, hS3_1, hS, hHi⟩, fun bb hbb  => (fS3 bb (by omega) (by omega))⟩) ⟨_, rfl, rfl, dX9_joint_38⟩
    · exfalso; omega

set_option maxHeartbeats 4000000 in
set_option maxRecDepth 100000 in
theorem c_M_itself_bad (l : Launch) (g : gG) {n : Nat} {S : Nat → gE} {z : Nat} {mAt mHC mRC mJC mCh mVi : Int} {stg hps nw js : Nat → Int} {rs : Nat → Int} {rows : rT} {hs sv : Nat → Int} {hist : List sT} {what how : Int} {tz : Nat} {tx txa rst rhp nbs : Nat → Int} (hz : S z = oO 9 [.ref (z + 1), .int (iI (tz : Int)), .int (iI mAt), .ref (z + 2), .ref (z + 3), .ref (z + 4), .ref (z + 5), .int (iI mHC), .int (iI mRC), .ref (z + 6), .ref (z + 7), .ref (z + 8), .int (iI (hist.length : Int)), .ref (z + 9), .ref (z + 10), .int (iI mJC), .int (iI mCh), .int (iI mVi)]) (htx : S (z + 1) = oI g 200 txa) (hst : S (z + 2) = oI g 5 stg) (hrst : S (z + 3) = oI g 5 rst) (hhp : S (z + 4) = oI g 24 hps) (hrhp : S (z + 5) = oI g 24 rhp) (hnw : S (z + 6) = oI g 1249 nw) (hsv : S (z + 7) = oI g 1249 sv) (hhs : S (z + 8) = oI g 7494 hs) (hnb : S (z + 9) = oI g 3 nbs) (hjs : S (z + 10) = oI g 60 js) (rtz : tz ≤ 200) (htx0 : ∀ i : Nat, i < tz → txa i = tx i) (hM : goodM mHC stg hps) (hR : goodR mHC.toNat (mLn hps) (mBr hps) rs rows) (hS : mS nw rs rows) (hHi : mHi hs hist) (hHg : goodH mHC.toNat (mLn hps) (mBr hps) hist) (r_how : -2147483648 ≤ how ∧ how < 2147483648) (r_what : -2147483648 ≤ what ∧ what < 2147483648) (hb : ¬ ((0 ≤ how ∧ how ≤ 1) ∧ (0 ≤ what ∧ what ≤ 2))) : g_Cs l yX9_itself wsX9_itself { frames := 1, cells := 0, slots := 0, locals := 22 } g [.ref z, .int (iI how), .int (iI what)] n S (fun vr n1 S1 => vr = some (.int (iI (-1))) ∧ n = n1 ∧ MI0 g S1 z tz tx mHC stg hps rs rows hist ∧ (∀ bb, (bb < z ∨ z + 11 ≤ bb) → S1 bb = S bb)) 0 0 := by
  refine g_Cs.of (cc := cX9_itself) (maxL := 7) (ret := (some .int)) (by decide) rfl (Nat.le_of_ble_eq_true rfl) ?_
  intro pp ee s m below meth cK Q H locs ls hc hnm hw hl hret
  have hl : lv_has ls 7 [(0, .ref z), (1, .int (iI how)), (2, .int (iI what))] := hl
  refine lv_iload_n hc.1 hc.2.1 dX9_itself_0 rfl (lv_at hl 1 rfl) ?_
  refine nn_iconst hc dX9_itself_1 ?_
  refine nn_iconst hc dX9_itself_2 ?_
  refine nn_Sp (As := [.int (iI how), .int (iI 0), .int (iI 1)]) (st := []) hc hw (c_X9_in l g   (by omega) (by omega) (by omega)) (va_cwS 3 hc.2.2.2.2 gX9_itself_X9_in rfl rfl rfl (by decide +kernel) ⟨Nat.le_of_ble_eq_true rfl, Nat.le_of_ble_eq_true rfl⟩) rfl hl.1 rfl (Nat.le_of_ble_eq_true rfl) ⟨Nat.le_of_ble_eq_true rfl, Nat.le_of_ble_eq_true rfl⟩ dX9_itself_3 ?_
  refine W.eq (g2 := F0 m 6 ls [.int (iI (if 0 ≤ how ∧ how ≤ 1 then 1 else 0))]) rfl ?_
  refine nn_if_eq hc dX9_itself_6 (tgt := 18) (by decide) (by omega) (fun c1 => ?_) (fun c1 => ?_)
  · refine nn_iconst hc dX9_itself_18 ?_
    exact hret (some (.int (iI (-1)))) _ S _ _ _ _ hw (⟨rfl, rfl, ⟨_, _, _, _, _, _, _, _, _, _, _, _, _, hz, htx, htx0, hst, hrst, hhp, hrhp, hnw, hsv, hhs, hnb, hjs, hS, hHi⟩, fun bb hbb  => rfl⟩) ⟨_, rfl, rfl, dX9_itself_19⟩
  · refine lv_iload_n hc.1 hc.2.1 dX9_itself_9 rfl (lv_at hl 2 rfl) ?_
    refine nn_iconst hc dX9_itself_10 ?_
    refine nn_iconst hc dX9_itself_11 ?_
    refine nn_Sp (As := [.int (iI what), .int (iI 0), .int (iI 2)]) (st := []) hc hw (c_X9_in l g   (by omega) (by omega) (by omega)) (va_cwS 3 hc.2.2.2.2 gX9_itself_X9_in rfl rfl rfl (by decide +kernel) ⟨Nat.le_of_ble_eq_true rfl, Nat.le_of_ble_eq_true rfl⟩) rfl hl.1 rfl (Nat.le_of_ble_eq_true rfl) ⟨Nat.le_of_ble_eq_true rfl, Nat.le_of_ble_eq_true rfl⟩ dX9_itself_12 ?_
    refine W.eq (g2 := F0 m 15 ls [.int (iI (if 0 ≤ what ∧ what ≤ 2 then 1 else 0))]) rfl ?_
    refine nn_if_ne hc dX9_itself_15 (tgt := 20) (by decide) (by omega) (fun c2 => ?_) (fun c2 => ?_)
    · exfalso; omega
    · refine nn_iconst hc dX9_itself_18 ?_
      exact hret (some (.int (iI (-1)))) _ S _ _ _ _ hw (⟨rfl, rfl, ⟨_, _, _, _, _, _, _, _, _, _, _, _, _, hz, htx, htx0, hst, hrst, hhp, hrhp, hnw, hsv, hhs, hnb, hjs, hS, hHi⟩, fun bb hbb  => rfl⟩) ⟨_, rfl, rfl, dX9_itself_19⟩

set_option maxHeartbeats 4000000 in
set_option maxRecDepth 100000 in
theorem c_M_itself_ok (l : Launch) (g : gG) {n : Nat} {S : Nat → gE} {z : Nat} {mAt mHC mRC mJC mCh mVi : Int} {stg hps nw js : Nat → Int} {rs : Nat → Int} {rows : rT} {hs sv : Nat → Int} {hist : List sT} {what how : Int} {tz : Nat} {tx txa rst rhp nbs : Nat → Int} (hz : S z = oO 9 [.ref (z + 1), .int (iI (tz : Int)), .int (iI mAt), .ref (z + 2), .ref (z + 3), .ref (z + 4), .ref (z + 5), .int (iI mHC), .int (iI mRC), .ref (z + 6), .ref (z + 7), .ref (z + 8), .int (iI (hist.length : Int)), .ref (z + 9), .ref (z + 10), .int (iI mJC), .int (iI mCh), .int (iI mVi)]) (htx : S (z + 1) = oI g 200 txa) (hst : S (z + 2) = oI g 5 stg) (hrst : S (z + 3) = oI g 5 rst) (hhp : S (z + 4) = oI g 24 hps) (hrhp : S (z + 5) = oI g 24 rhp) (hnw : S (z + 6) = oI g 1249 nw) (hsv : S (z + 7) = oI g 1249 sv) (hhs : S (z + 8) = oI g 7494 hs) (hnb : S (z + 9) = oI g 3 nbs) (hjs : S (z + 10) = oI g 60 js) (rtz : tz ≤ 200) (htx0 : ∀ i : Nat, i < tz → txa i = tx i) (hM : goodM mHC stg hps) (hR : goodR mHC.toNat (mLn hps) (mBr hps) rs rows) (hS : mS nw rs rows) (hHi : mHi hs hist) (hHg : goodH mHC.toNat (mLn hps) (mBr hps) hist) (hb : (0 ≤ how ∧ how ≤ 1) ∧ (0 ≤ what ∧ what ≤ 2)) : g_Cs l yX9_itself wsX9_itself { frames := 6, cells := 0, slots := 0, locals := 139 } g [.ref z, .int (iI how), .int (iI what)] n S (fun vr n1 S1 => vr = some (.int (iI (aIts (stg 0) (goR mHC.toNat (mLn hps) (mBr hps) (stg 0) (stg 2) (stg 1) (stg 4) (stg 3) how rs rows) what))) ∧ n = n1 ∧ MI0 g S1 z tz tx mHC stg hps rs rows hist ∧ (∀ bb, (bb < z ∨ z + 11 ≤ bb) → S1 bb = S bb)) 0 0 := by
  refine g_Cs.of (cc := cX9_itself) (maxL := 7) (ret := (some .int)) (by decide) rfl (Nat.le_of_ble_eq_true rfl) ?_
  intro pp ee s m below meth cK Q H locs ls hc hnm hw hl hret
  have hl : lv_has ls 7 [(0, .ref z), (1, .int (iI how)), (2, .int (iI what))] := hl
  have hiX9 : ∀ w ∈ u_ws RX9 TX9 18, w ∈ wsX9_itself := by decide +kernel
  have lk25 : Cond.fieldLink RX9 25 "RoofCoursesModel" "now" "[I" ∈ wsX9_itself := by decide +kernel
  have lk28 : Cond.fieldLink RX9 28 "RoofCoursesModel" "saved" "[I" ∈ wsX9_itself := by decide +kernel
  have hM0 := hM
  obtain ⟨m1, m2, m3, m4, m5, m6, m7, m8⟩ := hM
  have hRl := hR.1
  have h8 := hS.2.1
  have hdr := hd_r hR m6 (Nat.le_refl rows.length)
  have hrg := mS_rg hM0 hR hS
  have hHD := mS_hd hS (stg 2)
  have hbr2 : ∀ i : Nat, i < mHC.toNat → 1 ≤ mBr hps i ∧ mBr hps i ≤ 60 := fun i hi => by have := m2 i (by omega); omega
  have hbr1 : ∀ i : Nat, i < mHC.toNat → 1 ≤ mBr hps i := fun i hi => (hbr2 i hi).1
  have hln1 : ∀ i : Nat, i < mHC.toNat → 20 ≤ mLn hps i ∧ mLn hps i ≤ 60 := fun i hi => by have := m2 i (by omega); omega
  refine lv_iload_n hc.1 hc.2.1 dX9_itself_0 rfl (lv_at hl 1 rfl) ?_
  refine nn_iconst hc dX9_itself_1 ?_
  refine nn_iconst hc dX9_itself_2 ?_
  refine nn_Sp (As := [.int (iI how), .int (iI 0), .int (iI 1)]) (st := []) hc hw (c_X9_in l g   (by omega) (by omega) (by omega)) (va_cwS 3 hc.2.2.2.2 gX9_itself_X9_in rfl rfl rfl (by decide +kernel) ⟨Nat.le_of_ble_eq_true rfl, Nat.le_of_ble_eq_true rfl⟩) rfl hl.1 rfl (Nat.le_of_ble_eq_true rfl) ⟨Nat.le_of_ble_eq_true rfl, Nat.le_of_ble_eq_true rfl⟩ dX9_itself_3 ?_
  refine W.eq (g2 := F0 m 6 ls [.int (iI (if 0 ≤ how ∧ how ≤ 1 then 1 else 0))]) rfl ?_
  refine nn_if_eq hc dX9_itself_6 (tgt := 18) (by decide) (by omega) (fun c1 => ?_) (fun c1 => ?_)
  · exfalso; omega
  · refine lv_iload_n hc.1 hc.2.1 dX9_itself_9 rfl (lv_at hl 2 rfl) ?_
    refine nn_iconst hc dX9_itself_10 ?_
    refine nn_iconst hc dX9_itself_11 ?_
    refine nn_Sp (As := [.int (iI what), .int (iI 0), .int (iI 2)]) (st := []) hc hw (c_X9_in l g   (by omega) (by omega) (by omega)) (va_cwS 3 hc.2.2.2.2 gX9_itself_X9_in rfl rfl rfl (by decide +kernel) ⟨Nat.le_of_ble_eq_true rfl, Nat.le_of_ble_eq_true rfl⟩) rfl hl.1 rfl (Nat.le_of_ble_eq_true rfl) ⟨Nat.le_of_ble_eq_true rfl, Nat.le_of_ble_eq_true rfl⟩ dX9_itself_12 ?_
    refine W.eq (g2 := F0 m 15 ls [.int (iI (if 0 ≤ what ∧ what ≤ 2 then 1 else 0))]) rfl ?_
    refine nn_if_ne hc dX9_itself_15 (tgt := 20) (by decide) (by omega) (fun c2 => ?_) (fun c2 => ?_)
    · refine lv_aload_n hc.1 hc.2.1 dX9_itself_20 rfl (lv_at hl 0 rfl) ?_
      refine nn_get hc hw hz hiX9 rfl 9 (by decide) rfl lk25 dX9_itself_21 ?_
      refine nn_iconst hc dX9_itself_24 ?_
      refine lv_aload_n hc.1 hc.2.1 dX9_itself_25 rfl (lv_at hl 0 rfl) ?_
      refine nn_get hc hw hz hiX9 rfl 10 (by decide) rfl lk28 dX9_itself_26 ?_
      refine nn_iconst hc dX9_itself_29 ?_
      refine nn_Ss (As := [.ref (z + 6), .int (iI 0), .ref (z + 7), .int (iI 0)]) (st := []) hc hw (c_X9_copyState l g  hnw hsv (by omega) (by omega) (by omega) (by omega)) (va_cwS 4 hc.2.2.2.2 gX9_itself_X9_copyState rfl rfl rfl (by decide +kernel) ⟨Nat.le_of_ble_eq_true rfl, Nat.le_of_ble_eq_true rfl⟩) rfl hl.1 rfl (Nat.le_of_ble_eq_true rfl) ⟨Nat.le_of_ble_eq_true rfl, Nat.le_of_ble_eq_true rfl⟩ dX9_itself_30 (fun vr n1 S3 H locs qS3 hw => ?_)
      obtain ⟨rfl, rfl, hS3_0, fS3⟩ := qS3
      refine W.eq (g2 := F0 m 33 ls []) rfl ?_
      refine lv_aload_n hc.1 hc.2.1 dX9_itself_33 rfl (lv_at hl 0 rfl) ?_
      have e4 : S3 z = oO 9 [.ref (z + 1), .int (iI (tz : Int)), .int (iI mAt), .ref (z + 2), .ref (z + 3), .ref (z + 4), .ref (z + 5), .int (iI mHC), .int (iI mRC), .ref (z + 6), .ref (z + 7), .ref (z + 8), .int (iI (hist.length : Int)), .ref (z + 9), .ref (z + 10), .int (iI mJC), .int (iI mCh), .int (iI mVi)] := (fS3 z (off_nl (x := z) (a := 7) (by decide))).trans hz
      refine nn_get hc hw e4 hiX9 rfl 9 (by decide) rfl lk25 dX9_itself_34 ?_
      refine nn_bipush hc dX9_itself_37 (by decide +kernel) ?_
      have e5 : S3 (z + 6) = oI g 1249 nw := (fS3 (z + 6) (off_ne (x := z) (a := 6) (b := 7) (by decide))).trans hnw
      refine nn_iald hc hw e5 (by omega) (by omega) dX9_itself_39 ?_
      refine W.eq (g2 := F0 m 40 ls [.int (iI (nw 8))]) rfl ?_
      refine lv_istore_n (lv' := [(3, .int (iI (nw 8))), (0, .ref z), (1, .int (iI how)), (2, .int (iI what))]) hc.1 hc.2.1 dX9_itself_40 rfl hl (by decide) rfl (fun ls hl => ?_)
      refine nn_iconst hc dX9_itself_41 ?_
      refine lv_istore (lv' := [(4, .int (iI 0)), (3, .int (iI (nw 8))), (0, .ref z), (1, .int (iI how)), (2, .int (iI what))]) hc.1 hc.2.1 dX9_itself_42 hl (by decide) rfl (fun ls hl => ?_)
      refine lv_aload_n hc.1 hc.2.1 dX9_itself_44 rfl (lv_at hl 2 rfl) ?_
      refine lv_iload_n hc.1 hc.2.1 dX9_itself_45 rfl (lv_at hl 3 rfl) ?_
      have e6 : S3 (z + 2) = oI g 5 stg := (fS3 (z + 2) (off_ne (x := z) (a := 2) (b := 7) (by decide))).trans hst
      have e7 : S3 (z + 4) = oI g 24 hps := (fS3 (z + 4) (off_ne (x := z) (a := 4) (b := 7) (by decide))).trans hhp
      have e8 : S3 (z + 10) = oI g 60 js := (fS3 (z + 10) (off_ne (x := z) (a := 10) (b := 7) (by decide))).trans hjs
      refine nn_Vs (As := [.int (iI how)]) (st := []) hc hw e4 rfl (c_X9_nextLength l g  e4 e6 e7 e5 e8 (hM0) (hR) (hS) (by omega)) (cwV 1 hc.2.2.2.2 gX9_itself_X9_nextLength rfl rfl rfl (by decide +kernel) ⟨Nat.le_of_ble_eq_true rfl, Nat.le_of_ble_eq_true rfl⟩) rfl hl.1 rfl (Nat.le_of_ble_eq_true rfl) ⟨Nat.le_of_ble_eq_true rfl, Nat.le_of_ble_eq_true rfl⟩ dX9_itself_46 (fun vr n1 S9 H locs qS9 hw => ?_)
      obtain ⟨jf9_10, kw9_11, jc9_12, ch9_13, vi9_14, rfl, rfl, hS9_0, hS9_1, hS9_2, kS9_0, fS9⟩ := qS9
      refine W.eq (g2 := F0 m 49 ls [.int (iI (nxR mHC.toNat (mLn hps) (mBr hps) (stg 0) (stg 2) (stg 1) (stg 4) (stg 3) how rs rows))]) rfl ?_
      refine nn_name (fun xn exn => ?_)
      refine lv_istore (lv' := [(5, .int (iI xn)), (4, .int (iI 0)), (3, .int (iI (nw 8))), (0, .ref z), (1, .int (iI how)), (2, .int (iI what))]) hc.1 hc.2.1 dX9_itself_49 hl (by decide) rfl (fun ls hl => ?_)
      have lab51 : ∀ (fu51 : Nat) (w : Int) (l9 : Int) (kw : Nat → Int) (jf : Nat → Int) (jc : Int) (ch : Int) (vi : Int) (r1 : Nat → Int) (rw1 : rT) (S15 : Nat → gE) (H : Heap) (locs : List Loc) (ls : Array Slot), (goodR mHC.toNat (mLn hps) (mBr hps) r1 rw1) → (mS kw r1 rw1) → (l9 = nxR mHC.toNat (mLn hps) (mBr hps) (stg 0) (stg 2) (stg 1) (stg 4) (stg 3) how r1 rw1) → (goR mHC.toNat (mLn hps) (mBr hps) (stg 0) (stg 2) (stg 1) (stg 4) (stg 3) how rs rows = ((goR mHC.toNat (mLn hps) (mBr hps) (stg 0) (stg 2) (stg 1) (stg 4) (stg 3) how r1 rw1).1 + (rw1.length - rows.length), (goR mHC.toNat (mLn hps) (mBr hps) (stg 0) (stg 2) (stg 1) (stg 4) (stg 3) how r1 rw1).2.1 + w, (goR mHC.toNat (mLn hps) (mBr hps) (stg 0) (stg 2) (stg 1) (stg 4) (stg 3) how r1 rw1).2.2)) → S15 z = oO 9 [.ref (z + 1), .int (iI (tz : Int)), .int (iI mAt), .ref (z + 2), .ref (z + 3), .ref (z + 4), .ref (z + 5), .int (iI mHC), .int (iI mRC), .ref (z + 6), .ref (z + 7), .ref (z + 8), .int (iI (hist.length : Int)), .ref (z + 9), .ref (z + 10), .int (iI jc), .int (iI ch), .int (iI vi)] → S15 (z + 6) = oI g 1249 kw → S15 (z + 10) = oI g 60 jf → (∀ bb, bb ≠ z → bb ≠ (z + 6) → bb ≠ (z + 10) → S15 bb = S9 bb) → g_W g n S15 s H locs → 20 - rw1.length < fu51 → lv_has ls 7 [(4, .int (iI w)), (5, .int (iI l9)), (0, .ref z), (1, .int (iI how)), (2, .int (iI what)), (3, .int (iI (nw 8)))] → W pp l ee ({ frames := 6, cells := 0, slots := 0, locals := 139 } : Room) s m ([.ref z, .int (iI how), .int (iI what)] : List Value).toArray below meth cK H locs 0 0 Q (F0 m 51 ls []) := by
        intro fu51
        induction fu51 with
        | zero =>
          intro w l9 kw jf jc ch vi r1 rw1 S15 H locs ls hR1 hS1 hl9 hgo hc51_0 hc51_1 hc51_2 fr51 hw hmeas hl
          exact absurd hmeas (Nat.not_lt_zero _)
        | succ fu51 ih51 =>
          intro w l9 kw jf jc ch vi r1 rw1 S15 H locs ls hR1 hS1 hl9 hgo hc51_0 hc51_1 hc51_2 fr51 hw hmeas hl
          have hR1l := hR1.1
          have hlr := nxR_r (br := mBr hps) (hi := stg 0) (lp := stg 2) (wi := stg 1) (hp := stg 4) (bk := stg 3) (how := how) (rs := r1) (rows := rw1) hln1
          rw [← hl9] at hlr
          refine lv_iload hc.1 hc.2.1 dX9_itself_51 (lv_at hl 1 rfl) ?_
          refine nn_bipush hc dX9_itself_53 (by decide +kernel) ?_
          refine nn_icmp_eq hc dX9_itself_55 (tgt := 94) (by decide) (by omega) (by decide) (fun c16 => ?_) (fun c16 => ?_)
          · have hnn := nxR_none (show nxR mHC.toNat (mLn hps) (mBr hps) (stg 0) (stg 2) (stg 1) (stg 4) (stg 3) how r1 rw1 = -4 by rw [← hl9]; omega)
            have h81 := hS1.2.1
            have hrg1 := mS_rg hM0 hR1 hS1
            have hHD1 := mS_hd hS1 (stg 2)
            have hdr1 := hd_r hR1 m6 (Nat.le_refl rw1.length)
            have hz0 : rw1.length = 0 → hdR (stg 2) rw1 rw1.length = 0 := fun q9 => by rw [q9]; rfl
            refine lv_iload_n hc.1 hc.2.1 dX9_itself_94 rfl (lv_at hl 4 rfl) ?_
            refine nn_if_ne hc dX9_itself_95 (tgt := 110) (by decide) (by omega) (fun c17 => ?_) (fun c17 => ?_)
            · refine lv_iload_n hc.1 hc.2.1 dX9_itself_110 rfl (lv_at hl 4 rfl) ?_
              refine nn_iconst hc dX9_itself_111 ?_
              refine nn_icmp_ne hc dX9_itself_112 (tgt := 120) (by decide) (by omega) (by decide) (fun c18 => ?_) (fun c18 => ?_)
              · refine lv_aload_n hc.1 hc.2.1 dX9_itself_120 rfl (lv_at hl 2 rfl) ?_
                have e19 : S3 (z + 2) = oI g 5 stg := (fS3 (z + 2) (off_ne (x := z) (a := 2) (b := 7) (by decide))).trans hst
                have e20 : S9 (z + 2) = oI g 5 stg := (fS9 (z + 2) (off_nr (x := z) (a := 2) (by decide)) (off_ne (x := z) (a := 2) (b := 6) (by decide)) (off_ne (x := z) (a := 2) (b := 10) (by decide))).trans e19
                have e21 : S15 (z + 2) = oI g 5 stg := (fr51 (z + 2) (off_nr (x := z) (a := 2) (by decide)) (off_ne (x := z) (a := 2) (b := 6) (by decide)) (off_ne (x := z) (a := 2) (b := 10) (by decide))).trans e20
                refine nn_Vp (As := []) (st := []) hc hw hc51_0 rfl (c_X9_isReady l g  hc51_0 e21 hc51_1 (by omega) (hrg1) (by rw [hHD1]; omega)) (cwV 0 hc.2.2.2.2 gX9_itself_X9_isReady rfl rfl rfl (by decide +kernel) ⟨Nat.le_of_ble_eq_true rfl, Nat.le_of_ble_eq_true rfl⟩) rfl hl.1 rfl (Nat.le_of_ble_eq_true rfl) ⟨Nat.le_of_ble_eq_true rfl, Nat.le_of_ble_eq_true rfl⟩ dX9_itself_121 ?_
                refine W.eq (g2 := F0 m 124 ls [.int (iI (if 0 < kw 8 ∧ stg 0 ≤ sumI (fun k => (kw (9 + 62 * k) - stg 2) / 2) (kw 8).toNat then 1 else 0))]) rfl ?_
                refine nn_if_eq hc dX9_itself_124 (tgt := 131) (by decide) (by split <;> decide) (fun c22 => ?_) (fun c22 => ?_)
                · refine nn_iconst hc dX9_itself_131 ?_
                  refine nn_name (fun xa exa => ?_)
                  refine lv_istore (lv' := [(6, .int (iI xa)), (4, .int (iI w)), (5, .int (iI l9)), (0, .ref z), (1, .int (iI how)), (2, .int (iI what)), (3, .int (iI (nw 8)))]) hc.1 hc.2.1 dX9_itself_132 hl (by decide) rfl (fun ls hl => ?_)
                  have hans : xa = aIts (stg 0) (goR mHC.toNat (mLn hps) (mBr hps) (stg 0) (stg 2) (stg 1) (stg 4) (stg 3) how rs rows) what := by rw [hgo, hnn]; unfold aIts; dsimp only; by_cases q0 : what = 0; (rw [if_pos q0]; omega); (rw [if_neg q0]; by_cases q1 : what = 1; (rw [if_pos q1]; omega); (rw [if_neg q1]; split <;> omega))
                  refine lv_aload_n hc.1 hc.2.1 dX9_itself_134 rfl (lv_at hl 3 rfl) ?_
                  refine nn_get hc hw hc51_0 hiX9 rfl 10 (by decide) rfl lk28 dX9_itself_135 ?_
                  refine nn_iconst hc dX9_itself_138 ?_
                  refine lv_aload_n hc.1 hc.2.1 dX9_itself_139 rfl (lv_at hl 3 rfl) ?_
                  refine nn_get hc hw hc51_0 hiX9 rfl 9 (by decide) rfl lk25 dX9_itself_140 ?_
                  refine nn_iconst hc dX9_itself_143 ?_
                  have e23 : S9 (z + 7) = oI g 1249 (cpS nw (0 : Int).toNat sv (0 : Int).toNat 1249) := (fS9 (z + 7) (off_nr (x := z) (a := 7) (by decide)) (off_ne (x := z) (a := 7) (b := 6) (by decide)) (off_ne (x := z) (a := 7) (b := 10) (by decide))).trans hS3_0
                  have e24 : S15 (z + 7) = oI g 1249 (cpS nw (0 : Int).toNat sv (0 : Int).toNat 1249) := (fr51 (z + 7) (off_nr (x := z) (a := 7) (by decide)) (off_ne (x := z) (a := 7) (b := 6) (by decide)) (off_ne (x := z) (a := 7) (b := 10) (by decide))).trans e23
                  refine nn_Ss (As := [.ref (z + 7), .int (iI 0), .ref (z + 6), .int (iI 0)]) (st := []) hc hw (c_X9_copyState l g  e24 hc51_1 (by omega) (by omega) (by omega) (by omega)) (va_cwS 4 hc.2.2.2.2 gX9_itself_X9_copyState rfl rfl rfl (by decide +kernel) ⟨Nat.le_of_ble_eq_true rfl, Nat.le_of_ble_eq_true rfl⟩) rfl hl.1 rfl (Nat.le_of_ble_eq_true rfl) ⟨Nat.le_of_ble_eq_true rfl, Nat.le_of_ble_eq_true rfl⟩ dX9_itself_144 (fun vr n1 S25 H locs qS25 hw => ?_)
                  obtain ⟨rfl, rfl, hS25_0, fS25⟩ := qS25
                  refine W.eq (g2 := F0 m 147 ls []) rfl ?_
                  have hS7 : mS ((cpS (cpS nw (0 : Int).toNat sv (0 : Int).toNat 1249) (0 : Int).toNat kw (0 : Int).toNat 1249)) rs rows := mS_copy hS hR.lens (fun i hi => by unfold cpS; rw [show (0 : Int).toNat = 0 from rfl, if_pos (by omega), if_pos (by omega)]; congr 1; omega)
                  refine lv_iload hc.1 hc.2.1 dX9_itself_147 (lv_at hl 0 rfl) ?_
                  have e26 : S25 z = oO 9 [.ref (z + 1), .int (iI (tz : Int)), .int (iI mAt), .ref (z + 2), .ref (z + 3), .ref (z + 4), .ref (z + 5), .int (iI mHC), .int (iI mRC), .ref (z + 6), .ref (z + 7), .ref (z + 8), .int (iI (hist.length : Int)), .ref (z + 9), .ref (z + 10), .int (iI jc), .int (iI ch), .int (iI vi)] := (fS25 z (off_nl (x := z) (a := 6) (by decide))).trans hc51_0
                  have e27 : S3 (z + 1) = oI g 200 txa := (fS3 (z + 1) (off_ne (x := z) (a := 1) (b := 7) (by decide))).trans htx
                  have e28 : S9 (z + 1) = oI g 200 txa := (fS9 (z + 1) (off_nr (x := z) (a := 1) (by decide)) (off_ne (x := z) (a := 1) (b := 6) (by decide)) (off_ne (x := z) (a := 1) (b := 10) (by decide))).trans e27
                  have e29 : S15 (z + 1) = oI g 200 txa := (fr51 (z + 1) (off_nr (x := z) (a := 1) (by decide)) (off_ne (x := z) (a := 1) (b := 6) (by decide)) (off_ne (x := z) (a := 1) (b := 10) (by decide))).trans e28
                  have e30 : S25 (z + 1) = oI g 200 txa := (fS25 (z + 1) (off_ne (x := z) (a := 1) (b := 6) (by decide))).trans e29
                  have e31 : S25 (z + 2) = oI g 5 stg := (fS25 (z + 2) (off_ne (x := z) (a := 2) (b := 6) (by decide))).trans e21
                  have e32 : S3 (z + 3) = oI g 5 rst := (fS3 (z + 3) (off_ne (x := z) (a := 3) (b := 7) (by decide))).trans hrst
                  have e33 : S9 (z + 3) = oI g 5 rst := (fS9 (z + 3) (off_nr (x := z) (a := 3) (by decide)) (off_ne (x := z) (a := 3) (b := 6) (by decide)) (off_ne (x := z) (a := 3) (b := 10) (by decide))).trans e32
                  have e34 : S15 (z + 3) = oI g 5 rst := (fr51 (z + 3) (off_nr (x := z) (a := 3) (by decide)) (off_ne (x := z) (a := 3) (b := 6) (by decide)) (off_ne (x := z) (a := 3) (b := 10) (by decide))).trans e33
                  have e35 : S25 (z + 3) = oI g 5 rst := (fS25 (z + 3) (off_ne (x := z) (a := 3) (b := 6) (by decide))).trans e34
                  have e36 : S3 (z + 4) = oI g 24 hps := (fS3 (z + 4) (off_ne (x := z) (a := 4) (b := 7) (by decide))).trans hhp
                  have e37 : S9 (z + 4) = oI g 24 hps := (fS9 (z + 4) (off_nr (x := z) (a := 4) (by decide)) (off_ne (x := z) (a := 4) (b := 6) (by decide)) (off_ne (x := z) (a := 4) (b := 10) (by decide))).trans e36
                  have e38 : S15 (z + 4) = oI g 24 hps := (fr51 (z + 4) (off_nr (x := z) (a := 4) (by decide)) (off_ne (x := z) (a := 4) (b := 6) (by decide)) (off_ne (x := z) (a := 4) (b := 10) (by decide))).trans e37
                  have e39 : S25 (z + 4) = oI g 24 hps := (fS25 (z + 4) (off_ne (x := z) (a := 4) (b := 6) (by decide))).trans e38
                  have e40 : S3 (z + 5) = oI g 24 rhp := (fS3 (z + 5) (off_ne (x := z) (a := 5) (b := 7) (by decide))).trans hrhp
                  have e41 : S9 (z + 5) = oI g 24 rhp := (fS9 (z + 5) (off_nr (x := z) (a := 5) (by decide)) (off_ne (x := z) (a := 5) (b := 6) (by decide)) (off_ne (x := z) (a := 5) (b := 10) (by decide))).trans e40
                  have e42 : S15 (z + 5) = oI g 24 rhp := (fr51 (z + 5) (off_nr (x := z) (a := 5) (by decide)) (off_ne (x := z) (a := 5) (b := 6) (by decide)) (off_ne (x := z) (a := 5) (b := 10) (by decide))).trans e41
                  have e43 : S25 (z + 5) = oI g 24 rhp := (fS25 (z + 5) (off_ne (x := z) (a := 5) (b := 6) (by decide))).trans e42
                  have e44 : S25 (z + 7) = oI g 1249 (cpS nw (0 : Int).toNat sv (0 : Int).toNat 1249) := (fS25 (z + 7) (off_ne (x := z) (a := 7) (b := 6) (by decide))).trans e24
                  have e45 : S3 (z + 8) = oI g 7494 hs := (fS3 (z + 8) (off_ne (x := z) (a := 8) (b := 7) (by decide))).trans hhs
                  have e46 : S9 (z + 8) = oI g 7494 hs := (fS9 (z + 8) (off_nr (x := z) (a := 8) (by decide)) (off_ne (x := z) (a := 8) (b := 6) (by decide)) (off_ne (x := z) (a := 8) (b := 10) (by decide))).trans e45
                  have e47 : S15 (z + 8) = oI g 7494 hs := (fr51 (z + 8) (off_nr (x := z) (a := 8) (by decide)) (off_ne (x := z) (a := 8) (b := 6) (by decide)) (off_ne (x := z) (a := 8) (b := 10) (by decide))).trans e46
                  have e48 : S25 (z + 8) = oI g 7494 hs := (fS25 (z + 8) (off_ne (x := z) (a := 8) (b := 6) (by decide))).trans e47
                  have e49 : S3 (z + 9) = oI g 3 nbs := (fS3 (z + 9) (off_ne (x := z) (a := 9) (b := 7) (by decide))).trans hnb
                  have e50 : S9 (z + 9) = oI g 3 nbs := (fS9 (z + 9) (off_nr (x := z) (a := 9) (by decide)) (off_ne (x := z) (a := 9) (b := 6) (by decide)) (off_ne (x := z) (a := 9) (b := 10) (by decide))).trans e49
                  have e51 : S15 (z + 9) = oI g 3 nbs := (fr51 (z + 9) (off_nr (x := z) (a := 9) (by decide)) (off_ne (x := z) (a := 9) (b := 6) (by decide)) (off_ne (x := z) (a := 9) (b := 10) (by decide))).trans e50
                  have e52 : S25 (z + 9) = oI g 3 nbs := (fS25 (z + 9) (off_ne (x := z) (a := 9) (b := 6) (by decide))).trans e51
                  have e53 : S25 (z + 10) = oI g 60 jf := (fS25 (z + 10) (off_ne (x := z) (a := 10) (b := 6) (by decide))).trans hc51_2
                  exact hret (some (.int (iI xa))) _ S25 _ _ _ _ hw (⟨(by rw [hans]), rfl, ⟨_, _, _, _, _, _, _, _, _, _, _, _, _, e26, e30, htx0, e31, e35, e39, e43, hS25_0, e44, e48, e52, e53, hS7, hHi⟩, fun bb hbb  => ((((fS25 bb (by omega))).trans (fr51 bb (by omega) (by omega) (by omega))).trans (fS9 bb (by omega) (by omega) (by omega))).trans (fS3 bb (by omega))⟩) ⟨_, rfl, rfl, dX9_itself_149⟩
                · refine nn_iconst hc dX9_itself_127 ?_
                  refine lv_goto hc.1 hc.2.1 dX9_itself_128 (tgt := 132) (by decide) ?_
                  refine nn_name (fun xa exa => ?_)
                  refine lv_istore (lv' := [(6, .int (iI xa)), (4, .int (iI w)), (5, .int (iI l9)), (0, .ref z), (1, .int (iI how)), (2, .int (iI what)), (3, .int (iI (nw 8)))]) hc.1 hc.2.1 dX9_itself_132 hl (by decide) rfl (fun ls hl => ?_)
                  have hans : xa = aIts (stg 0) (goR mHC.toNat (mLn hps) (mBr hps) (stg 0) (stg 2) (stg 1) (stg 4) (stg 3) how rs rows) what := by rw [hgo, hnn]; unfold aIts; dsimp only; by_cases q0 : what = 0; (rw [if_pos q0]; omega); (rw [if_neg q0]; by_cases q1 : what = 1; (rw [if_pos q1]; omega); (rw [if_neg q1]; split <;> omega))
                  refine lv_aload_n hc.1 hc.2.1 dX9_itself_134 rfl (lv_at hl 3 rfl) ?_
                  refine nn_get hc hw hc51_0 hiX9 rfl 10 (by decide) rfl lk28 dX9_itself_135 ?_
                  refine nn_iconst hc dX9_itself_138 ?_
                  refine lv_aload_n hc.1 hc.2.1 dX9_itself_139 rfl (lv_at hl 3 rfl) ?_
                  refine nn_get hc hw hc51_0 hiX9 rfl 9 (by decide) rfl lk25 dX9_itself_140 ?_
                  refine nn_iconst hc dX9_itself_143 ?_
                  have e54 : S9 (z + 7) = oI g 1249 (cpS nw (0 : Int).toNat sv (0 : Int).toNat 1249) := (fS9 (z + 7) (off_nr (x := z) (a := 7) (by decide)) (off_ne (x := z) (a := 7) (b := 6) (by decide)) (off_ne (x := z) (a := 7) (b := 10) (by decide))).trans hS3_0
                  have e55 : S15 (z + 7) = oI g 1249 (cpS nw (0 : Int).toNat sv (0 : Int).toNat 1249) := (fr51 (z + 7) (off_nr (x := z) (a := 7) (by decide)) (off_ne (x := z) (a := 7) (b := 6) (by decide)) (off_ne (x := z) (a := 7) (b := 10) (by decide))).trans e54
                  refine nn_Ss (As := [.ref (z + 7), .int (iI 0), .ref (z + 6), .int (iI 0)]) (st := []) hc hw (c_X9_copyState l g  e55 hc51_1 (by omega) (by omega) (by omega) (by omega)) (va_cwS 4 hc.2.2.2.2 gX9_itself_X9_copyState rfl rfl rfl (by decide +kernel) ⟨Nat.le_of_ble_eq_true rfl, Nat.le_of_ble_eq_true rfl⟩) rfl hl.1 rfl (Nat.le_of_ble_eq_true rfl) ⟨Nat.le_of_ble_eq_true rfl, Nat.le_of_ble_eq_true rfl⟩ dX9_itself_144 (fun vr n1 S56 H locs qS56 hw => ?_)
                  obtain ⟨rfl, rfl, hS56_0, fS56⟩ := qS56
                  refine W.eq (g2 := F0 m 147 ls []) rfl ?_
                  have hS7 : mS ((cpS (cpS nw (0 : Int).toNat sv (0 : Int).toNat 1249) (0 : Int).toNat kw (0 : Int).toNat 1249)) rs rows := mS_copy hS hR.lens (fun i hi => by unfold cpS; rw [show (0 : Int).toNat = 0 from rfl, if_pos (by omega), if_pos (by omega)]; congr 1; omega)
                  refine lv_iload hc.1 hc.2.1 dX9_itself_147 (lv_at hl 0 rfl) ?_
                  have e57 : S56 z = oO 9 [.ref (z + 1), .int (iI (tz : Int)), .int (iI mAt), .ref (z + 2), .ref (z + 3), .ref (z + 4), .ref (z + 5), .int (iI mHC), .int (iI mRC), .ref (z + 6), .ref (z + 7), .ref (z + 8), .int (iI (hist.length : Int)), .ref (z + 9), .ref (z + 10), .int (iI jc), .int (iI ch), .int (iI vi)] := (fS56 z (off_nl (x := z) (a := 6) (by decide))).trans hc51_0
                  have e58 : S3 (z + 1) = oI g 200 txa := (fS3 (z + 1) (off_ne (x := z) (a := 1) (b := 7) (by decide))).trans htx
                  have e59 : S9 (z + 1) = oI g 200 txa := (fS9 (z + 1) (off_nr (x := z) (a := 1) (by decide)) (off_ne (x := z) (a := 1) (b := 6) (by decide)) (off_ne (x := z) (a := 1) (b := 10) (by decide))).trans e58
                  have e60 : S15 (z + 1) = oI g 200 txa := (fr51 (z + 1) (off_nr (x := z) (a := 1) (by decide)) (off_ne (x := z) (a := 1) (b := 6) (by decide)) (off_ne (x := z) (a := 1) (b := 10) (by decide))).trans e59
                  have e61 : S56 (z + 1) = oI g 200 txa := (fS56 (z + 1) (off_ne (x := z) (a := 1) (b := 6) (by decide))).trans e60
                  have e62 : S56 (z + 2) = oI g 5 stg := (fS56 (z + 2) (off_ne (x := z) (a := 2) (b := 6) (by decide))).trans e21
                  have e63 : S3 (z + 3) = oI g 5 rst := (fS3 (z + 3) (off_ne (x := z) (a := 3) (b := 7) (by decide))).trans hrst
                  have e64 : S9 (z + 3) = oI g 5 rst := (fS9 (z + 3) (off_nr (x := z) (a := 3) (by decide)) (off_ne (x := z) (a := 3) (b := 6) (by decide)) (off_ne (x := z) (a := 3) (b := 10) (by decide))).trans e63
                  have e65 : S15 (z + 3) = oI g 5 rst := (fr51 (z + 3) (off_nr (x := z) (a := 3) (by decide)) (off_ne (x := z) (a := 3) (b := 6) (by decide)) (off_ne (x := z) (a := 3) (b := 10) (by decide))).trans e64
                  have e66 : S56 (z + 3) = oI g 5 rst := (fS56 (z + 3) (off_ne (x := z) (a := 3) (b := 6) (by decide))).trans e65
                  have e67 : S3 (z + 4) = oI g 24 hps := (fS3 (z + 4) (off_ne (x := z) (a := 4) (b := 7) (by decide))).trans hhp
                  have e68 : S9 (z + 4) = oI g 24 hps := (fS9 (z + 4) (off_nr (x := z) (a := 4) (by decide)) (off_ne (x := z) (a := 4) (b := 6) (by decide)) (off_ne (x := z) (a := 4) (b := 10) (by decide))).trans e67
                  have e69 : S15 (z + 4) = oI g 24 hps := (fr51 (z + 4) (off_nr (x := z) (a := 4) (by decide)) (off_ne (x := z) (a := 4) (b := 6) (by decide)) (off_ne (x := z) (a := 4) (b := 10) (by decide))).trans e68
                  have e70 : S56 (z + 4) = oI g 24 hps := (fS56 (z + 4) (off_ne (x := z) (a := 4) (b := 6) (by decide))).trans e69
                  have e71 : S3 (z + 5) = oI g 24 rhp := (fS3 (z + 5) (off_ne (x := z) (a := 5) (b := 7) (by decide))).trans hrhp
                  have e72 : S9 (z + 5) = oI g 24 rhp := (fS9 (z + 5) (off_nr (x := z) (a := 5) (by decide)) (off_ne (x := z) (a := 5) (b := 6) (by decide)) (off_ne (x := z) (a := 5) (b := 10) (by decide))).trans e71
                  have e73 : S15 (z + 5) = oI g 24 rhp := (fr51 (z + 5) (off_nr (x := z) (a := 5) (by decide)) (off_ne (x := z) (a := 5) (b := 6) (by decide)) (off_ne (x := z) (a := 5) (b := 10) (by decide))).trans e72
                  have e74 : S56 (z + 5) = oI g 24 rhp := (fS56 (z + 5) (off_ne (x := z) (a := 5) (b := 6) (by decide))).trans e73
                  have e75 : S56 (z + 7) = oI g 1249 (cpS nw (0 : Int).toNat sv (0 : Int).toNat 1249) := (fS56 (z + 7) (off_ne (x := z) (a := 7) (b := 6) (by decide))).trans e55
                  have e76 : S3 (z + 8) = oI g 7494 hs := (fS3 (z + 8) (off_ne (x := z) (a := 8) (b := 7) (by decide))).trans hhs
                  have e77 : S9 (z + 8) = oI g 7494 hs := (fS9 (z + 8) (off_nr (x := z) (a := 8) (by decide)) (off_ne (x := z) (a := 8) (b := 6) (by decide)) (off_ne (x := z) (a := 8) (b := 10) (by decide))).trans e76
                  have e78 : S15 (z + 8) = oI g 7494 hs := (fr51 (z + 8) (off_nr (x := z) (a := 8) (by decide)) (off_ne (x := z) (a := 8) (b := 6) (by decide)) (off_ne (x := z) (a := 8) (b := 10) (by decide))).trans e77
                  have e79 : S56 (z + 8) = oI g 7494 hs := (fS56 (z + 8) (off_ne (x := z) (a := 8) (b := 6) (by decide))).trans e78
                  have e80 : S3 (z + 9) = oI g 3 nbs := (fS3 (z + 9) (off_ne (x := z) (a := 9) (b := 7) (by decide))).trans hnb
                  have e81 : S9 (z + 9) = oI g 3 nbs := (fS9 (z + 9) (off_nr (x := z) (a := 9) (by decide)) (off_ne (x := z) (a := 9) (b := 6) (by decide)) (off_ne (x := z) (a := 9) (b := 10) (by decide))).trans e80
                  have e82 : S15 (z + 9) = oI g 3 nbs := (fr51 (z + 9) (off_nr (x := z) (a := 9) (by decide)) (off_ne (x := z) (a := 9) (b := 6) (by decide)) (off_ne (x := z) (a := 9) (b := 10) (by decide))).trans e81
                  have e83 : S56 (z + 9) = oI g 3 nbs := (fS56 (z + 9) (off_ne (x := z) (a := 9) (b := 6) (by decide))).trans e82
                  have e84 : S56 (z + 10) = oI g 60 jf := (fS56 (z + 10) (off_ne (x := z) (a := 10) (b := 6) (by decide))).trans hc51_2
                  exact hret (some (.int (iI xa))) _ S56 _ _ _ _ hw (⟨(by rw [hans]), rfl, ⟨_, _, _, _, _, _, _, _, _, _, _, _, _, e57, e61, htx0, e62, e66, e70, e74, hS56_0, e75, e79, e83, e84, hS7, hHi⟩, fun bb hbb  => ((((fS56 bb (by omega))).trans (fr51 bb (by omega) (by omega) (by omega))).trans (fS9 bb (by omega) (by omega) (by omega))).trans (fS3 bb (by omega))⟩) ⟨_, rfl, rfl, dX9_itself_149⟩
              · refine lv_iload hc.1 hc.2.1 dX9_itself_115 (lv_at hl 0 rfl) ?_
                refine lv_goto hc.1 hc.2.1 dX9_itself_117 (tgt := 132) (by decide) ?_
                refine nn_name (fun xa exa => ?_)
                refine lv_istore (lv' := [(6, .int (iI xa)), (4, .int (iI w)), (5, .int (iI l9)), (0, .ref z), (1, .int (iI how)), (2, .int (iI what)), (3, .int (iI (nw 8)))]) hc.1 hc.2.1 dX9_itself_132 hl (by decide) rfl (fun ls hl => ?_)
                have hans : xa = aIts (stg 0) (goR mHC.toNat (mLn hps) (mBr hps) (stg 0) (stg 2) (stg 1) (stg 4) (stg 3) how rs rows) what := by rw [hgo, hnn]; unfold aIts; dsimp only; by_cases q0 : what = 0; (rw [if_pos q0]; omega); (rw [if_neg q0]; by_cases q1 : what = 1; (rw [if_pos q1]; omega); (rw [if_neg q1]; split <;> omega))
                refine lv_aload_n hc.1 hc.2.1 dX9_itself_134 rfl (lv_at hl 3 rfl) ?_
                refine nn_get hc hw hc51_0 hiX9 rfl 10 (by decide) rfl lk28 dX9_itself_135 ?_
                refine nn_iconst hc dX9_itself_138 ?_
                refine lv_aload_n hc.1 hc.2.1 dX9_itself_139 rfl (lv_at hl 3 rfl) ?_
                refine nn_get hc hw hc51_0 hiX9 rfl 9 (by decide) rfl lk25 dX9_itself_140 ?_
                refine nn_iconst hc dX9_itself_143 ?_
                have e85 : S9 (z + 7) = oI g 1249 (cpS nw (0 : Int).toNat sv (0 : Int).toNat 1249) := (fS9 (z + 7) (off_nr (x := z) (a := 7) (by decide)) (off_ne (x := z) (a := 7) (b := 6) (by decide)) (off_ne (x := z) (a := 7) (b := 10) (by decide))).trans hS3_0
                have e86 : S15 (z + 7) = oI g 1249 (cpS nw (0 : Int).toNat sv (0 : Int).toNat 1249) := (fr51 (z + 7) (off_nr (x := z) (a := 7) (by decide)) (off_ne (x := z) (a := 7) (b := 6) (by decide)) (off_ne (x := z) (a := 7) (b := 10) (by decide))).trans e85
                refine nn_Ss (As := [.ref (z + 7), .int (iI 0), .ref (z + 6), .int (iI 0)]) (st := []) hc hw (c_X9_copyState l g  e86 hc51_1 (by omega) (by omega) (by omega) (by omega)) (va_cwS 4 hc.2.2.2.2 gX9_itself_X9_copyState rfl rfl rfl (by decide +kernel) ⟨Nat.le_of_ble_eq_true rfl, Nat.le_of_ble_eq_true rfl⟩) rfl hl.1 rfl (Nat.le_of_ble_eq_true rfl) ⟨Nat.le_of_ble_eq_true rfl, Nat.le_of_ble_eq_true rfl⟩ dX9_itself_144 (fun vr n1 S87 H locs qS87 hw => ?_)
                obtain ⟨rfl, rfl, hS87_0, fS87⟩ := qS87
                refine W.eq (g2 := F0 m 147 ls []) rfl ?_
                have hS7 : mS ((cpS (cpS nw (0 : Int).toNat sv (0 : Int).toNat 1249) (0 : Int).toNat kw (0 : Int).toNat 1249)) rs rows := mS_copy hS hR.lens (fun i hi => by unfold cpS; rw [show (0 : Int).toNat = 0 from rfl, if_pos (by omega), if_pos (by omega)]; congr 1; omega)
                refine lv_iload hc.1 hc.2.1 dX9_itself_147 (lv_at hl 0 rfl) ?_
                have e88 : S87 z = oO 9 [.ref (z + 1), .int (iI (tz : Int)), .int (iI mAt), .ref (z + 2), .ref (z + 3), .ref (z + 4), .ref (z + 5), .int (iI mHC), .int (iI mRC), .ref (z + 6), .ref (z + 7), .ref (z + 8), .int (iI (hist.length : Int)), .ref (z + 9), .ref (z + 10), .int (iI jc), .int (iI ch), .int (iI vi)] := (fS87 z (off_nl (x := z) (a := 6) (by decide))).trans hc51_0
                have e89 : S3 (z + 1) = oI g 200 txa := (fS3 (z + 1) (off_ne (x := z) (a := 1) (b := 7) (by decide))).trans htx
                have e90 : S9 (z + 1) = oI g 200 txa := (fS9 (z + 1) (off_nr (x := z) (a := 1) (by decide)) (off_ne (x := z) (a := 1) (b := 6) (by decide)) (off_ne (x := z) (a := 1) (b := 10) (by decide))).trans e89
                have e91 : S15 (z + 1) = oI g 200 txa := (fr51 (z + 1) (off_nr (x := z) (a := 1) (by decide)) (off_ne (x := z) (a := 1) (b := 6) (by decide)) (off_ne (x := z) (a := 1) (b := 10) (by decide))).trans e90
                have e92 : S87 (z + 1) = oI g 200 txa := (fS87 (z + 1) (off_ne (x := z) (a := 1) (b := 6) (by decide))).trans e91
                have e93 : S3 (z + 2) = oI g 5 stg := (fS3 (z + 2) (off_ne (x := z) (a := 2) (b := 7) (by decide))).trans hst
                have e94 : S9 (z + 2) = oI g 5 stg := (fS9 (z + 2) (off_nr (x := z) (a := 2) (by decide)) (off_ne (x := z) (a := 2) (b := 6) (by decide)) (off_ne (x := z) (a := 2) (b := 10) (by decide))).trans e93
                have e95 : S15 (z + 2) = oI g 5 stg := (fr51 (z + 2) (off_nr (x := z) (a := 2) (by decide)) (off_ne (x := z) (a := 2) (b := 6) (by decide)) (off_ne (x := z) (a := 2) (b := 10) (by decide))).trans e94
                have e96 : S87 (z + 2) = oI g 5 stg := (fS87 (z + 2) (off_ne (x := z) (a := 2) (b := 6) (by decide))).trans e95
                have e97 : S3 (z + 3) = oI g 5 rst := (fS3 (z + 3) (off_ne (x := z) (a := 3) (b := 7) (by decide))).trans hrst
                have e98 : S9 (z + 3) = oI g 5 rst := (fS9 (z + 3) (off_nr (x := z) (a := 3) (by decide)) (off_ne (x := z) (a := 3) (b := 6) (by decide)) (off_ne (x := z) (a := 3) (b := 10) (by decide))).trans e97
                have e99 : S15 (z + 3) = oI g 5 rst := (fr51 (z + 3) (off_nr (x := z) (a := 3) (by decide)) (off_ne (x := z) (a := 3) (b := 6) (by decide)) (off_ne (x := z) (a := 3) (b := 10) (by decide))).trans e98
                have e100 : S87 (z + 3) = oI g 5 rst := (fS87 (z + 3) (off_ne (x := z) (a := 3) (b := 6) (by decide))).trans e99
                have e101 : S3 (z + 4) = oI g 24 hps := (fS3 (z + 4) (off_ne (x := z) (a := 4) (b := 7) (by decide))).trans hhp
                have e102 : S9 (z + 4) = oI g 24 hps := (fS9 (z + 4) (off_nr (x := z) (a := 4) (by decide)) (off_ne (x := z) (a := 4) (b := 6) (by decide)) (off_ne (x := z) (a := 4) (b := 10) (by decide))).trans e101
                have e103 : S15 (z + 4) = oI g 24 hps := (fr51 (z + 4) (off_nr (x := z) (a := 4) (by decide)) (off_ne (x := z) (a := 4) (b := 6) (by decide)) (off_ne (x := z) (a := 4) (b := 10) (by decide))).trans e102
                have e104 : S87 (z + 4) = oI g 24 hps := (fS87 (z + 4) (off_ne (x := z) (a := 4) (b := 6) (by decide))).trans e103
                have e105 : S3 (z + 5) = oI g 24 rhp := (fS3 (z + 5) (off_ne (x := z) (a := 5) (b := 7) (by decide))).trans hrhp
                have e106 : S9 (z + 5) = oI g 24 rhp := (fS9 (z + 5) (off_nr (x := z) (a := 5) (by decide)) (off_ne (x := z) (a := 5) (b := 6) (by decide)) (off_ne (x := z) (a := 5) (b := 10) (by decide))).trans e105
                have e107 : S15 (z + 5) = oI g 24 rhp := (fr51 (z + 5) (off_nr (x := z) (a := 5) (by decide)) (off_ne (x := z) (a := 5) (b := 6) (by decide)) (off_ne (x := z) (a := 5) (b := 10) (by decide))).trans e106
                have e108 : S87 (z + 5) = oI g 24 rhp := (fS87 (z + 5) (off_ne (x := z) (a := 5) (b := 6) (by decide))).trans e107
                have e109 : S87 (z + 7) = oI g 1249 (cpS nw (0 : Int).toNat sv (0 : Int).toNat 1249) := (fS87 (z + 7) (off_ne (x := z) (a := 7) (b := 6) (by decide))).trans e86
                have e110 : S3 (z + 8) = oI g 7494 hs := (fS3 (z + 8) (off_ne (x := z) (a := 8) (b := 7) (by decide))).trans hhs
                have e111 : S9 (z + 8) = oI g 7494 hs := (fS9 (z + 8) (off_nr (x := z) (a := 8) (by decide)) (off_ne (x := z) (a := 8) (b := 6) (by decide)) (off_ne (x := z) (a := 8) (b := 10) (by decide))).trans e110
                have e112 : S15 (z + 8) = oI g 7494 hs := (fr51 (z + 8) (off_nr (x := z) (a := 8) (by decide)) (off_ne (x := z) (a := 8) (b := 6) (by decide)) (off_ne (x := z) (a := 8) (b := 10) (by decide))).trans e111
                have e113 : S87 (z + 8) = oI g 7494 hs := (fS87 (z + 8) (off_ne (x := z) (a := 8) (b := 6) (by decide))).trans e112
                have e114 : S3 (z + 9) = oI g 3 nbs := (fS3 (z + 9) (off_ne (x := z) (a := 9) (b := 7) (by decide))).trans hnb
                have e115 : S9 (z + 9) = oI g 3 nbs := (fS9 (z + 9) (off_nr (x := z) (a := 9) (by decide)) (off_ne (x := z) (a := 9) (b := 6) (by decide)) (off_ne (x := z) (a := 9) (b := 10) (by decide))).trans e114
                have e116 : S15 (z + 9) = oI g 3 nbs := (fr51 (z + 9) (off_nr (x := z) (a := 9) (by decide)) (off_ne (x := z) (a := 9) (b := 6) (by decide)) (off_ne (x := z) (a := 9) (b := 10) (by decide))).trans e115
                have e117 : S87 (z + 9) = oI g 3 nbs := (fS87 (z + 9) (off_ne (x := z) (a := 9) (b := 6) (by decide))).trans e116
                have e118 : S87 (z + 10) = oI g 60 jf := (fS87 (z + 10) (off_ne (x := z) (a := 10) (b := 6) (by decide))).trans hc51_2
                exact hret (some (.int (iI xa))) _ S87 _ _ _ _ hw (⟨(by rw [hans]), rfl, ⟨_, _, _, _, _, _, _, _, _, _, _, _, _, e88, e92, htx0, e96, e100, e104, e108, hS87_0, e109, e113, e117, e118, hS7, hHi⟩, fun bb hbb  => ((((fS87 bb (by omega))).trans (fr51 bb (by omega) (by omega) (by omega))).trans (fS9 bb (by omega) (by omega) (by omega))).trans (fS3 bb (by omega))⟩) ⟨_, rfl, rfl, dX9_itself_149⟩
            · refine lv_aload_n hc.1 hc.2.1 dX9_itself_98 rfl (lv_at hl 2 rfl) ?_
              refine nn_get hc hw hc51_0 hiX9 rfl 9 (by decide) rfl lk25 dX9_itself_99 ?_
              refine nn_bipush hc dX9_itself_102 (by decide +kernel) ?_
              refine nn_iald hc hw hc51_1 (by omega) (by omega) dX9_itself_104 ?_
              refine W.eq (g2 := F0 m 105 ls [.int (iI (kw 8))]) rfl ?_
              refine lv_iload_n hc.1 hc.2.1 dX9_itself_105 rfl (lv_at hl 5 rfl) ?_
              refine nn_isub hc dX9_itself_106 ?_
              refine lv_goto hc.1 hc.2.1 dX9_itself_107 (tgt := 132) (by decide) ?_
              refine nn_name (fun xa exa => ?_)
              refine lv_istore (lv' := [(6, .int (iI xa)), (4, .int (iI w)), (5, .int (iI l9)), (0, .ref z), (1, .int (iI how)), (2, .int (iI what)), (3, .int (iI (nw 8)))]) hc.1 hc.2.1 dX9_itself_132 hl (by decide) rfl (fun ls hl => ?_)
              have hans : xa = aIts (stg 0) (goR mHC.toNat (mLn hps) (mBr hps) (stg 0) (stg 2) (stg 1) (stg 4) (stg 3) how rs rows) what := by rw [hgo, hnn]; unfold aIts; dsimp only; by_cases q0 : what = 0; (rw [if_pos q0]; omega); (rw [if_neg q0]; by_cases q1 : what = 1; (rw [if_pos q1]; omega); (rw [if_neg q1]; split <;> omega))
              refine lv_aload_n hc.1 hc.2.1 dX9_itself_134 rfl (lv_at hl 3 rfl) ?_
              refine nn_get hc hw hc51_0 hiX9 rfl 10 (by decide) rfl lk28 dX9_itself_135 ?_
              refine nn_iconst hc dX9_itself_138 ?_
              refine lv_aload_n hc.1 hc.2.1 dX9_itself_139 rfl (lv_at hl 3 rfl) ?_
              refine nn_get hc hw hc51_0 hiX9 rfl 9 (by decide) rfl lk25 dX9_itself_140 ?_
              refine nn_iconst hc dX9_itself_143 ?_
              have e119 : S9 (z + 7) = oI g 1249 (cpS nw (0 : Int).toNat sv (0 : Int).toNat 1249) := (fS9 (z + 7) (off_nr (x := z) (a := 7) (by decide)) (off_ne (x := z) (a := 7) (b := 6) (by decide)) (off_ne (x := z) (a := 7) (b := 10) (by decide))).trans hS3_0
              have e120 : S15 (z + 7) = oI g 1249 (cpS nw (0 : Int).toNat sv (0 : Int).toNat 1249) := (fr51 (z + 7) (off_nr (x := z) (a := 7) (by decide)) (off_ne (x := z) (a := 7) (b := 6) (by decide)) (off_ne (x := z) (a := 7) (b := 10) (by decide))).trans e119
              refine nn_Ss (As := [.ref (z + 7), .int (iI 0), .ref (z + 6), .int (iI 0)]) (st := []) hc hw (c_X9_copyState l g  e120 hc51_1 (by omega) (by omega) (by omega) (by omega)) (va_cwS 4 hc.2.2.2.2 gX9_itself_X9_copyState rfl rfl rfl (by decide +kernel) ⟨Nat.le_of_ble_eq_true rfl, Nat.le_of_ble_eq_true rfl⟩) rfl hl.1 rfl (Nat.le_of_ble_eq_true rfl) ⟨Nat.le_of_ble_eq_true rfl, Nat.le_of_ble_eq_true rfl⟩ dX9_itself_144 (fun vr n1 S121 H locs qS121 hw => ?_)
              obtain ⟨rfl, rfl, hS121_0, fS121⟩ := qS121
              refine W.eq (g2 := F0 m 147 ls []) rfl ?_
              have hS7 : mS ((cpS (cpS nw (0 : Int).toNat sv (0 : Int).toNat 1249) (0 : Int).toNat kw (0 : Int).toNat 1249)) rs rows := mS_copy hS hR.lens (fun i hi => by unfold cpS; rw [show (0 : Int).toNat = 0 from rfl, if_pos (by omega), if_pos (by omega)]; congr 1; omega)
              refine lv_iload hc.1 hc.2.1 dX9_itself_147 (lv_at hl 0 rfl) ?_
              have e122 : S121 z = oO 9 [.ref (z + 1), .int (iI (tz : Int)), .int (iI mAt), .ref (z + 2), .ref (z + 3), .ref (z + 4), .ref (z + 5), .int (iI mHC), .int (iI mRC), .ref (z + 6), .ref (z + 7), .ref (z + 8), .int (iI (hist.length : Int)), .ref (z + 9), .ref (z + 10), .int (iI jc), .int (iI ch), .int (iI vi)] := (fS121 z (off_nl (x := z) (a := 6) (by decide))).trans hc51_0
              have e123 : S3 (z + 1) = oI g 200 txa := (fS3 (z + 1) (off_ne (x := z) (a := 1) (b := 7) (by decide))).trans htx
              have e124 : S9 (z + 1) = oI g 200 txa := (fS9 (z + 1) (off_nr (x := z) (a := 1) (by decide)) (off_ne (x := z) (a := 1) (b := 6) (by decide)) (off_ne (x := z) (a := 1) (b := 10) (by decide))).trans e123
              have e125 : S15 (z + 1) = oI g 200 txa := (fr51 (z + 1) (off_nr (x := z) (a := 1) (by decide)) (off_ne (x := z) (a := 1) (b := 6) (by decide)) (off_ne (x := z) (a := 1) (b := 10) (by decide))).trans e124
              have e126 : S121 (z + 1) = oI g 200 txa := (fS121 (z + 1) (off_ne (x := z) (a := 1) (b := 6) (by decide))).trans e125
              have e127 : S3 (z + 2) = oI g 5 stg := (fS3 (z + 2) (off_ne (x := z) (a := 2) (b := 7) (by decide))).trans hst
              have e128 : S9 (z + 2) = oI g 5 stg := (fS9 (z + 2) (off_nr (x := z) (a := 2) (by decide)) (off_ne (x := z) (a := 2) (b := 6) (by decide)) (off_ne (x := z) (a := 2) (b := 10) (by decide))).trans e127
              have e129 : S15 (z + 2) = oI g 5 stg := (fr51 (z + 2) (off_nr (x := z) (a := 2) (by decide)) (off_ne (x := z) (a := 2) (b := 6) (by decide)) (off_ne (x := z) (a := 2) (b := 10) (by decide))).trans e128
              have e130 : S121 (z + 2) = oI g 5 stg := (fS121 (z + 2) (off_ne (x := z) (a := 2) (b := 6) (by decide))).trans e129
              have e131 : S3 (z + 3) = oI g 5 rst := (fS3 (z + 3) (off_ne (x := z) (a := 3) (b := 7) (by decide))).trans hrst
              have e132 : S9 (z + 3) = oI g 5 rst := (fS9 (z + 3) (off_nr (x := z) (a := 3) (by decide)) (off_ne (x := z) (a := 3) (b := 6) (by decide)) (off_ne (x := z) (a := 3) (b := 10) (by decide))).trans e131
              have e133 : S15 (z + 3) = oI g 5 rst := (fr51 (z + 3) (off_nr (x := z) (a := 3) (by decide)) (off_ne (x := z) (a := 3) (b := 6) (by decide)) (off_ne (x := z) (a := 3) (b := 10) (by decide))).trans e132
              have e134 : S121 (z + 3) = oI g 5 rst := (fS121 (z + 3) (off_ne (x := z) (a := 3) (b := 6) (by decide))).trans e133
              have e135 : S3 (z + 4) = oI g 24 hps := (fS3 (z + 4) (off_ne (x := z) (a := 4) (b := 7) (by decide))).trans hhp
              have e136 : S9 (z + 4) = oI g 24 hps := (fS9 (z + 4) (off_nr (x := z) (a := 4) (by decide)) (off_ne (x := z) (a := 4) (b := 6) (by decide)) (off_ne (x := z) (a := 4) (b := 10) (by decide))).trans e135
              have e137 : S15 (z + 4) = oI g 24 hps := (fr51 (z + 4) (off_nr (x := z) (a := 4) (by decide)) (off_ne (x := z) (a := 4) (b := 6) (by decide)) (off_ne (x := z) (a := 4) (b := 10) (by decide))).trans e136
              have e138 : S121 (z + 4) = oI g 24 hps := (fS121 (z + 4) (off_ne (x := z) (a := 4) (b := 6) (by decide))).trans e137
              have e139 : S3 (z + 5) = oI g 24 rhp := (fS3 (z + 5) (off_ne (x := z) (a := 5) (b := 7) (by decide))).trans hrhp
              have e140 : S9 (z + 5) = oI g 24 rhp := (fS9 (z + 5) (off_nr (x := z) (a := 5) (by decide)) (off_ne (x := z) (a := 5) (b := 6) (by decide)) (off_ne (x := z) (a := 5) (b := 10) (by decide))).trans e139
              have e141 : S15 (z + 5) = oI g 24 rhp := (fr51 (z + 5) (off_nr (x := z) (a := 5) (by decide)) (off_ne (x := z) (a := 5) (b := 6) (by decide)) (off_ne (x := z) (a := 5) (b := 10) (by decide))).trans e140
              have e142 : S121 (z + 5) = oI g 24 rhp := (fS121 (z + 5) (off_ne (x := z) (a := 5) (b := 6) (by decide))).trans e141
              have e143 : S121 (z + 7) = oI g 1249 (cpS nw (0 : Int).toNat sv (0 : Int).toNat 1249) := (fS121 (z + 7) (off_ne (x := z) (a := 7) (b := 6) (by decide))).trans e120
              have e144 : S3 (z + 8) = oI g 7494 hs := (fS3 (z + 8) (off_ne (x := z) (a := 8) (b := 7) (by decide))).trans hhs
              have e145 : S9 (z + 8) = oI g 7494 hs := (fS9 (z + 8) (off_nr (x := z) (a := 8) (by decide)) (off_ne (x := z) (a := 8) (b := 6) (by decide)) (off_ne (x := z) (a := 8) (b := 10) (by decide))).trans e144
              have e146 : S15 (z + 8) = oI g 7494 hs := (fr51 (z + 8) (off_nr (x := z) (a := 8) (by decide)) (off_ne (x := z) (a := 8) (b := 6) (by decide)) (off_ne (x := z) (a := 8) (b := 10) (by decide))).trans e145
              have e147 : S121 (z + 8) = oI g 7494 hs := (fS121 (z + 8) (off_ne (x := z) (a := 8) (b := 6) (by decide))).trans e146
              have e148 : S3 (z + 9) = oI g 3 nbs := (fS3 (z + 9) (off_ne (x := z) (a := 9) (b := 7) (by decide))).trans hnb
              have e149 : S9 (z + 9) = oI g 3 nbs := (fS9 (z + 9) (off_nr (x := z) (a := 9) (by decide)) (off_ne (x := z) (a := 9) (b := 6) (by decide)) (off_ne (x := z) (a := 9) (b := 10) (by decide))).trans e148
              have e150 : S15 (z + 9) = oI g 3 nbs := (fr51 (z + 9) (off_nr (x := z) (a := 9) (by decide)) (off_ne (x := z) (a := 9) (b := 6) (by decide)) (off_ne (x := z) (a := 9) (b := 10) (by decide))).trans e149
              have e151 : S121 (z + 9) = oI g 3 nbs := (fS121 (z + 9) (off_ne (x := z) (a := 9) (b := 6) (by decide))).trans e150
              have e152 : S121 (z + 10) = oI g 60 jf := (fS121 (z + 10) (off_ne (x := z) (a := 10) (b := 6) (by decide))).trans hc51_2
              exact hret (some (.int (iI xa))) _ S121 _ _ _ _ hw (⟨(by rw [hans]), rfl, ⟨_, _, _, _, _, _, _, _, _, _, _, _, _, e122, e126, htx0, e130, e134, e138, e142, hS121_0, e143, e147, e151, e152, hS7, hHi⟩, fun bb hbb  => ((((fS121 bb (by omega))).trans (fr51 bb (by omega) (by omega) (by omega))).trans (fS9 bb (by omega) (by omega) (by omega))).trans (fS3 bb (by omega))⟩) ⟨_, rfl, rfl, dX9_itself_149⟩
          · obtain ⟨sl9, hly9, hlr9, hgo9⟩ := nxR_some (br := mBr hps) (hi := stg 0) (lp := stg 2) (wi := stg 1) (hp := stg 4) (bk := stg 3) (how := how) (rs := r1) (rows := rw1) hln1 (by rw [← hl9]; omega)
            rw [← hl9] at hly9 hlr9 hgo9
            have hR9 := goodR_push hR1 hbr1 hlr9 (by omega) m8.1 m6 hly9
            refine lv_aload_n hc.1 hc.2.1 dX9_itself_58 rfl (lv_at hl 2 rfl) ?_
            refine lv_iload hc.1 hc.2.1 dX9_itself_59 (lv_at hl 1 rfl) ?_
            have e153 : S3 (z + 2) = oI g 5 stg := (fS3 (z + 2) (off_ne (x := z) (a := 2) (b := 7) (by decide))).trans hst
            have e154 : S9 (z + 2) = oI g 5 stg := (fS9 (z + 2) (off_nr (x := z) (a := 2) (by decide)) (off_ne (x := z) (a := 2) (b := 6) (by decide)) (off_ne (x := z) (a := 2) (b := 10) (by decide))).trans e153
            have e155 : S15 (z + 2) = oI g 5 stg := (fr51 (z + 2) (off_nr (x := z) (a := 2) (by decide)) (off_ne (x := z) (a := 2) (b := 6) (by decide)) (off_ne (x := z) (a := 2) (b := 10) (by decide))).trans e154
            have e156 : S3 (z + 4) = oI g 24 hps := (fS3 (z + 4) (off_ne (x := z) (a := 4) (b := 7) (by decide))).trans hhp
            have e157 : S9 (z + 4) = oI g 24 hps := (fS9 (z + 4) (off_nr (x := z) (a := 4) (by decide)) (off_ne (x := z) (a := 4) (b := 6) (by decide)) (off_ne (x := z) (a := 4) (b := 10) (by decide))).trans e156
            have e158 : S15 (z + 4) = oI g 24 hps := (fr51 (z + 4) (off_nr (x := z) (a := 4) (by decide)) (off_ne (x := z) (a := 4) (b := 6) (by decide)) (off_ne (x := z) (a := 4) (b := 10) (by decide))).trans e157
            refine nn_Vs (As := [.int (iI l9)]) (st := []) hc hw hc51_0 rfl (c_X9_layCourse_yes l g  hc51_0 e155 e158 hc51_1 hc51_2 (hM0) (hR1) (hS1) (hlr9) (hly9)) (cwV 1 hc.2.2.2.2 gX9_itself_X9_layCourse rfl rfl rfl (by decide +kernel) ⟨Nat.le_of_ble_eq_true rfl, Nat.le_of_ble_eq_true rfl⟩) rfl hl.1 rfl (Nat.le_of_ble_eq_true rfl) ⟨Nat.le_of_ble_eq_true rfl, Nat.le_of_ble_eq_true rfl⟩ dX9_itself_61 (fun vr n1 S159 H locs qS159 hw => ?_)
            obtain ⟨jf9_160, kw9_161, jc9_162, ch9_163, vi9_164, rfl, rfl, hS159_0, hS159_1, hS159_2, kS159_0, fS159⟩ := qS159
            refine W.eq (g2 := F0 m 64 ls [.int (iI 1)]) rfl ?_
            refine lv_istore (lv' := [(6, .int (iI 1)), (4, .int (iI w)), (5, .int (iI l9)), (0, .ref z), (1, .int (iI how)), (2, .int (iI what)), (3, .int (iI (nw 8)))]) hc.1 hc.2.1 dX9_itself_64 hl (by decide) rfl (fun ls hl => ?_)
            have hS2 := kS159_0
            have h82 := hS2.2.1
            rw [len_sn] at h82
            have hly3 := layC_good hbr1 (layR_some hly9).2
            have hop9 := (layR_some hly9).1
            have hrw := hS2.2.2 rw1.length (by rw [len_sn]; omega)
            rw [rL_at, rS_at] at hrw
            have hrw1 : rowIs (kw9_161) ((kw9_161) 8 - 1).toNat l9 sl9 := by rw [h82, show (((rw1.length + 1 : Nat) : Int) - 1).toNat = rw1.length by omega]; exact hrw
            refine lv_iload hc.1 hc.2.1 dX9_itself_66 (lv_at hl 1 rfl) ?_
            refine lv_aload_n hc.1 hc.2.1 dX9_itself_68 rfl (lv_at hl 3 rfl) ?_
            refine lv_aload_n hc.1 hc.2.1 dX9_itself_69 rfl (lv_at hl 3 rfl) ?_
            refine nn_get hc hw hS159_0 hiX9 rfl 9 (by decide) rfl lk25 dX9_itself_70 ?_
            refine nn_bipush hc dX9_itself_73 (by decide +kernel) ?_
            refine nn_iald hc hw hS159_1 (by omega) (by omega) dX9_itself_75 ?_
            refine W.eq (g2 := F0 m 76 ls [.int (iI (kw9_161 8)), .ref z, .int (iI w)]) rfl ?_
            refine nn_iconst hc dX9_itself_76 ?_
            refine nn_isub hc dX9_itself_77 ?_
            have e165 : S159 (z + 4) = oI g 24 hps := (fS159 (z + 4) (off_nr (x := z) (a := 4) (by decide)) (off_ne (x := z) (a := 4) (b := 6) (by decide)) (off_ne (x := z) (a := 4) (b := 10) (by decide))).trans e158
            refine nn_Vp (As := [.int (iI ((kw9_161 8) - 1))]) (st := [.int (iI w)]) hc hw hS159_0 rfl (c_X9_waste l g  hS159_0 hS159_1 e165 (by omega) (hrw1) (hly3.1) (hly3.2.1.1) (by omega) (hbr2)) (cwV 1 hc.2.2.2.2 gX9_itself_X9_waste rfl rfl rfl (by decide +kernel) ⟨Nat.le_of_ble_eq_true rfl, Nat.le_of_ble_eq_true rfl⟩) rfl hl.1 rfl (Nat.le_of_ble_eq_true rfl) ⟨Nat.le_of_ble_eq_true rfl, Nat.le_of_ble_eq_true rfl⟩ dX9_itself_78 ?_
            refine W.eq (g2 := F0 m 81 ls [.int (iI (wst (mBr hps) l9 sl9)), .int (iI w)]) rfl ?_
            refine nn_iadd hc dX9_itself_81 ?_
            refine nn_name (fun xw exw => ?_)
            refine lv_istore (lv' := [(4, .int (iI xw)), (6, .int (iI 1)), (5, .int (iI l9)), (0, .ref z), (1, .int (iI how)), (2, .int (iI what)), (3, .int (iI (nw 8)))]) hc.1 hc.2.1 dX9_itself_82 hl (by decide) rfl (fun ls hl => ?_)
            refine lv_aload_n hc.1 hc.2.1 dX9_itself_84 rfl (lv_at hl 3 rfl) ?_
            refine lv_iload_n hc.1 hc.2.1 dX9_itself_85 rfl (lv_at hl 4 rfl) ?_
            have e166 : S159 (z + 2) = oI g 5 stg := (fS159 (z + 2) (off_nr (x := z) (a := 2) (by decide)) (off_ne (x := z) (a := 2) (b := 6) (by decide)) (off_ne (x := z) (a := 2) (b := 10) (by decide))).trans e155
            refine nn_Vs (As := [.int (iI how)]) (st := []) hc hw hS159_0 rfl (c_X9_nextLength l g  hS159_0 e166 e165 hS159_1 hS159_2 (hM0) (hR9) (hS2) (by omega)) (cwV 1 hc.2.2.2.2 gX9_itself_X9_nextLength rfl rfl rfl (by decide +kernel) ⟨Nat.le_of_ble_eq_true rfl, Nat.le_of_ble_eq_true rfl⟩) rfl hl.1 rfl (Nat.le_of_ble_eq_true rfl) ⟨Nat.le_of_ble_eq_true rfl, Nat.le_of_ble_eq_true rfl⟩ dX9_itself_86 (fun vr n1 S167 H locs qS167 hw => ?_)
            obtain ⟨jf9_168, kw9_169, jc9_170, ch9_171, vi9_172, rfl, rfl, hS167_0, hS167_1, hS167_2, kS167_0, fS167⟩ := qS167
            refine W.eq (g2 := F0 m 89 ls [.int (iI (nxR mHC.toNat (mLn hps) (mBr hps) (stg 0) (stg 2) (stg 1) (stg 4) (stg 3) how (fun i => r1 i + (-1) * cntH sl9 i) (rw1 ++ [(l9, sl9)])))]) rfl ?_
            refine nn_name (fun xn2 exn2 => ?_)
            refine lv_istore (lv' := [(5, .int (iI xn2)), (4, .int (iI xw)), (6, .int (iI 1)), (0, .ref z), (1, .int (iI how)), (2, .int (iI what)), (3, .int (iI (nw 8)))]) hc.1 hc.2.1 dX9_itself_89 hl (by decide) rfl (fun ls hl => ?_)
            refine lv_goto hc.1 hc.2.1 dX9_itself_91 (tgt := 51) (by decide) ?_
            exact ih51 xw xn2 kw9_169 jf9_168 jc9_170 ch9_171 vi9_172 (fun i => r1 i + (-1) * cntH sl9 i) (rw1 ++ [(l9, sl9)]) S167 _ _ _ (hR9) (kS167_0) (exn2) (by rw [hgo, hgo9, len_sn, exw]; simp only [Prod.mk.injEq, and_true]; omega) hS167_0 hS167_1 hS167_2 (fun bb hb0 hb1 hb2 => (((fS167 bb hb0 hb1 hb2)).trans (fS159 bb hb0 hb1 hb2)).trans (fr51 bb hb0 hb1 hb2)) hw (by rw [len_sn]; omega) (lv_sub hl [1, 0, 3, 4, 5, 6] rfl)
      exact lab51 _ 0 xn kw9_11 jf9_10 jc9_12 ch9_13 vi9_14 rs rows S9 _ _ _ (hR) (kS9_0) (exn) (by rw [Int.sub_self, Int.add_zero, Int.add_zero]) hS9_0 hS9_1 hS9_2 (fun bb _ _ _ => rfl) hw (Nat.lt_succ_self _) (lv_sub hl [1, 0, 3, 4, 5, 2] rfl)
    · exfalso; omega

