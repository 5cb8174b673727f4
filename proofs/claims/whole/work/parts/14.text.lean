set_option maxHeartbeats 4000000 in
set_option maxRecDepth 100000 in
theorem c_X5_clear (l : Launch) (g : gG) {n : Nat} {S : Nat → gE} {pl : Nat} {nH pHi pWi pLp pBk pHp : Int} (hp : S pl = oO 5 [.ref (pl + 1), .ref (pl + 2), .ref (pl + 3), .int (iI nH), .int (iI pHi), .int (iI pWi), .int (iI pLp), .int (iI pBk), .int (iI pHp)])  : g_Cs l yX5_clear wsX5_clear { frames := 0, cells := 0, slots := 0, locals := 0 } g [.ref pl] n S (fun vr n1 S1 => vr = none ∧ n = n1 ∧ S1 pl = oO 5 [.ref (pl + 1), .ref (pl + 2), .ref (pl + 3), .int (iI 0), .int (iI 100), .int (iI 120), .int (iI 6), .int (iI 4), .int (iI 0)] ∧ (∀ bb, bb ≠ pl → S1 bb = S bb)) 0 0 := by
  refine g_Cs.of (cc := cX5_clear) (maxL := 1) (ret := none) (by decide) rfl (Nat.le_of_ble_eq_true rfl) ?_
  intro pp ee s m below meth cK Q H locs ls hc hnm hw hl hret
  have hl : lv_has ls 1 [(0, .ref pl)] := hl
  have hiX5 : ∀ w ∈ u_ws RX5 TX5 9, w ∈ wsX5_clear := by decide +kernel
  have lk21 : Cond.fieldLink RX5 21 "RoofCourses$Plan" "heaps" "I" ∈ wsX5_clear := by decide +kernel
  have lk25 : Cond.fieldLink RX5 25 "RoofCourses$Plan" "high" "I" ∈ wsX5_clear := by decide +kernel
  have lk28 : Cond.fieldLink RX5 28 "RoofCourses$Plan" "wide" "I" ∈ wsX5_clear := by decide +kernel
  have lk31 : Cond.fieldLink RX5 31 "RoofCourses$Plan" "lap" "I" ∈ wsX5_clear := by decide +kernel
  have lk34 : Cond.fieldLink RX5 34 "RoofCourses$Plan" "breaking" "I" ∈ wsX5_clear := by decide +kernel
  have lk37 : Cond.fieldLink RX5 37 "RoofCourses$Plan" "hip" "I" ∈ wsX5_clear := by decide +kernel
  refine lv_aload_n hc.1 hc.2.1 dX5_clear_0 rfl (lv_at hl 0 rfl) ?_
  refine nn_iconst hc dX5_clear_1 ?_
  refine nn_put hc hw hp hiX5 tyX5 tyX5_ok nmX5 rfl 3 (by decide) (Nat.le_of_ble_eq_true rfl) lk21 rfl rfl rfl dX5_clear_2 (fun S1 H locs hS1 fS1 hw => ?_)
  have hS1 : S1 pl = oO 5 [.ref (pl + 1), .ref (pl + 2), .ref (pl + 3), .int (iI 0), .int (iI pHi), .int (iI pWi), .int (iI pLp), .int (iI pBk), .int (iI pHp)] := hS1
  refine lv_aload_n hc.1 hc.2.1 dX5_clear_5 rfl (lv_at hl 0 rfl) ?_
  refine nn_bipush hc dX5_clear_6 (by decide +kernel) ?_
  refine nn_put hc hw hS1 hiX5 tyX5 tyX5_ok nmX5 rfl 4 (by decide) (Nat.le_of_ble_eq_true rfl) lk25 rfl rfl rfl dX5_clear_8 (fun S2 H locs hS2 fS2 hw => ?_)
  have hS2 : S2 pl = oO 5 [.ref (pl + 1), .ref (pl + 2), .ref (pl + 3), .int (iI 0), .int (iI 100), .int (iI pWi), .int (iI pLp), .int (iI pBk), .int (iI pHp)] := hS2
  refine lv_aload_n hc.1 hc.2.1 dX5_clear_11 rfl (lv_at hl 0 rfl) ?_
  refine nn_bipush hc dX5_clear_12 (by decide +kernel) ?_
  refine nn_put hc hw hS2 hiX5 tyX5 tyX5_ok nmX5 rfl 5 (by decide) (Nat.le_of_ble_eq_true rfl) lk28 rfl rfl rfl dX5_clear_14 (fun S3 H locs hS3 fS3 hw => ?_)
  have hS3 : S3 pl = oO 5 [.ref (pl + 1), .ref (pl + 2), .ref (pl + 3), .int (iI 0), .int (iI 100), .int (iI 120), .int (iI pLp), .int (iI pBk), .int (iI pHp)] := hS3
  refine lv_aload_n hc.1 hc.2.1 dX5_clear_17 rfl (lv_at hl 0 rfl) ?_
  refine nn_bipush hc dX5_clear_18 (by decide +kernel) ?_
  refine nn_put hc hw hS3 hiX5 tyX5 tyX5_ok nmX5 rfl 6 (by decide) (Nat.le_of_ble_eq_true rfl) lk31 rfl rfl rfl dX5_clear_20 (fun S4 H locs hS4 fS4 hw => ?_)
  have hS4 : S4 pl = oO 5 [.ref (pl + 1), .ref (pl + 2), .ref (pl + 3), .int (iI 0), .int (iI 100), .int (iI 120), .int (iI 6), .int (iI pBk), .int (iI pHp)] := hS4
  refine lv_aload_n hc.1 hc.2.1 dX5_clear_23 rfl (lv_at hl 0 rfl) ?_
  refine nn_iconst hc dX5_clear_24 ?_
  refine nn_put hc hw hS4 hiX5 tyX5 tyX5_ok nmX5 rfl 7 (by decide) (Nat.le_of_ble_eq_true rfl) lk34 rfl rfl rfl dX5_clear_25 (fun S5 H locs hS5 fS5 hw => ?_)
  have hS5 : S5 pl = oO 5 [.ref (pl + 1), .ref (pl + 2), .ref (pl + 3), .int (iI 0), .int (iI 100), .int (iI 120), .int (iI 6), .int (iI 4), .int (iI pHp)] := hS5
  refine lv_aload_n hc.1 hc.2.1 dX5_clear_28 rfl (lv_at hl 0 rfl) ?_
  refine nn_iconst hc dX5_clear_29 ?_
  refine nn_put hc hw hS5 hiX5 tyX5 tyX5_ok nmX5 rfl 8 (by decide) (Nat.le_of_ble_eq_true rfl) lk37 rfl rfl rfl dX5_clear_30 (fun S6 H locs hS6 fS6 hw => ?_)
  have hS6 : S6 pl = oO 5 [.ref (pl + 1), .ref (pl + 2), .ref (pl + 3), .int (iI 0), .int (iI 100), .int (iI 120), .int (iI 6), .int (iI 4), .int (iI 0)] := hS6
  exact hret none _ S6 _ _ _ _ hw (⟨rfl, rfl, hS6, fun bb hb0 => ((((((fS6 bb hb0)).trans (fS5 bb hb0)).trans (fS4 bb hb0)).trans (fS3 bb hb0)).trans (fS2 bb hb0)).trans (fS1 bb hb0)⟩) ⟨rfl, dX5_clear_33⟩

set_option maxHeartbeats 4000000 in
set_option maxRecDepth 100000 in
theorem c_X5_copy (l : Launch) (g : gG) {n : Nat} {S : Nat → gE} {pl : Nat} {nH pHi pWi pLp pBk pHp : Int} {p2 : Nat} {oH oHi oWi oLp oBk oHp : Int} {ln br sl ol ob os : Nat → Int} (hp : S pl = oO 5 [.ref (pl + 1), .ref (pl + 2), .ref (pl + 3), .int (iI nH), .int (iI pHi), .int (iI pWi), .int (iI pLp), .int (iI pBk), .int (iI pHp)]) (hln : S (pl + 1) = oI g 8 ln) (hbr : S (pl + 2) = oI g 8 br) (hsl : S (pl + 3) = oI g 8 sl) (hp2 : S p2 = oO 5 [.ref (p2 + 1), .ref (p2 + 2), .ref (p2 + 3), .int (iI oH), .int (iI oHi), .int (iI oWi), .int (iI oLp), .int (iI oBk), .int (iI oHp)]) (h21 : S (p2 + 1) = oI g 8 ol) (h22 : S (p2 + 2) = oI g 8 ob) (h23 : S (p2 + 3) = oI g 8 os) (hd : pl + 4 ≤ p2 ∨ p2 + 4 ≤ pl) : g_Cs l yX5_copy wsX5_copy { frames := 1, cells := 0, slots := 0, locals := 18 } g [.ref pl, .ref p2] n S (fun vr n1 S1 => vr = none ∧ n = n1 ∧ S1 pl = oO 5 [.ref (pl + 1), .ref (pl + 2), .ref (pl + 3), .int (iI oH), .int (iI oHi), .int (iI oWi), .int (iI oLp), .int (iI oBk), .int (iI oHp)] ∧ S1 (pl + 1) = oI g 8 (va_cpy ol ln 0 0 8) ∧ S1 (pl + 2) = oI g 8 (va_cpy ob br 0 0 8) ∧ S1 (pl + 3) = oI g 8 (va_cpy os sl 0 0 8) ∧ (∀ bb, bb ≠ pl → bb ≠ (pl + 1) → bb ≠ (pl + 2) → bb ≠ (pl + 3) → S1 bb = S bb)) 0 0 := by
  refine g_Cs.of (cc := cX5_copy) (maxL := 2) (ret := none) (by decide) rfl (Nat.le_of_ble_eq_true rfl) ?_
  intro pp ee s m below meth cK Q H locs ls hc hnm hw hl hret
  have hl : lv_has ls 2 [(0, .ref pl), (1, .ref p2)] := hl
  have hiX5 : ∀ w ∈ u_ws RX5 TX5 9, w ∈ wsX5_copy := by decide +kernel
  have lk9 : Cond.fieldLink RX5 9 "RoofCourses$Plan" "length" "[I" ∈ wsX5_copy := by decide +kernel
  have lkK40 : Cond.methodLink RX5 40 arraycopyName ∈ wsX5_copy := by decide +kernel
  have lkKn : Cond.native arraycopyName ∈ wsX5_copy := by decide +kernel
  have lkKs : Cond.static arraycopyName ∈ wsX5_copy := by decide +kernel
  have lkKi : Cond.initialized "java/lang/System" ∈ wsX5_copy := by decide +kernel
  have lk15 : Cond.fieldLink RX5 15 "RoofCourses$Plan" "breadth" "[I" ∈ wsX5_copy := by decide +kernel
  have lk18 : Cond.fieldLink RX5 18 "RoofCourses$Plan" "slates" "[I" ∈ wsX5_copy := by decide +kernel
  have lk21 : Cond.fieldLink RX5 21 "RoofCourses$Plan" "heaps" "I" ∈ wsX5_copy := by decide +kernel
  have lk25 : Cond.fieldLink RX5 25 "RoofCourses$Plan" "high" "I" ∈ wsX5_copy := by decide +kernel
  have lk28 : Cond.fieldLink RX5 28 "RoofCourses$Plan" "wide" "I" ∈ wsX5_copy := by decide +kernel
  have lk31 : Cond.fieldLink RX5 31 "RoofCourses$Plan" "lap" "I" ∈ wsX5_copy := by decide +kernel
  have lk34 : Cond.fieldLink RX5 34 "RoofCourses$Plan" "breaking" "I" ∈ wsX5_copy := by decide +kernel
  have lk37 : Cond.fieldLink RX5 37 "RoofCourses$Plan" "hip" "I" ∈ wsX5_copy := by decide +kernel
  refine lv_aload_n hc.1 hc.2.1 dX5_copy_0 rfl (lv_at hl 1 rfl) ?_
  refine nn_get hc hw hp2 hiX5 rfl 0 (by decide) rfl lk9 dX5_copy_1 ?_
  refine nn_iconst hc dX5_copy_4 ?_
  refine lv_aload_n hc.1 hc.2.1 dX5_copy_5 rfl (lv_at hl 0 rfl) ?_
  refine nn_get hc hw hp hiX5 rfl 0 (by decide) rfl lk9 dX5_copy_6 ?_
  refine nn_iconst hc dX5_copy_9 ?_
  refine nn_bipush hc dX5_copy_10 (by decide +kernel) ?_
  refine nn_copy hc hl.1 hw lkK40 lkKn lkKs lkKi h21 hln (by omega) (by decide) (by decide) (Nat.le_of_ble_eq_true rfl) (Nat.le_of_ble_eq_true rfl) dX5_copy_12 (fun S1 H locs hS1 fS1 hw => ?_)
  have hS1 : S1 (pl + 1) = oI g 8 (va_cpy ol ln 0 0 8) := hS1
  refine lv_aload_n hc.1 hc.2.1 dX5_copy_15 rfl (lv_at hl 1 rfl) ?_
  have e2 : S1 p2 = oO 5 [.ref (p2 + 1), .ref (p2 + 2), .ref (p2 + 3), .int (iI oH), .int (iI oHi), .int (iI oWi), .int (iI oLp), .int (iI oBk), .int (iI oHp)] := (fS1 p2 (by omega)).trans hp2
  refine nn_get hc hw e2 hiX5 rfl 1 (by decide) rfl lk15 dX5_copy_16 ?_
  refine nn_iconst hc dX5_copy_19 ?_
  refine lv_aload_n hc.1 hc.2.1 dX5_copy_20 rfl (lv_at hl 0 rfl) ?_
  have e3 : S1 pl = oO 5 [.ref (pl + 1), .ref (pl + 2), .ref (pl + 3), .int (iI nH), .int (iI pHi), .int (iI pWi), .int (iI pLp), .int (iI pBk), .int (iI pHp)] := (fS1 pl (off_nl (x := pl) (a := 1) (by decide))).trans hp
  refine nn_get hc hw e3 hiX5 rfl 1 (by decide) rfl lk15 dX5_copy_21 ?_
  refine nn_iconst hc dX5_copy_24 ?_
  refine nn_bipush hc dX5_copy_25 (by decide +kernel) ?_
  have e4 : S1 (p2 + 2) = oI g 8 ob := (fS1 (p2 + 2) (by omega)).trans h22
  have e5 : S1 (pl + 2) = oI g 8 br := (fS1 (pl + 2) (off_ne (x := pl) (a := 2) (b := 1) (by decide))).trans hbr
  refine nn_copy hc hl.1 hw lkK40 lkKn lkKs lkKi e4 e5 (by omega) (by decide) (by decide) (Nat.le_of_ble_eq_true rfl) (Nat.le_of_ble_eq_true rfl) dX5_copy_27 (fun S6 H locs hS6 fS6 hw => ?_)
  have hS6 : S6 (pl + 2) = oI g 8 (va_cpy ob br 0 0 8) := hS6
  refine lv_aload_n hc.1 hc.2.1 dX5_copy_30 rfl (lv_at hl 1 rfl) ?_
  have e7 : S6 p2 = oO 5 [.ref (p2 + 1), .ref (p2 + 2), .ref (p2 + 3), .int (iI oH), .int (iI oHi), .int (iI oWi), .int (iI oLp), .int (iI oBk), .int (iI oHp)] := (fS6 p2 (by omega)).trans e2
  refine nn_get hc hw e7 hiX5 rfl 2 (by decide) rfl lk18 dX5_copy_31 ?_
  refine nn_iconst hc dX5_copy_34 ?_
  refine lv_aload_n hc.1 hc.2.1 dX5_copy_35 rfl (lv_at hl 0 rfl) ?_
  have e8 : S6 pl = oO 5 [.ref (pl + 1), .ref (pl + 2), .ref (pl + 3), .int (iI nH), .int (iI pHi), .int (iI pWi), .int (iI pLp), .int (iI pBk), .int (iI pHp)] := (fS6 pl (off_nl (x := pl) (a := 2) (by decide))).trans e3
  refine nn_get hc hw e8 hiX5 rfl 2 (by decide) rfl lk18 dX5_copy_36 ?_
  refine nn_iconst hc dX5_copy_39 ?_
  refine nn_bipush hc dX5_copy_40 (by decide +kernel) ?_
  have e9 : S1 (p2 + 3) = oI g 8 os := (fS1 (p2 + 3) (by omega)).trans h23
  have e10 : S6 (p2 + 3) = oI g 8 os := (fS6 (p2 + 3) (by omega)).trans e9
  have e11 : S1 (pl + 3) = oI g 8 sl := (fS1 (pl + 3) (off_ne (x := pl) (a := 3) (b := 1) (by decide))).trans hsl
  have e12 : S6 (pl + 3) = oI g 8 sl := (fS6 (pl + 3) (off_ne (x := pl) (a := 3) (b := 2) (by decide))).trans e11
  refine nn_copy hc hl.1 hw lkK40 lkKn lkKs lkKi e10 e12 (by omega) (by decide) (by decide) (Nat.le_of_ble_eq_true rfl) (Nat.le_of_ble_eq_true rfl) dX5_copy_42 (fun S13 H locs hS13 fS13 hw => ?_)
  have hS13 : S13 (pl + 3) = oI g 8 (va_cpy os sl 0 0 8) := hS13
  refine lv_aload_n hc.1 hc.2.1 dX5_copy_45 rfl (lv_at hl 0 rfl) ?_
  refine lv_aload_n hc.1 hc.2.1 dX5_copy_46 rfl (lv_at hl 1 rfl) ?_
  have e14 : S13 p2 = oO 5 [.ref (p2 + 1), .ref (p2 + 2), .ref (p2 + 3), .int (iI oH), .int (iI oHi), .int (iI oWi), .int (iI oLp), .int (iI oBk), .int (iI oHp)] := (fS13 p2 (by omega)).trans e7
  refine nn_get hc hw e14 hiX5 rfl 3 (by decide) rfl lk21 dX5_copy_47 ?_
  have e15 : S13 pl = oO 5 [.ref (pl + 1), .ref (pl + 2), .ref (pl + 3), .int (iI nH), .int (iI pHi), .int (iI pWi), .int (iI pLp), .int (iI pBk), .int (iI pHp)] := (fS13 pl (off_nl (x := pl) (a := 3) (by decide))).trans e8
  refine nn_put hc hw e15 hiX5 tyX5 tyX5_ok nmX5 rfl 3 (by decide) (Nat.le_of_ble_eq_true rfl) lk21 rfl rfl rfl dX5_copy_50 (fun S16 H locs hS16 fS16 hw => ?_)
  have hS16 : S16 pl = oO 5 [.ref (pl + 1), .ref (pl + 2), .ref (pl + 3), .int (iI oH), .int (iI pHi), .int (iI pWi), .int (iI pLp), .int (iI pBk), .int (iI pHp)] := hS16
  refine lv_aload_n hc.1 hc.2.1 dX5_copy_53 rfl (lv_at hl 0 rfl) ?_
  refine lv_aload_n hc.1 hc.2.1 dX5_copy_54 rfl (lv_at hl 1 rfl) ?_
  have e17 : S16 p2 = oO 5 [.ref (p2 + 1), .ref (p2 + 2), .ref (p2 + 3), .int (iI oH), .int (iI oHi), .int (iI oWi), .int (iI oLp), .int (iI oBk), .int (iI oHp)] := (fS16 p2 (by omega)).trans e14
  refine nn_get hc hw e17 hiX5 rfl 4 (by decide) rfl lk25 dX5_copy_55 ?_
  refine nn_put hc hw hS16 hiX5 tyX5 tyX5_ok nmX5 rfl 4 (by decide) (Nat.le_of_ble_eq_true rfl) lk25 rfl rfl rfl dX5_copy_58 (fun S18 H locs hS18 fS18 hw => ?_)
  have hS18 : S18 pl = oO 5 [.ref (pl + 1), .ref (pl + 2), .ref (pl + 3), .int (iI oH), .int (iI oHi), .int (iI pWi), .int (iI pLp), .int (iI pBk), .int (iI pHp)] := hS18
  refine lv_aload_n hc.1 hc.2.1 dX5_copy_61 rfl (lv_at hl 0 rfl) ?_
  refine lv_aload_n hc.1 hc.2.1 dX5_copy_62 rfl (lv_at hl 1 rfl) ?_
  have e19 : S18 p2 = oO 5 [.ref (p2 + 1), .ref (p2 + 2), .ref (p2 + 3), .int (iI oH), .int (iI oHi), .int (iI oWi), .int (iI oLp), .int (iI oBk), .int (iI oHp)] := (fS18 p2 (by omega)).trans e17
  refine nn_get hc hw e19 hiX5 rfl 5 (by decide) rfl lk28 dX5_copy_63 ?_
  refine nn_put hc hw hS18 hiX5 tyX5 tyX5_ok nmX5 rfl 5 (by decide) (Nat.le_of_ble_eq_true rfl) lk28 rfl rfl rfl dX5_copy_66 (fun S20 H locs hS20 fS20 hw => ?_)
  have hS20 : S20 pl = oO 5 [.ref (pl + 1), .ref (pl + 2), .ref (pl + 3), .int (iI oH), .int (iI oHi), .int (iI oWi), .int (iI pLp), .int (iI pBk), .int (iI pHp)] := hS20
  refine lv_aload_n hc.1 hc.2.1 dX5_copy_69 rfl (lv_at hl 0 rfl) ?_
  refine lv_aload_n hc.1 hc.2.1 dX5_copy_70 rfl (lv_at hl 1 rfl) ?_
  have e21 : S20 p2 = oO 5 [.ref (p2 + 1), .ref (p2 + 2), .ref (p2 + 3), .int (iI oH), .int (iI oHi), .int (iI oWi), .int (iI oLp), .int (iI oBk), .int (iI oHp)] := (fS20 p2 (by omega)).trans e19
  refine nn_get hc hw e21 hiX5 rfl 6 (by decide) rfl lk31 dX5_copy_71 ?_
  refine nn_put hc hw hS20 hiX5 tyX5 tyX5_ok nmX5 rfl 6 (by decide) (Nat.le_of_ble_eq_true rfl) lk31 rfl rfl rfl dX5_copy_74 (fun S22 H locs hS22 fS22 hw => ?_)
  have hS22 : S22 pl = oO 5 [.ref (pl + 1), .ref (pl + 2), .ref (pl + 3), .int (iI oH), .int (iI oHi), .int (iI oWi), .int (iI oLp), .int (iI pBk), .int (iI pHp)] := hS22
  refine lv_aload_n hc.1 hc.2.1 dX5_copy_77 rfl (lv_at hl 0 rfl) ?_
  refine lv_aload_n hc.1 hc.2.1 dX5_copy_78 rfl (lv_at hl 1 rfl) ?_
  have e23 : S22 p2 = oO 5 [.ref (p2 + 1), .ref (p2 + 2), .ref (p2 + 3), .int (iI oH), .int (iI oHi), .int (iI oWi), .int (iI oLp), .int (iI oBk), .int (iI oHp)] := (fS22 p2 (by omega)).trans e21
  refine nn_get hc hw e23 hiX5 rfl 7 (by decide) rfl lk34 dX5_copy_79 ?_
  refine nn_put hc hw hS22 hiX5 tyX5 tyX5_ok nmX5 rfl 7 (by decide) (Nat.le_of_ble_eq_true rfl) lk34 rfl rfl rfl dX5_copy_82 (fun S24 H locs hS24 fS24 hw => ?_)
  have hS24 : S24 pl = oO 5 [.ref (pl + 1), .ref (pl + 2), .ref (pl + 3), .int (iI oH), .int (iI oHi), .int (iI oWi), .int (iI oLp), .int (iI oBk), .int (iI pHp)] := hS24
  refine lv_aload_n hc.1 hc.2.1 dX5_copy_85 rfl (lv_at hl 0 rfl) ?_
  refine lv_aload_n hc.1 hc.2.1 dX5_copy_86 rfl (lv_at hl 1 rfl) ?_
  have e25 : S24 p2 = oO 5 [.ref (p2 + 1), .ref (p2 + 2), .ref (p2 + 3), .int (iI oH), .int (iI oHi), .int (iI oWi), .int (iI oLp), .int (iI oBk), .int (iI oHp)] := (fS24 p2 (by omega)).trans e23
  refine nn_get hc hw e25 hiX5 rfl 8 (by decide) rfl lk37 dX5_copy_87 ?_
  refine nn_put hc hw hS24 hiX5 tyX5 tyX5_ok nmX5 rfl 8 (by decide) (Nat.le_of_ble_eq_true rfl) lk37 rfl rfl rfl dX5_copy_90 (fun S26 H locs hS26 fS26 hw => ?_)
  have hS26 : S26 pl = oO 5 [.ref (pl + 1), .ref (pl + 2), .ref (pl + 3), .int (iI oH), .int (iI oHi), .int (iI oWi), .int (iI oLp), .int (iI oBk), .int (iI oHp)] := hS26
  have e27 : S6 (pl + 1) = oI g 8 (va_cpy ol ln 0 0 8) := (fS6 (pl + 1) (off_ne (x := pl) (a := 1) (b := 2) (by decide))).trans hS1
  have e28 : S13 (pl + 1) = oI g 8 (va_cpy ol ln 0 0 8) := (fS13 (pl + 1) (off_ne (x := pl) (a := 1) (b := 3) (by decide))).trans e27
  have e29 : S16 (pl + 1) = oI g 8 (va_cpy ol ln 0 0 8) := (fS16 (pl + 1) (off_nr (x := pl) (a := 1) (by decide))).trans e28
  have e30 : S18 (pl + 1) = oI g 8 (va_cpy ol ln 0 0 8) := (fS18 (pl + 1) (off_nr (x := pl) (a := 1) (by decide))).trans e29
  have e31 : S20 (pl + 1) = oI g 8 (va_cpy ol ln 0 0 8) := (fS20 (pl + 1) (off_nr (x := pl) (a := 1) (by decide))).trans e30
  have e32 : S22 (pl + 1) = oI g 8 (va_cpy ol ln 0 0 8) := (fS22 (pl + 1) (off_nr (x := pl) (a := 1) (by decide))).trans e31
  have e33 : S24 (pl + 1) = oI g 8 (va_cpy ol ln 0 0 8) := (fS24 (pl + 1) (off_nr (x := pl) (a := 1) (by decide))).trans e32
  have e34 : S26 (pl + 1) = oI g 8 (va_cpy ol ln 0 0 8) := (fS26 (pl + 1) (off_nr (x := pl) (a := 1) (by decide))).trans e33
  have e35 : S13 (pl + 2) = oI g 8 (va_cpy ob br 0 0 8) := (fS13 (pl + 2) (off_ne (x := pl) (a := 2) (b := 3) (by decide))).trans hS6
  have e36 : S16 (pl + 2) = oI g 8 (va_cpy ob br 0 0 8) := (fS16 (pl + 2) (off_nr (x := pl) (a := 2) (by decide))).trans e35
  have e37 : S18 (pl + 2) = oI g 8 (va_cpy ob br 0 0 8) := (fS18 (pl + 2) (off_nr (x := pl) (a := 2) (by decide))).trans e36
  have e38 : S20 (pl + 2) = oI g 8 (va_cpy ob br 0 0 8) := (fS20 (pl + 2) (off_nr (x := pl) (a := 2) (by decide))).trans e37
  have e39 : S22 (pl + 2) = oI g 8 (va_cpy ob br 0 0 8) := (fS22 (pl + 2) (off_nr (x := pl) (a := 2) (by decide))).trans e38
  have e40 : S24 (pl + 2) = oI g 8 (va_cpy ob br 0 0 8) := (fS24 (pl + 2) (off_nr (x := pl) (a := 2) (by decide))).trans e39
  have e41 : S26 (pl + 2) = oI g 8 (va_cpy ob br 0 0 8) := (fS26 (pl + 2) (off_nr (x := pl) (a := 2) (by decide))).trans e40
  have e42 : S16 (pl + 3) = oI g 8 (va_cpy os sl 0 0 8) := (fS16 (pl + 3) (off_nr (x := pl) (a := 3) (by decide))).trans hS13
  have e43 : S18 (pl + 3) = oI g 8 (va_cpy os sl 0 0 8) := (fS18 (pl + 3) (off_nr (x := pl) (a := 3) (by decide))).trans e42
  have e44 : S20 (pl + 3) = oI g 8 (va_cpy os sl 0 0 8) := (fS20 (pl + 3) (off_nr (x := pl) (a := 3) (by decide))).trans e43
  have e45 : S22 (pl + 3) = oI g 8 (va_cpy os sl 0 0 8) := (fS22 (pl + 3) (off_nr (x := pl) (a := 3) (by decide))).trans e44
  have e46 : S24 (pl + 3) = oI g 8 (va_cpy os sl 0 0 8) := (fS24 (pl + 3) (off_nr (x := pl) (a := 3) (by decide))).trans e45
  have e47 : S26 (pl + 3) = oI g 8 (va_cpy os sl 0 0 8) := (fS26 (pl + 3) (off_nr (x := pl) (a := 3) (by decide))).trans e46
  exact hret none _ S26 _ _ _ _ hw (⟨rfl, rfl, hS26, e34, e41, e47, fun bb hb0 hb1 hb2 hb3 => (((((((((fS26 bb hb0)).trans (fS24 bb hb0)).trans (fS22 bb hb0)).trans (fS20 bb hb0)).trans (fS18 bb hb0)).trans (fS16 bb hb0)).trans (fS13 bb hb3)).trans (fS6 bb hb2)).trans (fS1 bb hb1)⟩) ⟨rfl, dX5_copy_93⟩

set_option maxHeartbeats 4000000 in
set_option maxRecDepth 100000 in
theorem c_X5_placeFor (l : Launch) (g : gG) {n : Nat} {S : Nat → gE} {pl : Nat} {nH pHi pWi pLp pBk pHp : Int} {ln br : Nat → Int} {a b : Int} (hp : S pl = oO 5 [.ref (pl + 1), .ref (pl + 2), .ref (pl + 3), .int (iI nH), .int (iI pHi), .int (iI pWi), .int (iI pLp), .int (iI pBk), .int (iI pHp)]) (hln : S (pl + 1) = oI g 8 ln) (hbr : S (pl + 2) = oI g 8 br) (rH : 0 ≤ nH ∧ nH ≤ 8) (rl : ∀ i : Nat, (i : Int) < nH → (-1000000 ≤ ln i ∧ ln i ≤ 1000000) ∧ (-1000000 ≤ br i ∧ br i ≤ 1000000)) (ra : -1000000 ≤ a ∧ a ≤ 1000000) (rb : -1000000 ≤ b ∧ b ≤ 1000000) : g_Cp l yX5_placeFor wsX5_placeFor { frames := 0, cells := 0, slots := 0, locals := 0 } g [.ref pl, .int (iI a), .int (iI b)] n S (some (.int (iI (plI ln br a b nH.toNat)))) := by
  refine g_Cp.of (cc := cX5_placeFor) (maxL := 4) (ret := (some .int)) (by decide) rfl (Nat.le_of_ble_eq_true rfl) ?_
  intro pp ee s m below meth cK Q ls hc hnm hw hl hret
  have hl : lv_has ls 4 [(0, .ref pl), (1, .int (iI a)), (2, .int (iI b))] := hl
  have hiX5 : ∀ w ∈ u_ws RX5 TX5 9, w ∈ wsX5_placeFor := by decide +kernel
  have lk21 : Cond.fieldLink RX5 21 "RoofCourses$Plan" "heaps" "I" ∈ wsX5_placeFor := by decide +kernel
  have lk9 : Cond.fieldLink RX5 9 "RoofCourses$Plan" "length" "[I" ∈ wsX5_placeFor := by decide +kernel
  have lk15 : Cond.fieldLink RX5 15 "RoofCourses$Plan" "breadth" "[I" ∈ wsX5_placeFor := by decide +kernel
  have hrt : ∀ (pc : Nat) (ls : Array Slot) (xr : Int), decode cX5_placeFor pc = .ok (.ireturn, 1) → xr = (plI ln br a b nH.toNat) → W pp l ee ({ frames := 0, cells := 0, slots := 0, locals := 0 } : Room) s m ([.ref pl, .int (iI a), .int (iI b)] : List Value).toArray below meth cK s.heap [] 0 0 Q (F0 m pc ls [.int (iI xr)]) := fun pc ls xr d hx => by subst hx; exact hret pc ls ⟨_, rfl, rfl, d⟩
  refine nn_iconst hc dX5_placeFor_0 ?_
  refine lv_istore_n (lv' := [(3, .int (iI 0)), (0, .ref pl), (1, .int (iI a)), (2, .int (iI b))]) hc.1 hc.2.1 dX5_placeFor_1 rfl hl (by decide) rfl (fun ls hl => ?_)
  have lab2 : ∀ (fu2 : Nat) (h : Int) (ls : Array Slot), (0 ≤ h ∧ h ≤ nH) → (∀ i : Nat, (i : Int) < h → plQ ln br a b i = false) → (nH - h).toNat < fu2 → lv_has ls 4 [(3, .int (iI h)), (0, .ref pl), (1, .int (iI a)), (2, .int (iI b))] → W pp l ee ({ frames := 0, cells := 0, slots := 0, locals := 0 } : Room) s m ([.ref pl, .int (iI a), .int (iI b)] : List Value).toArray below meth cK s.heap [] 0 0 Q (F0 m 2 ls []) := by
    intro fu2
    induction fu2 with
    | zero =>
      intro h ls hh hv hmeas hl
      exact absurd hmeas (Nat.not_lt_zero _)
    | succ fu2 ih2 =>
      intro h ls hh hv hmeas hl
      refine lv_iload_n hc.1 hc.2.1 dX5_placeFor_2 rfl (lv_at hl 0 rfl) ?_
      refine lv_aload_n hc.1 hc.2.1 dX5_placeFor_3 rfl (lv_at hl 1 rfl) ?_
      refine nn_get hc hw hp hiX5 rfl 3 (by decide) rfl lk21 dX5_placeFor_4 ?_
      refine nn_icmp_ge hc dX5_placeFor_7 (tgt := 46) (by decide) (by omega) (by omega) (fun c1 => ?_) (fun c1 => ?_)
      · refine lv_iload_n hc.1 hc.2.1 dX5_placeFor_46 rfl (lv_at hl 0 rfl) ?_
        exact hrt _ _ _ dX5_placeFor_47 (by unfold plI; first | (rw [fstI_some (h := h.toNat) (by omega) (plQ_iff.mpr (by omega)) (fun i hi => hv i (by omega)), if_neg (by omega)]; omega) | (rw [if_pos (fstI_none.mpr (fun i hi => hv i (by omega)))]; omega))
      · have hr1 := rl h.toNat (by omega)
        refine lv_aload_n hc.1 hc.2.1 dX5_placeFor_10 rfl (lv_at hl 1 rfl) ?_
        refine nn_get hc hw hp hiX5 rfl 0 (by decide) rfl lk9 dX5_placeFor_11 ?_
        refine lv_iload_n hc.1 hc.2.1 dX5_placeFor_14 rfl (lv_at hl 0 rfl) ?_
        refine nn_iald hc hw hln (by omega) (by omega) dX5_placeFor_15 ?_
        refine lv_iload_n hc.1 hc.2.1 dX5_placeFor_16 rfl (lv_at hl 2 rfl) ?_
        refine nn_icmp_gt hc dX5_placeFor_17 (tgt := 40) (by decide) (by omega) (by omega) (fun c2 => ?_) (fun c2 => ?_)
        · refine nn_iinc (lv' := [(3, .int (iI (h + 1))), (0, .ref pl), (1, .int (iI a)), (2, .int (iI b))]) hc dX5_placeFor_40 hl (k0 := 0) rfl (by decide) rfl (fun ls hl => ?_)
          refine lv_goto hc.1 hc.2.1 dX5_placeFor_43 (tgt := 2) (by decide) ?_
          exact ih2 (h + 1) _ (by omega) (fun i hi => by rcases Nat.lt_or_ge i h.toNat with q | q; exact hv i (by omega); have e1 : i = h.toNat := (by omega); subst e1; exact plQ_f.mpr (by omega)) (by omega) (lv_sub hl [0, 1, 2, 3] rfl)
        · refine lv_aload_n hc.1 hc.2.1 dX5_placeFor_20 rfl (lv_at hl 1 rfl) ?_
          refine nn_get hc hw hp hiX5 rfl 0 (by decide) rfl lk9 dX5_placeFor_21 ?_
          refine lv_iload_n hc.1 hc.2.1 dX5_placeFor_24 rfl (lv_at hl 0 rfl) ?_
          refine nn_iald hc hw hln (by omega) (by omega) dX5_placeFor_25 ?_
          refine lv_iload_n hc.1 hc.2.1 dX5_placeFor_26 rfl (lv_at hl 2 rfl) ?_
          refine nn_icmp_ne hc dX5_placeFor_27 (tgt := 46) (by decide) (by omega) (by omega) (fun c3 => ?_) (fun c3 => ?_)
          · refine lv_iload_n hc.1 hc.2.1 dX5_placeFor_46 rfl (lv_at hl 0 rfl) ?_
            exact hrt _ _ _ dX5_placeFor_47 (by unfold plI; first | (rw [fstI_some (h := h.toNat) (by omega) (plQ_iff.mpr (by omega)) (fun i hi => hv i (by omega)), if_neg (by omega)]; omega) | (rw [if_pos (fstI_none.mpr (fun i hi => hv i (by omega)))]; omega))
          · refine lv_aload_n hc.1 hc.2.1 dX5_placeFor_30 rfl (lv_at hl 1 rfl) ?_
            refine nn_get hc hw hp hiX5 rfl 1 (by decide) rfl lk15 dX5_placeFor_31 ?_
            refine lv_iload_n hc.1 hc.2.1 dX5_placeFor_34 rfl (lv_at hl 0 rfl) ?_
            refine nn_iald hc hw hbr (by omega) (by omega) dX5_placeFor_35 ?_
            refine lv_iload_n hc.1 hc.2.1 dX5_placeFor_36 rfl (lv_at hl 3 rfl) ?_
            refine nn_icmp_le hc dX5_placeFor_37 (tgt := 46) (by decide) (by omega) (by omega) (fun c4 => ?_) (fun c4 => ?_)
            · refine lv_iload_n hc.1 hc.2.1 dX5_placeFor_46 rfl (lv_at hl 0 rfl) ?_
              exact hrt _ _ _ dX5_placeFor_47 (by unfold plI; first | (rw [fstI_some (h := h.toNat) (by omega) (plQ_iff.mpr (by omega)) (fun i hi => hv i (by omega)), if_neg (by omega)]; omega) | (rw [if_pos (fstI_none.mpr (fun i hi => hv i (by omega)))]; omega))
            · refine nn_iinc (lv' := [(3, .int (iI (h + 1))), (0, .ref pl), (1, .int (iI a)), (2, .int (iI b))]) hc dX5_placeFor_40 hl (k0 := 0) rfl (by decide) rfl (fun ls hl => ?_)
              refine lv_goto hc.1 hc.2.1 dX5_placeFor_43 (tgt := 2) (by decide) ?_
              exact ih2 (h + 1) _ (by omega) (fun i hi => by rcases Nat.lt_or_ge i h.toNat with q | q; exact hv i (by omega); have e1 : i = h.toNat := (by omega); subst e1; exact plQ_f.mpr (by omega)) (by omega) (lv_sub hl [0, 1, 2, 3] rfl)
  exact lab2 _ 0 _ (by omega) (fun i hi => absurd hi (by omega)) (Nat.lt_succ_self _) (lv_sub hl [0, 1, 2, 3] rfl)

set_option maxHeartbeats 4000000 in
set_option maxRecDepth 100000 in
theorem c_X5_insertHeap_no (l : Launch) (g : gG) {n : Nat} {S : Nat → gE} {pl : Nat} {nH pHi pWi pLp pBk pHp : Int} {p a b c : Int} (hp : S pl = oO 5 [.ref (pl + 1), .ref (pl + 2), .ref (pl + 3), .int (iI nH), .int (iI pHi), .int (iI pWi), .int (iI pLp), .int (iI pBk), .int (iI pHp)]) (rH : nH = 8) : g_Cp l yX5_insertHeap wsX5_insertHeap { frames := 0, cells := 0, slots := 0, locals := 0 } g [.ref pl, .int (iI p), .int (iI a), .int (iI b), .int (iI c)] n S (some (.int (iI 0))) := by
  refine g_Cp.of (cc := cX5_insertHeap) (maxL := 6) (ret := (some .boolean)) (by decide) rfl (Nat.le_of_ble_eq_true rfl) ?_
  intro pp ee s m below meth cK Q ls hc hnm hw hl hret
  have hl : lv_has ls 6 [(0, .ref pl), (1, .int (iI p)), (2, .int (iI a)), (3, .int (iI b)), (4, .int (iI c))] := hl
  have hiX5 : ∀ w ∈ u_ws RX5 TX5 9, w ∈ wsX5_insertHeap := by decide +kernel
  have lk21 : Cond.fieldLink RX5 21 "RoofCourses$Plan" "heaps" "I" ∈ wsX5_insertHeap := by decide +kernel
  have hrt : ∀ (pc : Nat) (ls : Array Slot) (xr : Int), decode cX5_insertHeap pc = .ok (.ireturn, 1) → xr = (0) → W pp l ee ({ frames := 0, cells := 0, slots := 0, locals := 0 } : Room) s m ([.ref pl, .int (iI p), .int (iI a), .int (iI b), .int (iI c)] : List Value).toArray below meth cK s.heap [] 0 0 Q (F0 m pc ls [.int (iI xr)]) := fun pc ls xr d hx => by subst hx; exact hret pc ls ⟨_, rfl, rfl, d⟩
  refine lv_aload_n hc.1 hc.2.1 dX5_insertHeap_0 rfl (lv_at hl 0 rfl) ?_
  refine nn_get hc hw hp hiX5 rfl 3 (by decide) rfl lk21 dX5_insertHeap_1 ?_
  refine nn_bipush hc dX5_insertHeap_4 (by decide +kernel) ?_
  refine nn_icmp_lt hc dX5_insertHeap_6 (tgt := 11) (by decide) (by omega) (by decide) (fun c1 => ?_) (fun c1 => ?_)
  · exfalso; omega
  · refine nn_iconst hc dX5_insertHeap_9 ?_
    exact hrt _ _ _ dX5_insertHeap_10 (by first | rfl | omega | (split <;> omega))

set_option maxHeartbeats 4000000 in
set_option maxRecDepth 100000 in
theorem c_X5_insertHeap_yes (l : Launch) (g : gG) {n : Nat} {S : Nat → gE} {pl : Nat} {nH pHi pWi pLp pBk pHp : Int} {ln br sl : Nat → Int} {p a b c : Int} (hp : S pl = oO 5 [.ref (pl + 1), .ref (pl + 2), .ref (pl + 3), .int (iI nH), .int (iI pHi), .int (iI pWi), .int (iI pLp), .int (iI pBk), .int (iI pHp)]) (hln : S (pl + 1) = oI g 8 ln) (hbr : S (pl + 2) = oI g 8 br) (hsl : S (pl + 3) = oI g 8 sl) (rH : 0 ≤ nH ∧ nH < 8) (rp : 0 ≤ p ∧ p ≤ nH) : g_Cs l yX5_insertHeap wsX5_insertHeap { frames := 0, cells := 0, slots := 0, locals := 0 } g [.ref pl, .int (iI p), .int (iI a), .int (iI b), .int (iI c)] n S (fun vr n1 S1 => vr = some (.int (iI 1)) ∧ n = n1 ∧ S1 pl = oO 5 [.ref (pl + 1), .ref (pl + 2), .ref (pl + 3), .int (iI (nH + 1)), .int (iI pHi), .int (iI pWi), .int (iI pLp), .int (iI pBk), .int (iI pHp)] ∧ S1 (pl + 1) = oI g 8 (insF ln p.toNat a nH.toNat) ∧ S1 (pl + 2) = oI g 8 (insF br p.toNat b nH.toNat) ∧ S1 (pl + 3) = oI g 8 (insF sl p.toNat c nH.toNat) ∧ (∀ bb, bb ≠ pl → bb ≠ (pl + 1) → bb ≠ (pl + 2) → bb ≠ (pl + 3) → S1 bb = S bb)) 0 0 := by
  refine g_Cs.of (cc := cX5_insertHeap) (maxL := 6) (ret := (some .boolean)) (by decide) rfl (Nat.le_of_ble_eq_true rfl) ?_
  intro pp ee s m below meth cK Q H locs ls hc hnm hw hl hret
  have hl : lv_has ls 6 [(0, .ref pl), (1, .int (iI p)), (2, .int (iI a)), (3, .int (iI b)), (4, .int (iI c))] := hl
  have hiX5 : ∀ w ∈ u_ws RX5 TX5 9, w ∈ wsX5_insertHeap := by decide +kernel
  have lk21 : Cond.fieldLink RX5 21 "RoofCourses$Plan" "heaps" "I" ∈ wsX5_insertHeap := by decide +kernel
  have lk9 : Cond.fieldLink RX5 9 "RoofCourses$Plan" "length" "[I" ∈ wsX5_insertHeap := by decide +kernel
  have lk15 : Cond.fieldLink RX5 15 "RoofCourses$Plan" "breadth" "[I" ∈ wsX5_insertHeap := by decide +kernel
  have lk18 : Cond.fieldLink RX5 18 "RoofCourses$Plan" "slates" "[I" ∈ wsX5_insertHeap := by decide +kernel
  refine lv_aload_n hc.1 hc.2.1 dX5_insertHeap_0 rfl (lv_at hl 0 rfl) ?_
  refine nn_get hc hw hp hiX5 rfl 3 (by decide) rfl lk21 dX5_insertHeap_1 ?_
  refine nn_bipush hc dX5_insertHeap_4 (by decide +kernel) ?_
  refine nn_icmp_lt hc dX5_insertHeap_6 (tgt := 11) (by decide) (by omega) (by decide) (fun c1 => ?_) (fun c1 => ?_)
  · refine lv_aload_n hc.1 hc.2.1 dX5_insertHeap_11 rfl (lv_at hl 0 rfl) ?_
    refine nn_get hc hw hp hiX5 rfl 3 (by decide) rfl lk21 dX5_insertHeap_12 ?_
    refine lv_istore (lv' := [(5, .int (iI nH)), (0, .ref pl), (1, .int (iI p)), (2, .int (iI a)), (3, .int (iI b)), (4, .int (iI c))]) hc.1 hc.2.1 dX5_insertHeap_15 hl (by decide) rfl (fun ls hl => ?_)
    have lab17 : ∀ (fu17 : Nat) (h : Int) (f1 : Nat → Int) (f2 : Nat → Int) (f3 : Nat → Int) (S2 : Nat → gE) (H : Heap) (locs : List Loc) (ls : Array Slot), (p ≤ h ∧ h ≤ nH) → (f1 = shD ln h.toNat nH.toNat ∧ f2 = shD br h.toNat nH.toNat ∧ f3 = shD sl h.toNat nH.toNat) → S2 (pl + 1) = oI g 8 f1 → S2 (pl + 2) = oI g 8 f2 → S2 (pl + 3) = oI g 8 f3 → (∀ bb, bb ≠ (pl + 1) → bb ≠ (pl + 2) → bb ≠ (pl + 3) → S2 bb = S bb) → g_W g n S2 s H locs → h.toNat < fu17 → lv_has ls 6 [(5, .int (iI h)), (0, .ref pl), (1, .int (iI p)), (2, .int (iI a)), (3, .int (iI b)), (4, .int (iI c))] → W pp l ee ({ frames := 0, cells := 0, slots := 0, locals := 0 } : Room) s m ([.ref pl, .int (iI p), .int (iI a), .int (iI b), .int (iI c)] : List Value).toArray below meth cK H locs 0 0 Q (F0 m 17 ls []) := by
      intro fu17
      induction fu17 with
      | zero =>
        intro h f1 f2 f3 S2 H locs ls hh hf hc17_0 hc17_1 hc17_2 fr17 hw hmeas hl
        exact absurd hmeas (Nat.not_lt_zero _)
      | succ fu17 ih17 =>
        intro h f1 f2 f3 S2 H locs ls hh hf hc17_0 hc17_1 hc17_2 fr17 hw hmeas hl
        refine lv_iload hc.1 hc.2.1 dX5_insertHeap_17 (lv_at hl 0 rfl) ?_
        refine lv_iload_n hc.1 hc.2.1 dX5_insertHeap_19 rfl (lv_at hl 2 rfl) ?_
        refine nn_icmp_le hc dX5_insertHeap_20 (tgt := 77) (by decide) (by omega) (by omega) (fun c3 => ?_) (fun c3 => ?_)
        · refine lv_aload_n hc.1 hc.2.1 dX5_insertHeap_77 rfl (lv_at hl 1 rfl) ?_
          have e4 : S2 pl = oO 5 [.ref (pl + 1), .ref (pl + 2), .ref (pl + 3), .int (iI nH), .int (iI pHi), .int (iI pWi), .int (iI pLp), .int (iI pBk), .int (iI pHp)] := (fr17 pl (off_nl (x := pl) (a := 1) (by decide)) (off_nl (x := pl) (a := 2) (by decide)) (off_nl (x := pl) (a := 3) (by decide))).trans hp
          refine nn_get hc hw e4 hiX5 rfl 0 (by decide) rfl lk9 dX5_insertHeap_78 ?_
          refine lv_iload_n hc.1 hc.2.1 dX5_insertHeap_81 rfl (lv_at hl 2 rfl) ?_
          refine lv_iload_n hc.1 hc.2.1 dX5_insertHeap_82 rfl (lv_at hl 3 rfl) ?_
          refine nn_iast hc hw hc17_0 (by omega) (by omega) dX5_insertHeap_83 (fun S5 H locs hS5 fS5 hw => ?_)
          refine lv_aload_n hc.1 hc.2.1 dX5_insertHeap_84 rfl (lv_at hl 1 rfl) ?_
          have e6 : S5 pl = oO 5 [.ref (pl + 1), .ref (pl + 2), .ref (pl + 3), .int (iI nH), .int (iI pHi), .int (iI pWi), .int (iI pLp), .int (iI pBk), .int (iI pHp)] := (fS5 pl (off_nl (x := pl) (a := 1) (by decide))).trans e4
          refine nn_get hc hw e6 hiX5 rfl 1 (by decide) rfl lk15 dX5_insertHeap_85 ?_
          refine lv_iload_n hc.1 hc.2.1 dX5_insertHeap_88 rfl (lv_at hl 2 rfl) ?_
          refine lv_iload_n hc.1 hc.2.1 dX5_insertHeap_89 rfl (lv_at hl 4 rfl) ?_
          have e7 : S5 (pl + 2) = oI g 8 f2 := (fS5 (pl + 2) (off_ne (x := pl) (a := 2) (b := 1) (by decide))).trans hc17_1
          refine nn_iast hc hw e7 (by omega) (by omega) dX5_insertHeap_90 (fun S8 H locs hS8 fS8 hw => ?_)
          refine lv_aload_n hc.1 hc.2.1 dX5_insertHeap_91 rfl (lv_at hl 1 rfl) ?_
          have e9 : S8 pl = oO 5 [.ref (pl + 1), .ref (pl + 2), .ref (pl + 3), .int (iI nH), .int (iI pHi), .int (iI pWi), .int (iI pLp), .int (iI pBk), .int (iI pHp)] := (fS8 pl (off_nl (x := pl) (a := 2) (by decide))).trans e6
          refine nn_get hc hw e9 hiX5 rfl 2 (by decide) rfl lk18 dX5_insertHeap_92 ?_
          refine lv_iload_n hc.1 hc.2.1 dX5_insertHeap_95 rfl (lv_at hl 2 rfl) ?_
          refine lv_iload hc.1 hc.2.1 dX5_insertHeap_96 (lv_at hl 5 rfl) ?_
          have e10 : S5 (pl + 3) = oI g 8 f3 := (fS5 (pl + 3) (off_ne (x := pl) (a := 3) (b := 1) (by decide))).trans hc17_2
          have e11 : S8 (pl + 3) = oI g 8 f3 := (fS8 (pl + 3) (off_ne (x := pl) (a := 3) (b := 2) (by decide))).trans e10
          refine nn_iast hc hw e11 (by omega) (by omega) dX5_insertHeap_98 (fun S12 H locs hS12 fS12 hw => ?_)
          refine lv_aload_n hc.1 hc.2.1 dX5_insertHeap_99 rfl (lv_at hl 1 rfl) ?_
          refine lv_dup hc.1 hc.2.1 dX5_insertHeap_100 rfl ?_
          have e13 : S12 pl = oO 5 [.ref (pl + 1), .ref (pl + 2), .ref (pl + 3), .int (iI nH), .int (iI pHi), .int (iI pWi), .int (iI pLp), .int (iI pBk), .int (iI pHp)] := (fS12 pl (off_nl (x := pl) (a := 3) (by decide))).trans e9
          refine nn_get hc hw e13 hiX5 rfl 3 (by decide) rfl lk21 dX5_insertHeap_101 ?_
          refine nn_iconst hc dX5_insertHeap_104 ?_
          refine nn_iadd hc dX5_insertHeap_105 ?_
          refine nn_put hc hw e13 hiX5 tyX5 tyX5_ok nmX5 rfl 3 (by decide) (Nat.le_of_ble_eq_true rfl) lk21 rfl rfl rfl dX5_insertHeap_106 (fun S14 H locs hS14 fS14 hw => ?_)
          have hS14 : S14 pl = oO 5 [.ref (pl + 1), .ref (pl + 2), .ref (pl + 3), .int (iI (nH + 1)), .int (iI pHi), .int (iI pWi), .int (iI pLp), .int (iI pBk), .int (iI pHp)] := hS14
          refine nn_iconst hc dX5_insertHeap_109 ?_
          have e15 : S8 (pl + 1) = oI g 8 (va_up f1 p.toNat a) := (fS8 (pl + 1) (off_ne (x := pl) (a := 1) (b := 2) (by decide))).trans hS5
          have e16 : S12 (pl + 1) = oI g 8 (va_up f1 p.toNat a) := (fS12 (pl + 1) (off_ne (x := pl) (a := 1) (b := 3) (by decide))).trans e15
          have e17 : S14 (pl + 1) = oI g 8 (va_up f1 p.toNat a) := (fS14 (pl + 1) (off_nr (x := pl) (a := 1) (by decide))).trans e16
          have e18 : S12 (pl + 2) = oI g 8 (va_up f2 p.toNat b) := (fS12 (pl + 2) (off_ne (x := pl) (a := 2) (b := 3) (by decide))).trans hS8
          have e19 : S14 (pl + 2) = oI g 8 (va_up f2 p.toNat b) := (fS14 (pl + 2) (off_nr (x := pl) (a := 2) (by decide))).trans e18
          have e20 : S14 (pl + 3) = oI g 8 (va_up f3 p.toNat c) := (fS14 (pl + 3) (off_nr (x := pl) (a := 3) (by decide))).trans hS12
          exact hret (some (.int (iI 1))) _ S14 _ _ _ _ hw (⟨rfl, rfl, hS14, (by rw [← shD_ins, show p.toNat = h.toNat by omega, ← hf.1, ← show p.toNat = h.toNat by omega]; exact e17), (by rw [← shD_ins, show p.toNat = h.toNat by omega, ← hf.2.1, ← show p.toNat = h.toNat by omega]; exact e19), (by rw [← shD_ins, show p.toNat = h.toNat by omega, ← hf.2.2, ← show p.toNat = h.toNat by omega]; exact e20), fun bb hb0 hb1 hb2 hb3 => (((((fS14 bb hb0)).trans (fS12 bb hb3)).trans (fS8 bb hb2)).trans (fS5 bb hb1)).trans (fr17 bb hb1 hb2 hb3)⟩) ⟨_, rfl, by first | rfl | exact nn_nb _, dX5_insertHeap_110⟩
        · refine lv_aload_n hc.1 hc.2.1 dX5_insertHeap_23 rfl (lv_at hl 1 rfl) ?_
          have e21 : S2 pl = oO 5 [.ref (pl + 1), .ref (pl + 2), .ref (pl + 3), .int (iI nH), .int (iI pHi), .int (iI pWi), .int (iI pLp), .int (iI pBk), .int (iI pHp)] := (fr17 pl (off_nl (x := pl) (a := 1) (by decide)) (off_nl (x := pl) (a := 2) (by decide)) (off_nl (x := pl) (a := 3) (by decide))).trans hp
          refine nn_get hc hw e21 hiX5 rfl 0 (by decide) rfl lk9 dX5_insertHeap_24 ?_
          refine lv_iload hc.1 hc.2.1 dX5_insertHeap_27 (lv_at hl 0 rfl) ?_
          refine lv_aload_n hc.1 hc.2.1 dX5_insertHeap_29 rfl (lv_at hl 1 rfl) ?_
          refine nn_get hc hw e21 hiX5 rfl 0 (by decide) rfl lk9 dX5_insertHeap_30 ?_
          refine lv_iload hc.1 hc.2.1 dX5_insertHeap_33 (lv_at hl 0 rfl) ?_
          refine nn_iconst hc dX5_insertHeap_35 ?_
          refine nn_isub hc dX5_insertHeap_36 ?_
          refine nn_iald hc hw hc17_0 (by omega) (by omega) dX5_insertHeap_37 ?_
          refine nn_iast hc hw hc17_0 (by omega) (by omega) dX5_insertHeap_38 (fun S22 H locs hS22 fS22 hw => ?_)
          refine lv_aload_n hc.1 hc.2.1 dX5_insertHeap_39 rfl (lv_at hl 1 rfl) ?_
          have e23 : S22 pl = oO 5 [.ref (pl + 1), .ref (pl + 2), .ref (pl + 3), .int (iI nH), .int (iI pHi), .int (iI pWi), .int (iI pLp), .int (iI pBk), .int (iI pHp)] := (fS22 pl (off_nl (x := pl) (a := 1) (by decide))).trans e21
          refine nn_get hc hw e23 hiX5 rfl 1 (by decide) rfl lk15 dX5_insertHeap_40 ?_
          refine lv_iload hc.1 hc.2.1 dX5_insertHeap_43 (lv_at hl 0 rfl) ?_
          refine lv_aload_n hc.1 hc.2.1 dX5_insertHeap_45 rfl (lv_at hl 1 rfl) ?_
          refine nn_get hc hw e23 hiX5 rfl 1 (by decide) rfl lk15 dX5_insertHeap_46 ?_
          refine lv_iload hc.1 hc.2.1 dX5_insertHeap_49 (lv_at hl 0 rfl) ?_
          refine nn_iconst hc dX5_insertHeap_51 ?_
          refine nn_isub hc dX5_insertHeap_52 ?_
          have e24 : S22 (pl + 2) = oI g 8 f2 := (fS22 (pl + 2) (off_ne (x := pl) (a := 2) (b := 1) (by decide))).trans hc17_1
          refine nn_iald hc hw e24 (by omega) (by omega) dX5_insertHeap_53 ?_
          refine nn_iast hc hw e24 (by omega) (by omega) dX5_insertHeap_54 (fun S25 H locs hS25 fS25 hw => ?_)
          refine lv_aload_n hc.1 hc.2.1 dX5_insertHeap_55 rfl (lv_at hl 1 rfl) ?_
          have e26 : S25 pl = oO 5 [.ref (pl + 1), .ref (pl + 2), .ref (pl + 3), .int (iI nH), .int (iI pHi), .int (iI pWi), .int (iI pLp), .int (iI pBk), .int (iI pHp)] := (fS25 pl (off_nl (x := pl) (a := 2) (by decide))).trans e23
          refine nn_get hc hw e26 hiX5 rfl 2 (by decide) rfl lk18 dX5_insertHeap_56 ?_
          refine lv_iload hc.1 hc.2.1 dX5_insertHeap_59 (lv_at hl 0 rfl) ?_
          refine lv_aload_n hc.1 hc.2.1 dX5_insertHeap_61 rfl (lv_at hl 1 rfl) ?_
          refine nn_get hc hw e26 hiX5 rfl 2 (by decide) rfl lk18 dX5_insertHeap_62 ?_
          refine lv_iload hc.1 hc.2.1 dX5_insertHeap_65 (lv_at hl 0 rfl) ?_
          refine nn_iconst hc dX5_insertHeap_67 ?_
          refine nn_isub hc dX5_insertHeap_68 ?_
          have e27 : S22 (pl + 3) = oI g 8 f3 := (fS22 (pl + 3) (off_ne (x := pl) (a := 3) (b := 1) (by decide))).trans hc17_2
          have e28 : S25 (pl + 3) = oI g 8 f3 := (fS25 (pl + 3) (off_ne (x := pl) (a := 3) (b := 2) (by decide))).trans e27
          refine nn_iald hc hw e28 (by omega) (by omega) dX5_insertHeap_69 ?_
          refine nn_iast hc hw e28 (by omega) (by omega) dX5_insertHeap_70 (fun S29 H locs hS29 fS29 hw => ?_)
          refine nn_iinc (lv' := [(5, .int (iI (h + (-1)))), (0, .ref pl), (1, .int (iI p)), (2, .int (iI a)), (3, .int (iI b)), (4, .int (iI c))]) hc dX5_insertHeap_71 hl (k0 := 0) rfl (by decide) rfl (fun ls hl => ?_)
          refine lv_goto hc.1 hc.2.1 dX5_insertHeap_74 (tgt := 17) (by decide) ?_
          have e30 : S25 (pl + 1) = oI g 8 (va_up f1 h.toNat (f1 (h - 1).toNat)) := (fS25 (pl + 1) (off_ne (x := pl) (a := 1) (b := 2) (by decide))).trans hS22
          have e31 : S29 (pl + 1) = oI g 8 (va_up f1 h.toNat (f1 (h - 1).toNat)) := (fS29 (pl + 1) (off_ne (x := pl) (a := 1) (b := 3) (by decide))).trans e30
          have e32 : S29 (pl + 2) = oI g 8 (va_up f2 h.toNat (f2 (h - 1).toNat)) := (fS29 (pl + 2) (off_ne (x := pl) (a := 2) (b := 3) (by decide))).trans hS25
          exact ih17 (h + (-1)) (va_up f1 h.toNat (f1 (h - 1).toNat)) (va_up f2 h.toNat (f2 (h - 1).toNat)) (va_up f3 h.toNat (f3 (h - 1).toNat)) S29 _ _ _ (by omega) (by rw [hf.1, hf.2.1, hf.2.2, show (h - 1).toNat = h.toNat - 1 by omega, show (h + -1).toNat = h.toNat - 1 by omega, shD_s (by omega) (by omega), shD_s (by omega) (by omega), shD_s (by omega) (by omega)]; exact ⟨rfl, rfl, rfl⟩) e31 e32 hS29 (fun bb hb0 hb1 hb2 => ((((fS29 bb hb2)).trans (fS25 bb hb1)).trans (fS22 bb hb0)).trans (fr17 bb hb0 hb1 hb2)) hw (by omega) (lv_sub hl [0, 1, 2, 3, 4, 5] rfl)
    exact lab17 _ nH ln br sl S _ _ _ (by omega) (⟨(shD_0 ln _).symm, (shD_0 br _).symm, (shD_0 sl _).symm⟩) hln hbr hsl (fun bb _ _ _ => rfl) hw (Nat.lt_succ_self _) (lv_sub hl [0, 1, 2, 3, 4, 5] rfl)
  · exfalso; omega

set_option maxHeartbeats 4000000 in
set_option maxRecDepth 100000 in
theorem c_X5_takeSlates_yes (l : Launch) (g : gG) {n : Nat} {S : Nat → gE} {pl : Nat} {nH pHi pWi pLp pBk pHp : Int} {ln br sl : Nat → Int} {a b c : Int} {P1 : pT} (hp : S pl = oO 5 [.ref (pl + 1), .ref (pl + 2), .ref (pl + 3), .int (iI nH), .int (iI pHi), .int (iI pWi), .int (iI pLp), .int (iI pBk), .int (iI pHp)]) (hln : S (pl + 1) = oI g 8 ln) (hbr : S (pl + 2) = oI g 8 br) (hsl : S (pl + 3) = oI g 8 sl) (rH : 0 ≤ nH ∧ nH ≤ 8) (rl : ∀ i : Nat, (i : Int) < nH → (-1000000 ≤ ln i ∧ ln i ≤ 1000000) ∧ (-1000000 ≤ br i ∧ br i ≤ 1000000)) (rs : ∀ i : Nat, (i : Int) < nH → -1000000 ≤ sl i ∧ sl i ≤ 1000000) (ra : -1000 ≤ a ∧ a ≤ 1000000) (rb : -1000 ≤ b ∧ b ≤ 1000000) (rc : -1000 ≤ c ∧ c ≤ 1000000) (hr : (20 ≤ a ∧ a ≤ 60) ∧ (10 ≤ b ∧ b ≤ 60) ∧ (1 ≤ c ∧ c ≤ 99)) (had : addC (nH, ln, br, sl, pHi, pWi, pLp, pBk, pHp) a b c = some P1) : g_Cs l yX5_takeSlates wsX5_takeSlates { frames := 1, cells := 0, slots := 0, locals := 25 } g [.ref pl, .int (iI a), .int (iI b), .int (iI c)] n S (fun vr n1 S1 => vr = some (.int (iI 1)) ∧ n = n1 ∧ S1 pl = oO 5 [.ref (pl + 1), .ref (pl + 2), .ref (pl + 3), .int (iI P1.1), .int (iI P1.2.2.2.2.1), .int (iI P1.2.2.2.2.2.1), .int (iI P1.2.2.2.2.2.2.1), .int (iI P1.2.2.2.2.2.2.2.1), .int (iI P1.2.2.2.2.2.2.2.2)] ∧ S1 (pl + 1) = oI g 8 P1.2.1 ∧ S1 (pl + 2) = oI g 8 P1.2.2.1 ∧ S1 (pl + 3) = oI g 8 P1.2.2.2.1 ∧ (∀ bb, bb ≠ pl → bb ≠ (pl + 1) → bb ≠ (pl + 2) → bb ≠ (pl + 3) → S1 bb = S bb)) 0 0 := by
  refine g_Cs.of (cc := cX5_takeSlates) (maxL := 5) (ret := (some .boolean)) (by decide) rfl (Nat.le_of_ble_eq_true rfl) ?_
  intro pp ee s m below meth cK Q H locs ls hc hnm hw hl hret
  have hl : lv_has ls 5 [(0, .ref pl), (1, .int (iI a)), (2, .int (iI b)), (3, .int (iI c))] := hl
  have hiX5 : ∀ w ∈ u_ws RX5 TX5 9, w ∈ wsX5_takeSlates := by decide +kernel
  have lkI_X8 : Cond.initialized RX8 ∈ wsX5_takeSlates := by decide +kernel
  have lkSt_X8_isWithin : Cond.static yX8_isWithin ∈ wsX5_takeSlates := by decide +kernel
  have lk21 : Cond.fieldLink RX5 21 "RoofCourses$Plan" "heaps" "I" ∈ wsX5_takeSlates := by decide +kernel
  have lk9 : Cond.fieldLink RX5 9 "RoofCourses$Plan" "length" "[I" ∈ wsX5_takeSlates := by decide +kernel
  have lk15 : Cond.fieldLink RX5 15 "RoofCourses$Plan" "breadth" "[I" ∈ wsX5_takeSlates := by decide +kernel
  have lk18 : Cond.fieldLink RX5 18 "RoofCourses$Plan" "slates" "[I" ∈ wsX5_takeSlates := by decide +kernel
  refine lv_iload_n hc.1 hc.2.1 dX5_takeSlates_0 rfl (lv_at hl 1 rfl) ?_
  refine nn_bipush hc dX5_takeSlates_1 (by decide +kernel) ?_
  refine nn_bipush hc dX5_takeSlates_3 (by decide +kernel) ?_
  refine nn_SpN (As := [.int (iI a), .int (iI 20), .int (iI 60)]) (st := []) hc hw (c_X8_isWithin l g   (by omega) (by omega) (by omega)) (va_cnB (own := RX5) (index := 61) (y := yX8_isWithin) (host := "RoofCourses") 3 hc.2.2.2.2 gX5_takeSlates_X8_isWithin_n61 rfl rfl rfl (g_nw hw (RX5, 61, yX8_isWithin) (by decide +kernel)) (hc.2.2.2.2 _ lkI_X8) (by decide +kernel) ⟨Nat.le_of_ble_eq_true rfl, Nat.le_of_ble_eq_true rfl⟩) lkSt_X8_isWithin rfl hl.1 rfl (Nat.le_of_ble_eq_true rfl) ⟨Nat.le_of_ble_eq_true rfl, Nat.le_of_ble_eq_true rfl⟩ dX5_takeSlates_5 ?_
  refine W.eq (g2 := F0 m 8 ls [.int (iI (if 20 ≤ a ∧ a ≤ 60 then 1 else 0))]) rfl ?_
  refine nn_if_eq hc dX5_takeSlates_8 (tgt := 32) (by decide) (by omega) (fun c1 => ?_) (fun c1 => ?_)
  · exfalso; omega
  · refine lv_iload_n hc.1 hc.2.1 dX5_takeSlates_11 rfl (lv_at hl 2 rfl) ?_
    refine nn_bipush hc dX5_takeSlates_12 (by decide +kernel) ?_
    refine nn_bipush hc dX5_takeSlates_14 (by decide +kernel) ?_
    refine nn_SpN (As := [.int (iI b), .int (iI 10), .int (iI 60)]) (st := []) hc hw (c_X8_isWithin l g   (by omega) (by omega) (by omega)) (va_cnB (own := RX5) (index := 61) (y := yX8_isWithin) (host := "RoofCourses") 3 hc.2.2.2.2 gX5_takeSlates_X8_isWithin_n61 rfl rfl rfl (g_nw hw (RX5, 61, yX8_isWithin) (by decide +kernel)) (hc.2.2.2.2 _ lkI_X8) (by decide +kernel) ⟨Nat.le_of_ble_eq_true rfl, Nat.le_of_ble_eq_true rfl⟩) lkSt_X8_isWithin rfl hl.1 rfl (Nat.le_of_ble_eq_true rfl) ⟨Nat.le_of_ble_eq_true rfl, Nat.le_of_ble_eq_true rfl⟩ dX5_takeSlates_16 ?_
    refine W.eq (g2 := F0 m 19 ls [.int (iI (if 10 ≤ b ∧ b ≤ 60 then 1 else 0))]) rfl ?_
    refine nn_if_eq hc dX5_takeSlates_19 (tgt := 32) (by decide) (by omega) (fun c2 => ?_) (fun c2 => ?_)
    · exfalso; omega
    · refine lv_iload_n hc.1 hc.2.1 dX5_takeSlates_22 rfl (lv_at hl 3 rfl) ?_
      refine nn_iconst hc dX5_takeSlates_23 ?_
      refine nn_bipush hc dX5_takeSlates_24 (by decide +kernel) ?_
      refine nn_SpN (As := [.int (iI c), .int (iI 1), .int (iI 99)]) (st := []) hc hw (c_X8_isWithin l g   (by omega) (by omega) (by omega)) (va_cnB (own := RX5) (index := 61) (y := yX8_isWithin) (host := "RoofCourses") 3 hc.2.2.2.2 gX5_takeSlates_X8_isWithin_n61 rfl rfl rfl (g_nw hw (RX5, 61, yX8_isWithin) (by decide +kernel)) (hc.2.2.2.2 _ lkI_X8) (by decide +kernel) ⟨Nat.le_of_ble_eq_true rfl, Nat.le_of_ble_eq_true rfl⟩) lkSt_X8_isWithin rfl hl.1 rfl (Nat.le_of_ble_eq_true rfl) ⟨Nat.le_of_ble_eq_true rfl, Nat.le_of_ble_eq_true rfl⟩ dX5_takeSlates_26 ?_
      refine W.eq (g2 := F0 m 29 ls [.int (iI (if 1 ≤ c ∧ c ≤ 99 then 1 else 0))]) rfl ?_
      refine nn_if_ne hc dX5_takeSlates_29 (tgt := 34) (by decide) (by omega) (fun c3 => ?_) (fun c3 => ?_)
      · have hpl := plI_r ln br a b nH.toNat
        refine lv_aload_n hc.1 hc.2.1 dX5_takeSlates_34 rfl (lv_at hl 0 rfl) ?_
        refine lv_iload_n hc.1 hc.2.1 dX5_takeSlates_35 rfl (lv_at hl 1 rfl) ?_
        refine lv_iload_n hc.1 hc.2.1 dX5_takeSlates_36 rfl (lv_at hl 2 rfl) ?_
        refine nn_Vp (As := [.int (iI a), .int (iI b)]) (st := []) hc hw hp rfl (c_X5_placeFor l g  hp hln hbr (by omega) (rl) (by omega) (by omega)) (cwV 2 hc.2.2.2.2 gX5_takeSlates_X5_placeFor rfl rfl rfl (by decide +kernel) ⟨Nat.le_of_ble_eq_true rfl, Nat.le_of_ble_eq_true rfl⟩) rfl hl.1 rfl (Nat.le_of_ble_eq_true rfl) ⟨Nat.le_of_ble_eq_true rfl, Nat.le_of_ble_eq_true rfl⟩ dX5_takeSlates_37 ?_
        refine W.eq (g2 := F0 m 40 ls [.int (iI (plI ln br a b nH.toNat))]) rfl ?_
        refine nn_name (fun xp exp => ?_)
        refine lv_istore (lv' := [(4, .int (iI xp)), (0, .ref pl), (1, .int (iI a)), (2, .int (iI b)), (3, .int (iI c))]) hc.1 hc.2.1 dX5_takeSlates_40 hl (by decide) rfl (fun ls hl => ?_)
        refine lv_iload hc.1 hc.2.1 dX5_takeSlates_42 (lv_at hl 0 rfl) ?_
        refine lv_aload_n hc.1 hc.2.1 dX5_takeSlates_44 rfl (lv_at hl 1 rfl) ?_
        refine nn_get hc hw hp hiX5 rfl 3 (by decide) rfl lk21 dX5_takeSlates_45 ?_
        refine nn_icmp_ge hc dX5_takeSlates_48 (tgt := 103) (by decide) (by omega) (by omega) (fun c4 => ?_) (fun c4 => ?_)
        · have hno : ¬ (xp < nH ∧ ln xp.toNat = a ∧ br xp.toNat = b) := by omega
          have h8 : nH < 8 := Classical.byContradiction fun z => absurd had (by unfold addC; simp only []; rw [← exp, if_neg hno, if_neg z]; exact fun z => by cases z)
          have hq : some (nH + 1, insF ln xp.toNat a nH.toNat, insF br xp.toNat b nH.toNat, insF sl xp.toNat c nH.toNat, pHi, pWi, pLp, pBk, pHp) = some P1 := by rw [← had]; unfold addC; simp only []; rw [← exp, if_neg hno, if_pos h8]
          obtain rfl := Option.some.inj hq
          refine lv_aload_n hc.1 hc.2.1 dX5_takeSlates_103 rfl (lv_at hl 1 rfl) ?_
          refine lv_iload hc.1 hc.2.1 dX5_takeSlates_104 (lv_at hl 0 rfl) ?_
          refine lv_iload_n hc.1 hc.2.1 dX5_takeSlates_106 rfl (lv_at hl 2 rfl) ?_
          refine lv_iload_n hc.1 hc.2.1 dX5_takeSlates_107 rfl (lv_at hl 3 rfl) ?_
          refine lv_iload_n hc.1 hc.2.1 dX5_takeSlates_108 rfl (lv_at hl 4 rfl) ?_
          refine nn_Vs (As := [.int (iI xp), .int (iI a), .int (iI b), .int (iI c)]) (st := []) hc hw hp rfl (c_X5_insertHeap_yes l g  hp hln hbr hsl (by omega) (by omega)) (cwV 4 hc.2.2.2.2 gX5_takeSlates_X5_insertHeap rfl rfl rfl (by decide +kernel) ⟨Nat.le_of_ble_eq_true rfl, Nat.le_of_ble_eq_true rfl⟩) rfl hl.1 rfl (Nat.le_of_ble_eq_true rfl) ⟨Nat.le_of_ble_eq_true rfl, Nat.le_of_ble_eq_true rfl⟩ dX5_takeSlates_109 (fun vr n1 S5 H locs qS5 hw => ?_)
          obtain ⟨rfl, rfl, hS5_0, hS5_1, hS5_2, hS5_3, fS5⟩ := qS5
          refine W.eq (g2 := F0 m 112 ls [.int (iI 1)]) rfl ?_
          exact hret (some (.int (iI 1))) _ S5 _ _ _ _ hw (⟨rfl, rfl, hS5_0, hS5_1, hS5_2, hS5_3, fun bb hb0 hb1 hb2 hb3 => (fS5 bb hb0 hb1 hb2 hb3)⟩) ⟨_, rfl, by first | rfl | exact nn_nb _, dX5_takeSlates_112⟩
        · have hr1 := rl xp.toNat (by omega)
          refine lv_aload_n hc.1 hc.2.1 dX5_takeSlates_51 rfl (lv_at hl 1 rfl) ?_
          refine nn_get hc hw hp hiX5 rfl 0 (by decide) rfl lk9 dX5_takeSlates_52 ?_
          refine lv_iload hc.1 hc.2.1 dX5_takeSlates_55 (lv_at hl 0 rfl) ?_
          refine nn_iald hc hw hln (by omega) (by omega) dX5_takeSlates_57 ?_
          refine lv_iload_n hc.1 hc.2.1 dX5_takeSlates_58 rfl (lv_at hl 2 rfl) ?_
          refine nn_icmp_ne hc dX5_takeSlates_59 (tgt := 103) (by decide) (by omega) (by omega) (fun c6 => ?_) (fun c6 => ?_)
          · have hno : ¬ (xp < nH ∧ ln xp.toNat = a ∧ br xp.toNat = b) := by omega
            have h8 : nH < 8 := Classical.byContradiction fun z => absurd had (by unfold addC; simp only []; rw [← exp, if_neg hno, if_neg z]; exact fun z => by cases z)
            have hq : some (nH + 1, insF ln xp.toNat a nH.toNat, insF br xp.toNat b nH.toNat, insF sl xp.toNat c nH.toNat, pHi, pWi, pLp, pBk, pHp) = some P1 := by rw [← had]; unfold addC; simp only []; rw [← exp, if_neg hno, if_pos h8]
            obtain rfl := Option.some.inj hq
            refine lv_aload_n hc.1 hc.2.1 dX5_takeSlates_103 rfl (lv_at hl 1 rfl) ?_
            refine lv_iload hc.1 hc.2.1 dX5_takeSlates_104 (lv_at hl 0 rfl) ?_
            refine lv_iload_n hc.1 hc.2.1 dX5_takeSlates_106 rfl (lv_at hl 2 rfl) ?_
            refine lv_iload_n hc.1 hc.2.1 dX5_takeSlates_107 rfl (lv_at hl 3 rfl) ?_
            refine lv_iload_n hc.1 hc.2.1 dX5_takeSlates_108 rfl (lv_at hl 4 rfl) ?_
            refine nn_Vs (As := [.int (iI xp), .int (iI a), .int (iI b), .int (iI c)]) (st := []) hc hw hp rfl (c_X5_insertHeap_yes l g  hp hln hbr hsl (by omega) (by omega)) (cwV 4 hc.2.2.2.2 gX5_takeSlates_X5_insertHeap rfl rfl rfl (by decide +kernel) ⟨Nat.le_of_ble_eq_true rfl, Nat.le_of_ble_eq_true rfl⟩) rfl hl.1 rfl (Nat.le_of_ble_eq_true rfl) ⟨Nat.le_of_ble_eq_true rfl, Nat.le_of_ble_eq_true rfl⟩ dX5_takeSlates_109 (fun vr n1 S7 H locs qS7 hw => ?_)
            obtain ⟨rfl, rfl, hS7_0, hS7_1, hS7_2, hS7_3, fS7⟩ := qS7
            refine W.eq (g2 := F0 m 112 ls [.int (iI 1)]) rfl ?_
            exact hret (some (.int (iI 1))) _ S7 _ _ _ _ hw (⟨rfl, rfl, hS7_0, hS7_1, hS7_2, hS7_3, fun bb hb0 hb1 hb2 hb3 => (fS7 bb hb0 hb1 hb2 hb3)⟩) ⟨_, rfl, by first | rfl | exact nn_nb _, dX5_takeSlates_112⟩
          · refine lv_aload_n hc.1 hc.2.1 dX5_takeSlates_62 rfl (lv_at hl 1 rfl) ?_
            refine nn_get hc hw hp hiX5 rfl 1 (by decide) rfl lk15 dX5_takeSlates_63 ?_
            refine lv_iload hc.1 hc.2.1 dX5_takeSlates_66 (lv_at hl 0 rfl) ?_
            refine nn_iald hc hw hbr (by omega) (by omega) dX5_takeSlates_68 ?_
            refine lv_iload_n hc.1 hc.2.1 dX5_takeSlates_69 rfl (lv_at hl 3 rfl) ?_
            refine nn_icmp_ne hc dX5_takeSlates_70 (tgt := 103) (by decide) (by omega) (by omega) (fun c8 => ?_) (fun c8 => ?_)
            · have hno : ¬ (xp < nH ∧ ln xp.toNat = a ∧ br xp.toNat = b) := by omega
              have h8 : nH < 8 := Classical.byContradiction fun z => absurd had (by unfold addC; simp only []; rw [← exp, if_neg hno, if_neg z]; exact fun z => by cases z)
              have hq : some (nH + 1, insF ln xp.toNat a nH.toNat, insF br xp.toNat b nH.toNat, insF sl xp.toNat c nH.toNat, pHi, pWi, pLp, pBk, pHp) = some P1 := by rw [← had]; unfold addC; simp only []; rw [← exp, if_neg hno, if_pos h8]
              obtain rfl := Option.some.inj hq
              refine lv_aload_n hc.1 hc.2.1 dX5_takeSlates_103 rfl (lv_at hl 1 rfl) ?_
              refine lv_iload hc.1 hc.2.1 dX5_takeSlates_104 (lv_at hl 0 rfl) ?_
              refine lv_iload_n hc.1 hc.2.1 dX5_takeSlates_106 rfl (lv_at hl 2 rfl) ?_
              refine lv_iload_n hc.1 hc.2.1 dX5_takeSlates_107 rfl (lv_at hl 3 rfl) ?_
              refine lv_iload_n hc.1 hc.2.1 dX5_takeSlates_108 rfl (lv_at hl 4 rfl) ?_
              refine nn_Vs (As := [.int (iI xp), .int (iI a), .int (iI b), .int (iI c)]) (st := []) hc hw hp rfl (c_X5_insertHeap_yes l g  hp hln hbr hsl (by omega) (by omega)) (cwV 4 hc.2.2.2.2 gX5_takeSlates_X5_insertHeap rfl rfl rfl (by decide +kernel) ⟨Nat.le_of_ble_eq_true rfl, Nat.le_of_ble_eq_true rfl⟩) rfl hl.1 rfl (Nat.le_of_ble_eq_true rfl) ⟨Nat.le_of_ble_eq_true rfl, Nat.le_of_ble_eq_true rfl⟩ dX5_takeSlates_109 (fun vr n1 S9 H locs qS9 hw => ?_)
              obtain ⟨rfl, rfl, hS9_0, hS9_1, hS9_2, hS9_3, fS9⟩ := qS9
              refine W.eq (g2 := F0 m 112 ls [.int (iI 1)]) rfl ?_
              exact hret (some (.int (iI 1))) _ S9 _ _ _ _ hw (⟨rfl, rfl, hS9_0, hS9_1, hS9_2, hS9_3, fun bb hb0 hb1 hb2 hb3 => (fS9 bb hb0 hb1 hb2 hb3)⟩) ⟨_, rfl, by first | rfl | exact nn_nb _, dX5_takeSlates_112⟩
            · have hs1 := rs xp.toNat (by omega)
              refine lv_aload_n hc.1 hc.2.1 dX5_takeSlates_73 rfl (lv_at hl 1 rfl) ?_
              refine nn_get hc hw hp hiX5 rfl 2 (by decide) rfl lk18 dX5_takeSlates_74 ?_
              refine lv_iload hc.1 hc.2.1 dX5_takeSlates_77 (lv_at hl 0 rfl) ?_
              refine lv_dup2_11 hc.1 hc.2.1 dX5_takeSlates_79 rfl rfl ?_
              refine nn_iald hc hw hsl (by omega) (by omega) dX5_takeSlates_80 ?_
              refine lv_iload_n hc.1 hc.2.1 dX5_takeSlates_81 rfl (lv_at hl 4 rfl) ?_
              refine nn_iadd hc dX5_takeSlates_82 ?_
              refine nn_iast hc hw hsl (by omega) (by omega) dX5_takeSlates_83 (fun S10 H locs hS10 fS10 hw => ?_)
              refine lv_aload_n hc.1 hc.2.1 dX5_takeSlates_84 rfl (lv_at hl 1 rfl) ?_
              have e11 : S10 pl = oO 5 [.ref (pl + 1), .ref (pl + 2), .ref (pl + 3), .int (iI nH), .int (iI pHi), .int (iI pWi), .int (iI pLp), .int (iI pBk), .int (iI pHp)] := (fS10 pl (off_nl (x := pl) (a := 3) (by decide))).trans hp
              refine nn_get hc hw e11 hiX5 rfl 2 (by decide) rfl lk18 dX5_takeSlates_85 ?_
              refine lv_iload hc.1 hc.2.1 dX5_takeSlates_88 (lv_at hl 0 rfl) ?_
              refine nn_iald hc hw hS10 (by omega) (by omega) dX5_takeSlates_90 ?_
              refine nn_sipush hc dX5_takeSlates_91 (by decide +kernel) ?_
              refine nn_icmp_gt hc dX5_takeSlates_94 (tgt := 101) (by decide) (by simp only [va_up_self]; omega) (by decide) (fun c12 => ?_) (fun c12 => ?_)
              · exact absurd had (by unfold addC; simp only []; rw [← exp, if_pos (by omega), if_neg (by simp only [va_up_self] at c12; omega)]; exact fun z => by cases z)
              · have hle := c12
                have hq : some (nH, ln, br, va_up sl xp.toNat (sl xp.toNat + c), pHi, pWi, pLp, pBk, pHp) = some P1 := by rw [← had]; unfold addC; simp only []; rw [← exp, if_pos (by omega), if_pos (by simp only [va_up_self] at hle; omega)]
                obtain rfl := Option.some.inj hq
                refine nn_iconst hc dX5_takeSlates_97 ?_
                refine lv_goto hc.1 hc.2.1 dX5_takeSlates_98 (tgt := 102) (by decide) ?_
                have e13 : S10 (pl + 1) = oI g 8 ln := (fS10 (pl + 1) (off_ne (x := pl) (a := 1) (b := 3) (by decide))).trans hln
                have e14 : S10 (pl + 2) = oI g 8 br := (fS10 (pl + 2) (off_ne (x := pl) (a := 2) (b := 3) (by decide))).trans hbr
                exact hret (some (.int (iI 1))) _ S10 _ _ _ _ hw (⟨rfl, rfl, e11, e13, e14, hS10, fun bb hb0 hb1 hb2 hb3 => (fS10 bb hb3)⟩) ⟨_, rfl, by first | rfl | exact nn_nb _, dX5_takeSlates_102⟩
      · exfalso; omega

set_option maxHeartbeats 4000000 in
set_option maxRecDepth 100000 in
theorem c_X5_takeSlates_no (l : Launch) (g : gG) {n : Nat} {S : Nat → gE} {pl : Nat} {nH pHi pWi pLp pBk pHp : Int} {ln br sl : Nat → Int} {a b c : Int} (hp : S pl = oO 5 [.ref (pl + 1), .ref (pl + 2), .ref (pl + 3), .int (iI nH), .int (iI pHi), .int (iI pWi), .int (iI pLp), .int (iI pBk), .int (iI pHp)]) (hln : S (pl + 1) = oI g 8 ln) (hbr : S (pl + 2) = oI g 8 br) (hsl : S (pl + 3) = oI g 8 sl) (rH : 0 ≤ nH ∧ nH ≤ 8) (rl : ∀ i : Nat, (i : Int) < nH → (-1000000 ≤ ln i ∧ ln i ≤ 1000000) ∧ (-1000000 ≤ br i ∧ br i ≤ 1000000)) (rs : ∀ i : Nat, (i : Int) < nH → -1000000 ≤ sl i ∧ sl i ≤ 1000000) (ra : -1000 ≤ a ∧ a ≤ 1000000) (rb : -1000 ≤ b ∧ b ≤ 1000000) (rc : -1000 ≤ c ∧ c ≤ 1000000) (hno0 : ¬ ((20 ≤ a ∧ a ≤ 60) ∧ (10 ≤ b ∧ b ≤ 60) ∧ (1 ≤ c ∧ c ≤ 99)) ∨ addC (nH, ln, br, sl, pHi, pWi, pLp, pBk, pHp) a b c = none) : g_Cs l yX5_takeSlates wsX5_takeSlates { frames := 1, cells := 0, slots := 0, locals := 25 } g [.ref pl, .int (iI a), .int (iI b), .int (iI c)] n S (fun vr n1 S1 => vr = some (.int (iI 0)) ∧ n = n1 ∧ gbP g S1 pl ∧ (∀ bb, bb ≠ pl → bb ≠ (pl + 1) → bb ≠ (pl + 2) → bb ≠ (pl + 3) → S1 bb = S bb)) 0 0 := by
  refine g_Cs.of (cc := cX5_takeSlates) (maxL := 5) (ret := (some .boolean)) (by decide) rfl (Nat.le_of_ble_eq_true rfl) ?_
  intro pp ee s m below meth cK Q H locs ls hc hnm hw hl hret
  have hl : lv_has ls 5 [(0, .ref pl), (1, .int (iI a)), (2, .int (iI b)), (3, .int (iI c))] := hl
  have hiX5 : ∀ w ∈ u_ws RX5 TX5 9, w ∈ wsX5_takeSlates := by decide +kernel
  have lkI_X8 : Cond.initialized RX8 ∈ wsX5_takeSlates := by decide +kernel
  have lkSt_X8_isWithin : Cond.static yX8_isWithin ∈ wsX5_takeSlates := by decide +kernel
  have lk21 : Cond.fieldLink RX5 21 "RoofCourses$Plan" "heaps" "I" ∈ wsX5_takeSlates := by decide +kernel
  have lk9 : Cond.fieldLink RX5 9 "RoofCourses$Plan" "length" "[I" ∈ wsX5_takeSlates := by decide +kernel
  have lk15 : Cond.fieldLink RX5 15 "RoofCourses$Plan" "breadth" "[I" ∈ wsX5_takeSlates := by decide +kernel
  have lk18 : Cond.fieldLink RX5 18 "RoofCourses$Plan" "slates" "[I" ∈ wsX5_takeSlates := by decide +kernel
  refine lv_iload_n hc.1 hc.2.1 dX5_takeSlates_0 rfl (lv_at hl 1 rfl) ?_
  refine nn_bipush hc dX5_takeSlates_1 (by decide +kernel) ?_
  refine nn_bipush hc dX5_takeSlates_3 (by decide +kernel) ?_
  refine nn_SpN (As := [.int (iI a), .int (iI 20), .int (iI 60)]) (st := []) hc hw (c_X8_isWithin l g   (by omega) (by omega) (by omega)) (va_cnB (own := RX5) (index := 61) (y := yX8_isWithin) (host := "RoofCourses") 3 hc.2.2.2.2 gX5_takeSlates_X8_isWithin_n61 rfl rfl rfl (g_nw hw (RX5, 61, yX8_isWithin) (by decide +kernel)) (hc.2.2.2.2 _ lkI_X8) (by decide +kernel) ⟨Nat.le_of_ble_eq_true rfl, Nat.le_of_ble_eq_true rfl⟩) lkSt_X8_isWithin rfl hl.1 rfl (Nat.le_of_ble_eq_true rfl) ⟨Nat.le_of_ble_eq_true rfl, Nat.le_of_ble_eq_true rfl⟩ dX5_takeSlates_5 ?_
  refine W.eq (g2 := F0 m 8 ls [.int (iI (if 20 ≤ a ∧ a ≤ 60 then 1 else 0))]) rfl ?_
  refine nn_if_eq hc dX5_takeSlates_8 (tgt := 32) (by decide) (by omega) (fun c1 => ?_) (fun c1 => ?_)
  · refine nn_iconst hc dX5_takeSlates_32 ?_
    exact hret (some (.int (iI 0))) _ S _ _ _ _ hw (⟨rfl, rfl, ⟨_, _, _, _, _, _, _, _, _, hp, hln, hbr, hsl⟩, fun bb _ _ _ _ => rfl⟩) ⟨_, rfl, by first | rfl | exact nn_nb _, dX5_takeSlates_33⟩
  · refine lv_iload_n hc.1 hc.2.1 dX5_takeSlates_11 rfl (lv_at hl 2 rfl) ?_
    refine nn_bipush hc dX5_takeSlates_12 (by decide +kernel) ?_
    refine nn_bipush hc dX5_takeSlates_14 (by decide +kernel) ?_
    refine nn_SpN (As := [.int (iI b), .int (iI 10), .int (iI 60)]) (st := []) hc hw (c_X8_isWithin l g   (by omega) (by omega) (by omega)) (va_cnB (own := RX5) (index := 61) (y := yX8_isWithin) (host := "RoofCourses") 3 hc.2.2.2.2 gX5_takeSlates_X8_isWithin_n61 rfl rfl rfl (g_nw hw (RX5, 61, yX8_isWithin) (by decide +kernel)) (hc.2.2.2.2 _ lkI_X8) (by decide +kernel) ⟨Nat.le_of_ble_eq_true rfl, Nat.le_of_ble_eq_true rfl⟩) lkSt_X8_isWithin rfl hl.1 rfl (Nat.le_of_ble_eq_true rfl) ⟨Nat.le_of_ble_eq_true rfl, Nat.le_of_ble_eq_true rfl⟩ dX5_takeSlates_16 ?_
    refine W.eq (g2 := F0 m 19 ls [.int (iI (if 10 ≤ b ∧ b ≤ 60 then 1 else 0))]) rfl ?_
    refine nn_if_eq hc dX5_takeSlates_19 (tgt := 32) (by decide) (by omega) (fun c2 => ?_) (fun c2 => ?_)
    · refine nn_iconst hc dX5_takeSlates_32 ?_
      exact hret (some (.int (iI 0))) _ S _ _ _ _ hw (⟨rfl, rfl, ⟨_, _, _, _, _, _, _, _, _, hp, hln, hbr, hsl⟩, fun bb _ _ _ _ => rfl⟩) ⟨_, rfl, by first | rfl | exact nn_nb _, dX5_takeSlates_33⟩
    · refine lv_iload_n hc.1 hc.2.1 dX5_takeSlates_22 rfl (lv_at hl 3 rfl) ?_
      refine nn_iconst hc dX5_takeSlates_23 ?_
      refine nn_bipush hc dX5_takeSlates_24 (by decide +kernel) ?_
      refine nn_SpN (As := [.int (iI c), .int (iI 1), .int (iI 99)]) (st := []) hc hw (c_X8_isWithin l g   (by omega) (by omega) (by omega)) (va_cnB (own := RX5) (index := 61) (y := yX8_isWithin) (host := "RoofCourses") 3 hc.2.2.2.2 gX5_takeSlates_X8_isWithin_n61 rfl rfl rfl (g_nw hw (RX5, 61, yX8_isWithin) (by decide +kernel)) (hc.2.2.2.2 _ lkI_X8) (by decide +kernel) ⟨Nat.le_of_ble_eq_true rfl, Nat.le_of_ble_eq_true rfl⟩) lkSt_X8_isWithin rfl hl.1 rfl (Nat.le_of_ble_eq_true rfl) ⟨Nat.le_of_ble_eq_true rfl, Nat.le_of_ble_eq_true rfl⟩ dX5_takeSlates_26 ?_
      refine W.eq (g2 := F0 m 29 ls [.int (iI (if 1 ≤ c ∧ c ≤ 99 then 1 else 0))]) rfl ?_
      refine nn_if_ne hc dX5_takeSlates_29 (tgt := 34) (by decide) (by omega) (fun c3 => ?_) (fun c3 => ?_)
      · have hpl := plI_r ln br a b nH.toNat
        have had : addC (nH, ln, br, sl, pHi, pWi, pLp, pBk, pHp) a b c = none := by rcases hno0 with z | z; exact absurd (by omega) z; exact z
        refine lv_aload_n hc.1 hc.2.1 dX5_takeSlates_34 rfl (lv_at hl 0 rfl) ?_
        refine lv_iload_n hc.1 hc.2.1 dX5_takeSlates_35 rfl (lv_at hl 1 rfl) ?_
        refine lv_iload_n hc.1 hc.2.1 dX5_takeSlates_36 rfl (lv_at hl 2 rfl) ?_
        refine nn_Vp (As := [.int (iI a), .int (iI b)]) (st := []) hc hw hp rfl (c_X5_placeFor l g  hp hln hbr (by omega) (rl) (by omega) (by omega)) (cwV 2 hc.2.2.2.2 gX5_takeSlates_X5_placeFor rfl rfl rfl (by decide +kernel) ⟨Nat.le_of_ble_eq_true rfl, Nat.le_of_ble_eq_true rfl⟩) rfl hl.1 rfl (Nat.le_of_ble_eq_true rfl) ⟨Nat.le_of_ble_eq_true rfl, Nat.le_of_ble_eq_true rfl⟩ dX5_takeSlates_37 ?_
        refine W.eq (g2 := F0 m 40 ls [.int (iI (plI ln br a b nH.toNat))]) rfl ?_
        refine nn_name (fun xp exp => ?_)
        refine lv_istore (lv' := [(4, .int (iI xp)), (0, .ref pl), (1, .int (iI a)), (2, .int (iI b)), (3, .int (iI c))]) hc.1 hc.2.1 dX5_takeSlates_40 hl (by decide) rfl (fun ls hl => ?_)
        refine lv_iload hc.1 hc.2.1 dX5_takeSlates_42 (lv_at hl 0 rfl) ?_
        refine lv_aload_n hc.1 hc.2.1 dX5_takeSlates_44 rfl (lv_at hl 1 rfl) ?_
        refine nn_get hc hw hp hiX5 rfl 3 (by decide) rfl lk21 dX5_takeSlates_45 ?_
        refine nn_icmp_ge hc dX5_takeSlates_48 (tgt := 103) (by decide) (by omega) (by omega) (fun c4 => ?_) (fun c4 => ?_)
        · have hno : ¬ (xp < nH ∧ ln xp.toNat = a ∧ br xp.toNat = b) := by omega
          have h8 : nH = 8 := Classical.byContradiction fun z => absurd had (by unfold addC; simp only []; rw [← exp, if_neg hno, if_pos (by omega)]; exact fun z => by cases z)
          refine lv_aload_n hc.1 hc.2.1 dX5_takeSlates_103 rfl (lv_at hl 1 rfl) ?_
          refine lv_iload hc.1 hc.2.1 dX5_takeSlates_104 (lv_at hl 0 rfl) ?_
          refine lv_iload_n hc.1 hc.2.1 dX5_takeSlates_106 rfl (lv_at hl 2 rfl) ?_
          refine lv_iload_n hc.1 hc.2.1 dX5_takeSlates_107 rfl (lv_at hl 3 rfl) ?_
          refine lv_iload_n hc.1 hc.2.1 dX5_takeSlates_108 rfl (lv_at hl 4 rfl) ?_
          refine nn_Vp (As := [.int (iI xp), .int (iI a), .int (iI b), .int (iI c)]) (st := []) hc hw hp rfl (c_X5_insertHeap_no l g  hp (by omega)) (cwV 4 hc.2.2.2.2 gX5_takeSlates_X5_insertHeap rfl rfl rfl (by decide +kernel) ⟨Nat.le_of_ble_eq_true rfl, Nat.le_of_ble_eq_true rfl⟩) rfl hl.1 rfl (Nat.le_of_ble_eq_true rfl) ⟨Nat.le_of_ble_eq_true rfl, Nat.le_of_ble_eq_true rfl⟩ dX5_takeSlates_109 ?_
          refine W.eq (g2 := F0 m 112 ls [.int (iI 0)]) rfl ?_
          exact hret (some (.int (iI 0))) _ S _ _ _ _ hw (⟨rfl, rfl, ⟨_, _, _, _, _, _, _, _, _, hp, hln, hbr, hsl⟩, fun bb _ _ _ _ => rfl⟩) ⟨_, rfl, by first | rfl | exact nn_nb _, dX5_takeSlates_112⟩
        · have hr1 := rl xp.toNat (by omega)
          refine lv_aload_n hc.1 hc.2.1 dX5_takeSlates_51 rfl (lv_at hl 1 rfl) ?_
          refine nn_get hc hw hp hiX5 rfl 0 (by decide) rfl lk9 dX5_takeSlates_52 ?_
          refine lv_iload hc.1 hc.2.1 dX5_takeSlates_55 (lv_at hl 0 rfl) ?_
          refine nn_iald hc hw hln (by omega) (by omega) dX5_takeSlates_57 ?_
          refine lv_iload_n hc.1 hc.2.1 dX5_takeSlates_58 rfl (lv_at hl 2 rfl) ?_
          refine nn_icmp_ne hc dX5_takeSlates_59 (tgt := 103) (by decide) (by omega) (by omega) (fun c5 => ?_) (fun c5 => ?_)
          · have hno : ¬ (xp < nH ∧ ln xp.toNat = a ∧ br xp.toNat = b) := by omega
            have h8 : nH = 8 := Classical.byContradiction fun z => absurd had (by unfold addC; simp only []; rw [← exp, if_neg hno, if_pos (by omega)]; exact fun z => by cases z)
            refine lv_aload_n hc.1 hc.2.1 dX5_takeSlates_103 rfl (lv_at hl 1 rfl) ?_
            refine lv_iload hc.1 hc.2.1 dX5_takeSlates_104 (lv_at hl 0 rfl) ?_
            refine lv_iload_n hc.1 hc.2.1 dX5_takeSlates_106 rfl (lv_at hl 2 rfl) ?_
            refine lv_iload_n hc.1 hc.2.1 dX5_takeSlates_107 rfl (lv_at hl 3 rfl) ?_
            refine lv_iload_n hc.1 hc.2.1 dX5_takeSlates_108 rfl (lv_at hl 4 rfl) ?_
            refine nn_Vp (As := [.int (iI xp), .int (iI a), .int (iI b), .int (iI c)]) (st := []) hc hw hp rfl (c_X5_insertHeap_no l g  hp (by omega)) (cwV 4 hc.2.2.2.2 gX5_takeSlates_X5_insertHeap rfl rfl rfl (by decide +kernel) ⟨Nat.le_of_ble_eq_true rfl, Nat.le_of_ble_eq_true rfl⟩) rfl hl.1 rfl (Nat.le_of_ble_eq_true rfl) ⟨Nat.le_of_ble_eq_true rfl, Nat.le_of_ble_eq_true rfl⟩ dX5_takeSlates_109 ?_
            refine W.eq (g2 := F0 m 112 ls [.int (iI 0)]) rfl ?_
            exact hret (some (.int (iI 0))) _ S _ _ _ _ hw (⟨rfl, rfl, ⟨_, _, _, _, _, _, _, _, _, hp, hln, hbr, hsl⟩, fun bb _ _ _ _ => rfl⟩) ⟨_, rfl, by first | rfl | exact nn_nb _, dX5_takeSlates_112⟩
          · refine lv_aload_n hc.1 hc.2.1 dX5_takeSlates_62 rfl (lv_at hl 1 rfl) ?_
            refine nn_get hc hw hp hiX5 rfl 1 (by decide) rfl lk15 dX5_takeSlates_63 ?_
            refine lv_iload hc.1 hc.2.1 dX5_takeSlates_66 (lv_at hl 0 rfl) ?_
            refine nn_iald hc hw hbr (by omega) (by omega) dX5_takeSlates_68 ?_
            refine lv_iload_n hc.1 hc.2.1 dX5_takeSlates_69 rfl (lv_at hl 3 rfl) ?_
            refine nn_icmp_ne hc dX5_takeSlates_70 (tgt := 103) (by decide) (by omega) (by omega) (fun c6 => ?_) (fun c6 => ?_)
            · have hno : ¬ (xp < nH ∧ ln xp.toNat = a ∧ br xp.toNat = b) := by omega
              have h8 : nH = 8 := Classical.byContradiction fun z => absurd had (by unfold addC; simp only []; rw [← exp, if_neg hno, if_pos (by omega)]; exact fun z => by cases z)
              refine lv_aload_n hc.1 hc.2.1 dX5_takeSlates_103 rfl (lv_at hl 1 rfl) ?_
              refine lv_iload hc.1 hc.2.1 dX5_takeSlates_104 (lv_at hl 0 rfl) ?_
              refine lv_iload_n hc.1 hc.2.1 dX5_takeSlates_106 rfl (lv_at hl 2 rfl) ?_
              refine lv_iload_n hc.1 hc.2.1 dX5_takeSlates_107 rfl (lv_at hl 3 rfl) ?_
              refine lv_iload_n hc.1 hc.2.1 dX5_takeSlates_108 rfl (lv_at hl 4 rfl) ?_
              refine nn_Vp (As := [.int (iI xp), .int (iI a), .int (iI b), .int (iI c)]) (st := []) hc hw hp rfl (c_X5_insertHeap_no l g  hp (by omega)) (cwV 4 hc.2.2.2.2 gX5_takeSlates_X5_insertHeap rfl rfl rfl (by decide +kernel) ⟨Nat.le_of_ble_eq_true rfl, Nat.le_of_ble_eq_true rfl⟩) rfl hl.1 rfl (Nat.le_of_ble_eq_true rfl) ⟨Nat.le_of_ble_eq_true rfl, Nat.le_of_ble_eq_true rfl⟩ dX5_takeSlates_109 ?_
              refine W.eq (g2 := F0 m 112 ls [.int (iI 0)]) rfl ?_
              exact hret (some (.int (iI 0))) _ S _ _ _ _ hw (⟨rfl, rfl, ⟨_, _, _, _, _, _, _, _, _, hp, hln, hbr, hsl⟩, fun bb _ _ _ _ => rfl⟩) ⟨_, rfl, by first | rfl | exact nn_nb _, dX5_takeSlates_112⟩
            · have hs1 := rs xp.toNat (by omega)
              refine lv_aload_n hc.1 hc.2.1 dX5_takeSlates_73 rfl (lv_at hl 1 rfl) ?_
              refine nn_get hc hw hp hiX5 rfl 2 (by decide) rfl lk18 dX5_takeSlates_74 ?_
              refine lv_iload hc.1 hc.2.1 dX5_takeSlates_77 (lv_at hl 0 rfl) ?_
              refine lv_dup2_11 hc.1 hc.2.1 dX5_takeSlates_79 rfl rfl ?_
              refine nn_iald hc hw hsl (by omega) (by omega) dX5_takeSlates_80 ?_
              refine lv_iload_n hc.1 hc.2.1 dX5_takeSlates_81 rfl (lv_at hl 4 rfl) ?_
              refine nn_iadd hc dX5_takeSlates_82 ?_
              refine nn_iast hc hw hsl (by omega) (by omega) dX5_takeSlates_83 (fun S7 H locs hS7 fS7 hw => ?_)
              refine lv_aload_n hc.1 hc.2.1 dX5_takeSlates_84 rfl (lv_at hl 1 rfl) ?_
              have e8 : S7 pl = oO 5 [.ref (pl + 1), .ref (pl + 2), .ref (pl + 3), .int (iI nH), .int (iI pHi), .int (iI pWi), .int (iI pLp), .int (iI pBk), .int (iI pHp)] := (fS7 pl (off_nl (x := pl) (a := 3) (by decide))).trans hp
              refine nn_get hc hw e8 hiX5 rfl 2 (by decide) rfl lk18 dX5_takeSlates_85 ?_
              refine lv_iload hc.1 hc.2.1 dX5_takeSlates_88 (lv_at hl 0 rfl) ?_
              refine nn_iald hc hw hS7 (by omega) (by omega) dX5_takeSlates_90 ?_
              refine nn_sipush hc dX5_takeSlates_91 (by decide +kernel) ?_
              refine nn_icmp_gt hc dX5_takeSlates_94 (tgt := 101) (by decide) (by simp only [va_up_self]; omega) (by decide) (fun c9 => ?_) (fun c9 => ?_)
              · refine nn_iconst hc dX5_takeSlates_101 ?_
                have e10 : S7 (pl + 1) = oI g 8 ln := (fS7 (pl + 1) (off_ne (x := pl) (a := 1) (b := 3) (by decide))).trans hln
                have e11 : S7 (pl + 2) = oI g 8 br := (fS7 (pl + 2) (off_ne (x := pl) (a := 2) (b := 3) (by decide))).trans hbr
                exact hret (some (.int (iI 0))) _ S7 _ _ _ _ hw (⟨rfl, rfl, ⟨_, _, _, _, _, _, _, _, _, e8, e10, e11, hS7⟩, fun bb hb0 hb1 hb2 hb3 => (fS7 bb hb3)⟩) ⟨_, rfl, by first | rfl | exact nn_nb _, dX5_takeSlates_102⟩
              · exfalso; have hq : some (nH, ln, br, va_up sl xp.toNat (sl xp.toNat + c), pHi, pWi, pLp, pBk, pHp) = none := (by rw [← had]; unfold addC; simp only []; rw [← exp, if_pos (by omega), if_pos (by have hle := c9; simp only [va_up_self] at hle; omega)]); cases hq
      · refine nn_iconst hc dX5_takeSlates_32 ?_
        exact hret (some (.int (iI 0))) _ S _ _ _ _ hw (⟨rfl, rfl, ⟨_, _, _, _, _, _, _, _, _, hp, hln, hbr, hsl⟩, fun bb _ _ _ _ => rfl⟩) ⟨_, rfl, by first | rfl | exact nn_nb _, dX5_takeSlates_33⟩

set_option maxHeartbeats 4000000 in
set_option maxRecDepth 100000 in
theorem c_X5_takeRoof (l : Launch) (g : gG) {n : Nat} {S : Nat → gE} {pl : Nat} {nH pHi pWi pLp pBk pHp : Int} {a b : Int} (hp : S pl = oO 5 [.ref (pl + 1), .ref (pl + 2), .ref (pl + 3), .int (iI nH), .int (iI pHi), .int (iI pWi), .int (iI pLp), .int (iI pBk), .int (iI pHp)]) (ra : -1000 ≤ a ∧ a ≤ 1000000) (rb : -1000 ≤ b ∧ b ≤ 1000000) : g_Cs l yX5_takeRoof wsX5_takeRoof { frames := 1, cells := 0, slots := 0, locals := 22 } g [.ref pl, .int (iI a), .int (iI b)] n S (fun vr n1 S1 => vr = some (.int (iI (if (20 ≤ a ∧ a ≤ 400) ∧ (40 ≤ b ∧ b ≤ 240) then 1 else 0))) ∧ n = n1 ∧ S1 pl = oO 5 [.ref (pl + 1), .ref (pl + 2), .ref (pl + 3), .int (iI nH), .int (iI a), .int (iI b), .int (iI pLp), .int (iI pBk), .int (iI pHp)] ∧ (∀ bb, bb ≠ pl → S1 bb = S bb)) 0 0 := by
  refine g_Cs.of (cc := cX5_takeRoof) (maxL := 3) (ret := (some .boolean)) (by decide) rfl (Nat.le_of_ble_eq_true rfl) ?_
  intro pp ee s m below meth cK Q H locs ls hc hnm hw hl hret
  have hl : lv_has ls 3 [(0, .ref pl), (1, .int (iI a)), (2, .int (iI b))] := hl
  have hiX5 : ∀ w ∈ u_ws RX5 TX5 9, w ∈ wsX5_takeRoof := by decide +kernel
  have lk25 : Cond.fieldLink RX5 25 "RoofCourses$Plan" "high" "I" ∈ wsX5_takeRoof := by decide +kernel
  have lk28 : Cond.fieldLink RX5 28 "RoofCourses$Plan" "wide" "I" ∈ wsX5_takeRoof := by decide +kernel
  have lkI_X8 : Cond.initialized RX8 ∈ wsX5_takeRoof := by decide +kernel
  have lkSt_X8_isWithin : Cond.static yX8_isWithin ∈ wsX5_takeRoof := by decide +kernel
  refine lv_aload_n hc.1 hc.2.1 dX5_takeRoof_0 rfl (lv_at hl 0 rfl) ?_
  refine lv_iload_n hc.1 hc.2.1 dX5_takeRoof_1 rfl (lv_at hl 1 rfl) ?_
  refine nn_put hc hw hp hiX5 tyX5 tyX5_ok nmX5 rfl 4 (by decide) (Nat.le_of_ble_eq_true rfl) lk25 rfl rfl rfl dX5_takeRoof_2 (fun S1 H locs hS1 fS1 hw => ?_)
  have hS1 : S1 pl = oO 5 [.ref (pl + 1), .ref (pl + 2), .ref (pl + 3), .int (iI nH), .int (iI a), .int (iI pWi), .int (iI pLp), .int (iI pBk), .int (iI pHp)] := hS1
  refine lv_aload_n hc.1 hc.2.1 dX5_takeRoof_5 rfl (lv_at hl 0 rfl) ?_
  refine lv_iload_n hc.1 hc.2.1 dX5_takeRoof_6 rfl (lv_at hl 2 rfl) ?_
  refine nn_put hc hw hS1 hiX5 tyX5 tyX5_ok nmX5 rfl 5 (by decide) (Nat.le_of_ble_eq_true rfl) lk28 rfl rfl rfl dX5_takeRoof_7 (fun S2 H locs hS2 fS2 hw => ?_)
  have hS2 : S2 pl = oO 5 [.ref (pl + 1), .ref (pl + 2), .ref (pl + 3), .int (iI nH), .int (iI a), .int (iI b), .int (iI pLp), .int (iI pBk), .int (iI pHp)] := hS2
  refine lv_aload_n hc.1 hc.2.1 dX5_takeRoof_10 rfl (lv_at hl 0 rfl) ?_
  refine nn_get hc hw hS2 hiX5 rfl 4 (by decide) rfl lk25 dX5_takeRoof_11 ?_
  refine nn_bipush hc dX5_takeRoof_14 (by decide +kernel) ?_
  refine nn_sipush hc dX5_takeRoof_16 (by decide +kernel) ?_
  refine nn_SpN (As := [.int (iI a), .int (iI 20), .int (iI 400)]) (st := []) hc hw (c_X8_isWithin l g   (by omega) (by omega) (by omega)) (va_cnB (own := RX5) (index := 61) (y := yX8_isWithin) (host := "RoofCourses") 3 hc.2.2.2.2 gX5_takeRoof_X8_isWithin_n61 rfl rfl rfl (g_nw hw (RX5, 61, yX8_isWithin) (by decide +kernel)) (hc.2.2.2.2 _ lkI_X8) (by decide +kernel) ⟨Nat.le_of_ble_eq_true rfl, Nat.le_of_ble_eq_true rfl⟩) lkSt_X8_isWithin rfl hl.1 rfl (Nat.le_of_ble_eq_true rfl) ⟨Nat.le_of_ble_eq_true rfl, Nat.le_of_ble_eq_true rfl⟩ dX5_takeRoof_19 ?_
  refine W.eq (g2 := F0 m 22 ls [.int (iI (if 20 ≤ a ∧ a ≤ 400 then 1 else 0))]) rfl ?_
  refine nn_if_eq hc dX5_takeRoof_22 (tgt := 44) (by decide) (by omega) (fun c3 => ?_) (fun c3 => ?_)
  · refine nn_iconst hc dX5_takeRoof_44 ?_
    exact hret (some (.int (iI 0))) _ S2 _ _ _ _ hw (⟨congrArg (fun z => some (Value.int (iI z))) (by first | rfl | (rw [if_pos (by omega)]) | (rw [if_neg (by omega)])), rfl, hS2, fun bb hb0 => ((fS2 bb hb0)).trans (fS1 bb hb0)⟩) ⟨_, rfl, by first | rfl | exact nn_nb _, dX5_takeRoof_45⟩
  · refine lv_aload_n hc.1 hc.2.1 dX5_takeRoof_25 rfl (lv_at hl 0 rfl) ?_
    refine nn_get hc hw hS2 hiX5 rfl 5 (by decide) rfl lk28 dX5_takeRoof_26 ?_
    refine nn_bipush hc dX5_takeRoof_29 (by decide +kernel) ?_
    refine nn_sipush hc dX5_takeRoof_31 (by decide +kernel) ?_
    refine nn_SpN (As := [.int (iI b), .int (iI 40), .int (iI 240)]) (st := []) hc hw (c_X8_isWithin l g   (by omega) (by omega) (by omega)) (va_cnB (own := RX5) (index := 61) (y := yX8_isWithin) (host := "RoofCourses") 3 hc.2.2.2.2 gX5_takeRoof_X8_isWithin_n61 rfl rfl rfl (g_nw hw (RX5, 61, yX8_isWithin) (by decide +kernel)) (hc.2.2.2.2 _ lkI_X8) (by decide +kernel) ⟨Nat.le_of_ble_eq_true rfl, Nat.le_of_ble_eq_true rfl⟩) lkSt_X8_isWithin rfl hl.1 rfl (Nat.le_of_ble_eq_true rfl) ⟨Nat.le_of_ble_eq_true rfl, Nat.le_of_ble_eq_true rfl⟩ dX5_takeRoof_34 ?_
    refine W.eq (g2 := F0 m 37 ls [.int (iI (if 40 ≤ b ∧ b ≤ 240 then 1 else 0))]) rfl ?_
    refine nn_if_eq hc dX5_takeRoof_37 (tgt := 44) (by decide) (by omega) (fun c4 => ?_) (fun c4 => ?_)
    · refine nn_iconst hc dX5_takeRoof_44 ?_
      exact hret (some (.int (iI 0))) _ S2 _ _ _ _ hw (⟨congrArg (fun z => some (Value.int (iI z))) (by first | rfl | (rw [if_pos (by omega)]) | (rw [if_neg (by omega)])), rfl, hS2, fun bb hb0 => ((fS2 bb hb0)).trans (fS1 bb hb0)⟩) ⟨_, rfl, by first | rfl | exact nn_nb _, dX5_takeRoof_45⟩
    · refine nn_iconst hc dX5_takeRoof_40 ?_
      refine lv_goto hc.1 hc.2.1 dX5_takeRoof_41 (tgt := 45) (by decide) ?_
      exact hret (some (.int (iI 1))) _ S2 _ _ _ _ hw (⟨congrArg (fun z => some (Value.int (iI z))) (by first | rfl | (rw [if_pos (by omega)]) | (rw [if_neg (by omega)])), rfl, hS2, fun bb hb0 => ((fS2 bb hb0)).trans (fS1 bb hb0)⟩) ⟨_, rfl, by first | rfl | exact nn_nb _, dX5_takeRoof_45⟩

set_option maxHeartbeats 4000000 in
set_option maxRecDepth 100000 in
theorem c_X5_takeLap (l : Launch) (g : gG) {n : Nat} {S : Nat → gE} {pl : Nat} {nH pHi pWi pLp pBk pHp : Int} {a b : Int} (hp : S pl = oO 5 [.ref (pl + 1), .ref (pl + 2), .ref (pl + 3), .int (iI nH), .int (iI pHi), .int (iI pWi), .int (iI pLp), .int (iI pBk), .int (iI pHp)]) (ra : -1000 ≤ a ∧ a ≤ 1000000) (rb : -1000 ≤ b ∧ b ≤ 1000000) : g_Cs l yX5_takeLap wsX5_takeLap { frames := 1, cells := 0, slots := 0, locals := 22 } g [.ref pl, .int (iI a), .int (iI b)] n S (fun vr n1 S1 => vr = some (.int (iI (if (1 ≤ a ∧ a ≤ 10) ∧ (1 ≤ b ∧ b ≤ 9) then 1 else 0))) ∧ n = n1 ∧ S1 pl = oO 5 [.ref (pl + 1), .ref (pl + 2), .ref (pl + 3), .int (iI nH), .int (iI pHi), .int (iI pWi), .int (iI a), .int (iI b), .int (iI pHp)] ∧ (∀ bb, bb ≠ pl → S1 bb = S bb)) 0 0 := by
  refine g_Cs.of (cc := cX5_takeLap) (maxL := 3) (ret := (some .boolean)) (by decide) rfl (Nat.le_of_ble_eq_true rfl) ?_
  intro pp ee s m below meth cK Q H locs ls hc hnm hw hl hret
  have hl : lv_has ls 3 [(0, .ref pl), (1, .int (iI a)), (2, .int (iI b))] := hl
  have hiX5 : ∀ w ∈ u_ws RX5 TX5 9, w ∈ wsX5_takeLap := by decide +kernel
  have lk31 : Cond.fieldLink RX5 31 "RoofCourses$Plan" "lap" "I" ∈ wsX5_takeLap := by decide +kernel
  have lk34 : Cond.fieldLink RX5 34 "RoofCourses$Plan" "breaking" "I" ∈ wsX5_takeLap := by decide +kernel
  have lkI_X8 : Cond.initialized RX8 ∈ wsX5_takeLap := by decide +kernel
  have lkSt_X8_isWithin : Cond.static yX8_isWithin ∈ wsX5_takeLap := by decide +kernel
  refine lv_aload_n hc.1 hc.2.1 dX5_takeLap_0 rfl (lv_at hl 0 rfl) ?_
  refine lv_iload_n hc.1 hc.2.1 dX5_takeLap_1 rfl (lv_at hl 1 rfl) ?_
  refine nn_put hc hw hp hiX5 tyX5 tyX5_ok nmX5 rfl 6 (by decide) (Nat.le_of_ble_eq_true rfl) lk31 rfl rfl rfl dX5_takeLap_2 (fun S1 H locs hS1 fS1 hw => ?_)
  have hS1 : S1 pl = oO 5 [.ref (pl + 1), .ref (pl + 2), .ref (pl + 3), .int (iI nH), .int (iI pHi), .int (iI pWi), .int (iI a), .int (iI pBk), .int (iI pHp)] := hS1
  refine lv_aload_n hc.1 hc.2.1 dX5_takeLap_5 rfl (lv_at hl 0 rfl) ?_
  refine lv_iload_n hc.1 hc.2.1 dX5_takeLap_6 rfl (lv_at hl 2 rfl) ?_
  refine nn_put hc hw hS1 hiX5 tyX5 tyX5_ok nmX5 rfl 7 (by decide) (Nat.le_of_ble_eq_true rfl) lk34 rfl rfl rfl dX5_takeLap_7 (fun S2 H locs hS2 fS2 hw => ?_)
  have hS2 : S2 pl = oO 5 [.ref (pl + 1), .ref (pl + 2), .ref (pl + 3), .int (iI nH), .int (iI pHi), .int (iI pWi), .int (iI a), .int (iI b), .int (iI pHp)] := hS2
  refine lv_aload_n hc.1 hc.2.1 dX5_takeLap_10 rfl (lv_at hl 0 rfl) ?_
  refine nn_get hc hw hS2 hiX5 rfl 6 (by decide) rfl lk31 dX5_takeLap_11 ?_
  refine nn_iconst hc dX5_takeLap_14 ?_
  refine nn_bipush hc dX5_takeLap_15 (by decide +kernel) ?_
  refine nn_SpN (As := [.int (iI a), .int (iI 1), .int (iI 10)]) (st := []) hc hw (c_X8_isWithin l g   (by omega) (by omega) (by omega)) (va_cnB (own := RX5) (index := 61) (y := yX8_isWithin) (host := "RoofCourses") 3 hc.2.2.2.2 gX5_takeLap_X8_isWithin_n61 rfl rfl rfl (g_nw hw (RX5, 61, yX8_isWithin) (by decide +kernel)) (hc.2.2.2.2 _ lkI_X8) (by decide +kernel) ⟨Nat.le_of_ble_eq_true rfl, Nat.le_of_ble_eq_true rfl⟩) lkSt_X8_isWithin rfl hl.1 rfl (Nat.le_of_ble_eq_true rfl) ⟨Nat.le_of_ble_eq_true rfl, Nat.le_of_ble_eq_true rfl⟩ dX5_takeLap_17 ?_
  refine W.eq (g2 := F0 m 20 ls [.int (iI (if 1 ≤ a ∧ a ≤ 10 then 1 else 0))]) rfl ?_
  refine nn_if_eq hc dX5_takeLap_20 (tgt := 40) (by decide) (by omega) (fun c3 => ?_) (fun c3 => ?_)
  · refine nn_iconst hc dX5_takeLap_40 ?_
    exact hret (some (.int (iI 0))) _ S2 _ _ _ _ hw (⟨congrArg (fun z => some (Value.int (iI z))) (by first | rfl | (rw [if_pos (by omega)]) | (rw [if_neg (by omega)])), rfl, hS2, fun bb hb0 => ((fS2 bb hb0)).trans (fS1 bb hb0)⟩) ⟨_, rfl, by first | rfl | exact nn_nb _, dX5_takeLap_41⟩
  · refine lv_aload_n hc.1 hc.2.1 dX5_takeLap_23 rfl (lv_at hl 0 rfl) ?_
    refine nn_get hc hw hS2 hiX5 rfl 7 (by decide) rfl lk34 dX5_takeLap_24 ?_
    refine nn_iconst hc dX5_takeLap_27 ?_
    refine nn_bipush hc dX5_takeLap_28 (by decide +kernel) ?_
    refine nn_SpN (As := [.int (iI b), .int (iI 1), .int (iI 9)]) (st := []) hc hw (c_X8_isWithin l g   (by omega) (by omega) (by omega)) (va_cnB (own := RX5) (index := 61) (y := yX8_isWithin) (host := "RoofCourses") 3 hc.2.2.2.2 gX5_takeLap_X8_isWithin_n61 rfl rfl rfl (g_nw hw (RX5, 61, yX8_isWithin) (by decide +kernel)) (hc.2.2.2.2 _ lkI_X8) (by decide +kernel) ⟨Nat.le_of_ble_eq_true rfl, Nat.le_of_ble_eq_true rfl⟩) lkSt_X8_isWithin rfl hl.1 rfl (Nat.le_of_ble_eq_true rfl) ⟨Nat.le_of_ble_eq_true rfl, Nat.le_of_ble_eq_true rfl⟩ dX5_takeLap_30 ?_
    refine W.eq (g2 := F0 m 33 ls [.int (iI (if 1 ≤ b ∧ b ≤ 9 then 1 else 0))]) rfl ?_
    refine nn_if_eq hc dX5_takeLap_33 (tgt := 40) (by decide) (by omega) (fun c4 => ?_) (fun c4 => ?_)
    · refine nn_iconst hc dX5_takeLap_40 ?_
      exact hret (some (.int (iI 0))) _ S2 _ _ _ _ hw (⟨congrArg (fun z => some (Value.int (iI z))) (by first | rfl | (rw [if_pos (by omega)]) | (rw [if_neg (by omega)])), rfl, hS2, fun bb hb0 => ((fS2 bb hb0)).trans (fS1 bb hb0)⟩) ⟨_, rfl, by first | rfl | exact nn_nb _, dX5_takeLap_41⟩
    · refine nn_iconst hc dX5_takeLap_36 ?_
      refine lv_goto hc.1 hc.2.1 dX5_takeLap_37 (tgt := 41) (by decide) ?_
      exact hret (some (.int (iI 1))) _ S2 _ _ _ _ hw (⟨congrArg (fun z => some (Value.int (iI z))) (by first | rfl | (rw [if_pos (by omega)]) | (rw [if_neg (by omega)])), rfl, hS2, fun bb hb0 => ((fS2 bb hb0)).trans (fS1 bb hb0)⟩) ⟨_, rfl, by first | rfl | exact nn_nb _, dX5_takeLap_41⟩

set_option maxHeartbeats 4000000 in
set_option maxRecDepth 100000 in
theorem c_X5_takeHip (l : Launch) (g : gG) {n : Nat} {S : Nat → gE} {pl : Nat} {nH pHi pWi pLp pBk pHp : Int} {a : Int} (hp : S pl = oO 5 [.ref (pl + 1), .ref (pl + 2), .ref (pl + 3), .int (iI nH), .int (iI pHi), .int (iI pWi), .int (iI pLp), .int (iI pBk), .int (iI pHp)]) (ra : -1000 ≤ a ∧ a ≤ 1000000) : g_Cs l yX5_takeHip wsX5_takeHip { frames := 1, cells := 0, slots := 0, locals := 22 } g [.ref pl, .int (iI a)] n S (fun vr n1 S1 => vr = some (.int (iI (if 0 ≤ a ∧ a ≤ 9 then 1 else 0))) ∧ n = n1 ∧ S1 pl = oO 5 [.ref (pl + 1), .ref (pl + 2), .ref (pl + 3), .int (iI nH), .int (iI pHi), .int (iI pWi), .int (iI pLp), .int (iI pBk), .int (iI a)] ∧ (∀ bb, bb ≠ pl → S1 bb = S bb)) 0 0 := by
  refine g_Cs.of (cc := cX5_takeHip) (maxL := 2) (ret := (some .boolean)) (by decide) rfl (Nat.le_of_ble_eq_true rfl) ?_
  intro pp ee s m below meth cK Q H locs ls hc hnm hw hl hret
  have hl : lv_has ls 2 [(0, .ref pl), (1, .int (iI a))] := hl
  have hiX5 : ∀ w ∈ u_ws RX5 TX5 9, w ∈ wsX5_takeHip := by decide +kernel
  have lk37 : Cond.fieldLink RX5 37 "RoofCourses$Plan" "hip" "I" ∈ wsX5_takeHip := by decide +kernel
  have lkI_X8 : Cond.initialized RX8 ∈ wsX5_takeHip := by decide +kernel
  have lkSt_X8_isWithin : Cond.static yX8_isWithin ∈ wsX5_takeHip := by decide +kernel
  refine lv_aload_n hc.1 hc.2.1 dX5_takeHip_0 rfl (lv_at hl 0 rfl) ?_
  refine lv_iload_n hc.1 hc.2.1 dX5_takeHip_1 rfl (lv_at hl 1 rfl) ?_
  refine nn_put hc hw hp hiX5 tyX5 tyX5_ok nmX5 rfl 8 (by decide) (Nat.le_of_ble_eq_true rfl) lk37 rfl rfl rfl dX5_takeHip_2 (fun S1 H locs hS1 fS1 hw => ?_)
  have hS1 : S1 pl = oO 5 [.ref (pl + 1), .ref (pl + 2), .ref (pl + 3), .int (iI nH), .int (iI pHi), .int (iI pWi), .int (iI pLp), .int (iI pBk), .int (iI a)] := hS1
  refine lv_aload_n hc.1 hc.2.1 dX5_takeHip_5 rfl (lv_at hl 0 rfl) ?_
  refine nn_get hc hw hS1 hiX5 rfl 8 (by decide) rfl lk37 dX5_takeHip_6 ?_
  refine nn_iconst hc dX5_takeHip_9 ?_
  refine nn_bipush hc dX5_takeHip_10 (by decide +kernel) ?_
  refine nn_SpN (As := [.int (iI a), .int (iI 0), .int (iI 9)]) (st := []) hc hw (c_X8_isWithin l g   (by omega) (by omega) (by omega)) (va_cnB (own := RX5) (index := 61) (y := yX8_isWithin) (host := "RoofCourses") 3 hc.2.2.2.2 gX5_takeHip_X8_isWithin_n61 rfl rfl rfl (g_nw hw (RX5, 61, yX8_isWithin) (by decide +kernel)) (hc.2.2.2.2 _ lkI_X8) (by decide +kernel) ⟨Nat.le_of_ble_eq_true rfl, Nat.le_of_ble_eq_true rfl⟩) lkSt_X8_isWithin rfl hl.1 rfl (Nat.le_of_ble_eq_true rfl) ⟨Nat.le_of_ble_eq_true rfl, Nat.le_of_ble_eq_true rfl⟩ dX5_takeHip_12 ?_
  refine W.eq (g2 := F0 m 15 ls [.int (iI (if 0 ≤ a ∧ a ≤ 9 then 1 else 0))]) rfl ?_
  exact hret (some (.int (iI (if 0 ≤ a ∧ a ≤ 9 then 1 else 0)))) _ S1 _ _ _ _ hw (⟨congrArg (fun z => some (Value.int (iI z))) (by first | rfl | (rw [if_pos (by omega)]) | (rw [if_neg (by omega)])), rfl, hS1, fun bb hb0 => (fS1 bb hb0)⟩) ⟨_, rfl, by first | rfl | exact nn_nb _, dX5_takeHip_15⟩

set_option maxHeartbeats 4000000 in
set_option maxRecDepth 100000 in
theorem c_X5_take_yes (l : Launch) (g : gG) {n : Nat} {S : Nat → gE} {pl : Nat} {nH pHi pWi pLp pBk pHp : Int} {ln br sl : Nat → Int} {a b c : Int} {P1 : pT} {kd : Int} (hp : S pl = oO 5 [.ref (pl + 1), .ref (pl + 2), .ref (pl + 3), .int (iI nH), .int (iI pHi), .int (iI pWi), .int (iI pLp), .int (iI pBk), .int (iI pHp)]) (hln : S (pl + 1) = oI g 8 ln) (hbr : S (pl + 2) = oI g 8 br) (hsl : S (pl + 3) = oI g 8 sl) (rH : 0 ≤ nH ∧ nH ≤ 8) (rl : ∀ i : Nat, (i : Int) < nH → (-1000000 ≤ ln i ∧ ln i ≤ 1000000) ∧ (-1000000 ≤ br i ∧ br i ≤ 1000000)) (rs : ∀ i : Nat, (i : Int) < nH → -1000000 ≤ sl i ∧ sl i ≤ 1000000) (ra : -1000 ≤ a ∧ a ≤ 1000000) (rb : -1000 ≤ b ∧ b ≤ 1000000) (rc : -1000 ≤ c ∧ c ≤ 1000000) (rk : 0 ≤ kd ∧ kd ≤ 65535) (htk : takeC kd a b c (nH, ln, br, sl, pHi, pWi, pLp, pBk, pHp) = some P1) : g_Cs l yX5_take wsX5_take { frames := 2, cells := 0, slots := 0, locals := 49 } g [.ref pl, .int (iI kd), .int (iI a), .int (iI b), .int (iI c)] n S (fun vr n1 S1 => vr = some (.int (iI 1)) ∧ n = n1 ∧ S1 pl = oO 5 [.ref (pl + 1), .ref (pl + 2), .ref (pl + 3), .int (iI P1.1), .int (iI P1.2.2.2.2.1), .int (iI P1.2.2.2.2.2.1), .int (iI P1.2.2.2.2.2.2.1), .int (iI P1.2.2.2.2.2.2.2.1), .int (iI P1.2.2.2.2.2.2.2.2)] ∧ S1 (pl + 1) = oI g 8 P1.2.1 ∧ S1 (pl + 2) = oI g 8 P1.2.2.1 ∧ S1 (pl + 3) = oI g 8 P1.2.2.2.1 ∧ (∀ bb, bb ≠ pl → bb ≠ (pl + 1) → bb ≠ (pl + 2) → bb ≠ (pl + 3) → S1 bb = S bb)) 0 0 := by
  refine g_Cs.of (cc := cX5_take) (maxL := 5) (ret := (some .boolean)) (by decide) rfl (Nat.le_of_ble_eq_true rfl) ?_
  intro pp ee s m below meth cK Q H locs ls hc hnm hw hl hret
  have hl : lv_has ls 5 [(0, .ref pl), (1, .int (iI kd)), (2, .int (iI a)), (3, .int (iI b)), (4, .int (iI c))] := hl
  refine lv_iload_n hc.1 hc.2.1 dX5_take_0 rfl (lv_at hl 1 rfl) ?_
  refine nn_bipush hc dX5_take_1 (by decide +kernel) ?_
  refine nn_icmp_ne hc dX5_take_3 (tgt := 15) (by decide) (by omega) (by decide) (fun c1 => ?_) (fun c1 => ?_)
  · refine lv_iload_n hc.1 hc.2.1 dX5_take_15 rfl (lv_at hl 1 rfl) ?_
    refine nn_bipush hc dX5_take_16 (by decide +kernel) ?_
    refine nn_icmp_ne hc dX5_take_18 (tgt := 28) (by decide) (by omega) (by decide) (fun c2 => ?_) (fun c2 => ?_)
    · refine lv_iload_n hc.1 hc.2.1 dX5_take_28 rfl (lv_at hl 1 rfl) ?_
      refine nn_bipush hc dX5_take_29 (by decide +kernel) ?_
      refine nn_icmp_ne hc dX5_take_31 (tgt := 41) (by decide) (by omega) (by decide) (fun c3 => ?_) (fun c3 => ?_)
      · refine lv_iload_n hc.1 hc.2.1 dX5_take_41 rfl (lv_at hl 1 rfl) ?_
        refine nn_bipush hc dX5_take_42 (by decide +kernel) ?_
        refine nn_icmp_ne hc dX5_take_44 (tgt := 59) (by decide) (by omega) (by decide) (fun c4 => ?_) (fun c4 => ?_)
        · exact absurd htk (by unfold takeC; rw [if_neg (by omega), if_neg (by omega), if_neg (by omega), if_neg (by omega)]; exact fun z => by cases z)
        · have htk2 := htk
          unfold takeC at htk2
          rw [if_neg (by omega), if_neg (by omega), if_neg (by omega), if_pos (by omega)] at htk2
          have hr : 0 ≤ a ∧ a ≤ 9 := Classical.byContradiction fun z => by rw [if_neg z] at htk2; cases htk2
          rw [if_pos hr] at htk2
          obtain rfl := Option.some.inj htk2
          refine lv_aload_n hc.1 hc.2.1 dX5_take_47 rfl (lv_at hl 0 rfl) ?_
          refine lv_iload_n hc.1 hc.2.1 dX5_take_48 rfl (lv_at hl 2 rfl) ?_
          refine nn_Vs (As := [.int (iI a)]) (st := []) hc hw hp rfl (c_X5_takeHip l g  hp (by omega)) (cwV 1 hc.2.2.2.2 gX5_take_X5_takeHip rfl rfl rfl (by decide +kernel) ⟨Nat.le_of_ble_eq_true rfl, Nat.le_of_ble_eq_true rfl⟩) rfl hl.1 rfl (Nat.le_of_ble_eq_true rfl) ⟨Nat.le_of_ble_eq_true rfl, Nat.le_of_ble_eq_true rfl⟩ dX5_take_49 (fun vr n1 S5 H locs qS5 hw => ?_)
          obtain ⟨rfl, rfl, hS5_0, fS5⟩ := qS5
          refine W.eq (g2 := F0 m 52 ls [.int (iI (if 0 ≤ a ∧ a ≤ 9 then 1 else 0))]) rfl ?_
          refine nn_if_eq hc dX5_take_52 (tgt := 59) (by decide) (by omega) (fun c6 => ?_) (fun c6 => ?_)
          · exfalso; rw [if_pos hr] at c6; exact absurd c6 (by decide)
          · refine nn_iconst hc dX5_take_55 ?_
            refine lv_goto hc.1 hc.2.1 dX5_take_56 (tgt := 60) (by decide) ?_
            have e7 : S5 (pl + 1) = oI g 8 ln := (fS5 (pl + 1) (off_nr (x := pl) (a := 1) (by decide))).trans hln
            have e8 : S5 (pl + 2) = oI g 8 br := (fS5 (pl + 2) (off_nr (x := pl) (a := 2) (by decide))).trans hbr
            have e9 : S5 (pl + 3) = oI g 8 sl := (fS5 (pl + 3) (off_nr (x := pl) (a := 3) (by decide))).trans hsl
            exact hret (some (.int (iI 1))) _ S5 _ _ _ _ hw (⟨rfl, rfl, hS5_0, e7, e8, e9, fun bb hb0 hb1 hb2 hb3 => (fS5 bb hb0)⟩) ⟨_, rfl, by first | rfl | exact nn_nb _, dX5_take_60⟩
      · have htk2 := htk
        unfold takeC at htk2
        rw [if_neg (by omega), if_neg (by omega), if_pos (by omega)] at htk2
        have hr : (1 ≤ a ∧ a ≤ 10) ∧ (1 ≤ b ∧ b ≤ 9) := Classical.byContradiction fun z => by rw [if_neg z] at htk2; cases htk2
        rw [if_pos hr] at htk2
        obtain rfl := Option.some.inj htk2
        refine lv_aload_n hc.1 hc.2.1 dX5_take_34 rfl (lv_at hl 0 rfl) ?_
        refine lv_iload_n hc.1 hc.2.1 dX5_take_35 rfl (lv_at hl 2 rfl) ?_
        refine lv_iload_n hc.1 hc.2.1 dX5_take_36 rfl (lv_at hl 3 rfl) ?_
        refine nn_Vs (As := [.int (iI a), .int (iI b)]) (st := []) hc hw hp rfl (c_X5_takeLap l g  hp (by omega) (by omega)) (cwV 2 hc.2.2.2.2 gX5_take_X5_takeLap rfl rfl rfl (by decide +kernel) ⟨Nat.le_of_ble_eq_true rfl, Nat.le_of_ble_eq_true rfl⟩) rfl hl.1 rfl (Nat.le_of_ble_eq_true rfl) ⟨Nat.le_of_ble_eq_true rfl, Nat.le_of_ble_eq_true rfl⟩ dX5_take_37 (fun vr n1 S10 H locs qS10 hw => ?_)
        obtain ⟨rfl, rfl, hS10_0, fS10⟩ := qS10
        refine W.eq (g2 := F0 m 40 ls [.int (iI (if (1 ≤ a ∧ a ≤ 10) ∧ (1 ≤ b ∧ b ≤ 9) then 1 else 0))]) rfl ?_
        have e11 : S10 (pl + 1) = oI g 8 ln := (fS10 (pl + 1) (off_nr (x := pl) (a := 1) (by decide))).trans hln
        have e12 : S10 (pl + 2) = oI g 8 br := (fS10 (pl + 2) (off_nr (x := pl) (a := 2) (by decide))).trans hbr
        have e13 : S10 (pl + 3) = oI g 8 sl := (fS10 (pl + 3) (off_nr (x := pl) (a := 3) (by decide))).trans hsl
        exact hret (some (.int (iI (if (1 ≤ a ∧ a ≤ 10) ∧ (1 ≤ b ∧ b ≤ 9) then 1 else 0)))) _ S10 _ _ _ _ hw (⟨by rw [if_pos hr], rfl, hS10_0, e11, e12, e13, fun bb hb0 hb1 hb2 hb3 => (fS10 bb hb0)⟩) ⟨_, rfl, nn_nb _, dX5_take_40⟩
    · have htk2 := htk
      unfold takeC at htk2
      rw [if_neg (by omega), if_pos (by omega)] at htk2
      have hr : (20 ≤ a ∧ a ≤ 400) ∧ (40 ≤ b ∧ b ≤ 240) := Classical.byContradiction fun z => by rw [if_neg z] at htk2; cases htk2
      rw [if_pos hr] at htk2
      obtain rfl := Option.some.inj htk2
      refine lv_aload_n hc.1 hc.2.1 dX5_take_21 rfl (lv_at hl 0 rfl) ?_
      refine lv_iload_n hc.1 hc.2.1 dX5_take_22 rfl (lv_at hl 2 rfl) ?_
      refine lv_iload_n hc.1 hc.2.1 dX5_take_23 rfl (lv_at hl 3 rfl) ?_
      refine nn_Vs (As := [.int (iI a), .int (iI b)]) (st := []) hc hw hp rfl (c_X5_takeRoof l g  hp (by omega) (by omega)) (cwV 2 hc.2.2.2.2 gX5_take_X5_takeRoof rfl rfl rfl (by decide +kernel) ⟨Nat.le_of_ble_eq_true rfl, Nat.le_of_ble_eq_true rfl⟩) rfl hl.1 rfl (Nat.le_of_ble_eq_true rfl) ⟨Nat.le_of_ble_eq_true rfl, Nat.le_of_ble_eq_true rfl⟩ dX5_take_24 (fun vr n1 S14 H locs qS14 hw => ?_)
      obtain ⟨rfl, rfl, hS14_0, fS14⟩ := qS14
      refine W.eq (g2 := F0 m 27 ls [.int (iI (if (20 ≤ a ∧ a ≤ 400) ∧ (40 ≤ b ∧ b ≤ 240) then 1 else 0))]) rfl ?_
      have e15 : S14 (pl + 1) = oI g 8 ln := (fS14 (pl + 1) (off_nr (x := pl) (a := 1) (by decide))).trans hln
      have e16 : S14 (pl + 2) = oI g 8 br := (fS14 (pl + 2) (off_nr (x := pl) (a := 2) (by decide))).trans hbr
      have e17 : S14 (pl + 3) = oI g 8 sl := (fS14 (pl + 3) (off_nr (x := pl) (a := 3) (by decide))).trans hsl
      exact hret (some (.int (iI (if (20 ≤ a ∧ a ≤ 400) ∧ (40 ≤ b ∧ b ≤ 240) then 1 else 0)))) _ S14 _ _ _ _ hw (⟨by rw [if_pos hr], rfl, hS14_0, e15, e16, e17, fun bb hb0 hb1 hb2 hb3 => (fS14 bb hb0)⟩) ⟨_, rfl, nn_nb _, dX5_take_27⟩
  · have htk2 := htk
    unfold takeC at htk2
    rw [if_pos (by omega)] at htk2
    have hr : (20 ≤ a ∧ a ≤ 60) ∧ (10 ≤ b ∧ b ≤ 60) ∧ (1 ≤ c ∧ c ≤ 99) := Classical.byContradiction fun z => by rw [if_neg z] at htk2; cases htk2
    rw [if_pos hr] at htk2
    refine lv_aload_n hc.1 hc.2.1 dX5_take_6 rfl (lv_at hl 0 rfl) ?_
    refine lv_iload_n hc.1 hc.2.1 dX5_take_7 rfl (lv_at hl 2 rfl) ?_
    refine lv_iload_n hc.1 hc.2.1 dX5_take_8 rfl (lv_at hl 3 rfl) ?_
    refine lv_iload hc.1 hc.2.1 dX5_take_9 (lv_at hl 4 rfl) ?_
    refine nn_Vs (As := [.int (iI a), .int (iI b), .int (iI c)]) (st := []) hc hw hp rfl (c_X5_takeSlates_yes l g  hp hln hbr hsl (by omega) (rl) (rs) (by omega) (by omega) (by omega) (hr) (htk2)) (cwV 3 hc.2.2.2.2 gX5_take_X5_takeSlates rfl rfl rfl (by decide +kernel) ⟨Nat.le_of_ble_eq_true rfl, Nat.le_of_ble_eq_true rfl⟩) rfl hl.1 rfl (Nat.le_of_ble_eq_true rfl) ⟨Nat.le_of_ble_eq_true rfl, Nat.le_of_ble_eq_true rfl⟩ dX5_take_11 (fun vr n1 S18 H locs qS18 hw => ?_)
    obtain ⟨rfl, rfl, hS18_0, hS18_1, hS18_2, hS18_3, fS18⟩ := qS18
    refine W.eq (g2 := F0 m 14 ls [.int (iI 1)]) rfl ?_
    exact hret (some (.int (iI 1))) _ S18 _ _ _ _ hw (⟨rfl, rfl, hS18_0, hS18_1, hS18_2, hS18_3, fun bb hb0 hb1 hb2 hb3 => (fS18 bb hb0 hb1 hb2 hb3)⟩) ⟨_, rfl, by first | rfl | exact nn_nb _, dX5_take_14⟩

set_option maxHeartbeats 4000000 in
set_option maxRecDepth 100000 in
theorem c_X5_take_no (l : Launch) (g : gG) {n : Nat} {S : Nat → gE} {pl : Nat} {nH pHi pWi pLp pBk pHp : Int} {ln br sl : Nat → Int} {a b c : Int} {kd : Int} (hp : S pl = oO 5 [.ref (pl + 1), .ref (pl + 2), .ref (pl + 3), .int (iI nH), .int (iI pHi), .int (iI pWi), .int (iI pLp), .int (iI pBk), .int (iI pHp)]) (hln : S (pl + 1) = oI g 8 ln) (hbr : S (pl + 2) = oI g 8 br) (hsl : S (pl + 3) = oI g 8 sl) (rH : 0 ≤ nH ∧ nH ≤ 8) (rl : ∀ i : Nat, (i : Int) < nH → (-1000000 ≤ ln i ∧ ln i ≤ 1000000) ∧ (-1000000 ≤ br i ∧ br i ≤ 1000000)) (rs : ∀ i : Nat, (i : Int) < nH → -1000000 ≤ sl i ∧ sl i ≤ 1000000) (ra : -1000 ≤ a ∧ a ≤ 1000000) (rb : -1000 ≤ b ∧ b ≤ 1000000) (rc : -1000 ≤ c ∧ c ≤ 1000000) (rk : 0 ≤ kd ∧ kd ≤ 65535) (htk : takeC kd a b c (nH, ln, br, sl, pHi, pWi, pLp, pBk, pHp) = none) : g_Cs l yX5_take wsX5_take { frames := 2, cells := 0, slots := 0, locals := 49 } g [.ref pl, .int (iI kd), .int (iI a), .int (iI b), .int (iI c)] n S (fun vr n1 S1 => vr = some (.int (iI 0)) ∧ n = n1 ∧ gbP g S1 pl ∧ (∀ bb, bb ≠ pl → bb ≠ (pl + 1) → bb ≠ (pl + 2) → bb ≠ (pl + 3) → S1 bb = S bb)) 0 0 := by
  refine g_Cs.of (cc := cX5_take) (maxL := 5) (ret := (some .boolean)) (by decide) rfl (Nat.le_of_ble_eq_true rfl) ?_
  intro pp ee s m below meth cK Q H locs ls hc hnm hw hl hret
  have hl : lv_has ls 5 [(0, .ref pl), (1, .int (iI kd)), (2, .int (iI a)), (3, .int (iI b)), (4, .int (iI c))] := hl
  refine lv_iload_n hc.1 hc.2.1 dX5_take_0 rfl (lv_at hl 1 rfl) ?_
  refine nn_bipush hc dX5_take_1 (by decide +kernel) ?_
  refine nn_icmp_ne hc dX5_take_3 (tgt := 15) (by decide) (by omega) (by decide) (fun c1 => ?_) (fun c1 => ?_)
  · refine lv_iload_n hc.1 hc.2.1 dX5_take_15 rfl (lv_at hl 1 rfl) ?_
    refine nn_bipush hc dX5_take_16 (by decide +kernel) ?_
    refine nn_icmp_ne hc dX5_take_18 (tgt := 28) (by decide) (by omega) (by decide) (fun c2 => ?_) (fun c2 => ?_)
    · refine lv_iload_n hc.1 hc.2.1 dX5_take_28 rfl (lv_at hl 1 rfl) ?_
      refine nn_bipush hc dX5_take_29 (by decide +kernel) ?_
      refine nn_icmp_ne hc dX5_take_31 (tgt := 41) (by decide) (by omega) (by decide) (fun c3 => ?_) (fun c3 => ?_)
      · refine lv_iload_n hc.1 hc.2.1 dX5_take_41 rfl (lv_at hl 1 rfl) ?_
        refine nn_bipush hc dX5_take_42 (by decide +kernel) ?_
        refine nn_icmp_ne hc dX5_take_44 (tgt := 59) (by decide) (by omega) (by decide) (fun c4 => ?_) (fun c4 => ?_)
        · refine nn_iconst hc dX5_take_59 ?_
          exact hret (some (.int (iI 0))) _ S _ _ _ _ hw (⟨rfl, rfl, ⟨_, _, _, _, _, _, _, _, _, hp, hln, hbr, hsl⟩, fun bb _ _ _ _ => rfl⟩) ⟨_, rfl, by first | rfl | exact nn_nb _, dX5_take_60⟩
        · have htk2 := htk
          unfold takeC at htk2
          rw [if_neg (by omega), if_neg (by omega), if_neg (by omega), if_pos (by omega)] at htk2
          have hr : ¬ (0 ≤ a ∧ a ≤ 9) := fun z => by rw [if_pos z] at htk2; cases htk2
          refine lv_aload_n hc.1 hc.2.1 dX5_take_47 rfl (lv_at hl 0 rfl) ?_
          refine lv_iload_n hc.1 hc.2.1 dX5_take_48 rfl (lv_at hl 2 rfl) ?_
          refine nn_Vs (As := [.int (iI a)]) (st := []) hc hw hp rfl (c_X5_takeHip l g  hp (by omega)) (cwV 1 hc.2.2.2.2 gX5_take_X5_takeHip rfl rfl rfl (by decide +kernel) ⟨Nat.le_of_ble_eq_true rfl, Nat.le_of_ble_eq_true rfl⟩) rfl hl.1 rfl (Nat.le_of_ble_eq_true rfl) ⟨Nat.le_of_ble_eq_true rfl, Nat.le_of_ble_eq_true rfl⟩ dX5_take_49 (fun vr n1 S5 H locs qS5 hw => ?_)
          obtain ⟨rfl, rfl, hS5_0, fS5⟩ := qS5
          refine W.eq (g2 := F0 m 52 ls [.int (iI (if 0 ≤ a ∧ a ≤ 9 then 1 else 0))]) rfl ?_
          refine nn_if_eq hc dX5_take_52 (tgt := 59) (by decide) (by omega) (fun c6 => ?_) (fun c6 => ?_)
          · refine nn_iconst hc dX5_take_59 ?_
            have e7 : S5 (pl + 1) = oI g 8 ln := (fS5 (pl + 1) (off_nr (x := pl) (a := 1) (by decide))).trans hln
            have e8 : S5 (pl + 2) = oI g 8 br := (fS5 (pl + 2) (off_nr (x := pl) (a := 2) (by decide))).trans hbr
            have e9 : S5 (pl + 3) = oI g 8 sl := (fS5 (pl + 3) (off_nr (x := pl) (a := 3) (by decide))).trans hsl
            exact hret (some (.int (iI 0))) _ S5 _ _ _ _ hw (⟨rfl, rfl, ⟨_, _, _, _, _, _, _, _, _, hS5_0, e7, e8, e9⟩, fun bb hb0 hb1 hb2 hb3 => (fS5 bb hb0)⟩) ⟨_, rfl, by first | rfl | exact nn_nb _, dX5_take_60⟩
          · exfalso; rw [if_neg hr] at c6; exact absurd rfl c6
      · have htk2 := htk
        unfold takeC at htk2
        rw [if_neg (by omega), if_neg (by omega), if_pos (by omega)] at htk2
        have hr : ¬ ((1 ≤ a ∧ a ≤ 10) ∧ (1 ≤ b ∧ b ≤ 9)) := fun z => by rw [if_pos z] at htk2; cases htk2
        refine lv_aload_n hc.1 hc.2.1 dX5_take_34 rfl (lv_at hl 0 rfl) ?_
        refine lv_iload_n hc.1 hc.2.1 dX5_take_35 rfl (lv_at hl 2 rfl) ?_
        refine lv_iload_n hc.1 hc.2.1 dX5_take_36 rfl (lv_at hl 3 rfl) ?_
        refine nn_Vs (As := [.int (iI a), .int (iI b)]) (st := []) hc hw hp rfl (c_X5_takeLap l g  hp (by omega) (by omega)) (cwV 2 hc.2.2.2.2 gX5_take_X5_takeLap rfl rfl rfl (by decide +kernel) ⟨Nat.le_of_ble_eq_true rfl, Nat.le_of_ble_eq_true rfl⟩) rfl hl.1 rfl (Nat.le_of_ble_eq_true rfl) ⟨Nat.le_of_ble_eq_true rfl, Nat.le_of_ble_eq_true rfl⟩ dX5_take_37 (fun vr n1 S10 H locs qS10 hw => ?_)
        obtain ⟨rfl, rfl, hS10_0, fS10⟩ := qS10
        refine W.eq (g2 := F0 m 40 ls [.int (iI (if (1 ≤ a ∧ a ≤ 10) ∧ (1 ≤ b ∧ b ≤ 9) then 1 else 0))]) rfl ?_
        have e11 : S10 (pl + 1) = oI g 8 ln := (fS10 (pl + 1) (off_nr (x := pl) (a := 1) (by decide))).trans hln
        have e12 : S10 (pl + 2) = oI g 8 br := (fS10 (pl + 2) (off_nr (x := pl) (a := 2) (by decide))).trans hbr
        have e13 : S10 (pl + 3) = oI g 8 sl := (fS10 (pl + 3) (off_nr (x := pl) (a := 3) (by decide))).trans hsl
        exact hret (some (.int (iI (if (1 ≤ a ∧ a ≤ 10) ∧ (1 ≤ b ∧ b ≤ 9) then 1 else 0)))) _ S10 _ _ _ _ hw (⟨by rw [if_neg hr], rfl, ⟨_, _, _, _, _, _, _, _, _, hS10_0, e11, e12, e13⟩, fun bb hb0 hb1 hb2 hb3 => (fS10 bb hb0)⟩) ⟨_, rfl, nn_nb _, dX5_take_40⟩
    · have htk2 := htk
      unfold takeC at htk2
      rw [if_neg (by omega), if_pos (by omega)] at htk2
      have hr : ¬ ((20 ≤ a ∧ a ≤ 400) ∧ (40 ≤ b ∧ b ≤ 240)) := fun z => by rw [if_pos z] at htk2; cases htk2
      refine lv_aload_n hc.1 hc.2.1 dX5_take_21 rfl (lv_at hl 0 rfl) ?_
      refine lv_iload_n hc.1 hc.2.1 dX5_take_22 rfl (lv_at hl 2 rfl) ?_
      refine lv_iload_n hc.1 hc.2.1 dX5_take_23 rfl (lv_at hl 3 rfl) ?_
      refine nn_Vs (As := [.int (iI a), .int (iI b)]) (st := []) hc hw hp rfl (c_X5_takeRoof l g  hp (by omega) (by omega)) (cwV 2 hc.2.2.2.2 gX5_take_X5_takeRoof rfl rfl rfl (by decide +kernel) ⟨Nat.le_of_ble_eq_true rfl, Nat.le_of_ble_eq_true rfl⟩) rfl hl.1 rfl (Nat.le_of_ble_eq_true rfl) ⟨Nat.le_of_ble_eq_true rfl, Nat.le_of_ble_eq_true rfl⟩ dX5_take_24 (fun vr n1 S14 H locs qS14 hw => ?_)
      obtain ⟨rfl, rfl, hS14_0, fS14⟩ := qS14
      refine W.eq (g2 := F0 m 27 ls [.int (iI (if (20 ≤ a ∧ a ≤ 400) ∧ (40 ≤ b ∧ b ≤ 240) then 1 else 0))]) rfl ?_
      have e15 : S14 (pl + 1) = oI g 8 ln := (fS14 (pl + 1) (off_nr (x := pl) (a := 1) (by decide))).trans hln
      have e16 : S14 (pl + 2) = oI g 8 br := (fS14 (pl + 2) (off_nr (x := pl) (a := 2) (by decide))).trans hbr
      have e17 : S14 (pl + 3) = oI g 8 sl := (fS14 (pl + 3) (off_nr (x := pl) (a := 3) (by decide))).trans hsl
      exact hret (some (.int (iI (if (20 ≤ a ∧ a ≤ 400) ∧ (40 ≤ b ∧ b ≤ 240) then 1 else 0)))) _ S14 _ _ _ _ hw (⟨by rw [if_neg hr], rfl, ⟨_, _, _, _, _, _, _, _, _, hS14_0, e15, e16, e17⟩, fun bb hb0 hb1 hb2 hb3 => (fS14 bb hb0)⟩) ⟨_, rfl, nn_nb _, dX5_take_27⟩
  · have htk2 := htk
    unfold takeC at htk2
    rw [if_pos (by omega)] at htk2
    have hno0 : ¬ ((20 ≤ a ∧ a ≤ 60) ∧ (10 ≤ b ∧ b ≤ 60) ∧ (1 ≤ c ∧ c ≤ 99)) ∨ addC (nH, ln, br, sl, pHi, pWi, pLp, pBk, pHp) a b c = none := by by_cases z : (20 ≤ a ∧ a ≤ 60) ∧ (10 ≤ b ∧ b ≤ 60) ∧ (1 ≤ c ∧ c ≤ 99); rw [if_pos z] at htk2; exact Or.inr htk2; exact Or.inl z
    refine lv_aload_n hc.1 hc.2.1 dX5_take_6 rfl (lv_at hl 0 rfl) ?_
    refine lv_iload_n hc.1 hc.2.1 dX5_take_7 rfl (lv_at hl 2 rfl) ?_
    refine lv_iload_n hc.1 hc.2.1 dX5_take_8 rfl (lv_at hl 3 rfl) ?_
    refine lv_iload hc.1 hc.2.1 dX5_take_9 (lv_at hl 4 rfl) ?_
    refine nn_Vs (As := [.int (iI a), .int (iI b), .int (iI c)]) (st := []) hc hw hp rfl (c_X5_takeSlates_no l g  hp hln hbr hsl (by omega) (rl) (rs) (by omega) (by omega) (by omega) (hno0)) (cwV 3 hc.2.2.2.2 gX5_take_X5_takeSlates rfl rfl rfl (by decide +kernel) ⟨Nat.le_of_ble_eq_true rfl, Nat.le_of_ble_eq_true rfl⟩) rfl hl.1 rfl (Nat.le_of_ble_eq_true rfl) ⟨Nat.le_of_ble_eq_true rfl, Nat.le_of_ble_eq_true rfl⟩ dX5_take_11 (fun vr n1 S18 H locs qS18 hw => ?_)
    obtain ⟨rfl, rfl, kS18_0, fS18⟩ := qS18
    refine W.eq (g2 := F0 m 14 ls [.int (iI 0)]) rfl ?_
    exact hret (some (.int (iI 0))) _ S18 _ _ _ _ hw (⟨rfl, rfl, kS18_0, fun bb hb0 hb1 hb2 hb3 => (fS18 bb hb0 hb1 hb2 hb3)⟩) ⟨_, rfl, by first | rfl | exact nn_nb _, dX5_take_14⟩

set_option maxHeartbeats 4000000 in
set_option maxRecDepth 100000 in
theorem c_X7_append_yes (l : Launch) (g : gG) {n : Nat} {S : Nat → gE} {t : Nat} {tz ta : Int} {tx : Nat → Int} {x : Int} (ht : S t = oO 7 [.ref (t + 1), .ref (t + 2), .int (iI tz), .int (iI ta)]) (htx : S (t + 1) = oC g 200 tx) (rtz : 0 ≤ tz ∧ tz < 200) (rx : 0 ≤ x ∧ x ≤ 65535) : g_Cs l yX7_append wsX7_append { frames := 0, cells := 0, slots := 0, locals := 0 } g [.ref t, .int (iI x)] n S (fun vr n1 S1 => vr = some (.int (iI 1)) ∧ n = n1 ∧ S1 t = oO 7 [.ref (t + 1), .ref (t + 2), .int (iI (tz + 1)), .int (iI ta)] ∧ S1 (t + 1) = oC g 200 (va_up tx tz.toNat x) ∧ (∀ bb, bb ≠ t → bb ≠ (t + 1) → S1 bb = S bb)) 0 0 := by
  refine g_Cs.of (cc := cX7_append) (maxL := 2) (ret := (some .boolean)) (by decide) rfl (Nat.le_of_ble_eq_true rfl) ?_
  intro pp ee s m below meth cK Q H locs ls hc hnm hw hl hret
  have hl : lv_has ls 2 [(0, .ref t), (1, .int (iI x))] := hl
  have hiX7 : ∀ w ∈ u_ws RX7 TX7 4, w ∈ wsX7_append := by decide +kernel
  have lk19 : Cond.fieldLink RX7 19 "RoofCourses$Text" "size" "I" ∈ wsX7_append := by decide +kernel
  have lk9 : Cond.fieldLink RX7 9 "RoofCourses$Text" "letters" "[C" ∈ wsX7_append := by decide +kernel
  refine lv_aload_n hc.1 hc.2.1 dX7_append_0 rfl (lv_at hl 0 rfl) ?_
  refine nn_get hc hw ht hiX7 rfl 2 (by decide) rfl lk19 dX7_append_1 ?_
  refine nn_sipush hc dX7_append_4 (by decide +kernel) ?_
  refine nn_icmp_lt hc dX7_append_7 (tgt := 12) (by decide) (by omega) (by decide) (fun c1 => ?_) (fun c1 => ?_)
  · refine lv_aload_n hc.1 hc.2.1 dX7_append_12 rfl (lv_at hl 0 rfl) ?_
    refine nn_get hc hw ht hiX7 rfl 0 (by decide) rfl lk9 dX7_append_13 ?_
    refine lv_aload_n hc.1 hc.2.1 dX7_append_16 rfl (lv_at hl 0 rfl) ?_
    refine nn_get hc hw ht hiX7 rfl 2 (by decide) rfl lk19 dX7_append_17 ?_
    refine lv_iload_n hc.1 hc.2.1 dX7_append_20 rfl (lv_at hl 1 rfl) ?_
    refine nn_cast hc hw htx (by omega) (by omega) (ch_vn rx) dX7_append_21 (fun S2 H locs hS2 fS2 hw => ?_)
    refine lv_aload_n hc.1 hc.2.1 dX7_append_22 rfl (lv_at hl 0 rfl) ?_
    refine lv_dup hc.1 hc.2.1 dX7_append_23 rfl ?_
    have e3 : S2 t = oO 7 [.ref (t + 1), .ref (t + 2), .int (iI tz), .int (iI ta)] := (fS2 t (off_nl (x := t) (a := 1) (by decide))).trans ht
    refine nn_get hc hw e3 hiX7 rfl 2 (by decide) rfl lk19 dX7_append_24 ?_
    refine nn_iconst hc dX7_append_27 ?_
    refine nn_iadd hc dX7_append_28 ?_
    refine nn_put hc hw e3 hiX7 tyX7 tyX7_ok nmX7 rfl 2 (by decide) (Nat.le_of_ble_eq_true rfl) lk19 rfl rfl rfl dX7_append_29 (fun S4 H locs hS4 fS4 hw => ?_)
    have hS4 : S4 t = oO 7 [.ref (t + 1), .ref (t + 2), .int (iI (tz + 1)), .int (iI ta)] := hS4
    refine nn_iconst hc dX7_append_32 ?_
    have e5 : S4 (t + 1) = oC g 200 (va_up tx tz.toNat x) := (fS4 (t + 1) (off_nr (x := t) (a := 1) (by decide))).trans hS2
    exact hret (some (.int (iI 1))) _ S4 _ _ _ _ hw (⟨rfl, rfl, hS4, e5, fun bb hb0 hb1 => ((fS4 bb hb0)).trans (fS2 bb hb1)⟩) ⟨_, rfl, by first | rfl | exact nn_nb _, dX7_append_33⟩
  · exfalso; omega

set_option maxHeartbeats 4000000 in
set_option maxRecDepth 100000 in
theorem c_X7_append_no (l : Launch) (g : gG) {n : Nat} {S : Nat → gE} {t : Nat} {tz ta : Int} {tx : Nat → Int} {x : Int} (ht : S t = oO 7 [.ref (t + 1), .ref (t + 2), .int (iI tz), .int (iI ta)]) (htx : S (t + 1) = oC g 200 tx) (rtz : tz = 200) : g_Cp l yX7_append wsX7_append { frames := 0, cells := 0, slots := 0, locals := 0 } g [.ref t, .int (iI x)] n S (some (.int (iI 0))) := by
  refine g_Cp.of (cc := cX7_append) (maxL := 2) (ret := (some .boolean)) (by decide) rfl (Nat.le_of_ble_eq_true rfl) ?_
  intro pp ee s m below meth cK Q ls hc hnm hw hl hret
  have hl : lv_has ls 2 [(0, .ref t), (1, .int (iI x))] := hl
  have hiX7 : ∀ w ∈ u_ws RX7 TX7 4, w ∈ wsX7_append := by decide +kernel
  have lk19 : Cond.fieldLink RX7 19 "RoofCourses$Text" "size" "I" ∈ wsX7_append := by decide +kernel
  have hrt : ∀ (pc : Nat) (ls : Array Slot) (xr : Int), decode cX7_append pc = .ok (.ireturn, 1) → xr = (0) → W pp l ee ({ frames := 0, cells := 0, slots := 0, locals := 0 } : Room) s m ([.ref t, .int (iI x)] : List Value).toArray below meth cK s.heap [] 0 0 Q (F0 m pc ls [.int (iI xr)]) := fun pc ls xr d hx => by subst hx; exact hret pc ls ⟨_, rfl, rfl, d⟩
  refine lv_aload_n hc.1 hc.2.1 dX7_append_0 rfl (lv_at hl 0 rfl) ?_
  refine nn_get hc hw ht hiX7 rfl 2 (by decide) rfl lk19 dX7_append_1 ?_
  refine nn_sipush hc dX7_append_4 (by decide +kernel) ?_
  refine nn_icmp_lt hc dX7_append_7 (tgt := 12) (by decide) (by omega) (by decide) (fun c1 => ?_) (fun c1 => ?_)
  · exfalso; omega
  · refine nn_iconst hc dX7_append_10 ?_
    exact hrt _ _ _ dX7_append_11 (by first | rfl | omega | (split <;> omega))

set_option maxHeartbeats 4000000 in
set_option maxRecDepth 100000 in
theorem c_X7_clear (l : Launch) (g : gG) {n : Nat} {S : Nat → gE} {t : Nat} {tz ta : Int} (ht : S t = oO 7 [.ref (t + 1), .ref (t + 2), .int (iI tz), .int (iI ta)])  : g_Cs l yX7_clear wsX7_clear { frames := 0, cells := 0, slots := 0, locals := 0 } g [.ref t] n S (fun vr n1 S1 => vr = none ∧ n = n1 ∧ S1 t = oO 7 [.ref (t + 1), .ref (t + 2), .int (iI 0), .int (iI ta)] ∧ (∀ bb, bb ≠ t → S1 bb = S bb)) 0 0 := by
  refine g_Cs.of (cc := cX7_clear) (maxL := 1) (ret := none) (by decide) rfl (Nat.le_of_ble_eq_true rfl) ?_
  intro pp ee s m below meth cK Q H locs ls hc hnm hw hl hret
  have hl : lv_has ls 1 [(0, .ref t)] := hl
  have hiX7 : ∀ w ∈ u_ws RX7 TX7 4, w ∈ wsX7_clear := by decide +kernel
  have lk19 : Cond.fieldLink RX7 19 "RoofCourses$Text" "size" "I" ∈ wsX7_clear := by decide +kernel
  refine lv_aload_n hc.1 hc.2.1 dX7_clear_0 rfl (lv_at hl 0 rfl) ?_
  refine nn_iconst hc dX7_clear_1 ?_
  refine nn_put hc hw ht hiX7 tyX7 tyX7_ok nmX7 rfl 2 (by decide) (Nat.le_of_ble_eq_true rfl) lk19 rfl rfl rfl dX7_clear_2 (fun S1 H locs hS1 fS1 hw => ?_)
  have hS1 : S1 t = oO 7 [.ref (t + 1), .ref (t + 2), .int (iI 0), .int (iI ta)] := hS1
  exact hret none _ S1 _ _ _ _ hw (⟨rfl, rfl, hS1, fun bb hb0 => (fS1 bb hb0)⟩) ⟨rfl, dX7_clear_5⟩

set_option maxHeartbeats 4000000 in
set_option maxRecDepth 100000 in
theorem c_X7_letterHere (l : Launch) (g : gG) {n : Nat} {S : Nat → gE} {t : Nat} {tz ta : Int} {tx : Nat → Int} (ht : S t = oO 7 [.ref (t + 1), .ref (t + 2), .int (iI tz), .int (iI ta)]) (htx : S (t + 1) = oC g 200 tx) (rtz : 0 ≤ tz ∧ tz ≤ 200) (rta : 0 ≤ ta ∧ ta ≤ 100000) (rtx : ∀ i : Nat, (i : Int) < tz → 32 ≤ tx i ∧ tx i ≤ 126) : g_Cp l yX7_letterHere wsX7_letterHere { frames := 0, cells := 0, slots := 0, locals := 0 } g [.ref t] n S (some (.int (iI (if ta < tz then tx ta.toNat else 32)))) := by
  refine g_Cp.of (cc := cX7_letterHere) (maxL := 1) (ret := (some .char)) (by decide) rfl (Nat.le_of_ble_eq_true rfl) ?_
  intro pp ee s m below meth cK Q ls hc hnm hw hl hret
  have hl : lv_has ls 1 [(0, .ref t)] := hl
  have hiX7 : ∀ w ∈ u_ws RX7 TX7 4, w ∈ wsX7_letterHere := by decide +kernel
  have lk28 : Cond.fieldLink RX7 28 "RoofCourses$Text" "at" "I" ∈ wsX7_letterHere := by decide +kernel
  have lk19 : Cond.fieldLink RX7 19 "RoofCourses$Text" "size" "I" ∈ wsX7_letterHere := by decide +kernel
  have lk9 : Cond.fieldLink RX7 9 "RoofCourses$Text" "letters" "[C" ∈ wsX7_letterHere := by decide +kernel
  have hrt : ∀ (pc : Nat) (ls : Array Slot) (xr : Int), decode cX7_letterHere pc = .ok (.ireturn, 1) → xr = (if ta < tz then tx ta.toNat else 32) → W pp l ee ({ frames := 0, cells := 0, slots := 0, locals := 0 } : Room) s m ([.ref t] : List Value).toArray below meth cK s.heap [] 0 0 Q (F0 m pc ls [.int (iI xr)]) := fun pc ls xr d hx => by subst hx; exact hret pc ls ⟨_, rfl, (ch_nw (by split; rename_i h9; have := rtx ta.toNat (by omega); omega; omega)), d⟩
  refine lv_aload_n hc.1 hc.2.1 dX7_letterHere_0 rfl (lv_at hl 0 rfl) ?_
  refine nn_get hc hw ht hiX7 rfl 3 (by decide) rfl lk28 dX7_letterHere_1 ?_
  refine lv_aload_n hc.1 hc.2.1 dX7_letterHere_4 rfl (lv_at hl 0 rfl) ?_
  refine nn_get hc hw ht hiX7 rfl 2 (by decide) rfl lk19 dX7_letterHere_5 ?_
  refine nn_icmp_ge hc dX7_letterHere_8 (tgt := 23) (by decide) (by omega) (by omega) (fun c1 => ?_) (fun c1 => ?_)
  · refine nn_bipush hc dX7_letterHere_23 (by decide +kernel) ?_
    exact hrt _ _ _ dX7_letterHere_25 (by first | (rw [if_pos (by omega)]) | (rw [if_neg (by omega)]))
  · refine lv_aload_n hc.1 hc.2.1 dX7_letterHere_11 rfl (lv_at hl 0 rfl) ?_
    refine nn_get hc hw ht hiX7 rfl 0 (by decide) rfl lk9 dX7_letterHere_12 ?_
    refine lv_aload_n hc.1 hc.2.1 dX7_letterHere_15 rfl (lv_at hl 0 rfl) ?_
    refine nn_get hc hw ht hiX7 rfl 3 (by decide) rfl lk28 dX7_letterHere_16 ?_
    refine nn_cald hc hw htx (by omega) (by omega) dX7_letterHere_19 ?_
    refine lv_goto hc.1 hc.2.1 dX7_letterHere_20 (tgt := 25) (by decide) ?_
    exact hrt _ _ _ dX7_letterHere_25 (by first | (rw [if_pos (by omega)]) | (rw [if_neg (by omega)]))

set_option maxHeartbeats 4000000 in
set_option maxRecDepth 100000 in
theorem c_X7_isFigure (l : Launch) (g : gG) {n : Nat} {S : Nat → gE} {x : Int}  (rx : 0 ≤ x ∧ x ≤ 65535) : g_Cp l yX7_isFigure wsX7_isFigure { frames := 0, cells := 0, slots := 0, locals := 0 } g [.int (iI x)] n S (some (.int (iI (if 48 ≤ x ∧ x ≤ 57 then 1 else 0)))) := by
  refine g_Cp.of (cc := cX7_isFigure) (maxL := 1) (ret := (some .boolean)) (by decide) rfl (Nat.le_of_ble_eq_true rfl) ?_
  intro pp ee s m below meth cK Q ls hc hnm hw hl hret
  have hl : lv_has ls 1 [(0, .int (iI x))] := hl
  have hrt : ∀ (pc : Nat) (ls : Array Slot) (xr : Int), decode cX7_isFigure pc = .ok (.ireturn, 1) → xr = (if 48 ≤ x ∧ x ≤ 57 then 1 else 0) → W pp l ee ({ frames := 0, cells := 0, slots := 0, locals := 0 } : Room) s m ([.int (iI x)] : List Value).toArray below meth cK s.heap [] 0 0 Q (F0 m pc ls [.int (iI xr)]) := fun pc ls xr d hx => by subst hx; exact hret pc ls ⟨_, rfl, nn_nb _, d⟩
  refine lv_iload_n hc.1 hc.2.1 dX7_isFigure_0 rfl (lv_at hl 0 rfl) ?_
  refine nn_bipush hc dX7_isFigure_1 (by decide +kernel) ?_
  refine nn_icmp_lt hc dX7_isFigure_3 (tgt := 16) (by decide) (by omega) (by decide) (fun c1 => ?_) (fun c1 => ?_)
  · refine nn_iconst hc dX7_isFigure_16 ?_
    exact hrt _ _ _ dX7_isFigure_17 (by first | rfl | omega | (split <;> omega))
  · refine lv_iload_n hc.1 hc.2.1 dX7_isFigure_6 rfl (lv_at hl 0 rfl) ?_
    refine nn_bipush hc dX7_isFigure_7 (by decide +kernel) ?_
    refine nn_icmp_gt hc dX7_isFigure_9 (tgt := 16) (by decide) (by omega) (by decide) (fun c2 => ?_) (fun c2 => ?_)
    · refine nn_iconst hc dX7_isFigure_16 ?_
      exact hrt _ _ _ dX7_isFigure_17 (by first | rfl | omega | (split <;> omega))
    · refine nn_iconst hc dX7_isFigure_12 ?_
      refine lv_goto hc.1 hc.2.1 dX7_isFigure_13 (tgt := 17) (by decide) ?_
      exact hrt _ _ _ dX7_isFigure_17 (by first | rfl | omega | (split <;> omega))

set_option maxHeartbeats 4000000 in
set_option maxRecDepth 100000 in
theorem c_X7_numbersOf (l : Launch) (g : gG) {n : Nat} {S : Nat → gE} {x : Int}  (rx : 0 ≤ x ∧ x ≤ 65535) : g_Cp l yX7_numbersOf wsX7_numbersOf { frames := 0, cells := 0, slots := 0, locals := 0 } g [.int (iI x)] n S (some (.int (iI (nOf x : Int)))) := by
  refine g_Cp.of (cc := cX7_numbersOf) (maxL := 1) (ret := (some .int)) (by decide) rfl (Nat.le_of_ble_eq_true rfl) ?_
  intro pp ee s m below meth cK Q ls hc hnm hw hl hret
  have hl : lv_has ls 1 [(0, .int (iI x))] := hl
  have hrt : ∀ (pc : Nat) (ls : Array Slot) (xr : Int), decode cX7_numbersOf pc = .ok (.ireturn, 1) → xr = ((nOf x : Int)) → W pp l ee ({ frames := 0, cells := 0, slots := 0, locals := 0 } : Room) s m ([.int (iI x)] : List Value).toArray below meth cK s.heap [] 0 0 Q (F0 m pc ls [.int (iI xr)]) := fun pc ls xr d hx => by subst hx; exact hret pc ls ⟨_, rfl, rfl, d⟩
  refine lv_iload_n hc.1 hc.2.1 dX7_numbersOf_0 rfl (lv_at hl 0 rfl) ?_
  refine nn_bipush hc dX7_numbersOf_1 (by decide +kernel) ?_
  refine nn_icmp_ne hc dX7_numbersOf_3 (tgt := 8) (by decide) (by omega) (by decide) (fun c1 => ?_) (fun c1 => ?_)
  · refine lv_iload_n hc.1 hc.2.1 dX7_numbersOf_8 rfl (lv_at hl 0 rfl) ?_
    refine nn_bipush hc dX7_numbersOf_9 (by decide +kernel) ?_
    refine nn_icmp_eq hc dX7_numbersOf_11 (tgt := 20) (by decide) (by omega) (by decide) (fun c2 => ?_) (fun c2 => ?_)
    · refine nn_iconst hc dX7_numbersOf_20 ?_
      exact hrt _ _ _ dX7_numbersOf_21 (by unfold nOf; (repeat' split) <;> omega)
    · refine lv_iload_n hc.1 hc.2.1 dX7_numbersOf_14 rfl (lv_at hl 0 rfl) ?_
      refine nn_bipush hc dX7_numbersOf_15 (by decide +kernel) ?_
      refine nn_icmp_ne hc dX7_numbersOf_17 (tgt := 22) (by decide) (by omega) (by decide) (fun c3 => ?_) (fun c3 => ?_)
      · refine lv_iload_n hc.1 hc.2.1 dX7_numbersOf_22 rfl (lv_at hl 0 rfl) ?_
        refine nn_bipush hc dX7_numbersOf_23 (by decide +kernel) ?_
        refine nn_icmp_ne hc dX7_numbersOf_25 (tgt := 32) (by decide) (by omega) (by decide) (fun c4 => ?_) (fun c4 => ?_)
        · refine nn_iconst hc dX7_numbersOf_32 ?_
          exact hrt _ _ _ dX7_numbersOf_33 (by unfold nOf; (repeat' split) <;> omega)
        · refine nn_iconst hc dX7_numbersOf_28 ?_
          refine lv_goto hc.1 hc.2.1 dX7_numbersOf_29 (tgt := 33) (by decide) ?_
          exact hrt _ _ _ dX7_numbersOf_33 (by unfold nOf; (repeat' split) <;> omega)
      · refine nn_iconst hc dX7_numbersOf_20 ?_
        exact hrt _ _ _ dX7_numbersOf_21 (by unfold nOf; (repeat' split) <;> omega)
  · refine nn_iconst hc dX7_numbersOf_6 ?_
    exact hrt _ _ _ dX7_numbersOf_7 (by unfold nOf; (repeat' split) <;> omega)

set_option maxHeartbeats 4000000 in
set_option maxRecDepth 100000 in
theorem c_X7_readNumber (l : Launch) (g : gG) {n : Nat} {S : Nat → gE} {t : Nat} {tz ta : Int} {tx : Nat → Int} (ht : S t = oO 7 [.ref (t + 1), .ref (t + 2), .int (iI tz), .int (iI ta)]) (htx : S (t + 1) = oC g 200 tx) (rtz : 0 ≤ tz ∧ tz ≤ 200) (rta : 0 ≤ ta ∧ ta ≤ 1000) (rtx : ∀ i : Nat, (i : Int) < tz → 32 ≤ tx i ∧ tx i ≤ 126) : g_Cs l yX7_readNumber wsX7_readNumber { frames := 1, cells := 0, slots := 0, locals := 20 } g [.ref t] n S (fun vr n1 S1 => vr = some (.int (iI (if (rdV tx tz.toNat 3 ta.toNat 0).2 = ta.toNat then -4 else (rdV tx tz.toNat 3 ta.toNat 0).1))) ∧ n = n1 ∧ S1 t = oO 7 [.ref (t + 1), .ref (t + 2), .int (iI tz), .int (iI ((rdV tx tz.toNat 3 ta.toNat 0).2 : Int))] ∧ (∀ bb, bb ≠ t → S1 bb = S bb)) 0 0 := by
  refine g_Cs.of (cc := cX7_readNumber) (maxL := 3) (ret := (some .int)) (by decide) rfl (Nat.le_of_ble_eq_true rfl) ?_
  intro pp ee s m below meth cK Q H locs ls hc hnm hw hl hret
  have hl : lv_has ls 3 [(0, .ref t)] := hl
  have hiX7 : ∀ w ∈ u_ws RX7 TX7 4, w ∈ wsX7_readNumber := by decide +kernel
  have lkM55 : Cond.methodLink RX7 55 Lib.Math.max.name ∈ wsX7_readNumber := by decide +kernel
  have lkMsmax : Cond.static Lib.Math.max.name ∈ wsX7_readNumber := by decide +kernel
  have lkMi : Cond.initialized "java/lang/Math" ∈ wsX7_readNumber := by decide +kernel
  have lkMcmax : Cond.code Lib.Math.max.name Lib.Math.max.code 2 (some .int) ∈ wsX7_readNumber := by decide +kernel
  have lk28 : Cond.fieldLink RX7 28 "RoofCourses$Text" "at" "I" ∈ wsX7_readNumber := by decide +kernel
  refine nn_bipush hc dX7_readNumber_0 (by decide +kernel) ?_
  refine lv_istore_n (lv' := [(1, .int (iI (-4))), (0, .ref t)]) hc.1 hc.2.1 dX7_readNumber_2 rfl hl (by decide) rfl (fun ls hl => ?_)
  refine nn_iconst hc dX7_readNumber_3 ?_
  refine lv_istore_n (lv' := [(2, .int (iI 0)), (1, .int (iI (-4))), (0, .ref t)]) hc.1 hc.2.1 dX7_readNumber_4 rfl hl (by decide) rfl (fun ls hl => ?_)
  have lab5 : ∀ (fu5 : Nat) (num : Int) (fg : Int) (a1 : Int) (S1 : Nat → gE) (H : Heap) (locs : List Loc) (ls : Array Slot), (a1 = ta + fg ∧ ((fg = 0 ∧ num = -4) ∨ (fg = 1 ∧ 0 ≤ num ∧ num ≤ 9) ∨ (fg = 2 ∧ 0 ≤ num ∧ num ≤ 99) ∨ (fg = 3 ∧ 0 ≤ num ∧ num ≤ 999))) → (rdV tx tz.toNat 3 ta.toNat 0 = rdV tx tz.toNat (3 - fg).toNat a1.toNat (if num < 0 then 0 else num)) → S1 t = oO 7 [.ref (t + 1), .ref (t + 2), .int (iI tz), .int (iI a1)] → (∀ bb, bb ≠ t → S1 bb = S bb) → g_W g n S1 s H locs → (3 - fg).toNat < fu5 → lv_has ls 3 [(1, .int (iI num)), (2, .int (iI fg)), (0, .ref t)] → W pp l ee ({ frames := 1, cells := 0, slots := 0, locals := 20 } : Room) s m ([.ref t] : List Value).toArray below meth cK H locs 0 0 Q (F0 m 5 ls []) := by
    intro fu5
    induction fu5 with
    | zero =>
      intro num fg a1 S1 H locs ls hst hrd hc5_0 fr5 hw hmeas hl
      exact absurd hmeas (Nat.not_lt_zero _)
    | succ fu5 ih5 =>
      intro num fg a1 S1 H locs ls hst hrd hc5_0 fr5 hw hmeas hl
      refine lv_iload_n hc.1 hc.2.1 dX7_readNumber_5 rfl (lv_at hl 1 rfl) ?_
      refine nn_iconst hc dX7_readNumber_6 ?_
      refine nn_icmp_ge hc dX7_readNumber_7 (tgt := 53) (by decide) (by omega) (by decide) (fun c2 => ?_) (fun c2 => ?_)
      · have hr2 : rdV tx tz.toNat 3 ta.toNat 0 = (if num < 0 then 0 else num, a1.toNat) := by rw [hrd]; rw [show (3 - fg).toNat = 0 by omega]; rfl
        have hgg := rdV_ge tx tz.toNat 3 ta.toNat 0
        refine lv_iload_n hc.1 hc.2.1 dX7_readNumber_53 rfl (lv_at hl 0 rfl) ?_
        exact hret (some (.int (iI num))) _ S1 _ _ _ _ hw (⟨congrArg (fun z => some (Value.int (iI z))) (show num = _ by rw [hr2]; simp only []; split <;> omega), rfl, (by rw [hr2, show (((if num < 0 then 0 else num, a1.toNat) : Int × Nat).2 : Int) = a1 by simp only []; omega]; exact hc5_0), fun bb hb0 => (fr5 bb hb0)⟩) ⟨_, rfl, rfl, dX7_readNumber_54⟩
      · have hle : (if a1 < tz then tx a1.toNat else 32) ≤ 126 ∧ 32 ≤ (if a1 < tz then tx a1.toNat else 32) := by split; rename_i h9; have := rtx a1.toNat (by omega); omega; omega
        refine lv_aload_n hc.1 hc.2.1 dX7_readNumber_10 rfl (lv_at hl 2 rfl) ?_
        have e3 : S1 (t + 1) = oC g 200 tx := (fr5 (t + 1) (off_nr (x := t) (a := 1) (by decide))).trans htx
        refine nn_Vp (As := []) (st := []) hc hw hc5_0 rfl (c_X7_letterHere l g  hc5_0 e3 (by omega) (by omega) (rtx)) (cwV 0 hc.2.2.2.2 gX7_readNumber_X7_letterHere rfl rfl rfl (by decide +kernel) ⟨Nat.le_of_ble_eq_true rfl, Nat.le_of_ble_eq_true rfl⟩) rfl hl.1 rfl (Nat.le_of_ble_eq_true rfl) ⟨Nat.le_of_ble_eq_true rfl, Nat.le_of_ble_eq_true rfl⟩ dX7_readNumber_11 ?_
        refine W.eq (g2 := F0 m 14 ls [.int (iI (if a1 < tz then tx a1.toNat else 32))]) rfl ?_
        refine nn_Sp (As := [.int (iI (if a1 < tz then tx a1.toNat else 32))]) (st := []) hc hw (c_X7_isFigure l g   (by omega)) (va_cwS 1 hc.2.2.2.2 gX7_readNumber_X7_isFigure rfl rfl rfl (by decide +kernel) ⟨Nat.le_of_ble_eq_true rfl, Nat.le_of_ble_eq_true rfl⟩) rfl hl.1 rfl (Nat.le_of_ble_eq_true rfl) ⟨Nat.le_of_ble_eq_true rfl, Nat.le_of_ble_eq_true rfl⟩ dX7_readNumber_14 ?_
        refine W.eq (g2 := F0 m 17 ls [.int (iI (if 48 ≤ (if a1 < tz then tx a1.toNat else 32) ∧ (if a1 < tz then tx a1.toNat else 32) ≤ 57 then 1 else 0))]) rfl ?_
        refine nn_if_eq hc dX7_readNumber_17 (tgt := 53) (by decide) (by omega) (fun c4 => ?_) (fun c4 => ?_)
        · have hr2 : rdV tx tz.toNat 3 ta.toNat 0 = (if num < 0 then 0 else num, a1.toNat) := by rw [hrd]; rw [rdV_no (b_no dgt_iff (by omega))]
          have hgg := rdV_ge tx tz.toNat 3 ta.toNat 0
          refine lv_iload_n hc.1 hc.2.1 dX7_readNumber_53 rfl (lv_at hl 0 rfl) ?_
          exact hret (some (.int (iI num))) _ S1 _ _ _ _ hw (⟨congrArg (fun z => some (Value.int (iI z))) (show num = _ by rw [hr2]; simp only []; split <;> omega), rfl, (by rw [hr2, show (((if num < 0 then 0 else num, a1.toNat) : Int × Nat).2 : Int) = a1 by simp only []; omega]; exact hc5_0), fun bb hb0 => (fr5 bb hb0)⟩) ⟨_, rfl, rfl, dX7_readNumber_54⟩
        · refine lv_iload_n hc.1 hc.2.1 dX7_readNumber_20 rfl (lv_at hl 0 rfl) ?_
          refine nn_iconst hc dX7_readNumber_21 ?_
          refine nn_max hc hl.1 (by omega) (by decide) lkM55 lkMsmax lkMi lkMcmax (Nat.le_of_ble_eq_true rfl) (Nat.le_of_ble_eq_true rfl) ⟨Nat.zero_le _, Nat.zero_le _⟩ dX7_readNumber_22 ?_
          refine nn_bipush hc dX7_readNumber_25 (by decide +kernel) ?_
          refine nn_imul hc dX7_readNumber_27 ?_
          refine lv_aload_n hc.1 hc.2.1 dX7_readNumber_28 rfl (lv_at hl 2 rfl) ?_
          refine nn_Vp (As := []) (st := [.int (iI ((if num < 0 then 0 else num) * 10))]) hc hw hc5_0 rfl (c_X7_letterHere l g  hc5_0 e3 (by omega) (by omega) (rtx)) (cwV 0 hc.2.2.2.2 gX7_readNumber_X7_letterHere rfl rfl rfl (by decide +kernel) ⟨Nat.le_of_ble_eq_true rfl, Nat.le_of_ble_eq_true rfl⟩) rfl hl.1 rfl (Nat.le_of_ble_eq_true rfl) ⟨Nat.le_of_ble_eq_true rfl, Nat.le_of_ble_eq_true rfl⟩ dX7_readNumber_29 ?_
          refine W.eq (g2 := F0 m 32 ls [.int (iI (if a1 < tz then tx a1.toNat else 32)), .int (iI ((if num < 0 then 0 else num) * 10))]) rfl ?_
          refine nn_bipush hc dX7_readNumber_32 (by decide +kernel) ?_
          refine nn_isub hc dX7_readNumber_34 ?_
          refine nn_iadd hc dX7_readNumber_35 ?_
          refine nn_name (fun nx enx => ?_)
          refine lv_istore_n (lv' := [(1, .int (iI nx)), (2, .int (iI fg)), (0, .ref t)]) hc.1 hc.2.1 dX7_readNumber_36 rfl hl (by decide) rfl (fun ls hl => ?_)
          refine lv_aload_n hc.1 hc.2.1 dX7_readNumber_37 rfl (lv_at hl 2 rfl) ?_
          refine lv_dup hc.1 hc.2.1 dX7_readNumber_38 rfl ?_
          refine nn_get hc hw hc5_0 hiX7 rfl 3 (by decide) rfl lk28 dX7_readNumber_39 ?_
          refine nn_iconst hc dX7_readNumber_42 ?_
          refine nn_iadd hc dX7_readNumber_43 ?_
          refine nn_put hc hw hc5_0 hiX7 tyX7 tyX7_ok nmX7 rfl 3 (by decide) (Nat.le_of_ble_eq_true rfl) lk28 rfl rfl rfl dX7_readNumber_44 (fun S5 H locs hS5 fS5 hw => ?_)
          have hS5 : S5 t = oO 7 [.ref (t + 1), .ref (t + 2), .int (iI tz), .int (iI (a1 + 1))] := hS5
          refine nn_iinc (lv' := [(2, .int (iI (fg + 1))), (1, .int (iI nx)), (0, .ref t)]) hc dX7_readNumber_47 hl (k0 := 1) rfl (by decide) rfl (fun ls hl => ?_)
          refine lv_goto hc.1 hc.2.1 dX7_readNumber_50 (tgt := 5) (by decide) ?_
          exact ih5 nx (fg + 1) (a1 + 1) S5 _ _ _ (by omega) (by rw [hrd, show (3 - fg).toNat = (3 - (fg + 1)).toNat + 1 by omega, rdV_yes (dgt_iff.mpr (by omega)), show (a1 + 1).toNat = a1.toNat + 1 by omega, show (if nx < 0 then 0 else nx) = (if num < 0 then 0 else num) * 10 + (tx a1.toNat - 48) by omega]) hS5 (fun bb hb0 => ((fS5 bb hb0)).trans (fr5 bb hb0)) hw (by omega) (lv_sub hl [1, 0, 2] rfl)
  exact lab5 _ (-4) 0 ta S _ _ _ (by omega) (rfl) ht (fun bb _ => rfl) hw (Nat.lt_succ_self _) (lv_sub hl [1, 0, 2] rfl)

