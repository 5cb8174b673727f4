set_option maxHeartbeats 4000000 in
set_option maxRecDepth 100000 in
theorem c_X7_init (l : Launch) (g : gG) {S : Nat → gE} {t : Nat} (ht : S t = oO 7 [.null, .null, .int (iI 0), .int (iI 0)])  : g_Cs l yX7_init wsX7_init { frames := 1, cells := 2, slots := 203, locals := 12 } g [.ref t] (t + 1) S (fun vr n1 S1 => vr = none ∧ t + 3 = n1 ∧ S1 t = oO 7 [.ref (t + 1), .ref (t + 2), .int (iI 0), .int (iI 0)] ∧ S1 (t + 1) = oC g 200 (fun _ => 0) ∧ S1 (t + 2) = oI g 3 (fun _ => 0) ∧ (∀ bb, bb ≠ t → bb ≠ (t + 1) → bb ≠ (t + 2) → S1 bb = S bb)) 2 203 := by
  refine g_Cs.of (cc := cX7_init) (maxL := 1) (ret := none) (by decide) rfl (Nat.le_of_ble_eq_true rfl) ?_
  intro pp ee s m below meth cK Q H locs ls hc hnm hw hl hret
  have hl : lv_has ls 1 [(0, .ref t)] := hl
  have hiX7 : ∀ w ∈ u_ws RX7 TX7 4, w ∈ wsX7_init := by decide +kernel
  have lkO : Cond.methodLink RX7 3 objectInit ∈ wsX7_init := by decide +kernel
  have lkOi : Cond.instanceMethod objectInit ∈ wsX7_init := by decide +kernel
  have lkOc : Cond.code objectInit ⟨#[0xb1]⟩ 1 none ∈ wsX7_init := by decide +kernel
  have lkAchar : Cond.arrayClass .char ∈ wsX7_init := by decide +kernel
  have lk9 : Cond.fieldLink RX7 9 "RoofCourses$Text" "letters" "[C" ∈ wsX7_init := by decide +kernel
  have lkAint : Cond.arrayClass .int ∈ wsX7_init := by decide +kernel
  have lk15 : Cond.fieldLink RX7 15 "RoofCourses$Text" "numbers" "[I" ∈ wsX7_init := by decide +kernel
  refine lv_aload_n hc.1 hc.2.1 dX7_init_0 rfl (lv_at hl 0 rfl) ?_
  refine W.objInit hc.1 hc.2.1 hc.2.2.2.1 (hc.2.2.2.2 _ lkO) (hc.2.2.2.2 _ lkOi) (hc.2.2.2.2 _ lkOc) rfl (by rw [hc.2.2.1]; exact hl.1) rfl dX7_init_1 (Nat.le_of_ble_eq_true rfl) (Nat.le_of_ble_eq_true rfl) ?_
  refine W.eq (g2 := F0 m 4 ls []) rfl ?_
  refine lv_aload_n hc.1 hc.2.1 dX7_init_4 rfl (lv_at hl 0 rfl) ?_
  refine nn_sipush hc dX7_init_5 (by decide +kernel) ?_
  refine nn_newC (N := 200) hc hw lkAchar (by decide) rfl (Nat.le_of_ble_eq_true rfl) (Nat.le_of_ble_eq_true rfl) (Nat.le_of_ble_eq_true rfl) dX7_init_8 (fun S1 H hS1 fS1 hw => ?_)
  have hS1 : S1 (t + 1) = oC g 200 (fun _ => 0) := hS1
  have hw : g_W g (t + 2) S1 s H locs := hw
  refine W.cs (cells' := 1) (slots' := 200) (by decide) (by decide) ?_
  have e2 : S1 t = oO 7 [.null, .null, .int (iI 0), .int (iI 0)] := (fS1 t (off_nl (x := t) (a := 1) (by decide))).trans ht
  refine nn_putF hc hnm hw e2 hiX7 tyX7 tyX7_ok nmX7 rfl 0 (by decide) (Nat.le_of_ble_eq_true rfl) lk9 rfl rfl rfl rfl dX7_init_10 (fun S3 H locs hS3 fS3 hw => ?_)
  have hS3 : S3 t = oO 7 [.ref (t + 1), .null, .int (iI 0), .int (iI 0)] := hS3
  refine lv_aload_n hc.1 hc.2.1 dX7_init_13 rfl (lv_at hl 0 rfl) ?_
  refine nn_iconst hc dX7_init_14 ?_
  refine nn_newI (N := 3) hc hw lkAint (by decide) rfl (Nat.le_of_ble_eq_true rfl) (Nat.le_of_ble_eq_true rfl) (Nat.le_of_ble_eq_true rfl) dX7_init_15 (fun S4 H hS4 fS4 hw => ?_)
  have hS4 : S4 (t + 2) = oI g 3 (fun _ => 0) := hS4
  have hw : g_W g (t + 3) S4 s H locs := hw
  refine W.cs (cells' := 2) (slots' := 203) (by decide) (by decide) ?_
  have e5 : S4 t = oO 7 [.ref (t + 1), .null, .int (iI 0), .int (iI 0)] := (fS4 t (off_nl (x := t) (a := 2) (by decide))).trans hS3
  refine nn_putF hc hnm hw e5 hiX7 tyX7 tyX7_ok nmX7 rfl 1 (by decide) (Nat.le_of_ble_eq_true rfl) lk15 rfl rfl rfl rfl dX7_init_17 (fun S6 H locs hS6 fS6 hw => ?_)
  have hS6 : S6 t = oO 7 [.ref (t + 1), .ref (t + 2), .int (iI 0), .int (iI 0)] := hS6
  have e7 : S3 (t + 1) = oC g 200 (fun _ => 0) := (fS3 (t + 1) (off_nr (x := t) (a := 1) (by decide))).trans hS1
  have e8 : S4 (t + 1) = oC g 200 (fun _ => 0) := (fS4 (t + 1) (off_ne (x := t) (a := 1) (b := 2) (by decide))).trans e7
  have e9 : S6 (t + 1) = oC g 200 (fun _ => 0) := (fS6 (t + 1) (off_nr (x := t) (a := 1) (by decide))).trans e8
  have e10 : S6 (t + 2) = oI g 3 (fun _ => 0) := (fS6 (t + 2) (off_nr (x := t) (a := 2) (by decide))).trans hS4
  exact hret none _ S6 _ _ _ _ hw (⟨rfl, rfl, hS6, e9, e10, fun bb hb0 hb1 hb2 => ((((fS6 bb hb0)).trans (fS4 bb hb2)).trans (fS3 bb hb0)).trans (fS1 bb hb1)⟩) ⟨rfl, dX7_init_20⟩

set_option maxHeartbeats 4000000 in
set_option maxRecDepth 100000 in
theorem c_X5_init (l : Launch) (g : gG) {S : Nat → gE} {pl : Nat} (hp : S pl = oO 5 [.null, .null, .null, .int (iI 0), .int (iI 0), .int (iI 0), .int (iI 0), .int (iI 0), .int (iI 0)])  : g_Cs l yX5_init wsX5_init { frames := 1, cells := 3, slots := 24, locals := 12 } g [.ref pl] (pl + 1) S (fun vr n1 S1 => vr = none ∧ pl + 4 = n1 ∧ S1 pl = oO 5 [.ref (pl + 1), .ref (pl + 2), .ref (pl + 3), .int (iI 0), .int (iI 0), .int (iI 0), .int (iI 0), .int (iI 0), .int (iI 0)] ∧ S1 (pl + 1) = oI g 8 (fun _ => 0) ∧ S1 (pl + 2) = oI g 8 (fun _ => 0) ∧ S1 (pl + 3) = oI g 8 (fun _ => 0) ∧ (∀ bb, bb ≠ pl → bb ≠ (pl + 1) → bb ≠ (pl + 2) → bb ≠ (pl + 3) → S1 bb = S bb)) 3 24 := by
  refine g_Cs.of (cc := cX5_init) (maxL := 1) (ret := none) (by decide) rfl (Nat.le_of_ble_eq_true rfl) ?_
  intro pp ee s m below meth cK Q H locs ls hc hnm hw hl hret
  have hl : lv_has ls 1 [(0, .ref pl)] := hl
  have hiX5 : ∀ w ∈ u_ws RX5 TX5 9, w ∈ wsX5_init := by decide +kernel
  have lkO : Cond.methodLink RX5 3 objectInit ∈ wsX5_init := by decide +kernel
  have lkOi : Cond.instanceMethod objectInit ∈ wsX5_init := by decide +kernel
  have lkOc : Cond.code objectInit ⟨#[0xb1]⟩ 1 none ∈ wsX5_init := by decide +kernel
  have lkAint : Cond.arrayClass .int ∈ wsX5_init := by decide +kernel
  have lk9 : Cond.fieldLink RX5 9 "RoofCourses$Plan" "length" "[I" ∈ wsX5_init := by decide +kernel
  have lk15 : Cond.fieldLink RX5 15 "RoofCourses$Plan" "breadth" "[I" ∈ wsX5_init := by decide +kernel
  have lk18 : Cond.fieldLink RX5 18 "RoofCourses$Plan" "slates" "[I" ∈ wsX5_init := by decide +kernel
  refine lv_aload_n hc.1 hc.2.1 dX5_init_0 rfl (lv_at hl 0 rfl) ?_
  refine W.objInit hc.1 hc.2.1 hc.2.2.2.1 (hc.2.2.2.2 _ lkO) (hc.2.2.2.2 _ lkOi) (hc.2.2.2.2 _ lkOc) rfl (by rw [hc.2.2.1]; exact hl.1) rfl dX5_init_1 (Nat.le_of_ble_eq_true rfl) (Nat.le_of_ble_eq_true rfl) ?_
  refine W.eq (g2 := F0 m 4 ls []) rfl ?_
  refine lv_aload_n hc.1 hc.2.1 dX5_init_4 rfl (lv_at hl 0 rfl) ?_
  refine nn_bipush hc dX5_init_5 (by decide +kernel) ?_
  refine nn_newI (N := 8) hc hw lkAint (by decide) rfl (Nat.le_of_ble_eq_true rfl) (Nat.le_of_ble_eq_true rfl) (Nat.le_of_ble_eq_true rfl) dX5_init_7 (fun S1 H hS1 fS1 hw => ?_)
  have hS1 : S1 (pl + 1) = oI g 8 (fun _ => 0) := hS1
  have hw : g_W g (pl + 2) S1 s H locs := hw
  refine W.cs (cells' := 1) (slots' := 8) (by decide) (by decide) ?_
  have e2 : S1 pl = oO 5 [.null, .null, .null, .int (iI 0), .int (iI 0), .int (iI 0), .int (iI 0), .int (iI 0), .int (iI 0)] := (fS1 pl (off_nl (x := pl) (a := 1) (by decide))).trans hp
  refine nn_putF hc hnm hw e2 hiX5 tyX5 tyX5_ok nmX5 rfl 0 (by decide) (Nat.le_of_ble_eq_true rfl) lk9 rfl rfl rfl rfl dX5_init_9 (fun S3 H locs hS3 fS3 hw => ?_)
  have hS3 : S3 pl = oO 5 [.ref (pl + 1), .null, .null, .int (iI 0), .int (iI 0), .int (iI 0), .int (iI 0), .int (iI 0), .int (iI 0)] := hS3
  refine lv_aload_n hc.1 hc.2.1 dX5_init_12 rfl (lv_at hl 0 rfl) ?_
  refine nn_bipush hc dX5_init_13 (by decide +kernel) ?_
  refine nn_newI (N := 8) hc hw lkAint (by decide) rfl (Nat.le_of_ble_eq_true rfl) (Nat.le_of_ble_eq_true rfl) (Nat.le_of_ble_eq_true rfl) dX5_init_15 (fun S4 H hS4 fS4 hw => ?_)
  have hS4 : S4 (pl + 2) = oI g 8 (fun _ => 0) := hS4
  have hw : g_W g (pl + 3) S4 s H locs := hw
  refine W.cs (cells' := 2) (slots' := 16) (by decide) (by decide) ?_
  have e5 : S4 pl = oO 5 [.ref (pl + 1), .null, .null, .int (iI 0), .int (iI 0), .int (iI 0), .int (iI 0), .int (iI 0), .int (iI 0)] := (fS4 pl (off_nl (x := pl) (a := 2) (by decide))).trans hS3
  refine nn_putF hc hnm hw e5 hiX5 tyX5 tyX5_ok nmX5 rfl 1 (by decide) (Nat.le_of_ble_eq_true rfl) lk15 rfl rfl rfl rfl dX5_init_17 (fun S6 H locs hS6 fS6 hw => ?_)
  have hS6 : S6 pl = oO 5 [.ref (pl + 1), .ref (pl + 2), .null, .int (iI 0), .int (iI 0), .int (iI 0), .int (iI 0), .int (iI 0), .int (iI 0)] := hS6
  refine lv_aload_n hc.1 hc.2.1 dX5_init_20 rfl (lv_at hl 0 rfl) ?_
  refine nn_bipush hc dX5_init_21 (by decide +kernel) ?_
  refine nn_newI (N := 8) hc hw lkAint (by decide) rfl (Nat.le_of_ble_eq_true rfl) (Nat.le_of_ble_eq_true rfl) (Nat.le_of_ble_eq_true rfl) dX5_init_23 (fun S7 H hS7 fS7 hw => ?_)
  have hS7 : S7 (pl + 3) = oI g 8 (fun _ => 0) := hS7
  have hw : g_W g (pl + 4) S7 s H locs := hw
  refine W.cs (cells' := 3) (slots' := 24) (by decide) (by decide) ?_
  have e8 : S7 pl = oO 5 [.ref (pl + 1), .ref (pl + 2), .null, .int (iI 0), .int (iI 0), .int (iI 0), .int (iI 0), .int (iI 0), .int (iI 0)] := (fS7 pl (off_nl (x := pl) (a := 3) (by decide))).trans hS6
  refine nn_putF hc hnm hw e8 hiX5 tyX5 tyX5_ok nmX5 rfl 2 (by decide) (Nat.le_of_ble_eq_true rfl) lk18 rfl rfl rfl rfl dX5_init_25 (fun S9 H locs hS9 fS9 hw => ?_)
  have hS9 : S9 pl = oO 5 [.ref (pl + 1), .ref (pl + 2), .ref (pl + 3), .int (iI 0), .int (iI 0), .int (iI 0), .int (iI 0), .int (iI 0), .int (iI 0)] := hS9
  have e10 : S3 (pl + 1) = oI g 8 (fun _ => 0) := (fS3 (pl + 1) (off_nr (x := pl) (a := 1) (by decide))).trans hS1
  have e11 : S4 (pl + 1) = oI g 8 (fun _ => 0) := (fS4 (pl + 1) (off_ne (x := pl) (a := 1) (b := 2) (by decide))).trans e10
  have e12 : S6 (pl + 1) = oI g 8 (fun _ => 0) := (fS6 (pl + 1) (off_nr (x := pl) (a := 1) (by decide))).trans e11
  have e13 : S7 (pl + 1) = oI g 8 (fun _ => 0) := (fS7 (pl + 1) (off_ne (x := pl) (a := 1) (b := 3) (by decide))).trans e12
  have e14 : S9 (pl + 1) = oI g 8 (fun _ => 0) := (fS9 (pl + 1) (off_nr (x := pl) (a := 1) (by decide))).trans e13
  have e15 : S6 (pl + 2) = oI g 8 (fun _ => 0) := (fS6 (pl + 2) (off_nr (x := pl) (a := 2) (by decide))).trans hS4
  have e16 : S7 (pl + 2) = oI g 8 (fun _ => 0) := (fS7 (pl + 2) (off_ne (x := pl) (a := 2) (b := 3) (by decide))).trans e15
  have e17 : S9 (pl + 2) = oI g 8 (fun _ => 0) := (fS9 (pl + 2) (off_nr (x := pl) (a := 2) (by decide))).trans e16
  have e18 : S9 (pl + 3) = oI g 8 (fun _ => 0) := (fS9 (pl + 3) (off_nr (x := pl) (a := 3) (by decide))).trans hS7
  exact hret none _ S9 _ _ _ _ hw (⟨rfl, rfl, hS9, e14, e17, e18, fun bb hb0 hb1 hb2 hb3 => ((((((fS9 bb hb0)).trans (fS7 bb hb3)).trans (fS6 bb hb0)).trans (fS4 bb hb2)).trans (fS3 bb hb0)).trans (fS1 bb hb1)⟩) ⟨rfl, dX5_init_28⟩

set_option maxHeartbeats 4000000 in
set_option maxRecDepth 100000 in
theorem c_X4_init (l : Launch) (g : gG) {S : Nat → gE} {y pl : Nat} (hy : S y = oO 4 [.null, .null])  : g_Cs l yX4_init wsX4_init { frames := 1, cells := 1, slots := 8, locals := 12 } g [.ref y, .ref pl] (y + 1) S (fun vr n1 S1 => vr = none ∧ y + 2 = n1 ∧ S1 y = oO 4 [.ref pl, .ref (y + 1)] ∧ S1 (y + 1) = oI g 8 (fun _ => 0) ∧ (∀ bb, bb ≠ y → bb ≠ (y + 1) → S1 bb = S bb)) 1 8 := by
  refine g_Cs.of (cc := cX4_init) (maxL := 2) (ret := none) (by decide) rfl (Nat.le_of_ble_eq_true rfl) ?_
  intro pp ee s m below meth cK Q H locs ls hc hnm hw hl hret
  have hl : lv_has ls 2 [(0, .ref y), (1, .ref pl)] := hl
  have hiX4 : ∀ w ∈ u_ws RX4 TX4 2, w ∈ wsX4_init := by decide +kernel
  have lkO : Cond.methodLink RX4 3 objectInit ∈ wsX4_init := by decide +kernel
  have lkOi : Cond.instanceMethod objectInit ∈ wsX4_init := by decide +kernel
  have lkOc : Cond.code objectInit ⟨#[0xb1]⟩ 1 none ∈ wsX4_init := by decide +kernel
  have lkAint : Cond.arrayClass .int ∈ wsX4_init := by decide +kernel
  have lk9 : Cond.fieldLink RX4 9 "RoofCourses$Layer" "rest" "[I" ∈ wsX4_init := by decide +kernel
  have lk15 : Cond.fieldLink RX4 15 "RoofCourses$Layer" "plan" "LRoofCourses$Plan;" ∈ wsX4_init := by decide +kernel
  refine lv_aload_n hc.1 hc.2.1 dX4_init_0 rfl (lv_at hl 0 rfl) ?_
  refine W.objInit hc.1 hc.2.1 hc.2.2.2.1 (hc.2.2.2.2 _ lkO) (hc.2.2.2.2 _ lkOi) (hc.2.2.2.2 _ lkOc) rfl (by rw [hc.2.2.1]; exact hl.1) rfl dX4_init_1 (Nat.le_of_ble_eq_true rfl) (Nat.le_of_ble_eq_true rfl) ?_
  refine W.eq (g2 := F0 m 4 ls []) rfl ?_
  refine lv_aload_n hc.1 hc.2.1 dX4_init_4 rfl (lv_at hl 0 rfl) ?_
  refine nn_bipush hc dX4_init_5 (by decide +kernel) ?_
  refine nn_newI (N := 8) hc hw lkAint (by decide) rfl (Nat.le_of_ble_eq_true rfl) (Nat.le_of_ble_eq_true rfl) (Nat.le_of_ble_eq_true rfl) dX4_init_7 (fun S1 H hS1 fS1 hw => ?_)
  have hS1 : S1 (y + 1) = oI g 8 (fun _ => 0) := hS1
  have hw : g_W g (y + 2) S1 s H locs := hw
  refine W.cs (cells' := 1) (slots' := 8) (by decide) (by decide) ?_
  have e2 : S1 y = oO 4 [.null, .null] := (fS1 y (off_nl (x := y) (a := 1) (by decide))).trans hy
  refine nn_putF hc hnm hw e2 hiX4 tyX4 tyX4_ok nmX4 rfl 1 (by decide) (Nat.le_of_ble_eq_true rfl) lk9 rfl rfl rfl rfl dX4_init_9 (fun S3 H locs hS3 fS3 hw => ?_)
  have hS3 : S3 y = oO 4 [.null, .ref (y + 1)] := hS3
  refine lv_aload_n hc.1 hc.2.1 dX4_init_12 rfl (lv_at hl 0 rfl) ?_
  refine lv_aload_n hc.1 hc.2.1 dX4_init_13 rfl (lv_at hl 1 rfl) ?_
  refine nn_putF hc hnm hw hS3 hiX4 tyX4 tyX4_ok nmX4 rfl 0 (by decide) (Nat.le_of_ble_eq_true rfl) lk15 rfl rfl rfl rfl dX4_init_14 (fun S4 H locs hS4 fS4 hw => ?_)
  have hS4 : S4 y = oO 4 [.ref pl, .ref (y + 1)] := hS4
  have e5 : S3 (y + 1) = oI g 8 (fun _ => 0) := (fS3 (y + 1) (off_nr (x := y) (a := 1) (by decide))).trans hS1
  have e6 : S4 (y + 1) = oI g 8 (fun _ => 0) := (fS4 (y + 1) (off_nr (x := y) (a := 1) (by decide))).trans e5
  exact hret none _ S4 _ _ _ _ hw (⟨rfl, rfl, hS4, e6, fun bb hb0 hb1 => (((fS4 bb hb0)).trans (fS3 bb hb0)).trans (fS1 bb hb1)⟩) ⟨rfl, dX4_init_17⟩

set_option maxHeartbeats 4000000 in
set_option maxRecDepth 100000 in
theorem c_X2_init (l : Launch) (g : gG) {S : Nat → gE} {w : Nat} (hw0 : S w = oO 2 [.null, .int (iI 0)])  : g_Cs l yX2_init wsX2_init { frames := 1, cells := 1, slots := 6, locals := 12 } g [.ref w] (w + 1) S (fun vr n1 S1 => vr = none ∧ w + 2 = n1 ∧ S1 w = oO 2 [.ref (w + 1), .int (iI 0)] ∧ S1 (w + 1) = oR g 3 6 (fun _ => none) ∧ (∀ bb, bb ≠ w → bb ≠ (w + 1) → S1 bb = S bb)) 1 6 := by
  refine g_Cs.of (cc := cX2_init) (maxL := 1) (ret := none) (by decide) rfl (Nat.le_of_ble_eq_true rfl) ?_
  intro pp ee s m below meth cK Q H locs ls hc hnm hw hl hret
  have hl : lv_has ls 1 [(0, .ref w)] := hl
  have hiX2 : ∀ w ∈ u_ws RX2 TX2 2, w ∈ wsX2_init := by decide +kernel
  have lkO : Cond.methodLink RX2 3 objectInit ∈ wsX2_init := by decide +kernel
  have lkOi : Cond.instanceMethod objectInit ∈ wsX2_init := by decide +kernel
  have lkOc : Cond.code objectInit ⟨#[0xb1]⟩ 1 none ∈ wsX2_init := by decide +kernel
  have lkC9 : Cond.classLink RX2 9 RX1 ∈ wsX2_init := by decide +kernel
  have lk11 : Cond.fieldLink RX2 11 "RoofCourses$Changes" "kept" "[LRoofCourses$Change;" ∈ wsX2_init := by decide +kernel
  refine lv_aload_n hc.1 hc.2.1 dX2_init_0 rfl (lv_at hl 0 rfl) ?_
  refine W.objInit hc.1 hc.2.1 hc.2.2.2.1 (hc.2.2.2.2 _ lkO) (hc.2.2.2.2 _ lkOi) (hc.2.2.2.2 _ lkOc) rfl (by rw [hc.2.2.1]; exact hl.1) rfl dX2_init_1 (Nat.le_of_ble_eq_true rfl) (Nat.le_of_ble_eq_true rfl) ?_
  refine W.eq (g2 := F0 m 4 ls []) rfl ?_
  refine lv_aload_n hc.1 hc.2.1 dX2_init_4 rfl (lv_at hl 0 rfl) ?_
  refine nn_bipush hc dX2_init_5 (by decide +kernel) ?_
  refine nn_newQ (t := 3) (N := 6) hc hw lkC9 hw.2.1.2.2.2 rfl (by decide) rfl (Nat.le_of_ble_eq_true rfl) (Nat.le_of_ble_eq_true rfl) (Nat.le_of_ble_eq_true rfl) dX2_init_7 (fun S1 H hS1 fS1 hw => ?_)
  have hS1 : S1 (w + 1) = oR g 3 6 (fun _ => none) := hS1
  have hw : g_W g (w + 2) S1 s H locs := hw
  refine W.cs (cells' := 1) (slots' := 6) (by decide) (by decide) ?_
  have e2 : S1 w = oO 2 [.null, .int (iI 0)] := (fS1 w (off_nl (x := w) (a := 1) (by decide))).trans hw0
  refine nn_putF hc hnm hw e2 hiX2 tyX2 tyX2_ok nmX2 rfl 0 (by decide) (Nat.le_of_ble_eq_true rfl) lk11 rfl rfl rfl rfl dX2_init_10 (fun S3 H locs hS3 fS3 hw => ?_)
  have hS3 : S3 w = oO 2 [.ref (w + 1), .int (iI 0)] := hS3
  have e4 : S3 (w + 1) = oR g 3 6 (fun _ => none) := (fS3 (w + 1) (off_nr (x := w) (a := 1) (by decide))).trans hS1
  exact hret none _ S3 _ _ _ _ hw (⟨rfl, rfl, hS3, e4, fun bb hb0 hb1 => ((fS3 bb hb0)).trans (fS1 bb hb1)⟩) ⟨rfl, dX2_init_13⟩

set_option maxHeartbeats 4000000 in
set_option maxRecDepth 100000 in
theorem c_X6_init (l : Launch) (g : gG) {S : Nat → gE} {o pl : Nat} (ho : S o = oO 6 [.null, .null, .null, .null, .int (iI 0)])  : g_Cs l yX6_init wsX6_init { frames := 2, cells := 5, slots := 157, locals := 32 } g [.ref o, .ref pl] (o + 1) S (fun vr n1 S1 => ∃ cs9 : Nat → Option Nat, vr = none ∧ o + 6 = n1 ∧ S1 o = oO 6 [.ref pl, .ref (o + 1), .ref (o + 2), .ref (o + 3), .int (iI 0)] ∧ S1 (o + 1) = oI g 8 (fun _ => 0) ∧ S1 (o + 2) = oR g 2 20 cs9 ∧ S1 (o + 3) = oO 3 [.ref (o + 3 + 1), .ref (o + 3 + 2), .int (iI 60), .int (iI 0), .int (iI 0), .int (iI 0), .int (iI 0), .int (iI 0), .int (iI 0)] ∧ S1 (o + 4) = oI g 60 (fun _ => 0) ∧ S1 (o + 5) = oI g 60 (fun _ => 0) ∧ (∀ bb, bb ≠ o → bb ≠ (o + 1) → bb ≠ (o + 2) → bb ≠ (o + 3) → bb ≠ (o + 4) → bb ≠ (o + 5) → S1 bb = S bb)) 5 157 := by
  refine g_Cs.of (cc := cX6_init) (maxL := 3) (ret := none) (by decide) rfl (Nat.le_of_ble_eq_true rfl) ?_
  intro pp ee s m below meth cK Q H locs ls hc hnm hw hl hret
  have hl : lv_has ls 3 [(0, .ref o), (1, .ref pl)] := hl
  have hiX6 : ∀ w ∈ u_ws RX6 TX6 5, w ∈ wsX6_init := by decide +kernel
  have hiX3 : ∀ w ∈ u_ws RX3 TX3 9, w ∈ wsX6_init := by decide +kernel
  have lkO : Cond.methodLink RX6 3 objectInit ∈ wsX6_init := by decide +kernel
  have lkOi : Cond.instanceMethod objectInit ∈ wsX6_init := by decide +kernel
  have lkOc : Cond.code objectInit ⟨#[0xb1]⟩ 1 none ∈ wsX6_init := by decide +kernel
  have lkAint : Cond.arrayClass .int ∈ wsX6_init := by decide +kernel
  have lk9 : Cond.fieldLink RX6 9 "RoofCourses$Roof" "left" "[I" ∈ wsX6_init := by decide +kernel
  have lkC15 : Cond.classLink RX6 15 RX3 ∈ wsX6_init := by decide +kernel
  have lk17 : Cond.fieldLink RX6 17 "RoofCourses$Roof" "courses" "[LRoofCourses$Course;" ∈ wsX6_init := by decide +kernel
  have lkIsX3 : Cond.instantiable RX3 9 ∈ wsX6_init := by decide +kernel
  have lkI_X3 : Cond.initialized RX3 ∈ wsX6_init := by decide +kernel
  have lkIn_X3_init : Cond.instanceMethod yX3_init ∈ wsX6_init := by decide +kernel
  have lk22 : Cond.fieldLink RX6 22 "RoofCourses$Roof" "ground" "LRoofCourses$Course;" ∈ wsX6_init := by decide +kernel
  have lk26 : Cond.fieldLink RX6 26 "RoofCourses$Roof" "plan" "LRoofCourses$Plan;" ∈ wsX6_init := by decide +kernel
  have lk30 : Cond.fieldLink RX6 30 "RoofCourses$Course" "length" "I" ∈ wsX6_init := by decide +kernel
  refine lv_aload_n hc.1 hc.2.1 dX6_init_0 rfl (lv_at hl 0 rfl) ?_
  refine W.objInit hc.1 hc.2.1 hc.2.2.2.1 (hc.2.2.2.2 _ lkO) (hc.2.2.2.2 _ lkOi) (hc.2.2.2.2 _ lkOc) rfl (by rw [hc.2.2.1]; exact hl.1) rfl dX6_init_1 (Nat.le_of_ble_eq_true rfl) (Nat.le_of_ble_eq_true rfl) ?_
  refine W.eq (g2 := F0 m 4 ls []) rfl ?_
  refine lv_aload_n hc.1 hc.2.1 dX6_init_4 rfl (lv_at hl 0 rfl) ?_
  refine nn_bipush hc dX6_init_5 (by decide +kernel) ?_
  refine nn_newI (N := 8) hc hw lkAint (by decide) rfl (Nat.le_of_ble_eq_true rfl) (Nat.le_of_ble_eq_true rfl) (Nat.le_of_ble_eq_true rfl) dX6_init_7 (fun S1 H hS1 fS1 hw => ?_)
  have hS1 : S1 (o + 1) = oI g 8 (fun _ => 0) := hS1
  have hw : g_W g (o + 2) S1 s H locs := hw
  refine W.cs (cells' := 1) (slots' := 8) (by decide) (by decide) ?_
  have e2 : S1 o = oO 6 [.null, .null, .null, .null, .int (iI 0)] := (fS1 o (off_nl (x := o) (a := 1) (by decide))).trans ho
  refine nn_putF hc hnm hw e2 hiX6 tyX6 tyX6_ok nmX6 rfl 1 (by decide) (Nat.le_of_ble_eq_true rfl) lk9 rfl rfl rfl rfl dX6_init_9 (fun S3 H locs hS3 fS3 hw => ?_)
  have hS3 : S3 o = oO 6 [.null, .ref (o + 1), .null, .null, .int (iI 0)] := hS3
  refine lv_aload_n hc.1 hc.2.1 dX6_init_12 rfl (lv_at hl 0 rfl) ?_
  refine nn_bipush hc dX6_init_13 (by decide +kernel) ?_
  refine nn_newQ (t := 2) (N := 20) hc hw lkC15 hw.2.1.2.2.1 rfl (by decide) rfl (Nat.le_of_ble_eq_true rfl) (Nat.le_of_ble_eq_true rfl) (Nat.le_of_ble_eq_true rfl) dX6_init_15 (fun S4 H hS4 fS4 hw => ?_)
  have hS4 : S4 (o + 2) = oR g 2 20 (fun _ => none) := hS4
  have hw : g_W g (o + 3) S4 s H locs := hw
  refine W.cs (cells' := 2) (slots' := 28) (by decide) (by decide) ?_
  have e5 : S4 o = oO 6 [.null, .ref (o + 1), .null, .null, .int (iI 0)] := (fS4 o (off_nl (x := o) (a := 2) (by decide))).trans hS3
  refine nn_putF hc hnm hw e5 hiX6 tyX6 tyX6_ok nmX6 rfl 2 (by decide) (Nat.le_of_ble_eq_true rfl) lk17 rfl rfl rfl rfl dX6_init_18 (fun S6 H locs hS6 fS6 hw => ?_)
  have hS6 : S6 o = oO 6 [.null, .ref (o + 1), .ref (o + 2), .null, .int (iI 0)] := hS6
  refine lv_aload_n hc.1 hc.2.1 dX6_init_21 rfl (lv_at hl 0 rfl) ?_
  refine nn_new (ci := 3) hc hw hiX3 tyX3 tyX3_ok lkC15 lkIsX3 lkI_X3 rfl [.null, .null, .int (iI 0), .int (iI 0), .int (iI 0), .int (iI 0), .int (iI 0), .int (iI 0), .int (iI 0)] (fun j hj => by rcases (show j = 0 ∨ j = 1 ∨ j = 2 ∨ j = 3 ∨ j = 4 ∨ j = 5 ∨ j = 6 ∨ j = 7 ∨ j = 8 by omega) with rfl | rfl | rfl | rfl | rfl | rfl | rfl | rfl | rfl <;> rfl) (Nat.le_of_ble_eq_true rfl) (Nat.le_of_ble_eq_true rfl) dX6_init_22 (fun S7 H hS7 fS7 hw => ?_)
  have hS7 : S7 (o + 3) = oO 3 [.null, .null, .int (iI 0), .int (iI 0), .int (iI 0), .int (iI 0), .int (iI 0), .int (iI 0), .int (iI 0)] := hS7
  have hw : g_W g (o + 4) S7 s H locs := hw
  refine W.cs (cells' := 3) (slots' := 37) (by decide) (by decide) ?_
  refine lv_dup hc.1 hc.2.1 dX6_init_25 rfl ?_
  refine nn_IsN (As := []) (st := [.ref (o + 3), .ref o]) hc hw (c_X3_init l g  hS7 ) (va_cnB (own := RX6) (index := 21) (y := yX3_init) (host := "RoofCourses") 0 hc.2.2.2.2 gX6_init_X3_init_n21 rfl rfl rfl (g_nw hw (RX6, 21, yX3_init) (by decide +kernel)) (hc.2.2.2.2 _ lkI_X3) (by decide +kernel) ⟨Nat.le_of_ble_eq_true rfl, Nat.le_of_ble_eq_true rfl⟩) rfl lkIn_X3_init rfl hl.1 rfl (Nat.le_of_ble_eq_true rfl) ⟨Nat.le_of_ble_eq_true rfl, Nat.le_of_ble_eq_true rfl⟩ dX6_init_26 (fun vr n1 S8 H locs qS8 hw => ?_)
  obtain ⟨rfl, rfl, hS8_0, hS8_1, hS8_2, fS8⟩ := qS8
  refine W.eq (g2 := F0 m 29 ls [.ref (o + 3), .ref o]) rfl ?_
  have e9 : S7 o = oO 6 [.null, .ref (o + 1), .ref (o + 2), .null, .int (iI 0)] := (fS7 o (off_nl (x := o) (a := 3) (by decide))).trans hS6
  have e10 : S8 o = oO 6 [.null, .ref (o + 1), .ref (o + 2), .null, .int (iI 0)] := (fS8 o (off_nl (x := o) (a := 3) (by decide)) (off_nl (x := o) (a := 4) (by decide)) (off_nl (x := o) (a := 5) (by decide))).trans e9
  refine nn_putF hc hnm hw e10 hiX6 tyX6 tyX6_ok nmX6 rfl 3 (by decide) (Nat.le_of_ble_eq_true rfl) lk22 rfl rfl rfl rfl dX6_init_29 (fun S11 H locs hS11 fS11 hw => ?_)
  have hS11 : S11 o = oO 6 [.null, .ref (o + 1), .ref (o + 2), .ref (o + 3), .int (iI 0)] := hS11
  refine lv_aload_n hc.1 hc.2.1 dX6_init_32 rfl (lv_at hl 0 rfl) ?_
  refine lv_aload_n hc.1 hc.2.1 dX6_init_33 rfl (lv_at hl 1 rfl) ?_
  refine nn_putF hc hnm hw hS11 hiX6 tyX6 tyX6_ok nmX6 rfl 0 (by decide) (Nat.le_of_ble_eq_true rfl) lk26 rfl rfl rfl rfl dX6_init_34 (fun S12 H locs hS12 fS12 hw => ?_)
  have hS12 : S12 o = oO 6 [.ref pl, .ref (o + 1), .ref (o + 2), .ref (o + 3), .int (iI 0)] := hS12
  refine lv_aload_n hc.1 hc.2.1 dX6_init_37 rfl (lv_at hl 0 rfl) ?_
  refine nn_get hc hw hS12 hiX6 rfl 3 (by decide) rfl lk22 dX6_init_38 ?_
  refine nn_bipush hc dX6_init_41 (by decide +kernel) ?_
  have e13 : S11 (o + 3) = oO 3 [.ref ((o + 3) + 1), .ref ((o + 3) + 2), .int (iI 0), .int (iI 0), .int (iI 0), .int (iI 0), .int (iI 0), .int (iI 0), .int (iI 0)] := (fS11 (o + 3) (off_nr (x := o) (a := 3) (by decide))).trans hS8_0
  have e14 : S12 (o + 3) = oO 3 [.ref ((o + 3) + 1), .ref ((o + 3) + 2), .int (iI 0), .int (iI 0), .int (iI 0), .int (iI 0), .int (iI 0), .int (iI 0), .int (iI 0)] := (fS12 (o + 3) (off_nr (x := o) (a := 3) (by decide))).trans e13
  refine nn_put hc hw e14 hiX3 tyX3 tyX3_ok nmX3 rfl 2 (by decide) (Nat.le_of_ble_eq_true rfl) lk30 rfl rfl rfl dX6_init_43 (fun S15 H locs hS15 fS15 hw => ?_)
  have hS15 : S15 (o + 3) = oO 3 [.ref ((o + 3) + 1), .ref ((o + 3) + 2), .int (iI 60), .int (iI 0), .int (iI 0), .int (iI 0), .int (iI 0), .int (iI 0), .int (iI 0)] := hS15
  refine nn_iconst hc dX6_init_46 ?_
  refine lv_istore_n (lv' := [(2, .int (iI 0)), (0, .ref o), (1, .ref pl)]) hc.1 hc.2.1 dX6_init_47 rfl hl (by decide) rfl (fun ls hl => ?_)
  have lab48 : ∀ (fu48 : Nat) (k : Int) (cs1 : Nat → Option Nat) (S16 : Nat → gE) (H : Heap) (locs : List Loc) (ls : Array Slot), (0 ≤ k ∧ k ≤ 20) → S16 (o + 2) = oR g 2 20 cs1 → (∀ bb, bb ≠ (o + 2) → S16 bb = S15 bb) → g_W g (o + 6) S16 s H locs → (20 - k).toNat < fu48 → lv_has ls 3 [(2, .int (iI k)), (0, .ref o), (1, .ref pl)] → W pp l ee ({ frames := 2, cells := 5, slots := 157, locals := 32 } : Room) s m ([.ref o, .ref pl] : List Value).toArray below meth cK H locs 5 157 Q (F0 m 48 ls []) := by
    intro fu48
    induction fu48 with
    | zero =>
      intro k cs1 S16 H locs ls hk hc48_0 fr48 hw hmeas hl
      exact absurd hmeas (Nat.not_lt_zero _)
    | succ fu48 ih48 =>
      intro k cs1 S16 H locs ls hk hc48_0 fr48 hw hmeas hl
      refine lv_iload_n hc.1 hc.2.1 dX6_init_48 rfl (lv_at hl 0 rfl) ?_
      refine nn_bipush hc dX6_init_49 (by decide +kernel) ?_
      refine nn_icmp_ge hc dX6_init_51 (tgt := 70) (by decide) (by omega) (by decide) (fun c17 => ?_) (fun c17 => ?_)
      · have e18 : S15 o = oO 6 [.ref pl, .ref (o + 1), .ref (o + 2), .ref (o + 3), .int (iI 0)] := (fS15 o (off_nl (x := o) (a := 3) (by decide))).trans hS12
        have e19 : S16 o = oO 6 [.ref pl, .ref (o + 1), .ref (o + 2), .ref (o + 3), .int (iI 0)] := (fr48 o (off_nl (x := o) (a := 2) (by decide))).trans e18
        have e20 : S3 (o + 1) = oI g 8 (fun _ => 0) := (fS3 (o + 1) (off_nr (x := o) (a := 1) (by decide))).trans hS1
        have e21 : S4 (o + 1) = oI g 8 (fun _ => 0) := (fS4 (o + 1) (off_ne (x := o) (a := 1) (b := 2) (by decide))).trans e20
        have e22 : S6 (o + 1) = oI g 8 (fun _ => 0) := (fS6 (o + 1) (off_nr (x := o) (a := 1) (by decide))).trans e21
        have e23 : S7 (o + 1) = oI g 8 (fun _ => 0) := (fS7 (o + 1) (off_ne (x := o) (a := 1) (b := 3) (by decide))).trans e22
        have e24 : S8 (o + 1) = oI g 8 (fun _ => 0) := (fS8 (o + 1) (off_ne (x := o) (a := 1) (b := 3) (by decide)) (off_ne (x := o) (a := 1) (b := 4) (by decide)) (off_ne (x := o) (a := 1) (b := 5) (by decide))).trans e23
        have e25 : S11 (o + 1) = oI g 8 (fun _ => 0) := (fS11 (o + 1) (off_nr (x := o) (a := 1) (by decide))).trans e24
        have e26 : S12 (o + 1) = oI g 8 (fun _ => 0) := (fS12 (o + 1) (off_nr (x := o) (a := 1) (by decide))).trans e25
        have e27 : S15 (o + 1) = oI g 8 (fun _ => 0) := (fS15 (o + 1) (off_ne (x := o) (a := 1) (b := 3) (by decide))).trans e26
        have e28 : S16 (o + 1) = oI g 8 (fun _ => 0) := (fr48 (o + 1) (off_ne (x := o) (a := 1) (b := 2) (by decide))).trans e27
        have e29 : S16 (o + 3) = oO 3 [.ref ((o + 3) + 1), .ref ((o + 3) + 2), .int (iI 60), .int (iI 0), .int (iI 0), .int (iI 0), .int (iI 0), .int (iI 0), .int (iI 0)] := (fr48 (o + 3) (off_ne (x := o) (a := 3) (b := 2) (by decide))).trans hS15
        have e30 : S11 (o + 4) = oI g 60 (fun _ => 0) := (fS11 (o + 4) (off_nr (x := o) (a := 4) (by decide))).trans hS8_1
        have e31 : S12 (o + 4) = oI g 60 (fun _ => 0) := (fS12 (o + 4) (off_nr (x := o) (a := 4) (by decide))).trans e30
        have e32 : S15 (o + 4) = oI g 60 (fun _ => 0) := (fS15 (o + 4) (off_ne (x := o) (a := 4) (b := 3) (by decide))).trans e31
        have e33 : S16 (o + 4) = oI g 60 (fun _ => 0) := (fr48 (o + 4) (off_ne (x := o) (a := 4) (b := 2) (by decide))).trans e32
        have e34 : S11 (o + 5) = oI g 60 (fun _ => 0) := (fS11 (o + 5) (off_nr (x := o) (a := 5) (by decide))).trans hS8_2
        have e35 : S12 (o + 5) = oI g 60 (fun _ => 0) := (fS12 (o + 5) (off_nr (x := o) (a := 5) (by decide))).trans e34
        have e36 : S15 (o + 5) = oI g 60 (fun _ => 0) := (fS15 (o + 5) (off_ne (x := o) (a := 5) (b := 3) (by decide))).trans e35
        have e37 : S16 (o + 5) = oI g 60 (fun _ => 0) := (fr48 (o + 5) (off_ne (x := o) (a := 5) (b := 2) (by decide))).trans e36
        exact hret none _ S16 _ _ _ _ hw (⟨_, rfl, rfl, e19, e28, hc48_0, e29, e33, e37, fun bb hb0 hb1 hb2 hb3 hb4 hb5 => ((((((((((fr48 bb hb2)).trans (fS15 bb hb3)).trans (fS12 bb hb0)).trans (fS11 bb hb0)).trans (fS8 bb hb3 hb4 hb5)).trans (fS7 bb hb3)).trans (fS6 bb hb0)).trans (fS4 bb hb2)).trans (fS3 bb hb0)).trans (fS1 bb hb1)⟩) ⟨rfl, dX6_init_70⟩
      · refine lv_aload_n hc.1 hc.2.1 dX6_init_54 rfl (lv_at hl 1 rfl) ?_
        have e38 : S15 o = oO 6 [.ref pl, .ref (o + 1), .ref (o + 2), .ref (o + 3), .int (iI 0)] := (fS15 o (off_nl (x := o) (a := 3) (by decide))).trans hS12
        have e39 : S16 o = oO 6 [.ref pl, .ref (o + 1), .ref (o + 2), .ref (o + 3), .int (iI 0)] := (fr48 o (off_nl (x := o) (a := 2) (by decide))).trans e38
        refine nn_get hc hw e39 hiX6 rfl 2 (by decide) rfl lk17 dX6_init_55 ?_
        refine lv_iload_n hc.1 hc.2.1 dX6_init_58 rfl (lv_at hl 0 rfl) ?_
        refine lv_aload_n hc.1 hc.2.1 dX6_init_59 rfl (lv_at hl 1 rfl) ?_
        refine nn_get hc hw e39 hiX6 rfl 3 (by decide) rfl lk22 dX6_init_60 ?_
        have e40 : S16 (o + 3) = oO 3 [.ref ((o + 3) + 1), .ref ((o + 3) + 2), .int (iI 60), .int (iI 0), .int (iI 0), .int (iI 0), .int (iI 0), .int (iI 0), .int (iI 0)] := (fr48 (o + 3) (off_ne (x := o) (a := 3) (b := 2) (by decide))).trans hS15
        refine nn_aast hc hw hc48_0 rfl e40 rfl (by omega) (by omega) dX6_init_63 (fun S41 H locs hS41 fS41 hw => ?_)
        refine nn_iinc (lv' := [(2, .int (iI (k + 1))), (0, .ref o), (1, .ref pl)]) hc dX6_init_64 hl (k0 := 0) rfl (by decide) rfl (fun ls hl => ?_)
        refine lv_goto hc.1 hc.2.1 dX6_init_67 (tgt := 48) (by decide) ?_
        exact ih48 (k + 1) (va_up cs1 k.toNat (some (o + 3))) S41 _ _ _ (by omega) hS41 (fun bb hb0 => ((fS41 bb hb0)).trans (fr48 bb hb0)) hw (by omega) (lv_sub hl [0, 1, 2] rfl)
  have e42 : S6 (o + 2) = oR g 2 20 (fun _ => none) := (fS6 (o + 2) (off_nr (x := o) (a := 2) (by decide))).trans hS4
  have e43 : S7 (o + 2) = oR g 2 20 (fun _ => none) := (fS7 (o + 2) (off_ne (x := o) (a := 2) (b := 3) (by decide))).trans e42
  have e44 : S8 (o + 2) = oR g 2 20 (fun _ => none) := (fS8 (o + 2) (off_ne (x := o) (a := 2) (b := 3) (by decide)) (off_ne (x := o) (a := 2) (b := 4) (by decide)) (off_ne (x := o) (a := 2) (b := 5) (by decide))).trans e43
  have e45 : S11 (o + 2) = oR g 2 20 (fun _ => none) := (fS11 (o + 2) (off_nr (x := o) (a := 2) (by decide))).trans e44
  have e46 : S12 (o + 2) = oR g 2 20 (fun _ => none) := (fS12 (o + 2) (off_nr (x := o) (a := 2) (by decide))).trans e45
  have e47 : S15 (o + 2) = oR g 2 20 (fun _ => none) := (fS15 (o + 2) (off_ne (x := o) (a := 2) (b := 3) (by decide))).trans e46
  exact lab48 _ 0 (fun _ => none) S15 _ _ _ (by omega) e47 (fun bb _ => rfl) hw (Nat.lt_succ_self _) (lv_sub hl [0, 1, 2] rfl)

set_option maxHeartbeats 4000000 in
set_option maxRecDepth 100000 in
theorem c_X0_init (l : Launch) (g : gG) {S : Nat → gE} {u pl y o : Nat} (hu : S u = oO 0 [.null, .null, .null, .null, .null, .null, .null, .int (iI 0), .int (iI 0), .int (iI 0)])  : g_Cs l yX0_init wsX0_init { frames := 2, cells := 10, slots := 395, locals := 32 } g [.ref u, .ref pl, .ref y, .ref o] (u + 1) S (fun vr n1 S1 => vr = none ∧ u + 11 = n1 ∧ S1 u = oO 0 [.ref pl, .ref y, .ref o, .ref (u + 1), .ref (u + 2), .ref (u + 5), .ref (u + 8), .int (iI 0), .int (iI 0), .int (iI 0)] ∧ S1 (u + 1) = oI g 8 (fun _ => 0) ∧ S1 (u + 2) = oO 3 [.ref (u + 2 + 1), .ref (u + 2 + 2), .int (iI 0), .int (iI 0), .int (iI 0), .int (iI 0), .int (iI 0), .int (iI 0), .int (iI 0)] ∧ S1 (u + 3) = oI g 60 (fun _ => 0) ∧ S1 (u + 4) = oI g 60 (fun _ => 0) ∧ S1 (u + 5) = oO 3 [.ref (u + 5 + 1), .ref (u + 5 + 2), .int (iI 0), .int (iI 0), .int (iI 0), .int (iI 0), .int (iI 0), .int (iI 0), .int (iI 0)] ∧ S1 (u + 6) = oI g 60 (fun _ => 0) ∧ S1 (u + 7) = oI g 60 (fun _ => 0) ∧ S1 (u + 8) = oO 3 [.ref (u + 8 + 1), .ref (u + 8 + 2), .int (iI 0), .int (iI 0), .int (iI 0), .int (iI 0), .int (iI 0), .int (iI 0), .int (iI 0)] ∧ S1 (u + 9) = oI g 60 (fun _ => 0) ∧ S1 (u + 10) = oI g 60 (fun _ => 0) ∧ (∀ bb, bb ≠ u → bb ≠ (u + 1) → bb ≠ (u + 2) → bb ≠ (u + 3) → bb ≠ (u + 4) → bb ≠ (u + 5) → bb ≠ (u + 6) → bb ≠ (u + 7) → bb ≠ (u + 8) → bb ≠ (u + 9) → bb ≠ (u + 10) → S1 bb = S bb)) 10 395 := by
  refine g_Cs.of (cc := cX0_init) (maxL := 4) (ret := none) (by decide) rfl (Nat.le_of_ble_eq_true rfl) ?_
  intro pp ee s m below meth cK Q H locs ls hc hnm hw hl hret
  have hl : lv_has ls 4 [(0, .ref u), (1, .ref pl), (2, .ref y), (3, .ref o)] := hl
  have hiX0 : ∀ w ∈ u_ws RX0 TX0 10, w ∈ wsX0_init := by decide +kernel
  have hiX3 : ∀ w ∈ u_ws RX3 TX3 9, w ∈ wsX0_init := by decide +kernel
  have lkO : Cond.methodLink RX0 3 objectInit ∈ wsX0_init := by decide +kernel
  have lkOi : Cond.instanceMethod objectInit ∈ wsX0_init := by decide +kernel
  have lkOc : Cond.code objectInit ⟨#[0xb1]⟩ 1 none ∈ wsX0_init := by decide +kernel
  have lkAint : Cond.arrayClass .int ∈ wsX0_init := by decide +kernel
  have lk9 : Cond.fieldLink RX0 9 "RoofCourses$Ahead" "left" "[I" ∈ wsX0_init := by decide +kernel
  have lkC15 : Cond.classLink RX0 15 RX3 ∈ wsX0_init := by decide +kernel
  have lkIsX3 : Cond.instantiable RX3 9 ∈ wsX0_init := by decide +kernel
  have lkI_X3 : Cond.initialized RX3 ∈ wsX0_init := by decide +kernel
  have lkIn_X3_init : Cond.instanceMethod yX3_init ∈ wsX0_init := by decide +kernel
  have lk18 : Cond.fieldLink RX0 18 "RoofCourses$Ahead" "probe" "LRoofCourses$Course;" ∈ wsX0_init := by decide +kernel
  have lk22 : Cond.fieldLink RX0 22 "RoofCourses$Ahead" "even" "LRoofCourses$Course;" ∈ wsX0_init := by decide +kernel
  have lk25 : Cond.fieldLink RX0 25 "RoofCourses$Ahead" "odd" "LRoofCourses$Course;" ∈ wsX0_init := by decide +kernel
  have lk28 : Cond.fieldLink RX0 28 "RoofCourses$Ahead" "plan" "LRoofCourses$Plan;" ∈ wsX0_init := by decide +kernel
  have lk32 : Cond.fieldLink RX0 32 "RoofCourses$Ahead" "layer" "LRoofCourses$Layer;" ∈ wsX0_init := by decide +kernel
  have lk36 : Cond.fieldLink RX0 36 "RoofCourses$Ahead" "roof" "LRoofCourses$Roof;" ∈ wsX0_init := by decide +kernel
  refine lv_aload_n hc.1 hc.2.1 dX0_init_0 rfl (lv_at hl 0 rfl) ?_
  refine W.objInit hc.1 hc.2.1 hc.2.2.2.1 (hc.2.2.2.2 _ lkO) (hc.2.2.2.2 _ lkOi) (hc.2.2.2.2 _ lkOc) rfl (by rw [hc.2.2.1]; exact hl.1) rfl dX0_init_1 (Nat.le_of_ble_eq_true rfl) (Nat.le_of_ble_eq_true rfl) ?_
  refine W.eq (g2 := F0 m 4 ls []) rfl ?_
  refine lv_aload_n hc.1 hc.2.1 dX0_init_4 rfl (lv_at hl 0 rfl) ?_
  refine nn_bipush hc dX0_init_5 (by decide +kernel) ?_
  refine nn_newI (N := 8) hc hw lkAint (by decide) rfl (Nat.le_of_ble_eq_true rfl) (Nat.le_of_ble_eq_true rfl) (Nat.le_of_ble_eq_true rfl) dX0_init_7 (fun S1 H hS1 fS1 hw => ?_)
  have hS1 : S1 (u + 1) = oI g 8 (fun _ => 0) := hS1
  have hw : g_W g (u + 2) S1 s H locs := hw
  refine W.cs (cells' := 1) (slots' := 8) (by decide) (by decide) ?_
  have e2 : S1 u = oO 0 [.null, .null, .null, .null, .null, .null, .null, .int (iI 0), .int (iI 0), .int (iI 0)] := (fS1 u (off_nl (x := u) (a := 1) (by decide))).trans hu
  refine nn_putF hc hnm hw e2 hiX0 tyX0 tyX0_ok nmX0 rfl 3 (by decide) (Nat.le_of_ble_eq_true rfl) lk9 rfl rfl rfl rfl dX0_init_9 (fun S3 H locs hS3 fS3 hw => ?_)
  have hS3 : S3 u = oO 0 [.null, .null, .null, .ref (u + 1), .null, .null, .null, .int (iI 0), .int (iI 0), .int (iI 0)] := hS3
  refine lv_aload_n hc.1 hc.2.1 dX0_init_12 rfl (lv_at hl 0 rfl) ?_
  refine nn_new (ci := 3) hc hw hiX3 tyX3 tyX3_ok lkC15 lkIsX3 lkI_X3 rfl [.null, .null, .int (iI 0), .int (iI 0), .int (iI 0), .int (iI 0), .int (iI 0), .int (iI 0), .int (iI 0)] (fun j hj => by rcases (show j = 0 ∨ j = 1 ∨ j = 2 ∨ j = 3 ∨ j = 4 ∨ j = 5 ∨ j = 6 ∨ j = 7 ∨ j = 8 by omega) with rfl | rfl | rfl | rfl | rfl | rfl | rfl | rfl | rfl <;> rfl) (Nat.le_of_ble_eq_true rfl) (Nat.le_of_ble_eq_true rfl) dX0_init_13 (fun S4 H hS4 fS4 hw => ?_)
  have hS4 : S4 (u + 2) = oO 3 [.null, .null, .int (iI 0), .int (iI 0), .int (iI 0), .int (iI 0), .int (iI 0), .int (iI 0), .int (iI 0)] := hS4
  have hw : g_W g (u + 3) S4 s H locs := hw
  refine W.cs (cells' := 2) (slots' := 17) (by decide) (by decide) ?_
  refine lv_dup hc.1 hc.2.1 dX0_init_16 rfl ?_
  refine nn_IsN (As := []) (st := [.ref (u + 2), .ref u]) hc hw (c_X3_init l g  hS4 ) (va_cnB (own := RX0) (index := 17) (y := yX3_init) (host := "RoofCourses") 0 hc.2.2.2.2 gX0_init_X3_init_n17 rfl rfl rfl (g_nw hw (RX0, 17, yX3_init) (by decide +kernel)) (hc.2.2.2.2 _ lkI_X3) (by decide +kernel) ⟨Nat.le_of_ble_eq_true rfl, Nat.le_of_ble_eq_true rfl⟩) rfl lkIn_X3_init rfl hl.1 rfl (Nat.le_of_ble_eq_true rfl) ⟨Nat.le_of_ble_eq_true rfl, Nat.le_of_ble_eq_true rfl⟩ dX0_init_17 (fun vr n1 S5 H locs qS5 hw => ?_)
  obtain ⟨rfl, rfl, hS5_0, hS5_1, hS5_2, fS5⟩ := qS5
  refine W.eq (g2 := F0 m 20 ls [.ref (u + 2), .ref u]) rfl ?_
  have e6 : S4 u = oO 0 [.null, .null, .null, .ref (u + 1), .null, .null, .null, .int (iI 0), .int (iI 0), .int (iI 0)] := (fS4 u (off_nl (x := u) (a := 2) (by decide))).trans hS3
  have e7 : S5 u = oO 0 [.null, .null, .null, .ref (u + 1), .null, .null, .null, .int (iI 0), .int (iI 0), .int (iI 0)] := (fS5 u (off_nl (x := u) (a := 2) (by decide)) (off_nl (x := u) (a := 3) (by decide)) (off_nl (x := u) (a := 4) (by decide))).trans e6
  refine nn_putF hc hnm hw e7 hiX0 tyX0 tyX0_ok nmX0 rfl 4 (by decide) (Nat.le_of_ble_eq_true rfl) lk18 rfl rfl rfl rfl dX0_init_20 (fun S8 H locs hS8 fS8 hw => ?_)
  have hS8 : S8 u = oO 0 [.null, .null, .null, .ref (u + 1), .ref (u + 2), .null, .null, .int (iI 0), .int (iI 0), .int (iI 0)] := hS8
  refine lv_aload_n hc.1 hc.2.1 dX0_init_23 rfl (lv_at hl 0 rfl) ?_
  refine nn_new (ci := 3) hc hw hiX3 tyX3 tyX3_ok lkC15 lkIsX3 lkI_X3 rfl [.null, .null, .int (iI 0), .int (iI 0), .int (iI 0), .int (iI 0), .int (iI 0), .int (iI 0), .int (iI 0)] (fun j hj => by rcases (show j = 0 ∨ j = 1 ∨ j = 2 ∨ j = 3 ∨ j = 4 ∨ j = 5 ∨ j = 6 ∨ j = 7 ∨ j = 8 by omega) with rfl | rfl | rfl | rfl | rfl | rfl | rfl | rfl | rfl <;> rfl) (Nat.le_of_ble_eq_true rfl) (Nat.le_of_ble_eq_true rfl) dX0_init_24 (fun S9 H hS9 fS9 hw => ?_)
  have hS9 : S9 (u + 5) = oO 3 [.null, .null, .int (iI 0), .int (iI 0), .int (iI 0), .int (iI 0), .int (iI 0), .int (iI 0), .int (iI 0)] := hS9
  have hw : g_W g (u + 6) S9 s H locs := hw
  refine W.cs (cells' := 5) (slots' := 146) (by decide) (by decide) ?_
  refine lv_dup hc.1 hc.2.1 dX0_init_27 rfl ?_
  refine nn_IsN (As := []) (st := [.ref (u + 5), .ref u]) hc hw (c_X3_init l g  hS9 ) (va_cnB (own := RX0) (index := 17) (y := yX3_init) (host := "RoofCourses") 0 hc.2.2.2.2 gX0_init_X3_init_n17 rfl rfl rfl (g_nw hw (RX0, 17, yX3_init) (by decide +kernel)) (hc.2.2.2.2 _ lkI_X3) (by decide +kernel) ⟨Nat.le_of_ble_eq_true rfl, Nat.le_of_ble_eq_true rfl⟩) rfl lkIn_X3_init rfl hl.1 rfl (Nat.le_of_ble_eq_true rfl) ⟨Nat.le_of_ble_eq_true rfl, Nat.le_of_ble_eq_true rfl⟩ dX0_init_28 (fun vr n1 S10 H locs qS10 hw => ?_)
  obtain ⟨rfl, rfl, hS10_0, hS10_1, hS10_2, fS10⟩ := qS10
  refine W.eq (g2 := F0 m 31 ls [.ref (u + 5), .ref u]) rfl ?_
  have e11 : S9 u = oO 0 [.null, .null, .null, .ref (u + 1), .ref (u + 2), .null, .null, .int (iI 0), .int (iI 0), .int (iI 0)] := (fS9 u (off_nl (x := u) (a := 5) (by decide))).trans hS8
  have e12 : S10 u = oO 0 [.null, .null, .null, .ref (u + 1), .ref (u + 2), .null, .null, .int (iI 0), .int (iI 0), .int (iI 0)] := (fS10 u (off_nl (x := u) (a := 5) (by decide)) (off_nl (x := u) (a := 6) (by decide)) (off_nl (x := u) (a := 7) (by decide))).trans e11
  refine nn_putF hc hnm hw e12 hiX0 tyX0 tyX0_ok nmX0 rfl 5 (by decide) (Nat.le_of_ble_eq_true rfl) lk22 rfl rfl rfl rfl dX0_init_31 (fun S13 H locs hS13 fS13 hw => ?_)
  have hS13 : S13 u = oO 0 [.null, .null, .null, .ref (u + 1), .ref (u + 2), .ref (u + 5), .null, .int (iI 0), .int (iI 0), .int (iI 0)] := hS13
  refine lv_aload_n hc.1 hc.2.1 dX0_init_34 rfl (lv_at hl 0 rfl) ?_
  refine nn_new (ci := 3) hc hw hiX3 tyX3 tyX3_ok lkC15 lkIsX3 lkI_X3 rfl [.null, .null, .int (iI 0), .int (iI 0), .int (iI 0), .int (iI 0), .int (iI 0), .int (iI 0), .int (iI 0)] (fun j hj => by rcases (show j = 0 ∨ j = 1 ∨ j = 2 ∨ j = 3 ∨ j = 4 ∨ j = 5 ∨ j = 6 ∨ j = 7 ∨ j = 8 by omega) with rfl | rfl | rfl | rfl | rfl | rfl | rfl | rfl | rfl <;> rfl) (Nat.le_of_ble_eq_true rfl) (Nat.le_of_ble_eq_true rfl) dX0_init_35 (fun S14 H hS14 fS14 hw => ?_)
  have hS14 : S14 (u + 8) = oO 3 [.null, .null, .int (iI 0), .int (iI 0), .int (iI 0), .int (iI 0), .int (iI 0), .int (iI 0), .int (iI 0)] := hS14
  have hw : g_W g (u + 9) S14 s H locs := hw
  refine W.cs (cells' := 8) (slots' := 275) (by decide) (by decide) ?_
  refine lv_dup hc.1 hc.2.1 dX0_init_38 rfl ?_
  refine nn_IsN (As := []) (st := [.ref (u + 8), .ref u]) hc hw (c_X3_init l g  hS14 ) (va_cnB (own := RX0) (index := 17) (y := yX3_init) (host := "RoofCourses") 0 hc.2.2.2.2 gX0_init_X3_init_n17 rfl rfl rfl (g_nw hw (RX0, 17, yX3_init) (by decide +kernel)) (hc.2.2.2.2 _ lkI_X3) (by decide +kernel) ⟨Nat.le_of_ble_eq_true rfl, Nat.le_of_ble_eq_true rfl⟩) rfl lkIn_X3_init rfl hl.1 rfl (Nat.le_of_ble_eq_true rfl) ⟨Nat.le_of_ble_eq_true rfl, Nat.le_of_ble_eq_true rfl⟩ dX0_init_39 (fun vr n1 S15 H locs qS15 hw => ?_)
  obtain ⟨rfl, rfl, hS15_0, hS15_1, hS15_2, fS15⟩ := qS15
  refine W.eq (g2 := F0 m 42 ls [.ref (u + 8), .ref u]) rfl ?_
  have e16 : S14 u = oO 0 [.null, .null, .null, .ref (u + 1), .ref (u + 2), .ref (u + 5), .null, .int (iI 0), .int (iI 0), .int (iI 0)] := (fS14 u (off_nl (x := u) (a := 8) (by decide))).trans hS13
  have e17 : S15 u = oO 0 [.null, .null, .null, .ref (u + 1), .ref (u + 2), .ref (u + 5), .null, .int (iI 0), .int (iI 0), .int (iI 0)] := (fS15 u (off_nl (x := u) (a := 8) (by decide)) (off_nl (x := u) (a := 9) (by decide)) (off_nl (x := u) (a := 10) (by decide))).trans e16
  refine nn_putF hc hnm hw e17 hiX0 tyX0 tyX0_ok nmX0 rfl 6 (by decide) (Nat.le_of_ble_eq_true rfl) lk25 rfl rfl rfl rfl dX0_init_42 (fun S18 H locs hS18 fS18 hw => ?_)
  have hS18 : S18 u = oO 0 [.null, .null, .null, .ref (u + 1), .ref (u + 2), .ref (u + 5), .ref (u + 8), .int (iI 0), .int (iI 0), .int (iI 0)] := hS18
  refine lv_aload_n hc.1 hc.2.1 dX0_init_45 rfl (lv_at hl 0 rfl) ?_
  refine lv_aload_n hc.1 hc.2.1 dX0_init_46 rfl (lv_at hl 1 rfl) ?_
  refine nn_putF hc hnm hw hS18 hiX0 tyX0 tyX0_ok nmX0 rfl 0 (by decide) (Nat.le_of_ble_eq_true rfl) lk28 rfl rfl rfl rfl dX0_init_47 (fun S19 H locs hS19 fS19 hw => ?_)
  have hS19 : S19 u = oO 0 [.ref pl, .null, .null, .ref (u + 1), .ref (u + 2), .ref (u + 5), .ref (u + 8), .int (iI 0), .int (iI 0), .int (iI 0)] := hS19
  refine lv_aload_n hc.1 hc.2.1 dX0_init_50 rfl (lv_at hl 0 rfl) ?_
  refine lv_aload_n hc.1 hc.2.1 dX0_init_51 rfl (lv_at hl 2 rfl) ?_
  refine nn_putF hc hnm hw hS19 hiX0 tyX0 tyX0_ok nmX0 rfl 1 (by decide) (Nat.le_of_ble_eq_true rfl) lk32 rfl rfl rfl rfl dX0_init_52 (fun S20 H locs hS20 fS20 hw => ?_)
  have hS20 : S20 u = oO 0 [.ref pl, .ref y, .null, .ref (u + 1), .ref (u + 2), .ref (u + 5), .ref (u + 8), .int (iI 0), .int (iI 0), .int (iI 0)] := hS20
  refine lv_aload_n hc.1 hc.2.1 dX0_init_55 rfl (lv_at hl 0 rfl) ?_
  refine lv_aload_n hc.1 hc.2.1 dX0_init_56 rfl (lv_at hl 3 rfl) ?_
  refine nn_putF hc hnm hw hS20 hiX0 tyX0 tyX0_ok nmX0 rfl 2 (by decide) (Nat.le_of_ble_eq_true rfl) lk36 rfl rfl rfl rfl dX0_init_57 (fun S21 H locs hS21 fS21 hw => ?_)
  have hS21 : S21 u = oO 0 [.ref pl, .ref y, .ref o, .ref (u + 1), .ref (u + 2), .ref (u + 5), .ref (u + 8), .int (iI 0), .int (iI 0), .int (iI 0)] := hS21
  have e22 : S3 (u + 1) = oI g 8 (fun _ => 0) := (fS3 (u + 1) (off_nr (x := u) (a := 1) (by decide))).trans hS1
  have e23 : S4 (u + 1) = oI g 8 (fun _ => 0) := (fS4 (u + 1) (off_ne (x := u) (a := 1) (b := 2) (by decide))).trans e22
  have e24 : S5 (u + 1) = oI g 8 (fun _ => 0) := (fS5 (u + 1) (off_ne (x := u) (a := 1) (b := 2) (by decide)) (off_ne (x := u) (a := 1) (b := 3) (by decide)) (off_ne (x := u) (a := 1) (b := 4) (by decide))).trans e23
  have e25 : S8 (u + 1) = oI g 8 (fun _ => 0) := (fS8 (u + 1) (off_nr (x := u) (a := 1) (by decide))).trans e24
  have e26 : S9 (u + 1) = oI g 8 (fun _ => 0) := (fS9 (u + 1) (off_ne (x := u) (a := 1) (b := 5) (by decide))).trans e25
  have e27 : S10 (u + 1) = oI g 8 (fun _ => 0) := (fS10 (u + 1) (off_ne (x := u) (a := 1) (b := 5) (by decide)) (off_ne (x := u) (a := 1) (b := 6) (by decide)) (off_ne (x := u) (a := 1) (b := 7) (by decide))).trans e26
  have e28 : S13 (u + 1) = oI g 8 (fun _ => 0) := (fS13 (u + 1) (off_nr (x := u) (a := 1) (by decide))).trans e27
  have e29 : S14 (u + 1) = oI g 8 (fun _ => 0) := (fS14 (u + 1) (off_ne (x := u) (a := 1) (b := 8) (by decide))).trans e28
  have e30 : S15 (u + 1) = oI g 8 (fun _ => 0) := (fS15 (u + 1) (off_ne (x := u) (a := 1) (b := 8) (by decide)) (off_ne (x := u) (a := 1) (b := 9) (by decide)) (off_ne (x := u) (a := 1) (b := 10) (by decide))).trans e29
  have e31 : S18 (u + 1) = oI g 8 (fun _ => 0) := (fS18 (u + 1) (off_nr (x := u) (a := 1) (by decide))).trans e30
  have e32 : S19 (u + 1) = oI g 8 (fun _ => 0) := (fS19 (u + 1) (off_nr (x := u) (a := 1) (by decide))).trans e31
  have e33 : S20 (u + 1) = oI g 8 (fun _ => 0) := (fS20 (u + 1) (off_nr (x := u) (a := 1) (by decide))).trans e32
  have e34 : S21 (u + 1) = oI g 8 (fun _ => 0) := (fS21 (u + 1) (off_nr (x := u) (a := 1) (by decide))).trans e33
  have e35 : S8 (u + 2) = oO 3 [.ref ((u + 2) + 1), .ref ((u + 2) + 2), .int (iI 0), .int (iI 0), .int (iI 0), .int (iI 0), .int (iI 0), .int (iI 0), .int (iI 0)] := (fS8 (u + 2) (off_nr (x := u) (a := 2) (by decide))).trans hS5_0
  have e36 : S9 (u + 2) = oO 3 [.ref ((u + 2) + 1), .ref ((u + 2) + 2), .int (iI 0), .int (iI 0), .int (iI 0), .int (iI 0), .int (iI 0), .int (iI 0), .int (iI 0)] := (fS9 (u + 2) (off_ne (x := u) (a := 2) (b := 5) (by decide))).trans e35
  have e37 : S10 (u + 2) = oO 3 [.ref ((u + 2) + 1), .ref ((u + 2) + 2), .int (iI 0), .int (iI 0), .int (iI 0), .int (iI 0), .int (iI 0), .int (iI 0), .int (iI 0)] := (fS10 (u + 2) (off_ne (x := u) (a := 2) (b := 5) (by decide)) (off_ne (x := u) (a := 2) (b := 6) (by decide)) (off_ne (x := u) (a := 2) (b := 7) (by decide))).trans e36
  have e38 : S13 (u + 2) = oO 3 [.ref ((u + 2) + 1), .ref ((u + 2) + 2), .int (iI 0), .int (iI 0), .int (iI 0), .int (iI 0), .int (iI 0), .int (iI 0), .int (iI 0)] := (fS13 (u + 2) (off_nr (x := u) (a := 2) (by decide))).trans e37
  have e39 : S14 (u + 2) = oO 3 [.ref ((u + 2) + 1), .ref ((u + 2) + 2), .int (iI 0), .int (iI 0), .int (iI 0), .int (iI 0), .int (iI 0), .int (iI 0), .int (iI 0)] := (fS14 (u + 2) (off_ne (x := u) (a := 2) (b := 8) (by decide))).trans e38
  have e40 : S15 (u + 2) = oO 3 [.ref ((u + 2) + 1), .ref ((u + 2) + 2), .int (iI 0), .int (iI 0), .int (iI 0), .int (iI 0), .int (iI 0), .int (iI 0), .int (iI 0)] := (fS15 (u + 2) (off_ne (x := u) (a := 2) (b := 8) (by decide)) (off_ne (x := u) (a := 2) (b := 9) (by decide)) (off_ne (x := u) (a := 2) (b := 10) (by decide))).trans e39
  have e41 : S18 (u + 2) = oO 3 [.ref ((u + 2) + 1), .ref ((u + 2) + 2), .int (iI 0), .int (iI 0), .int (iI 0), .int (iI 0), .int (iI 0), .int (iI 0), .int (iI 0)] := (fS18 (u + 2) (off_nr (x := u) (a := 2) (by decide))).trans e40
  have e42 : S19 (u + 2) = oO 3 [.ref ((u + 2) + 1), .ref ((u + 2) + 2), .int (iI 0), .int (iI 0), .int (iI 0), .int (iI 0), .int (iI 0), .int (iI 0), .int (iI 0)] := (fS19 (u + 2) (off_nr (x := u) (a := 2) (by decide))).trans e41
  have e43 : S20 (u + 2) = oO 3 [.ref ((u + 2) + 1), .ref ((u + 2) + 2), .int (iI 0), .int (iI 0), .int (iI 0), .int (iI 0), .int (iI 0), .int (iI 0), .int (iI 0)] := (fS20 (u + 2) (off_nr (x := u) (a := 2) (by decide))).trans e42
  have e44 : S21 (u + 2) = oO 3 [.ref ((u + 2) + 1), .ref ((u + 2) + 2), .int (iI 0), .int (iI 0), .int (iI 0), .int (iI 0), .int (iI 0), .int (iI 0), .int (iI 0)] := (fS21 (u + 2) (off_nr (x := u) (a := 2) (by decide))).trans e43
  have e45 : S8 (u + 3) = oI g 60 (fun _ => 0) := (fS8 (u + 3) (off_nr (x := u) (a := 3) (by decide))).trans hS5_1
  have e46 : S9 (u + 3) = oI g 60 (fun _ => 0) := (fS9 (u + 3) (off_ne (x := u) (a := 3) (b := 5) (by decide))).trans e45
  have e47 : S10 (u + 3) = oI g 60 (fun _ => 0) := (fS10 (u + 3) (off_ne (x := u) (a := 3) (b := 5) (by decide)) (off_ne (x := u) (a := 3) (b := 6) (by decide)) (off_ne (x := u) (a := 3) (b := 7) (by decide))).trans e46
  have e48 : S13 (u + 3) = oI g 60 (fun _ => 0) := (fS13 (u + 3) (off_nr (x := u) (a := 3) (by decide))).trans e47
  have e49 : S14 (u + 3) = oI g 60 (fun _ => 0) := (fS14 (u + 3) (off_ne (x := u) (a := 3) (b := 8) (by decide))).trans e48
  have e50 : S15 (u + 3) = oI g 60 (fun _ => 0) := (fS15 (u + 3) (off_ne (x := u) (a := 3) (b := 8) (by decide)) (off_ne (x := u) (a := 3) (b := 9) (by decide)) (off_ne (x := u) (a := 3) (b := 10) (by decide))).trans e49
  have e51 : S18 (u + 3) = oI g 60 (fun _ => 0) := (fS18 (u + 3) (off_nr (x := u) (a := 3) (by decide))).trans e50
  have e52 : S19 (u + 3) = oI g 60 (fun _ => 0) := (fS19 (u + 3) (off_nr (x := u) (a := 3) (by decide))).trans e51
  have e53 : S20 (u + 3) = oI g 60 (fun _ => 0) := (fS20 (u + 3) (off_nr (x := u) (a := 3) (by decide))).trans e52
  have e54 : S21 (u + 3) = oI g 60 (fun _ => 0) := (fS21 (u + 3) (off_nr (x := u) (a := 3) (by decide))).trans e53
  have e55 : S8 (u + 4) = oI g 60 (fun _ => 0) := (fS8 (u + 4) (off_nr (x := u) (a := 4) (by decide))).trans hS5_2
  have e56 : S9 (u + 4) = oI g 60 (fun _ => 0) := (fS9 (u + 4) (off_ne (x := u) (a := 4) (b := 5) (by decide))).trans e55
  have e57 : S10 (u + 4) = oI g 60 (fun _ => 0) := (fS10 (u + 4) (off_ne (x := u) (a := 4) (b := 5) (by decide)) (off_ne (x := u) (a := 4) (b := 6) (by decide)) (off_ne (x := u) (a := 4) (b := 7) (by decide))).trans e56
  have e58 : S13 (u + 4) = oI g 60 (fun _ => 0) := (fS13 (u + 4) (off_nr (x := u) (a := 4) (by decide))).trans e57
  have e59 : S14 (u + 4) = oI g 60 (fun _ => 0) := (fS14 (u + 4) (off_ne (x := u) (a := 4) (b := 8) (by decide))).trans e58
  have e60 : S15 (u + 4) = oI g 60 (fun _ => 0) := (fS15 (u + 4) (off_ne (x := u) (a := 4) (b := 8) (by decide)) (off_ne (x := u) (a := 4) (b := 9) (by decide)) (off_ne (x := u) (a := 4) (b := 10) (by decide))).trans e59
  have e61 : S18 (u + 4) = oI g 60 (fun _ => 0) := (fS18 (u + 4) (off_nr (x := u) (a := 4) (by decide))).trans e60
  have e62 : S19 (u + 4) = oI g 60 (fun _ => 0) := (fS19 (u + 4) (off_nr (x := u) (a := 4) (by decide))).trans e61
  have e63 : S20 (u + 4) = oI g 60 (fun _ => 0) := (fS20 (u + 4) (off_nr (x := u) (a := 4) (by decide))).trans e62
  have e64 : S21 (u + 4) = oI g 60 (fun _ => 0) := (fS21 (u + 4) (off_nr (x := u) (a := 4) (by decide))).trans e63
  have e65 : S13 (u + 5) = oO 3 [.ref ((u + 5) + 1), .ref ((u + 5) + 2), .int (iI 0), .int (iI 0), .int (iI 0), .int (iI 0), .int (iI 0), .int (iI 0), .int (iI 0)] := (fS13 (u + 5) (off_nr (x := u) (a := 5) (by decide))).trans hS10_0
  have e66 : S14 (u + 5) = oO 3 [.ref ((u + 5) + 1), .ref ((u + 5) + 2), .int (iI 0), .int (iI 0), .int (iI 0), .int (iI 0), .int (iI 0), .int (iI 0), .int (iI 0)] := (fS14 (u + 5) (off_ne (x := u) (a := 5) (b := 8) (by decide))).trans e65
  have e67 : S15 (u + 5) = oO 3 [.ref ((u + 5) + 1), .ref ((u + 5) + 2), .int (iI 0), .int (iI 0), .int (iI 0), .int (iI 0), .int (iI 0), .int (iI 0), .int (iI 0)] := (fS15 (u + 5) (off_ne (x := u) (a := 5) (b := 8) (by decide)) (off_ne (x := u) (a := 5) (b := 9) (by decide)) (off_ne (x := u) (a := 5) (b := 10) (by decide))).trans e66
  have e68 : S18 (u + 5) = oO 3 [.ref ((u + 5) + 1), .ref ((u + 5) + 2), .int (iI 0), .int (iI 0), .int (iI 0), .int (iI 0), .int (iI 0), .int (iI 0), .int (iI 0)] := (fS18 (u + 5) (off_nr (x := u) (a := 5) (by decide))).trans e67
  have e69 : S19 (u + 5) = oO 3 [.ref ((u + 5) + 1), .ref ((u + 5) + 2), .int (iI 0), .int (iI 0), .int (iI 0), .int (iI 0), .int (iI 0), .int (iI 0), .int (iI 0)] := (fS19 (u + 5) (off_nr (x := u) (a := 5) (by decide))).trans e68
  have e70 : S20 (u + 5) = oO 3 [.ref ((u + 5) + 1), .ref ((u + 5) + 2), .int (iI 0), .int (iI 0), .int (iI 0), .int (iI 0), .int (iI 0), .int (iI 0), .int (iI 0)] := (fS20 (u + 5) (off_nr (x := u) (a := 5) (by decide))).trans e69
  have e71 : S21 (u + 5) = oO 3 [.ref ((u + 5) + 1), .ref ((u + 5) + 2), .int (iI 0), .int (iI 0), .int (iI 0), .int (iI 0), .int (iI 0), .int (iI 0), .int (iI 0)] := (fS21 (u + 5) (off_nr (x := u) (a := 5) (by decide))).trans e70
  have e72 : S13 (u + 6) = oI g 60 (fun _ => 0) := (fS13 (u + 6) (off_nr (x := u) (a := 6) (by decide))).trans hS10_1
  have e73 : S14 (u + 6) = oI g 60 (fun _ => 0) := (fS14 (u + 6) (off_ne (x := u) (a := 6) (b := 8) (by decide))).trans e72
  have e74 : S15 (u + 6) = oI g 60 (fun _ => 0) := (fS15 (u + 6) (off_ne (x := u) (a := 6) (b := 8) (by decide)) (off_ne (x := u) (a := 6) (b := 9) (by decide)) (off_ne (x := u) (a := 6) (b := 10) (by decide))).trans e73
  have e75 : S18 (u + 6) = oI g 60 (fun _ => 0) := (fS18 (u + 6) (off_nr (x := u) (a := 6) (by decide))).trans e74
  have e76 : S19 (u + 6) = oI g 60 (fun _ => 0) := (fS19 (u + 6) (off_nr (x := u) (a := 6) (by decide))).trans e75
  have e77 : S20 (u + 6) = oI g 60 (fun _ => 0) := (fS20 (u + 6) (off_nr (x := u) (a := 6) (by decide))).trans e76
  have e78 : S21 (u + 6) = oI g 60 (fun _ => 0) := (fS21 (u + 6) (off_nr (x := u) (a := 6) (by decide))).trans e77
  have e79 : S13 (u + 7) = oI g 60 (fun _ => 0) := (fS13 (u + 7) (off_nr (x := u) (a := 7) (by decide))).trans hS10_2
  have e80 : S14 (u + 7) = oI g 60 (fun _ => 0) := (fS14 (u + 7) (off_ne (x := u) (a := 7) (b := 8) (by decide))).trans e79
  have e81 : S15 (u + 7) = oI g 60 (fun _ => 0) := (fS15 (u + 7) (off_ne (x := u) (a := 7) (b := 8) (by decide)) (off_ne (x := u) (a := 7) (b := 9) (by decide)) (off_ne (x := u) (a := 7) (b := 10) (by decide))).trans e80
  have e82 : S18 (u + 7) = oI g 60 (fun _ => 0) := (fS18 (u + 7) (off_nr (x := u) (a := 7) (by decide))).trans e81
  have e83 : S19 (u + 7) = oI g 60 (fun _ => 0) := (fS19 (u + 7) (off_nr (x := u) (a := 7) (by decide))).trans e82
  have e84 : S20 (u + 7) = oI g 60 (fun _ => 0) := (fS20 (u + 7) (off_nr (x := u) (a := 7) (by decide))).trans e83
  have e85 : S21 (u + 7) = oI g 60 (fun _ => 0) := (fS21 (u + 7) (off_nr (x := u) (a := 7) (by decide))).trans e84
  have e86 : S18 (u + 8) = oO 3 [.ref ((u + 8) + 1), .ref ((u + 8) + 2), .int (iI 0), .int (iI 0), .int (iI 0), .int (iI 0), .int (iI 0), .int (iI 0), .int (iI 0)] := (fS18 (u + 8) (off_nr (x := u) (a := 8) (by decide))).trans hS15_0
  have e87 : S19 (u + 8) = oO 3 [.ref ((u + 8) + 1), .ref ((u + 8) + 2), .int (iI 0), .int (iI 0), .int (iI 0), .int (iI 0), .int (iI 0), .int (iI 0), .int (iI 0)] := (fS19 (u + 8) (off_nr (x := u) (a := 8) (by decide))).trans e86
  have e88 : S20 (u + 8) = oO 3 [.ref ((u + 8) + 1), .ref ((u + 8) + 2), .int (iI 0), .int (iI 0), .int (iI 0), .int (iI 0), .int (iI 0), .int (iI 0), .int (iI 0)] := (fS20 (u + 8) (off_nr (x := u) (a := 8) (by decide))).trans e87
  have e89 : S21 (u + 8) = oO 3 [.ref ((u + 8) + 1), .ref ((u + 8) + 2), .int (iI 0), .int (iI 0), .int (iI 0), .int (iI 0), .int (iI 0), .int (iI 0), .int (iI 0)] := (fS21 (u + 8) (off_nr (x := u) (a := 8) (by decide))).trans e88
  have e90 : S18 (u + 9) = oI g 60 (fun _ => 0) := (fS18 (u + 9) (off_nr (x := u) (a := 9) (by decide))).trans hS15_1
  have e91 : S19 (u + 9) = oI g 60 (fun _ => 0) := (fS19 (u + 9) (off_nr (x := u) (a := 9) (by decide))).trans e90
  have e92 : S20 (u + 9) = oI g 60 (fun _ => 0) := (fS20 (u + 9) (off_nr (x := u) (a := 9) (by decide))).trans e91
  have e93 : S21 (u + 9) = oI g 60 (fun _ => 0) := (fS21 (u + 9) (off_nr (x := u) (a := 9) (by decide))).trans e92
  have e94 : S18 (u + 10) = oI g 60 (fun _ => 0) := (fS18 (u + 10) (off_nr (x := u) (a := 10) (by decide))).trans hS15_2
  have e95 : S19 (u + 10) = oI g 60 (fun _ => 0) := (fS19 (u + 10) (off_nr (x := u) (a := 10) (by decide))).trans e94
  have e96 : S20 (u + 10) = oI g 60 (fun _ => 0) := (fS20 (u + 10) (off_nr (x := u) (a := 10) (by decide))).trans e95
  have e97 : S21 (u + 10) = oI g 60 (fun _ => 0) := (fS21 (u + 10) (off_nr (x := u) (a := 10) (by decide))).trans e96
  exact hret none _ S21 _ _ _ _ hw (⟨rfl, rfl, hS21, e34, (by (repeat' split) <;> first | exact e44 | (exfalso; omega)), e54, e64, (by (repeat' split) <;> first | exact e71 | (exfalso; omega)), e78, e85, (by (repeat' split) <;> first | exact e89 | (exfalso; omega)), e93, e97, fun bb hb0 hb1 hb2 hb3 hb4 hb5 hb6 hb7 hb8 hb9 hb10 => ((((((((((((((fS21 bb hb0)).trans (fS20 bb hb0)).trans (fS19 bb hb0)).trans (fS18 bb hb0)).trans (fS15 bb hb8 hb9 hb10)).trans (fS14 bb hb8)).trans (fS13 bb hb0)).trans (fS10 bb hb5 hb6 hb7)).trans (fS9 bb hb5)).trans (fS8 bb hb0)).trans (fS5 bb hb2 hb3 hb4)).trans (fS4 bb hb2)).trans (fS3 bb hb0)).trans (fS1 bb hb1)⟩) ⟨rfl, dX0_init_60⟩

