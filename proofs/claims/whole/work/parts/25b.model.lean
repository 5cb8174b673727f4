set_option maxHeartbeats 4000000 in
set_option maxRecDepth 100000 in
theorem c_X9_canLay_yes (l : Launch) (g : gG) {n : Nat} {S : Nat → gE} {z : Nat} {mLen mAt mHC mRC mHS mJC mCh mVi : Int} {stg hps nw js : Nat → Int} {x0 : Int} {rs : Nat → Int} {rows : rT} {sl : sL} (hz : S z = oO 9 [.ref (z + 1), .int (iI mLen), .int (iI mAt), .ref (z + 2), .ref (z + 3), .ref (z + 4), .ref (z + 5), .int (iI mHC), .int (iI mRC), .ref (z + 6), .ref (z + 7), .ref (z + 8), .int (iI mHS), .ref (z + 9), .ref (z + 10), .int (iI mJC), .int (iI mCh), .int (iI mVi)]) (hst : S (z + 2) = oI g 5 stg) (hhp : S (z + 4) = oI g 24 hps) (hnw : S (z + 6) = oI g 1249 nw) (hjs : S (z + 10) = oI g 60 js) (hM : goodM mHC stg hps) (hR : goodR mHC.toNat (mLn hps) (mBr hps) rs rows) (hS : mS nw rs rows) (rx0 : 20 ≤ x0 ∧ x0 ≤ 60) (hlay : layR mHC.toNat (mLn hps) (mBr hps) (stg 0) (stg 2) (stg 1) (stg 4) (stg 3) rs rows x0 = some sl) : g_Cs l yX9_canLay wsX9_canLay { frames := 5, cells := 0, slots := 0, locals := 112 } g [.ref z, .int (iI x0)] n S (fun vr n1 S1 => ∃ jf9 : Nat → Int, ∃ kw9 : Nat → Int, ∃ jc9 : Int, ∃ ch9 : Int, ∃ vi9 : Int, vr = some (.int (iI 1)) ∧ n = n1 ∧ S1 z = oO 9 [.ref (z + 1), .int (iI mLen), .int (iI mAt), .ref (z + 2), .ref (z + 3), .ref (z + 4), .ref (z + 5), .int (iI mHC), .int (iI mRC), .ref (z + 6), .ref (z + 7), .ref (z + 8), .int (iI mHS), .ref (z + 9), .ref (z + 10), .int (iI jc9), .int (iI ch9), .int (iI vi9)] ∧ S1 (z + 6) = oI g 1249 kw9 ∧ S1 (z + 10) = oI g 60 jf9 ∧ mS kw9 rs rows ∧ (∀ bb, bb ≠ z → bb ≠ (z + 6) → bb ≠ (z + 10) → S1 bb = S bb)) 0 0 := by
  refine g_Cs.of (cc := cX9_canLay) (maxL := 3) (ret := (some .boolean)) (by decide) rfl (Nat.le_of_ble_eq_true rfl) ?_
  intro pp ee s m below meth cK Q H locs ls hc hnm hw hl hret
  have hl : lv_has ls 3 [(0, .ref z), (1, .int (iI x0))] := hl
  have hM0 := hM
  obtain ⟨m1, m2, m3, m4, m5, m6, m7, m8⟩ := hM
  have hbr1 : ∀ i : Nat, i < mHC.toNat → 1 ≤ mBr hps i := fun i hi => by have := m2 i (by omega); omega
  refine lv_aload_n hc.1 hc.2.1 dX9_canLay_0 rfl (lv_at hl 0 rfl) ?_
  refine lv_iload_n hc.1 hc.2.1 dX9_canLay_1 rfl (lv_at hl 1 rfl) ?_
  refine nn_Vs (As := [.int (iI x0)]) (st := []) hc hw hz rfl (c_X9_layCourse_yes l g  hz hst hhp hnw hjs (hM0) (hR) (hS) (by omega) (hlay)) (cwV 1 hc.2.2.2.2 gX9_canLay_X9_layCourse rfl rfl rfl (by decide +kernel) ⟨Nat.le_of_ble_eq_true rfl, Nat.le_of_ble_eq_true rfl⟩) rfl hl.1 rfl (Nat.le_of_ble_eq_true rfl) ⟨Nat.le_of_ble_eq_true rfl, Nat.le_of_ble_eq_true rfl⟩ dX9_canLay_2 (fun vr n1 S1 H locs qS1 hw => ?_)
  obtain ⟨jf9_2, kw9_3, jc9_4, ch9_5, vi9_6, rfl, rfl, hS1_0, hS1_1, hS1_2, kS1_0, fS1⟩ := qS1
  refine W.eq (g2 := F0 m 5 ls [.int (iI 1)]) rfl ?_
  refine lv_istore_n (lv' := [(2, .int (iI 1)), (0, .ref z), (1, .int (iI x0))]) hc.1 hc.2.1 dX9_canLay_5 rfl hl (by decide) rfl (fun ls hl => ?_)
  refine lv_iload_n hc.1 hc.2.1 dX9_canLay_6 rfl (lv_at hl 0 rfl) ?_
  refine nn_if_eq hc dX9_canLay_7 (tgt := 14) (by decide) (by decide) (fun c7 => ?_) (fun c7 => ?_)
  · exact absurd c7 (by decide)
  · refine lv_aload_n hc.1 hc.2.1 dX9_canLay_10 rfl (lv_at hl 1 rfl) ?_
    refine nn_Vs (As := []) (st := []) hc hw hS1_0 rfl (c_X9_takeUp l g  hS1_0 hS1_1 (hM0) (goodR_push hR hbr1 rx0 (by omega) m8.1 m6 hlay) (kS1_0)) (cwV 0 hc.2.2.2.2 gX9_canLay_X9_takeUp rfl rfl rfl (by decide +kernel) ⟨Nat.le_of_ble_eq_true rfl, Nat.le_of_ble_eq_true rfl⟩) rfl hl.1 rfl (Nat.le_of_ble_eq_true rfl) ⟨Nat.le_of_ble_eq_true rfl, Nat.le_of_ble_eq_true rfl⟩ dX9_canLay_11 (fun vr n1 S8 H locs qS8 hw => ?_)
    obtain ⟨kw9_9, rfl, rfl, hS8_0, kS8_0, fS8⟩ := qS8
    refine W.eq (g2 := F0 m 14 ls []) rfl ?_
    refine lv_iload_n hc.1 hc.2.1 dX9_canLay_14 rfl (lv_at hl 0 rfl) ?_
    have e10 : S8 z = oO 9 [.ref (z + 1), .int (iI mLen), .int (iI mAt), .ref (z + 2), .ref (z + 3), .ref (z + 4), .ref (z + 5), .int (iI mHC), .int (iI mRC), .ref (z + 6), .ref (z + 7), .ref (z + 8), .int (iI mHS), .ref (z + 9), .ref (z + 10), .int (iI jc9_4), .int (iI ch9_5), .int (iI vi9_6)] := (fS8 z (off_nl (x := z) (a := 6) (by decide))).trans hS1_0
    have e11 : S8 (z + 10) = oI g 60 jf9_2 := (fS8 (z + 10) (off_ne (x := z) (a := 10) (b := 6) (by decide))).trans hS1_2
    exact hret (some (.int (iI 1))) _ S8 _ _ _ _ hw (⟨_, _, _, _, _, rfl, rfl, e10, hS8_0, e11, mS_cg kS8_0 (fun i hi => by show rs i + (-1) * cntH sl i + cntH sl i = rs i; omega), fun bb hb0 hb1 hb2 => ((fS8 bb hb1)).trans (fS1 bb hb0 hb1 hb2)⟩) ⟨_, rfl, by first | rfl | exact nn_nb _, dX9_canLay_15⟩

set_option maxHeartbeats 4000000 in
set_option maxRecDepth 100000 in
theorem c_X9_canLay_no (l : Launch) (g : gG) {n : Nat} {S : Nat → gE} {z : Nat} {mLen mAt mHC mRC mHS mJC mCh mVi : Int} {stg hps nw js : Nat → Int} {x0 : Int} {rs : Nat → Int} {rows : rT} (hz : S z = oO 9 [.ref (z + 1), .int (iI mLen), .int (iI mAt), .ref (z + 2), .ref (z + 3), .ref (z + 4), .ref (z + 5), .int (iI mHC), .int (iI mRC), .ref (z + 6), .ref (z + 7), .ref (z + 8), .int (iI mHS), .ref (z + 9), .ref (z + 10), .int (iI mJC), .int (iI mCh), .int (iI mVi)]) (hst : S (z + 2) = oI g 5 stg) (hhp : S (z + 4) = oI g 24 hps) (hnw : S (z + 6) = oI g 1249 nw) (hjs : S (z + 10) = oI g 60 js) (hM : goodM mHC stg hps) (hR : goodR mHC.toNat (mLn hps) (mBr hps) rs rows) (hS : mS nw rs rows) (rx0 : 20 ≤ x0 ∧ x0 ≤ 60) (hlay : layR mHC.toNat (mLn hps) (mBr hps) (stg 0) (stg 2) (stg 1) (stg 4) (stg 3) rs rows x0 = none) : g_Cs l yX9_canLay wsX9_canLay { frames := 5, cells := 0, slots := 0, locals := 112 } g [.ref z, .int (iI x0)] n S (fun vr n1 S1 => ∃ jf9 : Nat → Int, ∃ kw9 : Nat → Int, ∃ jc9 : Int, ∃ ch9 : Int, ∃ vi9 : Int, vr = some (.int (iI 0)) ∧ n = n1 ∧ S1 z = oO 9 [.ref (z + 1), .int (iI mLen), .int (iI mAt), .ref (z + 2), .ref (z + 3), .ref (z + 4), .ref (z + 5), .int (iI mHC), .int (iI mRC), .ref (z + 6), .ref (z + 7), .ref (z + 8), .int (iI mHS), .ref (z + 9), .ref (z + 10), .int (iI jc9), .int (iI ch9), .int (iI vi9)] ∧ S1 (z + 6) = oI g 1249 kw9 ∧ S1 (z + 10) = oI g 60 jf9 ∧ mS kw9 rs rows ∧ (∀ bb, bb ≠ z → bb ≠ (z + 6) → bb ≠ (z + 10) → S1 bb = S bb)) 0 0 := by
  refine g_Cs.of (cc := cX9_canLay) (maxL := 3) (ret := (some .boolean)) (by decide) rfl (Nat.le_of_ble_eq_true rfl) ?_
  intro pp ee s m below meth cK Q H locs ls hc hnm hw hl hret
  have hl : lv_has ls 3 [(0, .ref z), (1, .int (iI x0))] := hl
  refine lv_aload_n hc.1 hc.2.1 dX9_canLay_0 rfl (lv_at hl 0 rfl) ?_
  refine lv_iload_n hc.1 hc.2.1 dX9_canLay_1 rfl (lv_at hl 1 rfl) ?_
  refine nn_Vs (As := [.int (iI x0)]) (st := []) hc hw hz rfl (c_X9_layCourse_no l g  hz hst hhp hnw hjs (hM) (hR) (hS) (by omega) (hlay)) (cwV 1 hc.2.2.2.2 gX9_canLay_X9_layCourse rfl rfl rfl (by decide +kernel) ⟨Nat.le_of_ble_eq_true rfl, Nat.le_of_ble_eq_true rfl⟩) rfl hl.1 rfl (Nat.le_of_ble_eq_true rfl) ⟨Nat.le_of_ble_eq_true rfl, Nat.le_of_ble_eq_true rfl⟩ dX9_canLay_2 (fun vr n1 S1 H locs qS1 hw => ?_)
  obtain ⟨jf9_2, kw9_3, jc9_4, ch9_5, vi9_6, rfl, rfl, hS1_0, hS1_1, hS1_2, kS1_0, fS1⟩ := qS1
  refine W.eq (g2 := F0 m 5 ls [.int (iI 0)]) rfl ?_
  refine lv_istore_n (lv' := [(2, .int (iI 0)), (0, .ref z), (1, .int (iI x0))]) hc.1 hc.2.1 dX9_canLay_5 rfl hl (by decide) rfl (fun ls hl => ?_)
  refine lv_iload_n hc.1 hc.2.1 dX9_canLay_6 rfl (lv_at hl 0 rfl) ?_
  refine nn_if_eq hc dX9_canLay_7 (tgt := 14) (by decide) (by decide) (fun c7 => ?_) (fun c7 => ?_)
  · refine lv_iload_n hc.1 hc.2.1 dX9_canLay_14 rfl (lv_at hl 0 rfl) ?_
    exact hret (some (.int (iI 0))) _ S1 _ _ _ _ hw (⟨_, _, _, _, _, rfl, rfl, hS1_0, hS1_1, hS1_2, kS1_0, fun bb hb0 hb1 hb2 => (fS1 bb hb0 hb1 hb2)⟩) ⟨_, rfl, by first | rfl | exact nn_nb _, dX9_canLay_15⟩
  · exact absurd c7 (by decide)

set_option maxHeartbeats 4000000 in
set_option maxRecDepth 100000 in
theorem c_X9_copyState (l : Launch) (g : gG) {n : Nat} {S : Nat → gE} {fa ta N1 N2 : Nat} {f h : Nat → Int} {i j : Int} (hfa : S fa = oI g N1 f) (hta : S ta = oI g N2 h) (hne : fa ≠ ta) (ri : 0 ≤ i ∧ i + 1249 ≤ N1) (rj : 0 ≤ j ∧ j + 1249 ≤ N2) (rN : N1 ≤ 10000 ∧ N2 ≤ 10000) : g_Cs l yX9_copyState wsX9_copyState { frames := 0, cells := 0, slots := 0, locals := 0 } g [.ref fa, .int (iI i), .ref ta, .int (iI j)] n S (fun vr n1 S1 => vr = none ∧ n = n1 ∧ S1 ta = oI g N2 (cpS f i.toNat h j.toNat 1249) ∧ (∀ bb, bb ≠ ta → S1 bb = S bb)) 0 0 := by
  refine g_Cs.of (cc := cX9_copyState) (maxL := 5) (ret := none) (by decide) rfl (Nat.le_of_ble_eq_true rfl) ?_
  intro pp ee s m below meth cK Q H locs ls hc hnm hw hl hret
  have hl : lv_has ls 5 [(0, .ref fa), (1, .int (iI i)), (2, .ref ta), (3, .int (iI j))] := hl
  refine nn_iconst hc dX9_copyState_0 ?_
  refine lv_istore (lv' := [(4, .int (iI 0)), (0, .ref fa), (1, .int (iI i)), (2, .ref ta), (3, .int (iI j))]) hc.1 hc.2.1 dX9_copyState_1 hl (by decide) rfl (fun ls hl => ?_)
  have lab3 : ∀ (fu3 : Nat) (k : Int) (h1 : Nat → Int) (S1 : Nat → gE) (H : Heap) (locs : List Loc) (ls : Array Slot), (0 ≤ k ∧ k ≤ 1249) → (h1 = cpS f i.toNat h j.toNat k.toNat) → S1 ta = oI g N2 h1 → (∀ bb, bb ≠ ta → S1 bb = S bb) → g_W g n S1 s H locs → (1249 - k).toNat < fu3 → lv_has ls 5 [(4, .int (iI k)), (0, .ref fa), (1, .int (iI i)), (2, .ref ta), (3, .int (iI j))] → W pp l ee ({ frames := 0, cells := 0, slots := 0, locals := 0 } : Room) s m ([.ref fa, .int (iI i), .ref ta, .int (iI j)] : List Value).toArray below meth cK H locs 0 0 Q (F0 m 3 ls []) := by
    intro fu3
    induction fu3 with
    | zero =>
      intro k h1 S1 H locs ls hk hh hc3_0 fr3 hw hmeas hl
      exact absurd hmeas (Nat.not_lt_zero _)
    | succ fu3 ih3 =>
      intro k h1 S1 H locs ls hk hh hc3_0 fr3 hw hmeas hl
      refine lv_iload hc.1 hc.2.1 dX9_copyState_3 (lv_at hl 0 rfl) ?_
      refine nn_sipush hc dX9_copyState_5 (by decide +kernel) ?_
      refine nn_icmp_ge hc dX9_copyState_8 (tgt := 29) (by decide) (by omega) (by decide) (fun c2 => ?_) (fun c2 => ?_)
      · exact hret none _ S1 _ _ _ _ hw (⟨rfl, rfl, (by rw [hh, show k.toNat = 1249 by omega] at hc3_0; exact hc3_0), fun bb hb0 => (fr3 bb hb0)⟩) ⟨rfl, dX9_copyState_29⟩
      · refine lv_aload_n hc.1 hc.2.1 dX9_copyState_11 rfl (lv_at hl 3 rfl) ?_
        refine lv_iload_n hc.1 hc.2.1 dX9_copyState_12 rfl (lv_at hl 4 rfl) ?_
        refine lv_iload hc.1 hc.2.1 dX9_copyState_13 (lv_at hl 0 rfl) ?_
        refine nn_iadd hc dX9_copyState_15 ?_
        refine lv_aload_n hc.1 hc.2.1 dX9_copyState_16 rfl (lv_at hl 1 rfl) ?_
        refine lv_iload_n hc.1 hc.2.1 dX9_copyState_17 rfl (lv_at hl 2 rfl) ?_
        refine lv_iload hc.1 hc.2.1 dX9_copyState_18 (lv_at hl 0 rfl) ?_
        refine nn_iadd hc dX9_copyState_20 ?_
        have e3 : S1 fa = oI g N1 f := (fr3 fa (by omega)).trans hfa
        refine nn_iald hc hw e3 (by omega) (by omega) dX9_copyState_21 ?_
        refine nn_iast hc hw hc3_0 (by omega) (by omega) dX9_copyState_22 (fun S4 H locs hS4 fS4 hw => ?_)
        refine nn_iinc (lv' := [(4, .int (iI (k + 1))), (0, .ref fa), (1, .int (iI i)), (2, .ref ta), (3, .int (iI j))]) hc dX9_copyState_23 hl (k0 := 0) rfl (by decide) rfl (fun ls hl => ?_)
        refine lv_goto hc.1 hc.2.1 dX9_copyState_26 (tgt := 3) (by decide) ?_
        exact ih3 (k + 1) (va_up h1 (j + k).toNat (f (i + k).toNat)) S4 _ _ _ (by omega) (by rw [show (j + k).toNat = j.toNat + k.toNat by omega, show (i + k).toNat = i.toNat + k.toNat by omega, hh, toNat_succ (by omega)]; exact cpS_s) hS4 (fun bb hb0 => ((fS4 bb hb0)).trans (fr3 bb hb0)) hw (by omega) (lv_sub hl [0, 1, 2, 3, 4] rfl)
  exact lab3 _ 0 h S _ _ _ (by omega) ((cpS_0 _ _ _ _).symm) hta (fun bb _ => rfl) hw (Nat.lt_succ_self _) (lv_sub hl [0, 1, 2, 3, 4] rfl)

set_option maxHeartbeats 4000000 in
set_option maxRecDepth 100000 in
theorem c_X9_save_lt (l : Launch) (g : gG) {n : Nat} {S : Nat → gE} {z : Nat} {mLen mAt mHC mRC mHS mJC mCh mVi : Int} {hps nw : Nat → Int} {rs : Nat → Int} {rows : rT} {hs : Nat → Int} {hist : List sT} (hz : S z = oO 9 [.ref (z + 1), .int (iI mLen), .int (iI mAt), .ref (z + 2), .ref (z + 3), .ref (z + 4), .ref (z + 5), .int (iI mHC), .int (iI mRC), .ref (z + 6), .ref (z + 7), .ref (z + 8), .int (iI mHS), .ref (z + 9), .ref (z + 10), .int (iI mJC), .int (iI mCh), .int (iI mVi)]) (hnw : S (z + 6) = oI g 1249 nw) (hhs : S (z + 8) = oI g 7494 hs) (hR : goodR mHC.toNat (mLn hps) (mBr hps) rs rows) (hS : mS nw rs rows) (hHi : mHi hs hist) (hHg : goodH mHC.toNat (mLn hps) (mBr hps) hist) (hHS : mHS = hist.length) (hlt : hist.length < 6) : g_Cs l yX9_save wsX9_save { frames := 1, cells := 0, slots := 0, locals := 24 } g [.ref z] n S (fun vr n1 S1 => ∃ hs9 : Nat → Int, vr = none ∧ n = n1 ∧ S1 z = oO 9 [.ref (z + 1), .int (iI mLen), .int (iI mAt), .ref (z + 2), .ref (z + 3), .ref (z + 4), .ref (z + 5), .int (iI mHC), .int (iI mRC), .ref (z + 6), .ref (z + 7), .ref (z + 8), .int (iI ((pushH hist (rs, rows)).length : Int)), .ref (z + 9), .ref (z + 10), .int (iI mJC), .int (iI mCh), .int (iI mVi)] ∧ S1 (z + 8) = oI g 7494 hs9 ∧ mHi hs9 (pushH hist (rs, rows)) ∧ (∀ bb, bb ≠ z → bb ≠ (z + 8) → S1 bb = S bb)) 0 0 := by
  refine g_Cs.of (cc := cX9_save) (maxL := 2) (ret := none) (by decide) rfl (Nat.le_of_ble_eq_true rfl) ?_
  intro pp ee s m below meth cK Q H locs ls hc hnm hw hl hret
  have hl : lv_has ls 2 [(0, .ref z)] := hl
  have hiX9 : ∀ w ∈ u_ws RX9 TX9 18, w ∈ wsX9_save := by decide +kernel
  have lk57 : Cond.fieldLink RX9 57 "RoofCoursesModel" "historySize" "I" ∈ wsX9_save := by decide +kernel
  have lk25 : Cond.fieldLink RX9 25 "RoofCoursesModel" "now" "[I" ∈ wsX9_save := by decide +kernel
  have lk31 : Cond.fieldLink RX9 31 "RoofCoursesModel" "history" "[I" ∈ wsX9_save := by decide +kernel
  have hpl := pushH_len (y := (rs, rows)) hHg.1
  rw [if_neg (by omega)] at hpl
  refine lv_aload_n hc.1 hc.2.1 dX9_save_0 rfl (lv_at hl 0 rfl) ?_
  refine nn_get hc hw hz hiX9 rfl 12 (by decide) rfl lk57 dX9_save_1 ?_
  refine nn_bipush hc dX9_save_4 (by decide +kernel) ?_
  refine nn_icmp_ne hc dX9_save_6 (tgt := 50) (by decide) (by omega) (by decide) (fun c1 => ?_) (fun c1 => ?_)
  · refine lv_aload_n hc.1 hc.2.1 dX9_save_50 rfl (lv_at hl 0 rfl) ?_
    refine nn_get hc hw hz hiX9 rfl 9 (by decide) rfl lk25 dX9_save_51 ?_
    refine nn_iconst hc dX9_save_54 ?_
    refine lv_aload_n hc.1 hc.2.1 dX9_save_55 rfl (lv_at hl 0 rfl) ?_
    refine nn_get hc hw hz hiX9 rfl 11 (by decide) rfl lk31 dX9_save_56 ?_
    refine nn_sipush hc dX9_save_59 (by decide +kernel) ?_
    refine lv_aload_n hc.1 hc.2.1 dX9_save_62 rfl (lv_at hl 0 rfl) ?_
    refine nn_get hc hw hz hiX9 rfl 12 (by decide) rfl lk57 dX9_save_63 ?_
    refine nn_imul hc dX9_save_66 ?_
    refine nn_Ss (As := [.ref (z + 6), .int (iI 0), .ref (z + 8), .int (iI (1249 * mHS))]) (st := []) hc hw (c_X9_copyState l g  hnw hhs (by omega) (by omega) (by omega) (by omega)) (va_cwS 4 hc.2.2.2.2 gX9_save_X9_copyState rfl rfl rfl (by decide +kernel) ⟨Nat.le_of_ble_eq_true rfl, Nat.le_of_ble_eq_true rfl⟩) rfl hl.1 rfl (Nat.le_of_ble_eq_true rfl) ⟨Nat.le_of_ble_eq_true rfl, Nat.le_of_ble_eq_true rfl⟩ dX9_save_67 (fun vr n1 S2 H locs qS2 hw => ?_)
    obtain ⟨rfl, rfl, hS2_0, fS2⟩ := qS2
    refine W.eq (g2 := F0 m 70 ls []) rfl ?_
    have hps1 := mHi_push hHg (y := (rs, rows)) hR hHi hS hlt
    refine lv_aload_n hc.1 hc.2.1 dX9_save_70 rfl (lv_at hl 0 rfl) ?_
    refine lv_dup hc.1 hc.2.1 dX9_save_71 rfl ?_
    have e3 : S2 z = oO 9 [.ref (z + 1), .int (iI mLen), .int (iI mAt), .ref (z + 2), .ref (z + 3), .ref (z + 4), .ref (z + 5), .int (iI mHC), .int (iI mRC), .ref (z + 6), .ref (z + 7), .ref (z + 8), .int (iI mHS), .ref (z + 9), .ref (z + 10), .int (iI mJC), .int (iI mCh), .int (iI mVi)] := (fS2 z (off_nl (x := z) (a := 8) (by decide))).trans hz
    refine nn_get hc hw e3 hiX9 rfl 12 (by decide) rfl lk57 dX9_save_72 ?_
    refine nn_iconst hc dX9_save_75 ?_
    refine nn_iadd hc dX9_save_76 ?_
    refine nn_put hc hw e3 hiX9 tyX9 tyX9_ok nmX9 rfl 12 (by decide) (Nat.le_of_ble_eq_true rfl) lk57 rfl rfl rfl dX9_save_77 (fun S4 H locs hS4 fS4 hw => ?_)
    have hS4 : S4 z = oO 9 [.ref (z + 1), .int (iI mLen), .int (iI mAt), .ref (z + 2), .ref (z + 3), .ref (z + 4), .ref (z + 5), .int (iI mHC), .int (iI mRC), .ref (z + 6), .ref (z + 7), .ref (z + 8), .int (iI (mHS + 1)), .ref (z + 9), .ref (z + 10), .int (iI mJC), .int (iI mCh), .int (iI mVi)] := hS4
    have e5 : S4 (z + 8) = oI g 7494 (cpS nw (0 : Int).toNat hs (1249 * mHS).toNat 1249) := (fS4 (z + 8) (off_nr (x := z) (a := 8) (by decide))).trans hS2_0
    exact hret none _ S4 _ _ _ _ hw (⟨_, rfl, rfl, (by rw [hpl, show ((hist.length + 1 : Nat) : Int) = mHS + 1 by omega]; exact hS4), (by rw [show (0 : Int).toNat = 0 from rfl, show (1249 * mHS).toNat = 1249 * hist.length by omega] at e5; exact e5), hps1, fun bb hb0 hb1 => ((fS4 bb hb0)).trans (fS2 bb hb1)⟩) ⟨rfl, dX9_save_80⟩
  · exfalso; omega

set_option maxHeartbeats 4000000 in
set_option maxRecDepth 100000 in
theorem c_X9_save_full (l : Launch) (g : gG) {n : Nat} {S : Nat → gE} {z : Nat} {mLen mAt mHC mRC mHS mJC mCh mVi : Int} {hps nw : Nat → Int} {rs : Nat → Int} {rows : rT} {hs : Nat → Int} {hist : List sT} (hz : S z = oO 9 [.ref (z + 1), .int (iI mLen), .int (iI mAt), .ref (z + 2), .ref (z + 3), .ref (z + 4), .ref (z + 5), .int (iI mHC), .int (iI mRC), .ref (z + 6), .ref (z + 7), .ref (z + 8), .int (iI mHS), .ref (z + 9), .ref (z + 10), .int (iI mJC), .int (iI mCh), .int (iI mVi)]) (hnw : S (z + 6) = oI g 1249 nw) (hhs : S (z + 8) = oI g 7494 hs) (hR : goodR mHC.toNat (mLn hps) (mBr hps) rs rows) (hS : mS nw rs rows) (hHi : mHi hs hist) (hHg : goodH mHC.toNat (mLn hps) (mBr hps) hist) (hHS : mHS = hist.length) (hlt : hist.length = 6) : g_Cs l yX9_save wsX9_save { frames := 1, cells := 0, slots := 0, locals := 24 } g [.ref z] n S (fun vr n1 S1 => ∃ hs9 : Nat → Int, vr = none ∧ n = n1 ∧ S1 z = oO 9 [.ref (z + 1), .int (iI mLen), .int (iI mAt), .ref (z + 2), .ref (z + 3), .ref (z + 4), .ref (z + 5), .int (iI mHC), .int (iI mRC), .ref (z + 6), .ref (z + 7), .ref (z + 8), .int (iI ((pushH hist (rs, rows)).length : Int)), .ref (z + 9), .ref (z + 10), .int (iI mJC), .int (iI mCh), .int (iI mVi)] ∧ S1 (z + 8) = oI g 7494 hs9 ∧ mHi hs9 (pushH hist (rs, rows)) ∧ (∀ bb, bb ≠ z → bb ≠ (z + 8) → S1 bb = S bb)) 0 0 := by
  refine g_Cs.of (cc := cX9_save) (maxL := 2) (ret := none) (by decide) rfl (Nat.le_of_ble_eq_true rfl) ?_
  intro pp ee s m below meth cK Q H locs ls hc hnm hw hl hret
  have hl : lv_has ls 2 [(0, .ref z)] := hl
  have hiX9 : ∀ w ∈ u_ws RX9 TX9 18, w ∈ wsX9_save := by decide +kernel
  have lk57 : Cond.fieldLink RX9 57 "RoofCoursesModel" "historySize" "I" ∈ wsX9_save := by decide +kernel
  have lk25 : Cond.fieldLink RX9 25 "RoofCoursesModel" "now" "[I" ∈ wsX9_save := by decide +kernel
  have lk31 : Cond.fieldLink RX9 31 "RoofCoursesModel" "history" "[I" ∈ wsX9_save := by decide +kernel
  have hpl := pushH_len (y := (rs, rows)) hHg.1
  rw [if_pos hlt] at hpl
  refine lv_aload_n hc.1 hc.2.1 dX9_save_0 rfl (lv_at hl 0 rfl) ?_
  refine nn_get hc hw hz hiX9 rfl 12 (by decide) rfl lk57 dX9_save_1 ?_
  refine nn_bipush hc dX9_save_4 (by decide +kernel) ?_
  refine nn_icmp_ne hc dX9_save_6 (tgt := 50) (by decide) (by omega) (by decide) (fun c1 => ?_) (fun c1 => ?_)
  · exfalso; omega
  · refine nn_iconst hc dX9_save_9 ?_
    refine lv_istore_n (lv' := [(1, .int (iI 0)), (0, .ref z)]) hc.1 hc.2.1 dX9_save_10 rfl hl (by decide) rfl (fun ls hl => ?_)
    have lab11 : ∀ (fu11 : Nat) (k : Int) (h1 : Nat → Int) (S2 : Nat → gE) (H : Heap) (locs : List Loc) (ls : Array Slot), (0 ≤ k ∧ k ≤ 6245) → (h1 = shS hs 1249 k.toNat) → S2 (z + 8) = oI g 7494 h1 → (∀ bb, bb ≠ (z + 8) → S2 bb = S bb) → g_W g n S2 s H locs → (6245 - k).toNat < fu11 → lv_has ls 2 [(1, .int (iI k)), (0, .ref z)] → W pp l ee ({ frames := 1, cells := 0, slots := 0, locals := 24 } : Room) s m ([.ref z] : List Value).toArray below meth cK H locs 0 0 Q (F0 m 11 ls []) := by
      intro fu11
      induction fu11 with
      | zero =>
        intro k h1 S2 H locs ls hk hh hc11_0 fr11 hw hmeas hl
        exact absurd hmeas (Nat.not_lt_zero _)
      | succ fu11 ih11 =>
        intro k h1 S2 H locs ls hk hh hc11_0 fr11 hw hmeas hl
        refine lv_iload_n hc.1 hc.2.1 dX9_save_11 rfl (lv_at hl 0 rfl) ?_
        refine nn_sipush hc dX9_save_12 (by decide +kernel) ?_
        refine nn_icmp_ge hc dX9_save_15 (tgt := 40) (by decide) (by omega) (by decide) (fun c3 => ?_) (fun c3 => ?_)
        · rw [show k.toNat = 6245 by omega] at hh
          refine lv_aload_n hc.1 hc.2.1 dX9_save_40 rfl (lv_at hl 1 rfl) ?_
          refine lv_dup hc.1 hc.2.1 dX9_save_41 rfl ?_
          have e4 : S2 z = oO 9 [.ref (z + 1), .int (iI mLen), .int (iI mAt), .ref (z + 2), .ref (z + 3), .ref (z + 4), .ref (z + 5), .int (iI mHC), .int (iI mRC), .ref (z + 6), .ref (z + 7), .ref (z + 8), .int (iI mHS), .ref (z + 9), .ref (z + 10), .int (iI mJC), .int (iI mCh), .int (iI mVi)] := (fr11 z (off_nl (x := z) (a := 8) (by decide))).trans hz
          refine nn_get hc hw e4 hiX9 rfl 12 (by decide) rfl lk57 dX9_save_42 ?_
          refine nn_iconst hc dX9_save_45 ?_
          refine nn_isub hc dX9_save_46 ?_
          refine nn_put hc hw e4 hiX9 tyX9 tyX9_ok nmX9 rfl 12 (by decide) (Nat.le_of_ble_eq_true rfl) lk57 rfl rfl rfl dX9_save_47 (fun S5 H locs hS5 fS5 hw => ?_)
          have hS5 : S5 z = oO 9 [.ref (z + 1), .int (iI mLen), .int (iI mAt), .ref (z + 2), .ref (z + 3), .ref (z + 4), .ref (z + 5), .int (iI mHC), .int (iI mRC), .ref (z + 6), .ref (z + 7), .ref (z + 8), .int (iI (mHS - 1)), .ref (z + 9), .ref (z + 10), .int (iI mJC), .int (iI mCh), .int (iI mVi)] := hS5
          refine lv_aload_n hc.1 hc.2.1 dX9_save_50 rfl (lv_at hl 1 rfl) ?_
          refine nn_get hc hw hS5 hiX9 rfl 9 (by decide) rfl lk25 dX9_save_51 ?_
          refine nn_iconst hc dX9_save_54 ?_
          refine lv_aload_n hc.1 hc.2.1 dX9_save_55 rfl (lv_at hl 1 rfl) ?_
          refine nn_get hc hw hS5 hiX9 rfl 11 (by decide) rfl lk31 dX9_save_56 ?_
          refine nn_sipush hc dX9_save_59 (by decide +kernel) ?_
          refine lv_aload_n hc.1 hc.2.1 dX9_save_62 rfl (lv_at hl 1 rfl) ?_
          refine nn_get hc hw hS5 hiX9 rfl 12 (by decide) rfl lk57 dX9_save_63 ?_
          refine nn_imul hc dX9_save_66 ?_
          have e6 : S2 (z + 6) = oI g 1249 nw := (fr11 (z + 6) (off_ne (x := z) (a := 6) (b := 8) (by decide))).trans hnw
          have e7 : S5 (z + 6) = oI g 1249 nw := (fS5 (z + 6) (off_nr (x := z) (a := 6) (by decide))).trans e6
          have e8 : S5 (z + 8) = oI g 7494 h1 := (fS5 (z + 8) (off_nr (x := z) (a := 8) (by decide))).trans hc11_0
          refine nn_Ss (As := [.ref (z + 6), .int (iI 0), .ref (z + 8), .int (iI (1249 * (mHS - 1)))]) (st := []) hc hw (c_X9_copyState l g  e7 e8 (by omega) (by omega) (by omega) (by omega)) (va_cwS 4 hc.2.2.2.2 gX9_save_X9_copyState rfl rfl rfl (by decide +kernel) ⟨Nat.le_of_ble_eq_true rfl, Nat.le_of_ble_eq_true rfl⟩) rfl hl.1 rfl (Nat.le_of_ble_eq_true rfl) ⟨Nat.le_of_ble_eq_true rfl, Nat.le_of_ble_eq_true rfl⟩ dX9_save_67 (fun vr n1 S9 H locs qS9 hw => ?_)
          obtain ⟨rfl, rfl, hS9_0, fS9⟩ := qS9
          refine W.eq (g2 := F0 m 70 ls []) rfl ?_
          have hps1 := mHi_full hHg (y := (rs, rows)) hR hHi hS hlt
          refine lv_aload_n hc.1 hc.2.1 dX9_save_70 rfl (lv_at hl 1 rfl) ?_
          refine lv_dup hc.1 hc.2.1 dX9_save_71 rfl ?_
          have e10 : S9 z = oO 9 [.ref (z + 1), .int (iI mLen), .int (iI mAt), .ref (z + 2), .ref (z + 3), .ref (z + 4), .ref (z + 5), .int (iI mHC), .int (iI mRC), .ref (z + 6), .ref (z + 7), .ref (z + 8), .int (iI (mHS - 1)), .ref (z + 9), .ref (z + 10), .int (iI mJC), .int (iI mCh), .int (iI mVi)] := (fS9 z (off_nl (x := z) (a := 8) (by decide))).trans hS5
          refine nn_get hc hw e10 hiX9 rfl 12 (by decide) rfl lk57 dX9_save_72 ?_
          refine nn_iconst hc dX9_save_75 ?_
          refine nn_iadd hc dX9_save_76 ?_
          refine nn_put hc hw e10 hiX9 tyX9 tyX9_ok nmX9 rfl 12 (by decide) (Nat.le_of_ble_eq_true rfl) lk57 rfl rfl rfl dX9_save_77 (fun S11 H locs hS11 fS11 hw => ?_)
          have hS11 : S11 z = oO 9 [.ref (z + 1), .int (iI mLen), .int (iI mAt), .ref (z + 2), .ref (z + 3), .ref (z + 4), .ref (z + 5), .int (iI mHC), .int (iI mRC), .ref (z + 6), .ref (z + 7), .ref (z + 8), .int (iI ((mHS - 1) + 1)), .ref (z + 9), .ref (z + 10), .int (iI mJC), .int (iI mCh), .int (iI mVi)] := hS11
          have e12 : S11 (z + 8) = oI g 7494 (cpS nw (0 : Int).toNat h1 (1249 * (mHS - 1)).toNat 1249) := (fS11 (z + 8) (off_nr (x := z) (a := 8) (by decide))).trans hS9_0
          exact hret none _ S11 _ _ _ _ hw (⟨_, rfl, rfl, (by rw [hpl, show ((6 : Nat) : Int) = mHS - 1 + 1 by omega]; exact hS11), (by rw [show (0 : Int).toNat = 0 from rfl, show (1249 * (mHS - 1)).toNat = 6245 by omega, hh] at e12; exact e12), hps1, fun bb hb0 hb1 => ((((fS11 bb hb0)).trans (fS9 bb hb1)).trans (fS5 bb hb0)).trans (fr11 bb hb1)⟩) ⟨rfl, dX9_save_80⟩
        · refine lv_aload_n hc.1 hc.2.1 dX9_save_18 rfl (lv_at hl 1 rfl) ?_
          have e13 : S2 z = oO 9 [.ref (z + 1), .int (iI mLen), .int (iI mAt), .ref (z + 2), .ref (z + 3), .ref (z + 4), .ref (z + 5), .int (iI mHC), .int (iI mRC), .ref (z + 6), .ref (z + 7), .ref (z + 8), .int (iI mHS), .ref (z + 9), .ref (z + 10), .int (iI mJC), .int (iI mCh), .int (iI mVi)] := (fr11 z (off_nl (x := z) (a := 8) (by decide))).trans hz
          refine nn_get hc hw e13 hiX9 rfl 11 (by decide) rfl lk31 dX9_save_19 ?_
          refine lv_iload_n hc.1 hc.2.1 dX9_save_22 rfl (lv_at hl 0 rfl) ?_
          refine lv_aload_n hc.1 hc.2.1 dX9_save_23 rfl (lv_at hl 1 rfl) ?_
          refine nn_get hc hw e13 hiX9 rfl 11 (by decide) rfl lk31 dX9_save_24 ?_
          refine lv_iload_n hc.1 hc.2.1 dX9_save_27 rfl (lv_at hl 0 rfl) ?_
          refine nn_sipush hc dX9_save_28 (by decide +kernel) ?_
          refine nn_iadd hc dX9_save_31 ?_
          refine nn_iald hc hw hc11_0 (by omega) (by omega) dX9_save_32 ?_
          refine nn_iast hc hw hc11_0 (by omega) (by omega) dX9_save_33 (fun S14 H locs hS14 fS14 hw => ?_)
          refine nn_iinc (lv' := [(1, .int (iI (k + 1))), (0, .ref z)]) hc dX9_save_34 hl (k0 := 0) rfl (by decide) rfl (fun ls hl => ?_)
          refine lv_goto hc.1 hc.2.1 dX9_save_37 (tgt := 11) (by decide) ?_
          exact ih11 (k + 1) (va_up h1 k.toNat (h1 (k + 1249).toNat)) S14 _ _ _ (by omega) (by rw [show (k + 1249).toNat = k.toNat + 1249 by omega, hh, toNat_succ (by omega)]; exact shS_s) hS14 (fun bb hb0 => ((fS14 bb hb0)).trans (fr11 bb hb0)) hw (by omega) (lv_sub hl [0, 1] rfl)
    exact lab11 _ 0 hs S _ _ _ (by omega) ((shS_0 _ _).symm) hhs (fun bb _ => rfl) hw (Nat.lt_succ_self _) (lv_sub hl [0, 1] rfl)

set_option maxHeartbeats 4000000 in
set_option maxRecDepth 100000 in
theorem c_X9_save (l : Launch) (g : gG) {n : Nat} {S : Nat → gE} {z : Nat} {mLen mAt mHC mRC mHS mJC mCh mVi : Int} {hps nw : Nat → Int} {rs : Nat → Int} {rows : rT} {hs : Nat → Int} {hist : List sT} (hz : S z = oO 9 [.ref (z + 1), .int (iI mLen), .int (iI mAt), .ref (z + 2), .ref (z + 3), .ref (z + 4), .ref (z + 5), .int (iI mHC), .int (iI mRC), .ref (z + 6), .ref (z + 7), .ref (z + 8), .int (iI mHS), .ref (z + 9), .ref (z + 10), .int (iI mJC), .int (iI mCh), .int (iI mVi)]) (hnw : S (z + 6) = oI g 1249 nw) (hhs : S (z + 8) = oI g 7494 hs) (hR : goodR mHC.toNat (mLn hps) (mBr hps) rs rows) (hS : mS nw rs rows) (hHi : mHi hs hist) (hHg : goodH mHC.toNat (mLn hps) (mBr hps) hist) (hHS : mHS = hist.length) : g_Cs l yX9_save wsX9_save { frames := 1, cells := 0, slots := 0, locals := 24 } g [.ref z] n S (fun vr n1 S1 => ∃ hs9 : Nat → Int, vr = none ∧ n = n1 ∧ S1 z = oO 9 [.ref (z + 1), .int (iI mLen), .int (iI mAt), .ref (z + 2), .ref (z + 3), .ref (z + 4), .ref (z + 5), .int (iI mHC), .int (iI mRC), .ref (z + 6), .ref (z + 7), .ref (z + 8), .int (iI ((pushH hist (rs, rows)).length : Int)), .ref (z + 9), .ref (z + 10), .int (iI mJC), .int (iI mCh), .int (iI mVi)] ∧ S1 (z + 8) = oI g 7494 hs9 ∧ mHi hs9 (pushH hist (rs, rows)) ∧ (∀ bb, bb ≠ z → bb ≠ (z + 8) → S1 bb = S bb)) 0 0 := by
  by_cases hlt : hist.length = 6
  · exact c_X9_save_full l g hz hnw hhs hR hS hHi hHg hHS hlt
  · exact c_X9_save_lt l g hz hnw hhs hR hS hHi hHg hHS (by have := hHg.1; omega)

