set_option maxHeartbeats 4000000 in
set_option maxRecDepth 100000 in
theorem c_X9_nextLength_open (l : Launch) (g : gG) {n : Nat} {S : Nat → gE} {z : Nat} {mLen mAt mHC mRC mHS mJC mCh mVi : Int} {stg hps nw js : Nat → Int} {rs : Nat → Int} {rows : rT} {how : Int} (hz : S z = oO 9 [.ref (z + 1), .int (iI mLen), .int (iI mAt), .ref (z + 2), .ref (z + 3), .ref (z + 4), .ref (z + 5), .int (iI mHC), .int (iI mRC), .ref (z + 6), .ref (z + 7), .ref (z + 8), .int (iI mHS), .ref (z + 9), .ref (z + 10), .int (iI mJC), .int (iI mCh), .int (iI mVi)]) (hst : S (z + 2) = oI g 5 stg) (hhp : S (z + 4) = oI g 24 hps) (hnw : S (z + 6) = oI g 1249 nw) (hjs : S (z + 10) = oI g 60 js) (hM : goodM mHC stg hps) (hR : goodR mHC.toNat (mLn hps) (mBr hps) rs rows) (hS : mS nw rs rows) (rhow : how = 0 ∨ how = 1) (hop : rows.length < 20 ∧ hdR (stg 2) rows rows.length < stg 0) : g_Cs l yX9_nextLength wsX9_nextLength { frames := 5, cells := 0, slots := 0, locals := 112 } g [.ref z, .int (iI how)] n S (fun vr n1 S1 => ∃ jf9 : Nat → Int, ∃ kw9 : Nat → Int, ∃ jc9 : Int, ∃ ch9 : Int, ∃ vi9 : Int, vr = some (.int (iI (chL mHC.toNat (mLn hps) (mBr hps) (stg 2) (stg 1) (stg 4) (stg 3) how rs (tpL rows) (hdR (stg 2) rows rows.length) (tpS rows)))) ∧ n = n1 ∧ S1 z = oO 9 [.ref (z + 1), .int (iI mLen), .int (iI mAt), .ref (z + 2), .ref (z + 3), .ref (z + 4), .ref (z + 5), .int (iI mHC), .int (iI mRC), .ref (z + 6), .ref (z + 7), .ref (z + 8), .int (iI mHS), .ref (z + 9), .ref (z + 10), .int (iI jc9), .int (iI ch9), .int (iI vi9)] ∧ S1 (z + 6) = oI g 1249 kw9 ∧ S1 (z + 10) = oI g 60 jf9 ∧ mS kw9 rs rows ∧ (∀ bb, bb ≠ z → bb ≠ (z + 6) → bb ≠ (z + 10) → S1 bb = S bb)) 0 0 := by
  refine g_Cs.of (cc := cX9_nextLength) (maxL := 8) (ret := (some .int)) (by decide) rfl (Nat.le_of_ble_eq_true rfl) ?_
  intro pp ee s m below meth cK Q H locs ls hc hnm hw hl hret
  have hl : lv_has ls 8 [(0, .ref z), (1, .int (iI how))] := hl
  have hiX9 : ∀ w ∈ u_ws RX9 TX9 18, w ∈ wsX9_nextLength := by decide +kernel
  have lk54 : Cond.fieldLink RX9 54 "RoofCoursesModel" "heapCount" "I" ∈ wsX9_nextLength := by decide +kernel
  have lk25 : Cond.fieldLink RX9 25 "RoofCoursesModel" "now" "[I" ∈ wsX9_nextLength := by decide +kernel
  have hM0 := hM
  obtain ⟨m1, m2, m3, m4, m5, m6, m7, m8⟩ := hM
  have hbr1 : ∀ i : Nat, i < mHC.toNat → 1 ≤ mBr hps i := fun i hi => by have := m2 i (by omega); omega
  have hbr2 : ∀ i : Nat, i < mHC.toNat → 1 ≤ mBr hps i ∧ mBr hps i ≤ 60 := fun i hi => by have := m2 i (by omega); omega
  have hln1 : ∀ i : Nat, i < mHC.toNat → 20 ≤ mLn hps i ∧ mLn hps i ≤ 60 := fun i hi => by have := m2 i (by omega); omega
  refine nn_bipush hc dX9_nextLength_0 (by decide +kernel) ?_
  refine lv_istore_n (lv' := [(2, .int (iI (-4))), (0, .ref z), (1, .int (iI how))]) hc.1 hc.2.1 dX9_nextLength_2 rfl hl (by decide) rfl (fun ls hl => ?_)
  refine nn_iconst hc dX9_nextLength_3 ?_
  refine lv_istore_n (lv' := [(3, .int (iI 0)), (2, .int (iI (-4))), (0, .ref z), (1, .int (iI how))]) hc.1 hc.2.1 dX9_nextLength_4 rfl hl (by decide) rfl (fun ls hl => ?_)
  refine nn_iconst hc dX9_nextLength_5 ?_
  refine lv_istore (lv' := [(4, .int (iI 0)), (3, .int (iI 0)), (2, .int (iI (-4))), (0, .ref z), (1, .int (iI how))]) hc.1 hc.2.1 dX9_nextLength_6 hl (by decide) rfl (fun ls hl => ?_)
  have lab8 : ∀ (fu8 : Nat) (f : Int) (lt : Int) (h : Int) (kw : Nat → Int) (jf : Nat → Int) (jc : Int) (ch : Int) (vi : Int) (S1 : Nat → gE) (H : Heap) (locs : List Loc) (ls : Array Slot), (0 ≤ h ∧ h ≤ mHC) → (mS kw rs rows) → (f = (chG mHC.toNat (mLn hps) (mBr hps) (stg 2) (stg 1) (stg 4) (stg 3) how rs (tpL rows) (hdR (stg 2) rows rows.length) (tpS rows) h.toNat).1) → (lt = (chG mHC.toNat (mLn hps) (mBr hps) (stg 2) (stg 1) (stg 4) (stg 3) how rs (tpL rows) (hdR (stg 2) rows rows.length) (tpS rows) h.toNat).2.1) → S1 z = oO 9 [.ref (z + 1), .int (iI mLen), .int (iI mAt), .ref (z + 2), .ref (z + 3), .ref (z + 4), .ref (z + 5), .int (iI mHC), .int (iI mRC), .ref (z + 6), .ref (z + 7), .ref (z + 8), .int (iI mHS), .ref (z + 9), .ref (z + 10), .int (iI jc), .int (iI ch), .int (iI vi)] → S1 (z + 6) = oI g 1249 kw → S1 (z + 10) = oI g 60 jf → (∀ bb, bb ≠ z → bb ≠ (z + 6) → bb ≠ (z + 10) → S1 bb = S bb) → g_W g n S1 s H locs → (mHC - h).toNat < fu8 → lv_has ls 8 [(2, .int (iI f)), (3, .int (iI lt)), (4, .int (iI h)), (0, .ref z), (1, .int (iI how))] → W pp l ee ({ frames := 5, cells := 0, slots := 0, locals := 112 } : Room) s m ([.ref z, .int (iI how)] : List Value).toArray below meth cK H locs 0 0 Q (F0 m 8 ls []) := by
    intro fu8
    induction fu8 with
    | zero =>
      intro f lt h kw jf jc ch vi S1 H locs ls hh hS1 hf hlt hc8_0 hc8_1 hc8_2 fr8 hw hmeas hl
      exact absurd hmeas (Nat.not_lt_zero _)
    | succ fu8 ih8 =>
      intro f lt h kw jf jc ch vi S1 H locs ls hh hS1 hf hlt hc8_0 hc8_1 hc8_2 fr8 hw hmeas hl
      have hS9 := hS1
      refine lv_iload hc.1 hc.2.1 dX9_nextLength_8 (lv_at hl 2 rfl) ?_
      refine lv_aload_n hc.1 hc.2.1 dX9_nextLength_10 rfl (lv_at hl 3 rfl) ?_
      refine nn_get hc hw hc8_0 hiX9 rfl 7 (by decide) rfl lk54 dX9_nextLength_11 ?_
      refine nn_icmp_ge hc dX9_nextLength_14 (tgt := 137) (by decide) (by omega) (by omega) (fun c2 => ?_) (fun c2 => ?_)
      · refine lv_iload_n hc.1 hc.2.1 dX9_nextLength_137 rfl (lv_at hl 0 rfl) ?_
        exact hret (some (.int (iI f))) _ S1 _ _ _ _ hw (⟨_, _, _, _, _, (by rw [hf, show h.toNat = mHC.toNat by omega]; rfl), rfl, hc8_0, hc8_1, hc8_2, hS1, fun bb hb0 hb1 hb2 => (fr8 bb hb0 hb1 hb2)⟩) ⟨_, rfl, rfl, dX9_nextLength_138⟩
      · have hl1 := hln1 h.toNat (by omega)
        refine lv_aload_n hc.1 hc.2.1 dX9_nextLength_17 rfl (lv_at hl 3 rfl) ?_
        refine lv_iload hc.1 hc.2.1 dX9_nextLength_18 (lv_at hl 2 rfl) ?_
        have e3 : S1 (z + 4) = oI g 24 hps := (fr8 (z + 4) (off_nr (x := z) (a := 4) (by decide)) (off_ne (x := z) (a := 4) (b := 6) (by decide)) (off_ne (x := z) (a := 4) (b := 10) (by decide))).trans hhp
        refine nn_Vp (As := [.int (iI h)]) (st := []) hc hw hc8_0 rfl (c_X9_heapLength l g  hc8_0 e3 (by omega)) (cwV 1 hc.2.2.2.2 gX9_nextLength_X9_heapLength rfl rfl rfl (by decide +kernel) ⟨Nat.le_of_ble_eq_true rfl, Nat.le_of_ble_eq_true rfl⟩) rfl hl.1 rfl (Nat.le_of_ble_eq_true rfl) ⟨Nat.le_of_ble_eq_true rfl, Nat.le_of_ble_eq_true rfl⟩ dX9_nextLength_20 ?_
        refine W.eq (g2 := F0 m 23 ls [.int (iI (mLn hps h.toNat))]) rfl ?_
        refine lv_istore (lv' := [(5, .int (iI (mLn hps h.toNat))), (2, .int (iI f)), (3, .int (iI lt)), (4, .int (iI h)), (0, .ref z), (1, .int (iI how))]) hc.1 hc.2.1 dX9_nextLength_23 hl (by decide) rfl (fun ls hl => ?_)
        refine lv_iload hc.1 hc.2.1 dX9_nextLength_25 (lv_at hl 3 rfl) ?_
        refine nn_if_eq hc dX9_nextLength_27 (tgt := 43) (by decide) (by omega) (fun c4 => ?_) (fun c4 => ?_)
        · refine lv_aload_n hc.1 hc.2.1 dX9_nextLength_43 rfl (lv_at hl 4 rfl) ?_
          refine lv_iload hc.1 hc.2.1 dX9_nextLength_44 (lv_at hl 0 rfl) ?_
          rcases opt_cases (layR mHC.toNat (mLn hps) (mBr hps) (stg 0) (stg 2) (stg 1) (stg 4) (stg 3) rs rows (mLn hps h.toNat)) with hly9 | ⟨sl9, hly9⟩
          · have hstep : chG mHC.toNat (mLn hps) (mBr hps) (stg 2) (stg 1) (stg 4) (stg 3) how rs (tpL rows) (hdR (stg 2) rows rows.length) (tpS rows) (h + 1).toNat = chG mHC.toNat (mLn hps) (mBr hps) (stg 2) (stg 1) (stg 4) (stg 3) how rs (tpL rows) (hdR (stg 2) rows rows.length) (tpS rows) h.toNat := by rw [toNat_succ (by omega)]; rcases layR_none hly9 with q9 | q9; exact chG_skip (b_no isN_iff (fun q8 => q9 ⟨hop.1, hop.2, q8.2⟩)); exact chG_none q9
            have e5 : S1 (z + 2) = oI g 5 stg := (fr8 (z + 2) (off_nr (x := z) (a := 2) (by decide)) (off_ne (x := z) (a := 2) (b := 6) (by decide)) (off_ne (x := z) (a := 2) (b := 10) (by decide))).trans hst
            refine nn_Vs (As := [.int (iI (mLn hps h.toNat))]) (st := []) hc hw hc8_0 rfl (c_X9_layCourse_no l g  hc8_0 e5 e3 hc8_1 hc8_2 (hM0) (hR) (hS1) (by omega) (hly9)) (cwV 1 hc.2.2.2.2 gX9_nextLength_X9_layCourse rfl rfl rfl (by decide +kernel) ⟨Nat.le_of_ble_eq_true rfl, Nat.le_of_ble_eq_true rfl⟩) rfl hl.1 rfl (Nat.le_of_ble_eq_true rfl) ⟨Nat.le_of_ble_eq_true rfl, Nat.le_of_ble_eq_true rfl⟩ dX9_nextLength_46 (fun vr n1 S6 H locs qS6 hw => ?_)
            obtain ⟨jf9_7, kw9_8, jc9_9, ch9_10, vi9_11, rfl, rfl, hS6_0, hS6_1, hS6_2, kS6_0, fS6⟩ := qS6
            refine W.eq (g2 := F0 m 49 ls [.int (iI 0)]) rfl ?_
            refine nn_if_eq hc dX9_nextLength_49 (tgt := 131) (by decide) (by decide) (fun c12 => ?_) (fun c12 => ?_)
            · refine nn_iinc (lv' := [(4, .int (iI (h + 1))), (5, .int (iI (mLn hps h.toNat))), (2, .int (iI f)), (3, .int (iI lt)), (0, .ref z), (1, .int (iI how))]) hc dX9_nextLength_131 hl (k0 := 3) rfl (by decide) rfl (fun ls hl => ?_)
              refine lv_goto hc.1 hc.2.1 dX9_nextLength_134 (tgt := 8) (by decide) ?_
              exact ih8 f lt (h + 1) kw9_8 jf9_7 jc9_9 ch9_10 vi9_11 S6 _ _ _ (by omega) (kS6_0) (by first | exact hf.trans (congrArg Prod.fst hstep).symm | exact (congrArg Prod.fst hstep).symm) (by first | exact hlt.trans (congrArg (fun q => q.2.1) hstep).symm | exact (congrArg (fun q => q.2.1) hstep).symm) hS6_0 hS6_1 hS6_2 (fun bb hb0 hb1 hb2 => ((fS6 bb hb0 hb1 hb2)).trans (fr8 bb hb0 hb1 hb2)) hw (by omega) (lv_sub hl [2, 3, 0, 4, 5] rfl)
            · exact absurd c12 (by decide)
          · have e13 : S1 (z + 2) = oI g 5 stg := (fr8 (z + 2) (off_nr (x := z) (a := 2) (by decide)) (off_ne (x := z) (a := 2) (b := 6) (by decide)) (off_ne (x := z) (a := 2) (b := 10) (by decide))).trans hst
            refine nn_Vs (As := [.int (iI (mLn hps h.toNat))]) (st := []) hc hw hc8_0 rfl (c_X9_layCourse_yes l g  hc8_0 e13 e3 hc8_1 hc8_2 (hM0) (hR) (hS1) (by omega) (hly9)) (cwV 1 hc.2.2.2.2 gX9_nextLength_X9_layCourse rfl rfl rfl (by decide +kernel) ⟨Nat.le_of_ble_eq_true rfl, Nat.le_of_ble_eq_true rfl⟩) rfl hl.1 rfl (Nat.le_of_ble_eq_true rfl) ⟨Nat.le_of_ble_eq_true rfl, Nat.le_of_ble_eq_true rfl⟩ dX9_nextLength_46 (fun vr n1 S14 H locs qS14 hw => ?_)
            obtain ⟨jf9_15, kw9_16, jc9_17, ch9_18, vi9_19, rfl, rfl, hS14_0, hS14_1, hS14_2, kS14_0, fS14⟩ := qS14
            refine W.eq (g2 := F0 m 49 ls [.int (iI 1)]) rfl ?_
            refine nn_if_eq hc dX9_nextLength_49 (tgt := 131) (by decide) (by decide) (fun c20 => ?_) (fun c20 => ?_)
            · exact absurd c20 (by decide)
            · have hS2 := kS14_0
              have h82 := hS2.2.1
              rw [len_sn] at h82
              have hly3 := layC_good hbr1 (layR_some hly9).2
              have hop9 := (layR_some hly9).1
              have hrw := hS2.2.2 rows.length (by rw [len_sn]; omega)
              rw [rL_at, rS_at] at hrw
              have hwr := wst_rng hbr2 (by omega : 0 ≤ mLn hps h.toNat ∧ mLn hps h.toNat ≤ 60) sl9 hly3.1
              have hcok := fun (_ : Unit) => chG_ok (br := mBr hps) (lp := stg 2) (wi := stg 1) (hp := stg 4) (bk := stg 3) (how := how) (lv := rs) (bL := tpL rows) (hd := hdR (stg 2) rows rows.length) (bs := tpS rows) hln1 (n := h.toNat) (by omega)
              have hfr0 : f = -4 ∨ (20 ≤ f ∧ f ≤ 60) := by rw [hf]; rcases hcok () with q9 | ⟨s9, h9, q1, q2, -⟩; exact Or.inl q9; exact Or.inr (by rw [q2]; exact hln1 h9 (by omega))
              refine lv_aload_n hc.1 hc.2.1 dX9_nextLength_52 rfl (lv_at hl 4 rfl) ?_
              refine lv_aload_n hc.1 hc.2.1 dX9_nextLength_53 rfl (lv_at hl 4 rfl) ?_
              refine nn_get hc hw hS14_0 hiX9 rfl 9 (by decide) rfl lk25 dX9_nextLength_54 ?_
              refine nn_bipush hc dX9_nextLength_57 (by decide +kernel) ?_
              refine nn_iald hc hw hS14_1 (by omega) (by omega) dX9_nextLength_59 ?_
              refine W.eq (g2 := F0 m 60 ls [.int (iI (kw9_16 8)), .ref z]) rfl ?_
              refine nn_iconst hc dX9_nextLength_60 ?_
              refine nn_isub hc dX9_nextLength_61 ?_
              have e21 : S14 (z + 4) = oI g 24 hps := (fS14 (z + 4) (off_nr (x := z) (a := 4) (by decide)) (off_ne (x := z) (a := 4) (b := 6) (by decide)) (off_ne (x := z) (a := 4) (b := 10) (by decide))).trans e3
              refine nn_Vp (As := [.int (iI ((kw9_16 8) - 1))]) (st := []) hc hw hS14_0 rfl (c_X9_waste l g  hS14_0 hS14_1 e21 (by omega) (by rw [h82, show (((rows.length + 1 : Nat) : Int) - 1).toNat = rows.length by omega]; exact hrw) (hly3.1) (hly3.2.1.1) (by omega) (hbr2)) (cwV 1 hc.2.2.2.2 gX9_nextLength_X9_waste rfl rfl rfl (by decide +kernel) ⟨Nat.le_of_ble_eq_true rfl, Nat.le_of_ble_eq_true rfl⟩) rfl hl.1 rfl (Nat.le_of_ble_eq_true rfl) ⟨Nat.le_of_ble_eq_true rfl, Nat.le_of_ble_eq_true rfl⟩ dX9_nextLength_62 ?_
              refine W.eq (g2 := F0 m 65 ls [.int (iI (wst (mBr hps) (mLn hps h.toNat) sl9))]) rfl ?_
              refine nn_name (fun xw exw => ?_)
              refine lv_istore (lv' := [(6, .int (iI xw)), (5, .int (iI (mLn hps h.toNat))), (2, .int (iI f)), (3, .int (iI lt)), (4, .int (iI h)), (0, .ref z), (1, .int (iI how))]) hc.1 hc.2.1 dX9_nextLength_65 hl (by decide) rfl (fun ls hl => ?_)
              refine lv_iload_n hc.1 hc.2.1 dX9_nextLength_67 rfl (lv_at hl 2 rfl) ?_
              refine nn_bipush hc dX9_nextLength_68 (by decide +kernel) ?_
              refine nn_icmp_eq hc dX9_nextLength_70 (tgt := 96) (by decide) (by omega) (by decide) (fun c22 => ?_) (fun c22 => ?_)
              · have hcc : (chG mHC.toNat (mLn hps) (mBr hps) (stg 2) (stg 1) (stg 4) (stg 3) how rs (tpL rows) (hdR (stg 2) rows rows.length) (tpS rows) h.toNat).1 = -4 ∨ (how = 0 ∧ wst (mBr hps) (mLn hps h.toNat) sl9 * (chG mHC.toNat (mLn hps) (mBr hps) (stg 2) (stg 1) (stg 4) (stg 3) how rs (tpL rows) (hdR (stg 2) rows rows.length) (tpS rows) h.toNat).2.2 < (chG mHC.toNat (mLn hps) (mBr hps) (stg 2) (stg 1) (stg 4) (stg 3) how rs (tpL rows) (hdR (stg 2) rows rows.length) (tpS rows) h.toNat).2.1 * ((mLn hps h.toNat - stg 2) / 2)) := Or.inl (by omega)
                have hxe : xw = wst (mBr hps) (mLn hps h.toNat) sl9 := exw
                have hstep : chG mHC.toNat (mLn hps) (mBr hps) (stg 2) (stg 1) (stg 4) (stg 3) how rs (tpL rows) (hdR (stg 2) rows rows.length) (tpS rows) (h + 1).toNat = (mLn hps h.toNat, xw, (mLn hps h.toNat - stg 2) / 2) := by rw [toNat_succ (by omega), hxe]; exact chG_take (isN_iff.mpr ⟨by rw [show h.toNat - 1 = (h - 1).toNat by omega]; omega, by omega⟩) (layR_some hly9).2 hcc
                refine nn_iconst hc dX9_nextLength_96 ?_
                refine lv_goto hc.1 hc.2.1 dX9_nextLength_97 (tgt := 101) (by decide) ?_
                refine lv_istore (lv' := [(7, .int (iI 1)), (6, .int (iI xw)), (5, .int (iI (mLn hps h.toNat))), (2, .int (iI f)), (3, .int (iI lt)), (4, .int (iI h)), (0, .ref z), (1, .int (iI how))]) hc.1 hc.2.1 dX9_nextLength_101 hl (by decide) rfl (fun ls hl => ?_)
                refine lv_iload hc.1 hc.2.1 dX9_nextLength_103 (lv_at hl 0 rfl) ?_
                refine nn_if_eq hc dX9_nextLength_105 (tgt := 113) (by decide) (by decide) (fun c23 => ?_) (fun c23 => ?_)
                · exact absurd c23 (by decide)
                · refine lv_iload hc.1 hc.2.1 dX9_nextLength_108 (lv_at hl 2 rfl) ?_
                  refine lv_goto hc.1 hc.2.1 dX9_nextLength_110 (tgt := 114) (by decide) ?_
                  refine lv_istore_n (lv' := [(2, .int (iI (mLn hps h.toNat))), (7, .int (iI 1)), (6, .int (iI xw)), (5, .int (iI (mLn hps h.toNat))), (3, .int (iI lt)), (4, .int (iI h)), (0, .ref z), (1, .int (iI how))]) hc.1 hc.2.1 dX9_nextLength_114 rfl hl (by decide) rfl (fun ls hl => ?_)
                  refine lv_iload hc.1 hc.2.1 dX9_nextLength_115 (lv_at hl 1 rfl) ?_
                  refine nn_if_eq hc dX9_nextLength_117 (tgt := 125) (by decide) (by decide) (fun c24 => ?_) (fun c24 => ?_)
                  · exact absurd c24 (by decide)
                  · refine lv_iload hc.1 hc.2.1 dX9_nextLength_120 (lv_at hl 2 rfl) ?_
                    refine lv_goto hc.1 hc.2.1 dX9_nextLength_122 (tgt := 126) (by decide) ?_
                    refine lv_istore_n (lv' := [(3, .int (iI xw)), (2, .int (iI (mLn hps h.toNat))), (7, .int (iI 1)), (6, .int (iI xw)), (5, .int (iI (mLn hps h.toNat))), (4, .int (iI h)), (0, .ref z), (1, .int (iI how))]) hc.1 hc.2.1 dX9_nextLength_126 rfl hl (by decide) rfl (fun ls hl => ?_)
                    refine lv_aload_n hc.1 hc.2.1 dX9_nextLength_127 rfl (lv_at hl 6 rfl) ?_
                    refine nn_Vs (As := []) (st := []) hc hw hS14_0 rfl (c_X9_takeUp l g  hS14_0 hS14_1 (hM0) (goodR_push hR hbr1 (by omega) (by omega) m8.1 m6 hly9) (hS2)) (cwV 0 hc.2.2.2.2 gX9_nextLength_X9_takeUp rfl rfl rfl (by decide +kernel) ⟨Nat.le_of_ble_eq_true rfl, Nat.le_of_ble_eq_true rfl⟩) rfl hl.1 rfl (Nat.le_of_ble_eq_true rfl) ⟨Nat.le_of_ble_eq_true rfl, Nat.le_of_ble_eq_true rfl⟩ dX9_nextLength_128 (fun vr n1 S25 H locs qS25 hw => ?_)
                    obtain ⟨kw9_26, rfl, rfl, hS25_0, kS25_0, fS25⟩ := qS25
                    refine W.eq (g2 := F0 m 131 ls []) rfl ?_
                    refine nn_iinc (lv' := [(4, .int (iI (h + 1))), (3, .int (iI xw)), (2, .int (iI (mLn hps h.toNat))), (7, .int (iI 1)), (6, .int (iI xw)), (5, .int (iI (mLn hps h.toNat))), (0, .ref z), (1, .int (iI how))]) hc dX9_nextLength_131 hl (k0 := 5) rfl (by decide) rfl (fun ls hl => ?_)
                    refine lv_goto hc.1 hc.2.1 dX9_nextLength_134 (tgt := 8) (by decide) ?_
                    have e27 : S25 z = oO 9 [.ref (z + 1), .int (iI mLen), .int (iI mAt), .ref (z + 2), .ref (z + 3), .ref (z + 4), .ref (z + 5), .int (iI mHC), .int (iI mRC), .ref (z + 6), .ref (z + 7), .ref (z + 8), .int (iI mHS), .ref (z + 9), .ref (z + 10), .int (iI jc9_17), .int (iI ch9_18), .int (iI vi9_19)] := (fS25 z (off_nl (x := z) (a := 6) (by decide))).trans hS14_0
                    have e28 : S25 (z + 10) = oI g 60 jf9_15 := (fS25 (z + 10) (off_ne (x := z) (a := 10) (b := 6) (by decide))).trans hS14_2
                    exact ih8 (mLn hps h.toNat) xw (h + 1) kw9_26 jf9_15 jc9_17 ch9_18 vi9_19 S25 _ _ _ (by omega) (mS_cg kS25_0 (fun i hi => by show rs i + (-1) * cntH sl9 i + cntH sl9 i = rs i; omega)) (by first | exact hf.trans (congrArg Prod.fst hstep).symm | exact (congrArg Prod.fst hstep).symm) (by first | exact hlt.trans (congrArg (fun q => q.2.1) hstep).symm | exact (congrArg (fun q => q.2.1) hstep).symm) e27 hS25_0 e28 (fun bb hb0 hb1 hb2 => (((fS25 bb hb1)).trans (fS14 bb hb0 hb1 hb2)).trans (fr8 bb hb0 hb1 hb2)) hw (by omega) (lv_sub hl [2, 1, 0, 6, 7] rfl)
              · refine lv_iload_n hc.1 hc.2.1 dX9_nextLength_73 rfl (lv_at hl 6 rfl) ?_
                refine nn_if_ne hc dX9_nextLength_74 (tgt := 100) (by decide) (by omega) (fun c29 => ?_) (fun c29 => ?_)
                · have hcc : ¬ ((chG mHC.toNat (mLn hps) (mBr hps) (stg 2) (stg 1) (stg 4) (stg 3) how rs (tpL rows) (hdR (stg 2) rows rows.length) (tpS rows) h.toNat).1 = -4 ∨ (how = 0 ∧ wst (mBr hps) (mLn hps h.toNat) sl9 * (chG mHC.toNat (mLn hps) (mBr hps) (stg 2) (stg 1) (stg 4) (stg 3) how rs (tpL rows) (hdR (stg 2) rows rows.length) (tpS rows) h.toNat).2.2 < (chG mHC.toNat (mLn hps) (mBr hps) (stg 2) (stg 1) (stg 4) (stg 3) how rs (tpL rows) (hdR (stg 2) rows rows.length) (tpS rows) h.toNat).2.1 * ((mLn hps h.toNat - stg 2) / 2))) := fun q9 => by rcases q9 with q8 | q8; omega; omega
                  have hstep : chG mHC.toNat (mLn hps) (mBr hps) (stg 2) (stg 1) (stg 4) (stg 3) how rs (tpL rows) (hdR (stg 2) rows rows.length) (tpS rows) (h + 1).toNat = chG mHC.toNat (mLn hps) (mBr hps) (stg 2) (stg 1) (stg 4) (stg 3) how rs (tpL rows) (hdR (stg 2) rows rows.length) (tpS rows) h.toNat := by rw [toNat_succ (by omega)]; exact chG_keep (layR_some hly9).2 hcc
                  refine nn_iconst hc dX9_nextLength_100 ?_
                  refine lv_istore (lv' := [(7, .int (iI 0)), (6, .int (iI xw)), (5, .int (iI (mLn hps h.toNat))), (2, .int (iI f)), (3, .int (iI lt)), (4, .int (iI h)), (0, .ref z), (1, .int (iI how))]) hc.1 hc.2.1 dX9_nextLength_101 hl (by decide) rfl (fun ls hl => ?_)
                  refine lv_iload hc.1 hc.2.1 dX9_nextLength_103 (lv_at hl 0 rfl) ?_
                  refine nn_if_eq hc dX9_nextLength_105 (tgt := 113) (by decide) (by decide) (fun c30 => ?_) (fun c30 => ?_)
                  · refine lv_iload_n hc.1 hc.2.1 dX9_nextLength_113 rfl (lv_at hl 3 rfl) ?_
                    refine lv_istore_n (lv' := [(2, .int (iI f)), (7, .int (iI 0)), (6, .int (iI xw)), (5, .int (iI (mLn hps h.toNat))), (3, .int (iI lt)), (4, .int (iI h)), (0, .ref z), (1, .int (iI how))]) hc.1 hc.2.1 dX9_nextLength_114 rfl hl (by decide) rfl (fun ls hl => ?_)
                    refine lv_iload hc.1 hc.2.1 dX9_nextLength_115 (lv_at hl 1 rfl) ?_
                    refine nn_if_eq hc dX9_nextLength_117 (tgt := 125) (by decide) (by decide) (fun c31 => ?_) (fun c31 => ?_)
                    · refine lv_iload_n hc.1 hc.2.1 dX9_nextLength_125 rfl (lv_at hl 4 rfl) ?_
                      refine lv_istore_n (lv' := [(3, .int (iI lt)), (2, .int (iI f)), (7, .int (iI 0)), (6, .int (iI xw)), (5, .int (iI (mLn hps h.toNat))), (4, .int (iI h)), (0, .ref z), (1, .int (iI how))]) hc.1 hc.2.1 dX9_nextLength_126 rfl hl (by decide) rfl (fun ls hl => ?_)
                      refine lv_aload_n hc.1 hc.2.1 dX9_nextLength_127 rfl (lv_at hl 6 rfl) ?_
                      refine nn_Vs (As := []) (st := []) hc hw hS14_0 rfl (c_X9_takeUp l g  hS14_0 hS14_1 (hM0) (goodR_push hR hbr1 (by omega) (by omega) m8.1 m6 hly9) (hS2)) (cwV 0 hc.2.2.2.2 gX9_nextLength_X9_takeUp rfl rfl rfl (by decide +kernel) ⟨Nat.le_of_ble_eq_true rfl, Nat.le_of_ble_eq_true rfl⟩) rfl hl.1 rfl (Nat.le_of_ble_eq_true rfl) ⟨Nat.le_of_ble_eq_true rfl, Nat.le_of_ble_eq_true rfl⟩ dX9_nextLength_128 (fun vr n1 S32 H locs qS32 hw => ?_)
                      obtain ⟨kw9_33, rfl, rfl, hS32_0, kS32_0, fS32⟩ := qS32
                      refine W.eq (g2 := F0 m 131 ls []) rfl ?_
                      refine nn_iinc (lv' := [(4, .int (iI (h + 1))), (3, .int (iI lt)), (2, .int (iI f)), (7, .int (iI 0)), (6, .int (iI xw)), (5, .int (iI (mLn hps h.toNat))), (0, .ref z), (1, .int (iI how))]) hc dX9_nextLength_131 hl (k0 := 5) rfl (by decide) rfl (fun ls hl => ?_)
                      refine lv_goto hc.1 hc.2.1 dX9_nextLength_134 (tgt := 8) (by decide) ?_
                      have e34 : S32 z = oO 9 [.ref (z + 1), .int (iI mLen), .int (iI mAt), .ref (z + 2), .ref (z + 3), .ref (z + 4), .ref (z + 5), .int (iI mHC), .int (iI mRC), .ref (z + 6), .ref (z + 7), .ref (z + 8), .int (iI mHS), .ref (z + 9), .ref (z + 10), .int (iI jc9_17), .int (iI ch9_18), .int (iI vi9_19)] := (fS32 z (off_nl (x := z) (a := 6) (by decide))).trans hS14_0
                      have e35 : S32 (z + 10) = oI g 60 jf9_15 := (fS32 (z + 10) (off_ne (x := z) (a := 10) (b := 6) (by decide))).trans hS14_2
                      exact ih8 f lt (h + 1) kw9_33 jf9_15 jc9_17 ch9_18 vi9_19 S32 _ _ _ (by omega) (mS_cg kS32_0 (fun i hi => by show rs i + (-1) * cntH sl9 i + cntH sl9 i = rs i; omega)) (by first | exact hf.trans (congrArg Prod.fst hstep).symm | exact (congrArg Prod.fst hstep).symm) (by first | exact hlt.trans (congrArg (fun q => q.2.1) hstep).symm | exact (congrArg (fun q => q.2.1) hstep).symm) e34 hS32_0 e35 (fun bb hb0 hb1 hb2 => (((fS32 bb hb1)).trans (fS14 bb hb0 hb1 hb2)).trans (fr8 bb hb0 hb1 hb2)) hw (by omega) (lv_sub hl [2, 1, 0, 6, 7] rfl)
                    · exact absurd c31 (by decide)
                  · exact absurd c30 (by decide)
                · obtain ⟨sl8, h8, k1, k2, k3, k4, k5, k6⟩ := (hcok ()).resolve_left (by omega)
                  have hl8 := hln1 h8 (by omega)
                  have hg8 := layC_good hbr1 k4
                  have hw8 := wst_rng hbr2 (by omega : 0 ≤ mLn hps h8 ∧ mLn hps h8 ≤ 60) sl8 hg8.1
                  have hfr : 20 ≤ f ∧ f ≤ 60 := by rw [hf, k2]; exact hl8
                  have hlr : 0 ≤ lt ∧ lt ≤ 216000 := by rw [hlt, k5]; omega
                  have hga : 0 ≤ (f - stg 2) / 2 ∧ (f - stg 2) / 2 ≤ 30 := by omega
                  have hgb : 0 ≤ (mLn hps h.toNat - stg 2) / 2 ∧ (mLn hps h.toNat - stg 2) / 2 ≤ 30 := by omega
                  have hp1 : 0 ≤ xw * ((f - stg 2) / 2) ∧ xw * ((f - stg 2) / 2) ≤ 216000 * 30 := ⟨Int.mul_nonneg (by omega) hga.1, Int.mul_le_mul (by omega) hga.2 hga.1 (by decide)⟩
                  have hp2 : 0 ≤ lt * ((mLn hps h.toNat - stg 2) / 2) ∧ lt * ((mLn hps h.toNat - stg 2) / 2) ≤ 216000 * 30 := ⟨Int.mul_nonneg hlr.1 hgb.1, Int.mul_le_mul hlr.2 hgb.2 hgb.1 (by decide)⟩
                  have hwx : wst (mBr hps) (mLn hps h.toNat) sl9 * (chG mHC.toNat (mLn hps) (mBr hps) (stg 2) (stg 1) (stg 4) (stg 3) how rs (tpL rows) (hdR (stg 2) rows rows.length) (tpS rows) h.toNat).2.2 = xw * ((f - stg 2) / 2) := by rw [k6, hf, k2, exw]
                  have hwy : (chG mHC.toNat (mLn hps) (mBr hps) (stg 2) (stg 1) (stg 4) (stg 3) how rs (tpL rows) (hdR (stg 2) rows rows.length) (tpS rows) h.toNat).2.1 * ((mLn hps h.toNat - stg 2) / 2) = lt * ((mLn hps h.toNat - stg 2) / 2) := by rw [hlt]
                  refine lv_iload hc.1 hc.2.1 dX9_nextLength_77 (lv_at hl 0 rfl) ?_
                  refine lv_aload_n hc.1 hc.2.1 dX9_nextLength_79 rfl (lv_at hl 5 rfl) ?_
                  refine lv_iload_n hc.1 hc.2.1 dX9_nextLength_80 rfl (lv_at hl 2 rfl) ?_
                  have e36 : S14 (z + 2) = oI g 5 stg := (fS14 (z + 2) (off_nr (x := z) (a := 2) (by decide)) (off_ne (x := z) (a := 2) (b := 6) (by decide)) (off_ne (x := z) (a := 2) (b := 10) (by decide))).trans e13
                  refine nn_Vp (As := [.int (iI f)]) (st := [.int (iI xw)]) hc hw hS14_0 rfl (c_X9_gauge l g  hS14_0 e36 (by omega)) (cwV 1 hc.2.2.2.2 gX9_nextLength_X9_gauge rfl rfl rfl (by decide +kernel) ⟨Nat.le_of_ble_eq_true rfl, Nat.le_of_ble_eq_true rfl⟩) rfl hl.1 rfl (Nat.le_of_ble_eq_true rfl) ⟨Nat.le_of_ble_eq_true rfl, Nat.le_of_ble_eq_true rfl⟩ dX9_nextLength_81 ?_
                  refine W.eq (g2 := F0 m 84 ls [.int (iI ((f - stg 2) / 2)), .int (iI xw)]) rfl ?_
                  refine nn_imul hc dX9_nextLength_84 ?_
                  refine lv_iload_n hc.1 hc.2.1 dX9_nextLength_85 rfl (lv_at hl 3 rfl) ?_
                  refine lv_aload_n hc.1 hc.2.1 dX9_nextLength_86 rfl (lv_at hl 5 rfl) ?_
                  refine lv_iload hc.1 hc.2.1 dX9_nextLength_87 (lv_at hl 1 rfl) ?_
                  refine nn_Vp (As := [.int (iI (mLn hps h.toNat))]) (st := [.int (iI lt), .int (iI (xw * ((f - stg 2) / 2)))]) hc hw hS14_0 rfl (c_X9_gauge l g  hS14_0 e36 (by omega)) (cwV 1 hc.2.2.2.2 gX9_nextLength_X9_gauge rfl rfl rfl (by decide +kernel) ⟨Nat.le_of_ble_eq_true rfl, Nat.le_of_ble_eq_true rfl⟩) rfl hl.1 rfl (Nat.le_of_ble_eq_true rfl) ⟨Nat.le_of_ble_eq_true rfl, Nat.le_of_ble_eq_true rfl⟩ dX9_nextLength_89 ?_
                  refine W.eq (g2 := F0 m 92 ls [.int (iI (((mLn hps h.toNat) - stg 2) / 2)), .int (iI lt), .int (iI (xw * ((f - stg 2) / 2)))]) rfl ?_
                  refine nn_imul hc dX9_nextLength_92 ?_
                  refine nn_icmp_ge hc dX9_nextLength_93 (tgt := 100) (by decide) (by omega) (by omega) (fun c37 => ?_) (fun c37 => ?_)
                  · have hcc : ¬ ((chG mHC.toNat (mLn hps) (mBr hps) (stg 2) (stg 1) (stg 4) (stg 3) how rs (tpL rows) (hdR (stg 2) rows rows.length) (tpS rows) h.toNat).1 = -4 ∨ (how = 0 ∧ wst (mBr hps) (mLn hps h.toNat) sl9 * (chG mHC.toNat (mLn hps) (mBr hps) (stg 2) (stg 1) (stg 4) (stg 3) how rs (tpL rows) (hdR (stg 2) rows rows.length) (tpS rows) h.toNat).2.2 < (chG mHC.toNat (mLn hps) (mBr hps) (stg 2) (stg 1) (stg 4) (stg 3) how rs (tpL rows) (hdR (stg 2) rows rows.length) (tpS rows) h.toNat).2.1 * ((mLn hps h.toNat - stg 2) / 2))) := fun q9 => by rcases q9 with q8 | q8; omega; rw [hwx, hwy] at q8; omega
                    have hstep : chG mHC.toNat (mLn hps) (mBr hps) (stg 2) (stg 1) (stg 4) (stg 3) how rs (tpL rows) (hdR (stg 2) rows rows.length) (tpS rows) (h + 1).toNat = chG mHC.toNat (mLn hps) (mBr hps) (stg 2) (stg 1) (stg 4) (stg 3) how rs (tpL rows) (hdR (stg 2) rows rows.length) (tpS rows) h.toNat := by rw [toNat_succ (by omega)]; exact chG_keep (layR_some hly9).2 hcc
                    refine nn_iconst hc dX9_nextLength_100 ?_
                    refine lv_istore (lv' := [(7, .int (iI 0)), (6, .int (iI xw)), (5, .int (iI (mLn hps h.toNat))), (2, .int (iI f)), (3, .int (iI lt)), (4, .int (iI h)), (0, .ref z), (1, .int (iI how))]) hc.1 hc.2.1 dX9_nextLength_101 hl (by decide) rfl (fun ls hl => ?_)
                    refine lv_iload hc.1 hc.2.1 dX9_nextLength_103 (lv_at hl 0 rfl) ?_
                    refine nn_if_eq hc dX9_nextLength_105 (tgt := 113) (by decide) (by decide) (fun c38 => ?_) (fun c38 => ?_)
                    · refine lv_iload_n hc.1 hc.2.1 dX9_nextLength_113 rfl (lv_at hl 3 rfl) ?_
                      refine lv_istore_n (lv' := [(2, .int (iI f)), (7, .int (iI 0)), (6, .int (iI xw)), (5, .int (iI (mLn hps h.toNat))), (3, .int (iI lt)), (4, .int (iI h)), (0, .ref z), (1, .int (iI how))]) hc.1 hc.2.1 dX9_nextLength_114 rfl hl (by decide) rfl (fun ls hl => ?_)
                      refine lv_iload hc.1 hc.2.1 dX9_nextLength_115 (lv_at hl 1 rfl) ?_
                      refine nn_if_eq hc dX9_nextLength_117 (tgt := 125) (by decide) (by decide) (fun c39 => ?_) (fun c39 => ?_)
                      · refine lv_iload_n hc.1 hc.2.1 dX9_nextLength_125 rfl (lv_at hl 4 rfl) ?_
                        refine lv_istore_n (lv' := [(3, .int (iI lt)), (2, .int (iI f)), (7, .int (iI 0)), (6, .int (iI xw)), (5, .int (iI (mLn hps h.toNat))), (4, .int (iI h)), (0, .ref z), (1, .int (iI how))]) hc.1 hc.2.1 dX9_nextLength_126 rfl hl (by decide) rfl (fun ls hl => ?_)
                        refine lv_aload_n hc.1 hc.2.1 dX9_nextLength_127 rfl (lv_at hl 6 rfl) ?_
                        refine nn_Vs (As := []) (st := []) hc hw hS14_0 rfl (c_X9_takeUp l g  hS14_0 hS14_1 (hM0) (goodR_push hR hbr1 (by omega) (by omega) m8.1 m6 hly9) (hS2)) (cwV 0 hc.2.2.2.2 gX9_nextLength_X9_takeUp rfl rfl rfl (by decide +kernel) ⟨Nat.le_of_ble_eq_true rfl, Nat.le_of_ble_eq_true rfl⟩) rfl hl.1 rfl (Nat.le_of_ble_eq_true rfl) ⟨Nat.le_of_ble_eq_true rfl, Nat.le_of_ble_eq_true rfl⟩ dX9_nextLength_128 (fun vr n1 S40 H locs qS40 hw => ?_)
                        obtain ⟨kw9_41, rfl, rfl, hS40_0, kS40_0, fS40⟩ := qS40
                        refine W.eq (g2 := F0 m 131 ls []) rfl ?_
                        refine nn_iinc (lv' := [(4, .int (iI (h + 1))), (3, .int (iI lt)), (2, .int (iI f)), (7, .int (iI 0)), (6, .int (iI xw)), (5, .int (iI (mLn hps h.toNat))), (0, .ref z), (1, .int (iI how))]) hc dX9_nextLength_131 hl (k0 := 5) rfl (by decide) rfl (fun ls hl => ?_)
                        refine lv_goto hc.1 hc.2.1 dX9_nextLength_134 (tgt := 8) (by decide) ?_
                        have e42 : S40 z = oO 9 [.ref (z + 1), .int (iI mLen), .int (iI mAt), .ref (z + 2), .ref (z + 3), .ref (z + 4), .ref (z + 5), .int (iI mHC), .int (iI mRC), .ref (z + 6), .ref (z + 7), .ref (z + 8), .int (iI mHS), .ref (z + 9), .ref (z + 10), .int (iI jc9_17), .int (iI ch9_18), .int (iI vi9_19)] := (fS40 z (off_nl (x := z) (a := 6) (by decide))).trans hS14_0
                        have e43 : S40 (z + 10) = oI g 60 jf9_15 := (fS40 (z + 10) (off_ne (x := z) (a := 10) (b := 6) (by decide))).trans hS14_2
                        exact ih8 f lt (h + 1) kw9_41 jf9_15 jc9_17 ch9_18 vi9_19 S40 _ _ _ (by omega) (mS_cg kS40_0 (fun i hi => by show rs i + (-1) * cntH sl9 i + cntH sl9 i = rs i; omega)) (by first | exact hf.trans (congrArg Prod.fst hstep).symm | exact (congrArg Prod.fst hstep).symm) (by first | exact hlt.trans (congrArg (fun q => q.2.1) hstep).symm | exact (congrArg (fun q => q.2.1) hstep).symm) e42 hS40_0 e43 (fun bb hb0 hb1 hb2 => (((fS40 bb hb1)).trans (fS14 bb hb0 hb1 hb2)).trans (fr8 bb hb0 hb1 hb2)) hw (by omega) (lv_sub hl [2, 1, 0, 6, 7] rfl)
                      · exact absurd c39 (by decide)
                    · exact absurd c38 (by decide)
                  · have hcc : (chG mHC.toNat (mLn hps) (mBr hps) (stg 2) (stg 1) (stg 4) (stg 3) how rs (tpL rows) (hdR (stg 2) rows rows.length) (tpS rows) h.toNat).1 = -4 ∨ (how = 0 ∧ wst (mBr hps) (mLn hps h.toNat) sl9 * (chG mHC.toNat (mLn hps) (mBr hps) (stg 2) (stg 1) (stg 4) (stg 3) how rs (tpL rows) (hdR (stg 2) rows rows.length) (tpS rows) h.toNat).2.2 < (chG mHC.toNat (mLn hps) (mBr hps) (stg 2) (stg 1) (stg 4) (stg 3) how rs (tpL rows) (hdR (stg 2) rows rows.length) (tpS rows) h.toNat).2.1 * ((mLn hps h.toNat - stg 2) / 2)) := Or.inr ⟨by omega, by rw [hwx, hwy]; omega⟩
                    have hxe : xw = wst (mBr hps) (mLn hps h.toNat) sl9 := exw
                    have hstep : chG mHC.toNat (mLn hps) (mBr hps) (stg 2) (stg 1) (stg 4) (stg 3) how rs (tpL rows) (hdR (stg 2) rows rows.length) (tpS rows) (h + 1).toNat = (mLn hps h.toNat, xw, (mLn hps h.toNat - stg 2) / 2) := by rw [toNat_succ (by omega), hxe]; exact chG_take (isN_iff.mpr ⟨by rw [show h.toNat - 1 = (h - 1).toNat by omega]; omega, by omega⟩) (layR_some hly9).2 hcc
                    refine nn_iconst hc dX9_nextLength_96 ?_
                    refine lv_goto hc.1 hc.2.1 dX9_nextLength_97 (tgt := 101) (by decide) ?_
                    refine lv_istore (lv' := [(7, .int (iI 1)), (6, .int (iI xw)), (5, .int (iI (mLn hps h.toNat))), (2, .int (iI f)), (3, .int (iI lt)), (4, .int (iI h)), (0, .ref z), (1, .int (iI how))]) hc.1 hc.2.1 dX9_nextLength_101 hl (by decide) rfl (fun ls hl => ?_)
                    refine lv_iload hc.1 hc.2.1 dX9_nextLength_103 (lv_at hl 0 rfl) ?_
                    refine nn_if_eq hc dX9_nextLength_105 (tgt := 113) (by decide) (by decide) (fun c44 => ?_) (fun c44 => ?_)
                    · exact absurd c44 (by decide)
                    · refine lv_iload hc.1 hc.2.1 dX9_nextLength_108 (lv_at hl 2 rfl) ?_
                      refine lv_goto hc.1 hc.2.1 dX9_nextLength_110 (tgt := 114) (by decide) ?_
                      refine lv_istore_n (lv' := [(2, .int (iI (mLn hps h.toNat))), (7, .int (iI 1)), (6, .int (iI xw)), (5, .int (iI (mLn hps h.toNat))), (3, .int (iI lt)), (4, .int (iI h)), (0, .ref z), (1, .int (iI how))]) hc.1 hc.2.1 dX9_nextLength_114 rfl hl (by decide) rfl (fun ls hl => ?_)
                      refine lv_iload hc.1 hc.2.1 dX9_nextLength_115 (lv_at hl 1 rfl) ?_
                      refine nn_if_eq hc dX9_nextLength_117 (tgt := 125) (by decide) (by decide) (fun c45 => ?_) (fun c45 => ?_)
                      · exact absurd c45 (by decide)
                      · refine lv_iload hc.1 hc.2.1 dX9_nextLength_120 (lv_at hl 2 rfl) ?_
                        refine lv_goto hc.1 hc.2.1 dX9_nextLength_122 (tgt := 126) (by decide) ?_
                        refine lv_istore_n (lv' := [(3, .int (iI xw)), (2, .int (iI (mLn hps h.toNat))), (7, .int (iI 1)), (6, .int (iI xw)), (5, .int (iI (mLn hps h.toNat))), (4, .int (iI h)), (0, .ref z), (1, .int (iI how))]) hc.1 hc.2.1 dX9_nextLength_126 rfl hl (by decide) rfl (fun ls hl => ?_)
                        refine lv_aload_n hc.1 hc.2.1 dX9_nextLength_127 rfl (lv_at hl 6 rfl) ?_
                        refine nn_Vs (As := []) (st := []) hc hw hS14_0 rfl (c_X9_takeUp l g  hS14_0 hS14_1 (hM0) (goodR_push hR hbr1 (by omega) (by omega) m8.1 m6 hly9) (hS2)) (cwV 0 hc.2.2.2.2 gX9_nextLength_X9_takeUp rfl rfl rfl (by decide +kernel) ⟨Nat.le_of_ble_eq_true rfl, Nat.le_of_ble_eq_true rfl⟩) rfl hl.1 rfl (Nat.le_of_ble_eq_true rfl) ⟨Nat.le_of_ble_eq_true rfl, Nat.le_of_ble_eq_true rfl⟩ dX9_nextLength_128 (fun vr n1 S46 H locs qS46 hw => ?_)
                        obtain ⟨kw9_47, rfl, rfl, hS46_0, kS46_0, fS46⟩ := qS46
                        refine W.eq (g2 := F0 m 131 ls []) rfl ?_
                        refine nn_iinc (lv' := [(4, .int (iI (h + 1))), (3, .int (iI xw)), (2, .int (iI (mLn hps h.toNat))), (7, .int (iI 1)), (6, .int (iI xw)), (5, .int (iI (mLn hps h.toNat))), (0, .ref z), (1, .int (iI how))]) hc dX9_nextLength_131 hl (k0 := 5) rfl (by decide) rfl (fun ls hl => ?_)
                        refine lv_goto hc.1 hc.2.1 dX9_nextLength_134 (tgt := 8) (by decide) ?_
                        have e48 : S46 z = oO 9 [.ref (z + 1), .int (iI mLen), .int (iI mAt), .ref (z + 2), .ref (z + 3), .ref (z + 4), .ref (z + 5), .int (iI mHC), .int (iI mRC), .ref (z + 6), .ref (z + 7), .ref (z + 8), .int (iI mHS), .ref (z + 9), .ref (z + 10), .int (iI jc9_17), .int (iI ch9_18), .int (iI vi9_19)] := (fS46 z (off_nl (x := z) (a := 6) (by decide))).trans hS14_0
                        have e49 : S46 (z + 10) = oI g 60 jf9_15 := (fS46 (z + 10) (off_ne (x := z) (a := 10) (b := 6) (by decide))).trans hS14_2
                        exact ih8 (mLn hps h.toNat) xw (h + 1) kw9_47 jf9_15 jc9_17 ch9_18 vi9_19 S46 _ _ _ (by omega) (mS_cg kS46_0 (fun i hi => by show rs i + (-1) * cntH sl9 i + cntH sl9 i = rs i; omega)) (by first | exact hf.trans (congrArg Prod.fst hstep).symm | exact (congrArg Prod.fst hstep).symm) (by first | exact hlt.trans (congrArg (fun q => q.2.1) hstep).symm | exact (congrArg (fun q => q.2.1) hstep).symm) e48 hS46_0 e49 (fun bb hb0 hb1 hb2 => (((fS46 bb hb1)).trans (fS14 bb hb0 hb1 hb2)).trans (fr8 bb hb0 hb1 hb2)) hw (by omega) (lv_sub hl [2, 1, 0, 6, 7] rfl)
        · have hl2 := hln1 (h - 1).toNat (by omega)
          refine lv_iload hc.1 hc.2.1 dX9_nextLength_30 (lv_at hl 0 rfl) ?_
          refine lv_aload_n hc.1 hc.2.1 dX9_nextLength_32 rfl (lv_at hl 4 rfl) ?_
          refine lv_iload hc.1 hc.2.1 dX9_nextLength_33 (lv_at hl 3 rfl) ?_
          refine nn_iconst hc dX9_nextLength_35 ?_
          refine nn_isub hc dX9_nextLength_36 ?_
          refine nn_Vp (As := [.int (iI (h - 1))]) (st := [.int (iI (mLn hps h.toNat))]) hc hw hc8_0 rfl (c_X9_heapLength l g  hc8_0 e3 (by omega)) (cwV 1 hc.2.2.2.2 gX9_nextLength_X9_heapLength rfl rfl rfl (by decide +kernel) ⟨Nat.le_of_ble_eq_true rfl, Nat.le_of_ble_eq_true rfl⟩) rfl hl.1 rfl (Nat.le_of_ble_eq_true rfl) ⟨Nat.le_of_ble_eq_true rfl, Nat.le_of_ble_eq_true rfl⟩ dX9_nextLength_37 ?_
          refine W.eq (g2 := F0 m 40 ls [.int (iI (mLn hps (h - 1).toNat)), .int (iI (mLn hps h.toNat))]) rfl ?_
          refine nn_icmp_eq hc dX9_nextLength_40 (tgt := 131) (by decide) (by omega) (by omega) (fun c50 => ?_) (fun c50 => ?_)
          · have hstep : chG mHC.toNat (mLn hps) (mBr hps) (stg 2) (stg 1) (stg 4) (stg 3) how rs (tpL rows) (hdR (stg 2) rows rows.length) (tpS rows) (h + 1).toNat = chG mHC.toNat (mLn hps) (mBr hps) (stg 2) (stg 1) (stg 4) (stg 3) how rs (tpL rows) (hdR (stg 2) rows rows.length) (tpS rows) h.toNat := by rw [toNat_succ (by omega)]; exact chG_skip (b_no isN_iff (fun q9 => by have h7 := q9.1; rw [show h.toNat - 1 = (h - 1).toNat by omega] at h7; omega))
            refine nn_iinc (lv' := [(4, .int (iI (h + 1))), (5, .int (iI (mLn hps h.toNat))), (2, .int (iI f)), (3, .int (iI lt)), (0, .ref z), (1, .int (iI how))]) hc dX9_nextLength_131 hl (k0 := 3) rfl (by decide) rfl (fun ls hl => ?_)
            refine lv_goto hc.1 hc.2.1 dX9_nextLength_134 (tgt := 8) (by decide) ?_
            exact ih8 f lt (h + 1) kw jf jc ch vi S1 _ _ _ (by omega) (hS1) (by first | exact hf.trans (congrArg Prod.fst hstep).symm | exact (congrArg Prod.fst hstep).symm) (by first | exact hlt.trans (congrArg (fun q => q.2.1) hstep).symm | exact (congrArg (fun q => q.2.1) hstep).symm) hc8_0 hc8_1 hc8_2 (fun bb hb0 hb1 hb2 => (fr8 bb hb0 hb1 hb2)) hw (by omega) (lv_sub hl [2, 3, 0, 4, 5] rfl)
          · refine lv_aload_n hc.1 hc.2.1 dX9_nextLength_43 rfl (lv_at hl 4 rfl) ?_
            refine lv_iload hc.1 hc.2.1 dX9_nextLength_44 (lv_at hl 0 rfl) ?_
            rcases opt_cases (layR mHC.toNat (mLn hps) (mBr hps) (stg 0) (stg 2) (stg 1) (stg 4) (stg 3) rs rows (mLn hps h.toNat)) with hly9 | ⟨sl9, hly9⟩
            · have hstep : chG mHC.toNat (mLn hps) (mBr hps) (stg 2) (stg 1) (stg 4) (stg 3) how rs (tpL rows) (hdR (stg 2) rows rows.length) (tpS rows) (h + 1).toNat = chG mHC.toNat (mLn hps) (mBr hps) (stg 2) (stg 1) (stg 4) (stg 3) how rs (tpL rows) (hdR (stg 2) rows rows.length) (tpS rows) h.toNat := by rw [toNat_succ (by omega)]; rcases layR_none hly9 with q9 | q9; exact chG_skip (b_no isN_iff (fun q8 => q9 ⟨hop.1, hop.2, q8.2⟩)); exact chG_none q9
              have e51 : S1 (z + 2) = oI g 5 stg := (fr8 (z + 2) (off_nr (x := z) (a := 2) (by decide)) (off_ne (x := z) (a := 2) (b := 6) (by decide)) (off_ne (x := z) (a := 2) (b := 10) (by decide))).trans hst
              refine nn_Vs (As := [.int (iI (mLn hps h.toNat))]) (st := []) hc hw hc8_0 rfl (c_X9_layCourse_no l g  hc8_0 e51 e3 hc8_1 hc8_2 (hM0) (hR) (hS1) (by omega) (hly9)) (cwV 1 hc.2.2.2.2 gX9_nextLength_X9_layCourse rfl rfl rfl (by decide +kernel) ⟨Nat.le_of_ble_eq_true rfl, Nat.le_of_ble_eq_true rfl⟩) rfl hl.1 rfl (Nat.le_of_ble_eq_true rfl) ⟨Nat.le_of_ble_eq_true rfl, Nat.le_of_ble_eq_true rfl⟩ dX9_nextLength_46 (fun vr n1 S52 H locs qS52 hw => ?_)
              obtain ⟨jf9_53, kw9_54, jc9_55, ch9_56, vi9_57, rfl, rfl, hS52_0, hS52_1, hS52_2, kS52_0, fS52⟩ := qS52
              refine W.eq (g2 := F0 m 49 ls [.int (iI 0)]) rfl ?_
              refine nn_if_eq hc dX9_nextLength_49 (tgt := 131) (by decide) (by decide) (fun c58 => ?_) (fun c58 => ?_)
              · refine nn_iinc (lv' := [(4, .int (iI (h + 1))), (5, .int (iI (mLn hps h.toNat))), (2, .int (iI f)), (3, .int (iI lt)), (0, .ref z), (1, .int (iI how))]) hc dX9_nextLength_131 hl (k0 := 3) rfl (by decide) rfl (fun ls hl => ?_)
                refine lv_goto hc.1 hc.2.1 dX9_nextLength_134 (tgt := 8) (by decide) ?_
                exact ih8 f lt (h + 1) kw9_54 jf9_53 jc9_55 ch9_56 vi9_57 S52 _ _ _ (by omega) (kS52_0) (by first | exact hf.trans (congrArg Prod.fst hstep).symm | exact (congrArg Prod.fst hstep).symm) (by first | exact hlt.trans (congrArg (fun q => q.2.1) hstep).symm | exact (congrArg (fun q => q.2.1) hstep).symm) hS52_0 hS52_1 hS52_2 (fun bb hb0 hb1 hb2 => ((fS52 bb hb0 hb1 hb2)).trans (fr8 bb hb0 hb1 hb2)) hw (by omega) (lv_sub hl [2, 3, 0, 4, 5] rfl)
              · exact absurd c58 (by decide)
            · have e59 : S1 (z + 2) = oI g 5 stg := (fr8 (z + 2) (off_nr (x := z) (a := 2) (by decide)) (off_ne (x := z) (a := 2) (b := 6) (by decide)) (off_ne (x := z) (a := 2) (b := 10) (by decide))).trans hst
              refine nn_Vs (As := [.int (iI (mLn hps h.toNat))]) (st := []) hc hw hc8_0 rfl (c_X9_layCourse_yes l g  hc8_0 e59 e3 hc8_1 hc8_2 (hM0) (hR) (hS1) (by omega) (hly9)) (cwV 1 hc.2.2.2.2 gX9_nextLength_X9_layCourse rfl rfl rfl (by decide +kernel) ⟨Nat.le_of_ble_eq_true rfl, Nat.le_of_ble_eq_true rfl⟩) rfl hl.1 rfl (Nat.le_of_ble_eq_true rfl) ⟨Nat.le_of_ble_eq_true rfl, Nat.le_of_ble_eq_true rfl⟩ dX9_nextLength_46 (fun vr n1 S60 H locs qS60 hw => ?_)
              obtain ⟨jf9_61, kw9_62, jc9_63, ch9_64, vi9_65, rfl, rfl, hS60_0, hS60_1, hS60_2, kS60_0, fS60⟩ := qS60
              refine W.eq (g2 := F0 m 49 ls [.int (iI 1)]) rfl ?_
              refine nn_if_eq hc dX9_nextLength_49 (tgt := 131) (by decide) (by decide) (fun c66 => ?_) (fun c66 => ?_)
              · exact absurd c66 (by decide)
              · have hS2 := kS60_0
                have h82 := hS2.2.1
                rw [len_sn] at h82
                have hly3 := layC_good hbr1 (layR_some hly9).2
                have hop9 := (layR_some hly9).1
                have hrw := hS2.2.2 rows.length (by rw [len_sn]; omega)
                rw [rL_at, rS_at] at hrw
                have hwr := wst_rng hbr2 (by omega : 0 ≤ mLn hps h.toNat ∧ mLn hps h.toNat ≤ 60) sl9 hly3.1
                have hcok := fun (_ : Unit) => chG_ok (br := mBr hps) (lp := stg 2) (wi := stg 1) (hp := stg 4) (bk := stg 3) (how := how) (lv := rs) (bL := tpL rows) (hd := hdR (stg 2) rows rows.length) (bs := tpS rows) hln1 (n := h.toNat) (by omega)
                have hfr0 : f = -4 ∨ (20 ≤ f ∧ f ≤ 60) := by rw [hf]; rcases hcok () with q9 | ⟨s9, h9, q1, q2, -⟩; exact Or.inl q9; exact Or.inr (by rw [q2]; exact hln1 h9 (by omega))
                refine lv_aload_n hc.1 hc.2.1 dX9_nextLength_52 rfl (lv_at hl 4 rfl) ?_
                refine lv_aload_n hc.1 hc.2.1 dX9_nextLength_53 rfl (lv_at hl 4 rfl) ?_
                refine nn_get hc hw hS60_0 hiX9 rfl 9 (by decide) rfl lk25 dX9_nextLength_54 ?_
                refine nn_bipush hc dX9_nextLength_57 (by decide +kernel) ?_
                refine nn_iald hc hw hS60_1 (by omega) (by omega) dX9_nextLength_59 ?_
                refine W.eq (g2 := F0 m 60 ls [.int (iI (kw9_62 8)), .ref z]) rfl ?_
                refine nn_iconst hc dX9_nextLength_60 ?_
                refine nn_isub hc dX9_nextLength_61 ?_
                have e67 : S60 (z + 4) = oI g 24 hps := (fS60 (z + 4) (off_nr (x := z) (a := 4) (by decide)) (off_ne (x := z) (a := 4) (b := 6) (by decide)) (off_ne (x := z) (a := 4) (b := 10) (by decide))).trans e3
                refine nn_Vp (As := [.int (iI ((kw9_62 8) - 1))]) (st := []) hc hw hS60_0 rfl (c_X9_waste l g  hS60_0 hS60_1 e67 (by omega) (by rw [h82, show (((rows.length + 1 : Nat) : Int) - 1).toNat = rows.length by omega]; exact hrw) (hly3.1) (hly3.2.1.1) (by omega) (hbr2)) (cwV 1 hc.2.2.2.2 gX9_nextLength_X9_waste rfl rfl rfl (by decide +kernel) ⟨Nat.le_of_ble_eq_true rfl, Nat.le_of_ble_eq_true rfl⟩) rfl hl.1 rfl (Nat.le_of_ble_eq_true rfl) ⟨Nat.le_of_ble_eq_true rfl, Nat.le_of_ble_eq_true rfl⟩ dX9_nextLength_62 ?_
                refine W.eq (g2 := F0 m 65 ls [.int (iI (wst (mBr hps) (mLn hps h.toNat) sl9))]) rfl ?_
                refine nn_name (fun xw exw => ?_)
                refine lv_istore (lv' := [(6, .int (iI xw)), (5, .int (iI (mLn hps h.toNat))), (2, .int (iI f)), (3, .int (iI lt)), (4, .int (iI h)), (0, .ref z), (1, .int (iI how))]) hc.1 hc.2.1 dX9_nextLength_65 hl (by decide) rfl (fun ls hl => ?_)
                refine lv_iload_n hc.1 hc.2.1 dX9_nextLength_67 rfl (lv_at hl 2 rfl) ?_
                refine nn_bipush hc dX9_nextLength_68 (by decide +kernel) ?_
                refine nn_icmp_eq hc dX9_nextLength_70 (tgt := 96) (by decide) (by omega) (by decide) (fun c68 => ?_) (fun c68 => ?_)
                · have hcc : (chG mHC.toNat (mLn hps) (mBr hps) (stg 2) (stg 1) (stg 4) (stg 3) how rs (tpL rows) (hdR (stg 2) rows rows.length) (tpS rows) h.toNat).1 = -4 ∨ (how = 0 ∧ wst (mBr hps) (mLn hps h.toNat) sl9 * (chG mHC.toNat (mLn hps) (mBr hps) (stg 2) (stg 1) (stg 4) (stg 3) how rs (tpL rows) (hdR (stg 2) rows rows.length) (tpS rows) h.toNat).2.2 < (chG mHC.toNat (mLn hps) (mBr hps) (stg 2) (stg 1) (stg 4) (stg 3) how rs (tpL rows) (hdR (stg 2) rows rows.length) (tpS rows) h.toNat).2.1 * ((mLn hps h.toNat - stg 2) / 2)) := Or.inl (by omega)
                  have hxe : xw = wst (mBr hps) (mLn hps h.toNat) sl9 := exw
                  have hstep : chG mHC.toNat (mLn hps) (mBr hps) (stg 2) (stg 1) (stg 4) (stg 3) how rs (tpL rows) (hdR (stg 2) rows rows.length) (tpS rows) (h + 1).toNat = (mLn hps h.toNat, xw, (mLn hps h.toNat - stg 2) / 2) := by rw [toNat_succ (by omega), hxe]; exact chG_take (isN_iff.mpr ⟨by rw [show h.toNat - 1 = (h - 1).toNat by omega]; omega, by omega⟩) (layR_some hly9).2 hcc
                  refine nn_iconst hc dX9_nextLength_96 ?_
                  refine lv_goto hc.1 hc.2.1 dX9_nextLength_97 (tgt := 101) (by decide) ?_
                  refine lv_istore (lv' := [(7, .int (iI 1)), (6, .int (iI xw)), (5, .int (iI (mLn hps h.toNat))), (2, .int (iI f)), (3, .int (iI lt)), (4, .int (iI h)), (0, .ref z), (1, .int (iI how))]) hc.1 hc.2.1 dX9_nextLength_101 hl (by decide) rfl (fun ls hl => ?_)
                  refine lv_iload hc.1 hc.2.1 dX9_nextLength_103 (lv_at hl 0 rfl) ?_
                  refine nn_if_eq hc dX9_nextLength_105 (tgt := 113) (by decide) (by decide) (fun c69 => ?_) (fun c69 => ?_)
                  · exact absurd c69 (by decide)
                  · refine lv_iload hc.1 hc.2.1 dX9_nextLength_108 (lv_at hl 2 rfl) ?_
                    refine lv_goto hc.1 hc.2.1 dX9_nextLength_110 (tgt := 114) (by decide) ?_
                    refine lv_istore_n (lv' := [(2, .int (iI (mLn hps h.toNat))), (7, .int (iI 1)), (6, .int (iI xw)), (5, .int (iI (mLn hps h.toNat))), (3, .int (iI lt)), (4, .int (iI h)), (0, .ref z), (1, .int (iI how))]) hc.1 hc.2.1 dX9_nextLength_114 rfl hl (by decide) rfl (fun ls hl => ?_)
                    refine lv_iload hc.1 hc.2.1 dX9_nextLength_115 (lv_at hl 1 rfl) ?_
                    refine nn_if_eq hc dX9_nextLength_117 (tgt := 125) (by decide) (by decide) (fun c70 => ?_) (fun c70 => ?_)
                    · exact absurd c70 (by decide)
                    · refine lv_iload hc.1 hc.2.1 dX9_nextLength_120 (lv_at hl 2 rfl) ?_
                      refine lv_goto hc.1 hc.2.1 dX9_nextLength_122 (tgt := 126) (by decide) ?_
                      refine lv_istore_n (lv' := [(3, .int (iI xw)), (2, .int (iI (mLn hps h.toNat))), (7, .int (iI 1)), (6, .int (iI xw)), (5, .int (iI (mLn hps h.toNat))), (4, .int (iI h)), (0, .ref z), (1, .int (iI how))]) hc.1 hc.2.1 dX9_nextLength_126 rfl hl (by decide) rfl (fun ls hl => ?_)
                      refine lv_aload_n hc.1 hc.2.1 dX9_nextLength_127 rfl (lv_at hl 6 rfl) ?_
                      refine nn_Vs (As := []) (st := []) hc hw hS60_0 rfl (c_X9_takeUp l g  hS60_0 hS60_1 (hM0) (goodR_push hR hbr1 (by omega) (by omega) m8.1 m6 hly9) (hS2)) (cwV 0 hc.2.2.2.2 gX9_nextLength_X9_takeUp rfl rfl rfl (by decide +kernel) ⟨Nat.le_of_ble_eq_true rfl, Nat.le_of_ble_eq_true rfl⟩) rfl hl.1 rfl (Nat.le_of_ble_eq_true rfl) ⟨Nat.le_of_ble_eq_true rfl, Nat.le_of_ble_eq_true rfl⟩ dX9_nextLength_128 (fun vr n1 S71 H locs qS71 hw => ?_)
                      obtain ⟨kw9_72, rfl, rfl, hS71_0, kS71_0, fS71⟩ := qS71
                      refine W.eq (g2 := F0 m 131 ls []) rfl ?_
                      refine nn_iinc (lv' := [(4, .int (iI (h + 1))), (3, .int (iI xw)), (2, .int (iI (mLn hps h.toNat))), (7, .int (iI 1)), (6, .int (iI xw)), (5, .int (iI (mLn hps h.toNat))), (0, .ref z), (1, .int (iI how))]) hc dX9_nextLength_131 hl (k0 := 5) rfl (by decide) rfl (fun ls hl => ?_)
                      refine lv_goto hc.1 hc.2.1 dX9_nextLength_134 (tgt := 8) (by decide) ?_
                      have e73 : S71 z = oO 9 [.ref (z + 1), .int (iI mLen), .int (iI mAt), .ref (z + 2), .ref (z + 3), .ref (z + 4), .ref (z + 5), .int (iI mHC), .int (iI mRC), .ref (z + 6), .ref (z + 7), .ref (z + 8), .int (iI mHS), .ref (z + 9), .ref (z + 10), .int (iI jc9_63), .int (iI ch9_64), .int (iI vi9_65)] := (fS71 z (off_nl (x := z) (a := 6) (by decide))).trans hS60_0
                      have e74 : S71 (z + 10) = oI g 60 jf9_61 := (fS71 (z + 10) (off_ne (x := z) (a := 10) (b := 6) (by decide))).trans hS60_2
                      exact ih8 (mLn hps h.toNat) xw (h + 1) kw9_72 jf9_61 jc9_63 ch9_64 vi9_65 S71 _ _ _ (by omega) (mS_cg kS71_0 (fun i hi => by show rs i + (-1) * cntH sl9 i + cntH sl9 i = rs i; omega)) (by first | exact hf.trans (congrArg Prod.fst hstep).symm | exact (congrArg Prod.fst hstep).symm) (by first | exact hlt.trans (congrArg (fun q => q.2.1) hstep).symm | exact (congrArg (fun q => q.2.1) hstep).symm) e73 hS71_0 e74 (fun bb hb0 hb1 hb2 => (((fS71 bb hb1)).trans (fS60 bb hb0 hb1 hb2)).trans (fr8 bb hb0 hb1 hb2)) hw (by omega) (lv_sub hl [2, 1, 0, 6, 7] rfl)
                · refine lv_iload_n hc.1 hc.2.1 dX9_nextLength_73 rfl (lv_at hl 6 rfl) ?_
                  refine nn_if_ne hc dX9_nextLength_74 (tgt := 100) (by decide) (by omega) (fun c75 => ?_) (fun c75 => ?_)
                  · have hcc : ¬ ((chG mHC.toNat (mLn hps) (mBr hps) (stg 2) (stg 1) (stg 4) (stg 3) how rs (tpL rows) (hdR (stg 2) rows rows.length) (tpS rows) h.toNat).1 = -4 ∨ (how = 0 ∧ wst (mBr hps) (mLn hps h.toNat) sl9 * (chG mHC.toNat (mLn hps) (mBr hps) (stg 2) (stg 1) (stg 4) (stg 3) how rs (tpL rows) (hdR (stg 2) rows rows.length) (tpS rows) h.toNat).2.2 < (chG mHC.toNat (mLn hps) (mBr hps) (stg 2) (stg 1) (stg 4) (stg 3) how rs (tpL rows) (hdR (stg 2) rows rows.length) (tpS rows) h.toNat).2.1 * ((mLn hps h.toNat - stg 2) / 2))) := fun q9 => by rcases q9 with q8 | q8; omega; omega
                    have hstep : chG mHC.toNat (mLn hps) (mBr hps) (stg 2) (stg 1) (stg 4) (stg 3) how rs (tpL rows) (hdR (stg 2) rows rows.length) (tpS rows) (h + 1).toNat = chG mHC.toNat (mLn hps) (mBr hps) (stg 2) (stg 1) (stg 4) (stg 3) how rs (tpL rows) (hdR (stg 2) rows rows.length) (tpS rows) h.toNat := by rw [toNat_succ (by omega)]; exact chG_keep (layR_some hly9).2 hcc
                    refine nn_iconst hc dX9_nextLength_100 ?_
                    refine lv_istore (lv' := [(7, .int (iI 0)), (6, .int (iI xw)), (5, .int (iI (mLn hps h.toNat))), (2, .int (iI f)), (3, .int (iI lt)), (4, .int (iI h)), (0, .ref z), (1, .int (iI how))]) hc.1 hc.2.1 dX9_nextLength_101 hl (by decide) rfl (fun ls hl => ?_)
                    refine lv_iload hc.1 hc.2.1 dX9_nextLength_103 (lv_at hl 0 rfl) ?_
                    refine nn_if_eq hc dX9_nextLength_105 (tgt := 113) (by decide) (by decide) (fun c76 => ?_) (fun c76 => ?_)
                    · refine lv_iload_n hc.1 hc.2.1 dX9_nextLength_113 rfl (lv_at hl 3 rfl) ?_
                      refine lv_istore_n (lv' := [(2, .int (iI f)), (7, .int (iI 0)), (6, .int (iI xw)), (5, .int (iI (mLn hps h.toNat))), (3, .int (iI lt)), (4, .int (iI h)), (0, .ref z), (1, .int (iI how))]) hc.1 hc.2.1 dX9_nextLength_114 rfl hl (by decide) rfl (fun ls hl => ?_)
                      refine lv_iload hc.1 hc.2.1 dX9_nextLength_115 (lv_at hl 1 rfl) ?_
                      refine nn_if_eq hc dX9_nextLength_117 (tgt := 125) (by decide) (by decide) (fun c77 => ?_) (fun c77 => ?_)
                      · refine lv_iload_n hc.1 hc.2.1 dX9_nextLength_125 rfl (lv_at hl 4 rfl) ?_
                        refine lv_istore_n (lv' := [(3, .int (iI lt)), (2, .int (iI f)), (7, .int (iI 0)), (6, .int (iI xw)), (5, .int (iI (mLn hps h.toNat))), (4, .int (iI h)), (0, .ref z), (1, .int (iI how))]) hc.1 hc.2.1 dX9_nextLength_126 rfl hl (by decide) rfl (fun ls hl => ?_)
                        refine lv_aload_n hc.1 hc.2.1 dX9_nextLength_127 rfl (lv_at hl 6 rfl) ?_
                        refine nn_Vs (As := []) (st := []) hc hw hS60_0 rfl (c_X9_takeUp l g  hS60_0 hS60_1 (hM0) (goodR_push hR hbr1 (by omega) (by omega) m8.1 m6 hly9) (hS2)) (cwV 0 hc.2.2.2.2 gX9_nextLength_X9_takeUp rfl rfl rfl (by decide +kernel) ⟨Nat.le_of_ble_eq_true rfl, Nat.le_of_ble_eq_true rfl⟩) rfl hl.1 rfl (Nat.le_of_ble_eq_true rfl) ⟨Nat.le_of_ble_eq_true rfl, Nat.le_of_ble_eq_true rfl⟩ dX9_nextLength_128 (fun vr n1 S78 H locs qS78 hw => ?_)
                        obtain ⟨kw9_79, rfl, rfl, hS78_0, kS78_0, fS78⟩ := qS78
                        refine W.eq (g2 := F0 m 131 ls []) rfl ?_
                        refine nn_iinc (lv' := [(4, .int (iI (h + 1))), (3, .int (iI lt)), (2, .int (iI f)), (7, .int (iI 0)), (6, .int (iI xw)), (5, .int (iI (mLn hps h.toNat))), (0, .ref z), (1, .int (iI how))]) hc dX9_nextLength_131 hl (k0 := 5) rfl (by decide) rfl (fun ls hl => ?_)
                        refine lv_goto hc.1 hc.2.1 dX9_nextLength_134 (tgt := 8) (by decide) ?_
                        have e80 : S78 z = oO 9 [.ref (z + 1), .int (iI mLen), .int (iI mAt), .ref (z + 2), .ref (z + 3), .ref (z + 4), .ref (z + 5), .int (iI mHC), .int (iI mRC), .ref (z + 6), .ref (z + 7), .ref (z + 8), .int (iI mHS), .ref (z + 9), .ref (z + 10), .int (iI jc9_63), .int (iI ch9_64), .int (iI vi9_65)] := (fS78 z (off_nl (x := z) (a := 6) (by decide))).trans hS60_0
                        have e81 : S78 (z + 10) = oI g 60 jf9_61 := (fS78 (z + 10) (off_ne (x := z) (a := 10) (b := 6) (by decide))).trans hS60_2
                        exact ih8 f lt (h + 1) kw9_79 jf9_61 jc9_63 ch9_64 vi9_65 S78 _ _ _ (by omega) (mS_cg kS78_0 (fun i hi => by show rs i + (-1) * cntH sl9 i + cntH sl9 i = rs i; omega)) (by first | exact hf.trans (congrArg Prod.fst hstep).symm | exact (congrArg Prod.fst hstep).symm) (by first | exact hlt.trans (congrArg (fun q => q.2.1) hstep).symm | exact (congrArg (fun q => q.2.1) hstep).symm) e80 hS78_0 e81 (fun bb hb0 hb1 hb2 => (((fS78 bb hb1)).trans (fS60 bb hb0 hb1 hb2)).trans (fr8 bb hb0 hb1 hb2)) hw (by omega) (lv_sub hl [2, 1, 0, 6, 7] rfl)
                      · exact absurd c77 (by decide)
                    · exact absurd c76 (by decide)
                  · obtain ⟨sl8, h8, k1, k2, k3, k4, k5, k6⟩ := (hcok ()).resolve_left (by omega)
                    have hl8 := hln1 h8 (by omega)
                    have hg8 := layC_good hbr1 k4
                    have hw8 := wst_rng hbr2 (by omega : 0 ≤ mLn hps h8 ∧ mLn hps h8 ≤ 60) sl8 hg8.1
                    have hfr : 20 ≤ f ∧ f ≤ 60 := by rw [hf, k2]; exact hl8
                    have hlr : 0 ≤ lt ∧ lt ≤ 216000 := by rw [hlt, k5]; omega
                    have hga : 0 ≤ (f - stg 2) / 2 ∧ (f - stg 2) / 2 ≤ 30 := by omega
                    have hgb : 0 ≤ (mLn hps h.toNat - stg 2) / 2 ∧ (mLn hps h.toNat - stg 2) / 2 ≤ 30 := by omega
                    have hp1 : 0 ≤ xw * ((f - stg 2) / 2) ∧ xw * ((f - stg 2) / 2) ≤ 216000 * 30 := ⟨Int.mul_nonneg (by omega) hga.1, Int.mul_le_mul (by omega) hga.2 hga.1 (by decide)⟩
                    have hp2 : 0 ≤ lt * ((mLn hps h.toNat - stg 2) / 2) ∧ lt * ((mLn hps h.toNat - stg 2) / 2) ≤ 216000 * 30 := ⟨Int.mul_nonneg hlr.1 hgb.1, Int.mul_le_mul hlr.2 hgb.2 hgb.1 (by decide)⟩
                    have hwx : wst (mBr hps) (mLn hps h.toNat) sl9 * (chG mHC.toNat (mLn hps) (mBr hps) (stg 2) (stg 1) (stg 4) (stg 3) how rs (tpL rows) (hdR (stg 2) rows rows.length) (tpS rows) h.toNat).2.2 = xw * ((f - stg 2) / 2) := by rw [k6, hf, k2, exw]
                    have hwy : (chG mHC.toNat (mLn hps) (mBr hps) (stg 2) (stg 1) (stg 4) (stg 3) how rs (tpL rows) (hdR (stg 2) rows rows.length) (tpS rows) h.toNat).2.1 * ((mLn hps h.toNat - stg 2) / 2) = lt * ((mLn hps h.toNat - stg 2) / 2) := by rw [hlt]
                    refine lv_iload hc.1 hc.2.1 dX9_nextLength_77 (lv_at hl 0 rfl) ?_
                    refine lv_aload_n hc.1 hc.2.1 dX9_nextLength_79 rfl (lv_at hl 5 rfl) ?_
                    refine lv_iload_n hc.1 hc.2.1 dX9_nextLength_80 rfl (lv_at hl 2 rfl) ?_
                    have e82 : S60 (z + 2) = oI g 5 stg := (fS60 (z + 2) (off_nr (x := z) (a := 2) (by decide)) (off_ne (x := z) (a := 2) (b := 6) (by decide)) (off_ne (x := z) (a := 2) (b := 10) (by decide))).trans e59
                    refine nn_Vp (As := [.int (iI f)]) (st := [.int (iI xw)]) hc hw hS60_0 rfl (c_X9_gauge l g  hS60_0 e82 (by omega)) (cwV 1 hc.2.2.2.2 gX9_nextLength_X9_gauge rfl rfl rfl (by decide +kernel) ⟨Nat.le_of_ble_eq_true rfl, Nat.le_of_ble_eq_true rfl⟩) rfl hl.1 rfl (Nat.le_of_ble_eq_true rfl) ⟨Nat.le_of_ble_eq_true rfl, Nat.le_of_ble_eq_true rfl⟩ dX9_nextLength_81 ?_
                    refine W.eq (g2 := F0 m 84 ls [.int (iI ((f - stg 2) / 2)), .int (iI xw)]) rfl ?_
                    refine nn_imul hc dX9_nextLength_84 ?_
                    refine lv_iload_n hc.1 hc.2.1 dX9_nextLength_85 rfl (lv_at hl 3 rfl) ?_
                    refine lv_aload_n hc.1 hc.2.1 dX9_nextLength_86 rfl (lv_at hl 5 rfl) ?_
                    refine lv_iload hc.1 hc.2.1 dX9_nextLength_87 (lv_at hl 1 rfl) ?_
                    refine nn_Vp (As := [.int (iI (mLn hps h.toNat))]) (st := [.int (iI lt), .int (iI (xw * ((f - stg 2) / 2)))]) hc hw hS60_0 rfl (c_X9_gauge l g  hS60_0 e82 (by omega)) (cwV 1 hc.2.2.2.2 gX9_nextLength_X9_gauge rfl rfl rfl (by decide +kernel) ⟨Nat.le_of_ble_eq_true rfl, Nat.le_of_ble_eq_true rfl⟩) rfl hl.1 rfl (Nat.le_of_ble_eq_true rfl) ⟨Nat.le_of_ble_eq_true rfl, Nat.le_of_ble_eq_true rfl⟩ dX9_nextLength_89 ?_
                    refine W.eq (g2 := F0 m 92 ls [.int (iI (((mLn hps h.toNat) - stg 2) / 2)), .int (iI lt), .int (iI (xw * ((f - stg 2) / 2)))]) rfl ?_
                    refine nn_imul hc dX9_nextLength_92 ?_
                    refine nn_icmp_ge hc dX9_nextLength_93 (tgt := 100) (by decide) (by omega) (by omega) (fun c83 => ?_) (fun c83 => ?_)
                    · have hcc : ¬ ((chG mHC.toNat (mLn hps) (mBr hps) (stg 2) (stg 1) (stg 4) (stg 3) how rs (tpL rows) (hdR (stg 2) rows rows.length) (tpS rows) h.toNat).1 = -4 ∨ (how = 0 ∧ wst (mBr hps) (mLn hps h.toNat) sl9 * (chG mHC.toNat (mLn hps) (mBr hps) (stg 2) (stg 1) (stg 4) (stg 3) how rs (tpL rows) (hdR (stg 2) rows rows.length) (tpS rows) h.toNat).2.2 < (chG mHC.toNat (mLn hps) (mBr hps) (stg 2) (stg 1) (stg 4) (stg 3) how rs (tpL rows) (hdR (stg 2) rows rows.length) (tpS rows) h.toNat).2.1 * ((mLn hps h.toNat - stg 2) / 2))) := fun q9 => by rcases q9 with q8 | q8; omega; rw [hwx, hwy] at q8; omega
                      have hstep : chG mHC.toNat (mLn hps) (mBr hps) (stg 2) (stg 1) (stg 4) (stg 3) how rs (tpL rows) (hdR (stg 2) rows rows.length) (tpS rows) (h + 1).toNat = chG mHC.toNat (mLn hps) (mBr hps) (stg 2) (stg 1) (stg 4) (stg 3) how rs (tpL rows) (hdR (stg 2) rows rows.length) (tpS rows) h.toNat := by rw [toNat_succ (by omega)]; exact chG_keep (layR_some hly9).2 hcc
                      refine nn_iconst hc dX9_nextLength_100 ?_
                      refine lv_istore (lv' := [(7, .int (iI 0)), (6, .int (iI xw)), (5, .int (iI (mLn hps h.toNat))), (2, .int (iI f)), (3, .int (iI lt)), (4, .int (iI h)), (0, .ref z), (1, .int (iI how))]) hc.1 hc.2.1 dX9_nextLength_101 hl (by decide) rfl (fun ls hl => ?_)
                      refine lv_iload hc.1 hc.2.1 dX9_nextLength_103 (lv_at hl 0 rfl) ?_
                      refine nn_if_eq hc dX9_nextLength_105 (tgt := 113) (by decide) (by decide) (fun c84 => ?_) (fun c84 => ?_)
                      · refine lv_iload_n hc.1 hc.2.1 dX9_nextLength_113 rfl (lv_at hl 3 rfl) ?_
                        refine lv_istore_n (lv' := [(2, .int (iI f)), (7, .int (iI 0)), (6, .int (iI xw)), (5, .int (iI (mLn hps h.toNat))), (3, .int (iI lt)), (4, .int (iI h)), (0, .ref z), (1, .int (iI how))]) hc.1 hc.2.1 dX9_nextLength_114 rfl hl (by decide) rfl (fun ls hl => ?_)
                        refine lv_iload hc.1 hc.2.1 dX9_nextLength_115 (lv_at hl 1 rfl) ?_
                        refine nn_if_eq hc dX9_nextLength_117 (tgt := 125) (by decide) (by decide) (fun c85 => ?_) (fun c85 => ?_)
                        · refine lv_iload_n hc.1 hc.2.1 dX9_nextLength_125 rfl (lv_at hl 4 rfl) ?_
                          refine lv_istore_n (lv' := [(3, .int (iI lt)), (2, .int (iI f)), (7, .int (iI 0)), (6, .int (iI xw)), (5, .int (iI (mLn hps h.toNat))), (4, .int (iI h)), (0, .ref z), (1, .int (iI how))]) hc.1 hc.2.1 dX9_nextLength_126 rfl hl (by decide) rfl (fun ls hl => ?_)
                          refine lv_aload_n hc.1 hc.2.1 dX9_nextLength_127 rfl (lv_at hl 6 rfl) ?_
                          refine nn_Vs (As := []) (st := []) hc hw hS60_0 rfl (c_X9_takeUp l g  hS60_0 hS60_1 (hM0) (goodR_push hR hbr1 (by omega) (by omega) m8.1 m6 hly9) (hS2)) (cwV 0 hc.2.2.2.2 gX9_nextLength_X9_takeUp rfl rfl rfl (by decide +kernel) ⟨Nat.le_of_ble_eq_true rfl, Nat.le_of_ble_eq_true rfl⟩) rfl hl.1 rfl (Nat.le_of_ble_eq_true rfl) ⟨Nat.le_of_ble_eq_true rfl, Nat.le_of_ble_eq_true rfl⟩ dX9_nextLength_128 (fun vr n1 S86 H locs qS86 hw => ?_)
                          obtain ⟨kw9_87, rfl, rfl, hS86_0, kS86_0, fS86⟩ := qS86
                          refine W.eq (g2 := F0 m 131 ls []) rfl ?_
                          refine nn_iinc (lv' := [(4, .int (iI (h + 1))), (3, .int (iI lt)), (2, .int (iI f)), (7, .int (iI 0)), (6, .int (iI xw)), (5, .int (iI (mLn hps h.toNat))), (0, .ref z), (1, .int (iI how))]) hc dX9_nextLength_131 hl (k0 := 5) rfl (by decide) rfl (fun ls hl => ?_)
                          refine lv_goto hc.1 hc.2.1 dX9_nextLength_134 (tgt := 8) (by decide) ?_
                          have e88 : S86 z = oO 9 [.ref (z + 1), .int (iI mLen), .int (iI mAt), .ref (z + 2), .ref (z + 3), .ref (z + 4), .ref (z + 5), .int (iI mHC), .int (iI mRC), .ref (z + 6), .ref (z + 7), .ref (z + 8), .int (iI mHS), .ref (z + 9), .ref (z + 10), .int (iI jc9_63), .int (iI ch9_64), .int (iI vi9_65)] := (fS86 z (off_nl (x := z) (a := 6) (by decide))).trans hS60_0
                          have e89 : S86 (z + 10) = oI g 60 jf9_61 := (fS86 (z + 10) (off_ne (x := z) (a := 10) (b := 6) (by decide))).trans hS60_2
                          exact ih8 f lt (h + 1) kw9_87 jf9_61 jc9_63 ch9_64 vi9_65 S86 _ _ _ (by omega) (mS_cg kS86_0 (fun i hi => by show rs i + (-1) * cntH sl9 i + cntH sl9 i = rs i; omega)) (by first | exact hf.trans (congrArg Prod.fst hstep).symm | exact (congrArg Prod.fst hstep).symm) (by first | exact hlt.trans (congrArg (fun q => q.2.1) hstep).symm | exact (congrArg (fun q => q.2.1) hstep).symm) e88 hS86_0 e89 (fun bb hb0 hb1 hb2 => (((fS86 bb hb1)).trans (fS60 bb hb0 hb1 hb2)).trans (fr8 bb hb0 hb1 hb2)) hw (by omega) (lv_sub hl [2, 1, 0, 6, 7] rfl)
                        · exact absurd c85 (by decide)
                      · exact absurd c84 (by decide)
                    · have hcc : (chG mHC.toNat (mLn hps) (mBr hps) (stg 2) (stg 1) (stg 4) (stg 3) how rs (tpL rows) (hdR (stg 2) rows rows.length) (tpS rows) h.toNat).1 = -4 ∨ (how = 0 ∧ wst (mBr hps) (mLn hps h.toNat) sl9 * (chG mHC.toNat (mLn hps) (mBr hps) (stg 2) (stg 1) (stg 4) (stg 3) how rs (tpL rows) (hdR (stg 2) rows rows.length) (tpS rows) h.toNat).2.2 < (chG mHC.toNat (mLn hps) (mBr hps) (stg 2) (stg 1) (stg 4) (stg 3) how rs (tpL rows) (hdR (stg 2) rows rows.length) (tpS rows) h.toNat).2.1 * ((mLn hps h.toNat - stg 2) / 2)) := Or.inr ⟨by omega, by rw [hwx, hwy]; omega⟩
                      have hxe : xw = wst (mBr hps) (mLn hps h.toNat) sl9 := exw
                      have hstep : chG mHC.toNat (mLn hps) (mBr hps) (stg 2) (stg 1) (stg 4) (stg 3) how rs (tpL rows) (hdR (stg 2) rows rows.length) (tpS rows) (h + 1).toNat = (mLn hps h.toNat, xw, (mLn hps h.toNat - stg 2) / 2) := by rw [toNat_succ (by omega), hxe]; exact chG_take (isN_iff.mpr ⟨by rw [show h.toNat - 1 = (h - 1).toNat by omega]; omega, by omega⟩) (layR_some hly9).2 hcc
                      refine nn_iconst hc dX9_nextLength_96 ?_
                      refine lv_goto hc.1 hc.2.1 dX9_nextLength_97 (tgt := 101) (by decide) ?_
                      refine lv_istore (lv' := [(7, .int (iI 1)), (6, .int (iI xw)), (5, .int (iI (mLn hps h.toNat))), (2, .int (iI f)), (3, .int (iI lt)), (4, .int (iI h)), (0, .ref z), (1, .int (iI how))]) hc.1 hc.2.1 dX9_nextLength_101 hl (by decide) rfl (fun ls hl => ?_)
                      refine lv_iload hc.1 hc.2.1 dX9_nextLength_103 (lv_at hl 0 rfl) ?_
                      refine nn_if_eq hc dX9_nextLength_105 (tgt := 113) (by decide) (by decide) (fun c90 => ?_) (fun c90 => ?_)
                      · exact absurd c90 (by decide)
                      · refine lv_iload hc.1 hc.2.1 dX9_nextLength_108 (lv_at hl 2 rfl) ?_
                        refine lv_goto hc.1 hc.2.1 dX9_nextLength_110 (tgt := 114) (by decide) ?_
                        refine lv_istore_n (lv' := [(2, .int (iI (mLn hps h.toNat))), (7, .int (iI 1)), (6, .int (iI xw)), (5, .int (iI (mLn hps h.toNat))), (3, .int (iI lt)), (4, .int (iI h)), (0, .ref z), (1, .int (iI how))]) hc.1 hc.2.1 dX9_nextLength_114 rfl hl (by decide) rfl (fun ls hl => ?_)
                        refine lv_iload hc.1 hc.2.1 dX9_nextLength_115 (lv_at hl 1 rfl) ?_
                        refine nn_if_eq hc dX9_nextLength_117 (tgt := 125) (by decide) (by decide) (fun c91 => ?_) (fun c91 => ?_)
                        · exact absurd c91 (by decide)
                        · refine lv_iload hc.1 hc.2.1 dX9_nextLength_120 (lv_at hl 2 rfl) ?_
                          refine lv_goto hc.1 hc.2.1 dX9_nextLength_122 (tgt := 126) (by decide) ?_
                          refine lv_istore_n (lv' := [(3, .int (iI xw)), (2, .int (iI (mLn hps h.toNat))), (7, .int (iI 1)), (6, .int (iI xw)), (5, .int (iI (mLn hps h.toNat))), (4, .int (iI h)), (0, .ref z), (1, .int (iI how))]) hc.1 hc.2.1 dX9_nextLength_126 rfl hl (by decide) rfl (fun ls hl => ?_)
                          refine lv_aload_n hc.1 hc.2.1 dX9_nextLength_127 rfl (lv_at hl 6 rfl) ?_
                          refine nn_Vs (As := []) (st := []) hc hw hS60_0 rfl (c_X9_takeUp l g  hS60_0 hS60_1 (hM0) (goodR_push hR hbr1 (by omega) (by omega) m8.1 m6 hly9) (hS2)) (cwV 0 hc.2.2.2.2 gX9_nextLength_X9_takeUp rfl rfl rfl (by decide +kernel) ⟨Nat.le_of_ble_eq_true rfl, Nat.le_of_ble_eq_true rfl⟩) rfl hl.1 rfl (Nat.le_of_ble_eq_true rfl) ⟨Nat.le_of_ble_eq_true rfl, Nat.le_of_ble_eq_true rfl⟩ dX9_nextLength_128 (fun vr n1 S92 H locs qS92 hw => ?_)
                          obtain ⟨kw9_93, rfl, rfl, hS92_0, kS92_0, fS92⟩ := qS92
                          refine W.eq (g2 := F0 m 131 ls []) rfl ?_
                          refine nn_iinc (lv' := [(4, .int (iI (h + 1))), (3, .int (iI xw)), (2, .int (iI (mLn hps h.toNat))), (7, .int (iI 1)), (6, .int (iI xw)), (5, .int (iI (mLn hps h.toNat))), (0, .ref z), (1, .int (iI how))]) hc dX9_nextLength_131 hl (k0 := 5) rfl (by decide) rfl (fun ls hl => ?_)
                          refine lv_goto hc.1 hc.2.1 dX9_nextLength_134 (tgt := 8) (by decide) ?_
                          have e94 : S92 z = oO 9 [.ref (z + 1), .int (iI mLen), .int (iI mAt), .ref (z + 2), .ref (z + 3), .ref (z + 4), .ref (z + 5), .int (iI mHC), .int (iI mRC), .ref (z + 6), .ref (z + 7), .ref (z + 8), .int (iI mHS), .ref (z + 9), .ref (z + 10), .int (iI jc9_63), .int (iI ch9_64), .int (iI vi9_65)] := (fS92 z (off_nl (x := z) (a := 6) (by decide))).trans hS60_0
                          have e95 : S92 (z + 10) = oI g 60 jf9_61 := (fS92 (z + 10) (off_ne (x := z) (a := 10) (b := 6) (by decide))).trans hS60_2
                          exact ih8 (mLn hps h.toNat) xw (h + 1) kw9_93 jf9_61 jc9_63 ch9_64 vi9_65 S92 _ _ _ (by omega) (mS_cg kS92_0 (fun i hi => by show rs i + (-1) * cntH sl9 i + cntH sl9 i = rs i; omega)) (by first | exact hf.trans (congrArg Prod.fst hstep).symm | exact (congrArg Prod.fst hstep).symm) (by first | exact hlt.trans (congrArg (fun q => q.2.1) hstep).symm | exact (congrArg (fun q => q.2.1) hstep).symm) e94 hS92_0 e95 (fun bb hb0 hb1 hb2 => (((fS92 bb hb1)).trans (fS60 bb hb0 hb1 hb2)).trans (fr8 bb hb0 hb1 hb2)) hw (by omega) (lv_sub hl [2, 1, 0, 6, 7] rfl)
  exact lab8 _ (-4) 0 0 nw js mJC mCh mVi S _ _ _ (by omega) (hS) (rfl) (rfl) hz hnw hjs (fun bb _ _ _ => rfl) hw (Nat.lt_succ_self _) (lv_sub hl [2, 1, 0, 3, 4] rfl)

set_option maxHeartbeats 4000000 in
set_option maxRecDepth 100000 in
theorem c_X9_nextLength_shut (l : Launch) (g : gG) {n : Nat} {S : Nat → gE} {z : Nat} {mLen mAt mHC mRC mHS mJC mCh mVi : Int} {stg hps nw js : Nat → Int} {rs : Nat → Int} {rows : rT} {how : Int} (hz : S z = oO 9 [.ref (z + 1), .int (iI mLen), .int (iI mAt), .ref (z + 2), .ref (z + 3), .ref (z + 4), .ref (z + 5), .int (iI mHC), .int (iI mRC), .ref (z + 6), .ref (z + 7), .ref (z + 8), .int (iI mHS), .ref (z + 9), .ref (z + 10), .int (iI mJC), .int (iI mCh), .int (iI mVi)]) (hst : S (z + 2) = oI g 5 stg) (hhp : S (z + 4) = oI g 24 hps) (hnw : S (z + 6) = oI g 1249 nw) (hjs : S (z + 10) = oI g 60 js) (hM : goodM mHC stg hps) (hR : goodR mHC.toNat (mLn hps) (mBr hps) rs rows) (hS : mS nw rs rows) (rhow : how = 0 ∨ how = 1) (hop : ¬ (rows.length < 20 ∧ hdR (stg 2) rows rows.length < stg 0)) : g_Cs l yX9_nextLength wsX9_nextLength { frames := 5, cells := 0, slots := 0, locals := 112 } g [.ref z, .int (iI how)] n S (fun vr n1 S1 => ∃ jf9 : Nat → Int, ∃ kw9 : Nat → Int, ∃ jc9 : Int, ∃ ch9 : Int, ∃ vi9 : Int, vr = some (.int (iI (-4))) ∧ n = n1 ∧ S1 z = oO 9 [.ref (z + 1), .int (iI mLen), .int (iI mAt), .ref (z + 2), .ref (z + 3), .ref (z + 4), .ref (z + 5), .int (iI mHC), .int (iI mRC), .ref (z + 6), .ref (z + 7), .ref (z + 8), .int (iI mHS), .ref (z + 9), .ref (z + 10), .int (iI jc9), .int (iI ch9), .int (iI vi9)] ∧ S1 (z + 6) = oI g 1249 kw9 ∧ S1 (z + 10) = oI g 60 jf9 ∧ mS kw9 rs rows ∧ (∀ bb, bb ≠ z → bb ≠ (z + 6) → bb ≠ (z + 10) → S1 bb = S bb)) 0 0 := by
  refine g_Cs.of (cc := cX9_nextLength) (maxL := 8) (ret := (some .int)) (by decide) rfl (Nat.le_of_ble_eq_true rfl) ?_
  intro pp ee s m below meth cK Q H locs ls hc hnm hw hl hret
  have hl : lv_has ls 8 [(0, .ref z), (1, .int (iI how))] := hl
  have hiX9 : ∀ w ∈ u_ws RX9 TX9 18, w ∈ wsX9_nextLength := by decide +kernel
  have lk54 : Cond.fieldLink RX9 54 "RoofCoursesModel" "heapCount" "I" ∈ wsX9_nextLength := by decide +kernel
  have hM0 := hM
  obtain ⟨m1, m2, m3, m4, m5, m6, m7, m8⟩ := hM
  have hbr1 : ∀ i : Nat, i < mHC.toNat → 1 ≤ mBr hps i := fun i hi => by have := m2 i (by omega); omega
  have hbr2 : ∀ i : Nat, i < mHC.toNat → 1 ≤ mBr hps i ∧ mBr hps i ≤ 60 := fun i hi => by have := m2 i (by omega); omega
  have hln1 : ∀ i : Nat, i < mHC.toNat → 20 ≤ mLn hps i ∧ mLn hps i ≤ 60 := fun i hi => by have := m2 i (by omega); omega
  refine nn_bipush hc dX9_nextLength_0 (by decide +kernel) ?_
  refine lv_istore_n (lv' := [(2, .int (iI (-4))), (0, .ref z), (1, .int (iI how))]) hc.1 hc.2.1 dX9_nextLength_2 rfl hl (by decide) rfl (fun ls hl => ?_)
  refine nn_iconst hc dX9_nextLength_3 ?_
  refine lv_istore_n (lv' := [(3, .int (iI 0)), (2, .int (iI (-4))), (0, .ref z), (1, .int (iI how))]) hc.1 hc.2.1 dX9_nextLength_4 rfl hl (by decide) rfl (fun ls hl => ?_)
  refine nn_iconst hc dX9_nextLength_5 ?_
  refine lv_istore (lv' := [(4, .int (iI 0)), (3, .int (iI 0)), (2, .int (iI (-4))), (0, .ref z), (1, .int (iI how))]) hc.1 hc.2.1 dX9_nextLength_6 hl (by decide) rfl (fun ls hl => ?_)
  have lab8 : ∀ (fu8 : Nat) (f : Int) (lt : Int) (h : Int) (kw : Nat → Int) (jf : Nat → Int) (jc : Int) (ch : Int) (vi : Int) (S1 : Nat → gE) (H : Heap) (locs : List Loc) (ls : Array Slot), (0 ≤ h ∧ h ≤ mHC) → (mS kw rs rows) → (f = -4 ∧ lt = 0) → S1 z = oO 9 [.ref (z + 1), .int (iI mLen), .int (iI mAt), .ref (z + 2), .ref (z + 3), .ref (z + 4), .ref (z + 5), .int (iI mHC), .int (iI mRC), .ref (z + 6), .ref (z + 7), .ref (z + 8), .int (iI mHS), .ref (z + 9), .ref (z + 10), .int (iI jc), .int (iI ch), .int (iI vi)] → S1 (z + 6) = oI g 1249 kw → S1 (z + 10) = oI g 60 jf → (∀ bb, bb ≠ z → bb ≠ (z + 6) → bb ≠ (z + 10) → S1 bb = S bb) → g_W g n S1 s H locs → (mHC - h).toNat < fu8 → lv_has ls 8 [(2, .int (iI f)), (3, .int (iI lt)), (4, .int (iI h)), (0, .ref z), (1, .int (iI how))] → W pp l ee ({ frames := 5, cells := 0, slots := 0, locals := 112 } : Room) s m ([.ref z, .int (iI how)] : List Value).toArray below meth cK H locs 0 0 Q (F0 m 8 ls []) := by
    intro fu8
    induction fu8 with
    | zero =>
      intro f lt h kw jf jc ch vi S1 H locs ls hh hS1 hf hc8_0 hc8_1 hc8_2 fr8 hw hmeas hl
      exact absurd hmeas (Nat.not_lt_zero _)
    | succ fu8 ih8 =>
      intro f lt h kw jf jc ch vi S1 H locs ls hh hS1 hf hc8_0 hc8_1 hc8_2 fr8 hw hmeas hl
      have hS9 := hS1
      refine lv_iload hc.1 hc.2.1 dX9_nextLength_8 (lv_at hl 2 rfl) ?_
      refine lv_aload_n hc.1 hc.2.1 dX9_nextLength_10 rfl (lv_at hl 3 rfl) ?_
      refine nn_get hc hw hc8_0 hiX9 rfl 7 (by decide) rfl lk54 dX9_nextLength_11 ?_
      refine nn_icmp_ge hc dX9_nextLength_14 (tgt := 137) (by decide) (by omega) (by omega) (fun c2 => ?_) (fun c2 => ?_)
      · refine lv_iload_n hc.1 hc.2.1 dX9_nextLength_137 rfl (lv_at hl 0 rfl) ?_
        exact hret (some (.int (iI f))) _ S1 _ _ _ _ hw (⟨_, _, _, _, _, (by rw [hf.1]), rfl, hc8_0, hc8_1, hc8_2, hS1, fun bb hb0 hb1 hb2 => (fr8 bb hb0 hb1 hb2)⟩) ⟨_, rfl, rfl, dX9_nextLength_138⟩
      · have hl1 := hln1 h.toNat (by omega)
        refine lv_aload_n hc.1 hc.2.1 dX9_nextLength_17 rfl (lv_at hl 3 rfl) ?_
        refine lv_iload hc.1 hc.2.1 dX9_nextLength_18 (lv_at hl 2 rfl) ?_
        have e3 : S1 (z + 4) = oI g 24 hps := (fr8 (z + 4) (off_nr (x := z) (a := 4) (by decide)) (off_ne (x := z) (a := 4) (b := 6) (by decide)) (off_ne (x := z) (a := 4) (b := 10) (by decide))).trans hhp
        refine nn_Vp (As := [.int (iI h)]) (st := []) hc hw hc8_0 rfl (c_X9_heapLength l g  hc8_0 e3 (by omega)) (cwV 1 hc.2.2.2.2 gX9_nextLength_X9_heapLength rfl rfl rfl (by decide +kernel) ⟨Nat.le_of_ble_eq_true rfl, Nat.le_of_ble_eq_true rfl⟩) rfl hl.1 rfl (Nat.le_of_ble_eq_true rfl) ⟨Nat.le_of_ble_eq_true rfl, Nat.le_of_ble_eq_true rfl⟩ dX9_nextLength_20 ?_
        refine W.eq (g2 := F0 m 23 ls [.int (iI (mLn hps h.toNat))]) rfl ?_
        refine lv_istore (lv' := [(5, .int (iI (mLn hps h.toNat))), (2, .int (iI f)), (3, .int (iI lt)), (4, .int (iI h)), (0, .ref z), (1, .int (iI how))]) hc.1 hc.2.1 dX9_nextLength_23 hl (by decide) rfl (fun ls hl => ?_)
        refine lv_iload hc.1 hc.2.1 dX9_nextLength_25 (lv_at hl 3 rfl) ?_
        refine nn_if_eq hc dX9_nextLength_27 (tgt := 43) (by decide) (by omega) (fun c4 => ?_) (fun c4 => ?_)
        · have hly9 : layR mHC.toNat (mLn hps) (mBr hps) (stg 0) (stg 2) (stg 1) (stg 4) (stg 3) rs rows (mLn hps h.toNat) = none := by unfold layR; exact if_neg (fun q9 => hop ⟨q9.1, q9.2.1⟩)
          refine lv_aload_n hc.1 hc.2.1 dX9_nextLength_43 rfl (lv_at hl 4 rfl) ?_
          refine lv_iload hc.1 hc.2.1 dX9_nextLength_44 (lv_at hl 0 rfl) ?_
          have e5 : S1 (z + 2) = oI g 5 stg := (fr8 (z + 2) (off_nr (x := z) (a := 2) (by decide)) (off_ne (x := z) (a := 2) (b := 6) (by decide)) (off_ne (x := z) (a := 2) (b := 10) (by decide))).trans hst
          refine nn_Vs (As := [.int (iI (mLn hps h.toNat))]) (st := []) hc hw hc8_0 rfl (c_X9_layCourse_no l g  hc8_0 e5 e3 hc8_1 hc8_2 (hM0) (hR) (hS1) (by omega) (hly9)) (cwV 1 hc.2.2.2.2 gX9_nextLength_X9_layCourse rfl rfl rfl (by decide +kernel) ⟨Nat.le_of_ble_eq_true rfl, Nat.le_of_ble_eq_true rfl⟩) rfl hl.1 rfl (Nat.le_of_ble_eq_true rfl) ⟨Nat.le_of_ble_eq_true rfl, Nat.le_of_ble_eq_true rfl⟩ dX9_nextLength_46 (fun vr n1 S6 H locs qS6 hw => ?_)
          obtain ⟨jf9_7, kw9_8, jc9_9, ch9_10, vi9_11, rfl, rfl, hS6_0, hS6_1, hS6_2, kS6_0, fS6⟩ := qS6
          refine W.eq (g2 := F0 m 49 ls [.int (iI 0)]) rfl ?_
          refine nn_if_eq hc dX9_nextLength_49 (tgt := 131) (by decide) (by decide) (fun c12 => ?_) (fun c12 => ?_)
          · refine nn_iinc (lv' := [(4, .int (iI (h + 1))), (5, .int (iI (mLn hps h.toNat))), (2, .int (iI f)), (3, .int (iI lt)), (0, .ref z), (1, .int (iI how))]) hc dX9_nextLength_131 hl (k0 := 3) rfl (by decide) rfl (fun ls hl => ?_)
            refine lv_goto hc.1 hc.2.1 dX9_nextLength_134 (tgt := 8) (by decide) ?_
            exact ih8 f lt (h + 1) kw9_8 jf9_7 jc9_9 ch9_10 vi9_11 S6 _ _ _ (by omega) (kS6_0) (by omega) hS6_0 hS6_1 hS6_2 (fun bb hb0 hb1 hb2 => ((fS6 bb hb0 hb1 hb2)).trans (fr8 bb hb0 hb1 hb2)) hw (by omega) (lv_sub hl [2, 3, 0, 4, 5] rfl)
          · exact absurd c12 (by decide)
        · have hl2 := hln1 (h - 1).toNat (by omega)
          refine lv_iload hc.1 hc.2.1 dX9_nextLength_30 (lv_at hl 0 rfl) ?_
          refine lv_aload_n hc.1 hc.2.1 dX9_nextLength_32 rfl (lv_at hl 4 rfl) ?_
          refine lv_iload hc.1 hc.2.1 dX9_nextLength_33 (lv_at hl 3 rfl) ?_
          refine nn_iconst hc dX9_nextLength_35 ?_
          refine nn_isub hc dX9_nextLength_36 ?_
          refine nn_Vp (As := [.int (iI (h - 1))]) (st := [.int (iI (mLn hps h.toNat))]) hc hw hc8_0 rfl (c_X9_heapLength l g  hc8_0 e3 (by omega)) (cwV 1 hc.2.2.2.2 gX9_nextLength_X9_heapLength rfl rfl rfl (by decide +kernel) ⟨Nat.le_of_ble_eq_true rfl, Nat.le_of_ble_eq_true rfl⟩) rfl hl.1 rfl (Nat.le_of_ble_eq_true rfl) ⟨Nat.le_of_ble_eq_true rfl, Nat.le_of_ble_eq_true rfl⟩ dX9_nextLength_37 ?_
          refine W.eq (g2 := F0 m 40 ls [.int (iI (mLn hps (h - 1).toNat)), .int (iI (mLn hps h.toNat))]) rfl ?_
          refine nn_icmp_eq hc dX9_nextLength_40 (tgt := 131) (by decide) (by omega) (by omega) (fun c13 => ?_) (fun c13 => ?_)
          · refine nn_iinc (lv' := [(4, .int (iI (h + 1))), (5, .int (iI (mLn hps h.toNat))), (2, .int (iI f)), (3, .int (iI lt)), (0, .ref z), (1, .int (iI how))]) hc dX9_nextLength_131 hl (k0 := 3) rfl (by decide) rfl (fun ls hl => ?_)
            refine lv_goto hc.1 hc.2.1 dX9_nextLength_134 (tgt := 8) (by decide) ?_
            exact ih8 f lt (h + 1) kw jf jc ch vi S1 _ _ _ (by omega) (hS1) (by omega) hc8_0 hc8_1 hc8_2 (fun bb hb0 hb1 hb2 => (fr8 bb hb0 hb1 hb2)) hw (by omega) (lv_sub hl [2, 3, 0, 4, 5] rfl)
          · have hly9 : layR mHC.toNat (mLn hps) (mBr hps) (stg 0) (stg 2) (stg 1) (stg 4) (stg 3) rs rows (mLn hps h.toNat) = none := by unfold layR; exact if_neg (fun q9 => hop ⟨q9.1, q9.2.1⟩)
            refine lv_aload_n hc.1 hc.2.1 dX9_nextLength_43 rfl (lv_at hl 4 rfl) ?_
            refine lv_iload hc.1 hc.2.1 dX9_nextLength_44 (lv_at hl 0 rfl) ?_
            have e14 : S1 (z + 2) = oI g 5 stg := (fr8 (z + 2) (off_nr (x := z) (a := 2) (by decide)) (off_ne (x := z) (a := 2) (b := 6) (by decide)) (off_ne (x := z) (a := 2) (b := 10) (by decide))).trans hst
            refine nn_Vs (As := [.int (iI (mLn hps h.toNat))]) (st := []) hc hw hc8_0 rfl (c_X9_layCourse_no l g  hc8_0 e14 e3 hc8_1 hc8_2 (hM0) (hR) (hS1) (by omega) (hly9)) (cwV 1 hc.2.2.2.2 gX9_nextLength_X9_layCourse rfl rfl rfl (by decide +kernel) ⟨Nat.le_of_ble_eq_true rfl, Nat.le_of_ble_eq_true rfl⟩) rfl hl.1 rfl (Nat.le_of_ble_eq_true rfl) ⟨Nat.le_of_ble_eq_true rfl, Nat.le_of_ble_eq_true rfl⟩ dX9_nextLength_46 (fun vr n1 S15 H locs qS15 hw => ?_)
            obtain ⟨jf9_16, kw9_17, jc9_18, ch9_19, vi9_20, rfl, rfl, hS15_0, hS15_1, hS15_2, kS15_0, fS15⟩ := qS15
            refine W.eq (g2 := F0 m 49 ls [.int (iI 0)]) rfl ?_
            refine nn_if_eq hc dX9_nextLength_49 (tgt := 131) (by decide) (by decide) (fun c21 => ?_) (fun c21 => ?_)
            · refine nn_iinc (lv' := [(4, .int (iI (h + 1))), (5, .int (iI (mLn hps h.toNat))), (2, .int (iI f)), (3, .int (iI lt)), (0, .ref z), (1, .int (iI how))]) hc dX9_nextLength_131 hl (k0 := 3) rfl (by decide) rfl (fun ls hl => ?_)
              refine lv_goto hc.1 hc.2.1 dX9_nextLength_134 (tgt := 8) (by decide) ?_
              exact ih8 f lt (h + 1) kw9_17 jf9_16 jc9_18 ch9_19 vi9_20 S15 _ _ _ (by omega) (kS15_0) (by omega) hS15_0 hS15_1 hS15_2 (fun bb hb0 hb1 hb2 => ((fS15 bb hb0 hb1 hb2)).trans (fr8 bb hb0 hb1 hb2)) hw (by omega) (lv_sub hl [2, 3, 0, 4, 5] rfl)
            · exact absurd c21 (by decide)
  exact lab8 _ (-4) 0 0 nw js mJC mCh mVi S _ _ _ (by omega) (hS) (by omega) hz hnw hjs (fun bb _ _ _ => rfl) hw (Nat.lt_succ_self _) (lv_sub hl [2, 1, 0, 3, 4] rfl)

set_option maxHeartbeats 4000000 in
set_option maxRecDepth 100000 in
theorem c_X9_nextLength (l : Launch) (g : gG) {n : Nat} {S : Nat → gE} {z : Nat} {mLen mAt mHC mRC mHS mJC mCh mVi : Int} {stg hps nw js : Nat → Int} {rs : Nat → Int} {rows : rT} {how : Int} (hz : S z = oO 9 [.ref (z + 1), .int (iI mLen), .int (iI mAt), .ref (z + 2), .ref (z + 3), .ref (z + 4), .ref (z + 5), .int (iI mHC), .int (iI mRC), .ref (z + 6), .ref (z + 7), .ref (z + 8), .int (iI mHS), .ref (z + 9), .ref (z + 10), .int (iI mJC), .int (iI mCh), .int (iI mVi)]) (hst : S (z + 2) = oI g 5 stg) (hhp : S (z + 4) = oI g 24 hps) (hnw : S (z + 6) = oI g 1249 nw) (hjs : S (z + 10) = oI g 60 js) (hM : goodM mHC stg hps) (hR : goodR mHC.toNat (mLn hps) (mBr hps) rs rows) (hS : mS nw rs rows) (rhow : how = 0 ∨ how = 1) : g_Cs l yX9_nextLength wsX9_nextLength { frames := 5, cells := 0, slots := 0, locals := 112 } g [.ref z, .int (iI how)] n S (fun vr n1 S1 => ∃ jf9 : Nat → Int, ∃ kw9 : Nat → Int, ∃ jc9 : Int, ∃ ch9 : Int, ∃ vi9 : Int, vr = some (.int (iI (nxR mHC.toNat (mLn hps) (mBr hps) (stg 0) (stg 2) (stg 1) (stg 4) (stg 3) how rs rows))) ∧ n = n1 ∧ S1 z = oO 9 [.ref (z + 1), .int (iI mLen), .int (iI mAt), .ref (z + 2), .ref (z + 3), .ref (z + 4), .ref (z + 5), .int (iI mHC), .int (iI mRC), .ref (z + 6), .ref (z + 7), .ref (z + 8), .int (iI mHS), .ref (z + 9), .ref (z + 10), .int (iI jc9), .int (iI ch9), .int (iI vi9)] ∧ S1 (z + 6) = oI g 1249 kw9 ∧ S1 (z + 10) = oI g 60 jf9 ∧ mS kw9 rs rows ∧ (∀ bb, bb ≠ z → bb ≠ (z + 6) → bb ≠ (z + 10) → S1 bb = S bb)) 0 0 := by
  by_cases hop : rows.length < 20 ∧ hdR (stg 2) rows rows.length < stg 0
  · rw [show nxR mHC.toNat (mLn hps) (mBr hps) (stg 0) (stg 2) (stg 1) (stg 4) (stg 3) how rs rows = chL mHC.toNat (mLn hps) (mBr hps) (stg 2) (stg 1) (stg 4) (stg 3) how rs (tpL rows) (hdR (stg 2) rows rows.length) (tpS rows) by unfold nxR; rw [if_pos hop]]
    exact c_X9_nextLength_open l g hz hst hhp hnw hjs hM hR hS rhow hop
  · rw [show nxR mHC.toNat (mLn hps) (mBr hps) (stg 0) (stg 2) (stg 1) (stg 4) (stg 3) how rs rows = -4 by unfold nxR; rw [if_neg hop]]
    exact c_X9_nextLength_shut l g hz hst hhp hnw hjs hM hR hS rhow hop

