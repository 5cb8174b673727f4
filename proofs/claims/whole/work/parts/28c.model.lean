set_option maxHeartbeats 4000000 in
set_option maxRecDepth 100000 in
theorem c_X9_beginRead (l : Launch) (g : gG) {n : Nat} {S : Nat → gE} {z : Nat} {mLen mAt mHC mRC mHS mJC mCh mVi : Int} {rst : Nat → Int} (hz : S z = oO 9 [.ref (z + 1), .int (iI mLen), .int (iI mAt), .ref (z + 2), .ref (z + 3), .ref (z + 4), .ref (z + 5), .int (iI mHC), .int (iI mRC), .ref (z + 6), .ref (z + 7), .ref (z + 8), .int (iI mHS), .ref (z + 9), .ref (z + 10), .int (iI mJC), .int (iI mCh), .int (iI mVi)]) (hrst : S (z + 3) = oI g 5 rst)  : g_Cs l yX9_beginRead wsX9_beginRead { frames := 0, cells := 0, slots := 0, locals := 0 } g [.ref z] n S (fun vr n1 S1 => ∃ rst9 : Nat → Int, vr = none ∧ n = n1 ∧ S1 z = oO 9 [.ref (z + 1), .int (iI mLen), .int (iI mAt), .ref (z + 2), .ref (z + 3), .ref (z + 4), .ref (z + 5), .int (iI mHC), .int (iI 0), .ref (z + 6), .ref (z + 7), .ref (z + 8), .int (iI mHS), .ref (z + 9), .ref (z + 10), .int (iI mJC), .int (iI mCh), .int (iI mVi)] ∧ S1 (z + 3) = oI g 5 rst9 ∧ (rst9 0 = 100 ∧ rst9 1 = 120 ∧ rst9 2 = 6 ∧ rst9 3 = 4 ∧ rst9 4 = 0) ∧ (∀ bb, bb ≠ z → bb ≠ (z + 3) → S1 bb = S bb)) 0 0 := by
  refine g_Cs.of (cc := cX9_beginRead) (maxL := 1) (ret := none) (by decide) rfl (Nat.le_of_ble_eq_true rfl) ?_
  intro pp ee s m below meth cK Q H locs ls hc hnm hw hl hret
  have hl : lv_has ls 1 [(0, .ref z)] := hl
  have hiX9 : ∀ w ∈ u_ws RX9 TX9 18, w ∈ wsX9_beginRead := by decide +kernel
  have lk50 : Cond.fieldLink RX9 50 "RoofCoursesModel" "readCount" "I" ∈ wsX9_beginRead := by decide +kernel
  have lk16 : Cond.fieldLink RX9 16 "RoofCoursesModel" "readSettings" "[I" ∈ wsX9_beginRead := by decide +kernel
  refine lv_aload_n hc.1 hc.2.1 dX9_beginRead_0 rfl (lv_at hl 0 rfl) ?_
  refine nn_iconst hc dX9_beginRead_1 ?_
  refine nn_put hc hw hz hiX9 tyX9 tyX9_ok nmX9 rfl 8 (by decide) (Nat.le_of_ble_eq_true rfl) lk50 rfl rfl rfl dX9_beginRead_2 (fun S1 H locs hS1 fS1 hw => ?_)
  have hS1 : S1 z = oO 9 [.ref (z + 1), .int (iI mLen), .int (iI mAt), .ref (z + 2), .ref (z + 3), .ref (z + 4), .ref (z + 5), .int (iI mHC), .int (iI 0), .ref (z + 6), .ref (z + 7), .ref (z + 8), .int (iI mHS), .ref (z + 9), .ref (z + 10), .int (iI mJC), .int (iI mCh), .int (iI mVi)] := hS1
  refine lv_aload_n hc.1 hc.2.1 dX9_beginRead_5 rfl (lv_at hl 0 rfl) ?_
  refine nn_get hc hw hS1 hiX9 rfl 4 (by decide) rfl lk16 dX9_beginRead_6 ?_
  refine nn_iconst hc dX9_beginRead_9 ?_
  refine nn_bipush hc dX9_beginRead_10 (by decide +kernel) ?_
  have e2 : S1 (z + 3) = oI g 5 rst := (fS1 (z + 3) (off_nr (x := z) (a := 3) (by decide))).trans hrst
  refine nn_iast hc hw e2 (by omega) (by omega) dX9_beginRead_12 (fun S3 H locs hS3 fS3 hw => ?_)
  have hS3 : S3 (z + 3) = oI g 5 (va_up rst 0 100) := hS3
  refine lv_aload_n hc.1 hc.2.1 dX9_beginRead_13 rfl (lv_at hl 0 rfl) ?_
  have e4 : S3 z = oO 9 [.ref (z + 1), .int (iI mLen), .int (iI mAt), .ref (z + 2), .ref (z + 3), .ref (z + 4), .ref (z + 5), .int (iI mHC), .int (iI 0), .ref (z + 6), .ref (z + 7), .ref (z + 8), .int (iI mHS), .ref (z + 9), .ref (z + 10), .int (iI mJC), .int (iI mCh), .int (iI mVi)] := (fS3 z (off_nl (x := z) (a := 3) (by decide))).trans hS1
  refine nn_get hc hw e4 hiX9 rfl 4 (by decide) rfl lk16 dX9_beginRead_14 ?_
  refine nn_iconst hc dX9_beginRead_17 ?_
  refine nn_bipush hc dX9_beginRead_18 (by decide +kernel) ?_
  refine nn_iast hc hw hS3 (by omega) (by omega) dX9_beginRead_20 (fun S5 H locs hS5 fS5 hw => ?_)
  have hS5 : S5 (z + 3) = oI g 5 (va_up (va_up rst 0 100) 1 120) := hS5
  refine lv_aload_n hc.1 hc.2.1 dX9_beginRead_21 rfl (lv_at hl 0 rfl) ?_
  have e6 : S5 z = oO 9 [.ref (z + 1), .int (iI mLen), .int (iI mAt), .ref (z + 2), .ref (z + 3), .ref (z + 4), .ref (z + 5), .int (iI mHC), .int (iI 0), .ref (z + 6), .ref (z + 7), .ref (z + 8), .int (iI mHS), .ref (z + 9), .ref (z + 10), .int (iI mJC), .int (iI mCh), .int (iI mVi)] := (fS5 z (off_nl (x := z) (a := 3) (by decide))).trans e4
  refine nn_get hc hw e6 hiX9 rfl 4 (by decide) rfl lk16 dX9_beginRead_22 ?_
  refine nn_iconst hc dX9_beginRead_25 ?_
  refine nn_bipush hc dX9_beginRead_26 (by decide +kernel) ?_
  refine nn_iast hc hw hS5 (by omega) (by omega) dX9_beginRead_28 (fun S7 H locs hS7 fS7 hw => ?_)
  have hS7 : S7 (z + 3) = oI g 5 (va_up (va_up (va_up rst 0 100) 1 120) 2 6) := hS7
  refine lv_aload_n hc.1 hc.2.1 dX9_beginRead_29 rfl (lv_at hl 0 rfl) ?_
  have e8 : S7 z = oO 9 [.ref (z + 1), .int (iI mLen), .int (iI mAt), .ref (z + 2), .ref (z + 3), .ref (z + 4), .ref (z + 5), .int (iI mHC), .int (iI 0), .ref (z + 6), .ref (z + 7), .ref (z + 8), .int (iI mHS), .ref (z + 9), .ref (z + 10), .int (iI mJC), .int (iI mCh), .int (iI mVi)] := (fS7 z (off_nl (x := z) (a := 3) (by decide))).trans e6
  refine nn_get hc hw e8 hiX9 rfl 4 (by decide) rfl lk16 dX9_beginRead_30 ?_
  refine nn_iconst hc dX9_beginRead_33 ?_
  refine nn_iconst hc dX9_beginRead_34 ?_
  refine nn_iast hc hw hS7 (by omega) (by omega) dX9_beginRead_35 (fun S9 H locs hS9 fS9 hw => ?_)
  have hS9 : S9 (z + 3) = oI g 5 (va_up (va_up (va_up (va_up rst 0 100) 1 120) 2 6) 3 4) := hS9
  refine lv_aload_n hc.1 hc.2.1 dX9_beginRead_36 rfl (lv_at hl 0 rfl) ?_
  have e10 : S9 z = oO 9 [.ref (z + 1), .int (iI mLen), .int (iI mAt), .ref (z + 2), .ref (z + 3), .ref (z + 4), .ref (z + 5), .int (iI mHC), .int (iI 0), .ref (z + 6), .ref (z + 7), .ref (z + 8), .int (iI mHS), .ref (z + 9), .ref (z + 10), .int (iI mJC), .int (iI mCh), .int (iI mVi)] := (fS9 z (off_nl (x := z) (a := 3) (by decide))).trans e8
  refine nn_get hc hw e10 hiX9 rfl 4 (by decide) rfl lk16 dX9_beginRead_37 ?_
  refine nn_iconst hc dX9_beginRead_40 ?_
  refine nn_iconst hc dX9_beginRead_41 ?_
  refine nn_iast hc hw hS9 (by omega) (by omega) dX9_beginRead_42 (fun S11 H locs hS11 fS11 hw => ?_)
  have hS11 : S11 (z + 3) = oI g 5 (va_up (va_up (va_up (va_up (va_up rst 0 100) 1 120) 2 6) 3 4) 4 0) := hS11
  have e12 : S11 z = oO 9 [.ref (z + 1), .int (iI mLen), .int (iI mAt), .ref (z + 2), .ref (z + 3), .ref (z + 4), .ref (z + 5), .int (iI mHC), .int (iI 0), .ref (z + 6), .ref (z + 7), .ref (z + 8), .int (iI mHS), .ref (z + 9), .ref (z + 10), .int (iI mJC), .int (iI mCh), .int (iI mVi)] := (fS11 z (off_nl (x := z) (a := 3) (by decide))).trans e10
  exact hret none _ S11 _ _ _ _ hw (⟨_, rfl, rfl, e12, hS11, ⟨rfl, rfl, rfl, rfl, rfl⟩, fun bb hb0 hb1 => ((((((fS11 bb hb1)).trans (fS9 bb hb1)).trans (fS7 bb hb1)).trans (fS5 bb hb1)).trans (fS3 bb hb1)).trans (fS1 bb hb0)⟩) ⟨rfl, dX9_beginRead_43⟩

set_option maxHeartbeats 4000000 in
set_option maxRecDepth 100000 in
theorem c_X9_addHeap_yes (l : Launch) (g : gG) {n : Nat} {S : Nat → gE} {z : Nat} {mLen mAt mHC mRC mHS mJC mCh mVi : Int} {rst rhp : Nat → Int} {P P1 : pT} {la lb lc : Int} (hz : S z = oO 9 [.ref (z + 1), .int (iI mLen), .int (iI mAt), .ref (z + 2), .ref (z + 3), .ref (z + 4), .ref (z + 5), .int (iI mHC), .int (iI mRC), .ref (z + 6), .ref (z + 7), .ref (z + 8), .int (iI mHS), .ref (z + 9), .ref (z + 10), .int (iI mJC), .int (iI mCh), .int (iI mVi)]) (hrhp : S (z + 5) = oI g 24 rhp) (rl : 20 ≤ la ∧ la ≤ 60) (rb : 10 ≤ lb ∧ lb ≤ 60) (rc : 1 ≤ lc ∧ lc ≤ 99) (hg0 : goodP P) (hrel : relP mRC rhp rst P) (hadd : addC P la lb lc = some P1) : g_Cs l yX9_addHeap wsX9_addHeap { frames := 0, cells := 0, slots := 0, locals := 0 } g [.ref z, .int (iI la), .int (iI lb), .int (iI lc)] n S (fun vr n1 S1 => ∃ rh9 : Nat → Int, ∃ rc9 : Int, vr = some (.int (iI 1)) ∧ n = n1 ∧ S1 z = oO 9 [.ref (z + 1), .int (iI mLen), .int (iI mAt), .ref (z + 2), .ref (z + 3), .ref (z + 4), .ref (z + 5), .int (iI mHC), .int (iI rc9), .ref (z + 6), .ref (z + 7), .ref (z + 8), .int (iI mHS), .ref (z + 9), .ref (z + 10), .int (iI mJC), .int (iI mCh), .int (iI mVi)] ∧ S1 (z + 5) = oI g 24 rh9 ∧ relP rc9 rh9 rst P1 ∧ (∀ bb, bb ≠ z → bb ≠ (z + 5) → S1 bb = S bb)) 0 0 := by
  refine g_Cs.of (cc := cX9_addHeap) (maxL := 5) (ret := (some .boolean)) (by decide) rfl (Nat.le_of_ble_eq_true rfl) ?_
  intro pp ee s m below meth cK Q H locs ls hc hnm hw hl hret
  have hl : lv_has ls 5 [(0, .ref z), (1, .int (iI la)), (2, .int (iI lb)), (3, .int (iI lc))] := hl
  have hiX9 : ∀ w ∈ u_ws RX9 TX9 18, w ∈ wsX9_addHeap := by decide +kernel
  have lk50 : Cond.fieldLink RX9 50 "RoofCoursesModel" "readCount" "I" ∈ wsX9_addHeap := by decide +kernel
  have lk22 : Cond.fieldLink RX9 22 "RoofCoursesModel" "readHeaps" "[I" ∈ wsX9_addHeap := by decide +kernel
  have hRCe : mRC = P.1 := hrel.1
  have hP1 := hg0.1
  refine nn_iconst hc dX9_addHeap_0 ?_
  refine lv_istore (lv' := [(4, .int (iI 0)), (0, .ref z), (1, .int (iI la)), (2, .int (iI lb)), (3, .int (iI lc))]) hc.1 hc.2.1 dX9_addHeap_1 hl (by decide) rfl (fun ls hl => ?_)
  have lab3 : ∀ (fu3 : Nat) (h : Int) (H : Heap) (locs : List Loc) (ls : Array Slot), (0 ≤ h ∧ h ≤ mRC) → (∀ i : Nat, (i : Int) < h → ¬ (rhp (3 * i) = la ∧ rhp (3 * i + 1) = lb)) → g_W g n S s H locs → (mRC - h).toNat < fu3 → lv_has ls 5 [(4, .int (iI h)), (0, .ref z), (1, .int (iI la)), (2, .int (iI lb)), (3, .int (iI lc))] → W pp l ee ({ frames := 0, cells := 0, slots := 0, locals := 0 } : Room) s m ([.ref z, .int (iI la), .int (iI lb), .int (iI lc)] : List Value).toArray below meth cK H locs 0 0 Q (F0 m 3 ls []) := by
    intro fu3
    induction fu3 with
    | zero =>
      intro h H locs ls hh hno hw hmeas hl
      exact absurd hmeas (Nat.not_lt_zero _)
    | succ fu3 ih3 =>
      intro h H locs ls hh hno hw hmeas hl
      refine lv_iload hc.1 hc.2.1 dX9_addHeap_3 (lv_at hl 0 rfl) ?_
      refine lv_aload_n hc.1 hc.2.1 dX9_addHeap_5 rfl (lv_at hl 1 rfl) ?_
      refine nn_get hc hw hz hiX9 rfl 8 (by decide) rfl lk50 dX9_addHeap_6 ?_
      refine nn_icmp_ge hc dX9_addHeap_9 (tgt := 46) (by decide) (by omega) (by omega) (fun c2 => ?_) (fun c2 => ?_)
      · have hend : h = mRC := by omega
        have hnw9 := addC_new (c := lc) hg0 hrel (fun i hi => hno i (by omega) : ∀ i : Nat, (i : Int) < mRC → ¬ (rhp (3 * i) = la ∧ rhp (3 * i + 1) = lb))
        rw [hadd] at hnw9
        refine lv_iload hc.1 hc.2.1 dX9_addHeap_46 (lv_at hl 0 rfl) ?_
        refine nn_bipush hc dX9_addHeap_48 (by decide +kernel) ?_
        refine nn_icmp_eq hc dX9_addHeap_50 (tgt := 81) (by decide) (by omega) (by decide) (fun c3 => ?_) (fun c3 => ?_)
        · exfalso; first | (have q9 := hnw9.2 (by omega); cases q9) | omega
        · refine lv_iload hc.1 hc.2.1 dX9_addHeap_53 (lv_at hl 0 rfl) ?_
          refine lv_aload_n hc.1 hc.2.1 dX9_addHeap_55 rfl (lv_at hl 1 rfl) ?_
          refine nn_get hc hw hz hiX9 rfl 8 (by decide) rfl lk50 dX9_addHeap_56 ?_
          refine nn_icmp_ge hc dX9_addHeap_59 (tgt := 83) (by decide) (by omega) (by omega) (fun c4 => ?_) (fun c4 => ?_)
          · refine lv_aload_n hc.1 hc.2.1 dX9_addHeap_83 rfl (lv_at hl 1 rfl) ?_
            refine nn_get hc hw hz hiX9 rfl 6 (by decide) rfl lk22 dX9_addHeap_84 ?_
            refine nn_iconst hc dX9_addHeap_87 ?_
            refine lv_iload hc.1 hc.2.1 dX9_addHeap_88 (lv_at hl 0 rfl) ?_
            refine nn_imul hc dX9_addHeap_90 ?_
            refine lv_iload_n hc.1 hc.2.1 dX9_addHeap_91 rfl (lv_at hl 2 rfl) ?_
            refine nn_iast hc hw hrhp (by omega) (by omega) dX9_addHeap_92 (fun S5 H locs hS5 fS5 hw => ?_)
            refine lv_aload_n hc.1 hc.2.1 dX9_addHeap_93 rfl (lv_at hl 1 rfl) ?_
            have e6 : S5 z = oO 9 [.ref (z + 1), .int (iI mLen), .int (iI mAt), .ref (z + 2), .ref (z + 3), .ref (z + 4), .ref (z + 5), .int (iI mHC), .int (iI mRC), .ref (z + 6), .ref (z + 7), .ref (z + 8), .int (iI mHS), .ref (z + 9), .ref (z + 10), .int (iI mJC), .int (iI mCh), .int (iI mVi)] := (fS5 z (off_nl (x := z) (a := 5) (by decide))).trans hz
            refine nn_get hc hw e6 hiX9 rfl 6 (by decide) rfl lk22 dX9_addHeap_94 ?_
            refine nn_iconst hc dX9_addHeap_97 ?_
            refine lv_iload hc.1 hc.2.1 dX9_addHeap_98 (lv_at hl 0 rfl) ?_
            refine nn_imul hc dX9_addHeap_100 ?_
            refine nn_iconst hc dX9_addHeap_101 ?_
            refine nn_iadd hc dX9_addHeap_102 ?_
            refine lv_iload_n hc.1 hc.2.1 dX9_addHeap_103 rfl (lv_at hl 3 rfl) ?_
            refine nn_iast hc hw hS5 (by omega) (by omega) dX9_addHeap_104 (fun S7 H locs hS7 fS7 hw => ?_)
            refine lv_aload_n hc.1 hc.2.1 dX9_addHeap_105 rfl (lv_at hl 1 rfl) ?_
            have e8 : S7 z = oO 9 [.ref (z + 1), .int (iI mLen), .int (iI mAt), .ref (z + 2), .ref (z + 3), .ref (z + 4), .ref (z + 5), .int (iI mHC), .int (iI mRC), .ref (z + 6), .ref (z + 7), .ref (z + 8), .int (iI mHS), .ref (z + 9), .ref (z + 10), .int (iI mJC), .int (iI mCh), .int (iI mVi)] := (fS7 z (off_nl (x := z) (a := 5) (by decide))).trans e6
            refine nn_get hc hw e8 hiX9 rfl 6 (by decide) rfl lk22 dX9_addHeap_106 ?_
            refine nn_iconst hc dX9_addHeap_109 ?_
            refine lv_iload hc.1 hc.2.1 dX9_addHeap_110 (lv_at hl 0 rfl) ?_
            refine nn_imul hc dX9_addHeap_112 ?_
            refine nn_iconst hc dX9_addHeap_113 ?_
            refine nn_iadd hc dX9_addHeap_114 ?_
            refine lv_iload hc.1 hc.2.1 dX9_addHeap_115 (lv_at hl 0 rfl) ?_
            refine lv_aload_n hc.1 hc.2.1 dX9_addHeap_117 rfl (lv_at hl 1 rfl) ?_
            refine nn_get hc hw e8 hiX9 rfl 8 (by decide) rfl lk50 dX9_addHeap_118 ?_
            refine nn_icmp_ge hc dX9_addHeap_121 (tgt := 140) (by decide) (by omega) (by omega) (fun c9 => ?_) (fun c9 => ?_)
            · refine lv_iload_n hc.1 hc.2.1 dX9_addHeap_140 rfl (lv_at hl 4 rfl) ?_
              refine nn_iast hc hw hS7 (by omega) (by omega) dX9_addHeap_141 (fun S10 H locs hS10 fS10 hw => ?_)
              refine lv_aload_n hc.1 hc.2.1 dX9_addHeap_142 rfl (lv_at hl 1 rfl) ?_
              refine lv_iload hc.1 hc.2.1 dX9_addHeap_143 (lv_at hl 0 rfl) ?_
              refine lv_aload_n hc.1 hc.2.1 dX9_addHeap_145 rfl (lv_at hl 1 rfl) ?_
              have e11 : S10 z = oO 9 [.ref (z + 1), .int (iI mLen), .int (iI mAt), .ref (z + 2), .ref (z + 3), .ref (z + 4), .ref (z + 5), .int (iI mHC), .int (iI mRC), .ref (z + 6), .ref (z + 7), .ref (z + 8), .int (iI mHS), .ref (z + 9), .ref (z + 10), .int (iI mJC), .int (iI mCh), .int (iI mVi)] := (fS10 z (off_nl (x := z) (a := 5) (by decide))).trans e8
              refine nn_get hc hw e11 hiX9 rfl 8 (by decide) rfl lk50 dX9_addHeap_146 ?_
              refine nn_icmp_ge hc dX9_addHeap_149 (tgt := 159) (by decide) (by omega) (by omega) (fun c12 => ?_) (fun c12 => ?_)
              · refine lv_aload_n hc.1 hc.2.1 dX9_addHeap_159 rfl (lv_at hl 1 rfl) ?_
                refine nn_get hc hw e11 hiX9 rfl 8 (by decide) rfl lk50 dX9_addHeap_160 ?_
                refine nn_iconst hc dX9_addHeap_163 ?_
                refine nn_iadd hc dX9_addHeap_164 ?_
                have hre9 : relP ((mRC + 1)) ((va_up (va_up (va_up rhp (3 * h).toNat la) ((3 * h) + 1).toNat lb) ((3 * h) + 2).toNat lc)) rst P1 := by rw [show (3 * h).toNat = 3 * h.toNat by omega, show (3 * h + 1).toNat = 3 * h.toNat + 1 by omega, show (3 * h + 2).toNat = 3 * h.toNat + 2 by omega]; first | (exfalso; omega) | (obtain ⟨P2, g1, g2⟩ := hfd9.1 (by omega); cases g1; rw [va_up_ne (va_up rhp (3 * h.toNat) la) lb (show 3 * h.toNat + 2 ≠ 3 * h.toNat + 1 by omega), va_up_ne rhp la (show 3 * h.toNat + 2 ≠ 3 * h.toNat by omega)]; exact g2) | (obtain ⟨P2, g1, g2⟩ := hnw9.1 (by omega); cases g1; rw [hend]; exact g2)
                refine nn_put hc hw e11 hiX9 tyX9 tyX9_ok nmX9 rfl 8 (by decide) (Nat.le_of_ble_eq_true rfl) lk50 rfl rfl rfl dX9_addHeap_165 (fun S13 H locs hS13 fS13 hw => ?_)
                have hS13 : S13 z = oO 9 [.ref (z + 1), .int (iI mLen), .int (iI mAt), .ref (z + 2), .ref (z + 3), .ref (z + 4), .ref (z + 5), .int (iI mHC), .int (iI (mRC + 1)), .ref (z + 6), .ref (z + 7), .ref (z + 8), .int (iI mHS), .ref (z + 9), .ref (z + 10), .int (iI mJC), .int (iI mCh), .int (iI mVi)] := hS13
                refine nn_iconst hc dX9_addHeap_168 ?_
                have e14 : S13 (z + 5) = oI g 24 (va_up (va_up (va_up rhp (3 * h).toNat la) ((3 * h) + 1).toNat lb) ((3 * h) + 2).toNat lc) := (fS13 (z + 5) (off_nr (x := z) (a := 5) (by decide))).trans hS10
                exact hret (some (.int (iI 1))) _ S13 _ _ _ _ hw (⟨_, _, rfl, rfl, hS13, e14, hre9, fun bb hb0 hb1 => ((((fS13 bb hb0)).trans (fS10 bb hb1)).trans (fS7 bb hb1)).trans (fS5 bb hb1)⟩) ⟨_, rfl, by first | rfl | exact nn_nb _, dX9_addHeap_169⟩
              · refine lv_aload_n hc.1 hc.2.1 dX9_addHeap_152 rfl (lv_at hl 1 rfl) ?_
                refine nn_get hc hw e11 hiX9 rfl 8 (by decide) rfl lk50 dX9_addHeap_153 ?_
                refine lv_goto hc.1 hc.2.1 dX9_addHeap_156 (tgt := 165) (by decide) ?_
                have hre9 : relP (mRC) ((va_up (va_up (va_up rhp (3 * h).toNat la) ((3 * h) + 1).toNat lb) ((3 * h) + 2).toNat lc)) rst P1 := by rw [show (3 * h).toNat = 3 * h.toNat by omega, show (3 * h + 1).toNat = 3 * h.toNat + 1 by omega, show (3 * h + 2).toNat = 3 * h.toNat + 2 by omega]; first | (exfalso; omega) | (obtain ⟨P2, g1, g2⟩ := hfd9.1 (by omega); cases g1; rw [va_up_ne (va_up rhp (3 * h.toNat) la) lb (show 3 * h.toNat + 2 ≠ 3 * h.toNat + 1 by omega), va_up_ne rhp la (show 3 * h.toNat + 2 ≠ 3 * h.toNat by omega)]; exact g2) | (obtain ⟨P2, g1, g2⟩ := hnw9.1 (by omega); cases g1; rw [hend]; exact g2)
                refine nn_put hc hw e11 hiX9 tyX9 tyX9_ok nmX9 rfl 8 (by decide) (Nat.le_of_ble_eq_true rfl) lk50 rfl rfl rfl dX9_addHeap_165 (fun S15 H locs hS15 fS15 hw => ?_)
                have hS15 : S15 z = oO 9 [.ref (z + 1), .int (iI mLen), .int (iI mAt), .ref (z + 2), .ref (z + 3), .ref (z + 4), .ref (z + 5), .int (iI mHC), .int (iI mRC), .ref (z + 6), .ref (z + 7), .ref (z + 8), .int (iI mHS), .ref (z + 9), .ref (z + 10), .int (iI mJC), .int (iI mCh), .int (iI mVi)] := hS15
                refine nn_iconst hc dX9_addHeap_168 ?_
                have e16 : S15 (z + 5) = oI g 24 (va_up (va_up (va_up rhp (3 * h).toNat la) ((3 * h) + 1).toNat lb) ((3 * h) + 2).toNat lc) := (fS15 (z + 5) (off_nr (x := z) (a := 5) (by decide))).trans hS10
                exact hret (some (.int (iI 1))) _ S15 _ _ _ _ hw (⟨_, _, rfl, rfl, hS15, e16, hre9, fun bb hb0 hb1 => ((((fS15 bb hb0)).trans (fS10 bb hb1)).trans (fS7 bb hb1)).trans (fS5 bb hb1)⟩) ⟨_, rfl, by first | rfl | exact nn_nb _, dX9_addHeap_169⟩
            · refine lv_aload_n hc.1 hc.2.1 dX9_addHeap_124 rfl (lv_at hl 1 rfl) ?_
              refine nn_get hc hw e8 hiX9 rfl 6 (by decide) rfl lk22 dX9_addHeap_125 ?_
              refine nn_iconst hc dX9_addHeap_128 ?_
              refine lv_iload hc.1 hc.2.1 dX9_addHeap_129 (lv_at hl 0 rfl) ?_
              refine nn_imul hc dX9_addHeap_131 ?_
              refine nn_iconst hc dX9_addHeap_132 ?_
              refine nn_iadd hc dX9_addHeap_133 ?_
              refine nn_iald hc hw hS7 (by omega) (by omega) dX9_addHeap_134 ?_
              refine lv_iload_n hc.1 hc.2.1 dX9_addHeap_135 rfl (lv_at hl 4 rfl) ?_
              refine nn_iadd hc dX9_addHeap_136 ?_
              refine lv_goto hc.1 hc.2.1 dX9_addHeap_137 (tgt := 141) (by decide) ?_
              refine nn_iast hc hw hS7 (by omega) (by omega) dX9_addHeap_141 (fun S17 H locs hS17 fS17 hw => ?_)
              refine lv_aload_n hc.1 hc.2.1 dX9_addHeap_142 rfl (lv_at hl 1 rfl) ?_
              refine lv_iload hc.1 hc.2.1 dX9_addHeap_143 (lv_at hl 0 rfl) ?_
              refine lv_aload_n hc.1 hc.2.1 dX9_addHeap_145 rfl (lv_at hl 1 rfl) ?_
              have e18 : S17 z = oO 9 [.ref (z + 1), .int (iI mLen), .int (iI mAt), .ref (z + 2), .ref (z + 3), .ref (z + 4), .ref (z + 5), .int (iI mHC), .int (iI mRC), .ref (z + 6), .ref (z + 7), .ref (z + 8), .int (iI mHS), .ref (z + 9), .ref (z + 10), .int (iI mJC), .int (iI mCh), .int (iI mVi)] := (fS17 z (off_nl (x := z) (a := 5) (by decide))).trans e8
              refine nn_get hc hw e18 hiX9 rfl 8 (by decide) rfl lk50 dX9_addHeap_146 ?_
              refine nn_icmp_ge hc dX9_addHeap_149 (tgt := 159) (by decide) (by omega) (by omega) (fun c19 => ?_) (fun c19 => ?_)
              · refine lv_aload_n hc.1 hc.2.1 dX9_addHeap_159 rfl (lv_at hl 1 rfl) ?_
                refine nn_get hc hw e18 hiX9 rfl 8 (by decide) rfl lk50 dX9_addHeap_160 ?_
                refine nn_iconst hc dX9_addHeap_163 ?_
                refine nn_iadd hc dX9_addHeap_164 ?_
                have hre9 : relP ((mRC + 1)) ((va_up (va_up (va_up rhp (3 * h).toNat la) ((3 * h) + 1).toNat lb) ((3 * h) + 2).toNat (((va_up (va_up rhp (3 * h).toNat la) ((3 * h) + 1).toNat lb) ((3 * h) + 2).toNat) + lc))) rst P1 := by rw [show (3 * h).toNat = 3 * h.toNat by omega, show (3 * h + 1).toNat = 3 * h.toNat + 1 by omega, show (3 * h + 2).toNat = 3 * h.toNat + 2 by omega]; first | (exfalso; omega) | (obtain ⟨P2, g1, g2⟩ := hfd9.1 (by omega); cases g1; rw [va_up_ne (va_up rhp (3 * h.toNat) la) lb (show 3 * h.toNat + 2 ≠ 3 * h.toNat + 1 by omega), va_up_ne rhp la (show 3 * h.toNat + 2 ≠ 3 * h.toNat by omega)]; exact g2) | (obtain ⟨P2, g1, g2⟩ := hnw9.1 (by omega); cases g1; rw [hend]; exact g2)
                refine nn_put hc hw e18 hiX9 tyX9 tyX9_ok nmX9 rfl 8 (by decide) (Nat.le_of_ble_eq_true rfl) lk50 rfl rfl rfl dX9_addHeap_165 (fun S20 H locs hS20 fS20 hw => ?_)
                have hS20 : S20 z = oO 9 [.ref (z + 1), .int (iI mLen), .int (iI mAt), .ref (z + 2), .ref (z + 3), .ref (z + 4), .ref (z + 5), .int (iI mHC), .int (iI (mRC + 1)), .ref (z + 6), .ref (z + 7), .ref (z + 8), .int (iI mHS), .ref (z + 9), .ref (z + 10), .int (iI mJC), .int (iI mCh), .int (iI mVi)] := hS20
                refine nn_iconst hc dX9_addHeap_168 ?_
                have e21 : S20 (z + 5) = oI g 24 (va_up (va_up (va_up rhp (3 * h).toNat la) ((3 * h) + 1).toNat lb) ((3 * h) + 2).toNat (((va_up (va_up rhp (3 * h).toNat la) ((3 * h) + 1).toNat lb) ((3 * h) + 2).toNat) + lc)) := (fS20 (z + 5) (off_nr (x := z) (a := 5) (by decide))).trans hS17
                exact hret (some (.int (iI 1))) _ S20 _ _ _ _ hw (⟨_, _, rfl, rfl, hS20, e21, hre9, fun bb hb0 hb1 => ((((fS20 bb hb0)).trans (fS17 bb hb1)).trans (fS7 bb hb1)).trans (fS5 bb hb1)⟩) ⟨_, rfl, by first | rfl | exact nn_nb _, dX9_addHeap_169⟩
              · refine lv_aload_n hc.1 hc.2.1 dX9_addHeap_152 rfl (lv_at hl 1 rfl) ?_
                refine nn_get hc hw e18 hiX9 rfl 8 (by decide) rfl lk50 dX9_addHeap_153 ?_
                refine lv_goto hc.1 hc.2.1 dX9_addHeap_156 (tgt := 165) (by decide) ?_
                have hre9 : relP (mRC) ((va_up (va_up (va_up rhp (3 * h).toNat la) ((3 * h) + 1).toNat lb) ((3 * h) + 2).toNat (((va_up (va_up rhp (3 * h).toNat la) ((3 * h) + 1).toNat lb) ((3 * h) + 2).toNat) + lc))) rst P1 := by rw [show (3 * h).toNat = 3 * h.toNat by omega, show (3 * h + 1).toNat = 3 * h.toNat + 1 by omega, show (3 * h + 2).toNat = 3 * h.toNat + 2 by omega]; first | (exfalso; omega) | (obtain ⟨P2, g1, g2⟩ := hfd9.1 (by omega); cases g1; rw [va_up_ne (va_up rhp (3 * h.toNat) la) lb (show 3 * h.toNat + 2 ≠ 3 * h.toNat + 1 by omega), va_up_ne rhp la (show 3 * h.toNat + 2 ≠ 3 * h.toNat by omega)]; exact g2) | (obtain ⟨P2, g1, g2⟩ := hnw9.1 (by omega); cases g1; rw [hend]; exact g2)
                refine nn_put hc hw e18 hiX9 tyX9 tyX9_ok nmX9 rfl 8 (by decide) (Nat.le_of_ble_eq_true rfl) lk50 rfl rfl rfl dX9_addHeap_165 (fun S22 H locs hS22 fS22 hw => ?_)
                have hS22 : S22 z = oO 9 [.ref (z + 1), .int (iI mLen), .int (iI mAt), .ref (z + 2), .ref (z + 3), .ref (z + 4), .ref (z + 5), .int (iI mHC), .int (iI mRC), .ref (z + 6), .ref (z + 7), .ref (z + 8), .int (iI mHS), .ref (z + 9), .ref (z + 10), .int (iI mJC), .int (iI mCh), .int (iI mVi)] := hS22
                refine nn_iconst hc dX9_addHeap_168 ?_
                have e23 : S22 (z + 5) = oI g 24 (va_up (va_up (va_up rhp (3 * h).toNat la) ((3 * h) + 1).toNat lb) ((3 * h) + 2).toNat (((va_up (va_up rhp (3 * h).toNat la) ((3 * h) + 1).toNat lb) ((3 * h) + 2).toNat) + lc)) := (fS22 (z + 5) (off_nr (x := z) (a := 5) (by decide))).trans hS17
                exact hret (some (.int (iI 1))) _ S22 _ _ _ _ hw (⟨_, _, rfl, rfl, hS22, e23, hre9, fun bb hb0 hb1 => ((((fS22 bb hb0)).trans (fS17 bb hb1)).trans (fS7 bb hb1)).trans (fS5 bb hb1)⟩) ⟨_, rfl, by first | rfl | exact nn_nb _, dX9_addHeap_169⟩
          · have hx2 : (3 * h + 2).toNat = 3 * h.toNat + 2 := by omega
            have hr2 : rhp (3 * h + 2).toNat = rhp (3 * h.toNat + 2) := by rw [hx2]
            have hrr2 := relP_rng hg0 hrel h.toNat (by omega)
            refine lv_aload_n hc.1 hc.2.1 dX9_addHeap_62 rfl (lv_at hl 1 rfl) ?_
            refine nn_get hc hw hz hiX9 rfl 6 (by decide) rfl lk22 dX9_addHeap_63 ?_
            refine nn_iconst hc dX9_addHeap_66 ?_
            refine lv_iload hc.1 hc.2.1 dX9_addHeap_67 (lv_at hl 0 rfl) ?_
            refine nn_imul hc dX9_addHeap_69 ?_
            refine nn_iconst hc dX9_addHeap_70 ?_
            refine nn_iadd hc dX9_addHeap_71 ?_
            refine nn_iald hc hw hrhp (by omega) (by omega) dX9_addHeap_72 ?_
            refine lv_iload_n hc.1 hc.2.1 dX9_addHeap_73 rfl (lv_at hl 4 rfl) ?_
            refine nn_iadd hc dX9_addHeap_74 ?_
            refine nn_sipush hc dX9_addHeap_75 (by decide +kernel) ?_
            refine nn_icmp_le hc dX9_addHeap_78 (tgt := 83) (by decide) (by omega) (by decide) (fun c24 => ?_) (fun c24 => ?_)
            · refine lv_aload_n hc.1 hc.2.1 dX9_addHeap_83 rfl (lv_at hl 1 rfl) ?_
              refine nn_get hc hw hz hiX9 rfl 6 (by decide) rfl lk22 dX9_addHeap_84 ?_
              refine nn_iconst hc dX9_addHeap_87 ?_
              refine lv_iload hc.1 hc.2.1 dX9_addHeap_88 (lv_at hl 0 rfl) ?_
              refine nn_imul hc dX9_addHeap_90 ?_
              refine lv_iload_n hc.1 hc.2.1 dX9_addHeap_91 rfl (lv_at hl 2 rfl) ?_
              refine nn_iast hc hw hrhp (by omega) (by omega) dX9_addHeap_92 (fun S25 H locs hS25 fS25 hw => ?_)
              refine lv_aload_n hc.1 hc.2.1 dX9_addHeap_93 rfl (lv_at hl 1 rfl) ?_
              have e26 : S25 z = oO 9 [.ref (z + 1), .int (iI mLen), .int (iI mAt), .ref (z + 2), .ref (z + 3), .ref (z + 4), .ref (z + 5), .int (iI mHC), .int (iI mRC), .ref (z + 6), .ref (z + 7), .ref (z + 8), .int (iI mHS), .ref (z + 9), .ref (z + 10), .int (iI mJC), .int (iI mCh), .int (iI mVi)] := (fS25 z (off_nl (x := z) (a := 5) (by decide))).trans hz
              refine nn_get hc hw e26 hiX9 rfl 6 (by decide) rfl lk22 dX9_addHeap_94 ?_
              refine nn_iconst hc dX9_addHeap_97 ?_
              refine lv_iload hc.1 hc.2.1 dX9_addHeap_98 (lv_at hl 0 rfl) ?_
              refine nn_imul hc dX9_addHeap_100 ?_
              refine nn_iconst hc dX9_addHeap_101 ?_
              refine nn_iadd hc dX9_addHeap_102 ?_
              refine lv_iload_n hc.1 hc.2.1 dX9_addHeap_103 rfl (lv_at hl 3 rfl) ?_
              refine nn_iast hc hw hS25 (by omega) (by omega) dX9_addHeap_104 (fun S27 H locs hS27 fS27 hw => ?_)
              refine lv_aload_n hc.1 hc.2.1 dX9_addHeap_105 rfl (lv_at hl 1 rfl) ?_
              have e28 : S27 z = oO 9 [.ref (z + 1), .int (iI mLen), .int (iI mAt), .ref (z + 2), .ref (z + 3), .ref (z + 4), .ref (z + 5), .int (iI mHC), .int (iI mRC), .ref (z + 6), .ref (z + 7), .ref (z + 8), .int (iI mHS), .ref (z + 9), .ref (z + 10), .int (iI mJC), .int (iI mCh), .int (iI mVi)] := (fS27 z (off_nl (x := z) (a := 5) (by decide))).trans e26
              refine nn_get hc hw e28 hiX9 rfl 6 (by decide) rfl lk22 dX9_addHeap_106 ?_
              refine nn_iconst hc dX9_addHeap_109 ?_
              refine lv_iload hc.1 hc.2.1 dX9_addHeap_110 (lv_at hl 0 rfl) ?_
              refine nn_imul hc dX9_addHeap_112 ?_
              refine nn_iconst hc dX9_addHeap_113 ?_
              refine nn_iadd hc dX9_addHeap_114 ?_
              refine lv_iload hc.1 hc.2.1 dX9_addHeap_115 (lv_at hl 0 rfl) ?_
              refine lv_aload_n hc.1 hc.2.1 dX9_addHeap_117 rfl (lv_at hl 1 rfl) ?_
              refine nn_get hc hw e28 hiX9 rfl 8 (by decide) rfl lk50 dX9_addHeap_118 ?_
              refine nn_icmp_ge hc dX9_addHeap_121 (tgt := 140) (by decide) (by omega) (by omega) (fun c29 => ?_) (fun c29 => ?_)
              · refine lv_iload_n hc.1 hc.2.1 dX9_addHeap_140 rfl (lv_at hl 4 rfl) ?_
                refine nn_iast hc hw hS27 (by omega) (by omega) dX9_addHeap_141 (fun S30 H locs hS30 fS30 hw => ?_)
                refine lv_aload_n hc.1 hc.2.1 dX9_addHeap_142 rfl (lv_at hl 1 rfl) ?_
                refine lv_iload hc.1 hc.2.1 dX9_addHeap_143 (lv_at hl 0 rfl) ?_
                refine lv_aload_n hc.1 hc.2.1 dX9_addHeap_145 rfl (lv_at hl 1 rfl) ?_
                have e31 : S30 z = oO 9 [.ref (z + 1), .int (iI mLen), .int (iI mAt), .ref (z + 2), .ref (z + 3), .ref (z + 4), .ref (z + 5), .int (iI mHC), .int (iI mRC), .ref (z + 6), .ref (z + 7), .ref (z + 8), .int (iI mHS), .ref (z + 9), .ref (z + 10), .int (iI mJC), .int (iI mCh), .int (iI mVi)] := (fS30 z (off_nl (x := z) (a := 5) (by decide))).trans e28
                refine nn_get hc hw e31 hiX9 rfl 8 (by decide) rfl lk50 dX9_addHeap_146 ?_
                refine nn_icmp_ge hc dX9_addHeap_149 (tgt := 159) (by decide) (by omega) (by omega) (fun c32 => ?_) (fun c32 => ?_)
                · refine lv_aload_n hc.1 hc.2.1 dX9_addHeap_159 rfl (lv_at hl 1 rfl) ?_
                  refine nn_get hc hw e31 hiX9 rfl 8 (by decide) rfl lk50 dX9_addHeap_160 ?_
                  refine nn_iconst hc dX9_addHeap_163 ?_
                  refine nn_iadd hc dX9_addHeap_164 ?_
                  have hre9 : relP ((mRC + 1)) ((va_up (va_up (va_up rhp (3 * h).toNat la) ((3 * h) + 1).toNat lb) ((3 * h) + 2).toNat lc)) rst P1 := by rw [show (3 * h).toNat = 3 * h.toNat by omega, show (3 * h + 1).toNat = 3 * h.toNat + 1 by omega, show (3 * h + 2).toNat = 3 * h.toNat + 2 by omega]; first | (exfalso; omega) | (obtain ⟨P2, g1, g2⟩ := hfd9.1 (by omega); cases g1; rw [va_up_ne (va_up rhp (3 * h.toNat) la) lb (show 3 * h.toNat + 2 ≠ 3 * h.toNat + 1 by omega), va_up_ne rhp la (show 3 * h.toNat + 2 ≠ 3 * h.toNat by omega)]; exact g2) | (obtain ⟨P2, g1, g2⟩ := hnw9.1 (by omega); cases g1; rw [hend]; exact g2)
                  refine nn_put hc hw e31 hiX9 tyX9 tyX9_ok nmX9 rfl 8 (by decide) (Nat.le_of_ble_eq_true rfl) lk50 rfl rfl rfl dX9_addHeap_165 (fun S33 H locs hS33 fS33 hw => ?_)
                  have hS33 : S33 z = oO 9 [.ref (z + 1), .int (iI mLen), .int (iI mAt), .ref (z + 2), .ref (z + 3), .ref (z + 4), .ref (z + 5), .int (iI mHC), .int (iI (mRC + 1)), .ref (z + 6), .ref (z + 7), .ref (z + 8), .int (iI mHS), .ref (z + 9), .ref (z + 10), .int (iI mJC), .int (iI mCh), .int (iI mVi)] := hS33
                  refine nn_iconst hc dX9_addHeap_168 ?_
                  have e34 : S33 (z + 5) = oI g 24 (va_up (va_up (va_up rhp (3 * h).toNat la) ((3 * h) + 1).toNat lb) ((3 * h) + 2).toNat lc) := (fS33 (z + 5) (off_nr (x := z) (a := 5) (by decide))).trans hS30
                  exact hret (some (.int (iI 1))) _ S33 _ _ _ _ hw (⟨_, _, rfl, rfl, hS33, e34, hre9, fun bb hb0 hb1 => ((((fS33 bb hb0)).trans (fS30 bb hb1)).trans (fS27 bb hb1)).trans (fS25 bb hb1)⟩) ⟨_, rfl, by first | rfl | exact nn_nb _, dX9_addHeap_169⟩
                · refine lv_aload_n hc.1 hc.2.1 dX9_addHeap_152 rfl (lv_at hl 1 rfl) ?_
                  refine nn_get hc hw e31 hiX9 rfl 8 (by decide) rfl lk50 dX9_addHeap_153 ?_
                  refine lv_goto hc.1 hc.2.1 dX9_addHeap_156 (tgt := 165) (by decide) ?_
                  have hre9 : relP (mRC) ((va_up (va_up (va_up rhp (3 * h).toNat la) ((3 * h) + 1).toNat lb) ((3 * h) + 2).toNat lc)) rst P1 := by rw [show (3 * h).toNat = 3 * h.toNat by omega, show (3 * h + 1).toNat = 3 * h.toNat + 1 by omega, show (3 * h + 2).toNat = 3 * h.toNat + 2 by omega]; first | (exfalso; omega) | (obtain ⟨P2, g1, g2⟩ := hfd9.1 (by omega); cases g1; rw [va_up_ne (va_up rhp (3 * h.toNat) la) lb (show 3 * h.toNat + 2 ≠ 3 * h.toNat + 1 by omega), va_up_ne rhp la (show 3 * h.toNat + 2 ≠ 3 * h.toNat by omega)]; exact g2) | (obtain ⟨P2, g1, g2⟩ := hnw9.1 (by omega); cases g1; rw [hend]; exact g2)
                  refine nn_put hc hw e31 hiX9 tyX9 tyX9_ok nmX9 rfl 8 (by decide) (Nat.le_of_ble_eq_true rfl) lk50 rfl rfl rfl dX9_addHeap_165 (fun S35 H locs hS35 fS35 hw => ?_)
                  have hS35 : S35 z = oO 9 [.ref (z + 1), .int (iI mLen), .int (iI mAt), .ref (z + 2), .ref (z + 3), .ref (z + 4), .ref (z + 5), .int (iI mHC), .int (iI mRC), .ref (z + 6), .ref (z + 7), .ref (z + 8), .int (iI mHS), .ref (z + 9), .ref (z + 10), .int (iI mJC), .int (iI mCh), .int (iI mVi)] := hS35
                  refine nn_iconst hc dX9_addHeap_168 ?_
                  have e36 : S35 (z + 5) = oI g 24 (va_up (va_up (va_up rhp (3 * h).toNat la) ((3 * h) + 1).toNat lb) ((3 * h) + 2).toNat lc) := (fS35 (z + 5) (off_nr (x := z) (a := 5) (by decide))).trans hS30
                  exact hret (some (.int (iI 1))) _ S35 _ _ _ _ hw (⟨_, _, rfl, rfl, hS35, e36, hre9, fun bb hb0 hb1 => ((((fS35 bb hb0)).trans (fS30 bb hb1)).trans (fS27 bb hb1)).trans (fS25 bb hb1)⟩) ⟨_, rfl, by first | rfl | exact nn_nb _, dX9_addHeap_169⟩
              · refine lv_aload_n hc.1 hc.2.1 dX9_addHeap_124 rfl (lv_at hl 1 rfl) ?_
                refine nn_get hc hw e28 hiX9 rfl 6 (by decide) rfl lk22 dX9_addHeap_125 ?_
                refine nn_iconst hc dX9_addHeap_128 ?_
                refine lv_iload hc.1 hc.2.1 dX9_addHeap_129 (lv_at hl 0 rfl) ?_
                refine nn_imul hc dX9_addHeap_131 ?_
                refine nn_iconst hc dX9_addHeap_132 ?_
                refine nn_iadd hc dX9_addHeap_133 ?_
                refine nn_iald hc hw hS27 (by omega) (by omega) dX9_addHeap_134 ?_
                refine lv_iload_n hc.1 hc.2.1 dX9_addHeap_135 rfl (lv_at hl 4 rfl) ?_
                refine nn_iadd hc dX9_addHeap_136 ?_
                refine lv_goto hc.1 hc.2.1 dX9_addHeap_137 (tgt := 141) (by decide) ?_
                refine nn_iast hc hw hS27 (by omega) (by omega) dX9_addHeap_141 (fun S37 H locs hS37 fS37 hw => ?_)
                refine lv_aload_n hc.1 hc.2.1 dX9_addHeap_142 rfl (lv_at hl 1 rfl) ?_
                refine lv_iload hc.1 hc.2.1 dX9_addHeap_143 (lv_at hl 0 rfl) ?_
                refine lv_aload_n hc.1 hc.2.1 dX9_addHeap_145 rfl (lv_at hl 1 rfl) ?_
                have e38 : S37 z = oO 9 [.ref (z + 1), .int (iI mLen), .int (iI mAt), .ref (z + 2), .ref (z + 3), .ref (z + 4), .ref (z + 5), .int (iI mHC), .int (iI mRC), .ref (z + 6), .ref (z + 7), .ref (z + 8), .int (iI mHS), .ref (z + 9), .ref (z + 10), .int (iI mJC), .int (iI mCh), .int (iI mVi)] := (fS37 z (off_nl (x := z) (a := 5) (by decide))).trans e28
                refine nn_get hc hw e38 hiX9 rfl 8 (by decide) rfl lk50 dX9_addHeap_146 ?_
                refine nn_icmp_ge hc dX9_addHeap_149 (tgt := 159) (by decide) (by omega) (by omega) (fun c39 => ?_) (fun c39 => ?_)
                · refine lv_aload_n hc.1 hc.2.1 dX9_addHeap_159 rfl (lv_at hl 1 rfl) ?_
                  refine nn_get hc hw e38 hiX9 rfl 8 (by decide) rfl lk50 dX9_addHeap_160 ?_
                  refine nn_iconst hc dX9_addHeap_163 ?_
                  refine nn_iadd hc dX9_addHeap_164 ?_
                  have hre9 : relP ((mRC + 1)) ((va_up (va_up (va_up rhp (3 * h).toNat la) ((3 * h) + 1).toNat lb) ((3 * h) + 2).toNat (((va_up (va_up rhp (3 * h).toNat la) ((3 * h) + 1).toNat lb) ((3 * h) + 2).toNat) + lc))) rst P1 := by rw [show (3 * h).toNat = 3 * h.toNat by omega, show (3 * h + 1).toNat = 3 * h.toNat + 1 by omega, show (3 * h + 2).toNat = 3 * h.toNat + 2 by omega]; first | (exfalso; omega) | (obtain ⟨P2, g1, g2⟩ := hfd9.1 (by omega); cases g1; rw [va_up_ne (va_up rhp (3 * h.toNat) la) lb (show 3 * h.toNat + 2 ≠ 3 * h.toNat + 1 by omega), va_up_ne rhp la (show 3 * h.toNat + 2 ≠ 3 * h.toNat by omega)]; exact g2) | (obtain ⟨P2, g1, g2⟩ := hnw9.1 (by omega); cases g1; rw [hend]; exact g2)
                  refine nn_put hc hw e38 hiX9 tyX9 tyX9_ok nmX9 rfl 8 (by decide) (Nat.le_of_ble_eq_true rfl) lk50 rfl rfl rfl dX9_addHeap_165 (fun S40 H locs hS40 fS40 hw => ?_)
                  have hS40 : S40 z = oO 9 [.ref (z + 1), .int (iI mLen), .int (iI mAt), .ref (z + 2), .ref (z + 3), .ref (z + 4), .ref (z + 5), .int (iI mHC), .int (iI (mRC + 1)), .ref (z + 6), .ref (z + 7), .ref (z + 8), .int (iI mHS), .ref (z + 9), .ref (z + 10), .int (iI mJC), .int (iI mCh), .int (iI mVi)] := hS40
                  refine nn_iconst hc dX9_addHeap_168 ?_
                  have e41 : S40 (z + 5) = oI g 24 (va_up (va_up (va_up rhp (3 * h).toNat la) ((3 * h) + 1).toNat lb) ((3 * h) + 2).toNat (((va_up (va_up rhp (3 * h).toNat la) ((3 * h) + 1).toNat lb) ((3 * h) + 2).toNat) + lc)) := (fS40 (z + 5) (off_nr (x := z) (a := 5) (by decide))).trans hS37
                  exact hret (some (.int (iI 1))) _ S40 _ _ _ _ hw (⟨_, _, rfl, rfl, hS40, e41, hre9, fun bb hb0 hb1 => ((((fS40 bb hb0)).trans (fS37 bb hb1)).trans (fS27 bb hb1)).trans (fS25 bb hb1)⟩) ⟨_, rfl, by first | rfl | exact nn_nb _, dX9_addHeap_169⟩
                · refine lv_aload_n hc.1 hc.2.1 dX9_addHeap_152 rfl (lv_at hl 1 rfl) ?_
                  refine nn_get hc hw e38 hiX9 rfl 8 (by decide) rfl lk50 dX9_addHeap_153 ?_
                  refine lv_goto hc.1 hc.2.1 dX9_addHeap_156 (tgt := 165) (by decide) ?_
                  have hre9 : relP (mRC) ((va_up (va_up (va_up rhp (3 * h).toNat la) ((3 * h) + 1).toNat lb) ((3 * h) + 2).toNat (((va_up (va_up rhp (3 * h).toNat la) ((3 * h) + 1).toNat lb) ((3 * h) + 2).toNat) + lc))) rst P1 := by rw [show (3 * h).toNat = 3 * h.toNat by omega, show (3 * h + 1).toNat = 3 * h.toNat + 1 by omega, show (3 * h + 2).toNat = 3 * h.toNat + 2 by omega]; first | (exfalso; omega) | (obtain ⟨P2, g1, g2⟩ := hfd9.1 (by omega); cases g1; rw [va_up_ne (va_up rhp (3 * h.toNat) la) lb (show 3 * h.toNat + 2 ≠ 3 * h.toNat + 1 by omega), va_up_ne rhp la (show 3 * h.toNat + 2 ≠ 3 * h.toNat by omega)]; exact g2) | (obtain ⟨P2, g1, g2⟩ := hnw9.1 (by omega); cases g1; rw [hend]; exact g2)
                  refine nn_put hc hw e38 hiX9 tyX9 tyX9_ok nmX9 rfl 8 (by decide) (Nat.le_of_ble_eq_true rfl) lk50 rfl rfl rfl dX9_addHeap_165 (fun S42 H locs hS42 fS42 hw => ?_)
                  have hS42 : S42 z = oO 9 [.ref (z + 1), .int (iI mLen), .int (iI mAt), .ref (z + 2), .ref (z + 3), .ref (z + 4), .ref (z + 5), .int (iI mHC), .int (iI mRC), .ref (z + 6), .ref (z + 7), .ref (z + 8), .int (iI mHS), .ref (z + 9), .ref (z + 10), .int (iI mJC), .int (iI mCh), .int (iI mVi)] := hS42
                  refine nn_iconst hc dX9_addHeap_168 ?_
                  have e43 : S42 (z + 5) = oI g 24 (va_up (va_up (va_up rhp (3 * h).toNat la) ((3 * h) + 1).toNat lb) ((3 * h) + 2).toNat (((va_up (va_up rhp (3 * h).toNat la) ((3 * h) + 1).toNat lb) ((3 * h) + 2).toNat) + lc)) := (fS42 (z + 5) (off_nr (x := z) (a := 5) (by decide))).trans hS37
                  exact hret (some (.int (iI 1))) _ S42 _ _ _ _ hw (⟨_, _, rfl, rfl, hS42, e43, hre9, fun bb hb0 hb1 => ((((fS42 bb hb0)).trans (fS37 bb hb1)).trans (fS27 bb hb1)).trans (fS25 bb hb1)⟩) ⟨_, rfl, by first | rfl | exact nn_nb _, dX9_addHeap_169⟩
            · exfalso; first | (have q9 := hfd9.2 (by omega); cases q9) | omega
      · have hx0 : (3 * h).toNat = 3 * h.toNat := by omega
        have hx1 : (3 * h + 1).toNat = 3 * h.toNat + 1 := by omega
        have hrr := relP_rng hg0 hrel h.toNat (by omega)
        have hr0 : rhp (3 * h).toNat = rhp (3 * h.toNat) := by rw [hx0]
        have hr1 : rhp (3 * h + 1).toNat = rhp (3 * h.toNat + 1) := by rw [hx1]
        refine lv_aload_n hc.1 hc.2.1 dX9_addHeap_12 rfl (lv_at hl 1 rfl) ?_
        refine nn_get hc hw hz hiX9 rfl 6 (by decide) rfl lk22 dX9_addHeap_13 ?_
        refine nn_iconst hc dX9_addHeap_16 ?_
        refine lv_iload hc.1 hc.2.1 dX9_addHeap_17 (lv_at hl 0 rfl) ?_
        refine nn_imul hc dX9_addHeap_19 ?_
        refine nn_iald hc hw hrhp (by omega) (by omega) dX9_addHeap_20 ?_
        refine lv_iload_n hc.1 hc.2.1 dX9_addHeap_21 rfl (lv_at hl 2 rfl) ?_
        refine nn_icmp_ne hc dX9_addHeap_22 (tgt := 40) (by decide) (by omega) (by omega) (fun c44 => ?_) (fun c44 => ?_)
        · refine nn_iinc (lv' := [(4, .int (iI (h + 1))), (0, .ref z), (1, .int (iI la)), (2, .int (iI lb)), (3, .int (iI lc))]) hc dX9_addHeap_40 hl (k0 := 0) rfl (by decide) rfl (fun ls hl => ?_)
          refine lv_goto hc.1 hc.2.1 dX9_addHeap_43 (tgt := 3) (by decide) ?_
          exact ih3 (h + 1) _ _ _ (by omega) (fun i hi => by by_cases e9 : i = h.toNat; (rw [e9]; omega); exact hno i (by omega)) hw (by omega) (lv_sub hl [0, 1, 2, 3, 4] rfl)
        · refine lv_aload_n hc.1 hc.2.1 dX9_addHeap_25 rfl (lv_at hl 1 rfl) ?_
          refine nn_get hc hw hz hiX9 rfl 6 (by decide) rfl lk22 dX9_addHeap_26 ?_
          refine nn_iconst hc dX9_addHeap_29 ?_
          refine lv_iload hc.1 hc.2.1 dX9_addHeap_30 (lv_at hl 0 rfl) ?_
          refine nn_imul hc dX9_addHeap_32 ?_
          refine nn_iconst hc dX9_addHeap_33 ?_
          refine nn_iadd hc dX9_addHeap_34 ?_
          refine nn_iald hc hw hrhp (by omega) (by omega) dX9_addHeap_35 ?_
          refine lv_iload_n hc.1 hc.2.1 dX9_addHeap_36 rfl (lv_at hl 3 rfl) ?_
          refine nn_icmp_eq hc dX9_addHeap_37 (tgt := 46) (by decide) (by omega) (by omega) (fun c45 => ?_) (fun c45 => ?_)
          · have hfd := fun c9 => addC_found (c := c9) hg0 hrel (h := h.toNat) (by omega) (by omega : rhp (3 * h.toNat) = la) (by omega : rhp (3 * h.toNat + 1) = lb)
            have hfd9 := hfd lc
            rw [hadd] at hfd9
            have hrr9 := relP_rng hg0 hrel h.toNat (by omega)
            refine lv_iload hc.1 hc.2.1 dX9_addHeap_46 (lv_at hl 0 rfl) ?_
            refine nn_bipush hc dX9_addHeap_48 (by decide +kernel) ?_
            refine nn_icmp_eq hc dX9_addHeap_50 (tgt := 81) (by decide) (by omega) (by decide) (fun c46 => ?_) (fun c46 => ?_)
            · exfalso; first | (have q9 := hnw9.2 (by omega); cases q9) | omega
            · refine lv_iload hc.1 hc.2.1 dX9_addHeap_53 (lv_at hl 0 rfl) ?_
              refine lv_aload_n hc.1 hc.2.1 dX9_addHeap_55 rfl (lv_at hl 1 rfl) ?_
              refine nn_get hc hw hz hiX9 rfl 8 (by decide) rfl lk50 dX9_addHeap_56 ?_
              refine nn_icmp_ge hc dX9_addHeap_59 (tgt := 83) (by decide) (by omega) (by omega) (fun c47 => ?_) (fun c47 => ?_)
              · refine lv_aload_n hc.1 hc.2.1 dX9_addHeap_83 rfl (lv_at hl 1 rfl) ?_
                refine nn_get hc hw hz hiX9 rfl 6 (by decide) rfl lk22 dX9_addHeap_84 ?_
                refine nn_iconst hc dX9_addHeap_87 ?_
                refine lv_iload hc.1 hc.2.1 dX9_addHeap_88 (lv_at hl 0 rfl) ?_
                refine nn_imul hc dX9_addHeap_90 ?_
                refine lv_iload_n hc.1 hc.2.1 dX9_addHeap_91 rfl (lv_at hl 2 rfl) ?_
                refine nn_iast hc hw hrhp (by omega) (by omega) dX9_addHeap_92 (fun S48 H locs hS48 fS48 hw => ?_)
                refine lv_aload_n hc.1 hc.2.1 dX9_addHeap_93 rfl (lv_at hl 1 rfl) ?_
                have e49 : S48 z = oO 9 [.ref (z + 1), .int (iI mLen), .int (iI mAt), .ref (z + 2), .ref (z + 3), .ref (z + 4), .ref (z + 5), .int (iI mHC), .int (iI mRC), .ref (z + 6), .ref (z + 7), .ref (z + 8), .int (iI mHS), .ref (z + 9), .ref (z + 10), .int (iI mJC), .int (iI mCh), .int (iI mVi)] := (fS48 z (off_nl (x := z) (a := 5) (by decide))).trans hz
                refine nn_get hc hw e49 hiX9 rfl 6 (by decide) rfl lk22 dX9_addHeap_94 ?_
                refine nn_iconst hc dX9_addHeap_97 ?_
                refine lv_iload hc.1 hc.2.1 dX9_addHeap_98 (lv_at hl 0 rfl) ?_
                refine nn_imul hc dX9_addHeap_100 ?_
                refine nn_iconst hc dX9_addHeap_101 ?_
                refine nn_iadd hc dX9_addHeap_102 ?_
                refine lv_iload_n hc.1 hc.2.1 dX9_addHeap_103 rfl (lv_at hl 3 rfl) ?_
                refine nn_iast hc hw hS48 (by omega) (by omega) dX9_addHeap_104 (fun S50 H locs hS50 fS50 hw => ?_)
                refine lv_aload_n hc.1 hc.2.1 dX9_addHeap_105 rfl (lv_at hl 1 rfl) ?_
                have e51 : S50 z = oO 9 [.ref (z + 1), .int (iI mLen), .int (iI mAt), .ref (z + 2), .ref (z + 3), .ref (z + 4), .ref (z + 5), .int (iI mHC), .int (iI mRC), .ref (z + 6), .ref (z + 7), .ref (z + 8), .int (iI mHS), .ref (z + 9), .ref (z + 10), .int (iI mJC), .int (iI mCh), .int (iI mVi)] := (fS50 z (off_nl (x := z) (a := 5) (by decide))).trans e49
                refine nn_get hc hw e51 hiX9 rfl 6 (by decide) rfl lk22 dX9_addHeap_106 ?_
                refine nn_iconst hc dX9_addHeap_109 ?_
                refine lv_iload hc.1 hc.2.1 dX9_addHeap_110 (lv_at hl 0 rfl) ?_
                refine nn_imul hc dX9_addHeap_112 ?_
                refine nn_iconst hc dX9_addHeap_113 ?_
                refine nn_iadd hc dX9_addHeap_114 ?_
                refine lv_iload hc.1 hc.2.1 dX9_addHeap_115 (lv_at hl 0 rfl) ?_
                refine lv_aload_n hc.1 hc.2.1 dX9_addHeap_117 rfl (lv_at hl 1 rfl) ?_
                refine nn_get hc hw e51 hiX9 rfl 8 (by decide) rfl lk50 dX9_addHeap_118 ?_
                refine nn_icmp_ge hc dX9_addHeap_121 (tgt := 140) (by decide) (by omega) (by omega) (fun c52 => ?_) (fun c52 => ?_)
                · refine lv_iload_n hc.1 hc.2.1 dX9_addHeap_140 rfl (lv_at hl 4 rfl) ?_
                  refine nn_iast hc hw hS50 (by omega) (by omega) dX9_addHeap_141 (fun S53 H locs hS53 fS53 hw => ?_)
                  refine lv_aload_n hc.1 hc.2.1 dX9_addHeap_142 rfl (lv_at hl 1 rfl) ?_
                  refine lv_iload hc.1 hc.2.1 dX9_addHeap_143 (lv_at hl 0 rfl) ?_
                  refine lv_aload_n hc.1 hc.2.1 dX9_addHeap_145 rfl (lv_at hl 1 rfl) ?_
                  have e54 : S53 z = oO 9 [.ref (z + 1), .int (iI mLen), .int (iI mAt), .ref (z + 2), .ref (z + 3), .ref (z + 4), .ref (z + 5), .int (iI mHC), .int (iI mRC), .ref (z + 6), .ref (z + 7), .ref (z + 8), .int (iI mHS), .ref (z + 9), .ref (z + 10), .int (iI mJC), .int (iI mCh), .int (iI mVi)] := (fS53 z (off_nl (x := z) (a := 5) (by decide))).trans e51
                  refine nn_get hc hw e54 hiX9 rfl 8 (by decide) rfl lk50 dX9_addHeap_146 ?_
                  refine nn_icmp_ge hc dX9_addHeap_149 (tgt := 159) (by decide) (by omega) (by omega) (fun c55 => ?_) (fun c55 => ?_)
                  · refine lv_aload_n hc.1 hc.2.1 dX9_addHeap_159 rfl (lv_at hl 1 rfl) ?_
                    refine nn_get hc hw e54 hiX9 rfl 8 (by decide) rfl lk50 dX9_addHeap_160 ?_
                    refine nn_iconst hc dX9_addHeap_163 ?_
                    refine nn_iadd hc dX9_addHeap_164 ?_
                    have hre9 : relP ((mRC + 1)) ((va_up (va_up (va_up rhp (3 * h).toNat la) ((3 * h) + 1).toNat lb) ((3 * h) + 2).toNat lc)) rst P1 := by rw [show (3 * h).toNat = 3 * h.toNat by omega, show (3 * h + 1).toNat = 3 * h.toNat + 1 by omega, show (3 * h + 2).toNat = 3 * h.toNat + 2 by omega]; first | (exfalso; omega) | (obtain ⟨P2, g1, g2⟩ := hfd9.1 (by omega); cases g1; rw [va_up_ne (va_up rhp (3 * h.toNat) la) lb (show 3 * h.toNat + 2 ≠ 3 * h.toNat + 1 by omega), va_up_ne rhp la (show 3 * h.toNat + 2 ≠ 3 * h.toNat by omega)]; exact g2) | (obtain ⟨P2, g1, g2⟩ := hnw9.1 (by omega); cases g1; rw [hend]; exact g2)
                    refine nn_put hc hw e54 hiX9 tyX9 tyX9_ok nmX9 rfl 8 (by decide) (Nat.le_of_ble_eq_true rfl) lk50 rfl rfl rfl dX9_addHeap_165 (fun S56 H locs hS56 fS56 hw => ?_)
                    have hS56 : S56 z = oO 9 [.ref (z + 1), .int (iI mLen), .int (iI mAt), .ref (z + 2), .ref (z + 3), .ref (z + 4), .ref (z + 5), .int (iI mHC), .int (iI (mRC + 1)), .ref (z + 6), .ref (z + 7), .ref (z + 8), .int (iI mHS), .ref (z + 9), .ref (z + 10), .int (iI mJC), .int (iI mCh), .int (iI mVi)] := hS56
                    refine nn_iconst hc dX9_addHeap_168 ?_
                    have e57 : S56 (z + 5) = oI g 24 (va_up (va_up (va_up rhp (3 * h).toNat la) ((3 * h) + 1).toNat lb) ((3 * h) + 2).toNat lc) := (fS56 (z + 5) (off_nr (x := z) (a := 5) (by decide))).trans hS53
                    exact hret (some (.int (iI 1))) _ S56 _ _ _ _ hw (⟨_, _, rfl, rfl, hS56, e57, hre9, fun bb hb0 hb1 => ((((fS56 bb hb0)).trans (fS53 bb hb1)).trans (fS50 bb hb1)).trans (fS48 bb hb1)⟩) ⟨_, rfl, by first | rfl | exact nn_nb _, dX9_addHeap_169⟩
                  · refine lv_aload_n hc.1 hc.2.1 dX9_addHeap_152 rfl (lv_at hl 1 rfl) ?_
                    refine nn_get hc hw e54 hiX9 rfl 8 (by decide) rfl lk50 dX9_addHeap_153 ?_
                    refine lv_goto hc.1 hc.2.1 dX9_addHeap_156 (tgt := 165) (by decide) ?_
                    have hre9 : relP (mRC) ((va_up (va_up (va_up rhp (3 * h).toNat la) ((3 * h) + 1).toNat lb) ((3 * h) + 2).toNat lc)) rst P1 := by rw [show (3 * h).toNat = 3 * h.toNat by omega, show (3 * h + 1).toNat = 3 * h.toNat + 1 by omega, show (3 * h + 2).toNat = 3 * h.toNat + 2 by omega]; first | (exfalso; omega) | (obtain ⟨P2, g1, g2⟩ := hfd9.1 (by omega); cases g1; rw [va_up_ne (va_up rhp (3 * h.toNat) la) lb (show 3 * h.toNat + 2 ≠ 3 * h.toNat + 1 by omega), va_up_ne rhp la (show 3 * h.toNat + 2 ≠ 3 * h.toNat by omega)]; exact g2) | (obtain ⟨P2, g1, g2⟩ := hnw9.1 (by omega); cases g1; rw [hend]; exact g2)
                    refine nn_put hc hw e54 hiX9 tyX9 tyX9_ok nmX9 rfl 8 (by decide) (Nat.le_of_ble_eq_true rfl) lk50 rfl rfl rfl dX9_addHeap_165 (fun S58 H locs hS58 fS58 hw => ?_)
                    have hS58 : S58 z = oO 9 [.ref (z + 1), .int (iI mLen), .int (iI mAt), .ref (z + 2), .ref (z + 3), .ref (z + 4), .ref (z + 5), .int (iI mHC), .int (iI mRC), .ref (z + 6), .ref (z + 7), .ref (z + 8), .int (iI mHS), .ref (z + 9), .ref (z + 10), .int (iI mJC), .int (iI mCh), .int (iI mVi)] := hS58
                    refine nn_iconst hc dX9_addHeap_168 ?_
                    have e59 : S58 (z + 5) = oI g 24 (va_up (va_up (va_up rhp (3 * h).toNat la) ((3 * h) + 1).toNat lb) ((3 * h) + 2).toNat lc) := (fS58 (z + 5) (off_nr (x := z) (a := 5) (by decide))).trans hS53
                    exact hret (some (.int (iI 1))) _ S58 _ _ _ _ hw (⟨_, _, rfl, rfl, hS58, e59, hre9, fun bb hb0 hb1 => ((((fS58 bb hb0)).trans (fS53 bb hb1)).trans (fS50 bb hb1)).trans (fS48 bb hb1)⟩) ⟨_, rfl, by first | rfl | exact nn_nb _, dX9_addHeap_169⟩
                · refine lv_aload_n hc.1 hc.2.1 dX9_addHeap_124 rfl (lv_at hl 1 rfl) ?_
                  refine nn_get hc hw e51 hiX9 rfl 6 (by decide) rfl lk22 dX9_addHeap_125 ?_
                  refine nn_iconst hc dX9_addHeap_128 ?_
                  refine lv_iload hc.1 hc.2.1 dX9_addHeap_129 (lv_at hl 0 rfl) ?_
                  refine nn_imul hc dX9_addHeap_131 ?_
                  refine nn_iconst hc dX9_addHeap_132 ?_
                  refine nn_iadd hc dX9_addHeap_133 ?_
                  refine nn_iald hc hw hS50 (by omega) (by omega) dX9_addHeap_134 ?_
                  refine lv_iload_n hc.1 hc.2.1 dX9_addHeap_135 rfl (lv_at hl 4 rfl) ?_
                  refine nn_iadd hc dX9_addHeap_136 ?_
                  refine lv_goto hc.1 hc.2.1 dX9_addHeap_137 (tgt := 141) (by decide) ?_
                  refine nn_iast hc hw hS50 (by omega) (by omega) dX9_addHeap_141 (fun S60 H locs hS60 fS60 hw => ?_)
                  refine lv_aload_n hc.1 hc.2.1 dX9_addHeap_142 rfl (lv_at hl 1 rfl) ?_
                  refine lv_iload hc.1 hc.2.1 dX9_addHeap_143 (lv_at hl 0 rfl) ?_
                  refine lv_aload_n hc.1 hc.2.1 dX9_addHeap_145 rfl (lv_at hl 1 rfl) ?_
                  have e61 : S60 z = oO 9 [.ref (z + 1), .int (iI mLen), .int (iI mAt), .ref (z + 2), .ref (z + 3), .ref (z + 4), .ref (z + 5), .int (iI mHC), .int (iI mRC), .ref (z + 6), .ref (z + 7), .ref (z + 8), .int (iI mHS), .ref (z + 9), .ref (z + 10), .int (iI mJC), .int (iI mCh), .int (iI mVi)] := (fS60 z (off_nl (x := z) (a := 5) (by decide))).trans e51
                  refine nn_get hc hw e61 hiX9 rfl 8 (by decide) rfl lk50 dX9_addHeap_146 ?_
                  refine nn_icmp_ge hc dX9_addHeap_149 (tgt := 159) (by decide) (by omega) (by omega) (fun c62 => ?_) (fun c62 => ?_)
                  · refine lv_aload_n hc.1 hc.2.1 dX9_addHeap_159 rfl (lv_at hl 1 rfl) ?_
                    refine nn_get hc hw e61 hiX9 rfl 8 (by decide) rfl lk50 dX9_addHeap_160 ?_
                    refine nn_iconst hc dX9_addHeap_163 ?_
                    refine nn_iadd hc dX9_addHeap_164 ?_
                    have hre9 : relP ((mRC + 1)) ((va_up (va_up (va_up rhp (3 * h).toNat la) ((3 * h) + 1).toNat lb) ((3 * h) + 2).toNat (((va_up (va_up rhp (3 * h).toNat la) ((3 * h) + 1).toNat lb) ((3 * h) + 2).toNat) + lc))) rst P1 := by rw [show (3 * h).toNat = 3 * h.toNat by omega, show (3 * h + 1).toNat = 3 * h.toNat + 1 by omega, show (3 * h + 2).toNat = 3 * h.toNat + 2 by omega]; first | (exfalso; omega) | (obtain ⟨P2, g1, g2⟩ := hfd9.1 (by omega); cases g1; rw [va_up_ne (va_up rhp (3 * h.toNat) la) lb (show 3 * h.toNat + 2 ≠ 3 * h.toNat + 1 by omega), va_up_ne rhp la (show 3 * h.toNat + 2 ≠ 3 * h.toNat by omega)]; exact g2) | (obtain ⟨P2, g1, g2⟩ := hnw9.1 (by omega); cases g1; rw [hend]; exact g2)
                    refine nn_put hc hw e61 hiX9 tyX9 tyX9_ok nmX9 rfl 8 (by decide) (Nat.le_of_ble_eq_true rfl) lk50 rfl rfl rfl dX9_addHeap_165 (fun S63 H locs hS63 fS63 hw => ?_)
                    have hS63 : S63 z = oO 9 [.ref (z + 1), .int (iI mLen), .int (iI mAt), .ref (z + 2), .ref (z + 3), .ref (z + 4), .ref (z + 5), .int (iI mHC), .int (iI (mRC + 1)), .ref (z + 6), .ref (z + 7), .ref (z + 8), .int (iI mHS), .ref (z + 9), .ref (z + 10), .int (iI mJC), .int (iI mCh), .int (iI mVi)] := hS63
                    refine nn_iconst hc dX9_addHeap_168 ?_
                    have e64 : S63 (z + 5) = oI g 24 (va_up (va_up (va_up rhp (3 * h).toNat la) ((3 * h) + 1).toNat lb) ((3 * h) + 2).toNat (((va_up (va_up rhp (3 * h).toNat la) ((3 * h) + 1).toNat lb) ((3 * h) + 2).toNat) + lc)) := (fS63 (z + 5) (off_nr (x := z) (a := 5) (by decide))).trans hS60
                    exact hret (some (.int (iI 1))) _ S63 _ _ _ _ hw (⟨_, _, rfl, rfl, hS63, e64, hre9, fun bb hb0 hb1 => ((((fS63 bb hb0)).trans (fS60 bb hb1)).trans (fS50 bb hb1)).trans (fS48 bb hb1)⟩) ⟨_, rfl, by first | rfl | exact nn_nb _, dX9_addHeap_169⟩
                  · refine lv_aload_n hc.1 hc.2.1 dX9_addHeap_152 rfl (lv_at hl 1 rfl) ?_
                    refine nn_get hc hw e61 hiX9 rfl 8 (by decide) rfl lk50 dX9_addHeap_153 ?_
                    refine lv_goto hc.1 hc.2.1 dX9_addHeap_156 (tgt := 165) (by decide) ?_
                    have hre9 : relP (mRC) ((va_up (va_up (va_up rhp (3 * h).toNat la) ((3 * h) + 1).toNat lb) ((3 * h) + 2).toNat (((va_up (va_up rhp (3 * h).toNat la) ((3 * h) + 1).toNat lb) ((3 * h) + 2).toNat) + lc))) rst P1 := by rw [show (3 * h).toNat = 3 * h.toNat by omega, show (3 * h + 1).toNat = 3 * h.toNat + 1 by omega, show (3 * h + 2).toNat = 3 * h.toNat + 2 by omega]; first | (exfalso; omega) | (obtain ⟨P2, g1, g2⟩ := hfd9.1 (by omega); cases g1; rw [va_up_ne (va_up rhp (3 * h.toNat) la) lb (show 3 * h.toNat + 2 ≠ 3 * h.toNat + 1 by omega), va_up_ne rhp la (show 3 * h.toNat + 2 ≠ 3 * h.toNat by omega)]; exact g2) | (obtain ⟨P2, g1, g2⟩ := hnw9.1 (by omega); cases g1; rw [hend]; exact g2)
                    refine nn_put hc hw e61 hiX9 tyX9 tyX9_ok nmX9 rfl 8 (by decide) (Nat.le_of_ble_eq_true rfl) lk50 rfl rfl rfl dX9_addHeap_165 (fun S65 H locs hS65 fS65 hw => ?_)
                    have hS65 : S65 z = oO 9 [.ref (z + 1), .int (iI mLen), .int (iI mAt), .ref (z + 2), .ref (z + 3), .ref (z + 4), .ref (z + 5), .int (iI mHC), .int (iI mRC), .ref (z + 6), .ref (z + 7), .ref (z + 8), .int (iI mHS), .ref (z + 9), .ref (z + 10), .int (iI mJC), .int (iI mCh), .int (iI mVi)] := hS65
                    refine nn_iconst hc dX9_addHeap_168 ?_
                    have e66 : S65 (z + 5) = oI g 24 (va_up (va_up (va_up rhp (3 * h).toNat la) ((3 * h) + 1).toNat lb) ((3 * h) + 2).toNat (((va_up (va_up rhp (3 * h).toNat la) ((3 * h) + 1).toNat lb) ((3 * h) + 2).toNat) + lc)) := (fS65 (z + 5) (off_nr (x := z) (a := 5) (by decide))).trans hS60
                    exact hret (some (.int (iI 1))) _ S65 _ _ _ _ hw (⟨_, _, rfl, rfl, hS65, e66, hre9, fun bb hb0 hb1 => ((((fS65 bb hb0)).trans (fS60 bb hb1)).trans (fS50 bb hb1)).trans (fS48 bb hb1)⟩) ⟨_, rfl, by first | rfl | exact nn_nb _, dX9_addHeap_169⟩
              · have hx2 : (3 * h + 2).toNat = 3 * h.toNat + 2 := by omega
                have hr2 : rhp (3 * h + 2).toNat = rhp (3 * h.toNat + 2) := by rw [hx2]
                have hrr2 := relP_rng hg0 hrel h.toNat (by omega)
                refine lv_aload_n hc.1 hc.2.1 dX9_addHeap_62 rfl (lv_at hl 1 rfl) ?_
                refine nn_get hc hw hz hiX9 rfl 6 (by decide) rfl lk22 dX9_addHeap_63 ?_
                refine nn_iconst hc dX9_addHeap_66 ?_
                refine lv_iload hc.1 hc.2.1 dX9_addHeap_67 (lv_at hl 0 rfl) ?_
                refine nn_imul hc dX9_addHeap_69 ?_
                refine nn_iconst hc dX9_addHeap_70 ?_
                refine nn_iadd hc dX9_addHeap_71 ?_
                refine nn_iald hc hw hrhp (by omega) (by omega) dX9_addHeap_72 ?_
                refine lv_iload_n hc.1 hc.2.1 dX9_addHeap_73 rfl (lv_at hl 4 rfl) ?_
                refine nn_iadd hc dX9_addHeap_74 ?_
                refine nn_sipush hc dX9_addHeap_75 (by decide +kernel) ?_
                refine nn_icmp_le hc dX9_addHeap_78 (tgt := 83) (by decide) (by omega) (by decide) (fun c67 => ?_) (fun c67 => ?_)
                · refine lv_aload_n hc.1 hc.2.1 dX9_addHeap_83 rfl (lv_at hl 1 rfl) ?_
                  refine nn_get hc hw hz hiX9 rfl 6 (by decide) rfl lk22 dX9_addHeap_84 ?_
                  refine nn_iconst hc dX9_addHeap_87 ?_
                  refine lv_iload hc.1 hc.2.1 dX9_addHeap_88 (lv_at hl 0 rfl) ?_
                  refine nn_imul hc dX9_addHeap_90 ?_
                  refine lv_iload_n hc.1 hc.2.1 dX9_addHeap_91 rfl (lv_at hl 2 rfl) ?_
                  refine nn_iast hc hw hrhp (by omega) (by omega) dX9_addHeap_92 (fun S68 H locs hS68 fS68 hw => ?_)
                  refine lv_aload_n hc.1 hc.2.1 dX9_addHeap_93 rfl (lv_at hl 1 rfl) ?_
                  have e69 : S68 z = oO 9 [.ref (z + 1), .int (iI mLen), .int (iI mAt), .ref (z + 2), .ref (z + 3), .ref (z + 4), .ref (z + 5), .int (iI mHC), .int (iI mRC), .ref (z + 6), .ref (z + 7), .ref (z + 8), .int (iI mHS), .ref (z + 9), .ref (z + 10), .int (iI mJC), .int (iI mCh), .int (iI mVi)] := (fS68 z (off_nl (x := z) (a := 5) (by decide))).trans hz
                  refine nn_get hc hw e69 hiX9 rfl 6 (by decide) rfl lk22 dX9_addHeap_94 ?_
                  refine nn_iconst hc dX9_addHeap_97 ?_
                  refine lv_iload hc.1 hc.2.1 dX9_addHeap_98 (lv_at hl 0 rfl) ?_
                  refine nn_imul hc dX9_addHeap_100 ?_
                  refine nn_iconst hc dX9_addHeap_101 ?_
                  refine nn_iadd hc dX9_addHeap_102 ?_
                  refine lv_iload_n hc.1 hc.2.1 dX9_addHeap_103 rfl (lv_at hl 3 rfl) ?_
                  refine nn_iast hc hw hS68 (by omega) (by omega) dX9_addHeap_104 (fun S70 H locs hS70 fS70 hw => ?_)
                  refine lv_aload_n hc.1 hc.2.1 dX9_addHeap_105 rfl (lv_at hl 1 rfl) ?_
                  have e71 : S70 z = oO 9 [.ref (z + 1), .int (iI mLen), .int (iI mAt), .ref (z + 2), .ref (z + 3), .ref (z + 4), .ref (z + 5), .int (iI mHC), .int (iI mRC), .ref (z + 6), .ref (z + 7), .ref (z + 8), .int (iI mHS), .ref (z + 9), .ref (z + 10), .int (iI mJC), .int (iI mCh), .int (iI mVi)] := (fS70 z (off_nl (x := z) (a := 5) (by decide))).trans e69
                  refine nn_get hc hw e71 hiX9 rfl 6 (by decide) rfl lk22 dX9_addHeap_106 ?_
                  refine nn_iconst hc dX9_addHeap_109 ?_
                  refine lv_iload hc.1 hc.2.1 dX9_addHeap_110 (lv_at hl 0 rfl) ?_
                  refine nn_imul hc dX9_addHeap_112 ?_
                  refine nn_iconst hc dX9_addHeap_113 ?_
                  refine nn_iadd hc dX9_addHeap_114 ?_
                  refine lv_iload hc.1 hc.2.1 dX9_addHeap_115 (lv_at hl 0 rfl) ?_
                  refine lv_aload_n hc.1 hc.2.1 dX9_addHeap_117 rfl (lv_at hl 1 rfl) ?_
                  refine nn_get hc hw e71 hiX9 rfl 8 (by decide) rfl lk50 dX9_addHeap_118 ?_
                  refine nn_icmp_ge hc dX9_addHeap_121 (tgt := 140) (by decide) (by omega) (by omega) (fun c72 => ?_) (fun c72 => ?_)
                  · refine lv_iload_n hc.1 hc.2.1 dX9_addHeap_140 rfl (lv_at hl 4 rfl) ?_
                    refine nn_iast hc hw hS70 (by omega) (by omega) dX9_addHeap_141 (fun S73 H locs hS73 fS73 hw => ?_)
                    refine lv_aload_n hc.1 hc.2.1 dX9_addHeap_142 rfl (lv_at hl 1 rfl) ?_
                    refine lv_iload hc.1 hc.2.1 dX9_addHeap_143 (lv_at hl 0 rfl) ?_
                    refine lv_aload_n hc.1 hc.2.1 dX9_addHeap_145 rfl (lv_at hl 1 rfl) ?_
                    have e74 : S73 z = oO 9 [.ref (z + 1), .int (iI mLen), .int (iI mAt), .ref (z + 2), .ref (z + 3), .ref (z + 4), .ref (z + 5), .int (iI mHC), .int (iI mRC), .ref (z + 6), .ref (z + 7), .ref (z + 8), .int (iI mHS), .ref (z + 9), .ref (z + 10), .int (iI mJC), .int (iI mCh), .int (iI mVi)] := (fS73 z (off_nl (x := z) (a := 5) (by decide))).trans e71
                    refine nn_get hc hw e74 hiX9 rfl 8 (by decide) rfl lk50 dX9_addHeap_146 ?_
                    refine nn_icmp_ge hc dX9_addHeap_149 (tgt := 159) (by decide) (by omega) (by omega) (fun c75 => ?_) (fun c75 => ?_)
                    · refine lv_aload_n hc.1 hc.2.1 dX9_addHeap_159 rfl (lv_at hl 1 rfl) ?_
                      refine nn_get hc hw e74 hiX9 rfl 8 (by decide) rfl lk50 dX9_addHeap_160 ?_
                      refine nn_iconst hc dX9_addHeap_163 ?_
                      refine nn_iadd hc dX9_addHeap_164 ?_
                      have hre9 : relP ((mRC + 1)) ((va_up (va_up (va_up rhp (3 * h).toNat la) ((3 * h) + 1).toNat lb) ((3 * h) + 2).toNat lc)) rst P1 := by rw [show (3 * h).toNat = 3 * h.toNat by omega, show (3 * h + 1).toNat = 3 * h.toNat + 1 by omega, show (3 * h + 2).toNat = 3 * h.toNat + 2 by omega]; first | (exfalso; omega) | (obtain ⟨P2, g1, g2⟩ := hfd9.1 (by omega); cases g1; rw [va_up_ne (va_up rhp (3 * h.toNat) la) lb (show 3 * h.toNat + 2 ≠ 3 * h.toNat + 1 by omega), va_up_ne rhp la (show 3 * h.toNat + 2 ≠ 3 * h.toNat by omega)]; exact g2) | (obtain ⟨P2, g1, g2⟩ := hnw9.1 (by omega); cases g1; rw [hend]; exact g2)
                      refine nn_put hc hw e74 hiX9 tyX9 tyX9_ok nmX9 rfl 8 (by decide) (Nat.le_of_ble_eq_true rfl) lk50 rfl rfl rfl dX9_addHeap_165 (fun S76 H locs hS76 fS76 hw => ?_)
                      have hS76 : S76 z = oO 9 [.ref (z + 1), .int (iI mLen), .int (iI mAt), .ref (z + 2), .ref (z + 3), .ref (z + 4), .ref (z + 5), .int (iI mHC), .int (iI (mRC + 1)), .ref (z + 6), .ref (z + 7), .ref (z + 8), .int (iI mHS), .ref (z + 9), .ref (z + 10), .int (iI mJC), .int (iI mCh), .int (iI mVi)] := hS76
                      refine nn_iconst hc dX9_addHeap_168 ?_
                      have e77 : S76 (z + 5) = oI g 24 (va_up (va_up (va_up rhp (3 * h).toNat la) ((3 * h) + 1).toNat lb) ((3 * h) + 2).toNat lc) := (fS76 (z + 5) (off_nr (x := z) (a := 5) (by decide))).trans hS73
                      exact hret (some (.int (iI 1))) _ S76 _ _ _ _ hw (⟨_, _, rfl, rfl, hS76, e77, hre9, fun bb hb0 hb1 => ((((fS76 bb hb0)).trans (fS73 bb hb1)).trans (fS70 bb hb1)).trans (fS68 bb hb1)⟩) ⟨_, rfl, by first | rfl | exact nn_nb _, dX9_addHeap_169⟩
                    · refine lv_aload_n hc.1 hc.2.1 dX9_addHeap_152 rfl (lv_at hl 1 rfl) ?_
                      refine nn_get hc hw e74 hiX9 rfl 8 (by decide) rfl lk50 dX9_addHeap_153 ?_
                      refine lv_goto hc.1 hc.2.1 dX9_addHeap_156 (tgt := 165) (by decide) ?_
                      have hre9 : relP (mRC) ((va_up (va_up (va_up rhp (3 * h).toNat la) ((3 * h) + 1).toNat lb) ((3 * h) + 2).toNat lc)) rst P1 := by rw [show (3 * h).toNat = 3 * h.toNat by omega, show (3 * h + 1).toNat = 3 * h.toNat + 1 by omega, show (3 * h + 2).toNat = 3 * h.toNat + 2 by omega]; first | (exfalso; omega) | (obtain ⟨P2, g1, g2⟩ := hfd9.1 (by omega); cases g1; rw [va_up_ne (va_up rhp (3 * h.toNat) la) lb (show 3 * h.toNat + 2 ≠ 3 * h.toNat + 1 by omega), va_up_ne rhp la (show 3 * h.toNat + 2 ≠ 3 * h.toNat by omega)]; exact g2) | (obtain ⟨P2, g1, g2⟩ := hnw9.1 (by omega); cases g1; rw [hend]; exact g2)
                      refine nn_put hc hw e74 hiX9 tyX9 tyX9_ok nmX9 rfl 8 (by decide) (Nat.le_of_ble_eq_true rfl) lk50 rfl rfl rfl dX9_addHeap_165 (fun S78 H locs hS78 fS78 hw => ?_)
                      have hS78 : S78 z = oO 9 [.ref (z + 1), .int (iI mLen), .int (iI mAt), .ref (z + 2), .ref (z + 3), .ref (z + 4), .ref (z + 5), .int (iI mHC), .int (iI mRC), .ref (z + 6), .ref (z + 7), .ref (z + 8), .int (iI mHS), .ref (z + 9), .ref (z + 10), .int (iI mJC), .int (iI mCh), .int (iI mVi)] := hS78
                      refine nn_iconst hc dX9_addHeap_168 ?_
                      have e79 : S78 (z + 5) = oI g 24 (va_up (va_up (va_up rhp (3 * h).toNat la) ((3 * h) + 1).toNat lb) ((3 * h) + 2).toNat lc) := (fS78 (z + 5) (off_nr (x := z) (a := 5) (by decide))).trans hS73
                      exact hret (some (.int (iI 1))) _ S78 _ _ _ _ hw (⟨_, _, rfl, rfl, hS78, e79, hre9, fun bb hb0 hb1 => ((((fS78 bb hb0)).trans (fS73 bb hb1)).trans (fS70 bb hb1)).trans (fS68 bb hb1)⟩) ⟨_, rfl, by first | rfl | exact nn_nb _, dX9_addHeap_169⟩
                  · refine lv_aload_n hc.1 hc.2.1 dX9_addHeap_124 rfl (lv_at hl 1 rfl) ?_
                    refine nn_get hc hw e71 hiX9 rfl 6 (by decide) rfl lk22 dX9_addHeap_125 ?_
                    refine nn_iconst hc dX9_addHeap_128 ?_
                    refine lv_iload hc.1 hc.2.1 dX9_addHeap_129 (lv_at hl 0 rfl) ?_
                    refine nn_imul hc dX9_addHeap_131 ?_
                    refine nn_iconst hc dX9_addHeap_132 ?_
                    refine nn_iadd hc dX9_addHeap_133 ?_
                    refine nn_iald hc hw hS70 (by omega) (by omega) dX9_addHeap_134 ?_
                    refine lv_iload_n hc.1 hc.2.1 dX9_addHeap_135 rfl (lv_at hl 4 rfl) ?_
                    refine nn_iadd hc dX9_addHeap_136 ?_
                    refine lv_goto hc.1 hc.2.1 dX9_addHeap_137 (tgt := 141) (by decide) ?_
                    refine nn_iast hc hw hS70 (by omega) (by omega) dX9_addHeap_141 (fun S80 H locs hS80 fS80 hw => ?_)
                    refine lv_aload_n hc.1 hc.2.1 dX9_addHeap_142 rfl (lv_at hl 1 rfl) ?_
                    refine lv_iload hc.1 hc.2.1 dX9_addHeap_143 (lv_at hl 0 rfl) ?_
                    refine lv_aload_n hc.1 hc.2.1 dX9_addHeap_145 rfl (lv_at hl 1 rfl) ?_
                    have e81 : S80 z = oO 9 [.ref (z + 1), .int (iI mLen), .int (iI mAt), .ref (z + 2), .ref (z + 3), .ref (z + 4), .ref (z + 5), .int (iI mHC), .int (iI mRC), .ref (z + 6), .ref (z + 7), .ref (z + 8), .int (iI mHS), .ref (z + 9), .ref (z + 10), .int (iI mJC), .int (iI mCh), .int (iI mVi)] := (fS80 z (off_nl (x := z) (a := 5) (by decide))).trans e71
                    refine nn_get hc hw e81 hiX9 rfl 8 (by decide) rfl lk50 dX9_addHeap_146 ?_
                    refine nn_icmp_ge hc dX9_addHeap_149 (tgt := 159) (by decide) (by omega) (by omega) (fun c82 => ?_) (fun c82 => ?_)
                    · refine lv_aload_n hc.1 hc.2.1 dX9_addHeap_159 rfl (lv_at hl 1 rfl) ?_
                      refine nn_get hc hw e81 hiX9 rfl 8 (by decide) rfl lk50 dX9_addHeap_160 ?_
                      refine nn_iconst hc dX9_addHeap_163 ?_
                      refine nn_iadd hc dX9_addHeap_164 ?_
                      have hre9 : relP ((mRC + 1)) ((va_up (va_up (va_up rhp (3 * h).toNat la) ((3 * h) + 1).toNat lb) ((3 * h) + 2).toNat (((va_up (va_up rhp (3 * h).toNat la) ((3 * h) + 1).toNat lb) ((3 * h) + 2).toNat) + lc))) rst P1 := by rw [show (3 * h).toNat = 3 * h.toNat by omega, show (3 * h + 1).toNat = 3 * h.toNat + 1 by omega, show (3 * h + 2).toNat = 3 * h.toNat + 2 by omega]; first | (exfalso; omega) | (obtain ⟨P2, g1, g2⟩ := hfd9.1 (by omega); cases g1; rw [va_up_ne (va_up rhp (3 * h.toNat) la) lb (show 3 * h.toNat + 2 ≠ 3 * h.toNat + 1 by omega), va_up_ne rhp la (show 3 * h.toNat + 2 ≠ 3 * h.toNat by omega)]; exact g2) | (obtain ⟨P2, g1, g2⟩ := hnw9.1 (by omega); cases g1; rw [hend]; exact g2)
                      refine nn_put hc hw e81 hiX9 tyX9 tyX9_ok nmX9 rfl 8 (by decide) (Nat.le_of_ble_eq_true rfl) lk50 rfl rfl rfl dX9_addHeap_165 (fun S83 H locs hS83 fS83 hw => ?_)
                      have hS83 : S83 z = oO 9 [.ref (z + 1), .int (iI mLen), .int (iI mAt), .ref (z + 2), .ref (z + 3), .ref (z + 4), .ref (z + 5), .int (iI mHC), .int (iI (mRC + 1)), .ref (z + 6), .ref (z + 7), .ref (z + 8), .int (iI mHS), .ref (z + 9), .ref (z + 10), .int (iI mJC), .int (iI mCh), .int (iI mVi)] := hS83
                      refine nn_iconst hc dX9_addHeap_168 ?_
                      have e84 : S83 (z + 5) = oI g 24 (va_up (va_up (va_up rhp (3 * h).toNat la) ((3 * h) + 1).toNat lb) ((3 * h) + 2).toNat (((va_up (va_up rhp (3 * h).toNat la) ((3 * h) + 1).toNat lb) ((3 * h) + 2).toNat) + lc)) := (fS83 (z + 5) (off_nr (x := z) (a := 5) (by decide))).trans hS80
                      exact hret (some (.int (iI 1))) _ S83 _ _ _ _ hw (⟨_, _, rfl, rfl, hS83, e84, hre9, fun bb hb0 hb1 => ((((fS83 bb hb0)).trans (fS80 bb hb1)).trans (fS70 bb hb1)).trans (fS68 bb hb1)⟩) ⟨_, rfl, by first | rfl | exact nn_nb _, dX9_addHeap_169⟩
                    · refine lv_aload_n hc.1 hc.2.1 dX9_addHeap_152 rfl (lv_at hl 1 rfl) ?_
                      refine nn_get hc hw e81 hiX9 rfl 8 (by decide) rfl lk50 dX9_addHeap_153 ?_
                      refine lv_goto hc.1 hc.2.1 dX9_addHeap_156 (tgt := 165) (by decide) ?_
                      have hre9 : relP (mRC) ((va_up (va_up (va_up rhp (3 * h).toNat la) ((3 * h) + 1).toNat lb) ((3 * h) + 2).toNat (((va_up (va_up rhp (3 * h).toNat la) ((3 * h) + 1).toNat lb) ((3 * h) + 2).toNat) + lc))) rst P1 := by rw [show (3 * h).toNat = 3 * h.toNat by omega, show (3 * h + 1).toNat = 3 * h.toNat + 1 by omega, show (3 * h + 2).toNat = 3 * h.toNat + 2 by omega]; first | (exfalso; omega) | (obtain ⟨P2, g1, g2⟩ := hfd9.1 (by omega); cases g1; rw [va_up_ne (va_up rhp (3 * h.toNat) la) lb (show 3 * h.toNat + 2 ≠ 3 * h.toNat + 1 by omega), va_up_ne rhp la (show 3 * h.toNat + 2 ≠ 3 * h.toNat by omega)]; exact g2) | (obtain ⟨P2, g1, g2⟩ := hnw9.1 (by omega); cases g1; rw [hend]; exact g2)
                      refine nn_put hc hw e81 hiX9 tyX9 tyX9_ok nmX9 rfl 8 (by decide) (Nat.le_of_ble_eq_true rfl) lk50 rfl rfl rfl dX9_addHeap_165 (fun S85 H locs hS85 fS85 hw => ?_)
                      have hS85 : S85 z = oO 9 [.ref (z + 1), .int (iI mLen), .int (iI mAt), .ref (z + 2), .ref (z + 3), .ref (z + 4), .ref (z + 5), .int (iI mHC), .int (iI mRC), .ref (z + 6), .ref (z + 7), .ref (z + 8), .int (iI mHS), .ref (z + 9), .ref (z + 10), .int (iI mJC), .int (iI mCh), .int (iI mVi)] := hS85
                      refine nn_iconst hc dX9_addHeap_168 ?_
                      have e86 : S85 (z + 5) = oI g 24 (va_up (va_up (va_up rhp (3 * h).toNat la) ((3 * h) + 1).toNat lb) ((3 * h) + 2).toNat (((va_up (va_up rhp (3 * h).toNat la) ((3 * h) + 1).toNat lb) ((3 * h) + 2).toNat) + lc)) := (fS85 (z + 5) (off_nr (x := z) (a := 5) (by decide))).trans hS80
                      exact hret (some (.int (iI 1))) _ S85 _ _ _ _ hw (⟨_, _, rfl, rfl, hS85, e86, hre9, fun bb hb0 hb1 => ((((fS85 bb hb0)).trans (fS80 bb hb1)).trans (fS70 bb hb1)).trans (fS68 bb hb1)⟩) ⟨_, rfl, by first | rfl | exact nn_nb _, dX9_addHeap_169⟩
                · exfalso; first | (have q9 := hfd9.2 (by omega); cases q9) | omega
          · refine nn_iinc (lv' := [(4, .int (iI (h + 1))), (0, .ref z), (1, .int (iI la)), (2, .int (iI lb)), (3, .int (iI lc))]) hc dX9_addHeap_40 hl (k0 := 0) rfl (by decide) rfl (fun ls hl => ?_)
            refine lv_goto hc.1 hc.2.1 dX9_addHeap_43 (tgt := 3) (by decide) ?_
            exact ih3 (h + 1) _ _ _ (by omega) (fun i hi => by by_cases e9 : i = h.toNat; (rw [e9]; omega); exact hno i (by omega)) hw (by omega) (lv_sub hl [0, 1, 2, 3, 4] rfl)
  exact lab3 _ 0 _ _ _ (by omega) (fun i hi => absurd hi (by omega)) hw (Nat.lt_succ_self _) (lv_sub hl [0, 1, 2, 3, 4] rfl)

set_option maxHeartbeats 4000000 in
set_option maxRecDepth 100000 in
theorem c_X9_addHeap_no (l : Launch) (g : gG) {n : Nat} {S : Nat → gE} {z : Nat} {mLen mAt mHC mRC mHS mJC mCh mVi : Int} {rst rhp : Nat → Int} {P : pT} {la lb lc : Int} (hz : S z = oO 9 [.ref (z + 1), .int (iI mLen), .int (iI mAt), .ref (z + 2), .ref (z + 3), .ref (z + 4), .ref (z + 5), .int (iI mHC), .int (iI mRC), .ref (z + 6), .ref (z + 7), .ref (z + 8), .int (iI mHS), .ref (z + 9), .ref (z + 10), .int (iI mJC), .int (iI mCh), .int (iI mVi)]) (hrhp : S (z + 5) = oI g 24 rhp) (rl : 20 ≤ la ∧ la ≤ 60) (rb : 10 ≤ lb ∧ lb ≤ 60) (rc : 1 ≤ lc ∧ lc ≤ 99) (hg0 : goodP P) (hrel : relP mRC rhp rst P) (hadd : addC P la lb lc = none) : g_Cs l yX9_addHeap wsX9_addHeap { frames := 0, cells := 0, slots := 0, locals := 0 } g [.ref z, .int (iI la), .int (iI lb), .int (iI lc)] n S (fun vr n1 S1 => vr = some (.int (iI 0)) ∧ n = n1 ∧ S = S1) 0 0 := by
  refine g_Cs.of (cc := cX9_addHeap) (maxL := 5) (ret := (some .boolean)) (by decide) rfl (Nat.le_of_ble_eq_true rfl) ?_
  intro pp ee s m below meth cK Q H locs ls hc hnm hw hl hret
  have hl : lv_has ls 5 [(0, .ref z), (1, .int (iI la)), (2, .int (iI lb)), (3, .int (iI lc))] := hl
  have hiX9 : ∀ w ∈ u_ws RX9 TX9 18, w ∈ wsX9_addHeap := by decide +kernel
  have lk50 : Cond.fieldLink RX9 50 "RoofCoursesModel" "readCount" "I" ∈ wsX9_addHeap := by decide +kernel
  have lk22 : Cond.fieldLink RX9 22 "RoofCoursesModel" "readHeaps" "[I" ∈ wsX9_addHeap := by decide +kernel
  have hRCe : mRC = P.1 := hrel.1
  have hP1 := hg0.1
  refine nn_iconst hc dX9_addHeap_0 ?_
  refine lv_istore (lv' := [(4, .int (iI 0)), (0, .ref z), (1, .int (iI la)), (2, .int (iI lb)), (3, .int (iI lc))]) hc.1 hc.2.1 dX9_addHeap_1 hl (by decide) rfl (fun ls hl => ?_)
  have lab3 : ∀ (fu3 : Nat) (h : Int) (H : Heap) (locs : List Loc) (ls : Array Slot), (0 ≤ h ∧ h ≤ mRC) → (∀ i : Nat, (i : Int) < h → ¬ (rhp (3 * i) = la ∧ rhp (3 * i + 1) = lb)) → g_W g n S s H locs → (mRC - h).toNat < fu3 → lv_has ls 5 [(4, .int (iI h)), (0, .ref z), (1, .int (iI la)), (2, .int (iI lb)), (3, .int (iI lc))] → W pp l ee ({ frames := 0, cells := 0, slots := 0, locals := 0 } : Room) s m ([.ref z, .int (iI la), .int (iI lb), .int (iI lc)] : List Value).toArray below meth cK H locs 0 0 Q (F0 m 3 ls []) := by
    intro fu3
    induction fu3 with
    | zero =>
      intro h H locs ls hh hno hw hmeas hl
      exact absurd hmeas (Nat.not_lt_zero _)
    | succ fu3 ih3 =>
      intro h H locs ls hh hno hw hmeas hl
      refine lv_iload hc.1 hc.2.1 dX9_addHeap_3 (lv_at hl 0 rfl) ?_
      refine lv_aload_n hc.1 hc.2.1 dX9_addHeap_5 rfl (lv_at hl 1 rfl) ?_
      refine nn_get hc hw hz hiX9 rfl 8 (by decide) rfl lk50 dX9_addHeap_6 ?_
      refine nn_icmp_ge hc dX9_addHeap_9 (tgt := 46) (by decide) (by omega) (by omega) (fun c2 => ?_) (fun c2 => ?_)
      · have hend : h = mRC := by omega
        have hnw9 := addC_new (c := lc) hg0 hrel (fun i hi => hno i (by omega) : ∀ i : Nat, (i : Int) < mRC → ¬ (rhp (3 * i) = la ∧ rhp (3 * i + 1) = lb))
        rw [hadd] at hnw9
        refine lv_iload hc.1 hc.2.1 dX9_addHeap_46 (lv_at hl 0 rfl) ?_
        refine nn_bipush hc dX9_addHeap_48 (by decide +kernel) ?_
        refine nn_icmp_eq hc dX9_addHeap_50 (tgt := 81) (by decide) (by omega) (by decide) (fun c3 => ?_) (fun c3 => ?_)
        · refine nn_iconst hc dX9_addHeap_81 ?_
          exact hret (some (.int (iI 0))) _ S _ _ _ _ hw (⟨rfl, rfl, rfl⟩) ⟨_, rfl, by first | rfl | exact nn_nb _, dX9_addHeap_82⟩
        · refine lv_iload hc.1 hc.2.1 dX9_addHeap_53 (lv_at hl 0 rfl) ?_
          refine lv_aload_n hc.1 hc.2.1 dX9_addHeap_55 rfl (lv_at hl 1 rfl) ?_
          refine nn_get hc hw hz hiX9 rfl 8 (by decide) rfl lk50 dX9_addHeap_56 ?_
          refine nn_icmp_ge hc dX9_addHeap_59 (tgt := 83) (by decide) (by omega) (by omega) (fun c4 => ?_) (fun c4 => ?_)
          · exfalso; first | (obtain ⟨P2, g1, g2⟩ := hnw9.1 (by omega); cases g1) | omega
          · have hx2 : (3 * h + 2).toNat = 3 * h.toNat + 2 := by omega
            have hr2 : rhp (3 * h + 2).toNat = rhp (3 * h.toNat + 2) := by rw [hx2]
            have hrr2 := relP_rng hg0 hrel h.toNat (by omega)
            refine lv_aload_n hc.1 hc.2.1 dX9_addHeap_62 rfl (lv_at hl 1 rfl) ?_
            refine nn_get hc hw hz hiX9 rfl 6 (by decide) rfl lk22 dX9_addHeap_63 ?_
            refine nn_iconst hc dX9_addHeap_66 ?_
            refine lv_iload hc.1 hc.2.1 dX9_addHeap_67 (lv_at hl 0 rfl) ?_
            refine nn_imul hc dX9_addHeap_69 ?_
            refine nn_iconst hc dX9_addHeap_70 ?_
            refine nn_iadd hc dX9_addHeap_71 ?_
            refine nn_iald hc hw hrhp (by omega) (by omega) dX9_addHeap_72 ?_
            refine lv_iload_n hc.1 hc.2.1 dX9_addHeap_73 rfl (lv_at hl 4 rfl) ?_
            refine nn_iadd hc dX9_addHeap_74 ?_
            refine nn_sipush hc dX9_addHeap_75 (by decide +kernel) ?_
            refine nn_icmp_le hc dX9_addHeap_78 (tgt := 83) (by decide) (by omega) (by decide) (fun c5 => ?_) (fun c5 => ?_)
            · exfalso; first | (obtain ⟨P2, g1, g2⟩ := hfd9.1 (by omega); cases g1) | omega
            · refine nn_iconst hc dX9_addHeap_81 ?_
              exact hret (some (.int (iI 0))) _ S _ _ _ _ hw (⟨rfl, rfl, rfl⟩) ⟨_, rfl, by first | rfl | exact nn_nb _, dX9_addHeap_82⟩
      · have hx0 : (3 * h).toNat = 3 * h.toNat := by omega
        have hx1 : (3 * h + 1).toNat = 3 * h.toNat + 1 := by omega
        have hrr := relP_rng hg0 hrel h.toNat (by omega)
        have hr0 : rhp (3 * h).toNat = rhp (3 * h.toNat) := by rw [hx0]
        have hr1 : rhp (3 * h + 1).toNat = rhp (3 * h.toNat + 1) := by rw [hx1]
        refine lv_aload_n hc.1 hc.2.1 dX9_addHeap_12 rfl (lv_at hl 1 rfl) ?_
        refine nn_get hc hw hz hiX9 rfl 6 (by decide) rfl lk22 dX9_addHeap_13 ?_
        refine nn_iconst hc dX9_addHeap_16 ?_
        refine lv_iload hc.1 hc.2.1 dX9_addHeap_17 (lv_at hl 0 rfl) ?_
        refine nn_imul hc dX9_addHeap_19 ?_
        refine nn_iald hc hw hrhp (by omega) (by omega) dX9_addHeap_20 ?_
        refine lv_iload_n hc.1 hc.2.1 dX9_addHeap_21 rfl (lv_at hl 2 rfl) ?_
        refine nn_icmp_ne hc dX9_addHeap_22 (tgt := 40) (by decide) (by omega) (by omega) (fun c6 => ?_) (fun c6 => ?_)
        · refine nn_iinc (lv' := [(4, .int (iI (h + 1))), (0, .ref z), (1, .int (iI la)), (2, .int (iI lb)), (3, .int (iI lc))]) hc dX9_addHeap_40 hl (k0 := 0) rfl (by decide) rfl (fun ls hl => ?_)
          refine lv_goto hc.1 hc.2.1 dX9_addHeap_43 (tgt := 3) (by decide) ?_
          exact ih3 (h + 1) _ _ _ (by omega) (fun i hi => by by_cases e9 : i = h.toNat; (rw [e9]; omega); exact hno i (by omega)) hw (by omega) (lv_sub hl [0, 1, 2, 3, 4] rfl)
        · refine lv_aload_n hc.1 hc.2.1 dX9_addHeap_25 rfl (lv_at hl 1 rfl) ?_
          refine nn_get hc hw hz hiX9 rfl 6 (by decide) rfl lk22 dX9_addHeap_26 ?_
          refine nn_iconst hc dX9_addHeap_29 ?_
          refine lv_iload hc.1 hc.2.1 dX9_addHeap_30 (lv_at hl 0 rfl) ?_
          refine nn_imul hc dX9_addHeap_32 ?_
          refine nn_iconst hc dX9_addHeap_33 ?_
          refine nn_iadd hc dX9_addHeap_34 ?_
          refine nn_iald hc hw hrhp (by omega) (by omega) dX9_addHeap_35 ?_
          refine lv_iload_n hc.1 hc.2.1 dX9_addHeap_36 rfl (lv_at hl 3 rfl) ?_
          refine nn_icmp_eq hc dX9_addHeap_37 (tgt := 46) (by decide) (by omega) (by omega) (fun c7 => ?_) (fun c7 => ?_)
          · have hfd := fun c9 => addC_found (c := c9) hg0 hrel (h := h.toNat) (by omega) (by omega : rhp (3 * h.toNat) = la) (by omega : rhp (3 * h.toNat + 1) = lb)
            have hfd9 := hfd lc
            rw [hadd] at hfd9
            have hrr9 := relP_rng hg0 hrel h.toNat (by omega)
            refine lv_iload hc.1 hc.2.1 dX9_addHeap_46 (lv_at hl 0 rfl) ?_
            refine nn_bipush hc dX9_addHeap_48 (by decide +kernel) ?_
            refine nn_icmp_eq hc dX9_addHeap_50 (tgt := 81) (by decide) (by omega) (by decide) (fun c8 => ?_) (fun c8 => ?_)
            · refine nn_iconst hc dX9_addHeap_81 ?_
              exact hret (some (.int (iI 0))) _ S _ _ _ _ hw (⟨rfl, rfl, rfl⟩) ⟨_, rfl, by first | rfl | exact nn_nb _, dX9_addHeap_82⟩
            · refine lv_iload hc.1 hc.2.1 dX9_addHeap_53 (lv_at hl 0 rfl) ?_
              refine lv_aload_n hc.1 hc.2.1 dX9_addHeap_55 rfl (lv_at hl 1 rfl) ?_
              refine nn_get hc hw hz hiX9 rfl 8 (by decide) rfl lk50 dX9_addHeap_56 ?_
              refine nn_icmp_ge hc dX9_addHeap_59 (tgt := 83) (by decide) (by omega) (by omega) (fun c9 => ?_) (fun c9 => ?_)
              · exfalso; first | (obtain ⟨P2, g1, g2⟩ := hnw9.1 (by omega); cases g1) | omega
              · have hx2 : (3 * h + 2).toNat = 3 * h.toNat + 2 := by omega
                have hr2 : rhp (3 * h + 2).toNat = rhp (3 * h.toNat + 2) := by rw [hx2]
                have hrr2 := relP_rng hg0 hrel h.toNat (by omega)
                refine lv_aload_n hc.1 hc.2.1 dX9_addHeap_62 rfl (lv_at hl 1 rfl) ?_
                refine nn_get hc hw hz hiX9 rfl 6 (by decide) rfl lk22 dX9_addHeap_63 ?_
                refine nn_iconst hc dX9_addHeap_66 ?_
                refine lv_iload hc.1 hc.2.1 dX9_addHeap_67 (lv_at hl 0 rfl) ?_
                refine nn_imul hc dX9_addHeap_69 ?_
                refine nn_iconst hc dX9_addHeap_70 ?_
                refine nn_iadd hc dX9_addHeap_71 ?_
                refine nn_iald hc hw hrhp (by omega) (by omega) dX9_addHeap_72 ?_
                refine lv_iload_n hc.1 hc.2.1 dX9_addHeap_73 rfl (lv_at hl 4 rfl) ?_
                refine nn_iadd hc dX9_addHeap_74 ?_
                refine nn_sipush hc dX9_addHeap_75 (by decide +kernel) ?_
                refine nn_icmp_le hc dX9_addHeap_78 (tgt := 83) (by decide) (by omega) (by decide) (fun c10 => ?_) (fun c10 => ?_)
                · exfalso; first | (obtain ⟨P2, g1, g2⟩ := hfd9.1 (by omega); cases g1) | omega
                · refine nn_iconst hc dX9_addHeap_81 ?_
                  exact hret (some (.int (iI 0))) _ S _ _ _ _ hw (⟨rfl, rfl, rfl⟩) ⟨_, rfl, by first | rfl | exact nn_nb _, dX9_addHeap_82⟩
          · refine nn_iinc (lv' := [(4, .int (iI (h + 1))), (0, .ref z), (1, .int (iI la)), (2, .int (iI lb)), (3, .int (iI lc))]) hc dX9_addHeap_40 hl (k0 := 0) rfl (by decide) rfl (fun ls hl => ?_)
            refine lv_goto hc.1 hc.2.1 dX9_addHeap_43 (tgt := 3) (by decide) ?_
            exact ih3 (h + 1) _ _ _ (by omega) (fun i hi => by by_cases e9 : i = h.toNat; (rw [e9]; omega); exact hno i (by omega)) hw (by omega) (lv_sub hl [0, 1, 2, 3, 4] rfl)
  exact lab3 _ 0 _ _ _ (by omega) (fun i hi => absurd hi (by omega)) hw (Nat.lt_succ_self _) (lv_sub hl [0, 1, 2, 3, 4] rfl)

set_option maxHeartbeats 4000000 in
set_option maxRecDepth 100000 in
theorem c_X9_isDigit (l : Launch) (g : gG) {n : Nat} {S : Nat → gE} {z : Nat} {mAt mHC mRC mHS mJC mCh mVi : Int} {tz : Nat} {txa : Nat → Int} (hz : S z = oO 9 [.ref (z + 1), .int (iI (tz : Int)), .int (iI mAt), .ref (z + 2), .ref (z + 3), .ref (z + 4), .ref (z + 5), .int (iI mHC), .int (iI mRC), .ref (z + 6), .ref (z + 7), .ref (z + 8), .int (iI mHS), .ref (z + 9), .ref (z + 10), .int (iI mJC), .int (iI mCh), .int (iI mVi)]) (htx : S (z + 1) = oI g 200 txa) (rtz : tz ≤ 200) (rtx : ∀ i : Nat, i < tz → 32 ≤ txa i ∧ txa i ≤ 126) (ra : 0 ≤ mAt ∧ mAt ≤ tz) : g_Cp l yX9_isDigit wsX9_isDigit { frames := 1, cells := 0, slots := 0, locals := 22 } g [.ref z] n S (some (.int (iI (if dgt txa tz mAt.toNat = true then 1 else 0)))) := by
  refine g_Cp.of (cc := cX9_isDigit) (maxL := 1) (ret := (some .boolean)) (by decide) rfl (Nat.le_of_ble_eq_true rfl) ?_
  intro pp ee s m below meth cK Q ls hc hnm hw hl hret
  have hl : lv_has ls 1 [(0, .ref z)] := hl
  have hiX9 : ∀ w ∈ u_ws RX9 TX9 18, w ∈ wsX9_isDigit := by decide +kernel
  have lk60 : Cond.fieldLink RX9 60 "RoofCoursesModel" "at" "I" ∈ wsX9_isDigit := by decide +kernel
  have lk63 : Cond.fieldLink RX9 63 "RoofCoursesModel" "length" "I" ∈ wsX9_isDigit := by decide +kernel
  have lk7 : Cond.fieldLink RX9 7 "RoofCoursesModel" "text" "[I" ∈ wsX9_isDigit := by decide +kernel
  have hrt : ∀ (pc : Nat) (ls : Array Slot) (xr : Int), decode cX9_isDigit pc = .ok (.ireturn, 1) → xr = (if dgt txa tz mAt.toNat = true then 1 else 0) → W pp l ee ({ frames := 1, cells := 0, slots := 0, locals := 22 } : Room) s m ([.ref z] : List Value).toArray below meth cK s.heap [] 0 0 Q (F0 m pc ls [.int (iI xr)]) := fun pc ls xr d hx => by subst hx; exact hret pc ls ⟨_, rfl, nn_nb _, d⟩
  refine lv_aload_n hc.1 hc.2.1 dX9_isDigit_0 rfl (lv_at hl 0 rfl) ?_
  refine nn_get hc hw hz hiX9 rfl 2 (by decide) rfl lk60 dX9_isDigit_1 ?_
  refine lv_aload_n hc.1 hc.2.1 dX9_isDigit_4 rfl (lv_at hl 0 rfl) ?_
  refine nn_get hc hw hz hiX9 rfl 1 (by decide) rfl lk63 dX9_isDigit_5 ?_
  refine nn_icmp_ge hc dX9_isDigit_8 (tgt := 34) (by decide) (by omega) (by omega) (fun c1 => ?_) (fun c1 => ?_)
  · refine nn_iconst hc dX9_isDigit_34 ?_
    exact hrt _ _ _ dX9_isDigit_35 (by rw [dgt_ifI]; split <;> omega)
  · have hx1 := rtx mAt.toNat (by omega)
    refine lv_aload_n hc.1 hc.2.1 dX9_isDigit_11 rfl (lv_at hl 0 rfl) ?_
    refine nn_get hc hw hz hiX9 rfl 0 (by decide) rfl lk7 dX9_isDigit_12 ?_
    refine lv_aload_n hc.1 hc.2.1 dX9_isDigit_15 rfl (lv_at hl 0 rfl) ?_
    refine nn_get hc hw hz hiX9 rfl 2 (by decide) rfl lk60 dX9_isDigit_16 ?_
    refine nn_iald hc hw htx (by omega) (by omega) dX9_isDigit_19 ?_
    refine nn_bipush hc dX9_isDigit_20 (by decide +kernel) ?_
    refine nn_bipush hc dX9_isDigit_22 (by decide +kernel) ?_
    refine nn_Sp (As := [.int (iI (txa mAt.toNat)), .int (iI 48), .int (iI 57)]) (st := []) hc hw (c_X9_in l g   (by omega) (by omega) (by omega)) (va_cwS 3 hc.2.2.2.2 gX9_isDigit_X9_in rfl rfl rfl (by decide +kernel) ⟨Nat.le_of_ble_eq_true rfl, Nat.le_of_ble_eq_true rfl⟩) rfl hl.1 rfl (Nat.le_of_ble_eq_true rfl) ⟨Nat.le_of_ble_eq_true rfl, Nat.le_of_ble_eq_true rfl⟩ dX9_isDigit_24 ?_
    refine W.eq (g2 := F0 m 27 ls [.int (iI (if 48 ≤ (txa mAt.toNat) ∧ (txa mAt.toNat) ≤ 57 then 1 else 0))]) rfl ?_
    refine nn_if_eq hc dX9_isDigit_27 (tgt := 34) (by decide) (by omega) (fun c2 => ?_) (fun c2 => ?_)
    · refine nn_iconst hc dX9_isDigit_34 ?_
      exact hrt _ _ _ dX9_isDigit_35 (by rw [dgt_ifI]; split <;> omega)
    · refine nn_iconst hc dX9_isDigit_30 ?_
      refine lv_goto hc.1 hc.2.1 dX9_isDigit_31 (tgt := 35) (by decide) ?_
      exact hrt _ _ _ dX9_isDigit_35 (by rw [dgt_ifI]; split <;> omega)

set_option maxHeartbeats 4000000 in
set_option maxRecDepth 100000 in
theorem c_X9_isNumber (l : Launch) (g : gG) {n : Nat} {S : Nat → gE} {z : Nat} {mLen mAt mHC mRC mHS mJC mCh mVi : Int} {k : Int} {nbs : Nat → Int} {bl bh : Int} (hz : S z = oO 9 [.ref (z + 1), .int (iI mLen), .int (iI mAt), .ref (z + 2), .ref (z + 3), .ref (z + 4), .ref (z + 5), .int (iI mHC), .int (iI mRC), .ref (z + 6), .ref (z + 7), .ref (z + 8), .int (iI mHS), .ref (z + 9), .ref (z + 10), .int (iI mJC), .int (iI mCh), .int (iI mVi)]) (hnb : S (z + 9) = oI g 3 nbs) (rk : 0 ≤ k ∧ k < 3) (rn : -2147483648 ≤ nbs k.toNat ∧ nbs k.toNat < 2147483648) (r_bl : -2147483648 ≤ bl ∧ bl < 2147483648) (r_bh : -2147483648 ≤ bh ∧ bh < 2147483648) : g_Cp l yX9_isNumber wsX9_isNumber { frames := 1, cells := 0, slots := 0, locals := 22 } g [.ref z, .int (iI k), .int (iI bl), .int (iI bh)] n S (some (.int (iI (if bl ≤ nbs k.toNat ∧ nbs k.toNat ≤ bh then 1 else 0)))) := by
  refine g_Cp.of (cc := cX9_isNumber) (maxL := 4) (ret := (some .boolean)) (by decide) rfl (Nat.le_of_ble_eq_true rfl) ?_
  intro pp ee s m below meth cK Q ls hc hnm hw hl hret
  have hl : lv_has ls 4 [(0, .ref z), (1, .int (iI k)), (2, .int (iI bl)), (3, .int (iI bh))] := hl
  have hiX9 : ∀ w ∈ u_ws RX9 TX9 18, w ∈ wsX9_isNumber := by decide +kernel
  have lk34 : Cond.fieldLink RX9 34 "RoofCoursesModel" "numbers" "[I" ∈ wsX9_isNumber := by decide +kernel
  have hrt : ∀ (pc : Nat) (ls : Array Slot) (xr : Int), decode cX9_isNumber pc = .ok (.ireturn, 1) → xr = (if bl ≤ nbs k.toNat ∧ nbs k.toNat ≤ bh then 1 else 0) → W pp l ee ({ frames := 1, cells := 0, slots := 0, locals := 22 } : Room) s m ([.ref z, .int (iI k), .int (iI bl), .int (iI bh)] : List Value).toArray below meth cK s.heap [] 0 0 Q (F0 m pc ls [.int (iI xr)]) := fun pc ls xr d hx => by subst hx; exact hret pc ls ⟨_, rfl, nn_nb _, d⟩
  refine lv_aload_n hc.1 hc.2.1 dX9_isNumber_0 rfl (lv_at hl 0 rfl) ?_
  refine nn_get hc hw hz hiX9 rfl 13 (by decide) rfl lk34 dX9_isNumber_1 ?_
  refine lv_iload_n hc.1 hc.2.1 dX9_isNumber_4 rfl (lv_at hl 1 rfl) ?_
  refine nn_iald hc hw hnb (by omega) (by omega) dX9_isNumber_5 ?_
  refine lv_iload_n hc.1 hc.2.1 dX9_isNumber_6 rfl (lv_at hl 2 rfl) ?_
  refine lv_iload_n hc.1 hc.2.1 dX9_isNumber_7 rfl (lv_at hl 3 rfl) ?_
  refine nn_Sp (As := [.int (iI (nbs k.toNat)), .int (iI bl), .int (iI bh)]) (st := []) hc hw (c_X9_in l g   (by omega) (by omega) (by omega)) (va_cwS 3 hc.2.2.2.2 gX9_isNumber_X9_in rfl rfl rfl (by decide +kernel) ⟨Nat.le_of_ble_eq_true rfl, Nat.le_of_ble_eq_true rfl⟩) rfl hl.1 rfl (Nat.le_of_ble_eq_true rfl) ⟨Nat.le_of_ble_eq_true rfl, Nat.le_of_ble_eq_true rfl⟩ dX9_isNumber_8 ?_
  refine W.eq (g2 := F0 m 11 ls [.int (iI (if bl ≤ (nbs k.toNat) ∧ (nbs k.toNat) ≤ bh then 1 else 0))]) rfl ?_
  exact hrt _ _ _ dX9_isNumber_11 (by first | rfl | omega | (split <;> omega))

set_option maxHeartbeats 4000000 in
set_option maxRecDepth 100000 in
theorem c_X9_setRead (l : Launch) (g : gG) {n : Nat} {S : Nat → gE} {z : Nat} {mLen mAt mHC mRC mHS mJC mCh mVi : Int} {rst : Nat → Int} {si sv0 sb : Int} (hz : S z = oO 9 [.ref (z + 1), .int (iI mLen), .int (iI mAt), .ref (z + 2), .ref (z + 3), .ref (z + 4), .ref (z + 5), .int (iI mHC), .int (iI mRC), .ref (z + 6), .ref (z + 7), .ref (z + 8), .int (iI mHS), .ref (z + 9), .ref (z + 10), .int (iI mJC), .int (iI mCh), .int (iI mVi)]) (hrst : S (z + 3) = oI g 5 rst) (ri : 0 ≤ si ∧ si < 5) (rb : sb = 0 ∨ sb = 1) : g_Cs l yX9_setRead wsX9_setRead { frames := 0, cells := 0, slots := 0, locals := 0 } g [.ref z, .int (iI si), .int (iI sv0), .int (iI sb)] n S (fun vr n1 S1 => vr = none ∧ n = n1 ∧ S1 (z + 3) = oI g 5 (va_up rst si.toNat (if sb = 0 then rst si.toNat else sv0)) ∧ (∀ bb, bb ≠ (z + 3) → S1 bb = S bb)) 0 0 := by
  refine g_Cs.of (cc := cX9_setRead) (maxL := 4) (ret := none) (by decide) rfl (Nat.le_of_ble_eq_true rfl) ?_
  intro pp ee s m below meth cK Q H locs ls hc hnm hw hl hret
  have hl : lv_has ls 4 [(0, .ref z), (1, .int (iI si)), (2, .int (iI sv0)), (3, .int (iI sb))] := hl
  have hiX9 : ∀ w ∈ u_ws RX9 TX9 18, w ∈ wsX9_setRead := by decide +kernel
  have lk16 : Cond.fieldLink RX9 16 "RoofCoursesModel" "readSettings" "[I" ∈ wsX9_setRead := by decide +kernel
  refine lv_aload_n hc.1 hc.2.1 dX9_setRead_0 rfl (lv_at hl 0 rfl) ?_
  refine nn_get hc hw hz hiX9 rfl 4 (by decide) rfl lk16 dX9_setRead_1 ?_
  refine lv_iload_n hc.1 hc.2.1 dX9_setRead_4 rfl (lv_at hl 1 rfl) ?_
  refine lv_iload_n hc.1 hc.2.1 dX9_setRead_5 rfl (lv_at hl 3 rfl) ?_
  refine nn_if_eq hc dX9_setRead_6 (tgt := 13) (by decide) (by omega) (fun c1 => ?_) (fun c1 => ?_)
  · refine lv_aload_n hc.1 hc.2.1 dX9_setRead_13 rfl (lv_at hl 0 rfl) ?_
    refine nn_get hc hw hz hiX9 rfl 4 (by decide) rfl lk16 dX9_setRead_14 ?_
    refine lv_iload_n hc.1 hc.2.1 dX9_setRead_17 rfl (lv_at hl 1 rfl) ?_
    refine nn_iald hc hw hrst (by omega) (by omega) dX9_setRead_18 ?_
    refine nn_iast hc hw hrst (by omega) (by omega) dX9_setRead_19 (fun S2 H locs hS2 fS2 hw => ?_)
    exact hret none _ S2 _ _ _ _ hw (⟨rfl, rfl, (by first | (rw [if_pos (show sb = 0 by omega)]; exact hS2) | (rw [if_neg (show ¬ sb = 0 by omega)]; exact hS2)), fun bb hb0 => (fS2 bb hb0)⟩) ⟨rfl, dX9_setRead_20⟩
  · refine lv_iload_n hc.1 hc.2.1 dX9_setRead_9 rfl (lv_at hl 2 rfl) ?_
    refine lv_goto hc.1 hc.2.1 dX9_setRead_10 (tgt := 19) (by decide) ?_
    refine nn_iast hc hw hrst (by omega) (by omega) dX9_setRead_19 (fun S3 H locs hS3 fS3 hw => ?_)
    exact hret none _ S3 _ _ _ _ hw (⟨rfl, rfl, (by first | (rw [if_pos (show sb = 0 by omega)]; exact hS3) | (rw [if_neg (show ¬ sb = 0 by omega)]; exact hS3)), fun bb hb0 => (fS3 bb hb0)⟩) ⟨rfl, dX9_setRead_20⟩

set_option maxHeartbeats 4000000 in
set_option maxRecDepth 100000 in
theorem c_X9_readNumbers_yes (l : Launch) (g : gG) {n : Nat} {S : Nat → gE} {z : Nat} {mAt mHC mRC mHS mJC mCh mVi : Int} {tz : Nat} {txa nbs : Nat → Int} {k0 : Int} {ns : List Int} {en : Nat} (hz : S z = oO 9 [.ref (z + 1), .int (iI (tz : Int)), .int (iI mAt), .ref (z + 2), .ref (z + 3), .ref (z + 4), .ref (z + 5), .int (iI mHC), .int (iI mRC), .ref (z + 6), .ref (z + 7), .ref (z + 8), .int (iI mHS), .ref (z + 9), .ref (z + 10), .int (iI mJC), .int (iI mCh), .int (iI mVi)]) (htx : S (z + 1) = oI g 200 txa) (hnb : S (z + 9) = oI g 3 nbs) (rtz : tz ≤ 200) (rtx : ∀ i : Nat, i < tz → 32 ≤ txa i ∧ txa i ≤ 126) (ra : 0 ≤ mAt ∧ mAt ≤ tz) (rk0 : 1 ≤ k0 ∧ k0 ≤ 3) (hnm0 : nmA txa tz k0.toNat mAt.toNat = some (ns, en)) : g_Cs l yX9_readNumbers wsX9_readNumbers { frames := 2, cells := 0, slots := 0, locals := 42 } g [.ref z, .int (iI k0)] n S (fun vr n1 S1 => ∃ nb9 : Nat → Int, vr = some (.int (iI 1)) ∧ n = n1 ∧ S1 z = oO 9 [.ref (z + 1), .int (iI (tz : Int)), .int (iI (en : Int)), .ref (z + 2), .ref (z + 3), .ref (z + 4), .ref (z + 5), .int (iI mHC), .int (iI mRC), .ref (z + 6), .ref (z + 7), .ref (z + 8), .int (iI mHS), .ref (z + 9), .ref (z + 10), .int (iI mJC), .int (iI mCh), .int (iI mVi)] ∧ S1 (z + 9) = oI g 3 nb9 ∧ (∀ i : Nat, i < ns.length → nb9 i = ns.getD i 0) ∧ (∀ bb, bb ≠ z → bb ≠ (z + 9) → S1 bb = S bb)) 0 0 := by
  refine g_Cs.of (cc := cX9_readNumbers) (maxL := 5) (ret := (some .boolean)) (by decide) rfl (Nat.le_of_ble_eq_true rfl) ?_
  intro pp ee s m below meth cK Q H locs ls hc hnm hw hl hret
  have hl : lv_has ls 5 [(0, .ref z), (1, .int (iI k0))] := hl
  have hiX9 : ∀ w ∈ u_ws RX9 TX9 18, w ∈ wsX9_readNumbers := by decide +kernel
  have lk60 : Cond.fieldLink RX9 60 "RoofCoursesModel" "at" "I" ∈ wsX9_readNumbers := by decide +kernel
  have lk63 : Cond.fieldLink RX9 63 "RoofCoursesModel" "length" "I" ∈ wsX9_readNumbers := by decide +kernel
  have lk7 : Cond.fieldLink RX9 7 "RoofCoursesModel" "text" "[I" ∈ wsX9_readNumbers := by decide +kernel
  have lk34 : Cond.fieldLink RX9 34 "RoofCoursesModel" "numbers" "[I" ∈ wsX9_readNumbers := by decide +kernel
  refine nn_iconst hc dX9_readNumbers_0 ?_
  refine lv_istore_n (lv' := [(2, .int (iI 0)), (0, .ref z), (1, .int (iI k0))]) hc.1 hc.2.1 dX9_readNumbers_1 rfl hl (by decide) rfl (fun ls hl => ?_)
  have lab2 : ∀ (fu2 : Nat) (k : Int) (a1 : Int) (nb1 : Nat → Int) (acc : List Int) (rl1 : List Int) (S1 : Nat → gE) (H : Heap) (locs : List Loc) (ls : Array Slot), ((k = acc.length ∧ k ≤ k0) ∧ (0 ≤ a1 ∧ a1 ≤ tz)) → (∀ i : Nat, i < acc.length → nb1 i = acc.getD i 0) → (nmA txa tz (k0.toNat - acc.length) a1.toNat = some (rl1, en)) → (ns = acc ++ rl1) → S1 z = oO 9 [.ref (z + 1), .int (iI (tz : Int)), .int (iI a1), .ref (z + 2), .ref (z + 3), .ref (z + 4), .ref (z + 5), .int (iI mHC), .int (iI mRC), .ref (z + 6), .ref (z + 7), .ref (z + 8), .int (iI mHS), .ref (z + 9), .ref (z + 10), .int (iI mJC), .int (iI mCh), .int (iI mVi)] → S1 (z + 9) = oI g 3 nb1 → (∀ bb, bb ≠ z → bb ≠ (z + 9) → S1 bb = S bb) → g_W g n S1 s H locs → (3 - k).toNat < fu2 → lv_has ls 5 [(2, .int (iI k)), (0, .ref z), (1, .int (iI k0))] → W pp l ee ({ frames := 2, cells := 0, slots := 0, locals := 42 } : Room) s m ([.ref z, .int (iI k0)] : List Value).toArray below meth cK H locs 0 0 Q (F0 m 2 ls []) := by
    intro fu2
    induction fu2 with
    | zero =>
      intro k a1 nb1 acc rl1 S1 H locs ls hk hnb1 hnm hns hc2_0 hc2_1 fr2 hw hmeas hl
      exact absurd hmeas (Nat.not_lt_zero _)
    | succ fu2 ih2 =>
      intro k a1 nb1 acc rl1 S1 H locs ls hk hnb1 hnm hns hc2_0 hc2_1 fr2 hw hmeas hl
      refine lv_iload_n hc.1 hc.2.1 dX9_readNumbers_2 rfl (lv_at hl 0 rfl) ?_
      refine lv_iload_n hc.1 hc.2.1 dX9_readNumbers_3 rfl (lv_at hl 2 rfl) ?_
      refine nn_icmp_ge hc dX9_readNumbers_4 (tgt := 136) (by decide) (by omega) (by omega) (fun c2 => ?_) (fun c2 => ?_)
      · have hacl : k0.toNat - acc.length = 0 := by omega
        rw [hacl] at hnm
        obtain ⟨hrl, hen⟩ : [] = rl1 ∧ a1.toNat = en := by have := Option.some.inj hnm; exact ⟨congrArg Prod.fst this, congrArg Prod.snd this⟩
        have hns2 : ns = acc := by rw [hns, ← hrl, List.append_nil]
        refine nn_iconst hc dX9_readNumbers_136 ?_
        exact hret (some (.int (iI 1))) _ S1 _ _ _ _ hw (⟨_, rfl, rfl, (by rw [show (en : Int) = a1 by omega]; exact hc2_0), hc2_1, (by rw [hns2]; exact hnb1), fun bb hb0 hb1 => (fr2 bb hb0 hb1)⟩) ⟨_, rfl, by first | rfl | exact nn_nb _, dX9_readNumbers_137⟩
      · obtain ⟨w9, hw9⟩ : ∃ w9 : Nat, k0.toNat - acc.length = w9 + 1 := ⟨k0.toNat - acc.length - 1, by omega⟩
        rw [hw9] at hnm
        obtain ⟨⟨hz1, hz2, hz3⟩, rr, hr1, hnn0⟩ := nmA_some hnm
        refine lv_aload_n hc.1 hc.2.1 dX9_readNumbers_7 rfl (lv_at hl 1 rfl) ?_
        refine nn_get hc hw hc2_0 hiX9 rfl 2 (by decide) rfl lk60 dX9_readNumbers_8 ?_
        refine lv_istore_n (lv' := [(3, .int (iI a1)), (2, .int (iI k)), (0, .ref z), (1, .int (iI k0))]) hc.1 hc.2.1 dX9_readNumbers_11 rfl hl (by decide) rfl (fun ls hl => ?_)
        refine nn_iconst hc dX9_readNumbers_12 ?_
        refine lv_istore (lv' := [(4, .int (iI 0)), (3, .int (iI a1)), (2, .int (iI k)), (0, .ref z), (1, .int (iI k0))]) hc.1 hc.2.1 dX9_readNumbers_13 hl (by decide) rfl (fun ls hl => ?_)
        have lab15 : ∀ (fu15 : Nat) (v : Int) (a2 : Int) (S3 : Nat → gE) (H : Heap) (locs : List Loc) (ls : Array Slot), (a1 ≤ a2 ∧ a2 ≤ a1 + 3 ∧ a2 ≤ tz) → (rdV txa tz (3 - (a2 - a1)).toNat a2.toNat v = rdV txa tz 3 a1.toNat 0) → S3 z = oO 9 [.ref (z + 1), .int (iI (tz : Int)), .int (iI a2), .ref (z + 2), .ref (z + 3), .ref (z + 4), .ref (z + 5), .int (iI mHC), .int (iI mRC), .ref (z + 6), .ref (z + 7), .ref (z + 8), .int (iI mHS), .ref (z + 9), .ref (z + 10), .int (iI mJC), .int (iI mCh), .int (iI mVi)] → (∀ bb, bb ≠ z → S3 bb = S1 bb) → g_W g n S3 s H locs → (a1 + 3 - a2).toNat < fu15 → lv_has ls 5 [(4, .int (iI v)), (0, .ref z), (1, .int (iI k0)), (2, .int (iI k)), (3, .int (iI a1))] → W pp l ee ({ frames := 2, cells := 0, slots := 0, locals := 42 } : Room) s m ([.ref z, .int (iI k0)] : List Value).toArray below meth cK H locs 0 0 Q (F0 m 15 ls []) := by
          intro fu15
          induction fu15 with
          | zero =>
            intro v a2 S3 H locs ls ha2 hrd hc15_0 fr15 hw hmeas hl
            exact absurd hmeas (Nat.not_lt_zero _)
          | succ fu15 ih15 =>
            intro v a2 S3 H locs ls ha2 hrd hc15_0 fr15 hw hmeas hl
            refine lv_aload_n hc.1 hc.2.1 dX9_readNumbers_15 rfl (lv_at hl 1 rfl) ?_
            have e4 : S1 (z + 1) = oI g 200 txa := (fr2 (z + 1) (off_nr (x := z) (a := 1) (by decide)) (off_ne (x := z) (a := 1) (b := 9) (by decide))).trans htx
            have e5 : S3 (z + 1) = oI g 200 txa := (fr15 (z + 1) (off_nr (x := z) (a := 1) (by decide))).trans e4
            refine nn_Vp (As := []) (st := []) hc hw hc15_0 rfl (c_X9_isDigit l g  hc15_0 e5 (by omega) (rtx) (by omega)) (cwV 0 hc.2.2.2.2 gX9_readNumbers_X9_isDigit rfl rfl rfl (by decide +kernel) ⟨Nat.le_of_ble_eq_true rfl, Nat.le_of_ble_eq_true rfl⟩) rfl hl.1 rfl (Nat.le_of_ble_eq_true rfl) ⟨Nat.le_of_ble_eq_true rfl, Nat.le_of_ble_eq_true rfl⟩ dX9_readNumbers_16 ?_
            refine W.eq (g2 := F0 m 19 ls [.int (iI (if dgt txa tz a2.toNat = true then 1 else 0))]) rfl ?_
            refine nn_if_eq hc dX9_readNumbers_19 (tgt := 65) (by decide) (by omega) (fun c6 => ?_) (fun c6 => ?_)
            · have hdg : dgt txa tz a2.toNat = false := Bool.eq_false_iff.mpr (fun q9 => by have h8 := c6; rw [if_pos q9] at h8; exact absurd h8 (by decide))
              have hfin : rdV txa tz 3 a1.toNat 0 = (v, a2.toNat) := by rw [← hrd]; exact rdV_no hdg
              have hf2 : (rdV txa tz 3 a1.toNat 0).2 = a2.toNat := by rw [hfin]
              rw [hf2] at hz1 hz2 hz3
              have hnn : nmA txa tz w9 (a2.toNat + 1) = some (rr, en) := by rw [← hf2]; exact hnn0
              have hf1 : (rdV txa tz 3 a1.toNat 0).1 = v := by rw [hfin]
              rw [hf1] at hr1
              have hbrz : (if w9 = 0 then (59 : Int) else 44) = 59 ∧ w9 = 0 ∨ (if w9 = 0 then (59 : Int) else 44) = 44 ∧ w9 ≠ 0 := by split <;> omega
              refine lv_aload_n hc.1 hc.2.1 dX9_readNumbers_65 rfl (lv_at hl 1 rfl) ?_
              refine nn_get hc hw hc15_0 hiX9 rfl 2 (by decide) rfl lk60 dX9_readNumbers_66 ?_
              refine lv_iload_n hc.1 hc.2.1 dX9_readNumbers_69 rfl (lv_at hl 4 rfl) ?_
              refine nn_icmp_eq hc dX9_readNumbers_70 (tgt := 110) (by decide) (by omega) (by omega) (fun c7 => ?_) (fun c7 => ?_)
              · exfalso; omega
              · refine lv_aload_n hc.1 hc.2.1 dX9_readNumbers_73 rfl (lv_at hl 1 rfl) ?_
                refine nn_get hc hw hc15_0 hiX9 rfl 2 (by decide) rfl lk60 dX9_readNumbers_74 ?_
                refine lv_aload_n hc.1 hc.2.1 dX9_readNumbers_77 rfl (lv_at hl 1 rfl) ?_
                refine nn_get hc hw hc15_0 hiX9 rfl 1 (by decide) rfl lk63 dX9_readNumbers_78 ?_
                refine nn_icmp_eq hc dX9_readNumbers_81 (tgt := 110) (by decide) (by omega) (by omega) (fun c8 => ?_) (fun c8 => ?_)
                · exfalso; omega
                · have hxr := rtx a2.toNat (by omega)
                  refine lv_aload_n hc.1 hc.2.1 dX9_readNumbers_84 rfl (lv_at hl 1 rfl) ?_
                  refine nn_get hc hw hc15_0 hiX9 rfl 0 (by decide) rfl lk7 dX9_readNumbers_85 ?_
                  refine lv_aload_n hc.1 hc.2.1 dX9_readNumbers_88 rfl (lv_at hl 1 rfl) ?_
                  refine nn_get hc hw hc15_0 hiX9 rfl 2 (by decide) rfl lk60 dX9_readNumbers_89 ?_
                  refine nn_iald hc hw e5 (by omega) (by omega) dX9_readNumbers_92 ?_
                  refine lv_iload_n hc.1 hc.2.1 dX9_readNumbers_93 rfl (lv_at hl 3 rfl) ?_
                  refine nn_iconst hc dX9_readNumbers_94 ?_
                  refine nn_iadd hc dX9_readNumbers_95 ?_
                  refine lv_iload_n hc.1 hc.2.1 dX9_readNumbers_96 rfl (lv_at hl 2 rfl) ?_
                  refine nn_icmp_ne hc dX9_readNumbers_97 (tgt := 105) (by decide) (by omega) (by omega) (fun c9 => ?_) (fun c9 => ?_)
                  · refine nn_bipush hc dX9_readNumbers_105 (by decide +kernel) ?_
                    refine nn_icmp_eq hc dX9_readNumbers_107 (tgt := 112) (by decide) (by omega) (by decide) (fun c10 => ?_) (fun c10 => ?_)
                    · refine lv_aload_n hc.1 hc.2.1 dX9_readNumbers_112 rfl (lv_at hl 1 rfl) ?_
                      refine nn_get hc hw hc15_0 hiX9 rfl 13 (by decide) rfl lk34 dX9_readNumbers_113 ?_
                      refine lv_iload_n hc.1 hc.2.1 dX9_readNumbers_116 rfl (lv_at hl 3 rfl) ?_
                      refine lv_iload hc.1 hc.2.1 dX9_readNumbers_117 (lv_at hl 0 rfl) ?_
                      have e11 : S3 (z + 9) = oI g 3 nb1 := (fr15 (z + 9) (off_nr (x := z) (a := 9) (by decide))).trans hc2_1
                      refine nn_iast hc hw e11 (by omega) (by omega) dX9_readNumbers_119 (fun S12 H locs hS12 fS12 hw => ?_)
                      refine lv_aload_n hc.1 hc.2.1 dX9_readNumbers_120 rfl (lv_at hl 1 rfl) ?_
                      refine lv_dup hc.1 hc.2.1 dX9_readNumbers_121 rfl ?_
                      have e13 : S12 z = oO 9 [.ref (z + 1), .int (iI (tz : Int)), .int (iI a2), .ref (z + 2), .ref (z + 3), .ref (z + 4), .ref (z + 5), .int (iI mHC), .int (iI mRC), .ref (z + 6), .ref (z + 7), .ref (z + 8), .int (iI mHS), .ref (z + 9), .ref (z + 10), .int (iI mJC), .int (iI mCh), .int (iI mVi)] := (fS12 z (off_nl (x := z) (a := 9) (by decide))).trans hc15_0
                      refine nn_get hc hw e13 hiX9 rfl 2 (by decide) rfl lk60 dX9_readNumbers_122 ?_
                      refine nn_iconst hc dX9_readNumbers_125 ?_
                      refine nn_iadd hc dX9_readNumbers_126 ?_
                      refine nn_put hc hw e13 hiX9 tyX9 tyX9_ok nmX9 rfl 2 (by decide) (Nat.le_of_ble_eq_true rfl) lk60 rfl rfl rfl dX9_readNumbers_127 (fun S14 H locs hS14 fS14 hw => ?_)
                      have hS14 : S14 z = oO 9 [.ref (z + 1), .int (iI (tz : Int)), .int (iI (a2 + 1)), .ref (z + 2), .ref (z + 3), .ref (z + 4), .ref (z + 5), .int (iI mHC), .int (iI mRC), .ref (z + 6), .ref (z + 7), .ref (z + 8), .int (iI mHS), .ref (z + 9), .ref (z + 10), .int (iI mJC), .int (iI mCh), .int (iI mVi)] := hS14
                      refine nn_iinc (lv' := [(2, .int (iI (k + 1))), (4, .int (iI v)), (0, .ref z), (1, .int (iI k0)), (3, .int (iI a1))]) hc dX9_readNumbers_130 hl (k0 := 3) rfl (by decide) rfl (fun ls hl => ?_)
                      refine lv_goto hc.1 hc.2.1 dX9_readNumbers_133 (tgt := 2) (by decide) ?_
                      have e15 : S14 (z + 9) = oI g 3 (va_up nb1 k.toNat v) := (fS14 (z + 9) (off_nr (x := z) (a := 9) (by decide))).trans hS12
                      exact ih2 (k + 1) (a2 + 1) (va_up nb1 k.toNat v) (acc ++ [v]) rr S14 _ _ _ (by rw [List.length_append]; simp only [List.length_cons, List.length_nil]; omega) (up_nums (by omega) hnb1) (by rw [List.length_append, show (a2 + 1).toNat = a2.toNat + 1 by omega, show k0.toNat - (acc.length + [v].length) = w9 by simp only [List.length_cons, List.length_nil]; omega]; exact hnn) (by rw [hns, hr1, List.append_assoc]; rfl) hS14 e15 (fun bb hb0 hb1 => ((((fS14 bb hb0)).trans (fS12 bb hb1)).trans (fr15 bb hb0)).trans (fr2 bb hb0 hb1)) hw (by omega) (lv_sub hl [0, 2, 3] rfl)
                    · exfalso; omega
                  · refine nn_bipush hc dX9_readNumbers_100 (by decide +kernel) ?_
                    refine lv_goto hc.1 hc.2.1 dX9_readNumbers_102 (tgt := 107) (by decide) ?_
                    refine nn_icmp_eq hc dX9_readNumbers_107 (tgt := 112) (by decide) (by omega) (by decide) (fun c16 => ?_) (fun c16 => ?_)
                    · refine lv_aload_n hc.1 hc.2.1 dX9_readNumbers_112 rfl (lv_at hl 1 rfl) ?_
                      refine nn_get hc hw hc15_0 hiX9 rfl 13 (by decide) rfl lk34 dX9_readNumbers_113 ?_
                      refine lv_iload_n hc.1 hc.2.1 dX9_readNumbers_116 rfl (lv_at hl 3 rfl) ?_
                      refine lv_iload hc.1 hc.2.1 dX9_readNumbers_117 (lv_at hl 0 rfl) ?_
                      have e17 : S3 (z + 9) = oI g 3 nb1 := (fr15 (z + 9) (off_nr (x := z) (a := 9) (by decide))).trans hc2_1
                      refine nn_iast hc hw e17 (by omega) (by omega) dX9_readNumbers_119 (fun S18 H locs hS18 fS18 hw => ?_)
                      refine lv_aload_n hc.1 hc.2.1 dX9_readNumbers_120 rfl (lv_at hl 1 rfl) ?_
                      refine lv_dup hc.1 hc.2.1 dX9_readNumbers_121 rfl ?_
                      have e19 : S18 z = oO 9 [.ref (z + 1), .int (iI (tz : Int)), .int (iI a2), .ref (z + 2), .ref (z + 3), .ref (z + 4), .ref (z + 5), .int (iI mHC), .int (iI mRC), .ref (z + 6), .ref (z + 7), .ref (z + 8), .int (iI mHS), .ref (z + 9), .ref (z + 10), .int (iI mJC), .int (iI mCh), .int (iI mVi)] := (fS18 z (off_nl (x := z) (a := 9) (by decide))).trans hc15_0
                      refine nn_get hc hw e19 hiX9 rfl 2 (by decide) rfl lk60 dX9_readNumbers_122 ?_
                      refine nn_iconst hc dX9_readNumbers_125 ?_
                      refine nn_iadd hc dX9_readNumbers_126 ?_
                      refine nn_put hc hw e19 hiX9 tyX9 tyX9_ok nmX9 rfl 2 (by decide) (Nat.le_of_ble_eq_true rfl) lk60 rfl rfl rfl dX9_readNumbers_127 (fun S20 H locs hS20 fS20 hw => ?_)
                      have hS20 : S20 z = oO 9 [.ref (z + 1), .int (iI (tz : Int)), .int (iI (a2 + 1)), .ref (z + 2), .ref (z + 3), .ref (z + 4), .ref (z + 5), .int (iI mHC), .int (iI mRC), .ref (z + 6), .ref (z + 7), .ref (z + 8), .int (iI mHS), .ref (z + 9), .ref (z + 10), .int (iI mJC), .int (iI mCh), .int (iI mVi)] := hS20
                      refine nn_iinc (lv' := [(2, .int (iI (k + 1))), (4, .int (iI v)), (0, .ref z), (1, .int (iI k0)), (3, .int (iI a1))]) hc dX9_readNumbers_130 hl (k0 := 3) rfl (by decide) rfl (fun ls hl => ?_)
                      refine lv_goto hc.1 hc.2.1 dX9_readNumbers_133 (tgt := 2) (by decide) ?_
                      have e21 : S20 (z + 9) = oI g 3 (va_up nb1 k.toNat v) := (fS20 (z + 9) (off_nr (x := z) (a := 9) (by decide))).trans hS18
                      exact ih2 (k + 1) (a2 + 1) (va_up nb1 k.toNat v) (acc ++ [v]) rr S20 _ _ _ (by rw [List.length_append]; simp only [List.length_cons, List.length_nil]; omega) (up_nums (by omega) hnb1) (by rw [List.length_append, show (a2 + 1).toNat = a2.toNat + 1 by omega, show k0.toNat - (acc.length + [v].length) = w9 by simp only [List.length_cons, List.length_nil]; omega]; exact hnn) (by rw [hns, hr1, List.append_assoc]; rfl) hS20 e21 (fun bb hb0 hb1 => ((((fS20 bb hb0)).trans (fS18 bb hb1)).trans (fr15 bb hb0)).trans (fr2 bb hb0 hb1)) hw (by omega) (lv_sub hl [0, 2, 3] rfl)
                    · exfalso; omega
            · have hdg : dgt txa tz a2.toNat = true := Classical.byContradiction (fun q9 => c6 (if_neg q9))
              have hdg2 := dgt_iff.mp hdg
              refine lv_aload_n hc.1 hc.2.1 dX9_readNumbers_22 rfl (lv_at hl 1 rfl) ?_
              refine nn_get hc hw hc15_0 hiX9 rfl 2 (by decide) rfl lk60 dX9_readNumbers_23 ?_
              refine lv_iload_n hc.1 hc.2.1 dX9_readNumbers_26 rfl (lv_at hl 4 rfl) ?_
              refine nn_iconst hc dX9_readNumbers_27 ?_
              refine nn_iadd hc dX9_readNumbers_28 ?_
              refine nn_icmp_ge hc dX9_readNumbers_29 (tgt := 65) (by decide) (by omega) (by omega) (fun c22 => ?_) (fun c22 => ?_)
              · have hfin : rdV txa tz 3 a1.toNat 0 = (v, a2.toNat) := by rw [← hrd, show (3 - (a2 - a1)).toNat = 0 by omega]; rfl
                have hf2 : (rdV txa tz 3 a1.toNat 0).2 = a2.toNat := by rw [hfin]
                rw [hf2] at hz1 hz2 hz3
                have hnn : nmA txa tz w9 (a2.toNat + 1) = some (rr, en) := by rw [← hf2]; exact hnn0
                have hf1 : (rdV txa tz 3 a1.toNat 0).1 = v := by rw [hfin]
                rw [hf1] at hr1
                have hbrz : (if w9 = 0 then (59 : Int) else 44) = 59 ∧ w9 = 0 ∨ (if w9 = 0 then (59 : Int) else 44) = 44 ∧ w9 ≠ 0 := by split <;> omega
                refine lv_aload_n hc.1 hc.2.1 dX9_readNumbers_65 rfl (lv_at hl 1 rfl) ?_
                refine nn_get hc hw hc15_0 hiX9 rfl 2 (by decide) rfl lk60 dX9_readNumbers_66 ?_
                refine lv_iload_n hc.1 hc.2.1 dX9_readNumbers_69 rfl (lv_at hl 4 rfl) ?_
                refine nn_icmp_eq hc dX9_readNumbers_70 (tgt := 110) (by decide) (by omega) (by omega) (fun c23 => ?_) (fun c23 => ?_)
                · exfalso; omega
                · refine lv_aload_n hc.1 hc.2.1 dX9_readNumbers_73 rfl (lv_at hl 1 rfl) ?_
                  refine nn_get hc hw hc15_0 hiX9 rfl 2 (by decide) rfl lk60 dX9_readNumbers_74 ?_
                  refine lv_aload_n hc.1 hc.2.1 dX9_readNumbers_77 rfl (lv_at hl 1 rfl) ?_
                  refine nn_get hc hw hc15_0 hiX9 rfl 1 (by decide) rfl lk63 dX9_readNumbers_78 ?_
                  refine nn_icmp_eq hc dX9_readNumbers_81 (tgt := 110) (by decide) (by omega) (by omega) (fun c24 => ?_) (fun c24 => ?_)
                  · exfalso; omega
                  · have hxr := rtx a2.toNat (by omega)
                    refine lv_aload_n hc.1 hc.2.1 dX9_readNumbers_84 rfl (lv_at hl 1 rfl) ?_
                    refine nn_get hc hw hc15_0 hiX9 rfl 0 (by decide) rfl lk7 dX9_readNumbers_85 ?_
                    refine lv_aload_n hc.1 hc.2.1 dX9_readNumbers_88 rfl (lv_at hl 1 rfl) ?_
                    refine nn_get hc hw hc15_0 hiX9 rfl 2 (by decide) rfl lk60 dX9_readNumbers_89 ?_
                    refine nn_iald hc hw e5 (by omega) (by omega) dX9_readNumbers_92 ?_
                    refine lv_iload_n hc.1 hc.2.1 dX9_readNumbers_93 rfl (lv_at hl 3 rfl) ?_
                    refine nn_iconst hc dX9_readNumbers_94 ?_
                    refine nn_iadd hc dX9_readNumbers_95 ?_
                    refine lv_iload_n hc.1 hc.2.1 dX9_readNumbers_96 rfl (lv_at hl 2 rfl) ?_
                    refine nn_icmp_ne hc dX9_readNumbers_97 (tgt := 105) (by decide) (by omega) (by omega) (fun c25 => ?_) (fun c25 => ?_)
                    · refine nn_bipush hc dX9_readNumbers_105 (by decide +kernel) ?_
                      refine nn_icmp_eq hc dX9_readNumbers_107 (tgt := 112) (by decide) (by omega) (by decide) (fun c26 => ?_) (fun c26 => ?_)
                      · refine lv_aload_n hc.1 hc.2.1 dX9_readNumbers_112 rfl (lv_at hl 1 rfl) ?_
                        refine nn_get hc hw hc15_0 hiX9 rfl 13 (by decide) rfl lk34 dX9_readNumbers_113 ?_
                        refine lv_iload_n hc.1 hc.2.1 dX9_readNumbers_116 rfl (lv_at hl 3 rfl) ?_
                        refine lv_iload hc.1 hc.2.1 dX9_readNumbers_117 (lv_at hl 0 rfl) ?_
                        have e27 : S3 (z + 9) = oI g 3 nb1 := (fr15 (z + 9) (off_nr (x := z) (a := 9) (by decide))).trans hc2_1
                        refine nn_iast hc hw e27 (by omega) (by omega) dX9_readNumbers_119 (fun S28 H locs hS28 fS28 hw => ?_)
                        refine lv_aload_n hc.1 hc.2.1 dX9_readNumbers_120 rfl (lv_at hl 1 rfl) ?_
                        refine lv_dup hc.1 hc.2.1 dX9_readNumbers_121 rfl ?_
                        have e29 : S28 z = oO 9 [.ref (z + 1), .int (iI (tz : Int)), .int (iI a2), .ref (z + 2), .ref (z + 3), .ref (z + 4), .ref (z + 5), .int (iI mHC), .int (iI mRC), .ref (z + 6), .ref (z + 7), .ref (z + 8), .int (iI mHS), .ref (z + 9), .ref (z + 10), .int (iI mJC), .int (iI mCh), .int (iI mVi)] := (fS28 z (off_nl (x := z) (a := 9) (by decide))).trans hc15_0
                        refine nn_get hc hw e29 hiX9 rfl 2 (by decide) rfl lk60 dX9_readNumbers_122 ?_
                        refine nn_iconst hc dX9_readNumbers_125 ?_
                        refine nn_iadd hc dX9_readNumbers_126 ?_
                        refine nn_put hc hw e29 hiX9 tyX9 tyX9_ok nmX9 rfl 2 (by decide) (Nat.le_of_ble_eq_true rfl) lk60 rfl rfl rfl dX9_readNumbers_127 (fun S30 H locs hS30 fS30 hw => ?_)
                        have hS30 : S30 z = oO 9 [.ref (z + 1), .int (iI (tz : Int)), .int (iI (a2 + 1)), .ref (z + 2), .ref (z + 3), .ref (z + 4), .ref (z + 5), .int (iI mHC), .int (iI mRC), .ref (z + 6), .ref (z + 7), .ref (z + 8), .int (iI mHS), .ref (z + 9), .ref (z + 10), .int (iI mJC), .int (iI mCh), .int (iI mVi)] := hS30
                        refine nn_iinc (lv' := [(2, .int (iI (k + 1))), (4, .int (iI v)), (0, .ref z), (1, .int (iI k0)), (3, .int (iI a1))]) hc dX9_readNumbers_130 hl (k0 := 3) rfl (by decide) rfl (fun ls hl => ?_)
                        refine lv_goto hc.1 hc.2.1 dX9_readNumbers_133 (tgt := 2) (by decide) ?_
                        have e31 : S30 (z + 9) = oI g 3 (va_up nb1 k.toNat v) := (fS30 (z + 9) (off_nr (x := z) (a := 9) (by decide))).trans hS28
                        exact ih2 (k + 1) (a2 + 1) (va_up nb1 k.toNat v) (acc ++ [v]) rr S30 _ _ _ (by rw [List.length_append]; simp only [List.length_cons, List.length_nil]; omega) (up_nums (by omega) hnb1) (by rw [List.length_append, show (a2 + 1).toNat = a2.toNat + 1 by omega, show k0.toNat - (acc.length + [v].length) = w9 by simp only [List.length_cons, List.length_nil]; omega]; exact hnn) (by rw [hns, hr1, List.append_assoc]; rfl) hS30 e31 (fun bb hb0 hb1 => ((((fS30 bb hb0)).trans (fS28 bb hb1)).trans (fr15 bb hb0)).trans (fr2 bb hb0 hb1)) hw (by omega) (lv_sub hl [0, 2, 3] rfl)
                      · exfalso; omega
                    · refine nn_bipush hc dX9_readNumbers_100 (by decide +kernel) ?_
                      refine lv_goto hc.1 hc.2.1 dX9_readNumbers_102 (tgt := 107) (by decide) ?_
                      refine nn_icmp_eq hc dX9_readNumbers_107 (tgt := 112) (by decide) (by omega) (by decide) (fun c32 => ?_) (fun c32 => ?_)
                      · refine lv_aload_n hc.1 hc.2.1 dX9_readNumbers_112 rfl (lv_at hl 1 rfl) ?_
                        refine nn_get hc hw hc15_0 hiX9 rfl 13 (by decide) rfl lk34 dX9_readNumbers_113 ?_
                        refine lv_iload_n hc.1 hc.2.1 dX9_readNumbers_116 rfl (lv_at hl 3 rfl) ?_
                        refine lv_iload hc.1 hc.2.1 dX9_readNumbers_117 (lv_at hl 0 rfl) ?_
                        have e33 : S3 (z + 9) = oI g 3 nb1 := (fr15 (z + 9) (off_nr (x := z) (a := 9) (by decide))).trans hc2_1
                        refine nn_iast hc hw e33 (by omega) (by omega) dX9_readNumbers_119 (fun S34 H locs hS34 fS34 hw => ?_)
                        refine lv_aload_n hc.1 hc.2.1 dX9_readNumbers_120 rfl (lv_at hl 1 rfl) ?_
                        refine lv_dup hc.1 hc.2.1 dX9_readNumbers_121 rfl ?_
                        have e35 : S34 z = oO 9 [.ref (z + 1), .int (iI (tz : Int)), .int (iI a2), .ref (z + 2), .ref (z + 3), .ref (z + 4), .ref (z + 5), .int (iI mHC), .int (iI mRC), .ref (z + 6), .ref (z + 7), .ref (z + 8), .int (iI mHS), .ref (z + 9), .ref (z + 10), .int (iI mJC), .int (iI mCh), .int (iI mVi)] := (fS34 z (off_nl (x := z) (a := 9) (by decide))).trans hc15_0
                        refine nn_get hc hw e35 hiX9 rfl 2 (by decide) rfl lk60 dX9_readNumbers_122 ?_
                        refine nn_iconst hc dX9_readNumbers_125 ?_
                        refine nn_iadd hc dX9_readNumbers_126 ?_
                        refine nn_put hc hw e35 hiX9 tyX9 tyX9_ok nmX9 rfl 2 (by decide) (Nat.le_of_ble_eq_true rfl) lk60 rfl rfl rfl dX9_readNumbers_127 (fun S36 H locs hS36 fS36 hw => ?_)
                        have hS36 : S36 z = oO 9 [.ref (z + 1), .int (iI (tz : Int)), .int (iI (a2 + 1)), .ref (z + 2), .ref (z + 3), .ref (z + 4), .ref (z + 5), .int (iI mHC), .int (iI mRC), .ref (z + 6), .ref (z + 7), .ref (z + 8), .int (iI mHS), .ref (z + 9), .ref (z + 10), .int (iI mJC), .int (iI mCh), .int (iI mVi)] := hS36
                        refine nn_iinc (lv' := [(2, .int (iI (k + 1))), (4, .int (iI v)), (0, .ref z), (1, .int (iI k0)), (3, .int (iI a1))]) hc dX9_readNumbers_130 hl (k0 := 3) rfl (by decide) rfl (fun ls hl => ?_)
                        refine lv_goto hc.1 hc.2.1 dX9_readNumbers_133 (tgt := 2) (by decide) ?_
                        have e37 : S36 (z + 9) = oI g 3 (va_up nb1 k.toNat v) := (fS36 (z + 9) (off_nr (x := z) (a := 9) (by decide))).trans hS34
                        exact ih2 (k + 1) (a2 + 1) (va_up nb1 k.toNat v) (acc ++ [v]) rr S36 _ _ _ (by rw [List.length_append]; simp only [List.length_cons, List.length_nil]; omega) (up_nums (by omega) hnb1) (by rw [List.length_append, show (a2 + 1).toNat = a2.toNat + 1 by omega, show k0.toNat - (acc.length + [v].length) = w9 by simp only [List.length_cons, List.length_nil]; omega]; exact hnn) (by rw [hns, hr1, List.append_assoc]; rfl) hS36 e37 (fun bb hb0 hb1 => ((((fS36 bb hb0)).trans (fS34 bb hb1)).trans (fr15 bb hb0)).trans (fr2 bb hb0 hb1)) hw (by omega) (lv_sub hl [0, 2, 3] rfl)
                      · exfalso; omega
              · refine nn_bipush hc dX9_readNumbers_32 (by decide +kernel) ?_
                refine lv_iload hc.1 hc.2.1 dX9_readNumbers_34 (lv_at hl 0 rfl) ?_
                refine nn_imul hc dX9_readNumbers_36 ?_
                refine lv_aload_n hc.1 hc.2.1 dX9_readNumbers_37 rfl (lv_at hl 1 rfl) ?_
                refine nn_get hc hw hc15_0 hiX9 rfl 0 (by decide) rfl lk7 dX9_readNumbers_38 ?_
                refine lv_aload_n hc.1 hc.2.1 dX9_readNumbers_41 rfl (lv_at hl 1 rfl) ?_
                refine nn_get hc hw hc15_0 hiX9 rfl 2 (by decide) rfl lk60 dX9_readNumbers_42 ?_
                refine nn_iald hc hw e5 (by omega) (by omega) dX9_readNumbers_45 ?_
                refine nn_iadd hc dX9_readNumbers_46 ?_
                refine nn_bipush hc dX9_readNumbers_47 (by decide +kernel) ?_
                refine nn_isub hc dX9_readNumbers_49 ?_
                refine lv_istore (lv' := [(4, .int (iI (((10 * v) + (txa a2.toNat)) - 48))), (0, .ref z), (1, .int (iI k0)), (2, .int (iI k)), (3, .int (iI a1))]) hc.1 hc.2.1 dX9_readNumbers_50 hl (by decide) rfl (fun ls hl => ?_)
                refine lv_aload_n hc.1 hc.2.1 dX9_readNumbers_52 rfl (lv_at hl 1 rfl) ?_
                refine lv_dup hc.1 hc.2.1 dX9_readNumbers_53 rfl ?_
                refine nn_get hc hw hc15_0 hiX9 rfl 2 (by decide) rfl lk60 dX9_readNumbers_54 ?_
                refine nn_iconst hc dX9_readNumbers_57 ?_
                refine nn_iadd hc dX9_readNumbers_58 ?_
                refine nn_put hc hw hc15_0 hiX9 tyX9 tyX9_ok nmX9 rfl 2 (by decide) (Nat.le_of_ble_eq_true rfl) lk60 rfl rfl rfl dX9_readNumbers_59 (fun S38 H locs hS38 fS38 hw => ?_)
                have hS38 : S38 z = oO 9 [.ref (z + 1), .int (iI (tz : Int)), .int (iI (a2 + 1)), .ref (z + 2), .ref (z + 3), .ref (z + 4), .ref (z + 5), .int (iI mHC), .int (iI mRC), .ref (z + 6), .ref (z + 7), .ref (z + 8), .int (iI mHS), .ref (z + 9), .ref (z + 10), .int (iI mJC), .int (iI mCh), .int (iI mVi)] := hS38
                refine lv_goto hc.1 hc.2.1 dX9_readNumbers_62 (tgt := 15) (by decide) ?_
                exact ih15 (((10 * v) + (txa a2.toNat)) - 48) (a2 + 1) S38 _ _ _ (by omega) (by rw [← hrd, show (3 - (a2 - a1)).toNat = (3 - (a2 + 1 - a1)).toNat + 1 by omega, rdV_yes hdg, show (a2 + 1).toNat = a2.toNat + 1 by omega, show 10 * v + txa a2.toNat - 48 = v * 10 + (txa a2.toNat - 48) by omega]) hS38 (fun bb hb0 => ((fS38 bb hb0)).trans (fr15 bb hb0)) hw (by omega) (lv_sub hl [0, 1, 2, 3, 4] rfl)
        exact lab15 _ 0 a1 S1 _ _ _ (by omega) (by rw [Int.sub_self]; rfl) hc2_0 (fun bb _ => rfl) hw (Nat.lt_succ_self _) (lv_sub hl [0, 3, 4, 2, 1] rfl)
  exact lab2 _ 0 mAt nbs ([]) ns S _ _ _ (⟨⟨rfl, by omega⟩, by omega, by omega⟩) (fun i hi => absurd hi (Nat.not_lt_zero i)) (hnm0) (rfl) hz hnb (fun bb _ _ => rfl) hw (Nat.lt_succ_self _) (lv_sub hl [0, 1, 2] rfl)

set_option maxHeartbeats 4000000 in
set_option maxRecDepth 100000 in
theorem c_X9_readNumbers_no (l : Launch) (g : gG) {n : Nat} {S : Nat → gE} {z : Nat} {mAt mHC mRC mHS mJC mCh mVi : Int} {tz : Nat} {txa nbs : Nat → Int} {k0 : Int} (hz : S z = oO 9 [.ref (z + 1), .int (iI (tz : Int)), .int (iI mAt), .ref (z + 2), .ref (z + 3), .ref (z + 4), .ref (z + 5), .int (iI mHC), .int (iI mRC), .ref (z + 6), .ref (z + 7), .ref (z + 8), .int (iI mHS), .ref (z + 9), .ref (z + 10), .int (iI mJC), .int (iI mCh), .int (iI mVi)]) (htx : S (z + 1) = oI g 200 txa) (hnb : S (z + 9) = oI g 3 nbs) (rtz : tz ≤ 200) (rtx : ∀ i : Nat, i < tz → 32 ≤ txa i ∧ txa i ≤ 126) (ra : 0 ≤ mAt ∧ mAt ≤ tz) (rk0 : 1 ≤ k0 ∧ k0 ≤ 3) (hnm0 : nmA txa tz k0.toNat mAt.toNat = none) : g_Cs l yX9_readNumbers wsX9_readNumbers { frames := 2, cells := 0, slots := 0, locals := 42 } g [.ref z, .int (iI k0)] n S (fun vr n1 S1 => ∃ nb9 : Nat → Int, ∃ at9 : Int, vr = some (.int (iI 0)) ∧ n = n1 ∧ S1 z = oO 9 [.ref (z + 1), .int (iI (tz : Int)), .int (iI at9), .ref (z + 2), .ref (z + 3), .ref (z + 4), .ref (z + 5), .int (iI mHC), .int (iI mRC), .ref (z + 6), .ref (z + 7), .ref (z + 8), .int (iI mHS), .ref (z + 9), .ref (z + 10), .int (iI mJC), .int (iI mCh), .int (iI mVi)] ∧ S1 (z + 9) = oI g 3 nb9 ∧ (∀ bb, bb ≠ z → bb ≠ (z + 9) → S1 bb = S bb)) 0 0 := by
  refine g_Cs.of (cc := cX9_readNumbers) (maxL := 5) (ret := (some .boolean)) (by decide) rfl (Nat.le_of_ble_eq_true rfl) ?_
  intro pp ee s m below meth cK Q H locs ls hc hnm hw hl hret
  have hl : lv_has ls 5 [(0, .ref z), (1, .int (iI k0))] := hl
  have hiX9 : ∀ w ∈ u_ws RX9 TX9 18, w ∈ wsX9_readNumbers := by decide +kernel
  have lk60 : Cond.fieldLink RX9 60 "RoofCoursesModel" "at" "I" ∈ wsX9_readNumbers := by decide +kernel
  have lk63 : Cond.fieldLink RX9 63 "RoofCoursesModel" "length" "I" ∈ wsX9_readNumbers := by decide +kernel
  have lk7 : Cond.fieldLink RX9 7 "RoofCoursesModel" "text" "[I" ∈ wsX9_readNumbers := by decide +kernel
  have lk34 : Cond.fieldLink RX9 34 "RoofCoursesModel" "numbers" "[I" ∈ wsX9_readNumbers := by decide +kernel
  refine nn_iconst hc dX9_readNumbers_0 ?_
  refine lv_istore_n (lv' := [(2, .int (iI 0)), (0, .ref z), (1, .int (iI k0))]) hc.1 hc.2.1 dX9_readNumbers_1 rfl hl (by decide) rfl (fun ls hl => ?_)
  have lab2 : ∀ (fu2 : Nat) (k : Int) (a1 : Int) (nb1 : Nat → Int) (acc : List Int) (S1 : Nat → gE) (H : Heap) (locs : List Loc) (ls : Array Slot), ((k = acc.length ∧ k ≤ k0) ∧ (0 ≤ a1 ∧ a1 ≤ tz)) → (∀ i : Nat, i < acc.length → nb1 i = acc.getD i 0) → (nmA txa tz (k0.toNat - acc.length) a1.toNat = none) → S1 z = oO 9 [.ref (z + 1), .int (iI (tz : Int)), .int (iI a1), .ref (z + 2), .ref (z + 3), .ref (z + 4), .ref (z + 5), .int (iI mHC), .int (iI mRC), .ref (z + 6), .ref (z + 7), .ref (z + 8), .int (iI mHS), .ref (z + 9), .ref (z + 10), .int (iI mJC), .int (iI mCh), .int (iI mVi)] → S1 (z + 9) = oI g 3 nb1 → (∀ bb, bb ≠ z → bb ≠ (z + 9) → S1 bb = S bb) → g_W g n S1 s H locs → (3 - k).toNat < fu2 → lv_has ls 5 [(2, .int (iI k)), (0, .ref z), (1, .int (iI k0))] → W pp l ee ({ frames := 2, cells := 0, slots := 0, locals := 42 } : Room) s m ([.ref z, .int (iI k0)] : List Value).toArray below meth cK H locs 0 0 Q (F0 m 2 ls []) := by
    intro fu2
    induction fu2 with
    | zero =>
      intro k a1 nb1 acc S1 H locs ls hk hnb1 hnm hc2_0 hc2_1 fr2 hw hmeas hl
      exact absurd hmeas (Nat.not_lt_zero _)
    | succ fu2 ih2 =>
      intro k a1 nb1 acc S1 H locs ls hk hnb1 hnm hc2_0 hc2_1 fr2 hw hmeas hl
      refine lv_iload_n hc.1 hc.2.1 dX9_readNumbers_2 rfl (lv_at hl 0 rfl) ?_
      refine lv_iload_n hc.1 hc.2.1 dX9_readNumbers_3 rfl (lv_at hl 2 rfl) ?_
      refine nn_icmp_ge hc dX9_readNumbers_4 (tgt := 136) (by decide) (by omega) (by omega) (fun c2 => ?_) (fun c2 => ?_)
      · exfalso; rw [show k0.toNat - acc.length = 0 by omega] at hnm; cases hnm
      · obtain ⟨w9, hw9⟩ : ∃ w9 : Nat, k0.toNat - acc.length = w9 + 1 := ⟨k0.toNat - acc.length - 1, by omega⟩
        rw [hw9] at hnm
        have hnz := nmA_none hnm
        refine lv_aload_n hc.1 hc.2.1 dX9_readNumbers_7 rfl (lv_at hl 1 rfl) ?_
        refine nn_get hc hw hc2_0 hiX9 rfl 2 (by decide) rfl lk60 dX9_readNumbers_8 ?_
        refine lv_istore_n (lv' := [(3, .int (iI a1)), (2, .int (iI k)), (0, .ref z), (1, .int (iI k0))]) hc.1 hc.2.1 dX9_readNumbers_11 rfl hl (by decide) rfl (fun ls hl => ?_)
        refine nn_iconst hc dX9_readNumbers_12 ?_
        refine lv_istore (lv' := [(4, .int (iI 0)), (3, .int (iI a1)), (2, .int (iI k)), (0, .ref z), (1, .int (iI k0))]) hc.1 hc.2.1 dX9_readNumbers_13 hl (by decide) rfl (fun ls hl => ?_)
        have lab15 : ∀ (fu15 : Nat) (v : Int) (a2 : Int) (S3 : Nat → gE) (H : Heap) (locs : List Loc) (ls : Array Slot), (a1 ≤ a2 ∧ a2 ≤ a1 + 3 ∧ a2 ≤ tz) → (rdV txa tz (3 - (a2 - a1)).toNat a2.toNat v = rdV txa tz 3 a1.toNat 0) → S3 z = oO 9 [.ref (z + 1), .int (iI (tz : Int)), .int (iI a2), .ref (z + 2), .ref (z + 3), .ref (z + 4), .ref (z + 5), .int (iI mHC), .int (iI mRC), .ref (z + 6), .ref (z + 7), .ref (z + 8), .int (iI mHS), .ref (z + 9), .ref (z + 10), .int (iI mJC), .int (iI mCh), .int (iI mVi)] → (∀ bb, bb ≠ z → S3 bb = S1 bb) → g_W g n S3 s H locs → (a1 + 3 - a2).toNat < fu15 → lv_has ls 5 [(4, .int (iI v)), (0, .ref z), (1, .int (iI k0)), (2, .int (iI k)), (3, .int (iI a1))] → W pp l ee ({ frames := 2, cells := 0, slots := 0, locals := 42 } : Room) s m ([.ref z, .int (iI k0)] : List Value).toArray below meth cK H locs 0 0 Q (F0 m 15 ls []) := by
          intro fu15
          induction fu15 with
          | zero =>
            intro v a2 S3 H locs ls ha2 hrd hc15_0 fr15 hw hmeas hl
            exact absurd hmeas (Nat.not_lt_zero _)
          | succ fu15 ih15 =>
            intro v a2 S3 H locs ls ha2 hrd hc15_0 fr15 hw hmeas hl
            refine lv_aload_n hc.1 hc.2.1 dX9_readNumbers_15 rfl (lv_at hl 1 rfl) ?_
            have e4 : S1 (z + 1) = oI g 200 txa := (fr2 (z + 1) (off_nr (x := z) (a := 1) (by decide)) (off_ne (x := z) (a := 1) (b := 9) (by decide))).trans htx
            have e5 : S3 (z + 1) = oI g 200 txa := (fr15 (z + 1) (off_nr (x := z) (a := 1) (by decide))).trans e4
            refine nn_Vp (As := []) (st := []) hc hw hc15_0 rfl (c_X9_isDigit l g  hc15_0 e5 (by omega) (rtx) (by omega)) (cwV 0 hc.2.2.2.2 gX9_readNumbers_X9_isDigit rfl rfl rfl (by decide +kernel) ⟨Nat.le_of_ble_eq_true rfl, Nat.le_of_ble_eq_true rfl⟩) rfl hl.1 rfl (Nat.le_of_ble_eq_true rfl) ⟨Nat.le_of_ble_eq_true rfl, Nat.le_of_ble_eq_true rfl⟩ dX9_readNumbers_16 ?_
            refine W.eq (g2 := F0 m 19 ls [.int (iI (if dgt txa tz a2.toNat = true then 1 else 0))]) rfl ?_
            refine nn_if_eq hc dX9_readNumbers_19 (tgt := 65) (by decide) (by omega) (fun c6 => ?_) (fun c6 => ?_)
            · have hdg : dgt txa tz a2.toNat = false := Bool.eq_false_iff.mpr (fun q9 => by have h8 := c6; rw [if_pos q9] at h8; exact absurd h8 (by decide))
              have hfin : rdV txa tz 3 a1.toNat 0 = (v, a2.toNat) := by rw [← hrd]; exact rdV_no hdg
              have hf2 : (rdV txa tz 3 a1.toNat 0).2 = a2.toNat := by rw [hfin]
              rw [hf2] at hnz
              have hbrz : (if w9 = 0 then (59 : Int) else 44) = 59 ∧ w9 = 0 ∨ (if w9 = 0 then (59 : Int) else 44) = 44 ∧ w9 ≠ 0 := by split <;> omega
              refine lv_aload_n hc.1 hc.2.1 dX9_readNumbers_65 rfl (lv_at hl 1 rfl) ?_
              refine nn_get hc hw hc15_0 hiX9 rfl 2 (by decide) rfl lk60 dX9_readNumbers_66 ?_
              refine lv_iload_n hc.1 hc.2.1 dX9_readNumbers_69 rfl (lv_at hl 4 rfl) ?_
              refine nn_icmp_eq hc dX9_readNumbers_70 (tgt := 110) (by decide) (by omega) (by omega) (fun c7 => ?_) (fun c7 => ?_)
              · refine nn_iconst hc dX9_readNumbers_110 ?_
                have e8 : S3 (z + 9) = oI g 3 nb1 := (fr15 (z + 9) (off_nr (x := z) (a := 9) (by decide))).trans hc2_1
                exact hret (some (.int (iI 0))) _ S3 _ _ _ _ hw (⟨_, _, rfl, rfl, hc15_0, e8, fun bb hb0 hb1 => ((fr15 bb hb0)).trans (fr2 bb hb0 hb1)⟩) ⟨_, rfl, by first | rfl | exact nn_nb _, dX9_readNumbers_111⟩
              · refine lv_aload_n hc.1 hc.2.1 dX9_readNumbers_73 rfl (lv_at hl 1 rfl) ?_
                refine nn_get hc hw hc15_0 hiX9 rfl 2 (by decide) rfl lk60 dX9_readNumbers_74 ?_
                refine lv_aload_n hc.1 hc.2.1 dX9_readNumbers_77 rfl (lv_at hl 1 rfl) ?_
                refine nn_get hc hw hc15_0 hiX9 rfl 1 (by decide) rfl lk63 dX9_readNumbers_78 ?_
                refine nn_icmp_eq hc dX9_readNumbers_81 (tgt := 110) (by decide) (by omega) (by omega) (fun c9 => ?_) (fun c9 => ?_)
                · refine nn_iconst hc dX9_readNumbers_110 ?_
                  have e10 : S3 (z + 9) = oI g 3 nb1 := (fr15 (z + 9) (off_nr (x := z) (a := 9) (by decide))).trans hc2_1
                  exact hret (some (.int (iI 0))) _ S3 _ _ _ _ hw (⟨_, _, rfl, rfl, hc15_0, e10, fun bb hb0 hb1 => ((fr15 bb hb0)).trans (fr2 bb hb0 hb1)⟩) ⟨_, rfl, by first | rfl | exact nn_nb _, dX9_readNumbers_111⟩
                · have hxr := rtx a2.toNat (by omega)
                  refine lv_aload_n hc.1 hc.2.1 dX9_readNumbers_84 rfl (lv_at hl 1 rfl) ?_
                  refine nn_get hc hw hc15_0 hiX9 rfl 0 (by decide) rfl lk7 dX9_readNumbers_85 ?_
                  refine lv_aload_n hc.1 hc.2.1 dX9_readNumbers_88 rfl (lv_at hl 1 rfl) ?_
                  refine nn_get hc hw hc15_0 hiX9 rfl 2 (by decide) rfl lk60 dX9_readNumbers_89 ?_
                  refine nn_iald hc hw e5 (by omega) (by omega) dX9_readNumbers_92 ?_
                  refine lv_iload_n hc.1 hc.2.1 dX9_readNumbers_93 rfl (lv_at hl 3 rfl) ?_
                  refine nn_iconst hc dX9_readNumbers_94 ?_
                  refine nn_iadd hc dX9_readNumbers_95 ?_
                  refine lv_iload_n hc.1 hc.2.1 dX9_readNumbers_96 rfl (lv_at hl 2 rfl) ?_
                  refine nn_icmp_ne hc dX9_readNumbers_97 (tgt := 105) (by decide) (by omega) (by omega) (fun c11 => ?_) (fun c11 => ?_)
                  · refine nn_bipush hc dX9_readNumbers_105 (by decide +kernel) ?_
                    refine nn_icmp_eq hc dX9_readNumbers_107 (tgt := 112) (by decide) (by omega) (by decide) (fun c12 => ?_) (fun c12 => ?_)
                    · have hnn : nmA txa tz w9 (a2.toNat + 1) = none := by rcases hnz with q9 | q9 | q9; omega; exact absurd (⟨by omega, by omega⟩ : _ ∧ _) q9; exact q9
                      refine lv_aload_n hc.1 hc.2.1 dX9_readNumbers_112 rfl (lv_at hl 1 rfl) ?_
                      refine nn_get hc hw hc15_0 hiX9 rfl 13 (by decide) rfl lk34 dX9_readNumbers_113 ?_
                      refine lv_iload_n hc.1 hc.2.1 dX9_readNumbers_116 rfl (lv_at hl 3 rfl) ?_
                      refine lv_iload hc.1 hc.2.1 dX9_readNumbers_117 (lv_at hl 0 rfl) ?_
                      have e13 : S3 (z + 9) = oI g 3 nb1 := (fr15 (z + 9) (off_nr (x := z) (a := 9) (by decide))).trans hc2_1
                      refine nn_iast hc hw e13 (by omega) (by omega) dX9_readNumbers_119 (fun S14 H locs hS14 fS14 hw => ?_)
                      refine lv_aload_n hc.1 hc.2.1 dX9_readNumbers_120 rfl (lv_at hl 1 rfl) ?_
                      refine lv_dup hc.1 hc.2.1 dX9_readNumbers_121 rfl ?_
                      have e15 : S14 z = oO 9 [.ref (z + 1), .int (iI (tz : Int)), .int (iI a2), .ref (z + 2), .ref (z + 3), .ref (z + 4), .ref (z + 5), .int (iI mHC), .int (iI mRC), .ref (z + 6), .ref (z + 7), .ref (z + 8), .int (iI mHS), .ref (z + 9), .ref (z + 10), .int (iI mJC), .int (iI mCh), .int (iI mVi)] := (fS14 z (off_nl (x := z) (a := 9) (by decide))).trans hc15_0
                      refine nn_get hc hw e15 hiX9 rfl 2 (by decide) rfl lk60 dX9_readNumbers_122 ?_
                      refine nn_iconst hc dX9_readNumbers_125 ?_
                      refine nn_iadd hc dX9_readNumbers_126 ?_
                      refine nn_put hc hw e15 hiX9 tyX9 tyX9_ok nmX9 rfl 2 (by decide) (Nat.le_of_ble_eq_true rfl) lk60 rfl rfl rfl dX9_readNumbers_127 (fun S16 H locs hS16 fS16 hw => ?_)
                      have hS16 : S16 z = oO 9 [.ref (z + 1), .int (iI (tz : Int)), .int (iI (a2 + 1)), .ref (z + 2), .ref (z + 3), .ref (z + 4), .ref (z + 5), .int (iI mHC), .int (iI mRC), .ref (z + 6), .ref (z + 7), .ref (z + 8), .int (iI mHS), .ref (z + 9), .ref (z + 10), .int (iI mJC), .int (iI mCh), .int (iI mVi)] := hS16
                      refine nn_iinc (lv' := [(2, .int (iI (k + 1))), (4, .int (iI v)), (0, .ref z), (1, .int (iI k0)), (3, .int (iI a1))]) hc dX9_readNumbers_130 hl (k0 := 3) rfl (by decide) rfl (fun ls hl => ?_)
                      refine lv_goto hc.1 hc.2.1 dX9_readNumbers_133 (tgt := 2) (by decide) ?_
                      have e17 : S16 (z + 9) = oI g 3 (va_up nb1 k.toNat v) := (fS16 (z + 9) (off_nr (x := z) (a := 9) (by decide))).trans hS14
                      exact ih2 (k + 1) (a2 + 1) (va_up nb1 k.toNat v) (acc ++ [v]) S16 _ _ _ (by rw [List.length_append]; simp only [List.length_cons, List.length_nil]; omega) (up_nums (by omega) hnb1) (by rw [List.length_append, show (a2 + 1).toNat = a2.toNat + 1 by omega, show k0.toNat - (acc.length + [v].length) = w9 by simp only [List.length_cons, List.length_nil]; omega]; exact hnn) hS16 e17 (fun bb hb0 hb1 => ((((fS16 bb hb0)).trans (fS14 bb hb1)).trans (fr15 bb hb0)).trans (fr2 bb hb0 hb1)) hw (by omega) (lv_sub hl [0, 2, 3] rfl)
                    · refine nn_iconst hc dX9_readNumbers_110 ?_
                      have e18 : S3 (z + 9) = oI g 3 nb1 := (fr15 (z + 9) (off_nr (x := z) (a := 9) (by decide))).trans hc2_1
                      exact hret (some (.int (iI 0))) _ S3 _ _ _ _ hw (⟨_, _, rfl, rfl, hc15_0, e18, fun bb hb0 hb1 => ((fr15 bb hb0)).trans (fr2 bb hb0 hb1)⟩) ⟨_, rfl, by first | rfl | exact nn_nb _, dX9_readNumbers_111⟩
                  · refine nn_bipush hc dX9_readNumbers_100 (by decide +kernel) ?_
                    refine lv_goto hc.1 hc.2.1 dX9_readNumbers_102 (tgt := 107) (by decide) ?_
                    refine nn_icmp_eq hc dX9_readNumbers_107 (tgt := 112) (by decide) (by omega) (by decide) (fun c19 => ?_) (fun c19 => ?_)
                    · have hnn : nmA txa tz w9 (a2.toNat + 1) = none := by rcases hnz with q9 | q9 | q9; omega; exact absurd (⟨by omega, by omega⟩ : _ ∧ _) q9; exact q9
                      refine lv_aload_n hc.1 hc.2.1 dX9_readNumbers_112 rfl (lv_at hl 1 rfl) ?_
                      refine nn_get hc hw hc15_0 hiX9 rfl 13 (by decide) rfl lk34 dX9_readNumbers_113 ?_
                      refine lv_iload_n hc.1 hc.2.1 dX9_readNumbers_116 rfl (lv_at hl 3 rfl) ?_
                      refine lv_iload hc.1 hc.2.1 dX9_readNumbers_117 (lv_at hl 0 rfl) ?_
                      have e20 : S3 (z + 9) = oI g 3 nb1 := (fr15 (z + 9) (off_nr (x := z) (a := 9) (by decide))).trans hc2_1
                      refine nn_iast hc hw e20 (by omega) (by omega) dX9_readNumbers_119 (fun S21 H locs hS21 fS21 hw => ?_)
                      refine lv_aload_n hc.1 hc.2.1 dX9_readNumbers_120 rfl (lv_at hl 1 rfl) ?_
                      refine lv_dup hc.1 hc.2.1 dX9_readNumbers_121 rfl ?_
                      have e22 : S21 z = oO 9 [.ref (z + 1), .int (iI (tz : Int)), .int (iI a2), .ref (z + 2), .ref (z + 3), .ref (z + 4), .ref (z + 5), .int (iI mHC), .int (iI mRC), .ref (z + 6), .ref (z + 7), .ref (z + 8), .int (iI mHS), .ref (z + 9), .ref (z + 10), .int (iI mJC), .int (iI mCh), .int (iI mVi)] := (fS21 z (off_nl (x := z) (a := 9) (by decide))).trans hc15_0
                      refine nn_get hc hw e22 hiX9 rfl 2 (by decide) rfl lk60 dX9_readNumbers_122 ?_
                      refine nn_iconst hc dX9_readNumbers_125 ?_
                      refine nn_iadd hc dX9_readNumbers_126 ?_
                      refine nn_put hc hw e22 hiX9 tyX9 tyX9_ok nmX9 rfl 2 (by decide) (Nat.le_of_ble_eq_true rfl) lk60 rfl rfl rfl dX9_readNumbers_127 (fun S23 H locs hS23 fS23 hw => ?_)
                      have hS23 : S23 z = oO 9 [.ref (z + 1), .int (iI (tz : Int)), .int (iI (a2 + 1)), .ref (z + 2), .ref (z + 3), .ref (z + 4), .ref (z + 5), .int (iI mHC), .int (iI mRC), .ref (z + 6), .ref (z + 7), .ref (z + 8), .int (iI mHS), .ref (z + 9), .ref (z + 10), .int (iI mJC), .int (iI mCh), .int (iI mVi)] := hS23
                      refine nn_iinc (lv' := [(2, .int (iI (k + 1))), (4, .int (iI v)), (0, .ref z), (1, .int (iI k0)), (3, .int (iI a1))]) hc dX9_readNumbers_130 hl (k0 := 3) rfl (by decide) rfl (fun ls hl => ?_)
                      refine lv_goto hc.1 hc.2.1 dX9_readNumbers_133 (tgt := 2) (by decide) ?_
                      have e24 : S23 (z + 9) = oI g 3 (va_up nb1 k.toNat v) := (fS23 (z + 9) (off_nr (x := z) (a := 9) (by decide))).trans hS21
                      exact ih2 (k + 1) (a2 + 1) (va_up nb1 k.toNat v) (acc ++ [v]) S23 _ _ _ (by rw [List.length_append]; simp only [List.length_cons, List.length_nil]; omega) (up_nums (by omega) hnb1) (by rw [List.length_append, show (a2 + 1).toNat = a2.toNat + 1 by omega, show k0.toNat - (acc.length + [v].length) = w9 by simp only [List.length_cons, List.length_nil]; omega]; exact hnn) hS23 e24 (fun bb hb0 hb1 => ((((fS23 bb hb0)).trans (fS21 bb hb1)).trans (fr15 bb hb0)).trans (fr2 bb hb0 hb1)) hw (by omega) (lv_sub hl [0, 2, 3] rfl)
                    · refine nn_iconst hc dX9_readNumbers_110 ?_
                      have e25 : S3 (z + 9) = oI g 3 nb1 := (fr15 (z + 9) (off_nr (x := z) (a := 9) (by decide))).trans hc2_1
                      exact hret (some (.int (iI 0))) _ S3 _ _ _ _ hw (⟨_, _, rfl, rfl, hc15_0, e25, fun bb hb0 hb1 => ((fr15 bb hb0)).trans (fr2 bb hb0 hb1)⟩) ⟨_, rfl, by first | rfl | exact nn_nb _, dX9_readNumbers_111⟩
            · have hdg : dgt txa tz a2.toNat = true := Classical.byContradiction (fun q9 => c6 (if_neg q9))
              have hdg2 := dgt_iff.mp hdg
              refine lv_aload_n hc.1 hc.2.1 dX9_readNumbers_22 rfl (lv_at hl 1 rfl) ?_
              refine nn_get hc hw hc15_0 hiX9 rfl 2 (by decide) rfl lk60 dX9_readNumbers_23 ?_
              refine lv_iload_n hc.1 hc.2.1 dX9_readNumbers_26 rfl (lv_at hl 4 rfl) ?_
              refine nn_iconst hc dX9_readNumbers_27 ?_
              refine nn_iadd hc dX9_readNumbers_28 ?_
              refine nn_icmp_ge hc dX9_readNumbers_29 (tgt := 65) (by decide) (by omega) (by omega) (fun c26 => ?_) (fun c26 => ?_)
              · have hfin : rdV txa tz 3 a1.toNat 0 = (v, a2.toNat) := by rw [← hrd, show (3 - (a2 - a1)).toNat = 0 by omega]; rfl
                have hf2 : (rdV txa tz 3 a1.toNat 0).2 = a2.toNat := by rw [hfin]
                rw [hf2] at hnz
                have hbrz : (if w9 = 0 then (59 : Int) else 44) = 59 ∧ w9 = 0 ∨ (if w9 = 0 then (59 : Int) else 44) = 44 ∧ w9 ≠ 0 := by split <;> omega
                refine lv_aload_n hc.1 hc.2.1 dX9_readNumbers_65 rfl (lv_at hl 1 rfl) ?_
                refine nn_get hc hw hc15_0 hiX9 rfl 2 (by decide) rfl lk60 dX9_readNumbers_66 ?_
                refine lv_iload_n hc.1 hc.2.1 dX9_readNumbers_69 rfl (lv_at hl 4 rfl) ?_
                refine nn_icmp_eq hc dX9_readNumbers_70 (tgt := 110) (by decide) (by omega) (by omega) (fun c27 => ?_) (fun c27 => ?_)
                · refine nn_iconst hc dX9_readNumbers_110 ?_
                  have e28 : S3 (z + 9) = oI g 3 nb1 := (fr15 (z + 9) (off_nr (x := z) (a := 9) (by decide))).trans hc2_1
                  exact hret (some (.int (iI 0))) _ S3 _ _ _ _ hw (⟨_, _, rfl, rfl, hc15_0, e28, fun bb hb0 hb1 => ((fr15 bb hb0)).trans (fr2 bb hb0 hb1)⟩) ⟨_, rfl, by first | rfl | exact nn_nb _, dX9_readNumbers_111⟩
                · refine lv_aload_n hc.1 hc.2.1 dX9_readNumbers_73 rfl (lv_at hl 1 rfl) ?_
                  refine nn_get hc hw hc15_0 hiX9 rfl 2 (by decide) rfl lk60 dX9_readNumbers_74 ?_
                  refine lv_aload_n hc.1 hc.2.1 dX9_readNumbers_77 rfl (lv_at hl 1 rfl) ?_
                  refine nn_get hc hw hc15_0 hiX9 rfl 1 (by decide) rfl lk63 dX9_readNumbers_78 ?_
                  refine nn_icmp_eq hc dX9_readNumbers_81 (tgt := 110) (by decide) (by omega) (by omega) (fun c29 => ?_) (fun c29 => ?_)
                  · refine nn_iconst hc dX9_readNumbers_110 ?_
                    have e30 : S3 (z + 9) = oI g 3 nb1 := (fr15 (z + 9) (off_nr (x := z) (a := 9) (by decide))).trans hc2_1
                    exact hret (some (.int (iI 0))) _ S3 _ _ _ _ hw (⟨_, _, rfl, rfl, hc15_0, e30, fun bb hb0 hb1 => ((fr15 bb hb0)).trans (fr2 bb hb0 hb1)⟩) ⟨_, rfl, by first | rfl | exact nn_nb _, dX9_readNumbers_111⟩
                  · have hxr := rtx a2.toNat (by omega)
                    refine lv_aload_n hc.1 hc.2.1 dX9_readNumbers_84 rfl (lv_at hl 1 rfl) ?_
                    refine nn_get hc hw hc15_0 hiX9 rfl 0 (by decide) rfl lk7 dX9_readNumbers_85 ?_
                    refine lv_aload_n hc.1 hc.2.1 dX9_readNumbers_88 rfl (lv_at hl 1 rfl) ?_
                    refine nn_get hc hw hc15_0 hiX9 rfl 2 (by decide) rfl lk60 dX9_readNumbers_89 ?_
                    refine nn_iald hc hw e5 (by omega) (by omega) dX9_readNumbers_92 ?_
                    refine lv_iload_n hc.1 hc.2.1 dX9_readNumbers_93 rfl (lv_at hl 3 rfl) ?_
                    refine nn_iconst hc dX9_readNumbers_94 ?_
                    refine nn_iadd hc dX9_readNumbers_95 ?_
                    refine lv_iload_n hc.1 hc.2.1 dX9_readNumbers_96 rfl (lv_at hl 2 rfl) ?_
                    refine nn_icmp_ne hc dX9_readNumbers_97 (tgt := 105) (by decide) (by omega) (by omega) (fun c31 => ?_) (fun c31 => ?_)
                    · refine nn_bipush hc dX9_readNumbers_105 (by decide +kernel) ?_
                      refine nn_icmp_eq hc dX9_readNumbers_107 (tgt := 112) (by decide) (by omega) (by decide) (fun c32 => ?_) (fun c32 => ?_)
                      · have hnn : nmA txa tz w9 (a2.toNat + 1) = none := by rcases hnz with q9 | q9 | q9; omega; exact absurd (⟨by omega, by omega⟩ : _ ∧ _) q9; exact q9
                        refine lv_aload_n hc.1 hc.2.1 dX9_readNumbers_112 rfl (lv_at hl 1 rfl) ?_
                        refine nn_get hc hw hc15_0 hiX9 rfl 13 (by decide) rfl lk34 dX9_readNumbers_113 ?_
                        refine lv_iload_n hc.1 hc.2.1 dX9_readNumbers_116 rfl (lv_at hl 3 rfl) ?_
                        refine lv_iload hc.1 hc.2.1 dX9_readNumbers_117 (lv_at hl 0 rfl) ?_
                        have e33 : S3 (z + 9) = oI g 3 nb1 := (fr15 (z + 9) (off_nr (x := z) (a := 9) (by decide))).trans hc2_1
                        refine nn_iast hc hw e33 (by omega) (by omega) dX9_readNumbers_119 (fun S34 H locs hS34 fS34 hw => ?_)
                        refine lv_aload_n hc.1 hc.2.1 dX9_readNumbers_120 rfl (lv_at hl 1 rfl) ?_
                        refine lv_dup hc.1 hc.2.1 dX9_readNumbers_121 rfl ?_
                        have e35 : S34 z = oO 9 [.ref (z + 1), .int (iI (tz : Int)), .int (iI a2), .ref (z + 2), .ref (z + 3), .ref (z + 4), .ref (z + 5), .int (iI mHC), .int (iI mRC), .ref (z + 6), .ref (z + 7), .ref (z + 8), .int (iI mHS), .ref (z + 9), .ref (z + 10), .int (iI mJC), .int (iI mCh), .int (iI mVi)] := (fS34 z (off_nl (x := z) (a := 9) (by decide))).trans hc15_0
                        refine nn_get hc hw e35 hiX9 rfl 2 (by decide) rfl lk60 dX9_readNumbers_122 ?_
                        refine nn_iconst hc dX9_readNumbers_125 ?_
                        refine nn_iadd hc dX9_readNumbers_126 ?_
                        refine nn_put hc hw e35 hiX9 tyX9 tyX9_ok nmX9 rfl 2 (by decide) (Nat.le_of_ble_eq_true rfl) lk60 rfl rfl rfl dX9_readNumbers_127 (fun S36 H locs hS36 fS36 hw => ?_)
                        have hS36 : S36 z = oO 9 [.ref (z + 1), .int (iI (tz : Int)), .int (iI (a2 + 1)), .ref (z + 2), .ref (z + 3), .ref (z + 4), .ref (z + 5), .int (iI mHC), .int (iI mRC), .ref (z + 6), .ref (z + 7), .ref (z + 8), .int (iI mHS), .ref (z + 9), .ref (z + 10), .int (iI mJC), .int (iI mCh), .int (iI mVi)] := hS36
                        refine nn_iinc (lv' := [(2, .int (iI (k + 1))), (4, .int (iI v)), (0, .ref z), (1, .int (iI k0)), (3, .int (iI a1))]) hc dX9_readNumbers_130 hl (k0 := 3) rfl (by decide) rfl (fun ls hl => ?_)
                        refine lv_goto hc.1 hc.2.1 dX9_readNumbers_133 (tgt := 2) (by decide) ?_
                        have e37 : S36 (z + 9) = oI g 3 (va_up nb1 k.toNat v) := (fS36 (z + 9) (off_nr (x := z) (a := 9) (by decide))).trans hS34
                        exact ih2 (k + 1) (a2 + 1) (va_up nb1 k.toNat v) (acc ++ [v]) S36 _ _ _ (by rw [List.length_append]; simp only [List.length_cons, List.length_nil]; omega) (up_nums (by omega) hnb1) (by rw [List.length_append, show (a2 + 1).toNat = a2.toNat + 1 by omega, show k0.toNat - (acc.length + [v].length) = w9 by simp only [List.length_cons, List.length_nil]; omega]; exact hnn) hS36 e37 (fun bb hb0 hb1 => ((((fS36 bb hb0)).trans (fS34 bb hb1)).trans (fr15 bb hb0)).trans (fr2 bb hb0 hb1)) hw (by omega) (lv_sub hl [0, 2, 3] rfl)
                      · refine nn_iconst hc dX9_readNumbers_110 ?_
                        have e38 : S3 (z + 9) = oI g 3 nb1 := (fr15 (z + 9) (off_nr (x := z) (a := 9) (by decide))).trans hc2_1
                        exact hret (some (.int (iI 0))) _ S3 _ _ _ _ hw (⟨_, _, rfl, rfl, hc15_0, e38, fun bb hb0 hb1 => ((fr15 bb hb0)).trans (fr2 bb hb0 hb1)⟩) ⟨_, rfl, by first | rfl | exact nn_nb _, dX9_readNumbers_111⟩
                    · refine nn_bipush hc dX9_readNumbers_100 (by decide +kernel) ?_
                      refine lv_goto hc.1 hc.2.1 dX9_readNumbers_102 (tgt := 107) (by decide) ?_
                      refine nn_icmp_eq hc dX9_readNumbers_107 (tgt := 112) (by decide) (by omega) (by decide) (fun c39 => ?_) (fun c39 => ?_)
                      · have hnn : nmA txa tz w9 (a2.toNat + 1) = none := by rcases hnz with q9 | q9 | q9; omega; exact absurd (⟨by omega, by omega⟩ : _ ∧ _) q9; exact q9
                        refine lv_aload_n hc.1 hc.2.1 dX9_readNumbers_112 rfl (lv_at hl 1 rfl) ?_
                        refine nn_get hc hw hc15_0 hiX9 rfl 13 (by decide) rfl lk34 dX9_readNumbers_113 ?_
                        refine lv_iload_n hc.1 hc.2.1 dX9_readNumbers_116 rfl (lv_at hl 3 rfl) ?_
                        refine lv_iload hc.1 hc.2.1 dX9_readNumbers_117 (lv_at hl 0 rfl) ?_
                        have e40 : S3 (z + 9) = oI g 3 nb1 := (fr15 (z + 9) (off_nr (x := z) (a := 9) (by decide))).trans hc2_1
                        refine nn_iast hc hw e40 (by omega) (by omega) dX9_readNumbers_119 (fun S41 H locs hS41 fS41 hw => ?_)
                        refine lv_aload_n hc.1 hc.2.1 dX9_readNumbers_120 rfl (lv_at hl 1 rfl) ?_
                        refine lv_dup hc.1 hc.2.1 dX9_readNumbers_121 rfl ?_
                        have e42 : S41 z = oO 9 [.ref (z + 1), .int (iI (tz : Int)), .int (iI a2), .ref (z + 2), .ref (z + 3), .ref (z + 4), .ref (z + 5), .int (iI mHC), .int (iI mRC), .ref (z + 6), .ref (z + 7), .ref (z + 8), .int (iI mHS), .ref (z + 9), .ref (z + 10), .int (iI mJC), .int (iI mCh), .int (iI mVi)] := (fS41 z (off_nl (x := z) (a := 9) (by decide))).trans hc15_0
                        refine nn_get hc hw e42 hiX9 rfl 2 (by decide) rfl lk60 dX9_readNumbers_122 ?_
                        refine nn_iconst hc dX9_readNumbers_125 ?_
                        refine nn_iadd hc dX9_readNumbers_126 ?_
                        refine nn_put hc hw e42 hiX9 tyX9 tyX9_ok nmX9 rfl 2 (by decide) (Nat.le_of_ble_eq_true rfl) lk60 rfl rfl rfl dX9_readNumbers_127 (fun S43 H locs hS43 fS43 hw => ?_)
                        have hS43 : S43 z = oO 9 [.ref (z + 1), .int (iI (tz : Int)), .int (iI (a2 + 1)), .ref (z + 2), .ref (z + 3), .ref (z + 4), .ref (z + 5), .int (iI mHC), .int (iI mRC), .ref (z + 6), .ref (z + 7), .ref (z + 8), .int (iI mHS), .ref (z + 9), .ref (z + 10), .int (iI mJC), .int (iI mCh), .int (iI mVi)] := hS43
                        refine nn_iinc (lv' := [(2, .int (iI (k + 1))), (4, .int (iI v)), (0, .ref z), (1, .int (iI k0)), (3, .int (iI a1))]) hc dX9_readNumbers_130 hl (k0 := 3) rfl (by decide) rfl (fun ls hl => ?_)
                        refine lv_goto hc.1 hc.2.1 dX9_readNumbers_133 (tgt := 2) (by decide) ?_
                        have e44 : S43 (z + 9) = oI g 3 (va_up nb1 k.toNat v) := (fS43 (z + 9) (off_nr (x := z) (a := 9) (by decide))).trans hS41
                        exact ih2 (k + 1) (a2 + 1) (va_up nb1 k.toNat v) (acc ++ [v]) S43 _ _ _ (by rw [List.length_append]; simp only [List.length_cons, List.length_nil]; omega) (up_nums (by omega) hnb1) (by rw [List.length_append, show (a2 + 1).toNat = a2.toNat + 1 by omega, show k0.toNat - (acc.length + [v].length) = w9 by simp only [List.length_cons, List.length_nil]; omega]; exact hnn) hS43 e44 (fun bb hb0 hb1 => ((((fS43 bb hb0)).trans (fS41 bb hb1)).trans (fr15 bb hb0)).trans (fr2 bb hb0 hb1)) hw (by omega) (lv_sub hl [0, 2, 3] rfl)
                      · refine nn_iconst hc dX9_readNumbers_110 ?_
                        have e45 : S3 (z + 9) = oI g 3 nb1 := (fr15 (z + 9) (off_nr (x := z) (a := 9) (by decide))).trans hc2_1
                        exact hret (some (.int (iI 0))) _ S3 _ _ _ _ hw (⟨_, _, rfl, rfl, hc15_0, e45, fun bb hb0 hb1 => ((fr15 bb hb0)).trans (fr2 bb hb0 hb1)⟩) ⟨_, rfl, by first | rfl | exact nn_nb _, dX9_readNumbers_111⟩
              · refine nn_bipush hc dX9_readNumbers_32 (by decide +kernel) ?_
                refine lv_iload hc.1 hc.2.1 dX9_readNumbers_34 (lv_at hl 0 rfl) ?_
                refine nn_imul hc dX9_readNumbers_36 ?_
                refine lv_aload_n hc.1 hc.2.1 dX9_readNumbers_37 rfl (lv_at hl 1 rfl) ?_
                refine nn_get hc hw hc15_0 hiX9 rfl 0 (by decide) rfl lk7 dX9_readNumbers_38 ?_
                refine lv_aload_n hc.1 hc.2.1 dX9_readNumbers_41 rfl (lv_at hl 1 rfl) ?_
                refine nn_get hc hw hc15_0 hiX9 rfl 2 (by decide) rfl lk60 dX9_readNumbers_42 ?_
                refine nn_iald hc hw e5 (by omega) (by omega) dX9_readNumbers_45 ?_
                refine nn_iadd hc dX9_readNumbers_46 ?_
                refine nn_bipush hc dX9_readNumbers_47 (by decide +kernel) ?_
                refine nn_isub hc dX9_readNumbers_49 ?_
                refine lv_istore (lv' := [(4, .int (iI (((10 * v) + (txa a2.toNat)) - 48))), (0, .ref z), (1, .int (iI k0)), (2, .int (iI k)), (3, .int (iI a1))]) hc.1 hc.2.1 dX9_readNumbers_50 hl (by decide) rfl (fun ls hl => ?_)
                refine lv_aload_n hc.1 hc.2.1 dX9_readNumbers_52 rfl (lv_at hl 1 rfl) ?_
                refine lv_dup hc.1 hc.2.1 dX9_readNumbers_53 rfl ?_
                refine nn_get hc hw hc15_0 hiX9 rfl 2 (by decide) rfl lk60 dX9_readNumbers_54 ?_
                refine nn_iconst hc dX9_readNumbers_57 ?_
                refine nn_iadd hc dX9_readNumbers_58 ?_
                refine nn_put hc hw hc15_0 hiX9 tyX9 tyX9_ok nmX9 rfl 2 (by decide) (Nat.le_of_ble_eq_true rfl) lk60 rfl rfl rfl dX9_readNumbers_59 (fun S46 H locs hS46 fS46 hw => ?_)
                have hS46 : S46 z = oO 9 [.ref (z + 1), .int (iI (tz : Int)), .int (iI (a2 + 1)), .ref (z + 2), .ref (z + 3), .ref (z + 4), .ref (z + 5), .int (iI mHC), .int (iI mRC), .ref (z + 6), .ref (z + 7), .ref (z + 8), .int (iI mHS), .ref (z + 9), .ref (z + 10), .int (iI mJC), .int (iI mCh), .int (iI mVi)] := hS46
                refine lv_goto hc.1 hc.2.1 dX9_readNumbers_62 (tgt := 15) (by decide) ?_
                exact ih15 (((10 * v) + (txa a2.toNat)) - 48) (a2 + 1) S46 _ _ _ (by omega) (by rw [← hrd, show (3 - (a2 - a1)).toNat = (3 - (a2 + 1 - a1)).toNat + 1 by omega, rdV_yes hdg, show (a2 + 1).toNat = a2.toNat + 1 by omega, show 10 * v + txa a2.toNat - 48 = v * 10 + (txa a2.toNat - 48) by omega]) hS46 (fun bb hb0 => ((fS46 bb hb0)).trans (fr15 bb hb0)) hw (by omega) (lv_sub hl [0, 1, 2, 3, 4] rfl)
        exact lab15 _ 0 a1 S1 _ _ _ (by omega) (by rw [Int.sub_self]; rfl) hc2_0 (fun bb _ => rfl) hw (Nat.lt_succ_self _) (lv_sub hl [0, 3, 4, 2, 1] rfl)
  exact lab2 _ 0 mAt nbs ([]) S _ _ _ (⟨⟨rfl, by omega⟩, by omega, by omega⟩) (fun i hi => absurd hi (Nat.not_lt_zero i)) (hnm0) hz hnb (fun bb _ _ => rfl) hw (Nat.lt_succ_self _) (lv_sub hl [0, 1, 2] rfl)

