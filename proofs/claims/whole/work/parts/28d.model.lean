set_option maxHeartbeats 4000000 in
set_option maxRecDepth 100000 in
theorem c_X9_readItem_yes (l : Launch) (g : gG) {n : Nat} {S : Nat → gE} {z : Nat} {mAt mHC mRC mHS mJC mCh mVi : Int} {tz : Nat} {txa rst rhp nbs : Nat → Int} {P P1 : pT} {kd : Int} {en i0 : Nat} (hz : S z = oO 9 [.ref (z + 1), .int (iI (tz : Int)), .int (iI mAt), .ref (z + 2), .ref (z + 3), .ref (z + 4), .ref (z + 5), .int (iI mHC), .int (iI mRC), .ref (z + 6), .ref (z + 7), .ref (z + 8), .int (iI mHS), .ref (z + 9), .ref (z + 10), .int (iI mJC), .int (iI mCh), .int (iI mVi)]) (htx : S (z + 1) = oI g 200 txa) (hrst : S (z + 3) = oI g 5 rst) (hrhp : S (z + 5) = oI g 24 rhp) (hnb : S (z + 9) = oI g 3 nbs) (rtz : tz ≤ 200) (rtx : ∀ i : Nat, i < tz → 32 ≤ txa i ∧ txa i ≤ 126) (ra : mAt = i0 + 1 ∧ i0 < tz) (hkd : kd = txa i0) (hg0 : goodP P) (hrel : relP mRC rhp rst P) (hit : itC txa tz i0 P = some (en, P1)) : g_Cs l yX9_readItem wsX9_readItem { frames := 3, cells := 0, slots := 0, locals := 66 } g [.ref z, .int (iI kd)] n S (fun vr n1 S1 => ∃ rc9 : Int, ∃ rst9 : Nat → Int, ∃ rh9 : Nat → Int, ∃ nb9 : Nat → Int, vr = some (.int (iI 1)) ∧ n = n1 ∧ S1 z = oO 9 [.ref (z + 1), .int (iI (tz : Int)), .int (iI (en : Int)), .ref (z + 2), .ref (z + 3), .ref (z + 4), .ref (z + 5), .int (iI mHC), .int (iI rc9), .ref (z + 6), .ref (z + 7), .ref (z + 8), .int (iI mHS), .ref (z + 9), .ref (z + 10), .int (iI mJC), .int (iI mCh), .int (iI mVi)] ∧ S1 (z + 3) = oI g 5 rst9 ∧ S1 (z + 5) = oI g 24 rh9 ∧ S1 (z + 9) = oI g 3 nb9 ∧ relP rc9 rh9 rst9 P1 ∧ (∀ bb, bb ≠ z → bb ≠ (z + 3) → bb ≠ (z + 5) → bb ≠ (z + 9) → S1 bb = S bb)) 0 0 := by
  refine g_Cs.of (cc := cX9_readItem) (maxL := 3) (ret := (some .boolean)) (by decide) rfl (Nat.le_of_ble_eq_true rfl) ?_
  intro pp ee s m below meth cK Q H locs ls hc hnm hw hl hret
  have hl : lv_has ls 3 [(0, .ref z), (1, .int (iI kd))] := hl
  have hiX9 : ∀ w ∈ u_ws RX9 TX9 18, w ∈ wsX9_readItem := by decide +kernel
  have lk34 : Cond.fieldLink RX9 34 "RoofCoursesModel" "numbers" "[I" ∈ wsX9_readItem := by decide +kernel
  have hkr := rtx i0 (by omega)
  refine nn_iconst hc dX9_readItem_0 ?_
  refine lv_istore_n (lv' := [(2, .int (iI 0)), (0, .ref z), (1, .int (iI kd))]) hc.1 hc.2.1 dX9_readItem_1 rfl hl (by decide) rfl (fun ls hl => ?_)
  refine lv_iload_n hc.1 hc.2.1 dX9_readItem_2 rfl (lv_at hl 2 rfl) ?_
  rcases (show kd = 104 ∨ kd = 105 ∨ kd = 112 ∨ kd = 114 ∨ (kd ≠ 104 ∧ kd ≠ 105 ∧ kd ≠ 112 ∧ kd ≠ 114) by omega) with w1 | w1 | w1 | w1 | w1
  · refine nn_lookIn (off := 41) hc 104 (tgt := 44) w1 (by decide) dX9_readItem_3 (by decide +kernel) (by decide +kernel) (by decide) ?_
    have hkd1 : txa i0 = 104 := by omega
    obtain ⟨ns, hnm, htk⟩ := itC_some hit
    rw [hkd1, nOf_h] at hnm
    have hln := nmA_len hnm
    have hxs := hln.2.2.2
    rw [hkd1, takeC_104] at htk
    have hin : (20 ≤ ns.getD 0 0 ∧ ns.getD 0 0 ≤ 60) ∧ (10 ≤ ns.getD 1 0 ∧ ns.getD 1 0 ≤ 60) ∧ (1 ≤ ns.getD 2 0 ∧ ns.getD 2 0 ≤ 99) := Classical.byContradiction (fun q9 => by rw [if_neg q9] at htk; cases htk)
    rw [if_pos hin] at htk
    refine lv_aload_n hc.1 hc.2.1 dX9_readItem_44 rfl (lv_at hl 1 rfl) ?_
    refine nn_iconst hc dX9_readItem_45 ?_
    refine nn_Vs (As := [.int (iI 3)]) (st := []) hc hw hz rfl (c_X9_readNumbers_yes l g  hz htx hnb (by omega) (rtx) (by omega) (by omega) (by rw [show mAt.toNat = i0 + 1 by omega]; exact hnm)) (cwV 1 hc.2.2.2.2 gX9_readItem_X9_readNumbers rfl rfl rfl (by decide +kernel) ⟨Nat.le_of_ble_eq_true rfl, Nat.le_of_ble_eq_true rfl⟩) rfl hl.1 rfl (Nat.le_of_ble_eq_true rfl) ⟨Nat.le_of_ble_eq_true rfl, Nat.le_of_ble_eq_true rfl⟩ dX9_readItem_46 (fun vr n1 S2 H locs qS2 hw => ?_)
    obtain ⟨nb, rfl, rfl, hS2_0, hS2_1, kS2_0, fS2⟩ := qS2
    refine W.eq (g2 := F0 m 49 ls [.int (iI 1)]) rfl ?_
    refine nn_if_eq hc dX9_readItem_49 (tgt := 116) (by decide) (by decide) (fun c3 => ?_) (fun c3 => ?_)
    · exact absurd c3 (by decide)
    · have hf9 := kS2_0
      have hm0 : nb 0 = ns.getD 0 0 := hf9 0 (by omega)
      have hn0 : nb (0 : Int).toNat = ns.getD 0 0 := hm0
      have hr0 := getD_rng hxs 0
      have hm1 : nb 1 = ns.getD 1 0 := hf9 1 (by omega)
      have hn1 : nb (1 : Int).toNat = ns.getD 1 0 := hm1
      have hr1 := getD_rng hxs 1
      have hm2 : nb 2 = ns.getD 2 0 := hf9 2 (by omega)
      have hn2 : nb (2 : Int).toNat = ns.getD 2 0 := hm2
      have hr2 := getD_rng hxs 2
      refine lv_aload_n hc.1 hc.2.1 dX9_readItem_52 rfl (lv_at hl 1 rfl) ?_
      refine nn_iconst hc dX9_readItem_53 ?_
      refine nn_bipush hc dX9_readItem_54 (by decide +kernel) ?_
      refine nn_bipush hc dX9_readItem_56 (by decide +kernel) ?_
      refine nn_Vp (As := [.int (iI 0), .int (iI 20), .int (iI 60)]) (st := []) hc hw hS2_0 rfl (c_X9_isNumber l g  hS2_0 hS2_1 (by decide) (by omega) (by decide) (by decide)) (cwV 3 hc.2.2.2.2 gX9_readItem_X9_isNumber rfl rfl rfl (by decide +kernel) ⟨Nat.le_of_ble_eq_true rfl, Nat.le_of_ble_eq_true rfl⟩) rfl hl.1 rfl (Nat.le_of_ble_eq_true rfl) ⟨Nat.le_of_ble_eq_true rfl, Nat.le_of_ble_eq_true rfl⟩ dX9_readItem_58 ?_
      refine W.eq (g2 := F0 m 61 ls [.int (iI (if 20 ≤ nb (0 : Int).toNat ∧ nb (0 : Int).toNat ≤ 60 then 1 else 0))]) rfl ?_
      refine nn_if_eq hc dX9_readItem_61 (tgt := 116) (by decide) (by omega) (fun c4 => ?_) (fun c4 => ?_)
      · exfalso; omega
      · refine lv_aload_n hc.1 hc.2.1 dX9_readItem_64 rfl (lv_at hl 1 rfl) ?_
        refine nn_iconst hc dX9_readItem_65 ?_
        refine nn_bipush hc dX9_readItem_66 (by decide +kernel) ?_
        refine nn_bipush hc dX9_readItem_68 (by decide +kernel) ?_
        refine nn_Vp (As := [.int (iI 1), .int (iI 10), .int (iI 60)]) (st := []) hc hw hS2_0 rfl (c_X9_isNumber l g  hS2_0 hS2_1 (by decide) (by omega) (by decide) (by decide)) (cwV 3 hc.2.2.2.2 gX9_readItem_X9_isNumber rfl rfl rfl (by decide +kernel) ⟨Nat.le_of_ble_eq_true rfl, Nat.le_of_ble_eq_true rfl⟩) rfl hl.1 rfl (Nat.le_of_ble_eq_true rfl) ⟨Nat.le_of_ble_eq_true rfl, Nat.le_of_ble_eq_true rfl⟩ dX9_readItem_70 ?_
        refine W.eq (g2 := F0 m 73 ls [.int (iI (if 10 ≤ nb (1 : Int).toNat ∧ nb (1 : Int).toNat ≤ 60 then 1 else 0))]) rfl ?_
        refine nn_if_eq hc dX9_readItem_73 (tgt := 116) (by decide) (by omega) (fun c5 => ?_) (fun c5 => ?_)
        · exfalso; omega
        · refine lv_aload_n hc.1 hc.2.1 dX9_readItem_76 rfl (lv_at hl 1 rfl) ?_
          refine nn_iconst hc dX9_readItem_77 ?_
          refine nn_iconst hc dX9_readItem_78 ?_
          refine nn_bipush hc dX9_readItem_79 (by decide +kernel) ?_
          refine nn_Vp (As := [.int (iI 2), .int (iI 1), .int (iI 99)]) (st := []) hc hw hS2_0 rfl (c_X9_isNumber l g  hS2_0 hS2_1 (by decide) (by omega) (by decide) (by decide)) (cwV 3 hc.2.2.2.2 gX9_readItem_X9_isNumber rfl rfl rfl (by decide +kernel) ⟨Nat.le_of_ble_eq_true rfl, Nat.le_of_ble_eq_true rfl⟩) rfl hl.1 rfl (Nat.le_of_ble_eq_true rfl) ⟨Nat.le_of_ble_eq_true rfl, Nat.le_of_ble_eq_true rfl⟩ dX9_readItem_81 ?_
          refine W.eq (g2 := F0 m 84 ls [.int (iI (if 1 ≤ nb (2 : Int).toNat ∧ nb (2 : Int).toNat ≤ 99 then 1 else 0))]) rfl ?_
          refine nn_if_eq hc dX9_readItem_84 (tgt := 116) (by decide) (by omega) (fun c6 => ?_) (fun c6 => ?_)
          · exfalso; omega
          · refine lv_aload_n hc.1 hc.2.1 dX9_readItem_87 rfl (lv_at hl 1 rfl) ?_
            refine lv_aload_n hc.1 hc.2.1 dX9_readItem_88 rfl (lv_at hl 1 rfl) ?_
            refine nn_get hc hw hS2_0 hiX9 rfl 13 (by decide) rfl lk34 dX9_readItem_89 ?_
            refine nn_iconst hc dX9_readItem_92 ?_
            refine nn_iald hc hw hS2_1 (by omega) (by omega) dX9_readItem_93 ?_
            refine W.eq (g2 := F0 m 94 ls [.int (iI (nb 0)), .ref z]) rfl ?_
            refine lv_aload_n hc.1 hc.2.1 dX9_readItem_94 rfl (lv_at hl 1 rfl) ?_
            refine nn_get hc hw hS2_0 hiX9 rfl 13 (by decide) rfl lk34 dX9_readItem_95 ?_
            refine nn_iconst hc dX9_readItem_98 ?_
            refine nn_iald hc hw hS2_1 (by omega) (by omega) dX9_readItem_99 ?_
            refine W.eq (g2 := F0 m 100 ls [.int (iI (nb 1)), .int (iI (nb 0)), .ref z]) rfl ?_
            refine lv_aload_n hc.1 hc.2.1 dX9_readItem_100 rfl (lv_at hl 1 rfl) ?_
            refine nn_get hc hw hS2_0 hiX9 rfl 13 (by decide) rfl lk34 dX9_readItem_101 ?_
            refine nn_iconst hc dX9_readItem_104 ?_
            refine nn_iald hc hw hS2_1 (by omega) (by omega) dX9_readItem_105 ?_
            refine W.eq (g2 := F0 m 106 ls [.int (iI (nb 2)), .int (iI (nb 1)), .int (iI (nb 0)), .ref z]) rfl ?_
            have e7 : S2 (z + 5) = oI g 24 rhp := (fS2 (z + 5) (off_nr (x := z) (a := 5) (by decide)) (off_ne (x := z) (a := 5) (b := 9) (by decide))).trans hrhp
            refine nn_Vs (As := [.int (iI (nb 0)), .int (iI (nb 1)), .int (iI (nb 2))]) (st := []) hc hw hS2_0 rfl (c_X9_addHeap_yes l g  hS2_0 e7 (by omega) (by omega) (by omega) (hg0) (hrel) (by rw [hm0, hm1, hm2]; exact htk)) (cwV 3 hc.2.2.2.2 gX9_readItem_X9_addHeap rfl rfl rfl (by decide +kernel) ⟨Nat.le_of_ble_eq_true rfl, Nat.le_of_ble_eq_true rfl⟩) rfl hl.1 rfl (Nat.le_of_ble_eq_true rfl) ⟨Nat.le_of_ble_eq_true rfl, Nat.le_of_ble_eq_true rfl⟩ dX9_readItem_106 (fun vr n1 S8 H locs qS8 hw => ?_)
            obtain ⟨rh9_9, rc9_10, rfl, rfl, hS8_0, hS8_1, kS8_0, fS8⟩ := qS8
            refine W.eq (g2 := F0 m 109 ls [.int (iI 1)]) rfl ?_
            refine nn_if_eq hc dX9_readItem_109 (tgt := 116) (by decide) (by decide) (fun c11 => ?_) (fun c11 => ?_)
            · exact absurd c11 (by decide)
            · refine nn_iconst hc dX9_readItem_112 ?_
              refine lv_goto hc.1 hc.2.1 dX9_readItem_113 (tgt := 117) (by decide) ?_
              have e12 : S2 (z + 3) = oI g 5 rst := (fS2 (z + 3) (off_nr (x := z) (a := 3) (by decide)) (off_ne (x := z) (a := 3) (b := 9) (by decide))).trans hrst
              have e13 : S8 (z + 3) = oI g 5 rst := (fS8 (z + 3) (off_nr (x := z) (a := 3) (by decide)) (off_ne (x := z) (a := 3) (b := 5) (by decide))).trans e12
              have e14 : S8 (z + 9) = oI g 3 nb := (fS8 (z + 9) (off_nr (x := z) (a := 9) (by decide)) (off_ne (x := z) (a := 9) (b := 5) (by decide))).trans hS2_1
              exact hret (some (.int (iI 1))) _ S8 _ _ _ _ hw (⟨_, _, _, _, rfl, rfl, hS8_0, e13, hS8_1, e14, kS8_0, fun bb hb0 hb1 hb2 hb3 => ((fS8 bb hb0 hb2)).trans (fS2 bb hb0 hb3)⟩) ⟨_, rfl, by first | rfl | exact nn_nb _, dX9_readItem_117⟩
  · refine nn_lookIn (off := 243) hc 105 (tgt := 246) w1 (by decide) dX9_readItem_3 (by decide +kernel) (by decide +kernel) (by decide) ?_
    have hkd1 : txa i0 = 105 := by omega
    obtain ⟨ns, hnm, htk⟩ := itC_some hit
    rw [hkd1, nOf_i] at hnm
    have hln := nmA_len hnm
    have hxs := hln.2.2.2
    rw [hkd1, takeC_105] at htk
    have hin : 0 ≤ ns.getD 0 0 ∧ ns.getD 0 0 ≤ 9 := Classical.byContradiction (fun q9 => by rw [if_neg q9] at htk; cases htk)
    rw [if_pos hin] at htk
    refine lv_aload_n hc.1 hc.2.1 dX9_readItem_246 rfl (lv_at hl 1 rfl) ?_
    refine nn_iconst hc dX9_readItem_247 ?_
    refine nn_Vs (As := [.int (iI 1)]) (st := []) hc hw hz rfl (c_X9_readNumbers_yes l g  hz htx hnb (by omega) (rtx) (by omega) (by omega) (by rw [show mAt.toNat = i0 + 1 by omega]; exact hnm)) (cwV 1 hc.2.2.2.2 gX9_readItem_X9_readNumbers rfl rfl rfl (by decide +kernel) ⟨Nat.le_of_ble_eq_true rfl, Nat.le_of_ble_eq_true rfl⟩) rfl hl.1 rfl (Nat.le_of_ble_eq_true rfl) ⟨Nat.le_of_ble_eq_true rfl, Nat.le_of_ble_eq_true rfl⟩ dX9_readItem_248 (fun vr n1 S15 H locs qS15 hw => ?_)
    obtain ⟨nb, rfl, rfl, hS15_0, hS15_1, kS15_0, fS15⟩ := qS15
    refine W.eq (g2 := F0 m 251 ls [.int (iI 1)]) rfl ?_
    refine nn_if_eq hc dX9_readItem_251 (tgt := 269) (by decide) (by decide) (fun c16 => ?_) (fun c16 => ?_)
    · exact absurd c16 (by decide)
    · have hf9 := kS15_0
      have hm0 : nb 0 = ns.getD 0 0 := hf9 0 (by omega)
      have hn0 : nb (0 : Int).toNat = ns.getD 0 0 := hm0
      have hr0 := getD_rng hxs 0
      refine lv_aload_n hc.1 hc.2.1 dX9_readItem_254 rfl (lv_at hl 1 rfl) ?_
      refine nn_iconst hc dX9_readItem_255 ?_
      refine nn_iconst hc dX9_readItem_256 ?_
      refine nn_bipush hc dX9_readItem_257 (by decide +kernel) ?_
      refine nn_Vp (As := [.int (iI 0), .int (iI 0), .int (iI 9)]) (st := []) hc hw hS15_0 rfl (c_X9_isNumber l g  hS15_0 hS15_1 (by decide) (by omega) (by decide) (by decide)) (cwV 3 hc.2.2.2.2 gX9_readItem_X9_isNumber rfl rfl rfl (by decide +kernel) ⟨Nat.le_of_ble_eq_true rfl, Nat.le_of_ble_eq_true rfl⟩) rfl hl.1 rfl (Nat.le_of_ble_eq_true rfl) ⟨Nat.le_of_ble_eq_true rfl, Nat.le_of_ble_eq_true rfl⟩ dX9_readItem_259 ?_
      refine W.eq (g2 := F0 m 262 ls [.int (iI (if 0 ≤ nb (0 : Int).toNat ∧ nb (0 : Int).toNat ≤ 9 then 1 else 0))]) rfl ?_
      refine nn_if_eq hc dX9_readItem_262 (tgt := 269) (by decide) (by omega) (fun c17 => ?_) (fun c17 => ?_)
      · exfalso; omega
      · refine nn_iconst hc dX9_readItem_265 ?_
        refine lv_goto hc.1 hc.2.1 dX9_readItem_266 (tgt := 270) (by decide) ?_
        refine lv_istore_n (lv' := [(2, .int (iI 1)), (0, .ref z), (1, .int (iI kd))]) hc.1 hc.2.1 dX9_readItem_270 rfl hl (by decide) rfl (fun ls hl => ?_)
        refine lv_aload_n hc.1 hc.2.1 dX9_readItem_271 rfl (lv_at hl 1 rfl) ?_
        refine nn_iconst hc dX9_readItem_272 ?_
        refine lv_aload_n hc.1 hc.2.1 dX9_readItem_273 rfl (lv_at hl 1 rfl) ?_
        refine nn_get hc hw hS15_0 hiX9 rfl 13 (by decide) rfl lk34 dX9_readItem_274 ?_
        refine nn_iconst hc dX9_readItem_277 ?_
        refine nn_iald hc hw hS15_1 (by omega) (by omega) dX9_readItem_278 ?_
        refine W.eq (g2 := F0 m 279 ls [.int (iI (nb 0)), .int (iI 4), .ref z]) rfl ?_
        refine lv_iload_n hc.1 hc.2.1 dX9_readItem_279 rfl (lv_at hl 0 rfl) ?_
        have e18 : S15 (z + 3) = oI g 5 rst := (fS15 (z + 3) (off_nr (x := z) (a := 3) (by decide)) (off_ne (x := z) (a := 3) (b := 9) (by decide))).trans hrst
        refine nn_Vs (As := [.int (iI 4), .int (iI (nb 0)), .int (iI 1)]) (st := []) hc hw hS15_0 rfl (c_X9_setRead l g  hS15_0 e18 (by omega) (by omega)) (cwV 3 hc.2.2.2.2 gX9_readItem_X9_setRead rfl rfl rfl (by decide +kernel) ⟨Nat.le_of_ble_eq_true rfl, Nat.le_of_ble_eq_true rfl⟩) rfl hl.1 rfl (Nat.le_of_ble_eq_true rfl) ⟨Nat.le_of_ble_eq_true rfl, Nat.le_of_ble_eq_true rfl⟩ dX9_readItem_280 (fun vr n1 S19 H locs qS19 hw => ?_)
        obtain ⟨rfl, rfl, hS19_0, fS19⟩ := qS19
        refine W.eq (g2 := F0 m 283 ls []) rfl ?_
        refine lv_iload_n hc.1 hc.2.1 dX9_readItem_283 rfl (lv_at hl 0 rfl) ?_
        have e20 : S19 z = oO 9 [.ref (z + 1), .int (iI (tz : Int)), .int (iI (en : Int)), .ref (z + 2), .ref (z + 3), .ref (z + 4), .ref (z + 5), .int (iI mHC), .int (iI mRC), .ref (z + 6), .ref (z + 7), .ref (z + 8), .int (iI mHS), .ref (z + 9), .ref (z + 10), .int (iI mJC), .int (iI mCh), .int (iI mVi)] := (fS19 z (off_nl (x := z) (a := 3) (by decide))).trans hS15_0
        have e21 : S15 (z + 5) = oI g 24 rhp := (fS15 (z + 5) (off_nr (x := z) (a := 5) (by decide)) (off_ne (x := z) (a := 5) (b := 9) (by decide))).trans hrhp
        have e22 : S19 (z + 5) = oI g 24 rhp := (fS19 (z + 5) (off_ne (x := z) (a := 5) (b := 3) (by decide))).trans e21
        have e23 : S19 (z + 9) = oI g 3 nb := (fS19 (z + 9) (off_ne (x := z) (a := 9) (b := 3) (by decide))).trans hS15_1
        exact hret (some (.int (iI 1))) _ S19 _ _ _ _ hw (⟨_, _, _, _, rfl, rfl, e20, hS19_0, e22, e23, (by have q9 := Option.some.inj htk; rw [← q9, ← hm0]; exact relP_i hrel), fun bb hb0 hb1 hb2 hb3 => ((fS19 bb hb1)).trans (fS15 bb hb0 hb3)⟩) ⟨_, rfl, by first | rfl | exact nn_nb _, dX9_readItem_284⟩
  · refine nn_lookIn (off := 181) hc 112 (tgt := 184) w1 (by decide) dX9_readItem_3 (by decide +kernel) (by decide +kernel) (by decide) ?_
    have hkd1 : txa i0 = 112 := by omega
    obtain ⟨ns, hnm, htk⟩ := itC_some hit
    rw [hkd1, nOf_p] at hnm
    have hln := nmA_len hnm
    have hxs := hln.2.2.2
    rw [hkd1, takeC_112] at htk
    have hin : (1 ≤ ns.getD 0 0 ∧ ns.getD 0 0 ≤ 10) ∧ (1 ≤ ns.getD 1 0 ∧ ns.getD 1 0 ≤ 9) := Classical.byContradiction (fun q9 => by rw [if_neg q9] at htk; cases htk)
    rw [if_pos hin] at htk
    refine lv_aload_n hc.1 hc.2.1 dX9_readItem_184 rfl (lv_at hl 1 rfl) ?_
    refine nn_iconst hc dX9_readItem_185 ?_
    refine nn_Vs (As := [.int (iI 2)]) (st := []) hc hw hz rfl (c_X9_readNumbers_yes l g  hz htx hnb (by omega) (rtx) (by omega) (by omega) (by rw [show mAt.toNat = i0 + 1 by omega]; exact hnm)) (cwV 1 hc.2.2.2.2 gX9_readItem_X9_readNumbers rfl rfl rfl (by decide +kernel) ⟨Nat.le_of_ble_eq_true rfl, Nat.le_of_ble_eq_true rfl⟩) rfl hl.1 rfl (Nat.le_of_ble_eq_true rfl) ⟨Nat.le_of_ble_eq_true rfl, Nat.le_of_ble_eq_true rfl⟩ dX9_readItem_186 (fun vr n1 S24 H locs qS24 hw => ?_)
    obtain ⟨nb, rfl, rfl, hS24_0, hS24_1, kS24_0, fS24⟩ := qS24
    refine W.eq (g2 := F0 m 189 ls [.int (iI 1)]) rfl ?_
    refine nn_if_eq hc dX9_readItem_189 (tgt := 218) (by decide) (by decide) (fun c25 => ?_) (fun c25 => ?_)
    · exact absurd c25 (by decide)
    · have hf9 := kS24_0
      have hm0 : nb 0 = ns.getD 0 0 := hf9 0 (by omega)
      have hn0 : nb (0 : Int).toNat = ns.getD 0 0 := hm0
      have hr0 := getD_rng hxs 0
      have hm1 : nb 1 = ns.getD 1 0 := hf9 1 (by omega)
      have hn1 : nb (1 : Int).toNat = ns.getD 1 0 := hm1
      have hr1 := getD_rng hxs 1
      refine lv_aload_n hc.1 hc.2.1 dX9_readItem_192 rfl (lv_at hl 1 rfl) ?_
      refine nn_iconst hc dX9_readItem_193 ?_
      refine nn_iconst hc dX9_readItem_194 ?_
      refine nn_bipush hc dX9_readItem_195 (by decide +kernel) ?_
      refine nn_Vp (As := [.int (iI 0), .int (iI 1), .int (iI 10)]) (st := []) hc hw hS24_0 rfl (c_X9_isNumber l g  hS24_0 hS24_1 (by decide) (by omega) (by decide) (by decide)) (cwV 3 hc.2.2.2.2 gX9_readItem_X9_isNumber rfl rfl rfl (by decide +kernel) ⟨Nat.le_of_ble_eq_true rfl, Nat.le_of_ble_eq_true rfl⟩) rfl hl.1 rfl (Nat.le_of_ble_eq_true rfl) ⟨Nat.le_of_ble_eq_true rfl, Nat.le_of_ble_eq_true rfl⟩ dX9_readItem_197 ?_
      refine W.eq (g2 := F0 m 200 ls [.int (iI (if 1 ≤ nb (0 : Int).toNat ∧ nb (0 : Int).toNat ≤ 10 then 1 else 0))]) rfl ?_
      refine nn_if_eq hc dX9_readItem_200 (tgt := 218) (by decide) (by omega) (fun c26 => ?_) (fun c26 => ?_)
      · exfalso; omega
      · refine lv_aload_n hc.1 hc.2.1 dX9_readItem_203 rfl (lv_at hl 1 rfl) ?_
        refine nn_iconst hc dX9_readItem_204 ?_
        refine nn_iconst hc dX9_readItem_205 ?_
        refine nn_bipush hc dX9_readItem_206 (by decide +kernel) ?_
        refine nn_Vp (As := [.int (iI 1), .int (iI 1), .int (iI 9)]) (st := []) hc hw hS24_0 rfl (c_X9_isNumber l g  hS24_0 hS24_1 (by decide) (by omega) (by decide) (by decide)) (cwV 3 hc.2.2.2.2 gX9_readItem_X9_isNumber rfl rfl rfl (by decide +kernel) ⟨Nat.le_of_ble_eq_true rfl, Nat.le_of_ble_eq_true rfl⟩) rfl hl.1 rfl (Nat.le_of_ble_eq_true rfl) ⟨Nat.le_of_ble_eq_true rfl, Nat.le_of_ble_eq_true rfl⟩ dX9_readItem_208 ?_
        refine W.eq (g2 := F0 m 211 ls [.int (iI (if 1 ≤ nb (1 : Int).toNat ∧ nb (1 : Int).toNat ≤ 9 then 1 else 0))]) rfl ?_
        refine nn_if_eq hc dX9_readItem_211 (tgt := 218) (by decide) (by omega) (fun c27 => ?_) (fun c27 => ?_)
        · exfalso; omega
        · refine nn_iconst hc dX9_readItem_214 ?_
          refine lv_goto hc.1 hc.2.1 dX9_readItem_215 (tgt := 219) (by decide) ?_
          refine lv_istore_n (lv' := [(2, .int (iI 1)), (0, .ref z), (1, .int (iI kd))]) hc.1 hc.2.1 dX9_readItem_219 rfl hl (by decide) rfl (fun ls hl => ?_)
          refine lv_aload_n hc.1 hc.2.1 dX9_readItem_220 rfl (lv_at hl 1 rfl) ?_
          refine nn_iconst hc dX9_readItem_221 ?_
          refine lv_aload_n hc.1 hc.2.1 dX9_readItem_222 rfl (lv_at hl 1 rfl) ?_
          refine nn_get hc hw hS24_0 hiX9 rfl 13 (by decide) rfl lk34 dX9_readItem_223 ?_
          refine nn_iconst hc dX9_readItem_226 ?_
          refine nn_iald hc hw hS24_1 (by omega) (by omega) dX9_readItem_227 ?_
          refine W.eq (g2 := F0 m 228 ls [.int (iI (nb 0)), .int (iI 2), .ref z]) rfl ?_
          refine lv_iload_n hc.1 hc.2.1 dX9_readItem_228 rfl (lv_at hl 0 rfl) ?_
          have e28 : S24 (z + 3) = oI g 5 rst := (fS24 (z + 3) (off_nr (x := z) (a := 3) (by decide)) (off_ne (x := z) (a := 3) (b := 9) (by decide))).trans hrst
          refine nn_Vs (As := [.int (iI 2), .int (iI (nb 0)), .int (iI 1)]) (st := []) hc hw hS24_0 rfl (c_X9_setRead l g  hS24_0 e28 (by omega) (by omega)) (cwV 3 hc.2.2.2.2 gX9_readItem_X9_setRead rfl rfl rfl (by decide +kernel) ⟨Nat.le_of_ble_eq_true rfl, Nat.le_of_ble_eq_true rfl⟩) rfl hl.1 rfl (Nat.le_of_ble_eq_true rfl) ⟨Nat.le_of_ble_eq_true rfl, Nat.le_of_ble_eq_true rfl⟩ dX9_readItem_229 (fun vr n1 S29 H locs qS29 hw => ?_)
          obtain ⟨rfl, rfl, hS29_0, fS29⟩ := qS29
          refine W.eq (g2 := F0 m 232 ls []) rfl ?_
          refine lv_aload_n hc.1 hc.2.1 dX9_readItem_232 rfl (lv_at hl 1 rfl) ?_
          refine nn_iconst hc dX9_readItem_233 ?_
          refine lv_aload_n hc.1 hc.2.1 dX9_readItem_234 rfl (lv_at hl 1 rfl) ?_
          have e30 : S29 z = oO 9 [.ref (z + 1), .int (iI (tz : Int)), .int (iI (en : Int)), .ref (z + 2), .ref (z + 3), .ref (z + 4), .ref (z + 5), .int (iI mHC), .int (iI mRC), .ref (z + 6), .ref (z + 7), .ref (z + 8), .int (iI mHS), .ref (z + 9), .ref (z + 10), .int (iI mJC), .int (iI mCh), .int (iI mVi)] := (fS29 z (off_nl (x := z) (a := 3) (by decide))).trans hS24_0
          refine nn_get hc hw e30 hiX9 rfl 13 (by decide) rfl lk34 dX9_readItem_235 ?_
          refine nn_iconst hc dX9_readItem_238 ?_
          have e31 : S29 (z + 9) = oI g 3 nb := (fS29 (z + 9) (off_ne (x := z) (a := 9) (b := 3) (by decide))).trans hS24_1
          refine nn_iald hc hw e31 (by omega) (by omega) dX9_readItem_239 ?_
          refine W.eq (g2 := F0 m 240 ls [.int (iI (nb 1)), .int (iI 3), .ref z]) rfl ?_
          refine lv_iload_n hc.1 hc.2.1 dX9_readItem_240 rfl (lv_at hl 0 rfl) ?_
          refine nn_Vs (As := [.int (iI 3), .int (iI (nb 1)), .int (iI 1)]) (st := []) hc hw e30 rfl (c_X9_setRead l g  e30 hS29_0 (by omega) (by omega)) (cwV 3 hc.2.2.2.2 gX9_readItem_X9_setRead rfl rfl rfl (by decide +kernel) ⟨Nat.le_of_ble_eq_true rfl, Nat.le_of_ble_eq_true rfl⟩) rfl hl.1 rfl (Nat.le_of_ble_eq_true rfl) ⟨Nat.le_of_ble_eq_true rfl, Nat.le_of_ble_eq_true rfl⟩ dX9_readItem_241 (fun vr n1 S32 H locs qS32 hw => ?_)
          obtain ⟨rfl, rfl, hS32_0, fS32⟩ := qS32
          refine W.eq (g2 := F0 m 244 ls []) rfl ?_
          refine lv_iload_n hc.1 hc.2.1 dX9_readItem_244 rfl (lv_at hl 0 rfl) ?_
          have e33 : S32 z = oO 9 [.ref (z + 1), .int (iI (tz : Int)), .int (iI (en : Int)), .ref (z + 2), .ref (z + 3), .ref (z + 4), .ref (z + 5), .int (iI mHC), .int (iI mRC), .ref (z + 6), .ref (z + 7), .ref (z + 8), .int (iI mHS), .ref (z + 9), .ref (z + 10), .int (iI mJC), .int (iI mCh), .int (iI mVi)] := (fS32 z (off_nl (x := z) (a := 3) (by decide))).trans e30
          have e34 : S24 (z + 5) = oI g 24 rhp := (fS24 (z + 5) (off_nr (x := z) (a := 5) (by decide)) (off_ne (x := z) (a := 5) (b := 9) (by decide))).trans hrhp
          have e35 : S29 (z + 5) = oI g 24 rhp := (fS29 (z + 5) (off_ne (x := z) (a := 5) (b := 3) (by decide))).trans e34
          have e36 : S32 (z + 5) = oI g 24 rhp := (fS32 (z + 5) (off_ne (x := z) (a := 5) (b := 3) (by decide))).trans e35
          have e37 : S32 (z + 9) = oI g 3 nb := (fS32 (z + 9) (off_ne (x := z) (a := 9) (b := 3) (by decide))).trans e31
          exact hret (some (.int (iI 1))) _ S32 _ _ _ _ hw (⟨_, _, _, _, rfl, rfl, e33, hS32_0, e36, e37, (by have q9 := Option.some.inj htk; rw [← q9, ← hm0, ← hm1]; exact relP_p hrel), fun bb hb0 hb1 hb2 hb3 => (((fS32 bb hb1)).trans (fS29 bb hb1)).trans (fS24 bb hb0 hb3)⟩) ⟨_, rfl, by first | rfl | exact nn_nb _, dX9_readItem_245⟩
  · refine nn_lookIn (off := 115) hc 114 (tgt := 118) w1 (by decide) dX9_readItem_3 (by decide +kernel) (by decide +kernel) (by decide) ?_
    have hkd1 : txa i0 = 114 := by omega
    obtain ⟨ns, hnm, htk⟩ := itC_some hit
    rw [hkd1, nOf_r] at hnm
    have hln := nmA_len hnm
    have hxs := hln.2.2.2
    rw [hkd1, takeC_114] at htk
    have hin : (20 ≤ ns.getD 0 0 ∧ ns.getD 0 0 ≤ 400) ∧ (40 ≤ ns.getD 1 0 ∧ ns.getD 1 0 ≤ 240) := Classical.byContradiction (fun q9 => by rw [if_neg q9] at htk; cases htk)
    rw [if_pos hin] at htk
    refine lv_aload_n hc.1 hc.2.1 dX9_readItem_118 rfl (lv_at hl 1 rfl) ?_
    refine nn_iconst hc dX9_readItem_119 ?_
    refine nn_Vs (As := [.int (iI 2)]) (st := []) hc hw hz rfl (c_X9_readNumbers_yes l g  hz htx hnb (by omega) (rtx) (by omega) (by omega) (by rw [show mAt.toNat = i0 + 1 by omega]; exact hnm)) (cwV 1 hc.2.2.2.2 gX9_readItem_X9_readNumbers rfl rfl rfl (by decide +kernel) ⟨Nat.le_of_ble_eq_true rfl, Nat.le_of_ble_eq_true rfl⟩) rfl hl.1 rfl (Nat.le_of_ble_eq_true rfl) ⟨Nat.le_of_ble_eq_true rfl, Nat.le_of_ble_eq_true rfl⟩ dX9_readItem_120 (fun vr n1 S38 H locs qS38 hw => ?_)
    obtain ⟨nb, rfl, rfl, hS38_0, hS38_1, kS38_0, fS38⟩ := qS38
    refine W.eq (g2 := F0 m 123 ls [.int (iI 1)]) rfl ?_
    refine nn_if_eq hc dX9_readItem_123 (tgt := 156) (by decide) (by decide) (fun c39 => ?_) (fun c39 => ?_)
    · exact absurd c39 (by decide)
    · have hf9 := kS38_0
      have hm0 : nb 0 = ns.getD 0 0 := hf9 0 (by omega)
      have hn0 : nb (0 : Int).toNat = ns.getD 0 0 := hm0
      have hr0 := getD_rng hxs 0
      have hm1 : nb 1 = ns.getD 1 0 := hf9 1 (by omega)
      have hn1 : nb (1 : Int).toNat = ns.getD 1 0 := hm1
      have hr1 := getD_rng hxs 1
      refine lv_aload_n hc.1 hc.2.1 dX9_readItem_126 rfl (lv_at hl 1 rfl) ?_
      refine nn_iconst hc dX9_readItem_127 ?_
      refine nn_bipush hc dX9_readItem_128 (by decide +kernel) ?_
      refine nn_sipush hc dX9_readItem_130 (by decide +kernel) ?_
      refine nn_Vp (As := [.int (iI 0), .int (iI 20), .int (iI 400)]) (st := []) hc hw hS38_0 rfl (c_X9_isNumber l g  hS38_0 hS38_1 (by decide) (by omega) (by decide) (by decide)) (cwV 3 hc.2.2.2.2 gX9_readItem_X9_isNumber rfl rfl rfl (by decide +kernel) ⟨Nat.le_of_ble_eq_true rfl, Nat.le_of_ble_eq_true rfl⟩) rfl hl.1 rfl (Nat.le_of_ble_eq_true rfl) ⟨Nat.le_of_ble_eq_true rfl, Nat.le_of_ble_eq_true rfl⟩ dX9_readItem_133 ?_
      refine W.eq (g2 := F0 m 136 ls [.int (iI (if 20 ≤ nb (0 : Int).toNat ∧ nb (0 : Int).toNat ≤ 400 then 1 else 0))]) rfl ?_
      refine nn_if_eq hc dX9_readItem_136 (tgt := 156) (by decide) (by omega) (fun c40 => ?_) (fun c40 => ?_)
      · exfalso; omega
      · refine lv_aload_n hc.1 hc.2.1 dX9_readItem_139 rfl (lv_at hl 1 rfl) ?_
        refine nn_iconst hc dX9_readItem_140 ?_
        refine nn_bipush hc dX9_readItem_141 (by decide +kernel) ?_
        refine nn_sipush hc dX9_readItem_143 (by decide +kernel) ?_
        refine nn_Vp (As := [.int (iI 1), .int (iI 40), .int (iI 240)]) (st := []) hc hw hS38_0 rfl (c_X9_isNumber l g  hS38_0 hS38_1 (by decide) (by omega) (by decide) (by decide)) (cwV 3 hc.2.2.2.2 gX9_readItem_X9_isNumber rfl rfl rfl (by decide +kernel) ⟨Nat.le_of_ble_eq_true rfl, Nat.le_of_ble_eq_true rfl⟩) rfl hl.1 rfl (Nat.le_of_ble_eq_true rfl) ⟨Nat.le_of_ble_eq_true rfl, Nat.le_of_ble_eq_true rfl⟩ dX9_readItem_146 ?_
        refine W.eq (g2 := F0 m 149 ls [.int (iI (if 40 ≤ nb (1 : Int).toNat ∧ nb (1 : Int).toNat ≤ 240 then 1 else 0))]) rfl ?_
        refine nn_if_eq hc dX9_readItem_149 (tgt := 156) (by decide) (by omega) (fun c41 => ?_) (fun c41 => ?_)
        · exfalso; omega
        · refine nn_iconst hc dX9_readItem_152 ?_
          refine lv_goto hc.1 hc.2.1 dX9_readItem_153 (tgt := 157) (by decide) ?_
          refine lv_istore_n (lv' := [(2, .int (iI 1)), (0, .ref z), (1, .int (iI kd))]) hc.1 hc.2.1 dX9_readItem_157 rfl hl (by decide) rfl (fun ls hl => ?_)
          refine lv_aload_n hc.1 hc.2.1 dX9_readItem_158 rfl (lv_at hl 1 rfl) ?_
          refine nn_iconst hc dX9_readItem_159 ?_
          refine lv_aload_n hc.1 hc.2.1 dX9_readItem_160 rfl (lv_at hl 1 rfl) ?_
          refine nn_get hc hw hS38_0 hiX9 rfl 13 (by decide) rfl lk34 dX9_readItem_161 ?_
          refine nn_iconst hc dX9_readItem_164 ?_
          refine nn_iald hc hw hS38_1 (by omega) (by omega) dX9_readItem_165 ?_
          refine W.eq (g2 := F0 m 166 ls [.int (iI (nb 0)), .int (iI 0), .ref z]) rfl ?_
          refine lv_iload_n hc.1 hc.2.1 dX9_readItem_166 rfl (lv_at hl 0 rfl) ?_
          have e42 : S38 (z + 3) = oI g 5 rst := (fS38 (z + 3) (off_nr (x := z) (a := 3) (by decide)) (off_ne (x := z) (a := 3) (b := 9) (by decide))).trans hrst
          refine nn_Vs (As := [.int (iI 0), .int (iI (nb 0)), .int (iI 1)]) (st := []) hc hw hS38_0 rfl (c_X9_setRead l g  hS38_0 e42 (by omega) (by omega)) (cwV 3 hc.2.2.2.2 gX9_readItem_X9_setRead rfl rfl rfl (by decide +kernel) ⟨Nat.le_of_ble_eq_true rfl, Nat.le_of_ble_eq_true rfl⟩) rfl hl.1 rfl (Nat.le_of_ble_eq_true rfl) ⟨Nat.le_of_ble_eq_true rfl, Nat.le_of_ble_eq_true rfl⟩ dX9_readItem_167 (fun vr n1 S43 H locs qS43 hw => ?_)
          obtain ⟨rfl, rfl, hS43_0, fS43⟩ := qS43
          refine W.eq (g2 := F0 m 170 ls []) rfl ?_
          refine lv_aload_n hc.1 hc.2.1 dX9_readItem_170 rfl (lv_at hl 1 rfl) ?_
          refine nn_iconst hc dX9_readItem_171 ?_
          refine lv_aload_n hc.1 hc.2.1 dX9_readItem_172 rfl (lv_at hl 1 rfl) ?_
          have e44 : S43 z = oO 9 [.ref (z + 1), .int (iI (tz : Int)), .int (iI (en : Int)), .ref (z + 2), .ref (z + 3), .ref (z + 4), .ref (z + 5), .int (iI mHC), .int (iI mRC), .ref (z + 6), .ref (z + 7), .ref (z + 8), .int (iI mHS), .ref (z + 9), .ref (z + 10), .int (iI mJC), .int (iI mCh), .int (iI mVi)] := (fS43 z (off_nl (x := z) (a := 3) (by decide))).trans hS38_0
          refine nn_get hc hw e44 hiX9 rfl 13 (by decide) rfl lk34 dX9_readItem_173 ?_
          refine nn_iconst hc dX9_readItem_176 ?_
          have e45 : S43 (z + 9) = oI g 3 nb := (fS43 (z + 9) (off_ne (x := z) (a := 9) (b := 3) (by decide))).trans hS38_1
          refine nn_iald hc hw e45 (by omega) (by omega) dX9_readItem_177 ?_
          refine W.eq (g2 := F0 m 178 ls [.int (iI (nb 1)), .int (iI 1), .ref z]) rfl ?_
          refine lv_iload_n hc.1 hc.2.1 dX9_readItem_178 rfl (lv_at hl 0 rfl) ?_
          refine nn_Vs (As := [.int (iI 1), .int (iI (nb 1)), .int (iI 1)]) (st := []) hc hw e44 rfl (c_X9_setRead l g  e44 hS43_0 (by omega) (by omega)) (cwV 3 hc.2.2.2.2 gX9_readItem_X9_setRead rfl rfl rfl (by decide +kernel) ⟨Nat.le_of_ble_eq_true rfl, Nat.le_of_ble_eq_true rfl⟩) rfl hl.1 rfl (Nat.le_of_ble_eq_true rfl) ⟨Nat.le_of_ble_eq_true rfl, Nat.le_of_ble_eq_true rfl⟩ dX9_readItem_179 (fun vr n1 S46 H locs qS46 hw => ?_)
          obtain ⟨rfl, rfl, hS46_0, fS46⟩ := qS46
          refine W.eq (g2 := F0 m 182 ls []) rfl ?_
          refine lv_iload_n hc.1 hc.2.1 dX9_readItem_182 rfl (lv_at hl 0 rfl) ?_
          have e47 : S46 z = oO 9 [.ref (z + 1), .int (iI (tz : Int)), .int (iI (en : Int)), .ref (z + 2), .ref (z + 3), .ref (z + 4), .ref (z + 5), .int (iI mHC), .int (iI mRC), .ref (z + 6), .ref (z + 7), .ref (z + 8), .int (iI mHS), .ref (z + 9), .ref (z + 10), .int (iI mJC), .int (iI mCh), .int (iI mVi)] := (fS46 z (off_nl (x := z) (a := 3) (by decide))).trans e44
          have e48 : S38 (z + 5) = oI g 24 rhp := (fS38 (z + 5) (off_nr (x := z) (a := 5) (by decide)) (off_ne (x := z) (a := 5) (b := 9) (by decide))).trans hrhp
          have e49 : S43 (z + 5) = oI g 24 rhp := (fS43 (z + 5) (off_ne (x := z) (a := 5) (b := 3) (by decide))).trans e48
          have e50 : S46 (z + 5) = oI g 24 rhp := (fS46 (z + 5) (off_ne (x := z) (a := 5) (b := 3) (by decide))).trans e49
          have e51 : S46 (z + 9) = oI g 3 nb := (fS46 (z + 9) (off_ne (x := z) (a := 9) (b := 3) (by decide))).trans e45
          exact hret (some (.int (iI 1))) _ S46 _ _ _ _ hw (⟨_, _, _, _, rfl, rfl, e47, hS46_0, e50, e51, (by have q9 := Option.some.inj htk; rw [← q9, ← hm0, ← hm1]; exact relP_r hrel), fun bb hb0 hb1 hb2 hb3 => (((fS46 bb hb1)).trans (fS43 bb hb1)).trans (fS38 bb hb0 hb3)⟩) ⟨_, rfl, by first | rfl | exact nn_nb _, dX9_readItem_183⟩
  · exfalso; rw [itC_oth (by omega) (by omega) (by omega) (by omega)] at hit; cases hit

set_option maxHeartbeats 4000000 in
set_option maxRecDepth 100000 in
theorem c_X9_readItem_no (l : Launch) (g : gG) {n : Nat} {S : Nat → gE} {z : Nat} {mAt mHC mRC mHS mJC mCh mVi : Int} {tz : Nat} {txa rst rhp nbs : Nat → Int} {P : pT} {kd : Int} {i0 : Nat} (hz : S z = oO 9 [.ref (z + 1), .int (iI (tz : Int)), .int (iI mAt), .ref (z + 2), .ref (z + 3), .ref (z + 4), .ref (z + 5), .int (iI mHC), .int (iI mRC), .ref (z + 6), .ref (z + 7), .ref (z + 8), .int (iI mHS), .ref (z + 9), .ref (z + 10), .int (iI mJC), .int (iI mCh), .int (iI mVi)]) (htx : S (z + 1) = oI g 200 txa) (hrst : S (z + 3) = oI g 5 rst) (hrhp : S (z + 5) = oI g 24 rhp) (hnb : S (z + 9) = oI g 3 nbs) (rtz : tz ≤ 200) (rtx : ∀ i : Nat, i < tz → 32 ≤ txa i ∧ txa i ≤ 126) (ra : mAt = i0 + 1 ∧ i0 < tz) (hkd : kd = txa i0) (hg0 : goodP P) (hrel : relP mRC rhp rst P) (hit : itC txa tz i0 P = none) : g_Cs l yX9_readItem wsX9_readItem { frames := 3, cells := 0, slots := 0, locals := 66 } g [.ref z, .int (iI kd)] n S (fun vr n1 S1 => ∃ at9 : Int, ∃ rst9 : Nat → Int, ∃ nb9 : Nat → Int, vr = some (.int (iI 0)) ∧ n = n1 ∧ S1 z = oO 9 [.ref (z + 1), .int (iI (tz : Int)), .int (iI at9), .ref (z + 2), .ref (z + 3), .ref (z + 4), .ref (z + 5), .int (iI mHC), .int (iI mRC), .ref (z + 6), .ref (z + 7), .ref (z + 8), .int (iI mHS), .ref (z + 9), .ref (z + 10), .int (iI mJC), .int (iI mCh), .int (iI mVi)] ∧ S1 (z + 3) = oI g 5 rst9 ∧ S1 (z + 9) = oI g 3 nb9 ∧ (∀ bb, bb ≠ z → bb ≠ (z + 3) → bb ≠ (z + 9) → S1 bb = S bb)) 0 0 := by
  refine g_Cs.of (cc := cX9_readItem) (maxL := 3) (ret := (some .boolean)) (by decide) rfl (Nat.le_of_ble_eq_true rfl) ?_
  intro pp ee s m below meth cK Q H locs ls hc hnm hw hl hret
  have hl : lv_has ls 3 [(0, .ref z), (1, .int (iI kd))] := hl
  have hiX9 : ∀ w ∈ u_ws RX9 TX9 18, w ∈ wsX9_readItem := by decide +kernel
  have lk34 : Cond.fieldLink RX9 34 "RoofCoursesModel" "numbers" "[I" ∈ wsX9_readItem := by decide +kernel
  have hkr := rtx i0 (by omega)
  refine nn_iconst hc dX9_readItem_0 ?_
  refine lv_istore_n (lv' := [(2, .int (iI 0)), (0, .ref z), (1, .int (iI kd))]) hc.1 hc.2.1 dX9_readItem_1 rfl hl (by decide) rfl (fun ls hl => ?_)
  refine lv_iload_n hc.1 hc.2.1 dX9_readItem_2 rfl (lv_at hl 2 rfl) ?_
  rcases (show kd = 104 ∨ kd = 105 ∨ kd = 112 ∨ kd = 114 ∨ (kd ≠ 104 ∧ kd ≠ 105 ∧ kd ≠ 112 ∧ kd ≠ 114) by omega) with w1 | w1 | w1 | w1 | w1
  · refine nn_lookIn (off := 41) hc 104 (tgt := 44) w1 (by decide) dX9_readItem_3 (by decide +kernel) (by decide +kernel) (by decide) ?_
    have hkd1 : txa i0 = 104 := by omega
    refine lv_aload_n hc.1 hc.2.1 dX9_readItem_44 rfl (lv_at hl 1 rfl) ?_
    refine nn_iconst hc dX9_readItem_45 ?_
    rcases itC_none hit with hnm | ⟨ns, en, hnm, htk⟩
    · rw [hkd1, nOf_h] at hnm
      refine nn_Vs (As := [.int (iI 3)]) (st := []) hc hw hz rfl (c_X9_readNumbers_no l g  hz htx hnb (by omega) (rtx) (by omega) (by omega) (by rw [show mAt.toNat = i0 + 1 by omega]; exact hnm)) (cwV 1 hc.2.2.2.2 gX9_readItem_X9_readNumbers rfl rfl rfl (by decide +kernel) ⟨Nat.le_of_ble_eq_true rfl, Nat.le_of_ble_eq_true rfl⟩) rfl hl.1 rfl (Nat.le_of_ble_eq_true rfl) ⟨Nat.le_of_ble_eq_true rfl, Nat.le_of_ble_eq_true rfl⟩ dX9_readItem_46 (fun vr n1 S2 H locs qS2 hw => ?_)
      obtain ⟨nb, at9_3, rfl, rfl, hS2_0, hS2_1, fS2⟩ := qS2
      refine W.eq (g2 := F0 m 49 ls [.int (iI 0)]) rfl ?_
      refine nn_if_eq hc dX9_readItem_49 (tgt := 116) (by decide) (by decide) (fun c4 => ?_) (fun c4 => ?_)
      · refine nn_iconst hc dX9_readItem_116 ?_
        have e5 : S2 (z + 3) = oI g 5 rst := (fS2 (z + 3) (off_nr (x := z) (a := 3) (by decide)) (off_ne (x := z) (a := 3) (b := 9) (by decide))).trans hrst
        exact hret (some (.int (iI 0))) _ S2 _ _ _ _ hw (⟨_, _, _, rfl, rfl, hS2_0, e5, hS2_1, fun bb hb0 hb1 hb2 => (fS2 bb hb0 hb2)⟩) ⟨_, rfl, by first | rfl | exact nn_nb _, dX9_readItem_117⟩
      · exact absurd c4 (by decide)
    · rw [hkd1, nOf_h] at hnm
      have hln := nmA_len hnm
      have hxs := hln.2.2.2
      rw [hkd1, takeC_104] at htk
      refine nn_Vs (As := [.int (iI 3)]) (st := []) hc hw hz rfl (c_X9_readNumbers_yes l g  hz htx hnb (by omega) (rtx) (by omega) (by omega) (by rw [show mAt.toNat = i0 + 1 by omega]; exact hnm)) (cwV 1 hc.2.2.2.2 gX9_readItem_X9_readNumbers rfl rfl rfl (by decide +kernel) ⟨Nat.le_of_ble_eq_true rfl, Nat.le_of_ble_eq_true rfl⟩) rfl hl.1 rfl (Nat.le_of_ble_eq_true rfl) ⟨Nat.le_of_ble_eq_true rfl, Nat.le_of_ble_eq_true rfl⟩ dX9_readItem_46 (fun vr n1 S6 H locs qS6 hw => ?_)
      obtain ⟨nb, rfl, rfl, hS6_0, hS6_1, kS6_0, fS6⟩ := qS6
      refine W.eq (g2 := F0 m 49 ls [.int (iI 1)]) rfl ?_
      refine nn_if_eq hc dX9_readItem_49 (tgt := 116) (by decide) (by decide) (fun c7 => ?_) (fun c7 => ?_)
      · exact absurd c7 (by decide)
      · have hf9 := kS6_0
        have hm0 : nb 0 = ns.getD 0 0 := hf9 0 (by omega)
        have hn0 : nb (0 : Int).toNat = ns.getD 0 0 := hm0
        have hr0 := getD_rng hxs 0
        have hm1 : nb 1 = ns.getD 1 0 := hf9 1 (by omega)
        have hn1 : nb (1 : Int).toNat = ns.getD 1 0 := hm1
        have hr1 := getD_rng hxs 1
        have hm2 : nb 2 = ns.getD 2 0 := hf9 2 (by omega)
        have hn2 : nb (2 : Int).toNat = ns.getD 2 0 := hm2
        have hr2 := getD_rng hxs 2
        refine lv_aload_n hc.1 hc.2.1 dX9_readItem_52 rfl (lv_at hl 1 rfl) ?_
        refine nn_iconst hc dX9_readItem_53 ?_
        refine nn_bipush hc dX9_readItem_54 (by decide +kernel) ?_
        refine nn_bipush hc dX9_readItem_56 (by decide +kernel) ?_
        refine nn_Vp (As := [.int (iI 0), .int (iI 20), .int (iI 60)]) (st := []) hc hw hS6_0 rfl (c_X9_isNumber l g  hS6_0 hS6_1 (by decide) (by omega) (by decide) (by decide)) (cwV 3 hc.2.2.2.2 gX9_readItem_X9_isNumber rfl rfl rfl (by decide +kernel) ⟨Nat.le_of_ble_eq_true rfl, Nat.le_of_ble_eq_true rfl⟩) rfl hl.1 rfl (Nat.le_of_ble_eq_true rfl) ⟨Nat.le_of_ble_eq_true rfl, Nat.le_of_ble_eq_true rfl⟩ dX9_readItem_58 ?_
        refine W.eq (g2 := F0 m 61 ls [.int (iI (if 20 ≤ nb (0 : Int).toNat ∧ nb (0 : Int).toNat ≤ 60 then 1 else 0))]) rfl ?_
        refine nn_if_eq hc dX9_readItem_61 (tgt := 116) (by decide) (by omega) (fun c8 => ?_) (fun c8 => ?_)
        · refine nn_iconst hc dX9_readItem_116 ?_
          have e9 : S6 (z + 3) = oI g 5 rst := (fS6 (z + 3) (off_nr (x := z) (a := 3) (by decide)) (off_ne (x := z) (a := 3) (b := 9) (by decide))).trans hrst
          exact hret (some (.int (iI 0))) _ S6 _ _ _ _ hw (⟨_, _, _, rfl, rfl, hS6_0, e9, hS6_1, fun bb hb0 hb1 hb2 => (fS6 bb hb0 hb2)⟩) ⟨_, rfl, by first | rfl | exact nn_nb _, dX9_readItem_117⟩
        · refine lv_aload_n hc.1 hc.2.1 dX9_readItem_64 rfl (lv_at hl 1 rfl) ?_
          refine nn_iconst hc dX9_readItem_65 ?_
          refine nn_bipush hc dX9_readItem_66 (by decide +kernel) ?_
          refine nn_bipush hc dX9_readItem_68 (by decide +kernel) ?_
          refine nn_Vp (As := [.int (iI 1), .int (iI 10), .int (iI 60)]) (st := []) hc hw hS6_0 rfl (c_X9_isNumber l g  hS6_0 hS6_1 (by decide) (by omega) (by decide) (by decide)) (cwV 3 hc.2.2.2.2 gX9_readItem_X9_isNumber rfl rfl rfl (by decide +kernel) ⟨Nat.le_of_ble_eq_true rfl, Nat.le_of_ble_eq_true rfl⟩) rfl hl.1 rfl (Nat.le_of_ble_eq_true rfl) ⟨Nat.le_of_ble_eq_true rfl, Nat.le_of_ble_eq_true rfl⟩ dX9_readItem_70 ?_
          refine W.eq (g2 := F0 m 73 ls [.int (iI (if 10 ≤ nb (1 : Int).toNat ∧ nb (1 : Int).toNat ≤ 60 then 1 else 0))]) rfl ?_
          refine nn_if_eq hc dX9_readItem_73 (tgt := 116) (by decide) (by omega) (fun c10 => ?_) (fun c10 => ?_)
          · refine nn_iconst hc dX9_readItem_116 ?_
            have e11 : S6 (z + 3) = oI g 5 rst := (fS6 (z + 3) (off_nr (x := z) (a := 3) (by decide)) (off_ne (x := z) (a := 3) (b := 9) (by decide))).trans hrst
            exact hret (some (.int (iI 0))) _ S6 _ _ _ _ hw (⟨_, _, _, rfl, rfl, hS6_0, e11, hS6_1, fun bb hb0 hb1 hb2 => (fS6 bb hb0 hb2)⟩) ⟨_, rfl, by first | rfl | exact nn_nb _, dX9_readItem_117⟩
          · refine lv_aload_n hc.1 hc.2.1 dX9_readItem_76 rfl (lv_at hl 1 rfl) ?_
            refine nn_iconst hc dX9_readItem_77 ?_
            refine nn_iconst hc dX9_readItem_78 ?_
            refine nn_bipush hc dX9_readItem_79 (by decide +kernel) ?_
            refine nn_Vp (As := [.int (iI 2), .int (iI 1), .int (iI 99)]) (st := []) hc hw hS6_0 rfl (c_X9_isNumber l g  hS6_0 hS6_1 (by decide) (by omega) (by decide) (by decide)) (cwV 3 hc.2.2.2.2 gX9_readItem_X9_isNumber rfl rfl rfl (by decide +kernel) ⟨Nat.le_of_ble_eq_true rfl, Nat.le_of_ble_eq_true rfl⟩) rfl hl.1 rfl (Nat.le_of_ble_eq_true rfl) ⟨Nat.le_of_ble_eq_true rfl, Nat.le_of_ble_eq_true rfl⟩ dX9_readItem_81 ?_
            refine W.eq (g2 := F0 m 84 ls [.int (iI (if 1 ≤ nb (2 : Int).toNat ∧ nb (2 : Int).toNat ≤ 99 then 1 else 0))]) rfl ?_
            refine nn_if_eq hc dX9_readItem_84 (tgt := 116) (by decide) (by omega) (fun c12 => ?_) (fun c12 => ?_)
            · refine nn_iconst hc dX9_readItem_116 ?_
              have e13 : S6 (z + 3) = oI g 5 rst := (fS6 (z + 3) (off_nr (x := z) (a := 3) (by decide)) (off_ne (x := z) (a := 3) (b := 9) (by decide))).trans hrst
              exact hret (some (.int (iI 0))) _ S6 _ _ _ _ hw (⟨_, _, _, rfl, rfl, hS6_0, e13, hS6_1, fun bb hb0 hb1 hb2 => (fS6 bb hb0 hb2)⟩) ⟨_, rfl, by first | rfl | exact nn_nb _, dX9_readItem_117⟩
            · rw [if_pos (by omega)] at htk
              refine lv_aload_n hc.1 hc.2.1 dX9_readItem_87 rfl (lv_at hl 1 rfl) ?_
              refine lv_aload_n hc.1 hc.2.1 dX9_readItem_88 rfl (lv_at hl 1 rfl) ?_
              refine nn_get hc hw hS6_0 hiX9 rfl 13 (by decide) rfl lk34 dX9_readItem_89 ?_
              refine nn_iconst hc dX9_readItem_92 ?_
              refine nn_iald hc hw hS6_1 (by omega) (by omega) dX9_readItem_93 ?_
              refine W.eq (g2 := F0 m 94 ls [.int (iI (nb 0)), .ref z]) rfl ?_
              refine lv_aload_n hc.1 hc.2.1 dX9_readItem_94 rfl (lv_at hl 1 rfl) ?_
              refine nn_get hc hw hS6_0 hiX9 rfl 13 (by decide) rfl lk34 dX9_readItem_95 ?_
              refine nn_iconst hc dX9_readItem_98 ?_
              refine nn_iald hc hw hS6_1 (by omega) (by omega) dX9_readItem_99 ?_
              refine W.eq (g2 := F0 m 100 ls [.int (iI (nb 1)), .int (iI (nb 0)), .ref z]) rfl ?_
              refine lv_aload_n hc.1 hc.2.1 dX9_readItem_100 rfl (lv_at hl 1 rfl) ?_
              refine nn_get hc hw hS6_0 hiX9 rfl 13 (by decide) rfl lk34 dX9_readItem_101 ?_
              refine nn_iconst hc dX9_readItem_104 ?_
              refine nn_iald hc hw hS6_1 (by omega) (by omega) dX9_readItem_105 ?_
              refine W.eq (g2 := F0 m 106 ls [.int (iI (nb 2)), .int (iI (nb 1)), .int (iI (nb 0)), .ref z]) rfl ?_
              have e14 : S6 (z + 5) = oI g 24 rhp := (fS6 (z + 5) (off_nr (x := z) (a := 5) (by decide)) (off_ne (x := z) (a := 5) (b := 9) (by decide))).trans hrhp
              refine nn_Vs (As := [.int (iI (nb 0)), .int (iI (nb 1)), .int (iI (nb 2))]) (st := []) hc hw hS6_0 rfl (c_X9_addHeap_no l g  hS6_0 e14 (by omega) (by omega) (by omega) (hg0) (hrel) (by rw [hm0, hm1, hm2]; exact htk)) (cwV 3 hc.2.2.2.2 gX9_readItem_X9_addHeap rfl rfl rfl (by decide +kernel) ⟨Nat.le_of_ble_eq_true rfl, Nat.le_of_ble_eq_true rfl⟩) rfl hl.1 rfl (Nat.le_of_ble_eq_true rfl) ⟨Nat.le_of_ble_eq_true rfl, Nat.le_of_ble_eq_true rfl⟩ dX9_readItem_106 (fun vr n1 S15 H locs qS15 hw => ?_)
              obtain ⟨rfl, rfl, rfl⟩ := qS15
              refine W.eq (g2 := F0 m 109 ls [.int (iI 0)]) rfl ?_
              refine nn_if_eq hc dX9_readItem_109 (tgt := 116) (by decide) (by decide) (fun c16 => ?_) (fun c16 => ?_)
              · refine nn_iconst hc dX9_readItem_116 ?_
                have e17 : S6 (z + 3) = oI g 5 rst := (fS6 (z + 3) (off_nr (x := z) (a := 3) (by decide)) (off_ne (x := z) (a := 3) (b := 9) (by decide))).trans hrst
                exact hret (some (.int (iI 0))) _ S6 _ _ _ _ hw (⟨_, _, _, rfl, rfl, hS6_0, e17, hS6_1, fun bb hb0 hb1 hb2 => (fS6 bb hb0 hb2)⟩) ⟨_, rfl, by first | rfl | exact nn_nb _, dX9_readItem_117⟩
              · exact absurd c16 (by decide)
  · refine nn_lookIn (off := 243) hc 105 (tgt := 246) w1 (by decide) dX9_readItem_3 (by decide +kernel) (by decide +kernel) (by decide) ?_
    have hkd1 : txa i0 = 105 := by omega
    refine lv_aload_n hc.1 hc.2.1 dX9_readItem_246 rfl (lv_at hl 1 rfl) ?_
    refine nn_iconst hc dX9_readItem_247 ?_
    rcases itC_none hit with hnm | ⟨ns, en, hnm, htk⟩
    · rw [hkd1, nOf_i] at hnm
      refine nn_Vs (As := [.int (iI 1)]) (st := []) hc hw hz rfl (c_X9_readNumbers_no l g  hz htx hnb (by omega) (rtx) (by omega) (by omega) (by rw [show mAt.toNat = i0 + 1 by omega]; exact hnm)) (cwV 1 hc.2.2.2.2 gX9_readItem_X9_readNumbers rfl rfl rfl (by decide +kernel) ⟨Nat.le_of_ble_eq_true rfl, Nat.le_of_ble_eq_true rfl⟩) rfl hl.1 rfl (Nat.le_of_ble_eq_true rfl) ⟨Nat.le_of_ble_eq_true rfl, Nat.le_of_ble_eq_true rfl⟩ dX9_readItem_248 (fun vr n1 S18 H locs qS18 hw => ?_)
      obtain ⟨nb, at9_19, rfl, rfl, hS18_0, hS18_1, fS18⟩ := qS18
      refine W.eq (g2 := F0 m 251 ls [.int (iI 0)]) rfl ?_
      refine nn_if_eq hc dX9_readItem_251 (tgt := 269) (by decide) (by decide) (fun c20 => ?_) (fun c20 => ?_)
      · refine nn_iconst hc dX9_readItem_269 ?_
        refine lv_istore_n (lv' := [(2, .int (iI 0)), (0, .ref z), (1, .int (iI kd))]) hc.1 hc.2.1 dX9_readItem_270 rfl hl (by decide) rfl (fun ls hl => ?_)
        refine lv_aload_n hc.1 hc.2.1 dX9_readItem_271 rfl (lv_at hl 1 rfl) ?_
        refine nn_iconst hc dX9_readItem_272 ?_
        refine lv_aload_n hc.1 hc.2.1 dX9_readItem_273 rfl (lv_at hl 1 rfl) ?_
        refine nn_get hc hw hS18_0 hiX9 rfl 13 (by decide) rfl lk34 dX9_readItem_274 ?_
        refine nn_iconst hc dX9_readItem_277 ?_
        refine nn_iald hc hw hS18_1 (by omega) (by omega) dX9_readItem_278 ?_
        refine W.eq (g2 := F0 m 279 ls [.int (iI (nb 0)), .int (iI 4), .ref z]) rfl ?_
        refine lv_iload_n hc.1 hc.2.1 dX9_readItem_279 rfl (lv_at hl 0 rfl) ?_
        have e21 : S18 (z + 3) = oI g 5 rst := (fS18 (z + 3) (off_nr (x := z) (a := 3) (by decide)) (off_ne (x := z) (a := 3) (b := 9) (by decide))).trans hrst
        refine nn_Vs (As := [.int (iI 4), .int (iI (nb 0)), .int (iI 0)]) (st := []) hc hw hS18_0 rfl (c_X9_setRead l g  hS18_0 e21 (by omega) (by omega)) (cwV 3 hc.2.2.2.2 gX9_readItem_X9_setRead rfl rfl rfl (by decide +kernel) ⟨Nat.le_of_ble_eq_true rfl, Nat.le_of_ble_eq_true rfl⟩) rfl hl.1 rfl (Nat.le_of_ble_eq_true rfl) ⟨Nat.le_of_ble_eq_true rfl, Nat.le_of_ble_eq_true rfl⟩ dX9_readItem_280 (fun vr n1 S22 H locs qS22 hw => ?_)
        obtain ⟨rfl, rfl, hS22_0, fS22⟩ := qS22
        refine W.eq (g2 := F0 m 283 ls []) rfl ?_
        refine lv_iload_n hc.1 hc.2.1 dX9_readItem_283 rfl (lv_at hl 0 rfl) ?_
        have e23 : S22 z = oO 9 [.ref (z + 1), .int (iI (tz : Int)), .int (iI at9_19), .ref (z + 2), .ref (z + 3), .ref (z + 4), .ref (z + 5), .int (iI mHC), .int (iI mRC), .ref (z + 6), .ref (z + 7), .ref (z + 8), .int (iI mHS), .ref (z + 9), .ref (z + 10), .int (iI mJC), .int (iI mCh), .int (iI mVi)] := (fS22 z (off_nl (x := z) (a := 3) (by decide))).trans hS18_0
        have e24 : S22 (z + 9) = oI g 3 nb := (fS22 (z + 9) (off_ne (x := z) (a := 9) (b := 3) (by decide))).trans hS18_1
        exact hret (some (.int (iI 0))) _ S22 _ _ _ _ hw (⟨_, _, _, rfl, rfl, e23, hS22_0, e24, fun bb hb0 hb1 hb2 => ((fS22 bb hb1)).trans (fS18 bb hb0 hb2)⟩) ⟨_, rfl, by first | rfl | exact nn_nb _, dX9_readItem_284⟩
      · exact absurd c20 (by decide)
    · rw [hkd1, nOf_i] at hnm
      have hln := nmA_len hnm
      have hxs := hln.2.2.2
      rw [hkd1, takeC_105] at htk
      refine nn_Vs (As := [.int (iI 1)]) (st := []) hc hw hz rfl (c_X9_readNumbers_yes l g  hz htx hnb (by omega) (rtx) (by omega) (by omega) (by rw [show mAt.toNat = i0 + 1 by omega]; exact hnm)) (cwV 1 hc.2.2.2.2 gX9_readItem_X9_readNumbers rfl rfl rfl (by decide +kernel) ⟨Nat.le_of_ble_eq_true rfl, Nat.le_of_ble_eq_true rfl⟩) rfl hl.1 rfl (Nat.le_of_ble_eq_true rfl) ⟨Nat.le_of_ble_eq_true rfl, Nat.le_of_ble_eq_true rfl⟩ dX9_readItem_248 (fun vr n1 S25 H locs qS25 hw => ?_)
      obtain ⟨nb, rfl, rfl, hS25_0, hS25_1, kS25_0, fS25⟩ := qS25
      refine W.eq (g2 := F0 m 251 ls [.int (iI 1)]) rfl ?_
      refine nn_if_eq hc dX9_readItem_251 (tgt := 269) (by decide) (by decide) (fun c26 => ?_) (fun c26 => ?_)
      · exact absurd c26 (by decide)
      · have hf9 := kS25_0
        have hm0 : nb 0 = ns.getD 0 0 := hf9 0 (by omega)
        have hn0 : nb (0 : Int).toNat = ns.getD 0 0 := hm0
        have hr0 := getD_rng hxs 0
        refine lv_aload_n hc.1 hc.2.1 dX9_readItem_254 rfl (lv_at hl 1 rfl) ?_
        refine nn_iconst hc dX9_readItem_255 ?_
        refine nn_iconst hc dX9_readItem_256 ?_
        refine nn_bipush hc dX9_readItem_257 (by decide +kernel) ?_
        refine nn_Vp (As := [.int (iI 0), .int (iI 0), .int (iI 9)]) (st := []) hc hw hS25_0 rfl (c_X9_isNumber l g  hS25_0 hS25_1 (by decide) (by omega) (by decide) (by decide)) (cwV 3 hc.2.2.2.2 gX9_readItem_X9_isNumber rfl rfl rfl (by decide +kernel) ⟨Nat.le_of_ble_eq_true rfl, Nat.le_of_ble_eq_true rfl⟩) rfl hl.1 rfl (Nat.le_of_ble_eq_true rfl) ⟨Nat.le_of_ble_eq_true rfl, Nat.le_of_ble_eq_true rfl⟩ dX9_readItem_259 ?_
        refine W.eq (g2 := F0 m 262 ls [.int (iI (if 0 ≤ nb (0 : Int).toNat ∧ nb (0 : Int).toNat ≤ 9 then 1 else 0))]) rfl ?_
        refine nn_if_eq hc dX9_readItem_262 (tgt := 269) (by decide) (by omega) (fun c27 => ?_) (fun c27 => ?_)
        · refine nn_iconst hc dX9_readItem_269 ?_
          refine lv_istore_n (lv' := [(2, .int (iI 0)), (0, .ref z), (1, .int (iI kd))]) hc.1 hc.2.1 dX9_readItem_270 rfl hl (by decide) rfl (fun ls hl => ?_)
          refine lv_aload_n hc.1 hc.2.1 dX9_readItem_271 rfl (lv_at hl 1 rfl) ?_
          refine nn_iconst hc dX9_readItem_272 ?_
          refine lv_aload_n hc.1 hc.2.1 dX9_readItem_273 rfl (lv_at hl 1 rfl) ?_
          refine nn_get hc hw hS25_0 hiX9 rfl 13 (by decide) rfl lk34 dX9_readItem_274 ?_
          refine nn_iconst hc dX9_readItem_277 ?_
          refine nn_iald hc hw hS25_1 (by omega) (by omega) dX9_readItem_278 ?_
          refine W.eq (g2 := F0 m 279 ls [.int (iI (nb 0)), .int (iI 4), .ref z]) rfl ?_
          refine lv_iload_n hc.1 hc.2.1 dX9_readItem_279 rfl (lv_at hl 0 rfl) ?_
          have e28 : S25 (z + 3) = oI g 5 rst := (fS25 (z + 3) (off_nr (x := z) (a := 3) (by decide)) (off_ne (x := z) (a := 3) (b := 9) (by decide))).trans hrst
          refine nn_Vs (As := [.int (iI 4), .int (iI (nb 0)), .int (iI 0)]) (st := []) hc hw hS25_0 rfl (c_X9_setRead l g  hS25_0 e28 (by omega) (by omega)) (cwV 3 hc.2.2.2.2 gX9_readItem_X9_setRead rfl rfl rfl (by decide +kernel) ⟨Nat.le_of_ble_eq_true rfl, Nat.le_of_ble_eq_true rfl⟩) rfl hl.1 rfl (Nat.le_of_ble_eq_true rfl) ⟨Nat.le_of_ble_eq_true rfl, Nat.le_of_ble_eq_true rfl⟩ dX9_readItem_280 (fun vr n1 S29 H locs qS29 hw => ?_)
          obtain ⟨rfl, rfl, hS29_0, fS29⟩ := qS29
          refine W.eq (g2 := F0 m 283 ls []) rfl ?_
          refine lv_iload_n hc.1 hc.2.1 dX9_readItem_283 rfl (lv_at hl 0 rfl) ?_
          have e30 : S29 z = oO 9 [.ref (z + 1), .int (iI (tz : Int)), .int (iI (en : Int)), .ref (z + 2), .ref (z + 3), .ref (z + 4), .ref (z + 5), .int (iI mHC), .int (iI mRC), .ref (z + 6), .ref (z + 7), .ref (z + 8), .int (iI mHS), .ref (z + 9), .ref (z + 10), .int (iI mJC), .int (iI mCh), .int (iI mVi)] := (fS29 z (off_nl (x := z) (a := 3) (by decide))).trans hS25_0
          have e31 : S29 (z + 9) = oI g 3 nb := (fS29 (z + 9) (off_ne (x := z) (a := 9) (b := 3) (by decide))).trans hS25_1
          exact hret (some (.int (iI 0))) _ S29 _ _ _ _ hw (⟨_, _, _, rfl, rfl, e30, hS29_0, e31, fun bb hb0 hb1 hb2 => ((fS29 bb hb1)).trans (fS25 bb hb0 hb2)⟩) ⟨_, rfl, by first | rfl | exact nn_nb _, dX9_readItem_284⟩
        · exfalso; rw [if_pos (by omega)] at htk; cases htk
  · refine nn_lookIn (off := 181) hc 112 (tgt := 184) w1 (by decide) dX9_readItem_3 (by decide +kernel) (by decide +kernel) (by decide) ?_
    have hkd1 : txa i0 = 112 := by omega
    refine lv_aload_n hc.1 hc.2.1 dX9_readItem_184 rfl (lv_at hl 1 rfl) ?_
    refine nn_iconst hc dX9_readItem_185 ?_
    rcases itC_none hit with hnm | ⟨ns, en, hnm, htk⟩
    · rw [hkd1, nOf_p] at hnm
      refine nn_Vs (As := [.int (iI 2)]) (st := []) hc hw hz rfl (c_X9_readNumbers_no l g  hz htx hnb (by omega) (rtx) (by omega) (by omega) (by rw [show mAt.toNat = i0 + 1 by omega]; exact hnm)) (cwV 1 hc.2.2.2.2 gX9_readItem_X9_readNumbers rfl rfl rfl (by decide +kernel) ⟨Nat.le_of_ble_eq_true rfl, Nat.le_of_ble_eq_true rfl⟩) rfl hl.1 rfl (Nat.le_of_ble_eq_true rfl) ⟨Nat.le_of_ble_eq_true rfl, Nat.le_of_ble_eq_true rfl⟩ dX9_readItem_186 (fun vr n1 S32 H locs qS32 hw => ?_)
      obtain ⟨nb, at9_33, rfl, rfl, hS32_0, hS32_1, fS32⟩ := qS32
      refine W.eq (g2 := F0 m 189 ls [.int (iI 0)]) rfl ?_
      refine nn_if_eq hc dX9_readItem_189 (tgt := 218) (by decide) (by decide) (fun c34 => ?_) (fun c34 => ?_)
      · refine nn_iconst hc dX9_readItem_218 ?_
        refine lv_istore_n (lv' := [(2, .int (iI 0)), (0, .ref z), (1, .int (iI kd))]) hc.1 hc.2.1 dX9_readItem_219 rfl hl (by decide) rfl (fun ls hl => ?_)
        refine lv_aload_n hc.1 hc.2.1 dX9_readItem_220 rfl (lv_at hl 1 rfl) ?_
        refine nn_iconst hc dX9_readItem_221 ?_
        refine lv_aload_n hc.1 hc.2.1 dX9_readItem_222 rfl (lv_at hl 1 rfl) ?_
        refine nn_get hc hw hS32_0 hiX9 rfl 13 (by decide) rfl lk34 dX9_readItem_223 ?_
        refine nn_iconst hc dX9_readItem_226 ?_
        refine nn_iald hc hw hS32_1 (by omega) (by omega) dX9_readItem_227 ?_
        refine W.eq (g2 := F0 m 228 ls [.int (iI (nb 0)), .int (iI 2), .ref z]) rfl ?_
        refine lv_iload_n hc.1 hc.2.1 dX9_readItem_228 rfl (lv_at hl 0 rfl) ?_
        have e35 : S32 (z + 3) = oI g 5 rst := (fS32 (z + 3) (off_nr (x := z) (a := 3) (by decide)) (off_ne (x := z) (a := 3) (b := 9) (by decide))).trans hrst
        refine nn_Vs (As := [.int (iI 2), .int (iI (nb 0)), .int (iI 0)]) (st := []) hc hw hS32_0 rfl (c_X9_setRead l g  hS32_0 e35 (by omega) (by omega)) (cwV 3 hc.2.2.2.2 gX9_readItem_X9_setRead rfl rfl rfl (by decide +kernel) ⟨Nat.le_of_ble_eq_true rfl, Nat.le_of_ble_eq_true rfl⟩) rfl hl.1 rfl (Nat.le_of_ble_eq_true rfl) ⟨Nat.le_of_ble_eq_true rfl, Nat.le_of_ble_eq_true rfl⟩ dX9_readItem_229 (fun vr n1 S36 H locs qS36 hw => ?_)
        obtain ⟨rfl, rfl, hS36_0, fS36⟩ := qS36
        refine W.eq (g2 := F0 m 232 ls []) rfl ?_
        refine lv_aload_n hc.1 hc.2.1 dX9_readItem_232 rfl (lv_at hl 1 rfl) ?_
        refine nn_iconst hc dX9_readItem_233 ?_
        refine lv_aload_n hc.1 hc.2.1 dX9_readItem_234 rfl (lv_at hl 1 rfl) ?_
        have e37 : S36 z = oO 9 [.ref (z + 1), .int (iI (tz : Int)), .int (iI at9_33), .ref (z + 2), .ref (z + 3), .ref (z + 4), .ref (z + 5), .int (iI mHC), .int (iI mRC), .ref (z + 6), .ref (z + 7), .ref (z + 8), .int (iI mHS), .ref (z + 9), .ref (z + 10), .int (iI mJC), .int (iI mCh), .int (iI mVi)] := (fS36 z (off_nl (x := z) (a := 3) (by decide))).trans hS32_0
        refine nn_get hc hw e37 hiX9 rfl 13 (by decide) rfl lk34 dX9_readItem_235 ?_
        refine nn_iconst hc dX9_readItem_238 ?_
        have e38 : S36 (z + 9) = oI g 3 nb := (fS36 (z + 9) (off_ne (x := z) (a := 9) (b := 3) (by decide))).trans hS32_1
        refine nn_iald hc hw e38 (by omega) (by omega) dX9_readItem_239 ?_
        refine W.eq (g2 := F0 m 240 ls [.int (iI (nb 1)), .int (iI 3), .ref z]) rfl ?_
        refine lv_iload_n hc.1 hc.2.1 dX9_readItem_240 rfl (lv_at hl 0 rfl) ?_
        refine nn_Vs (As := [.int (iI 3), .int (iI (nb 1)), .int (iI 0)]) (st := []) hc hw e37 rfl (c_X9_setRead l g  e37 hS36_0 (by omega) (by omega)) (cwV 3 hc.2.2.2.2 gX9_readItem_X9_setRead rfl rfl rfl (by decide +kernel) ⟨Nat.le_of_ble_eq_true rfl, Nat.le_of_ble_eq_true rfl⟩) rfl hl.1 rfl (Nat.le_of_ble_eq_true rfl) ⟨Nat.le_of_ble_eq_true rfl, Nat.le_of_ble_eq_true rfl⟩ dX9_readItem_241 (fun vr n1 S39 H locs qS39 hw => ?_)
        obtain ⟨rfl, rfl, hS39_0, fS39⟩ := qS39
        refine W.eq (g2 := F0 m 244 ls []) rfl ?_
        refine lv_iload_n hc.1 hc.2.1 dX9_readItem_244 rfl (lv_at hl 0 rfl) ?_
        have e40 : S39 z = oO 9 [.ref (z + 1), .int (iI (tz : Int)), .int (iI at9_33), .ref (z + 2), .ref (z + 3), .ref (z + 4), .ref (z + 5), .int (iI mHC), .int (iI mRC), .ref (z + 6), .ref (z + 7), .ref (z + 8), .int (iI mHS), .ref (z + 9), .ref (z + 10), .int (iI mJC), .int (iI mCh), .int (iI mVi)] := (fS39 z (off_nl (x := z) (a := 3) (by decide))).trans e37
        have e41 : S39 (z + 9) = oI g 3 nb := (fS39 (z + 9) (off_ne (x := z) (a := 9) (b := 3) (by decide))).trans e38
        exact hret (some (.int (iI 0))) _ S39 _ _ _ _ hw (⟨_, _, _, rfl, rfl, e40, hS39_0, e41, fun bb hb0 hb1 hb2 => (((fS39 bb hb1)).trans (fS36 bb hb1)).trans (fS32 bb hb0 hb2)⟩) ⟨_, rfl, by first | rfl | exact nn_nb _, dX9_readItem_245⟩
      · exact absurd c34 (by decide)
    · rw [hkd1, nOf_p] at hnm
      have hln := nmA_len hnm
      have hxs := hln.2.2.2
      rw [hkd1, takeC_112] at htk
      refine nn_Vs (As := [.int (iI 2)]) (st := []) hc hw hz rfl (c_X9_readNumbers_yes l g  hz htx hnb (by omega) (rtx) (by omega) (by omega) (by rw [show mAt.toNat = i0 + 1 by omega]; exact hnm)) (cwV 1 hc.2.2.2.2 gX9_readItem_X9_readNumbers rfl rfl rfl (by decide +kernel) ⟨Nat.le_of_ble_eq_true rfl, Nat.le_of_ble_eq_true rfl⟩) rfl hl.1 rfl (Nat.le_of_ble_eq_true rfl) ⟨Nat.le_of_ble_eq_true rfl, Nat.le_of_ble_eq_true rfl⟩ dX9_readItem_186 (fun vr n1 S42 H locs qS42 hw => ?_)
      obtain ⟨nb, rfl, rfl, hS42_0, hS42_1, kS42_0, fS42⟩ := qS42
      refine W.eq (g2 := F0 m 189 ls [.int (iI 1)]) rfl ?_
      refine nn_if_eq hc dX9_readItem_189 (tgt := 218) (by decide) (by decide) (fun c43 => ?_) (fun c43 => ?_)
      · exact absurd c43 (by decide)
      · have hf9 := kS42_0
        have hm0 : nb 0 = ns.getD 0 0 := hf9 0 (by omega)
        have hn0 : nb (0 : Int).toNat = ns.getD 0 0 := hm0
        have hr0 := getD_rng hxs 0
        have hm1 : nb 1 = ns.getD 1 0 := hf9 1 (by omega)
        have hn1 : nb (1 : Int).toNat = ns.getD 1 0 := hm1
        have hr1 := getD_rng hxs 1
        refine lv_aload_n hc.1 hc.2.1 dX9_readItem_192 rfl (lv_at hl 1 rfl) ?_
        refine nn_iconst hc dX9_readItem_193 ?_
        refine nn_iconst hc dX9_readItem_194 ?_
        refine nn_bipush hc dX9_readItem_195 (by decide +kernel) ?_
        refine nn_Vp (As := [.int (iI 0), .int (iI 1), .int (iI 10)]) (st := []) hc hw hS42_0 rfl (c_X9_isNumber l g  hS42_0 hS42_1 (by decide) (by omega) (by decide) (by decide)) (cwV 3 hc.2.2.2.2 gX9_readItem_X9_isNumber rfl rfl rfl (by decide +kernel) ⟨Nat.le_of_ble_eq_true rfl, Nat.le_of_ble_eq_true rfl⟩) rfl hl.1 rfl (Nat.le_of_ble_eq_true rfl) ⟨Nat.le_of_ble_eq_true rfl, Nat.le_of_ble_eq_true rfl⟩ dX9_readItem_197 ?_
        refine W.eq (g2 := F0 m 200 ls [.int (iI (if 1 ≤ nb (0 : Int).toNat ∧ nb (0 : Int).toNat ≤ 10 then 1 else 0))]) rfl ?_
        refine nn_if_eq hc dX9_readItem_200 (tgt := 218) (by decide) (by omega) (fun c44 => ?_) (fun c44 => ?_)
        · refine nn_iconst hc dX9_readItem_218 ?_
          refine lv_istore_n (lv' := [(2, .int (iI 0)), (0, .ref z), (1, .int (iI kd))]) hc.1 hc.2.1 dX9_readItem_219 rfl hl (by decide) rfl (fun ls hl => ?_)
          refine lv_aload_n hc.1 hc.2.1 dX9_readItem_220 rfl (lv_at hl 1 rfl) ?_
          refine nn_iconst hc dX9_readItem_221 ?_
          refine lv_aload_n hc.1 hc.2.1 dX9_readItem_222 rfl (lv_at hl 1 rfl) ?_
          refine nn_get hc hw hS42_0 hiX9 rfl 13 (by decide) rfl lk34 dX9_readItem_223 ?_
          refine nn_iconst hc dX9_readItem_226 ?_
          refine nn_iald hc hw hS42_1 (by omega) (by omega) dX9_readItem_227 ?_
          refine W.eq (g2 := F0 m 228 ls [.int (iI (nb 0)), .int (iI 2), .ref z]) rfl ?_
          refine lv_iload_n hc.1 hc.2.1 dX9_readItem_228 rfl (lv_at hl 0 rfl) ?_
          have e45 : S42 (z + 3) = oI g 5 rst := (fS42 (z + 3) (off_nr (x := z) (a := 3) (by decide)) (off_ne (x := z) (a := 3) (b := 9) (by decide))).trans hrst
          refine nn_Vs (As := [.int (iI 2), .int (iI (nb 0)), .int (iI 0)]) (st := []) hc hw hS42_0 rfl (c_X9_setRead l g  hS42_0 e45 (by omega) (by omega)) (cwV 3 hc.2.2.2.2 gX9_readItem_X9_setRead rfl rfl rfl (by decide +kernel) ⟨Nat.le_of_ble_eq_true rfl, Nat.le_of_ble_eq_true rfl⟩) rfl hl.1 rfl (Nat.le_of_ble_eq_true rfl) ⟨Nat.le_of_ble_eq_true rfl, Nat.le_of_ble_eq_true rfl⟩ dX9_readItem_229 (fun vr n1 S46 H locs qS46 hw => ?_)
          obtain ⟨rfl, rfl, hS46_0, fS46⟩ := qS46
          refine W.eq (g2 := F0 m 232 ls []) rfl ?_
          refine lv_aload_n hc.1 hc.2.1 dX9_readItem_232 rfl (lv_at hl 1 rfl) ?_
          refine nn_iconst hc dX9_readItem_233 ?_
          refine lv_aload_n hc.1 hc.2.1 dX9_readItem_234 rfl (lv_at hl 1 rfl) ?_
          have e47 : S46 z = oO 9 [.ref (z + 1), .int (iI (tz : Int)), .int (iI (en : Int)), .ref (z + 2), .ref (z + 3), .ref (z + 4), .ref (z + 5), .int (iI mHC), .int (iI mRC), .ref (z + 6), .ref (z + 7), .ref (z + 8), .int (iI mHS), .ref (z + 9), .ref (z + 10), .int (iI mJC), .int (iI mCh), .int (iI mVi)] := (fS46 z (off_nl (x := z) (a := 3) (by decide))).trans hS42_0
          refine nn_get hc hw e47 hiX9 rfl 13 (by decide) rfl lk34 dX9_readItem_235 ?_
          refine nn_iconst hc dX9_readItem_238 ?_
          have e48 : S46 (z + 9) = oI g 3 nb := (fS46 (z + 9) (off_ne (x := z) (a := 9) (b := 3) (by decide))).trans hS42_1
          refine nn_iald hc hw e48 (by omega) (by omega) dX9_readItem_239 ?_
          refine W.eq (g2 := F0 m 240 ls [.int (iI (nb 1)), .int (iI 3), .ref z]) rfl ?_
          refine lv_iload_n hc.1 hc.2.1 dX9_readItem_240 rfl (lv_at hl 0 rfl) ?_
          refine nn_Vs (As := [.int (iI 3), .int (iI (nb 1)), .int (iI 0)]) (st := []) hc hw e47 rfl (c_X9_setRead l g  e47 hS46_0 (by omega) (by omega)) (cwV 3 hc.2.2.2.2 gX9_readItem_X9_setRead rfl rfl rfl (by decide +kernel) ⟨Nat.le_of_ble_eq_true rfl, Nat.le_of_ble_eq_true rfl⟩) rfl hl.1 rfl (Nat.le_of_ble_eq_true rfl) ⟨Nat.le_of_ble_eq_true rfl, Nat.le_of_ble_eq_true rfl⟩ dX9_readItem_241 (fun vr n1 S49 H locs qS49 hw => ?_)
          obtain ⟨rfl, rfl, hS49_0, fS49⟩ := qS49
          refine W.eq (g2 := F0 m 244 ls []) rfl ?_
          refine lv_iload_n hc.1 hc.2.1 dX9_readItem_244 rfl (lv_at hl 0 rfl) ?_
          have e50 : S49 z = oO 9 [.ref (z + 1), .int (iI (tz : Int)), .int (iI (en : Int)), .ref (z + 2), .ref (z + 3), .ref (z + 4), .ref (z + 5), .int (iI mHC), .int (iI mRC), .ref (z + 6), .ref (z + 7), .ref (z + 8), .int (iI mHS), .ref (z + 9), .ref (z + 10), .int (iI mJC), .int (iI mCh), .int (iI mVi)] := (fS49 z (off_nl (x := z) (a := 3) (by decide))).trans e47
          have e51 : S49 (z + 9) = oI g 3 nb := (fS49 (z + 9) (off_ne (x := z) (a := 9) (b := 3) (by decide))).trans e48
          exact hret (some (.int (iI 0))) _ S49 _ _ _ _ hw (⟨_, _, _, rfl, rfl, e50, hS49_0, e51, fun bb hb0 hb1 hb2 => (((fS49 bb hb1)).trans (fS46 bb hb1)).trans (fS42 bb hb0 hb2)⟩) ⟨_, rfl, by first | rfl | exact nn_nb _, dX9_readItem_245⟩
        · refine lv_aload_n hc.1 hc.2.1 dX9_readItem_203 rfl (lv_at hl 1 rfl) ?_
          refine nn_iconst hc dX9_readItem_204 ?_
          refine nn_iconst hc dX9_readItem_205 ?_
          refine nn_bipush hc dX9_readItem_206 (by decide +kernel) ?_
          refine nn_Vp (As := [.int (iI 1), .int (iI 1), .int (iI 9)]) (st := []) hc hw hS42_0 rfl (c_X9_isNumber l g  hS42_0 hS42_1 (by decide) (by omega) (by decide) (by decide)) (cwV 3 hc.2.2.2.2 gX9_readItem_X9_isNumber rfl rfl rfl (by decide +kernel) ⟨Nat.le_of_ble_eq_true rfl, Nat.le_of_ble_eq_true rfl⟩) rfl hl.1 rfl (Nat.le_of_ble_eq_true rfl) ⟨Nat.le_of_ble_eq_true rfl, Nat.le_of_ble_eq_true rfl⟩ dX9_readItem_208 ?_
          refine W.eq (g2 := F0 m 211 ls [.int (iI (if 1 ≤ nb (1 : Int).toNat ∧ nb (1 : Int).toNat ≤ 9 then 1 else 0))]) rfl ?_
          refine nn_if_eq hc dX9_readItem_211 (tgt := 218) (by decide) (by omega) (fun c52 => ?_) (fun c52 => ?_)
          · refine nn_iconst hc dX9_readItem_218 ?_
            refine lv_istore_n (lv' := [(2, .int (iI 0)), (0, .ref z), (1, .int (iI kd))]) hc.1 hc.2.1 dX9_readItem_219 rfl hl (by decide) rfl (fun ls hl => ?_)
            refine lv_aload_n hc.1 hc.2.1 dX9_readItem_220 rfl (lv_at hl 1 rfl) ?_
            refine nn_iconst hc dX9_readItem_221 ?_
            refine lv_aload_n hc.1 hc.2.1 dX9_readItem_222 rfl (lv_at hl 1 rfl) ?_
            refine nn_get hc hw hS42_0 hiX9 rfl 13 (by decide) rfl lk34 dX9_readItem_223 ?_
            refine nn_iconst hc dX9_readItem_226 ?_
            refine nn_iald hc hw hS42_1 (by omega) (by omega) dX9_readItem_227 ?_
            refine W.eq (g2 := F0 m 228 ls [.int (iI (nb 0)), .int (iI 2), .ref z]) rfl ?_
            refine lv_iload_n hc.1 hc.2.1 dX9_readItem_228 rfl (lv_at hl 0 rfl) ?_
            have e53 : S42 (z + 3) = oI g 5 rst := (fS42 (z + 3) (off_nr (x := z) (a := 3) (by decide)) (off_ne (x := z) (a := 3) (b := 9) (by decide))).trans hrst
            refine nn_Vs (As := [.int (iI 2), .int (iI (nb 0)), .int (iI 0)]) (st := []) hc hw hS42_0 rfl (c_X9_setRead l g  hS42_0 e53 (by omega) (by omega)) (cwV 3 hc.2.2.2.2 gX9_readItem_X9_setRead rfl rfl rfl (by decide +kernel) ⟨Nat.le_of_ble_eq_true rfl, Nat.le_of_ble_eq_true rfl⟩) rfl hl.1 rfl (Nat.le_of_ble_eq_true rfl) ⟨Nat.le_of_ble_eq_true rfl, Nat.le_of_ble_eq_true rfl⟩ dX9_readItem_229 (fun vr n1 S54 H locs qS54 hw => ?_)
            obtain ⟨rfl, rfl, hS54_0, fS54⟩ := qS54
            refine W.eq (g2 := F0 m 232 ls []) rfl ?_
            refine lv_aload_n hc.1 hc.2.1 dX9_readItem_232 rfl (lv_at hl 1 rfl) ?_
            refine nn_iconst hc dX9_readItem_233 ?_
            refine lv_aload_n hc.1 hc.2.1 dX9_readItem_234 rfl (lv_at hl 1 rfl) ?_
            have e55 : S54 z = oO 9 [.ref (z + 1), .int (iI (tz : Int)), .int (iI (en : Int)), .ref (z + 2), .ref (z + 3), .ref (z + 4), .ref (z + 5), .int (iI mHC), .int (iI mRC), .ref (z + 6), .ref (z + 7), .ref (z + 8), .int (iI mHS), .ref (z + 9), .ref (z + 10), .int (iI mJC), .int (iI mCh), .int (iI mVi)] := (fS54 z (off_nl (x := z) (a := 3) (by decide))).trans hS42_0
            refine nn_get hc hw e55 hiX9 rfl 13 (by decide) rfl lk34 dX9_readItem_235 ?_
            refine nn_iconst hc dX9_readItem_238 ?_
            have e56 : S54 (z + 9) = oI g 3 nb := (fS54 (z + 9) (off_ne (x := z) (a := 9) (b := 3) (by decide))).trans hS42_1
            refine nn_iald hc hw e56 (by omega) (by omega) dX9_readItem_239 ?_
            refine W.eq (g2 := F0 m 240 ls [.int (iI (nb 1)), .int (iI 3), .ref z]) rfl ?_
            refine lv_iload_n hc.1 hc.2.1 dX9_readItem_240 rfl (lv_at hl 0 rfl) ?_
            refine nn_Vs (As := [.int (iI 3), .int (iI (nb 1)), .int (iI 0)]) (st := []) hc hw e55 rfl (c_X9_setRead l g  e55 hS54_0 (by omega) (by omega)) (cwV 3 hc.2.2.2.2 gX9_readItem_X9_setRead rfl rfl rfl (by decide +kernel) ⟨Nat.le_of_ble_eq_true rfl, Nat.le_of_ble_eq_true rfl⟩) rfl hl.1 rfl (Nat.le_of_ble_eq_true rfl) ⟨Nat.le_of_ble_eq_true rfl, Nat.le_of_ble_eq_true rfl⟩ dX9_readItem_241 (fun vr n1 S57 H locs qS57 hw => ?_)
            obtain ⟨rfl, rfl, hS57_0, fS57⟩ := qS57
            refine W.eq (g2 := F0 m 244 ls []) rfl ?_
            refine lv_iload_n hc.1 hc.2.1 dX9_readItem_244 rfl (lv_at hl 0 rfl) ?_
            have e58 : S57 z = oO 9 [.ref (z + 1), .int (iI (tz : Int)), .int (iI (en : Int)), .ref (z + 2), .ref (z + 3), .ref (z + 4), .ref (z + 5), .int (iI mHC), .int (iI mRC), .ref (z + 6), .ref (z + 7), .ref (z + 8), .int (iI mHS), .ref (z + 9), .ref (z + 10), .int (iI mJC), .int (iI mCh), .int (iI mVi)] := (fS57 z (off_nl (x := z) (a := 3) (by decide))).trans e55
            have e59 : S57 (z + 9) = oI g 3 nb := (fS57 (z + 9) (off_ne (x := z) (a := 9) (b := 3) (by decide))).trans e56
            exact hret (some (.int (iI 0))) _ S57 _ _ _ _ hw (⟨_, _, _, rfl, rfl, e58, hS57_0, e59, fun bb hb0 hb1 hb2 => (((fS57 bb hb1)).trans (fS54 bb hb1)).trans (fS42 bb hb0 hb2)⟩) ⟨_, rfl, by first | rfl | exact nn_nb _, dX9_readItem_245⟩
          · exfalso; rw [if_pos (by omega)] at htk; cases htk
  · refine nn_lookIn (off := 115) hc 114 (tgt := 118) w1 (by decide) dX9_readItem_3 (by decide +kernel) (by decide +kernel) (by decide) ?_
    have hkd1 : txa i0 = 114 := by omega
    refine lv_aload_n hc.1 hc.2.1 dX9_readItem_118 rfl (lv_at hl 1 rfl) ?_
    refine nn_iconst hc dX9_readItem_119 ?_
    rcases itC_none hit with hnm | ⟨ns, en, hnm, htk⟩
    · rw [hkd1, nOf_r] at hnm
      refine nn_Vs (As := [.int (iI 2)]) (st := []) hc hw hz rfl (c_X9_readNumbers_no l g  hz htx hnb (by omega) (rtx) (by omega) (by omega) (by rw [show mAt.toNat = i0 + 1 by omega]; exact hnm)) (cwV 1 hc.2.2.2.2 gX9_readItem_X9_readNumbers rfl rfl rfl (by decide +kernel) ⟨Nat.le_of_ble_eq_true rfl, Nat.le_of_ble_eq_true rfl⟩) rfl hl.1 rfl (Nat.le_of_ble_eq_true rfl) ⟨Nat.le_of_ble_eq_true rfl, Nat.le_of_ble_eq_true rfl⟩ dX9_readItem_120 (fun vr n1 S60 H locs qS60 hw => ?_)
      obtain ⟨nb, at9_61, rfl, rfl, hS60_0, hS60_1, fS60⟩ := qS60
      refine W.eq (g2 := F0 m 123 ls [.int (iI 0)]) rfl ?_
      refine nn_if_eq hc dX9_readItem_123 (tgt := 156) (by decide) (by decide) (fun c62 => ?_) (fun c62 => ?_)
      · refine nn_iconst hc dX9_readItem_156 ?_
        refine lv_istore_n (lv' := [(2, .int (iI 0)), (0, .ref z), (1, .int (iI kd))]) hc.1 hc.2.1 dX9_readItem_157 rfl hl (by decide) rfl (fun ls hl => ?_)
        refine lv_aload_n hc.1 hc.2.1 dX9_readItem_158 rfl (lv_at hl 1 rfl) ?_
        refine nn_iconst hc dX9_readItem_159 ?_
        refine lv_aload_n hc.1 hc.2.1 dX9_readItem_160 rfl (lv_at hl 1 rfl) ?_
        refine nn_get hc hw hS60_0 hiX9 rfl 13 (by decide) rfl lk34 dX9_readItem_161 ?_
        refine nn_iconst hc dX9_readItem_164 ?_
        refine nn_iald hc hw hS60_1 (by omega) (by omega) dX9_readItem_165 ?_
        refine W.eq (g2 := F0 m 166 ls [.int (iI (nb 0)), .int (iI 0), .ref z]) rfl ?_
        refine lv_iload_n hc.1 hc.2.1 dX9_readItem_166 rfl (lv_at hl 0 rfl) ?_
        have e63 : S60 (z + 3) = oI g 5 rst := (fS60 (z + 3) (off_nr (x := z) (a := 3) (by decide)) (off_ne (x := z) (a := 3) (b := 9) (by decide))).trans hrst
        refine nn_Vs (As := [.int (iI 0), .int (iI (nb 0)), .int (iI 0)]) (st := []) hc hw hS60_0 rfl (c_X9_setRead l g  hS60_0 e63 (by omega) (by omega)) (cwV 3 hc.2.2.2.2 gX9_readItem_X9_setRead rfl rfl rfl (by decide +kernel) ⟨Nat.le_of_ble_eq_true rfl, Nat.le_of_ble_eq_true rfl⟩) rfl hl.1 rfl (Nat.le_of_ble_eq_true rfl) ⟨Nat.le_of_ble_eq_true rfl, Nat.le_of_ble_eq_true rfl⟩ dX9_readItem_167 (fun vr n1 S64 H locs qS64 hw => ?_)
        obtain ⟨rfl, rfl, hS64_0, fS64⟩ := qS64
        refine W.eq (g2 := F0 m 170 ls []) rfl ?_
        refine lv_aload_n hc.1 hc.2.1 dX9_readItem_170 rfl (lv_at hl 1 rfl) ?_
        refine nn_iconst hc dX9_readItem_171 ?_
        refine lv_aload_n hc.1 hc.2.1 dX9_readItem_172 rfl (lv_at hl 1 rfl) ?_
        have e65 : S64 z = oO 9 [.ref (z + 1), .int (iI (tz : Int)), .int (iI at9_61), .ref (z + 2), .ref (z + 3), .ref (z + 4), .ref (z + 5), .int (iI mHC), .int (iI mRC), .ref (z + 6), .ref (z + 7), .ref (z + 8), .int (iI mHS), .ref (z + 9), .ref (z + 10), .int (iI mJC), .int (iI mCh), .int (iI mVi)] := (fS64 z (off_nl (x := z) (a := 3) (by decide))).trans hS60_0
        refine nn_get hc hw e65 hiX9 rfl 13 (by decide) rfl lk34 dX9_readItem_173 ?_
        refine nn_iconst hc dX9_readItem_176 ?_
        have e66 : S64 (z + 9) = oI g 3 nb := (fS64 (z + 9) (off_ne (x := z) (a := 9) (b := 3) (by decide))).trans hS60_1
        refine nn_iald hc hw e66 (by omega) (by omega) dX9_readItem_177 ?_
        refine W.eq (g2 := F0 m 178 ls [.int (iI (nb 1)), .int (iI 1), .ref z]) rfl ?_
        refine lv_iload_n hc.1 hc.2.1 dX9_readItem_178 rfl (lv_at hl 0 rfl) ?_
        refine nn_Vs (As := [.int (iI 1), .int (iI (nb 1)), .int (iI 0)]) (st := []) hc hw e65 rfl (c_X9_setRead l g  e65 hS64_0 (by omega) (by omega)) (cwV 3 hc.2.2.2.2 gX9_readItem_X9_setRead rfl rfl rfl (by decide +kernel) ⟨Nat.le_of_ble_eq_true rfl, Nat.le_of_ble_eq_true rfl⟩) rfl hl.1 rfl (Nat.le_of_ble_eq_true rfl) ⟨Nat.le_of_ble_eq_true rfl, Nat.le_of_ble_eq_true rfl⟩ dX9_readItem_179 (fun vr n1 S67 H locs qS67 hw => ?_)
        obtain ⟨rfl, rfl, hS67_0, fS67⟩ := qS67
        refine W.eq (g2 := F0 m 182 ls []) rfl ?_
        refine lv_iload_n hc.1 hc.2.1 dX9_readItem_182 rfl (lv_at hl 0 rfl) ?_
        have e68 : S67 z = oO 9 [.ref (z + 1), .int (iI (tz : Int)), .int (iI at9_61), .ref (z + 2), .ref (z + 3), .ref (z + 4), .ref (z + 5), .int (iI mHC), .int (iI mRC), .ref (z + 6), .ref (z + 7), .ref (z + 8), .int (iI mHS), .ref (z + 9), .ref (z + 10), .int (iI mJC), .int (iI mCh), .int (iI mVi)] := (fS67 z (off_nl (x := z) (a := 3) (by decide))).trans e65
        have e69 : S67 (z + 9) = oI g 3 nb := (fS67 (z + 9) (off_ne (x := z) (a := 9) (b := 3) (by decide))).trans e66
        exact hret (some (.int (iI 0))) _ S67 _ _ _ _ hw (⟨_, _, _, rfl, rfl, e68, hS67_0, e69, fun bb hb0 hb1 hb2 => (((fS67 bb hb1)).trans (fS64 bb hb1)).trans (fS60 bb hb0 hb2)⟩) ⟨_, rfl, by first | rfl | exact nn_nb _, dX9_readItem_183⟩
      · exact absurd c62 (by decide)
    · rw [hkd1, nOf_r] at hnm
      have hln := nmA_len hnm
      have hxs := hln.2.2.2
      rw [hkd1, takeC_114] at htk
      refine nn_Vs (As := [.int (iI 2)]) (st := []) hc hw hz rfl (c_X9_readNumbers_yes l g  hz htx hnb (by omega) (rtx) (by omega) (by omega) (by rw [show mAt.toNat = i0 + 1 by omega]; exact hnm)) (cwV 1 hc.2.2.2.2 gX9_readItem_X9_readNumbers rfl rfl rfl (by decide +kernel) ⟨Nat.le_of_ble_eq_true rfl, Nat.le_of_ble_eq_true rfl⟩) rfl hl.1 rfl (Nat.le_of_ble_eq_true rfl) ⟨Nat.le_of_ble_eq_true rfl, Nat.le_of_ble_eq_true rfl⟩ dX9_readItem_120 (fun vr n1 S70 H locs qS70 hw => ?_)
      obtain ⟨nb, rfl, rfl, hS70_0, hS70_1, kS70_0, fS70⟩ := qS70
      refine W.eq (g2 := F0 m 123 ls [.int (iI 1)]) rfl ?_
      refine nn_if_eq hc dX9_readItem_123 (tgt := 156) (by decide) (by decide) (fun c71 => ?_) (fun c71 => ?_)
      · exact absurd c71 (by decide)
      · have hf9 := kS70_0
        have hm0 : nb 0 = ns.getD 0 0 := hf9 0 (by omega)
        have hn0 : nb (0 : Int).toNat = ns.getD 0 0 := hm0
        have hr0 := getD_rng hxs 0
        have hm1 : nb 1 = ns.getD 1 0 := hf9 1 (by omega)
        have hn1 : nb (1 : Int).toNat = ns.getD 1 0 := hm1
        have hr1 := getD_rng hxs 1
        refine lv_aload_n hc.1 hc.2.1 dX9_readItem_126 rfl (lv_at hl 1 rfl) ?_
        refine nn_iconst hc dX9_readItem_127 ?_
        refine nn_bipush hc dX9_readItem_128 (by decide +kernel) ?_
        refine nn_sipush hc dX9_readItem_130 (by decide +kernel) ?_
        refine nn_Vp (As := [.int (iI 0), .int (iI 20), .int (iI 400)]) (st := []) hc hw hS70_0 rfl (c_X9_isNumber l g  hS70_0 hS70_1 (by decide) (by omega) (by decide) (by decide)) (cwV 3 hc.2.2.2.2 gX9_readItem_X9_isNumber rfl rfl rfl (by decide +kernel) ⟨Nat.le_of_ble_eq_true rfl, Nat.le_of_ble_eq_true rfl⟩) rfl hl.1 rfl (Nat.le_of_ble_eq_true rfl) ⟨Nat.le_of_ble_eq_true rfl, Nat.le_of_ble_eq_true rfl⟩ dX9_readItem_133 ?_
        refine W.eq (g2 := F0 m 136 ls [.int (iI (if 20 ≤ nb (0 : Int).toNat ∧ nb (0 : Int).toNat ≤ 400 then 1 else 0))]) rfl ?_
        refine nn_if_eq hc dX9_readItem_136 (tgt := 156) (by decide) (by omega) (fun c72 => ?_) (fun c72 => ?_)
        · refine nn_iconst hc dX9_readItem_156 ?_
          refine lv_istore_n (lv' := [(2, .int (iI 0)), (0, .ref z), (1, .int (iI kd))]) hc.1 hc.2.1 dX9_readItem_157 rfl hl (by decide) rfl (fun ls hl => ?_)
          refine lv_aload_n hc.1 hc.2.1 dX9_readItem_158 rfl (lv_at hl 1 rfl) ?_
          refine nn_iconst hc dX9_readItem_159 ?_
          refine lv_aload_n hc.1 hc.2.1 dX9_readItem_160 rfl (lv_at hl 1 rfl) ?_
          refine nn_get hc hw hS70_0 hiX9 rfl 13 (by decide) rfl lk34 dX9_readItem_161 ?_
          refine nn_iconst hc dX9_readItem_164 ?_
          refine nn_iald hc hw hS70_1 (by omega) (by omega) dX9_readItem_165 ?_
          refine W.eq (g2 := F0 m 166 ls [.int (iI (nb 0)), .int (iI 0), .ref z]) rfl ?_
          refine lv_iload_n hc.1 hc.2.1 dX9_readItem_166 rfl (lv_at hl 0 rfl) ?_
          have e73 : S70 (z + 3) = oI g 5 rst := (fS70 (z + 3) (off_nr (x := z) (a := 3) (by decide)) (off_ne (x := z) (a := 3) (b := 9) (by decide))).trans hrst
          refine nn_Vs (As := [.int (iI 0), .int (iI (nb 0)), .int (iI 0)]) (st := []) hc hw hS70_0 rfl (c_X9_setRead l g  hS70_0 e73 (by omega) (by omega)) (cwV 3 hc.2.2.2.2 gX9_readItem_X9_setRead rfl rfl rfl (by decide +kernel) ⟨Nat.le_of_ble_eq_true rfl, Nat.le_of_ble_eq_true rfl⟩) rfl hl.1 rfl (Nat.le_of_ble_eq_true rfl) ⟨Nat.le_of_ble_eq_true rfl, Nat.le_of_ble_eq_true rfl⟩ dX9_readItem_167 (fun vr n1 S74 H locs qS74 hw => ?_)
          obtain ⟨rfl, rfl, hS74_0, fS74⟩ := qS74
          refine W.eq (g2 := F0 m 170 ls []) rfl ?_
          refine lv_aload_n hc.1 hc.2.1 dX9_readItem_170 rfl (lv_at hl 1 rfl) ?_
          refine nn_iconst hc dX9_readItem_171 ?_
          refine lv_aload_n hc.1 hc.2.1 dX9_readItem_172 rfl (lv_at hl 1 rfl) ?_
          have e75 : S74 z = oO 9 [.ref (z + 1), .int (iI (tz : Int)), .int (iI (en : Int)), .ref (z + 2), .ref (z + 3), .ref (z + 4), .ref (z + 5), .int (iI mHC), .int (iI mRC), .ref (z + 6), .ref (z + 7), .ref (z + 8), .int (iI mHS), .ref (z + 9), .ref (z + 10), .int (iI mJC), .int (iI mCh), .int (iI mVi)] := (fS74 z (off_nl (x := z) (a := 3) (by decide))).trans hS70_0
          refine nn_get hc hw e75 hiX9 rfl 13 (by decide) rfl lk34 dX9_readItem_173 ?_
          refine nn_iconst hc dX9_readItem_176 ?_
          have e76 : S74 (z + 9) = oI g 3 nb := (fS74 (z + 9) (off_ne (x := z) (a := 9) (b := 3) (by decide))).trans hS70_1
          refine nn_iald hc hw e76 (by omega) (by omega) dX9_readItem_177 ?_
          refine W.eq (g2 := F0 m 178 ls [.int (iI (nb 1)), .int (iI 1), .ref z]) rfl ?_
          refine lv_iload_n hc.1 hc.2.1 dX9_readItem_178 rfl (lv_at hl 0 rfl) ?_
          refine nn_Vs (As := [.int (iI 1), .int (iI (nb 1)), .int (iI 0)]) (st := []) hc hw e75 rfl (c_X9_setRead l g  e75 hS74_0 (by omega) (by omega)) (cwV 3 hc.2.2.2.2 gX9_readItem_X9_setRead rfl rfl rfl (by decide +kernel) ⟨Nat.le_of_ble_eq_true rfl, Nat.le_of_ble_eq_true rfl⟩) rfl hl.1 rfl (Nat.le_of_ble_eq_true rfl) ⟨Nat.le_of_ble_eq_true rfl, Nat.le_of_ble_eq_true rfl⟩ dX9_readItem_179 (fun vr n1 S77 H locs qS77 hw => ?_)
          obtain ⟨rfl, rfl, hS77_0, fS77⟩ := qS77
          refine W.eq (g2 := F0 m 182 ls []) rfl ?_
          refine lv_iload_n hc.1 hc.2.1 dX9_readItem_182 rfl (lv_at hl 0 rfl) ?_
          have e78 : S77 z = oO 9 [.ref (z + 1), .int (iI (tz : Int)), .int (iI (en : Int)), .ref (z + 2), .ref (z + 3), .ref (z + 4), .ref (z + 5), .int (iI mHC), .int (iI mRC), .ref (z + 6), .ref (z + 7), .ref (z + 8), .int (iI mHS), .ref (z + 9), .ref (z + 10), .int (iI mJC), .int (iI mCh), .int (iI mVi)] := (fS77 z (off_nl (x := z) (a := 3) (by decide))).trans e75
          have e79 : S77 (z + 9) = oI g 3 nb := (fS77 (z + 9) (off_ne (x := z) (a := 9) (b := 3) (by decide))).trans e76
          exact hret (some (.int (iI 0))) _ S77 _ _ _ _ hw (⟨_, _, _, rfl, rfl, e78, hS77_0, e79, fun bb hb0 hb1 hb2 => (((fS77 bb hb1)).trans (fS74 bb hb1)).trans (fS70 bb hb0 hb2)⟩) ⟨_, rfl, by first | rfl | exact nn_nb _, dX9_readItem_183⟩
        · refine lv_aload_n hc.1 hc.2.1 dX9_readItem_139 rfl (lv_at hl 1 rfl) ?_
          refine nn_iconst hc dX9_readItem_140 ?_
          refine nn_bipush hc dX9_readItem_141 (by decide +kernel) ?_
          refine nn_sipush hc dX9_readItem_143 (by decide +kernel) ?_
          refine nn_Vp (As := [.int (iI 1), .int (iI 40), .int (iI 240)]) (st := []) hc hw hS70_0 rfl (c_X9_isNumber l g  hS70_0 hS70_1 (by decide) (by omega) (by decide) (by decide)) (cwV 3 hc.2.2.2.2 gX9_readItem_X9_isNumber rfl rfl rfl (by decide +kernel) ⟨Nat.le_of_ble_eq_true rfl, Nat.le_of_ble_eq_true rfl⟩) rfl hl.1 rfl (Nat.le_of_ble_eq_true rfl) ⟨Nat.le_of_ble_eq_true rfl, Nat.le_of_ble_eq_true rfl⟩ dX9_readItem_146 ?_
          refine W.eq (g2 := F0 m 149 ls [.int (iI (if 40 ≤ nb (1 : Int).toNat ∧ nb (1 : Int).toNat ≤ 240 then 1 else 0))]) rfl ?_
          refine nn_if_eq hc dX9_readItem_149 (tgt := 156) (by decide) (by omega) (fun c80 => ?_) (fun c80 => ?_)
          · refine nn_iconst hc dX9_readItem_156 ?_
            refine lv_istore_n (lv' := [(2, .int (iI 0)), (0, .ref z), (1, .int (iI kd))]) hc.1 hc.2.1 dX9_readItem_157 rfl hl (by decide) rfl (fun ls hl => ?_)
            refine lv_aload_n hc.1 hc.2.1 dX9_readItem_158 rfl (lv_at hl 1 rfl) ?_
            refine nn_iconst hc dX9_readItem_159 ?_
            refine lv_aload_n hc.1 hc.2.1 dX9_readItem_160 rfl (lv_at hl 1 rfl) ?_
            refine nn_get hc hw hS70_0 hiX9 rfl 13 (by decide) rfl lk34 dX9_readItem_161 ?_
            refine nn_iconst hc dX9_readItem_164 ?_
            refine nn_iald hc hw hS70_1 (by omega) (by omega) dX9_readItem_165 ?_
            refine W.eq (g2 := F0 m 166 ls [.int (iI (nb 0)), .int (iI 0), .ref z]) rfl ?_
            refine lv_iload_n hc.1 hc.2.1 dX9_readItem_166 rfl (lv_at hl 0 rfl) ?_
            have e81 : S70 (z + 3) = oI g 5 rst := (fS70 (z + 3) (off_nr (x := z) (a := 3) (by decide)) (off_ne (x := z) (a := 3) (b := 9) (by decide))).trans hrst
            refine nn_Vs (As := [.int (iI 0), .int (iI (nb 0)), .int (iI 0)]) (st := []) hc hw hS70_0 rfl (c_X9_setRead l g  hS70_0 e81 (by omega) (by omega)) (cwV 3 hc.2.2.2.2 gX9_readItem_X9_setRead rfl rfl rfl (by decide +kernel) ⟨Nat.le_of_ble_eq_true rfl, Nat.le_of_ble_eq_true rfl⟩) rfl hl.1 rfl (Nat.le_of_ble_eq_true rfl) ⟨Nat.le_of_ble_eq_true rfl, Nat.le_of_ble_eq_true rfl⟩ dX9_readItem_167 (fun vr n1 S82 H locs qS82 hw => ?_)
            obtain ⟨rfl, rfl, hS82_0, fS82⟩ := qS82
            refine W.eq (g2 := F0 m 170 ls []) rfl ?_
            refine lv_aload_n hc.1 hc.2.1 dX9_readItem_170 rfl (lv_at hl 1 rfl) ?_
            refine nn_iconst hc dX9_readItem_171 ?_
            refine lv_aload_n hc.1 hc.2.1 dX9_readItem_172 rfl (lv_at hl 1 rfl) ?_
            have e83 : S82 z = oO 9 [.ref (z + 1), .int (iI (tz : Int)), .int (iI (en : Int)), .ref (z + 2), .ref (z + 3), .ref (z + 4), .ref (z + 5), .int (iI mHC), .int (iI mRC), .ref (z + 6), .ref (z + 7), .ref (z + 8), .int (iI mHS), .ref (z + 9), .ref (z + 10), .int (iI mJC), .int (iI mCh), .int (iI mVi)] := (fS82 z (off_nl (x := z) (a := 3) (by decide))).trans hS70_0
            refine nn_get hc hw e83 hiX9 rfl 13 (by decide) rfl lk34 dX9_readItem_173 ?_
            refine nn_iconst hc dX9_readItem_176 ?_
            have e84 : S82 (z + 9) = oI g 3 nb := (fS82 (z + 9) (off_ne (x := z) (a := 9) (b := 3) (by decide))).trans hS70_1
            refine nn_iald hc hw e84 (by omega) (by omega) dX9_readItem_177 ?_
            refine W.eq (g2 := F0 m 178 ls [.int (iI (nb 1)), .int (iI 1), .ref z]) rfl ?_
            refine lv_iload_n hc.1 hc.2.1 dX9_readItem_178 rfl (lv_at hl 0 rfl) ?_
            refine nn_Vs (As := [.int (iI 1), .int (iI (nb 1)), .int (iI 0)]) (st := []) hc hw e83 rfl (c_X9_setRead l g  e83 hS82_0 (by omega) (by omega)) (cwV 3 hc.2.2.2.2 gX9_readItem_X9_setRead rfl rfl rfl (by decide +kernel) ⟨Nat.le_of_ble_eq_true rfl, Nat.le_of_ble_eq_true rfl⟩) rfl hl.1 rfl (Nat.le_of_ble_eq_true rfl) ⟨Nat.le_of_ble_eq_true rfl, Nat.le_of_ble_eq_true rfl⟩ dX9_readItem_179 (fun vr n1 S85 H locs qS85 hw => ?_)
            obtain ⟨rfl, rfl, hS85_0, fS85⟩ := qS85
            refine W.eq (g2 := F0 m 182 ls []) rfl ?_
            refine lv_iload_n hc.1 hc.2.1 dX9_readItem_182 rfl (lv_at hl 0 rfl) ?_
            have e86 : S85 z = oO 9 [.ref (z + 1), .int (iI (tz : Int)), .int (iI (en : Int)), .ref (z + 2), .ref (z + 3), .ref (z + 4), .ref (z + 5), .int (iI mHC), .int (iI mRC), .ref (z + 6), .ref (z + 7), .ref (z + 8), .int (iI mHS), .ref (z + 9), .ref (z + 10), .int (iI mJC), .int (iI mCh), .int (iI mVi)] := (fS85 z (off_nl (x := z) (a := 3) (by decide))).trans e83
            have e87 : S85 (z + 9) = oI g 3 nb := (fS85 (z + 9) (off_ne (x := z) (a := 9) (b := 3) (by decide))).trans e84
            exact hret (some (.int (iI 0))) _ S85 _ _ _ _ hw (⟨_, _, _, rfl, rfl, e86, hS85_0, e87, fun bb hb0 hb1 hb2 => (((fS85 bb hb1)).trans (fS82 bb hb1)).trans (fS70 bb hb0 hb2)⟩) ⟨_, rfl, by first | rfl | exact nn_nb _, dX9_readItem_183⟩
          · exfalso; rw [if_pos (by omega)] at htk; cases htk
  · refine nn_lookOut hc (tgt := 285) (by omega) dX9_readItem_3 (by decide +kernel) (by rw [Op.lookupswitch.offset_cons, if_neg (by omega), Op.lookupswitch.offset_cons, if_neg (by omega), Op.lookupswitch.offset_cons, if_neg (by omega), Op.lookupswitch.offset_cons, if_neg (by omega)]; rfl) (by decide) ?_
    refine nn_iconst hc dX9_readItem_285 ?_
    exact hret (some (.int (iI 0))) _ S _ _ _ _ hw (⟨_, _, _, rfl, rfl, hz, hrst, hnb, fun bb _ _ _ => rfl⟩) ⟨_, rfl, by first | rfl | exact nn_nb _, dX9_readItem_286⟩

set_option maxHeartbeats 4000000 in
set_option maxRecDepth 100000 in
theorem c_X9_parse (l : Launch) (g : gG) {n : Nat} {S : Nat → gE} {z : Nat} {mAt mHC mRC mHS mJC mCh mVi : Int} {tz : Nat} {txa rst rhp nbs : Nat → Int} {f1 f2 f3 : Nat → Int} (hz : S z = oO 9 [.ref (z + 1), .int (iI (tz : Int)), .int (iI mAt), .ref (z + 2), .ref (z + 3), .ref (z + 4), .ref (z + 5), .int (iI mHC), .int (iI mRC), .ref (z + 6), .ref (z + 7), .ref (z + 8), .int (iI mHS), .ref (z + 9), .ref (z + 10), .int (iI mJC), .int (iI mCh), .int (iI mVi)]) (htx : S (z + 1) = oI g 200 txa) (hrst : S (z + 3) = oI g 5 rst) (hrhp : S (z + 5) = oI g 24 rhp) (hnb : S (z + 9) = oI g 3 nbs) (rtz : tz ≤ 200) (rtx : ∀ i : Nat, i < tz → 32 ≤ txa i ∧ txa i ≤ 126) : g_Cs l yX9_parse wsX9_parse { frames := 4, cells := 0, slots := 0, locals := 88 } g [.ref z] n S (fun vr n1 S1 => ∃ at9 : Int, ∃ rc9 : Int, ∃ rst9 : Nat → Int, ∃ rh9 : Nat → Int, ∃ nb9 : Nat → Int, vr = some (.int (iI ((rdC txa tz 200 0 (0, f1, f2, f3, 100, 120, 6, 4, 0)).1))) ∧ n = n1 ∧ S1 z = oO 9 [.ref (z + 1), .int (iI (tz : Int)), .int (iI at9), .ref (z + 2), .ref (z + 3), .ref (z + 4), .ref (z + 5), .int (iI mHC), .int (iI rc9), .ref (z + 6), .ref (z + 7), .ref (z + 8), .int (iI mHS), .ref (z + 9), .ref (z + 10), .int (iI mJC), .int (iI mCh), .int (iI mVi)] ∧ S1 (z + 3) = oI g 5 rst9 ∧ S1 (z + 5) = oI g 24 rh9 ∧ S1 (z + 9) = oI g 3 nb9 ∧ ((rdC txa tz 200 0 (0, f1, f2, f3, 100, 120, 6, 4, 0)).1 = -4 → relP rc9 rh9 rst9 (rdC txa tz 200 0 (0, f1, f2, f3, 100, 120, 6, 4, 0)).2) ∧ (∀ bb, bb ≠ z → bb ≠ (z + 3) → bb ≠ (z + 5) → bb ≠ (z + 9) → S1 bb = S bb)) 0 0 := by
  refine g_Cs.of (cc := cX9_parse) (maxL := 3) (ret := (some .int)) (by decide) rfl (Nat.le_of_ble_eq_true rfl) ?_
  intro pp ee s m below meth cK Q H locs ls hc hnm hw hl hret
  have hl : lv_has ls 3 [(0, .ref z)] := hl
  have hiX9 : ∀ w ∈ u_ws RX9 TX9 18, w ∈ wsX9_parse := by decide +kernel
  have lk60 : Cond.fieldLink RX9 60 "RoofCoursesModel" "at" "I" ∈ wsX9_parse := by decide +kernel
  have lk63 : Cond.fieldLink RX9 63 "RoofCoursesModel" "length" "I" ∈ wsX9_parse := by decide +kernel
  have lk7 : Cond.fieldLink RX9 7 "RoofCoursesModel" "text" "[I" ∈ wsX9_parse := by decide +kernel
  refine lv_aload_n hc.1 hc.2.1 dX9_parse_0 rfl (lv_at hl 0 rfl) ?_
  refine nn_Vs (As := []) (st := []) hc hw hz rfl (c_X9_beginRead l g  hz hrst ) (cwV 0 hc.2.2.2.2 gX9_parse_X9_beginRead rfl rfl rfl (by decide +kernel) ⟨Nat.le_of_ble_eq_true rfl, Nat.le_of_ble_eq_true rfl⟩) rfl hl.1 rfl (Nat.le_of_ble_eq_true rfl) ⟨Nat.le_of_ble_eq_true rfl, Nat.le_of_ble_eq_true rfl⟩ dX9_parse_1 (fun vr n1 S1 H locs qS1 hw => ?_)
  obtain ⟨rst9_2, rfl, rfl, hS1_0, hS1_1, kS1_0, fS1⟩ := qS1
  refine W.eq (g2 := F0 m 4 ls []) rfl ?_
  refine lv_aload_n hc.1 hc.2.1 dX9_parse_4 rfl (lv_at hl 0 rfl) ?_
  refine nn_iconst hc dX9_parse_5 ?_
  refine nn_put hc hw hS1_0 hiX9 tyX9 tyX9_ok nmX9 rfl 2 (by decide) (Nat.le_of_ble_eq_true rfl) lk60 rfl rfl rfl dX9_parse_6 (fun S3 H locs hS3 fS3 hw => ?_)
  have hS3 : S3 z = oO 9 [.ref (z + 1), .int (iI (tz : Int)), .int (iI 0), .ref (z + 2), .ref (z + 3), .ref (z + 4), .ref (z + 5), .int (iI mHC), .int (iI 0), .ref (z + 6), .ref (z + 7), .ref (z + 8), .int (iI mHS), .ref (z + 9), .ref (z + 10), .int (iI mJC), .int (iI mCh), .int (iI mVi)] := hS3
  have lab9 : ∀ (fu9 : Nat) (a1 : Int) (rc1 : Int) (rst1 : Nat → Int) (rh1 : Nat → Int) (nb1 : Nat → Int) (fu : Nat) (P2 : pT) (S4 : Nat → gE) (H : Heap) (locs : List Loc) (ls : Array Slot), ((0 ≤ a1 ∧ a1 ≤ tz) ∧ tz ≤ a1.toNat + fu) → (goodP P2) → (relP rc1 rh1 rst1 P2) → (rdC txa tz 200 0 (0, f1, f2, f3, 100, 120, 6, 4, 0) = rdC txa tz fu a1.toNat P2) → S4 z = oO 9 [.ref (z + 1), .int (iI (tz : Int)), .int (iI a1), .ref (z + 2), .ref (z + 3), .ref (z + 4), .ref (z + 5), .int (iI mHC), .int (iI rc1), .ref (z + 6), .ref (z + 7), .ref (z + 8), .int (iI mHS), .ref (z + 9), .ref (z + 10), .int (iI mJC), .int (iI mCh), .int (iI mVi)] → S4 (z + 3) = oI g 5 rst1 → S4 (z + 5) = oI g 24 rh1 → S4 (z + 9) = oI g 3 nb1 → (∀ bb, bb ≠ z → bb ≠ (z + 3) → bb ≠ (z + 5) → bb ≠ (z + 9) → S4 bb = S3 bb) → g_W g n S4 s H locs → (tz - a1).toNat < fu9 → lv_has ls 3 [(0, .ref z)] → W pp l ee ({ frames := 4, cells := 0, slots := 0, locals := 88 } : Room) s m ([.ref z] : List Value).toArray below meth cK H locs 0 0 Q (F0 m 9 ls []) := by
    intro fu9
    induction fu9 with
    | zero =>
      intro a1 rc1 rst1 rh1 nb1 fu P2 S4 H locs ls ha1 hg1 hrel1 hrd hc9_0 hc9_1 hc9_2 hc9_3 fr9 hw hmeas hl
      exact absurd hmeas (Nat.not_lt_zero _)
    | succ fu9 ih9 =>
      intro a1 rc1 rst1 rh1 nb1 fu P2 S4 H locs ls ha1 hg1 hrel1 hrd hc9_0 hc9_1 hc9_2 hc9_3 fr9 hw hmeas hl
      refine lv_aload_n hc.1 hc.2.1 dX9_parse_9 rfl (lv_at hl 0 rfl) ?_
      refine nn_get hc hw hc9_0 hiX9 rfl 2 (by decide) rfl lk60 dX9_parse_10 ?_
      refine lv_aload_n hc.1 hc.2.1 dX9_parse_13 rfl (lv_at hl 0 rfl) ?_
      refine nn_get hc hw hc9_0 hiX9 rfl 1 (by decide) rfl lk63 dX9_parse_14 ?_
      refine nn_icmp_ge hc dX9_parse_17 (tgt := 58) (by decide) (by omega) (by omega) (fun c5 => ?_) (fun c5 => ?_)
      · refine nn_bipush hc dX9_parse_58 (by decide +kernel) ?_
        exact hret (some (.int (iI (-4)))) _ S4 _ _ _ _ hw (⟨_, _, _, _, _, (by rw [hrd, rdC_end (show tz ≤ a1.toNat by omega)]), rfl, hc9_0, hc9_1, hc9_2, hc9_3, (fun _ => by rw [hrd, rdC_end (show tz ≤ a1.toNat by omega)]; exact hrel1), fun bb hb0 hb1 hb2 hb3 => (((fr9 bb hb0 hb1 hb2 hb3)).trans (fS3 bb hb0)).trans (fS1 bb hb0 hb1)⟩) ⟨_, rfl, rfl, dX9_parse_60⟩
      · obtain ⟨fu0, hfu⟩ : ∃ fu0 : Nat, fu = fu0 + 1 := ⟨fu - 1, by omega⟩
        refine lv_aload_n hc.1 hc.2.1 dX9_parse_20 rfl (lv_at hl 0 rfl) ?_
        refine nn_get hc hw hc9_0 hiX9 rfl 2 (by decide) rfl lk60 dX9_parse_21 ?_
        refine lv_istore_n (lv' := [(1, .int (iI a1)), (0, .ref z)]) hc.1 hc.2.1 dX9_parse_24 rfl hl (by decide) rfl (fun ls hl => ?_)
        refine lv_aload_n hc.1 hc.2.1 dX9_parse_25 rfl (lv_at hl 1 rfl) ?_
        refine nn_get hc hw hc9_0 hiX9 rfl 0 (by decide) rfl lk7 dX9_parse_26 ?_
        refine lv_aload_n hc.1 hc.2.1 dX9_parse_29 rfl (lv_at hl 1 rfl) ?_
        refine nn_get hc hw hc9_0 hiX9 rfl 2 (by decide) rfl lk60 dX9_parse_30 ?_
        have e6 : S1 (z + 1) = oI g 200 txa := (fS1 (z + 1) (off_nr (x := z) (a := 1) (by decide)) (off_ne (x := z) (a := 1) (b := 3) (by decide))).trans htx
        have e7 : S3 (z + 1) = oI g 200 txa := (fS3 (z + 1) (off_nr (x := z) (a := 1) (by decide))).trans e6
        have e8 : S4 (z + 1) = oI g 200 txa := (fr9 (z + 1) (off_nr (x := z) (a := 1) (by decide)) (off_ne (x := z) (a := 1) (b := 3) (by decide)) (off_ne (x := z) (a := 1) (b := 5) (by decide)) (off_ne (x := z) (a := 1) (b := 9) (by decide))).trans e7
        refine nn_iald hc hw e8 (by omega) (by omega) dX9_parse_33 ?_
        refine lv_istore_n (lv' := [(2, .int (iI (txa a1.toNat))), (1, .int (iI a1)), (0, .ref z)]) hc.1 hc.2.1 dX9_parse_34 rfl hl (by decide) rfl (fun ls hl => ?_)
        refine lv_aload_n hc.1 hc.2.1 dX9_parse_35 rfl (lv_at hl 2 rfl) ?_
        refine lv_dup hc.1 hc.2.1 dX9_parse_36 rfl ?_
        refine nn_get hc hw hc9_0 hiX9 rfl 2 (by decide) rfl lk60 dX9_parse_37 ?_
        refine nn_iconst hc dX9_parse_40 ?_
        refine nn_iadd hc dX9_parse_41 ?_
        refine nn_put hc hw hc9_0 hiX9 tyX9 tyX9_ok nmX9 rfl 2 (by decide) (Nat.le_of_ble_eq_true rfl) lk60 rfl rfl rfl dX9_parse_42 (fun S9 H locs hS9 fS9 hw => ?_)
        have hS9 : S9 z = oO 9 [.ref (z + 1), .int (iI (tz : Int)), .int (iI (a1 + 1)), .ref (z + 2), .ref (z + 3), .ref (z + 4), .ref (z + 5), .int (iI mHC), .int (iI rc1), .ref (z + 6), .ref (z + 7), .ref (z + 8), .int (iI mHS), .ref (z + 9), .ref (z + 10), .int (iI mJC), .int (iI mCh), .int (iI mVi)] := hS9
        refine lv_aload_n hc.1 hc.2.1 dX9_parse_45 rfl (lv_at hl 2 rfl) ?_
        refine lv_iload_n hc.1 hc.2.1 dX9_parse_46 rfl (lv_at hl 0 rfl) ?_
        rcases opt_cases (itC txa tz a1.toNat P2) with hit9 | ⟨⟨en9, P3⟩, hit9⟩
        · have e10 : S9 (z + 1) = oI g 200 txa := (fS9 (z + 1) (off_nr (x := z) (a := 1) (by decide))).trans e8
          have e11 : S9 (z + 3) = oI g 5 rst1 := (fS9 (z + 3) (off_nr (x := z) (a := 3) (by decide))).trans hc9_1
          have e12 : S9 (z + 5) = oI g 24 rh1 := (fS9 (z + 5) (off_nr (x := z) (a := 5) (by decide))).trans hc9_2
          have e13 : S9 (z + 9) = oI g 3 nb1 := (fS9 (z + 9) (off_nr (x := z) (a := 9) (by decide))).trans hc9_3
          refine nn_Vs (As := [.int (iI (txa a1.toNat))]) (st := []) hc hw hS9 rfl (c_X9_readItem_no l g (P := P2) (i0 := a1.toNat) hS9 e10 e11 e12 e13 (by omega) (rtx) (by omega) (rfl) (hg1) (hrel1) (hit9)) (cwV 1 hc.2.2.2.2 gX9_parse_X9_readItem rfl rfl rfl (by decide +kernel) ⟨Nat.le_of_ble_eq_true rfl, Nat.le_of_ble_eq_true rfl⟩) rfl hl.1 rfl (Nat.le_of_ble_eq_true rfl) ⟨Nat.le_of_ble_eq_true rfl, Nat.le_of_ble_eq_true rfl⟩ dX9_parse_47 (fun vr n1 S14 H locs qS14 hw => ?_)
          obtain ⟨at9_15, rst9_16, nb9_17, rfl, rfl, hS14_0, hS14_1, hS14_2, fS14⟩ := qS14
          refine W.eq (g2 := F0 m 50 ls [.int (iI 0)]) rfl ?_
          refine nn_if_ne hc dX9_parse_50 (tgt := 55) (by decide) (by decide) (fun c18 => ?_) (fun c18 => ?_)
          · exact absurd c18 (by decide)
          · refine lv_iload_n hc.1 hc.2.1 dX9_parse_53 rfl (lv_at hl 1 rfl) ?_
            have e19 : S14 (z + 5) = oI g 24 rh1 := (fS14 (z + 5) (off_nr (x := z) (a := 5) (by decide)) (off_ne (x := z) (a := 5) (b := 3) (by decide)) (off_ne (x := z) (a := 5) (b := 9) (by decide))).trans e12
            exact hret (some (.int (iI a1))) _ S14 _ _ _ _ hw (⟨_, _, _, _, _, (by rw [hrd, hfu, rdC_none (show a1.toNat < tz by omega) hit9]; show _ = some (Value.int (iI ((a1.toNat : Nat) : Int))); rw [show ((a1.toNat : Nat) : Int) = a1 by omega]), rfl, hS14_0, hS14_1, e19, hS14_2, (fun q9 => by rw [hrd, hfu, rdC_none (show a1.toNat < tz by omega) hit9] at q9; have q8 : ((a1.toNat : Nat) : Int) = -4 := q9; omega), fun bb hb0 hb1 hb2 hb3 => (((((fS14 bb hb0 hb1 hb3)).trans (fS9 bb hb0)).trans (fr9 bb hb0 hb1 hb2 hb3)).trans (fS3 bb hb0)).trans (fS1 bb hb0 hb1)⟩) ⟨_, rfl, rfl, dX9_parse_54⟩
        · have e20 : S9 (z + 1) = oI g 200 txa := (fS9 (z + 1) (off_nr (x := z) (a := 1) (by decide))).trans e8
          have e21 : S9 (z + 3) = oI g 5 rst1 := (fS9 (z + 3) (off_nr (x := z) (a := 3) (by decide))).trans hc9_1
          have e22 : S9 (z + 5) = oI g 24 rh1 := (fS9 (z + 5) (off_nr (x := z) (a := 5) (by decide))).trans hc9_2
          have e23 : S9 (z + 9) = oI g 3 nb1 := (fS9 (z + 9) (off_nr (x := z) (a := 9) (by decide))).trans hc9_3
          refine nn_Vs (As := [.int (iI (txa a1.toNat))]) (st := []) hc hw hS9 rfl (c_X9_readItem_yes l g (P := P2) (P1 := P3) (en := en9) (i0 := a1.toNat) hS9 e20 e21 e22 e23 (by omega) (rtx) (by omega) (rfl) (hg1) (hrel1) (hit9)) (cwV 1 hc.2.2.2.2 gX9_parse_X9_readItem rfl rfl rfl (by decide +kernel) ⟨Nat.le_of_ble_eq_true rfl, Nat.le_of_ble_eq_true rfl⟩) rfl hl.1 rfl (Nat.le_of_ble_eq_true rfl) ⟨Nat.le_of_ble_eq_true rfl, Nat.le_of_ble_eq_true rfl⟩ dX9_parse_47 (fun vr n1 S24 H locs qS24 hw => ?_)
          obtain ⟨rc9_25, rst9_26, rh9_27, nb9_28, rfl, rfl, hS24_0, hS24_1, hS24_2, hS24_3, kS24_0, fS24⟩ := qS24
          refine W.eq (g2 := F0 m 50 ls [.int (iI 1)]) rfl ?_
          refine nn_if_ne hc dX9_parse_50 (tgt := 55) (by decide) (by decide) (fun c29 => ?_) (fun c29 => ?_)
          · have hle9 := itC_len (show a1.toNat < tz by omega) hit9
            refine lv_goto hc.1 hc.2.1 dX9_parse_55 (tgt := 9) (by decide) ?_
            exact ih9 (en9 : Int) rc9_25 rst9_26 rh9_27 nb9_28 fu0 P3 S24 _ _ _ (by omega) (itC_good hg1 hit9) (kS24_0) (by rw [hrd, hfu]; exact rdC_some (by omega) hit9) hS24_0 hS24_1 hS24_2 hS24_3 (fun bb hb0 hb1 hb2 hb3 => (((fS24 bb hb0 hb1 hb2 hb3)).trans (fS9 bb hb0)).trans (fr9 bb hb0 hb1 hb2 hb3)) hw (by omega) (lv_sub hl [2] rfl)
          · exact absurd c29 (by decide)
  have e30 : S3 (z + 3) = oI g 5 rst9_2 := (fS3 (z + 3) (off_nr (x := z) (a := 3) (by decide))).trans hS1_1
  have e31 : S1 (z + 5) = oI g 24 rhp := (fS1 (z + 5) (off_nr (x := z) (a := 5) (by decide)) (off_ne (x := z) (a := 5) (b := 3) (by decide))).trans hrhp
  have e32 : S3 (z + 5) = oI g 24 rhp := (fS3 (z + 5) (off_nr (x := z) (a := 5) (by decide))).trans e31
  have e33 : S1 (z + 9) = oI g 3 nbs := (fS1 (z + 9) (off_nr (x := z) (a := 9) (by decide)) (off_ne (x := z) (a := 9) (b := 3) (by decide))).trans hnb
  have e34 : S3 (z + 9) = oI g 3 nbs := (fS3 (z + 9) (off_nr (x := z) (a := 9) (by decide))).trans e33
  exact lab9 _ 0 0 rst9_2 rhp nbs 200 (0, f1, f2, f3, 100, 120, 6, 4, 0) S3 _ _ _ (⟨by omega, by omega⟩) (goodP_0 _ _ _) (relP_0 kS1_0) (rfl) hS3 e30 e32 e34 (fun bb _ _ _ _ => rfl) hw (Nat.lt_succ_self _) (lv_sub hl [0] rfl)

set_option maxHeartbeats 4000000 in
set_option maxRecDepth 100000 in
theorem c_X9_takeRead (l : Launch) (g : gG) {n : Nat} {S : Nat → gE} {z : Nat} {mLen mAt mHC mRC mHS mJC mCh mVi : Int} {stg hps nw : Nat → Int} {rst rhp : Nat → Int} {P : pT} (hz : S z = oO 9 [.ref (z + 1), .int (iI mLen), .int (iI mAt), .ref (z + 2), .ref (z + 3), .ref (z + 4), .ref (z + 5), .int (iI mHC), .int (iI mRC), .ref (z + 6), .ref (z + 7), .ref (z + 8), .int (iI mHS), .ref (z + 9), .ref (z + 10), .int (iI mJC), .int (iI mCh), .int (iI mVi)]) (hst : S (z + 2) = oI g 5 stg) (hrst : S (z + 3) = oI g 5 rst) (hhp : S (z + 4) = oI g 24 hps) (hrhp : S (z + 5) = oI g 24 rhp) (hnw : S (z + 6) = oI g 1249 nw) (hg0 : goodP P) (hrel : relP mRC rhp rst P) : g_Cs l yX9_takeRead wsX9_takeRead { frames := 0, cells := 0, slots := 0, locals := 0 } g [.ref z] n S (fun vr n1 S1 => ∃ stg9 : Nat → Int, ∃ hps9 : Nat → Int, ∃ nw9 : Nat → Int, vr = none ∧ n = n1 ∧ S1 z = oO 9 [.ref (z + 1), .int (iI mLen), .int (iI mAt), .ref (z + 2), .ref (z + 3), .ref (z + 4), .ref (z + 5), .int (iI mRC), .int (iI mRC), .ref (z + 6), .ref (z + 7), .ref (z + 8), .int (iI 0), .ref (z + 9), .ref (z + 10), .int (iI mJC), .int (iI mCh), .int (iI mVi)] ∧ S1 (z + 2) = oI g 5 stg9 ∧ S1 (z + 4) = oI g 24 hps9 ∧ S1 (z + 6) = oI g 1249 nw9 ∧ (∀ i : Nat, (i : Int) < P.1 → mLn hps9 i = P.2.1 i ∧ mBr hps9 i = P.2.2.1 i) ∧ (∀ i : Nat, i < 5 → stg9 i = rst i) ∧ mS nw9 (fun i => if (i : Int) < P.1 then P.2.2.2.1 i else 0) [] ∧ (∀ bb, bb ≠ z → bb ≠ (z + 2) → bb ≠ (z + 4) → bb ≠ (z + 6) → S1 bb = S bb)) 0 0 := by
  refine g_Cs.of (cc := cX9_takeRead) (maxL := 5) (ret := none) (by decide) rfl (Nat.le_of_ble_eq_true rfl) ?_
  intro pp ee s m below meth cK Q H locs ls hc hnm hw hl hret
  have hl : lv_has ls 5 [(0, .ref z)] := hl
  have hiX9 : ∀ w ∈ u_ws RX9 TX9 18, w ∈ wsX9_takeRead := by decide +kernel
  have lk50 : Cond.fieldLink RX9 50 "RoofCoursesModel" "readCount" "I" ∈ wsX9_takeRead := by decide +kernel
  have lk54 : Cond.fieldLink RX9 54 "RoofCoursesModel" "heapCount" "I" ∈ wsX9_takeRead := by decide +kernel
  have lk25 : Cond.fieldLink RX9 25 "RoofCoursesModel" "now" "[I" ∈ wsX9_takeRead := by decide +kernel
  have lk57 : Cond.fieldLink RX9 57 "RoofCoursesModel" "historySize" "I" ∈ wsX9_takeRead := by decide +kernel
  have lk19 : Cond.fieldLink RX9 19 "RoofCoursesModel" "heaps" "[I" ∈ wsX9_takeRead := by decide +kernel
  have lk13 : Cond.fieldLink RX9 13 "RoofCoursesModel" "settings" "[I" ∈ wsX9_takeRead := by decide +kernel
  have lk16 : Cond.fieldLink RX9 16 "RoofCoursesModel" "readSettings" "[I" ∈ wsX9_takeRead := by decide +kernel
  have lk22 : Cond.fieldLink RX9 22 "RoofCoursesModel" "readHeaps" "[I" ∈ wsX9_takeRead := by decide +kernel
  have hrel0 := hrel
  obtain ⟨hRC, ⟨pi, hpi⟩, hrs⟩ := hrel
  have hP1 := hg0.1
  refine lv_aload_n hc.1 hc.2.1 dX9_takeRead_0 rfl (lv_at hl 0 rfl) ?_
  refine lv_aload_n hc.1 hc.2.1 dX9_takeRead_1 rfl (lv_at hl 0 rfl) ?_
  refine nn_get hc hw hz hiX9 rfl 8 (by decide) rfl lk50 dX9_takeRead_2 ?_
  refine nn_put hc hw hz hiX9 tyX9 tyX9_ok nmX9 rfl 7 (by decide) (Nat.le_of_ble_eq_true rfl) lk54 rfl rfl rfl dX9_takeRead_5 (fun S1 H locs hS1 fS1 hw => ?_)
  have hS1 : S1 z = oO 9 [.ref (z + 1), .int (iI mLen), .int (iI mAt), .ref (z + 2), .ref (z + 3), .ref (z + 4), .ref (z + 5), .int (iI mRC), .int (iI mRC), .ref (z + 6), .ref (z + 7), .ref (z + 8), .int (iI mHS), .ref (z + 9), .ref (z + 10), .int (iI mJC), .int (iI mCh), .int (iI mVi)] := hS1
  refine nn_iconst hc dX9_takeRead_8 ?_
  refine lv_istore_n (lv' := [(1, .int (iI 0)), (0, .ref z)]) hc.1 hc.2.1 dX9_takeRead_9 rfl hl (by decide) rfl (fun ls hl => ?_)
  have lab10 : ∀ (fu10 : Nat) (h : Int) (hp1 : Nat → Int) (S2 : Nat → gE) (H : Heap) (locs : List Loc) (ls : Array Slot), (0 ≤ h ∧ h ≤ mRC) → (∀ g c : Nat, (g : Int) < h → c < 3 → hp1 (3 * pi g + c) = rhp (3 * g + c)) → S2 (z + 4) = oI g 24 hp1 → (∀ bb, bb ≠ (z + 4) → S2 bb = S1 bb) → g_W g n S2 s H locs → (mRC - h).toNat < fu10 → lv_has ls 5 [(1, .int (iI h)), (0, .ref z)] → W pp l ee ({ frames := 0, cells := 0, slots := 0, locals := 0 } : Room) s m ([.ref z] : List Value).toArray below meth cK H locs 0 0 Q (F0 m 10 ls []) := by
    intro fu10
    induction fu10 with
    | zero =>
      intro h hp1 S2 H locs ls hh hcp hc10_0 fr10 hw hmeas hl
      exact absurd hmeas (Nat.not_lt_zero _)
    | succ fu10 ih10 =>
      intro h hp1 S2 H locs ls hh hcp hc10_0 fr10 hw hmeas hl
      refine lv_iload_n hc.1 hc.2.1 dX9_takeRead_10 rfl (lv_at hl 0 rfl) ?_
      refine lv_aload_n hc.1 hc.2.1 dX9_takeRead_11 rfl (lv_at hl 1 rfl) ?_
      have e3 : S2 z = oO 9 [.ref (z + 1), .int (iI mLen), .int (iI mAt), .ref (z + 2), .ref (z + 3), .ref (z + 4), .ref (z + 5), .int (iI mRC), .int (iI mRC), .ref (z + 6), .ref (z + 7), .ref (z + 8), .int (iI mHS), .ref (z + 9), .ref (z + 10), .int (iI mJC), .int (iI mCh), .int (iI mVi)] := (fr10 z (off_nl (x := z) (a := 4) (by decide))).trans hS1
      refine nn_get hc hw e3 hiX9 rfl 8 (by decide) rfl lk50 dX9_takeRead_12 ?_
      refine nn_icmp_ge hc dX9_takeRead_15 (tgt := 140) (by decide) (by omega) (by omega) (fun c4 => ?_) (fun c4 => ?_)
      · have hall : ∀ j c : Nat, (j : Int) < P.1 → c < 3 → hp1 (3 * j + c) = (if c = 0 then P.2.1 j else if c = 1 then P.2.2.1 j else P.2.2.2.1 j) := fun j c hj hc9 => by obtain ⟨i9, q1, q2⟩ := relH_cover hpi hj; obtain ⟨-, a2, a3, a4⟩ := hpi.1 i9 q1; have q3 := hcp i9 c (by omega) hc9; rw [q2] at q3 a2 a3 a4; rw [q3]; rcases (show c = 0 ∨ c = 1 ∨ c = 2 by omega) with e9 | e9 | e9 <;> subst e9; exact a2; exact a3; exact a4
        refine nn_iconst hc dX9_takeRead_140 ?_
        refine lv_istore_n (lv' := [(1, .int (iI 0)), (0, .ref z)]) hc.1 hc.2.1 dX9_takeRead_141 rfl hl (by decide) rfl (fun ls hl => ?_)
        have lab142 : ∀ (fu142 : Nat) (k : Int) (st1 : Nat → Int) (S5 : Nat → gE) (H : Heap) (locs : List Loc) (ls : Array Slot), (0 ≤ k ∧ k ≤ 5) → (∀ i : Nat, (i : Int) < k → st1 i = rst i) → S5 (z + 2) = oI g 5 st1 → (∀ bb, bb ≠ (z + 2) → S5 bb = S2 bb) → g_W g n S5 s H locs → (5 - k).toNat < fu142 → lv_has ls 5 [(1, .int (iI k)), (0, .ref z)] → W pp l ee ({ frames := 0, cells := 0, slots := 0, locals := 0 } : Room) s m ([.ref z] : List Value).toArray below meth cK H locs 0 0 Q (F0 m 142 ls []) := by
          intro fu142
          induction fu142 with
          | zero =>
            intro k st1 S5 H locs ls hk hst1 hc142_0 fr142 hw hmeas hl
            exact absurd hmeas (Nat.not_lt_zero _)
          | succ fu142 ih142 =>
            intro k st1 S5 H locs ls hk hst1 hc142_0 fr142 hw hmeas hl
            refine lv_iload_n hc.1 hc.2.1 dX9_takeRead_142 rfl (lv_at hl 0 rfl) ?_
            refine nn_iconst hc dX9_takeRead_143 ?_
            refine nn_icmp_ge hc dX9_takeRead_144 (tgt := 165) (by decide) (by omega) (by decide) (fun c6 => ?_) (fun c6 => ?_)
            · refine nn_iconst hc dX9_takeRead_165 ?_
              refine lv_istore_n (lv' := [(1, .int (iI 0)), (0, .ref z)]) hc.1 hc.2.1 dX9_takeRead_166 rfl hl (by decide) rfl (fun ls hl => ?_)
              have lab167 : ∀ (fu167 : Nat) (k : Int) (nw1 : Nat → Int) (S7 : Nat → gE) (H : Heap) (locs : List Loc) (ls : Array Slot), (0 ≤ k ∧ k ≤ 8) → (∀ i : Nat, (i : Int) < k → nw1 i = if (i : Int) < P.1 then P.2.2.2.1 i else 0) → S7 (z + 6) = oI g 1249 nw1 → (∀ bb, bb ≠ (z + 6) → S7 bb = S5 bb) → g_W g n S7 s H locs → (8 - k).toNat < fu167 → lv_has ls 5 [(1, .int (iI k)), (0, .ref z)] → W pp l ee ({ frames := 0, cells := 0, slots := 0, locals := 0 } : Room) s m ([.ref z] : List Value).toArray below meth cK H locs 0 0 Q (F0 m 167 ls []) := by
                intro fu167
                induction fu167 with
                | zero =>
                  intro k nw1 S7 H locs ls hk hnw1 hc167_0 fr167 hw hmeas hl
                  exact absurd hmeas (Nat.not_lt_zero _)
                | succ fu167 ih167 =>
                  intro k nw1 S7 H locs ls hk hnw1 hc167_0 fr167 hw hmeas hl
                  refine lv_iload_n hc.1 hc.2.1 dX9_takeRead_167 rfl (lv_at hl 0 rfl) ?_
                  refine nn_bipush hc dX9_takeRead_168 (by decide +kernel) ?_
                  refine nn_icmp_ge hc dX9_takeRead_170 (tgt := 207) (by decide) (by omega) (by decide) (fun c8 => ?_) (fun c8 => ?_)
                  · refine lv_aload_n hc.1 hc.2.1 dX9_takeRead_207 rfl (lv_at hl 1 rfl) ?_
                    have e9 : S2 z = oO 9 [.ref (z + 1), .int (iI mLen), .int (iI mAt), .ref (z + 2), .ref (z + 3), .ref (z + 4), .ref (z + 5), .int (iI mRC), .int (iI mRC), .ref (z + 6), .ref (z + 7), .ref (z + 8), .int (iI mHS), .ref (z + 9), .ref (z + 10), .int (iI mJC), .int (iI mCh), .int (iI mVi)] := (fr10 z (off_nl (x := z) (a := 4) (by decide))).trans hS1
                    have e10 : S5 z = oO 9 [.ref (z + 1), .int (iI mLen), .int (iI mAt), .ref (z + 2), .ref (z + 3), .ref (z + 4), .ref (z + 5), .int (iI mRC), .int (iI mRC), .ref (z + 6), .ref (z + 7), .ref (z + 8), .int (iI mHS), .ref (z + 9), .ref (z + 10), .int (iI mJC), .int (iI mCh), .int (iI mVi)] := (fr142 z (off_nl (x := z) (a := 2) (by decide))).trans e9
                    have e11 : S7 z = oO 9 [.ref (z + 1), .int (iI mLen), .int (iI mAt), .ref (z + 2), .ref (z + 3), .ref (z + 4), .ref (z + 5), .int (iI mRC), .int (iI mRC), .ref (z + 6), .ref (z + 7), .ref (z + 8), .int (iI mHS), .ref (z + 9), .ref (z + 10), .int (iI mJC), .int (iI mCh), .int (iI mVi)] := (fr167 z (off_nl (x := z) (a := 6) (by decide))).trans e10
                    refine nn_get hc hw e11 hiX9 rfl 9 (by decide) rfl lk25 dX9_takeRead_208 ?_
                    refine nn_bipush hc dX9_takeRead_211 (by decide +kernel) ?_
                    refine nn_iconst hc dX9_takeRead_213 ?_
                    refine nn_iast hc hw hc167_0 (by omega) (by omega) dX9_takeRead_214 (fun S12 H locs hS12 fS12 hw => ?_)
                    have hS12 : S12 (z + 6) = oI g 1249 (va_up nw1 8 0) := hS12
                    refine lv_aload_n hc.1 hc.2.1 dX9_takeRead_215 rfl (lv_at hl 1 rfl) ?_
                    refine nn_iconst hc dX9_takeRead_216 ?_
                    have e13 : S12 z = oO 9 [.ref (z + 1), .int (iI mLen), .int (iI mAt), .ref (z + 2), .ref (z + 3), .ref (z + 4), .ref (z + 5), .int (iI mRC), .int (iI mRC), .ref (z + 6), .ref (z + 7), .ref (z + 8), .int (iI mHS), .ref (z + 9), .ref (z + 10), .int (iI mJC), .int (iI mCh), .int (iI mVi)] := (fS12 z (off_nl (x := z) (a := 6) (by decide))).trans e11
                    refine nn_put hc hw e13 hiX9 tyX9 tyX9_ok nmX9 rfl 12 (by decide) (Nat.le_of_ble_eq_true rfl) lk57 rfl rfl rfl dX9_takeRead_217 (fun S14 H locs hS14 fS14 hw => ?_)
                    have hS14 : S14 z = oO 9 [.ref (z + 1), .int (iI mLen), .int (iI mAt), .ref (z + 2), .ref (z + 3), .ref (z + 4), .ref (z + 5), .int (iI mRC), .int (iI mRC), .ref (z + 6), .ref (z + 7), .ref (z + 8), .int (iI 0), .ref (z + 9), .ref (z + 10), .int (iI mJC), .int (iI mCh), .int (iI mVi)] := hS14
                    have e15 : S7 (z + 2) = oI g 5 st1 := (fr167 (z + 2) (off_ne (x := z) (a := 2) (b := 6) (by decide))).trans hc142_0
                    have e16 : S12 (z + 2) = oI g 5 st1 := (fS12 (z + 2) (off_ne (x := z) (a := 2) (b := 6) (by decide))).trans e15
                    have e17 : S14 (z + 2) = oI g 5 st1 := (fS14 (z + 2) (off_nr (x := z) (a := 2) (by decide))).trans e16
                    have e18 : S5 (z + 4) = oI g 24 hp1 := (fr142 (z + 4) (off_ne (x := z) (a := 4) (b := 2) (by decide))).trans hc10_0
                    have e19 : S7 (z + 4) = oI g 24 hp1 := (fr167 (z + 4) (off_ne (x := z) (a := 4) (b := 6) (by decide))).trans e18
                    have e20 : S12 (z + 4) = oI g 24 hp1 := (fS12 (z + 4) (off_ne (x := z) (a := 4) (b := 6) (by decide))).trans e19
                    have e21 : S14 (z + 4) = oI g 24 hp1 := (fS14 (z + 4) (off_nr (x := z) (a := 4) (by decide))).trans e20
                    have e22 : S14 (z + 6) = oI g 1249 (va_up nw1 8 0) := (fS14 (z + 6) (off_nr (x := z) (a := 6) (by decide))).trans hS12
                    exact hret none _ S14 _ _ _ _ hw (⟨_, _, _, rfl, rfl, hS14, e17, e21, e22, (fun i hi => ⟨hall i 0 hi (by decide), hall i 1 hi (by decide)⟩), (fun i hi => hst1 i (by omega)), ⟨fun i hi => by rw [va_up_ne _ _ (by omega)]; exact hnw1 i (by omega), va_up_self _ _ _, fun c hc9 => absurd hc9 (Nat.not_lt_zero c)⟩, fun bb hb0 hb1 hb2 hb3 => ((((((fS14 bb hb0)).trans (fS12 bb hb3)).trans (fr167 bb hb3)).trans (fr142 bb hb1)).trans (fr10 bb hb2)).trans (fS1 bb hb0)⟩) ⟨rfl, dX9_takeRead_220⟩
                  · refine lv_aload_n hc.1 hc.2.1 dX9_takeRead_173 rfl (lv_at hl 1 rfl) ?_
                    have e23 : S2 z = oO 9 [.ref (z + 1), .int (iI mLen), .int (iI mAt), .ref (z + 2), .ref (z + 3), .ref (z + 4), .ref (z + 5), .int (iI mRC), .int (iI mRC), .ref (z + 6), .ref (z + 7), .ref (z + 8), .int (iI mHS), .ref (z + 9), .ref (z + 10), .int (iI mJC), .int (iI mCh), .int (iI mVi)] := (fr10 z (off_nl (x := z) (a := 4) (by decide))).trans hS1
                    have e24 : S5 z = oO 9 [.ref (z + 1), .int (iI mLen), .int (iI mAt), .ref (z + 2), .ref (z + 3), .ref (z + 4), .ref (z + 5), .int (iI mRC), .int (iI mRC), .ref (z + 6), .ref (z + 7), .ref (z + 8), .int (iI mHS), .ref (z + 9), .ref (z + 10), .int (iI mJC), .int (iI mCh), .int (iI mVi)] := (fr142 z (off_nl (x := z) (a := 2) (by decide))).trans e23
                    have e25 : S7 z = oO 9 [.ref (z + 1), .int (iI mLen), .int (iI mAt), .ref (z + 2), .ref (z + 3), .ref (z + 4), .ref (z + 5), .int (iI mRC), .int (iI mRC), .ref (z + 6), .ref (z + 7), .ref (z + 8), .int (iI mHS), .ref (z + 9), .ref (z + 10), .int (iI mJC), .int (iI mCh), .int (iI mVi)] := (fr167 z (off_nl (x := z) (a := 6) (by decide))).trans e24
                    refine nn_get hc hw e25 hiX9 rfl 9 (by decide) rfl lk25 dX9_takeRead_174 ?_
                    refine lv_iload_n hc.1 hc.2.1 dX9_takeRead_177 rfl (lv_at hl 0 rfl) ?_
                    refine lv_iload_n hc.1 hc.2.1 dX9_takeRead_178 rfl (lv_at hl 0 rfl) ?_
                    refine lv_aload_n hc.1 hc.2.1 dX9_takeRead_179 rfl (lv_at hl 1 rfl) ?_
                    refine nn_get hc hw e25 hiX9 rfl 7 (by decide) rfl lk54 dX9_takeRead_180 ?_
                    refine nn_icmp_ge hc dX9_takeRead_183 (tgt := 199) (by decide) (by omega) (by omega) (fun c26 => ?_) (fun c26 => ?_)
                    · refine nn_iconst hc dX9_takeRead_199 ?_
                      refine nn_iast hc hw hc167_0 (by omega) (by omega) dX9_takeRead_200 (fun S27 H locs hS27 fS27 hw => ?_)
                      refine nn_iinc (lv' := [(1, .int (iI (k + 1))), (0, .ref z)]) hc dX9_takeRead_201 hl (k0 := 0) rfl (by decide) rfl (fun ls hl => ?_)
                      refine lv_goto hc.1 hc.2.1 dX9_takeRead_204 (tgt := 167) (by decide) ?_
                      exact ih167 (k + 1) (va_up nw1 k.toNat 0) S27 _ _ _ (by omega) (fun i hi => by unfold va_up; by_cases e9 : i = k.toNat; (rw [if_pos e9]; first | (exact (hall9 (by omega)).trans (by rw [e9, if_pos (by omega)])) | (rw [if_neg (by omega)])); (rw [if_neg e9]; exact hnw1 i (by omega))) hS27 (fun bb hb0 => ((fS27 bb hb0)).trans (fr167 bb hb0)) hw (by omega) (lv_sub hl [0, 1] rfl)
                    · have hall9 : k < P.1 → hp1 (3 * k + 2).toNat = P.2.2.2.1 k.toNat := fun q9 => by rw [show (3 * k + 2).toNat = 3 * k.toNat + 2 by omega]; exact hall k.toNat 2 (by omega) (by decide)
                      refine lv_aload_n hc.1 hc.2.1 dX9_takeRead_186 rfl (lv_at hl 1 rfl) ?_
                      refine nn_get hc hw e25 hiX9 rfl 5 (by decide) rfl lk19 dX9_takeRead_187 ?_
                      refine nn_iconst hc dX9_takeRead_190 ?_
                      refine lv_iload_n hc.1 hc.2.1 dX9_takeRead_191 rfl (lv_at hl 0 rfl) ?_
                      refine nn_imul hc dX9_takeRead_192 ?_
                      refine nn_iconst hc dX9_takeRead_193 ?_
                      refine nn_iadd hc dX9_takeRead_194 ?_
                      have e28 : S5 (z + 4) = oI g 24 hp1 := (fr142 (z + 4) (off_ne (x := z) (a := 4) (b := 2) (by decide))).trans hc10_0
                      have e29 : S7 (z + 4) = oI g 24 hp1 := (fr167 (z + 4) (off_ne (x := z) (a := 4) (b := 6) (by decide))).trans e28
                      refine nn_iald hc hw e29 (by omega) (by omega) dX9_takeRead_195 ?_
                      refine lv_goto hc.1 hc.2.1 dX9_takeRead_196 (tgt := 200) (by decide) ?_
                      refine nn_iast hc hw hc167_0 (by omega) (by omega) dX9_takeRead_200 (fun S30 H locs hS30 fS30 hw => ?_)
                      refine nn_iinc (lv' := [(1, .int (iI (k + 1))), (0, .ref z)]) hc dX9_takeRead_201 hl (k0 := 0) rfl (by decide) rfl (fun ls hl => ?_)
                      refine lv_goto hc.1 hc.2.1 dX9_takeRead_204 (tgt := 167) (by decide) ?_
                      exact ih167 (k + 1) (va_up nw1 k.toNat (hp1 ((3 * k) + 2).toNat)) S30 _ _ _ (by omega) (fun i hi => by unfold va_up; by_cases e9 : i = k.toNat; (rw [if_pos e9]; first | (exact (hall9 (by omega)).trans (by rw [e9, if_pos (by omega)])) | (rw [if_neg (by omega)])); (rw [if_neg e9]; exact hnw1 i (by omega))) hS30 (fun bb hb0 => ((fS30 bb hb0)).trans (fr167 bb hb0)) hw (by omega) (lv_sub hl [0, 1] rfl)
              have e31 : S1 (z + 6) = oI g 1249 nw := (fS1 (z + 6) (off_nr (x := z) (a := 6) (by decide))).trans hnw
              have e32 : S2 (z + 6) = oI g 1249 nw := (fr10 (z + 6) (off_ne (x := z) (a := 6) (b := 4) (by decide))).trans e31
              have e33 : S5 (z + 6) = oI g 1249 nw := (fr142 (z + 6) (off_ne (x := z) (a := 6) (b := 2) (by decide))).trans e32
              exact lab167 _ 0 nw S5 _ _ _ (by omega) (fun i hi => absurd hi (by omega)) e33 (fun bb _ => rfl) hw (Nat.lt_succ_self _) (lv_sub hl [0, 1] rfl)
            · refine lv_aload_n hc.1 hc.2.1 dX9_takeRead_147 rfl (lv_at hl 1 rfl) ?_
              have e34 : S2 z = oO 9 [.ref (z + 1), .int (iI mLen), .int (iI mAt), .ref (z + 2), .ref (z + 3), .ref (z + 4), .ref (z + 5), .int (iI mRC), .int (iI mRC), .ref (z + 6), .ref (z + 7), .ref (z + 8), .int (iI mHS), .ref (z + 9), .ref (z + 10), .int (iI mJC), .int (iI mCh), .int (iI mVi)] := (fr10 z (off_nl (x := z) (a := 4) (by decide))).trans hS1
              have e35 : S5 z = oO 9 [.ref (z + 1), .int (iI mLen), .int (iI mAt), .ref (z + 2), .ref (z + 3), .ref (z + 4), .ref (z + 5), .int (iI mRC), .int (iI mRC), .ref (z + 6), .ref (z + 7), .ref (z + 8), .int (iI mHS), .ref (z + 9), .ref (z + 10), .int (iI mJC), .int (iI mCh), .int (iI mVi)] := (fr142 z (off_nl (x := z) (a := 2) (by decide))).trans e34
              refine nn_get hc hw e35 hiX9 rfl 3 (by decide) rfl lk13 dX9_takeRead_148 ?_
              refine lv_iload_n hc.1 hc.2.1 dX9_takeRead_151 rfl (lv_at hl 0 rfl) ?_
              refine lv_aload_n hc.1 hc.2.1 dX9_takeRead_152 rfl (lv_at hl 1 rfl) ?_
              refine nn_get hc hw e35 hiX9 rfl 4 (by decide) rfl lk16 dX9_takeRead_153 ?_
              refine lv_iload_n hc.1 hc.2.1 dX9_takeRead_156 rfl (lv_at hl 0 rfl) ?_
              have e36 : S1 (z + 3) = oI g 5 rst := (fS1 (z + 3) (off_nr (x := z) (a := 3) (by decide))).trans hrst
              have e37 : S2 (z + 3) = oI g 5 rst := (fr10 (z + 3) (off_ne (x := z) (a := 3) (b := 4) (by decide))).trans e36
              have e38 : S5 (z + 3) = oI g 5 rst := (fr142 (z + 3) (off_ne (x := z) (a := 3) (b := 2) (by decide))).trans e37
              refine nn_iald hc hw e38 (by omega) (by omega) dX9_takeRead_157 ?_
              refine nn_iast hc hw hc142_0 (by omega) (by omega) dX9_takeRead_158 (fun S39 H locs hS39 fS39 hw => ?_)
              refine nn_iinc (lv' := [(1, .int (iI (k + 1))), (0, .ref z)]) hc dX9_takeRead_159 hl (k0 := 0) rfl (by decide) rfl (fun ls hl => ?_)
              refine lv_goto hc.1 hc.2.1 dX9_takeRead_162 (tgt := 142) (by decide) ?_
              exact ih142 (k + 1) (va_up st1 k.toNat (rst k.toNat)) S39 _ _ _ (by omega) (fun i hi => by unfold va_up; split; rename_i e9; rw [e9]; exact hst1 i (by omega)) hS39 (fun bb hb0 => ((fS39 bb hb0)).trans (fr142 bb hb0)) hw (by omega) (lv_sub hl [0, 1] rfl)
        have e40 : S1 (z + 2) = oI g 5 stg := (fS1 (z + 2) (off_nr (x := z) (a := 2) (by decide))).trans hst
        have e41 : S2 (z + 2) = oI g 5 stg := (fr10 (z + 2) (off_ne (x := z) (a := 2) (b := 4) (by decide))).trans e40
        exact lab142 _ 0 stg S2 _ _ _ (by omega) (fun i hi => absurd hi (by omega)) e41 (fun bb _ => rfl) hw (Nat.lt_succ_self _) (lv_sub hl [0, 1] rfl)
      · have hrr := relP_rng hg0 hrel0 h.toNat (by omega)
        have hx0 : rhp (3 * h).toNat = rhp (3 * h.toNat) := by rw [show (3 * h).toNat = 3 * h.toNat by omega]
        have hx1 : rhp (3 * h + 1).toNat = rhp (3 * h.toNat + 1) := by rw [show (3 * h + 1).toNat = 3 * h.toNat + 1 by omega]
        refine nn_bipush hc dX9_takeRead_18 (by decide +kernel) ?_
        refine lv_aload_n hc.1 hc.2.1 dX9_takeRead_20 rfl (lv_at hl 1 rfl) ?_
        refine nn_get hc hw e3 hiX9 rfl 6 (by decide) rfl lk22 dX9_takeRead_21 ?_
        refine nn_iconst hc dX9_takeRead_24 ?_
        refine lv_iload_n hc.1 hc.2.1 dX9_takeRead_25 rfl (lv_at hl 0 rfl) ?_
        refine nn_imul hc dX9_takeRead_26 ?_
        have e42 : S1 (z + 5) = oI g 24 rhp := (fS1 (z + 5) (off_nr (x := z) (a := 5) (by decide))).trans hrhp
        have e43 : S2 (z + 5) = oI g 24 rhp := (fr10 (z + 5) (off_ne (x := z) (a := 5) (b := 4) (by decide))).trans e42
        refine nn_iald hc hw e43 (by omega) (by omega) dX9_takeRead_27 ?_
        refine nn_imul hc dX9_takeRead_28 ?_
        refine lv_aload_n hc.1 hc.2.1 dX9_takeRead_29 rfl (lv_at hl 1 rfl) ?_
        refine nn_get hc hw e3 hiX9 rfl 6 (by decide) rfl lk22 dX9_takeRead_30 ?_
        refine nn_iconst hc dX9_takeRead_33 ?_
        refine lv_iload_n hc.1 hc.2.1 dX9_takeRead_34 rfl (lv_at hl 0 rfl) ?_
        refine nn_imul hc dX9_takeRead_35 ?_
        refine nn_iconst hc dX9_takeRead_36 ?_
        refine nn_iadd hc dX9_takeRead_37 ?_
        refine nn_iald hc hw e43 (by omega) (by omega) dX9_takeRead_38 ?_
        refine nn_iadd hc dX9_takeRead_39 ?_
        refine nn_name (fun ky eky => ?_)
        refine lv_istore_n (lv' := [(2, .int (iI ky)), (1, .int (iI h)), (0, .ref z)]) hc.1 hc.2.1 dX9_takeRead_40 rfl hl (by decide) rfl (fun ls hl => ?_)
        refine nn_iconst hc dX9_takeRead_41 ?_
        refine lv_istore_n (lv' := [(3, .int (iI 0)), (2, .int (iI ky)), (1, .int (iI h)), (0, .ref z)]) hc.1 hc.2.1 dX9_takeRead_42 rfl hl (by decide) rfl (fun ls hl => ?_)
        refine nn_iconst hc dX9_takeRead_43 ?_
        refine lv_istore (lv' := [(4, .int (iI 0)), (3, .int (iI 0)), (2, .int (iI ky)), (1, .int (iI h)), (0, .ref z)]) hc.1 hc.2.1 dX9_takeRead_44 hl (by decide) rfl (fun ls hl => ?_)
        have lab46 : ∀ (fu46 : Nat) (pl : Int) (q : Int) (H : Heap) (locs : List Loc) (ls : Array Slot), (0 ≤ q ∧ q ≤ mRC) → (pl = sumI (fun g => if 100 * rhp (3 * g) + rhp (3 * g + 1) > 100 * rhp (3 * h.toNat) + rhp (3 * h.toNat + 1) then 1 else 0) q.toNat) → g_W g n S2 s H locs → (mRC - q).toNat < fu46 → lv_has ls 5 [(3, .int (iI pl)), (4, .int (iI q)), (0, .ref z), (1, .int (iI h)), (2, .int (iI ky))] → W pp l ee ({ frames := 0, cells := 0, slots := 0, locals := 0 } : Room) s m ([.ref z] : List Value).toArray below meth cK H locs 0 0 Q (F0 m 46 ls []) := by
          intro fu46
          induction fu46 with
          | zero =>
            intro pl q H locs ls hq hpl hw hmeas hl
            exact absurd hmeas (Nat.not_lt_zero _)
          | succ fu46 ih46 =>
            intro pl q H locs ls hq hpl hw hmeas hl
            refine lv_iload hc.1 hc.2.1 dX9_takeRead_46 (lv_at hl 1 rfl) ?_
            refine lv_aload_n hc.1 hc.2.1 dX9_takeRead_48 rfl (lv_at hl 2 rfl) ?_
            refine nn_get hc hw e3 hiX9 rfl 8 (by decide) rfl lk50 dX9_takeRead_49 ?_
            refine nn_icmp_ge hc dX9_takeRead_52 (tgt := 97) (by decide) (by omega) (by omega) (fun c45 => ?_) (fun c45 => ?_)
            · have hrk := relH_rank hg0 hpi (i := h.toNat) (by omega)
              have hph := (hpi.1 h.toNat (by omega)).1
              have hplE : pl = pi h.toNat := by rw [hpl, show q.toNat = P.1.toNat by omega]; exact hrk
              refine nn_iconst hc dX9_takeRead_97 ?_
              refine lv_istore (lv' := [(4, .int (iI 0)), (3, .int (iI pl)), (0, .ref z), (1, .int (iI h)), (2, .int (iI ky))]) hc.1 hc.2.1 dX9_takeRead_98 hl (by decide) rfl (fun ls hl => ?_)
              have lab100 : ∀ (fu100 : Nat) (k : Int) (hp2 : Nat → Int) (S46 : Nat → gE) (H : Heap) (locs : List Loc) (ls : Array Slot), (0 ≤ k ∧ k ≤ 3) → (hp2 = cpS rhp (3 * h.toNat) hp1 (3 * pl.toNat) k.toNat) → S46 (z + 4) = oI g 24 hp2 → (∀ bb, bb ≠ (z + 4) → S46 bb = S2 bb) → g_W g n S46 s H locs → (3 - k).toNat < fu100 → lv_has ls 5 [(4, .int (iI k)), (0, .ref z), (1, .int (iI h)), (3, .int (iI pl))] → W pp l ee ({ frames := 0, cells := 0, slots := 0, locals := 0 } : Room) s m ([.ref z] : List Value).toArray below meth cK H locs 0 0 Q (F0 m 100 ls []) := by
                intro fu100
                induction fu100 with
                | zero =>
                  intro k hp2 S46 H locs ls hk hh2 hc100_0 fr100 hw hmeas hl
                  exact absurd hmeas (Nat.not_lt_zero _)
                | succ fu100 ih100 =>
                  intro k hp2 S46 H locs ls hk hh2 hc100_0 fr100 hw hmeas hl
                  refine lv_iload hc.1 hc.2.1 dX9_takeRead_100 (lv_at hl 0 rfl) ?_
                  refine nn_iconst hc dX9_takeRead_102 ?_
                  refine nn_icmp_ge hc dX9_takeRead_103 (tgt := 134) (by decide) (by omega) (by decide) (fun c47 => ?_) (fun c47 => ?_)
                  · have hplN : pl.toNat = pi h.toNat := by omega
                    have hkN : k.toNat = 3 := by omega
                    refine nn_iinc (lv' := [(1, .int (iI (h + 1))), (4, .int (iI k)), (0, .ref z), (3, .int (iI pl))]) hc dX9_takeRead_134 hl (k0 := 2) rfl (by decide) rfl (fun ls hl => ?_)
                    refine lv_goto hc.1 hc.2.1 dX9_takeRead_137 (tgt := 10) (by decide) ?_
                    exact ih10 (h + 1) hp2 S46 _ _ _ (by omega) (fun q c hq hc9 => by rw [hh2]; unfold cpS; rw [hplN, hkN]; by_cases e9 : q = h.toNat; (rw [e9, if_pos (by omega)]; congr 1; omega); (have e8 : pi q ≠ pi h.toNat := fun e7 => e9 (hpi.2.1 q h.toNat (by omega) (by omega) e7); rw [if_neg (by omega)]; exact hcp q c (by omega) hc9)) hc100_0 (fun bb hb0 => ((fr100 bb hb0)).trans (fr10 bb hb0)) hw (by omega) (lv_sub hl [0, 2] rfl)
                  · refine lv_aload_n hc.1 hc.2.1 dX9_takeRead_106 rfl (lv_at hl 1 rfl) ?_
                    have e48 : S2 z = oO 9 [.ref (z + 1), .int (iI mLen), .int (iI mAt), .ref (z + 2), .ref (z + 3), .ref (z + 4), .ref (z + 5), .int (iI mRC), .int (iI mRC), .ref (z + 6), .ref (z + 7), .ref (z + 8), .int (iI mHS), .ref (z + 9), .ref (z + 10), .int (iI mJC), .int (iI mCh), .int (iI mVi)] := (fr10 z (off_nl (x := z) (a := 4) (by decide))).trans hS1
                    have e49 : S46 z = oO 9 [.ref (z + 1), .int (iI mLen), .int (iI mAt), .ref (z + 2), .ref (z + 3), .ref (z + 4), .ref (z + 5), .int (iI mRC), .int (iI mRC), .ref (z + 6), .ref (z + 7), .ref (z + 8), .int (iI mHS), .ref (z + 9), .ref (z + 10), .int (iI mJC), .int (iI mCh), .int (iI mVi)] := (fr100 z (off_nl (x := z) (a := 4) (by decide))).trans e48
                    refine nn_get hc hw e49 hiX9 rfl 5 (by decide) rfl lk19 dX9_takeRead_107 ?_
                    refine nn_iconst hc dX9_takeRead_110 ?_
                    refine lv_iload_n hc.1 hc.2.1 dX9_takeRead_111 rfl (lv_at hl 3 rfl) ?_
                    refine nn_imul hc dX9_takeRead_112 ?_
                    refine lv_iload hc.1 hc.2.1 dX9_takeRead_113 (lv_at hl 0 rfl) ?_
                    refine nn_iadd hc dX9_takeRead_115 ?_
                    refine lv_aload_n hc.1 hc.2.1 dX9_takeRead_116 rfl (lv_at hl 1 rfl) ?_
                    refine nn_get hc hw e49 hiX9 rfl 6 (by decide) rfl lk22 dX9_takeRead_117 ?_
                    refine nn_iconst hc dX9_takeRead_120 ?_
                    refine lv_iload_n hc.1 hc.2.1 dX9_takeRead_121 rfl (lv_at hl 2 rfl) ?_
                    refine nn_imul hc dX9_takeRead_122 ?_
                    refine lv_iload hc.1 hc.2.1 dX9_takeRead_123 (lv_at hl 0 rfl) ?_
                    refine nn_iadd hc dX9_takeRead_125 ?_
                    have e50 : S1 (z + 5) = oI g 24 rhp := (fS1 (z + 5) (off_nr (x := z) (a := 5) (by decide))).trans hrhp
                    have e51 : S2 (z + 5) = oI g 24 rhp := (fr10 (z + 5) (off_ne (x := z) (a := 5) (b := 4) (by decide))).trans e50
                    have e52 : S46 (z + 5) = oI g 24 rhp := (fr100 (z + 5) (off_ne (x := z) (a := 5) (b := 4) (by decide))).trans e51
                    refine nn_iald hc hw e52 (by omega) (by omega) dX9_takeRead_126 ?_
                    refine nn_iast hc hw hc100_0 (by omega) (by omega) dX9_takeRead_127 (fun S53 H locs hS53 fS53 hw => ?_)
                    refine nn_iinc (lv' := [(4, .int (iI (k + 1))), (0, .ref z), (1, .int (iI h)), (3, .int (iI pl))]) hc dX9_takeRead_128 hl (k0 := 0) rfl (by decide) rfl (fun ls hl => ?_)
                    refine lv_goto hc.1 hc.2.1 dX9_takeRead_131 (tgt := 100) (by decide) ?_
                    exact ih100 (k + 1) (va_up hp2 ((3 * pl) + k).toNat (rhp ((3 * h) + k).toNat)) S53 _ _ _ (by omega) (by rw [show (3 * pl + k).toNat = 3 * pl.toNat + k.toNat by omega, show (3 * h + k).toNat = 3 * h.toNat + k.toNat by omega, hh2, toNat_succ (by omega)]; exact cpS_s) hS53 (fun bb hb0 => ((fS53 bb hb0)).trans (fr100 bb hb0)) hw (by omega) (lv_sub hl [0, 1, 2, 3] rfl)
              exact lab100 _ 0 hp1 S2 _ _ _ (by omega) ((cpS_0 _ _ _ _).symm) hc10_0 (fun bb _ => rfl) hw (Nat.lt_succ_self _) (lv_sub hl [0, 2, 3, 1] rfl)
            · have hrq := relP_rng hg0 hrel0 q.toNat (by omega)
              have hy0 : rhp (3 * q).toNat = rhp (3 * q.toNat) := by rw [show (3 * q).toNat = 3 * q.toNat by omega]
              have hy1 : rhp (3 * q + 1).toNat = rhp (3 * q.toNat + 1) := by rw [show (3 * q + 1).toNat = 3 * q.toNat + 1 by omega]
              refine lv_iload_n hc.1 hc.2.1 dX9_takeRead_55 rfl (lv_at hl 0 rfl) ?_
              refine nn_bipush hc dX9_takeRead_56 (by decide +kernel) ?_
              refine lv_aload_n hc.1 hc.2.1 dX9_takeRead_58 rfl (lv_at hl 2 rfl) ?_
              refine nn_get hc hw e3 hiX9 rfl 6 (by decide) rfl lk22 dX9_takeRead_59 ?_
              refine nn_iconst hc dX9_takeRead_62 ?_
              refine lv_iload hc.1 hc.2.1 dX9_takeRead_63 (lv_at hl 1 rfl) ?_
              refine nn_imul hc dX9_takeRead_65 ?_
              refine nn_iald hc hw e43 (by omega) (by omega) dX9_takeRead_66 ?_
              refine nn_imul hc dX9_takeRead_67 ?_
              refine lv_aload_n hc.1 hc.2.1 dX9_takeRead_68 rfl (lv_at hl 2 rfl) ?_
              refine nn_get hc hw e3 hiX9 rfl 6 (by decide) rfl lk22 dX9_takeRead_69 ?_
              refine nn_iconst hc dX9_takeRead_72 ?_
              refine lv_iload hc.1 hc.2.1 dX9_takeRead_73 (lv_at hl 1 rfl) ?_
              refine nn_imul hc dX9_takeRead_75 ?_
              refine nn_iconst hc dX9_takeRead_76 ?_
              refine nn_iadd hc dX9_takeRead_77 ?_
              refine nn_iald hc hw e43 (by omega) (by omega) dX9_takeRead_78 ?_
              refine nn_iadd hc dX9_takeRead_79 ?_
              refine lv_iload_n hc.1 hc.2.1 dX9_takeRead_80 rfl (lv_at hl 4 rfl) ?_
              refine nn_icmp_le hc dX9_takeRead_81 (tgt := 88) (by decide) (by omega) (by omega) (fun c54 => ?_) (fun c54 => ?_)
              · refine nn_iconst hc dX9_takeRead_88 ?_
                refine nn_iadd hc dX9_takeRead_89 ?_
                refine lv_istore_n (lv' := [(3, .int (iI (pl + 0))), (4, .int (iI q)), (0, .ref z), (1, .int (iI h)), (2, .int (iI ky))]) hc.1 hc.2.1 dX9_takeRead_90 rfl hl (by decide) rfl (fun ls hl => ?_)
                refine nn_iinc (lv' := [(4, .int (iI (q + 1))), (3, .int (iI (pl + 0))), (0, .ref z), (1, .int (iI h)), (2, .int (iI ky))]) hc dX9_takeRead_91 hl (k0 := 1) rfl (by decide) rfl (fun ls hl => ?_)
                refine lv_goto hc.1 hc.2.1 dX9_takeRead_94 (tgt := 46) (by decide) ?_
                exact ih46 (pl + 0) (q + 1) _ _ _ (by omega) (by rw [sumI_s (by omega), hpl]; first | (rw [if_pos (by omega)]) | (rw [if_neg (by omega)])) hw (by omega) (lv_sub hl [1, 0, 2, 3, 4] rfl)
              · refine nn_iconst hc dX9_takeRead_84 ?_
                refine lv_goto hc.1 hc.2.1 dX9_takeRead_85 (tgt := 89) (by decide) ?_
                refine nn_iadd hc dX9_takeRead_89 ?_
                refine lv_istore_n (lv' := [(3, .int (iI (pl + 1))), (4, .int (iI q)), (0, .ref z), (1, .int (iI h)), (2, .int (iI ky))]) hc.1 hc.2.1 dX9_takeRead_90 rfl hl (by decide) rfl (fun ls hl => ?_)
                refine nn_iinc (lv' := [(4, .int (iI (q + 1))), (3, .int (iI (pl + 1))), (0, .ref z), (1, .int (iI h)), (2, .int (iI ky))]) hc dX9_takeRead_91 hl (k0 := 1) rfl (by decide) rfl (fun ls hl => ?_)
                refine lv_goto hc.1 hc.2.1 dX9_takeRead_94 (tgt := 46) (by decide) ?_
                exact ih46 (pl + 1) (q + 1) _ _ _ (by omega) (by rw [sumI_s (by omega), hpl]; first | (rw [if_pos (by omega)]) | (rw [if_neg (by omega)])) hw (by omega) (lv_sub hl [1, 0, 2, 3, 4] rfl)
        exact lab46 _ 0 0 _ _ _ (by omega) (rfl) hw (Nat.lt_succ_self _) (lv_sub hl [1, 0, 4, 3, 2] rfl)
  have e55 : S1 (z + 4) = oI g 24 hps := (fS1 (z + 4) (off_nr (x := z) (a := 4) (by decide))).trans hhp
  exact lab10 _ 0 hps S1 _ _ _ (by omega) (fun g c hg9 _ => absurd hg9 (by omega)) e55 (fun bb _ => rfl) hw (Nat.lt_succ_self _) (lv_sub hl [0, 1] rfl)

