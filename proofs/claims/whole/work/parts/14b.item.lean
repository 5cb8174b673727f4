set_option maxHeartbeats 4000000 in
set_option maxRecDepth 100000 in
theorem c_X7_readItem_yes (l : Launch) (g : gG) {n : Nat} {S : Nat → gE} {t : Nat} {tz ta : Int} {tx nb : Nat → Int} {pl : Nat} {nH pHi pWi pLp pBk pHp : Int} {ln br sl : Nat → Int} {P1 : pT} {en : Nat} {ns : List Int} (ht : S t = oO 7 [.ref (t + 1), .ref (t + 2), .int (iI tz), .int (iI ta)]) (htx : S (t + 1) = oC g 200 tx) (hnb : S (t + 2) = oI g 3 nb) (hp : S pl = oO 5 [.ref (pl + 1), .ref (pl + 2), .ref (pl + 3), .int (iI nH), .int (iI pHi), .int (iI pWi), .int (iI pLp), .int (iI pBk), .int (iI pHp)]) (hln : S (pl + 1) = oI g 8 ln) (hbr : S (pl + 2) = oI g 8 br) (hsl : S (pl + 3) = oI g 8 sl) (rtz : 0 ≤ tz ∧ tz ≤ 200) (rta : 0 ≤ ta ∧ ta < tz) (rtx : ∀ i : Nat, (i : Int) < tz → 32 ≤ tx i ∧ tx i ≤ 126) (rH : 0 ≤ nH ∧ nH ≤ 8) (rl : ∀ i : Nat, (i : Int) < nH → (-1000000 ≤ ln i ∧ ln i ≤ 1000000) ∧ (-1000000 ≤ br i ∧ br i ≤ 1000000)) (rs : ∀ i : Nat, (i : Int) < nH → -1000000 ≤ sl i ∧ sl i ≤ 1000000) (hd : t + 3 ≤ pl ∨ pl + 4 ≤ t) (rnb : ∀ i : Nat, i < 3 → -1000 ≤ nb i ∧ nb i ≤ 1000) (hnm0 : nmA tx tz.toNat (nOf (tx ta.toNat)) (ta.toNat + 1) = some (ns, en)) (htk0 : takeC (tx ta.toNat) (ns.getD 0 0) (ns.getD 1 0) (ns.getD 2 0) (nH, ln, br, sl, pHi, pWi, pLp, pBk, pHp) = some P1) : g_Cs l yX7_readItem wsX7_readItem { frames := 3, cells := 0, slots := 0, locals := 73 } g [.ref t, .ref pl] n S (fun vr n1 S1 => vr = some (.int (iI 1)) ∧ n = n1 ∧ S1 t = oO 7 [.ref (t + 1), .ref (t + 2), .int (iI tz), .int (iI (en : Int))] ∧ S1 pl = oO 5 [.ref (pl + 1), .ref (pl + 2), .ref (pl + 3), .int (iI P1.1), .int (iI P1.2.2.2.2.1), .int (iI P1.2.2.2.2.2.1), .int (iI P1.2.2.2.2.2.2.1), .int (iI P1.2.2.2.2.2.2.2.1), .int (iI P1.2.2.2.2.2.2.2.2)] ∧ S1 (pl + 1) = oI g 8 P1.2.1 ∧ S1 (pl + 2) = oI g 8 P1.2.2.1 ∧ S1 (pl + 3) = oI g 8 P1.2.2.2.1 ∧ (∃ f : Nat → Int, S1 (t + 2) = oI g 3 f ∧ ∀ i : Nat, i < 3 → -1000 ≤ f i ∧ f i ≤ 1000) ∧ (∀ bb, bb ≠ t → bb ≠ pl → bb ≠ (pl + 1) → bb ≠ (pl + 2) → bb ≠ (pl + 3) → bb ≠ (t + 2) → S1 bb = S bb)) 0 0 := by
  refine g_Cs.of (cc := cX7_readItem) (maxL := 6) (ret := (some .boolean)) (by decide) rfl (Nat.le_of_ble_eq_true rfl) ?_
  intro pp ee s m below meth cK Q H locs ls hc hnm hw hl hret
  have hl : lv_has ls 6 [(0, .ref t), (1, .ref pl)] := hl
  have hiX7 : ∀ w ∈ u_ws RX7 TX7 4, w ∈ wsX7_readItem := by decide +kernel
  have lk28 : Cond.fieldLink RX7 28 "RoofCourses$Text" "at" "I" ∈ wsX7_readItem := by decide +kernel
  have lk15 : Cond.fieldLink RX7 15 "RoofCourses$Text" "numbers" "[I" ∈ wsX7_readItem := by decide +kernel
  refine lv_aload_n hc.1 hc.2.1 dX7_readItem_0 rfl (lv_at hl 0 rfl) ?_
  refine nn_Vp (As := []) (st := []) hc hw ht rfl (c_X7_letterHere l g  ht htx (by omega) (by omega) (rtx)) (cwV 0 hc.2.2.2.2 gX7_readItem_X7_letterHere rfl rfl rfl (by decide +kernel) ⟨Nat.le_of_ble_eq_true rfl, Nat.le_of_ble_eq_true rfl⟩) rfl hl.1 rfl (Nat.le_of_ble_eq_true rfl) ⟨Nat.le_of_ble_eq_true rfl, Nat.le_of_ble_eq_true rfl⟩ dX7_readItem_1 ?_
  refine W.eq (g2 := F0 m 4 ls [.int (iI (if ta < tz then tx ta.toNat else 32))]) rfl ?_
  refine nn_name (fun kd ekd => ?_)
  refine lv_istore_n (lv' := [(2, .int (iI kd)), (0, .ref t), (1, .ref pl)]) hc.1 hc.2.1 dX7_readItem_4 rfl hl (by decide) rfl (fun ls hl => ?_)
  have hkd : kd = tx ta.toNat := by rw [ekd, if_pos (by omega)]
  have hkr := rtx ta.toNat (by omega)
  refine lv_aload_n hc.1 hc.2.1 dX7_readItem_5 rfl (lv_at hl 1 rfl) ?_
  refine lv_dup hc.1 hc.2.1 dX7_readItem_6 rfl ?_
  refine nn_get hc hw ht hiX7 rfl 3 (by decide) rfl lk28 dX7_readItem_7 ?_
  refine nn_iconst hc dX7_readItem_10 ?_
  refine nn_iadd hc dX7_readItem_11 ?_
  refine nn_put hc hw ht hiX7 tyX7 tyX7_ok nmX7 rfl 3 (by decide) (Nat.le_of_ble_eq_true rfl) lk28 rfl rfl rfl dX7_readItem_12 (fun S1 H locs hS1 fS1 hw => ?_)
  have hS1 : S1 t = oO 7 [.ref (t + 1), .ref (t + 2), .int (iI tz), .int (iI (ta + 1))] := hS1
  refine lv_iload_n hc.1 hc.2.1 dX7_readItem_15 rfl (lv_at hl 0 rfl) ?_
  refine nn_Sp (As := [.int (iI kd)]) (st := []) hc hw (c_X7_numbersOf l g   (by omega)) (va_cwS 1 hc.2.2.2.2 gX7_readItem_X7_numbersOf rfl rfl rfl (by decide +kernel) ⟨Nat.le_of_ble_eq_true rfl, Nat.le_of_ble_eq_true rfl⟩) rfl hl.1 rfl (Nat.le_of_ble_eq_true rfl) ⟨Nat.le_of_ble_eq_true rfl, Nat.le_of_ble_eq_true rfl⟩ dX7_readItem_16 ?_
  refine W.eq (g2 := F0 m 19 ls [.int (iI (nOf kd : Int))]) rfl ?_
  refine nn_name (fun wn ewn => ?_)
  refine lv_istore_n (lv' := [(3, .int (iI wn)), (2, .int (iI kd)), (0, .ref t), (1, .ref pl)]) hc.1 hc.2.1 dX7_readItem_19 rfl hl (by decide) rfl (fun ls hl => ?_)
  have hwn : wn = nOf (tx ta.toNat) := by rw [ewn, hkd]
  have hw3 := nOf_le (tx ta.toNat)
  refine nn_iconst hc dX7_readItem_20 ?_
  refine lv_istore (lv' := [(4, .int (iI 0)), (3, .int (iI wn)), (2, .int (iI kd)), (0, .ref t), (1, .ref pl)]) hc.1 hc.2.1 dX7_readItem_21 hl (by decide) rfl (fun ls hl => ?_)
  have lab23 : ∀ (fu23 : Nat) (k : Int) (a1 : Int) (nb1 : Nat → Int) (acc : List Int) (rl1 : List Int) (S2 : Nat → gE) (H : Heap) (locs : List Loc) (ls : Array Slot), ((k = acc.length ∧ k ≤ nOf (tx ta.toNat)) ∧ (ta + 1 + k ≤ a1 ∧ a1 ≤ 1000)) → (∀ i : Nat, i < acc.length → nb1 i = acc.getD i 0) → (∀ x ∈ acc, 0 ≤ x ∧ x ≤ 1000) → (nmA tx tz.toNat (nOf (tx ta.toNat) - acc.length) a1.toNat = some (rl1, en)) → (ns = acc ++ rl1) → (∀ i : Nat, i < 3 → -1000 ≤ nb1 i ∧ nb1 i ≤ 1000) → S2 t = oO 7 [.ref (t + 1), .ref (t + 2), .int (iI tz), .int (iI a1)] → S2 (t + 2) = oI g 3 nb1 → (∀ bb, bb ≠ t → bb ≠ (t + 2) → S2 bb = S1 bb) → g_W g n S2 s H locs → (3 - k).toNat < fu23 → lv_has ls 6 [(4, .int (iI k)), (0, .ref t), (1, .ref pl), (2, .int (iI kd)), (3, .int (iI wn))] → W pp l ee ({ frames := 3, cells := 0, slots := 0, locals := 73 } : Room) s m ([.ref t, .ref pl] : List Value).toArray below meth cK H locs 0 0 Q (F0 m 23 ls []) := by
    intro fu23
    induction fu23 with
    | zero =>
      intro k a1 nb1 acc rl1 S2 H locs ls hk hnb1 hac hnm hns hnr hc23_0 hc23_1 fr23 hw hmeas hl
      exact absurd hmeas (Nat.not_lt_zero _)
    | succ fu23 ih23 =>
      intro k a1 nb1 acc rl1 S2 H locs ls hk hnb1 hac hnm hns hnr hc23_0 hc23_1 fr23 hw hmeas hl
      refine lv_iload hc.1 hc.2.1 dX7_readItem_23 (lv_at hl 0 rfl) ?_
      refine lv_iload_n hc.1 hc.2.1 dX7_readItem_25 rfl (lv_at hl 4 rfl) ?_
      refine nn_icmp_ge hc dX7_readItem_26 (tgt := 94) (by decide) (by omega) (by omega) (fun c3 => ?_) (fun c3 => ?_)
      · have hacl : acc.length = nOf (tx ta.toNat) := by omega
        have hz9 : nmA tx tz.toNat 0 a1.toNat = some (rl1, en) := by rw [← hnm, hacl, Nat.sub_self]
        obtain ⟨hrl, hen⟩ : [] = rl1 ∧ a1.toNat = en := by have := Option.some.inj hz9; exact ⟨congrArg Prod.fst this, congrArg Prod.snd this⟩
        have hns2 : ns = acc := by rw [hns, ← hrl, List.append_nil]
        have htk2 : takeC kd (nb1 0) (nb1 1) (nb1 2) (nH, ln, br, sl, pHi, pWi, pLp, pBk, pHp) = some P1 := by rw [hkd, ← htk0, hns2]; exact takeC_irr (fun h => hnb1 0 (by omega)) (fun h => hnb1 1 (by omega)) (fun h => hnb1 2 (by omega))
        have hn0 := hnr 0 (by decide)
        have hn1 := hnr 1 (by decide)
        have hn2 := hnr 2 (by decide)
        refine lv_aload_n hc.1 hc.2.1 dX7_readItem_94 rfl (lv_at hl 2 rfl) ?_
        refine lv_iload_n hc.1 hc.2.1 dX7_readItem_95 rfl (lv_at hl 3 rfl) ?_
        refine lv_aload_n hc.1 hc.2.1 dX7_readItem_96 rfl (lv_at hl 1 rfl) ?_
        refine nn_get hc hw hc23_0 hiX7 rfl 1 (by decide) rfl lk15 dX7_readItem_97 ?_
        refine nn_iconst hc dX7_readItem_100 ?_
        refine nn_iald hc hw hc23_1 (by omega) (by omega) dX7_readItem_101 ?_
        refine W.eq (g2 := F0 m 102 ls [.int (iI (nb1 0)), .int (iI kd), .ref pl]) rfl ?_
        refine lv_aload_n hc.1 hc.2.1 dX7_readItem_102 rfl (lv_at hl 1 rfl) ?_
        refine nn_get hc hw hc23_0 hiX7 rfl 1 (by decide) rfl lk15 dX7_readItem_103 ?_
        refine nn_iconst hc dX7_readItem_106 ?_
        refine nn_iald hc hw hc23_1 (by omega) (by omega) dX7_readItem_107 ?_
        refine W.eq (g2 := F0 m 108 ls [.int (iI (nb1 1)), .int (iI (nb1 0)), .int (iI kd), .ref pl]) rfl ?_
        refine lv_aload_n hc.1 hc.2.1 dX7_readItem_108 rfl (lv_at hl 1 rfl) ?_
        refine nn_get hc hw hc23_0 hiX7 rfl 1 (by decide) rfl lk15 dX7_readItem_109 ?_
        refine nn_iconst hc dX7_readItem_112 ?_
        refine nn_iald hc hw hc23_1 (by omega) (by omega) dX7_readItem_113 ?_
        refine W.eq (g2 := F0 m 114 ls [.int (iI (nb1 2)), .int (iI (nb1 1)), .int (iI (nb1 0)), .int (iI kd), .ref pl]) rfl ?_
        have e4 : S1 pl = oO 5 [.ref (pl + 1), .ref (pl + 2), .ref (pl + 3), .int (iI nH), .int (iI pHi), .int (iI pWi), .int (iI pLp), .int (iI pBk), .int (iI pHp)] := (fS1 pl (by omega)).trans hp
        have e5 : S2 pl = oO 5 [.ref (pl + 1), .ref (pl + 2), .ref (pl + 3), .int (iI nH), .int (iI pHi), .int (iI pWi), .int (iI pLp), .int (iI pBk), .int (iI pHp)] := (fr23 pl (by omega) (by omega)).trans e4
        have e6 : S1 (pl + 1) = oI g 8 ln := (fS1 (pl + 1) (by omega)).trans hln
        have e7 : S2 (pl + 1) = oI g 8 ln := (fr23 (pl + 1) (by omega) (by omega)).trans e6
        have e8 : S1 (pl + 2) = oI g 8 br := (fS1 (pl + 2) (by omega)).trans hbr
        have e9 : S2 (pl + 2) = oI g 8 br := (fr23 (pl + 2) (by omega) (by omega)).trans e8
        have e10 : S1 (pl + 3) = oI g 8 sl := (fS1 (pl + 3) (by omega)).trans hsl
        have e11 : S2 (pl + 3) = oI g 8 sl := (fr23 (pl + 3) (by omega) (by omega)).trans e10
        refine nn_Vs (As := [.int (iI kd), .int (iI (nb1 0)), .int (iI (nb1 1)), .int (iI (nb1 2))]) (st := []) hc hw e5 rfl (c_X5_take_yes l g  e5 e7 e9 e11 (by omega) (rl) (rs) (by omega) (by omega) (by omega) (by omega) (htk2)) (cwV 4 hc.2.2.2.2 gX7_readItem_X5_take rfl rfl rfl (by decide +kernel) ⟨Nat.le_of_ble_eq_true rfl, Nat.le_of_ble_eq_true rfl⟩) rfl hl.1 rfl (Nat.le_of_ble_eq_true rfl) ⟨Nat.le_of_ble_eq_true rfl, Nat.le_of_ble_eq_true rfl⟩ dX7_readItem_114 (fun vr n1 S12 H locs qS12 hw => ?_)
        obtain ⟨rfl, rfl, hS12_0, hS12_1, hS12_2, hS12_3, fS12⟩ := qS12
        refine W.eq (g2 := F0 m 117 ls [.int (iI 1)]) rfl ?_
        have e13 : S12 t = oO 7 [.ref (t + 1), .ref (t + 2), .int (iI tz), .int (iI a1)] := (fS12 t (by omega) (by omega) (by omega) (by omega)).trans hc23_0
        have e14 : S12 (t + 2) = oI g 3 nb1 := (fS12 (t + 2) (by omega) (by omega) (by omega) (by omega)).trans hc23_1
        exact hret (some (.int (iI 1))) _ S12 _ _ _ _ hw (⟨rfl, rfl, (by rw [show (en : Int) = a1 by omega]; exact e13), hS12_0, hS12_1, hS12_2, hS12_3, ⟨_, e14, hnr⟩, fun bb hb0 hb1 hb2 hb3 hb4 hb5 => (((fS12 bb hb1 hb2 hb3 hb4)).trans (fr23 bb hb0 hb5)).trans (fS1 bb hb0)⟩) ⟨_, rfl, by first | rfl | exact nn_nb _, dX7_readItem_117⟩
      · have hge := rdV_ge tx tz.toNat 3 a1.toNat 0
        have hrg := rdV_rng tx tz.toNat 3 a1.toNat 0 (Int.le_refl 0)
        obtain ⟨w9, hw9⟩ : ∃ w9 : Nat, nOf (tx ta.toNat) - acc.length = w9 + 1 := ⟨nOf (tx ta.toNat) - acc.length - 1, by omega⟩
        have hw0 : nOf (tx ta.toNat) - acc.length - 1 = w9 := by omega
        obtain ⟨⟨hz1, hz2, hz3⟩, rr, hr1, hnn0⟩ := nmA_some (by rw [← hw9]; exact hnm)
        have hnn : nmA tx tz.toNat (nOf (tx ta.toNat) - acc.length - 1) ((rdV tx tz.toNat 3 a1.toNat 0).2 + 1) = some (rr, en) := by rw [hw0]; exact hnn0
        refine lv_aload_n hc.1 hc.2.1 dX7_readItem_29 rfl (lv_at hl 1 rfl) ?_
        refine nn_get hc hw hc23_0 hiX7 rfl 1 (by decide) rfl lk15 dX7_readItem_30 ?_
        refine lv_iload hc.1 hc.2.1 dX7_readItem_33 (lv_at hl 0 rfl) ?_
        refine lv_aload_n hc.1 hc.2.1 dX7_readItem_35 rfl (lv_at hl 1 rfl) ?_
        have e15 : S1 (t + 1) = oC g 200 tx := (fS1 (t + 1) (off_nr (x := t) (a := 1) (by decide))).trans htx
        have e16 : S2 (t + 1) = oC g 200 tx := (fr23 (t + 1) (off_nr (x := t) (a := 1) (by decide)) (off_ne (x := t) (a := 1) (b := 2) (by decide))).trans e15
        refine nn_Vs (As := []) (st := [.int (iI k), .ref (t + 2)]) hc hw hc23_0 rfl (c_X7_readNumber l g  hc23_0 e16 (by omega) (by omega) (rtx)) (cwV 0 hc.2.2.2.2 gX7_readItem_X7_readNumber rfl rfl rfl (by decide +kernel) ⟨Nat.le_of_ble_eq_true rfl, Nat.le_of_ble_eq_true rfl⟩) rfl hl.1 rfl (Nat.le_of_ble_eq_true rfl) ⟨Nat.le_of_ble_eq_true rfl, Nat.le_of_ble_eq_true rfl⟩ dX7_readItem_36 (fun vr n1 S17 H locs qS17 hw => ?_)
        obtain ⟨rfl, rfl, hS17_0, fS17⟩ := qS17
        refine W.eq (g2 := F0 m 39 ls [.int (iI (if (rdV tx tz.toNat 3 a1.toNat 0).2 = a1.toNat then -4 else (rdV tx tz.toNat 3 a1.toNat 0).1)), .int (iI k), .ref (t + 2)]) rfl ?_
        have e18 : S17 (t + 2) = oI g 3 nb1 := (fS17 (t + 2) (off_nr (x := t) (a := 2) (by decide))).trans hc23_1
        refine nn_iast hc hw e18 (by omega) (by omega) dX7_readItem_39 (fun S19 H locs hS19 fS19 hw => ?_)
        refine lv_iload hc.1 hc.2.1 dX7_readItem_40 (lv_at hl 0 rfl) ?_
        refine lv_iload_n hc.1 hc.2.1 dX7_readItem_42 rfl (lv_at hl 4 rfl) ?_
        refine nn_iconst hc dX7_readItem_43 ?_
        refine nn_isub hc dX7_readItem_44 ?_
        refine nn_icmp_ge hc dX7_readItem_45 (tgt := 53) (by decide) (by omega) (by omega) (fun c20 => ?_) (fun c20 => ?_)
        · refine nn_bipush hc dX7_readItem_53 (by decide +kernel) ?_
          refine lv_istore (lv' := [(5, .int (iI 59)), (4, .int (iI k)), (0, .ref t), (1, .ref pl), (2, .int (iI kd)), (3, .int (iI wn))]) hc.1 hc.2.1 dX7_readItem_55 hl (by decide) rfl (fun ls hl => ?_)
          refine lv_aload_n hc.1 hc.2.1 dX7_readItem_57 rfl (lv_at hl 2 rfl) ?_
          have e21 : S19 t = oO 7 [.ref (t + 1), .ref (t + 2), .int (iI tz), .int (iI ((rdV tx tz.toNat 3 a1.toNat 0).2 : Int))] := (fS19 t (off_nl (x := t) (a := 2) (by decide))).trans hS17_0
          refine nn_get hc hw e21 hiX7 rfl 1 (by decide) rfl lk15 dX7_readItem_58 ?_
          refine lv_iload hc.1 hc.2.1 dX7_readItem_61 (lv_at hl 1 rfl) ?_
          refine nn_iald hc hw hS19 (by omega) (by omega) dX7_readItem_63 ?_
          have hvv : va_up nb1 k.toNat (if (rdV tx tz.toNat 3 a1.toNat 0).2 = a1.toNat then -4 else (rdV tx tz.toNat 3 a1.toNat 0).1) k.toNat = (if (rdV tx tz.toNat 3 a1.toNat 0).2 = a1.toNat then -4 else (rdV tx tz.toNat 3 a1.toNat 0).1) := va_up_self _ _ _
          have hr1000 := hrg.2 (by decide) (by decide)
          refine nn_if_lt hc dX7_readItem_64 (tgt := 76) (by decide) (by rw [hvv]; split <;> omega) (fun c22 => ?_) (fun c22 => ?_)
          · exfalso; rw [hvv, if_neg hz1] at c22; omega
          · have hlh : 32 ≤ (if ((rdV tx tz.toNat 3 a1.toNat 0).2 : Int) < tz then tx ((rdV tx tz.toNat 3 a1.toNat 0).2 : Int).toNat else 32) ∧ (if ((rdV tx tz.toNat 3 a1.toNat 0).2 : Int) < tz then tx ((rdV tx tz.toNat 3 a1.toNat 0).2 : Int).toNat else 32) ≤ 126 := by split; rename_i h9; have := rtx ((rdV tx tz.toNat 3 a1.toNat 0).2 : Int).toNat (by omega); omega; omega
            have htn : ((rdV tx tz.toNat 3 a1.toNat 0).2 : Int).toNat = (rdV tx tz.toNat 3 a1.toNat 0).2 := Int.toNat_natCast _
            have hbrz : (if w9 = 0 then (59 : Int) else 44) = 59 ∧ w9 = 0 ∨ (if w9 = 0 then (59 : Int) else 44) = 44 ∧ w9 ≠ 0 := by split <;> omega
            have hlt2 : tx ((rdV tx tz.toNat 3 a1.toNat 0).2 : Int).toNat = tx (rdV tx tz.toNat 3 a1.toNat 0).2 := by rw [htn]
            refine lv_aload_n hc.1 hc.2.1 dX7_readItem_67 rfl (lv_at hl 2 rfl) ?_
            have e23 : S17 (t + 1) = oC g 200 tx := (fS17 (t + 1) (off_nr (x := t) (a := 1) (by decide))).trans e16
            have e24 : S19 (t + 1) = oC g 200 tx := (fS19 (t + 1) (off_ne (x := t) (a := 1) (b := 2) (by decide))).trans e23
            refine nn_Vp (As := []) (st := []) hc hw e21 rfl (c_X7_letterHere l g  e21 e24 (by omega) (by omega) (rtx)) (cwV 0 hc.2.2.2.2 gX7_readItem_X7_letterHere rfl rfl rfl (by decide +kernel) ⟨Nat.le_of_ble_eq_true rfl, Nat.le_of_ble_eq_true rfl⟩) rfl hl.1 rfl (Nat.le_of_ble_eq_true rfl) ⟨Nat.le_of_ble_eq_true rfl, Nat.le_of_ble_eq_true rfl⟩ dX7_readItem_68 ?_
            refine W.eq (g2 := F0 m 71 ls [.int (iI (if ((rdV tx tz.toNat 3 a1.toNat 0).2 : Int) < tz then tx ((rdV tx tz.toNat 3 a1.toNat 0).2 : Int).toNat else 32))]) rfl ?_
            refine lv_iload hc.1 hc.2.1 dX7_readItem_71 (lv_at hl 0 rfl) ?_
            refine nn_icmp_eq hc dX7_readItem_73 (tgt := 78) (by decide) (by omega) (by decide) (fun c25 => ?_) (fun c25 => ?_)
            · refine lv_aload_n hc.1 hc.2.1 dX7_readItem_78 rfl (lv_at hl 2 rfl) ?_
              refine lv_dup hc.1 hc.2.1 dX7_readItem_79 rfl ?_
              refine nn_get hc hw e21 hiX7 rfl 3 (by decide) rfl lk28 dX7_readItem_80 ?_
              refine nn_iconst hc dX7_readItem_83 ?_
              refine nn_iadd hc dX7_readItem_84 ?_
              refine nn_put hc hw e21 hiX7 tyX7 tyX7_ok nmX7 rfl 3 (by decide) (Nat.le_of_ble_eq_true rfl) lk28 rfl rfl rfl dX7_readItem_85 (fun S26 H locs hS26 fS26 hw => ?_)
              have hS26 : S26 t = oO 7 [.ref (t + 1), .ref (t + 2), .int (iI tz), .int (iI (((rdV tx tz.toNat 3 a1.toNat 0).2 : Int) + 1))] := hS26
              refine nn_iinc (lv' := [(4, .int (iI (k + 1))), (5, .int (iI 59)), (0, .ref t), (1, .ref pl), (2, .int (iI kd)), (3, .int (iI wn))]) hc dX7_readItem_88 hl (k0 := 1) rfl (by decide) rfl (fun ls hl => ?_)
              refine lv_goto hc.1 hc.2.1 dX7_readItem_91 (tgt := 23) (by decide) ?_
              have e27 : S26 (t + 2) = oI g 3 (va_up nb1 k.toNat (if (rdV tx tz.toNat 3 a1.toNat 0).2 = a1.toNat then -4 else (rdV tx tz.toNat 3 a1.toNat 0).1)) := (fS26 (t + 2) (off_nr (x := t) (a := 2) (by decide))).trans hS19
              exact ih23 (k + 1) (((rdV tx tz.toNat 3 a1.toNat 0).2 : Int) + 1) (va_up nb1 k.toNat (if (rdV tx tz.toNat 3 a1.toNat 0).2 = a1.toNat then -4 else (rdV tx tz.toNat 3 a1.toNat 0).1)) (acc ++ [(rdV tx tz.toNat 3 a1.toNat 0).1]) rr S26 _ _ _ (by rw [List.length_append]; simp only [List.length_cons, List.length_nil]; omega) (by rw [if_neg hz1]; exact up_nums (by omega) hnb1) (fun x hx => by rcases List.mem_append.mp hx with q | q; exact hac x q; rw [List.mem_singleton.mp q]; exact ⟨hrg.1, hrg.2 (by decide) (by decide)⟩) (by rw [List.length_append, show (((rdV tx tz.toNat 3 a1.toNat 0).2 : Int) + 1).toNat = (rdV tx tz.toNat 3 a1.toNat 0).2 + 1 by omega, show nOf (tx ta.toNat) - (acc.length + [(rdV tx tz.toNat 3 a1.toNat 0).1].length) = nOf (tx ta.toNat) - acc.length - 1 by simp only [List.length_cons, List.length_nil]; omega]; exact hnn) (by rw [hns, hr1, List.append_assoc]; rfl) (fun i hi => by have h9 := hnr i hi; unfold va_up; (repeat' split) <;> omega) hS26 e27 (fun bb hb0 hb1 => ((((fS26 bb hb0)).trans (fS19 bb hb1)).trans (fS17 bb hb0)).trans (fr23 bb hb0 hb1)) hw (by omega) (lv_sub hl [0, 2, 3, 4, 5] rfl)
            · exfalso; omega
        · refine nn_bipush hc dX7_readItem_48 (by decide +kernel) ?_
          refine lv_goto hc.1 hc.2.1 dX7_readItem_50 (tgt := 55) (by decide) ?_
          refine lv_istore (lv' := [(5, .int (iI 44)), (4, .int (iI k)), (0, .ref t), (1, .ref pl), (2, .int (iI kd)), (3, .int (iI wn))]) hc.1 hc.2.1 dX7_readItem_55 hl (by decide) rfl (fun ls hl => ?_)
          refine lv_aload_n hc.1 hc.2.1 dX7_readItem_57 rfl (lv_at hl 2 rfl) ?_
          have e28 : S19 t = oO 7 [.ref (t + 1), .ref (t + 2), .int (iI tz), .int (iI ((rdV tx tz.toNat 3 a1.toNat 0).2 : Int))] := (fS19 t (off_nl (x := t) (a := 2) (by decide))).trans hS17_0
          refine nn_get hc hw e28 hiX7 rfl 1 (by decide) rfl lk15 dX7_readItem_58 ?_
          refine lv_iload hc.1 hc.2.1 dX7_readItem_61 (lv_at hl 1 rfl) ?_
          refine nn_iald hc hw hS19 (by omega) (by omega) dX7_readItem_63 ?_
          have hvv : va_up nb1 k.toNat (if (rdV tx tz.toNat 3 a1.toNat 0).2 = a1.toNat then -4 else (rdV tx tz.toNat 3 a1.toNat 0).1) k.toNat = (if (rdV tx tz.toNat 3 a1.toNat 0).2 = a1.toNat then -4 else (rdV tx tz.toNat 3 a1.toNat 0).1) := va_up_self _ _ _
          have hr1000 := hrg.2 (by decide) (by decide)
          refine nn_if_lt hc dX7_readItem_64 (tgt := 76) (by decide) (by rw [hvv]; split <;> omega) (fun c29 => ?_) (fun c29 => ?_)
          · exfalso; rw [hvv, if_neg hz1] at c29; omega
          · have hlh : 32 ≤ (if ((rdV tx tz.toNat 3 a1.toNat 0).2 : Int) < tz then tx ((rdV tx tz.toNat 3 a1.toNat 0).2 : Int).toNat else 32) ∧ (if ((rdV tx tz.toNat 3 a1.toNat 0).2 : Int) < tz then tx ((rdV tx tz.toNat 3 a1.toNat 0).2 : Int).toNat else 32) ≤ 126 := by split; rename_i h9; have := rtx ((rdV tx tz.toNat 3 a1.toNat 0).2 : Int).toNat (by omega); omega; omega
            have htn : ((rdV tx tz.toNat 3 a1.toNat 0).2 : Int).toNat = (rdV tx tz.toNat 3 a1.toNat 0).2 := Int.toNat_natCast _
            have hbrz : (if w9 = 0 then (59 : Int) else 44) = 59 ∧ w9 = 0 ∨ (if w9 = 0 then (59 : Int) else 44) = 44 ∧ w9 ≠ 0 := by split <;> omega
            have hlt2 : tx ((rdV tx tz.toNat 3 a1.toNat 0).2 : Int).toNat = tx (rdV tx tz.toNat 3 a1.toNat 0).2 := by rw [htn]
            refine lv_aload_n hc.1 hc.2.1 dX7_readItem_67 rfl (lv_at hl 2 rfl) ?_
            have e30 : S17 (t + 1) = oC g 200 tx := (fS17 (t + 1) (off_nr (x := t) (a := 1) (by decide))).trans e16
            have e31 : S19 (t + 1) = oC g 200 tx := (fS19 (t + 1) (off_ne (x := t) (a := 1) (b := 2) (by decide))).trans e30
            refine nn_Vp (As := []) (st := []) hc hw e28 rfl (c_X7_letterHere l g  e28 e31 (by omega) (by omega) (rtx)) (cwV 0 hc.2.2.2.2 gX7_readItem_X7_letterHere rfl rfl rfl (by decide +kernel) ⟨Nat.le_of_ble_eq_true rfl, Nat.le_of_ble_eq_true rfl⟩) rfl hl.1 rfl (Nat.le_of_ble_eq_true rfl) ⟨Nat.le_of_ble_eq_true rfl, Nat.le_of_ble_eq_true rfl⟩ dX7_readItem_68 ?_
            refine W.eq (g2 := F0 m 71 ls [.int (iI (if ((rdV tx tz.toNat 3 a1.toNat 0).2 : Int) < tz then tx ((rdV tx tz.toNat 3 a1.toNat 0).2 : Int).toNat else 32))]) rfl ?_
            refine lv_iload hc.1 hc.2.1 dX7_readItem_71 (lv_at hl 0 rfl) ?_
            refine nn_icmp_eq hc dX7_readItem_73 (tgt := 78) (by decide) (by omega) (by decide) (fun c32 => ?_) (fun c32 => ?_)
            · refine lv_aload_n hc.1 hc.2.1 dX7_readItem_78 rfl (lv_at hl 2 rfl) ?_
              refine lv_dup hc.1 hc.2.1 dX7_readItem_79 rfl ?_
              refine nn_get hc hw e28 hiX7 rfl 3 (by decide) rfl lk28 dX7_readItem_80 ?_
              refine nn_iconst hc dX7_readItem_83 ?_
              refine nn_iadd hc dX7_readItem_84 ?_
              refine nn_put hc hw e28 hiX7 tyX7 tyX7_ok nmX7 rfl 3 (by decide) (Nat.le_of_ble_eq_true rfl) lk28 rfl rfl rfl dX7_readItem_85 (fun S33 H locs hS33 fS33 hw => ?_)
              have hS33 : S33 t = oO 7 [.ref (t + 1), .ref (t + 2), .int (iI tz), .int (iI (((rdV tx tz.toNat 3 a1.toNat 0).2 : Int) + 1))] := hS33
              refine nn_iinc (lv' := [(4, .int (iI (k + 1))), (5, .int (iI 44)), (0, .ref t), (1, .ref pl), (2, .int (iI kd)), (3, .int (iI wn))]) hc dX7_readItem_88 hl (k0 := 1) rfl (by decide) rfl (fun ls hl => ?_)
              refine lv_goto hc.1 hc.2.1 dX7_readItem_91 (tgt := 23) (by decide) ?_
              have e34 : S33 (t + 2) = oI g 3 (va_up nb1 k.toNat (if (rdV tx tz.toNat 3 a1.toNat 0).2 = a1.toNat then -4 else (rdV tx tz.toNat 3 a1.toNat 0).1)) := (fS33 (t + 2) (off_nr (x := t) (a := 2) (by decide))).trans hS19
              exact ih23 (k + 1) (((rdV tx tz.toNat 3 a1.toNat 0).2 : Int) + 1) (va_up nb1 k.toNat (if (rdV tx tz.toNat 3 a1.toNat 0).2 = a1.toNat then -4 else (rdV tx tz.toNat 3 a1.toNat 0).1)) (acc ++ [(rdV tx tz.toNat 3 a1.toNat 0).1]) rr S33 _ _ _ (by rw [List.length_append]; simp only [List.length_cons, List.length_nil]; omega) (by rw [if_neg hz1]; exact up_nums (by omega) hnb1) (fun x hx => by rcases List.mem_append.mp hx with q | q; exact hac x q; rw [List.mem_singleton.mp q]; exact ⟨hrg.1, hrg.2 (by decide) (by decide)⟩) (by rw [List.length_append, show (((rdV tx tz.toNat 3 a1.toNat 0).2 : Int) + 1).toNat = (rdV tx tz.toNat 3 a1.toNat 0).2 + 1 by omega, show nOf (tx ta.toNat) - (acc.length + [(rdV tx tz.toNat 3 a1.toNat 0).1].length) = nOf (tx ta.toNat) - acc.length - 1 by simp only [List.length_cons, List.length_nil]; omega]; exact hnn) (by rw [hns, hr1, List.append_assoc]; rfl) (fun i hi => by have h9 := hnr i hi; unfold va_up; (repeat' split) <;> omega) hS33 e34 (fun bb hb0 hb1 => ((((fS33 bb hb0)).trans (fS19 bb hb1)).trans (fS17 bb hb0)).trans (fr23 bb hb0 hb1)) hw (by omega) (lv_sub hl [0, 2, 3, 4, 5] rfl)
            · exfalso; omega
  have e35 : S1 (t + 2) = oI g 3 nb := (fS1 (t + 2) (off_nr (x := t) (a := 2) (by decide))).trans hnb
  exact lab23 _ 0 (ta + 1) nb ([]) ns S1 _ _ _ (⟨⟨rfl, by omega⟩, by omega, by omega⟩) (fun i hi => absurd hi (Nat.not_lt_zero i)) (fun x hx => by cases hx) (by rw [show (ta + 1).toNat = ta.toNat + 1 by omega]; exact hnm0) (rfl) (rnb) hS1 e35 (fun bb _ _ => rfl) hw (Nat.lt_succ_self _) (lv_sub hl [0, 3, 4, 2, 1] rfl)

set_option maxHeartbeats 4000000 in
set_option maxRecDepth 100000 in
theorem c_X7_readItem_noT (l : Launch) (g : gG) {n : Nat} {S : Nat → gE} {t : Nat} {tz ta : Int} {tx nb : Nat → Int} {pl : Nat} {nH pHi pWi pLp pBk pHp : Int} {ln br sl : Nat → Int} {en : Nat} {ns : List Int} (ht : S t = oO 7 [.ref (t + 1), .ref (t + 2), .int (iI tz), .int (iI ta)]) (htx : S (t + 1) = oC g 200 tx) (hnb : S (t + 2) = oI g 3 nb) (hp : S pl = oO 5 [.ref (pl + 1), .ref (pl + 2), .ref (pl + 3), .int (iI nH), .int (iI pHi), .int (iI pWi), .int (iI pLp), .int (iI pBk), .int (iI pHp)]) (hln : S (pl + 1) = oI g 8 ln) (hbr : S (pl + 2) = oI g 8 br) (hsl : S (pl + 3) = oI g 8 sl) (rtz : 0 ≤ tz ∧ tz ≤ 200) (rta : 0 ≤ ta ∧ ta < tz) (rtx : ∀ i : Nat, (i : Int) < tz → 32 ≤ tx i ∧ tx i ≤ 126) (rH : 0 ≤ nH ∧ nH ≤ 8) (rl : ∀ i : Nat, (i : Int) < nH → (-1000000 ≤ ln i ∧ ln i ≤ 1000000) ∧ (-1000000 ≤ br i ∧ br i ≤ 1000000)) (rs : ∀ i : Nat, (i : Int) < nH → -1000000 ≤ sl i ∧ sl i ≤ 1000000) (hd : t + 3 ≤ pl ∨ pl + 4 ≤ t) (rnb : ∀ i : Nat, i < 3 → -1000 ≤ nb i ∧ nb i ≤ 1000) (hnm0 : nmA tx tz.toNat (nOf (tx ta.toNat)) (ta.toNat + 1) = some (ns, en)) (htk0 : takeC (tx ta.toNat) (ns.getD 0 0) (ns.getD 1 0) (ns.getD 2 0) (nH, ln, br, sl, pHi, pWi, pLp, pBk, pHp) = none) : g_Cs l yX7_readItem wsX7_readItem { frames := 3, cells := 0, slots := 0, locals := 73 } g [.ref t, .ref pl] n S (fun vr n1 S1 => vr = some (.int (iI 0)) ∧ n = n1 ∧ gbP g S1 pl ∧ (∃ z : Int, S1 t = oO 7 [.ref (t + 1), .ref (t + 2), .int (iI tz), .int (iI z)]) ∧ (∃ f : Nat → Int, S1 (t + 2) = oI g 3 f ∧ ∀ i : Nat, i < 3 → -1000 ≤ f i ∧ f i ≤ 1000) ∧ (∀ bb, bb ≠ t → bb ≠ (t + 2) → bb ≠ pl → bb ≠ (pl + 1) → bb ≠ (pl + 2) → bb ≠ (pl + 3) → S1 bb = S bb)) 0 0 := by
  refine g_Cs.of (cc := cX7_readItem) (maxL := 6) (ret := (some .boolean)) (by decide) rfl (Nat.le_of_ble_eq_true rfl) ?_
  intro pp ee s m below meth cK Q H locs ls hc hnm hw hl hret
  have hl : lv_has ls 6 [(0, .ref t), (1, .ref pl)] := hl
  have hiX7 : ∀ w ∈ u_ws RX7 TX7 4, w ∈ wsX7_readItem := by decide +kernel
  have lk28 : Cond.fieldLink RX7 28 "RoofCourses$Text" "at" "I" ∈ wsX7_readItem := by decide +kernel
  have lk15 : Cond.fieldLink RX7 15 "RoofCourses$Text" "numbers" "[I" ∈ wsX7_readItem := by decide +kernel
  refine lv_aload_n hc.1 hc.2.1 dX7_readItem_0 rfl (lv_at hl 0 rfl) ?_
  refine nn_Vp (As := []) (st := []) hc hw ht rfl (c_X7_letterHere l g  ht htx (by omega) (by omega) (rtx)) (cwV 0 hc.2.2.2.2 gX7_readItem_X7_letterHere rfl rfl rfl (by decide +kernel) ⟨Nat.le_of_ble_eq_true rfl, Nat.le_of_ble_eq_true rfl⟩) rfl hl.1 rfl (Nat.le_of_ble_eq_true rfl) ⟨Nat.le_of_ble_eq_true rfl, Nat.le_of_ble_eq_true rfl⟩ dX7_readItem_1 ?_
  refine W.eq (g2 := F0 m 4 ls [.int (iI (if ta < tz then tx ta.toNat else 32))]) rfl ?_
  refine nn_name (fun kd ekd => ?_)
  refine lv_istore_n (lv' := [(2, .int (iI kd)), (0, .ref t), (1, .ref pl)]) hc.1 hc.2.1 dX7_readItem_4 rfl hl (by decide) rfl (fun ls hl => ?_)
  have hkd : kd = tx ta.toNat := by rw [ekd, if_pos (by omega)]
  have hkr := rtx ta.toNat (by omega)
  refine lv_aload_n hc.1 hc.2.1 dX7_readItem_5 rfl (lv_at hl 1 rfl) ?_
  refine lv_dup hc.1 hc.2.1 dX7_readItem_6 rfl ?_
  refine nn_get hc hw ht hiX7 rfl 3 (by decide) rfl lk28 dX7_readItem_7 ?_
  refine nn_iconst hc dX7_readItem_10 ?_
  refine nn_iadd hc dX7_readItem_11 ?_
  refine nn_put hc hw ht hiX7 tyX7 tyX7_ok nmX7 rfl 3 (by decide) (Nat.le_of_ble_eq_true rfl) lk28 rfl rfl rfl dX7_readItem_12 (fun S1 H locs hS1 fS1 hw => ?_)
  have hS1 : S1 t = oO 7 [.ref (t + 1), .ref (t + 2), .int (iI tz), .int (iI (ta + 1))] := hS1
  refine lv_iload_n hc.1 hc.2.1 dX7_readItem_15 rfl (lv_at hl 0 rfl) ?_
  refine nn_Sp (As := [.int (iI kd)]) (st := []) hc hw (c_X7_numbersOf l g   (by omega)) (va_cwS 1 hc.2.2.2.2 gX7_readItem_X7_numbersOf rfl rfl rfl (by decide +kernel) ⟨Nat.le_of_ble_eq_true rfl, Nat.le_of_ble_eq_true rfl⟩) rfl hl.1 rfl (Nat.le_of_ble_eq_true rfl) ⟨Nat.le_of_ble_eq_true rfl, Nat.le_of_ble_eq_true rfl⟩ dX7_readItem_16 ?_
  refine W.eq (g2 := F0 m 19 ls [.int (iI (nOf kd : Int))]) rfl ?_
  refine nn_name (fun wn ewn => ?_)
  refine lv_istore_n (lv' := [(3, .int (iI wn)), (2, .int (iI kd)), (0, .ref t), (1, .ref pl)]) hc.1 hc.2.1 dX7_readItem_19 rfl hl (by decide) rfl (fun ls hl => ?_)
  have hwn : wn = nOf (tx ta.toNat) := by rw [ewn, hkd]
  have hw3 := nOf_le (tx ta.toNat)
  refine nn_iconst hc dX7_readItem_20 ?_
  refine lv_istore (lv' := [(4, .int (iI 0)), (3, .int (iI wn)), (2, .int (iI kd)), (0, .ref t), (1, .ref pl)]) hc.1 hc.2.1 dX7_readItem_21 hl (by decide) rfl (fun ls hl => ?_)
  have lab23 : ∀ (fu23 : Nat) (k : Int) (a1 : Int) (nb1 : Nat → Int) (acc : List Int) (rl1 : List Int) (S2 : Nat → gE) (H : Heap) (locs : List Loc) (ls : Array Slot), ((k = acc.length ∧ k ≤ nOf (tx ta.toNat)) ∧ (ta + 1 + k ≤ a1 ∧ a1 ≤ 1000)) → (∀ i : Nat, i < acc.length → nb1 i = acc.getD i 0) → (∀ x ∈ acc, 0 ≤ x ∧ x ≤ 1000) → (nmA tx tz.toNat (nOf (tx ta.toNat) - acc.length) a1.toNat = some (rl1, en)) → (ns = acc ++ rl1) → (∀ i : Nat, i < 3 → -1000 ≤ nb1 i ∧ nb1 i ≤ 1000) → S2 t = oO 7 [.ref (t + 1), .ref (t + 2), .int (iI tz), .int (iI a1)] → S2 (t + 2) = oI g 3 nb1 → (∀ bb, bb ≠ t → bb ≠ (t + 2) → S2 bb = S1 bb) → g_W g n S2 s H locs → (3 - k).toNat < fu23 → lv_has ls 6 [(4, .int (iI k)), (0, .ref t), (1, .ref pl), (2, .int (iI kd)), (3, .int (iI wn))] → W pp l ee ({ frames := 3, cells := 0, slots := 0, locals := 73 } : Room) s m ([.ref t, .ref pl] : List Value).toArray below meth cK H locs 0 0 Q (F0 m 23 ls []) := by
    intro fu23
    induction fu23 with
    | zero =>
      intro k a1 nb1 acc rl1 S2 H locs ls hk hnb1 hac hnm hns hnr hc23_0 hc23_1 fr23 hw hmeas hl
      exact absurd hmeas (Nat.not_lt_zero _)
    | succ fu23 ih23 =>
      intro k a1 nb1 acc rl1 S2 H locs ls hk hnb1 hac hnm hns hnr hc23_0 hc23_1 fr23 hw hmeas hl
      refine lv_iload hc.1 hc.2.1 dX7_readItem_23 (lv_at hl 0 rfl) ?_
      refine lv_iload_n hc.1 hc.2.1 dX7_readItem_25 rfl (lv_at hl 4 rfl) ?_
      refine nn_icmp_ge hc dX7_readItem_26 (tgt := 94) (by decide) (by omega) (by omega) (fun c3 => ?_) (fun c3 => ?_)
      · have hacl : acc.length = nOf (tx ta.toNat) := by omega
        have hz9 : nmA tx tz.toNat 0 a1.toNat = some (rl1, en) := by rw [← hnm, hacl, Nat.sub_self]
        obtain ⟨hrl, hen⟩ : [] = rl1 ∧ a1.toNat = en := by have := Option.some.inj hz9; exact ⟨congrArg Prod.fst this, congrArg Prod.snd this⟩
        have hns2 : ns = acc := by rw [hns, ← hrl, List.append_nil]
        have htk2 : takeC kd (nb1 0) (nb1 1) (nb1 2) (nH, ln, br, sl, pHi, pWi, pLp, pBk, pHp) = none := by rw [hkd, ← htk0, hns2]; exact takeC_irr (fun h => hnb1 0 (by omega)) (fun h => hnb1 1 (by omega)) (fun h => hnb1 2 (by omega))
        have hn0 := hnr 0 (by decide)
        have hn1 := hnr 1 (by decide)
        have hn2 := hnr 2 (by decide)
        refine lv_aload_n hc.1 hc.2.1 dX7_readItem_94 rfl (lv_at hl 2 rfl) ?_
        refine lv_iload_n hc.1 hc.2.1 dX7_readItem_95 rfl (lv_at hl 3 rfl) ?_
        refine lv_aload_n hc.1 hc.2.1 dX7_readItem_96 rfl (lv_at hl 1 rfl) ?_
        refine nn_get hc hw hc23_0 hiX7 rfl 1 (by decide) rfl lk15 dX7_readItem_97 ?_
        refine nn_iconst hc dX7_readItem_100 ?_
        refine nn_iald hc hw hc23_1 (by omega) (by omega) dX7_readItem_101 ?_
        refine W.eq (g2 := F0 m 102 ls [.int (iI (nb1 0)), .int (iI kd), .ref pl]) rfl ?_
        refine lv_aload_n hc.1 hc.2.1 dX7_readItem_102 rfl (lv_at hl 1 rfl) ?_
        refine nn_get hc hw hc23_0 hiX7 rfl 1 (by decide) rfl lk15 dX7_readItem_103 ?_
        refine nn_iconst hc dX7_readItem_106 ?_
        refine nn_iald hc hw hc23_1 (by omega) (by omega) dX7_readItem_107 ?_
        refine W.eq (g2 := F0 m 108 ls [.int (iI (nb1 1)), .int (iI (nb1 0)), .int (iI kd), .ref pl]) rfl ?_
        refine lv_aload_n hc.1 hc.2.1 dX7_readItem_108 rfl (lv_at hl 1 rfl) ?_
        refine nn_get hc hw hc23_0 hiX7 rfl 1 (by decide) rfl lk15 dX7_readItem_109 ?_
        refine nn_iconst hc dX7_readItem_112 ?_
        refine nn_iald hc hw hc23_1 (by omega) (by omega) dX7_readItem_113 ?_
        refine W.eq (g2 := F0 m 114 ls [.int (iI (nb1 2)), .int (iI (nb1 1)), .int (iI (nb1 0)), .int (iI kd), .ref pl]) rfl ?_
        have e4 : S1 pl = oO 5 [.ref (pl + 1), .ref (pl + 2), .ref (pl + 3), .int (iI nH), .int (iI pHi), .int (iI pWi), .int (iI pLp), .int (iI pBk), .int (iI pHp)] := (fS1 pl (by omega)).trans hp
        have e5 : S2 pl = oO 5 [.ref (pl + 1), .ref (pl + 2), .ref (pl + 3), .int (iI nH), .int (iI pHi), .int (iI pWi), .int (iI pLp), .int (iI pBk), .int (iI pHp)] := (fr23 pl (by omega) (by omega)).trans e4
        have e6 : S1 (pl + 1) = oI g 8 ln := (fS1 (pl + 1) (by omega)).trans hln
        have e7 : S2 (pl + 1) = oI g 8 ln := (fr23 (pl + 1) (by omega) (by omega)).trans e6
        have e8 : S1 (pl + 2) = oI g 8 br := (fS1 (pl + 2) (by omega)).trans hbr
        have e9 : S2 (pl + 2) = oI g 8 br := (fr23 (pl + 2) (by omega) (by omega)).trans e8
        have e10 : S1 (pl + 3) = oI g 8 sl := (fS1 (pl + 3) (by omega)).trans hsl
        have e11 : S2 (pl + 3) = oI g 8 sl := (fr23 (pl + 3) (by omega) (by omega)).trans e10
        refine nn_Vs (As := [.int (iI kd), .int (iI (nb1 0)), .int (iI (nb1 1)), .int (iI (nb1 2))]) (st := []) hc hw e5 rfl (c_X5_take_no l g  e5 e7 e9 e11 (by omega) (rl) (rs) (by omega) (by omega) (by omega) (by omega) (htk2)) (cwV 4 hc.2.2.2.2 gX7_readItem_X5_take rfl rfl rfl (by decide +kernel) ⟨Nat.le_of_ble_eq_true rfl, Nat.le_of_ble_eq_true rfl⟩) rfl hl.1 rfl (Nat.le_of_ble_eq_true rfl) ⟨Nat.le_of_ble_eq_true rfl, Nat.le_of_ble_eq_true rfl⟩ dX7_readItem_114 (fun vr n1 S12 H locs qS12 hw => ?_)
        obtain ⟨rfl, rfl, kS12_0, fS12⟩ := qS12
        refine W.eq (g2 := F0 m 117 ls [.int (iI 0)]) rfl ?_
        have e13 : S12 t = oO 7 [.ref (t + 1), .ref (t + 2), .int (iI tz), .int (iI a1)] := (fS12 t (by omega) (by omega) (by omega) (by omega)).trans hc23_0
        have e14 : S12 (t + 2) = oI g 3 nb1 := (fS12 (t + 2) (by omega) (by omega) (by omega) (by omega)).trans hc23_1
        exact hret (some (.int (iI 0))) _ S12 _ _ _ _ hw (⟨rfl, rfl, kS12_0, ⟨_, e13⟩, ⟨_, e14, hnr⟩, fun bb hb0 hb1 hb2 hb3 hb4 hb5 => (((fS12 bb hb2 hb3 hb4 hb5)).trans (fr23 bb hb0 hb1)).trans (fS1 bb hb0)⟩) ⟨_, rfl, by first | rfl | exact nn_nb _, dX7_readItem_117⟩
      · have hge := rdV_ge tx tz.toNat 3 a1.toNat 0
        have hrg := rdV_rng tx tz.toNat 3 a1.toNat 0 (Int.le_refl 0)
        obtain ⟨w9, hw9⟩ : ∃ w9 : Nat, nOf (tx ta.toNat) - acc.length = w9 + 1 := ⟨nOf (tx ta.toNat) - acc.length - 1, by omega⟩
        have hw0 : nOf (tx ta.toNat) - acc.length - 1 = w9 := by omega
        obtain ⟨⟨hz1, hz2, hz3⟩, rr, hr1, hnn0⟩ := nmA_some (by rw [← hw9]; exact hnm)
        have hnn : nmA tx tz.toNat (nOf (tx ta.toNat) - acc.length - 1) ((rdV tx tz.toNat 3 a1.toNat 0).2 + 1) = some (rr, en) := by rw [hw0]; exact hnn0
        refine lv_aload_n hc.1 hc.2.1 dX7_readItem_29 rfl (lv_at hl 1 rfl) ?_
        refine nn_get hc hw hc23_0 hiX7 rfl 1 (by decide) rfl lk15 dX7_readItem_30 ?_
        refine lv_iload hc.1 hc.2.1 dX7_readItem_33 (lv_at hl 0 rfl) ?_
        refine lv_aload_n hc.1 hc.2.1 dX7_readItem_35 rfl (lv_at hl 1 rfl) ?_
        have e15 : S1 (t + 1) = oC g 200 tx := (fS1 (t + 1) (off_nr (x := t) (a := 1) (by decide))).trans htx
        have e16 : S2 (t + 1) = oC g 200 tx := (fr23 (t + 1) (off_nr (x := t) (a := 1) (by decide)) (off_ne (x := t) (a := 1) (b := 2) (by decide))).trans e15
        refine nn_Vs (As := []) (st := [.int (iI k), .ref (t + 2)]) hc hw hc23_0 rfl (c_X7_readNumber l g  hc23_0 e16 (by omega) (by omega) (rtx)) (cwV 0 hc.2.2.2.2 gX7_readItem_X7_readNumber rfl rfl rfl (by decide +kernel) ⟨Nat.le_of_ble_eq_true rfl, Nat.le_of_ble_eq_true rfl⟩) rfl hl.1 rfl (Nat.le_of_ble_eq_true rfl) ⟨Nat.le_of_ble_eq_true rfl, Nat.le_of_ble_eq_true rfl⟩ dX7_readItem_36 (fun vr n1 S17 H locs qS17 hw => ?_)
        obtain ⟨rfl, rfl, hS17_0, fS17⟩ := qS17
        refine W.eq (g2 := F0 m 39 ls [.int (iI (if (rdV tx tz.toNat 3 a1.toNat 0).2 = a1.toNat then -4 else (rdV tx tz.toNat 3 a1.toNat 0).1)), .int (iI k), .ref (t + 2)]) rfl ?_
        have e18 : S17 (t + 2) = oI g 3 nb1 := (fS17 (t + 2) (off_nr (x := t) (a := 2) (by decide))).trans hc23_1
        refine nn_iast hc hw e18 (by omega) (by omega) dX7_readItem_39 (fun S19 H locs hS19 fS19 hw => ?_)
        refine lv_iload hc.1 hc.2.1 dX7_readItem_40 (lv_at hl 0 rfl) ?_
        refine lv_iload_n hc.1 hc.2.1 dX7_readItem_42 rfl (lv_at hl 4 rfl) ?_
        refine nn_iconst hc dX7_readItem_43 ?_
        refine nn_isub hc dX7_readItem_44 ?_
        refine nn_icmp_ge hc dX7_readItem_45 (tgt := 53) (by decide) (by omega) (by omega) (fun c20 => ?_) (fun c20 => ?_)
        · refine nn_bipush hc dX7_readItem_53 (by decide +kernel) ?_
          refine lv_istore (lv' := [(5, .int (iI 59)), (4, .int (iI k)), (0, .ref t), (1, .ref pl), (2, .int (iI kd)), (3, .int (iI wn))]) hc.1 hc.2.1 dX7_readItem_55 hl (by decide) rfl (fun ls hl => ?_)
          refine lv_aload_n hc.1 hc.2.1 dX7_readItem_57 rfl (lv_at hl 2 rfl) ?_
          have e21 : S19 t = oO 7 [.ref (t + 1), .ref (t + 2), .int (iI tz), .int (iI ((rdV tx tz.toNat 3 a1.toNat 0).2 : Int))] := (fS19 t (off_nl (x := t) (a := 2) (by decide))).trans hS17_0
          refine nn_get hc hw e21 hiX7 rfl 1 (by decide) rfl lk15 dX7_readItem_58 ?_
          refine lv_iload hc.1 hc.2.1 dX7_readItem_61 (lv_at hl 1 rfl) ?_
          refine nn_iald hc hw hS19 (by omega) (by omega) dX7_readItem_63 ?_
          have hvv : va_up nb1 k.toNat (if (rdV tx tz.toNat 3 a1.toNat 0).2 = a1.toNat then -4 else (rdV tx tz.toNat 3 a1.toNat 0).1) k.toNat = (if (rdV tx tz.toNat 3 a1.toNat 0).2 = a1.toNat then -4 else (rdV tx tz.toNat 3 a1.toNat 0).1) := va_up_self _ _ _
          have hr1000 := hrg.2 (by decide) (by decide)
          refine nn_if_lt hc dX7_readItem_64 (tgt := 76) (by decide) (by rw [hvv]; split <;> omega) (fun c22 => ?_) (fun c22 => ?_)
          · exfalso; rw [hvv, if_neg hz1] at c22; omega
          · have hlh : 32 ≤ (if ((rdV tx tz.toNat 3 a1.toNat 0).2 : Int) < tz then tx ((rdV tx tz.toNat 3 a1.toNat 0).2 : Int).toNat else 32) ∧ (if ((rdV tx tz.toNat 3 a1.toNat 0).2 : Int) < tz then tx ((rdV tx tz.toNat 3 a1.toNat 0).2 : Int).toNat else 32) ≤ 126 := by split; rename_i h9; have := rtx ((rdV tx tz.toNat 3 a1.toNat 0).2 : Int).toNat (by omega); omega; omega
            have htn : ((rdV tx tz.toNat 3 a1.toNat 0).2 : Int).toNat = (rdV tx tz.toNat 3 a1.toNat 0).2 := Int.toNat_natCast _
            have hbrz : (if w9 = 0 then (59 : Int) else 44) = 59 ∧ w9 = 0 ∨ (if w9 = 0 then (59 : Int) else 44) = 44 ∧ w9 ≠ 0 := by split <;> omega
            have hlt2 : tx ((rdV tx tz.toNat 3 a1.toNat 0).2 : Int).toNat = tx (rdV tx tz.toNat 3 a1.toNat 0).2 := by rw [htn]
            refine lv_aload_n hc.1 hc.2.1 dX7_readItem_67 rfl (lv_at hl 2 rfl) ?_
            have e23 : S17 (t + 1) = oC g 200 tx := (fS17 (t + 1) (off_nr (x := t) (a := 1) (by decide))).trans e16
            have e24 : S19 (t + 1) = oC g 200 tx := (fS19 (t + 1) (off_ne (x := t) (a := 1) (b := 2) (by decide))).trans e23
            refine nn_Vp (As := []) (st := []) hc hw e21 rfl (c_X7_letterHere l g  e21 e24 (by omega) (by omega) (rtx)) (cwV 0 hc.2.2.2.2 gX7_readItem_X7_letterHere rfl rfl rfl (by decide +kernel) ⟨Nat.le_of_ble_eq_true rfl, Nat.le_of_ble_eq_true rfl⟩) rfl hl.1 rfl (Nat.le_of_ble_eq_true rfl) ⟨Nat.le_of_ble_eq_true rfl, Nat.le_of_ble_eq_true rfl⟩ dX7_readItem_68 ?_
            refine W.eq (g2 := F0 m 71 ls [.int (iI (if ((rdV tx tz.toNat 3 a1.toNat 0).2 : Int) < tz then tx ((rdV tx tz.toNat 3 a1.toNat 0).2 : Int).toNat else 32))]) rfl ?_
            refine lv_iload hc.1 hc.2.1 dX7_readItem_71 (lv_at hl 0 rfl) ?_
            refine nn_icmp_eq hc dX7_readItem_73 (tgt := 78) (by decide) (by omega) (by decide) (fun c25 => ?_) (fun c25 => ?_)
            · refine lv_aload_n hc.1 hc.2.1 dX7_readItem_78 rfl (lv_at hl 2 rfl) ?_
              refine lv_dup hc.1 hc.2.1 dX7_readItem_79 rfl ?_
              refine nn_get hc hw e21 hiX7 rfl 3 (by decide) rfl lk28 dX7_readItem_80 ?_
              refine nn_iconst hc dX7_readItem_83 ?_
              refine nn_iadd hc dX7_readItem_84 ?_
              refine nn_put hc hw e21 hiX7 tyX7 tyX7_ok nmX7 rfl 3 (by decide) (Nat.le_of_ble_eq_true rfl) lk28 rfl rfl rfl dX7_readItem_85 (fun S26 H locs hS26 fS26 hw => ?_)
              have hS26 : S26 t = oO 7 [.ref (t + 1), .ref (t + 2), .int (iI tz), .int (iI (((rdV tx tz.toNat 3 a1.toNat 0).2 : Int) + 1))] := hS26
              refine nn_iinc (lv' := [(4, .int (iI (k + 1))), (5, .int (iI 59)), (0, .ref t), (1, .ref pl), (2, .int (iI kd)), (3, .int (iI wn))]) hc dX7_readItem_88 hl (k0 := 1) rfl (by decide) rfl (fun ls hl => ?_)
              refine lv_goto hc.1 hc.2.1 dX7_readItem_91 (tgt := 23) (by decide) ?_
              have e27 : S26 (t + 2) = oI g 3 (va_up nb1 k.toNat (if (rdV tx tz.toNat 3 a1.toNat 0).2 = a1.toNat then -4 else (rdV tx tz.toNat 3 a1.toNat 0).1)) := (fS26 (t + 2) (off_nr (x := t) (a := 2) (by decide))).trans hS19
              exact ih23 (k + 1) (((rdV tx tz.toNat 3 a1.toNat 0).2 : Int) + 1) (va_up nb1 k.toNat (if (rdV tx tz.toNat 3 a1.toNat 0).2 = a1.toNat then -4 else (rdV tx tz.toNat 3 a1.toNat 0).1)) (acc ++ [(rdV tx tz.toNat 3 a1.toNat 0).1]) rr S26 _ _ _ (by rw [List.length_append]; simp only [List.length_cons, List.length_nil]; omega) (by rw [if_neg hz1]; exact up_nums (by omega) hnb1) (fun x hx => by rcases List.mem_append.mp hx with q | q; exact hac x q; rw [List.mem_singleton.mp q]; exact ⟨hrg.1, hrg.2 (by decide) (by decide)⟩) (by rw [List.length_append, show (((rdV tx tz.toNat 3 a1.toNat 0).2 : Int) + 1).toNat = (rdV tx tz.toNat 3 a1.toNat 0).2 + 1 by omega, show nOf (tx ta.toNat) - (acc.length + [(rdV tx tz.toNat 3 a1.toNat 0).1].length) = nOf (tx ta.toNat) - acc.length - 1 by simp only [List.length_cons, List.length_nil]; omega]; exact hnn) (by rw [hns, hr1, List.append_assoc]; rfl) (fun i hi => by have h9 := hnr i hi; unfold va_up; (repeat' split) <;> omega) hS26 e27 (fun bb hb0 hb1 => ((((fS26 bb hb0)).trans (fS19 bb hb1)).trans (fS17 bb hb0)).trans (fr23 bb hb0 hb1)) hw (by omega) (lv_sub hl [0, 2, 3, 4, 5] rfl)
            · exfalso; omega
        · refine nn_bipush hc dX7_readItem_48 (by decide +kernel) ?_
          refine lv_goto hc.1 hc.2.1 dX7_readItem_50 (tgt := 55) (by decide) ?_
          refine lv_istore (lv' := [(5, .int (iI 44)), (4, .int (iI k)), (0, .ref t), (1, .ref pl), (2, .int (iI kd)), (3, .int (iI wn))]) hc.1 hc.2.1 dX7_readItem_55 hl (by decide) rfl (fun ls hl => ?_)
          refine lv_aload_n hc.1 hc.2.1 dX7_readItem_57 rfl (lv_at hl 2 rfl) ?_
          have e28 : S19 t = oO 7 [.ref (t + 1), .ref (t + 2), .int (iI tz), .int (iI ((rdV tx tz.toNat 3 a1.toNat 0).2 : Int))] := (fS19 t (off_nl (x := t) (a := 2) (by decide))).trans hS17_0
          refine nn_get hc hw e28 hiX7 rfl 1 (by decide) rfl lk15 dX7_readItem_58 ?_
          refine lv_iload hc.1 hc.2.1 dX7_readItem_61 (lv_at hl 1 rfl) ?_
          refine nn_iald hc hw hS19 (by omega) (by omega) dX7_readItem_63 ?_
          have hvv : va_up nb1 k.toNat (if (rdV tx tz.toNat 3 a1.toNat 0).2 = a1.toNat then -4 else (rdV tx tz.toNat 3 a1.toNat 0).1) k.toNat = (if (rdV tx tz.toNat 3 a1.toNat 0).2 = a1.toNat then -4 else (rdV tx tz.toNat 3 a1.toNat 0).1) := va_up_self _ _ _
          have hr1000 := hrg.2 (by decide) (by decide)
          refine nn_if_lt hc dX7_readItem_64 (tgt := 76) (by decide) (by rw [hvv]; split <;> omega) (fun c29 => ?_) (fun c29 => ?_)
          · exfalso; rw [hvv, if_neg hz1] at c29; omega
          · have hlh : 32 ≤ (if ((rdV tx tz.toNat 3 a1.toNat 0).2 : Int) < tz then tx ((rdV tx tz.toNat 3 a1.toNat 0).2 : Int).toNat else 32) ∧ (if ((rdV tx tz.toNat 3 a1.toNat 0).2 : Int) < tz then tx ((rdV tx tz.toNat 3 a1.toNat 0).2 : Int).toNat else 32) ≤ 126 := by split; rename_i h9; have := rtx ((rdV tx tz.toNat 3 a1.toNat 0).2 : Int).toNat (by omega); omega; omega
            have htn : ((rdV tx tz.toNat 3 a1.toNat 0).2 : Int).toNat = (rdV tx tz.toNat 3 a1.toNat 0).2 := Int.toNat_natCast _
            have hbrz : (if w9 = 0 then (59 : Int) else 44) = 59 ∧ w9 = 0 ∨ (if w9 = 0 then (59 : Int) else 44) = 44 ∧ w9 ≠ 0 := by split <;> omega
            have hlt2 : tx ((rdV tx tz.toNat 3 a1.toNat 0).2 : Int).toNat = tx (rdV tx tz.toNat 3 a1.toNat 0).2 := by rw [htn]
            refine lv_aload_n hc.1 hc.2.1 dX7_readItem_67 rfl (lv_at hl 2 rfl) ?_
            have e30 : S17 (t + 1) = oC g 200 tx := (fS17 (t + 1) (off_nr (x := t) (a := 1) (by decide))).trans e16
            have e31 : S19 (t + 1) = oC g 200 tx := (fS19 (t + 1) (off_ne (x := t) (a := 1) (b := 2) (by decide))).trans e30
            refine nn_Vp (As := []) (st := []) hc hw e28 rfl (c_X7_letterHere l g  e28 e31 (by omega) (by omega) (rtx)) (cwV 0 hc.2.2.2.2 gX7_readItem_X7_letterHere rfl rfl rfl (by decide +kernel) ⟨Nat.le_of_ble_eq_true rfl, Nat.le_of_ble_eq_true rfl⟩) rfl hl.1 rfl (Nat.le_of_ble_eq_true rfl) ⟨Nat.le_of_ble_eq_true rfl, Nat.le_of_ble_eq_true rfl⟩ dX7_readItem_68 ?_
            refine W.eq (g2 := F0 m 71 ls [.int (iI (if ((rdV tx tz.toNat 3 a1.toNat 0).2 : Int) < tz then tx ((rdV tx tz.toNat 3 a1.toNat 0).2 : Int).toNat else 32))]) rfl ?_
            refine lv_iload hc.1 hc.2.1 dX7_readItem_71 (lv_at hl 0 rfl) ?_
            refine nn_icmp_eq hc dX7_readItem_73 (tgt := 78) (by decide) (by omega) (by decide) (fun c32 => ?_) (fun c32 => ?_)
            · refine lv_aload_n hc.1 hc.2.1 dX7_readItem_78 rfl (lv_at hl 2 rfl) ?_
              refine lv_dup hc.1 hc.2.1 dX7_readItem_79 rfl ?_
              refine nn_get hc hw e28 hiX7 rfl 3 (by decide) rfl lk28 dX7_readItem_80 ?_
              refine nn_iconst hc dX7_readItem_83 ?_
              refine nn_iadd hc dX7_readItem_84 ?_
              refine nn_put hc hw e28 hiX7 tyX7 tyX7_ok nmX7 rfl 3 (by decide) (Nat.le_of_ble_eq_true rfl) lk28 rfl rfl rfl dX7_readItem_85 (fun S33 H locs hS33 fS33 hw => ?_)
              have hS33 : S33 t = oO 7 [.ref (t + 1), .ref (t + 2), .int (iI tz), .int (iI (((rdV tx tz.toNat 3 a1.toNat 0).2 : Int) + 1))] := hS33
              refine nn_iinc (lv' := [(4, .int (iI (k + 1))), (5, .int (iI 44)), (0, .ref t), (1, .ref pl), (2, .int (iI kd)), (3, .int (iI wn))]) hc dX7_readItem_88 hl (k0 := 1) rfl (by decide) rfl (fun ls hl => ?_)
              refine lv_goto hc.1 hc.2.1 dX7_readItem_91 (tgt := 23) (by decide) ?_
              have e34 : S33 (t + 2) = oI g 3 (va_up nb1 k.toNat (if (rdV tx tz.toNat 3 a1.toNat 0).2 = a1.toNat then -4 else (rdV tx tz.toNat 3 a1.toNat 0).1)) := (fS33 (t + 2) (off_nr (x := t) (a := 2) (by decide))).trans hS19
              exact ih23 (k + 1) (((rdV tx tz.toNat 3 a1.toNat 0).2 : Int) + 1) (va_up nb1 k.toNat (if (rdV tx tz.toNat 3 a1.toNat 0).2 = a1.toNat then -4 else (rdV tx tz.toNat 3 a1.toNat 0).1)) (acc ++ [(rdV tx tz.toNat 3 a1.toNat 0).1]) rr S33 _ _ _ (by rw [List.length_append]; simp only [List.length_cons, List.length_nil]; omega) (by rw [if_neg hz1]; exact up_nums (by omega) hnb1) (fun x hx => by rcases List.mem_append.mp hx with q | q; exact hac x q; rw [List.mem_singleton.mp q]; exact ⟨hrg.1, hrg.2 (by decide) (by decide)⟩) (by rw [List.length_append, show (((rdV tx tz.toNat 3 a1.toNat 0).2 : Int) + 1).toNat = (rdV tx tz.toNat 3 a1.toNat 0).2 + 1 by omega, show nOf (tx ta.toNat) - (acc.length + [(rdV tx tz.toNat 3 a1.toNat 0).1].length) = nOf (tx ta.toNat) - acc.length - 1 by simp only [List.length_cons, List.length_nil]; omega]; exact hnn) (by rw [hns, hr1, List.append_assoc]; rfl) (fun i hi => by have h9 := hnr i hi; unfold va_up; (repeat' split) <;> omega) hS33 e34 (fun bb hb0 hb1 => ((((fS33 bb hb0)).trans (fS19 bb hb1)).trans (fS17 bb hb0)).trans (fr23 bb hb0 hb1)) hw (by omega) (lv_sub hl [0, 2, 3, 4, 5] rfl)
            · exfalso; omega
  have e35 : S1 (t + 2) = oI g 3 nb := (fS1 (t + 2) (off_nr (x := t) (a := 2) (by decide))).trans hnb
  exact lab23 _ 0 (ta + 1) nb ([]) ns S1 _ _ _ (⟨⟨rfl, by omega⟩, by omega, by omega⟩) (fun i hi => absurd hi (Nat.not_lt_zero i)) (fun x hx => by cases hx) (by rw [show (ta + 1).toNat = ta.toNat + 1 by omega]; exact hnm0) (rfl) (rnb) hS1 e35 (fun bb _ _ => rfl) hw (Nat.lt_succ_self _) (lv_sub hl [0, 3, 4, 2, 1] rfl)

set_option maxHeartbeats 4000000 in
set_option maxRecDepth 100000 in
theorem c_X7_readItem_noN (l : Launch) (g : gG) {n : Nat} {S : Nat → gE} {t : Nat} {tz ta : Int} {tx nb : Nat → Int} {pl : Nat} {nH pHi pWi pLp pBk pHp : Int} {ln br sl : Nat → Int} (ht : S t = oO 7 [.ref (t + 1), .ref (t + 2), .int (iI tz), .int (iI ta)]) (htx : S (t + 1) = oC g 200 tx) (hnb : S (t + 2) = oI g 3 nb) (hp : S pl = oO 5 [.ref (pl + 1), .ref (pl + 2), .ref (pl + 3), .int (iI nH), .int (iI pHi), .int (iI pWi), .int (iI pLp), .int (iI pBk), .int (iI pHp)]) (hln : S (pl + 1) = oI g 8 ln) (hbr : S (pl + 2) = oI g 8 br) (hsl : S (pl + 3) = oI g 8 sl) (rtz : 0 ≤ tz ∧ tz ≤ 200) (rta : 0 ≤ ta ∧ ta < tz) (rtx : ∀ i : Nat, (i : Int) < tz → 32 ≤ tx i ∧ tx i ≤ 126) (rH : 0 ≤ nH ∧ nH ≤ 8) (rl : ∀ i : Nat, (i : Int) < nH → (-1000000 ≤ ln i ∧ ln i ≤ 1000000) ∧ (-1000000 ≤ br i ∧ br i ≤ 1000000)) (rs : ∀ i : Nat, (i : Int) < nH → -1000000 ≤ sl i ∧ sl i ≤ 1000000) (hd : t + 3 ≤ pl ∨ pl + 4 ≤ t) (rnb : ∀ i : Nat, i < 3 → -1000 ≤ nb i ∧ nb i ≤ 1000) (hnm0 : nmA tx tz.toNat (nOf (tx ta.toNat)) (ta.toNat + 1) = none) : g_Cs l yX7_readItem wsX7_readItem { frames := 2, cells := 0, slots := 0, locals := 42 } g [.ref t, .ref pl] n S (fun vr n1 S1 => vr = some (.int (iI 0)) ∧ n = n1 ∧ gbP g S1 pl ∧ (∃ z : Int, S1 t = oO 7 [.ref (t + 1), .ref (t + 2), .int (iI tz), .int (iI z)]) ∧ (∃ f : Nat → Int, S1 (t + 2) = oI g 3 f ∧ ∀ i : Nat, i < 3 → -1000 ≤ f i ∧ f i ≤ 1000) ∧ (∀ bb, bb ≠ t → bb ≠ (t + 2) → bb ≠ pl → bb ≠ (pl + 1) → bb ≠ (pl + 2) → bb ≠ (pl + 3) → S1 bb = S bb)) 0 0 := by
  refine g_Cs.of (cc := cX7_readItem) (maxL := 6) (ret := (some .boolean)) (by decide) rfl (Nat.le_of_ble_eq_true rfl) ?_
  intro pp ee s m below meth cK Q H locs ls hc hnm hw hl hret
  have hl : lv_has ls 6 [(0, .ref t), (1, .ref pl)] := hl
  have hiX7 : ∀ w ∈ u_ws RX7 TX7 4, w ∈ wsX7_readItem := by decide +kernel
  have lk28 : Cond.fieldLink RX7 28 "RoofCourses$Text" "at" "I" ∈ wsX7_readItem := by decide +kernel
  have lk15 : Cond.fieldLink RX7 15 "RoofCourses$Text" "numbers" "[I" ∈ wsX7_readItem := by decide +kernel
  refine lv_aload_n hc.1 hc.2.1 dX7_readItem_0 rfl (lv_at hl 0 rfl) ?_
  refine nn_Vp (As := []) (st := []) hc hw ht rfl (c_X7_letterHere l g  ht htx (by omega) (by omega) (rtx)) (cwV 0 hc.2.2.2.2 gX7_readItem_X7_letterHere rfl rfl rfl (by decide +kernel) ⟨Nat.le_of_ble_eq_true rfl, Nat.le_of_ble_eq_true rfl⟩) rfl hl.1 rfl (Nat.le_of_ble_eq_true rfl) ⟨Nat.le_of_ble_eq_true rfl, Nat.le_of_ble_eq_true rfl⟩ dX7_readItem_1 ?_
  refine W.eq (g2 := F0 m 4 ls [.int (iI (if ta < tz then tx ta.toNat else 32))]) rfl ?_
  refine nn_name (fun kd ekd => ?_)
  refine lv_istore_n (lv' := [(2, .int (iI kd)), (0, .ref t), (1, .ref pl)]) hc.1 hc.2.1 dX7_readItem_4 rfl hl (by decide) rfl (fun ls hl => ?_)
  have hkd : kd = tx ta.toNat := by rw [ekd, if_pos (by omega)]
  have hkr := rtx ta.toNat (by omega)
  refine lv_aload_n hc.1 hc.2.1 dX7_readItem_5 rfl (lv_at hl 1 rfl) ?_
  refine lv_dup hc.1 hc.2.1 dX7_readItem_6 rfl ?_
  refine nn_get hc hw ht hiX7 rfl 3 (by decide) rfl lk28 dX7_readItem_7 ?_
  refine nn_iconst hc dX7_readItem_10 ?_
  refine nn_iadd hc dX7_readItem_11 ?_
  refine nn_put hc hw ht hiX7 tyX7 tyX7_ok nmX7 rfl 3 (by decide) (Nat.le_of_ble_eq_true rfl) lk28 rfl rfl rfl dX7_readItem_12 (fun S1 H locs hS1 fS1 hw => ?_)
  have hS1 : S1 t = oO 7 [.ref (t + 1), .ref (t + 2), .int (iI tz), .int (iI (ta + 1))] := hS1
  refine lv_iload_n hc.1 hc.2.1 dX7_readItem_15 rfl (lv_at hl 0 rfl) ?_
  refine nn_Sp (As := [.int (iI kd)]) (st := []) hc hw (c_X7_numbersOf l g   (by omega)) (va_cwS 1 hc.2.2.2.2 gX7_readItem_X7_numbersOf rfl rfl rfl (by decide +kernel) ⟨Nat.le_of_ble_eq_true rfl, Nat.le_of_ble_eq_true rfl⟩) rfl hl.1 rfl (Nat.le_of_ble_eq_true rfl) ⟨Nat.le_of_ble_eq_true rfl, Nat.le_of_ble_eq_true rfl⟩ dX7_readItem_16 ?_
  refine W.eq (g2 := F0 m 19 ls [.int (iI (nOf kd : Int))]) rfl ?_
  refine nn_name (fun wn ewn => ?_)
  refine lv_istore_n (lv' := [(3, .int (iI wn)), (2, .int (iI kd)), (0, .ref t), (1, .ref pl)]) hc.1 hc.2.1 dX7_readItem_19 rfl hl (by decide) rfl (fun ls hl => ?_)
  have hwn : wn = nOf (tx ta.toNat) := by rw [ewn, hkd]
  have hw3 := nOf_le (tx ta.toNat)
  refine nn_iconst hc dX7_readItem_20 ?_
  refine lv_istore (lv' := [(4, .int (iI 0)), (3, .int (iI wn)), (2, .int (iI kd)), (0, .ref t), (1, .ref pl)]) hc.1 hc.2.1 dX7_readItem_21 hl (by decide) rfl (fun ls hl => ?_)
  have lab23 : ∀ (fu23 : Nat) (k : Int) (a1 : Int) (nb1 : Nat → Int) (acc : List Int) (S2 : Nat → gE) (H : Heap) (locs : List Loc) (ls : Array Slot), ((k = acc.length ∧ k ≤ nOf (tx ta.toNat)) ∧ (ta + 1 + k ≤ a1 ∧ a1 ≤ 1000)) → (∀ i : Nat, i < acc.length → nb1 i = acc.getD i 0) → (∀ x ∈ acc, 0 ≤ x ∧ x ≤ 1000) → (nmA tx tz.toNat (nOf (tx ta.toNat) - acc.length) a1.toNat = none) → (∀ i : Nat, i < 3 → -1000 ≤ nb1 i ∧ nb1 i ≤ 1000) → S2 t = oO 7 [.ref (t + 1), .ref (t + 2), .int (iI tz), .int (iI a1)] → S2 (t + 2) = oI g 3 nb1 → (∀ bb, bb ≠ t → bb ≠ (t + 2) → S2 bb = S1 bb) → g_W g n S2 s H locs → (3 - k).toNat < fu23 → lv_has ls 6 [(4, .int (iI k)), (0, .ref t), (1, .ref pl), (2, .int (iI kd)), (3, .int (iI wn))] → W pp l ee ({ frames := 2, cells := 0, slots := 0, locals := 42 } : Room) s m ([.ref t, .ref pl] : List Value).toArray below meth cK H locs 0 0 Q (F0 m 23 ls []) := by
    intro fu23
    induction fu23 with
    | zero =>
      intro k a1 nb1 acc S2 H locs ls hk hnb1 hac hnm hnr hc23_0 hc23_1 fr23 hw hmeas hl
      exact absurd hmeas (Nat.not_lt_zero _)
    | succ fu23 ih23 =>
      intro k a1 nb1 acc S2 H locs ls hk hnb1 hac hnm hnr hc23_0 hc23_1 fr23 hw hmeas hl
      refine lv_iload hc.1 hc.2.1 dX7_readItem_23 (lv_at hl 0 rfl) ?_
      refine lv_iload_n hc.1 hc.2.1 dX7_readItem_25 rfl (lv_at hl 4 rfl) ?_
      refine nn_icmp_ge hc dX7_readItem_26 (tgt := 94) (by decide) (by omega) (by omega) (fun c3 => ?_) (fun c3 => ?_)
      · exfalso; rw [show nOf (tx ta.toNat) - acc.length = 0 by omega] at hnm; cases hnm
      · have hge := rdV_ge tx tz.toNat 3 a1.toNat 0
        have hrg := rdV_rng tx tz.toNat 3 a1.toNat 0 (Int.le_refl 0)
        obtain ⟨w9, hw9⟩ : ∃ w9 : Nat, nOf (tx ta.toNat) - acc.length = w9 + 1 := ⟨nOf (tx ta.toNat) - acc.length - 1, by omega⟩
        have hw0 : nOf (tx ta.toNat) - acc.length - 1 = w9 := by omega
        have hnz := nmA_none (by rw [← hw9]; exact hnm)
        refine lv_aload_n hc.1 hc.2.1 dX7_readItem_29 rfl (lv_at hl 1 rfl) ?_
        refine nn_get hc hw hc23_0 hiX7 rfl 1 (by decide) rfl lk15 dX7_readItem_30 ?_
        refine lv_iload hc.1 hc.2.1 dX7_readItem_33 (lv_at hl 0 rfl) ?_
        refine lv_aload_n hc.1 hc.2.1 dX7_readItem_35 rfl (lv_at hl 1 rfl) ?_
        have e4 : S1 (t + 1) = oC g 200 tx := (fS1 (t + 1) (off_nr (x := t) (a := 1) (by decide))).trans htx
        have e5 : S2 (t + 1) = oC g 200 tx := (fr23 (t + 1) (off_nr (x := t) (a := 1) (by decide)) (off_ne (x := t) (a := 1) (b := 2) (by decide))).trans e4
        refine nn_Vs (As := []) (st := [.int (iI k), .ref (t + 2)]) hc hw hc23_0 rfl (c_X7_readNumber l g  hc23_0 e5 (by omega) (by omega) (rtx)) (cwV 0 hc.2.2.2.2 gX7_readItem_X7_readNumber rfl rfl rfl (by decide +kernel) ⟨Nat.le_of_ble_eq_true rfl, Nat.le_of_ble_eq_true rfl⟩) rfl hl.1 rfl (Nat.le_of_ble_eq_true rfl) ⟨Nat.le_of_ble_eq_true rfl, Nat.le_of_ble_eq_true rfl⟩ dX7_readItem_36 (fun vr n1 S6 H locs qS6 hw => ?_)
        obtain ⟨rfl, rfl, hS6_0, fS6⟩ := qS6
        refine W.eq (g2 := F0 m 39 ls [.int (iI (if (rdV tx tz.toNat 3 a1.toNat 0).2 = a1.toNat then -4 else (rdV tx tz.toNat 3 a1.toNat 0).1)), .int (iI k), .ref (t + 2)]) rfl ?_
        have e7 : S6 (t + 2) = oI g 3 nb1 := (fS6 (t + 2) (off_nr (x := t) (a := 2) (by decide))).trans hc23_1
        refine nn_iast hc hw e7 (by omega) (by omega) dX7_readItem_39 (fun S8 H locs hS8 fS8 hw => ?_)
        refine lv_iload hc.1 hc.2.1 dX7_readItem_40 (lv_at hl 0 rfl) ?_
        refine lv_iload_n hc.1 hc.2.1 dX7_readItem_42 rfl (lv_at hl 4 rfl) ?_
        refine nn_iconst hc dX7_readItem_43 ?_
        refine nn_isub hc dX7_readItem_44 ?_
        refine nn_icmp_ge hc dX7_readItem_45 (tgt := 53) (by decide) (by omega) (by omega) (fun c9 => ?_) (fun c9 => ?_)
        · refine nn_bipush hc dX7_readItem_53 (by decide +kernel) ?_
          refine lv_istore (lv' := [(5, .int (iI 59)), (4, .int (iI k)), (0, .ref t), (1, .ref pl), (2, .int (iI kd)), (3, .int (iI wn))]) hc.1 hc.2.1 dX7_readItem_55 hl (by decide) rfl (fun ls hl => ?_)
          refine lv_aload_n hc.1 hc.2.1 dX7_readItem_57 rfl (lv_at hl 2 rfl) ?_
          have e10 : S8 t = oO 7 [.ref (t + 1), .ref (t + 2), .int (iI tz), .int (iI ((rdV tx tz.toNat 3 a1.toNat 0).2 : Int))] := (fS8 t (off_nl (x := t) (a := 2) (by decide))).trans hS6_0
          refine nn_get hc hw e10 hiX7 rfl 1 (by decide) rfl lk15 dX7_readItem_58 ?_
          refine lv_iload hc.1 hc.2.1 dX7_readItem_61 (lv_at hl 1 rfl) ?_
          refine nn_iald hc hw hS8 (by omega) (by omega) dX7_readItem_63 ?_
          have hvv : va_up nb1 k.toNat (if (rdV tx tz.toNat 3 a1.toNat 0).2 = a1.toNat then -4 else (rdV tx tz.toNat 3 a1.toNat 0).1) k.toNat = (if (rdV tx tz.toNat 3 a1.toNat 0).2 = a1.toNat then -4 else (rdV tx tz.toNat 3 a1.toNat 0).1) := va_up_self _ _ _
          have hr1000 := hrg.2 (by decide) (by decide)
          refine nn_if_lt hc dX7_readItem_64 (tgt := 76) (by decide) (by rw [hvv]; split <;> omega) (fun c11 => ?_) (fun c11 => ?_)
          · refine nn_iconst hc dX7_readItem_76 ?_
            have e12 : S1 pl = oO 5 [.ref (pl + 1), .ref (pl + 2), .ref (pl + 3), .int (iI nH), .int (iI pHi), .int (iI pWi), .int (iI pLp), .int (iI pBk), .int (iI pHp)] := (fS1 pl (by omega)).trans hp
            have e13 : S2 pl = oO 5 [.ref (pl + 1), .ref (pl + 2), .ref (pl + 3), .int (iI nH), .int (iI pHi), .int (iI pWi), .int (iI pLp), .int (iI pBk), .int (iI pHp)] := (fr23 pl (by omega) (by omega)).trans e12
            have e14 : S6 pl = oO 5 [.ref (pl + 1), .ref (pl + 2), .ref (pl + 3), .int (iI nH), .int (iI pHi), .int (iI pWi), .int (iI pLp), .int (iI pBk), .int (iI pHp)] := (fS6 pl (by omega)).trans e13
            have e15 : S8 pl = oO 5 [.ref (pl + 1), .ref (pl + 2), .ref (pl + 3), .int (iI nH), .int (iI pHi), .int (iI pWi), .int (iI pLp), .int (iI pBk), .int (iI pHp)] := (fS8 pl (by omega)).trans e14
            have e16 : S1 (pl + 1) = oI g 8 ln := (fS1 (pl + 1) (by omega)).trans hln
            have e17 : S2 (pl + 1) = oI g 8 ln := (fr23 (pl + 1) (by omega) (by omega)).trans e16
            have e18 : S6 (pl + 1) = oI g 8 ln := (fS6 (pl + 1) (by omega)).trans e17
            have e19 : S8 (pl + 1) = oI g 8 ln := (fS8 (pl + 1) (by omega)).trans e18
            have e20 : S1 (pl + 2) = oI g 8 br := (fS1 (pl + 2) (by omega)).trans hbr
            have e21 : S2 (pl + 2) = oI g 8 br := (fr23 (pl + 2) (by omega) (by omega)).trans e20
            have e22 : S6 (pl + 2) = oI g 8 br := (fS6 (pl + 2) (by omega)).trans e21
            have e23 : S8 (pl + 2) = oI g 8 br := (fS8 (pl + 2) (by omega)).trans e22
            have e24 : S1 (pl + 3) = oI g 8 sl := (fS1 (pl + 3) (by omega)).trans hsl
            have e25 : S2 (pl + 3) = oI g 8 sl := (fr23 (pl + 3) (by omega) (by omega)).trans e24
            have e26 : S6 (pl + 3) = oI g 8 sl := (fS6 (pl + 3) (by omega)).trans e25
            have e27 : S8 (pl + 3) = oI g 8 sl := (fS8 (pl + 3) (by omega)).trans e26
            exact hret (some (.int (iI 0))) _ S8 _ _ _ _ hw (⟨rfl, rfl, ⟨_, _, _, _, _, _, _, _, _, e15, e19, e23, e27⟩, ⟨_, e10⟩, ⟨_, hS8, fun i hi => by have h9 := hnr i hi; unfold va_up; (repeat' split) <;> omega⟩, fun bb hb0 hb1 hb2 hb3 hb4 hb5 => ((((fS8 bb hb1)).trans (fS6 bb hb0)).trans (fr23 bb hb0 hb1)).trans (fS1 bb hb0)⟩) ⟨_, rfl, by first | rfl | exact nn_nb _, dX7_readItem_77⟩
          · have hlh : 32 ≤ (if ((rdV tx tz.toNat 3 a1.toNat 0).2 : Int) < tz then tx ((rdV tx tz.toNat 3 a1.toNat 0).2 : Int).toNat else 32) ∧ (if ((rdV tx tz.toNat 3 a1.toNat 0).2 : Int) < tz then tx ((rdV tx tz.toNat 3 a1.toNat 0).2 : Int).toNat else 32) ≤ 126 := by split; rename_i h9; have := rtx ((rdV tx tz.toNat 3 a1.toNat 0).2 : Int).toNat (by omega); omega; omega
            have htn : ((rdV tx tz.toNat 3 a1.toNat 0).2 : Int).toNat = (rdV tx tz.toNat 3 a1.toNat 0).2 := Int.toNat_natCast _
            have hbrz : (if w9 = 0 then (59 : Int) else 44) = 59 ∧ w9 = 0 ∨ (if w9 = 0 then (59 : Int) else 44) = 44 ∧ w9 ≠ 0 := by split <;> omega
            have hlt2 : tx ((rdV tx tz.toNat 3 a1.toNat 0).2 : Int).toNat = tx (rdV tx tz.toNat 3 a1.toNat 0).2 := by rw [htn]
            refine lv_aload_n hc.1 hc.2.1 dX7_readItem_67 rfl (lv_at hl 2 rfl) ?_
            have e28 : S6 (t + 1) = oC g 200 tx := (fS6 (t + 1) (off_nr (x := t) (a := 1) (by decide))).trans e5
            have e29 : S8 (t + 1) = oC g 200 tx := (fS8 (t + 1) (off_ne (x := t) (a := 1) (b := 2) (by decide))).trans e28
            refine nn_Vp (As := []) (st := []) hc hw e10 rfl (c_X7_letterHere l g  e10 e29 (by omega) (by omega) (rtx)) (cwV 0 hc.2.2.2.2 gX7_readItem_X7_letterHere rfl rfl rfl (by decide +kernel) ⟨Nat.le_of_ble_eq_true rfl, Nat.le_of_ble_eq_true rfl⟩) rfl hl.1 rfl (Nat.le_of_ble_eq_true rfl) ⟨Nat.le_of_ble_eq_true rfl, Nat.le_of_ble_eq_true rfl⟩ dX7_readItem_68 ?_
            refine W.eq (g2 := F0 m 71 ls [.int (iI (if ((rdV tx tz.toNat 3 a1.toNat 0).2 : Int) < tz then tx ((rdV tx tz.toNat 3 a1.toNat 0).2 : Int).toNat else 32))]) rfl ?_
            refine lv_iload hc.1 hc.2.1 dX7_readItem_71 (lv_at hl 0 rfl) ?_
            refine nn_icmp_eq hc dX7_readItem_73 (tgt := 78) (by decide) (by omega) (by decide) (fun c30 => ?_) (fun c30 => ?_)
            · have hz1 : ¬ (rdV tx tz.toNat 3 a1.toNat 0).2 = a1.toNat := by omega
              have hnn : nmA tx tz.toNat (nOf (tx ta.toNat) - acc.length - 1) ((rdV tx tz.toNat 3 a1.toNat 0).2 + 1) = none := by rw [hw0]; rcases hnz with z | z | z; exact absurd z hz1; exact absurd (by omega) z; exact z
              refine lv_aload_n hc.1 hc.2.1 dX7_readItem_78 rfl (lv_at hl 2 rfl) ?_
              refine lv_dup hc.1 hc.2.1 dX7_readItem_79 rfl ?_
              refine nn_get hc hw e10 hiX7 rfl 3 (by decide) rfl lk28 dX7_readItem_80 ?_
              refine nn_iconst hc dX7_readItem_83 ?_
              refine nn_iadd hc dX7_readItem_84 ?_
              refine nn_put hc hw e10 hiX7 tyX7 tyX7_ok nmX7 rfl 3 (by decide) (Nat.le_of_ble_eq_true rfl) lk28 rfl rfl rfl dX7_readItem_85 (fun S31 H locs hS31 fS31 hw => ?_)
              have hS31 : S31 t = oO 7 [.ref (t + 1), .ref (t + 2), .int (iI tz), .int (iI (((rdV tx tz.toNat 3 a1.toNat 0).2 : Int) + 1))] := hS31
              refine nn_iinc (lv' := [(4, .int (iI (k + 1))), (5, .int (iI 59)), (0, .ref t), (1, .ref pl), (2, .int (iI kd)), (3, .int (iI wn))]) hc dX7_readItem_88 hl (k0 := 1) rfl (by decide) rfl (fun ls hl => ?_)
              refine lv_goto hc.1 hc.2.1 dX7_readItem_91 (tgt := 23) (by decide) ?_
              have e32 : S31 (t + 2) = oI g 3 (va_up nb1 k.toNat (if (rdV tx tz.toNat 3 a1.toNat 0).2 = a1.toNat then -4 else (rdV tx tz.toNat 3 a1.toNat 0).1)) := (fS31 (t + 2) (off_nr (x := t) (a := 2) (by decide))).trans hS8
              exact ih23 (k + 1) (((rdV tx tz.toNat 3 a1.toNat 0).2 : Int) + 1) (va_up nb1 k.toNat (if (rdV tx tz.toNat 3 a1.toNat 0).2 = a1.toNat then -4 else (rdV tx tz.toNat 3 a1.toNat 0).1)) (acc ++ [(rdV tx tz.toNat 3 a1.toNat 0).1]) S31 _ _ _ (by rw [List.length_append]; simp only [List.length_cons, List.length_nil]; omega) (by rw [if_neg hz1]; exact up_nums (by omega) hnb1) (fun x hx => by rcases List.mem_append.mp hx with q | q; exact hac x q; rw [List.mem_singleton.mp q]; exact ⟨hrg.1, hrg.2 (by decide) (by decide)⟩) (by rw [List.length_append, show (((rdV tx tz.toNat 3 a1.toNat 0).2 : Int) + 1).toNat = (rdV tx tz.toNat 3 a1.toNat 0).2 + 1 by omega, show nOf (tx ta.toNat) - (acc.length + [(rdV tx tz.toNat 3 a1.toNat 0).1].length) = nOf (tx ta.toNat) - acc.length - 1 by simp only [List.length_cons, List.length_nil]; omega]; exact hnn) (fun i hi => by have h9 := hnr i hi; unfold va_up; (repeat' split) <;> omega) hS31 e32 (fun bb hb0 hb1 => ((((fS31 bb hb0)).trans (fS8 bb hb1)).trans (fS6 bb hb0)).trans (fr23 bb hb0 hb1)) hw (by omega) (lv_sub hl [0, 2, 3, 4, 5] rfl)
            · refine nn_iconst hc dX7_readItem_76 ?_
              have e33 : S1 pl = oO 5 [.ref (pl + 1), .ref (pl + 2), .ref (pl + 3), .int (iI nH), .int (iI pHi), .int (iI pWi), .int (iI pLp), .int (iI pBk), .int (iI pHp)] := (fS1 pl (by omega)).trans hp
              have e34 : S2 pl = oO 5 [.ref (pl + 1), .ref (pl + 2), .ref (pl + 3), .int (iI nH), .int (iI pHi), .int (iI pWi), .int (iI pLp), .int (iI pBk), .int (iI pHp)] := (fr23 pl (by omega) (by omega)).trans e33
              have e35 : S6 pl = oO 5 [.ref (pl + 1), .ref (pl + 2), .ref (pl + 3), .int (iI nH), .int (iI pHi), .int (iI pWi), .int (iI pLp), .int (iI pBk), .int (iI pHp)] := (fS6 pl (by omega)).trans e34
              have e36 : S8 pl = oO 5 [.ref (pl + 1), .ref (pl + 2), .ref (pl + 3), .int (iI nH), .int (iI pHi), .int (iI pWi), .int (iI pLp), .int (iI pBk), .int (iI pHp)] := (fS8 pl (by omega)).trans e35
              have e37 : S1 (pl + 1) = oI g 8 ln := (fS1 (pl + 1) (by omega)).trans hln
              have e38 : S2 (pl + 1) = oI g 8 ln := (fr23 (pl + 1) (by omega) (by omega)).trans e37
              have e39 : S6 (pl + 1) = oI g 8 ln := (fS6 (pl + 1) (by omega)).trans e38
              have e40 : S8 (pl + 1) = oI g 8 ln := (fS8 (pl + 1) (by omega)).trans e39
              have e41 : S1 (pl + 2) = oI g 8 br := (fS1 (pl + 2) (by omega)).trans hbr
              have e42 : S2 (pl + 2) = oI g 8 br := (fr23 (pl + 2) (by omega) (by omega)).trans e41
              have e43 : S6 (pl + 2) = oI g 8 br := (fS6 (pl + 2) (by omega)).trans e42
              have e44 : S8 (pl + 2) = oI g 8 br := (fS8 (pl + 2) (by omega)).trans e43
              have e45 : S1 (pl + 3) = oI g 8 sl := (fS1 (pl + 3) (by omega)).trans hsl
              have e46 : S2 (pl + 3) = oI g 8 sl := (fr23 (pl + 3) (by omega) (by omega)).trans e45
              have e47 : S6 (pl + 3) = oI g 8 sl := (fS6 (pl + 3) (by omega)).trans e46
              have e48 : S8 (pl + 3) = oI g 8 sl := (fS8 (pl + 3) (by omega)).trans e47
              exact hret (some (.int (iI 0))) _ S8 _ _ _ _ hw (⟨rfl, rfl, ⟨_, _, _, _, _, _, _, _, _, e36, e40, e44, e48⟩, ⟨_, e10⟩, ⟨_, hS8, fun i hi => by have h9 := hnr i hi; unfold va_up; (repeat' split) <;> omega⟩, fun bb hb0 hb1 hb2 hb3 hb4 hb5 => ((((fS8 bb hb1)).trans (fS6 bb hb0)).trans (fr23 bb hb0 hb1)).trans (fS1 bb hb0)⟩) ⟨_, rfl, by first | rfl | exact nn_nb _, dX7_readItem_77⟩
        · refine nn_bipush hc dX7_readItem_48 (by decide +kernel) ?_
          refine lv_goto hc.1 hc.2.1 dX7_readItem_50 (tgt := 55) (by decide) ?_
          refine lv_istore (lv' := [(5, .int (iI 44)), (4, .int (iI k)), (0, .ref t), (1, .ref pl), (2, .int (iI kd)), (3, .int (iI wn))]) hc.1 hc.2.1 dX7_readItem_55 hl (by decide) rfl (fun ls hl => ?_)
          refine lv_aload_n hc.1 hc.2.1 dX7_readItem_57 rfl (lv_at hl 2 rfl) ?_
          have e49 : S8 t = oO 7 [.ref (t + 1), .ref (t + 2), .int (iI tz), .int (iI ((rdV tx tz.toNat 3 a1.toNat 0).2 : Int))] := (fS8 t (off_nl (x := t) (a := 2) (by decide))).trans hS6_0
          refine nn_get hc hw e49 hiX7 rfl 1 (by decide) rfl lk15 dX7_readItem_58 ?_
          refine lv_iload hc.1 hc.2.1 dX7_readItem_61 (lv_at hl 1 rfl) ?_
          refine nn_iald hc hw hS8 (by omega) (by omega) dX7_readItem_63 ?_
          have hvv : va_up nb1 k.toNat (if (rdV tx tz.toNat 3 a1.toNat 0).2 = a1.toNat then -4 else (rdV tx tz.toNat 3 a1.toNat 0).1) k.toNat = (if (rdV tx tz.toNat 3 a1.toNat 0).2 = a1.toNat then -4 else (rdV tx tz.toNat 3 a1.toNat 0).1) := va_up_self _ _ _
          have hr1000 := hrg.2 (by decide) (by decide)
          refine nn_if_lt hc dX7_readItem_64 (tgt := 76) (by decide) (by rw [hvv]; split <;> omega) (fun c50 => ?_) (fun c50 => ?_)
          · refine nn_iconst hc dX7_readItem_76 ?_
            have e51 : S1 pl = oO 5 [.ref (pl + 1), .ref (pl + 2), .ref (pl + 3), .int (iI nH), .int (iI pHi), .int (iI pWi), .int (iI pLp), .int (iI pBk), .int (iI pHp)] := (fS1 pl (by omega)).trans hp
            have e52 : S2 pl = oO 5 [.ref (pl + 1), .ref (pl + 2), .ref (pl + 3), .int (iI nH), .int (iI pHi), .int (iI pWi), .int (iI pLp), .int (iI pBk), .int (iI pHp)] := (fr23 pl (by omega) (by omega)).trans e51
            have e53 : S6 pl = oO 5 [.ref (pl + 1), .ref (pl + 2), .ref (pl + 3), .int (iI nH), .int (iI pHi), .int (iI pWi), .int (iI pLp), .int (iI pBk), .int (iI pHp)] := (fS6 pl (by omega)).trans e52
            have e54 : S8 pl = oO 5 [.ref (pl + 1), .ref (pl + 2), .ref (pl + 3), .int (iI nH), .int (iI pHi), .int (iI pWi), .int (iI pLp), .int (iI pBk), .int (iI pHp)] := (fS8 pl (by omega)).trans e53
            have e55 : S1 (pl + 1) = oI g 8 ln := (fS1 (pl + 1) (by omega)).trans hln
            have e56 : S2 (pl + 1) = oI g 8 ln := (fr23 (pl + 1) (by omega) (by omega)).trans e55
            have e57 : S6 (pl + 1) = oI g 8 ln := (fS6 (pl + 1) (by omega)).trans e56
            have e58 : S8 (pl + 1) = oI g 8 ln := (fS8 (pl + 1) (by omega)).trans e57
            have e59 : S1 (pl + 2) = oI g 8 br := (fS1 (pl + 2) (by omega)).trans hbr
            have e60 : S2 (pl + 2) = oI g 8 br := (fr23 (pl + 2) (by omega) (by omega)).trans e59
            have e61 : S6 (pl + 2) = oI g 8 br := (fS6 (pl + 2) (by omega)).trans e60
            have e62 : S8 (pl + 2) = oI g 8 br := (fS8 (pl + 2) (by omega)).trans e61
            have e63 : S1 (pl + 3) = oI g 8 sl := (fS1 (pl + 3) (by omega)).trans hsl
            have e64 : S2 (pl + 3) = oI g 8 sl := (fr23 (pl + 3) (by omega) (by omega)).trans e63
            have e65 : S6 (pl + 3) = oI g 8 sl := (fS6 (pl + 3) (by omega)).trans e64
            have e66 : S8 (pl + 3) = oI g 8 sl := (fS8 (pl + 3) (by omega)).trans e65
            exact hret (some (.int (iI 0))) _ S8 _ _ _ _ hw (⟨rfl, rfl, ⟨_, _, _, _, _, _, _, _, _, e54, e58, e62, e66⟩, ⟨_, e49⟩, ⟨_, hS8, fun i hi => by have h9 := hnr i hi; unfold va_up; (repeat' split) <;> omega⟩, fun bb hb0 hb1 hb2 hb3 hb4 hb5 => ((((fS8 bb hb1)).trans (fS6 bb hb0)).trans (fr23 bb hb0 hb1)).trans (fS1 bb hb0)⟩) ⟨_, rfl, by first | rfl | exact nn_nb _, dX7_readItem_77⟩
          · have hlh : 32 ≤ (if ((rdV tx tz.toNat 3 a1.toNat 0).2 : Int) < tz then tx ((rdV tx tz.toNat 3 a1.toNat 0).2 : Int).toNat else 32) ∧ (if ((rdV tx tz.toNat 3 a1.toNat 0).2 : Int) < tz then tx ((rdV tx tz.toNat 3 a1.toNat 0).2 : Int).toNat else 32) ≤ 126 := by split; rename_i h9; have := rtx ((rdV tx tz.toNat 3 a1.toNat 0).2 : Int).toNat (by omega); omega; omega
            have htn : ((rdV tx tz.toNat 3 a1.toNat 0).2 : Int).toNat = (rdV tx tz.toNat 3 a1.toNat 0).2 := Int.toNat_natCast _
            have hbrz : (if w9 = 0 then (59 : Int) else 44) = 59 ∧ w9 = 0 ∨ (if w9 = 0 then (59 : Int) else 44) = 44 ∧ w9 ≠ 0 := by split <;> omega
            have hlt2 : tx ((rdV tx tz.toNat 3 a1.toNat 0).2 : Int).toNat = tx (rdV tx tz.toNat 3 a1.toNat 0).2 := by rw [htn]
            refine lv_aload_n hc.1 hc.2.1 dX7_readItem_67 rfl (lv_at hl 2 rfl) ?_
            have e67 : S6 (t + 1) = oC g 200 tx := (fS6 (t + 1) (off_nr (x := t) (a := 1) (by decide))).trans e5
            have e68 : S8 (t + 1) = oC g 200 tx := (fS8 (t + 1) (off_ne (x := t) (a := 1) (b := 2) (by decide))).trans e67
            refine nn_Vp (As := []) (st := []) hc hw e49 rfl (c_X7_letterHere l g  e49 e68 (by omega) (by omega) (rtx)) (cwV 0 hc.2.2.2.2 gX7_readItem_X7_letterHere rfl rfl rfl (by decide +kernel) ⟨Nat.le_of_ble_eq_true rfl, Nat.le_of_ble_eq_true rfl⟩) rfl hl.1 rfl (Nat.le_of_ble_eq_true rfl) ⟨Nat.le_of_ble_eq_true rfl, Nat.le_of_ble_eq_true rfl⟩ dX7_readItem_68 ?_
            refine W.eq (g2 := F0 m 71 ls [.int (iI (if ((rdV tx tz.toNat 3 a1.toNat 0).2 : Int) < tz then tx ((rdV tx tz.toNat 3 a1.toNat 0).2 : Int).toNat else 32))]) rfl ?_
            refine lv_iload hc.1 hc.2.1 dX7_readItem_71 (lv_at hl 0 rfl) ?_
            refine nn_icmp_eq hc dX7_readItem_73 (tgt := 78) (by decide) (by omega) (by decide) (fun c69 => ?_) (fun c69 => ?_)
            · have hz1 : ¬ (rdV tx tz.toNat 3 a1.toNat 0).2 = a1.toNat := by omega
              have hnn : nmA tx tz.toNat (nOf (tx ta.toNat) - acc.length - 1) ((rdV tx tz.toNat 3 a1.toNat 0).2 + 1) = none := by rw [hw0]; rcases hnz with z | z | z; exact absurd z hz1; exact absurd (by omega) z; exact z
              refine lv_aload_n hc.1 hc.2.1 dX7_readItem_78 rfl (lv_at hl 2 rfl) ?_
              refine lv_dup hc.1 hc.2.1 dX7_readItem_79 rfl ?_
              refine nn_get hc hw e49 hiX7 rfl 3 (by decide) rfl lk28 dX7_readItem_80 ?_
              refine nn_iconst hc dX7_readItem_83 ?_
              refine nn_iadd hc dX7_readItem_84 ?_
              refine nn_put hc hw e49 hiX7 tyX7 tyX7_ok nmX7 rfl 3 (by decide) (Nat.le_of_ble_eq_true rfl) lk28 rfl rfl rfl dX7_readItem_85 (fun S70 H locs hS70 fS70 hw => ?_)
              have hS70 : S70 t = oO 7 [.ref (t + 1), .ref (t + 2), .int (iI tz), .int (iI (((rdV tx tz.toNat 3 a1.toNat 0).2 : Int) + 1))] := hS70
              refine nn_iinc (lv' := [(4, .int (iI (k + 1))), (5, .int (iI 44)), (0, .ref t), (1, .ref pl), (2, .int (iI kd)), (3, .int (iI wn))]) hc dX7_readItem_88 hl (k0 := 1) rfl (by decide) rfl (fun ls hl => ?_)
              refine lv_goto hc.1 hc.2.1 dX7_readItem_91 (tgt := 23) (by decide) ?_
              have e71 : S70 (t + 2) = oI g 3 (va_up nb1 k.toNat (if (rdV tx tz.toNat 3 a1.toNat 0).2 = a1.toNat then -4 else (rdV tx tz.toNat 3 a1.toNat 0).1)) := (fS70 (t + 2) (off_nr (x := t) (a := 2) (by decide))).trans hS8
              exact ih23 (k + 1) (((rdV tx tz.toNat 3 a1.toNat 0).2 : Int) + 1) (va_up nb1 k.toNat (if (rdV tx tz.toNat 3 a1.toNat 0).2 = a1.toNat then -4 else (rdV tx tz.toNat 3 a1.toNat 0).1)) (acc ++ [(rdV tx tz.toNat 3 a1.toNat 0).1]) S70 _ _ _ (by rw [List.length_append]; simp only [List.length_cons, List.length_nil]; omega) (by rw [if_neg hz1]; exact up_nums (by omega) hnb1) (fun x hx => by rcases List.mem_append.mp hx with q | q; exact hac x q; rw [List.mem_singleton.mp q]; exact ⟨hrg.1, hrg.2 (by decide) (by decide)⟩) (by rw [List.length_append, show (((rdV tx tz.toNat 3 a1.toNat 0).2 : Int) + 1).toNat = (rdV tx tz.toNat 3 a1.toNat 0).2 + 1 by omega, show nOf (tx ta.toNat) - (acc.length + [(rdV tx tz.toNat 3 a1.toNat 0).1].length) = nOf (tx ta.toNat) - acc.length - 1 by simp only [List.length_cons, List.length_nil]; omega]; exact hnn) (fun i hi => by have h9 := hnr i hi; unfold va_up; (repeat' split) <;> omega) hS70 e71 (fun bb hb0 hb1 => ((((fS70 bb hb0)).trans (fS8 bb hb1)).trans (fS6 bb hb0)).trans (fr23 bb hb0 hb1)) hw (by omega) (lv_sub hl [0, 2, 3, 4, 5] rfl)
            · refine nn_iconst hc dX7_readItem_76 ?_
              have e72 : S1 pl = oO 5 [.ref (pl + 1), .ref (pl + 2), .ref (pl + 3), .int (iI nH), .int (iI pHi), .int (iI pWi), .int (iI pLp), .int (iI pBk), .int (iI pHp)] := (fS1 pl (by omega)).trans hp
              have e73 : S2 pl = oO 5 [.ref (pl + 1), .ref (pl + 2), .ref (pl + 3), .int (iI nH), .int (iI pHi), .int (iI pWi), .int (iI pLp), .int (iI pBk), .int (iI pHp)] := (fr23 pl (by omega) (by omega)).trans e72
              have e74 : S6 pl = oO 5 [.ref (pl + 1), .ref (pl + 2), .ref (pl + 3), .int (iI nH), .int (iI pHi), .int (iI pWi), .int (iI pLp), .int (iI pBk), .int (iI pHp)] := (fS6 pl (by omega)).trans e73
              have e75 : S8 pl = oO 5 [.ref (pl + 1), .ref (pl + 2), .ref (pl + 3), .int (iI nH), .int (iI pHi), .int (iI pWi), .int (iI pLp), .int (iI pBk), .int (iI pHp)] := (fS8 pl (by omega)).trans e74
              have e76 : S1 (pl + 1) = oI g 8 ln := (fS1 (pl + 1) (by omega)).trans hln
              have e77 : S2 (pl + 1) = oI g 8 ln := (fr23 (pl + 1) (by omega) (by omega)).trans e76
              have e78 : S6 (pl + 1) = oI g 8 ln := (fS6 (pl + 1) (by omega)).trans e77
              have e79 : S8 (pl + 1) = oI g 8 ln := (fS8 (pl + 1) (by omega)).trans e78
              have e80 : S1 (pl + 2) = oI g 8 br := (fS1 (pl + 2) (by omega)).trans hbr
              have e81 : S2 (pl + 2) = oI g 8 br := (fr23 (pl + 2) (by omega) (by omega)).trans e80
              have e82 : S6 (pl + 2) = oI g 8 br := (fS6 (pl + 2) (by omega)).trans e81
              have e83 : S8 (pl + 2) = oI g 8 br := (fS8 (pl + 2) (by omega)).trans e82
              have e84 : S1 (pl + 3) = oI g 8 sl := (fS1 (pl + 3) (by omega)).trans hsl
              have e85 : S2 (pl + 3) = oI g 8 sl := (fr23 (pl + 3) (by omega) (by omega)).trans e84
              have e86 : S6 (pl + 3) = oI g 8 sl := (fS6 (pl + 3) (by omega)).trans e85
              have e87 : S8 (pl + 3) = oI g 8 sl := (fS8 (pl + 3) (by omega)).trans e86
              exact hret (some (.int (iI 0))) _ S8 _ _ _ _ hw (⟨rfl, rfl, ⟨_, _, _, _, _, _, _, _, _, e75, e79, e83, e87⟩, ⟨_, e49⟩, ⟨_, hS8, fun i hi => by have h9 := hnr i hi; unfold va_up; (repeat' split) <;> omega⟩, fun bb hb0 hb1 hb2 hb3 hb4 hb5 => ((((fS8 bb hb1)).trans (fS6 bb hb0)).trans (fr23 bb hb0 hb1)).trans (fS1 bb hb0)⟩) ⟨_, rfl, by first | rfl | exact nn_nb _, dX7_readItem_77⟩
  have e88 : S1 (t + 2) = oI g 3 nb := (fS1 (t + 2) (off_nr (x := t) (a := 2) (by decide))).trans hnb
  exact lab23 _ 0 (ta + 1) nb ([]) S1 _ _ _ (⟨⟨rfl, by omega⟩, by omega, by omega⟩) (fun i hi => absurd hi (Nat.not_lt_zero i)) (fun x hx => by cases hx) (by rw [show (ta + 1).toNat = ta.toNat + 1 by omega]; exact hnm0) (rnb) hS1 e88 (fun bb _ _ => rfl) hw (Nat.lt_succ_self _) (lv_sub hl [0, 3, 4, 2, 1] rfl)

