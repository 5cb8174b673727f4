set_option maxHeartbeats 4000000 in
set_option maxRecDepth 100000 in
theorem c_X7_readInto_ok (l : Launch) (g : gG) {n : Nat} {S : Nat → gE} {t : Nat} {tz ta : Int} {tx nb : Nat → Int} {pl : Nat} {nH pHi pWi pLp pBk pHp : Int} {ln br sl : Nat → Int} (ht : S t = oO 7 [.ref (t + 1), .ref (t + 2), .int (iI tz), .int (iI ta)]) (htx : S (t + 1) = oC g 200 tx) (hnb : S (t + 2) = oI g 3 nb) (hp : S pl = oO 5 [.ref (pl + 1), .ref (pl + 2), .ref (pl + 3), .int (iI nH), .int (iI pHi), .int (iI pWi), .int (iI pLp), .int (iI pBk), .int (iI pHp)]) (hln : S (pl + 1) = oI g 8 ln) (hbr : S (pl + 2) = oI g 8 br) (hsl : S (pl + 3) = oI g 8 sl) (rtz : 0 ≤ tz ∧ tz ≤ 200) (rtx : ∀ i : Nat, (i : Int) < tz → 32 ≤ tx i ∧ tx i ≤ 126) (rnb : ∀ i : Nat, i < 3 → -1000 ≤ nb i ∧ nb i ≤ 1000) (hd : t + 3 ≤ pl ∨ pl + 4 ≤ t) (hok : (rdC tx tz.toNat 200 0 (0, ln, br, sl, 100, 120, 6, 4, 0)).1 = -4) : g_Cs l yX7_readInto wsX7_readInto { frames := 4, cells := 0, slots := 0, locals := 98 } g [.ref t, .ref pl] n S (fun vr n1 S1 => vr = some (.int (iI (-4))) ∧ n = n1 ∧ S1 pl = oO 5 [.ref (pl + 1), .ref (pl + 2), .ref (pl + 3), .int (iI ((rdC tx tz.toNat 200 0 (0, ln, br, sl, 100, 120, 6, 4, 0)).2.1)), .int (iI ((rdC tx tz.toNat 200 0 (0, ln, br, sl, 100, 120, 6, 4, 0)).2.2.2.2.2.1)), .int (iI ((rdC tx tz.toNat 200 0 (0, ln, br, sl, 100, 120, 6, 4, 0)).2.2.2.2.2.2.1)), .int (iI ((rdC tx tz.toNat 200 0 (0, ln, br, sl, 100, 120, 6, 4, 0)).2.2.2.2.2.2.2.1)), .int (iI ((rdC tx tz.toNat 200 0 (0, ln, br, sl, 100, 120, 6, 4, 0)).2.2.2.2.2.2.2.2.1)), .int (iI ((rdC tx tz.toNat 200 0 (0, ln, br, sl, 100, 120, 6, 4, 0)).2.2.2.2.2.2.2.2.2))] ∧ S1 (pl + 1) = oI g 8 ((rdC tx tz.toNat 200 0 (0, ln, br, sl, 100, 120, 6, 4, 0)).2.2.1) ∧ S1 (pl + 2) = oI g 8 ((rdC tx tz.toNat 200 0 (0, ln, br, sl, 100, 120, 6, 4, 0)).2.2.2.1) ∧ S1 (pl + 3) = oI g 8 ((rdC tx tz.toNat 200 0 (0, ln, br, sl, 100, 120, 6, 4, 0)).2.2.2.2.1) ∧ (∃ z : Int, S1 t = oO 7 [.ref (t + 1), .ref (t + 2), .int (iI tz), .int (iI z)]) ∧ (∃ f : Nat → Int, S1 (t + 2) = oI g 3 f ∧ ∀ i : Nat, i < 3 → -1000 ≤ f i ∧ f i ≤ 1000) ∧ (∀ bb, bb ≠ pl → bb ≠ (pl + 1) → bb ≠ (pl + 2) → bb ≠ (pl + 3) → bb ≠ t → bb ≠ (t + 2) → S1 bb = S bb)) 0 0 := by
  refine g_Cs.of (cc := cX7_readInto) (maxL := 4) (ret := (some .int)) (by decide) rfl (Nat.le_of_ble_eq_true rfl) ?_
  intro pp ee s m below meth cK Q H locs ls hc hnm hw hl hret
  have hl : lv_has ls 4 [(0, .ref t), (1, .ref pl)] := hl
  have hiX7 : ∀ w ∈ u_ws RX7 TX7 4, w ∈ wsX7_readInto := by decide +kernel
  have lk28 : Cond.fieldLink RX7 28 "RoofCourses$Text" "at" "I" ∈ wsX7_readInto := by decide +kernel
  have lk19 : Cond.fieldLink RX7 19 "RoofCourses$Text" "size" "I" ∈ wsX7_readInto := by decide +kernel
  refine lv_aload_n hc.1 hc.2.1 dX7_readInto_0 rfl (lv_at hl 1 rfl) ?_
  refine nn_Vs (As := []) (st := []) hc hw hp rfl (c_X5_clear l g  hp ) (cwV 0 hc.2.2.2.2 gX7_readInto_X5_clear rfl rfl rfl (by decide +kernel) ⟨Nat.le_of_ble_eq_true rfl, Nat.le_of_ble_eq_true rfl⟩) rfl hl.1 rfl (Nat.le_of_ble_eq_true rfl) ⟨Nat.le_of_ble_eq_true rfl, Nat.le_of_ble_eq_true rfl⟩ dX7_readInto_1 (fun vr n1 S1 H locs qS1 hw => ?_)
  obtain ⟨rfl, rfl, hS1_0, fS1⟩ := qS1
  refine W.eq (g2 := F0 m 4 ls []) rfl ?_
  refine lv_aload_n hc.1 hc.2.1 dX7_readInto_4 rfl (lv_at hl 0 rfl) ?_
  refine nn_iconst hc dX7_readInto_5 ?_
  have e2 : S1 t = oO 7 [.ref (t + 1), .ref (t + 2), .int (iI tz), .int (iI ta)] := (fS1 t (by omega)).trans ht
  refine nn_put hc hw e2 hiX7 tyX7 tyX7_ok nmX7 rfl 3 (by decide) (Nat.le_of_ble_eq_true rfl) lk28 rfl rfl rfl dX7_readInto_6 (fun S3 H locs hS3 fS3 hw => ?_)
  have hS3 : S3 t = oO 7 [.ref (t + 1), .ref (t + 2), .int (iI tz), .int (iI 0)] := hS3
  refine nn_iconst hc dX7_readInto_9 ?_
  refine lv_istore_n (lv' := [(2, .int (iI 0)), (0, .ref t), (1, .ref pl)]) hc.1 hc.2.1 dX7_readInto_10 rfl hl (by decide) rfl (fun ls hl => ?_)
  have lab11 : ∀ (fu11 : Nat) (it : Int) (a1 : Int) (Pq : pT) (nb1 : Nat → Int) (S4 : Nat → gE) (H : Heap) (locs : List Loc) (ls : Array Slot), (0 ≤ it ∧ it ≤ a1 ∧ a1 ≤ tz) → (rdC tx tz.toNat 200 0 (0, ln, br, sl, 100, 120, 6, 4, 0) = rdC tx tz.toNat (200 - it).toNat a1.toNat Pq) → (goodP Pq) → (∀ i : Nat, i < 3 → -1000 ≤ nb1 i ∧ nb1 i ≤ 1000) → S4 t = oO 7 [.ref (t + 1), .ref (t + 2), .int (iI tz), .int (iI a1)] → S4 pl = oO 5 [.ref (pl + 1), .ref (pl + 2), .ref (pl + 3), .int (iI Pq.1), .int (iI Pq.2.2.2.2.1), .int (iI Pq.2.2.2.2.2.1), .int (iI Pq.2.2.2.2.2.2.1), .int (iI Pq.2.2.2.2.2.2.2.1), .int (iI Pq.2.2.2.2.2.2.2.2)] → S4 (pl + 1) = oI g 8 Pq.2.1 → S4 (pl + 2) = oI g 8 Pq.2.2.1 → S4 (pl + 3) = oI g 8 Pq.2.2.2.1 → S4 (t + 2) = oI g 3 nb1 → (∀ bb, bb ≠ t → bb ≠ pl → bb ≠ (pl + 1) → bb ≠ (pl + 2) → bb ≠ (pl + 3) → bb ≠ (t + 2) → S4 bb = S3 bb) → g_W g n S4 s H locs → (200 - it).toNat < fu11 → lv_has ls 4 [(2, .int (iI it)), (0, .ref t), (1, .ref pl)] → W pp l ee ({ frames := 4, cells := 0, slots := 0, locals := 98 } : Room) s m ([.ref t, .ref pl] : List Value).toArray below meth cK H locs 0 0 Q (F0 m 11 ls []) := by
    intro fu11
    induction fu11 with
    | zero =>
      intro it a1 Pq nb1 S4 H locs ls hit hQ hgd hnr hc11_0 hc11_1 hc11_2 hc11_3 hc11_4 hc11_5 fr11 hw hmeas hl
      exact absurd hmeas (Nat.not_lt_zero _)
    | succ fu11 ih11 =>
      intro it a1 Pq nb1 S4 H locs ls hit hQ hgd hnr hc11_0 hc11_1 hc11_2 hc11_3 hc11_4 hc11_5 fr11 hw hmeas hl
      refine lv_iload_n hc.1 hc.2.1 dX7_readInto_11 rfl (lv_at hl 0 rfl) ?_
      refine nn_sipush hc dX7_readInto_12 (by decide +kernel) ?_
      refine nn_icmp_ge hc dX7_readInto_15 (tgt := 50) (by decide) (by omega) (by decide) (fun c5 => ?_) (fun c5 => ?_)
      · have hfin : (rdC tx tz.toNat 200 0 (0, ln, br, sl, 100, 120, 6, 4, 0)).2 = Pq := by rw [hQ, rdC_end (by omega)]
        refine nn_bipush hc dX7_readInto_50 (by decide +kernel) ?_
        exact hret (some (.int (iI (-4)))) _ S4 _ _ _ _ hw (⟨rfl, rfl, (by rw [hfin]; exact hc11_1), (by rw [hfin]; exact hc11_2), (by rw [hfin]; exact hc11_3), (by rw [hfin]; exact hc11_4), ⟨_, hc11_0⟩, ⟨_, hc11_5, hnr⟩, fun bb hb0 hb1 hb2 hb3 hb4 hb5 => (((fr11 bb hb4 hb0 hb1 hb2 hb3 hb5)).trans (fS3 bb hb4)).trans (fS1 bb hb0)⟩) ⟨_, rfl, rfl, dX7_readInto_52⟩
      · refine lv_aload_n hc.1 hc.2.1 dX7_readInto_18 rfl (lv_at hl 1 rfl) ?_
        refine nn_get hc hw hc11_0 hiX7 rfl 3 (by decide) rfl lk28 dX7_readInto_19 ?_
        refine lv_aload_n hc.1 hc.2.1 dX7_readInto_22 rfl (lv_at hl 1 rfl) ?_
        refine nn_get hc hw hc11_0 hiX7 rfl 2 (by decide) rfl lk19 dX7_readInto_23 ?_
        refine nn_icmp_ge hc dX7_readInto_26 (tgt := 50) (by decide) (by omega) (by omega) (fun c6 => ?_) (fun c6 => ?_)
        · have hfin : (rdC tx tz.toNat 200 0 (0, ln, br, sl, 100, 120, 6, 4, 0)).2 = Pq := by rw [hQ, rdC_end (by omega)]
          refine nn_bipush hc dX7_readInto_50 (by decide +kernel) ?_
          exact hret (some (.int (iI (-4)))) _ S4 _ _ _ _ hw (⟨rfl, rfl, (by rw [hfin]; exact hc11_1), (by rw [hfin]; exact hc11_2), (by rw [hfin]; exact hc11_3), (by rw [hfin]; exact hc11_4), ⟨_, hc11_0⟩, ⟨_, hc11_5, hnr⟩, fun bb hb0 hb1 hb2 hb3 hb4 hb5 => (((fr11 bb hb4 hb0 hb1 hb2 hb3 hb5)).trans (fS3 bb hb4)).trans (fS1 bb hb0)⟩) ⟨_, rfl, rfl, dX7_readInto_52⟩
        · have hP9 : (Pq.1, Pq.2.1, Pq.2.2.1, Pq.2.2.2.1, Pq.2.2.2.2.1, Pq.2.2.2.2.2.1, Pq.2.2.2.2.2.2.1, Pq.2.2.2.2.2.2.2.1, Pq.2.2.2.2.2.2.2.2) = Pq := rfl
          have hgd9 := hgd
          obtain ⟨hg1, hg2, -⟩ := hgd9
          have hrl : ∀ i : Nat, (i : Int) < Pq.1 → (-1000000 ≤ Pq.2.1 i ∧ Pq.2.1 i ≤ 1000000) ∧ (-1000000 ≤ Pq.2.2.1 i ∧ Pq.2.2.1 i ≤ 1000000) := fun i hi => by have := hg2 i hi; omega
          have hrs : ∀ i : Nat, (i : Int) < Pq.1 → -1000000 ≤ Pq.2.2.2.1 i ∧ Pq.2.2.2.1 i ≤ 1000000 := fun i hi => by have := hg2 i hi; omega
          refine lv_aload_n hc.1 hc.2.1 dX7_readInto_29 rfl (lv_at hl 1 rfl) ?_
          refine nn_get hc hw hc11_0 hiX7 rfl 3 (by decide) rfl lk28 dX7_readInto_30 ?_
          refine lv_istore_n (lv' := [(3, .int (iI a1)), (2, .int (iI it)), (0, .ref t), (1, .ref pl)]) hc.1 hc.2.1 dX7_readInto_33 rfl hl (by decide) rfl (fun ls hl => ?_)
          refine lv_aload_n hc.1 hc.2.1 dX7_readInto_34 rfl (lv_at hl 2 rfl) ?_
          refine lv_aload_n hc.1 hc.2.1 dX7_readInto_35 rfl (lv_at hl 3 rfl) ?_
          rcases hit2 : itC tx tz.toNat a1.toNat Pq with _ | ⟨e2, P2⟩
          · have hzz := itC_none hit2
            exfalso; rw [hQ, show (200 - it).toNat = (200 - it).toNat - 1 + 1 by omega, rdC_none (by omega) hit2] at hok; have hok9 : (a1.toNat : Int) = -4 := hok; omega
          · obtain ⟨ns2, hn2, ht2⟩ := itC_some hit2
            have hle2 := itC_len (by omega) hit2
            have e7 : S1 (t + 1) = oC g 200 tx := (fS1 (t + 1) (by omega)).trans htx
            have e8 : S3 (t + 1) = oC g 200 tx := (fS3 (t + 1) (off_nr (x := t) (a := 1) (by decide))).trans e7
            have e9 : S4 (t + 1) = oC g 200 tx := (fr11 (t + 1) (off_nr (x := t) (a := 1) (by decide)) (by omega) (by omega) (by omega) (by omega) (off_ne (x := t) (a := 1) (b := 2) (by decide))).trans e8
            refine nn_Vs (As := [.ref pl]) (st := []) hc hw hc11_0 rfl (c_X7_readItem_yes l g  hc11_0 e9 hc11_5 hc11_1 hc11_2 hc11_3 hc11_4 (by omega) (by omega) (rtx) (by omega) (hrl) (hrs) (by omega) (hnr) (hn2) (ht2)) (cwV 1 hc.2.2.2.2 gX7_readInto_X7_readItem rfl rfl rfl (by decide +kernel) ⟨Nat.le_of_ble_eq_true rfl, Nat.le_of_ble_eq_true rfl⟩) rfl hl.1 rfl (Nat.le_of_ble_eq_true rfl) ⟨Nat.le_of_ble_eq_true rfl, Nat.le_of_ble_eq_true rfl⟩ dX7_readInto_36 (fun vr n1 S10 H locs qS10 hw => ?_)
            obtain ⟨rfl, rfl, hS10_0, hS10_1, hS10_2, hS10_3, hS10_4, kS10_0, fS10⟩ := qS10
            refine W.eq (g2 := F0 m 39 ls [.int (iI 1)]) rfl ?_
            refine nn_if_ne hc dX7_readInto_39 (tgt := 44) (by decide) (by decide) (fun c11 => ?_) (fun c11 => ?_)
            · obtain ⟨nf2, hnf1, hnf2⟩ := kS10_0
              have hx12 : S10 (t + 2) = oI g 3 nf2 := hnf1
              refine nn_iinc (lv' := [(2, .int (iI (it + 1))), (3, .int (iI a1)), (0, .ref t), (1, .ref pl)]) hc dX7_readInto_44 hl (k0 := 1) rfl (by decide) rfl (fun ls hl => ?_)
              refine lv_goto hc.1 hc.2.1 dX7_readInto_47 (tgt := 11) (by decide) ?_
              exact ih11 (it + 1) (e2 : Int) P2 nf2 S10 _ _ _ (by omega) (by rw [hQ, show (200 - it).toNat = (200 - (it + 1)).toNat + 1 by omega, rdC_some (by omega) hit2, Int.toNat_natCast]) (itC_good hgd hit2) (hnf2) hS10_0 hS10_1 hS10_2 hS10_3 hS10_4 hx12 (fun bb hb0 hb1 hb2 hb3 hb4 hb5 => ((fS10 bb hb0 hb1 hb2 hb3 hb4 hb5)).trans (fr11 bb hb0 hb1 hb2 hb3 hb4 hb5)) hw (by omega) (lv_sub hl [0, 2, 3] rfl)
            · exact absurd c11 (by decide)
  have e13 : S3 pl = oO 5 [.ref (pl + 1), .ref (pl + 2), .ref (pl + 3), .int (iI 0), .int (iI 100), .int (iI 120), .int (iI 6), .int (iI 4), .int (iI 0)] := (fS3 pl (by omega)).trans hS1_0
  have e14 : S1 (pl + 1) = oI g 8 ln := (fS1 (pl + 1) (off_nr (x := pl) (a := 1) (by decide))).trans hln
  have e15 : S3 (pl + 1) = oI g 8 ln := (fS3 (pl + 1) (by omega)).trans e14
  have e16 : S1 (pl + 2) = oI g 8 br := (fS1 (pl + 2) (off_nr (x := pl) (a := 2) (by decide))).trans hbr
  have e17 : S3 (pl + 2) = oI g 8 br := (fS3 (pl + 2) (by omega)).trans e16
  have e18 : S1 (pl + 3) = oI g 8 sl := (fS1 (pl + 3) (off_nr (x := pl) (a := 3) (by decide))).trans hsl
  have e19 : S3 (pl + 3) = oI g 8 sl := (fS3 (pl + 3) (by omega)).trans e18
  have e20 : S1 (t + 2) = oI g 3 nb := (fS1 (t + 2) (by omega)).trans hnb
  have e21 : S3 (t + 2) = oI g 3 nb := (fS3 (t + 2) (off_nr (x := t) (a := 2) (by decide))).trans e20
  exact lab11 _ 0 0 (0, ln, br, sl, 100, 120, 6, 4, 0) nb S3 _ _ _ (by omega) (rfl) (goodP_0 ln br sl) (rnb) hS3 e13 e15 e17 e19 e21 (fun bb _ _ _ _ _ _ => rfl) hw (Nat.lt_succ_self _) (lv_sub hl [0, 1, 2] rfl)

set_option maxHeartbeats 4000000 in
set_option maxRecDepth 100000 in
theorem c_X7_readInto_bad (l : Launch) (g : gG) {n : Nat} {S : Nat → gE} {t : Nat} {tz ta : Int} {tx nb : Nat → Int} {pl : Nat} {nH pHi pWi pLp pBk pHp : Int} {ln br sl : Nat → Int} (ht : S t = oO 7 [.ref (t + 1), .ref (t + 2), .int (iI tz), .int (iI ta)]) (htx : S (t + 1) = oC g 200 tx) (hnb : S (t + 2) = oI g 3 nb) (hp : S pl = oO 5 [.ref (pl + 1), .ref (pl + 2), .ref (pl + 3), .int (iI nH), .int (iI pHi), .int (iI pWi), .int (iI pLp), .int (iI pBk), .int (iI pHp)]) (hln : S (pl + 1) = oI g 8 ln) (hbr : S (pl + 2) = oI g 8 br) (hsl : S (pl + 3) = oI g 8 sl) (rtz : 0 ≤ tz ∧ tz ≤ 200) (rtx : ∀ i : Nat, (i : Int) < tz → 32 ≤ tx i ∧ tx i ≤ 126) (rnb : ∀ i : Nat, i < 3 → -1000 ≤ nb i ∧ nb i ≤ 1000) (hd : t + 3 ≤ pl ∨ pl + 4 ≤ t) (hbad : (rdC tx tz.toNat 200 0 (0, ln, br, sl, 100, 120, 6, 4, 0)).1 ≠ -4) : g_Cs l yX7_readInto wsX7_readInto { frames := 4, cells := 0, slots := 0, locals := 98 } g [.ref t, .ref pl] n S (fun vr n1 S1 => vr = some (.int (iI ((rdC tx tz.toNat 200 0 (0, ln, br, sl, 100, 120, 6, 4, 0)).1))) ∧ n = n1 ∧ gbP g S1 pl ∧ (∃ z : Int, S1 t = oO 7 [.ref (t + 1), .ref (t + 2), .int (iI tz), .int (iI z)]) ∧ (∃ f : Nat → Int, S1 (t + 2) = oI g 3 f ∧ ∀ i : Nat, i < 3 → -1000 ≤ f i ∧ f i ≤ 1000) ∧ (∀ bb, bb ≠ pl → bb ≠ (pl + 1) → bb ≠ (pl + 2) → bb ≠ (pl + 3) → bb ≠ t → bb ≠ (t + 2) → S1 bb = S bb)) 0 0 := by
  refine g_Cs.of (cc := cX7_readInto) (maxL := 4) (ret := (some .int)) (by decide) rfl (Nat.le_of_ble_eq_true rfl) ?_
  intro pp ee s m below meth cK Q H locs ls hc hnm hw hl hret
  have hl : lv_has ls 4 [(0, .ref t), (1, .ref pl)] := hl
  have hiX7 : ∀ w ∈ u_ws RX7 TX7 4, w ∈ wsX7_readInto := by decide +kernel
  have lk28 : Cond.fieldLink RX7 28 "RoofCourses$Text" "at" "I" ∈ wsX7_readInto := by decide +kernel
  have lk19 : Cond.fieldLink RX7 19 "RoofCourses$Text" "size" "I" ∈ wsX7_readInto := by decide +kernel
  refine lv_aload_n hc.1 hc.2.1 dX7_readInto_0 rfl (lv_at hl 1 rfl) ?_
  refine nn_Vs (As := []) (st := []) hc hw hp rfl (c_X5_clear l g  hp ) (cwV 0 hc.2.2.2.2 gX7_readInto_X5_clear rfl rfl rfl (by decide +kernel) ⟨Nat.le_of_ble_eq_true rfl, Nat.le_of_ble_eq_true rfl⟩) rfl hl.1 rfl (Nat.le_of_ble_eq_true rfl) ⟨Nat.le_of_ble_eq_true rfl, Nat.le_of_ble_eq_true rfl⟩ dX7_readInto_1 (fun vr n1 S1 H locs qS1 hw => ?_)
  obtain ⟨rfl, rfl, hS1_0, fS1⟩ := qS1
  refine W.eq (g2 := F0 m 4 ls []) rfl ?_
  refine lv_aload_n hc.1 hc.2.1 dX7_readInto_4 rfl (lv_at hl 0 rfl) ?_
  refine nn_iconst hc dX7_readInto_5 ?_
  have e2 : S1 t = oO 7 [.ref (t + 1), .ref (t + 2), .int (iI tz), .int (iI ta)] := (fS1 t (by omega)).trans ht
  refine nn_put hc hw e2 hiX7 tyX7 tyX7_ok nmX7 rfl 3 (by decide) (Nat.le_of_ble_eq_true rfl) lk28 rfl rfl rfl dX7_readInto_6 (fun S3 H locs hS3 fS3 hw => ?_)
  have hS3 : S3 t = oO 7 [.ref (t + 1), .ref (t + 2), .int (iI tz), .int (iI 0)] := hS3
  refine nn_iconst hc dX7_readInto_9 ?_
  refine lv_istore_n (lv' := [(2, .int (iI 0)), (0, .ref t), (1, .ref pl)]) hc.1 hc.2.1 dX7_readInto_10 rfl hl (by decide) rfl (fun ls hl => ?_)
  have lab11 : ∀ (fu11 : Nat) (it : Int) (a1 : Int) (Pq : pT) (nb1 : Nat → Int) (S4 : Nat → gE) (H : Heap) (locs : List Loc) (ls : Array Slot), (0 ≤ it ∧ it ≤ a1 ∧ a1 ≤ tz) → (rdC tx tz.toNat 200 0 (0, ln, br, sl, 100, 120, 6, 4, 0) = rdC tx tz.toNat (200 - it).toNat a1.toNat Pq) → (goodP Pq) → (∀ i : Nat, i < 3 → -1000 ≤ nb1 i ∧ nb1 i ≤ 1000) → S4 t = oO 7 [.ref (t + 1), .ref (t + 2), .int (iI tz), .int (iI a1)] → S4 pl = oO 5 [.ref (pl + 1), .ref (pl + 2), .ref (pl + 3), .int (iI Pq.1), .int (iI Pq.2.2.2.2.1), .int (iI Pq.2.2.2.2.2.1), .int (iI Pq.2.2.2.2.2.2.1), .int (iI Pq.2.2.2.2.2.2.2.1), .int (iI Pq.2.2.2.2.2.2.2.2)] → S4 (pl + 1) = oI g 8 Pq.2.1 → S4 (pl + 2) = oI g 8 Pq.2.2.1 → S4 (pl + 3) = oI g 8 Pq.2.2.2.1 → S4 (t + 2) = oI g 3 nb1 → (∀ bb, bb ≠ t → bb ≠ pl → bb ≠ (pl + 1) → bb ≠ (pl + 2) → bb ≠ (pl + 3) → bb ≠ (t + 2) → S4 bb = S3 bb) → g_W g n S4 s H locs → (200 - it).toNat < fu11 → lv_has ls 4 [(2, .int (iI it)), (0, .ref t), (1, .ref pl)] → W pp l ee ({ frames := 4, cells := 0, slots := 0, locals := 98 } : Room) s m ([.ref t, .ref pl] : List Value).toArray below meth cK H locs 0 0 Q (F0 m 11 ls []) := by
    intro fu11
    induction fu11 with
    | zero =>
      intro it a1 Pq nb1 S4 H locs ls hit hQ hgd hnr hc11_0 hc11_1 hc11_2 hc11_3 hc11_4 hc11_5 fr11 hw hmeas hl
      exact absurd hmeas (Nat.not_lt_zero _)
    | succ fu11 ih11 =>
      intro it a1 Pq nb1 S4 H locs ls hit hQ hgd hnr hc11_0 hc11_1 hc11_2 hc11_3 hc11_4 hc11_5 fr11 hw hmeas hl
      refine lv_iload_n hc.1 hc.2.1 dX7_readInto_11 rfl (lv_at hl 0 rfl) ?_
      refine nn_sipush hc dX7_readInto_12 (by decide +kernel) ?_
      refine nn_icmp_ge hc dX7_readInto_15 (tgt := 50) (by decide) (by omega) (by decide) (fun c5 => ?_) (fun c5 => ?_)
      · exfalso; rw [hQ, rdC_end (by omega)] at hbad; exact hbad rfl
      · refine lv_aload_n hc.1 hc.2.1 dX7_readInto_18 rfl (lv_at hl 1 rfl) ?_
        refine nn_get hc hw hc11_0 hiX7 rfl 3 (by decide) rfl lk28 dX7_readInto_19 ?_
        refine lv_aload_n hc.1 hc.2.1 dX7_readInto_22 rfl (lv_at hl 1 rfl) ?_
        refine nn_get hc hw hc11_0 hiX7 rfl 2 (by decide) rfl lk19 dX7_readInto_23 ?_
        refine nn_icmp_ge hc dX7_readInto_26 (tgt := 50) (by decide) (by omega) (by omega) (fun c6 => ?_) (fun c6 => ?_)
        · exfalso; rw [hQ, rdC_end (by omega)] at hbad; exact hbad rfl
        · have hP9 : (Pq.1, Pq.2.1, Pq.2.2.1, Pq.2.2.2.1, Pq.2.2.2.2.1, Pq.2.2.2.2.2.1, Pq.2.2.2.2.2.2.1, Pq.2.2.2.2.2.2.2.1, Pq.2.2.2.2.2.2.2.2) = Pq := rfl
          have hgd9 := hgd
          obtain ⟨hg1, hg2, -⟩ := hgd9
          have hrl : ∀ i : Nat, (i : Int) < Pq.1 → (-1000000 ≤ Pq.2.1 i ∧ Pq.2.1 i ≤ 1000000) ∧ (-1000000 ≤ Pq.2.2.1 i ∧ Pq.2.2.1 i ≤ 1000000) := fun i hi => by have := hg2 i hi; omega
          have hrs : ∀ i : Nat, (i : Int) < Pq.1 → -1000000 ≤ Pq.2.2.2.1 i ∧ Pq.2.2.2.1 i ≤ 1000000 := fun i hi => by have := hg2 i hi; omega
          refine lv_aload_n hc.1 hc.2.1 dX7_readInto_29 rfl (lv_at hl 1 rfl) ?_
          refine nn_get hc hw hc11_0 hiX7 rfl 3 (by decide) rfl lk28 dX7_readInto_30 ?_
          refine lv_istore_n (lv' := [(3, .int (iI a1)), (2, .int (iI it)), (0, .ref t), (1, .ref pl)]) hc.1 hc.2.1 dX7_readInto_33 rfl hl (by decide) rfl (fun ls hl => ?_)
          refine lv_aload_n hc.1 hc.2.1 dX7_readInto_34 rfl (lv_at hl 2 rfl) ?_
          refine lv_aload_n hc.1 hc.2.1 dX7_readInto_35 rfl (lv_at hl 3 rfl) ?_
          rcases hit2 : itC tx tz.toNat a1.toNat Pq with _ | ⟨e2, P2⟩
          · have hzz := itC_none hit2
            rcases hzz with hn2 | ⟨ns2, e2, hn2, ht2⟩
            · have e7 : S1 (t + 1) = oC g 200 tx := (fS1 (t + 1) (by omega)).trans htx
              have e8 : S3 (t + 1) = oC g 200 tx := (fS3 (t + 1) (off_nr (x := t) (a := 1) (by decide))).trans e7
              have e9 : S4 (t + 1) = oC g 200 tx := (fr11 (t + 1) (off_nr (x := t) (a := 1) (by decide)) (by omega) (by omega) (by omega) (by omega) (off_ne (x := t) (a := 1) (b := 2) (by decide))).trans e8
              refine nn_Vs (As := [.ref pl]) (st := []) hc hw hc11_0 rfl (c_X7_readItem_noN l g  hc11_0 e9 hc11_5 hc11_1 hc11_2 hc11_3 hc11_4 (by omega) (by omega) (rtx) (by omega) (hrl) (hrs) (by omega) (hnr) (hn2)) (cwV 1 hc.2.2.2.2 gX7_readInto_X7_readItem rfl rfl rfl (by decide +kernel) ⟨Nat.le_of_ble_eq_true rfl, Nat.le_of_ble_eq_true rfl⟩) rfl hl.1 rfl (Nat.le_of_ble_eq_true rfl) ⟨Nat.le_of_ble_eq_true rfl, Nat.le_of_ble_eq_true rfl⟩ dX7_readInto_36 (fun vr n1 S10 H locs qS10 hw => ?_)
              obtain ⟨rfl, rfl, kS10_0, kS10_1, kS10_2, fS10⟩ := qS10
              refine W.eq (g2 := F0 m 39 ls [.int (iI 0)]) rfl ?_
              refine nn_if_ne hc dX7_readInto_39 (tgt := 44) (by decide) (by decide) (fun c11 => ?_) (fun c11 => ?_)
              · exact absurd c11 (by decide)
              · have hfin : (rdC tx tz.toNat 200 0 (0, ln, br, sl, 100, 120, 6, 4, 0)).1 = a1 := by rw [hQ, show (200 - it).toNat = (200 - it).toNat - 1 + 1 by omega, rdC_none (by omega) hit2]; show ((a1.toNat : Nat) : Int) = a1; omega
                refine lv_iload_n hc.1 hc.2.1 dX7_readInto_42 rfl (lv_at hl 0 rfl) ?_
                exact hret (some (.int (iI a1))) _ S10 _ _ _ _ hw (⟨congrArg (fun z => some (Value.int (iI z))) hfin.symm, rfl, kS10_0, kS10_1, kS10_2, fun bb hb0 hb1 hb2 hb3 hb4 hb5 => ((((fS10 bb hb4 hb5 hb0 hb1 hb2 hb3)).trans (fr11 bb hb4 hb0 hb1 hb2 hb3 hb5)).trans (fS3 bb hb4)).trans (fS1 bb hb0)⟩) ⟨_, rfl, rfl, dX7_readInto_43⟩
            · have e12 : S1 (t + 1) = oC g 200 tx := (fS1 (t + 1) (by omega)).trans htx
              have e13 : S3 (t + 1) = oC g 200 tx := (fS3 (t + 1) (off_nr (x := t) (a := 1) (by decide))).trans e12
              have e14 : S4 (t + 1) = oC g 200 tx := (fr11 (t + 1) (off_nr (x := t) (a := 1) (by decide)) (by omega) (by omega) (by omega) (by omega) (off_ne (x := t) (a := 1) (b := 2) (by decide))).trans e13
              refine nn_Vs (As := [.ref pl]) (st := []) hc hw hc11_0 rfl (c_X7_readItem_noT l g  hc11_0 e14 hc11_5 hc11_1 hc11_2 hc11_3 hc11_4 (by omega) (by omega) (rtx) (by omega) (hrl) (hrs) (by omega) (hnr) (hn2) (ht2)) (cwV 1 hc.2.2.2.2 gX7_readInto_X7_readItem rfl rfl rfl (by decide +kernel) ⟨Nat.le_of_ble_eq_true rfl, Nat.le_of_ble_eq_true rfl⟩) rfl hl.1 rfl (Nat.le_of_ble_eq_true rfl) ⟨Nat.le_of_ble_eq_true rfl, Nat.le_of_ble_eq_true rfl⟩ dX7_readInto_36 (fun vr n1 S15 H locs qS15 hw => ?_)
              obtain ⟨rfl, rfl, kS15_0, kS15_1, kS15_2, fS15⟩ := qS15
              refine W.eq (g2 := F0 m 39 ls [.int (iI 0)]) rfl ?_
              refine nn_if_ne hc dX7_readInto_39 (tgt := 44) (by decide) (by decide) (fun c16 => ?_) (fun c16 => ?_)
              · exact absurd c16 (by decide)
              · have hfin : (rdC tx tz.toNat 200 0 (0, ln, br, sl, 100, 120, 6, 4, 0)).1 = a1 := by rw [hQ, show (200 - it).toNat = (200 - it).toNat - 1 + 1 by omega, rdC_none (by omega) hit2]; show ((a1.toNat : Nat) : Int) = a1; omega
                refine lv_iload_n hc.1 hc.2.1 dX7_readInto_42 rfl (lv_at hl 0 rfl) ?_
                exact hret (some (.int (iI a1))) _ S15 _ _ _ _ hw (⟨congrArg (fun z => some (Value.int (iI z))) hfin.symm, rfl, kS15_0, kS15_1, kS15_2, fun bb hb0 hb1 hb2 hb3 hb4 hb5 => ((((fS15 bb hb4 hb5 hb0 hb1 hb2 hb3)).trans (fr11 bb hb4 hb0 hb1 hb2 hb3 hb5)).trans (fS3 bb hb4)).trans (fS1 bb hb0)⟩) ⟨_, rfl, rfl, dX7_readInto_43⟩
          · obtain ⟨ns2, hn2, ht2⟩ := itC_some hit2
            have hle2 := itC_len (by omega) hit2
            have e17 : S1 (t + 1) = oC g 200 tx := (fS1 (t + 1) (by omega)).trans htx
            have e18 : S3 (t + 1) = oC g 200 tx := (fS3 (t + 1) (off_nr (x := t) (a := 1) (by decide))).trans e17
            have e19 : S4 (t + 1) = oC g 200 tx := (fr11 (t + 1) (off_nr (x := t) (a := 1) (by decide)) (by omega) (by omega) (by omega) (by omega) (off_ne (x := t) (a := 1) (b := 2) (by decide))).trans e18
            refine nn_Vs (As := [.ref pl]) (st := []) hc hw hc11_0 rfl (c_X7_readItem_yes l g  hc11_0 e19 hc11_5 hc11_1 hc11_2 hc11_3 hc11_4 (by omega) (by omega) (rtx) (by omega) (hrl) (hrs) (by omega) (hnr) (hn2) (ht2)) (cwV 1 hc.2.2.2.2 gX7_readInto_X7_readItem rfl rfl rfl (by decide +kernel) ⟨Nat.le_of_ble_eq_true rfl, Nat.le_of_ble_eq_true rfl⟩) rfl hl.1 rfl (Nat.le_of_ble_eq_true rfl) ⟨Nat.le_of_ble_eq_true rfl, Nat.le_of_ble_eq_true rfl⟩ dX7_readInto_36 (fun vr n1 S20 H locs qS20 hw => ?_)
            obtain ⟨rfl, rfl, hS20_0, hS20_1, hS20_2, hS20_3, hS20_4, kS20_0, fS20⟩ := qS20
            refine W.eq (g2 := F0 m 39 ls [.int (iI 1)]) rfl ?_
            refine nn_if_ne hc dX7_readInto_39 (tgt := 44) (by decide) (by decide) (fun c21 => ?_) (fun c21 => ?_)
            · obtain ⟨nf2, hnf1, hnf2⟩ := kS20_0
              have hx22 : S20 (t + 2) = oI g 3 nf2 := hnf1
              refine nn_iinc (lv' := [(2, .int (iI (it + 1))), (3, .int (iI a1)), (0, .ref t), (1, .ref pl)]) hc dX7_readInto_44 hl (k0 := 1) rfl (by decide) rfl (fun ls hl => ?_)
              refine lv_goto hc.1 hc.2.1 dX7_readInto_47 (tgt := 11) (by decide) ?_
              exact ih11 (it + 1) (e2 : Int) P2 nf2 S20 _ _ _ (by omega) (by rw [hQ, show (200 - it).toNat = (200 - (it + 1)).toNat + 1 by omega, rdC_some (by omega) hit2, Int.toNat_natCast]) (itC_good hgd hit2) (hnf2) hS20_0 hS20_1 hS20_2 hS20_3 hS20_4 hx22 (fun bb hb0 hb1 hb2 hb3 hb4 hb5 => ((fS20 bb hb0 hb1 hb2 hb3 hb4 hb5)).trans (fr11 bb hb0 hb1 hb2 hb3 hb4 hb5)) hw (by omega) (lv_sub hl [0, 2, 3] rfl)
            · exact absurd c21 (by decide)
  have e23 : S3 pl = oO 5 [.ref (pl + 1), .ref (pl + 2), .ref (pl + 3), .int (iI 0), .int (iI 100), .int (iI 120), .int (iI 6), .int (iI 4), .int (iI 0)] := (fS3 pl (by omega)).trans hS1_0
  have e24 : S1 (pl + 1) = oI g 8 ln := (fS1 (pl + 1) (off_nr (x := pl) (a := 1) (by decide))).trans hln
  have e25 : S3 (pl + 1) = oI g 8 ln := (fS3 (pl + 1) (by omega)).trans e24
  have e26 : S1 (pl + 2) = oI g 8 br := (fS1 (pl + 2) (off_nr (x := pl) (a := 2) (by decide))).trans hbr
  have e27 : S3 (pl + 2) = oI g 8 br := (fS3 (pl + 2) (by omega)).trans e26
  have e28 : S1 (pl + 3) = oI g 8 sl := (fS1 (pl + 3) (off_nr (x := pl) (a := 3) (by decide))).trans hsl
  have e29 : S3 (pl + 3) = oI g 8 sl := (fS3 (pl + 3) (by omega)).trans e28
  have e30 : S1 (t + 2) = oI g 3 nb := (fS1 (t + 2) (by omega)).trans hnb
  have e31 : S3 (t + 2) = oI g 3 nb := (fS3 (t + 2) (off_nr (x := t) (a := 2) (by decide))).trans e30
  exact lab11 _ 0 0 (0, ln, br, sl, 100, 120, 6, 4, 0) nb S3 _ _ _ (by omega) (rfl) (goodP_0 ln br sl) (rnb) hS3 e23 e25 e27 e29 e31 (fun bb _ _ _ _ _ _ => rfl) hw (Nat.lt_succ_self _) (lv_sub hl [0, 1, 2] rfl)

