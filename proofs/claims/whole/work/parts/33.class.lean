set_option maxHeartbeats 4000000 in
set_option maxRecDepth 100000 in
theorem c_K_course_bad (l : Launch) (g : gG) {n : Nat} {S : Nat → gE} {x tr : Nat} {fl : Int} (hx : S x = oO 8 [.ref (x + 1), .ref (x + 4), .ref (x + 8), .ref (x + 12), .ref (x + 14), .ref (x + 20), .ref (x + 31), .ref tr]) (r_fl : -2147483648 ≤ fl ∧ fl < 2147483648) (hb : ¬ (20 ≤ fl ∧ fl ≤ 60)) : g_Cs l yX8_course wsX8_course { frames := 1, cells := 4, slots := 133, locals := 22 } g [.ref x, .int (iI fl)] n S (fun vr n1 S1 => vr = some (.int (iI (-1))) ∧ n = n1 ∧ S = S1) 4 133 := by
  refine g_Cs.of (cc := cX8_course) (maxL := 3) (ret := (some .int)) (by decide) rfl (Nat.le_of_ble_eq_true rfl) ?_
  intro pp ee s m below meth cK Q H locs ls hc hnm hw hl hret
  have hl : lv_has ls 3 [(0, .ref x), (1, .int (iI fl))] := hl
  refine lv_iload_n hc.1 hc.2.1 dX8_course_0 rfl (lv_at hl 1 rfl) ?_
  refine nn_bipush hc dX8_course_1 (by decide +kernel) ?_
  refine nn_bipush hc dX8_course_3 (by decide +kernel) ?_
  refine nn_Sp (As := [.int (iI fl), .int (iI 20), .int (iI 60)]) (st := []) hc hw (c_X8_isWithin l g   (by omega) (by omega) (by omega)) (va_cwS 3 hc.2.2.2.2 gX8_course_X8_isWithin rfl rfl rfl (by decide +kernel) ⟨Nat.le_of_ble_eq_true rfl, Nat.le_of_ble_eq_true rfl⟩) rfl hl.1 rfl (Nat.le_of_ble_eq_true rfl) ⟨Nat.le_of_ble_eq_true rfl, Nat.le_of_ble_eq_true rfl⟩ dX8_course_5 ?_
  refine W.eq (g2 := F0 m 8 ls [.int (iI (if 20 ≤ fl ∧ fl ≤ 60 then 1 else 0))]) rfl ?_
  refine nn_if_ne hc dX8_course_8 (tgt := 13) (by decide) (by omega) (fun c1 => ?_) (fun c1 => ?_)
  · exfalso; omega
  · refine nn_iconst hc dX8_course_11 ?_
    refine W.widen (k := 4) (n := 133) (by decide) (by decide) ?_
    exact hret (some (.int (iI (-1)))) _ S _ _ _ _ hw (⟨rfl, rfl, rfl⟩) ⟨_, rfl, rfl, dX8_course_12⟩

set_option maxHeartbeats 4000000 in
set_option maxRecDepth 100000 in
theorem c_K_course_no (l : Launch) (g : gG) {n : Nat} {S : Nat → gE} {x tr q : Nat} {nH pHi pWi pLp pBk pHp : Int} {ln br : Nat → Int} {rest lv : Nat → Int} {zR : Int} {cs : Nat → Option Nat} {t1 t2 t3 t4 t5 t6 t7 : Int} {tf te : Nat → Int} {qL qF qG qR : Int} {ed : Nat → Int} {bs : sL} {fl : Int} (hx : S x = oO 8 [.ref (x + 1), .ref (x + 4), .ref (x + 8), .ref (x + 12), .ref (x + 14), .ref (x + 20), .ref (x + 31), .ref tr]) (hp : S (x + 4) = oO 5 [.ref (x + 5), .ref (x + 6), .ref (x + 7), .int (iI nH), .int (iI pHi), .int (iI pWi), .int (iI pLp), .int (iI pBk), .int (iI pHp)]) (hln : S (x + 5) = oI g 8 ln) (hbr : S (x + 6) = oI g 8 br) (hy : S (x + 12) = oO 4 [.ref (x + 4), .ref (x + 13)]) (hrs : S (x + 13) = oI g 8 rest) (ho : S (x + 14) = oO 6 [.ref (x + 4), .ref (x + 15), .ref (x + 16), .ref (x + 17), .int (iI zR)]) (hlv : S (x + 15) = oI g 8 lv) (hcs : S (x + 16) = oR g 2 20 cs) (htr0 : S tr = oO 3 [.ref (tr + 1), .ref (tr + 2), .int (iI t1), .int (iI t2), .int (iI t3), .int (iI t4), .int (iI t5), .int (iI t6), .int (iI t7)]) (htr1 : S (tr + 1) = oI g 60 tf) (htr2 : S (tr + 2) = oI g 60 te) (hq0 : S q = oO 3 [.ref (q + 1), .ref (q + 2), .int (iI qL), .int (iI qF), .int (iI qG), .int (iI qR), .int (iI (bs.length : Int)), .int (iI (wst br qL bs)), .int (iI (cuts br bs))]) (hq2 : S (q + 2) = oI g 60 ed) (rH : 0 ≤ nH ∧ nH ≤ 8) (rP : ∀ i : Nat, (i : Int) < nH → (20 ≤ ln i ∧ ln i ≤ 60) ∧ (10 ≤ br i ∧ br i ≤ 60)) (rV : ∀ i : Nat, (i : Int) < nH → 0 ≤ lv i ∧ lv i ≤ 1000000) (rbk : 0 ≤ pBk ∧ pBk ≤ 1000000) (rlp : 0 ≤ pLp ∧ pLp ≤ 10) (rwi : 0 ≤ pWi ∧ pWi ≤ 1000) (rhp : 0 ≤ pHp ∧ pHp ≤ 9) (rhi : 0 ≤ pHi ∧ pHi ≤ 100000) (rzR : 0 ≤ zR ∧ zR ≤ 20) (hla : (0 < zR ∧ cs (zR - 1).toNat = some q) ∨ (zR = 0 ∧ q = x + 17)) (rqL : 0 ≤ qL ∧ qL ≤ 60) (rft : (0 ≤ qF + qG ∧ qF + qG ≤ 1000) ∧ bs.length ≤ 60) (hbs : ∀ i : Nat, i < bs.length → ed i = slE bs i) (hbe : ∀ i : Nat, -1000000 ≤ slE bs i ∧ slE bs i ≤ 1000000) (htra : tr = x + 33 ∨ x + 47 ≤ tr) (hqa : q = x + 17 ∨ q = x + 33 ∨ x + 47 ≤ q) (hqt : q + 3 ≤ tr ∨ tr + 3 ≤ q) (hb : 20 ≤ fl ∧ fl ≤ 60) (hno : ¬ (zR < 20 ∧ qF + qG < pHi ∧ fl ≤ qL) ∨ layC nH.toNat ln br pWi pHp pBk fl lv (qF + qG) bs = none) : g_Cs l yX8_course wsX8_course { frames := 6, cells := 4, slots := 133, locals := 136 } g [.ref x, .int (iI fl)] n S (fun vr n1 S1 => vr = some (.int (iI (-2))) ∧ n = n1 ∧ gbc g S1 tr ∧ (∃ f : Nat → Int, S1 (x + 13) = oI g 8 f) ∧ (∀ bb, bb ≠ (x + 13) → bb ≠ tr → bb ≠ (tr + 1) → bb ≠ (tr + 2) → S1 bb = S bb)) 4 133 := by
  refine g_Cs.of (cc := cX8_course) (maxL := 3) (ret := (some .int)) (by decide) rfl (Nat.le_of_ble_eq_true rfl) ?_
  intro pp ee s m below meth cK Q H locs ls hc hnm hw hl hret
  have hl : lv_has ls 3 [(0, .ref x), (1, .int (iI fl))] := hl
  refine lv_iload_n hc.1 hc.2.1 dX8_course_0 rfl (lv_at hl 1 rfl) ?_
  refine nn_bipush hc dX8_course_1 (by decide +kernel) ?_
  refine nn_bipush hc dX8_course_3 (by decide +kernel) ?_
  refine nn_Sp (As := [.int (iI fl), .int (iI 20), .int (iI 60)]) (st := []) hc hw (c_X8_isWithin l g   (by omega) (by omega) (by omega)) (va_cwS 3 hc.2.2.2.2 gX8_course_X8_isWithin rfl rfl rfl (by decide +kernel) ⟨Nat.le_of_ble_eq_true rfl, Nat.le_of_ble_eq_true rfl⟩) rfl hl.1 rfl (Nat.le_of_ble_eq_true rfl) ⟨Nat.le_of_ble_eq_true rfl, Nat.le_of_ble_eq_true rfl⟩ dX8_course_5 ?_
  refine W.eq (g2 := F0 m 8 ls [.int (iI (if 20 ≤ fl ∧ fl ≤ 60 then 1 else 0))]) rfl ?_
  refine nn_if_ne hc dX8_course_8 (tgt := 13) (by decide) (by omega) (fun c1 => ?_) (fun c1 => ?_)
  · refine lv_aload_n hc.1 hc.2.1 dX8_course_13 rfl (lv_at hl 0 rfl) ?_
    refine lv_iload_n hc.1 hc.2.1 dX8_course_14 rfl (lv_at hl 1 rfl) ?_
    refine nn_Vs (As := [.int (iI fl)]) (st := []) hc hw hx rfl (c_K_fillTrial_no l g  hx hp hln hbr hy hrs ho hlv hcs htr0 htr1 htr2 hq0 hq2 (rH) (rP) (rV) (rbk) (rlp) (rwi) (rhp) (rhi) (rzR) (hla) (rqL) (rft) (hbs) (hbe) (htra) (hqa) (hqt) (by omega) (hno)) (cwV 1 hc.2.2.2.2 gX8_course_X8_fillTrial rfl rfl rfl (by decide +kernel) ⟨Nat.le_of_ble_eq_true rfl, Nat.le_of_ble_eq_true rfl⟩) rfl hl.1 rfl (Nat.le_of_ble_eq_true rfl) ⟨Nat.le_of_ble_eq_true rfl, Nat.le_of_ble_eq_true rfl⟩ dX8_course_15 (fun vr n1 S2 H locs qS2 hw => ?_)
    obtain ⟨rfl, rfl, kS2_0, kS2_1, fS2⟩ := qS2
    refine W.eq (g2 := F0 m 18 ls [.int (iI 0)]) rfl ?_
    refine nn_if_ne hc dX8_course_18 (tgt := 24) (by decide) (by decide) (fun c3 => ?_) (fun c3 => ?_)
    · exact absurd c3 (by decide)
    · refine nn_bipush hc dX8_course_21 (by decide +kernel) ?_
      refine W.widen (k := 4) (n := 133) (by decide) (by decide) ?_
      exact hret (some (.int (iI (-2)))) _ S2 _ _ _ _ hw (⟨rfl, rfl, kS2_0, kS2_1, fun bb hb0 hb1 hb2 hb3 => (fS2 bb hb0 hb1 hb2 hb3)⟩) ⟨_, rfl, rfl, dX8_course_23⟩
  · exfalso; omega

set_option maxHeartbeats 4000000 in
set_option maxRecDepth 100000 in
theorem c_K_course_yes (l : Launch) (g : gG) {n : Nat} {S : Nat → gE} {x tr q : Nat} {nH pHi pWi pLp pBk pHp : Int} {ln br : Nat → Int} {rest lv : Nat → Int} {zR : Int} {cs : Nat → Option Nat} {wZ : Int} {kp : Nat → Option Nat} {t1 t2 t3 t4 t5 t6 t7 : Int} {tf te : Nat → Int} {qL qF qG qR : Int} {ed : Nat → Int} {bs sl0 : sL} {fl : Int} (hx : S x = oO 8 [.ref (x + 1), .ref (x + 4), .ref (x + 8), .ref (x + 12), .ref (x + 14), .ref (x + 20), .ref (x + 31), .ref tr]) (hp : S (x + 4) = oO 5 [.ref (x + 5), .ref (x + 6), .ref (x + 7), .int (iI nH), .int (iI pHi), .int (iI pWi), .int (iI pLp), .int (iI pBk), .int (iI pHp)]) (hln : S (x + 5) = oI g 8 ln) (hbr : S (x + 6) = oI g 8 br) (hy : S (x + 12) = oO 4 [.ref (x + 4), .ref (x + 13)]) (hrs : S (x + 13) = oI g 8 rest) (ho : S (x + 14) = oO 6 [.ref (x + 4), .ref (x + 15), .ref (x + 16), .ref (x + 17), .int (iI zR)]) (hlv : S (x + 15) = oI g 8 lv) (hcs : S (x + 16) = oR g 2 20 cs) (htr0 : S tr = oO 3 [.ref (tr + 1), .ref (tr + 2), .int (iI t1), .int (iI t2), .int (iI t3), .int (iI t4), .int (iI t5), .int (iI t6), .int (iI t7)]) (htr1 : S (tr + 1) = oI g 60 tf) (htr2 : S (tr + 2) = oI g 60 te) (hq0 : S q = oO 3 [.ref (q + 1), .ref (q + 2), .int (iI qL), .int (iI qF), .int (iI qG), .int (iI qR), .int (iI (bs.length : Int)), .int (iI (wst br qL bs)), .int (iI (cuts br bs))]) (hq2 : S (q + 2) = oI g 60 ed) (hw0 : S (x + 31) = oO 2 [.ref (x + 32), .int (iI wZ)]) (hk0 : S (x + 32) = oR g 3 6 kp) (rH : 0 ≤ nH ∧ nH ≤ 8) (rP : ∀ i : Nat, (i : Int) < nH → (20 ≤ ln i ∧ ln i ≤ 60) ∧ (10 ≤ br i ∧ br i ≤ 60)) (rV : ∀ i : Nat, (i : Int) < nH → 0 ≤ lv i ∧ lv i ≤ 1000000) (rbk : 0 ≤ pBk ∧ pBk ≤ 1000000) (rlp : 0 ≤ pLp ∧ pLp ≤ 10) (rwi : 0 ≤ pWi ∧ pWi ≤ 1000) (rhp : 0 ≤ pHp ∧ pHp ≤ 9) (rhi : 0 ≤ pHi ∧ pHi ≤ 100000) (rzR : 0 ≤ zR ∧ zR ≤ 20) (hla : (0 < zR ∧ cs (zR - 1).toNat = some q) ∨ (zR = 0 ∧ q = x + 17)) (rqL : 0 ≤ qL ∧ qL ≤ 60) (rft : (0 ≤ qF + qG ∧ qF + qG ≤ 1000) ∧ bs.length ≤ 60) (hbs : ∀ i : Nat, i < bs.length → ed i = slE bs i) (hbe : ∀ i : Nat, -1000000 ≤ slE bs i ∧ slE bs i ≤ 1000000) (htra : tr = x + 33 ∨ x + 47 ≤ tr) (hqa : q = x + 17 ∨ q = x + 33 ∨ x + 47 ≤ q) (hqt : q + 3 ≤ tr ∨ tr + 3 ≤ q) (hb : 20 ≤ fl ∧ fl ≤ 60) (hop : zR < 20 ∧ qF + qG < pHi ∧ fl ≤ qL) (hly : layC nH.toNat ln br pWi pHp pBk fl lv (qF + qG) bs = some sl0) (rw : 0 ≤ wZ ∧ wZ ≤ 6) (hkp : ∀ j : Nat, (j : Int) < wZ → ∃ (a : Nat) (us : List Value), kp j = some a ∧ S a = oO 1 us ∧ (x + 47 ≤ a ∧ a < n) ∧ (a < tr ∨ tr + 3 ≤ a)) (hnx : x + 47 ≤ n ∧ tr + 3 ≤ n) : g_Cs l yX8_course wsX8_course { frames := 6, cells := 4, slots := 133, locals := 136 } g [.ref x, .int (iI fl)] n S (fun vr n1 S1 => ∃ r9 : Nat → Int, ∃ h9 : Nat → Int, ∃ e9 : Nat → Int, ∃ lv9 : Nat → Int, vr = some (.int (iI (sl0.length : Int))) ∧ n + 4 = n1 ∧ S1 x = oO 8 [.ref (x + 1), .ref (x + 4), .ref (x + 8), .ref (x + 12), .ref (x + 14), .ref (x + 20), .ref (x + 31), .ref n] ∧ S1 (x + 13) = oI g 8 r9 ∧ S1 tr = oO 3 [.ref (tr + 1), .ref (tr + 2), .int (iI fl), .int (iI (qF + qG)), .int (iI ((fl - pLp) / 2)), .int (iI (rmF pWi pHp (qF + qG))), .int (iI (sl0.length : Int)), .int (iI (wst br fl sl0)), .int (iI (cuts br sl0))] ∧ S1 (tr + 1) = oI g 60 h9 ∧ S1 (tr + 2) = oI g 60 e9 ∧ S1 (x + 14) = oO 6 [.ref (x + 4), .ref (x + 15), .ref (x + 16), .ref (x + 17), .int (iI (zR + 1))] ∧ S1 (x + 15) = oI g 8 lv9 ∧ S1 (x + 16) = oR g 2 20 (va_up cs zR.toNat (some tr)) ∧ S1 n = oO 3 [.ref (n + 1), .ref (n + 2), .int (iI 0), .int (iI 0), .int (iI 0), .int (iI 0), .int (iI 0), .int (iI 0), .int (iI 0)] ∧ S1 (n + 1) = oI g 60 (fun _ => 0) ∧ S1 (n + 2) = oI g 60 (fun _ => 0) ∧ S1 (n + 3) = oO 1 [.int (iI 0), .ref tr, .int (iI 0), .int (iI 0)] ∧ S1 (x + 31) = oO 2 [.ref (x + 32), .int (iI (if wZ = 6 then 6 else wZ + 1))] ∧ S1 (x + 32) = oR g 3 6 (adK kp wZ (n + 3)) ∧ (∀ i : Nat, i < sl0.length → h9 i = slH sl0 i) ∧ (∀ i : Nat, i < sl0.length → e9 i = slE sl0 i) ∧ lv9 = (fun h => lv h + (-1) * cntH sl0 h) ∧ (∀ bb, bb ≠ x → bb ≠ (x + 13) → bb ≠ tr → bb ≠ (tr + 1) → bb ≠ (tr + 2) → bb ≠ (x + 14) → bb ≠ (x + 15) → bb ≠ (x + 16) → bb ≠ n → bb ≠ (n + 1) → bb ≠ (n + 2) → bb ≠ (n + 3) → bb ≠ (x + 31) → bb ≠ (x + 32) → S1 bb = S bb)) 4 133 := by
  refine g_Cs.of (cc := cX8_course) (maxL := 3) (ret := (some .int)) (by decide) rfl (Nat.le_of_ble_eq_true rfl) ?_
  intro pp ee s m below meth cK Q H locs ls hc hnm hw hl hret
  have hl : lv_has ls 3 [(0, .ref x), (1, .int (iI fl))] := hl
  have hiX8 : ∀ w ∈ u_ws RX8 TX8 8, w ∈ wsX8_course := by decide +kernel
  have hiX3 : ∀ w ∈ u_ws RX3 TX3 9, w ∈ wsX8_course := by decide +kernel
  have hiX1 : ∀ w ∈ u_ws RX1 TX1 4, w ∈ wsX8_course := by decide +kernel
  have lk61 : Cond.fieldLink RX8 61 "RoofCourses" "trial" "LRoofCourses$Course;" ∈ wsX8_course := by decide +kernel
  have lkC58 : Cond.classLink RX8 58 RX3 ∈ wsX8_course := by decide +kernel
  have lkIsX3 : Cond.instantiable RX3 9 ∈ wsX8_course := by decide +kernel
  have lkI_X3 : Cond.initialized RX3 ∈ wsX8_course := by decide +kernel
  have lkIn_X3_init : Cond.instanceMethod yX3_init ∈ wsX8_course := by decide +kernel
  have lk38 : Cond.fieldLink RX8 38 "RoofCourses" "roof" "LRoofCourses$Roof;" ∈ wsX8_course := by decide +kernel
  have lk54 : Cond.fieldLink RX8 54 "RoofCourses" "changes" "LRoofCourses$Changes;" ∈ wsX8_course := by decide +kernel
  have lkC114 : Cond.classLink RX8 114 RX1 ∈ wsX8_course := by decide +kernel
  have lkIsX1 : Cond.instantiable RX1 4 ∈ wsX8_course := by decide +kernel
  have lkI_X1 : Cond.initialized RX1 ∈ wsX8_course := by decide +kernel
  have lkL116 : Cond.methodLink RX8 116 yX1_init ∈ wsX8_course := by decide +kernel
  have lkIn_X1_init : Cond.instanceMethod yX1_init ∈ wsX8_course := by decide +kernel
  have lk123 : Cond.fieldLink RX8 123 "RoofCourses$Course" "size" "I" ∈ wsX8_course := by decide +kernel
  have hm0 : 0 ≤ pHp * (qF + qG) := Int.mul_nonneg rhp.1 rft.1.1
  have hm1 : pHp * (qF + qG) ≤ 9 * 1000 := Int.mul_le_mul rhp.2 rft.1.2 rft.1.1 (by decide)
  have hLC : layG nH.toNat ln br fl (rmF pWi pHp (qF + qG)) ed pBk ((bs.length : Int) - 1).toNat 60 lv 0 = layC nH.toNat ln br pWi pHp pBk fl lv (qF + qG) bs := by unfold layC; rw [show ((bs.length : Int) - 1).toNat = bs.length - 1 by omega]; exact layG_ed (fun i hi => hbs i (by omega)) 60 lv 0
  have hedr : ∀ k : Nat, (k : Int) < (bs.length : Int) - 1 → -1000000 ≤ ed k ∧ ed k ≤ 1000000 := fun k hk => by rw [hbs k (by omega)]; exact hbe k
  have hbr1 : ∀ i : Nat, i < nH.toNat → 1 ≤ br i := fun i hi => by have := rP i (by omega); omega
  have hgd1 := layC_good hbr1 hly
  refine lv_iload_n hc.1 hc.2.1 dX8_course_0 rfl (lv_at hl 1 rfl) ?_
  refine nn_bipush hc dX8_course_1 (by decide +kernel) ?_
  refine nn_bipush hc dX8_course_3 (by decide +kernel) ?_
  refine nn_Sp (As := [.int (iI fl), .int (iI 20), .int (iI 60)]) (st := []) hc hw (c_X8_isWithin l g   (by omega) (by omega) (by omega)) (va_cwS 3 hc.2.2.2.2 gX8_course_X8_isWithin rfl rfl rfl (by decide +kernel) ⟨Nat.le_of_ble_eq_true rfl, Nat.le_of_ble_eq_true rfl⟩) rfl hl.1 rfl (Nat.le_of_ble_eq_true rfl) ⟨Nat.le_of_ble_eq_true rfl, Nat.le_of_ble_eq_true rfl⟩ dX8_course_5 ?_
  refine W.eq (g2 := F0 m 8 ls [.int (iI (if 20 ≤ fl ∧ fl ≤ 60 then 1 else 0))]) rfl ?_
  refine nn_if_ne hc dX8_course_8 (tgt := 13) (by decide) (by omega) (fun c1 => ?_) (fun c1 => ?_)
  · refine lv_aload_n hc.1 hc.2.1 dX8_course_13 rfl (lv_at hl 0 rfl) ?_
    refine lv_iload_n hc.1 hc.2.1 dX8_course_14 rfl (lv_at hl 1 rfl) ?_
    refine nn_Vs (As := [.int (iI fl)]) (st := []) hc hw hx rfl (c_K_fillTrial_yes l g  hx hp hln hbr hy hrs ho hlv hcs htr0 htr1 htr2 hq0 hq2 (rH) (rP) (rV) (rbk) (rlp) (rwi) (rhp) (rhi) (rzR) (hla) (rqL) (rft) (hbs) (hbe) (htra) (hqa) (hqt) (by omega) (hop) (hly)) (cwV 1 hc.2.2.2.2 gX8_course_X8_fillTrial rfl rfl rfl (by decide +kernel) ⟨Nat.le_of_ble_eq_true rfl, Nat.le_of_ble_eq_true rfl⟩) rfl hl.1 rfl (Nat.le_of_ble_eq_true rfl) ⟨Nat.le_of_ble_eq_true rfl, Nat.le_of_ble_eq_true rfl⟩ dX8_course_15 (fun vr n1 S2 H locs qS2 hw => ?_)
    obtain ⟨r9_3, h9_4, e9_5, rfl, rfl, hS2_0, hS2_1, hS2_2, hS2_3, kS2_0, kS2_1, fS2⟩ := qS2
    refine W.eq (g2 := F0 m 18 ls [.int (iI 1)]) rfl ?_
    refine nn_if_ne hc dX8_course_18 (tgt := 24) (by decide) (by decide) (fun c6 => ?_) (fun c6 => ?_)
    · refine lv_aload_n hc.1 hc.2.1 dX8_course_24 rfl (lv_at hl 0 rfl) ?_
      have e7 : S2 x = oO 8 [.ref (x + 1), .ref (x + 4), .ref (x + 8), .ref (x + 12), .ref (x + 14), .ref (x + 20), .ref (x + 31), .ref tr] := (fS2 x (off_nl (x := x) (a := 13) (by decide)) (by omega) (by omega) (by omega)).trans hx
      refine nn_get hc hw e7 hiX8 rfl 7 (by decide) rfl lk61 dX8_course_25 ?_
      refine lv_astore_n (lv' := [(2, .ref tr), (0, .ref x), (1, .int (iI fl))]) hc.1 hc.2.1 dX8_course_28 rfl hl (by decide) rfl (fun ls hl => ?_)
      refine lv_aload_n hc.1 hc.2.1 dX8_course_29 rfl (lv_at hl 1 rfl) ?_
      refine nn_new (ci := 3) hc hw hiX3 tyX3 tyX3_ok lkC58 lkIsX3 lkI_X3 rfl [.null, .null, .int (iI 0), .int (iI 0), .int (iI 0), .int (iI 0), .int (iI 0), .int (iI 0), .int (iI 0)] (fun j hj => by rcases (show j = 0 ∨ j = 1 ∨ j = 2 ∨ j = 3 ∨ j = 4 ∨ j = 5 ∨ j = 6 ∨ j = 7 ∨ j = 8 by omega) with rfl | rfl | rfl | rfl | rfl | rfl | rfl | rfl | rfl <;> rfl) (Nat.le_of_ble_eq_true rfl) (Nat.le_of_ble_eq_true rfl) dX8_course_30 (fun S8 H hS8 fS8 hw => ?_)
      have hS8 : S8 n = oO 3 [.null, .null, .int (iI 0), .int (iI 0), .int (iI 0), .int (iI 0), .int (iI 0), .int (iI 0), .int (iI 0)] := hS8
      have hw : g_W g (n + 1) S8 s H locs := hw
      refine W.cs (cells' := 1) (slots' := 9) (by decide) (by decide) ?_
      refine lv_dup hc.1 hc.2.1 dX8_course_33 rfl ?_
      refine nn_IsN (As := []) (st := [.ref n, .ref x]) hc hw (c_X3_init l g  hS8 ) (va_cnB (own := RX8) (index := 60) (y := yX3_init) (host := "RoofCourses") 0 hc.2.2.2.2 gX8_course_X3_init_n60 rfl rfl rfl (g_nw hw (RX8, 60, yX3_init) (by decide +kernel)) (hc.2.2.2.2 _ lkI_X3) (by decide +kernel) ⟨Nat.le_of_ble_eq_true rfl, Nat.le_of_ble_eq_true rfl⟩) rfl lkIn_X3_init rfl hl.1 rfl (Nat.le_of_ble_eq_true rfl) ⟨Nat.le_of_ble_eq_true rfl, Nat.le_of_ble_eq_true rfl⟩ dX8_course_34 (fun vr n1 S9 H locs qS9 hw => ?_)
      obtain ⟨rfl, rfl, hS9_0, hS9_1, hS9_2, fS9⟩ := qS9
      refine W.eq (g2 := F0 m 37 ls [.ref n, .ref x]) rfl ?_
      have e10 : S8 x = oO 8 [.ref (x + 1), .ref (x + 4), .ref (x + 8), .ref (x + 12), .ref (x + 14), .ref (x + 20), .ref (x + 31), .ref tr] := (fS8 x (by omega)).trans e7
      have e11 : S9 x = oO 8 [.ref (x + 1), .ref (x + 4), .ref (x + 8), .ref (x + 12), .ref (x + 14), .ref (x + 20), .ref (x + 31), .ref tr] := (fS9 x (by omega) (by omega) (by omega)).trans e10
      refine nn_put hc hw e11 hiX8 tyX8 tyX8_ok nmX8 rfl 7 (by decide) (Nat.le_of_ble_eq_true rfl) lk61 rfl rfl rfl dX8_course_37 (fun S12 H locs hS12 fS12 hw => ?_)
      have hS12 : S12 x = oO 8 [.ref (x + 1), .ref (x + 4), .ref (x + 8), .ref (x + 12), .ref (x + 14), .ref (x + 20), .ref (x + 31), .ref n] := hS12
      refine lv_aload_n hc.1 hc.2.1 dX8_course_40 rfl (lv_at hl 1 rfl) ?_
      refine nn_get hc hw hS12 hiX8 rfl 4 (by decide) rfl lk38 dX8_course_41 ?_
      refine lv_aload_n hc.1 hc.2.1 dX8_course_44 rfl (lv_at hl 0 rfl) ?_
      have e13 : S2 (x + 14) = oO 6 [.ref (x + 4), .ref (x + 15), .ref (x + 16), .ref (x + 17), .int (iI zR)] := (fS2 (x + 14) (off_ne (x := x) (a := 14) (b := 13) (by decide)) (by omega) (by omega) (by omega)).trans ho
      have e14 : S8 (x + 14) = oO 6 [.ref (x + 4), .ref (x + 15), .ref (x + 16), .ref (x + 17), .int (iI zR)] := (fS8 (x + 14) (by omega)).trans e13
      have e15 : S9 (x + 14) = oO 6 [.ref (x + 4), .ref (x + 15), .ref (x + 16), .ref (x + 17), .int (iI zR)] := (fS9 (x + 14) (by omega) (by omega) (by omega)).trans e14
      have e16 : S12 (x + 14) = oO 6 [.ref (x + 4), .ref (x + 15), .ref (x + 16), .ref (x + 17), .int (iI zR)] := (fS12 (x + 14) (off_nr (x := x) (a := 14) (by decide))).trans e15
      have e17 : S2 ((x + 14) + 1) = oI g 8 lv := (fS2 ((x + 14) + 1) (off_ne (x := x) (a := 15) (b := 13) (by decide)) (by omega) (by omega) (by omega)).trans hlv
      have e18 : S8 ((x + 14) + 1) = oI g 8 lv := (fS8 ((x + 14) + 1) (by omega)).trans e17
      have e19 : S9 ((x + 14) + 1) = oI g 8 lv := (fS9 ((x + 14) + 1) (by omega) (by omega) (by omega)).trans e18
      have e20 : S12 ((x + 14) + 1) = oI g 8 lv := (fS12 ((x + 14) + 1) (off_nr (x := x) (a := 15) (by decide))).trans e19
      have e21 : S2 ((x + 14) + 2) = oR g 2 20 cs := (fS2 ((x + 14) + 2) (off_ne (x := x) (a := 16) (b := 13) (by decide)) (by omega) (by omega) (by omega)).trans hcs
      have e22 : S8 ((x + 14) + 2) = oR g 2 20 cs := (fS8 ((x + 14) + 2) (by omega)).trans e21
      have e23 : S9 ((x + 14) + 2) = oR g 2 20 cs := (fS9 ((x + 14) + 2) (by omega) (by omega) (by omega)).trans e22
      have e24 : S12 ((x + 14) + 2) = oR g 2 20 cs := (fS12 ((x + 14) + 2) (off_nr (x := x) (a := 16) (by decide))).trans e23
      have e25 : S8 tr = oO 3 [.ref (tr + 1), .ref (tr + 2), .int (iI fl), .int (iI (qF + qG)), .int (iI ((fl - pLp) / 2)), .int (iI (rmF pWi pHp (qF + qG))), .int (iI (sl0.length : Int)), .int (iI (wst br fl sl0)), .int (iI (cuts br sl0))] := (fS8 tr (by omega)).trans hS2_1
      have e26 : S9 tr = oO 3 [.ref (tr + 1), .ref (tr + 2), .int (iI fl), .int (iI (qF + qG)), .int (iI ((fl - pLp) / 2)), .int (iI (rmF pWi pHp (qF + qG))), .int (iI (sl0.length : Int)), .int (iI (wst br fl sl0)), .int (iI (cuts br sl0))] := (fS9 tr (by omega) (by omega) (by omega)).trans e25
      have e27 : S12 tr = oO 3 [.ref (tr + 1), .ref (tr + 2), .int (iI fl), .int (iI (qF + qG)), .int (iI ((fl - pLp) / 2)), .int (iI (rmF pWi pHp (qF + qG))), .int (iI (sl0.length : Int)), .int (iI (wst br fl sl0)), .int (iI (cuts br sl0))] := (fS12 tr (by omega)).trans e26
      have e28 : S8 (tr + 1) = oI g 60 h9_4 := (fS8 (tr + 1) (by omega)).trans hS2_2
      have e29 : S9 (tr + 1) = oI g 60 h9_4 := (fS9 (tr + 1) (by omega) (by omega) (by omega)).trans e28
      have e30 : S12 (tr + 1) = oI g 60 h9_4 := (fS12 (tr + 1) (by omega)).trans e29
      refine nn_Vs (As := [.ref tr]) (st := []) hc hw e16 rfl (c_X6_push l g  e16 e20 e24 e27 e30 (by omega) (by omega) (fun k hk => by have h1 := kS2_0 k (by omega); have h2 := slH_ok hgd1.1 (i := k) (by omega); omega) (by omega)) (cwV 1 hc.2.2.2.2 gX8_course_X6_push rfl rfl rfl (by decide +kernel) ⟨Nat.le_of_ble_eq_true rfl, Nat.le_of_ble_eq_true rfl⟩) rfl hl.1 rfl (Nat.le_of_ble_eq_true rfl) ⟨Nat.le_of_ble_eq_true rfl, Nat.le_of_ble_eq_true rfl⟩ dX8_course_45 (fun vr n1 S31 H locs qS31 hw => ?_)
      obtain ⟨rfl, rfl, hS31_0, hS31_1, hS31_2, fS31⟩ := qS31
      refine W.eq (g2 := F0 m 48 ls []) rfl ?_
      refine lv_aload_n hc.1 hc.2.1 dX8_course_48 rfl (lv_at hl 1 rfl) ?_
      have e32 : S31 x = oO 8 [.ref (x + 1), .ref (x + 4), .ref (x + 8), .ref (x + 12), .ref (x + 14), .ref (x + 20), .ref (x + 31), .ref n] := (fS31 x (off_nl (x := x) (a := 14) (by decide)) (off_nl (x := x) (a := 15) (by decide)) (off_nl (x := x) (a := 16) (by decide))).trans hS12
      refine nn_get hc hw e32 hiX8 rfl 6 (by decide) rfl lk54 dX8_course_49 ?_
      refine nn_new (ci := 1) hc hw hiX1 tyX1 tyX1_ok lkC114 lkIsX1 lkI_X1 rfl [.int (iI 0), .null, .int (iI 0), .int (iI 0)] (fun j hj => by rcases (show j = 0 ∨ j = 1 ∨ j = 2 ∨ j = 3 by omega) with rfl | rfl | rfl | rfl <;> rfl) (Nat.le_of_ble_eq_true rfl) (Nat.le_of_ble_eq_true rfl) dX8_course_52 (fun S33 H hS33 fS33 hw => ?_)
      have hS33 : S33 (n + 3) = oO 1 [.int (iI 0), .null, .int (iI 0), .int (iI 0)] := hS33
      have hw : g_W g (n + 4) S33 s H locs := hw
      refine W.cs (cells' := 4) (slots' := 133) (by decide) (by decide) ?_
      refine lv_dup hc.1 hc.2.1 dX8_course_55 rfl ?_
      refine nn_iconst hc dX8_course_56 ?_
      refine lv_aload_n hc.1 hc.2.1 dX8_course_57 rfl (lv_at hl 0 rfl) ?_
      refine nn_iconst hc dX8_course_58 ?_
      refine nn_iconst hc dX8_course_59 ?_
      refine nn_Is (As := [.int (iI 0), .ref tr, .int (iI 0), .int (iI 0)]) (st := [.ref (n + 3), .ref (x + 31)]) hc hw (c_X1_init l g  hS33 ) (cwI 4 hc.2.2.2.2 gX8_course_X1_init rfl rfl rfl (hc.2.2.2.2 _ lkI_X1) (hc.2.2.2.2 _ lkL116) (hc.2.2.2.2 _ lkIn_X1_init) rfl (by decide +kernel) ⟨Nat.le_of_ble_eq_true rfl, Nat.le_of_ble_eq_true rfl⟩) rfl hl.1 rfl (Nat.le_of_ble_eq_true rfl) ⟨Nat.le_of_ble_eq_true rfl, Nat.le_of_ble_eq_true rfl⟩ dX8_course_60 (fun vr n1 S34 H locs qS34 hw => ?_)
      obtain ⟨rfl, rfl, hS34_0, fS34⟩ := qS34
      refine W.eq (g2 := F0 m 63 ls [.ref (n + 3), .ref (x + 31)]) rfl ?_
      have e35 : S2 (x + 31) = oO 2 [.ref (x + 32), .int (iI wZ)] := (fS2 (x + 31) (off_ne (x := x) (a := 31) (b := 13) (by decide)) (by omega) (by omega) (by omega)).trans hw0
      have e36 : S8 (x + 31) = oO 2 [.ref (x + 32), .int (iI wZ)] := (fS8 (x + 31) (by omega)).trans e35
      have e37 : S9 (x + 31) = oO 2 [.ref (x + 32), .int (iI wZ)] := (fS9 (x + 31) (by omega) (by omega) (by omega)).trans e36
      have e38 : S12 (x + 31) = oO 2 [.ref (x + 32), .int (iI wZ)] := (fS12 (x + 31) (off_nr (x := x) (a := 31) (by decide))).trans e37
      have e39 : S31 (x + 31) = oO 2 [.ref (x + 32), .int (iI wZ)] := (fS31 (x + 31) (off_ne (x := x) (a := 31) (b := 14) (by decide)) (off_ne (x := x) (a := 31) (b := 15) (by decide)) (off_ne (x := x) (a := 31) (b := 16) (by decide))).trans e38
      have e40 : S33 (x + 31) = oO 2 [.ref (x + 32), .int (iI wZ)] := (fS33 (x + 31) (by omega)).trans e39
      have e41 : S34 (x + 31) = oO 2 [.ref (x + 32), .int (iI wZ)] := (fS34 (x + 31) (by omega)).trans e40
      have e42 : S2 ((x + 31) + 1) = oR g 3 6 kp := (fS2 ((x + 31) + 1) (off_ne (x := x) (a := 32) (b := 13) (by decide)) (by omega) (by omega) (by omega)).trans hk0
      have e43 : S8 ((x + 31) + 1) = oR g 3 6 kp := (fS8 ((x + 31) + 1) (by omega)).trans e42
      have e44 : S9 ((x + 31) + 1) = oR g 3 6 kp := (fS9 ((x + 31) + 1) (by omega) (by omega) (by omega)).trans e43
      have e45 : S12 ((x + 31) + 1) = oR g 3 6 kp := (fS12 ((x + 31) + 1) (off_nr (x := x) (a := 32) (by decide))).trans e44
      have e46 : S31 ((x + 31) + 1) = oR g 3 6 kp := (fS31 ((x + 31) + 1) (off_ne (x := x) (a := 32) (b := 14) (by decide)) (off_ne (x := x) (a := 32) (b := 15) (by decide)) (off_ne (x := x) (a := 32) (b := 16) (by decide))).trans e45
      have e47 : S33 ((x + 31) + 1) = oR g 3 6 kp := (fS33 ((x + 31) + 1) (by omega)).trans e46
      have e48 : S34 ((x + 31) + 1) = oR g 3 6 kp := (fS34 ((x + 31) + 1) (by omega)).trans e47
      refine nn_Vs (As := [.ref (n + 3)]) (st := []) hc hw e41 rfl (c_X2_add_any l g  e41 e48 hS34_0 (rw) (fun j hj => by obtain ⟨a9, us9, g1, g2, g3, g4⟩ := hkp j hj; exact ⟨a9, us9, g1, ((((((((fS34 a9 (by omega))).trans (fS33 a9 (by omega))).trans (fS31 a9 (by omega) (by omega) (by omega))).trans (fS12 a9 (by omega))).trans (fS9 a9 (by omega) (by omega) (by omega))).trans (fS8 a9 (by omega))).trans (fS2 a9 (by omega) (by omega) (by omega) (by omega))).trans g2⟩)) (cwV 1 hc.2.2.2.2 gX8_course_X2_add rfl rfl rfl (by decide +kernel) ⟨Nat.le_of_ble_eq_true rfl, Nat.le_of_ble_eq_true rfl⟩) rfl hl.1 rfl (Nat.le_of_ble_eq_true rfl) ⟨Nat.le_of_ble_eq_true rfl, Nat.le_of_ble_eq_true rfl⟩ dX8_course_63 (fun vr n1 S49 H locs qS49 hw => ?_)
      obtain ⟨rfl, rfl, hS49_0, hS49_1, fS49⟩ := qS49
      refine W.eq (g2 := F0 m 66 ls []) rfl ?_
      refine lv_aload_n hc.1 hc.2.1 dX8_course_66 rfl (lv_at hl 0 rfl) ?_
      have e50 : S31 tr = oO 3 [.ref (tr + 1), .ref (tr + 2), .int (iI fl), .int (iI (qF + qG)), .int (iI ((fl - pLp) / 2)), .int (iI (rmF pWi pHp (qF + qG))), .int (iI (sl0.length : Int)), .int (iI (wst br fl sl0)), .int (iI (cuts br sl0))] := (fS31 tr (by omega) (by omega) (by omega)).trans e27
      have e51 : S33 tr = oO 3 [.ref (tr + 1), .ref (tr + 2), .int (iI fl), .int (iI (qF + qG)), .int (iI ((fl - pLp) / 2)), .int (iI (rmF pWi pHp (qF + qG))), .int (iI (sl0.length : Int)), .int (iI (wst br fl sl0)), .int (iI (cuts br sl0))] := (fS33 tr (by omega)).trans e50
      have e52 : S34 tr = oO 3 [.ref (tr + 1), .ref (tr + 2), .int (iI fl), .int (iI (qF + qG)), .int (iI ((fl - pLp) / 2)), .int (iI (rmF pWi pHp (qF + qG))), .int (iI (sl0.length : Int)), .int (iI (wst br fl sl0)), .int (iI (cuts br sl0))] := (fS34 tr (by omega)).trans e51
      have e53 : S49 tr = oO 3 [.ref (tr + 1), .ref (tr + 2), .int (iI fl), .int (iI (qF + qG)), .int (iI ((fl - pLp) / 2)), .int (iI (rmF pWi pHp (qF + qG))), .int (iI (sl0.length : Int)), .int (iI (wst br fl sl0)), .int (iI (cuts br sl0))] := (fS49 tr (by omega) (by omega)).trans e52
      refine nn_get hc hw e53 hiX3 rfl 6 (by decide) rfl lk123 dX8_course_67 ?_
      have e54 : S33 x = oO 8 [.ref (x + 1), .ref (x + 4), .ref (x + 8), .ref (x + 12), .ref (x + 14), .ref (x + 20), .ref (x + 31), .ref n] := (fS33 x (by omega)).trans e32
      have e55 : S34 x = oO 8 [.ref (x + 1), .ref (x + 4), .ref (x + 8), .ref (x + 12), .ref (x + 14), .ref (x + 20), .ref (x + 31), .ref n] := (fS34 x (by omega)).trans e54
      have e56 : S49 x = oO 8 [.ref (x + 1), .ref (x + 4), .ref (x + 8), .ref (x + 12), .ref (x + 14), .ref (x + 20), .ref (x + 31), .ref n] := (fS49 x (off_nl (x := x) (a := 31) (by decide)) (off_nl (x := x) (a := 32) (by decide))).trans e55
      have e57 : S8 (x + 13) = oI g 8 r9_3 := (fS8 (x + 13) (by omega)).trans hS2_0
      have e58 : S9 (x + 13) = oI g 8 r9_3 := (fS9 (x + 13) (by omega) (by omega) (by omega)).trans e57
      have e59 : S12 (x + 13) = oI g 8 r9_3 := (fS12 (x + 13) (off_nr (x := x) (a := 13) (by decide))).trans e58
      have e60 : S31 (x + 13) = oI g 8 r9_3 := (fS31 (x + 13) (off_ne (x := x) (a := 13) (b := 14) (by decide)) (off_ne (x := x) (a := 13) (b := 15) (by decide)) (off_ne (x := x) (a := 13) (b := 16) (by decide))).trans e59
      have e61 : S33 (x + 13) = oI g 8 r9_3 := (fS33 (x + 13) (by omega)).trans e60
      have e62 : S34 (x + 13) = oI g 8 r9_3 := (fS34 (x + 13) (by omega)).trans e61
      have e63 : S49 (x + 13) = oI g 8 r9_3 := (fS49 (x + 13) (off_ne (x := x) (a := 13) (b := 31) (by decide)) (off_ne (x := x) (a := 13) (b := 32) (by decide))).trans e62
      have e64 : S31 (tr + 1) = oI g 60 h9_4 := (fS31 (tr + 1) (by omega) (by omega) (by omega)).trans e30
      have e65 : S33 (tr + 1) = oI g 60 h9_4 := (fS33 (tr + 1) (by omega)).trans e64
      have e66 : S34 (tr + 1) = oI g 60 h9_4 := (fS34 (tr + 1) (by omega)).trans e65
      have e67 : S49 (tr + 1) = oI g 60 h9_4 := (fS49 (tr + 1) (by omega) (by omega)).trans e66
      have e68 : S8 (tr + 2) = oI g 60 e9_5 := (fS8 (tr + 2) (by omega)).trans hS2_3
      have e69 : S9 (tr + 2) = oI g 60 e9_5 := (fS9 (tr + 2) (by omega) (by omega) (by omega)).trans e68
      have e70 : S12 (tr + 2) = oI g 60 e9_5 := (fS12 (tr + 2) (by omega)).trans e69
      have e71 : S31 (tr + 2) = oI g 60 e9_5 := (fS31 (tr + 2) (by omega) (by omega) (by omega)).trans e70
      have e72 : S33 (tr + 2) = oI g 60 e9_5 := (fS33 (tr + 2) (by omega)).trans e71
      have e73 : S34 (tr + 2) = oI g 60 e9_5 := (fS34 (tr + 2) (by omega)).trans e72
      have e74 : S49 (tr + 2) = oI g 60 e9_5 := (fS49 (tr + 2) (by omega) (by omega)).trans e73
      have e75 : S33 (x + 14) = oO 6 [.ref (x + 4), .ref ((x + 14) + 1), .ref ((x + 14) + 2), .ref ((x + 14) + 3), .int (iI (zR + 1))] := (fS33 (x + 14) (by omega)).trans hS31_0
      have e76 : S34 (x + 14) = oO 6 [.ref (x + 4), .ref ((x + 14) + 1), .ref ((x + 14) + 2), .ref ((x + 14) + 3), .int (iI (zR + 1))] := (fS34 (x + 14) (by omega)).trans e75
      have e77 : S49 (x + 14) = oO 6 [.ref (x + 4), .ref ((x + 14) + 1), .ref ((x + 14) + 2), .ref ((x + 14) + 3), .int (iI (zR + 1))] := (fS49 (x + 14) (off_ne (x := x) (a := 14) (b := 31) (by decide)) (off_ne (x := x) (a := 14) (b := 32) (by decide))).trans e76
      have e78 : S33 (x + 15) = oI g 8 (adS lv h9_4 (-1) (sl0.length : Int).toNat) := (fS33 (x + 15) (by omega)).trans hS31_1
      have e79 : S34 (x + 15) = oI g 8 (adS lv h9_4 (-1) (sl0.length : Int).toNat) := (fS34 (x + 15) (by omega)).trans e78
      have e80 : S49 (x + 15) = oI g 8 (adS lv h9_4 (-1) (sl0.length : Int).toNat) := (fS49 (x + 15) (off_ne (x := x) (a := 15) (b := 31) (by decide)) (off_ne (x := x) (a := 15) (b := 32) (by decide))).trans e79
      have e81 : S33 (x + 16) = oR g 2 20 (va_up cs zR.toNat (some tr)) := (fS33 (x + 16) (by omega)).trans hS31_2
      have e82 : S34 (x + 16) = oR g 2 20 (va_up cs zR.toNat (some tr)) := (fS34 (x + 16) (by omega)).trans e81
      have e83 : S49 (x + 16) = oR g 2 20 (va_up cs zR.toNat (some tr)) := (fS49 (x + 16) (off_ne (x := x) (a := 16) (b := 31) (by decide)) (off_ne (x := x) (a := 16) (b := 32) (by decide))).trans e82
      have e84 : S12 n = oO 3 [.ref (n + 1), .ref (n + 2), .int (iI 0), .int (iI 0), .int (iI 0), .int (iI 0), .int (iI 0), .int (iI 0), .int (iI 0)] := (fS12 n (by omega)).trans hS9_0
      have e85 : S31 n = oO 3 [.ref (n + 1), .ref (n + 2), .int (iI 0), .int (iI 0), .int (iI 0), .int (iI 0), .int (iI 0), .int (iI 0), .int (iI 0)] := (fS31 n (by omega) (by omega) (by omega)).trans e84
      have e86 : S33 n = oO 3 [.ref (n + 1), .ref (n + 2), .int (iI 0), .int (iI 0), .int (iI 0), .int (iI 0), .int (iI 0), .int (iI 0), .int (iI 0)] := (fS33 n (off_nl (x := n) (a := 3) (by decide))).trans e85
      have e87 : S34 n = oO 3 [.ref (n + 1), .ref (n + 2), .int (iI 0), .int (iI 0), .int (iI 0), .int (iI 0), .int (iI 0), .int (iI 0), .int (iI 0)] := (fS34 n (off_nl (x := n) (a := 3) (by decide))).trans e86
      have e88 : S49 n = oO 3 [.ref (n + 1), .ref (n + 2), .int (iI 0), .int (iI 0), .int (iI 0), .int (iI 0), .int (iI 0), .int (iI 0), .int (iI 0)] := (fS49 n (by omega) (by omega)).trans e87
      have e89 : S12 (n + 1) = oI g 60 (fun _ => 0) := (fS12 (n + 1) (by omega)).trans hS9_1
      have e90 : S31 (n + 1) = oI g 60 (fun _ => 0) := (fS31 (n + 1) (by omega) (by omega) (by omega)).trans e89
      have e91 : S33 (n + 1) = oI g 60 (fun _ => 0) := (fS33 (n + 1) (off_ne (x := n) (a := 1) (b := 3) (by decide))).trans e90
      have e92 : S34 (n + 1) = oI g 60 (fun _ => 0) := (fS34 (n + 1) (off_ne (x := n) (a := 1) (b := 3) (by decide))).trans e91
      have e93 : S49 (n + 1) = oI g 60 (fun _ => 0) := (fS49 (n + 1) (by omega) (by omega)).trans e92
      have e94 : S12 (n + 2) = oI g 60 (fun _ => 0) := (fS12 (n + 2) (by omega)).trans hS9_2
      have e95 : S31 (n + 2) = oI g 60 (fun _ => 0) := (fS31 (n + 2) (by omega) (by omega) (by omega)).trans e94
      have e96 : S33 (n + 2) = oI g 60 (fun _ => 0) := (fS33 (n + 2) (off_ne (x := n) (a := 2) (b := 3) (by decide))).trans e95
      have e97 : S34 (n + 2) = oI g 60 (fun _ => 0) := (fS34 (n + 2) (off_ne (x := n) (a := 2) (b := 3) (by decide))).trans e96
      have e98 : S49 (n + 2) = oI g 60 (fun _ => 0) := (fS49 (n + 2) (by omega) (by omega)).trans e97
      have e99 : S49 (n + 3) = oO 1 [.int (iI 0), .ref tr, .int (iI 0), .int (iI 0)] := (fS49 (n + 3) (by omega) (by omega)).trans hS34_0
      exact hret (some (.int (iI (sl0.length : Int)))) _ S49 _ _ _ _ hw (⟨_, _, _, _, rfl, rfl, e56, e63, e53, e67, e74, e77, e80, e83, e88, e93, e98, e99, hS49_0, hS49_1, kS2_0, kS2_1, (adS_cnt sl0 kS2_0), fun bb hb0 hb1 hb2 hb3 hb4 hb5 hb6 hb7 hb8 hb9 hb10 hb11 hb12 hb13 => ((((((((fS49 bb hb12 hb13)).trans (fS34 bb hb11)).trans (fS33 bb hb11)).trans (fS31 bb hb5 hb6 hb7)).trans (fS12 bb hb0)).trans (fS9 bb hb8 hb9 hb10)).trans (fS8 bb hb8)).trans (fS2 bb hb1 hb2 hb3 hb4)⟩) ⟨_, rfl, rfl, dX8_course_70⟩
    · exact absurd c6 (by decide)
  · exfalso; omega

set_option maxHeartbeats 4000000 in
set_option maxRecDepth 100000 in
theorem c_K_up_no (l : Launch) (g : gG) {n : Nat} {S : Nat → gE} {x tr : Nat} {zR : Int} (hx : S x = oO 8 [.ref (x + 1), .ref (x + 4), .ref (x + 8), .ref (x + 12), .ref (x + 14), .ref (x + 20), .ref (x + 31), .ref tr]) (ho : S (x + 14) = oO 6 [.ref (x + 4), .ref (x + 15), .ref (x + 16), .ref (x + 17), .int (iI zR)]) (hz : zR = 0) : g_Cs l yX8_up wsX8_up { frames := 0, cells := 1, slots := 4, locals := 0 } g [.ref x] n S (fun vr n1 S1 => vr = some (.int (iI (-2))) ∧ n = n1 ∧ S = S1) 1 4 := by
  refine g_Cs.of (cc := cX8_up) (maxL := 2) (ret := (some .int)) (by decide) rfl (Nat.le_of_ble_eq_true rfl) ?_
  intro pp ee s m below meth cK Q H locs ls hc hnm hw hl hret
  have hl : lv_has ls 2 [(0, .ref x)] := hl
  have hiX8 : ∀ w ∈ u_ws RX8 TX8 8, w ∈ wsX8_up := by decide +kernel
  have hiX6 : ∀ w ∈ u_ws RX6 TX6 5, w ∈ wsX8_up := by decide +kernel
  have lk38 : Cond.fieldLink RX8 38 "RoofCourses" "roof" "LRoofCourses$Roof;" ∈ wsX8_up := by decide +kernel
  have lk124 : Cond.fieldLink RX8 124 "RoofCourses$Roof" "size" "I" ∈ wsX8_up := by decide +kernel
  refine lv_aload_n hc.1 hc.2.1 dX8_up_0 rfl (lv_at hl 0 rfl) ?_
  refine nn_get hc hw hx hiX8 rfl 4 (by decide) rfl lk38 dX8_up_1 ?_
  refine nn_get hc hw ho hiX6 rfl 4 (by decide) rfl lk124 dX8_up_4 ?_
  refine nn_if_ne hc dX8_up_7 (tgt := 13) (by decide) (by omega) (fun c1 => ?_) (fun c1 => ?_)
  · exfalso; omega
  · refine nn_bipush hc dX8_up_10 (by decide +kernel) ?_
    refine W.widen (k := 1) (n := 4) (by decide) (by decide) ?_
    exact hret (some (.int (iI (-2)))) _ S _ _ _ _ hw (⟨rfl, rfl, rfl⟩) ⟨_, rfl, rfl, dX8_up_12⟩

set_option maxHeartbeats 4000000 in
set_option maxRecDepth 100000 in
theorem c_K_up_yes (l : Launch) (g : gG) {n : Nat} {S : Nat → gE} {x tr q : Nat} {br : Nat → Int} {lv : Nat → Int} {zR : Int} {cs : Nat → Option Nat} {wZ : Int} {kp : Nat → Option Nat} {qL qF qG qR : Int} {qf ed : Nat → Int} {bs : sL} (hx : S x = oO 8 [.ref (x + 1), .ref (x + 4), .ref (x + 8), .ref (x + 12), .ref (x + 14), .ref (x + 20), .ref (x + 31), .ref tr]) (ho : S (x + 14) = oO 6 [.ref (x + 4), .ref (x + 15), .ref (x + 16), .ref (x + 17), .int (iI zR)]) (hlv : S (x + 15) = oI g 8 lv) (hcs : S (x + 16) = oR g 2 20 cs) (hq0 : S q = oO 3 [.ref (q + 1), .ref (q + 2), .int (iI qL), .int (iI qF), .int (iI qG), .int (iI qR), .int (iI (bs.length : Int)), .int (iI (wst br qL bs)), .int (iI (cuts br bs))]) (hq2 : S (q + 2) = oI g 60 ed) (hq1 : S (q + 1) = oI g 60 qf) (hw0 : S (x + 31) = oO 2 [.ref (x + 32), .int (iI wZ)]) (hk0 : S (x + 32) = oR g 3 6 kp) (rzR : 0 < zR ∧ zR ≤ 20) (hla : cs (zR - 1).toNat = some q) (rbl : bs.length ≤ 60) (rqh : ∀ k : Nat, k < bs.length → 0 ≤ qf k ∧ qf k < 8) (rw : 0 ≤ wZ ∧ wZ ≤ 6) (hkp : ∀ j : Nat, (j : Int) < wZ → ∃ (a : Nat) (us : List Value), kp j = some a ∧ S a = oO 1 us ∧ (x + 47 ≤ a ∧ a < n) ∧ (a < tr ∨ tr + 3 ≤ a)) (hnx : x + 47 ≤ n) (hqa : q = x + 17 ∨ q = x + 33 ∨ x + 47 ≤ q) : g_Cs l yX8_up wsX8_up { frames := 4, cells := 1, slots := 4, locals := 88 } g [.ref x] n S (fun vr n1 S1 => vr = some (.int (iI (zR - 1))) ∧ n + 1 = n1 ∧ S1 (x + 14) = oO 6 [.ref (x + 4), .ref (x + 15), .ref (x + 16), .ref (x + 17), .int (iI (zR - 1))] ∧ S1 (x + 15) = oI g 8 (adS lv qf 1 bs.length) ∧ S1 n = oO 1 [.int (iI 1), .ref q, .int (iI 0), .int (iI 0)] ∧ S1 (x + 31) = oO 2 [.ref (x + 32), .int (iI (if wZ = 6 then 6 else wZ + 1))] ∧ S1 (x + 32) = oR g 3 6 (adK kp wZ n) ∧ (∀ bb, bb ≠ (x + 14) → bb ≠ (x + 15) → bb ≠ n → bb ≠ (x + 31) → bb ≠ (x + 32) → S1 bb = S bb)) 1 4 := by
  refine g_Cs.of (cc := cX8_up) (maxL := 2) (ret := (some .int)) (by decide) rfl (Nat.le_of_ble_eq_true rfl) ?_
  intro pp ee s m below meth cK Q H locs ls hc hnm hw hl hret
  have hl : lv_has ls 2 [(0, .ref x)] := hl
  have hiX8 : ∀ w ∈ u_ws RX8 TX8 8, w ∈ wsX8_up := by decide +kernel
  have hiX6 : ∀ w ∈ u_ws RX6 TX6 5, w ∈ wsX8_up := by decide +kernel
  have hiX1 : ∀ w ∈ u_ws RX1 TX1 4, w ∈ wsX8_up := by decide +kernel
  have lk38 : Cond.fieldLink RX8 38 "RoofCourses" "roof" "LRoofCourses$Roof;" ∈ wsX8_up := by decide +kernel
  have lk124 : Cond.fieldLink RX8 124 "RoofCourses$Roof" "size" "I" ∈ wsX8_up := by decide +kernel
  have lk54 : Cond.fieldLink RX8 54 "RoofCourses" "changes" "LRoofCourses$Changes;" ∈ wsX8_up := by decide +kernel
  have lkC114 : Cond.classLink RX8 114 RX1 ∈ wsX8_up := by decide +kernel
  have lkIsX1 : Cond.instantiable RX1 4 ∈ wsX8_up := by decide +kernel
  have lkI_X1 : Cond.initialized RX1 ∈ wsX8_up := by decide +kernel
  have lkL116 : Cond.methodLink RX8 116 yX1_init ∈ wsX8_up := by decide +kernel
  have lkIn_X1_init : Cond.instanceMethod yX1_init ∈ wsX8_up := by decide +kernel
  refine lv_aload_n hc.1 hc.2.1 dX8_up_0 rfl (lv_at hl 0 rfl) ?_
  refine nn_get hc hw hx hiX8 rfl 4 (by decide) rfl lk38 dX8_up_1 ?_
  refine nn_get hc hw ho hiX6 rfl 4 (by decide) rfl lk124 dX8_up_4 ?_
  refine nn_if_ne hc dX8_up_7 (tgt := 13) (by decide) (by omega) (fun c1 => ?_) (fun c1 => ?_)
  · refine lv_aload_n hc.1 hc.2.1 dX8_up_13 rfl (lv_at hl 0 rfl) ?_
    refine nn_get hc hw hx hiX8 rfl 4 (by decide) rfl lk38 dX8_up_14 ?_
    refine nn_Vs (As := []) (st := []) hc hw ho rfl (c_X6_pop l g  ho hlv hcs hq0 hq1 (by omega) (hla) (by omega) (fun k hk => rqh k (by omega)) (by omega)) (cwV 0 hc.2.2.2.2 gX8_up_X6_pop rfl rfl rfl (by decide +kernel) ⟨Nat.le_of_ble_eq_true rfl, Nat.le_of_ble_eq_true rfl⟩) rfl hl.1 rfl (Nat.le_of_ble_eq_true rfl) ⟨Nat.le_of_ble_eq_true rfl, Nat.le_of_ble_eq_true rfl⟩ dX8_up_17 (fun vr n1 S2 H locs qS2 hw => ?_)
    obtain ⟨rfl, rfl, hS2_0, hS2_1, fS2⟩ := qS2
    refine W.eq (g2 := F0 m 20 ls [.ref q]) rfl ?_
    refine lv_astore_n (lv' := [(1, .ref q), (0, .ref x)]) hc.1 hc.2.1 dX8_up_20 rfl hl (by decide) rfl (fun ls hl => ?_)
    refine lv_aload_n hc.1 hc.2.1 dX8_up_21 rfl (lv_at hl 1 rfl) ?_
    have e3 : S2 x = oO 8 [.ref (x + 1), .ref (x + 4), .ref (x + 8), .ref (x + 12), .ref (x + 14), .ref (x + 20), .ref (x + 31), .ref tr] := (fS2 x (off_nl (x := x) (a := 14) (by decide)) (off_nl (x := x) (a := 15) (by decide))).trans hx
    refine nn_get hc hw e3 hiX8 rfl 6 (by decide) rfl lk54 dX8_up_22 ?_
    refine nn_new (ci := 1) hc hw hiX1 tyX1 tyX1_ok lkC114 lkIsX1 lkI_X1 rfl [.int (iI 0), .null, .int (iI 0), .int (iI 0)] (fun j hj => by rcases (show j = 0 ∨ j = 1 ∨ j = 2 ∨ j = 3 by omega) with rfl | rfl | rfl | rfl <;> rfl) (Nat.le_of_ble_eq_true rfl) (Nat.le_of_ble_eq_true rfl) dX8_up_25 (fun S4 H hS4 fS4 hw => ?_)
    have hS4 : S4 n = oO 1 [.int (iI 0), .null, .int (iI 0), .int (iI 0)] := hS4
    have hw : g_W g (n + 1) S4 s H locs := hw
    refine W.cs (cells' := 1) (slots' := 4) (by decide) (by decide) ?_
    refine lv_dup hc.1 hc.2.1 dX8_up_28 rfl ?_
    refine nn_iconst hc dX8_up_29 ?_
    refine lv_aload_n hc.1 hc.2.1 dX8_up_30 rfl (lv_at hl 0 rfl) ?_
    refine nn_iconst hc dX8_up_31 ?_
    refine nn_iconst hc dX8_up_32 ?_
    refine nn_Is (As := [.int (iI 1), .ref q, .int (iI 0), .int (iI 0)]) (st := [.ref n, .ref (x + 31)]) hc hw (c_X1_init l g  hS4 ) (cwI 4 hc.2.2.2.2 gX8_up_X1_init rfl rfl rfl (hc.2.2.2.2 _ lkI_X1) (hc.2.2.2.2 _ lkL116) (hc.2.2.2.2 _ lkIn_X1_init) rfl (by decide +kernel) ⟨Nat.le_of_ble_eq_true rfl, Nat.le_of_ble_eq_true rfl⟩) rfl hl.1 rfl (Nat.le_of_ble_eq_true rfl) ⟨Nat.le_of_ble_eq_true rfl, Nat.le_of_ble_eq_true rfl⟩ dX8_up_33 (fun vr n1 S5 H locs qS5 hw => ?_)
    obtain ⟨rfl, rfl, hS5_0, fS5⟩ := qS5
    refine W.eq (g2 := F0 m 36 ls [.ref n, .ref (x + 31)]) rfl ?_
    have e6 : S2 (x + 31) = oO 2 [.ref (x + 32), .int (iI wZ)] := (fS2 (x + 31) (off_ne (x := x) (a := 31) (b := 14) (by decide)) (off_ne (x := x) (a := 31) (b := 15) (by decide))).trans hw0
    have e7 : S4 (x + 31) = oO 2 [.ref (x + 32), .int (iI wZ)] := (fS4 (x + 31) (by omega)).trans e6
    have e8 : S5 (x + 31) = oO 2 [.ref (x + 32), .int (iI wZ)] := (fS5 (x + 31) (by omega)).trans e7
    have e9 : S2 ((x + 31) + 1) = oR g 3 6 kp := (fS2 ((x + 31) + 1) (off_ne (x := x) (a := 32) (b := 14) (by decide)) (off_ne (x := x) (a := 32) (b := 15) (by decide))).trans hk0
    have e10 : S4 ((x + 31) + 1) = oR g 3 6 kp := (fS4 ((x + 31) + 1) (by omega)).trans e9
    have e11 : S5 ((x + 31) + 1) = oR g 3 6 kp := (fS5 ((x + 31) + 1) (by omega)).trans e10
    refine nn_Vs (As := [.ref n]) (st := []) hc hw e8 rfl (c_X2_add_any l g  e8 e11 hS5_0 (rw) (fun j hj => by obtain ⟨a9, us9, g1, g2, g3, g4⟩ := hkp j hj; exact ⟨a9, us9, g1, ((((fS5 a9 (by omega))).trans (fS4 a9 (by omega))).trans (fS2 a9 (by omega) (by omega))).trans g2⟩)) (cwV 1 hc.2.2.2.2 gX8_up_X2_add rfl rfl rfl (by decide +kernel) ⟨Nat.le_of_ble_eq_true rfl, Nat.le_of_ble_eq_true rfl⟩) rfl hl.1 rfl (Nat.le_of_ble_eq_true rfl) ⟨Nat.le_of_ble_eq_true rfl, Nat.le_of_ble_eq_true rfl⟩ dX8_up_36 (fun vr n1 S12 H locs qS12 hw => ?_)
    obtain ⟨rfl, rfl, hS12_0, hS12_1, fS12⟩ := qS12
    refine W.eq (g2 := F0 m 39 ls []) rfl ?_
    refine lv_aload_n hc.1 hc.2.1 dX8_up_39 rfl (lv_at hl 1 rfl) ?_
    have e13 : S4 x = oO 8 [.ref (x + 1), .ref (x + 4), .ref (x + 8), .ref (x + 12), .ref (x + 14), .ref (x + 20), .ref (x + 31), .ref tr] := (fS4 x (by omega)).trans e3
    have e14 : S5 x = oO 8 [.ref (x + 1), .ref (x + 4), .ref (x + 8), .ref (x + 12), .ref (x + 14), .ref (x + 20), .ref (x + 31), .ref tr] := (fS5 x (by omega)).trans e13
    have e15 : S12 x = oO 8 [.ref (x + 1), .ref (x + 4), .ref (x + 8), .ref (x + 12), .ref (x + 14), .ref (x + 20), .ref (x + 31), .ref tr] := (fS12 x (off_nl (x := x) (a := 31) (by decide)) (off_nl (x := x) (a := 32) (by decide))).trans e14
    refine nn_get hc hw e15 hiX8 rfl 4 (by decide) rfl lk38 dX8_up_40 ?_
    have e16 : S4 (x + 14) = oO 6 [.ref (x + 4), .ref ((x + 14) + 1), .ref ((x + 14) + 2), .ref ((x + 14) + 3), .int (iI (zR - 1))] := (fS4 (x + 14) (by omega)).trans hS2_0
    have e17 : S5 (x + 14) = oO 6 [.ref (x + 4), .ref ((x + 14) + 1), .ref ((x + 14) + 2), .ref ((x + 14) + 3), .int (iI (zR - 1))] := (fS5 (x + 14) (by omega)).trans e16
    have e18 : S12 (x + 14) = oO 6 [.ref (x + 4), .ref ((x + 14) + 1), .ref ((x + 14) + 2), .ref ((x + 14) + 3), .int (iI (zR - 1))] := (fS12 (x + 14) (off_ne (x := x) (a := 14) (b := 31) (by decide)) (off_ne (x := x) (a := 14) (b := 32) (by decide))).trans e17
    refine nn_get hc hw e18 hiX6 rfl 4 (by decide) rfl lk124 dX8_up_43 ?_
    have e19 : S4 (x + 15) = oI g 8 (adS lv qf 1 (bs.length : Int).toNat) := (fS4 (x + 15) (by omega)).trans hS2_1
    have e20 : S5 (x + 15) = oI g 8 (adS lv qf 1 (bs.length : Int).toNat) := (fS5 (x + 15) (by omega)).trans e19
    have e21 : S12 (x + 15) = oI g 8 (adS lv qf 1 (bs.length : Int).toNat) := (fS12 (x + 15) (off_ne (x := x) (a := 15) (b := 31) (by decide)) (off_ne (x := x) (a := 15) (b := 32) (by decide))).trans e20
    have e22 : S12 n = oO 1 [.int (iI 1), .ref q, .int (iI 0), .int (iI 0)] := (fS12 n (by omega) (by omega)).trans hS5_0
    exact hret (some (.int (iI (zR - 1)))) _ S12 _ _ _ _ hw (⟨rfl, rfl, (e18), (e21), e22, (hS12_0), (hS12_1), fun bb hb0 hb1 hb2 hb3 hb4 => ((((fS12 bb hb3 hb4)).trans (fS5 bb hb2)).trans (fS4 bb hb2)).trans (fS2 bb hb0 hb1)⟩) ⟨_, rfl, rfl, dX8_up_46⟩
  · exfalso; omega

set_option maxHeartbeats 4000000 in
set_option maxRecDepth 100000 in
theorem c_K_bring_bad (l : Launch) (g : gG) {n : Nat} {S : Nat → gE} {x tr : Nat} {nH pHi pWi pLp pBk pHp : Int} {nn0 h0 : Int} (hx : S x = oO 8 [.ref (x + 1), .ref (x + 4), .ref (x + 8), .ref (x + 12), .ref (x + 14), .ref (x + 20), .ref (x + 31), .ref tr]) (hp : S (x + 4) = oO 5 [.ref (x + 5), .ref (x + 6), .ref (x + 7), .int (iI nH), .int (iI pHi), .int (iI pWi), .int (iI pLp), .int (iI pBk), .int (iI pHp)]) (rH : 0 ≤ nH ∧ nH ≤ 8) (r_h0 : -2147483648 ≤ h0 ∧ h0 < 2147483648) (r_nn0 : -2147483648 ≤ nn0 ∧ nn0 < 2147483648) (hb : ¬ ((0 ≤ h0 ∧ h0 < nH) ∧ (1 ≤ nn0 ∧ nn0 ≤ 99))) : g_Cs l yX8_bring wsX8_bring { frames := 2, cells := 1, slots := 4, locals := 43 } g [.ref x, .int (iI h0), .int (iI nn0)] n S (fun vr n1 S1 => vr = some (.int (iI (-1))) ∧ n = n1 ∧ S = S1) 1 4 := by
  refine g_Cs.of (cc := cX8_bring) (maxL := 3) (ret := (some .int)) (by decide) rfl (Nat.le_of_ble_eq_true rfl) ?_
  intro pp ee s m below meth cK Q H locs ls hc hnm hw hl hret
  have hl : lv_has ls 3 [(0, .ref x), (1, .int (iI h0)), (2, .int (iI nn0))] := hl
  refine lv_aload_n hc.1 hc.2.1 dX8_bring_0 rfl (lv_at hl 0 rfl) ?_
  refine lv_iload_n hc.1 hc.2.1 dX8_bring_1 rfl (lv_at hl 1 rfl) ?_
  refine nn_Vp (As := [.int (iI h0)]) (st := []) hc hw hx rfl (c_X8_isHeap l g  hx hp (by omega) (by omega)) (cwV 1 hc.2.2.2.2 gX8_bring_X8_isHeap rfl rfl rfl (by decide +kernel) ⟨Nat.le_of_ble_eq_true rfl, Nat.le_of_ble_eq_true rfl⟩) rfl hl.1 rfl (Nat.le_of_ble_eq_true rfl) ⟨Nat.le_of_ble_eq_true rfl, Nat.le_of_ble_eq_true rfl⟩ dX8_bring_2 ?_
  refine W.eq (g2 := F0 m 5 ls [.int (iI (if 0 ≤ h0 ∧ h0 ≤ nH - 1 then 1 else 0))]) rfl ?_
  refine nn_if_eq hc dX8_bring_5 (tgt := 18) (by decide) (by omega) (fun c1 => ?_) (fun c1 => ?_)
  · refine nn_iconst hc dX8_bring_18 ?_
    refine W.widen (k := 1) (n := 4) (by decide) (by decide) ?_
    exact hret (some (.int (iI (-1)))) _ S _ _ _ _ hw (⟨rfl, rfl, rfl⟩) ⟨_, rfl, rfl, dX8_bring_19⟩
  · refine lv_iload_n hc.1 hc.2.1 dX8_bring_8 rfl (lv_at hl 2 rfl) ?_
    refine nn_iconst hc dX8_bring_9 ?_
    refine nn_bipush hc dX8_bring_10 (by decide +kernel) ?_
    refine nn_Sp (As := [.int (iI nn0), .int (iI 1), .int (iI 99)]) (st := []) hc hw (c_X8_isWithin l g   (by omega) (by omega) (by omega)) (va_cwS 3 hc.2.2.2.2 gX8_bring_X8_isWithin rfl rfl rfl (by decide +kernel) ⟨Nat.le_of_ble_eq_true rfl, Nat.le_of_ble_eq_true rfl⟩) rfl hl.1 rfl (Nat.le_of_ble_eq_true rfl) ⟨Nat.le_of_ble_eq_true rfl, Nat.le_of_ble_eq_true rfl⟩ dX8_bring_12 ?_
    refine W.eq (g2 := F0 m 15 ls [.int (iI (if 1 ≤ nn0 ∧ nn0 ≤ 99 then 1 else 0))]) rfl ?_
    refine nn_if_ne hc dX8_bring_15 (tgt := 20) (by decide) (by omega) (fun c2 => ?_) (fun c2 => ?_)
    · exfalso; omega
    · refine nn_iconst hc dX8_bring_18 ?_
      refine W.widen (k := 1) (n := 4) (by decide) (by decide) ?_
      exact hret (some (.int (iI (-1)))) _ S _ _ _ _ hw (⟨rfl, rfl, rfl⟩) ⟨_, rfl, rfl, dX8_bring_19⟩

set_option maxHeartbeats 4000000 in
set_option maxRecDepth 100000 in
theorem c_K_bring_full (l : Launch) (g : gG) {n : Nat} {S : Nat → gE} {x tr : Nat} {nH pHi pWi pLp pBk pHp : Int} {lv : Nat → Int} {zR : Int} {nn0 h0 : Int} (hx : S x = oO 8 [.ref (x + 1), .ref (x + 4), .ref (x + 8), .ref (x + 12), .ref (x + 14), .ref (x + 20), .ref (x + 31), .ref tr]) (hp : S (x + 4) = oO 5 [.ref (x + 5), .ref (x + 6), .ref (x + 7), .int (iI nH), .int (iI pHi), .int (iI pWi), .int (iI pLp), .int (iI pBk), .int (iI pHp)]) (ho : S (x + 14) = oO 6 [.ref (x + 4), .ref (x + 15), .ref (x + 16), .ref (x + 17), .int (iI zR)]) (hlv : S (x + 15) = oI g 8 lv) (rH : 0 ≤ nH ∧ nH ≤ 8) (hb : (0 ≤ h0 ∧ h0 < nH) ∧ (1 ≤ nn0 ∧ nn0 ≤ 99)) (rV : ∀ i : Nat, (i : Int) < nH → 0 ≤ lv i ∧ lv i ≤ 1000000) (hfu : 999 < lv h0.toNat + nn0) : g_Cs l yX8_bring wsX8_bring { frames := 2, cells := 1, slots := 4, locals := 43 } g [.ref x, .int (iI h0), .int (iI nn0)] n S (fun vr n1 S1 => vr = some (.int (iI (-3))) ∧ n = n1 ∧ S = S1) 1 4 := by
  refine g_Cs.of (cc := cX8_bring) (maxL := 3) (ret := (some .int)) (by decide) rfl (Nat.le_of_ble_eq_true rfl) ?_
  intro pp ee s m below meth cK Q H locs ls hc hnm hw hl hret
  have hl : lv_has ls 3 [(0, .ref x), (1, .int (iI h0)), (2, .int (iI nn0))] := hl
  have hiX8 : ∀ w ∈ u_ws RX8 TX8 8, w ∈ wsX8_bring := by decide +kernel
  have hiX6 : ∀ w ∈ u_ws RX6 TX6 5, w ∈ wsX8_bring := by decide +kernel
  have lk38 : Cond.fieldLink RX8 38 "RoofCourses" "roof" "LRoofCourses$Roof;" ∈ wsX8_bring := by decide +kernel
  have lk132 : Cond.fieldLink RX8 132 "RoofCourses$Roof" "left" "[I" ∈ wsX8_bring := by decide +kernel
  have hv9 := rV h0.toNat (by omega)
  refine lv_aload_n hc.1 hc.2.1 dX8_bring_0 rfl (lv_at hl 0 rfl) ?_
  refine lv_iload_n hc.1 hc.2.1 dX8_bring_1 rfl (lv_at hl 1 rfl) ?_
  refine nn_Vp (As := [.int (iI h0)]) (st := []) hc hw hx rfl (c_X8_isHeap l g  hx hp (by omega) (by omega)) (cwV 1 hc.2.2.2.2 gX8_bring_X8_isHeap rfl rfl rfl (by decide +kernel) ⟨Nat.le_of_ble_eq_true rfl, Nat.le_of_ble_eq_true rfl⟩) rfl hl.1 rfl (Nat.le_of_ble_eq_true rfl) ⟨Nat.le_of_ble_eq_true rfl, Nat.le_of_ble_eq_true rfl⟩ dX8_bring_2 ?_
  refine W.eq (g2 := F0 m 5 ls [.int (iI (if 0 ≤ h0 ∧ h0 ≤ nH - 1 then 1 else 0))]) rfl ?_
  refine nn_if_eq hc dX8_bring_5 (tgt := 18) (by decide) (by omega) (fun c1 => ?_) (fun c1 => ?_)
  · exfalso; omega
  · refine lv_iload_n hc.1 hc.2.1 dX8_bring_8 rfl (lv_at hl 2 rfl) ?_
    refine nn_iconst hc dX8_bring_9 ?_
    refine nn_bipush hc dX8_bring_10 (by decide +kernel) ?_
    refine nn_Sp (As := [.int (iI nn0), .int (iI 1), .int (iI 99)]) (st := []) hc hw (c_X8_isWithin l g   (by omega) (by omega) (by omega)) (va_cwS 3 hc.2.2.2.2 gX8_bring_X8_isWithin rfl rfl rfl (by decide +kernel) ⟨Nat.le_of_ble_eq_true rfl, Nat.le_of_ble_eq_true rfl⟩) rfl hl.1 rfl (Nat.le_of_ble_eq_true rfl) ⟨Nat.le_of_ble_eq_true rfl, Nat.le_of_ble_eq_true rfl⟩ dX8_bring_12 ?_
    refine W.eq (g2 := F0 m 15 ls [.int (iI (if 1 ≤ nn0 ∧ nn0 ≤ 99 then 1 else 0))]) rfl ?_
    refine nn_if_ne hc dX8_bring_15 (tgt := 20) (by decide) (by omega) (fun c2 => ?_) (fun c2 => ?_)
    · refine lv_aload_n hc.1 hc.2.1 dX8_bring_20 rfl (lv_at hl 0 rfl) ?_
      refine nn_get hc hw hx hiX8 rfl 4 (by decide) rfl lk38 dX8_bring_21 ?_
      refine nn_get hc hw ho hiX6 rfl 1 (by decide) rfl lk132 dX8_bring_24 ?_
      refine lv_iload_n hc.1 hc.2.1 dX8_bring_27 rfl (lv_at hl 1 rfl) ?_
      refine nn_iald hc hw hlv (by omega) (by omega) dX8_bring_28 ?_
      refine lv_iload_n hc.1 hc.2.1 dX8_bring_29 rfl (lv_at hl 2 rfl) ?_
      refine nn_iadd hc dX8_bring_30 ?_
      refine nn_sipush hc dX8_bring_31 (by decide +kernel) ?_
      refine nn_icmp_le hc dX8_bring_34 (tgt := 40) (by decide) (by omega) (by decide) (fun c3 => ?_) (fun c3 => ?_)
      · exfalso; omega
      · refine nn_bipush hc dX8_bring_37 (by decide +kernel) ?_
        refine W.widen (k := 1) (n := 4) (by decide) (by decide) ?_
        exact hret (some (.int (iI (-3)))) _ S _ _ _ _ hw (⟨rfl, rfl, rfl⟩) ⟨_, rfl, rfl, dX8_bring_39⟩
    · exfalso; omega

set_option maxHeartbeats 4000000 in
set_option maxRecDepth 100000 in
theorem c_K_bring_ok (l : Launch) (g : gG) {n : Nat} {S : Nat → gE} {x tr : Nat} {nH pHi pWi pLp pBk pHp : Int} {lv : Nat → Int} {zR : Int} {wZ : Int} {kp : Nat → Option Nat} {nn0 h0 : Int} (hx : S x = oO 8 [.ref (x + 1), .ref (x + 4), .ref (x + 8), .ref (x + 12), .ref (x + 14), .ref (x + 20), .ref (x + 31), .ref tr]) (hp : S (x + 4) = oO 5 [.ref (x + 5), .ref (x + 6), .ref (x + 7), .int (iI nH), .int (iI pHi), .int (iI pWi), .int (iI pLp), .int (iI pBk), .int (iI pHp)]) (ho : S (x + 14) = oO 6 [.ref (x + 4), .ref (x + 15), .ref (x + 16), .ref (x + 17), .int (iI zR)]) (hlv : S (x + 15) = oI g 8 lv) (hw0 : S (x + 31) = oO 2 [.ref (x + 32), .int (iI wZ)]) (hk0 : S (x + 32) = oR g 3 6 kp) (rH : 0 ≤ nH ∧ nH ≤ 8) (hb : (0 ≤ h0 ∧ h0 < nH) ∧ (1 ≤ nn0 ∧ nn0 ≤ 99)) (rV : ∀ i : Nat, (i : Int) < nH → 0 ≤ lv i ∧ lv i ≤ 1000000) (hfu : lv h0.toNat + nn0 ≤ 999) (rw : 0 ≤ wZ ∧ wZ ≤ 6) (hkp : ∀ j : Nat, (j : Int) < wZ → ∃ (a : Nat) (us : List Value), kp j = some a ∧ S a = oO 1 us ∧ (x + 47 ≤ a ∧ a < n) ∧ (a < tr ∨ tr + 3 ≤ a)) (hnx : x + 47 ≤ n) : g_Cs l yX8_bring wsX8_bring { frames := 2, cells := 1, slots := 4, locals := 44 } g [.ref x, .int (iI h0), .int (iI nn0)] n S (fun vr n1 S1 => vr = some (.int (iI (lv h0.toNat + nn0))) ∧ n + 1 = n1 ∧ S1 (x + 15) = oI g 8 (va_up lv h0.toNat (lv h0.toNat + nn0)) ∧ S1 n = oO 1 [.int (iI 2), .ref (x + 17), .int (iI h0), .int (iI nn0)] ∧ S1 (x + 31) = oO 2 [.ref (x + 32), .int (iI (if wZ = 6 then 6 else wZ + 1))] ∧ S1 (x + 32) = oR g 3 6 (adK kp wZ n) ∧ (∀ bb, bb ≠ (x + 15) → bb ≠ n → bb ≠ (x + 31) → bb ≠ (x + 32) → S1 bb = S bb)) 1 4 := by
  refine g_Cs.of (cc := cX8_bring) (maxL := 3) (ret := (some .int)) (by decide) rfl (Nat.le_of_ble_eq_true rfl) ?_
  intro pp ee s m below meth cK Q H locs ls hc hnm hw hl hret
  have hl : lv_has ls 3 [(0, .ref x), (1, .int (iI h0)), (2, .int (iI nn0))] := hl
  have hiX8 : ∀ w ∈ u_ws RX8 TX8 8, w ∈ wsX8_bring := by decide +kernel
  have hiX6 : ∀ w ∈ u_ws RX6 TX6 5, w ∈ wsX8_bring := by decide +kernel
  have hiX1 : ∀ w ∈ u_ws RX1 TX1 4, w ∈ wsX8_bring := by decide +kernel
  have lk38 : Cond.fieldLink RX8 38 "RoofCourses" "roof" "LRoofCourses$Roof;" ∈ wsX8_bring := by decide +kernel
  have lk132 : Cond.fieldLink RX8 132 "RoofCourses$Roof" "left" "[I" ∈ wsX8_bring := by decide +kernel
  have lk54 : Cond.fieldLink RX8 54 "RoofCourses" "changes" "LRoofCourses$Changes;" ∈ wsX8_bring := by decide +kernel
  have lkC114 : Cond.classLink RX8 114 RX1 ∈ wsX8_bring := by decide +kernel
  have lkIsX1 : Cond.instantiable RX1 4 ∈ wsX8_bring := by decide +kernel
  have lkI_X1 : Cond.initialized RX1 ∈ wsX8_bring := by decide +kernel
  have lk140 : Cond.fieldLink RX8 140 "RoofCourses$Roof" "ground" "LRoofCourses$Course;" ∈ wsX8_bring := by decide +kernel
  have lkL116 : Cond.methodLink RX8 116 yX1_init ∈ wsX8_bring := by decide +kernel
  have lkIn_X1_init : Cond.instanceMethod yX1_init ∈ wsX8_bring := by decide +kernel
  have hv9 := rV h0.toNat (by omega)
  refine lv_aload_n hc.1 hc.2.1 dX8_bring_0 rfl (lv_at hl 0 rfl) ?_
  refine lv_iload_n hc.1 hc.2.1 dX8_bring_1 rfl (lv_at hl 1 rfl) ?_
  refine nn_Vp (As := [.int (iI h0)]) (st := []) hc hw hx rfl (c_X8_isHeap l g  hx hp (by omega) (by omega)) (cwV 1 hc.2.2.2.2 gX8_bring_X8_isHeap rfl rfl rfl (by decide +kernel) ⟨Nat.le_of_ble_eq_true rfl, Nat.le_of_ble_eq_true rfl⟩) rfl hl.1 rfl (Nat.le_of_ble_eq_true rfl) ⟨Nat.le_of_ble_eq_true rfl, Nat.le_of_ble_eq_true rfl⟩ dX8_bring_2 ?_
  refine W.eq (g2 := F0 m 5 ls [.int (iI (if 0 ≤ h0 ∧ h0 ≤ nH - 1 then 1 else 0))]) rfl ?_
  refine nn_if_eq hc dX8_bring_5 (tgt := 18) (by decide) (by omega) (fun c1 => ?_) (fun c1 => ?_)
  · exfalso; omega
  · refine lv_iload_n hc.1 hc.2.1 dX8_bring_8 rfl (lv_at hl 2 rfl) ?_
    refine nn_iconst hc dX8_bring_9 ?_
    refine nn_bipush hc dX8_bring_10 (by decide +kernel) ?_
    refine nn_Sp (As := [.int (iI nn0), .int (iI 1), .int (iI 99)]) (st := []) hc hw (c_X8_isWithin l g   (by omega) (by omega) (by omega)) (va_cwS 3 hc.2.2.2.2 gX8_bring_X8_isWithin rfl rfl rfl (by decide +kernel) ⟨Nat.le_of_ble_eq_true rfl, Nat.le_of_ble_eq_true rfl⟩) rfl hl.1 rfl (Nat.le_of_ble_eq_true rfl) ⟨Nat.le_of_ble_eq_true rfl, Nat.le_of_ble_eq_true rfl⟩ dX8_bring_12 ?_
    refine W.eq (g2 := F0 m 15 ls [.int (iI (if 1 ≤ nn0 ∧ nn0 ≤ 99 then 1 else 0))]) rfl ?_
    refine nn_if_ne hc dX8_bring_15 (tgt := 20) (by decide) (by omega) (fun c2 => ?_) (fun c2 => ?_)
    · refine lv_aload_n hc.1 hc.2.1 dX8_bring_20 rfl (lv_at hl 0 rfl) ?_
      refine nn_get hc hw hx hiX8 rfl 4 (by decide) rfl lk38 dX8_bring_21 ?_
      refine nn_get hc hw ho hiX6 rfl 1 (by decide) rfl lk132 dX8_bring_24 ?_
      refine lv_iload_n hc.1 hc.2.1 dX8_bring_27 rfl (lv_at hl 1 rfl) ?_
      refine nn_iald hc hw hlv (by omega) (by omega) dX8_bring_28 ?_
      refine lv_iload_n hc.1 hc.2.1 dX8_bring_29 rfl (lv_at hl 2 rfl) ?_
      refine nn_iadd hc dX8_bring_30 ?_
      refine nn_sipush hc dX8_bring_31 (by decide +kernel) ?_
      refine nn_icmp_le hc dX8_bring_34 (tgt := 40) (by decide) (by omega) (by decide) (fun c3 => ?_) (fun c3 => ?_)
      · refine lv_aload_n hc.1 hc.2.1 dX8_bring_40 rfl (lv_at hl 0 rfl) ?_
        refine nn_get hc hw hx hiX8 rfl 4 (by decide) rfl lk38 dX8_bring_41 ?_
        refine nn_get hc hw ho hiX6 rfl 1 (by decide) rfl lk132 dX8_bring_44 ?_
        refine lv_iload_n hc.1 hc.2.1 dX8_bring_47 rfl (lv_at hl 1 rfl) ?_
        refine lv_iload_n hc.1 hc.2.1 dX8_bring_48 rfl (lv_at hl 2 rfl) ?_
        refine nn_Ss (As := [.ref (x + 15), .int (iI h0), .int (iI nn0)]) (st := []) hc hw (c_X6_addTo l g  hlv (by omega)) (va_cwS 3 hc.2.2.2.2 gX8_bring_X6_addTo rfl rfl rfl (by decide +kernel) ⟨Nat.le_of_ble_eq_true rfl, Nat.le_of_ble_eq_true rfl⟩) rfl hl.1 rfl (Nat.le_of_ble_eq_true rfl) ⟨Nat.le_of_ble_eq_true rfl, Nat.le_of_ble_eq_true rfl⟩ dX8_bring_49 (fun vr n1 S4 H locs qS4 hw => ?_)
        obtain ⟨rfl, rfl, hS4_0, fS4⟩ := qS4
        refine W.eq (g2 := F0 m 52 ls []) rfl ?_
        refine lv_aload_n hc.1 hc.2.1 dX8_bring_52 rfl (lv_at hl 0 rfl) ?_
        have e5 : S4 x = oO 8 [.ref (x + 1), .ref (x + 4), .ref (x + 8), .ref (x + 12), .ref (x + 14), .ref (x + 20), .ref (x + 31), .ref tr] := (fS4 x (off_nl (x := x) (a := 15) (by decide))).trans hx
        refine nn_get hc hw e5 hiX8 rfl 6 (by decide) rfl lk54 dX8_bring_53 ?_
        refine nn_new (ci := 1) hc hw hiX1 tyX1 tyX1_ok lkC114 lkIsX1 lkI_X1 rfl [.int (iI 0), .null, .int (iI 0), .int (iI 0)] (fun j hj => by rcases (show j = 0 ∨ j = 1 ∨ j = 2 ∨ j = 3 by omega) with rfl | rfl | rfl | rfl <;> rfl) (Nat.le_of_ble_eq_true rfl) (Nat.le_of_ble_eq_true rfl) dX8_bring_56 (fun S6 H hS6 fS6 hw => ?_)
        have hS6 : S6 n = oO 1 [.int (iI 0), .null, .int (iI 0), .int (iI 0)] := hS6
        have hw : g_W g (n + 1) S6 s H locs := hw
        refine W.cs (cells' := 1) (slots' := 4) (by decide) (by decide) ?_
        refine lv_dup hc.1 hc.2.1 dX8_bring_59 rfl ?_
        refine nn_iconst hc dX8_bring_60 ?_
        refine lv_aload_n hc.1 hc.2.1 dX8_bring_61 rfl (lv_at hl 0 rfl) ?_
        have e7 : S6 x = oO 8 [.ref (x + 1), .ref (x + 4), .ref (x + 8), .ref (x + 12), .ref (x + 14), .ref (x + 20), .ref (x + 31), .ref tr] := (fS6 x (by omega)).trans e5
        refine nn_get hc hw e7 hiX8 rfl 4 (by decide) rfl lk38 dX8_bring_62 ?_
        have e8 : S4 (x + 14) = oO 6 [.ref (x + 4), .ref (x + 15), .ref (x + 16), .ref (x + 17), .int (iI zR)] := (fS4 (x + 14) (off_ne (x := x) (a := 14) (b := 15) (by decide))).trans ho
        have e9 : S6 (x + 14) = oO 6 [.ref (x + 4), .ref (x + 15), .ref (x + 16), .ref (x + 17), .int (iI zR)] := (fS6 (x + 14) (by omega)).trans e8
        refine nn_get hc hw e9 hiX6 rfl 3 (by decide) rfl lk140 dX8_bring_65 ?_
        refine lv_iload_n hc.1 hc.2.1 dX8_bring_68 rfl (lv_at hl 1 rfl) ?_
        refine lv_iload_n hc.1 hc.2.1 dX8_bring_69 rfl (lv_at hl 2 rfl) ?_
        refine nn_Is (As := [.int (iI 2), .ref (x + 17), .int (iI h0), .int (iI nn0)]) (st := [.ref n, .ref (x + 31)]) hc hw (c_X1_init l g  hS6 ) (cwI 4 hc.2.2.2.2 gX8_bring_X1_init rfl rfl rfl (hc.2.2.2.2 _ lkI_X1) (hc.2.2.2.2 _ lkL116) (hc.2.2.2.2 _ lkIn_X1_init) rfl (by decide +kernel) ⟨Nat.le_of_ble_eq_true rfl, Nat.le_of_ble_eq_true rfl⟩) rfl hl.1 rfl (Nat.le_of_ble_eq_true rfl) ⟨Nat.le_of_ble_eq_true rfl, Nat.le_of_ble_eq_true rfl⟩ dX8_bring_70 (fun vr n1 S10 H locs qS10 hw => ?_)
        obtain ⟨rfl, rfl, hS10_0, fS10⟩ := qS10
        refine W.eq (g2 := F0 m 73 ls [.ref n, .ref (x + 31)]) rfl ?_
        have e11 : S4 (x + 31) = oO 2 [.ref (x + 32), .int (iI wZ)] := (fS4 (x + 31) (off_ne (x := x) (a := 31) (b := 15) (by decide))).trans hw0
        have e12 : S6 (x + 31) = oO 2 [.ref (x + 32), .int (iI wZ)] := (fS6 (x + 31) (by omega)).trans e11
        have e13 : S10 (x + 31) = oO 2 [.ref (x + 32), .int (iI wZ)] := (fS10 (x + 31) (by omega)).trans e12
        have e14 : S4 ((x + 31) + 1) = oR g 3 6 kp := (fS4 ((x + 31) + 1) (off_ne (x := x) (a := 32) (b := 15) (by decide))).trans hk0
        have e15 : S6 ((x + 31) + 1) = oR g 3 6 kp := (fS6 ((x + 31) + 1) (by omega)).trans e14
        have e16 : S10 ((x + 31) + 1) = oR g 3 6 kp := (fS10 ((x + 31) + 1) (by omega)).trans e15
        refine nn_Vs (As := [.ref n]) (st := []) hc hw e13 rfl (c_X2_add_any l g  e13 e16 hS10_0 (rw) (fun j hj => by obtain ⟨a9, us9, g1, g2, g3, g4⟩ := hkp j hj; exact ⟨a9, us9, g1, ((((fS10 a9 (by omega))).trans (fS6 a9 (by omega))).trans (fS4 a9 (by omega))).trans g2⟩)) (cwV 1 hc.2.2.2.2 gX8_bring_X2_add rfl rfl rfl (by decide +kernel) ⟨Nat.le_of_ble_eq_true rfl, Nat.le_of_ble_eq_true rfl⟩) rfl hl.1 rfl (Nat.le_of_ble_eq_true rfl) ⟨Nat.le_of_ble_eq_true rfl, Nat.le_of_ble_eq_true rfl⟩ dX8_bring_73 (fun vr n1 S17 H locs qS17 hw => ?_)
        obtain ⟨rfl, rfl, hS17_0, hS17_1, fS17⟩ := qS17
        refine W.eq (g2 := F0 m 76 ls []) rfl ?_
        refine lv_aload_n hc.1 hc.2.1 dX8_bring_76 rfl (lv_at hl 0 rfl) ?_
        have e18 : S10 x = oO 8 [.ref (x + 1), .ref (x + 4), .ref (x + 8), .ref (x + 12), .ref (x + 14), .ref (x + 20), .ref (x + 31), .ref tr] := (fS10 x (by omega)).trans e7
        have e19 : S17 x = oO 8 [.ref (x + 1), .ref (x + 4), .ref (x + 8), .ref (x + 12), .ref (x + 14), .ref (x + 20), .ref (x + 31), .ref tr] := (fS17 x (off_nl (x := x) (a := 31) (by decide)) (off_nl (x := x) (a := 32) (by decide))).trans e18
        refine nn_get hc hw e19 hiX8 rfl 4 (by decide) rfl lk38 dX8_bring_77 ?_
        have e20 : S10 (x + 14) = oO 6 [.ref (x + 4), .ref (x + 15), .ref (x + 16), .ref (x + 17), .int (iI zR)] := (fS10 (x + 14) (by omega)).trans e9
        have e21 : S17 (x + 14) = oO 6 [.ref (x + 4), .ref (x + 15), .ref (x + 16), .ref (x + 17), .int (iI zR)] := (fS17 (x + 14) (off_ne (x := x) (a := 14) (b := 31) (by decide)) (off_ne (x := x) (a := 14) (b := 32) (by decide))).trans e20
        refine nn_get hc hw e21 hiX6 rfl 1 (by decide) rfl lk132 dX8_bring_80 ?_
        refine lv_iload_n hc.1 hc.2.1 dX8_bring_83 rfl (lv_at hl 1 rfl) ?_
        have e22 : S6 (x + 15) = oI g 8 (va_up lv h0.toNat (lv h0.toNat + nn0)) := (fS6 (x + 15) (by omega)).trans hS4_0
        have e23 : S10 (x + 15) = oI g 8 (va_up lv h0.toNat (lv h0.toNat + nn0)) := (fS10 (x + 15) (by omega)).trans e22
        have e24 : S17 (x + 15) = oI g 8 (va_up lv h0.toNat (lv h0.toNat + nn0)) := (fS17 (x + 15) (off_ne (x := x) (a := 15) (b := 31) (by decide)) (off_ne (x := x) (a := 15) (b := 32) (by decide))).trans e23
        refine nn_iald hc hw e24 (by omega) (by omega) dX8_bring_84 ?_
        have e25 : S17 n = oO 1 [.int (iI 2), .ref (x + 17), .int (iI h0), .int (iI nn0)] := (fS17 n (by omega) (by omega)).trans hS10_0
        exact hret (some (.int (iI ((va_up lv h0.toNat (lv h0.toNat + nn0)) h0.toNat)))) _ S17 _ _ _ _ hw (⟨(by rw [va_up_self]), rfl, (e24), e25, (hS17_0), (hS17_1), fun bb hb0 hb1 hb2 hb3 => ((((fS17 bb hb2 hb3)).trans (fS10 bb hb1)).trans (fS6 bb hb1)).trans (fS4 bb hb0)⟩) ⟨_, rfl, rfl, dX8_bring_85⟩
      · exfalso; omega
    · exfalso; omega

set_option maxHeartbeats 4000000 in
set_option maxRecDepth 100000 in
theorem c_K_undo_no (l : Launch) (g : gG) {n : Nat} {S : Nat → gE} {x tr : Nat} {wZ : Int} (hx : S x = oO 8 [.ref (x + 1), .ref (x + 4), .ref (x + 8), .ref (x + 12), .ref (x + 14), .ref (x + 20), .ref (x + 31), .ref tr]) (hw0 : S (x + 31) = oO 2 [.ref (x + 32), .int (iI wZ)]) (hz : wZ = 0) : g_Cs l yX8_undo wsX8_undo { frames := 1, cells := 0, slots := 0, locals := 20 } g [.ref x] n S (fun vr n1 S1 => vr = some (.int (iI (-2))) ∧ n = n1 ∧ S = S1) 0 0 := by
  refine g_Cs.of (cc := cX8_undo) (maxL := 2) (ret := (some .int)) (by decide) rfl (Nat.le_of_ble_eq_true rfl) ?_
  intro pp ee s m below meth cK Q H locs ls hc hnm hw hl hret
  have hl : lv_has ls 2 [(0, .ref x)] := hl
  have hiX8 : ∀ w ∈ u_ws RX8 TX8 8, w ∈ wsX8_undo := by decide +kernel
  have lk54 : Cond.fieldLink RX8 54 "RoofCourses" "changes" "LRoofCourses$Changes;" ∈ wsX8_undo := by decide +kernel
  refine lv_aload_n hc.1 hc.2.1 dX8_undo_0 rfl (lv_at hl 0 rfl) ?_
  refine nn_get hc hw hx hiX8 rfl 6 (by decide) rfl lk54 dX8_undo_1 ?_
  refine nn_Vp (As := []) (st := []) hc hw hw0 rfl (c_X2_takeLatest_no l g  hw0 (by omega)) (cwV 0 hc.2.2.2.2 gX8_undo_X2_takeLatest rfl rfl rfl (by decide +kernel) ⟨Nat.le_of_ble_eq_true rfl, Nat.le_of_ble_eq_true rfl⟩) rfl hl.1 rfl (Nat.le_of_ble_eq_true rfl) ⟨Nat.le_of_ble_eq_true rfl, Nat.le_of_ble_eq_true rfl⟩ dX8_undo_4 ?_
  refine W.eq (g2 := F0 m 7 ls [.null]) rfl ?_
  refine lv_astore_nN (lv' := [(1, .null), (0, .ref x)]) hc.1 hc.2.1 dX8_undo_7 rfl hl (by decide) rfl (fun ls hl => ?_)
  refine lv_aload_nN hc.1 hc.2.1 dX8_undo_8 rfl (lv_at hl 0 rfl) ?_
  refine lv_ifnonnullN hc.1 hc.2.1 dX8_undo_9 ?_
  refine nn_bipush hc dX8_undo_12 (by decide +kernel) ?_
  exact hret (some (.int (iI (-2)))) _ S _ _ _ _ hw (⟨rfl, rfl, rfl⟩) ⟨_, rfl, rfl, dX8_undo_14⟩

set_option maxHeartbeats 4000000 in
set_option maxRecDepth 100000 in
theorem c_K_undo_0 (l : Launch) (g : gG) {n : Nat} {S : Nat → gE} {x tr q : Nat} {br : Nat → Int} {lv : Nat → Int} {zR : Int} {cs : Nat → Option Nat} {wZ : Int} {kp : Nat → Option Nat} {qL qF qG qR : Int} {qf ed : Nat → Int} {bs : sL} {hn sn : Int} {co cu : Nat} (hx : S x = oO 8 [.ref (x + 1), .ref (x + 4), .ref (x + 8), .ref (x + 12), .ref (x + 14), .ref (x + 20), .ref (x + 31), .ref tr]) (hw0 : S (x + 31) = oO 2 [.ref (x + 32), .int (iI wZ)]) (hk0 : S (x + 32) = oR g 3 6 kp) (hco0 : S co = oO 1 [.int (iI 0), .ref cu, .int (iI hn), .int (iI sn)]) (ho : S (x + 14) = oO 6 [.ref (x + 4), .ref (x + 15), .ref (x + 16), .ref (x + 17), .int (iI zR)]) (hlv : S (x + 15) = oI g 8 lv) (hcs : S (x + 16) = oR g 2 20 cs) (hq0 : S q = oO 3 [.ref (q + 1), .ref (q + 2), .int (iI qL), .int (iI qF), .int (iI qG), .int (iI qR), .int (iI (bs.length : Int)), .int (iI (wst br qL bs)), .int (iI (cuts br bs))]) (hq2 : S (q + 2) = oI g 60 ed) (hq1 : S (q + 1) = oI g 60 qf) (rw : 0 < wZ ∧ wZ ≤ 6) (hkl : kp (wZ - 1).toNat = some co) (hco : x + 47 ≤ co) (rzR : 0 < zR ∧ zR ≤ 20) (hla : cs (zR - 1).toNat = some q) (rbl : bs.length ≤ 60) (rqh : ∀ k : Nat, k < bs.length → 0 ≤ qf k ∧ qf k < 8) (hqa : q = x + 17 ∨ q = x + 33 ∨ x + 47 ≤ q) : g_Cs l yX8_undo wsX8_undo { frames := 5, cells := 0, slots := 0, locals := 109 } g [.ref x] n S (fun vr n1 S1 => vr = some (.int (iI (wZ - 1))) ∧ n = n1 ∧ S1 (x + 14) = oO 6 [.ref (x + 4), .ref (x + 15), .ref (x + 16), .ref (x + 17), .int (iI (zR - 1))] ∧ S1 (x + 15) = oI g 8 (adS lv qf 1 bs.length) ∧ S1 (x + 31) = oO 2 [.ref (x + 32), .int (iI (wZ - 1))] ∧ (∀ bb, bb ≠ (x + 14) → bb ≠ (x + 15) → bb ≠ (x + 31) → S1 bb = S bb)) 0 0 := by
  refine g_Cs.of (cc := cX8_undo) (maxL := 2) (ret := (some .int)) (by decide) rfl (Nat.le_of_ble_eq_true rfl) ?_
  intro pp ee s m below meth cK Q H locs ls hc hnm hw hl hret
  have hl : lv_has ls 2 [(0, .ref x)] := hl
  have hiX8 : ∀ w ∈ u_ws RX8 TX8 8, w ∈ wsX8_undo := by decide +kernel
  have hiX2 : ∀ w ∈ u_ws RX2 TX2 2, w ∈ wsX8_undo := by decide +kernel
  have lk54 : Cond.fieldLink RX8 54 "RoofCourses" "changes" "LRoofCourses$Changes;" ∈ wsX8_undo := by decide +kernel
  have lk38 : Cond.fieldLink RX8 38 "RoofCourses" "roof" "LRoofCourses$Roof;" ∈ wsX8_undo := by decide +kernel
  have lk151 : Cond.fieldLink RX8 151 "RoofCourses$Changes" "size" "I" ∈ wsX8_undo := by decide +kernel
  refine lv_aload_n hc.1 hc.2.1 dX8_undo_0 rfl (lv_at hl 0 rfl) ?_
  refine nn_get hc hw hx hiX8 rfl 6 (by decide) rfl lk54 dX8_undo_1 ?_
  refine nn_Vs (As := []) (st := []) hc hw hw0 rfl (c_X2_takeLatest_yes l g  hw0 hk0 (by omega) (hkl)) (cwV 0 hc.2.2.2.2 gX8_undo_X2_takeLatest rfl rfl rfl (by decide +kernel) ⟨Nat.le_of_ble_eq_true rfl, Nat.le_of_ble_eq_true rfl⟩) rfl hl.1 rfl (Nat.le_of_ble_eq_true rfl) ⟨Nat.le_of_ble_eq_true rfl, Nat.le_of_ble_eq_true rfl⟩ dX8_undo_4 (fun vr n1 S1 H locs qS1 hw => ?_)
  obtain ⟨rfl, rfl, hS1_0, fS1⟩ := qS1
  refine W.eq (g2 := F0 m 7 ls [.ref co]) rfl ?_
  refine lv_astore_n (lv' := [(1, .ref co), (0, .ref x)]) hc.1 hc.2.1 dX8_undo_7 rfl hl (by decide) rfl (fun ls hl => ?_)
  refine lv_aload_n hc.1 hc.2.1 dX8_undo_8 rfl (lv_at hl 0 rfl) ?_
  refine lv_ifnonnull hc.1 hc.2.1 dX8_undo_9 (tgt := 15) (by decide) ?_
  refine lv_aload_n hc.1 hc.2.1 dX8_undo_15 rfl (lv_at hl 0 rfl) ?_
  refine lv_aload_n hc.1 hc.2.1 dX8_undo_16 rfl (lv_at hl 1 rfl) ?_
  have e2 : S1 x = oO 8 [.ref (x + 1), .ref (x + 4), .ref (x + 8), .ref (x + 12), .ref (x + 14), .ref (x + 20), .ref (x + 31), .ref tr] := (fS1 x (off_nl (x := x) (a := 31) (by decide))).trans hx
  refine nn_get hc hw e2 hiX8 rfl 4 (by decide) rfl lk38 dX8_undo_17 ?_
  have e3 : S1 co = oO 1 [.int (iI 0), .ref cu, .int (iI hn), .int (iI sn)] := (fS1 co (by omega)).trans hco0
  have e4 : S1 (x + 14) = oO 6 [.ref (x + 4), .ref (x + 15), .ref (x + 16), .ref (x + 17), .int (iI zR)] := (fS1 (x + 14) (off_ne (x := x) (a := 14) (b := 31) (by decide))).trans ho
  have e5 : S1 ((x + 14) + 1) = oI g 8 lv := (fS1 ((x + 14) + 1) (off_ne (x := x) (a := 15) (b := 31) (by decide))).trans hlv
  have e6 : S1 ((x + 14) + 2) = oR g 2 20 cs := (fS1 ((x + 14) + 2) (off_ne (x := x) (a := 16) (b := 31) (by decide))).trans hcs
  have e7 : S1 q = oO 3 [.ref (q + 1), .ref (q + 2), .int (iI qL), .int (iI qF), .int (iI qG), .int (iI qR), .int (iI (bs.length : Int)), .int (iI (wst br qL bs)), .int (iI (cuts br bs))] := (fS1 q (by omega)).trans hq0
  have e8 : S1 (q + 1) = oI g 60 qf := (fS1 (q + 1) (by omega)).trans hq1
  refine nn_Vs (As := [.ref (x + 14)]) (st := []) hc hw e3 rfl (c_X1_undoOn_0b l g  e3 e4 e5 e6 e7 e8 (by omega) (hla) (by omega) (fun k hk => rqh k (by omega)) (by omega)) (cwV 1 hc.2.2.2.2 gX8_undo_X1_undoOn rfl rfl rfl (by decide +kernel) ⟨Nat.le_of_ble_eq_true rfl, Nat.le_of_ble_eq_true rfl⟩) rfl hl.1 rfl (Nat.le_of_ble_eq_true rfl) ⟨Nat.le_of_ble_eq_true rfl, Nat.le_of_ble_eq_true rfl⟩ dX8_undo_20 (fun vr n1 S9 H locs qS9 hw => ?_)
  obtain ⟨rfl, rfl, hS9_0, hS9_1, fS9⟩ := qS9
  refine W.eq (g2 := F0 m 23 ls []) rfl ?_
  refine lv_aload_n hc.1 hc.2.1 dX8_undo_23 rfl (lv_at hl 1 rfl) ?_
  have e10 : S9 x = oO 8 [.ref (x + 1), .ref (x + 4), .ref (x + 8), .ref (x + 12), .ref (x + 14), .ref (x + 20), .ref (x + 31), .ref tr] := (fS9 x (off_nl (x := x) (a := 14) (by decide)) (off_nl (x := x) (a := 15) (by decide))).trans e2
  refine nn_get hc hw e10 hiX8 rfl 6 (by decide) rfl lk54 dX8_undo_24 ?_
  have e11 : S9 (x + 31) = oO 2 [.ref ((x + 31) + 1), .int (iI (wZ - 1))] := (fS9 (x + 31) (off_ne (x := x) (a := 31) (b := 14) (by decide)) (off_ne (x := x) (a := 31) (b := 15) (by decide))).trans hS1_0
  refine nn_get hc hw e11 hiX2 rfl 1 (by decide) rfl lk151 dX8_undo_27 ?_
  exact hret (some (.int (iI (wZ - 1)))) _ S9 _ _ _ _ hw (⟨rfl, rfl, (by (repeat' split) <;> first | exact hS9_0 | (exfalso; omega)), (hS9_1), (by (repeat' split) <;> first | exact e11 | (exfalso; omega)), fun bb hb0 hb1 hb2 => ((fS9 bb hb0 hb1)).trans (fS1 bb hb2)⟩) ⟨_, rfl, rfl, dX8_undo_30⟩

set_option maxHeartbeats 4000000 in
set_option maxRecDepth 100000 in
theorem c_K_undo_1 (l : Launch) (g : gG) {n : Nat} {S : Nat → gE} {x tr q : Nat} {br : Nat → Int} {lv : Nat → Int} {zR : Int} {cs : Nat → Option Nat} {wZ : Int} {kp : Nat → Option Nat} {qL qF qG qR : Int} {qf ed : Nat → Int} {bs : sL} {hn sn : Int} {co : Nat} (hx : S x = oO 8 [.ref (x + 1), .ref (x + 4), .ref (x + 8), .ref (x + 12), .ref (x + 14), .ref (x + 20), .ref (x + 31), .ref tr]) (hw0 : S (x + 31) = oO 2 [.ref (x + 32), .int (iI wZ)]) (hk0 : S (x + 32) = oR g 3 6 kp) (hco0 : S co = oO 1 [.int (iI 1), .ref q, .int (iI hn), .int (iI sn)]) (ho : S (x + 14) = oO 6 [.ref (x + 4), .ref (x + 15), .ref (x + 16), .ref (x + 17), .int (iI zR)]) (hlv : S (x + 15) = oI g 8 lv) (hcs : S (x + 16) = oR g 2 20 cs) (hq0 : S q = oO 3 [.ref (q + 1), .ref (q + 2), .int (iI qL), .int (iI qF), .int (iI qG), .int (iI qR), .int (iI (bs.length : Int)), .int (iI (wst br qL bs)), .int (iI (cuts br bs))]) (hq2 : S (q + 2) = oI g 60 ed) (hq1 : S (q + 1) = oI g 60 qf) (rw : 0 < wZ ∧ wZ ≤ 6) (hkl : kp (wZ - 1).toNat = some co) (hco : x + 47 ≤ co) (rzR : 0 ≤ zR ∧ zR < 20) (rbl : bs.length ≤ 60) (rqh : ∀ k : Nat, k < bs.length → 0 ≤ qf k ∧ qf k < 8) (hqa : q = x + 17 ∨ q = x + 33 ∨ x + 47 ≤ q) : g_Cs l yX8_undo wsX8_undo { frames := 5, cells := 0, slots := 0, locals := 109 } g [.ref x] n S (fun vr n1 S1 => vr = some (.int (iI (wZ - 1))) ∧ n = n1 ∧ S1 (x + 14) = oO 6 [.ref (x + 4), .ref (x + 15), .ref (x + 16), .ref (x + 17), .int (iI (zR + 1))] ∧ S1 (x + 15) = oI g 8 (adS lv qf (-1) bs.length) ∧ S1 (x + 16) = oR g 2 20 (va_up cs zR.toNat (some q)) ∧ S1 (x + 31) = oO 2 [.ref (x + 32), .int (iI (wZ - 1))] ∧ (∀ bb, bb ≠ (x + 14) → bb ≠ (x + 15) → bb ≠ (x + 16) → bb ≠ (x + 31) → S1 bb = S bb)) 0 0 := by
  refine g_Cs.of (cc := cX8_undo) (maxL := 2) (ret := (some .int)) (by decide) rfl (Nat.le_of_ble_eq_true rfl) ?_
  intro pp ee s m below meth cK Q H locs ls hc hnm hw hl hret
  have hl : lv_has ls 2 [(0, .ref x)] := hl
  have hiX8 : ∀ w ∈ u_ws RX8 TX8 8, w ∈ wsX8_undo := by decide +kernel
  have hiX2 : ∀ w ∈ u_ws RX2 TX2 2, w ∈ wsX8_undo := by decide +kernel
  have lk54 : Cond.fieldLink RX8 54 "RoofCourses" "changes" "LRoofCourses$Changes;" ∈ wsX8_undo := by decide +kernel
  have lk38 : Cond.fieldLink RX8 38 "RoofCourses" "roof" "LRoofCourses$Roof;" ∈ wsX8_undo := by decide +kernel
  have lk151 : Cond.fieldLink RX8 151 "RoofCourses$Changes" "size" "I" ∈ wsX8_undo := by decide +kernel
  refine lv_aload_n hc.1 hc.2.1 dX8_undo_0 rfl (lv_at hl 0 rfl) ?_
  refine nn_get hc hw hx hiX8 rfl 6 (by decide) rfl lk54 dX8_undo_1 ?_
  refine nn_Vs (As := []) (st := []) hc hw hw0 rfl (c_X2_takeLatest_yes l g  hw0 hk0 (by omega) (hkl)) (cwV 0 hc.2.2.2.2 gX8_undo_X2_takeLatest rfl rfl rfl (by decide +kernel) ⟨Nat.le_of_ble_eq_true rfl, Nat.le_of_ble_eq_true rfl⟩) rfl hl.1 rfl (Nat.le_of_ble_eq_true rfl) ⟨Nat.le_of_ble_eq_true rfl, Nat.le_of_ble_eq_true rfl⟩ dX8_undo_4 (fun vr n1 S1 H locs qS1 hw => ?_)
  obtain ⟨rfl, rfl, hS1_0, fS1⟩ := qS1
  refine W.eq (g2 := F0 m 7 ls [.ref co]) rfl ?_
  refine lv_astore_n (lv' := [(1, .ref co), (0, .ref x)]) hc.1 hc.2.1 dX8_undo_7 rfl hl (by decide) rfl (fun ls hl => ?_)
  refine lv_aload_n hc.1 hc.2.1 dX8_undo_8 rfl (lv_at hl 0 rfl) ?_
  refine lv_ifnonnull hc.1 hc.2.1 dX8_undo_9 (tgt := 15) (by decide) ?_
  refine lv_aload_n hc.1 hc.2.1 dX8_undo_15 rfl (lv_at hl 0 rfl) ?_
  refine lv_aload_n hc.1 hc.2.1 dX8_undo_16 rfl (lv_at hl 1 rfl) ?_
  have e2 : S1 x = oO 8 [.ref (x + 1), .ref (x + 4), .ref (x + 8), .ref (x + 12), .ref (x + 14), .ref (x + 20), .ref (x + 31), .ref tr] := (fS1 x (off_nl (x := x) (a := 31) (by decide))).trans hx
  refine nn_get hc hw e2 hiX8 rfl 4 (by decide) rfl lk38 dX8_undo_17 ?_
  have e3 : S1 co = oO 1 [.int (iI 1), .ref q, .int (iI hn), .int (iI sn)] := (fS1 co (by omega)).trans hco0
  have e4 : S1 (x + 14) = oO 6 [.ref (x + 4), .ref (x + 15), .ref (x + 16), .ref (x + 17), .int (iI zR)] := (fS1 (x + 14) (off_ne (x := x) (a := 14) (b := 31) (by decide))).trans ho
  have e5 : S1 ((x + 14) + 1) = oI g 8 lv := (fS1 ((x + 14) + 1) (off_ne (x := x) (a := 15) (b := 31) (by decide))).trans hlv
  have e6 : S1 ((x + 14) + 2) = oR g 2 20 cs := (fS1 ((x + 14) + 2) (off_ne (x := x) (a := 16) (b := 31) (by decide))).trans hcs
  have e7 : S1 q = oO 3 [.ref (q + 1), .ref (q + 2), .int (iI qL), .int (iI qF), .int (iI qG), .int (iI qR), .int (iI (bs.length : Int)), .int (iI (wst br qL bs)), .int (iI (cuts br bs))] := (fS1 q (by omega)).trans hq0
  have e8 : S1 (q + 1) = oI g 60 qf := (fS1 (q + 1) (by omega)).trans hq1
  refine nn_Vs (As := [.ref (x + 14)]) (st := []) hc hw e3 rfl (c_X1_undoOn_1 l g  e3 e4 e5 e6 e7 e8 (by omega) (by omega) (fun k hk => rqh k (by omega)) (by omega)) (cwV 1 hc.2.2.2.2 gX8_undo_X1_undoOn rfl rfl rfl (by decide +kernel) ⟨Nat.le_of_ble_eq_true rfl, Nat.le_of_ble_eq_true rfl⟩) rfl hl.1 rfl (Nat.le_of_ble_eq_true rfl) ⟨Nat.le_of_ble_eq_true rfl, Nat.le_of_ble_eq_true rfl⟩ dX8_undo_20 (fun vr n1 S9 H locs qS9 hw => ?_)
  obtain ⟨rfl, rfl, hS9_0, hS9_1, hS9_2, fS9⟩ := qS9
  refine W.eq (g2 := F0 m 23 ls []) rfl ?_
  refine lv_aload_n hc.1 hc.2.1 dX8_undo_23 rfl (lv_at hl 1 rfl) ?_
  have e10 : S9 x = oO 8 [.ref (x + 1), .ref (x + 4), .ref (x + 8), .ref (x + 12), .ref (x + 14), .ref (x + 20), .ref (x + 31), .ref tr] := (fS9 x (off_nl (x := x) (a := 14) (by decide)) (off_nl (x := x) (a := 15) (by decide)) (off_nl (x := x) (a := 16) (by decide))).trans e2
  refine nn_get hc hw e10 hiX8 rfl 6 (by decide) rfl lk54 dX8_undo_24 ?_
  have e11 : S9 (x + 31) = oO 2 [.ref ((x + 31) + 1), .int (iI (wZ - 1))] := (fS9 (x + 31) (off_ne (x := x) (a := 31) (b := 14) (by decide)) (off_ne (x := x) (a := 31) (b := 15) (by decide)) (off_ne (x := x) (a := 31) (b := 16) (by decide))).trans hS1_0
  refine nn_get hc hw e11 hiX2 rfl 1 (by decide) rfl lk151 dX8_undo_27 ?_
  exact hret (some (.int (iI (wZ - 1)))) _ S9 _ _ _ _ hw (⟨rfl, rfl, (by (repeat' split) <;> first | exact hS9_0 | (exfalso; omega)), (hS9_1), hS9_2, (by (repeat' split) <;> first | exact e11 | (exfalso; omega)), fun bb hb0 hb1 hb2 hb3 => ((fS9 bb hb0 hb1 hb2)).trans (fS1 bb hb3)⟩) ⟨_, rfl, rfl, dX8_undo_30⟩

set_option maxHeartbeats 4000000 in
set_option maxRecDepth 100000 in
theorem c_K_undo_2 (l : Launch) (g : gG) {n : Nat} {S : Nat → gE} {x tr : Nat} {lv : Nat → Int} {zR : Int} {wZ : Int} {kp : Nat → Option Nat} {hn sn : Int} {co cu : Nat} (hx : S x = oO 8 [.ref (x + 1), .ref (x + 4), .ref (x + 8), .ref (x + 12), .ref (x + 14), .ref (x + 20), .ref (x + 31), .ref tr]) (hw0 : S (x + 31) = oO 2 [.ref (x + 32), .int (iI wZ)]) (hk0 : S (x + 32) = oR g 3 6 kp) (hco0 : S co = oO 1 [.int (iI 2), .ref cu, .int (iI hn), .int (iI sn)]) (ho : S (x + 14) = oO 6 [.ref (x + 4), .ref (x + 15), .ref (x + 16), .ref (x + 17), .int (iI zR)]) (hlv : S (x + 15) = oI g 8 lv) (rw : 0 < wZ ∧ wZ ≤ 6) (hkl : kp (wZ - 1).toNat = some co) (hco : x + 47 ≤ co) (rhn : 0 ≤ hn ∧ hn < 8) : g_Cs l yX8_undo wsX8_undo { frames := 3, cells := 0, slots := 0, locals := 65 } g [.ref x] n S (fun vr n1 S1 => vr = some (.int (iI (wZ - 1))) ∧ n = n1 ∧ S1 (x + 15) = oI g 8 (va_up lv hn.toNat (lv hn.toNat - sn)) ∧ S1 (x + 31) = oO 2 [.ref (x + 32), .int (iI (wZ - 1))] ∧ (∀ bb, bb ≠ (x + 15) → bb ≠ (x + 31) → S1 bb = S bb)) 0 0 := by
  refine g_Cs.of (cc := cX8_undo) (maxL := 2) (ret := (some .int)) (by decide) rfl (Nat.le_of_ble_eq_true rfl) ?_
  intro pp ee s m below meth cK Q H locs ls hc hnm hw hl hret
  have hl : lv_has ls 2 [(0, .ref x)] := hl
  have hiX8 : ∀ w ∈ u_ws RX8 TX8 8, w ∈ wsX8_undo := by decide +kernel
  have hiX2 : ∀ w ∈ u_ws RX2 TX2 2, w ∈ wsX8_undo := by decide +kernel
  have lk54 : Cond.fieldLink RX8 54 "RoofCourses" "changes" "LRoofCourses$Changes;" ∈ wsX8_undo := by decide +kernel
  have lk38 : Cond.fieldLink RX8 38 "RoofCourses" "roof" "LRoofCourses$Roof;" ∈ wsX8_undo := by decide +kernel
  have lk151 : Cond.fieldLink RX8 151 "RoofCourses$Changes" "size" "I" ∈ wsX8_undo := by decide +kernel
  refine lv_aload_n hc.1 hc.2.1 dX8_undo_0 rfl (lv_at hl 0 rfl) ?_
  refine nn_get hc hw hx hiX8 rfl 6 (by decide) rfl lk54 dX8_undo_1 ?_
  refine nn_Vs (As := []) (st := []) hc hw hw0 rfl (c_X2_takeLatest_yes l g  hw0 hk0 (by omega) (hkl)) (cwV 0 hc.2.2.2.2 gX8_undo_X2_takeLatest rfl rfl rfl (by decide +kernel) ⟨Nat.le_of_ble_eq_true rfl, Nat.le_of_ble_eq_true rfl⟩) rfl hl.1 rfl (Nat.le_of_ble_eq_true rfl) ⟨Nat.le_of_ble_eq_true rfl, Nat.le_of_ble_eq_true rfl⟩ dX8_undo_4 (fun vr n1 S1 H locs qS1 hw => ?_)
  obtain ⟨rfl, rfl, hS1_0, fS1⟩ := qS1
  refine W.eq (g2 := F0 m 7 ls [.ref co]) rfl ?_
  refine lv_astore_n (lv' := [(1, .ref co), (0, .ref x)]) hc.1 hc.2.1 dX8_undo_7 rfl hl (by decide) rfl (fun ls hl => ?_)
  refine lv_aload_n hc.1 hc.2.1 dX8_undo_8 rfl (lv_at hl 0 rfl) ?_
  refine lv_ifnonnull hc.1 hc.2.1 dX8_undo_9 (tgt := 15) (by decide) ?_
  refine lv_aload_n hc.1 hc.2.1 dX8_undo_15 rfl (lv_at hl 0 rfl) ?_
  refine lv_aload_n hc.1 hc.2.1 dX8_undo_16 rfl (lv_at hl 1 rfl) ?_
  have e2 : S1 x = oO 8 [.ref (x + 1), .ref (x + 4), .ref (x + 8), .ref (x + 12), .ref (x + 14), .ref (x + 20), .ref (x + 31), .ref tr] := (fS1 x (off_nl (x := x) (a := 31) (by decide))).trans hx
  refine nn_get hc hw e2 hiX8 rfl 4 (by decide) rfl lk38 dX8_undo_17 ?_
  have e3 : S1 co = oO 1 [.int (iI 2), .ref cu, .int (iI hn), .int (iI sn)] := (fS1 co (by omega)).trans hco0
  have e4 : S1 (x + 14) = oO 6 [.ref (x + 4), .ref (x + 15), .ref (x + 16), .ref (x + 17), .int (iI zR)] := (fS1 (x + 14) (off_ne (x := x) (a := 14) (b := 31) (by decide))).trans ho
  have e5 : S1 ((x + 14) + 1) = oI g 8 lv := (fS1 ((x + 14) + 1) (off_ne (x := x) (a := 15) (b := 31) (by decide))).trans hlv
  refine nn_Vs (As := [.ref (x + 14)]) (st := []) hc hw e3 rfl (c_X1_undoOn_2 l g  e3 e4 e5 (by omega)) (cwV 1 hc.2.2.2.2 gX8_undo_X1_undoOn rfl rfl rfl (by decide +kernel) ⟨Nat.le_of_ble_eq_true rfl, Nat.le_of_ble_eq_true rfl⟩) rfl hl.1 rfl (Nat.le_of_ble_eq_true rfl) ⟨Nat.le_of_ble_eq_true rfl, Nat.le_of_ble_eq_true rfl⟩ dX8_undo_20 (fun vr n1 S6 H locs qS6 hw => ?_)
  obtain ⟨rfl, rfl, hS6_0, fS6⟩ := qS6
  refine W.eq (g2 := F0 m 23 ls []) rfl ?_
  refine lv_aload_n hc.1 hc.2.1 dX8_undo_23 rfl (lv_at hl 1 rfl) ?_
  have e7 : S6 x = oO 8 [.ref (x + 1), .ref (x + 4), .ref (x + 8), .ref (x + 12), .ref (x + 14), .ref (x + 20), .ref (x + 31), .ref tr] := (fS6 x (off_nl (x := x) (a := 15) (by decide))).trans e2
  refine nn_get hc hw e7 hiX8 rfl 6 (by decide) rfl lk54 dX8_undo_24 ?_
  have e8 : S6 (x + 31) = oO 2 [.ref ((x + 31) + 1), .int (iI (wZ - 1))] := (fS6 (x + 31) (off_ne (x := x) (a := 31) (b := 15) (by decide))).trans hS1_0
  refine nn_get hc hw e8 hiX2 rfl 1 (by decide) rfl lk151 dX8_undo_27 ?_
  exact hret (some (.int (iI (wZ - 1)))) _ S6 _ _ _ _ hw (⟨rfl, rfl, hS6_0, (by (repeat' split) <;> first | exact e8 | (exfalso; omega)), fun bb hb0 hb1 => ((fS6 bb hb0)).trans (fS1 bb hb1)⟩) ⟨_, rfl, rfl, dX8_undo_30⟩

set_option maxHeartbeats 4000000 in
set_option maxRecDepth 100000 in
theorem c_K_heap (l : Launch) (g : gG) {n : Nat} {S : Nat → gE} {x tr : Nat} {nH pHi pWi pLp pBk pHp : Int} {ln br : Nat → Int} {lv : Nat → Int} {zR : Int} {cs : Nat → Option Nat} {ca : Nat → Nat} {rows : rT} {what h0 : Int} {kh : Nat → Nat → Int} (hx : S x = oO 8 [.ref (x + 1), .ref (x + 4), .ref (x + 8), .ref (x + 12), .ref (x + 14), .ref (x + 20), .ref (x + 31), .ref tr]) (hp : S (x + 4) = oO 5 [.ref (x + 5), .ref (x + 6), .ref (x + 7), .int (iI nH), .int (iI pHi), .int (iI pWi), .int (iI pLp), .int (iI pBk), .int (iI pHp)]) (hln : S (x + 5) = oI g 8 ln) (hbr : S (x + 6) = oI g 8 br) (ho : S (x + 14) = oO 6 [.ref (x + 4), .ref (x + 15), .ref (x + 16), .ref (x + 17), .int (iI zR)]) (hlv : S (x + 15) = oI g 8 lv) (hcs : S (x + 16) = oR g 2 20 cs) (rH : 0 ≤ nH ∧ nH ≤ 8) (rzR : 0 ≤ zR ∧ zR ≤ 20) (hca : ∀ j : Nat, (j : Int) < zR → cs j = some (ca j)) (hck : ∀ j : Nat, (j : Int) < zR → crs g S (ca j) (rL rows j) (hdR pLp rows j) ((rL rows j - pLp) / 2) (rmF pWi pHp (hdR pLp rows j)) br (rS rows j)) (hkh : ∀ j : Nat, (j : Int) < zR → S (ca j + 1) = oI g 60 (kh j) ∧ (rS rows j).length ≤ 60 ∧ ∀ k : Nat, k < (rS rows j).length → 0 ≤ kh j k ∧ kh j k < 8) (hcn : 0 ≤ h0 → cnt2 kh (fun j => ((rS rows j).length : Int)) h0 zR.toNat = cntR rows h0.toNat) (r_h0 : -2147483648 ≤ h0 ∧ h0 < 2147483648) (r_what : -2147483648 ≤ what ∧ what < 2147483648) : g_Cp l yX8_heap wsX8_heap { frames := 2, cells := 0, slots := 0, locals := 43 } g [.ref x, .int (iI h0), .int (iI what)] n S (some (.int (iI (if (0 ≤ h0 ∧ h0 < nH) ∧ (0 ≤ what ∧ what ≤ 3) then aHeap ln br lv rows h0.toNat what else -1)))) := by
  refine g_Cp.of (cc := cX8_heap) (maxL := 3) (ret := (some .int)) (by decide) rfl (Nat.le_of_ble_eq_true rfl) ?_
  intro pp ee s m below meth cK Q ls hc hnm hw hl hret
  have hl : lv_has ls 3 [(0, .ref x), (1, .int (iI h0)), (2, .int (iI what))] := hl
  have hiX8 : ∀ w ∈ u_ws RX8 TX8 8, w ∈ wsX8_heap := by decide +kernel
  have hiX5 : ∀ w ∈ u_ws RX5 TX5 9, w ∈ wsX8_heap := by decide +kernel
  have hiX6 : ∀ w ∈ u_ws RX6 TX6 5, w ∈ wsX8_heap := by decide +kernel
  have lk19 : Cond.fieldLink RX8 19 "RoofCourses" "plan" "LRoofCourses$Plan;" ∈ wsX8_heap := by decide +kernel
  have lk152 : Cond.fieldLink RX8 152 "RoofCourses$Plan" "length" "[I" ∈ wsX8_heap := by decide +kernel
  have lk154 : Cond.fieldLink RX8 154 "RoofCourses$Plan" "breadth" "[I" ∈ wsX8_heap := by decide +kernel
  have lk38 : Cond.fieldLink RX8 38 "RoofCourses" "roof" "LRoofCourses$Roof;" ∈ wsX8_heap := by decide +kernel
  have lk132 : Cond.fieldLink RX8 132 "RoofCourses$Roof" "left" "[I" ∈ wsX8_heap := by decide +kernel
  have hrt : ∀ (pc : Nat) (ls : Array Slot) (xr : Int), decode cX8_heap pc = .ok (.ireturn, 1) → xr = (if (0 ≤ h0 ∧ h0 < nH) ∧ (0 ≤ what ∧ what ≤ 3) then aHeap ln br lv rows h0.toNat what else -1) → W pp l ee ({ frames := 2, cells := 0, slots := 0, locals := 43 } : Room) s m ([.ref x, .int (iI h0), .int (iI what)] : List Value).toArray below meth cK s.heap [] 0 0 Q (F0 m pc ls [.int (iI xr)]) := fun pc ls xr d hx => by subst hx; exact hret pc ls ⟨_, rfl, rfl, d⟩
  refine lv_aload_n hc.1 hc.2.1 dX8_heap_0 rfl (lv_at hl 0 rfl) ?_
  refine lv_iload_n hc.1 hc.2.1 dX8_heap_1 rfl (lv_at hl 1 rfl) ?_
  refine nn_Vp (As := [.int (iI h0)]) (st := []) hc hw hx rfl (c_X8_isHeap l g  hx hp (by omega) (by omega)) (cwV 1 hc.2.2.2.2 gX8_heap_X8_isHeap rfl rfl rfl (by decide +kernel) ⟨Nat.le_of_ble_eq_true rfl, Nat.le_of_ble_eq_true rfl⟩) rfl hl.1 rfl (Nat.le_of_ble_eq_true rfl) ⟨Nat.le_of_ble_eq_true rfl, Nat.le_of_ble_eq_true rfl⟩ dX8_heap_2 ?_
  refine W.eq (g2 := F0 m 5 ls [.int (iI (if 0 ≤ h0 ∧ h0 ≤ nH - 1 then 1 else 0))]) rfl ?_
  refine nn_if_ne hc dX8_heap_5 (tgt := 10) (by decide) (by omega) (fun c1 => ?_) (fun c1 => ?_)
  · refine lv_iload_n hc.1 hc.2.1 dX8_heap_10 rfl (lv_at hl 2 rfl) ?_
    rcases (show what = 0 ∨ what = 1 ∨ what = 2 ∨ what = 3 ∨ (what < 0 ∨ 3 < what) by omega) with w2 | w2 | w2 | w2 | w2
    · refine nn_tabIn hc 0 (tgt := 40) w2 (by decide) (by decide) (by decide) dX8_heap_11 rfl (by decide) ?_
      refine lv_aload_n hc.1 hc.2.1 dX8_heap_40 rfl (lv_at hl 0 rfl) ?_
      refine nn_get hc hw hx hiX8 rfl 1 (by decide) rfl lk19 dX8_heap_41 ?_
      refine nn_get hc hw hp hiX5 rfl 0 (by decide) rfl lk152 dX8_heap_44 ?_
      refine lv_iload_n hc.1 hc.2.1 dX8_heap_47 rfl (lv_at hl 1 rfl) ?_
      refine nn_iald hc hw hln (by omega) (by omega) dX8_heap_48 ?_
      exact hrt _ _ _ dX8_heap_49 (by rw [if_pos (by omega)]; unfold aHeap; rw [if_pos (by omega)])
    · refine nn_tabIn hc 1 (tgt := 50) w2 (by decide) (by decide) (by decide) dX8_heap_11 rfl (by decide) ?_
      refine lv_aload_n hc.1 hc.2.1 dX8_heap_50 rfl (lv_at hl 0 rfl) ?_
      refine nn_get hc hw hx hiX8 rfl 1 (by decide) rfl lk19 dX8_heap_51 ?_
      refine nn_get hc hw hp hiX5 rfl 1 (by decide) rfl lk154 dX8_heap_54 ?_
      refine lv_iload_n hc.1 hc.2.1 dX8_heap_57 rfl (lv_at hl 1 rfl) ?_
      refine nn_iald hc hw hbr (by omega) (by omega) dX8_heap_58 ?_
      exact hrt _ _ _ dX8_heap_59 (by rw [if_pos (by omega)]; unfold aHeap; rw [if_neg (by omega), if_pos (by omega)])
    · refine nn_tabIn hc 2 (tgt := 60) w2 (by decide) (by decide) (by decide) dX8_heap_11 rfl (by decide) ?_
      refine lv_aload_n hc.1 hc.2.1 dX8_heap_60 rfl (lv_at hl 0 rfl) ?_
      refine nn_get hc hw hx hiX8 rfl 4 (by decide) rfl lk38 dX8_heap_61 ?_
      refine nn_get hc hw ho hiX6 rfl 1 (by decide) rfl lk132 dX8_heap_64 ?_
      refine lv_iload_n hc.1 hc.2.1 dX8_heap_67 rfl (lv_at hl 1 rfl) ?_
      refine nn_iald hc hw hlv (by omega) (by omega) dX8_heap_68 ?_
      exact hrt _ _ _ dX8_heap_69 (by rw [if_pos (by omega)]; unfold aHeap; rw [if_neg (by omega), if_neg (by omega), if_pos (by omega)])
    · refine nn_tabIn hc 3 (tgt := 70) w2 (by decide) (by decide) (by decide) dX8_heap_11 rfl (by decide) ?_
      refine lv_aload_n hc.1 hc.2.1 dX8_heap_70 rfl (lv_at hl 0 rfl) ?_
      refine nn_get hc hw hx hiX8 rfl 4 (by decide) rfl lk38 dX8_heap_71 ?_
      refine lv_iload_n hc.1 hc.2.1 dX8_heap_74 rfl (lv_at hl 1 rfl) ?_
      refine nn_Vp (As := [.int (iI h0)]) (st := []) hc hw ho rfl (c_X6_laidOf l g  ho hcs (by omega) (hca) (fun j hj => (hck j hj).1) (fun j hj => (hkh j hj).1) (fun j hj => by have h9 := (hkh j hj).2.1; show 0 ≤ ((rS rows j).length : Int) ∧ ((rS rows j).length : Int) ≤ 60; omega) (fun j k hj hk => (hkh j hj).2.2 k (by have h9 : (k : Int) < ((rS rows j).length : Int) := hk; omega)) (by omega)) (cwV 1 hc.2.2.2.2 gX8_heap_X6_laidOf rfl rfl rfl (by decide +kernel) ⟨Nat.le_of_ble_eq_true rfl, Nat.le_of_ble_eq_true rfl⟩) rfl hl.1 rfl (Nat.le_of_ble_eq_true rfl) ⟨Nat.le_of_ble_eq_true rfl, Nat.le_of_ble_eq_true rfl⟩ dX8_heap_75 ?_
      refine W.eq (g2 := F0 m 78 ls [.int (iI (cnt2 kh (fun j => ((rS rows j).length : Int)) h0 zR.toNat))]) rfl ?_
      exact hrt _ _ _ dX8_heap_78 (by rw [if_pos (by omega)]; unfold aHeap; rw [if_neg (by omega), if_neg (by omega), if_neg (by omega)]; exact hcn (by omega))
    · refine nn_tabOut hc (tgt := 79) (by omega) w2 dX8_heap_11 (by decide) ?_
      refine nn_iconst hc dX8_heap_79 ?_
      exact hrt _ _ _ dX8_heap_80 (by rw [if_neg (by omega)])
  · refine nn_iconst hc dX8_heap_8 ?_
    exact hrt _ _ _ dX8_heap_9 (by rw [if_neg (by omega)])

set_option maxHeartbeats 4000000 in
set_option maxRecDepth 100000 in
theorem c_K_told (l : Launch) (g : gG) {n : Nat} {S : Nat → gE} {x tr : Nat} {pWi pLp pHp : Int} {br : Nat → Int} {zR : Int} {cs : Nat → Option Nat} {ca : Nat → Nat} {rows : rT} {what c0 : Int} (hx : S x = oO 8 [.ref (x + 1), .ref (x + 4), .ref (x + 8), .ref (x + 12), .ref (x + 14), .ref (x + 20), .ref (x + 31), .ref tr]) (ho : S (x + 14) = oO 6 [.ref (x + 4), .ref (x + 15), .ref (x + 16), .ref (x + 17), .int (iI zR)]) (hcs : S (x + 16) = oR g 2 20 cs) (rzR : 0 ≤ zR ∧ zR ≤ 20) (hca : ∀ j : Nat, (j : Int) < zR → cs j = some (ca j)) (hck : ∀ j : Nat, (j : Int) < zR → crs g S (ca j) (rL rows j) (hdR pLp rows j) ((rL rows j - pLp) / 2) (rmF pWi pHp (hdR pLp rows j)) br (rS rows j)) (hzr : zR = rows.length ∧ rows.length ≤ 20) (r_c0 : -2147483648 ≤ c0 ∧ c0 < 2147483648) (r_what : -2147483648 ≤ what ∧ what < 2147483648) : g_Cp l yX8_told wsX8_told { frames := 2, cells := 0, slots := 0, locals := 43 } g [.ref x, .int (iI c0), .int (iI what)] n S (some (.int (iI (if (0 ≤ c0 ∧ c0 < rows.length) ∧ (0 ≤ what ∧ what ≤ 7) then aTold br pLp pWi pHp rows c0.toNat what else -1)))) := by
  refine g_Cp.of (cc := cX8_told) (maxL := 4) (ret := (some .int)) (by decide) rfl (Nat.le_of_ble_eq_true rfl) ?_
  intro pp ee s m below meth cK Q ls hc hnm hw hl hret
  have hl : lv_has ls 4 [(0, .ref x), (1, .int (iI c0)), (2, .int (iI what))] := hl
  have hiX8 : ∀ w ∈ u_ws RX8 TX8 8, w ∈ wsX8_told := by decide +kernel
  have hiX6 : ∀ w ∈ u_ws RX6 TX6 5, w ∈ wsX8_told := by decide +kernel
  have hiX3 : ∀ w ∈ u_ws RX3 TX3 9, w ∈ wsX8_told := by decide +kernel
  have lk38 : Cond.fieldLink RX8 38 "RoofCourses" "roof" "LRoofCourses$Roof;" ∈ wsX8_told := by decide +kernel
  have lk164 : Cond.fieldLink RX8 164 "RoofCourses$Roof" "courses" "[LRoofCourses$Course;" ∈ wsX8_told := by decide +kernel
  have lk168 : Cond.fieldLink RX8 168 "RoofCourses$Course" "length" "I" ∈ wsX8_told := by decide +kernel
  have lk170 : Cond.fieldLink RX8 170 "RoofCourses$Course" "foot" "I" ∈ wsX8_told := by decide +kernel
  have lk173 : Cond.fieldLink RX8 173 "RoofCourses$Course" "gauge" "I" ∈ wsX8_told := by decide +kernel
  have lk176 : Cond.fieldLink RX8 176 "RoofCourses$Course" "room" "I" ∈ wsX8_told := by decide +kernel
  have lk123 : Cond.fieldLink RX8 123 "RoofCourses$Course" "size" "I" ∈ wsX8_told := by decide +kernel
  have lk179 : Cond.fieldLink RX8 179 "RoofCourses$Course" "waste" "I" ∈ wsX8_told := by decide +kernel
  have lk185 : Cond.fieldLink RX8 185 "RoofCourses$Course" "cut" "I" ∈ wsX8_told := by decide +kernel
  have hrt : ∀ (pc : Nat) (ls : Array Slot) (xr : Int), decode cX8_told pc = .ok (.ireturn, 1) → xr = (if (0 ≤ c0 ∧ c0 < rows.length) ∧ (0 ≤ what ∧ what ≤ 7) then aTold br pLp pWi pHp rows c0.toNat what else -1) → W pp l ee ({ frames := 2, cells := 0, slots := 0, locals := 43 } : Room) s m ([.ref x, .int (iI c0), .int (iI what)] : List Value).toArray below meth cK s.heap [] 0 0 Q (F0 m pc ls [.int (iI xr)]) := fun pc ls xr d hx => by subst hx; exact hret pc ls ⟨_, rfl, rfl, d⟩
  refine lv_aload_n hc.1 hc.2.1 dX8_told_0 rfl (lv_at hl 0 rfl) ?_
  refine lv_iload_n hc.1 hc.2.1 dX8_told_1 rfl (lv_at hl 1 rfl) ?_
  refine nn_Vp (As := [.int (iI c0)]) (st := []) hc hw hx rfl (c_X8_isCourse l g  hx ho (by omega) (by omega)) (cwV 1 hc.2.2.2.2 gX8_told_X8_isCourse rfl rfl rfl (by decide +kernel) ⟨Nat.le_of_ble_eq_true rfl, Nat.le_of_ble_eq_true rfl⟩) rfl hl.1 rfl (Nat.le_of_ble_eq_true rfl) ⟨Nat.le_of_ble_eq_true rfl, Nat.le_of_ble_eq_true rfl⟩ dX8_told_2 ?_
  refine W.eq (g2 := F0 m 5 ls [.int (iI (if 0 ≤ c0 ∧ c0 ≤ zR - 1 then 1 else 0))]) rfl ?_
  refine nn_if_ne hc dX8_told_5 (tgt := 10) (by decide) (by omega) (fun c1 => ?_) (fun c1 => ?_)
  · refine lv_aload_n hc.1 hc.2.1 dX8_told_10 rfl (lv_at hl 0 rfl) ?_
    refine nn_get hc hw hx hiX8 rfl 4 (by decide) rfl lk38 dX8_told_11 ?_
    refine nn_get hc hw ho hiX6 rfl 2 (by decide) rfl lk164 dX8_told_14 ?_
    refine lv_iload_n hc.1 hc.2.1 dX8_told_17 rfl (lv_at hl 1 rfl) ?_
    refine nn_aald (x := some (ca c0.toNat)) hc hw hcs rfl (by omega) (by omega) (hca _ (by omega)) dX8_told_18 ?_
    refine W.eq (g2 := F0 m 19 ls [.ref (ca c0.toNat)]) rfl ?_
    have hx2 : S (ca c0.toNat) = oO 3 [.ref (ca c0.toNat + 1), .ref (ca c0.toNat + 2), .int (iI (rL rows c0.toNat)), .int (iI (hdR pLp rows c0.toNat)), .int (iI ((rL rows c0.toNat - pLp) / 2)), .int (iI (rmF pWi pHp (hdR pLp rows c0.toNat))), .int (iI ((rS rows c0.toNat).length : Int)), .int (iI (wst br (rL rows c0.toNat) (rS rows c0.toNat))), .int (iI (cuts br (rS rows c0.toNat)))] := (hck _ (by omega)).1
    refine lv_astore_n (lv' := [(3, .ref (ca c0.toNat)), (0, .ref x), (1, .int (iI c0)), (2, .int (iI what))]) hc.1 hc.2.1 dX8_told_19 rfl hl (by decide) rfl (fun ls hl => ?_)
    refine lv_iload_n hc.1 hc.2.1 dX8_told_20 rfl (lv_at hl 3 rfl) ?_
    rcases (show what = 0 ∨ what = 1 ∨ what = 2 ∨ what = 3 ∨ what = 4 ∨ what = 5 ∨ what = 6 ∨ what = 7 ∨ (what < 0 ∨ 7 < what) by omega) with w3 | w3 | w3 | w3 | w3 | w3 | w3 | w3 | w3
    · refine nn_tabIn hc 0 (tgt := 68) w3 (by decide) (by decide) (by decide) dX8_told_21 rfl (by decide) ?_
      refine lv_aload_n hc.1 hc.2.1 dX8_told_68 rfl (lv_at hl 0 rfl) ?_
      refine nn_get hc hw hx2 hiX3 rfl 2 (by decide) rfl lk168 dX8_told_69 ?_
      exact hrt _ _ _ dX8_told_72 (by rw [if_pos (by omega)]; unfold aTold; rw [if_pos (by omega)])
    · refine nn_tabIn hc 1 (tgt := 73) w3 (by decide) (by decide) (by decide) dX8_told_21 rfl (by decide) ?_
      refine lv_aload_n hc.1 hc.2.1 dX8_told_73 rfl (lv_at hl 0 rfl) ?_
      refine nn_get hc hw hx2 hiX3 rfl 3 (by decide) rfl lk170 dX8_told_74 ?_
      exact hrt _ _ _ dX8_told_77 (by rw [if_pos (by omega)]; unfold aTold; rw [if_neg (by omega), if_pos (by omega)])
    · refine nn_tabIn hc 2 (tgt := 78) w3 (by decide) (by decide) (by decide) dX8_told_21 rfl (by decide) ?_
      refine lv_aload_n hc.1 hc.2.1 dX8_told_78 rfl (lv_at hl 0 rfl) ?_
      refine nn_get hc hw hx2 hiX3 rfl 4 (by decide) rfl lk173 dX8_told_79 ?_
      exact hrt _ _ _ dX8_told_82 (by rw [if_pos (by omega)]; unfold aTold; rw [if_neg (by omega), if_neg (by omega), if_pos (by omega)])
    · refine nn_tabIn hc 3 (tgt := 83) w3 (by decide) (by decide) (by decide) dX8_told_21 rfl (by decide) ?_
      refine lv_aload_n hc.1 hc.2.1 dX8_told_83 rfl (lv_at hl 0 rfl) ?_
      refine nn_get hc hw hx2 hiX3 rfl 5 (by decide) rfl lk176 dX8_told_84 ?_
      exact hrt _ _ _ dX8_told_87 (by rw [if_pos (by omega)]; unfold aTold; rw [if_neg (by omega), if_neg (by omega), if_neg (by omega), if_pos (by omega)])
    · refine nn_tabIn hc 4 (tgt := 88) w3 (by decide) (by decide) (by decide) dX8_told_21 rfl (by decide) ?_
      refine lv_aload_n hc.1 hc.2.1 dX8_told_88 rfl (lv_at hl 0 rfl) ?_
      refine nn_get hc hw hx2 hiX3 rfl 6 (by decide) rfl lk123 dX8_told_89 ?_
      exact hrt _ _ _ dX8_told_92 (by rw [if_pos (by omega)]; unfold aTold; rw [if_neg (by omega), if_neg (by omega), if_neg (by omega), if_neg (by omega), if_pos (by omega)])
    · refine nn_tabIn hc 5 (tgt := 93) w3 (by decide) (by decide) (by decide) dX8_told_21 rfl (by decide) ?_
      refine lv_aload_n hc.1 hc.2.1 dX8_told_93 rfl (lv_at hl 0 rfl) ?_
      refine nn_get hc hw hx2 hiX3 rfl 7 (by decide) rfl lk179 dX8_told_94 ?_
      exact hrt _ _ _ dX8_told_97 (by rw [if_pos (by omega)]; unfold aTold; rw [if_neg (by omega), if_neg (by omega), if_neg (by omega), if_neg (by omega), if_neg (by omega), if_pos (by omega)])
    · refine nn_tabIn hc 6 (tgt := 98) w3 (by decide) (by decide) (by decide) dX8_told_21 rfl (by decide) ?_
      refine lv_aload_n hc.1 hc.2.1 dX8_told_98 rfl (lv_at hl 1 rfl) ?_
      refine nn_get hc hw hx hiX8 rfl 4 (by decide) rfl lk38 dX8_told_99 ?_
      refine lv_iload_n hc.1 hc.2.1 dX8_told_102 rfl (lv_at hl 2 rfl) ?_
      refine nn_Vp (As := [.int (iI c0)]) (st := []) hc hw ho rfl (c_X6_lapHeldBy l g  ho hcs (by omega) (by omega) (hca) (fun j hj => (hck j hj).1)) (cwV 1 hc.2.2.2.2 gX8_told_X6_lapHeldBy rfl rfl rfl (by decide +kernel) ⟨Nat.le_of_ble_eq_true rfl, Nat.le_of_ble_eq_true rfl⟩) rfl hl.1 rfl (Nat.le_of_ble_eq_true rfl) ⟨Nat.le_of_ble_eq_true rfl, Nat.le_of_ble_eq_true rfl⟩ dX8_told_103 ?_
      refine W.eq (g2 := F0 m 106 ls [.int (iI (if c0 < zR - 1 then (rL rows) c0.toNat - (fun j => (rL rows j - pLp) / 2) c0.toNat - (fun j => (rL rows j - pLp) / 2) (c0 + 1).toNat else -4))]) rfl ?_
      exact hrt _ _ _ dX8_told_106 (by have e6 : aTold br pLp pWi pHp rows c0.toNat what = lapR pLp rows c0.toNat := (by unfold aTold; rw [if_neg (by omega), if_neg (by omega), if_neg (by omega), if_neg (by omega), if_neg (by omega), if_neg (by omega), if_pos (by omega)]); rw [if_pos (show (0 ≤ c0 ∧ c0 < rows.length) ∧ (0 ≤ what ∧ what ≤ 7) by omega), e6]; unfold lapR; by_cases q9 : c0 < zR - 1; (rw [if_pos q9, if_neg (by omega), show c0.toNat + 1 = (c0 + 1).toNat by omega]); (rw [if_neg q9, if_pos (by omega)]))
    · refine nn_tabIn hc 7 (tgt := 107) w3 (by decide) (by decide) (by decide) dX8_told_21 rfl (by decide) ?_
      refine lv_aload_n hc.1 hc.2.1 dX8_told_107 rfl (lv_at hl 0 rfl) ?_
      refine nn_get hc hw hx2 hiX3 rfl 8 (by decide) rfl lk185 dX8_told_108 ?_
      exact hrt _ _ _ dX8_told_111 (by rw [if_pos (by omega)]; unfold aTold; rw [if_neg (by omega), if_neg (by omega), if_neg (by omega), if_neg (by omega), if_neg (by omega), if_neg (by omega), if_neg (by omega)])
    · refine nn_tabOut hc (tgt := 112) (by omega) w3 dX8_told_21 (by decide) ?_
      refine nn_iconst hc dX8_told_112 ?_
      exact hrt _ _ _ dX8_told_113 (by rw [if_neg (by omega)])
  · refine nn_iconst hc dX8_told_8 ?_
    exact hrt _ _ _ dX8_told_9 (by rw [if_neg (by omega)])

set_option maxHeartbeats 4000000 in
set_option maxRecDepth 100000 in
theorem c_K_joint (l : Launch) (g : gG) {n : Nat} {S : Nat → gE} {x tr : Nat} {pWi pLp pHp : Int} {br : Nat → Int} {zR : Int} {cs : Nat → Option Nat} {ca : Nat → Nat} {rows : rT} {c0 k0 : Int} (hx : S x = oO 8 [.ref (x + 1), .ref (x + 4), .ref (x + 8), .ref (x + 12), .ref (x + 14), .ref (x + 20), .ref (x + 31), .ref tr]) (ho : S (x + 14) = oO 6 [.ref (x + 4), .ref (x + 15), .ref (x + 16), .ref (x + 17), .int (iI zR)]) (hcs : S (x + 16) = oR g 2 20 cs) (rzR : 0 ≤ zR ∧ zR ≤ 20) (hca : ∀ j : Nat, (j : Int) < zR → cs j = some (ca j)) (hck : ∀ j : Nat, (j : Int) < zR → crs g S (ca j) (rL rows j) (hdR pLp rows j) ((rL rows j - pLp) / 2) (rmF pWi pHp (hdR pLp rows j)) br (rS rows j)) (hzr : zR = rows.length ∧ rows.length ≤ 20) (hsz : ∀ j : Nat, j < rows.length → 1 ≤ (rS rows j).length ∧ (rS rows j).length ≤ 60) (r_c0 : -2147483648 ≤ c0 ∧ c0 < 2147483648) (r_k0 : -2147483648 ≤ k0 ∧ k0 < 2147483648) : g_Cp l yX8_joint wsX8_joint { frames := 2, cells := 0, slots := 0, locals := 43 } g [.ref x, .int (iI c0), .int (iI k0)] n S (some (.int (iI (if (0 ≤ c0 ∧ c0 < rows.length) ∧ 0 ≤ k0 then aJoint (rS rows c0.toNat) k0.toNat else -1)))) := by
  refine g_Cp.of (cc := cX8_joint) (maxL := 4) (ret := (some .int)) (by decide) rfl (Nat.le_of_ble_eq_true rfl) ?_
  intro pp ee s m below meth cK Q ls hc hnm hw hl hret
  have hl : lv_has ls 4 [(0, .ref x), (1, .int (iI c0)), (2, .int (iI k0))] := hl
  have hiX8 : ∀ w ∈ u_ws RX8 TX8 8, w ∈ wsX8_joint := by decide +kernel
  have hiX6 : ∀ w ∈ u_ws RX6 TX6 5, w ∈ wsX8_joint := by decide +kernel
  have hiX3 : ∀ w ∈ u_ws RX3 TX3 9, w ∈ wsX8_joint := by decide +kernel
  have lk38 : Cond.fieldLink RX8 38 "RoofCourses" "roof" "LRoofCourses$Roof;" ∈ wsX8_joint := by decide +kernel
  have lk164 : Cond.fieldLink RX8 164 "RoofCourses$Roof" "courses" "[LRoofCourses$Course;" ∈ wsX8_joint := by decide +kernel
  have lk191 : Cond.fieldLink RX8 191 "RoofCourses$Course" "edge" "[I" ∈ wsX8_joint := by decide +kernel
  have hrt : ∀ (pc : Nat) (ls : Array Slot) (xr : Int), decode cX8_joint pc = .ok (.ireturn, 1) → xr = (if (0 ≤ c0 ∧ c0 < rows.length) ∧ 0 ≤ k0 then aJoint (rS rows c0.toNat) k0.toNat else -1) → W pp l ee ({ frames := 2, cells := 0, slots := 0, locals := 43 } : Room) s m ([.ref x, .int (iI c0), .int (iI k0)] : List Value).toArray below meth cK s.heap [] 0 0 Q (F0 m pc ls [.int (iI xr)]) := fun pc ls xr d hx => by subst hx; exact hret pc ls ⟨_, rfl, rfl, d⟩
  refine lv_aload_n hc.1 hc.2.1 dX8_joint_0 rfl (lv_at hl 0 rfl) ?_
  refine lv_iload_n hc.1 hc.2.1 dX8_joint_1 rfl (lv_at hl 1 rfl) ?_
  refine nn_Vp (As := [.int (iI c0)]) (st := []) hc hw hx rfl (c_X8_isCourse l g  hx ho (by omega) (by omega)) (cwV 1 hc.2.2.2.2 gX8_joint_X8_isCourse rfl rfl rfl (by decide +kernel) ⟨Nat.le_of_ble_eq_true rfl, Nat.le_of_ble_eq_true rfl⟩) rfl hl.1 rfl (Nat.le_of_ble_eq_true rfl) ⟨Nat.le_of_ble_eq_true rfl, Nat.le_of_ble_eq_true rfl⟩ dX8_joint_2 ?_
  refine W.eq (g2 := F0 m 5 ls [.int (iI (if 0 ≤ c0 ∧ c0 ≤ zR - 1 then 1 else 0))]) rfl ?_
  refine nn_if_eq hc dX8_joint_5 (tgt := 12) (by decide) (by omega) (fun c1 => ?_) (fun c1 => ?_)
  · refine nn_iconst hc dX8_joint_12 ?_
    exact hrt _ _ _ dX8_joint_13 (by rw [if_neg (by omega)])
  · refine lv_iload_n hc.1 hc.2.1 dX8_joint_8 rfl (lv_at hl 2 rfl) ?_
    refine nn_if_ge hc dX8_joint_9 (tgt := 14) (by decide) (by omega) (fun c2 => ?_) (fun c2 => ?_)
    · refine lv_aload_n hc.1 hc.2.1 dX8_joint_14 rfl (lv_at hl 0 rfl) ?_
      refine nn_get hc hw hx hiX8 rfl 4 (by decide) rfl lk38 dX8_joint_15 ?_
      refine nn_get hc hw ho hiX6 rfl 2 (by decide) rfl lk164 dX8_joint_18 ?_
      refine lv_iload_n hc.1 hc.2.1 dX8_joint_21 rfl (lv_at hl 1 rfl) ?_
      refine nn_aald (x := some (ca c0.toNat)) hc hw hcs rfl (by omega) (by omega) (hca _ (by omega)) dX8_joint_22 ?_
      refine W.eq (g2 := F0 m 23 ls [.ref (ca c0.toNat)]) rfl ?_
      obtain ⟨he1, -, ⟨ed9, he2, he3⟩⟩ := hck c0.toNat (by omega)
      have hs9 := hsz c0.toNat (by omega)
      have hx3 : S (ca c0.toNat) = oO 3 [.ref (ca c0.toNat + 1), .ref (ca c0.toNat + 2), .int (iI (rL rows c0.toNat)), .int (iI (hdR pLp rows c0.toNat)), .int (iI ((rL rows c0.toNat - pLp) / 2)), .int (iI (rmF pWi pHp (hdR pLp rows c0.toNat))), .int (iI ((rS rows c0.toNat).length : Int)), .int (iI (wst br (rL rows c0.toNat) (rS rows c0.toNat))), .int (iI (cuts br (rS rows c0.toNat)))] := he1
      have hx4 : S (ca c0.toNat + 2) = oI g 60 ed9 := he2
      refine lv_astore_n (lv' := [(3, .ref (ca c0.toNat)), (0, .ref x), (1, .int (iI c0)), (2, .int (iI k0))]) hc.1 hc.2.1 dX8_joint_23 rfl hl (by decide) rfl (fun ls hl => ?_)
      refine lv_iload_n hc.1 hc.2.1 dX8_joint_24 rfl (lv_at hl 3 rfl) ?_
      refine lv_aload_n hc.1 hc.2.1 dX8_joint_25 rfl (lv_at hl 0 rfl) ?_
      refine nn_Vp (As := []) (st := [.int (iI k0)]) hc hw hx3 rfl (c_X3_joints l g  hx3 (by omega)) (cwV 0 hc.2.2.2.2 gX8_joint_X3_joints rfl rfl rfl (by decide +kernel) ⟨Nat.le_of_ble_eq_true rfl, Nat.le_of_ble_eq_true rfl⟩) rfl hl.1 rfl (Nat.le_of_ble_eq_true rfl) ⟨Nat.le_of_ble_eq_true rfl, Nat.le_of_ble_eq_true rfl⟩ dX8_joint_26 ?_
      refine W.eq (g2 := F0 m 29 ls [.int (iI (if 0 < ((rS rows c0.toNat).length : Int) - 1 then ((rS rows c0.toNat).length : Int) - 1 else 0)), .int (iI k0)]) rfl ?_
      refine nn_icmp_ge hc dX8_joint_29 (tgt := 41) (by decide) (by omega) (by omega) (fun c5 => ?_) (fun c5 => ?_)
      · refine nn_bipush hc dX8_joint_41 (by decide +kernel) ?_
        exact hrt _ _ _ dX8_joint_43 (by rw [if_pos (by omega)]; unfold aJoint; by_cases q9 : k0.toNat + 1 < (rS rows c0.toNat).length; (rw [if_pos q9]; first | exact he3 k0.toNat (by omega) | (exfalso; omega)); (first | (exfalso; omega) | (rw [if_neg q9])))
      · refine lv_aload_n hc.1 hc.2.1 dX8_joint_32 rfl (lv_at hl 0 rfl) ?_
        refine nn_get hc hw hx3 hiX3 rfl 1 (by decide) rfl lk191 dX8_joint_33 ?_
        refine lv_iload_n hc.1 hc.2.1 dX8_joint_36 rfl (lv_at hl 3 rfl) ?_
        refine nn_iald hc hw hx4 (by omega) (by omega) dX8_joint_37 ?_
        refine lv_goto hc.1 hc.2.1 dX8_joint_38 (tgt := 43) (by decide) ?_
        exact hrt _ _ _ dX8_joint_43 (by rw [if_pos (by omega)]; unfold aJoint; by_cases q9 : k0.toNat + 1 < (rS rows c0.toNat).length; (rw [if_pos q9]; first | exact he3 k0.toNat (by omega) | (exfalso; omega)); (first | (exfalso; omega) | (rw [if_neg q9])))
    · refine nn_iconst hc dX8_joint_12 ?_
      exact hrt _ _ _ dX8_joint_13 (by rw [if_neg (by omega)])

set_option maxHeartbeats 4000000 in
set_option maxRecDepth 100000 in
theorem c_K_slate (l : Launch) (g : gG) {n : Nat} {S : Nat → gE} {x tr : Nat} {pWi pLp pHp : Int} {br : Nat → Int} {zR : Int} {cs : Nat → Option Nat} {ca : Nat → Nat} {rows : rT} {what c0 k0 : Int} (hx : S x = oO 8 [.ref (x + 1), .ref (x + 4), .ref (x + 8), .ref (x + 12), .ref (x + 14), .ref (x + 20), .ref (x + 31), .ref tr]) (ho : S (x + 14) = oO 6 [.ref (x + 4), .ref (x + 15), .ref (x + 16), .ref (x + 17), .int (iI zR)]) (hcs : S (x + 16) = oR g 2 20 cs) (rzR : 0 ≤ zR ∧ zR ≤ 20) (hca : ∀ j : Nat, (j : Int) < zR → cs j = some (ca j)) (hck : ∀ j : Nat, (j : Int) < zR → crs g S (ca j) (rL rows j) (hdR pLp rows j) ((rL rows j - pLp) / 2) (rmF pWi pHp (hdR pLp rows j)) br (rS rows j)) (hzr : zR = rows.length ∧ rows.length ≤ 20) (hsz : ∀ j : Nat, j < rows.length → 1 ≤ (rS rows j).length ∧ (rS rows j).length ≤ 60) (r_c0 : -2147483648 ≤ c0 ∧ c0 < 2147483648) (r_k0 : -2147483648 ≤ k0 ∧ k0 < 2147483648) (r_what : -2147483648 ≤ what ∧ what < 2147483648) : g_Cp l yX8_slate wsX8_slate { frames := 2, cells := 0, slots := 0, locals := 43 } g [.ref x, .int (iI c0), .int (iI k0), .int (iI what)] n S (some (.int (iI (if (0 ≤ c0 ∧ c0 < rows.length) ∧ 0 ≤ k0 ∧ (0 ≤ what ∧ what ≤ 1) then aSlate (rS rows c0.toNat) k0.toNat what else -1)))) := by
  refine g_Cp.of (cc := cX8_slate) (maxL := 5) (ret := (some .int)) (by decide) rfl (Nat.le_of_ble_eq_true rfl) ?_
  intro pp ee s m below meth cK Q ls hc hnm hw hl hret
  have hl : lv_has ls 5 [(0, .ref x), (1, .int (iI c0)), (2, .int (iI k0)), (3, .int (iI what))] := hl
  have hiX8 : ∀ w ∈ u_ws RX8 TX8 8, w ∈ wsX8_slate := by decide +kernel
  have hiX6 : ∀ w ∈ u_ws RX6 TX6 5, w ∈ wsX8_slate := by decide +kernel
  have hiX3 : ∀ w ∈ u_ws RX3 TX3 9, w ∈ wsX8_slate := by decide +kernel
  have lk38 : Cond.fieldLink RX8 38 "RoofCourses" "roof" "LRoofCourses$Roof;" ∈ wsX8_slate := by decide +kernel
  have lk164 : Cond.fieldLink RX8 164 "RoofCourses$Roof" "courses" "[LRoofCourses$Course;" ∈ wsX8_slate := by decide +kernel
  have lk123 : Cond.fieldLink RX8 123 "RoofCourses$Course" "size" "I" ∈ wsX8_slate := by decide +kernel
  have lk191 : Cond.fieldLink RX8 191 "RoofCourses$Course" "edge" "[I" ∈ wsX8_slate := by decide +kernel
  have lk194 : Cond.fieldLink RX8 194 "RoofCourses$Course" "heapOf" "[I" ∈ wsX8_slate := by decide +kernel
  have hrt : ∀ (pc : Nat) (ls : Array Slot) (xr : Int), decode cX8_slate pc = .ok (.ireturn, 1) → xr = (if (0 ≤ c0 ∧ c0 < rows.length) ∧ 0 ≤ k0 ∧ (0 ≤ what ∧ what ≤ 1) then aSlate (rS rows c0.toNat) k0.toNat what else -1) → W pp l ee ({ frames := 2, cells := 0, slots := 0, locals := 43 } : Room) s m ([.ref x, .int (iI c0), .int (iI k0), .int (iI what)] : List Value).toArray below meth cK s.heap [] 0 0 Q (F0 m pc ls [.int (iI xr)]) := fun pc ls xr d hx => by subst hx; exact hret pc ls ⟨_, rfl, rfl, d⟩
  refine lv_aload_n hc.1 hc.2.1 dX8_slate_0 rfl (lv_at hl 0 rfl) ?_
  refine lv_iload_n hc.1 hc.2.1 dX8_slate_1 rfl (lv_at hl 1 rfl) ?_
  refine nn_Vp (As := [.int (iI c0)]) (st := []) hc hw hx rfl (c_X8_isCourse l g  hx ho (by omega) (by omega)) (cwV 1 hc.2.2.2.2 gX8_slate_X8_isCourse rfl rfl rfl (by decide +kernel) ⟨Nat.le_of_ble_eq_true rfl, Nat.le_of_ble_eq_true rfl⟩) rfl hl.1 rfl (Nat.le_of_ble_eq_true rfl) ⟨Nat.le_of_ble_eq_true rfl, Nat.le_of_ble_eq_true rfl⟩ dX8_slate_2 ?_
  refine W.eq (g2 := F0 m 5 ls [.int (iI (if 0 ≤ c0 ∧ c0 ≤ zR - 1 then 1 else 0))]) rfl ?_
  refine nn_if_eq hc dX8_slate_5 (tgt := 21) (by decide) (by omega) (fun c1 => ?_) (fun c1 => ?_)
  · refine nn_iconst hc dX8_slate_21 ?_
    exact hrt _ _ _ dX8_slate_22 (by rw [if_neg (by omega)])
  · refine lv_iload_n hc.1 hc.2.1 dX8_slate_8 rfl (lv_at hl 2 rfl) ?_
    refine nn_if_lt hc dX8_slate_9 (tgt := 21) (by decide) (by omega) (fun c2 => ?_) (fun c2 => ?_)
    · refine nn_iconst hc dX8_slate_21 ?_
      exact hrt _ _ _ dX8_slate_22 (by rw [if_neg (by omega)])
    · refine lv_iload_n hc.1 hc.2.1 dX8_slate_12 rfl (lv_at hl 3 rfl) ?_
      refine nn_iconst hc dX8_slate_13 ?_
      refine nn_iconst hc dX8_slate_14 ?_
      refine nn_Sp (As := [.int (iI what), .int (iI 0), .int (iI 1)]) (st := []) hc hw (c_X8_isWithin l g   (by omega) (by omega) (by omega)) (va_cwS 3 hc.2.2.2.2 gX8_slate_X8_isWithin rfl rfl rfl (by decide +kernel) ⟨Nat.le_of_ble_eq_true rfl, Nat.le_of_ble_eq_true rfl⟩) rfl hl.1 rfl (Nat.le_of_ble_eq_true rfl) ⟨Nat.le_of_ble_eq_true rfl, Nat.le_of_ble_eq_true rfl⟩ dX8_slate_15 ?_
      refine W.eq (g2 := F0 m 18 ls [.int (iI (if 0 ≤ what ∧ what ≤ 1 then 1 else 0))]) rfl ?_
      refine nn_if_ne hc dX8_slate_18 (tgt := 23) (by decide) (by omega) (fun c3 => ?_) (fun c3 => ?_)
      · refine lv_aload_n hc.1 hc.2.1 dX8_slate_23 rfl (lv_at hl 0 rfl) ?_
        refine nn_get hc hw hx hiX8 rfl 4 (by decide) rfl lk38 dX8_slate_24 ?_
        refine nn_get hc hw ho hiX6 rfl 2 (by decide) rfl lk164 dX8_slate_27 ?_
        refine lv_iload_n hc.1 hc.2.1 dX8_slate_30 rfl (lv_at hl 1 rfl) ?_
        refine nn_aald (x := some (ca c0.toNat)) hc hw hcs rfl (by omega) (by omega) (hca _ (by omega)) dX8_slate_31 ?_
        refine W.eq (g2 := F0 m 32 ls [.ref (ca c0.toNat)]) rfl ?_
        obtain ⟨he1, ⟨hf9, hf2, hf3⟩, ⟨ed9, he2, he3⟩⟩ := hck c0.toNat (by omega)
        have hs9 := hsz c0.toNat (by omega)
        have hx4 : S (ca c0.toNat) = oO 3 [.ref (ca c0.toNat + 1), .ref (ca c0.toNat + 2), .int (iI (rL rows c0.toNat)), .int (iI (hdR pLp rows c0.toNat)), .int (iI ((rL rows c0.toNat - pLp) / 2)), .int (iI (rmF pWi pHp (hdR pLp rows c0.toNat))), .int (iI ((rS rows c0.toNat).length : Int)), .int (iI (wst br (rL rows c0.toNat) (rS rows c0.toNat))), .int (iI (cuts br (rS rows c0.toNat)))] := he1
        have hx5 : S (ca c0.toNat + 1) = oI g 60 hf9 := hf2
        have hx6 : S (ca c0.toNat + 2) = oI g 60 ed9 := he2
        refine lv_astore (lv' := [(4, .ref (ca c0.toNat)), (0, .ref x), (1, .int (iI c0)), (2, .int (iI k0)), (3, .int (iI what))]) hc.1 hc.2.1 dX8_slate_32 hl (by decide) rfl (fun ls hl => ?_)
        refine lv_iload_n hc.1 hc.2.1 dX8_slate_34 rfl (lv_at hl 3 rfl) ?_
        refine lv_aload hc.1 hc.2.1 dX8_slate_35 (lv_at hl 0 rfl) ?_
        refine nn_get hc hw hx4 hiX3 rfl 6 (by decide) rfl lk123 dX8_slate_37 ?_
        refine nn_icmp_lt hc dX8_slate_40 (tgt := 46) (by decide) (by omega) (by omega) (fun c7 => ?_) (fun c7 => ?_)
        · have hst9 := slE_step (rS rows c0.toNat) (i := k0.toNat) (by omega)
          have he4 := he3 k0.toNat (by omega)
          refine lv_iload_n hc.1 hc.2.1 dX8_slate_46 rfl (lv_at hl 4 rfl) ?_
          refine nn_if_ne hc dX8_slate_47 (tgt := 60) (by decide) (by omega) (fun c8 => ?_) (fun c8 => ?_)
          · refine lv_aload hc.1 hc.2.1 dX8_slate_60 (lv_at hl 0 rfl) ?_
            refine nn_get hc hw hx4 hiX3 rfl 1 (by decide) rfl lk191 dX8_slate_62 ?_
            refine lv_iload_n hc.1 hc.2.1 dX8_slate_65 rfl (lv_at hl 3 rfl) ?_
            refine nn_iald hc hw hx6 (by omega) (by omega) dX8_slate_66 ?_
            refine lv_aload hc.1 hc.2.1 dX8_slate_67 (lv_at hl 0 rfl) ?_
            refine lv_iload_n hc.1 hc.2.1 dX8_slate_69 rfl (lv_at hl 3 rfl) ?_
            refine nn_Vp (As := [.int (iI k0)]) (st := [.int (iI (ed9 k0.toNat))]) hc hw hx4 rfl (c_X3_startOf l g  hx4 hx6 (by omega)) (cwV 1 hc.2.2.2.2 gX8_slate_X3_startOf rfl rfl rfl (by decide +kernel) ⟨Nat.le_of_ble_eq_true rfl, Nat.le_of_ble_eq_true rfl⟩) rfl hl.1 rfl (Nat.le_of_ble_eq_true rfl) ⟨Nat.le_of_ble_eq_true rfl, Nat.le_of_ble_eq_true rfl⟩ dX8_slate_70 ?_
            refine W.eq (g2 := F0 m 73 ls [.int (iI (if 0 < k0 ∧ k0 ≤ 60 then ed9 (k0 - 1).toNat else 0)), .int (iI (ed9 k0.toNat))]) rfl ?_
            refine nn_isub hc dX8_slate_73 ?_
            exact hrt _ _ _ dX8_slate_74 (by have e6 : aSlate (rS rows c0.toNat) k0.toNat what = if what = 0 then slH (rS rows c0.toNat) k0.toNat else slV (rS rows c0.toNat) k0.toNat := (by unfold aSlate; rw [if_neg (by omega)]); rw [if_pos (show (0 ≤ c0 ∧ c0 < rows.length) ∧ 0 ≤ k0 ∧ (0 ≤ what ∧ what ≤ 1) by omega), e6]; by_cases q9 : what = 0; (rw [if_pos q9]; first | exact hf3 k0.toNat (by omega) | (exfalso; omega)); (rw [if_neg q9]; first | (exfalso; omega) | (by_cases q8 : 0 < k0; (rw [if_pos (by omega)]; rw [if_pos (by omega)] at hst9; have he5 := he3 (k0.toNat - 1) (by omega); rw [show (k0 - 1).toNat = k0.toNat - 1 by omega]; omega); (rw [if_neg (by omega)]; rw [if_neg (by omega)] at hst9; omega))))
          · refine lv_aload hc.1 hc.2.1 dX8_slate_50 (lv_at hl 0 rfl) ?_
            refine nn_get hc hw hx4 hiX3 rfl 0 (by decide) rfl lk194 dX8_slate_52 ?_
            refine lv_iload_n hc.1 hc.2.1 dX8_slate_55 rfl (lv_at hl 3 rfl) ?_
            refine nn_iald hc hw hx5 (by omega) (by omega) dX8_slate_56 ?_
            refine lv_goto hc.1 hc.2.1 dX8_slate_57 (tgt := 74) (by decide) ?_
            exact hrt _ _ _ dX8_slate_74 (by have e6 : aSlate (rS rows c0.toNat) k0.toNat what = if what = 0 then slH (rS rows c0.toNat) k0.toNat else slV (rS rows c0.toNat) k0.toNat := (by unfold aSlate; rw [if_neg (by omega)]); rw [if_pos (show (0 ≤ c0 ∧ c0 < rows.length) ∧ 0 ≤ k0 ∧ (0 ≤ what ∧ what ≤ 1) by omega), e6]; by_cases q9 : what = 0; (rw [if_pos q9]; first | exact hf3 k0.toNat (by omega) | (exfalso; omega)); (rw [if_neg q9]; first | (exfalso; omega) | (by_cases q8 : 0 < k0; (rw [if_pos (by omega)]; rw [if_pos (by omega)] at hst9; have he5 := he3 (k0.toNat - 1) (by omega); rw [show (k0 - 1).toNat = k0.toNat - 1 by omega]; omega); (rw [if_neg (by omega)]; rw [if_neg (by omega)] at hst9; omega))))
        · refine nn_bipush hc dX8_slate_43 (by decide +kernel) ?_
          exact hrt _ _ _ dX8_slate_45 (by rw [if_pos (by omega)]; unfold aSlate; rw [if_pos (by omega)])
      · refine nn_iconst hc dX8_slate_21 ?_
        exact hrt _ _ _ dX8_slate_22 (by rw [if_neg (by omega)])

set_option maxHeartbeats 4000000 in
set_option maxRecDepth 100000 in
theorem c_K_count (l : Launch) (g : gG) {n : Nat} {S : Nat → gE} {x tr q tz : Nat} {ta : Int} {nH pHi pWi pLp pBk pHp : Int} {br : Nat → Int} {lv : Nat → Int} {zR : Int} {cs : Nat → Option Nat} {ca : Nat → Nat} {wZ : Int} {qL qF qG qR : Int} {bs : sL} {rows : rT} {what : Int} {k9 : Nat} (hx : S x = oO 8 [.ref (x + 1), .ref (x + 4), .ref (x + 8), .ref (x + 12), .ref (x + 14), .ref (x + 20), .ref (x + 31), .ref tr]) (ht : S (x + 1) = oO 7 [.ref (x + 2), .ref (x + 3), .int (iI (tz : Int)), .int (iI ta)]) (hp : S (x + 4) = oO 5 [.ref (x + 5), .ref (x + 6), .ref (x + 7), .int (iI nH), .int (iI pHi), .int (iI pWi), .int (iI pLp), .int (iI pBk), .int (iI pHp)]) (ho : S (x + 14) = oO 6 [.ref (x + 4), .ref (x + 15), .ref (x + 16), .ref (x + 17), .int (iI zR)]) (hlv : S (x + 15) = oI g 8 lv) (hcs : S (x + 16) = oR g 2 20 cs) (hw0 : S (x + 31) = oO 2 [.ref (x + 32), .int (iI wZ)]) (hq0 : S q = oO 3 [.ref (q + 1), .ref (q + 2), .int (iI qL), .int (iI qF), .int (iI qG), .int (iI qR), .int (iI (bs.length : Int)), .int (iI (wst br qL bs)), .int (iI (cuts br bs))]) (rH : 0 ≤ nH ∧ nH ≤ 8) (rzR : 0 ≤ zR ∧ zR ≤ 20) (hla : (0 < zR ∧ cs (zR - 1).toNat = some q) ∨ (zR = 0 ∧ q = x + 17)) (hca : ∀ j : Nat, (j : Int) < zR → cs j = some (ca j)) (hck : ∀ j : Nat, (j : Int) < zR → crs g S (ca j) (rL rows j) (hdR pLp rows j) ((rL rows j - pLp) / 2) (rmF pWi pHp (hdR pLp rows j)) br (rS rows j)) (hzr : zR = rows.length ∧ rows.length ≤ 20) (hqf : qF + qG = hdR pLp rows rows.length ∧ (0 ≤ qF + qG ∧ qF + qG ≤ 1000)) (rhi : 0 ≤ pHi ∧ pHi ≤ 100000) (hwz : wZ = (k9 : Nat)) (r_what : -2147483648 ≤ what ∧ what < 2147483648) : g_Cp l yX8_count wsX8_count { frames := 2, cells := 0, slots := 0, locals := 41 } g [.ref x, .int (iI what)] n S (some (.int (iI (aCount nH pHi pWi pLp pBk pHp br lv rows k9 tz what)))) := by
  refine g_Cp.of (cc := cX8_count) (maxL := 2) (ret := (some .int)) (by decide) rfl (Nat.le_of_ble_eq_true rfl) ?_
  intro pp ee s m below meth cK Q ls hc hnm hw hl hret
  have hl : lv_has ls 2 [(0, .ref x), (1, .int (iI what))] := hl
  have hiX8 : ∀ w ∈ u_ws RX8 TX8 8, w ∈ wsX8_count := by decide +kernel
  have hiX5 : ∀ w ∈ u_ws RX5 TX5 9, w ∈ wsX8_count := by decide +kernel
  have hiX6 : ∀ w ∈ u_ws RX6 TX6 5, w ∈ wsX8_count := by decide +kernel
  have hiX2 : ∀ w ∈ u_ws RX2 TX2 2, w ∈ wsX8_count := by decide +kernel
  have hiX7 : ∀ w ∈ u_ws RX7 TX7 4, w ∈ wsX8_count := by decide +kernel
  have lk19 : Cond.fieldLink RX8 19 "RoofCourses" "plan" "LRoofCourses$Plan;" ∈ wsX8_count := by decide +kernel
  have lk99 : Cond.fieldLink RX8 99 "RoofCourses$Plan" "heaps" "I" ∈ wsX8_count := by decide +kernel
  have lk38 : Cond.fieldLink RX8 38 "RoofCourses" "roof" "LRoofCourses$Roof;" ∈ wsX8_count := by decide +kernel
  have lk124 : Cond.fieldLink RX8 124 "RoofCourses$Roof" "size" "I" ∈ wsX8_count := by decide +kernel
  have lk223 : Cond.fieldLink RX8 223 "RoofCourses$Plan" "high" "I" ∈ wsX8_count := by decide +kernel
  have lk226 : Cond.fieldLink RX8 226 "RoofCourses$Plan" "wide" "I" ∈ wsX8_count := by decide +kernel
  have lk229 : Cond.fieldLink RX8 229 "RoofCourses$Plan" "lap" "I" ∈ wsX8_count := by decide +kernel
  have lk232 : Cond.fieldLink RX8 232 "RoofCourses$Plan" "breaking" "I" ∈ wsX8_count := by decide +kernel
  have lk235 : Cond.fieldLink RX8 235 "RoofCourses$Plan" "hip" "I" ∈ wsX8_count := by decide +kernel
  have lk54 : Cond.fieldLink RX8 54 "RoofCourses" "changes" "LRoofCourses$Changes;" ∈ wsX8_count := by decide +kernel
  have lk151 : Cond.fieldLink RX8 151 "RoofCourses$Changes" "size" "I" ∈ wsX8_count := by decide +kernel
  have lk10 : Cond.fieldLink RX8 10 "RoofCourses" "text" "LRoofCourses$Text;" ∈ wsX8_count := by decide +kernel
  have lk95 : Cond.fieldLink RX8 95 "RoofCourses$Text" "size" "I" ∈ wsX8_count := by decide +kernel
  have hrt : ∀ (pc : Nat) (ls : Array Slot) (xr : Int), decode cX8_count pc = .ok (.ireturn, 1) → xr = (aCount nH pHi pWi pLp pBk pHp br lv rows k9 tz what) → W pp l ee ({ frames := 2, cells := 0, slots := 0, locals := 41 } : Room) s m ([.ref x, .int (iI what)] : List Value).toArray below meth cK s.heap [] 0 0 Q (F0 m pc ls [.int (iI xr)]) := fun pc ls xr d hx => by subst hx; exact hret pc ls ⟨_, rfl, rfl, d⟩
  refine lv_iload_n hc.1 hc.2.1 dX8_count_0 rfl (lv_at hl 1 rfl) ?_
  rcases (show what = 0 ∨ what = 1 ∨ what = 2 ∨ what = 3 ∨ what = 4 ∨ what = 5 ∨ what = 6 ∨ what = 7 ∨ what = 8 ∨ what = 9 ∨ what = 10 ∨ what = 11 ∨ what = 12 ∨ (what < 0 ∨ 12 < what) by omega) with w1 | w1 | w1 | w1 | w1 | w1 | w1 | w1 | w1 | w1 | w1 | w1 | w1 | w1
  · refine nn_tabIn hc 0 (tgt := 68) w1 (by decide) (by decide) (by decide) dX8_count_1 rfl (by decide) ?_
    refine lv_aload_n hc.1 hc.2.1 dX8_count_68 rfl (lv_at hl 0 rfl) ?_
    refine nn_get hc hw hx hiX8 rfl 1 (by decide) rfl lk19 dX8_count_69 ?_
    refine nn_get hc hw hp hiX5 rfl 3 (by decide) rfl lk99 dX8_count_72 ?_
    exact hrt _ _ _ dX8_count_75 (by unfold aCount; rw [if_pos (by omega)])
  · refine nn_tabIn hc 1 (tgt := 76) w1 (by decide) (by decide) (by decide) dX8_count_1 rfl (by decide) ?_
    refine lv_aload_n hc.1 hc.2.1 dX8_count_76 rfl (lv_at hl 0 rfl) ?_
    refine nn_get hc hw hx hiX8 rfl 4 (by decide) rfl lk38 dX8_count_77 ?_
    refine nn_get hc hw ho hiX6 rfl 4 (by decide) rfl lk124 dX8_count_80 ?_
    exact hrt _ _ _ dX8_count_83 (by unfold aCount; rw [if_neg (by omega), if_pos (by omega)]; exact hzr.1)
  · refine nn_tabIn hc 2 (tgt := 84) w1 (by decide) (by decide) (by decide) dX8_count_1 rfl (by decide) ?_
    refine lv_aload_n hc.1 hc.2.1 dX8_count_84 rfl (lv_at hl 0 rfl) ?_
    refine nn_get hc hw hx hiX8 rfl 1 (by decide) rfl lk19 dX8_count_85 ?_
    refine nn_get hc hw hp hiX5 rfl 4 (by decide) rfl lk223 dX8_count_88 ?_
    exact hrt _ _ _ dX8_count_91 (by unfold aCount; rw [if_neg (by omega), if_neg (by omega), if_pos (by omega)])
  · refine nn_tabIn hc 3 (tgt := 92) w1 (by decide) (by decide) (by decide) dX8_count_1 rfl (by decide) ?_
    refine lv_aload_n hc.1 hc.2.1 dX8_count_92 rfl (lv_at hl 0 rfl) ?_
    refine nn_get hc hw hx hiX8 rfl 1 (by decide) rfl lk19 dX8_count_93 ?_
    refine nn_get hc hw hp hiX5 rfl 5 (by decide) rfl lk226 dX8_count_96 ?_
    exact hrt _ _ _ dX8_count_99 (by unfold aCount; rw [if_neg (by omega), if_neg (by omega), if_neg (by omega), if_pos (by omega)])
  · refine nn_tabIn hc 4 (tgt := 100) w1 (by decide) (by decide) (by decide) dX8_count_1 rfl (by decide) ?_
    refine lv_aload_n hc.1 hc.2.1 dX8_count_100 rfl (lv_at hl 0 rfl) ?_
    refine nn_get hc hw hx hiX8 rfl 1 (by decide) rfl lk19 dX8_count_101 ?_
    refine nn_get hc hw hp hiX5 rfl 6 (by decide) rfl lk229 dX8_count_104 ?_
    exact hrt _ _ _ dX8_count_107 (by unfold aCount; rw [if_neg (by omega), if_neg (by omega), if_neg (by omega), if_neg (by omega), if_pos (by omega)])
  · refine nn_tabIn hc 5 (tgt := 108) w1 (by decide) (by decide) (by decide) dX8_count_1 rfl (by decide) ?_
    refine lv_aload_n hc.1 hc.2.1 dX8_count_108 rfl (lv_at hl 0 rfl) ?_
    refine nn_get hc hw hx hiX8 rfl 1 (by decide) rfl lk19 dX8_count_109 ?_
    refine nn_get hc hw hp hiX5 rfl 7 (by decide) rfl lk232 dX8_count_112 ?_
    exact hrt _ _ _ dX8_count_115 (by unfold aCount; rw [if_neg (by omega), if_neg (by omega), if_neg (by omega), if_neg (by omega), if_neg (by omega), if_pos (by omega)])
  · refine nn_tabIn hc 6 (tgt := 116) w1 (by decide) (by decide) (by decide) dX8_count_1 rfl (by decide) ?_
    refine lv_aload_n hc.1 hc.2.1 dX8_count_116 rfl (lv_at hl 0 rfl) ?_
    refine nn_get hc hw hx hiX8 rfl 1 (by decide) rfl lk19 dX8_count_117 ?_
    refine nn_get hc hw hp hiX5 rfl 8 (by decide) rfl lk235 dX8_count_120 ?_
    exact hrt _ _ _ dX8_count_123 (by unfold aCount; rw [if_neg (by omega), if_neg (by omega), if_neg (by omega), if_neg (by omega), if_neg (by omega), if_neg (by omega), if_pos (by omega)])
  · refine nn_tabIn hc 7 (tgt := 124) w1 (by decide) (by decide) (by decide) dX8_count_1 rfl (by decide) ?_
    refine lv_aload_n hc.1 hc.2.1 dX8_count_124 rfl (lv_at hl 0 rfl) ?_
    refine nn_get hc hw hx hiX8 rfl 4 (by decide) rfl lk38 dX8_count_125 ?_
    refine nn_Vp (As := []) (st := []) hc hw ho rfl (c_X6_last l g  ho hcs (by omega) (hla)) (cwV 0 hc.2.2.2.2 gX8_count_X6_last rfl rfl rfl (by decide +kernel) ⟨Nat.le_of_ble_eq_true rfl, Nat.le_of_ble_eq_true rfl⟩) rfl hl.1 rfl (Nat.le_of_ble_eq_true rfl) ⟨Nat.le_of_ble_eq_true rfl, Nat.le_of_ble_eq_true rfl⟩ dX8_count_128 ?_
    refine W.eq (g2 := F0 m 131 ls [.ref q]) rfl ?_
    refine nn_Vp (As := []) (st := []) hc hw hq0 rfl (c_X3_head l g  hq0 ) (cwV 0 hc.2.2.2.2 gX8_count_X3_head rfl rfl rfl (by decide +kernel) ⟨Nat.le_of_ble_eq_true rfl, Nat.le_of_ble_eq_true rfl⟩) rfl hl.1 rfl (Nat.le_of_ble_eq_true rfl) ⟨Nat.le_of_ble_eq_true rfl, Nat.le_of_ble_eq_true rfl⟩ dX8_count_131 ?_
    refine W.eq (g2 := F0 m 134 ls [.int (iI (qF + qG))]) rfl ?_
    exact hrt _ _ _ dX8_count_134 (by unfold aCount; rw [if_neg (by omega), if_neg (by omega), if_neg (by omega), if_neg (by omega), if_neg (by omega), if_neg (by omega), if_neg (by omega), if_pos (by omega)]; exact hqf.1)
  · refine nn_tabIn hc 8 (tgt := 135) w1 (by decide) (by decide) (by decide) dX8_count_1 rfl (by decide) ?_
    refine lv_aload_n hc.1 hc.2.1 dX8_count_135 rfl (lv_at hl 0 rfl) ?_
    refine nn_get hc hw hx hiX8 rfl 1 (by decide) rfl lk19 dX8_count_136 ?_
    refine lv_aload_n hc.1 hc.2.1 dX8_count_139 rfl (lv_at hl 0 rfl) ?_
    refine nn_get hc hw hx hiX8 rfl 4 (by decide) rfl lk38 dX8_count_140 ?_
    refine nn_Vp (As := []) (st := [.ref (x + 4)]) hc hw ho rfl (c_X6_last l g  ho hcs (by omega) (hla)) (cwV 0 hc.2.2.2.2 gX8_count_X6_last rfl rfl rfl (by decide +kernel) ⟨Nat.le_of_ble_eq_true rfl, Nat.le_of_ble_eq_true rfl⟩) rfl hl.1 rfl (Nat.le_of_ble_eq_true rfl) ⟨Nat.le_of_ble_eq_true rfl, Nat.le_of_ble_eq_true rfl⟩ dX8_count_143 ?_
    refine W.eq (g2 := F0 m 146 ls [.ref q, .ref (x + 4)]) rfl ?_
    refine nn_Vp (As := [.ref q]) (st := []) hc hw hp rfl (c_X5_isReadyBy l g  hp hq0 (by omega) (by omega)) (cwV 1 hc.2.2.2.2 gX8_count_X5_isReadyBy rfl rfl rfl (by decide +kernel) ⟨Nat.le_of_ble_eq_true rfl, Nat.le_of_ble_eq_true rfl⟩) rfl hl.1 rfl (Nat.le_of_ble_eq_true rfl) ⟨Nat.le_of_ble_eq_true rfl, Nat.le_of_ble_eq_true rfl⟩ dX8_count_146 ?_
    refine W.eq (g2 := F0 m 149 ls [.int (iI (if pHi ≤ qF + qG then 1 else 0))]) rfl ?_
    refine nn_if_eq hc dX8_count_149 (tgt := 156) (by decide) (by omega) (fun c2 => ?_) (fun c2 => ?_)
    · refine nn_iconst hc dX8_count_156 ?_
      exact hrt _ _ _ dX8_count_157 (by unfold aCount; rw [if_neg (by omega), if_neg (by omega), if_neg (by omega), if_neg (by omega), if_neg (by omega), if_neg (by omega), if_neg (by omega), if_neg (by omega), if_pos (by omega)]; rw [← hqf.1]; first | (rw [if_pos (by omega)]) | (rw [if_neg (by omega)]))
    · refine nn_iconst hc dX8_count_152 ?_
      refine lv_goto hc.1 hc.2.1 dX8_count_153 (tgt := 157) (by decide) ?_
      exact hrt _ _ _ dX8_count_157 (by unfold aCount; rw [if_neg (by omega), if_neg (by omega), if_neg (by omega), if_neg (by omega), if_neg (by omega), if_neg (by omega), if_neg (by omega), if_neg (by omega), if_pos (by omega)]; rw [← hqf.1]; first | (rw [if_pos (by omega)]) | (rw [if_neg (by omega)]))
  · refine nn_tabIn hc 9 (tgt := 158) w1 (by decide) (by decide) (by decide) dX8_count_1 rfl (by decide) ?_
    refine lv_aload_n hc.1 hc.2.1 dX8_count_158 rfl (lv_at hl 0 rfl) ?_
    refine nn_get hc hw hx hiX8 rfl 4 (by decide) rfl lk38 dX8_count_159 ?_
    refine nn_Vp (As := []) (st := []) hc hw ho rfl (c_X6_waste l g  ho hcs (by omega) (hca) (fun j hj => (hck j hj).1)) (cwV 0 hc.2.2.2.2 gX8_count_X6_waste rfl rfl rfl (by decide +kernel) ⟨Nat.le_of_ble_eq_true rfl, Nat.le_of_ble_eq_true rfl⟩) rfl hl.1 rfl (Nat.le_of_ble_eq_true rfl) ⟨Nat.le_of_ble_eq_true rfl, Nat.le_of_ble_eq_true rfl⟩ dX8_count_162 ?_
    refine W.eq (g2 := F0 m 165 ls [.int (iI (sumI (fun c => wst br (rL rows c) (rS rows c)) zR.toNat))]) rfl ?_
    exact hrt _ _ _ dX8_count_165 (by unfold aCount; rw [if_neg (by omega), if_neg (by omega), if_neg (by omega), if_neg (by omega), if_neg (by omega), if_neg (by omega), if_neg (by omega), if_neg (by omega), if_neg (by omega), if_pos (by omega)]; unfold wstR; rw [show zR.toNat = rows.length by omega])
  · refine nn_tabIn hc 10 (tgt := 166) w1 (by decide) (by decide) (by decide) dX8_count_1 rfl (by decide) ?_
    refine lv_aload_n hc.1 hc.2.1 dX8_count_166 rfl (lv_at hl 0 rfl) ?_
    refine nn_get hc hw hx hiX8 rfl 4 (by decide) rfl lk38 dX8_count_167 ?_
    refine nn_Vp (As := []) (st := []) hc hw ho rfl (c_X6_slatesLeft_b l g  ho hlv hp (by omega)) (cwV 0 hc.2.2.2.2 gX8_count_X6_slatesLeft rfl rfl rfl (by decide +kernel) ⟨Nat.le_of_ble_eq_true rfl, Nat.le_of_ble_eq_true rfl⟩) rfl hl.1 rfl (Nat.le_of_ble_eq_true rfl) ⟨Nat.le_of_ble_eq_true rfl, Nat.le_of_ble_eq_true rfl⟩ dX8_count_170 ?_
    refine W.eq (g2 := F0 m 173 ls [.int (iI (sumI lv nH.toNat))]) rfl ?_
    exact hrt _ _ _ dX8_count_173 (by unfold aCount; rw [if_neg (by omega), if_neg (by omega), if_neg (by omega), if_neg (by omega), if_neg (by omega), if_neg (by omega), if_neg (by omega), if_neg (by omega), if_neg (by omega), if_neg (by omega), if_pos (by omega)])
  · refine nn_tabIn hc 11 (tgt := 174) w1 (by decide) (by decide) (by decide) dX8_count_1 rfl (by decide) ?_
    refine lv_aload_n hc.1 hc.2.1 dX8_count_174 rfl (lv_at hl 0 rfl) ?_
    refine nn_get hc hw hx hiX8 rfl 6 (by decide) rfl lk54 dX8_count_175 ?_
    refine nn_get hc hw hw0 hiX2 rfl 1 (by decide) rfl lk151 dX8_count_178 ?_
    exact hrt _ _ _ dX8_count_181 (by unfold aCount; rw [if_neg (by omega), if_neg (by omega), if_neg (by omega), if_neg (by omega), if_neg (by omega), if_neg (by omega), if_neg (by omega), if_neg (by omega), if_neg (by omega), if_neg (by omega), if_neg (by omega), if_pos (by omega)]; exact hwz)
  · refine nn_tabIn hc 12 (tgt := 182) w1 (by decide) (by decide) (by decide) dX8_count_1 rfl (by decide) ?_
    refine lv_aload_n hc.1 hc.2.1 dX8_count_182 rfl (lv_at hl 0 rfl) ?_
    refine nn_get hc hw hx hiX8 rfl 0 (by decide) rfl lk10 dX8_count_183 ?_
    refine nn_get hc hw ht hiX7 rfl 2 (by decide) rfl lk95 dX8_count_186 ?_
    exact hrt _ _ _ dX8_count_189 (by unfold aCount; rw [if_neg (by omega), if_neg (by omega), if_neg (by omega), if_neg (by omega), if_neg (by omega), if_neg (by omega), if_neg (by omega), if_neg (by omega), if_neg (by omega), if_neg (by omega), if_neg (by omega), if_neg (by omega), if_pos (by omega)])
  · refine nn_tabOut hc (tgt := 190) (by omega) w1 dX8_count_1 (by decide) ?_
    refine nn_iconst hc dX8_count_190 ?_
    exact hrt _ _ _ dX8_count_191 (by unfold aCount; rw [if_neg (by omega), if_neg (by omega), if_neg (by omega), if_neg (by omega), if_neg (by omega), if_neg (by omega), if_neg (by omega), if_neg (by omega), if_neg (by omega), if_neg (by omega), if_neg (by omega), if_neg (by omega), if_neg (by omega)])

