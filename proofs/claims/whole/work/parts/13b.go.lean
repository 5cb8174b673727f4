set_option maxHeartbeats 4000000 in
set_option maxRecDepth 100000 in
theorem c_X0_go (l : Launch) (g : gG) {n : Nat} {S : Nat → gE} {x : Nat} {mo wa re : Int} {nH pHi pWi pLp pBk pHp : Int} {ln br : Nat → Int} {zR : Int} {lvR ul : Nat → Int} {cs : Nat → Option Nat} {q : Nat} {qL qF qG qR : Int} {qs : sL} {how : Int} (hu : S (x + 20) = oO 0 [.ref (x + 4), .ref (x + 12), .ref (x + 14), .ref (x + 21), .ref (x + 22), .ref (x + 25), .ref (x + 28), .int (iI mo), .int (iI wa), .int (iI re)]) (hul : S (x + 21) = oI g 8 ul) (hy : S (x + 12) = oO 4 [.ref (x + 4), .ref (x + 13)]) (hp : S (x + 4) = oO 5 [.ref (x + 5), .ref (x + 6), .ref (x + 7), .int (iI nH), .int (iI pHi), .int (iI pWi), .int (iI pLp), .int (iI pBk), .int (iI pHp)]) (hln : S (x + 5) = oI g 8 ln) (hbr : S (x + 6) = oI g 8 br) (ho : S (x + 14) = oO 6 [.ref (x + 4), .ref (x + 15), .ref (x + 16), .ref (x + 17), .int (iI zR)]) (hlv : S (x + 15) = oI g 8 lvR) (hcs : S (x + 16) = oR g 2 20 cs) (rH : 0 ≤ nH ∧ nH ≤ 8) (rP : ∀ i : Nat, (i : Int) < nH → (20 ≤ ln i ∧ ln i ≤ 60) ∧ (10 ≤ br i ∧ br i ≤ 60)) (rbk : 0 ≤ pBk ∧ pBk ≤ 1000000) (rlp : 0 ≤ pLp ∧ pLp ≤ 10) (rwi : 0 ≤ pWi ∧ pWi ≤ 1000) (rhp : 0 ≤ pHp ∧ pHp ≤ 9) (rhow : how = 0 ∨ how = 1) (rVR : ∀ i : Nat, (i : Int) < nH → 0 ≤ lvR i ∧ lvR i ≤ 1000000) (rhi : 0 ≤ pHi ∧ pHi ≤ 100000) (rzR : 0 ≤ zR ∧ zR ≤ 20) (hlast : (0 < zR ∧ cs (zR - 1).toNat = some q) ∨ (zR = 0 ∧ q = x + 17)) (hq1 : (0 ≤ qF + qG ∧ qF + qG ≤ 30 * zR) ∧ (0 ≤ qL ∧ qL ≤ 60) ∧ qs.length ≤ 60) (hqe : ∀ i : Nat, -1000000 ≤ slE qs i ∧ slE qs i ≤ 1000000) (hqc : crs g S q qL qF qG qR br qs) (hp0 : gbc g S (x + 22)) (he0 : gbc g S (x + 25)) (hd0 : gbc g S (x + 28)) (hr0 : ∃ f : Nat → Int, S (x + 13) = oI g 8 f) (hd : q = x + 17 ∨ x + 33 ≤ q) : g_Cs l yX0_go wsX0_go { frames := 6, cells := 0, slots := 0, locals := 143 } g [.ref (x + 20), .int (iI how)] n S (fun vr n1 S1 => vr = none ∧ n = n1 ∧ S1 (x + 20) = oO 0 [.ref (x + 4), .ref (x + 12), .ref (x + 14), .ref (x + 21), .ref (x + 22), .ref (x + 25), .ref (x + 28), .int (iI ((goG nH.toNat ln br pHi pLp pWi pHp pBk how (20 - zR).toNat lvR qL (qF + qG) qs).1)), .int (iI ((goG nH.toNat ln br pHi pLp pWi pHp pBk how (20 - zR).toNat lvR qL (qF + qG) qs).2.1)), .int (iI (if pHi ≤ (goG nH.toNat ln br pHi pLp pWi pHp pBk how (20 - zR).toNat lvR qL (qF + qG) qs).2.2 then 1 else 0))] ∧ gbc g S1 (x + 22) ∧ gbc g S1 (x + 25) ∧ gbc g S1 (x + 28) ∧ (∃ f : Nat → Int, S1 (x + 13) = oI g 8 f) ∧ (∃ f : Nat → Int, S1 (x + 21) = oI g 8 f) ∧ (∀ bb, bb ≠ (x + 20) → bb ≠ (x + 21) → bb ≠ (x + 13) → bb ≠ (x + 22) → bb ≠ (x + 23) → bb ≠ (x + 24) → bb ≠ (x + 25) → bb ≠ (x + 26) → bb ≠ (x + 27) → bb ≠ (x + 28) → bb ≠ (x + 29) → bb ≠ (x + 30) → S1 bb = S bb)) 0 0 := by
  refine g_Cs.of (cc := cX0_go) (maxL := 6) (ret := none) (by decide) rfl (Nat.le_of_ble_eq_true rfl) ?_
  intro pp ee s m below meth cK Q H locs ls hc hnm hw hl hret
  have hl : lv_has ls 6 [(0, .ref (x + 20)), (1, .int (iI how))] := hl
  have hiX0 : ∀ w ∈ u_ws RX0 TX0 10, w ∈ wsX0_go := by decide +kernel
  have hiX6 : ∀ w ∈ u_ws RX6 TX6 5, w ∈ wsX0_go := by decide +kernel
  have hiX3 : ∀ w ∈ u_ws RX3 TX3 9, w ∈ wsX0_go := by decide +kernel
  have lk36 : Cond.fieldLink RX0 36 "RoofCourses$Ahead" "roof" "LRoofCourses$Roof;" ∈ wsX0_go := by decide +kernel
  have lk63 : Cond.fieldLink RX0 63 "RoofCourses$Roof" "left" "[I" ∈ wsX0_go := by decide +kernel
  have lk9 : Cond.fieldLink RX0 9 "RoofCourses$Ahead" "left" "[I" ∈ wsX0_go := by decide +kernel
  have lkK66 : Cond.methodLink RX0 66 arraycopyName ∈ wsX0_go := by decide +kernel
  have lkKn : Cond.native arraycopyName ∈ wsX0_go := by decide +kernel
  have lkKs : Cond.static arraycopyName ∈ wsX0_go := by decide +kernel
  have lkKi : Cond.initialized "java/lang/System" ∈ wsX0_go := by decide +kernel
  have lk72 : Cond.fieldLink RX0 72 "RoofCourses$Ahead" "more" "I" ∈ wsX0_go := by decide +kernel
  have lk75 : Cond.fieldLink RX0 75 "RoofCourses$Ahead" "waste" "I" ∈ wsX0_go := by decide +kernel
  have lk80 : Cond.fieldLink RX0 80 "RoofCourses$Roof" "size" "I" ∈ wsX0_go := by decide +kernel
  have lk28 : Cond.fieldLink RX0 28 "RoofCourses$Ahead" "plan" "LRoofCourses$Plan;" ∈ wsX0_go := by decide +kernel
  have lk95 : Cond.fieldLink RX0 95 "RoofCourses$Ahead" "ready" "Z" ∈ wsX0_go := by decide +kernel
  have lk25 : Cond.fieldLink RX0 25 "RoofCourses$Ahead" "odd" "LRoofCourses$Course;" ∈ wsX0_go := by decide +kernel
  have lk32 : Cond.fieldLink RX0 32 "RoofCourses$Ahead" "layer" "LRoofCourses$Layer;" ∈ wsX0_go := by decide +kernel
  have lk57 : Cond.fieldLink RX0 57 "RoofCourses$Course" "waste" "I" ∈ wsX0_go := by decide +kernel
  have lk22 : Cond.fieldLink RX0 22 "RoofCourses$Ahead" "even" "LRoofCourses$Course;" ∈ wsX0_go := by decide +kernel
  have hbr1 : ∀ i : Nat, i < nH.toNat → 1 ≤ br i := fun i hi => by have := rP i (by omega); omega
  have h20 : ∀ i : Nat, i < nH.toNat → 20 ≤ ln i ∧ ln i ≤ 60 := fun i hi => by have := rP i (by omega); omega
  refine lv_aload_n hc.1 hc.2.1 dX0_go_0 rfl (lv_at hl 0 rfl) ?_
  refine nn_get hc hw hu hiX0 rfl 2 (by decide) rfl lk36 dX0_go_1 ?_
  refine nn_get hc hw ho hiX6 rfl 1 (by decide) rfl lk63 dX0_go_4 ?_
  refine nn_iconst hc dX0_go_7 ?_
  refine lv_aload_n hc.1 hc.2.1 dX0_go_8 rfl (lv_at hl 0 rfl) ?_
  refine nn_get hc hw hu hiX0 rfl 3 (by decide) rfl lk9 dX0_go_9 ?_
  refine nn_iconst hc dX0_go_12 ?_
  refine nn_bipush hc dX0_go_13 (by decide +kernel) ?_
  refine nn_copy hc hl.1 hw lkK66 lkKn lkKs lkKi hlv hul (by omega) (by decide) (by decide) (Nat.le_of_ble_eq_true rfl) (Nat.le_of_ble_eq_true rfl) dX0_go_15 (fun S1 H locs hS1 fS1 hw => ?_)
  have hS1 : S1 (x + 21) = oI g 8 (va_cpy lvR ul 0 0 8) := hS1
  refine lv_aload_n hc.1 hc.2.1 dX0_go_18 rfl (lv_at hl 0 rfl) ?_
  refine nn_iconst hc dX0_go_19 ?_
  have e2 : S1 (x + 20) = oO 0 [.ref (x + 4), .ref (x + 12), .ref (x + 14), .ref (x + 21), .ref (x + 22), .ref (x + 25), .ref (x + 28), .int (iI mo), .int (iI wa), .int (iI re)] := (fS1 (x + 20) (off_ne (x := x) (a := 20) (b := 21) (by decide))).trans hu
  refine nn_put hc hw e2 hiX0 tyX0 tyX0_ok nmX0 rfl 7 (by decide) (Nat.le_of_ble_eq_true rfl) lk72 rfl rfl rfl dX0_go_20 (fun S3 H locs hS3 fS3 hw => ?_)
  have hS3 : S3 (x + 20) = oO 0 [.ref (x + 4), .ref (x + 12), .ref (x + 14), .ref (x + 21), .ref (x + 22), .ref (x + 25), .ref (x + 28), .int (iI 0), .int (iI wa), .int (iI re)] := hS3
  refine lv_aload_n hc.1 hc.2.1 dX0_go_23 rfl (lv_at hl 0 rfl) ?_
  refine nn_iconst hc dX0_go_24 ?_
  refine nn_put hc hw hS3 hiX0 tyX0 tyX0_ok nmX0 rfl 8 (by decide) (Nat.le_of_ble_eq_true rfl) lk75 rfl rfl rfl dX0_go_25 (fun S4 H locs hS4 fS4 hw => ?_)
  have hS4 : S4 (x + 20) = oO 0 [.ref (x + 4), .ref (x + 12), .ref (x + 14), .ref (x + 21), .ref (x + 22), .ref (x + 25), .ref (x + 28), .int (iI 0), .int (iI 0), .int (iI re)] := hS4
  refine lv_aload_n hc.1 hc.2.1 dX0_go_28 rfl (lv_at hl 0 rfl) ?_
  refine nn_get hc hw hS4 hiX0 rfl 2 (by decide) rfl lk36 dX0_go_29 ?_
  have e5 : S1 (x + 14) = oO 6 [.ref (x + 4), .ref (x + 15), .ref (x + 16), .ref (x + 17), .int (iI zR)] := (fS1 (x + 14) (off_ne (x := x) (a := 14) (b := 21) (by decide))).trans ho
  have e6 : S3 (x + 14) = oO 6 [.ref (x + 4), .ref (x + 15), .ref (x + 16), .ref (x + 17), .int (iI zR)] := (fS3 (x + 14) (off_ne (x := x) (a := 14) (b := 20) (by decide))).trans e5
  have e7 : S4 (x + 14) = oO 6 [.ref (x + 4), .ref (x + 15), .ref (x + 16), .ref (x + 17), .int (iI zR)] := (fS4 (x + 14) (off_ne (x := x) (a := 14) (b := 20) (by decide))).trans e6
  have e8 : S1 ((x + 14) + 2) = oR g 2 20 cs := (fS1 ((x + 14) + 2) (off_ne (x := x) (a := 16) (b := 21) (by decide))).trans hcs
  have e9 : S3 ((x + 14) + 2) = oR g 2 20 cs := (fS3 ((x + 14) + 2) (off_ne (x := x) (a := 16) (b := 20) (by decide))).trans e8
  have e10 : S4 ((x + 14) + 2) = oR g 2 20 cs := (fS4 ((x + 14) + 2) (off_ne (x := x) (a := 16) (b := 20) (by decide))).trans e9
  refine nn_Vp (As := []) (st := []) hc hw e7 rfl (c_X6_last l g  e7 e10 (by omega) (hlast)) (cwV 0 hc.2.2.2.2 gX0_go_X6_last rfl rfl rfl (by decide +kernel) ⟨Nat.le_of_ble_eq_true rfl, Nat.le_of_ble_eq_true rfl⟩) rfl hl.1 rfl (Nat.le_of_ble_eq_true rfl) ⟨Nat.le_of_ble_eq_true rfl, Nat.le_of_ble_eq_true rfl⟩ dX0_go_32 ?_
  refine W.eq (g2 := F0 m 35 ls [.ref q]) rfl ?_
  refine lv_astore_n (lv' := [(2, .ref q), (0, .ref (x + 20)), (1, .int (iI how))]) hc.1 hc.2.1 dX0_go_35 rfl hl (by decide) rfl (fun ls hl => ?_)
  refine lv_aload_n hc.1 hc.2.1 dX0_go_36 rfl (lv_at hl 1 rfl) ?_
  refine nn_get hc hw hS4 hiX0 rfl 2 (by decide) rfl lk36 dX0_go_37 ?_
  refine nn_get hc hw e7 hiX6 rfl 4 (by decide) rfl lk80 dX0_go_40 ?_
  refine lv_istore_n (lv' := [(3, .int (iI zR)), (2, .ref q), (0, .ref (x + 20)), (1, .int (iI how))]) hc.1 hc.2.1 dX0_go_43 rfl hl (by decide) rfl (fun ls hl => ?_)
  have lab44 : ∀ (fu44 : Nat) (k : Int) (la : Nat) (xL : Int) (xF : Int) (xG : Int) (xR : Int) (xb : sL) (lvv : Nat → Int) (m1 : Int) (w1 : Int) (S11 : Nat → gE) (H : Heap) (locs : List Loc) (ls : Array Slot), ((0 ≤ k ∧ k ≤ 20) ∧ (0 ≤ xF + xG ∧ xF + xG ≤ 30 * k)) → ((0 ≤ xL ∧ xL ≤ 60) ∧ xb.length ≤ 60) → ((la = x + 17 ∨ x + 33 ≤ la) ∨ (la = x + 25 ∧ k % 2 = 1) ∨ (la = x + 28 ∧ k % 2 = 0)) → (∀ i : Nat, -1000000 ≤ slE xb i ∧ slE xb i ≤ 1000000) → (∀ i : Nat, (i : Int) < nH → 0 ≤ lvv i ∧ lvv i ≤ 1000000) → (goG nH.toNat ln br pHi pLp pWi pHp pBk how (20 - zR).toNat lvR qL (qF + qG) qs = (m1 + (goG nH.toNat ln br pHi pLp pWi pHp pBk how (20 - k).toNat lvv xL (xF + xG) xb).1, w1 + (goG nH.toNat ln br pHi pLp pWi pHp pBk how (20 - k).toNat lvv xL (xF + xG) xb).2.1, (goG nH.toNat ln br pHi pLp pWi pHp pBk how (20 - k).toNat lvv xL (xF + xG) xb).2.2)) → (crs g S11 la xL xF xG xR br xb) → (gbc g S11 (x + 22)) → (gbc g S11 (x + 25)) → (gbc g S11 (x + 28)) → (∃ f : Nat → Int, S11 (x + 13) = oI g 8 f) → S11 (x + 20) = oO 0 [.ref (x + 4), .ref (x + 12), .ref (x + 14), .ref (x + 21), .ref (x + 22), .ref (x + 25), .ref (x + 28), .int (iI m1), .int (iI w1), .int (iI re)] → S11 (x + 21) = oI g 8 lvv → (∀ bb, bb ≠ (x + 20) → bb ≠ (x + 21) → bb ≠ (x + 13) → bb ≠ (x + 22) → bb ≠ (x + 23) → bb ≠ (x + 24) → bb ≠ (x + 25) → bb ≠ (x + 26) → bb ≠ (x + 27) → bb ≠ (x + 28) → bb ≠ (x + 29) → bb ≠ (x + 30) → S11 bb = S4 bb) → g_W g n S11 s H locs → (20 - k).toNat < fu44 → lv_has ls 6 [(2, .ref la), (3, .int (iI k)), (0, .ref (x + 20)), (1, .int (iI how))] → W pp l ee ({ frames := 6, cells := 0, slots := 0, locals := 143 } : Room) s m ([.ref (x + 20), .int (iI how)] : List Value).toArray below meth cK H locs 0 0 Q (F0 m 44 ls []) := by
    intro fu44
    induction fu44 with
    | zero =>
      intro k la xL xF xG xR xb lvv m1 w1 S11 H locs ls hk hxL hla hbe hlvv hgo hcr hgp hge hgd hgr hc44_0 hc44_1 fr44 hw hmeas hl
      exact absurd hmeas (Nat.not_lt_zero _)
    | succ fu44 ih44 =>
      intro k la xL xF xG xR xb lvv m1 w1 S11 H locs ls hk hxL hla hbe hlvv hgo hcr hgp hge hgd hgr hc44_0 hc44_1 fr44 hw hmeas hl
      obtain ⟨hx1, ⟨hxf, hx2, hx3⟩, ⟨hxe, hx4, hx5⟩⟩ := hcr
      obtain ⟨pa1, pa2, pa3, pa4, pa5, pa6, pa7, paf, pae, hpaa, hpab, hpac⟩ := hgp
      obtain ⟨pb1, pb2, pb3, pb4, pb5, pb6, pb7, pbf, pbe, hpba, hpbb, hpbc⟩ := hge
      obtain ⟨pc1, pc2, pc3, pc4, pc5, pc6, pc7, pcf, pce, hpca, hpcb, hpcc⟩ := hgd
      obtain ⟨rf, hrf⟩ := hgr
      have hx12 : S11 la = oO 3 [.ref (la + 1), .ref (la + 2), .int (iI xL), .int (iI xF), .int (iI xG), .int (iI xR), .int (iI (xb.length : Int)), .int (iI (wst br xL xb)), .int (iI (cuts br xb))] := hx1
      have hx13 : S11 (la + 2) = oI g 60 hxe := hx4
      have hg14 : S11 (x + 22) = oO 3 [.ref (x + 22 + 1), .ref (x + 22 + 2), .int (iI pa1), .int (iI pa2), .int (iI pa3), .int (iI pa4), .int (iI pa5), .int (iI pa6), .int (iI pa7)] := hpaa
      have hg15 : S11 (x + 23) = oI g 60 paf := hpab
      have hg16 : S11 (x + 24) = oI g 60 pae := hpac
      have hg17 : S11 (x + 25) = oO 3 [.ref (x + 25 + 1), .ref (x + 25 + 2), .int (iI pb1), .int (iI pb2), .int (iI pb3), .int (iI pb4), .int (iI pb5), .int (iI pb6), .int (iI pb7)] := hpba
      have hg18 : S11 (x + 26) = oI g 60 pbf := hpbb
      have hg19 : S11 (x + 27) = oI g 60 pbe := hpbc
      have hg20 : S11 (x + 28) = oO 3 [.ref (x + 28 + 1), .ref (x + 28 + 2), .int (iI pc1), .int (iI pc2), .int (iI pc3), .int (iI pc4), .int (iI pc5), .int (iI pc6), .int (iI pc7)] := hpca
      have hg21 : S11 (x + 29) = oI g 60 pcf := hpcb
      have hg22 : S11 (x + 30) = oI g 60 pce := hpcc
      have hx23 : S11 (x + 13) = oI g 8 rf := hrf
      refine lv_iload_n hc.1 hc.2.1 dX0_go_44 rfl (lv_at hl 1 rfl) ?_
      refine nn_bipush hc dX0_go_45 (by decide +kernel) ?_
      refine nn_icmp_ge hc dX0_go_47 (tgt := 164) (by decide) (by omega) (by decide) (fun c24 => ?_) (fun c24 => ?_)
      · have hfin : goG nH.toNat ln br pHi pLp pWi pHp pBk how (20 - zR).toNat lvR qL (qF + qG) qs = (m1, w1, xF + xG) := by rw [hgo, show (20 - k).toNat = 0 by omega]; simp [goG]
        refine lv_aload_n hc.1 hc.2.1 dX0_go_164 rfl (lv_at hl 2 rfl) ?_
        refine lv_aload_n hc.1 hc.2.1 dX0_go_165 rfl (lv_at hl 2 rfl) ?_
        refine nn_get hc hw hc44_0 hiX0 rfl 0 (by decide) rfl lk28 dX0_go_166 ?_
        refine lv_aload_n hc.1 hc.2.1 dX0_go_169 rfl (lv_at hl 0 rfl) ?_
        have e25 : S1 (x + 4) = oO 5 [.ref (x + 5), .ref (x + 6), .ref (x + 7), .int (iI nH), .int (iI pHi), .int (iI pWi), .int (iI pLp), .int (iI pBk), .int (iI pHp)] := (fS1 (x + 4) (off_ne (x := x) (a := 4) (b := 21) (by decide))).trans hp
        have e26 : S3 (x + 4) = oO 5 [.ref (x + 5), .ref (x + 6), .ref (x + 7), .int (iI nH), .int (iI pHi), .int (iI pWi), .int (iI pLp), .int (iI pBk), .int (iI pHp)] := (fS3 (x + 4) (off_ne (x := x) (a := 4) (b := 20) (by decide))).trans e25
        have e27 : S4 (x + 4) = oO 5 [.ref (x + 5), .ref (x + 6), .ref (x + 7), .int (iI nH), .int (iI pHi), .int (iI pWi), .int (iI pLp), .int (iI pBk), .int (iI pHp)] := (fS4 (x + 4) (off_ne (x := x) (a := 4) (b := 20) (by decide))).trans e26
        have e28 : S11 (x + 4) = oO 5 [.ref (x + 5), .ref (x + 6), .ref (x + 7), .int (iI nH), .int (iI pHi), .int (iI pWi), .int (iI pLp), .int (iI pBk), .int (iI pHp)] := (fr44 (x + 4) (off_ne (x := x) (a := 4) (b := 20) (by decide)) (off_ne (x := x) (a := 4) (b := 21) (by decide)) (off_ne (x := x) (a := 4) (b := 13) (by decide)) (off_ne (x := x) (a := 4) (b := 22) (by decide)) (off_ne (x := x) (a := 4) (b := 23) (by decide)) (off_ne (x := x) (a := 4) (b := 24) (by decide)) (off_ne (x := x) (a := 4) (b := 25) (by decide)) (off_ne (x := x) (a := 4) (b := 26) (by decide)) (off_ne (x := x) (a := 4) (b := 27) (by decide)) (off_ne (x := x) (a := 4) (b := 28) (by decide)) (off_ne (x := x) (a := 4) (b := 29) (by decide)) (off_ne (x := x) (a := 4) (b := 30) (by decide))).trans e27
        refine nn_Vp (As := [.ref la]) (st := [.ref (x + 20)]) hc hw e28 rfl (c_X5_isReadyBy l g  e28 hx12 (by omega) (by omega)) (cwV 1 hc.2.2.2.2 gX0_go_X5_isReadyBy rfl rfl rfl (by decide +kernel) ⟨Nat.le_of_ble_eq_true rfl, Nat.le_of_ble_eq_true rfl⟩) rfl hl.1 rfl (Nat.le_of_ble_eq_true rfl) ⟨Nat.le_of_ble_eq_true rfl, Nat.le_of_ble_eq_true rfl⟩ dX0_go_170 ?_
        refine W.eq (g2 := F0 m 173 ls [.int (iI (if pHi ≤ xF + xG then 1 else 0)), .ref (x + 20)]) rfl ?_
        refine nn_put hc hw hc44_0 hiX0 tyX0 tyX0_ok nmX0 rfl 9 (by decide) (Nat.le_of_ble_eq_true rfl) lk95 rfl (nn_nb _) (nn_fb _) dX0_go_173 (fun S29 H locs hS29 fS29 hw => ?_)
        have hS29 : S29 (x + 20) = oO 0 [.ref (x + 4), .ref (x + 12), .ref (x + 14), .ref (x + 21), .ref (x + 22), .ref (x + 25), .ref (x + 28), .int (iI m1), .int (iI w1), .int (iI (if pHi ≤ xF + xG then 1 else 0))] := hS29
        have e30 : S29 (x + 22) = oO 3 [.ref (x + 22 + 1), .ref (x + 22 + 2), .int (iI pa1), .int (iI pa2), .int (iI pa3), .int (iI pa4), .int (iI pa5), .int (iI pa6), .int (iI pa7)] := (fS29 (x + 22) (off_ne (x := x) (a := 22) (b := 20) (by decide))).trans hg14
        have e31 : S29 (x + 23) = oI g 60 paf := (fS29 (x + 23) (off_ne (x := x) (a := 23) (b := 20) (by decide))).trans hg15
        have e32 : S29 (x + 24) = oI g 60 pae := (fS29 (x + 24) (off_ne (x := x) (a := 24) (b := 20) (by decide))).trans hg16
        have e33 : S29 (x + 25) = oO 3 [.ref (x + 25 + 1), .ref (x + 25 + 2), .int (iI pb1), .int (iI pb2), .int (iI pb3), .int (iI pb4), .int (iI pb5), .int (iI pb6), .int (iI pb7)] := (fS29 (x + 25) (off_ne (x := x) (a := 25) (b := 20) (by decide))).trans hg17
        have e34 : S29 (x + 26) = oI g 60 pbf := (fS29 (x + 26) (off_ne (x := x) (a := 26) (b := 20) (by decide))).trans hg18
        have e35 : S29 (x + 27) = oI g 60 pbe := (fS29 (x + 27) (off_ne (x := x) (a := 27) (b := 20) (by decide))).trans hg19
        have e36 : S29 (x + 28) = oO 3 [.ref (x + 28 + 1), .ref (x + 28 + 2), .int (iI pc1), .int (iI pc2), .int (iI pc3), .int (iI pc4), .int (iI pc5), .int (iI pc6), .int (iI pc7)] := (fS29 (x + 28) (off_ne (x := x) (a := 28) (b := 20) (by decide))).trans hg20
        have e37 : S29 (x + 29) = oI g 60 pcf := (fS29 (x + 29) (off_ne (x := x) (a := 29) (b := 20) (by decide))).trans hg21
        have e38 : S29 (x + 30) = oI g 60 pce := (fS29 (x + 30) (off_ne (x := x) (a := 30) (b := 20) (by decide))).trans hg22
        have e39 : S29 (x + 13) = oI g 8 rf := (fS29 (x + 13) (off_ne (x := x) (a := 13) (b := 20) (by decide))).trans hx23
        have e40 : S29 (x + 21) = oI g 8 lvv := (fS29 (x + 21) (off_ne (x := x) (a := 21) (b := 20) (by decide))).trans hc44_1
        exact hret none _ S29 _ _ _ _ hw (⟨rfl, rfl, (by rw [hfin]; exact hS29), ⟨_, _, _, _, _, _, _, _, _, e30, e31, e32⟩, ⟨_, _, _, _, _, _, _, _, _, e33, e34, e35⟩, ⟨_, _, _, _, _, _, _, _, _, e36, e37, e38⟩, ⟨_, e39⟩, ⟨_, e40⟩, fun bb hb0 hb1 hb2 hb3 hb4 hb5 hb6 hb7 hb8 hb9 hb10 hb11 => (((((fS29 bb hb0)).trans (fr44 bb hb0 hb1 hb2 hb3 hb4 hb5 hb6 hb7 hb8 hb9 hb10 hb11)).trans (fS4 bb hb0)).trans (fS3 bb hb0)).trans (fS1 bb hb1)⟩) ⟨rfl, dX0_go_176⟩
      · refine lv_aload_n hc.1 hc.2.1 dX0_go_50 rfl (lv_at hl 2 rfl) ?_
        refine nn_get hc hw hc44_0 hiX0 rfl 0 (by decide) rfl lk28 dX0_go_51 ?_
        refine lv_aload_n hc.1 hc.2.1 dX0_go_54 rfl (lv_at hl 0 rfl) ?_
        have e41 : S1 (x + 4) = oO 5 [.ref (x + 5), .ref (x + 6), .ref (x + 7), .int (iI nH), .int (iI pHi), .int (iI pWi), .int (iI pLp), .int (iI pBk), .int (iI pHp)] := (fS1 (x + 4) (off_ne (x := x) (a := 4) (b := 21) (by decide))).trans hp
        have e42 : S3 (x + 4) = oO 5 [.ref (x + 5), .ref (x + 6), .ref (x + 7), .int (iI nH), .int (iI pHi), .int (iI pWi), .int (iI pLp), .int (iI pBk), .int (iI pHp)] := (fS3 (x + 4) (off_ne (x := x) (a := 4) (b := 20) (by decide))).trans e41
        have e43 : S4 (x + 4) = oO 5 [.ref (x + 5), .ref (x + 6), .ref (x + 7), .int (iI nH), .int (iI pHi), .int (iI pWi), .int (iI pLp), .int (iI pBk), .int (iI pHp)] := (fS4 (x + 4) (off_ne (x := x) (a := 4) (b := 20) (by decide))).trans e42
        have e44 : S11 (x + 4) = oO 5 [.ref (x + 5), .ref (x + 6), .ref (x + 7), .int (iI nH), .int (iI pHi), .int (iI pWi), .int (iI pLp), .int (iI pBk), .int (iI pHp)] := (fr44 (x + 4) (off_ne (x := x) (a := 4) (b := 20) (by decide)) (off_ne (x := x) (a := 4) (b := 21) (by decide)) (off_ne (x := x) (a := 4) (b := 13) (by decide)) (off_ne (x := x) (a := 4) (b := 22) (by decide)) (off_ne (x := x) (a := 4) (b := 23) (by decide)) (off_ne (x := x) (a := 4) (b := 24) (by decide)) (off_ne (x := x) (a := 4) (b := 25) (by decide)) (off_ne (x := x) (a := 4) (b := 26) (by decide)) (off_ne (x := x) (a := 4) (b := 27) (by decide)) (off_ne (x := x) (a := 4) (b := 28) (by decide)) (off_ne (x := x) (a := 4) (b := 29) (by decide)) (off_ne (x := x) (a := 4) (b := 30) (by decide))).trans e43
        refine nn_Vp (As := [.ref la]) (st := []) hc hw e44 rfl (c_X5_isReadyBy l g  e44 hx12 (by omega) (by omega)) (cwV 1 hc.2.2.2.2 gX0_go_X5_isReadyBy rfl rfl rfl (by decide +kernel) ⟨Nat.le_of_ble_eq_true rfl, Nat.le_of_ble_eq_true rfl⟩) rfl hl.1 rfl (Nat.le_of_ble_eq_true rfl) ⟨Nat.le_of_ble_eq_true rfl, Nat.le_of_ble_eq_true rfl⟩ dX0_go_55 ?_
        refine W.eq (g2 := F0 m 58 ls [.int (iI (if pHi ≤ xF + xG then 1 else 0))]) rfl ?_
        refine nn_if_ne hc dX0_go_58 (tgt := 164) (by decide) (by omega) (fun c45 => ?_) (fun c45 => ?_)
        · have hfin : goG nH.toNat ln br pHi pLp pWi pHp pBk how (20 - zR).toNat lvR qL (qF + qG) qs = (m1, w1, xF + xG) := by rw [hgo, goG_ready (by omega)]; simp
          refine lv_aload_n hc.1 hc.2.1 dX0_go_164 rfl (lv_at hl 2 rfl) ?_
          refine lv_aload_n hc.1 hc.2.1 dX0_go_165 rfl (lv_at hl 2 rfl) ?_
          refine nn_get hc hw hc44_0 hiX0 rfl 0 (by decide) rfl lk28 dX0_go_166 ?_
          refine lv_aload_n hc.1 hc.2.1 dX0_go_169 rfl (lv_at hl 0 rfl) ?_
          refine nn_Vp (As := [.ref la]) (st := [.ref (x + 20)]) hc hw e44 rfl (c_X5_isReadyBy l g  e44 hx12 (by omega) (by omega)) (cwV 1 hc.2.2.2.2 gX0_go_X5_isReadyBy rfl rfl rfl (by decide +kernel) ⟨Nat.le_of_ble_eq_true rfl, Nat.le_of_ble_eq_true rfl⟩) rfl hl.1 rfl (Nat.le_of_ble_eq_true rfl) ⟨Nat.le_of_ble_eq_true rfl, Nat.le_of_ble_eq_true rfl⟩ dX0_go_170 ?_
          refine W.eq (g2 := F0 m 173 ls [.int (iI (if pHi ≤ xF + xG then 1 else 0)), .ref (x + 20)]) rfl ?_
          refine nn_put hc hw hc44_0 hiX0 tyX0 tyX0_ok nmX0 rfl 9 (by decide) (Nat.le_of_ble_eq_true rfl) lk95 rfl (nn_nb _) (nn_fb _) dX0_go_173 (fun S46 H locs hS46 fS46 hw => ?_)
          have hS46 : S46 (x + 20) = oO 0 [.ref (x + 4), .ref (x + 12), .ref (x + 14), .ref (x + 21), .ref (x + 22), .ref (x + 25), .ref (x + 28), .int (iI m1), .int (iI w1), .int (iI (if pHi ≤ xF + xG then 1 else 0))] := hS46
          have e47 : S46 (x + 22) = oO 3 [.ref (x + 22 + 1), .ref (x + 22 + 2), .int (iI pa1), .int (iI pa2), .int (iI pa3), .int (iI pa4), .int (iI pa5), .int (iI pa6), .int (iI pa7)] := (fS46 (x + 22) (off_ne (x := x) (a := 22) (b := 20) (by decide))).trans hg14
          have e48 : S46 (x + 23) = oI g 60 paf := (fS46 (x + 23) (off_ne (x := x) (a := 23) (b := 20) (by decide))).trans hg15
          have e49 : S46 (x + 24) = oI g 60 pae := (fS46 (x + 24) (off_ne (x := x) (a := 24) (b := 20) (by decide))).trans hg16
          have e50 : S46 (x + 25) = oO 3 [.ref (x + 25 + 1), .ref (x + 25 + 2), .int (iI pb1), .int (iI pb2), .int (iI pb3), .int (iI pb4), .int (iI pb5), .int (iI pb6), .int (iI pb7)] := (fS46 (x + 25) (off_ne (x := x) (a := 25) (b := 20) (by decide))).trans hg17
          have e51 : S46 (x + 26) = oI g 60 pbf := (fS46 (x + 26) (off_ne (x := x) (a := 26) (b := 20) (by decide))).trans hg18
          have e52 : S46 (x + 27) = oI g 60 pbe := (fS46 (x + 27) (off_ne (x := x) (a := 27) (b := 20) (by decide))).trans hg19
          have e53 : S46 (x + 28) = oO 3 [.ref (x + 28 + 1), .ref (x + 28 + 2), .int (iI pc1), .int (iI pc2), .int (iI pc3), .int (iI pc4), .int (iI pc5), .int (iI pc6), .int (iI pc7)] := (fS46 (x + 28) (off_ne (x := x) (a := 28) (b := 20) (by decide))).trans hg20
          have e54 : S46 (x + 29) = oI g 60 pcf := (fS46 (x + 29) (off_ne (x := x) (a := 29) (b := 20) (by decide))).trans hg21
          have e55 : S46 (x + 30) = oI g 60 pce := (fS46 (x + 30) (off_ne (x := x) (a := 30) (b := 20) (by decide))).trans hg22
          have e56 : S46 (x + 13) = oI g 8 rf := (fS46 (x + 13) (off_ne (x := x) (a := 13) (b := 20) (by decide))).trans hx23
          have e57 : S46 (x + 21) = oI g 8 lvv := (fS46 (x + 21) (off_ne (x := x) (a := 21) (b := 20) (by decide))).trans hc44_1
          exact hret none _ S46 _ _ _ _ hw (⟨rfl, rfl, (by rw [hfin]; exact hS46), ⟨_, _, _, _, _, _, _, _, _, e47, e48, e49⟩, ⟨_, _, _, _, _, _, _, _, _, e50, e51, e52⟩, ⟨_, _, _, _, _, _, _, _, _, e53, e54, e55⟩, ⟨_, e56⟩, ⟨_, e57⟩, fun bb hb0 hb1 hb2 hb3 hb4 hb5 hb6 hb7 hb8 hb9 hb10 hb11 => (((((fS46 bb hb0)).trans (fr44 bb hb0 hb1 hb2 hb3 hb4 hb5 hb6 hb7 hb8 hb9 hb10 hb11)).trans (fS4 bb hb0)).trans (fS3 bb hb0)).trans (fS1 bb hb1)⟩) ⟨rfl, dX0_go_176⟩
        · refine lv_iload_n hc.1 hc.2.1 dX0_go_61 rfl (lv_at hl 1 rfl) ?_
          refine nn_iconst hc dX0_go_62 ?_
          refine nn_irem hc dX0_go_63 (by omega) (by omega) ?_
          refine nn_if_ne hc dX0_go_64 (tgt := 74) (by decide) (by omega) (fun c58 => ?_) (fun c58 => ?_)
          · refine lv_aload_n hc.1 hc.2.1 dX0_go_74 rfl (lv_at hl 2 rfl) ?_
            refine nn_get hc hw hc44_0 hiX0 rfl 6 (by decide) rfl lk25 dX0_go_75 ?_
            refine lv_astore (lv' := [(4, .ref (x + 28)), (2, .ref la), (3, .int (iI k)), (0, .ref (x + 20)), (1, .int (iI how))]) hc.1 hc.2.1 dX0_go_78 hl (by decide) rfl (fun ls hl => ?_)
            refine lv_aload_n hc.1 hc.2.1 dX0_go_80 rfl (lv_at hl 3 rfl) ?_
            refine lv_iload_n hc.1 hc.2.1 dX0_go_81 rfl (lv_at hl 4 rfl) ?_
            refine lv_aload_n hc.1 hc.2.1 dX0_go_82 rfl (lv_at hl 3 rfl) ?_
            refine nn_get hc hw hc44_0 hiX0 rfl 3 (by decide) rfl lk9 dX0_go_83 ?_
            refine lv_aload_n hc.1 hc.2.1 dX0_go_86 rfl (lv_at hl 1 rfl) ?_
            have e59 : S1 (x + 12) = oO 4 [.ref (x + 4), .ref (x + 13)] := (fS1 (x + 12) (off_ne (x := x) (a := 12) (b := 21) (by decide))).trans hy
            have e60 : S3 (x + 12) = oO 4 [.ref (x + 4), .ref (x + 13)] := (fS3 (x + 12) (off_ne (x := x) (a := 12) (b := 20) (by decide))).trans e59
            have e61 : S4 (x + 12) = oO 4 [.ref (x + 4), .ref (x + 13)] := (fS4 (x + 12) (off_ne (x := x) (a := 12) (b := 20) (by decide))).trans e60
            have e62 : S11 (x + 12) = oO 4 [.ref (x + 4), .ref (x + 13)] := (fr44 (x + 12) (off_ne (x := x) (a := 12) (b := 20) (by decide)) (off_ne (x := x) (a := 12) (b := 21) (by decide)) (off_ne (x := x) (a := 12) (b := 13) (by decide)) (off_ne (x := x) (a := 12) (b := 22) (by decide)) (off_ne (x := x) (a := 12) (b := 23) (by decide)) (off_ne (x := x) (a := 12) (b := 24) (by decide)) (off_ne (x := x) (a := 12) (b := 25) (by decide)) (off_ne (x := x) (a := 12) (b := 26) (by decide)) (off_ne (x := x) (a := 12) (b := 27) (by decide)) (off_ne (x := x) (a := 12) (b := 28) (by decide)) (off_ne (x := x) (a := 12) (b := 29) (by decide)) (off_ne (x := x) (a := 12) (b := 30) (by decide))).trans e61
            have e63 : S1 ((x + 4) + 1) = oI g 8 ln := (fS1 ((x + 4) + 1) (off_ne (x := x) (a := 5) (b := 21) (by decide))).trans hln
            have e64 : S3 ((x + 4) + 1) = oI g 8 ln := (fS3 ((x + 4) + 1) (off_ne (x := x) (a := 5) (b := 20) (by decide))).trans e63
            have e65 : S4 ((x + 4) + 1) = oI g 8 ln := (fS4 ((x + 4) + 1) (off_ne (x := x) (a := 5) (b := 20) (by decide))).trans e64
            have e66 : S11 ((x + 4) + 1) = oI g 8 ln := (fr44 ((x + 4) + 1) (off_ne (x := x) (a := 5) (b := 20) (by decide)) (off_ne (x := x) (a := 5) (b := 21) (by decide)) (off_ne (x := x) (a := 5) (b := 13) (by decide)) (off_ne (x := x) (a := 5) (b := 22) (by decide)) (off_ne (x := x) (a := 5) (b := 23) (by decide)) (off_ne (x := x) (a := 5) (b := 24) (by decide)) (off_ne (x := x) (a := 5) (b := 25) (by decide)) (off_ne (x := x) (a := 5) (b := 26) (by decide)) (off_ne (x := x) (a := 5) (b := 27) (by decide)) (off_ne (x := x) (a := 5) (b := 28) (by decide)) (off_ne (x := x) (a := 5) (b := 29) (by decide)) (off_ne (x := x) (a := 5) (b := 30) (by decide))).trans e65
            have e67 : S1 ((x + 4) + 2) = oI g 8 br := (fS1 ((x + 4) + 2) (off_ne (x := x) (a := 6) (b := 21) (by decide))).trans hbr
            have e68 : S3 ((x + 4) + 2) = oI g 8 br := (fS3 ((x + 4) + 2) (off_ne (x := x) (a := 6) (b := 20) (by decide))).trans e67
            have e69 : S4 ((x + 4) + 2) = oI g 8 br := (fS4 ((x + 4) + 2) (off_ne (x := x) (a := 6) (b := 20) (by decide))).trans e68
            have e70 : S11 ((x + 4) + 2) = oI g 8 br := (fr44 ((x + 4) + 2) (off_ne (x := x) (a := 6) (b := 20) (by decide)) (off_ne (x := x) (a := 6) (b := 21) (by decide)) (off_ne (x := x) (a := 6) (b := 13) (by decide)) (off_ne (x := x) (a := 6) (b := 22) (by decide)) (off_ne (x := x) (a := 6) (b := 23) (by decide)) (off_ne (x := x) (a := 6) (b := 24) (by decide)) (off_ne (x := x) (a := 6) (b := 25) (by decide)) (off_ne (x := x) (a := 6) (b := 26) (by decide)) (off_ne (x := x) (a := 6) (b := 27) (by decide)) (off_ne (x := x) (a := 6) (b := 28) (by decide)) (off_ne (x := x) (a := 6) (b := 29) (by decide)) (off_ne (x := x) (a := 6) (b := 30) (by decide))).trans e69
            refine nn_Vs (As := [.int (iI how), .ref (x + 21), .ref la]) (st := []) hc hw hc44_0 rfl (c_X0_choose l g (bs := xb) hc44_0 e62 e44 e66 e70 hx23 hg14 hg15 hg16 hx12 hx13 hc44_1 (by omega) (rP) (hlvv) (by omega) (by omega) (by omega) (by omega) (by omega) (by omega) (by omega) (⟨rfl, hxL.2, hx5⟩) (hbe) (by unfold apA; omega)) (cwV 3 hc.2.2.2.2 gX0_go_X0_choose rfl rfl rfl (by decide +kernel) ⟨Nat.le_of_ble_eq_true rfl, Nat.le_of_ble_eq_true rfl⟩) rfl hl.1 rfl (Nat.le_of_ble_eq_true rfl) ⟨Nat.le_of_ble_eq_true rfl, Nat.le_of_ble_eq_true rfl⟩ dX0_go_87 (fun vr n1 S71 H locs qS71 hw => ?_)
            obtain ⟨r1_72, p1_73, p2_74, p3_75, p4_76, p5_77, p6_78, p7_79, h1_80, e1_81, rfl, rfl, hS71_0, hS71_1, hS71_2, hS71_3, fS71⟩ := qS71
            refine W.eq (g2 := F0 m 90 ls [.int (iI (chL nH.toNat ln br pLp pWi pHp pBk how lvv xL (xF + xG) xb))]) rfl ?_
            refine nn_name (fun xl exl => ?_)
            refine lv_istore (lv' := [(5, .int (iI xl)), (4, .ref (x + 28)), (2, .ref la), (3, .int (iI k)), (0, .ref (x + 20)), (1, .int (iI how))]) hc.1 hc.2.1 dX0_go_90 hl (by decide) rfl (fun ls hl => ?_)
            have hok := chL_ok (nH := nH.toNat) (ln := ln) (br := br) (lp := pLp) (wi := pWi) (hp := pHp) (bk := pBk) (how := how) h20 (lv := lvv) (bL := xL) (hd := xF + xG) (bs := xb)
            rw [← exl] at hok
            have hok2 : xl = -4 ∨ (20 ≤ xl ∧ xl ≤ 60) := by rcases hok with z | ⟨z0, z1, z2, z3⟩; exact Or.inl z; exact Or.inr z2
            refine lv_iload hc.1 hc.2.1 dX0_go_92 (lv_at hl 0 rfl) ?_
            refine nn_bipush hc dX0_go_94 (by decide +kernel) ?_
            refine nn_icmp_eq hc dX0_go_96 (tgt := 164) (by decide) (by omega) (by decide) (fun c82 => ?_) (fun c82 => ?_)
            · have hfin : goG nH.toNat ln br pHi pLp pWi pHp pBk how (20 - zR).toNat lvR qL (qF + qG) qs = (m1, w1, xF + xG) := by rw [hgo, goG_none (by rw [← exl]; exact c82)]; simp
              refine lv_aload_n hc.1 hc.2.1 dX0_go_164 rfl (lv_at hl 4 rfl) ?_
              refine lv_aload_n hc.1 hc.2.1 dX0_go_165 rfl (lv_at hl 4 rfl) ?_
              have e83 : S71 (x + 20) = oO 0 [.ref (x + 4), .ref (x + 12), .ref (x + 14), .ref (x + 21), .ref (x + 22), .ref (x + 25), .ref (x + 28), .int (iI m1), .int (iI w1), .int (iI re)] := (fS71 (x + 20) (off_ne (x := x) (a := 20) (b := 13) (by decide)) (off_ne (x := x) (a := 20) (b := 22) (by decide)) (off_ne (x := x) (a := 20) (b := 23) (by decide)) (off_ne (x := x) (a := 20) (b := 24) (by decide))).trans hc44_0
              refine nn_get hc hw e83 hiX0 rfl 0 (by decide) rfl lk28 dX0_go_166 ?_
              refine lv_aload_n hc.1 hc.2.1 dX0_go_169 rfl (lv_at hl 2 rfl) ?_
              have e84 : S71 (x + 4) = oO 5 [.ref (x + 5), .ref (x + 6), .ref (x + 7), .int (iI nH), .int (iI pHi), .int (iI pWi), .int (iI pLp), .int (iI pBk), .int (iI pHp)] := (fS71 (x + 4) (off_ne (x := x) (a := 4) (b := 13) (by decide)) (off_ne (x := x) (a := 4) (b := 22) (by decide)) (off_ne (x := x) (a := 4) (b := 23) (by decide)) (off_ne (x := x) (a := 4) (b := 24) (by decide))).trans e44
              have e85 : S71 la = oO 3 [.ref (la + 1), .ref (la + 2), .int (iI xL), .int (iI xF), .int (iI xG), .int (iI xR), .int (iI (xb.length : Int)), .int (iI (wst br xL xb)), .int (iI (cuts br xb))] := (fS71 la (by omega) (by omega) (by omega) (by omega)).trans hx12
              refine nn_Vp (As := [.ref la]) (st := [.ref (x + 20)]) hc hw e84 rfl (c_X5_isReadyBy l g  e84 e85 (by omega) (by omega)) (cwV 1 hc.2.2.2.2 gX0_go_X5_isReadyBy rfl rfl rfl (by decide +kernel) ⟨Nat.le_of_ble_eq_true rfl, Nat.le_of_ble_eq_true rfl⟩) rfl hl.1 rfl (Nat.le_of_ble_eq_true rfl) ⟨Nat.le_of_ble_eq_true rfl, Nat.le_of_ble_eq_true rfl⟩ dX0_go_170 ?_
              refine W.eq (g2 := F0 m 173 ls [.int (iI (if pHi ≤ xF + xG then 1 else 0)), .ref (x + 20)]) rfl ?_
              refine nn_put hc hw e83 hiX0 tyX0 tyX0_ok nmX0 rfl 9 (by decide) (Nat.le_of_ble_eq_true rfl) lk95 rfl (nn_nb _) (nn_fb _) dX0_go_173 (fun S86 H locs hS86 fS86 hw => ?_)
              have hS86 : S86 (x + 20) = oO 0 [.ref (x + 4), .ref (x + 12), .ref (x + 14), .ref (x + 21), .ref (x + 22), .ref (x + 25), .ref (x + 28), .int (iI m1), .int (iI w1), .int (iI (if pHi ≤ xF + xG then 1 else 0))] := hS86
              have e87 : S86 (x + 22) = oO 3 [.ref ((x + 20) + 2 + 1), .ref ((x + 20) + 2 + 2), .int (iI p1_73), .int (iI p2_74), .int (iI p3_75), .int (iI p4_76), .int (iI p5_77), .int (iI p6_78), .int (iI p7_79)] := (fS86 (x + 22) (off_ne (x := x) (a := 22) (b := 20) (by decide))).trans hS71_1
              have e88 : S86 (x + 23) = oI g 60 h1_80 := (fS86 (x + 23) (off_ne (x := x) (a := 23) (b := 20) (by decide))).trans hS71_2
              have e89 : S86 (x + 24) = oI g 60 e1_81 := (fS86 (x + 24) (off_ne (x := x) (a := 24) (b := 20) (by decide))).trans hS71_3
              have e90 : S71 (x + 25) = oO 3 [.ref (x + 25 + 1), .ref (x + 25 + 2), .int (iI pb1), .int (iI pb2), .int (iI pb3), .int (iI pb4), .int (iI pb5), .int (iI pb6), .int (iI pb7)] := (fS71 (x + 25) (off_ne (x := x) (a := 25) (b := 13) (by decide)) (off_ne (x := x) (a := 25) (b := 22) (by decide)) (off_ne (x := x) (a := 25) (b := 23) (by decide)) (off_ne (x := x) (a := 25) (b := 24) (by decide))).trans hg17
              have e91 : S86 (x + 25) = oO 3 [.ref (x + 25 + 1), .ref (x + 25 + 2), .int (iI pb1), .int (iI pb2), .int (iI pb3), .int (iI pb4), .int (iI pb5), .int (iI pb6), .int (iI pb7)] := (fS86 (x + 25) (off_ne (x := x) (a := 25) (b := 20) (by decide))).trans e90
              have e92 : S71 (x + 26) = oI g 60 pbf := (fS71 (x + 26) (off_ne (x := x) (a := 26) (b := 13) (by decide)) (off_ne (x := x) (a := 26) (b := 22) (by decide)) (off_ne (x := x) (a := 26) (b := 23) (by decide)) (off_ne (x := x) (a := 26) (b := 24) (by decide))).trans hg18
              have e93 : S86 (x + 26) = oI g 60 pbf := (fS86 (x + 26) (off_ne (x := x) (a := 26) (b := 20) (by decide))).trans e92
              have e94 : S71 (x + 27) = oI g 60 pbe := (fS71 (x + 27) (off_ne (x := x) (a := 27) (b := 13) (by decide)) (off_ne (x := x) (a := 27) (b := 22) (by decide)) (off_ne (x := x) (a := 27) (b := 23) (by decide)) (off_ne (x := x) (a := 27) (b := 24) (by decide))).trans hg19
              have e95 : S86 (x + 27) = oI g 60 pbe := (fS86 (x + 27) (off_ne (x := x) (a := 27) (b := 20) (by decide))).trans e94
              have e96 : S71 (x + 28) = oO 3 [.ref (x + 28 + 1), .ref (x + 28 + 2), .int (iI pc1), .int (iI pc2), .int (iI pc3), .int (iI pc4), .int (iI pc5), .int (iI pc6), .int (iI pc7)] := (fS71 (x + 28) (off_ne (x := x) (a := 28) (b := 13) (by decide)) (off_ne (x := x) (a := 28) (b := 22) (by decide)) (off_ne (x := x) (a := 28) (b := 23) (by decide)) (off_ne (x := x) (a := 28) (b := 24) (by decide))).trans hg20
              have e97 : S86 (x + 28) = oO 3 [.ref (x + 28 + 1), .ref (x + 28 + 2), .int (iI pc1), .int (iI pc2), .int (iI pc3), .int (iI pc4), .int (iI pc5), .int (iI pc6), .int (iI pc7)] := (fS86 (x + 28) (off_ne (x := x) (a := 28) (b := 20) (by decide))).trans e96
              have e98 : S71 (x + 29) = oI g 60 pcf := (fS71 (x + 29) (off_ne (x := x) (a := 29) (b := 13) (by decide)) (off_ne (x := x) (a := 29) (b := 22) (by decide)) (off_ne (x := x) (a := 29) (b := 23) (by decide)) (off_ne (x := x) (a := 29) (b := 24) (by decide))).trans hg21
              have e99 : S86 (x + 29) = oI g 60 pcf := (fS86 (x + 29) (off_ne (x := x) (a := 29) (b := 20) (by decide))).trans e98
              have e100 : S71 (x + 30) = oI g 60 pce := (fS71 (x + 30) (off_ne (x := x) (a := 30) (b := 13) (by decide)) (off_ne (x := x) (a := 30) (b := 22) (by decide)) (off_ne (x := x) (a := 30) (b := 23) (by decide)) (off_ne (x := x) (a := 30) (b := 24) (by decide))).trans hg22
              have e101 : S86 (x + 30) = oI g 60 pce := (fS86 (x + 30) (off_ne (x := x) (a := 30) (b := 20) (by decide))).trans e100
              have e102 : S86 (x + 13) = oI g 8 r1_72 := (fS86 (x + 13) (off_ne (x := x) (a := 13) (b := 20) (by decide))).trans hS71_0
              have e103 : S71 (x + 21) = oI g 8 lvv := (fS71 (x + 21) (off_ne (x := x) (a := 21) (b := 13) (by decide)) (off_ne (x := x) (a := 21) (b := 22) (by decide)) (off_ne (x := x) (a := 21) (b := 23) (by decide)) (off_ne (x := x) (a := 21) (b := 24) (by decide))).trans hc44_1
              have e104 : S86 (x + 21) = oI g 8 lvv := (fS86 (x + 21) (off_ne (x := x) (a := 21) (b := 20) (by decide))).trans e103
              exact hret none _ S86 _ _ _ _ hw (⟨rfl, rfl, (by rw [hfin]; exact hS86), ⟨_, _, _, _, _, _, _, _, _, e87, e88, e89⟩, ⟨_, _, _, _, _, _, _, _, _, e91, e93, e95⟩, ⟨_, _, _, _, _, _, _, _, _, e97, e99, e101⟩, ⟨_, e102⟩, ⟨_, e104⟩, fun bb hb0 hb1 hb2 hb3 hb4 hb5 hb6 hb7 hb8 hb9 hb10 hb11 => ((((((fS86 bb hb0)).trans (fS71 bb hb2 hb3 hb4 hb5)).trans (fr44 bb hb0 hb1 hb2 hb3 hb4 hb5 hb6 hb7 hb8 hb9 hb10 hb11)).trans (fS4 bb hb0)).trans (fS3 bb hb0)).trans (fS1 bb hb1)⟩) ⟨rfl, dX0_go_176⟩
            · obtain ⟨sl, hly, hl20, hlL⟩ : ∃ sl : sL, layC nH.toNat ln br pWi pHp pBk xl lvv (xF + xG) xb = some sl ∧ (20 ≤ xl ∧ xl ≤ 60) ∧ xl ≤ xL := by rcases hok with z | z; omega; exact z
              have hgd1 := layC_good hbr1 hly
              have hLC : ∀ L : Int, layG nH.toNat ln br L (rmF pWi pHp (xF + xG)) hxe pBk ((xb.length : Int) - 1).toNat 60 lvv 0 = layC nH.toNat ln br pWi pHp pBk L lvv (xF + xG) xb := fun L => by unfold layC; rw [show ((xb.length : Int) - 1).toNat = xb.length - 1 by omega]; exact layG_ed (fun i hi => hx5 i (by omega)) 60 lvv 0
              have hm0 : 0 ≤ pHp * (xF + xG) := Int.mul_nonneg rhp.1 (by omega)
              have hm1 : pHp * (xF + xG) ≤ 9 * 1000 := Int.mul_le_mul rhp.2 (by omega) (by omega) (by decide)
              refine lv_aload_n hc.1 hc.2.1 dX0_go_99 rfl (lv_at hl 4 rfl) ?_
              have e105 : S71 (x + 20) = oO 0 [.ref (x + 4), .ref (x + 12), .ref (x + 14), .ref (x + 21), .ref (x + 22), .ref (x + 25), .ref (x + 28), .int (iI m1), .int (iI w1), .int (iI re)] := (fS71 (x + 20) (off_ne (x := x) (a := 20) (b := 13) (by decide)) (off_ne (x := x) (a := 20) (b := 22) (by decide)) (off_ne (x := x) (a := 20) (b := 23) (by decide)) (off_ne (x := x) (a := 20) (b := 24) (by decide))).trans hc44_0
              refine nn_get hc hw e105 hiX0 rfl 1 (by decide) rfl lk32 dX0_go_100 ?_
              refine lv_aload hc.1 hc.2.1 dX0_go_103 (lv_at hl 1 rfl) ?_
              refine lv_iload hc.1 hc.2.1 dX0_go_105 (lv_at hl 0 rfl) ?_
              refine lv_aload_n hc.1 hc.2.1 dX0_go_107 rfl (lv_at hl 4 rfl) ?_
              refine nn_get hc hw e105 hiX0 rfl 3 (by decide) rfl lk9 dX0_go_108 ?_
              refine lv_aload_n hc.1 hc.2.1 dX0_go_111 rfl (lv_at hl 2 rfl) ?_
              have e106 : S71 (x + 12) = oO 4 [.ref (x + 4), .ref (x + 13)] := (fS71 (x + 12) (off_ne (x := x) (a := 12) (b := 13) (by decide)) (off_ne (x := x) (a := 12) (b := 22) (by decide)) (off_ne (x := x) (a := 12) (b := 23) (by decide)) (off_ne (x := x) (a := 12) (b := 24) (by decide))).trans e62
              have e107 : S71 (x + 4) = oO 5 [.ref (x + 5), .ref (x + 6), .ref (x + 7), .int (iI nH), .int (iI pHi), .int (iI pWi), .int (iI pLp), .int (iI pBk), .int (iI pHp)] := (fS71 (x + 4) (off_ne (x := x) (a := 4) (b := 13) (by decide)) (off_ne (x := x) (a := 4) (b := 22) (by decide)) (off_ne (x := x) (a := 4) (b := 23) (by decide)) (off_ne (x := x) (a := 4) (b := 24) (by decide))).trans e44
              have e108 : S71 ((x + 4) + 1) = oI g 8 ln := (fS71 ((x + 4) + 1) (off_ne (x := x) (a := 5) (b := 13) (by decide)) (off_ne (x := x) (a := 5) (b := 22) (by decide)) (off_ne (x := x) (a := 5) (b := 23) (by decide)) (off_ne (x := x) (a := 5) (b := 24) (by decide))).trans e66
              have e109 : S71 ((x + 4) + 2) = oI g 8 br := (fS71 ((x + 4) + 2) (off_ne (x := x) (a := 6) (b := 13) (by decide)) (off_ne (x := x) (a := 6) (b := 22) (by decide)) (off_ne (x := x) (a := 6) (b := 23) (by decide)) (off_ne (x := x) (a := 6) (b := 24) (by decide))).trans e70
              have e110 : S71 (x + 28) = oO 3 [.ref (x + 28 + 1), .ref (x + 28 + 2), .int (iI pc1), .int (iI pc2), .int (iI pc3), .int (iI pc4), .int (iI pc5), .int (iI pc6), .int (iI pc7)] := (fS71 (x + 28) (off_ne (x := x) (a := 28) (b := 13) (by decide)) (off_ne (x := x) (a := 28) (b := 22) (by decide)) (off_ne (x := x) (a := 28) (b := 23) (by decide)) (off_ne (x := x) (a := 28) (b := 24) (by decide))).trans hg20
              have e111 : S71 ((x + 28) + 1) = oI g 60 pcf := (fS71 ((x + 28) + 1) (off_ne (x := x) (a := 29) (b := 13) (by decide)) (off_ne (x := x) (a := 29) (b := 22) (by decide)) (off_ne (x := x) (a := 29) (b := 23) (by decide)) (off_ne (x := x) (a := 29) (b := 24) (by decide))).trans hg21
              have e112 : S71 ((x + 28) + 2) = oI g 60 pce := (fS71 ((x + 28) + 2) (off_ne (x := x) (a := 30) (b := 13) (by decide)) (off_ne (x := x) (a := 30) (b := 22) (by decide)) (off_ne (x := x) (a := 30) (b := 23) (by decide)) (off_ne (x := x) (a := 30) (b := 24) (by decide))).trans hg22
              have e113 : S71 la = oO 3 [.ref (la + 1), .ref (la + 2), .int (iI xL), .int (iI xF), .int (iI xG), .int (iI xR), .int (iI (xb.length : Int)), .int (iI (wst br xL xb)), .int (iI (cuts br xb))] := (fS71 la (by omega) (by omega) (by omega) (by omega)).trans hx12
              have e114 : S71 (la + 2) = oI g 60 hxe := (fS71 (la + 2) (by omega) (by omega) (by omega) (by omega)).trans hx13
              have e115 : S71 (x + 21) = oI g 8 lvv := (fS71 (x + 21) (off_ne (x := x) (a := 21) (b := 13) (by decide)) (off_ne (x := x) (a := 21) (b := 22) (by decide)) (off_ne (x := x) (a := 21) (b := 23) (by decide)) (off_ne (x := x) (a := 21) (b := 24) (by decide))).trans hc44_1
              refine nn_Vs (As := [.ref (x + 28), .int (iI xl), .ref (x + 21), .ref la]) (st := []) hc hw e106 rfl (c_X4_fill_yes l g  e106 e107 e108 e109 hS71_0 e110 e111 e112 e113 e114 e115 (by omega) (rP) (hlvv) (by omega) (fun k hk => by rw [hx5 k (by omega)]; exact hbe k) (by omega) (by omega) (by omega) (by omega) (by omega) (by omega) (by omega) (by omega) ((hLC _).trans hly)) (cwV 4 hc.2.2.2.2 gX0_go_X4_fill rfl rfl rfl (by decide +kernel) ⟨Nat.le_of_ble_eq_true rfl, Nat.le_of_ble_eq_true rfl⟩) rfl hl.1 rfl (Nat.le_of_ble_eq_true rfl) ⟨Nat.le_of_ble_eq_true rfl, Nat.le_of_ble_eq_true rfl⟩ dX0_go_112 (fun vr n1 S116 H locs qS116 hw => ?_)
              obtain ⟨r1_117, h1_118, e1_119, rfl, rfl, hS116_0, hS116_1, hS116_2, hS116_3, kS116_0, kS116_1, fS116⟩ := qS116
              refine W.eq (g2 := F0 m 115 ls [.int (iI 1)]) rfl ?_
              refine nn_if_ne hc dX0_go_115 (tgt := 121) (by decide) (by decide) (fun c120 => ?_) (fun c120 => ?_)
              · refine lv_aload_n hc.1 hc.2.1 dX0_go_121 rfl (lv_at hl 4 rfl) ?_
                have e121 : S116 (x + 20) = oO 0 [.ref (x + 4), .ref (x + 12), .ref (x + 14), .ref (x + 21), .ref (x + 22), .ref (x + 25), .ref (x + 28), .int (iI m1), .int (iI w1), .int (iI re)] := (fS116 (x + 20) (off_ne (x := x) (a := 20) (b := 13) (by decide)) (off_ne (x := x) (a := 20) (b := 28) (by decide)) (off_ne (x := x) (a := 20) (b := 29) (by decide)) (off_ne (x := x) (a := 20) (b := 30) (by decide))).trans e105
                refine nn_get hc hw e121 hiX0 rfl 3 (by decide) rfl lk9 dX0_go_122 ?_
                refine lv_aload hc.1 hc.2.1 dX0_go_125 (lv_at hl 1 rfl) ?_
                refine nn_iconst hc dX0_go_127 ?_
                have e122 : S116 (x + 21) = oI g 8 lvv := (fS116 (x + 21) (off_ne (x := x) (a := 21) (b := 13) (by decide)) (off_ne (x := x) (a := 21) (b := 28) (by decide)) (off_ne (x := x) (a := 21) (b := 29) (by decide)) (off_ne (x := x) (a := 21) (b := 30) (by decide))).trans e115
                refine nn_Ss (As := [.ref (x + 21), .ref (x + 28), .int (iI (-1))]) (st := []) hc hw (c_X6_addSlates l g  e122 hS116_1 hS116_2 (by omega) (fun k hk => by have h1 := kS116_0 k (by omega); have h2 := slH_ok hgd1.1 (i := k) (by omega); omega) (by omega)) (va_cwS 3 hc.2.2.2.2 gX0_go_X6_addSlates rfl rfl rfl (by decide +kernel) ⟨Nat.le_of_ble_eq_true rfl, Nat.le_of_ble_eq_true rfl⟩) rfl hl.1 rfl (Nat.le_of_ble_eq_true rfl) ⟨Nat.le_of_ble_eq_true rfl, Nat.le_of_ble_eq_true rfl⟩ dX0_go_128 (fun vr n1 S123 H locs qS123 hw => ?_)
                obtain ⟨rfl, rfl, hS123_0, fS123⟩ := qS123
                refine W.eq (g2 := F0 m 131 ls []) rfl ?_
                refine lv_aload_n hc.1 hc.2.1 dX0_go_131 rfl (lv_at hl 4 rfl) ?_
                refine lv_dup hc.1 hc.2.1 dX0_go_132 rfl ?_
                have e124 : S123 (x + 20) = oO 0 [.ref (x + 4), .ref (x + 12), .ref (x + 14), .ref (x + 21), .ref (x + 22), .ref (x + 25), .ref (x + 28), .int (iI m1), .int (iI w1), .int (iI re)] := (fS123 (x + 20) (off_ne (x := x) (a := 20) (b := 21) (by decide))).trans e121
                refine nn_get hc hw e124 hiX0 rfl 7 (by decide) rfl lk72 dX0_go_133 ?_
                refine nn_iconst hc dX0_go_136 ?_
                refine nn_iadd hc dX0_go_137 ?_
                refine nn_put hc hw e124 hiX0 tyX0 tyX0_ok nmX0 rfl 7 (by decide) (Nat.le_of_ble_eq_true rfl) lk72 rfl rfl rfl dX0_go_138 (fun S125 H locs hS125 fS125 hw => ?_)
                have hS125 : S125 (x + 20) = oO 0 [.ref (x + 4), .ref (x + 12), .ref (x + 14), .ref (x + 21), .ref (x + 22), .ref (x + 25), .ref (x + 28), .int (iI (m1 + 1)), .int (iI w1), .int (iI re)] := hS125
                refine lv_aload_n hc.1 hc.2.1 dX0_go_141 rfl (lv_at hl 4 rfl) ?_
                refine lv_dup hc.1 hc.2.1 dX0_go_142 rfl ?_
                refine nn_get hc hw hS125 hiX0 rfl 8 (by decide) rfl lk75 dX0_go_143 ?_
                refine lv_aload hc.1 hc.2.1 dX0_go_146 (lv_at hl 1 rfl) ?_
                have e126 : S123 (x + 28) = oO 3 [.ref ((x + 28) + 1), .ref ((x + 28) + 2), .int (iI xl), .int (iI (xF + xG)), .int (iI ((xl - pLp) / 2)), .int (iI (rmF pWi pHp (xF + xG))), .int (iI (sl.length : Int)), .int (iI (wst br xl sl)), .int (iI (cuts br sl))] := (fS123 (x + 28) (off_ne (x := x) (a := 28) (b := 21) (by decide))).trans hS116_1
                have e127 : S125 (x + 28) = oO 3 [.ref ((x + 28) + 1), .ref ((x + 28) + 2), .int (iI xl), .int (iI (xF + xG)), .int (iI ((xl - pLp) / 2)), .int (iI (rmF pWi pHp (xF + xG))), .int (iI (sl.length : Int)), .int (iI (wst br xl sl)), .int (iI (cuts br sl))] := (fS125 (x + 28) (off_ne (x := x) (a := 28) (b := 20) (by decide))).trans e126
                refine nn_get hc hw e127 hiX3 rfl 7 (by decide) rfl lk57 dX0_go_148 ?_
                refine nn_iadd hc dX0_go_151 ?_
                refine nn_put hc hw hS125 hiX0 tyX0 tyX0_ok nmX0 rfl 8 (by decide) (Nat.le_of_ble_eq_true rfl) lk75 rfl rfl rfl dX0_go_152 (fun S128 H locs hS128 fS128 hw => ?_)
                have hS128 : S128 (x + 20) = oO 0 [.ref (x + 4), .ref (x + 12), .ref (x + 14), .ref (x + 21), .ref (x + 22), .ref (x + 25), .ref (x + 28), .int (iI (m1 + 1)), .int (iI (w1 + (wst br xl sl))), .int (iI re)] := hS128
                refine lv_aload hc.1 hc.2.1 dX0_go_155 (lv_at hl 1 rfl) ?_
                refine lv_astore_n (lv' := [(2, .ref (x + 28)), (5, .int (iI xl)), (4, .ref (x + 28)), (3, .int (iI k)), (0, .ref (x + 20)), (1, .int (iI how))]) hc.1 hc.2.1 dX0_go_157 rfl hl (by decide) rfl (fun ls hl => ?_)
                refine nn_iinc (lv' := [(3, .int (iI (k + 1))), (2, .ref (x + 28)), (5, .int (iI xl)), (4, .ref (x + 28)), (0, .ref (x + 20)), (1, .int (iI how))]) hc dX0_go_158 hl (k0 := 3) rfl (by decide) rfl (fun ls hl => ?_)
                refine lv_goto hc.1 hc.2.1 dX0_go_161 (tgt := 44) (by decide) ?_
                have e129 : S125 (x + 21) = oI g 8 (adS lvv h1_118 (-1) (sl.length : Int).toNat) := (fS125 (x + 21) (off_ne (x := x) (a := 21) (b := 20) (by decide))).trans hS123_0
                have e130 : S128 (x + 21) = oI g 8 (adS lvv h1_118 (-1) (sl.length : Int).toNat) := (fS128 (x + 21) (off_ne (x := x) (a := 21) (b := 20) (by decide))).trans e129
                have e131 : S128 (x + 28) = oO 3 [.ref ((x + 28) + 1), .ref ((x + 28) + 2), .int (iI xl), .int (iI (xF + xG)), .int (iI ((xl - pLp) / 2)), .int (iI (rmF pWi pHp (xF + xG))), .int (iI (sl.length : Int)), .int (iI (wst br xl sl)), .int (iI (cuts br sl))] := (fS128 (x + 28) (off_ne (x := x) (a := 28) (b := 20) (by decide))).trans e127
                have e132 : S123 (x + 29) = oI g 60 h1_118 := (fS123 (x + 29) (off_ne (x := x) (a := 29) (b := 21) (by decide))).trans hS116_2
                have e133 : S125 (x + 29) = oI g 60 h1_118 := (fS125 (x + 29) (off_ne (x := x) (a := 29) (b := 20) (by decide))).trans e132
                have e134 : S128 (x + 29) = oI g 60 h1_118 := (fS128 (x + 29) (off_ne (x := x) (a := 29) (b := 20) (by decide))).trans e133
                have e135 : S123 (x + 30) = oI g 60 e1_119 := (fS123 (x + 30) (off_ne (x := x) (a := 30) (b := 21) (by decide))).trans hS116_3
                have e136 : S125 (x + 30) = oI g 60 e1_119 := (fS125 (x + 30) (off_ne (x := x) (a := 30) (b := 20) (by decide))).trans e135
                have e137 : S128 (x + 30) = oI g 60 e1_119 := (fS128 (x + 30) (off_ne (x := x) (a := 30) (b := 20) (by decide))).trans e136
                have e138 : S116 (x + 22) = oO 3 [.ref ((x + 20) + 2 + 1), .ref ((x + 20) + 2 + 2), .int (iI p1_73), .int (iI p2_74), .int (iI p3_75), .int (iI p4_76), .int (iI p5_77), .int (iI p6_78), .int (iI p7_79)] := (fS116 (x + 22) (off_ne (x := x) (a := 22) (b := 13) (by decide)) (off_ne (x := x) (a := 22) (b := 28) (by decide)) (off_ne (x := x) (a := 22) (b := 29) (by decide)) (off_ne (x := x) (a := 22) (b := 30) (by decide))).trans hS71_1
                have e139 : S123 (x + 22) = oO 3 [.ref ((x + 20) + 2 + 1), .ref ((x + 20) + 2 + 2), .int (iI p1_73), .int (iI p2_74), .int (iI p3_75), .int (iI p4_76), .int (iI p5_77), .int (iI p6_78), .int (iI p7_79)] := (fS123 (x + 22) (off_ne (x := x) (a := 22) (b := 21) (by decide))).trans e138
                have e140 : S125 (x + 22) = oO 3 [.ref ((x + 20) + 2 + 1), .ref ((x + 20) + 2 + 2), .int (iI p1_73), .int (iI p2_74), .int (iI p3_75), .int (iI p4_76), .int (iI p5_77), .int (iI p6_78), .int (iI p7_79)] := (fS125 (x + 22) (off_ne (x := x) (a := 22) (b := 20) (by decide))).trans e139
                have e141 : S128 (x + 22) = oO 3 [.ref ((x + 20) + 2 + 1), .ref ((x + 20) + 2 + 2), .int (iI p1_73), .int (iI p2_74), .int (iI p3_75), .int (iI p4_76), .int (iI p5_77), .int (iI p6_78), .int (iI p7_79)] := (fS128 (x + 22) (off_ne (x := x) (a := 22) (b := 20) (by decide))).trans e140
                have e142 : S116 (x + 23) = oI g 60 h1_80 := (fS116 (x + 23) (off_ne (x := x) (a := 23) (b := 13) (by decide)) (off_ne (x := x) (a := 23) (b := 28) (by decide)) (off_ne (x := x) (a := 23) (b := 29) (by decide)) (off_ne (x := x) (a := 23) (b := 30) (by decide))).trans hS71_2
                have e143 : S123 (x + 23) = oI g 60 h1_80 := (fS123 (x + 23) (off_ne (x := x) (a := 23) (b := 21) (by decide))).trans e142
                have e144 : S125 (x + 23) = oI g 60 h1_80 := (fS125 (x + 23) (off_ne (x := x) (a := 23) (b := 20) (by decide))).trans e143
                have e145 : S128 (x + 23) = oI g 60 h1_80 := (fS128 (x + 23) (off_ne (x := x) (a := 23) (b := 20) (by decide))).trans e144
                have e146 : S116 (x + 24) = oI g 60 e1_81 := (fS116 (x + 24) (off_ne (x := x) (a := 24) (b := 13) (by decide)) (off_ne (x := x) (a := 24) (b := 28) (by decide)) (off_ne (x := x) (a := 24) (b := 29) (by decide)) (off_ne (x := x) (a := 24) (b := 30) (by decide))).trans hS71_3
                have e147 : S123 (x + 24) = oI g 60 e1_81 := (fS123 (x + 24) (off_ne (x := x) (a := 24) (b := 21) (by decide))).trans e146
                have e148 : S125 (x + 24) = oI g 60 e1_81 := (fS125 (x + 24) (off_ne (x := x) (a := 24) (b := 20) (by decide))).trans e147
                have e149 : S128 (x + 24) = oI g 60 e1_81 := (fS128 (x + 24) (off_ne (x := x) (a := 24) (b := 20) (by decide))).trans e148
                have e150 : S71 (x + 25) = oO 3 [.ref (x + 25 + 1), .ref (x + 25 + 2), .int (iI pb1), .int (iI pb2), .int (iI pb3), .int (iI pb4), .int (iI pb5), .int (iI pb6), .int (iI pb7)] := (fS71 (x + 25) (off_ne (x := x) (a := 25) (b := 13) (by decide)) (off_ne (x := x) (a := 25) (b := 22) (by decide)) (off_ne (x := x) (a := 25) (b := 23) (by decide)) (off_ne (x := x) (a := 25) (b := 24) (by decide))).trans hg17
                have e151 : S116 (x + 25) = oO 3 [.ref (x + 25 + 1), .ref (x + 25 + 2), .int (iI pb1), .int (iI pb2), .int (iI pb3), .int (iI pb4), .int (iI pb5), .int (iI pb6), .int (iI pb7)] := (fS116 (x + 25) (off_ne (x := x) (a := 25) (b := 13) (by decide)) (off_ne (x := x) (a := 25) (b := 28) (by decide)) (off_ne (x := x) (a := 25) (b := 29) (by decide)) (off_ne (x := x) (a := 25) (b := 30) (by decide))).trans e150
                have e152 : S123 (x + 25) = oO 3 [.ref (x + 25 + 1), .ref (x + 25 + 2), .int (iI pb1), .int (iI pb2), .int (iI pb3), .int (iI pb4), .int (iI pb5), .int (iI pb6), .int (iI pb7)] := (fS123 (x + 25) (off_ne (x := x) (a := 25) (b := 21) (by decide))).trans e151
                have e153 : S125 (x + 25) = oO 3 [.ref (x + 25 + 1), .ref (x + 25 + 2), .int (iI pb1), .int (iI pb2), .int (iI pb3), .int (iI pb4), .int (iI pb5), .int (iI pb6), .int (iI pb7)] := (fS125 (x + 25) (off_ne (x := x) (a := 25) (b := 20) (by decide))).trans e152
                have e154 : S128 (x + 25) = oO 3 [.ref (x + 25 + 1), .ref (x + 25 + 2), .int (iI pb1), .int (iI pb2), .int (iI pb3), .int (iI pb4), .int (iI pb5), .int (iI pb6), .int (iI pb7)] := (fS128 (x + 25) (off_ne (x := x) (a := 25) (b := 20) (by decide))).trans e153
                have e155 : S71 (x + 26) = oI g 60 pbf := (fS71 (x + 26) (off_ne (x := x) (a := 26) (b := 13) (by decide)) (off_ne (x := x) (a := 26) (b := 22) (by decide)) (off_ne (x := x) (a := 26) (b := 23) (by decide)) (off_ne (x := x) (a := 26) (b := 24) (by decide))).trans hg18
                have e156 : S116 (x + 26) = oI g 60 pbf := (fS116 (x + 26) (off_ne (x := x) (a := 26) (b := 13) (by decide)) (off_ne (x := x) (a := 26) (b := 28) (by decide)) (off_ne (x := x) (a := 26) (b := 29) (by decide)) (off_ne (x := x) (a := 26) (b := 30) (by decide))).trans e155
                have e157 : S123 (x + 26) = oI g 60 pbf := (fS123 (x + 26) (off_ne (x := x) (a := 26) (b := 21) (by decide))).trans e156
                have e158 : S125 (x + 26) = oI g 60 pbf := (fS125 (x + 26) (off_ne (x := x) (a := 26) (b := 20) (by decide))).trans e157
                have e159 : S128 (x + 26) = oI g 60 pbf := (fS128 (x + 26) (off_ne (x := x) (a := 26) (b := 20) (by decide))).trans e158
                have e160 : S71 (x + 27) = oI g 60 pbe := (fS71 (x + 27) (off_ne (x := x) (a := 27) (b := 13) (by decide)) (off_ne (x := x) (a := 27) (b := 22) (by decide)) (off_ne (x := x) (a := 27) (b := 23) (by decide)) (off_ne (x := x) (a := 27) (b := 24) (by decide))).trans hg19
                have e161 : S116 (x + 27) = oI g 60 pbe := (fS116 (x + 27) (off_ne (x := x) (a := 27) (b := 13) (by decide)) (off_ne (x := x) (a := 27) (b := 28) (by decide)) (off_ne (x := x) (a := 27) (b := 29) (by decide)) (off_ne (x := x) (a := 27) (b := 30) (by decide))).trans e160
                have e162 : S123 (x + 27) = oI g 60 pbe := (fS123 (x + 27) (off_ne (x := x) (a := 27) (b := 21) (by decide))).trans e161
                have e163 : S125 (x + 27) = oI g 60 pbe := (fS125 (x + 27) (off_ne (x := x) (a := 27) (b := 20) (by decide))).trans e162
                have e164 : S128 (x + 27) = oI g 60 pbe := (fS128 (x + 27) (off_ne (x := x) (a := 27) (b := 20) (by decide))).trans e163
                have e165 : S123 (x + 13) = oI g 8 r1_117 := (fS123 (x + 13) (off_ne (x := x) (a := 13) (b := 21) (by decide))).trans hS116_0
                have e166 : S125 (x + 13) = oI g 8 r1_117 := (fS125 (x + 13) (off_ne (x := x) (a := 13) (b := 20) (by decide))).trans e165
                have e167 : S128 (x + 13) = oI g 8 r1_117 := (fS128 (x + 13) (off_ne (x := x) (a := 13) (b := 20) (by decide))).trans e166
                exact ih44 (k + 1) (x + 28) xl (xF + xG) ((xl - pLp) / 2) (rmF pWi pHp (xF + xG)) sl (fun h => lvv h + (-1) * cntH sl h) (m1 + 1) (w1 + (wst br xl sl)) S128 _ _ _ (by omega) (⟨by omega, hgd1.2.1.1⟩) (by omega) (fun i => by have h1 := slE_rng hgd1.1 i; have h2 := rmF_le (hp := pHp) (f := xF + xG) rwi (Int.mul_nonneg rhp.1 (by omega)); omega) (fun i hi => by have h1 := hgd1.2.2.2 i (hlvv i hi).1; have h2 := cntH_pos sl i; have h3 := hlvv i hi; omega) (by rw [hgo, show (20 - k).toNat = (20 - (k + 1)).toNat + 1 by omega, goG_step (by omega) (by rw [← exl]; omega) (by rw [← exl]; exact hly), ← exl]; simp only [Prod.mk.injEq, Int.add_assoc]; refine ⟨?_, ?_, trivial⟩ <;> omega) (⟨e131, ⟨_, e134, kS116_0⟩, ⟨_, e137, kS116_1⟩⟩) (⟨_, _, _, _, _, _, _, _, _, e141, e145, e149⟩) (⟨_, _, _, _, _, _, _, _, _, e154, e159, e164⟩) (⟨_, _, _, _, _, _, _, _, _, e131, e134, e137⟩) (⟨_, e167⟩) hS128 (by rw [← adS_cnt sl kS116_0]; exact e130) (fun bb hb0 hb1 hb2 hb3 hb4 hb5 hb6 hb7 hb8 hb9 hb10 hb11 => ((((((fS128 bb hb0)).trans (fS125 bb hb0)).trans (fS123 bb hb1)).trans (fS116 bb hb2 hb9 hb10 hb11)).trans (fS71 bb hb2 hb3 hb4 hb5)).trans (fr44 bb hb0 hb1 hb2 hb3 hb4 hb5 hb6 hb7 hb8 hb9 hb10 hb11)) hw (by omega) (lv_sub hl [1, 0, 4, 5] rfl)
              · exact absurd c120 (by decide)
          · refine lv_aload_n hc.1 hc.2.1 dX0_go_67 rfl (lv_at hl 2 rfl) ?_
            refine nn_get hc hw hc44_0 hiX0 rfl 5 (by decide) rfl lk22 dX0_go_68 ?_
            refine lv_goto hc.1 hc.2.1 dX0_go_71 (tgt := 78) (by decide) ?_
            refine lv_astore (lv' := [(4, .ref (x + 25)), (2, .ref la), (3, .int (iI k)), (0, .ref (x + 20)), (1, .int (iI how))]) hc.1 hc.2.1 dX0_go_78 hl (by decide) rfl (fun ls hl => ?_)
            refine lv_aload_n hc.1 hc.2.1 dX0_go_80 rfl (lv_at hl 3 rfl) ?_
            refine lv_iload_n hc.1 hc.2.1 dX0_go_81 rfl (lv_at hl 4 rfl) ?_
            refine lv_aload_n hc.1 hc.2.1 dX0_go_82 rfl (lv_at hl 3 rfl) ?_
            refine nn_get hc hw hc44_0 hiX0 rfl 3 (by decide) rfl lk9 dX0_go_83 ?_
            refine lv_aload_n hc.1 hc.2.1 dX0_go_86 rfl (lv_at hl 1 rfl) ?_
            have e168 : S1 (x + 12) = oO 4 [.ref (x + 4), .ref (x + 13)] := (fS1 (x + 12) (off_ne (x := x) (a := 12) (b := 21) (by decide))).trans hy
            have e169 : S3 (x + 12) = oO 4 [.ref (x + 4), .ref (x + 13)] := (fS3 (x + 12) (off_ne (x := x) (a := 12) (b := 20) (by decide))).trans e168
            have e170 : S4 (x + 12) = oO 4 [.ref (x + 4), .ref (x + 13)] := (fS4 (x + 12) (off_ne (x := x) (a := 12) (b := 20) (by decide))).trans e169
            have e171 : S11 (x + 12) = oO 4 [.ref (x + 4), .ref (x + 13)] := (fr44 (x + 12) (off_ne (x := x) (a := 12) (b := 20) (by decide)) (off_ne (x := x) (a := 12) (b := 21) (by decide)) (off_ne (x := x) (a := 12) (b := 13) (by decide)) (off_ne (x := x) (a := 12) (b := 22) (by decide)) (off_ne (x := x) (a := 12) (b := 23) (by decide)) (off_ne (x := x) (a := 12) (b := 24) (by decide)) (off_ne (x := x) (a := 12) (b := 25) (by decide)) (off_ne (x := x) (a := 12) (b := 26) (by decide)) (off_ne (x := x) (a := 12) (b := 27) (by decide)) (off_ne (x := x) (a := 12) (b := 28) (by decide)) (off_ne (x := x) (a := 12) (b := 29) (by decide)) (off_ne (x := x) (a := 12) (b := 30) (by decide))).trans e170
            have e172 : S1 ((x + 4) + 1) = oI g 8 ln := (fS1 ((x + 4) + 1) (off_ne (x := x) (a := 5) (b := 21) (by decide))).trans hln
            have e173 : S3 ((x + 4) + 1) = oI g 8 ln := (fS3 ((x + 4) + 1) (off_ne (x := x) (a := 5) (b := 20) (by decide))).trans e172
            have e174 : S4 ((x + 4) + 1) = oI g 8 ln := (fS4 ((x + 4) + 1) (off_ne (x := x) (a := 5) (b := 20) (by decide))).trans e173
            have e175 : S11 ((x + 4) + 1) = oI g 8 ln := (fr44 ((x + 4) + 1) (off_ne (x := x) (a := 5) (b := 20) (by decide)) (off_ne (x := x) (a := 5) (b := 21) (by decide)) (off_ne (x := x) (a := 5) (b := 13) (by decide)) (off_ne (x := x) (a := 5) (b := 22) (by decide)) (off_ne (x := x) (a := 5) (b := 23) (by decide)) (off_ne (x := x) (a := 5) (b := 24) (by decide)) (off_ne (x := x) (a := 5) (b := 25) (by decide)) (off_ne (x := x) (a := 5) (b := 26) (by decide)) (off_ne (x := x) (a := 5) (b := 27) (by decide)) (off_ne (x := x) (a := 5) (b := 28) (by decide)) (off_ne (x := x) (a := 5) (b := 29) (by decide)) (off_ne (x := x) (a := 5) (b := 30) (by decide))).trans e174
            have e176 : S1 ((x + 4) + 2) = oI g 8 br := (fS1 ((x + 4) + 2) (off_ne (x := x) (a := 6) (b := 21) (by decide))).trans hbr
            have e177 : S3 ((x + 4) + 2) = oI g 8 br := (fS3 ((x + 4) + 2) (off_ne (x := x) (a := 6) (b := 20) (by decide))).trans e176
            have e178 : S4 ((x + 4) + 2) = oI g 8 br := (fS4 ((x + 4) + 2) (off_ne (x := x) (a := 6) (b := 20) (by decide))).trans e177
            have e179 : S11 ((x + 4) + 2) = oI g 8 br := (fr44 ((x + 4) + 2) (off_ne (x := x) (a := 6) (b := 20) (by decide)) (off_ne (x := x) (a := 6) (b := 21) (by decide)) (off_ne (x := x) (a := 6) (b := 13) (by decide)) (off_ne (x := x) (a := 6) (b := 22) (by decide)) (off_ne (x := x) (a := 6) (b := 23) (by decide)) (off_ne (x := x) (a := 6) (b := 24) (by decide)) (off_ne (x := x) (a := 6) (b := 25) (by decide)) (off_ne (x := x) (a := 6) (b := 26) (by decide)) (off_ne (x := x) (a := 6) (b := 27) (by decide)) (off_ne (x := x) (a := 6) (b := 28) (by decide)) (off_ne (x := x) (a := 6) (b := 29) (by decide)) (off_ne (x := x) (a := 6) (b := 30) (by decide))).trans e178
            refine nn_Vs (As := [.int (iI how), .ref (x + 21), .ref la]) (st := []) hc hw hc44_0 rfl (c_X0_choose l g (bs := xb) hc44_0 e171 e44 e175 e179 hx23 hg14 hg15 hg16 hx12 hx13 hc44_1 (by omega) (rP) (hlvv) (by omega) (by omega) (by omega) (by omega) (by omega) (by omega) (by omega) (⟨rfl, hxL.2, hx5⟩) (hbe) (by unfold apA; omega)) (cwV 3 hc.2.2.2.2 gX0_go_X0_choose rfl rfl rfl (by decide +kernel) ⟨Nat.le_of_ble_eq_true rfl, Nat.le_of_ble_eq_true rfl⟩) rfl hl.1 rfl (Nat.le_of_ble_eq_true rfl) ⟨Nat.le_of_ble_eq_true rfl, Nat.le_of_ble_eq_true rfl⟩ dX0_go_87 (fun vr n1 S180 H locs qS180 hw => ?_)
            obtain ⟨r1_181, p1_182, p2_183, p3_184, p4_185, p5_186, p6_187, p7_188, h1_189, e1_190, rfl, rfl, hS180_0, hS180_1, hS180_2, hS180_3, fS180⟩ := qS180
            refine W.eq (g2 := F0 m 90 ls [.int (iI (chL nH.toNat ln br pLp pWi pHp pBk how lvv xL (xF + xG) xb))]) rfl ?_
            refine nn_name (fun xl exl => ?_)
            refine lv_istore (lv' := [(5, .int (iI xl)), (4, .ref (x + 25)), (2, .ref la), (3, .int (iI k)), (0, .ref (x + 20)), (1, .int (iI how))]) hc.1 hc.2.1 dX0_go_90 hl (by decide) rfl (fun ls hl => ?_)
            have hok := chL_ok (nH := nH.toNat) (ln := ln) (br := br) (lp := pLp) (wi := pWi) (hp := pHp) (bk := pBk) (how := how) h20 (lv := lvv) (bL := xL) (hd := xF + xG) (bs := xb)
            rw [← exl] at hok
            have hok2 : xl = -4 ∨ (20 ≤ xl ∧ xl ≤ 60) := by rcases hok with z | ⟨z0, z1, z2, z3⟩; exact Or.inl z; exact Or.inr z2
            refine lv_iload hc.1 hc.2.1 dX0_go_92 (lv_at hl 0 rfl) ?_
            refine nn_bipush hc dX0_go_94 (by decide +kernel) ?_
            refine nn_icmp_eq hc dX0_go_96 (tgt := 164) (by decide) (by omega) (by decide) (fun c191 => ?_) (fun c191 => ?_)
            · have hfin : goG nH.toNat ln br pHi pLp pWi pHp pBk how (20 - zR).toNat lvR qL (qF + qG) qs = (m1, w1, xF + xG) := by rw [hgo, goG_none (by rw [← exl]; exact c191)]; simp
              refine lv_aload_n hc.1 hc.2.1 dX0_go_164 rfl (lv_at hl 4 rfl) ?_
              refine lv_aload_n hc.1 hc.2.1 dX0_go_165 rfl (lv_at hl 4 rfl) ?_
              have e192 : S180 (x + 20) = oO 0 [.ref (x + 4), .ref (x + 12), .ref (x + 14), .ref (x + 21), .ref (x + 22), .ref (x + 25), .ref (x + 28), .int (iI m1), .int (iI w1), .int (iI re)] := (fS180 (x + 20) (off_ne (x := x) (a := 20) (b := 13) (by decide)) (off_ne (x := x) (a := 20) (b := 22) (by decide)) (off_ne (x := x) (a := 20) (b := 23) (by decide)) (off_ne (x := x) (a := 20) (b := 24) (by decide))).trans hc44_0
              refine nn_get hc hw e192 hiX0 rfl 0 (by decide) rfl lk28 dX0_go_166 ?_
              refine lv_aload_n hc.1 hc.2.1 dX0_go_169 rfl (lv_at hl 2 rfl) ?_
              have e193 : S180 (x + 4) = oO 5 [.ref (x + 5), .ref (x + 6), .ref (x + 7), .int (iI nH), .int (iI pHi), .int (iI pWi), .int (iI pLp), .int (iI pBk), .int (iI pHp)] := (fS180 (x + 4) (off_ne (x := x) (a := 4) (b := 13) (by decide)) (off_ne (x := x) (a := 4) (b := 22) (by decide)) (off_ne (x := x) (a := 4) (b := 23) (by decide)) (off_ne (x := x) (a := 4) (b := 24) (by decide))).trans e44
              have e194 : S180 la = oO 3 [.ref (la + 1), .ref (la + 2), .int (iI xL), .int (iI xF), .int (iI xG), .int (iI xR), .int (iI (xb.length : Int)), .int (iI (wst br xL xb)), .int (iI (cuts br xb))] := (fS180 la (by omega) (by omega) (by omega) (by omega)).trans hx12
              refine nn_Vp (As := [.ref la]) (st := [.ref (x + 20)]) hc hw e193 rfl (c_X5_isReadyBy l g  e193 e194 (by omega) (by omega)) (cwV 1 hc.2.2.2.2 gX0_go_X5_isReadyBy rfl rfl rfl (by decide +kernel) ⟨Nat.le_of_ble_eq_true rfl, Nat.le_of_ble_eq_true rfl⟩) rfl hl.1 rfl (Nat.le_of_ble_eq_true rfl) ⟨Nat.le_of_ble_eq_true rfl, Nat.le_of_ble_eq_true rfl⟩ dX0_go_170 ?_
              refine W.eq (g2 := F0 m 173 ls [.int (iI (if pHi ≤ xF + xG then 1 else 0)), .ref (x + 20)]) rfl ?_
              refine nn_put hc hw e192 hiX0 tyX0 tyX0_ok nmX0 rfl 9 (by decide) (Nat.le_of_ble_eq_true rfl) lk95 rfl (nn_nb _) (nn_fb _) dX0_go_173 (fun S195 H locs hS195 fS195 hw => ?_)
              have hS195 : S195 (x + 20) = oO 0 [.ref (x + 4), .ref (x + 12), .ref (x + 14), .ref (x + 21), .ref (x + 22), .ref (x + 25), .ref (x + 28), .int (iI m1), .int (iI w1), .int (iI (if pHi ≤ xF + xG then 1 else 0))] := hS195
              have e196 : S195 (x + 22) = oO 3 [.ref ((x + 20) + 2 + 1), .ref ((x + 20) + 2 + 2), .int (iI p1_182), .int (iI p2_183), .int (iI p3_184), .int (iI p4_185), .int (iI p5_186), .int (iI p6_187), .int (iI p7_188)] := (fS195 (x + 22) (off_ne (x := x) (a := 22) (b := 20) (by decide))).trans hS180_1
              have e197 : S195 (x + 23) = oI g 60 h1_189 := (fS195 (x + 23) (off_ne (x := x) (a := 23) (b := 20) (by decide))).trans hS180_2
              have e198 : S195 (x + 24) = oI g 60 e1_190 := (fS195 (x + 24) (off_ne (x := x) (a := 24) (b := 20) (by decide))).trans hS180_3
              have e199 : S180 (x + 25) = oO 3 [.ref (x + 25 + 1), .ref (x + 25 + 2), .int (iI pb1), .int (iI pb2), .int (iI pb3), .int (iI pb4), .int (iI pb5), .int (iI pb6), .int (iI pb7)] := (fS180 (x + 25) (off_ne (x := x) (a := 25) (b := 13) (by decide)) (off_ne (x := x) (a := 25) (b := 22) (by decide)) (off_ne (x := x) (a := 25) (b := 23) (by decide)) (off_ne (x := x) (a := 25) (b := 24) (by decide))).trans hg17
              have e200 : S195 (x + 25) = oO 3 [.ref (x + 25 + 1), .ref (x + 25 + 2), .int (iI pb1), .int (iI pb2), .int (iI pb3), .int (iI pb4), .int (iI pb5), .int (iI pb6), .int (iI pb7)] := (fS195 (x + 25) (off_ne (x := x) (a := 25) (b := 20) (by decide))).trans e199
              have e201 : S180 (x + 26) = oI g 60 pbf := (fS180 (x + 26) (off_ne (x := x) (a := 26) (b := 13) (by decide)) (off_ne (x := x) (a := 26) (b := 22) (by decide)) (off_ne (x := x) (a := 26) (b := 23) (by decide)) (off_ne (x := x) (a := 26) (b := 24) (by decide))).trans hg18
              have e202 : S195 (x + 26) = oI g 60 pbf := (fS195 (x + 26) (off_ne (x := x) (a := 26) (b := 20) (by decide))).trans e201
              have e203 : S180 (x + 27) = oI g 60 pbe := (fS180 (x + 27) (off_ne (x := x) (a := 27) (b := 13) (by decide)) (off_ne (x := x) (a := 27) (b := 22) (by decide)) (off_ne (x := x) (a := 27) (b := 23) (by decide)) (off_ne (x := x) (a := 27) (b := 24) (by decide))).trans hg19
              have e204 : S195 (x + 27) = oI g 60 pbe := (fS195 (x + 27) (off_ne (x := x) (a := 27) (b := 20) (by decide))).trans e203
              have e205 : S180 (x + 28) = oO 3 [.ref (x + 28 + 1), .ref (x + 28 + 2), .int (iI pc1), .int (iI pc2), .int (iI pc3), .int (iI pc4), .int (iI pc5), .int (iI pc6), .int (iI pc7)] := (fS180 (x + 28) (off_ne (x := x) (a := 28) (b := 13) (by decide)) (off_ne (x := x) (a := 28) (b := 22) (by decide)) (off_ne (x := x) (a := 28) (b := 23) (by decide)) (off_ne (x := x) (a := 28) (b := 24) (by decide))).trans hg20
              have e206 : S195 (x + 28) = oO 3 [.ref (x + 28 + 1), .ref (x + 28 + 2), .int (iI pc1), .int (iI pc2), .int (iI pc3), .int (iI pc4), .int (iI pc5), .int (iI pc6), .int (iI pc7)] := (fS195 (x + 28) (off_ne (x := x) (a := 28) (b := 20) (by decide))).trans e205
              have e207 : S180 (x + 29) = oI g 60 pcf := (fS180 (x + 29) (off_ne (x := x) (a := 29) (b := 13) (by decide)) (off_ne (x := x) (a := 29) (b := 22) (by decide)) (off_ne (x := x) (a := 29) (b := 23) (by decide)) (off_ne (x := x) (a := 29) (b := 24) (by decide))).trans hg21
              have e208 : S195 (x + 29) = oI g 60 pcf := (fS195 (x + 29) (off_ne (x := x) (a := 29) (b := 20) (by decide))).trans e207
              have e209 : S180 (x + 30) = oI g 60 pce := (fS180 (x + 30) (off_ne (x := x) (a := 30) (b := 13) (by decide)) (off_ne (x := x) (a := 30) (b := 22) (by decide)) (off_ne (x := x) (a := 30) (b := 23) (by decide)) (off_ne (x := x) (a := 30) (b := 24) (by decide))).trans hg22
              have e210 : S195 (x + 30) = oI g 60 pce := (fS195 (x + 30) (off_ne (x := x) (a := 30) (b := 20) (by decide))).trans e209
              have e211 : S195 (x + 13) = oI g 8 r1_181 := (fS195 (x + 13) (off_ne (x := x) (a := 13) (b := 20) (by decide))).trans hS180_0
              have e212 : S180 (x + 21) = oI g 8 lvv := (fS180 (x + 21) (off_ne (x := x) (a := 21) (b := 13) (by decide)) (off_ne (x := x) (a := 21) (b := 22) (by decide)) (off_ne (x := x) (a := 21) (b := 23) (by decide)) (off_ne (x := x) (a := 21) (b := 24) (by decide))).trans hc44_1
              have e213 : S195 (x + 21) = oI g 8 lvv := (fS195 (x + 21) (off_ne (x := x) (a := 21) (b := 20) (by decide))).trans e212
              exact hret none _ S195 _ _ _ _ hw (⟨rfl, rfl, (by rw [hfin]; exact hS195), ⟨_, _, _, _, _, _, _, _, _, e196, e197, e198⟩, ⟨_, _, _, _, _, _, _, _, _, e200, e202, e204⟩, ⟨_, _, _, _, _, _, _, _, _, e206, e208, e210⟩, ⟨_, e211⟩, ⟨_, e213⟩, fun bb hb0 hb1 hb2 hb3 hb4 hb5 hb6 hb7 hb8 hb9 hb10 hb11 => ((((((fS195 bb hb0)).trans (fS180 bb hb2 hb3 hb4 hb5)).trans (fr44 bb hb0 hb1 hb2 hb3 hb4 hb5 hb6 hb7 hb8 hb9 hb10 hb11)).trans (fS4 bb hb0)).trans (fS3 bb hb0)).trans (fS1 bb hb1)⟩) ⟨rfl, dX0_go_176⟩
            · obtain ⟨sl, hly, hl20, hlL⟩ : ∃ sl : sL, layC nH.toNat ln br pWi pHp pBk xl lvv (xF + xG) xb = some sl ∧ (20 ≤ xl ∧ xl ≤ 60) ∧ xl ≤ xL := by rcases hok with z | z; omega; exact z
              have hgd1 := layC_good hbr1 hly
              have hLC : ∀ L : Int, layG nH.toNat ln br L (rmF pWi pHp (xF + xG)) hxe pBk ((xb.length : Int) - 1).toNat 60 lvv 0 = layC nH.toNat ln br pWi pHp pBk L lvv (xF + xG) xb := fun L => by unfold layC; rw [show ((xb.length : Int) - 1).toNat = xb.length - 1 by omega]; exact layG_ed (fun i hi => hx5 i (by omega)) 60 lvv 0
              have hm0 : 0 ≤ pHp * (xF + xG) := Int.mul_nonneg rhp.1 (by omega)
              have hm1 : pHp * (xF + xG) ≤ 9 * 1000 := Int.mul_le_mul rhp.2 (by omega) (by omega) (by decide)
              refine lv_aload_n hc.1 hc.2.1 dX0_go_99 rfl (lv_at hl 4 rfl) ?_
              have e214 : S180 (x + 20) = oO 0 [.ref (x + 4), .ref (x + 12), .ref (x + 14), .ref (x + 21), .ref (x + 22), .ref (x + 25), .ref (x + 28), .int (iI m1), .int (iI w1), .int (iI re)] := (fS180 (x + 20) (off_ne (x := x) (a := 20) (b := 13) (by decide)) (off_ne (x := x) (a := 20) (b := 22) (by decide)) (off_ne (x := x) (a := 20) (b := 23) (by decide)) (off_ne (x := x) (a := 20) (b := 24) (by decide))).trans hc44_0
              refine nn_get hc hw e214 hiX0 rfl 1 (by decide) rfl lk32 dX0_go_100 ?_
              refine lv_aload hc.1 hc.2.1 dX0_go_103 (lv_at hl 1 rfl) ?_
              refine lv_iload hc.1 hc.2.1 dX0_go_105 (lv_at hl 0 rfl) ?_
              refine lv_aload_n hc.1 hc.2.1 dX0_go_107 rfl (lv_at hl 4 rfl) ?_
              refine nn_get hc hw e214 hiX0 rfl 3 (by decide) rfl lk9 dX0_go_108 ?_
              refine lv_aload_n hc.1 hc.2.1 dX0_go_111 rfl (lv_at hl 2 rfl) ?_
              have e215 : S180 (x + 12) = oO 4 [.ref (x + 4), .ref (x + 13)] := (fS180 (x + 12) (off_ne (x := x) (a := 12) (b := 13) (by decide)) (off_ne (x := x) (a := 12) (b := 22) (by decide)) (off_ne (x := x) (a := 12) (b := 23) (by decide)) (off_ne (x := x) (a := 12) (b := 24) (by decide))).trans e171
              have e216 : S180 (x + 4) = oO 5 [.ref (x + 5), .ref (x + 6), .ref (x + 7), .int (iI nH), .int (iI pHi), .int (iI pWi), .int (iI pLp), .int (iI pBk), .int (iI pHp)] := (fS180 (x + 4) (off_ne (x := x) (a := 4) (b := 13) (by decide)) (off_ne (x := x) (a := 4) (b := 22) (by decide)) (off_ne (x := x) (a := 4) (b := 23) (by decide)) (off_ne (x := x) (a := 4) (b := 24) (by decide))).trans e44
              have e217 : S180 ((x + 4) + 1) = oI g 8 ln := (fS180 ((x + 4) + 1) (off_ne (x := x) (a := 5) (b := 13) (by decide)) (off_ne (x := x) (a := 5) (b := 22) (by decide)) (off_ne (x := x) (a := 5) (b := 23) (by decide)) (off_ne (x := x) (a := 5) (b := 24) (by decide))).trans e175
              have e218 : S180 ((x + 4) + 2) = oI g 8 br := (fS180 ((x + 4) + 2) (off_ne (x := x) (a := 6) (b := 13) (by decide)) (off_ne (x := x) (a := 6) (b := 22) (by decide)) (off_ne (x := x) (a := 6) (b := 23) (by decide)) (off_ne (x := x) (a := 6) (b := 24) (by decide))).trans e179
              have e219 : S180 (x + 25) = oO 3 [.ref (x + 25 + 1), .ref (x + 25 + 2), .int (iI pb1), .int (iI pb2), .int (iI pb3), .int (iI pb4), .int (iI pb5), .int (iI pb6), .int (iI pb7)] := (fS180 (x + 25) (off_ne (x := x) (a := 25) (b := 13) (by decide)) (off_ne (x := x) (a := 25) (b := 22) (by decide)) (off_ne (x := x) (a := 25) (b := 23) (by decide)) (off_ne (x := x) (a := 25) (b := 24) (by decide))).trans hg17
              have e220 : S180 ((x + 25) + 1) = oI g 60 pbf := (fS180 ((x + 25) + 1) (off_ne (x := x) (a := 26) (b := 13) (by decide)) (off_ne (x := x) (a := 26) (b := 22) (by decide)) (off_ne (x := x) (a := 26) (b := 23) (by decide)) (off_ne (x := x) (a := 26) (b := 24) (by decide))).trans hg18
              have e221 : S180 ((x + 25) + 2) = oI g 60 pbe := (fS180 ((x + 25) + 2) (off_ne (x := x) (a := 27) (b := 13) (by decide)) (off_ne (x := x) (a := 27) (b := 22) (by decide)) (off_ne (x := x) (a := 27) (b := 23) (by decide)) (off_ne (x := x) (a := 27) (b := 24) (by decide))).trans hg19
              have e222 : S180 la = oO 3 [.ref (la + 1), .ref (la + 2), .int (iI xL), .int (iI xF), .int (iI xG), .int (iI xR), .int (iI (xb.length : Int)), .int (iI (wst br xL xb)), .int (iI (cuts br xb))] := (fS180 la (by omega) (by omega) (by omega) (by omega)).trans hx12
              have e223 : S180 (la + 2) = oI g 60 hxe := (fS180 (la + 2) (by omega) (by omega) (by omega) (by omega)).trans hx13
              have e224 : S180 (x + 21) = oI g 8 lvv := (fS180 (x + 21) (off_ne (x := x) (a := 21) (b := 13) (by decide)) (off_ne (x := x) (a := 21) (b := 22) (by decide)) (off_ne (x := x) (a := 21) (b := 23) (by decide)) (off_ne (x := x) (a := 21) (b := 24) (by decide))).trans hc44_1
              refine nn_Vs (As := [.ref (x + 25), .int (iI xl), .ref (x + 21), .ref la]) (st := []) hc hw e215 rfl (c_X4_fill_yes l g  e215 e216 e217 e218 hS180_0 e219 e220 e221 e222 e223 e224 (by omega) (rP) (hlvv) (by omega) (fun k hk => by rw [hx5 k (by omega)]; exact hbe k) (by omega) (by omega) (by omega) (by omega) (by omega) (by omega) (by omega) (by omega) ((hLC _).trans hly)) (cwV 4 hc.2.2.2.2 gX0_go_X4_fill rfl rfl rfl (by decide +kernel) ⟨Nat.le_of_ble_eq_true rfl, Nat.le_of_ble_eq_true rfl⟩) rfl hl.1 rfl (Nat.le_of_ble_eq_true rfl) ⟨Nat.le_of_ble_eq_true rfl, Nat.le_of_ble_eq_true rfl⟩ dX0_go_112 (fun vr n1 S225 H locs qS225 hw => ?_)
              obtain ⟨r1_226, h1_227, e1_228, rfl, rfl, hS225_0, hS225_1, hS225_2, hS225_3, kS225_0, kS225_1, fS225⟩ := qS225
              refine W.eq (g2 := F0 m 115 ls [.int (iI 1)]) rfl ?_
              refine nn_if_ne hc dX0_go_115 (tgt := 121) (by decide) (by decide) (fun c229 => ?_) (fun c229 => ?_)
              · refine lv_aload_n hc.1 hc.2.1 dX0_go_121 rfl (lv_at hl 4 rfl) ?_
                have e230 : S225 (x + 20) = oO 0 [.ref (x + 4), .ref (x + 12), .ref (x + 14), .ref (x + 21), .ref (x + 22), .ref (x + 25), .ref (x + 28), .int (iI m1), .int (iI w1), .int (iI re)] := (fS225 (x + 20) (off_ne (x := x) (a := 20) (b := 13) (by decide)) (off_ne (x := x) (a := 20) (b := 25) (by decide)) (off_ne (x := x) (a := 20) (b := 26) (by decide)) (off_ne (x := x) (a := 20) (b := 27) (by decide))).trans e214
                refine nn_get hc hw e230 hiX0 rfl 3 (by decide) rfl lk9 dX0_go_122 ?_
                refine lv_aload hc.1 hc.2.1 dX0_go_125 (lv_at hl 1 rfl) ?_
                refine nn_iconst hc dX0_go_127 ?_
                have e231 : S225 (x + 21) = oI g 8 lvv := (fS225 (x + 21) (off_ne (x := x) (a := 21) (b := 13) (by decide)) (off_ne (x := x) (a := 21) (b := 25) (by decide)) (off_ne (x := x) (a := 21) (b := 26) (by decide)) (off_ne (x := x) (a := 21) (b := 27) (by decide))).trans e224
                refine nn_Ss (As := [.ref (x + 21), .ref (x + 25), .int (iI (-1))]) (st := []) hc hw (c_X6_addSlates l g  e231 hS225_1 hS225_2 (by omega) (fun k hk => by have h1 := kS225_0 k (by omega); have h2 := slH_ok hgd1.1 (i := k) (by omega); omega) (by omega)) (va_cwS 3 hc.2.2.2.2 gX0_go_X6_addSlates rfl rfl rfl (by decide +kernel) ⟨Nat.le_of_ble_eq_true rfl, Nat.le_of_ble_eq_true rfl⟩) rfl hl.1 rfl (Nat.le_of_ble_eq_true rfl) ⟨Nat.le_of_ble_eq_true rfl, Nat.le_of_ble_eq_true rfl⟩ dX0_go_128 (fun vr n1 S232 H locs qS232 hw => ?_)
                obtain ⟨rfl, rfl, hS232_0, fS232⟩ := qS232
                refine W.eq (g2 := F0 m 131 ls []) rfl ?_
                refine lv_aload_n hc.1 hc.2.1 dX0_go_131 rfl (lv_at hl 4 rfl) ?_
                refine lv_dup hc.1 hc.2.1 dX0_go_132 rfl ?_
                have e233 : S232 (x + 20) = oO 0 [.ref (x + 4), .ref (x + 12), .ref (x + 14), .ref (x + 21), .ref (x + 22), .ref (x + 25), .ref (x + 28), .int (iI m1), .int (iI w1), .int (iI re)] := (fS232 (x + 20) (off_ne (x := x) (a := 20) (b := 21) (by decide))).trans e230
                refine nn_get hc hw e233 hiX0 rfl 7 (by decide) rfl lk72 dX0_go_133 ?_
                refine nn_iconst hc dX0_go_136 ?_
                refine nn_iadd hc dX0_go_137 ?_
                refine nn_put hc hw e233 hiX0 tyX0 tyX0_ok nmX0 rfl 7 (by decide) (Nat.le_of_ble_eq_true rfl) lk72 rfl rfl rfl dX0_go_138 (fun S234 H locs hS234 fS234 hw => ?_)
                have hS234 : S234 (x + 20) = oO 0 [.ref (x + 4), .ref (x + 12), .ref (x + 14), .ref (x + 21), .ref (x + 22), .ref (x + 25), .ref (x + 28), .int (iI (m1 + 1)), .int (iI w1), .int (iI re)] := hS234
                refine lv_aload_n hc.1 hc.2.1 dX0_go_141 rfl (lv_at hl 4 rfl) ?_
                refine lv_dup hc.1 hc.2.1 dX0_go_142 rfl ?_
                refine nn_get hc hw hS234 hiX0 rfl 8 (by decide) rfl lk75 dX0_go_143 ?_
                refine lv_aload hc.1 hc.2.1 dX0_go_146 (lv_at hl 1 rfl) ?_
                have e235 : S232 (x + 25) = oO 3 [.ref ((x + 25) + 1), .ref ((x + 25) + 2), .int (iI xl), .int (iI (xF + xG)), .int (iI ((xl - pLp) / 2)), .int (iI (rmF pWi pHp (xF + xG))), .int (iI (sl.length : Int)), .int (iI (wst br xl sl)), .int (iI (cuts br sl))] := (fS232 (x + 25) (off_ne (x := x) (a := 25) (b := 21) (by decide))).trans hS225_1
                have e236 : S234 (x + 25) = oO 3 [.ref ((x + 25) + 1), .ref ((x + 25) + 2), .int (iI xl), .int (iI (xF + xG)), .int (iI ((xl - pLp) / 2)), .int (iI (rmF pWi pHp (xF + xG))), .int (iI (sl.length : Int)), .int (iI (wst br xl sl)), .int (iI (cuts br sl))] := (fS234 (x + 25) (off_ne (x := x) (a := 25) (b := 20) (by decide))).trans e235
                refine nn_get hc hw e236 hiX3 rfl 7 (by decide) rfl lk57 dX0_go_148 ?_
                refine nn_iadd hc dX0_go_151 ?_
                refine nn_put hc hw hS234 hiX0 tyX0 tyX0_ok nmX0 rfl 8 (by decide) (Nat.le_of_ble_eq_true rfl) lk75 rfl rfl rfl dX0_go_152 (fun S237 H locs hS237 fS237 hw => ?_)
                have hS237 : S237 (x + 20) = oO 0 [.ref (x + 4), .ref (x + 12), .ref (x + 14), .ref (x + 21), .ref (x + 22), .ref (x + 25), .ref (x + 28), .int (iI (m1 + 1)), .int (iI (w1 + (wst br xl sl))), .int (iI re)] := hS237
                refine lv_aload hc.1 hc.2.1 dX0_go_155 (lv_at hl 1 rfl) ?_
                refine lv_astore_n (lv' := [(2, .ref (x + 25)), (5, .int (iI xl)), (4, .ref (x + 25)), (3, .int (iI k)), (0, .ref (x + 20)), (1, .int (iI how))]) hc.1 hc.2.1 dX0_go_157 rfl hl (by decide) rfl (fun ls hl => ?_)
                refine nn_iinc (lv' := [(3, .int (iI (k + 1))), (2, .ref (x + 25)), (5, .int (iI xl)), (4, .ref (x + 25)), (0, .ref (x + 20)), (1, .int (iI how))]) hc dX0_go_158 hl (k0 := 3) rfl (by decide) rfl (fun ls hl => ?_)
                refine lv_goto hc.1 hc.2.1 dX0_go_161 (tgt := 44) (by decide) ?_
                have e238 : S234 (x + 21) = oI g 8 (adS lvv h1_227 (-1) (sl.length : Int).toNat) := (fS234 (x + 21) (off_ne (x := x) (a := 21) (b := 20) (by decide))).trans hS232_0
                have e239 : S237 (x + 21) = oI g 8 (adS lvv h1_227 (-1) (sl.length : Int).toNat) := (fS237 (x + 21) (off_ne (x := x) (a := 21) (b := 20) (by decide))).trans e238
                have e240 : S237 (x + 25) = oO 3 [.ref ((x + 25) + 1), .ref ((x + 25) + 2), .int (iI xl), .int (iI (xF + xG)), .int (iI ((xl - pLp) / 2)), .int (iI (rmF pWi pHp (xF + xG))), .int (iI (sl.length : Int)), .int (iI (wst br xl sl)), .int (iI (cuts br sl))] := (fS237 (x + 25) (off_ne (x := x) (a := 25) (b := 20) (by decide))).trans e236
                have e241 : S232 (x + 26) = oI g 60 h1_227 := (fS232 (x + 26) (off_ne (x := x) (a := 26) (b := 21) (by decide))).trans hS225_2
                have e242 : S234 (x + 26) = oI g 60 h1_227 := (fS234 (x + 26) (off_ne (x := x) (a := 26) (b := 20) (by decide))).trans e241
                have e243 : S237 (x + 26) = oI g 60 h1_227 := (fS237 (x + 26) (off_ne (x := x) (a := 26) (b := 20) (by decide))).trans e242
                have e244 : S232 (x + 27) = oI g 60 e1_228 := (fS232 (x + 27) (off_ne (x := x) (a := 27) (b := 21) (by decide))).trans hS225_3
                have e245 : S234 (x + 27) = oI g 60 e1_228 := (fS234 (x + 27) (off_ne (x := x) (a := 27) (b := 20) (by decide))).trans e244
                have e246 : S237 (x + 27) = oI g 60 e1_228 := (fS237 (x + 27) (off_ne (x := x) (a := 27) (b := 20) (by decide))).trans e245
                have e247 : S225 (x + 22) = oO 3 [.ref ((x + 20) + 2 + 1), .ref ((x + 20) + 2 + 2), .int (iI p1_182), .int (iI p2_183), .int (iI p3_184), .int (iI p4_185), .int (iI p5_186), .int (iI p6_187), .int (iI p7_188)] := (fS225 (x + 22) (off_ne (x := x) (a := 22) (b := 13) (by decide)) (off_ne (x := x) (a := 22) (b := 25) (by decide)) (off_ne (x := x) (a := 22) (b := 26) (by decide)) (off_ne (x := x) (a := 22) (b := 27) (by decide))).trans hS180_1
                have e248 : S232 (x + 22) = oO 3 [.ref ((x + 20) + 2 + 1), .ref ((x + 20) + 2 + 2), .int (iI p1_182), .int (iI p2_183), .int (iI p3_184), .int (iI p4_185), .int (iI p5_186), .int (iI p6_187), .int (iI p7_188)] := (fS232 (x + 22) (off_ne (x := x) (a := 22) (b := 21) (by decide))).trans e247
                have e249 : S234 (x + 22) = oO 3 [.ref ((x + 20) + 2 + 1), .ref ((x + 20) + 2 + 2), .int (iI p1_182), .int (iI p2_183), .int (iI p3_184), .int (iI p4_185), .int (iI p5_186), .int (iI p6_187), .int (iI p7_188)] := (fS234 (x + 22) (off_ne (x := x) (a := 22) (b := 20) (by decide))).trans e248
                have e250 : S237 (x + 22) = oO 3 [.ref ((x + 20) + 2 + 1), .ref ((x + 20) + 2 + 2), .int (iI p1_182), .int (iI p2_183), .int (iI p3_184), .int (iI p4_185), .int (iI p5_186), .int (iI p6_187), .int (iI p7_188)] := (fS237 (x + 22) (off_ne (x := x) (a := 22) (b := 20) (by decide))).trans e249
                have e251 : S225 (x + 23) = oI g 60 h1_189 := (fS225 (x + 23) (off_ne (x := x) (a := 23) (b := 13) (by decide)) (off_ne (x := x) (a := 23) (b := 25) (by decide)) (off_ne (x := x) (a := 23) (b := 26) (by decide)) (off_ne (x := x) (a := 23) (b := 27) (by decide))).trans hS180_2
                have e252 : S232 (x + 23) = oI g 60 h1_189 := (fS232 (x + 23) (off_ne (x := x) (a := 23) (b := 21) (by decide))).trans e251
                have e253 : S234 (x + 23) = oI g 60 h1_189 := (fS234 (x + 23) (off_ne (x := x) (a := 23) (b := 20) (by decide))).trans e252
                have e254 : S237 (x + 23) = oI g 60 h1_189 := (fS237 (x + 23) (off_ne (x := x) (a := 23) (b := 20) (by decide))).trans e253
                have e255 : S225 (x + 24) = oI g 60 e1_190 := (fS225 (x + 24) (off_ne (x := x) (a := 24) (b := 13) (by decide)) (off_ne (x := x) (a := 24) (b := 25) (by decide)) (off_ne (x := x) (a := 24) (b := 26) (by decide)) (off_ne (x := x) (a := 24) (b := 27) (by decide))).trans hS180_3
                have e256 : S232 (x + 24) = oI g 60 e1_190 := (fS232 (x + 24) (off_ne (x := x) (a := 24) (b := 21) (by decide))).trans e255
                have e257 : S234 (x + 24) = oI g 60 e1_190 := (fS234 (x + 24) (off_ne (x := x) (a := 24) (b := 20) (by decide))).trans e256
                have e258 : S237 (x + 24) = oI g 60 e1_190 := (fS237 (x + 24) (off_ne (x := x) (a := 24) (b := 20) (by decide))).trans e257
                have e259 : S180 (x + 28) = oO 3 [.ref (x + 28 + 1), .ref (x + 28 + 2), .int (iI pc1), .int (iI pc2), .int (iI pc3), .int (iI pc4), .int (iI pc5), .int (iI pc6), .int (iI pc7)] := (fS180 (x + 28) (off_ne (x := x) (a := 28) (b := 13) (by decide)) (off_ne (x := x) (a := 28) (b := 22) (by decide)) (off_ne (x := x) (a := 28) (b := 23) (by decide)) (off_ne (x := x) (a := 28) (b := 24) (by decide))).trans hg20
                have e260 : S225 (x + 28) = oO 3 [.ref (x + 28 + 1), .ref (x + 28 + 2), .int (iI pc1), .int (iI pc2), .int (iI pc3), .int (iI pc4), .int (iI pc5), .int (iI pc6), .int (iI pc7)] := (fS225 (x + 28) (off_ne (x := x) (a := 28) (b := 13) (by decide)) (off_ne (x := x) (a := 28) (b := 25) (by decide)) (off_ne (x := x) (a := 28) (b := 26) (by decide)) (off_ne (x := x) (a := 28) (b := 27) (by decide))).trans e259
                have e261 : S232 (x + 28) = oO 3 [.ref (x + 28 + 1), .ref (x + 28 + 2), .int (iI pc1), .int (iI pc2), .int (iI pc3), .int (iI pc4), .int (iI pc5), .int (iI pc6), .int (iI pc7)] := (fS232 (x + 28) (off_ne (x := x) (a := 28) (b := 21) (by decide))).trans e260
                have e262 : S234 (x + 28) = oO 3 [.ref (x + 28 + 1), .ref (x + 28 + 2), .int (iI pc1), .int (iI pc2), .int (iI pc3), .int (iI pc4), .int (iI pc5), .int (iI pc6), .int (iI pc7)] := (fS234 (x + 28) (off_ne (x := x) (a := 28) (b := 20) (by decide))).trans e261
                have e263 : S237 (x + 28) = oO 3 [.ref (x + 28 + 1), .ref (x + 28 + 2), .int (iI pc1), .int (iI pc2), .int (iI pc3), .int (iI pc4), .int (iI pc5), .int (iI pc6), .int (iI pc7)] := (fS237 (x + 28) (off_ne (x := x) (a := 28) (b := 20) (by decide))).trans e262
                have e264 : S180 (x + 29) = oI g 60 pcf := (fS180 (x + 29) (off_ne (x := x) (a := 29) (b := 13) (by decide)) (off_ne (x := x) (a := 29) (b := 22) (by decide)) (off_ne (x := x) (a := 29) (b := 23) (by decide)) (off_ne (x := x) (a := 29) (b := 24) (by decide))).trans hg21
                have e265 : S225 (x + 29) = oI g 60 pcf := (fS225 (x + 29) (off_ne (x := x) (a := 29) (b := 13) (by decide)) (off_ne (x := x) (a := 29) (b := 25) (by decide)) (off_ne (x := x) (a := 29) (b := 26) (by decide)) (off_ne (x := x) (a := 29) (b := 27) (by decide))).trans e264
                have e266 : S232 (x + 29) = oI g 60 pcf := (fS232 (x + 29) (off_ne (x := x) (a := 29) (b := 21) (by decide))).trans e265
                have e267 : S234 (x + 29) = oI g 60 pcf := (fS234 (x + 29) (off_ne (x := x) (a := 29) (b := 20) (by decide))).trans e266
                have e268 : S237 (x + 29) = oI g 60 pcf := (fS237 (x + 29) (off_ne (x := x) (a := 29) (b := 20) (by decide))).trans e267
                have e269 : S180 (x + 30) = oI g 60 pce := (fS180 (x + 30) (off_ne (x := x) (a := 30) (b := 13) (by decide)) (off_ne (x := x) (a := 30) (b := 22) (by decide)) (off_ne (x := x) (a := 30) (b := 23) (by decide)) (off_ne (x := x) (a := 30) (b := 24) (by decide))).trans hg22
                have e270 : S225 (x + 30) = oI g 60 pce := (fS225 (x + 30) (off_ne (x := x) (a := 30) (b := 13) (by decide)) (off_ne (x := x) (a := 30) (b := 25) (by decide)) (off_ne (x := x) (a := 30) (b := 26) (by decide)) (off_ne (x := x) (a := 30) (b := 27) (by decide))).trans e269
                have e271 : S232 (x + 30) = oI g 60 pce := (fS232 (x + 30) (off_ne (x := x) (a := 30) (b := 21) (by decide))).trans e270
                have e272 : S234 (x + 30) = oI g 60 pce := (fS234 (x + 30) (off_ne (x := x) (a := 30) (b := 20) (by decide))).trans e271
                have e273 : S237 (x + 30) = oI g 60 pce := (fS237 (x + 30) (off_ne (x := x) (a := 30) (b := 20) (by decide))).trans e272
                have e274 : S232 (x + 13) = oI g 8 r1_226 := (fS232 (x + 13) (off_ne (x := x) (a := 13) (b := 21) (by decide))).trans hS225_0
                have e275 : S234 (x + 13) = oI g 8 r1_226 := (fS234 (x + 13) (off_ne (x := x) (a := 13) (b := 20) (by decide))).trans e274
                have e276 : S237 (x + 13) = oI g 8 r1_226 := (fS237 (x + 13) (off_ne (x := x) (a := 13) (b := 20) (by decide))).trans e275
                exact ih44 (k + 1) (x + 25) xl (xF + xG) ((xl - pLp) / 2) (rmF pWi pHp (xF + xG)) sl (fun h => lvv h + (-1) * cntH sl h) (m1 + 1) (w1 + (wst br xl sl)) S237 _ _ _ (by omega) (⟨by omega, hgd1.2.1.1⟩) (by omega) (fun i => by have h1 := slE_rng hgd1.1 i; have h2 := rmF_le (hp := pHp) (f := xF + xG) rwi (Int.mul_nonneg rhp.1 (by omega)); omega) (fun i hi => by have h1 := hgd1.2.2.2 i (hlvv i hi).1; have h2 := cntH_pos sl i; have h3 := hlvv i hi; omega) (by rw [hgo, show (20 - k).toNat = (20 - (k + 1)).toNat + 1 by omega, goG_step (by omega) (by rw [← exl]; omega) (by rw [← exl]; exact hly), ← exl]; simp only [Prod.mk.injEq, Int.add_assoc]; refine ⟨?_, ?_, trivial⟩ <;> omega) (⟨e240, ⟨_, e243, kS225_0⟩, ⟨_, e246, kS225_1⟩⟩) (⟨_, _, _, _, _, _, _, _, _, e250, e254, e258⟩) (⟨_, _, _, _, _, _, _, _, _, e240, e243, e246⟩) (⟨_, _, _, _, _, _, _, _, _, e263, e268, e273⟩) (⟨_, e276⟩) hS237 (by rw [← adS_cnt sl kS225_0]; exact e239) (fun bb hb0 hb1 hb2 hb3 hb4 hb5 hb6 hb7 hb8 hb9 hb10 hb11 => ((((((fS237 bb hb0)).trans (fS234 bb hb0)).trans (fS232 bb hb1)).trans (fS225 bb hb2 hb6 hb7 hb8)).trans (fS180 bb hb2 hb3 hb4 hb5)).trans (fr44 bb hb0 hb1 hb2 hb3 hb4 hb5 hb6 hb7 hb8 hb9 hb10 hb11)) hw (by omega) (lv_sub hl [1, 0, 4, 5] rfl)
              · exact absurd c229 (by decide)
  have e277 : S3 (x + 21) = oI g 8 (va_cpy lvR ul 0 0 8) := (fS3 (x + 21) (off_ne (x := x) (a := 21) (b := 20) (by decide))).trans hS1
  have e278 : S4 (x + 21) = oI g 8 (va_cpy lvR ul 0 0 8) := (fS4 (x + 21) (off_ne (x := x) (a := 21) (b := 20) (by decide))).trans e277
  exact lab44 _ zR q qL qF qG qR qs (va_cpy lvR ul 0 0 8) 0 0 S4 _ _ _ (by omega) (by omega) (by omega) (hqe) (fun i hi => by rw [cpy8 (by omega)]; exact rVR i hi) (by rw [goG_congr (20 - zR).toNat (va_cpy lvR ul 0 0 8) lvR qL (qF + qG) qs (fun i hi => cpy8 (by omega))]; simp) (hqc.kept ((((fS4 q (by omega))).trans (fS3 q (by omega))).trans (fS1 q (by omega))) ((((fS4 (q + 1) (by omega))).trans (fS3 (q + 1) (by omega))).trans (fS1 (q + 1) (by omega))) ((((fS4 (q + 2) (by omega))).trans (fS3 (q + 2) (by omega))).trans (fS1 (q + 2) (by omega)))) (hp0.kept ((((fS4 (x + 22) (off_ne (x := x) (a := 22) (b := 20) (by decide)))).trans (fS3 (x + 22) (off_ne (x := x) (a := 22) (b := 20) (by decide)))).trans (fS1 (x + 22) (off_ne (x := x) (a := 22) (b := 21) (by decide)))) ((((fS4 (x + 23) (off_ne (x := x) (a := 23) (b := 20) (by decide)))).trans (fS3 (x + 23) (off_ne (x := x) (a := 23) (b := 20) (by decide)))).trans (fS1 (x + 23) (off_ne (x := x) (a := 23) (b := 21) (by decide)))) ((((fS4 (x + 24) (off_ne (x := x) (a := 24) (b := 20) (by decide)))).trans (fS3 (x + 24) (off_ne (x := x) (a := 24) (b := 20) (by decide)))).trans (fS1 (x + 24) (off_ne (x := x) (a := 24) (b := 21) (by decide))))) (he0.kept ((((fS4 (x + 25) (off_ne (x := x) (a := 25) (b := 20) (by decide)))).trans (fS3 (x + 25) (off_ne (x := x) (a := 25) (b := 20) (by decide)))).trans (fS1 (x + 25) (off_ne (x := x) (a := 25) (b := 21) (by decide)))) ((((fS4 (x + 26) (off_ne (x := x) (a := 26) (b := 20) (by decide)))).trans (fS3 (x + 26) (off_ne (x := x) (a := 26) (b := 20) (by decide)))).trans (fS1 (x + 26) (off_ne (x := x) (a := 26) (b := 21) (by decide)))) ((((fS4 (x + 27) (off_ne (x := x) (a := 27) (b := 20) (by decide)))).trans (fS3 (x + 27) (off_ne (x := x) (a := 27) (b := 20) (by decide)))).trans (fS1 (x + 27) (off_ne (x := x) (a := 27) (b := 21) (by decide))))) (hd0.kept ((((fS4 (x + 28) (off_ne (x := x) (a := 28) (b := 20) (by decide)))).trans (fS3 (x + 28) (off_ne (x := x) (a := 28) (b := 20) (by decide)))).trans (fS1 (x + 28) (off_ne (x := x) (a := 28) (b := 21) (by decide)))) ((((fS4 (x + 29) (off_ne (x := x) (a := 29) (b := 20) (by decide)))).trans (fS3 (x + 29) (off_ne (x := x) (a := 29) (b := 20) (by decide)))).trans (fS1 (x + 29) (off_ne (x := x) (a := 29) (b := 21) (by decide)))) ((((fS4 (x + 30) (off_ne (x := x) (a := 30) (b := 20) (by decide)))).trans (fS3 (x + 30) (off_ne (x := x) (a := 30) (b := 20) (by decide)))).trans (fS1 (x + 30) (off_ne (x := x) (a := 30) (b := 21) (by decide))))) (by obtain ⟨f, hf⟩ := hr0; exact ⟨f, ((((fS4 (x + 13) (off_ne (x := x) (a := 13) (b := 20) (by decide)))).trans (fS3 (x + 13) (off_ne (x := x) (a := 13) (b := 20) (by decide)))).trans (fS1 (x + 13) (off_ne (x := x) (a := 13) (b := 21) (by decide)))).trans hf⟩) hS4 e278 (fun bb _ _ _ _ _ _ _ _ _ _ _ _ => rfl) hw (Nat.lt_succ_self _) (lv_sub hl [1, 0, 2, 3] rfl)

