set_option maxHeartbeats 4000000 in
set_option maxRecDepth 100000 in
theorem c_X9_findJoints_neg (l : Launch) (g : gG) {n : Nat} {S : Nat → gE} {z : Nat} {mLen mAt mHC mRC mHS mJC mCh mVi : Int} {c : Int} (hz : S z = oO 9 [.ref (z + 1), .int (iI mLen), .int (iI mAt), .ref (z + 2), .ref (z + 3), .ref (z + 4), .ref (z + 5), .int (iI mHC), .int (iI mRC), .ref (z + 6), .ref (z + 7), .ref (z + 8), .int (iI mHS), .ref (z + 9), .ref (z + 10), .int (iI mJC), .int (iI mCh), .int (iI mVi)]) (rc : -10 ≤ c ∧ c < 0) : g_Cs l yX9_findJoints wsX9_findJoints { frames := 1, cells := 0, slots := 0, locals := 22 } g [.ref z, .int (iI c)] n S (fun vr n1 S1 => vr = none ∧ n = n1 ∧ S1 z = oO 9 [.ref (z + 1), .int (iI mLen), .int (iI mAt), .ref (z + 2), .ref (z + 3), .ref (z + 4), .ref (z + 5), .int (iI mHC), .int (iI mRC), .ref (z + 6), .ref (z + 7), .ref (z + 8), .int (iI mHS), .ref (z + 9), .ref (z + 10), .int (iI 0), .int (iI mCh), .int (iI mVi)] ∧ (∀ bb, bb ≠ z → S1 bb = S bb)) 0 0 := by
  refine g_Cs.of (cc := cX9_findJoints) (maxL := 4) (ret := none) (by decide) rfl (Nat.le_of_ble_eq_true rfl) ?_
  intro pp ee s m below meth cK Q H locs ls hc hnm hw hl hret
  have hl : lv_has ls 4 [(0, .ref z), (1, .int (iI c))] := hl
  have hiX9 : ∀ w ∈ u_ws RX9 TX9 18, w ∈ wsX9_findJoints := by decide +kernel
  have lk111 : Cond.fieldLink RX9 111 "RoofCoursesModel" "jointCount" "I" ∈ wsX9_findJoints := by decide +kernel
  refine lv_aload_n hc.1 hc.2.1 dX9_findJoints_0 rfl (lv_at hl 0 rfl) ?_
  refine nn_iconst hc dX9_findJoints_1 ?_
  refine nn_put hc hw hz hiX9 tyX9 tyX9_ok nmX9 rfl 15 (by decide) (Nat.le_of_ble_eq_true rfl) lk111 rfl rfl rfl dX9_findJoints_2 (fun S1 H locs hS1 fS1 hw => ?_)
  have hS1 : S1 z = oO 9 [.ref (z + 1), .int (iI mLen), .int (iI mAt), .ref (z + 2), .ref (z + 3), .ref (z + 4), .ref (z + 5), .int (iI mHC), .int (iI mRC), .ref (z + 6), .ref (z + 7), .ref (z + 8), .int (iI mHS), .ref (z + 9), .ref (z + 10), .int (iI 0), .int (iI mCh), .int (iI mVi)] := hS1
  refine nn_iconst hc dX9_findJoints_5 ?_
  refine lv_istore_n (lv' := [(2, .int (iI 0)), (0, .ref z), (1, .int (iI c))]) hc.1 hc.2.1 dX9_findJoints_6 rfl hl (by decide) rfl (fun ls hl => ?_)
  refine nn_iconst hc dX9_findJoints_7 ?_
  refine lv_istore_n (lv' := [(3, .int (iI 0)), (2, .int (iI 0)), (0, .ref z), (1, .int (iI c))]) hc.1 hc.2.1 dX9_findJoints_8 rfl hl (by decide) rfl (fun ls hl => ?_)
  refine lv_iload_n hc.1 hc.2.1 dX9_findJoints_9 rfl (lv_at hl 3 rfl) ?_
  refine nn_if_lt hc dX9_findJoints_10 (tgt := 59) (by decide) (by omega) (fun c2 => ?_) (fun c2 => ?_)
  · exact hret none _ S1 _ _ _ _ hw (⟨rfl, rfl, hS1, fun bb hb0 => (fS1 bb hb0)⟩) ⟨rfl, dX9_findJoints_59⟩
  · exfalso; omega

set_option maxHeartbeats 4000000 in
set_option maxRecDepth 100000 in
theorem c_X9_findJoints_any (l : Launch) (g : gG) {n : Nat} {S : Nat → gE} {z : Nat} {mLen mAt mHC mRC mHS mJC mCh mVi : Int} {nw js : Nat → Int} {c bL : Int} {bs : sL} (hz : S z = oO 9 [.ref (z + 1), .int (iI mLen), .int (iI mAt), .ref (z + 2), .ref (z + 3), .ref (z + 4), .ref (z + 5), .int (iI mHC), .int (iI mRC), .ref (z + 6), .ref (z + 7), .ref (z + 8), .int (iI mHS), .ref (z + 9), .ref (z + 10), .int (iI mJC), .int (iI mCh), .int (iI mVi)]) (hnw : S (z + 6) = oI g 1249 nw) (hjs : S (z + 10) = oI g 60 js) (hfj : (-10 ≤ c ∧ c < 0 ∧ bs = []) ∨ (0 ≤ c ∧ c < 20 ∧ rowIs nw c.toNat bL bs ∧ 1 ≤ bs.length ∧ bs.length ≤ 60)) (hv : ∀ i : Nat, i < bs.length → 0 ≤ slV bs i ∧ slV bs i < 64 ∧ 0 ≤ slH bs i ∧ slH bs i < 8) : g_Cs l yX9_findJoints wsX9_findJoints { frames := 1, cells := 0, slots := 0, locals := 22 } g [.ref z, .int (iI c)] n S (fun vr n1 S1 => ∃ jf : Nat → Int, vr = none ∧ n = n1 ∧ S1 z = oO 9 [.ref (z + 1), .int (iI mLen), .int (iI mAt), .ref (z + 2), .ref (z + 3), .ref (z + 4), .ref (z + 5), .int (iI mHC), .int (iI mRC), .ref (z + 6), .ref (z + 7), .ref (z + 8), .int (iI mHS), .ref (z + 9), .ref (z + 10), .int (iI ((bs.length - 1 : Nat) : Int)), .int (iI mCh), .int (iI mVi)] ∧ S1 (z + 10) = oI g 60 jf ∧ (∀ i : Nat, i < bs.length - 1 → jf i = slE bs i) ∧ (∀ bb, bb ≠ z → bb ≠ (z + 10) → S1 bb = S bb)) 0 0 := by
  rcases hfj with ⟨h1, h2, rfl⟩ | ⟨h1, h2, h3, h4, h5⟩
  · refine g_Cs.mono (c_X9_findJoints_neg l g hz ⟨h1, h2⟩) (fun v n1 S1 hq => ?_)
    obtain ⟨e1, e2, e3, e4⟩ := hq
    exact ⟨js, e1, e2, e3, (e4 (z + 10) (by omega)).trans hjs, fun i hi => absurd hi (Nat.not_lt_zero i), fun bb hb0 _ => e4 bb hb0⟩
  · refine g_Cs.mono (c_X9_findJoints l g hz hnw hjs ⟨h1, h2⟩ h3 ⟨h4, h5⟩ hv) (fun v n1 S1 hq => ?_)
    obtain ⟨jf, e1, e2, e3, e4, e5, e6⟩ := hq
    exact ⟨jf, e1, e2, (by rw [show ((bs.length - 1 : Nat) : Int) = (bs.length : Int) - 1 by omega]; exact e3), e4, fun i hi => e5 i (by omega), e6⟩

set_option maxHeartbeats 4000000 in
set_option maxRecDepth 100000 in
theorem c_X9_choose_endx (l : Launch) (g : gG) {n : Nat} {S : Nat → gE} {z : Nat} {mLen mAt mHC mRC mHS mJC mCh mVi : Int} {stg hps nw js : Nat → Int} {x0 p R : Int} {hx : Nat} {vx : Int} (hz : S z = oO 9 [.ref (z + 1), .int (iI mLen), .int (iI mAt), .ref (z + 2), .ref (z + 3), .ref (z + 4), .ref (z + 5), .int (iI mHC), .int (iI mRC), .ref (z + 6), .ref (z + 7), .ref (z + 8), .int (iI mHS), .ref (z + 9), .ref (z + 10), .int (iI mJC), .int (iI mCh), .int (iI mVi)]) (hst : S (z + 2) = oI g 5 stg) (hhp : S (z + 4) = oI g 24 hps) (hnw : S (z + 6) = oI g 1249 nw) (hjs : S (z + 10) = oI g 60 js) (rHC : 0 ≤ mHC ∧ mHC ≤ 8) (rM : ∀ i : Nat, (i : Int) < mHC → (20 ≤ mLn hps i ∧ mLn hps i ≤ 60) ∧ (10 ≤ mBr hps i ∧ mBr hps i ≤ 60)) (hsrt : srt mHC (mLn hps) (mBr hps)) (rW : ∀ i : Nat, (i : Int) < mHC → 0 ≤ nw i ∧ nw i ≤ 1000000) (rJ : 0 ≤ mJC ∧ mJC ≤ 59) (rb : 1 ≤ stg 3 ∧ stg 3 ≤ 1000) (rj : ∀ i : Nat, (i : Int) < mJC → -1000000 ≤ js i ∧ js i ≤ 1000000) (rx0 : 0 ≤ x0 ∧ x0 ≤ 60) (rpR : (0 ≤ p ∧ p < R) ∧ R ≤ 1000) (hEx : lstI (pE (mLn hps) (mBr hps) nw x0 R p) mHC.toNat = (hx : Int)) (hvx : R - p = vx) : g_Cs l yX9_choose wsX9_choose { frames := 1, cells := 0, slots := 0, locals := 24 } g [.ref z, .int (iI x0), .int (iI p), .int (iI R)] n S (fun vr n1 S1 => vr = some (.int (iI 1)) ∧ n = n1 ∧ S1 z = oO 9 [.ref (z + 1), .int (iI mLen), .int (iI mAt), .ref (z + 2), .ref (z + 3), .ref (z + 4), .ref (z + 5), .int (iI mHC), .int (iI mRC), .ref (z + 6), .ref (z + 7), .ref (z + 8), .int (iI mHS), .ref (z + 9), .ref (z + 10), .int (iI mJC), .int (iI (hx : Int)), .int (iI vx)] ∧ (∀ bb, bb ≠ z → S1 bb = S bb)) 0 0 := by
  rw [← hEx, ← hvx]
  exact c_X9_choose_end l g hz hst hhp hnw hjs rHC rM hsrt rW rJ rb rj rx0 rpR (by omega)

set_option maxHeartbeats 4000000 in
set_option maxRecDepth 100000 in
theorem c_X9_giveBack (l : Launch) (g : gG) {n : Nat} {S : Nat → gE} {z : Nat} {mLen mAt mHC mRC mHS mJC mCh mVi : Int} {hps nw : Nat → Int} {c cL : Int} {sl : sL} (hz : S z = oO 9 [.ref (z + 1), .int (iI mLen), .int (iI mAt), .ref (z + 2), .ref (z + 3), .ref (z + 4), .ref (z + 5), .int (iI mHC), .int (iI mRC), .ref (z + 6), .ref (z + 7), .ref (z + 8), .int (iI mHS), .ref (z + 9), .ref (z + 10), .int (iI mJC), .int (iI mCh), .int (iI mVi)]) (hnw : S (z + 6) = oI g 1249 nw) (rc : 0 ≤ c ∧ c < 20) (hrow : rowIs nw c.toNat cL sl) (hln : sl.length ≤ 60) (hok : okS mHC.toNat (mLn hps) (mBr hps) cL sl) (rHC : 0 ≤ mHC ∧ mHC ≤ 8) (rbr : ∀ i : Nat, i < mHC.toNat → 1 ≤ mBr hps i ∧ mBr hps i ≤ 60) : g_Cs l yX9_giveBack wsX9_giveBack { frames := 1, cells := 0, slots := 0, locals := 22 } g [.ref z, .int (iI c)] n S (fun vr n1 S1 => vr = none ∧ n = n1 ∧ S1 (z + 6) = oI g 1249 (fun i => nw i + cntH sl i) ∧ (∀ bb, bb ≠ (z + 6) → S1 bb = S bb)) 0 0 := by
  refine g_Cs.of (cc := cX9_giveBack) (maxL := 3) (ret := none) (by decide) rfl (Nat.le_of_ble_eq_true rfl) ?_
  intro pp ee s m below meth cK Q H locs ls hc hnm hw hl hret
  have hl : lv_has ls 3 [(0, .ref z), (1, .int (iI c))] := hl
  have hiX9 : ∀ w ∈ u_ws RX9 TX9 18, w ∈ wsX9_giveBack := by decide +kernel
  have lk25 : Cond.fieldLink RX9 25 "RoofCoursesModel" "now" "[I" ∈ wsX9_giveBack := by decide +kernel
  refine nn_iconst hc dX9_giveBack_0 ?_
  refine lv_istore_n (lv' := [(2, .int (iI 0)), (0, .ref z), (1, .int (iI c))]) hc.1 hc.2.1 dX9_giveBack_1 rfl hl (by decide) rfl (fun ls hl => ?_)
  have lab2 : ∀ (fu2 : Nat) (k : Int) (f : Nat → Int) (S1 : Nat → gE) (H : Heap) (locs : List Loc) (ls : Array Slot), (0 ≤ k ∧ k ≤ sl.length) → (f = fun i => nw i + cntH (sl.take k.toNat) i) → S1 (z + 6) = oI g 1249 f → (∀ bb, bb ≠ (z + 6) → S1 bb = S bb) → g_W g n S1 s H locs → (60 - k).toNat < fu2 → lv_has ls 3 [(2, .int (iI k)), (0, .ref z), (1, .int (iI c))] → W pp l ee ({ frames := 1, cells := 0, slots := 0, locals := 22 } : Room) s m ([.ref z, .int (iI c)] : List Value).toArray below meth cK H locs 0 0 Q (F0 m 2 ls []) := by
    intro fu2
    induction fu2 with
    | zero =>
      intro k f S1 H locs ls hk hf hc2_0 fr2 hw hmeas hl
      exact absurd hmeas (Nat.not_lt_zero _)
    | succ fu2 ih2 =>
      intro k f S1 H locs ls hk hf hc2_0 fr2 hw hmeas hl
      have hbig : ∀ i : Nat, 8 ≤ i → f i = nw i := fun i hi => by rw [hf]; show nw i + cntH (sl.take k.toNat) i = nw i; rw [cnt_big (okS_take hok _) (by omega)]; omega
      have hb1 := hbig (9 + 62 * c.toNat + 1) (by omega)
      have hrow2 := hrow.2.1
      refine lv_iload_n hc.1 hc.2.1 dX9_giveBack_2 rfl (lv_at hl 0 rfl) ?_
      refine lv_aload_n hc.1 hc.2.1 dX9_giveBack_3 rfl (lv_at hl 1 rfl) ?_
      refine lv_iload_n hc.1 hc.2.1 dX9_giveBack_4 rfl (lv_at hl 2 rfl) ?_
      have e2 : S1 z = oO 9 [.ref (z + 1), .int (iI mLen), .int (iI mAt), .ref (z + 2), .ref (z + 3), .ref (z + 4), .ref (z + 5), .int (iI mHC), .int (iI mRC), .ref (z + 6), .ref (z + 7), .ref (z + 8), .int (iI mHS), .ref (z + 9), .ref (z + 10), .int (iI mJC), .int (iI mCh), .int (iI mVi)] := (fr2 z (off_nl (x := z) (a := 6) (by decide))).trans hz
      refine nn_Vp (As := [.int (iI c)]) (st := [.int (iI k)]) hc hw e2 rfl (c_X9_slateCount l g  e2 hc2_0 (by omega)) (cwV 1 hc.2.2.2.2 gX9_giveBack_X9_slateCount rfl rfl rfl (by decide +kernel) ⟨Nat.le_of_ble_eq_true rfl, Nat.le_of_ble_eq_true rfl⟩) rfl hl.1 rfl (Nat.le_of_ble_eq_true rfl) ⟨Nat.le_of_ble_eq_true rfl, Nat.le_of_ble_eq_true rfl⟩ dX9_giveBack_5 ?_
      refine W.eq (g2 := F0 m 8 ls [.int (iI (f (9 + 62 * c.toNat + 1))), .int (iI k)]) rfl ?_
      refine nn_icmp_ge hc dX9_giveBack_8 (tgt := 35) (by decide) (by omega) (by omega) (fun c3 => ?_) (fun c3 => ?_)
      · exact hret none _ S1 _ _ _ _ hw (⟨rfl, rfl, (by rw [← show sl.take k.toNat = sl by rw [show k.toNat = sl.length by omega, List.take_length], ← hf]; exact hc2_0), fun bb hb0 => (fr2 bb hb0)⟩) ⟨rfl, dX9_giveBack_35⟩
      · have hh1 := hbig (9 + 62 * c.toNat + 2 + k.toNat) (by omega)
        have hs1 := hrow.2.2 k.toNat (by omega)
        have hs2 := slH_ok hok (i := k.toNat) (by omega)
        have hs3 := slV_ok hok (i := k.toNat) (by omega)
        have hs4 := rbr (slH sl k.toNat).toNat (by omega)
        have hd64 := d64 (h := slH sl k.toNat) (v := slV sl k.toNat) (by omega)
        rw [← hs1] at hd64
        refine lv_aload_n hc.1 hc.2.1 dX9_giveBack_11 rfl (lv_at hl 1 rfl) ?_
        refine nn_get hc hw e2 hiX9 rfl 9 (by decide) rfl lk25 dX9_giveBack_12 ?_
        refine lv_aload_n hc.1 hc.2.1 dX9_giveBack_15 rfl (lv_at hl 1 rfl) ?_
        refine lv_iload_n hc.1 hc.2.1 dX9_giveBack_16 rfl (lv_at hl 2 rfl) ?_
        refine lv_iload_n hc.1 hc.2.1 dX9_giveBack_17 rfl (lv_at hl 0 rfl) ?_
        refine nn_Vp (As := [.int (iI c), .int (iI k)]) (st := [.ref (z + 6)]) hc hw e2 rfl (c_X9_slateOf l g  e2 hc2_0 (by omega) (by omega)) (cwV 2 hc.2.2.2.2 gX9_giveBack_X9_slateOf rfl rfl rfl (by decide +kernel) ⟨Nat.le_of_ble_eq_true rfl, Nat.le_of_ble_eq_true rfl⟩) rfl hl.1 rfl (Nat.le_of_ble_eq_true rfl) ⟨Nat.le_of_ble_eq_true rfl, Nat.le_of_ble_eq_true rfl⟩ dX9_giveBack_18 ?_
        refine W.eq (g2 := F0 m 21 ls [.int (iI (f (9 + 62 * c.toNat + 2 + k.toNat))), .ref (z + 6)]) rfl ?_
        refine nn_bipush hc dX9_giveBack_21 (by decide +kernel) ?_
        refine nn_idiv hc dX9_giveBack_23 (by omega) (by omega) ?_
        refine lv_dup2_11 hc.1 hc.2.1 dX9_giveBack_24 rfl rfl ?_
        refine nn_iald hc hw hc2_0 (by omega) (by omega) dX9_giveBack_25 ?_
        refine nn_iconst hc dX9_giveBack_26 ?_
        refine nn_iadd hc dX9_giveBack_27 ?_
        refine nn_iast hc hw hc2_0 (by omega) (by omega) dX9_giveBack_28 (fun S4 H locs hS4 fS4 hw => ?_)
        refine nn_iinc (lv' := [(2, .int (iI (k + 1))), (0, .ref z), (1, .int (iI c))]) hc dX9_giveBack_29 hl (k0 := 0) rfl (by decide) rfl (fun ls hl => ?_)
        refine lv_goto hc.1 hc.2.1 dX9_giveBack_32 (tgt := 2) (by decide) ?_
        exact ih2 (k + 1) (va_up f ((f (9 + 62 * c.toNat + 2 + k.toNat)) / 64).toNat ((f ((f (9 + 62 * c.toNat + 2 + k.toNat)) / 64).toNat) + 1)) S4 _ _ _ (by omega) (by rw [hh1, hd64.1, toNat_succ (by omega), ← gB_step (h := (slH sl k.toNat).toNat) (by omega) rfl, hf]) hS4 (fun bb hb0 => ((fS4 bb hb0)).trans (fr2 bb hb0)) hw (by omega) (lv_sub hl [0, 1, 2] rfl)
  exact lab2 _ 0 nw S _ _ _ (by omega) (by funext i; show nw i = nw i + cntH (sl.take 0) i; rw [List.take_zero]; simp [cntH]) hnw (fun bb _ => rfl) hw (Nat.lt_succ_self _) (lv_sub hl [0, 1, 2] rfl)

set_option maxHeartbeats 4000000 in
set_option maxRecDepth 100000 in
theorem c_X9_fill_yes (l : Launch) (g : gG) {n : Nat} {S : Nat → gE} {z : Nat} {mLen mAt mHC mRC mHS mJC mCh mVi : Int} {stg hps nw js : Nat → Int} {x0 bL : Int} {bs sl : sL} (hz : S z = oO 9 [.ref (z + 1), .int (iI mLen), .int (iI mAt), .ref (z + 2), .ref (z + 3), .ref (z + 4), .ref (z + 5), .int (iI mHC), .int (iI mRC), .ref (z + 6), .ref (z + 7), .ref (z + 8), .int (iI mHS), .ref (z + 9), .ref (z + 10), .int (iI mJC), .int (iI mCh), .int (iI mVi)]) (hst : S (z + 2) = oI g 5 stg) (hhp : S (z + 4) = oI g 24 hps) (hnw : S (z + 6) = oI g 1249 nw) (hjs : S (z + 10) = oI g 60 js) (rHC : 0 ≤ mHC ∧ mHC ≤ 8) (rM : ∀ i : Nat, (i : Int) < mHC → (20 ≤ mLn hps i ∧ mLn hps i ≤ 60) ∧ (10 ≤ mBr hps i ∧ mBr hps i ≤ 60)) (hsrt : srt mHC (mLn hps) (mBr hps)) (rW : ∀ i : Nat, (i : Int) < mHC → 0 ≤ nw i ∧ nw i ≤ 1000000) (rb : 1 ≤ stg 3 ∧ stg 3 ≤ 1000) (rx0 : 20 ≤ x0 ∧ x0 ≤ 60) (rc : 0 ≤ nw 8 ∧ nw 8 < 20) (rg : ∀ k : Nat, (k : Int) < nw 8 → 0 ≤ nw (9 + 62 * k) - stg 2 ∧ nw (9 + 62 * k) - stg 2 ≤ 1000) (rr0 : (0 ≤ stg 1 ∧ stg 1 ≤ 1000) ∧ (0 ≤ stg 4 * (sumI (fun k => (nw (9 + 62 * k) - stg 2) / 2) (nw 8).toNat) ∧ stg 4 * (sumI (fun k => (nw (9 + 62 * k) - stg 2) / 2) (nw 8).toNat) ≤ 1000000)) (hbs : (nw 8 = 0 ∧ bs = []) ∨ (0 < nw 8 ∧ rowIs nw (nw 8 - 1).toNat bL bs ∧ 1 ≤ bs.length ∧ bs.length ≤ 60)) (hbv : ∀ i : Nat, i < bs.length → 0 ≤ slV bs i ∧ slV bs i < 64 ∧ 0 ≤ slH bs i ∧ slH bs i < 8) (hbe : ∀ i : Nat, -1000000 ≤ slE bs i ∧ slE bs i ≤ 1000000) (hlay : layC mHC.toNat (mLn hps) (mBr hps) (stg 1) (stg 4) (stg 3) x0 nw (sumI (fun k => (nw (9 + 62 * k) - stg 2) / 2) (nw 8).toNat) bs = some sl) : g_Cs l yX9_fill wsX9_fill { frames := 3, cells := 0, slots := 0, locals := 66 } g [.ref z, .int (iI x0)] n S (fun vr n1 S1 => ∃ jf9 : Nat → Int, ∃ kw9 : Nat → Int, ∃ ch9 : Int, ∃ vi9 : Int, vr = some (.int (iI 1)) ∧ n = n1 ∧ S1 z = oO 9 [.ref (z + 1), .int (iI mLen), .int (iI mAt), .ref (z + 2), .ref (z + 3), .ref (z + 4), .ref (z + 5), .int (iI mHC), .int (iI mRC), .ref (z + 6), .ref (z + 7), .ref (z + 8), .int (iI mHS), .ref (z + 9), .ref (z + 10), .int (iI ((bs.length - 1 : Nat) : Int)), .int (iI ch9), .int (iI vi9)] ∧ S1 (z + 6) = oI g 1249 kw9 ∧ S1 (z + 10) = oI g 60 jf9 ∧ mRow nw kw9 (nw 8).toNat x0 sl ∧ (∀ bb, bb ≠ z → bb ≠ (z + 6) → bb ≠ (z + 10) → S1 bb = S bb)) 0 0 := by
  refine g_Cs.of (cc := cX9_fill) (maxL := 6) (ret := (some .boolean)) (by decide) rfl (Nat.le_of_ble_eq_true rfl) ?_
  intro pp ee s m below meth cK Q H locs ls hc hnm hw hl hret
  have hl : lv_has ls 6 [(0, .ref z), (1, .int (iI x0))] := hl
  have hiX9 : ∀ w ∈ u_ws RX9 TX9 18, w ∈ wsX9_fill := by decide +kernel
  have lk25 : Cond.fieldLink RX9 25 "RoofCoursesModel" "now" "[I" ∈ wsX9_fill := by decide +kernel
  have lk120 : Cond.fieldLink RX9 120 "RoofCoursesModel" "chosen" "I" ∈ wsX9_fill := by decide +kernel
  have lk123 : Cond.fieldLink RX9 123 "RoofCoursesModel" "visible" "I" ∈ wsX9_fill := by decide +kernel
  have hbr1 : ∀ i : Nat, i < mHC.toNat → 1 ≤ mBr hps i := fun i hi => by have := rM i (by omega); omega
  refine lv_aload_n hc.1 hc.2.1 dX9_fill_0 rfl (lv_at hl 0 rfl) ?_
  refine nn_get hc hw hz hiX9 rfl 9 (by decide) rfl lk25 dX9_fill_1 ?_
  refine nn_bipush hc dX9_fill_4 (by decide +kernel) ?_
  refine nn_iald hc hw hnw (by omega) (by omega) dX9_fill_6 ?_
  refine W.eq (g2 := F0 m 7 ls [.int (iI (nw 8))]) rfl ?_
  refine nn_name (fun xc exc => ?_)
  refine lv_istore_n (lv' := [(2, .int (iI xc)), (0, .ref z), (1, .int (iI x0))]) hc.1 hc.2.1 dX9_fill_7 rfl hl (by decide) rfl (fun ls hl => ?_)
  refine lv_aload_n hc.1 hc.2.1 dX9_fill_8 rfl (lv_at hl 1 rfl) ?_
  refine lv_iload_n hc.1 hc.2.1 dX9_fill_9 rfl (lv_at hl 0 rfl) ?_
  refine nn_Vp (As := [.int (iI xc)]) (st := []) hc hw hz rfl (c_X9_room l g  hz hst hnw (by omega) (fun k hk => rg k (by omega)) (by rw [exc]; exact rr0)) (cwV 1 hc.2.2.2.2 gX9_fill_X9_room rfl rfl rfl (by decide +kernel) ⟨Nat.le_of_ble_eq_true rfl, Nat.le_of_ble_eq_true rfl⟩) rfl hl.1 rfl (Nat.le_of_ble_eq_true rfl) ⟨Nat.le_of_ble_eq_true rfl, Nat.le_of_ble_eq_true rfl⟩ dX9_fill_10 ?_
  refine W.eq (g2 := F0 m 13 ls [.int (iI (rmF (stg 1) (stg 4) (sumI (fun k => (nw (9 + 62 * k) - stg 2) / 2) xc.toNat)))]) rfl ?_
  refine nn_name (fun xR exR => ?_)
  refine lv_istore_n (lv' := [(3, .int (iI xR)), (2, .int (iI xc)), (0, .ref z), (1, .int (iI x0))]) hc.1 hc.2.1 dX9_fill_13 rfl hl (by decide) rfl (fun ls hl => ?_)
  have hxR : xR = rmF (stg 1) (stg 4) (sumI (fun k => (nw (9 + 62 * k) - stg 2) / 2) (nw 8).toNat) := by rw [exR, exc]
  have hxc : xc = nw 8 := exc
  refine nn_bipush hc dX9_fill_14 (by decide +kernel) ?_
  refine nn_bipush hc dX9_fill_16 (by decide +kernel) ?_
  refine lv_iload_n hc.1 hc.2.1 dX9_fill_18 rfl (lv_at hl 1 rfl) ?_
  refine nn_imul hc dX9_fill_19 ?_
  refine nn_iadd hc dX9_fill_20 ?_
  refine nn_name (fun xw exw => ?_)
  refine lv_istore (lv' := [(4, .int (iI xw)), (3, .int (iI xR)), (2, .int (iI xc)), (0, .ref z), (1, .int (iI x0))]) hc.1 hc.2.1 dX9_fill_21 hl (by decide) rfl (fun ls hl => ?_)
  have hRge := rmF_ge (stg 1) (stg 4) (sumI (fun k => (nw (9 + 62 * k) - stg 2) / 2) (nw 8).toNat)
  have hRle := rmF_le (wi := stg 1) (hp := stg 4) (f := (sumI (fun k => (nw (9 + 62 * k) - stg 2) / 2) (nw 8).toNat)) rr0.1 rr0.2.1
  refine lv_aload_n hc.1 hc.2.1 dX9_fill_23 rfl (lv_at hl 3 rfl) ?_
  refine nn_get hc hw hz hiX9 rfl 9 (by decide) rfl lk25 dX9_fill_24 ?_
  refine lv_iload hc.1 hc.2.1 dX9_fill_27 (lv_at hl 0 rfl) ?_
  refine lv_iload_n hc.1 hc.2.1 dX9_fill_29 rfl (lv_at hl 4 rfl) ?_
  refine nn_iast hc hw hnw (by omega) (by omega) dX9_fill_30 (fun S1 H locs hS1 fS1 hw => ?_)
  refine lv_aload_n hc.1 hc.2.1 dX9_fill_31 rfl (lv_at hl 3 rfl) ?_
  have e2 : S1 z = oO 9 [.ref (z + 1), .int (iI mLen), .int (iI mAt), .ref (z + 2), .ref (z + 3), .ref (z + 4), .ref (z + 5), .int (iI mHC), .int (iI mRC), .ref (z + 6), .ref (z + 7), .ref (z + 8), .int (iI mHS), .ref (z + 9), .ref (z + 10), .int (iI mJC), .int (iI mCh), .int (iI mVi)] := (fS1 z (off_nl (x := z) (a := 6) (by decide))).trans hz
  refine nn_get hc hw e2 hiX9 rfl 9 (by decide) rfl lk25 dX9_fill_32 ?_
  refine lv_iload hc.1 hc.2.1 dX9_fill_35 (lv_at hl 0 rfl) ?_
  refine nn_iconst hc dX9_fill_37 ?_
  refine nn_iadd hc dX9_fill_38 ?_
  refine nn_iconst hc dX9_fill_39 ?_
  refine nn_iast hc hw hS1 (by omega) (by omega) dX9_fill_40 (fun S3 H locs hS3 fS3 hw => ?_)
  refine lv_aload_n hc.1 hc.2.1 dX9_fill_41 rfl (lv_at hl 3 rfl) ?_
  refine lv_iload_n hc.1 hc.2.1 dX9_fill_42 rfl (lv_at hl 2 rfl) ?_
  refine nn_iconst hc dX9_fill_43 ?_
  refine nn_isub hc dX9_fill_44 ?_
  have e4 : S3 z = oO 9 [.ref (z + 1), .int (iI mLen), .int (iI mAt), .ref (z + 2), .ref (z + 3), .ref (z + 4), .ref (z + 5), .int (iI mHC), .int (iI mRC), .ref (z + 6), .ref (z + 7), .ref (z + 8), .int (iI mHS), .ref (z + 9), .ref (z + 10), .int (iI mJC), .int (iI mCh), .int (iI mVi)] := (fS3 z (off_nl (x := z) (a := 6) (by decide))).trans e2
  have e5 : S1 (z + 10) = oI g 60 js := (fS1 (z + 10) (off_ne (x := z) (a := 10) (b := 6) (by decide))).trans hjs
  have e6 : S3 (z + 10) = oI g 60 js := (fS3 (z + 10) (off_ne (x := z) (a := 10) (b := 6) (by decide))).trans e5
  refine nn_Vs (As := [.int (iI (xc - 1))]) (st := []) hc hw e4 rfl (c_X9_findJoints_any l g (bs := bs) (bL := bL) e4 hS3 e6 (by rcases hbs with ⟨h1, h2⟩ | ⟨h1, h2, h3, h4⟩; exact Or.inl ⟨by omega, by omega, h2⟩; exact Or.inr ⟨by omega, by omega, by rw [show (xc - 1).toNat = (nw 8 - 1).toNat by omega]; exact h2.kept h4 (c := xc.toNat) (by omega) (fun i g1 g2 => by rw [va_up_ne _ _ (by omega), va_up_ne _ _ (by omega)]), h3, h4⟩) (hbv)) (cwV 1 hc.2.2.2.2 gX9_fill_X9_findJoints rfl rfl rfl (by decide +kernel) ⟨Nat.le_of_ble_eq_true rfl, Nat.le_of_ble_eq_true rfl⟩) rfl hl.1 rfl (Nat.le_of_ble_eq_true rfl) ⟨Nat.le_of_ble_eq_true rfl, Nat.le_of_ble_eq_true rfl⟩ dX9_fill_45 (fun vr n1 S7 H locs qS7 hw => ?_)
  obtain ⟨jf, rfl, rfl, hS7_0, hS7_1, kS7_0, fS7⟩ := qS7
  refine W.eq (g2 := F0 m 48 ls []) rfl ?_
  have hjl : ∀ i : Nat, i < bs.length - 1 → jf i = slE bs i := kS7_0
  have hbl : bs.length ≤ 60 := by rcases hbs with ⟨h1, h2⟩ | ⟨h1, h2, h3, h4⟩; rw [h2]; decide; exact h4
  have e8 : S7 (z + 6) = oI g 1249 (va_up (va_up nw xw.toNat x0) (xw + 1).toNat 0) := (fS7 (z + 6) (off_nr (x := z) (a := 6) (by decide)) (off_ne (x := z) (a := 6) (b := 10) (by decide))).trans hS3
  have hL0 : layG mHC.toNat (mLn hps) (mBr hps) x0 (rmF (stg 1) (stg 4) (sumI (fun k => (nw (9 + 62 * k) - stg 2) / 2) (nw 8).toNat)) jf (stg 3) (bs.length - 1) 60 ((va_up (va_up nw xw.toNat x0) (xw + 1).toNat 0)) 0 = some sl := (layG_ed (fun i hi => hjl i hi) 60 _ 0).trans ((layG_congr 60 _ nw 0 (fun i hi => by rw [va_up_ne _ _ (by omega), va_up_ne _ _ (by omega)])).trans hlay)
  refine nn_iconst hc dX9_fill_48 ?_
  refine lv_istore (lv' := [(5, .int (iI 0)), (4, .int (iI xw)), (3, .int (iI xR)), (2, .int (iI xc)), (0, .ref z), (1, .int (iI x0))]) hc.1 hc.2.1 dX9_fill_49 hl (by decide) rfl (fun ls hl => ?_)
  have lab51 : ∀ (fu51 : Nat) (p : Int) (kw : Nat → Int) (ch : Int) (vi : Int) (acc : sL) (tl : sL) (S9 : Nat → gE) (H : Heap) (locs : List Loc) (ls : Array Slot), (p = tot acc ∧ 0 ≤ p ∧ acc.length ≤ 60) → (mRow nw kw xc.toNat x0 acc) → (okS mHC.toNat (mLn hps) (mBr hps) x0 acc) → (∀ i : Nat, (i : Int) < mHC → 0 ≤ kw i ∧ kw i ≤ 1000000) → ((p < rmF (stg 1) (stg 4) (sumI (fun k => (nw (9 + 62 * k) - stg 2) / 2) (nw 8).toNat) ∧ layG mHC.toNat (mLn hps) (mBr hps) x0 (rmF (stg 1) (stg 4) (sumI (fun k => (nw (9 + 62 * k) - stg 2) / 2) (nw 8).toNat)) jf (stg 3) (bs.length - 1) (60 - acc.length) kw p = some tl ∧ sl = acc ++ tl) ∨ (p = rmF (stg 1) (stg 4) (sumI (fun k => (nw (9 + 62 * k) - stg 2) / 2) (nw 8).toNat) ∧ sl = acc)) → S9 z = oO 9 [.ref (z + 1), .int (iI mLen), .int (iI mAt), .ref (z + 2), .ref (z + 3), .ref (z + 4), .ref (z + 5), .int (iI mHC), .int (iI mRC), .ref (z + 6), .ref (z + 7), .ref (z + 8), .int (iI mHS), .ref (z + 9), .ref (z + 10), .int (iI ((bs.length - 1 : Nat) : Int)), .int (iI ch), .int (iI vi)] → S9 (z + 6) = oI g 1249 kw → (∀ bb, bb ≠ z → bb ≠ (z + 6) → S9 bb = S7 bb) → g_W g n S9 s H locs → (if p < rmF (stg 1) (stg 4) (sumI (fun k => (nw (9 + 62 * k) - stg 2) / 2) (nw 8).toNat) then 61 - (acc.length : Int) else 0).toNat < fu51 → lv_has ls 6 [(5, .int (iI p)), (0, .ref z), (1, .int (iI x0)), (2, .int (iI xc)), (3, .int (iI xR)), (4, .int (iI xw))] → W pp l ee ({ frames := 3, cells := 0, slots := 0, locals := 66 } : Room) s m ([.ref z, .int (iI x0)] : List Value).toArray below meth cK H locs 0 0 Q (F0 m 51 ls []) := by
    intro fu51
    induction fu51 with
    | zero =>
      intro p kw ch vi acc tl S9 H locs ls hp hm hok hkw hly hc51_0 hc51_1 fr51 hw hmeas hl
      exact absurd hmeas (Nat.not_lt_zero _)
    | succ fu51 ih51 =>
      intro p kw ch vi acc tl S9 H locs ls hp hm hok hkw hly hc51_0 hc51_1 fr51 hw hmeas hl
      refine lv_iload hc.1 hc.2.1 dX9_fill_51 (lv_at hl 0 rfl) ?_
      refine lv_iload_n hc.1 hc.2.1 dX9_fill_53 rfl (lv_at hl 4 rfl) ?_
      refine nn_icmp_ge hc dX9_fill_54 (tgt := 153) (by decide) (by omega) (by omega) (fun c10 => ?_) (fun c10 => ?_)
      · have hfin : sl = acc := by rcases hly with h9 | h9; omega; exact h9.2
        refine nn_iconst hc dX9_fill_153 ?_
        have e11 : S9 (z + 10) = oI g 60 jf := (fr51 (z + 10) (off_nr (x := z) (a := 10) (by decide)) (off_ne (x := z) (a := 10) (b := 6) (by decide))).trans hS7_1
        exact hret (some (.int (iI 1))) _ S9 _ _ _ _ hw (⟨_, _, _, _, rfl, rfl, hc51_0, hc51_1, e11, (by rw [hfin, ← hxc]; exact hm), fun bb hb0 hb1 hb2 => ((((fr51 bb hb0 hb1)).trans (fS7 bb hb0 hb2)).trans (fS3 bb hb1)).trans (fS1 bb hb1)⟩) ⟨_, rfl, by first | rfl | exact nn_nb _, dX9_fill_154⟩
      · have hcnt : kw (xw + 1).toNat = acc.length := by rw [show (xw + 1).toNat = 9 + 62 * xc.toNat + 1 by omega]; exact hm.2.2.2.1
        refine lv_aload_n hc.1 hc.2.1 dX9_fill_57 rfl (lv_at hl 1 rfl) ?_
        refine nn_get hc hw hc51_0 hiX9 rfl 9 (by decide) rfl lk25 dX9_fill_58 ?_
        refine lv_iload hc.1 hc.2.1 dX9_fill_61 (lv_at hl 5 rfl) ?_
        refine nn_iconst hc dX9_fill_63 ?_
        refine nn_iadd hc dX9_fill_64 ?_
        refine nn_iald hc hw hc51_1 (by omega) (by omega) dX9_fill_65 ?_
        refine nn_bipush hc dX9_fill_66 (by decide +kernel) ?_
        refine nn_icmp_eq hc dX9_fill_68 (tgt := 82) (by decide) (by omega) (by decide) (fun c12 => ?_) (fun c12 => ?_)
        · exfalso; rcases hly with h9 | h9; have h8 := h9.2.1; rw [show 60 - acc.length = 0 by omega] at h8; cases h8; omega
        · have hjr : ∀ i : Nat, (i : Int) < ((bs.length - 1 : Nat) : Int) → -1000000 ≤ jf i ∧ jf i ≤ 1000000 := fun i hi => by rw [hjl i (by omega)]; exact hbe i
          have hJt : (((bs.length - 1 : Nat) : Int)).toNat = bs.length - 1 := Int.toNat_natCast _
          have hw9 : 60 - acc.length = 59 - acc.length + 1 := by omega
          obtain ⟨hlt, hl1, hl2⟩ : p < rmF (stg 1) (stg 4) (sumI (fun k => (nw (9 + 62 * k) - stg 2) / 2) (nw 8).toNat) ∧ layG mHC.toNat (mLn hps) (mBr hps) x0 (rmF (stg 1) (stg 4) (sumI (fun k => (nw (9 + 62 * k) - stg 2) / 2) (nw 8).toNat)) jf (stg 3) (bs.length - 1) (60 - acc.length) kw p = some tl ∧ sl = acc ++ tl := by rcases hly with h9 | h9; exact h9; omega
          rw [hw9] at hl1
          refine lv_aload_n hc.1 hc.2.1 dX9_fill_71 rfl (lv_at hl 1 rfl) ?_
          refine lv_iload_n hc.1 hc.2.1 dX9_fill_72 rfl (lv_at hl 2 rfl) ?_
          refine lv_iload hc.1 hc.2.1 dX9_fill_73 (lv_at hl 0 rfl) ?_
          refine lv_iload_n hc.1 hc.2.1 dX9_fill_75 rfl (lv_at hl 4 rfl) ?_
          by_cases hE9 : 0 ≤ lstI (pE (mLn hps) (mBr hps) kw x0 (rmF (stg 1) (stg 4) (sumI (fun k => (nw (9 + 62 * k) - stg 2) / 2) (nw 8).toNat)) p) mHC.toNat
          · have hl3 := layG_end hl1 hE9
            have hpe := pE_iff.mp (lstI_q hE9)
            have hre := lstI_r (pE (mLn hps) (mBr hps) kw x0 (rmF (stg 1) (stg 4) (sumI (fun k => (nw (9 + 62 * k) - stg 2) / 2) (nw 8).toNat)) p) mHC.toNat
            obtain ⟨x, hx0, hx1, hx2, hx3⟩ : ∃ x : Nat × Int, x.1 = (lstI (pE (mLn hps) (mBr hps) kw x0 (rmF (stg 1) (stg 4) (sumI (fun k => (nw (9 + 62 * k) - stg 2) / 2) (nw 8).toNat)) p) mHC.toNat).toNat ∧ lstI (pE (mLn hps) (mBr hps) kw x0 (rmF (stg 1) (stg 4) (sumI (fun k => (nw (9 + 62 * k) - stg 2) / 2) (nw 8).toNat)) p) mHC.toNat = (x.1 : Int) ∧ rmF (stg 1) (stg 4) (sumI (fun k => (nw (9 + 62 * k) - stg 2) / 2) (nw 8).toNat) - p = x.2 ∧ tl = [x] := ⟨((lstI (pE (mLn hps) (mBr hps) kw x0 (rmF (stg 1) (stg 4) (sumI (fun k => (nw (9 + 62 * k) - stg 2) / 2) (nw 8).toNat)) p) mHC.toNat).toNat, rmF (stg 1) (stg 4) (sumI (fun k => (nw (9 + 62 * k) - stg 2) / 2) (nw 8).toNat) - p), rfl, (show _ = (((lstI (pE (mLn hps) (mBr hps) kw x0 (rmF (stg 1) (stg 4) (sumI (fun k => (nw (9 + 62 * k) - stg 2) / 2) (nw 8).toNat)) p) mHC.toNat).toNat : Nat) : Int) by omega), rfl, hl3⟩
            rw [← hx0] at hpe
            have hx9 : x.1 < mHC.toNat ∧ mLn hps x.1 = x0 ∧ 1 ≤ x.2 ∧ x.2 ≤ mBr hps x.1 := ⟨by omega, hpe.1.1, by omega, by omega⟩
            obtain ⟨rr, hrr⟩ : ∃ rr : sL, rr = [] := ⟨_, rfl⟩
            have hly8 : ∀ k2 : Nat → Int, (∀ i : Nat, i < 8 → k2 i = va_up kw x.1 (kw x.1 - 1) i) → ((p + x.2 < rmF (stg 1) (stg 4) (sumI (fun k => (nw (9 + 62 * k) - stg 2) / 2) (nw 8).toNat) ∧ layG mHC.toNat (mLn hps) (mBr hps) x0 (rmF (stg 1) (stg 4) (sumI (fun k => (nw (9 + 62 * k) - stg 2) / 2) (nw 8).toNat)) jf (stg 3) (bs.length - 1) (60 - (acc ++ [x]).length) k2 (p + x.2) = some rr ∧ sl = (acc ++ [x]) ++ rr) ∨ (p + x.2 = rmF (stg 1) (stg 4) (sumI (fun k => (nw (9 + 62 * k) - stg 2) / 2) (nw 8).toNat) ∧ sl = acc ++ [x])) := fun k2 _ => Or.inr ⟨by omega, by rw [hl2, hx3]⟩
            have e13 : S1 (z + 2) = oI g 5 stg := (fS1 (z + 2) (off_ne (x := z) (a := 2) (b := 6) (by decide))).trans hst
            have e14 : S3 (z + 2) = oI g 5 stg := (fS3 (z + 2) (off_ne (x := z) (a := 2) (b := 6) (by decide))).trans e13
            have e15 : S7 (z + 2) = oI g 5 stg := (fS7 (z + 2) (off_nr (x := z) (a := 2) (by decide)) (off_ne (x := z) (a := 2) (b := 10) (by decide))).trans e14
            have e16 : S9 (z + 2) = oI g 5 stg := (fr51 (z + 2) (off_nr (x := z) (a := 2) (by decide)) (off_ne (x := z) (a := 2) (b := 6) (by decide))).trans e15
            have e17 : S1 (z + 4) = oI g 24 hps := (fS1 (z + 4) (off_ne (x := z) (a := 4) (b := 6) (by decide))).trans hhp
            have e18 : S3 (z + 4) = oI g 24 hps := (fS3 (z + 4) (off_ne (x := z) (a := 4) (b := 6) (by decide))).trans e17
            have e19 : S7 (z + 4) = oI g 24 hps := (fS7 (z + 4) (off_nr (x := z) (a := 4) (by decide)) (off_ne (x := z) (a := 4) (b := 10) (by decide))).trans e18
            have e20 : S9 (z + 4) = oI g 24 hps := (fr51 (z + 4) (off_nr (x := z) (a := 4) (by decide)) (off_ne (x := z) (a := 4) (b := 6) (by decide))).trans e19
            have e21 : S9 (z + 10) = oI g 60 jf := (fr51 (z + 10) (off_nr (x := z) (a := 10) (by decide)) (off_ne (x := z) (a := 10) (b := 6) (by decide))).trans hS7_1
            refine nn_Vs (As := [.int (iI x0), .int (iI p), .int (iI xR)]) (st := []) hc hw hc51_0 rfl (c_X9_choose_endx l g (hx := x.1) (vx := x.2) hc51_0 e16 e20 hc51_1 e21 (by omega) (rM) (hsrt) (hkw) (by omega) (by omega) (hjr) (by omega) (by omega) (by first | exact hx1 | (rw [hxR]; exact hx1)) (by first | exact hx2 | (rw [hxR]; exact hx2))) (cwV 3 hc.2.2.2.2 gX9_fill_X9_choose rfl rfl rfl (by decide +kernel) ⟨Nat.le_of_ble_eq_true rfl, Nat.le_of_ble_eq_true rfl⟩) rfl hl.1 rfl (Nat.le_of_ble_eq_true rfl) ⟨Nat.le_of_ble_eq_true rfl, Nat.le_of_ble_eq_true rfl⟩ dX9_fill_76 (fun vr n1 S22 H locs qS22 hw => ?_)
            obtain ⟨rfl, rfl, hS22_0, fS22⟩ := qS22
            refine W.eq (g2 := F0 m 79 ls [.int (iI 1)]) rfl ?_
            refine nn_if_ne hc dX9_fill_79 (tgt := 84) (by decide) (by decide) (fun c23 => ?_) (fun c23 => ?_)
            · have i1 : (xw + 1).toNat = xw.toNat + 1 := by omega
              have hx8 : x.1 < 8 := by omega
              have a1 : va_up kw x.1 (kw x.1 - 1) (xw.toNat + 1) = acc.length := by rw [va_up_ne _ _ (by omega), ← i1]; exact hcnt
              have hA : va_up kw (x.1 : Int).toNat (kw (x.1 : Int).toNat - 1) (xw + 1).toNat = acc.length := by simp only [Int.toNat_natCast, i1]; exact a1
              refine lv_aload_n hc.1 hc.2.1 dX9_fill_84 rfl (lv_at hl 1 rfl) ?_
              refine nn_get hc hw hS22_0 hiX9 rfl 9 (by decide) rfl lk25 dX9_fill_85 ?_
              refine lv_aload_n hc.1 hc.2.1 dX9_fill_88 rfl (lv_at hl 1 rfl) ?_
              refine nn_get hc hw hS22_0 hiX9 rfl 16 (by decide) rfl lk120 dX9_fill_89 ?_
              refine lv_dup2_11 hc.1 hc.2.1 dX9_fill_92 rfl rfl ?_
              have e24 : S22 (z + 6) = oI g 1249 kw := (fS22 (z + 6) (off_nr (x := z) (a := 6) (by decide))).trans hc51_1
              refine nn_iald hc hw e24 (by omega) (by omega) dX9_fill_93 ?_
              refine nn_iconst hc dX9_fill_94 ?_
              refine nn_isub hc dX9_fill_95 ?_
              refine nn_iast hc hw e24 (by omega) (by omega) dX9_fill_96 (fun S25 H locs hS25 fS25 hw => ?_)
              refine lv_aload_n hc.1 hc.2.1 dX9_fill_97 rfl (lv_at hl 1 rfl) ?_
              have e26 : S25 z = oO 9 [.ref (z + 1), .int (iI mLen), .int (iI mAt), .ref (z + 2), .ref (z + 3), .ref (z + 4), .ref (z + 5), .int (iI mHC), .int (iI mRC), .ref (z + 6), .ref (z + 7), .ref (z + 8), .int (iI mHS), .ref (z + 9), .ref (z + 10), .int (iI ((bs.length - 1 : Nat) : Int)), .int (iI (x.1 : Int)), .int (iI x.2)] := (fS25 z (off_nl (x := z) (a := 6) (by decide))).trans hS22_0
              refine nn_get hc hw e26 hiX9 rfl 9 (by decide) rfl lk25 dX9_fill_98 ?_
              refine lv_iload hc.1 hc.2.1 dX9_fill_101 (lv_at hl 5 rfl) ?_
              refine nn_iconst hc dX9_fill_103 ?_
              refine nn_iadd hc dX9_fill_104 ?_
              refine lv_aload_n hc.1 hc.2.1 dX9_fill_105 rfl (lv_at hl 1 rfl) ?_
              refine nn_get hc hw e26 hiX9 rfl 9 (by decide) rfl lk25 dX9_fill_106 ?_
              refine lv_iload hc.1 hc.2.1 dX9_fill_109 (lv_at hl 5 rfl) ?_
              refine nn_iconst hc dX9_fill_111 ?_
              refine nn_iadd hc dX9_fill_112 ?_
              refine nn_iald hc hw hS25 (by omega) (by omega) dX9_fill_113 ?_
              refine nn_iadd hc dX9_fill_114 ?_
              refine nn_bipush hc dX9_fill_115 (by decide +kernel) ?_
              refine lv_aload_n hc.1 hc.2.1 dX9_fill_117 rfl (lv_at hl 1 rfl) ?_
              refine nn_get hc hw e26 hiX9 rfl 16 (by decide) rfl lk120 dX9_fill_118 ?_
              refine nn_imul hc dX9_fill_121 ?_
              refine lv_aload_n hc.1 hc.2.1 dX9_fill_122 rfl (lv_at hl 1 rfl) ?_
              refine nn_get hc hw e26 hiX9 rfl 17 (by decide) rfl lk123 dX9_fill_123 ?_
              refine nn_iadd hc dX9_fill_126 ?_
              refine nn_iast hc hw hS25 (by omega) (by omega) dX9_fill_127 (fun S27 H locs hS27 fS27 hw => ?_)
              refine lv_aload_n hc.1 hc.2.1 dX9_fill_128 rfl (lv_at hl 1 rfl) ?_
              have e28 : S27 z = oO 9 [.ref (z + 1), .int (iI mLen), .int (iI mAt), .ref (z + 2), .ref (z + 3), .ref (z + 4), .ref (z + 5), .int (iI mHC), .int (iI mRC), .ref (z + 6), .ref (z + 7), .ref (z + 8), .int (iI mHS), .ref (z + 9), .ref (z + 10), .int (iI ((bs.length - 1 : Nat) : Int)), .int (iI (x.1 : Int)), .int (iI x.2)] := (fS27 z (off_nl (x := z) (a := 6) (by decide))).trans e26
              refine nn_get hc hw e28 hiX9 rfl 9 (by decide) rfl lk25 dX9_fill_129 ?_
              refine lv_iload hc.1 hc.2.1 dX9_fill_132 (lv_at hl 5 rfl) ?_
              refine nn_iconst hc dX9_fill_134 ?_
              refine nn_iadd hc dX9_fill_135 ?_
              refine lv_dup2_11 hc.1 hc.2.1 dX9_fill_136 rfl rfl ?_
              refine nn_iald hc hw hS27 (by omega) (by omega) dX9_fill_137 ?_
              refine nn_iconst hc dX9_fill_138 ?_
              refine nn_iadd hc dX9_fill_139 ?_
              refine nn_iast hc hw hS27 (by omega) (by omega) dX9_fill_140 (fun S29 H locs hS29 fS29 hw => ?_)
              have i2 : (xw + 2 + (acc.length : Int)).toNat = xw.toNat + 2 + acc.length := by omega
              have a2 : va_up (va_up kw x.1 (kw x.1 - 1)) (xw.toNat + 2 + acc.length) (64 * (x.1 : Int) + x.2) (xw.toNat + 1) = acc.length := by rw [va_up_ne _ _ (by omega)]; exact a1
              obtain ⟨k2, hk2⟩ : ∃ k2 : Nat → Int, k2 = (va_up (va_up (va_up kw (x.1 : Int).toNat ((kw (x.1 : Int).toNat) - 1)) ((xw + 2) + ((va_up kw (x.1 : Int).toNat ((kw (x.1 : Int).toNat) - 1)) (xw + 1).toNat)).toNat ((64 * (x.1 : Int)) + x.2)) (xw + 1).toNat (((va_up (va_up kw (x.1 : Int).toNat ((kw (x.1 : Int).toNat) - 1)) ((xw + 2) + ((va_up kw (x.1 : Int).toNat ((kw (x.1 : Int).toNat) - 1)) (xw + 1).toNat)).toNat ((64 * (x.1 : Int)) + x.2)) (xw + 1).toNat) + 1)) := ⟨_, rfl⟩
              have hk3 : k2 = va_up (va_up (va_up kw x.1 (kw x.1 - 1)) (xw.toNat + 2 + acc.length) (64 * (x.1 : Int) + x.2)) (xw.toNat + 1) ((acc.length : Int) + 1) := by rw [hk2]; simp only [Int.toNat_natCast, i1, a1, i2, a2]
              have hst9 := mRow_step (x := x) (r := xw.toNat) (k := acc.length) (m := (acc.length : Int) + 1) (by omega) rfl hx8 rfl hm
              rw [← hk3] at hst9
              have hly9 := hly8 k2 hst9.2
              refine lv_iload hc.1 hc.2.1 dX9_fill_141 (lv_at hl 0 rfl) ?_
              refine lv_aload_n hc.1 hc.2.1 dX9_fill_143 rfl (lv_at hl 1 rfl) ?_
              have e30 : S29 z = oO 9 [.ref (z + 1), .int (iI mLen), .int (iI mAt), .ref (z + 2), .ref (z + 3), .ref (z + 4), .ref (z + 5), .int (iI mHC), .int (iI mRC), .ref (z + 6), .ref (z + 7), .ref (z + 8), .int (iI mHS), .ref (z + 9), .ref (z + 10), .int (iI ((bs.length - 1 : Nat) : Int)), .int (iI (x.1 : Int)), .int (iI x.2)] := (fS29 z (off_nl (x := z) (a := 6) (by decide))).trans e28
              refine nn_get hc hw e30 hiX9 rfl 17 (by decide) rfl lk123 dX9_fill_144 ?_
              refine nn_iadd hc dX9_fill_147 ?_
              refine lv_istore (lv' := [(5, .int (iI (p + x.2))), (0, .ref z), (1, .int (iI x0)), (2, .int (iI xc)), (3, .int (iI xR)), (4, .int (iI xw))]) hc.1 hc.2.1 dX9_fill_148 hl (by decide) rfl (fun ls hl => ?_)
              refine lv_goto hc.1 hc.2.1 dX9_fill_150 (tgt := 51) (by decide) ?_
              exact ih51 (p + x.2) k2 (x.1 : Int) x.2 (acc ++ [x]) rr S29 _ _ _ (by rw [tot_snoc acc x.1 x.2, List.length_append]; simp only [List.length_cons, List.length_nil]; omega) (hst9.1) (okS_snoc hok hx9) (fun i hi => by rw [hst9.2 i (by omega)]; have h9 := hkw i hi; unfold va_up; split; rename_i e9; rw [e9] at h9; omega; exact h9) (hly9) e30 (hk2 ▸ hS29) (fun bb hb0 hb1 => (((((fS29 bb hb1)).trans (fS27 bb hb1)).trans (fS25 bb hb1)).trans (fS22 bb hb0)).trans (fr51 bb hb0 hb1)) hw (by rw [if_pos (show p < rmF (stg 1) (stg 4) (sumI (fun k => (nw (9 + 62 * k) - stg 2) / 2) (nw 8).toNat) by omega)] at hmeas; rw [List.length_append]; simp only [List.length_cons, List.length_nil]; split <;> omega) (lv_sub hl [0, 1, 2, 3, 4, 5] rfl)
            · exact absurd c23 (by decide)
          · have hre := lstI_r (pE (mLn hps) (mBr hps) kw x0 (rmF (stg 1) (stg 4) (sumI (fun k => (nw (9 + 62 * k) - stg 2) / 2) (nw 8).toNat)) p) mHC.toNat
            have hz1 : lstI (pE (mLn hps) (mBr hps) kw x0 (rmF (stg 1) (stg 4) (sumI (fun k => (nw (9 + 62 * k) - stg 2) / 2) (nw 8).toNat)) p) mHC.toNat = -4 := by omega
            obtain ⟨x, rr, hp1, hl4, hl3⟩ := layG_step hl1 (by omega)
            have hx9 := (fun (h9 : x.1 < mHC.toNat ∧ mLn hps x.1 = x0 ∧ 0 < kw x.1 ∧ 1 ≤ x.2 ∧ x.2 ≤ mBr hps x.1) => (⟨h9.1, h9.2.1, h9.2.2.2.1, h9.2.2.2.2⟩ : x.1 < mHC.toNat ∧ mLn hps x.1 = x0 ∧ 1 ≤ x.2 ∧ x.2 ≤ mBr hps x.1)) (pj_some (h := x.1) (v := x.2) hbr1 hp1)
            have hxf := pj_fits (R := rmF (stg 1) (stg 4) (sumI (fun k => (nw (9 + 62 * k) - stg 2) / 2) (nw 8).toNat)) hbr1 hz1 hp1
            have hly8 : ∀ k2 : Nat → Int, (∀ i : Nat, i < 8 → k2 i = va_up kw x.1 (kw x.1 - 1) i) → ((p + x.2 < rmF (stg 1) (stg 4) (sumI (fun k => (nw (9 + 62 * k) - stg 2) / 2) (nw 8).toNat) ∧ layG mHC.toNat (mLn hps) (mBr hps) x0 (rmF (stg 1) (stg 4) (sumI (fun k => (nw (9 + 62 * k) - stg 2) / 2) (nw 8).toNat)) jf (stg 3) (bs.length - 1) (60 - (acc ++ [x]).length) k2 (p + x.2) = some rr ∧ sl = (acc ++ [x]) ++ rr) ∨ (p + x.2 = rmF (stg 1) (stg 4) (sumI (fun k => (nw (9 + 62 * k) - stg 2) / 2) (nw 8).toNat) ∧ sl = acc ++ [x])) := fun k2 hq8 => Or.inl ⟨by omega, (by rw [List.length_append, show 60 - (acc.length + [x].length) = 59 - acc.length by simp only [List.length_cons, List.length_nil]; omega, (layG_congr _ k2 (va_up kw x.1 (kw x.1 - 1)) _ (fun i hi => hq8 i (by omega)))]; exact hl3), by rw [hl2, hl4, List.append_assoc]; rfl⟩
            have e31 : S1 (z + 2) = oI g 5 stg := (fS1 (z + 2) (off_ne (x := z) (a := 2) (b := 6) (by decide))).trans hst
            have e32 : S3 (z + 2) = oI g 5 stg := (fS3 (z + 2) (off_ne (x := z) (a := 2) (b := 6) (by decide))).trans e31
            have e33 : S7 (z + 2) = oI g 5 stg := (fS7 (z + 2) (off_nr (x := z) (a := 2) (by decide)) (off_ne (x := z) (a := 2) (b := 10) (by decide))).trans e32
            have e34 : S9 (z + 2) = oI g 5 stg := (fr51 (z + 2) (off_nr (x := z) (a := 2) (by decide)) (off_ne (x := z) (a := 2) (b := 6) (by decide))).trans e33
            have e35 : S1 (z + 4) = oI g 24 hps := (fS1 (z + 4) (off_ne (x := z) (a := 4) (b := 6) (by decide))).trans hhp
            have e36 : S3 (z + 4) = oI g 24 hps := (fS3 (z + 4) (off_ne (x := z) (a := 4) (b := 6) (by decide))).trans e35
            have e37 : S7 (z + 4) = oI g 24 hps := (fS7 (z + 4) (off_nr (x := z) (a := 4) (by decide)) (off_ne (x := z) (a := 4) (b := 10) (by decide))).trans e36
            have e38 : S9 (z + 4) = oI g 24 hps := (fr51 (z + 4) (off_nr (x := z) (a := 4) (by decide)) (off_ne (x := z) (a := 4) (b := 6) (by decide))).trans e37
            have e39 : S9 (z + 10) = oI g 60 jf := (fr51 (z + 10) (off_nr (x := z) (a := 10) (by decide)) (off_ne (x := z) (a := 10) (b := 6) (by decide))).trans hS7_1
            refine nn_Vs (As := [.int (iI x0), .int (iI p), .int (iI xR)]) (st := []) hc hw hc51_0 rfl (c_X9_choose_joint l g (hx := x.1) (vx := x.2) hc51_0 e34 e38 hc51_1 e39 (by omega) (rM) (hsrt) (hkw) (by omega) (by omega) (hjr) (by omega) (by omega) (by first | exact hz1 | (rw [hxR]; exact hz1)) (by rw [hJt]; exact hp1)) (cwV 3 hc.2.2.2.2 gX9_fill_X9_choose rfl rfl rfl (by decide +kernel) ⟨Nat.le_of_ble_eq_true rfl, Nat.le_of_ble_eq_true rfl⟩) rfl hl.1 rfl (Nat.le_of_ble_eq_true rfl) ⟨Nat.le_of_ble_eq_true rfl, Nat.le_of_ble_eq_true rfl⟩ dX9_fill_76 (fun vr n1 S40 H locs qS40 hw => ?_)
            obtain ⟨rfl, rfl, hS40_0, fS40⟩ := qS40
            refine W.eq (g2 := F0 m 79 ls [.int (iI 1)]) rfl ?_
            refine nn_if_ne hc dX9_fill_79 (tgt := 84) (by decide) (by decide) (fun c41 => ?_) (fun c41 => ?_)
            · have i1 : (xw + 1).toNat = xw.toNat + 1 := by omega
              have hx8 : x.1 < 8 := by omega
              have a1 : va_up kw x.1 (kw x.1 - 1) (xw.toNat + 1) = acc.length := by rw [va_up_ne _ _ (by omega), ← i1]; exact hcnt
              have hA : va_up kw (x.1 : Int).toNat (kw (x.1 : Int).toNat - 1) (xw + 1).toNat = acc.length := by simp only [Int.toNat_natCast, i1]; exact a1
              refine lv_aload_n hc.1 hc.2.1 dX9_fill_84 rfl (lv_at hl 1 rfl) ?_
              refine nn_get hc hw hS40_0 hiX9 rfl 9 (by decide) rfl lk25 dX9_fill_85 ?_
              refine lv_aload_n hc.1 hc.2.1 dX9_fill_88 rfl (lv_at hl 1 rfl) ?_
              refine nn_get hc hw hS40_0 hiX9 rfl 16 (by decide) rfl lk120 dX9_fill_89 ?_
              refine lv_dup2_11 hc.1 hc.2.1 dX9_fill_92 rfl rfl ?_
              have e42 : S40 (z + 6) = oI g 1249 kw := (fS40 (z + 6) (off_nr (x := z) (a := 6) (by decide))).trans hc51_1
              refine nn_iald hc hw e42 (by omega) (by omega) dX9_fill_93 ?_
              refine nn_iconst hc dX9_fill_94 ?_
              refine nn_isub hc dX9_fill_95 ?_
              refine nn_iast hc hw e42 (by omega) (by omega) dX9_fill_96 (fun S43 H locs hS43 fS43 hw => ?_)
              refine lv_aload_n hc.1 hc.2.1 dX9_fill_97 rfl (lv_at hl 1 rfl) ?_
              have e44 : S43 z = oO 9 [.ref (z + 1), .int (iI mLen), .int (iI mAt), .ref (z + 2), .ref (z + 3), .ref (z + 4), .ref (z + 5), .int (iI mHC), .int (iI mRC), .ref (z + 6), .ref (z + 7), .ref (z + 8), .int (iI mHS), .ref (z + 9), .ref (z + 10), .int (iI ((bs.length - 1 : Nat) : Int)), .int (iI (x.1 : Int)), .int (iI x.2)] := (fS43 z (off_nl (x := z) (a := 6) (by decide))).trans hS40_0
              refine nn_get hc hw e44 hiX9 rfl 9 (by decide) rfl lk25 dX9_fill_98 ?_
              refine lv_iload hc.1 hc.2.1 dX9_fill_101 (lv_at hl 5 rfl) ?_
              refine nn_iconst hc dX9_fill_103 ?_
              refine nn_iadd hc dX9_fill_104 ?_
              refine lv_aload_n hc.1 hc.2.1 dX9_fill_105 rfl (lv_at hl 1 rfl) ?_
              refine nn_get hc hw e44 hiX9 rfl 9 (by decide) rfl lk25 dX9_fill_106 ?_
              refine lv_iload hc.1 hc.2.1 dX9_fill_109 (lv_at hl 5 rfl) ?_
              refine nn_iconst hc dX9_fill_111 ?_
              refine nn_iadd hc dX9_fill_112 ?_
              refine nn_iald hc hw hS43 (by omega) (by omega) dX9_fill_113 ?_
              refine nn_iadd hc dX9_fill_114 ?_
              refine nn_bipush hc dX9_fill_115 (by decide +kernel) ?_
              refine lv_aload_n hc.1 hc.2.1 dX9_fill_117 rfl (lv_at hl 1 rfl) ?_
              refine nn_get hc hw e44 hiX9 rfl 16 (by decide) rfl lk120 dX9_fill_118 ?_
              refine nn_imul hc dX9_fill_121 ?_
              refine lv_aload_n hc.1 hc.2.1 dX9_fill_122 rfl (lv_at hl 1 rfl) ?_
              refine nn_get hc hw e44 hiX9 rfl 17 (by decide) rfl lk123 dX9_fill_123 ?_
              refine nn_iadd hc dX9_fill_126 ?_
              refine nn_iast hc hw hS43 (by omega) (by omega) dX9_fill_127 (fun S45 H locs hS45 fS45 hw => ?_)
              refine lv_aload_n hc.1 hc.2.1 dX9_fill_128 rfl (lv_at hl 1 rfl) ?_
              have e46 : S45 z = oO 9 [.ref (z + 1), .int (iI mLen), .int (iI mAt), .ref (z + 2), .ref (z + 3), .ref (z + 4), .ref (z + 5), .int (iI mHC), .int (iI mRC), .ref (z + 6), .ref (z + 7), .ref (z + 8), .int (iI mHS), .ref (z + 9), .ref (z + 10), .int (iI ((bs.length - 1 : Nat) : Int)), .int (iI (x.1 : Int)), .int (iI x.2)] := (fS45 z (off_nl (x := z) (a := 6) (by decide))).trans e44
              refine nn_get hc hw e46 hiX9 rfl 9 (by decide) rfl lk25 dX9_fill_129 ?_
              refine lv_iload hc.1 hc.2.1 dX9_fill_132 (lv_at hl 5 rfl) ?_
              refine nn_iconst hc dX9_fill_134 ?_
              refine nn_iadd hc dX9_fill_135 ?_
              refine lv_dup2_11 hc.1 hc.2.1 dX9_fill_136 rfl rfl ?_
              refine nn_iald hc hw hS45 (by omega) (by omega) dX9_fill_137 ?_
              refine nn_iconst hc dX9_fill_138 ?_
              refine nn_iadd hc dX9_fill_139 ?_
              refine nn_iast hc hw hS45 (by omega) (by omega) dX9_fill_140 (fun S47 H locs hS47 fS47 hw => ?_)
              have i2 : (xw + 2 + (acc.length : Int)).toNat = xw.toNat + 2 + acc.length := by omega
              have a2 : va_up (va_up kw x.1 (kw x.1 - 1)) (xw.toNat + 2 + acc.length) (64 * (x.1 : Int) + x.2) (xw.toNat + 1) = acc.length := by rw [va_up_ne _ _ (by omega)]; exact a1
              obtain ⟨k2, hk2⟩ : ∃ k2 : Nat → Int, k2 = (va_up (va_up (va_up kw (x.1 : Int).toNat ((kw (x.1 : Int).toNat) - 1)) ((xw + 2) + ((va_up kw (x.1 : Int).toNat ((kw (x.1 : Int).toNat) - 1)) (xw + 1).toNat)).toNat ((64 * (x.1 : Int)) + x.2)) (xw + 1).toNat (((va_up (va_up kw (x.1 : Int).toNat ((kw (x.1 : Int).toNat) - 1)) ((xw + 2) + ((va_up kw (x.1 : Int).toNat ((kw (x.1 : Int).toNat) - 1)) (xw + 1).toNat)).toNat ((64 * (x.1 : Int)) + x.2)) (xw + 1).toNat) + 1)) := ⟨_, rfl⟩
              have hk3 : k2 = va_up (va_up (va_up kw x.1 (kw x.1 - 1)) (xw.toNat + 2 + acc.length) (64 * (x.1 : Int) + x.2)) (xw.toNat + 1) ((acc.length : Int) + 1) := by rw [hk2]; simp only [Int.toNat_natCast, i1, a1, i2, a2]
              have hst9 := mRow_step (x := x) (r := xw.toNat) (k := acc.length) (m := (acc.length : Int) + 1) (by omega) rfl hx8 rfl hm
              rw [← hk3] at hst9
              have hly9 := hly8 k2 hst9.2
              refine lv_iload hc.1 hc.2.1 dX9_fill_141 (lv_at hl 0 rfl) ?_
              refine lv_aload_n hc.1 hc.2.1 dX9_fill_143 rfl (lv_at hl 1 rfl) ?_
              have e48 : S47 z = oO 9 [.ref (z + 1), .int (iI mLen), .int (iI mAt), .ref (z + 2), .ref (z + 3), .ref (z + 4), .ref (z + 5), .int (iI mHC), .int (iI mRC), .ref (z + 6), .ref (z + 7), .ref (z + 8), .int (iI mHS), .ref (z + 9), .ref (z + 10), .int (iI ((bs.length - 1 : Nat) : Int)), .int (iI (x.1 : Int)), .int (iI x.2)] := (fS47 z (off_nl (x := z) (a := 6) (by decide))).trans e46
              refine nn_get hc hw e48 hiX9 rfl 17 (by decide) rfl lk123 dX9_fill_144 ?_
              refine nn_iadd hc dX9_fill_147 ?_
              refine lv_istore (lv' := [(5, .int (iI (p + x.2))), (0, .ref z), (1, .int (iI x0)), (2, .int (iI xc)), (3, .int (iI xR)), (4, .int (iI xw))]) hc.1 hc.2.1 dX9_fill_148 hl (by decide) rfl (fun ls hl => ?_)
              refine lv_goto hc.1 hc.2.1 dX9_fill_150 (tgt := 51) (by decide) ?_
              exact ih51 (p + x.2) k2 (x.1 : Int) x.2 (acc ++ [x]) rr S47 _ _ _ (by rw [tot_snoc acc x.1 x.2, List.length_append]; simp only [List.length_cons, List.length_nil]; omega) (hst9.1) (okS_snoc hok hx9) (fun i hi => by rw [hst9.2 i (by omega)]; have h9 := hkw i hi; unfold va_up; split; rename_i e9; rw [e9] at h9; omega; exact h9) (hly9) e48 (hk2 ▸ hS47) (fun bb hb0 hb1 => (((((fS47 bb hb1)).trans (fS45 bb hb1)).trans (fS43 bb hb1)).trans (fS40 bb hb0)).trans (fr51 bb hb0 hb1)) hw (by rw [if_pos (show p < rmF (stg 1) (stg 4) (sumI (fun k => (nw (9 + 62 * k) - stg 2) / 2) (nw 8).toNat) by omega)] at hmeas; rw [List.length_append]; simp only [List.length_cons, List.length_nil]; split <;> omega) (lv_sub hl [0, 1, 2, 3, 4, 5] rfl)
            · exact absurd c41 (by decide)
  exact lab51 _ 0 (va_up (va_up nw xw.toNat x0) (xw + 1).toNat 0) mCh mVi ([]) sl S7 _ _ _ (⟨rfl, by decide, by decide⟩) (by rw [show (xw + 1).toNat = xw.toNat + 1 by omega]; exact mRow_0 (by omega)) (fun z9 hz9 => by cases hz9) (fun i hi => by rw [va_up_ne _ _ (by omega), va_up_ne _ _ (by omega)]; exact rW i hi) (Or.inl ⟨by omega, hL0, rfl⟩) hS7_0 e8 (fun bb _ _ => rfl) hw (Nat.lt_succ_self _) (lv_sub hl [0, 4, 5, 3, 2, 1] rfl)

set_option maxHeartbeats 4000000 in
set_option maxRecDepth 100000 in
theorem c_X9_fill_no (l : Launch) (g : gG) {n : Nat} {S : Nat → gE} {z : Nat} {mLen mAt mHC mRC mHS mJC mCh mVi : Int} {stg hps nw js : Nat → Int} {x0 bL : Int} {bs : sL} (hz : S z = oO 9 [.ref (z + 1), .int (iI mLen), .int (iI mAt), .ref (z + 2), .ref (z + 3), .ref (z + 4), .ref (z + 5), .int (iI mHC), .int (iI mRC), .ref (z + 6), .ref (z + 7), .ref (z + 8), .int (iI mHS), .ref (z + 9), .ref (z + 10), .int (iI mJC), .int (iI mCh), .int (iI mVi)]) (hst : S (z + 2) = oI g 5 stg) (hhp : S (z + 4) = oI g 24 hps) (hnw : S (z + 6) = oI g 1249 nw) (hjs : S (z + 10) = oI g 60 js) (rHC : 0 ≤ mHC ∧ mHC ≤ 8) (rM : ∀ i : Nat, (i : Int) < mHC → (20 ≤ mLn hps i ∧ mLn hps i ≤ 60) ∧ (10 ≤ mBr hps i ∧ mBr hps i ≤ 60)) (hsrt : srt mHC (mLn hps) (mBr hps)) (rW : ∀ i : Nat, (i : Int) < mHC → 0 ≤ nw i ∧ nw i ≤ 1000000) (rb : 1 ≤ stg 3 ∧ stg 3 ≤ 1000) (rx0 : 20 ≤ x0 ∧ x0 ≤ 60) (rc : 0 ≤ nw 8 ∧ nw 8 < 20) (rg : ∀ k : Nat, (k : Int) < nw 8 → 0 ≤ nw (9 + 62 * k) - stg 2 ∧ nw (9 + 62 * k) - stg 2 ≤ 1000) (rr0 : (0 ≤ stg 1 ∧ stg 1 ≤ 1000) ∧ (0 ≤ stg 4 * (sumI (fun k => (nw (9 + 62 * k) - stg 2) / 2) (nw 8).toNat) ∧ stg 4 * (sumI (fun k => (nw (9 + 62 * k) - stg 2) / 2) (nw 8).toNat) ≤ 1000000)) (hbs : (nw 8 = 0 ∧ bs = []) ∨ (0 < nw 8 ∧ rowIs nw (nw 8 - 1).toNat bL bs ∧ 1 ≤ bs.length ∧ bs.length ≤ 60)) (hbv : ∀ i : Nat, i < bs.length → 0 ≤ slV bs i ∧ slV bs i < 64 ∧ 0 ≤ slH bs i ∧ slH bs i < 8) (hbe : ∀ i : Nat, -1000000 ≤ slE bs i ∧ slE bs i ≤ 1000000) (hlay : layC mHC.toNat (mLn hps) (mBr hps) (stg 1) (stg 4) (stg 3) x0 nw (sumI (fun k => (nw (9 + 62 * k) - stg 2) / 2) (nw 8).toNat) bs = none) : g_Cs l yX9_fill wsX9_fill { frames := 3, cells := 0, slots := 0, locals := 66 } g [.ref z, .int (iI x0)] n S (fun vr n1 S1 => ∃ jf9 : Nat → Int, ∃ kw9 : Nat → Int, ∃ ch9 : Int, ∃ vi9 : Int, ∃ acc9 : sL, vr = some (.int (iI 0)) ∧ n = n1 ∧ S1 z = oO 9 [.ref (z + 1), .int (iI mLen), .int (iI mAt), .ref (z + 2), .ref (z + 3), .ref (z + 4), .ref (z + 5), .int (iI mHC), .int (iI mRC), .ref (z + 6), .ref (z + 7), .ref (z + 8), .int (iI mHS), .ref (z + 9), .ref (z + 10), .int (iI ((bs.length - 1 : Nat) : Int)), .int (iI ch9), .int (iI vi9)] ∧ S1 (z + 6) = oI g 1249 kw9 ∧ S1 (z + 10) = oI g 60 jf9 ∧ mRow nw kw9 (nw 8).toNat x0 acc9 ∧ okS mHC.toNat (mLn hps) (mBr hps) x0 acc9 ∧ acc9.length ≤ 60 ∧ (∀ bb, bb ≠ z → bb ≠ (z + 6) → bb ≠ (z + 10) → S1 bb = S bb)) 0 0 := by
  refine g_Cs.of (cc := cX9_fill) (maxL := 6) (ret := (some .boolean)) (by decide) rfl (Nat.le_of_ble_eq_true rfl) ?_
  intro pp ee s m below meth cK Q H locs ls hc hnm hw hl hret
  have hl : lv_has ls 6 [(0, .ref z), (1, .int (iI x0))] := hl
  have hiX9 : ∀ w ∈ u_ws RX9 TX9 18, w ∈ wsX9_fill := by decide +kernel
  have lk25 : Cond.fieldLink RX9 25 "RoofCoursesModel" "now" "[I" ∈ wsX9_fill := by decide +kernel
  have lk120 : Cond.fieldLink RX9 120 "RoofCoursesModel" "chosen" "I" ∈ wsX9_fill := by decide +kernel
  have lk123 : Cond.fieldLink RX9 123 "RoofCoursesModel" "visible" "I" ∈ wsX9_fill := by decide +kernel
  have hbr1 : ∀ i : Nat, i < mHC.toNat → 1 ≤ mBr hps i := fun i hi => by have := rM i (by omega); omega
  refine lv_aload_n hc.1 hc.2.1 dX9_fill_0 rfl (lv_at hl 0 rfl) ?_
  refine nn_get hc hw hz hiX9 rfl 9 (by decide) rfl lk25 dX9_fill_1 ?_
  refine nn_bipush hc dX9_fill_4 (by decide +kernel) ?_
  refine nn_iald hc hw hnw (by omega) (by omega) dX9_fill_6 ?_
  refine W.eq (g2 := F0 m 7 ls [.int (iI (nw 8))]) rfl ?_
  refine nn_name (fun xc exc => ?_)
  refine lv_istore_n (lv' := [(2, .int (iI xc)), (0, .ref z), (1, .int (iI x0))]) hc.1 hc.2.1 dX9_fill_7 rfl hl (by decide) rfl (fun ls hl => ?_)
  refine lv_aload_n hc.1 hc.2.1 dX9_fill_8 rfl (lv_at hl 1 rfl) ?_
  refine lv_iload_n hc.1 hc.2.1 dX9_fill_9 rfl (lv_at hl 0 rfl) ?_
  refine nn_Vp (As := [.int (iI xc)]) (st := []) hc hw hz rfl (c_X9_room l g  hz hst hnw (by omega) (fun k hk => rg k (by omega)) (by rw [exc]; exact rr0)) (cwV 1 hc.2.2.2.2 gX9_fill_X9_room rfl rfl rfl (by decide +kernel) ⟨Nat.le_of_ble_eq_true rfl, Nat.le_of_ble_eq_true rfl⟩) rfl hl.1 rfl (Nat.le_of_ble_eq_true rfl) ⟨Nat.le_of_ble_eq_true rfl, Nat.le_of_ble_eq_true rfl⟩ dX9_fill_10 ?_
  refine W.eq (g2 := F0 m 13 ls [.int (iI (rmF (stg 1) (stg 4) (sumI (fun k => (nw (9 + 62 * k) - stg 2) / 2) xc.toNat)))]) rfl ?_
  refine nn_name (fun xR exR => ?_)
  refine lv_istore_n (lv' := [(3, .int (iI xR)), (2, .int (iI xc)), (0, .ref z), (1, .int (iI x0))]) hc.1 hc.2.1 dX9_fill_13 rfl hl (by decide) rfl (fun ls hl => ?_)
  have hxR : xR = rmF (stg 1) (stg 4) (sumI (fun k => (nw (9 + 62 * k) - stg 2) / 2) (nw 8).toNat) := by rw [exR, exc]
  have hxc : xc = nw 8 := exc
  refine nn_bipush hc dX9_fill_14 (by decide +kernel) ?_
  refine nn_bipush hc dX9_fill_16 (by decide +kernel) ?_
  refine lv_iload_n hc.1 hc.2.1 dX9_fill_18 rfl (lv_at hl 1 rfl) ?_
  refine nn_imul hc dX9_fill_19 ?_
  refine nn_iadd hc dX9_fill_20 ?_
  refine nn_name (fun xw exw => ?_)
  refine lv_istore (lv' := [(4, .int (iI xw)), (3, .int (iI xR)), (2, .int (iI xc)), (0, .ref z), (1, .int (iI x0))]) hc.1 hc.2.1 dX9_fill_21 hl (by decide) rfl (fun ls hl => ?_)
  have hRge := rmF_ge (stg 1) (stg 4) (sumI (fun k => (nw (9 + 62 * k) - stg 2) / 2) (nw 8).toNat)
  have hRle := rmF_le (wi := stg 1) (hp := stg 4) (f := (sumI (fun k => (nw (9 + 62 * k) - stg 2) / 2) (nw 8).toNat)) rr0.1 rr0.2.1
  refine lv_aload_n hc.1 hc.2.1 dX9_fill_23 rfl (lv_at hl 3 rfl) ?_
  refine nn_get hc hw hz hiX9 rfl 9 (by decide) rfl lk25 dX9_fill_24 ?_
  refine lv_iload hc.1 hc.2.1 dX9_fill_27 (lv_at hl 0 rfl) ?_
  refine lv_iload_n hc.1 hc.2.1 dX9_fill_29 rfl (lv_at hl 4 rfl) ?_
  refine nn_iast hc hw hnw (by omega) (by omega) dX9_fill_30 (fun S1 H locs hS1 fS1 hw => ?_)
  refine lv_aload_n hc.1 hc.2.1 dX9_fill_31 rfl (lv_at hl 3 rfl) ?_
  have e2 : S1 z = oO 9 [.ref (z + 1), .int (iI mLen), .int (iI mAt), .ref (z + 2), .ref (z + 3), .ref (z + 4), .ref (z + 5), .int (iI mHC), .int (iI mRC), .ref (z + 6), .ref (z + 7), .ref (z + 8), .int (iI mHS), .ref (z + 9), .ref (z + 10), .int (iI mJC), .int (iI mCh), .int (iI mVi)] := (fS1 z (off_nl (x := z) (a := 6) (by decide))).trans hz
  refine nn_get hc hw e2 hiX9 rfl 9 (by decide) rfl lk25 dX9_fill_32 ?_
  refine lv_iload hc.1 hc.2.1 dX9_fill_35 (lv_at hl 0 rfl) ?_
  refine nn_iconst hc dX9_fill_37 ?_
  refine nn_iadd hc dX9_fill_38 ?_
  refine nn_iconst hc dX9_fill_39 ?_
  refine nn_iast hc hw hS1 (by omega) (by omega) dX9_fill_40 (fun S3 H locs hS3 fS3 hw => ?_)
  refine lv_aload_n hc.1 hc.2.1 dX9_fill_41 rfl (lv_at hl 3 rfl) ?_
  refine lv_iload_n hc.1 hc.2.1 dX9_fill_42 rfl (lv_at hl 2 rfl) ?_
  refine nn_iconst hc dX9_fill_43 ?_
  refine nn_isub hc dX9_fill_44 ?_
  have e4 : S3 z = oO 9 [.ref (z + 1), .int (iI mLen), .int (iI mAt), .ref (z + 2), .ref (z + 3), .ref (z + 4), .ref (z + 5), .int (iI mHC), .int (iI mRC), .ref (z + 6), .ref (z + 7), .ref (z + 8), .int (iI mHS), .ref (z + 9), .ref (z + 10), .int (iI mJC), .int (iI mCh), .int (iI mVi)] := (fS3 z (off_nl (x := z) (a := 6) (by decide))).trans e2
  have e5 : S1 (z + 10) = oI g 60 js := (fS1 (z + 10) (off_ne (x := z) (a := 10) (b := 6) (by decide))).trans hjs
  have e6 : S3 (z + 10) = oI g 60 js := (fS3 (z + 10) (off_ne (x := z) (a := 10) (b := 6) (by decide))).trans e5
  refine nn_Vs (As := [.int (iI (xc - 1))]) (st := []) hc hw e4 rfl (c_X9_findJoints_any l g (bs := bs) (bL := bL) e4 hS3 e6 (by rcases hbs with ⟨h1, h2⟩ | ⟨h1, h2, h3, h4⟩; exact Or.inl ⟨by omega, by omega, h2⟩; exact Or.inr ⟨by omega, by omega, by rw [show (xc - 1).toNat = (nw 8 - 1).toNat by omega]; exact h2.kept h4 (c := xc.toNat) (by omega) (fun i g1 g2 => by rw [va_up_ne _ _ (by omega), va_up_ne _ _ (by omega)]), h3, h4⟩) (hbv)) (cwV 1 hc.2.2.2.2 gX9_fill_X9_findJoints rfl rfl rfl (by decide +kernel) ⟨Nat.le_of_ble_eq_true rfl, Nat.le_of_ble_eq_true rfl⟩) rfl hl.1 rfl (Nat.le_of_ble_eq_true rfl) ⟨Nat.le_of_ble_eq_true rfl, Nat.le_of_ble_eq_true rfl⟩ dX9_fill_45 (fun vr n1 S7 H locs qS7 hw => ?_)
  obtain ⟨jf, rfl, rfl, hS7_0, hS7_1, kS7_0, fS7⟩ := qS7
  refine W.eq (g2 := F0 m 48 ls []) rfl ?_
  have hjl : ∀ i : Nat, i < bs.length - 1 → jf i = slE bs i := kS7_0
  have hbl : bs.length ≤ 60 := by rcases hbs with ⟨h1, h2⟩ | ⟨h1, h2, h3, h4⟩; rw [h2]; decide; exact h4
  have e8 : S7 (z + 6) = oI g 1249 (va_up (va_up nw xw.toNat x0) (xw + 1).toNat 0) := (fS7 (z + 6) (off_nr (x := z) (a := 6) (by decide)) (off_ne (x := z) (a := 6) (b := 10) (by decide))).trans hS3
  have hL0 : layG mHC.toNat (mLn hps) (mBr hps) x0 (rmF (stg 1) (stg 4) (sumI (fun k => (nw (9 + 62 * k) - stg 2) / 2) (nw 8).toNat)) jf (stg 3) (bs.length - 1) 60 ((va_up (va_up nw xw.toNat x0) (xw + 1).toNat 0)) 0 = none := (layG_ed (fun i hi => hjl i hi) 60 _ 0).trans ((layG_congr 60 _ nw 0 (fun i hi => by rw [va_up_ne _ _ (by omega), va_up_ne _ _ (by omega)])).trans hlay)
  refine nn_iconst hc dX9_fill_48 ?_
  refine lv_istore (lv' := [(5, .int (iI 0)), (4, .int (iI xw)), (3, .int (iI xR)), (2, .int (iI xc)), (0, .ref z), (1, .int (iI x0))]) hc.1 hc.2.1 dX9_fill_49 hl (by decide) rfl (fun ls hl => ?_)
  have lab51 : ∀ (fu51 : Nat) (p : Int) (kw : Nat → Int) (ch : Int) (vi : Int) (acc : sL) (S9 : Nat → gE) (H : Heap) (locs : List Loc) (ls : Array Slot), (p = tot acc ∧ 0 ≤ p ∧ acc.length ≤ 60) → (mRow nw kw xc.toNat x0 acc) → (okS mHC.toNat (mLn hps) (mBr hps) x0 acc) → (∀ i : Nat, (i : Int) < mHC → 0 ≤ kw i ∧ kw i ≤ 1000000) → (p < rmF (stg 1) (stg 4) (sumI (fun k => (nw (9 + 62 * k) - stg 2) / 2) (nw 8).toNat) ∧ layG mHC.toNat (mLn hps) (mBr hps) x0 (rmF (stg 1) (stg 4) (sumI (fun k => (nw (9 + 62 * k) - stg 2) / 2) (nw 8).toNat)) jf (stg 3) (bs.length - 1) (60 - acc.length) kw p = none) → S9 z = oO 9 [.ref (z + 1), .int (iI mLen), .int (iI mAt), .ref (z + 2), .ref (z + 3), .ref (z + 4), .ref (z + 5), .int (iI mHC), .int (iI mRC), .ref (z + 6), .ref (z + 7), .ref (z + 8), .int (iI mHS), .ref (z + 9), .ref (z + 10), .int (iI ((bs.length - 1 : Nat) : Int)), .int (iI ch), .int (iI vi)] → S9 (z + 6) = oI g 1249 kw → (∀ bb, bb ≠ z → bb ≠ (z + 6) → S9 bb = S7 bb) → g_W g n S9 s H locs → (if p < rmF (stg 1) (stg 4) (sumI (fun k => (nw (9 + 62 * k) - stg 2) / 2) (nw 8).toNat) then 61 - (acc.length : Int) else 0).toNat < fu51 → lv_has ls 6 [(5, .int (iI p)), (0, .ref z), (1, .int (iI x0)), (2, .int (iI xc)), (3, .int (iI xR)), (4, .int (iI xw))] → W pp l ee ({ frames := 3, cells := 0, slots := 0, locals := 66 } : Room) s m ([.ref z, .int (iI x0)] : List Value).toArray below meth cK H locs 0 0 Q (F0 m 51 ls []) := by
    intro fu51
    induction fu51 with
    | zero =>
      intro p kw ch vi acc S9 H locs ls hp hm hok hkw hly hc51_0 hc51_1 fr51 hw hmeas hl
      exact absurd hmeas (Nat.not_lt_zero _)
    | succ fu51 ih51 =>
      intro p kw ch vi acc S9 H locs ls hp hm hok hkw hly hc51_0 hc51_1 fr51 hw hmeas hl
      refine lv_iload hc.1 hc.2.1 dX9_fill_51 (lv_at hl 0 rfl) ?_
      refine lv_iload_n hc.1 hc.2.1 dX9_fill_53 rfl (lv_at hl 4 rfl) ?_
      refine nn_icmp_ge hc dX9_fill_54 (tgt := 153) (by decide) (by omega) (by omega) (fun c10 => ?_) (fun c10 => ?_)
      · exfalso; omega
      · have hcnt : kw (xw + 1).toNat = acc.length := by rw [show (xw + 1).toNat = 9 + 62 * xc.toNat + 1 by omega]; exact hm.2.2.2.1
        refine lv_aload_n hc.1 hc.2.1 dX9_fill_57 rfl (lv_at hl 1 rfl) ?_
        refine nn_get hc hw hc51_0 hiX9 rfl 9 (by decide) rfl lk25 dX9_fill_58 ?_
        refine lv_iload hc.1 hc.2.1 dX9_fill_61 (lv_at hl 5 rfl) ?_
        refine nn_iconst hc dX9_fill_63 ?_
        refine nn_iadd hc dX9_fill_64 ?_
        refine nn_iald hc hw hc51_1 (by omega) (by omega) dX9_fill_65 ?_
        refine nn_bipush hc dX9_fill_66 (by decide +kernel) ?_
        refine nn_icmp_eq hc dX9_fill_68 (tgt := 82) (by decide) (by omega) (by decide) (fun c11 => ?_) (fun c11 => ?_)
        · refine nn_iconst hc dX9_fill_82 ?_
          have e12 : S9 (z + 10) = oI g 60 jf := (fr51 (z + 10) (off_nr (x := z) (a := 10) (by decide)) (off_ne (x := z) (a := 10) (b := 6) (by decide))).trans hS7_1
          exact hret (some (.int (iI 0))) _ S9 _ _ _ _ hw (⟨_, _, _, _, _, rfl, rfl, hc51_0, hc51_1, e12, (by rw [← hxc]; exact hm), hok, hp.2.2, fun bb hb0 hb1 hb2 => ((((fr51 bb hb0 hb1)).trans (fS7 bb hb0 hb2)).trans (fS3 bb hb1)).trans (fS1 bb hb1)⟩) ⟨_, rfl, by first | rfl | exact nn_nb _, dX9_fill_83⟩
        · have hjr : ∀ i : Nat, (i : Int) < ((bs.length - 1 : Nat) : Int) → -1000000 ≤ jf i ∧ jf i ≤ 1000000 := fun i hi => by rw [hjl i (by omega)]; exact hbe i
          have hJt : (((bs.length - 1 : Nat) : Int)).toNat = bs.length - 1 := Int.toNat_natCast _
          have hw9 : 60 - acc.length = 59 - acc.length + 1 := by omega
          obtain ⟨hlt, hl1⟩ := hly
          rw [hw9] at hl1
          obtain ⟨hz1, hz2⟩ := layG_no hl1
          refine lv_aload_n hc.1 hc.2.1 dX9_fill_71 rfl (lv_at hl 1 rfl) ?_
          refine lv_iload_n hc.1 hc.2.1 dX9_fill_72 rfl (lv_at hl 2 rfl) ?_
          refine lv_iload hc.1 hc.2.1 dX9_fill_73 (lv_at hl 0 rfl) ?_
          refine lv_iload_n hc.1 hc.2.1 dX9_fill_75 rfl (lv_at hl 4 rfl) ?_
          rcases hz2 with hp1 | ⟨x, hp1, hl3⟩
          · have e13 : S1 (z + 2) = oI g 5 stg := (fS1 (z + 2) (off_ne (x := z) (a := 2) (b := 6) (by decide))).trans hst
            have e14 : S3 (z + 2) = oI g 5 stg := (fS3 (z + 2) (off_ne (x := z) (a := 2) (b := 6) (by decide))).trans e13
            have e15 : S7 (z + 2) = oI g 5 stg := (fS7 (z + 2) (off_nr (x := z) (a := 2) (by decide)) (off_ne (x := z) (a := 2) (b := 10) (by decide))).trans e14
            have e16 : S9 (z + 2) = oI g 5 stg := (fr51 (z + 2) (off_nr (x := z) (a := 2) (by decide)) (off_ne (x := z) (a := 2) (b := 6) (by decide))).trans e15
            have e17 : S1 (z + 4) = oI g 24 hps := (fS1 (z + 4) (off_ne (x := z) (a := 4) (b := 6) (by decide))).trans hhp
            have e18 : S3 (z + 4) = oI g 24 hps := (fS3 (z + 4) (off_ne (x := z) (a := 4) (b := 6) (by decide))).trans e17
            have e19 : S7 (z + 4) = oI g 24 hps := (fS7 (z + 4) (off_nr (x := z) (a := 4) (by decide)) (off_ne (x := z) (a := 4) (b := 10) (by decide))).trans e18
            have e20 : S9 (z + 4) = oI g 24 hps := (fr51 (z + 4) (off_nr (x := z) (a := 4) (by decide)) (off_ne (x := z) (a := 4) (b := 6) (by decide))).trans e19
            have e21 : S9 (z + 10) = oI g 60 jf := (fr51 (z + 10) (off_nr (x := z) (a := 10) (by decide)) (off_ne (x := z) (a := 10) (b := 6) (by decide))).trans hS7_1
            refine nn_Vs (As := [.int (iI x0), .int (iI p), .int (iI xR)]) (st := []) hc hw hc51_0 rfl (c_X9_choose_none l g  hc51_0 e16 e20 hc51_1 e21 (by omega) (rM) (hsrt) (hkw) (by omega) (by omega) (hjr) (by omega) (by omega) (by first | exact hz1 | (rw [hxR]; exact hz1)) (by rw [hJt]; exact hp1)) (cwV 3 hc.2.2.2.2 gX9_fill_X9_choose rfl rfl rfl (by decide +kernel) ⟨Nat.le_of_ble_eq_true rfl, Nat.le_of_ble_eq_true rfl⟩) rfl hl.1 rfl (Nat.le_of_ble_eq_true rfl) ⟨Nat.le_of_ble_eq_true rfl, Nat.le_of_ble_eq_true rfl⟩ dX9_fill_76 (fun vr n1 S22 H locs qS22 hw => ?_)
            obtain ⟨c1_23, v1_24, rfl, rfl, hS22_0, fS22⟩ := qS22
            refine W.eq (g2 := F0 m 79 ls [.int (iI 0)]) rfl ?_
            refine nn_if_ne hc dX9_fill_79 (tgt := 84) (by decide) (by decide) (fun c25 => ?_) (fun c25 => ?_)
            · exact absurd c25 (by decide)
            · refine nn_iconst hc dX9_fill_82 ?_
              have e26 : S22 (z + 6) = oI g 1249 kw := (fS22 (z + 6) (off_nr (x := z) (a := 6) (by decide))).trans hc51_1
              have e27 : S22 (z + 10) = oI g 60 jf := (fS22 (z + 10) (off_nr (x := z) (a := 10) (by decide))).trans e21
              exact hret (some (.int (iI 0))) _ S22 _ _ _ _ hw (⟨_, _, _, _, _, rfl, rfl, hS22_0, e26, e27, (by rw [← hxc]; exact hm), hok, hp.2.2, fun bb hb0 hb1 hb2 => (((((fS22 bb hb0)).trans (fr51 bb hb0 hb1)).trans (fS7 bb hb0 hb2)).trans (fS3 bb hb1)).trans (fS1 bb hb1)⟩) ⟨_, rfl, by first | rfl | exact nn_nb _, dX9_fill_83⟩
          · have hx9 := (fun (h9 : x.1 < mHC.toNat ∧ mLn hps x.1 = x0 ∧ 0 < kw x.1 ∧ 1 ≤ x.2 ∧ x.2 ≤ mBr hps x.1) => (⟨h9.1, h9.2.1, h9.2.2.2.1, h9.2.2.2.2⟩ : x.1 < mHC.toNat ∧ mLn hps x.1 = x0 ∧ 1 ≤ x.2 ∧ x.2 ≤ mBr hps x.1)) (pj_some (h := x.1) (v := x.2) hbr1 hp1)
            have hxf := pj_fits (R := rmF (stg 1) (stg 4) (sumI (fun k => (nw (9 + 62 * k) - stg 2) / 2) (nw 8).toNat)) hbr1 hz1 hp1
            have hly8 : ∀ k2 : Nat → Int, (∀ i : Nat, i < 8 → k2 i = va_up kw x.1 (kw x.1 - 1) i) → (p + x.2 < rmF (stg 1) (stg 4) (sumI (fun k => (nw (9 + 62 * k) - stg 2) / 2) (nw 8).toNat) ∧ layG mHC.toNat (mLn hps) (mBr hps) x0 (rmF (stg 1) (stg 4) (sumI (fun k => (nw (9 + 62 * k) - stg 2) / 2) (nw 8).toNat)) jf (stg 3) (bs.length - 1) (60 - (acc ++ [x]).length) k2 (p + x.2) = none) := fun k2 hq8 => ⟨by omega, (by rw [List.length_append, show 60 - (acc.length + [x].length) = 59 - acc.length by simp only [List.length_cons, List.length_nil]; omega, (layG_congr _ k2 (va_up kw x.1 (kw x.1 - 1)) _ (fun i hi => hq8 i (by omega)))]; exact hl3)⟩
            have e28 : S1 (z + 2) = oI g 5 stg := (fS1 (z + 2) (off_ne (x := z) (a := 2) (b := 6) (by decide))).trans hst
            have e29 : S3 (z + 2) = oI g 5 stg := (fS3 (z + 2) (off_ne (x := z) (a := 2) (b := 6) (by decide))).trans e28
            have e30 : S7 (z + 2) = oI g 5 stg := (fS7 (z + 2) (off_nr (x := z) (a := 2) (by decide)) (off_ne (x := z) (a := 2) (b := 10) (by decide))).trans e29
            have e31 : S9 (z + 2) = oI g 5 stg := (fr51 (z + 2) (off_nr (x := z) (a := 2) (by decide)) (off_ne (x := z) (a := 2) (b := 6) (by decide))).trans e30
            have e32 : S1 (z + 4) = oI g 24 hps := (fS1 (z + 4) (off_ne (x := z) (a := 4) (b := 6) (by decide))).trans hhp
            have e33 : S3 (z + 4) = oI g 24 hps := (fS3 (z + 4) (off_ne (x := z) (a := 4) (b := 6) (by decide))).trans e32
            have e34 : S7 (z + 4) = oI g 24 hps := (fS7 (z + 4) (off_nr (x := z) (a := 4) (by decide)) (off_ne (x := z) (a := 4) (b := 10) (by decide))).trans e33
            have e35 : S9 (z + 4) = oI g 24 hps := (fr51 (z + 4) (off_nr (x := z) (a := 4) (by decide)) (off_ne (x := z) (a := 4) (b := 6) (by decide))).trans e34
            have e36 : S9 (z + 10) = oI g 60 jf := (fr51 (z + 10) (off_nr (x := z) (a := 10) (by decide)) (off_ne (x := z) (a := 10) (b := 6) (by decide))).trans hS7_1
            refine nn_Vs (As := [.int (iI x0), .int (iI p), .int (iI xR)]) (st := []) hc hw hc51_0 rfl (c_X9_choose_joint l g (hx := x.1) (vx := x.2) hc51_0 e31 e35 hc51_1 e36 (by omega) (rM) (hsrt) (hkw) (by omega) (by omega) (hjr) (by omega) (by omega) (by first | exact hz1 | (rw [hxR]; exact hz1)) (by rw [hJt]; exact hp1)) (cwV 3 hc.2.2.2.2 gX9_fill_X9_choose rfl rfl rfl (by decide +kernel) ⟨Nat.le_of_ble_eq_true rfl, Nat.le_of_ble_eq_true rfl⟩) rfl hl.1 rfl (Nat.le_of_ble_eq_true rfl) ⟨Nat.le_of_ble_eq_true rfl, Nat.le_of_ble_eq_true rfl⟩ dX9_fill_76 (fun vr n1 S37 H locs qS37 hw => ?_)
            obtain ⟨rfl, rfl, hS37_0, fS37⟩ := qS37
            refine W.eq (g2 := F0 m 79 ls [.int (iI 1)]) rfl ?_
            refine nn_if_ne hc dX9_fill_79 (tgt := 84) (by decide) (by decide) (fun c38 => ?_) (fun c38 => ?_)
            · have i1 : (xw + 1).toNat = xw.toNat + 1 := by omega
              have hx8 : x.1 < 8 := by omega
              have a1 : va_up kw x.1 (kw x.1 - 1) (xw.toNat + 1) = acc.length := by rw [va_up_ne _ _ (by omega), ← i1]; exact hcnt
              have hA : va_up kw (x.1 : Int).toNat (kw (x.1 : Int).toNat - 1) (xw + 1).toNat = acc.length := by simp only [Int.toNat_natCast, i1]; exact a1
              refine lv_aload_n hc.1 hc.2.1 dX9_fill_84 rfl (lv_at hl 1 rfl) ?_
              refine nn_get hc hw hS37_0 hiX9 rfl 9 (by decide) rfl lk25 dX9_fill_85 ?_
              refine lv_aload_n hc.1 hc.2.1 dX9_fill_88 rfl (lv_at hl 1 rfl) ?_
              refine nn_get hc hw hS37_0 hiX9 rfl 16 (by decide) rfl lk120 dX9_fill_89 ?_
              refine lv_dup2_11 hc.1 hc.2.1 dX9_fill_92 rfl rfl ?_
              have e39 : S37 (z + 6) = oI g 1249 kw := (fS37 (z + 6) (off_nr (x := z) (a := 6) (by decide))).trans hc51_1
              refine nn_iald hc hw e39 (by omega) (by omega) dX9_fill_93 ?_
              refine nn_iconst hc dX9_fill_94 ?_
              refine nn_isub hc dX9_fill_95 ?_
              refine nn_iast hc hw e39 (by omega) (by omega) dX9_fill_96 (fun S40 H locs hS40 fS40 hw => ?_)
              refine lv_aload_n hc.1 hc.2.1 dX9_fill_97 rfl (lv_at hl 1 rfl) ?_
              have e41 : S40 z = oO 9 [.ref (z + 1), .int (iI mLen), .int (iI mAt), .ref (z + 2), .ref (z + 3), .ref (z + 4), .ref (z + 5), .int (iI mHC), .int (iI mRC), .ref (z + 6), .ref (z + 7), .ref (z + 8), .int (iI mHS), .ref (z + 9), .ref (z + 10), .int (iI ((bs.length - 1 : Nat) : Int)), .int (iI (x.1 : Int)), .int (iI x.2)] := (fS40 z (off_nl (x := z) (a := 6) (by decide))).trans hS37_0
              refine nn_get hc hw e41 hiX9 rfl 9 (by decide) rfl lk25 dX9_fill_98 ?_
              refine lv_iload hc.1 hc.2.1 dX9_fill_101 (lv_at hl 5 rfl) ?_
              refine nn_iconst hc dX9_fill_103 ?_
              refine nn_iadd hc dX9_fill_104 ?_
              refine lv_aload_n hc.1 hc.2.1 dX9_fill_105 rfl (lv_at hl 1 rfl) ?_
              refine nn_get hc hw e41 hiX9 rfl 9 (by decide) rfl lk25 dX9_fill_106 ?_
              refine lv_iload hc.1 hc.2.1 dX9_fill_109 (lv_at hl 5 rfl) ?_
              refine nn_iconst hc dX9_fill_111 ?_
              refine nn_iadd hc dX9_fill_112 ?_
              refine nn_iald hc hw hS40 (by omega) (by omega) dX9_fill_113 ?_
              refine nn_iadd hc dX9_fill_114 ?_
              refine nn_bipush hc dX9_fill_115 (by decide +kernel) ?_
              refine lv_aload_n hc.1 hc.2.1 dX9_fill_117 rfl (lv_at hl 1 rfl) ?_
              refine nn_get hc hw e41 hiX9 rfl 16 (by decide) rfl lk120 dX9_fill_118 ?_
              refine nn_imul hc dX9_fill_121 ?_
              refine lv_aload_n hc.1 hc.2.1 dX9_fill_122 rfl (lv_at hl 1 rfl) ?_
              refine nn_get hc hw e41 hiX9 rfl 17 (by decide) rfl lk123 dX9_fill_123 ?_
              refine nn_iadd hc dX9_fill_126 ?_
              refine nn_iast hc hw hS40 (by omega) (by omega) dX9_fill_127 (fun S42 H locs hS42 fS42 hw => ?_)
              refine lv_aload_n hc.1 hc.2.1 dX9_fill_128 rfl (lv_at hl 1 rfl) ?_
              have e43 : S42 z = oO 9 [.ref (z + 1), .int (iI mLen), .int (iI mAt), .ref (z + 2), .ref (z + 3), .ref (z + 4), .ref (z + 5), .int (iI mHC), .int (iI mRC), .ref (z + 6), .ref (z + 7), .ref (z + 8), .int (iI mHS), .ref (z + 9), .ref (z + 10), .int (iI ((bs.length - 1 : Nat) : Int)), .int (iI (x.1 : Int)), .int (iI x.2)] := (fS42 z (off_nl (x := z) (a := 6) (by decide))).trans e41
              refine nn_get hc hw e43 hiX9 rfl 9 (by decide) rfl lk25 dX9_fill_129 ?_
              refine lv_iload hc.1 hc.2.1 dX9_fill_132 (lv_at hl 5 rfl) ?_
              refine nn_iconst hc dX9_fill_134 ?_
              refine nn_iadd hc dX9_fill_135 ?_
              refine lv_dup2_11 hc.1 hc.2.1 dX9_fill_136 rfl rfl ?_
              refine nn_iald hc hw hS42 (by omega) (by omega) dX9_fill_137 ?_
              refine nn_iconst hc dX9_fill_138 ?_
              refine nn_iadd hc dX9_fill_139 ?_
              refine nn_iast hc hw hS42 (by omega) (by omega) dX9_fill_140 (fun S44 H locs hS44 fS44 hw => ?_)
              have i2 : (xw + 2 + (acc.length : Int)).toNat = xw.toNat + 2 + acc.length := by omega
              have a2 : va_up (va_up kw x.1 (kw x.1 - 1)) (xw.toNat + 2 + acc.length) (64 * (x.1 : Int) + x.2) (xw.toNat + 1) = acc.length := by rw [va_up_ne _ _ (by omega)]; exact a1
              obtain ⟨k2, hk2⟩ : ∃ k2 : Nat → Int, k2 = (va_up (va_up (va_up kw (x.1 : Int).toNat ((kw (x.1 : Int).toNat) - 1)) ((xw + 2) + ((va_up kw (x.1 : Int).toNat ((kw (x.1 : Int).toNat) - 1)) (xw + 1).toNat)).toNat ((64 * (x.1 : Int)) + x.2)) (xw + 1).toNat (((va_up (va_up kw (x.1 : Int).toNat ((kw (x.1 : Int).toNat) - 1)) ((xw + 2) + ((va_up kw (x.1 : Int).toNat ((kw (x.1 : Int).toNat) - 1)) (xw + 1).toNat)).toNat ((64 * (x.1 : Int)) + x.2)) (xw + 1).toNat) + 1)) := ⟨_, rfl⟩
              have hk3 : k2 = va_up (va_up (va_up kw x.1 (kw x.1 - 1)) (xw.toNat + 2 + acc.length) (64 * (x.1 : Int) + x.2)) (xw.toNat + 1) ((acc.length : Int) + 1) := by rw [hk2]; simp only [Int.toNat_natCast, i1, a1, i2, a2]
              have hst9 := mRow_step (x := x) (r := xw.toNat) (k := acc.length) (m := (acc.length : Int) + 1) (by omega) rfl hx8 rfl hm
              rw [← hk3] at hst9
              have hly9 := hly8 k2 hst9.2
              refine lv_iload hc.1 hc.2.1 dX9_fill_141 (lv_at hl 0 rfl) ?_
              refine lv_aload_n hc.1 hc.2.1 dX9_fill_143 rfl (lv_at hl 1 rfl) ?_
              have e45 : S44 z = oO 9 [.ref (z + 1), .int (iI mLen), .int (iI mAt), .ref (z + 2), .ref (z + 3), .ref (z + 4), .ref (z + 5), .int (iI mHC), .int (iI mRC), .ref (z + 6), .ref (z + 7), .ref (z + 8), .int (iI mHS), .ref (z + 9), .ref (z + 10), .int (iI ((bs.length - 1 : Nat) : Int)), .int (iI (x.1 : Int)), .int (iI x.2)] := (fS44 z (off_nl (x := z) (a := 6) (by decide))).trans e43
              refine nn_get hc hw e45 hiX9 rfl 17 (by decide) rfl lk123 dX9_fill_144 ?_
              refine nn_iadd hc dX9_fill_147 ?_
              refine lv_istore (lv' := [(5, .int (iI (p + x.2))), (0, .ref z), (1, .int (iI x0)), (2, .int (iI xc)), (3, .int (iI xR)), (4, .int (iI xw))]) hc.1 hc.2.1 dX9_fill_148 hl (by decide) rfl (fun ls hl => ?_)
              refine lv_goto hc.1 hc.2.1 dX9_fill_150 (tgt := 51) (by decide) ?_
              exact ih51 (p + x.2) k2 (x.1 : Int) x.2 (acc ++ [x]) S44 _ _ _ (by rw [tot_snoc acc x.1 x.2, List.length_append]; simp only [List.length_cons, List.length_nil]; omega) (hst9.1) (okS_snoc hok hx9) (fun i hi => by rw [hst9.2 i (by omega)]; have h9 := hkw i hi; unfold va_up; split; rename_i e9; rw [e9] at h9; omega; exact h9) (hly9) e45 (hk2 ▸ hS44) (fun bb hb0 hb1 => (((((fS44 bb hb1)).trans (fS42 bb hb1)).trans (fS40 bb hb1)).trans (fS37 bb hb0)).trans (fr51 bb hb0 hb1)) hw (by rw [if_pos (show p < rmF (stg 1) (stg 4) (sumI (fun k => (nw (9 + 62 * k) - stg 2) / 2) (nw 8).toNat) by omega)] at hmeas; rw [List.length_append]; simp only [List.length_cons, List.length_nil]; split <;> omega) (lv_sub hl [0, 1, 2, 3, 4, 5] rfl)
            · exact absurd c38 (by decide)
  exact lab51 _ 0 (va_up (va_up nw xw.toNat x0) (xw + 1).toNat 0) mCh mVi ([]) S7 _ _ _ (⟨rfl, by decide, by decide⟩) (by rw [show (xw + 1).toNat = xw.toNat + 1 by omega]; exact mRow_0 (by omega)) (fun z9 hz9 => by cases hz9) (fun i hi => by rw [va_up_ne _ _ (by omega), va_up_ne _ _ (by omega)]; exact rW i hi) (⟨by omega, hL0⟩) hS7_0 e8 (fun bb _ _ => rfl) hw (Nat.lt_succ_self _) (lv_sub hl [0, 4, 5, 3, 2, 1] rfl)

