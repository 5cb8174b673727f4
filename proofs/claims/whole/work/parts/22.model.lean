set_option maxHeartbeats 4000000 in
set_option maxRecDepth 100000 in
theorem c_X9_findJoints_neg (l : Launch) (g : gG) {n : Nat} {S : Nat → gE} {z : Nat} {mLen mAt mHC mRC mHS mJC mCh mVi : Int} {c : Int} (hz : S z = oO 9 [.ref (z + 1), .int (iI mLen), .int (iI mAt), .ref (z + 2), .ref (z + 3), .ref (z + 4), .ref (z + 5), .int (iI mHC), .int (iI mRC), .ref (z + 6), .ref (z + 7), .ref (z + 8), .int (iI mHS), .ref (z + 9), .ref (z + 10), .int (iI mJC), .int (iI mCh), .int (iI mVi)]) (rc : -10 ≤ c ∧ c < 0) : g_Cs l yX9_findJoints wsX9_findJoints { frames := 1, cells := 0, slots := 0, locals := 22 } g [.ref z, .int (iI c)] n S (fun vr n1 S1 => vr = none ∧ n = n1 ∧ S1 z = oO 9 [.ref (z + 1), .int (iI mLen), .int (iI mAt), .ref (z + 2), .ref (z + 3), .ref (z + 4), .ref (z + 5), .int (iI mHC), .int (iI mRC), .ref (z + 6), .ref (z + 7), .ref (z + 8), .int (iI mHS), .ref (z + 9), .ref (z + 10), .int (iI 0), .int (iI mCh), .int (iI mVi)] ∧ (∀ bb, bb ≠ z → S1 bb = S bb)) 0 0 := by
  refine g_Cs.of (cc := cX9_findJoints) (maxL := 4) (ret := none) (by decide) rfl (Nat.le_of_ble_eq_true rfl) ?_
  intro pp ee s m below meth cK Q H locs ls hc hnm hw hl hret
  have hl : lv_has ls 4 [(0, .ref z), (1, .int (iI c))] := hl
  have hiX9 : ∀ w ∈ u_ws RX9 TX9 18, w ∈ wsX9_findJoints := by decide +kernel
  have lk111 : Cond.fieldLink RX9 111 "RoofCoursesModel" "jointCount" "I" ∈ wsX9_findJoints := by decide +kernel
  refine lv_aload_n hc.1 hc.2.1 dX9_findJoints_0 rfl (lv_at hl 0 rfl) ?_
  refine nn_iconst hc dX9_findJoints_1 ?_
  refine nn_put hc hw hz hiX9 tyX9 tyX9_ok nmX9 rfl 15 (by decide) (Nat.le_of_ble_eq_true rfl) lk111 rfl rfl rfl dX9_findJoints_2 (fun S1 H locs hS1 fS1 hw => ?_)
  have hS1 : S1 z = oO 9 [.ref (z + 1), .int (iI mLen), .int (iI mAt), .ref (z + 2), .ref (z + 3), .ref (z + 4), .ref (z + 5), .int (iI mHC), .int (iI mRC), .ref (z + 6), .ref (z + 7), .ref (z + 8), .int (iI mHS), .ref (z + 9), .ref (z + 10), .int (iI 0), .int (iI mCh), .int (iI mVi)] := hS1
  refine nn_iconst hc dX9_findJoints_5 ?_
  refine lv_istore_n (lv' := [(2, .int (iI 0)), (0, .ref z), (1, .int (iI c))]) hc.1 hc.2.1 dX9_findJoints_6 rfl hl (by decide) rfl (fun ls hl => ?_)
  refine nn_iconst hc dX9_findJoints_7 ?_
  refine lv_istore_n (lv' := [(3, .int (iI 0)), (2, .int (iI 0)), (0, .ref z), (1, .int (iI c))]) hc.1 hc.2.1 dX9_findJoints_8 rfl hl (by decide) rfl (fun ls hl => ?_)
  refine lv_iload_n hc.1 hc.2.1 dX9_findJoints_9 rfl (lv_at hl 3 rfl) ?_
  refine nn_if_lt hc dX9_findJoints_10 (tgt := 59) (by decide) (by omega) (fun c2 => ?_) (fun c2 => ?_)
  · exact hret none _ S1 _ _ _ _ hw (⟨rfl, rfl, hS1, fun bb hb0 => (fS1 bb hb0)⟩) ⟨rfl, dX9_findJoints_59⟩
  · exfalso; omega

set_option maxHeartbeats 4000000 in
set_option maxRecDepth 100000 in
theorem c_X9_findJoints_any (l : Launch) (g : gG) {n : Nat} {S : Nat → gE} {z : Nat} {mLen mAt mHC mRC mHS mJC mCh mVi : Int} {nw js : Nat → Int} {c bL : Int} {bs : sL} (hz : S z = oO 9 [.ref (z + 1), .int (iI mLen), .int (iI mAt), .ref (z + 2), .ref (z + 3), .ref (z + 4), .ref (z + 5), .int (iI mHC), .int (iI mRC), .ref (z + 6), .ref (z + 7), .ref (z + 8), .int (iI mHS), .ref (z + 9), .ref (z + 10), .int (iI mJC), .int (iI mCh), .int (iI mVi)]) (hnw : S (z + 6) = oI g 1249 nw) (hjs : S (z + 10) = oI g 60 js) (hfj : (-10 ≤ c ∧ c < 0 ∧ bs = []) ∨ (0 ≤ c ∧ c < 20 ∧ rowIs nw c.toNat bL bs ∧ 1 ≤ bs.length ∧ bs.length ≤ 60)) (hv : ∀ i : Nat, i < bs.length → 0 ≤ slV bs i ∧ slV bs i < 64 ∧ 0 ≤ slH bs i ∧ slH bs i < 8) : g_Cs l yX9_findJoints wsX9_findJoints { frames := 1, cells := 0, slots := 0, locals := 22 } g [.ref z, .int (iI c)] n S (fun vr n1 S1 => ∃ jf : Nat → Int, vr = none ∧ n = n1 ∧ S1 z = oO 9 [.ref (z + 1), .int (iI mLen), .int (iI mAt), .ref (z + 2), .ref (z + 3), .ref (z + 4), .ref (z + 5), .int (iI mHC), .int (iI mRC), .ref (z + 6), .ref (z + 7), .ref (z + 8), .int (iI mHS), .ref (z + 9), .ref (z + 10), .int (iI ((bs.length - 1 : Nat) : Int)), .int (iI mCh), .int (iI mVi)] ∧ S1 (z + 10) = oI g 60 jf ∧ (∀ i : Nat, i < bs.length - 1 → jf i = slE bs i) ∧ (∀ bb, bb ≠ z → bb ≠ (z + 10) → S1 bb = S bb)) 0 0 := by
  rcases hfj with ⟨h1, h2, rfl⟩ | ⟨h1, h2, h3, h4, h5⟩
  · refine g_Cs.mono (c_X9_findJoints_neg l g hz ⟨h1, h2⟩) (fun v n1 S1 hq => ?_)
    obtain ⟨e1, e2, e3, e4⟩ := hq
    exact ⟨js, e1, e2, e3, (e4 (z + 10) (by omega)).trans hjs, fun i hi => absurd hi (Nat.not_lt_zero i), fun bb hb0 _ => e4 bb hb0⟩
  · refine g_Cs.mono (c_X9_findJoints l g hz hnw hjs ⟨h1, h2⟩ h3 ⟨h4, h5⟩ hv) (fun v n1 S1 hq => ?_)
    obtain ⟨jf, e1, e2, e3, e4, e5, e6⟩ := hq
    exact ⟨jf, e1, e2, (by rw [show ((bs.length - 1 : Nat) : Int) = (bs.length : Int) - 1 by omega]; exact e3), e4, fun i hi => e5 i (by omega), e6⟩

set_option maxHeartbeats 4000000 in
set_option maxRecDepth 100000 in
theorem c_X9_choose_endx (l : Launch) (g : gG) {n : Nat} {S : Nat → gE} {z : Nat} {mLen mAt mHC mRC mHS mJC mCh mVi : Int} {stg hps nw js : Nat → Int} {x0 p R : Int} {hx : Nat} {vx : Int} (hz : S z = oO 9 [.ref (z + 1), .int (iI mLen), .int (iI mAt), .ref (z + 2), .ref (z + 3), .ref (z + 4), .ref (z + 5), .int (iI mHC), .int (iI mRC), .ref (z + 6), .ref (z + 7), .ref (z + 8), .int (iI mHS), .ref (z + 9), .ref (z + 10), .int (iI mJC), .int (iI mCh), .int (iI mVi)]) (hst : S (z + 2) = oI g 5 stg) (hhp : S (z + 4) = oI g 24 hps) (hnw : S (z + 6) = oI g 1249 nw) (hjs : S (z + 10) = oI g 60 js) (rHC : 0 ≤ mHC ∧ mHC ≤ 8) (rM : ∀ i : Nat, (i : Int) < mHC → (20 ≤ mLn hps i ∧ mLn hps i ≤ 60) ∧ (10 ≤ mBr hps i ∧ mBr hps i ≤ 60)) (hsrt : srt mHC (mLn hps) (mBr hps)) (rW : ∀ i : Nat, (i : Int) < mHC → 0 ≤ nw i ∧ nw i ≤ 1000000) (rJ : 0 ≤ mJC ∧ mJC ≤ 59) (rb : 1 ≤ stg 3 ∧ stg 3 ≤ 1000) (rj : ∀ i : Nat, (i : Int) < mJC → -1000000 ≤ js i ∧ js i ≤ 1000000) (rx0 : 0 ≤ x0 ∧ x0 ≤ 60) (rpR : (0 ≤ p ∧ p < R) ∧ R ≤ 1000) (hEx : lstI (pE (mLn hps) (mBr hps) nw x0 R p) mHC.toNat = (hx : Int)) (hvx : R - p = vx) : g_Cs l yX9_choose wsX9_choose { frames := 1, cells := 0, slots := 0, locals := 24 } g [.ref z, .int (iI x0), .int (iI p), .int (iI R)] n S (fun vr n1 S1 => vr = some (.int (iI 1)) ∧ n = n1 ∧ S1 z = oO 9 [.ref (z + 1), .int (iI mLen), .int (iI mAt), .ref (z + 2), .ref (z + 3), .ref (z + 4), .ref (z + 5), .int (iI mHC), .int (iI mRC), .ref (z + 6), .ref (z + 7), .ref (z + 8), .int (iI mHS), .ref (z + 9), .ref (z + 10), .int (iI mJC), .int (iI (hx : Int)), .int (iI vx)] ∧ (∀ bb, bb ≠ z → S1 bb = S bb)) 0 0 := by
  rw [← hEx, ← hvx]
  exact c_X9_choose_end l g hz hst hhp hnw hjs rHC rM hsrt rW rJ rb rj rx0 rpR (by omega)

set_option maxHeartbeats 4000000 in
set_option maxRecDepth 100000 in
theorem c_X9_giveBack (l : Launch) (g : gG) {n : Nat} {S : Nat → gE} {z : Nat} {mLen mAt mHC mRC mHS mJC mCh mVi : Int} {hps nw : Nat → Int} {c cL : Int} {sl : sL} (hz : S z = oO 9 [.ref (z + 1), .int (iI mLen), .int (iI mAt), .ref (z + 2), .ref (z + 3), .ref (z + 4), .ref (z + 5), .int (iI mHC), .int (iI mRC), .ref (z + 6), .ref (z + 7), .ref (z + 8), .int (iI mHS), .ref (z + 9), .ref (z + 10), .int (iI mJC), .int (iI mCh), .int (iI mVi)]) (hnw : S (z + 6) = oI g 1249 nw) (rc : 0 ≤ c ∧ c < 20) (hrow : rowIs nw c.toNat cL sl) (hln : sl.length ≤ 60) (hok : okS mHC.toNat (mLn hps) (mBr hps) cL sl) (rHC : 0 ≤ mHC ∧ mHC ≤ 8) (rbr : ∀ i : Nat, i < mHC.toNat → 1 ≤ mBr hps i ∧ mBr hps i ≤ 60) : g_Cs l yX9_giveBack wsX9_giveBack { frames := 1, cells := 0, slots := 0, locals := 22 } g [.ref z, .int (iI c)] n S (fun vr n1 S1 => vr = none ∧ n = n1 ∧ S1 (z + 6) = oI g 1249 (fun i => nw i + cntH sl i) ∧ (∀ bb, bb ≠ (z + 6) → S1 bb = S bb)) 0 0 := by
  refine g_Cs.of (cc := cX9_giveBack) (maxL := 3) (ret := none) (by decide) rfl (Nat.le_of_ble_eq_true rfl) ?_
  intro pp ee s m below meth cK Q H locs ls hc hnm hw hl hret
  have hl : lv_has ls 3 [(0, .ref z), (1, .int (iI c))] := hl
  have hiX9 : ∀ w ∈ u_ws RX9 TX9 18, w ∈ wsX9_giveBack := by decide +kernel
  have lk25 : Cond.fieldLink RX9 25 "RoofCoursesModel" "now" "[I" ∈ wsX9_giveBack := by decide +kernel
  refine nn_iconst hc dX9_giveBack_0 ?_
  refine lv_istore_n (lv' := [(2, .int (iI 0)), (0, .ref z), (1, .int (iI c))]) hc.1 hc.2.1 dX9_giveBack_1 rfl hl (by decide) rfl (fun ls hl => ?_)
  have lab2 : ∀ (fu2 : Nat) (k : Int) (f : Nat → Int) (S1 : Nat → gE) (H : Heap) (locs : List Loc) (ls : Array Slot), (0 ≤ k ∧ k ≤ sl.length) → (f = fun i => nw i + cntH (sl.take k.toNat) i) → S1 (z + 6) = oI g 1249 f → (∀ bb, bb ≠ (z + 6) → S1 bb = S bb) → g_W g n S1 s H locs → (60 - k).toNat < fu2 → lv_has ls 3 [(2, .int (iI k)), (0, .ref z), (1, .int (iI c))] → W pp l ee ({ frames := 1, cells := 0, slots := 0, locals := 22 } : Room) s m ([.ref z, .int (iI c)] : List Value).toArray below meth cK H locs 0 0 Q (F0 m 2 ls []) := by
    intro fu2
    induction fu2 with
    | zero =>
      intro k f S1 H locs ls hk hf hc2_0 fr2 hw hmeas hl
      exact absurd hmeas (Nat.not_lt_zero _)
    | succ fu2 ih2 =>
      intro k f S1 H locs ls hk hf hc2_0 fr2 hw hmeas hl
      have hbig : ∀ i : Nat, 8 ≤ i → f i = nw i := fun i hi => by rw [hf]; show nw i + cntH (sl.take k.toNat) i = nw i; rw [cnt_big (okS_take hok _) (by omega)]; omega
      have hb1 := hbig (9 + 62 * c.toNat + 1) (by omega)
      have hrow2 := hrow.2.1
      refine lv_iload_n hc.1 hc.2.1 dX9_giveBack_2 rfl (lv_at hl 0 rfl) ?_
      refine lv_aload_n hc.1 hc.2.1 dX9_giveBack_3 rfl (lv_at hl 1 rfl) ?_
      refine lv_iload_n hc.1 hc.2.1 dX9_giveBack_4 rfl (lv_at hl 2 rfl) ?_
      have e2 : S1 z = oO 9 [.ref (z + 1), .int (iI mLen), .int (iI mAt), .ref (z + 2), .ref (z + 3), .ref (z + 4), .ref (z + 5), .int (iI mHC), .int (iI mRC), .ref (z + 6), .ref (z + 7), .ref (z + 8), .int (iI mHS), .ref (z + 9), .ref (z + 10), .int (iI mJC), .int (iI mCh), .int (iI mVi)] := (fr2 z (off_nl (x := z) (a := 6) (by decide))).trans hz
      refine nn_Vp (As := [.int (iI c)]) (st := [.int (iI k)]) hc hw e2 rfl (c_X9_slateCount l g  e2 hc2_0 (by omega)) (cwV 1 hc.2.2.2.2 gX9_giveBack_X9_slateCount rfl rfl rfl (by decide +kernel) ⟨Nat.le_of_ble_eq_true rfl, Nat.le_of_ble_eq_true rfl⟩) rfl hl.1 rfl (Nat.le_of_ble_eq_true rfl) ⟨Nat.le_of_ble_eq_true rfl, Nat.le_of_ble_eq_true rfl⟩ dX9_giveBack_5 ?_
      refine W.eq (g2 := F0 m 8 ls [.int (iI (f (9 + 62 * c.toNat + 1))), .int (iI k)]) rfl ?_
      refine nn_icmp_ge hc dX9_giveBack_8 (tgt := 35) (by decide) (by omega) (by omega) (fun c3 => ?_) (fun c3 => ?_)
      · exact hret none _ S1 _ _ _ _ hw (⟨rfl, rfl, (by rw [← show sl.take k.toNat = sl by rw [show k.toNat = sl.length by omega, List.take_length], ← hf]; exact hc2_0), fun bb hb0 => (fr2 bb hb0)⟩) ⟨rfl, dX9_giveBack_35⟩
      · have hh1 := hbig (9 + 62 * c.toNat + 2 + k.toNat) (by omega)
        have hs1 := hrow.2.2 k.toNat (by omega)
        have hs2 := slH_ok hok (i := k.toNat) (by omega)
        have hs3 := slV_ok hok (i := k.toNat) (by omega)
        have hs4 := rbr (slH sl k.toNat).toNat (by omega)
        have hd64 := d64 (h := slH sl k.toNat) (v := slV sl k.toNat) (by omega)
        rw [← hs1] at hd64
        refine lv_aload_n hc.1 hc.2.1 dX9_giveBack_11 rfl (lv_at hl 1 rfl) ?_
        refine nn_get hc hw e2 hiX9 rfl 9 (by decide) rfl lk25 dX9_giveBack_12 ?_
        refine lv_aload_n hc.1 hc.2.1 dX9_giveBack_15 rfl (lv_at hl 1 rfl) ?_
        refine lv_iload_n hc.1 hc.2.1 dX9_giveBack_16 rfl (lv_at hl 2 rfl) ?_
        refine lv_iload_n hc.1 hc.2.1 dX9_giveBack_17 rfl (lv_at hl 0 rfl) ?_
        refine nn_Vp (As := [.int (iI c), .int (iI k)]) (st := [.ref (z + 6)]) hc hw e2 rfl (c_X9_slateOf l g  e2 hc2_0 (by omega) (by omega)) (cwV 2 hc.2.2.2.2 gX9_giveBack_X9_slateOf rfl rfl rfl (by decide +kernel) ⟨Nat.le_of_ble_eq_true rfl, Nat.le_of_ble_eq_true rfl⟩) rfl hl.1 rfl (Nat.le_of_ble_eq_true rfl) ⟨Nat.le_of_ble_eq_true rfl, Nat.le_of_ble_eq_true rfl⟩ dX9_giveBack_18 ?_
        refine W.eq (g2 := F0 m 21 ls [.int (iI (f (9 + 62 * c.toNat + 2 + k.toNat))), .ref (z + 6)]) rfl ?_
        refine nn_bipush hc dX9_giveBack_21 (by decide +kernel) ?_
        refine nn_idiv hc dX9_giveBack_23 (by omega) (by omega) ?_
        refine lv_dup2_11 hc.1 hc.2.1 dX9_giveBack_24 rfl rfl ?_
        refine nn_iald hc hw hc2_0 (by omega) (by omega) dX9_giveBack_25 ?_
        refine nn_iconst hc dX9_giveBack_26 ?_
        refine nn_iadd hc dX9_giveBack_27 ?_
        refine nn_iast hc hw hc2_0 (by omega) (by omega) dX9_giveBack_28 (fun S4 H locs hS4 fS4 hw => ?_)
        refine nn_iinc (lv' := [(2, .int (iI (k + 1))), (0, .ref z), (1, .int (iI c))]) hc dX9_giveBack_29 hl (k0 := 0) rfl (by decide) rfl (fun ls hl => ?_)
        refine lv_goto hc.1 hc.2.1 dX9_giveBack_32 (tgt := 2) (by decide) ?_
        exact ih2 (k + 1) (va_up f ((f (9 + 62 * c.toNat + 2 + k.toNat)) / 64).toNat ((f ((f (9 + 62 * c.toNat + 2 + k.toNat)) / 64).toNat) + 1)) S4 _ _ _ (by omega) (by rw [hh1, hd64.1, toNat_succ (by omega), ← gB_step (h := (slH sl k.toNat).toNat) (by omega) rfl, hf]) hS4 (fun bb hb0 => ((fS4 bb hb0)).trans (fr2 bb hb0)) hw (by omega) (lv_sub hl [0, 1, 2] rfl)
  exact lab2 _ 0 nw S _ _ _ (by omega) (by funext i; show nw i = nw i + cntH (sl.take 0) i; rw [List.take_zero]; simp [cntH]) hnw (fun bb _ => rfl) hw (Nat.lt_succ_self _) (lv_sub hl [0, 1, 2] rfl)

