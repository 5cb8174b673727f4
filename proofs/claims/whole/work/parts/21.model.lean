set_option maxHeartbeats 4000000 in
set_option maxRecDepth 100000 in
theorem c_X9_choose_jb (l : Launch) (g : gG) {n : Nat} {S : Nat → gE} {z : Nat} {mLen mAt mHC mRC mHS mJC mCh mVi : Int} {stg hps nw js : Nat → Int} {x0 p R : Int} (hz : S z = oO 9 [.ref (z + 1), .int (iI mLen), .int (iI mAt), .ref (z + 2), .ref (z + 3), .ref (z + 4), .ref (z + 5), .int (iI mHC), .int (iI mRC), .ref (z + 6), .ref (z + 7), .ref (z + 8), .int (iI mHS), .ref (z + 9), .ref (z + 10), .int (iI mJC), .int (iI mCh), .int (iI mVi)]) (hst : S (z + 2) = oI g 5 stg) (hhp : S (z + 4) = oI g 24 hps) (hnw : S (z + 6) = oI g 1249 nw) (hjs : S (z + 10) = oI g 60 js) (rHC : 0 ≤ mHC ∧ mHC ≤ 8) (rM : ∀ i : Nat, (i : Int) < mHC → (20 ≤ mLn hps i ∧ mLn hps i ≤ 60) ∧ (10 ≤ mBr hps i ∧ mBr hps i ≤ 60)) (hsrt : srt mHC (mLn hps) (mBr hps)) (rW : ∀ i : Nat, (i : Int) < mHC → 0 ≤ nw i ∧ nw i ≤ 1000000) (rJ : 0 ≤ mJC ∧ mJC ≤ 59) (rb : 1 ≤ stg 3 ∧ stg 3 ≤ 1000) (rj : ∀ i : Nat, (i : Int) < mJC → -1000000 ≤ js i ∧ js i ≤ 1000000) (rx0 : 0 ≤ x0 ∧ x0 ≤ 60) (rpR : (0 ≤ p ∧ p < R) ∧ R ≤ 1000) (hE : lstI (pE (mLn hps) (mBr hps) nw x0 R p) mHC.toNat = -4) (hB : 0 ≤ fstI (pB (mLn hps) (mBr hps) nw x0 js (stg 3) mJC.toNat p) mHC.toNat) : g_Cs l yX9_choose wsX9_choose { frames := 1, cells := 0, slots := 0, locals := 24 } g [.ref z, .int (iI x0), .int (iI p), .int (iI R)] n S (fun vr n1 S1 => vr = some (.int (iI 1)) ∧ n = n1 ∧ S1 z = oO 9 [.ref (z + 1), .int (iI mLen), .int (iI mAt), .ref (z + 2), .ref (z + 3), .ref (z + 4), .ref (z + 5), .int (iI mHC), .int (iI mRC), .ref (z + 6), .ref (z + 7), .ref (z + 8), .int (iI mHS), .ref (z + 9), .ref (z + 10), .int (iI mJC), .int (iI (fstI (pB (mLn hps) (mBr hps) nw x0 js (stg 3) mJC.toNat p) mHC.toNat)), .int (iI (mBr hps (fstI (pB (mLn hps) (mBr hps) nw x0 js (stg 3) mJC.toNat p) mHC.toNat).toNat))] ∧ (∀ bb, bb ≠ z → S1 bb = S bb)) 0 0 := by
  refine g_Cs.of (cc := cX9_choose) (maxL := 10) (ret := (some .boolean)) (by decide) rfl (Nat.le_of_ble_eq_true rfl) ?_
  intro pp ee s m below meth cK Q H locs ls hc hnm hw hl hret
  have hl : lv_has ls 10 [(0, .ref z), (1, .int (iI x0)), (2, .int (iI p)), (3, .int (iI R))] := hl
  have hiX9 : ∀ w ∈ u_ws RX9 TX9 18, w ∈ wsX9_choose := by decide +kernel
  have lk54 : Cond.fieldLink RX9 54 "RoofCoursesModel" "heapCount" "I" ∈ wsX9_choose := by decide +kernel
  have lk120 : Cond.fieldLink RX9 120 "RoofCoursesModel" "chosen" "I" ∈ wsX9_choose := by decide +kernel
  have lk123 : Cond.fieldLink RX9 123 "RoofCoursesModel" "visible" "I" ∈ wsX9_choose := by decide +kernel
  have lk25 : Cond.fieldLink RX9 25 "RoofCoursesModel" "now" "[I" ∈ wsX9_choose := by decide +kernel
  refine nn_bipush hc dX9_choose_0 (by decide +kernel) ?_
  refine lv_istore (lv' := [(4, .int (iI (-4))), (0, .ref z), (1, .int (iI x0)), (2, .int (iI p)), (3, .int (iI R))]) hc.1 hc.2.1 dX9_choose_2 hl (by decide) rfl (fun ls hl => ?_)
  refine nn_bipush hc dX9_choose_4 (by decide +kernel) ?_
  refine lv_istore (lv' := [(5, .int (iI (-4))), (4, .int (iI (-4))), (0, .ref z), (1, .int (iI x0)), (2, .int (iI p)), (3, .int (iI R))]) hc.1 hc.2.1 dX9_choose_6 hl (by decide) rfl (fun ls hl => ?_)
  refine nn_bipush hc dX9_choose_8 (by decide +kernel) ?_
  refine lv_istore (lv' := [(6, .int (iI (-4))), (5, .int (iI (-4))), (4, .int (iI (-4))), (0, .ref z), (1, .int (iI x0)), (2, .int (iI p)), (3, .int (iI R))]) hc.1 hc.2.1 dX9_choose_10 hl (by decide) rfl (fun ls hl => ?_)
  refine nn_iconst hc dX9_choose_12 ?_
  refine lv_istore (lv' := [(7, .int (iI 0)), (6, .int (iI (-4))), (5, .int (iI (-4))), (4, .int (iI (-4))), (0, .ref z), (1, .int (iI x0)), (2, .int (iI p)), (3, .int (iI R))]) hc.1 hc.2.1 dX9_choose_13 hl (by decide) rfl (fun ls hl => ?_)
  have lab15 : ∀ (fu15 : Nat) (e : Int) (b : Int) (w : Int) (h : Int) (H : Heap) (locs : List Loc) (ls : Array Slot), (0 ≤ h ∧ h ≤ mHC) → (e = lstI (pE (mLn hps) (mBr hps) nw x0 R p) h.toNat) → (b = fstI (pBn (mLn hps) (mBr hps) nw x0 R js (stg 3) mJC.toNat p) h.toNat) → (w = fstI (srv (mLn hps) nw x0) h.toNat) → g_W g n S s H locs → (mHC - h).toNat < fu15 → lv_has ls 10 [(4, .int (iI e)), (5, .int (iI b)), (6, .int (iI w)), (7, .int (iI h)), (0, .ref z), (1, .int (iI x0)), (2, .int (iI p)), (3, .int (iI R))] → W pp l ee ({ frames := 1, cells := 0, slots := 0, locals := 24 } : Room) s m ([.ref z, .int (iI x0), .int (iI p), .int (iI R)] : List Value).toArray below meth cK H locs 0 0 Q (F0 m 15 ls []) := by
    intro fu15
    induction fu15 with
    | zero =>
      intro e b w h H locs ls hh he hb hw1 hw hmeas hl
      exact absurd hmeas (Nat.not_lt_zero _)
    | succ fu15 ih15 =>
      intro e b w h H locs ls hh he hb hw1 hw hmeas hl
      refine lv_iload hc.1 hc.2.1 dX9_choose_15 (lv_at hl 3 rfl) ?_
      refine lv_aload_n hc.1 hc.2.1 dX9_choose_17 rfl (lv_at hl 4 rfl) ?_
      refine nn_get hc hw hz hiX9 rfl 7 (by decide) rfl lk54 dX9_choose_18 ?_
      refine nn_icmp_ge hc dX9_choose_21 (tgt := 175) (by decide) (by omega) (by omega) (fun c2 => ?_) (fun c2 => ?_)
      · have hHe : h.toNat = mHC.toNat := by omega
        rw [hHe] at he hb hw1
        have hre := lstI_r (pE (mLn hps) (mBr hps) nw x0 R p) mHC.toNat
        have hrb := fstI_r (pBn (mLn hps) (mBr hps) nw x0 R js (stg 3) mJC.toNat p) mHC.toNat
        have hrw := fstI_r (srv (mLn hps) nw x0) mHC.toNat
        have hbb : b = fstI (pB (mLn hps) (mBr hps) nw x0 js (stg 3) mJC.toNat p) mHC.toNat := hb.trans (pBn_pB hE)
        refine lv_aload_n hc.1 hc.2.1 dX9_choose_175 rfl (lv_at hl 4 rfl) ?_
        refine lv_iload hc.1 hc.2.1 dX9_choose_176 (lv_at hl 0 rfl) ?_
        refine nn_bipush hc dX9_choose_178 (by decide +kernel) ?_
        refine nn_icmp_eq hc dX9_choose_180 (tgt := 188) (by decide) (by omega) (by decide) (fun c3 => ?_) (fun c3 => ?_)
        · refine lv_iload hc.1 hc.2.1 dX9_choose_188 (lv_at hl 1 rfl) ?_
          refine nn_bipush hc dX9_choose_190 (by decide +kernel) ?_
          refine nn_icmp_eq hc dX9_choose_192 (tgt := 200) (by decide) (by omega) (by decide) (fun c4 => ?_) (fun c4 => ?_)
          · exfalso; omega
          · have hMb := rM b.toNat (by omega)
            refine lv_iload hc.1 hc.2.1 dX9_choose_195 (lv_at hl 1 rfl) ?_
            refine lv_goto hc.1 hc.2.1 dX9_choose_197 (tgt := 202) (by decide) ?_
            refine nn_put hc hw hz hiX9 tyX9 tyX9_ok nmX9 rfl 16 (by decide) (Nat.le_of_ble_eq_true rfl) lk120 rfl rfl rfl dX9_choose_202 (fun S5 H locs hS5 fS5 hw => ?_)
            have hS5 : S5 z = oO 9 [.ref (z + 1), .int (iI mLen), .int (iI mAt), .ref (z + 2), .ref (z + 3), .ref (z + 4), .ref (z + 5), .int (iI mHC), .int (iI mRC), .ref (z + 6), .ref (z + 7), .ref (z + 8), .int (iI mHS), .ref (z + 9), .ref (z + 10), .int (iI mJC), .int (iI b), .int (iI mVi)] := hS5
            refine lv_aload_n hc.1 hc.2.1 dX9_choose_205 rfl (lv_at hl 4 rfl) ?_
            refine nn_get hc hw hS5 hiX9 rfl 16 (by decide) rfl lk120 dX9_choose_206 ?_
            refine nn_bipush hc dX9_choose_209 (by decide +kernel) ?_
            refine nn_icmp_ne hc dX9_choose_211 (tgt := 216) (by decide) (by omega) (by decide) (fun c6 => ?_) (fun c6 => ?_)
            · refine lv_aload_n hc.1 hc.2.1 dX9_choose_216 rfl (lv_at hl 4 rfl) ?_
              refine lv_iload hc.1 hc.2.1 dX9_choose_217 (lv_at hl 0 rfl) ?_
              refine nn_bipush hc dX9_choose_219 (by decide +kernel) ?_
              refine nn_icmp_eq hc dX9_choose_221 (tgt := 230) (by decide) (by omega) (by decide) (fun c7 => ?_) (fun c7 => ?_)
              · refine lv_aload_n hc.1 hc.2.1 dX9_choose_230 rfl (lv_at hl 4 rfl) ?_
                refine lv_aload_n hc.1 hc.2.1 dX9_choose_231 rfl (lv_at hl 4 rfl) ?_
                refine nn_get hc hw hS5 hiX9 rfl 16 (by decide) rfl lk120 dX9_choose_232 ?_
                have e8 : S5 (z + 4) = oI g 24 hps := (fS5 (z + 4) (off_nr (x := z) (a := 4) (by decide))).trans hhp
                refine nn_Vp (As := [.int (iI b)]) (st := [.ref z]) hc hw hS5 rfl (c_X9_breadth l g  hS5 e8 (by omega)) (cwV 1 hc.2.2.2.2 gX9_choose_X9_breadth rfl rfl rfl (by decide +kernel) ⟨Nat.le_of_ble_eq_true rfl, Nat.le_of_ble_eq_true rfl⟩) rfl hl.1 rfl (Nat.le_of_ble_eq_true rfl) ⟨Nat.le_of_ble_eq_true rfl, Nat.le_of_ble_eq_true rfl⟩ dX9_choose_235 ?_
                refine W.eq (g2 := F0 m 238 ls [.int (iI (mBr hps b.toNat)), .ref z]) rfl ?_
                refine nn_put hc hw hS5 hiX9 tyX9 tyX9_ok nmX9 rfl 17 (by decide) (Nat.le_of_ble_eq_true rfl) lk123 rfl rfl rfl dX9_choose_238 (fun S9 H locs hS9 fS9 hw => ?_)
                have hS9 : S9 z = oO 9 [.ref (z + 1), .int (iI mLen), .int (iI mAt), .ref (z + 2), .ref (z + 3), .ref (z + 4), .ref (z + 5), .int (iI mHC), .int (iI mRC), .ref (z + 6), .ref (z + 7), .ref (z + 8), .int (iI mHS), .ref (z + 9), .ref (z + 10), .int (iI mJC), .int (iI b), .int (iI (mBr hps b.toNat))] := hS9
                refine lv_iload hc.1 hc.2.1 dX9_choose_241 (lv_at hl 0 rfl) ?_
                refine nn_bipush hc dX9_choose_243 (by decide +kernel) ?_
                refine nn_icmp_ne hc dX9_choose_245 (tgt := 306) (by decide) (by omega) (by decide) (fun c10 => ?_) (fun c10 => ?_)
                · exfalso; omega
                · refine lv_iload hc.1 hc.2.1 dX9_choose_248 (lv_at hl 1 rfl) ?_
                  refine nn_bipush hc dX9_choose_250 (by decide +kernel) ?_
                  refine nn_icmp_ne hc dX9_choose_252 (tgt := 306) (by decide) (by omega) (by decide) (fun c11 => ?_) (fun c11 => ?_)
                  · refine lv_aload_n hc.1 hc.2.1 dX9_choose_306 rfl (lv_at hl 4 rfl) ?_
                    refine nn_get hc hw hS9 hiX9 rfl 17 (by decide) rfl lk123 dX9_choose_307 ?_
                    refine nn_if_le hc dX9_choose_310 (tgt := 317) (by decide) (by omega) (fun c12 => ?_) (fun c12 => ?_)
                    · exfalso; omega
                    · refine nn_iconst hc dX9_choose_313 ?_
                      refine lv_goto hc.1 hc.2.1 dX9_choose_314 (tgt := 318) (by decide) ?_
                      exact hret (some (.int (iI 1))) _ S9 _ _ _ _ hw (⟨rfl, rfl, (by rw [← hbb]; exact hS9), fun bb hb0 => ((fS9 bb hb0)).trans (fS5 bb hb0)⟩) ⟨_, rfl, by first | rfl | exact nn_nb _, dX9_choose_318⟩
                  · exfalso; omega
              · exfalso; omega
            · exfalso; omega
        · exfalso; omega
      · have hM1 := rM h.toNat (by omega)
        have hW1 := rW h.toNat (by omega)
        have hre := lstI_r (pE (mLn hps) (mBr hps) nw x0 R p) h.toNat
        have hrb := fstI_r (pBn (mLn hps) (mBr hps) nw x0 R js (stg 3) mJC.toNat p) h.toNat
        have hrw := fstI_r (srv (mLn hps) nw x0) h.toNat
        refine lv_aload_n hc.1 hc.2.1 dX9_choose_24 rfl (lv_at hl 4 rfl) ?_
        refine lv_iload hc.1 hc.2.1 dX9_choose_25 (lv_at hl 3 rfl) ?_
        refine nn_Vp (As := [.int (iI h)]) (st := []) hc hw hz rfl (c_X9_heapLength l g  hz hhp (by omega)) (cwV 1 hc.2.2.2.2 gX9_choose_X9_heapLength rfl rfl rfl (by decide +kernel) ⟨Nat.le_of_ble_eq_true rfl, Nat.le_of_ble_eq_true rfl⟩) rfl hl.1 rfl (Nat.le_of_ble_eq_true rfl) ⟨Nat.le_of_ble_eq_true rfl, Nat.le_of_ble_eq_true rfl⟩ dX9_choose_27 ?_
        refine W.eq (g2 := F0 m 30 ls [.int (iI (mLn hps h.toNat))]) rfl ?_
        refine lv_iload_n hc.1 hc.2.1 dX9_choose_30 rfl (lv_at hl 5 rfl) ?_
        refine nn_icmp_ne hc dX9_choose_31 (tgt := 169) (by decide) (by omega) (by omega) (fun c13 => ?_) (fun c13 => ?_)
        · refine nn_iinc (lv' := [(7, .int (iI (h + 1))), (4, .int (iI e)), (5, .int (iI b)), (6, .int (iI w)), (0, .ref z), (1, .int (iI x0)), (2, .int (iI p)), (3, .int (iI R))]) hc dX9_choose_169 hl (k0 := 3) rfl (by decide) rfl (fun ls hl => ?_)
          refine lv_goto hc.1 hc.2.1 dX9_choose_172 (tgt := 15) (by decide) ?_
          exact ih15 e b w (h + 1) _ _ _ (by omega) (by first | exact lst_take (by omega) (pE_iff.mpr (by omega)) | exact he.trans (lst_keep (by omega) (b_no pE_iff (by omega)))) (by first | exact fst_take (by omega) (by omega) (pBn_iff.mpr ⟨by omega, hbk⟩) | exact hb.trans (fst_keep (by omega) (Or.inr (by omega))) | exact hb.trans (fst_keep (by omega) (Or.inl (b_no pBn_iff (fun q9 => by have h8 := q9.2; rw [hbk] at h8; cases h8)))) | exact hb.trans (fst_keep (by omega) (Or.inl (b_no pBn_iff (fun q9 => by have h8 := q9.1; omega))))) (by first | exact fst_take (by omega) (by omega) (srv_iff.mpr (by omega)) | exact hw1.trans (fst_keep (by omega) (Or.inr (by omega))) | exact hw1.trans (fst_keep (by omega) (Or.inl (b_no srv_iff (by omega))))) hw (by omega) (lv_sub hl [1, 2, 3, 0, 4, 5, 6, 7] rfl)
        · refine lv_aload_n hc.1 hc.2.1 dX9_choose_34 rfl (lv_at hl 4 rfl) ?_
          refine nn_get hc hw hz hiX9 rfl 9 (by decide) rfl lk25 dX9_choose_35 ?_
          refine lv_iload hc.1 hc.2.1 dX9_choose_38 (lv_at hl 3 rfl) ?_
          refine nn_iald hc hw hnw (by omega) (by omega) dX9_choose_40 ?_
          refine nn_if_le hc dX9_choose_41 (tgt := 169) (by decide) (by omega) (fun c14 => ?_) (fun c14 => ?_)
          · refine nn_iinc (lv' := [(7, .int (iI (h + 1))), (4, .int (iI e)), (5, .int (iI b)), (6, .int (iI w)), (0, .ref z), (1, .int (iI x0)), (2, .int (iI p)), (3, .int (iI R))]) hc dX9_choose_169 hl (k0 := 3) rfl (by decide) rfl (fun ls hl => ?_)
            refine lv_goto hc.1 hc.2.1 dX9_choose_172 (tgt := 15) (by decide) ?_
            exact ih15 e b w (h + 1) _ _ _ (by omega) (by first | exact lst_take (by omega) (pE_iff.mpr (by omega)) | exact he.trans (lst_keep (by omega) (b_no pE_iff (by omega)))) (by first | exact fst_take (by omega) (by omega) (pBn_iff.mpr ⟨by omega, hbk⟩) | exact hb.trans (fst_keep (by omega) (Or.inr (by omega))) | exact hb.trans (fst_keep (by omega) (Or.inl (b_no pBn_iff (fun q9 => by have h8 := q9.2; rw [hbk] at h8; cases h8)))) | exact hb.trans (fst_keep (by omega) (Or.inl (b_no pBn_iff (fun q9 => by have h8 := q9.1; omega))))) (by first | exact fst_take (by omega) (by omega) (srv_iff.mpr (by omega)) | exact hw1.trans (fst_keep (by omega) (Or.inr (by omega))) | exact hw1.trans (fst_keep (by omega) (Or.inl (b_no srv_iff (by omega))))) hw (by omega) (lv_sub hl [1, 2, 3, 0, 4, 5, 6, 7] rfl)
          · refine lv_aload_n hc.1 hc.2.1 dX9_choose_44 rfl (lv_at hl 4 rfl) ?_
            refine lv_iload hc.1 hc.2.1 dX9_choose_45 (lv_at hl 3 rfl) ?_
            refine nn_Vp (As := [.int (iI h)]) (st := []) hc hw hz rfl (c_X9_breadth l g  hz hhp (by omega)) (cwV 1 hc.2.2.2.2 gX9_choose_X9_breadth rfl rfl rfl (by decide +kernel) ⟨Nat.le_of_ble_eq_true rfl, Nat.le_of_ble_eq_true rfl⟩) rfl hl.1 rfl (Nat.le_of_ble_eq_true rfl) ⟨Nat.le_of_ble_eq_true rfl, Nat.le_of_ble_eq_true rfl⟩ dX9_choose_47 ?_
            refine W.eq (g2 := F0 m 50 ls [.int (iI (mBr hps h.toNat))]) rfl ?_
            refine lv_istore (lv' := [(8, .int (iI (mBr hps h.toNat))), (4, .int (iI e)), (5, .int (iI b)), (6, .int (iI w)), (7, .int (iI h)), (0, .ref z), (1, .int (iI x0)), (2, .int (iI p)), (3, .int (iI R))]) hc.1 hc.2.1 dX9_choose_50 hl (by decide) rfl (fun ls hl => ?_)
            refine lv_iload_n hc.1 hc.2.1 dX9_choose_52 rfl (lv_at hl 7 rfl) ?_
            refine lv_iload hc.1 hc.2.1 dX9_choose_53 (lv_at hl 0 rfl) ?_
            refine nn_iadd hc dX9_choose_55 ?_
            refine lv_iload_n hc.1 hc.2.1 dX9_choose_56 rfl (lv_at hl 8 rfl) ?_
            refine nn_icmp_lt hc dX9_choose_57 (tgt := 64) (by decide) (by omega) (by omega) (fun c15 => ?_) (fun c15 => ?_)
            · refine nn_iconst hc dX9_choose_64 ?_
              refine lv_istore (lv' := [(9, .int (iI 0)), (8, .int (iI (mBr hps h.toNat))), (4, .int (iI e)), (5, .int (iI b)), (6, .int (iI w)), (7, .int (iI h)), (0, .ref z), (1, .int (iI x0)), (2, .int (iI p)), (3, .int (iI R))]) hc.1 hc.2.1 dX9_choose_65 hl (by decide) rfl (fun ls hl => ?_)
              refine lv_iload hc.1 hc.2.1 dX9_choose_67 (lv_at hl 0 rfl) ?_
              refine nn_if_eq hc dX9_choose_69 (tgt := 95) (by decide) (by decide) (fun c16 => ?_) (fun c16 => ?_)
              · refine lv_iload hc.1 hc.2.1 dX9_choose_95 (lv_at hl 2 rfl) ?_
                refine lv_istore (lv' := [(4, .int (iI e)), (9, .int (iI 0)), (8, .int (iI (mBr hps h.toNat))), (5, .int (iI b)), (6, .int (iI w)), (7, .int (iI h)), (0, .ref z), (1, .int (iI x0)), (2, .int (iI p)), (3, .int (iI R))]) hc.1 hc.2.1 dX9_choose_97 hl (by decide) rfl (fun ls hl => ?_)
                refine lv_iload hc.1 hc.2.1 dX9_choose_99 (lv_at hl 1 rfl) ?_
                refine nn_if_ne hc dX9_choose_101 (tgt := 138) (by decide) (by decide) (fun c17 => ?_) (fun c17 => ?_)
                · exact absurd c17 (by decide)
                · refine lv_aload_n hc.1 hc.2.1 dX9_choose_104 rfl (lv_at hl 6 rfl) ?_
                  refine lv_iload_n hc.1 hc.2.1 dX9_choose_105 rfl (lv_at hl 8 rfl) ?_
                  refine lv_iload hc.1 hc.2.1 dX9_choose_106 (lv_at hl 2 rfl) ?_
                  refine nn_iadd hc dX9_choose_108 ?_
                  refine nn_Vp (As := [.int (iI (p + (mBr hps h.toNat)))]) (st := []) hc hw hz rfl (c_X9_isBroken l g  hz hst hjs (by omega) (by omega) (by omega) (rj)) (cwV 1 hc.2.2.2.2 gX9_choose_X9_isBroken rfl rfl rfl (by decide +kernel) ⟨Nat.le_of_ble_eq_true rfl, Nat.le_of_ble_eq_true rfl⟩) rfl hl.1 rfl (Nat.le_of_ble_eq_true rfl) ⟨Nat.le_of_ble_eq_true rfl, Nat.le_of_ble_eq_true rfl⟩ dX9_choose_109 ?_
                  refine W.eq (g2 := F0 m 112 ls [.int (iI (if brk js (stg 3) (p + (mBr hps h.toNat)) mJC.toNat = true then 1 else 0))]) rfl ?_
                  refine nn_if_eq hc dX9_choose_112 (tgt := 138) (by decide) (by omega) (fun c18 => ?_) (fun c18 => ?_)
                  · have hbk : brk js (stg 3) (p + mBr hps h.toNat) mJC.toNat = false := Bool.eq_false_iff.mpr (fun q9 => by have h8 := c18; rw [if_pos q9] at h8; exact absurd h8 (by decide))
                    refine lv_iload hc.1 hc.2.1 dX9_choose_138 (lv_at hl 3 rfl) ?_
                    refine lv_istore (lv' := [(5, .int (iI b)), (4, .int (iI e)), (9, .int (iI 0)), (8, .int (iI (mBr hps h.toNat))), (6, .int (iI w)), (7, .int (iI h)), (0, .ref z), (1, .int (iI x0)), (2, .int (iI p)), (3, .int (iI R))]) hc.1 hc.2.1 dX9_choose_140 hl (by decide) rfl (fun ls hl => ?_)
                    refine lv_iload hc.1 hc.2.1 dX9_choose_142 (lv_at hl 4 rfl) ?_
                    refine nn_bipush hc dX9_choose_144 (by decide +kernel) ?_
                    refine nn_icmp_eq hc dX9_choose_146 (tgt := 160) (by decide) (by omega) (by decide) (fun c19 => ?_) (fun c19 => ?_)
                    · refine lv_iload hc.1 hc.2.1 dX9_choose_160 (lv_at hl 5 rfl) ?_
                      refine lv_goto hc.1 hc.2.1 dX9_choose_162 (tgt := 167) (by decide) ?_
                      refine lv_istore (lv' := [(6, .int (iI h)), (5, .int (iI b)), (4, .int (iI e)), (9, .int (iI 0)), (8, .int (iI (mBr hps h.toNat))), (7, .int (iI h)), (0, .ref z), (1, .int (iI x0)), (2, .int (iI p)), (3, .int (iI R))]) hc.1 hc.2.1 dX9_choose_167 hl (by decide) rfl (fun ls hl => ?_)
                      refine nn_iinc (lv' := [(7, .int (iI (h + 1))), (6, .int (iI h)), (5, .int (iI b)), (4, .int (iI e)), (9, .int (iI 0)), (8, .int (iI (mBr hps h.toNat))), (0, .ref z), (1, .int (iI x0)), (2, .int (iI p)), (3, .int (iI R))]) hc dX9_choose_169 hl (k0 := 5) rfl (by decide) rfl (fun ls hl => ?_)
                      refine lv_goto hc.1 hc.2.1 dX9_choose_172 (tgt := 15) (by decide) ?_
                      exact ih15 e b h (h + 1) _ _ _ (by omega) (by first | exact lst_take (by omega) (pE_iff.mpr (by omega)) | exact he.trans (lst_keep (by omega) (b_no pE_iff (by omega)))) (by first | exact fst_take (by omega) (by omega) (pBn_iff.mpr ⟨by omega, hbk⟩) | exact hb.trans (fst_keep (by omega) (Or.inr (by omega))) | exact hb.trans (fst_keep (by omega) (Or.inl (b_no pBn_iff (fun q9 => by have h8 := q9.2; rw [hbk] at h8; cases h8)))) | exact hb.trans (fst_keep (by omega) (Or.inl (b_no pBn_iff (fun q9 => by have h8 := q9.1; omega))))) (by first | exact fst_take (by omega) (by omega) (srv_iff.mpr (by omega)) | exact hw1.trans (fst_keep (by omega) (Or.inr (by omega))) | exact hw1.trans (fst_keep (by omega) (Or.inl (b_no srv_iff (by omega))))) hw (by omega) (lv_sub hl [3, 2, 1, 0, 6, 7, 8, 9] rfl)
                    · have hq1 := srv_iff.mp (fstI_q (q := srv (mLn hps) nw x0) (n := h.toNat) (by omega))
                      rw [← hw1] at hq1
                      have hr1 : mBr hps h.toNat < mBr hps w.toNat := by have h9 := hsrt w.toNat h.toNat (by omega) (by omega); omega
                      have hMe := rM w.toNat (by omega)
                      refine lv_iload hc.1 hc.2.1 dX9_choose_149 (lv_at hl 3 rfl) ?_
                      refine lv_aload_n hc.1 hc.2.1 dX9_choose_151 rfl (lv_at hl 6 rfl) ?_
                      refine lv_iload hc.1 hc.2.1 dX9_choose_152 (lv_at hl 4 rfl) ?_
                      refine nn_Vp (As := [.int (iI w)]) (st := [.int (iI (mBr hps h.toNat))]) hc hw hz rfl (c_X9_breadth l g  hz hhp (by omega)) (cwV 1 hc.2.2.2.2 gX9_choose_X9_breadth rfl rfl rfl (by decide +kernel) ⟨Nat.le_of_ble_eq_true rfl, Nat.le_of_ble_eq_true rfl⟩) rfl hl.1 rfl (Nat.le_of_ble_eq_true rfl) ⟨Nat.le_of_ble_eq_true rfl, Nat.le_of_ble_eq_true rfl⟩ dX9_choose_154 ?_
                      refine W.eq (g2 := F0 m 157 ls [.int (iI (mBr hps w.toNat)), .int (iI (mBr hps h.toNat))]) rfl ?_
                      refine nn_icmp_le hc dX9_choose_157 (tgt := 165) (by decide) (by omega) (by omega) (fun c20 => ?_) (fun c20 => ?_)
                      · refine lv_iload hc.1 hc.2.1 dX9_choose_165 (lv_at hl 4 rfl) ?_
                        refine lv_istore (lv' := [(6, .int (iI w)), (5, .int (iI b)), (4, .int (iI e)), (9, .int (iI 0)), (8, .int (iI (mBr hps h.toNat))), (7, .int (iI h)), (0, .ref z), (1, .int (iI x0)), (2, .int (iI p)), (3, .int (iI R))]) hc.1 hc.2.1 dX9_choose_167 hl (by decide) rfl (fun ls hl => ?_)
                        refine nn_iinc (lv' := [(7, .int (iI (h + 1))), (6, .int (iI w)), (5, .int (iI b)), (4, .int (iI e)), (9, .int (iI 0)), (8, .int (iI (mBr hps h.toNat))), (0, .ref z), (1, .int (iI x0)), (2, .int (iI p)), (3, .int (iI R))]) hc dX9_choose_169 hl (k0 := 5) rfl (by decide) rfl (fun ls hl => ?_)
                        refine lv_goto hc.1 hc.2.1 dX9_choose_172 (tgt := 15) (by decide) ?_
                        exact ih15 e b w (h + 1) _ _ _ (by omega) (by first | exact lst_take (by omega) (pE_iff.mpr (by omega)) | exact he.trans (lst_keep (by omega) (b_no pE_iff (by omega)))) (by first | exact fst_take (by omega) (by omega) (pBn_iff.mpr ⟨by omega, hbk⟩) | exact hb.trans (fst_keep (by omega) (Or.inr (by omega))) | exact hb.trans (fst_keep (by omega) (Or.inl (b_no pBn_iff (fun q9 => by have h8 := q9.2; rw [hbk] at h8; cases h8)))) | exact hb.trans (fst_keep (by omega) (Or.inl (b_no pBn_iff (fun q9 => by have h8 := q9.1; omega))))) (by first | exact fst_take (by omega) (by omega) (srv_iff.mpr (by omega)) | exact hw1.trans (fst_keep (by omega) (Or.inr (by omega))) | exact hw1.trans (fst_keep (by omega) (Or.inl (b_no srv_iff (by omega))))) hw (by omega) (lv_sub hl [3, 2, 1, 0, 6, 7, 8, 9] rfl)
                      · exfalso; omega
                  · have hbk : brk js (stg 3) (p + mBr hps h.toNat) mJC.toNat = true := Classical.byContradiction (fun q9 => c18 (if_neg q9))
                    refine lv_iload hc.1 hc.2.1 dX9_choose_115 (lv_at hl 3 rfl) ?_
                    refine nn_bipush hc dX9_choose_117 (by decide +kernel) ?_
                    refine nn_icmp_eq hc dX9_choose_119 (tgt := 133) (by decide) (by omega) (by decide) (fun c21 => ?_) (fun c21 => ?_)
                    · refine lv_iload hc.1 hc.2.1 dX9_choose_133 (lv_at hl 5 rfl) ?_
                      refine lv_goto hc.1 hc.2.1 dX9_choose_135 (tgt := 140) (by decide) ?_
                      refine lv_istore (lv' := [(5, .int (iI h)), (4, .int (iI e)), (9, .int (iI 0)), (8, .int (iI (mBr hps h.toNat))), (6, .int (iI w)), (7, .int (iI h)), (0, .ref z), (1, .int (iI x0)), (2, .int (iI p)), (3, .int (iI R))]) hc.1 hc.2.1 dX9_choose_140 hl (by decide) rfl (fun ls hl => ?_)
                      refine lv_iload hc.1 hc.2.1 dX9_choose_142 (lv_at hl 4 rfl) ?_
                      refine nn_bipush hc dX9_choose_144 (by decide +kernel) ?_
                      refine nn_icmp_eq hc dX9_choose_146 (tgt := 160) (by decide) (by omega) (by decide) (fun c22 => ?_) (fun c22 => ?_)
                      · refine lv_iload hc.1 hc.2.1 dX9_choose_160 (lv_at hl 5 rfl) ?_
                        refine lv_goto hc.1 hc.2.1 dX9_choose_162 (tgt := 167) (by decide) ?_
                        refine lv_istore (lv' := [(6, .int (iI h)), (5, .int (iI h)), (4, .int (iI e)), (9, .int (iI 0)), (8, .int (iI (mBr hps h.toNat))), (7, .int (iI h)), (0, .ref z), (1, .int (iI x0)), (2, .int (iI p)), (3, .int (iI R))]) hc.1 hc.2.1 dX9_choose_167 hl (by decide) rfl (fun ls hl => ?_)
                        refine nn_iinc (lv' := [(7, .int (iI (h + 1))), (6, .int (iI h)), (5, .int (iI h)), (4, .int (iI e)), (9, .int (iI 0)), (8, .int (iI (mBr hps h.toNat))), (0, .ref z), (1, .int (iI x0)), (2, .int (iI p)), (3, .int (iI R))]) hc dX9_choose_169 hl (k0 := 5) rfl (by decide) rfl (fun ls hl => ?_)
                        refine lv_goto hc.1 hc.2.1 dX9_choose_172 (tgt := 15) (by decide) ?_
                        exact ih15 e h h (h + 1) _ _ _ (by omega) (by first | exact lst_take (by omega) (pE_iff.mpr (by omega)) | exact he.trans (lst_keep (by omega) (b_no pE_iff (by omega)))) (by first | exact fst_take (by omega) (by omega) (pBn_iff.mpr ⟨by omega, hbk⟩) | exact hb.trans (fst_keep (by omega) (Or.inr (by omega))) | exact hb.trans (fst_keep (by omega) (Or.inl (b_no pBn_iff (fun q9 => by have h8 := q9.2; rw [hbk] at h8; cases h8)))) | exact hb.trans (fst_keep (by omega) (Or.inl (b_no pBn_iff (fun q9 => by have h8 := q9.1; omega))))) (by first | exact fst_take (by omega) (by omega) (srv_iff.mpr (by omega)) | exact hw1.trans (fst_keep (by omega) (Or.inr (by omega))) | exact hw1.trans (fst_keep (by omega) (Or.inl (b_no srv_iff (by omega))))) hw (by omega) (lv_sub hl [3, 2, 1, 0, 6, 7, 8, 9] rfl)
                      · have hq1 := srv_iff.mp (fstI_q (q := srv (mLn hps) nw x0) (n := h.toNat) (by omega))
                        rw [← hw1] at hq1
                        have hr1 : mBr hps h.toNat < mBr hps w.toNat := by have h9 := hsrt w.toNat h.toNat (by omega) (by omega); omega
                        have hMe := rM w.toNat (by omega)
                        refine lv_iload hc.1 hc.2.1 dX9_choose_149 (lv_at hl 3 rfl) ?_
                        refine lv_aload_n hc.1 hc.2.1 dX9_choose_151 rfl (lv_at hl 6 rfl) ?_
                        refine lv_iload hc.1 hc.2.1 dX9_choose_152 (lv_at hl 4 rfl) ?_
                        refine nn_Vp (As := [.int (iI w)]) (st := [.int (iI (mBr hps h.toNat))]) hc hw hz rfl (c_X9_breadth l g  hz hhp (by omega)) (cwV 1 hc.2.2.2.2 gX9_choose_X9_breadth rfl rfl rfl (by decide +kernel) ⟨Nat.le_of_ble_eq_true rfl, Nat.le_of_ble_eq_true rfl⟩) rfl hl.1 rfl (Nat.le_of_ble_eq_true rfl) ⟨Nat.le_of_ble_eq_true rfl, Nat.le_of_ble_eq_true rfl⟩ dX9_choose_154 ?_
                        refine W.eq (g2 := F0 m 157 ls [.int (iI (mBr hps w.toNat)), .int (iI (mBr hps h.toNat))]) rfl ?_
                        refine nn_icmp_le hc dX9_choose_157 (tgt := 165) (by decide) (by omega) (by omega) (fun c23 => ?_) (fun c23 => ?_)
                        · refine lv_iload hc.1 hc.2.1 dX9_choose_165 (lv_at hl 4 rfl) ?_
                          refine lv_istore (lv' := [(6, .int (iI w)), (5, .int (iI h)), (4, .int (iI e)), (9, .int (iI 0)), (8, .int (iI (mBr hps h.toNat))), (7, .int (iI h)), (0, .ref z), (1, .int (iI x0)), (2, .int (iI p)), (3, .int (iI R))]) hc.1 hc.2.1 dX9_choose_167 hl (by decide) rfl (fun ls hl => ?_)
                          refine nn_iinc (lv' := [(7, .int (iI (h + 1))), (6, .int (iI w)), (5, .int (iI h)), (4, .int (iI e)), (9, .int (iI 0)), (8, .int (iI (mBr hps h.toNat))), (0, .ref z), (1, .int (iI x0)), (2, .int (iI p)), (3, .int (iI R))]) hc dX9_choose_169 hl (k0 := 5) rfl (by decide) rfl (fun ls hl => ?_)
                          refine lv_goto hc.1 hc.2.1 dX9_choose_172 (tgt := 15) (by decide) ?_
                          exact ih15 e h w (h + 1) _ _ _ (by omega) (by first | exact lst_take (by omega) (pE_iff.mpr (by omega)) | exact he.trans (lst_keep (by omega) (b_no pE_iff (by omega)))) (by first | exact fst_take (by omega) (by omega) (pBn_iff.mpr ⟨by omega, hbk⟩) | exact hb.trans (fst_keep (by omega) (Or.inr (by omega))) | exact hb.trans (fst_keep (by omega) (Or.inl (b_no pBn_iff (fun q9 => by have h8 := q9.2; rw [hbk] at h8; cases h8)))) | exact hb.trans (fst_keep (by omega) (Or.inl (b_no pBn_iff (fun q9 => by have h8 := q9.1; omega))))) (by first | exact fst_take (by omega) (by omega) (srv_iff.mpr (by omega)) | exact hw1.trans (fst_keep (by omega) (Or.inr (by omega))) | exact hw1.trans (fst_keep (by omega) (Or.inl (b_no srv_iff (by omega))))) hw (by omega) (lv_sub hl [3, 2, 1, 0, 6, 7, 8, 9] rfl)
                        · exfalso; omega
                    · have hq1 := (pBn_iff.mp (fstI_q (q := pBn (mLn hps) (mBr hps) nw x0 R js (stg 3) mJC.toNat p) (n := h.toNat) (by omega))).1
                      rw [← hb] at hq1
                      have hr1 : mBr hps h.toNat < mBr hps b.toNat := by have h9 := hsrt b.toNat h.toNat (by omega) (by omega); omega
                      have hMe := rM b.toNat (by omega)
                      refine lv_iload hc.1 hc.2.1 dX9_choose_122 (lv_at hl 2 rfl) ?_
                      refine lv_aload_n hc.1 hc.2.1 dX9_choose_124 rfl (lv_at hl 6 rfl) ?_
                      refine lv_iload hc.1 hc.2.1 dX9_choose_125 (lv_at hl 3 rfl) ?_
                      refine nn_Vp (As := [.int (iI b)]) (st := [.int (iI (mBr hps h.toNat))]) hc hw hz rfl (c_X9_breadth l g  hz hhp (by omega)) (cwV 1 hc.2.2.2.2 gX9_choose_X9_breadth rfl rfl rfl (by decide +kernel) ⟨Nat.le_of_ble_eq_true rfl, Nat.le_of_ble_eq_true rfl⟩) rfl hl.1 rfl (Nat.le_of_ble_eq_true rfl) ⟨Nat.le_of_ble_eq_true rfl, Nat.le_of_ble_eq_true rfl⟩ dX9_choose_127 ?_
                      refine W.eq (g2 := F0 m 130 ls [.int (iI (mBr hps b.toNat)), .int (iI (mBr hps h.toNat))]) rfl ?_
                      refine nn_icmp_le hc dX9_choose_130 (tgt := 138) (by decide) (by omega) (by omega) (fun c24 => ?_) (fun c24 => ?_)
                      · refine lv_iload hc.1 hc.2.1 dX9_choose_138 (lv_at hl 3 rfl) ?_
                        refine lv_istore (lv' := [(5, .int (iI b)), (4, .int (iI e)), (9, .int (iI 0)), (8, .int (iI (mBr hps h.toNat))), (6, .int (iI w)), (7, .int (iI h)), (0, .ref z), (1, .int (iI x0)), (2, .int (iI p)), (3, .int (iI R))]) hc.1 hc.2.1 dX9_choose_140 hl (by decide) rfl (fun ls hl => ?_)
                        refine lv_iload hc.1 hc.2.1 dX9_choose_142 (lv_at hl 4 rfl) ?_
                        refine nn_bipush hc dX9_choose_144 (by decide +kernel) ?_
                        refine nn_icmp_eq hc dX9_choose_146 (tgt := 160) (by decide) (by omega) (by decide) (fun c25 => ?_) (fun c25 => ?_)
                        · refine lv_iload hc.1 hc.2.1 dX9_choose_160 (lv_at hl 5 rfl) ?_
                          refine lv_goto hc.1 hc.2.1 dX9_choose_162 (tgt := 167) (by decide) ?_
                          refine lv_istore (lv' := [(6, .int (iI h)), (5, .int (iI b)), (4, .int (iI e)), (9, .int (iI 0)), (8, .int (iI (mBr hps h.toNat))), (7, .int (iI h)), (0, .ref z), (1, .int (iI x0)), (2, .int (iI p)), (3, .int (iI R))]) hc.1 hc.2.1 dX9_choose_167 hl (by decide) rfl (fun ls hl => ?_)
                          refine nn_iinc (lv' := [(7, .int (iI (h + 1))), (6, .int (iI h)), (5, .int (iI b)), (4, .int (iI e)), (9, .int (iI 0)), (8, .int (iI (mBr hps h.toNat))), (0, .ref z), (1, .int (iI x0)), (2, .int (iI p)), (3, .int (iI R))]) hc dX9_choose_169 hl (k0 := 5) rfl (by decide) rfl (fun ls hl => ?_)
                          refine lv_goto hc.1 hc.2.1 dX9_choose_172 (tgt := 15) (by decide) ?_
                          exact ih15 e b h (h + 1) _ _ _ (by omega) (by first | exact lst_take (by omega) (pE_iff.mpr (by omega)) | exact he.trans (lst_keep (by omega) (b_no pE_iff (by omega)))) (by first | exact fst_take (by omega) (by omega) (pBn_iff.mpr ⟨by omega, hbk⟩) | exact hb.trans (fst_keep (by omega) (Or.inr (by omega))) | exact hb.trans (fst_keep (by omega) (Or.inl (b_no pBn_iff (fun q9 => by have h8 := q9.2; rw [hbk] at h8; cases h8)))) | exact hb.trans (fst_keep (by omega) (Or.inl (b_no pBn_iff (fun q9 => by have h8 := q9.1; omega))))) (by first | exact fst_take (by omega) (by omega) (srv_iff.mpr (by omega)) | exact hw1.trans (fst_keep (by omega) (Or.inr (by omega))) | exact hw1.trans (fst_keep (by omega) (Or.inl (b_no srv_iff (by omega))))) hw (by omega) (lv_sub hl [3, 2, 1, 0, 6, 7, 8, 9] rfl)
                        · have hq1 := srv_iff.mp (fstI_q (q := srv (mLn hps) nw x0) (n := h.toNat) (by omega))
                          rw [← hw1] at hq1
                          have hr1 : mBr hps h.toNat < mBr hps w.toNat := by have h9 := hsrt w.toNat h.toNat (by omega) (by omega); omega
                          have hMe := rM w.toNat (by omega)
                          refine lv_iload hc.1 hc.2.1 dX9_choose_149 (lv_at hl 3 rfl) ?_
                          refine lv_aload_n hc.1 hc.2.1 dX9_choose_151 rfl (lv_at hl 6 rfl) ?_
                          refine lv_iload hc.1 hc.2.1 dX9_choose_152 (lv_at hl 4 rfl) ?_
                          refine nn_Vp (As := [.int (iI w)]) (st := [.int (iI (mBr hps h.toNat))]) hc hw hz rfl (c_X9_breadth l g  hz hhp (by omega)) (cwV 1 hc.2.2.2.2 gX9_choose_X9_breadth rfl rfl rfl (by decide +kernel) ⟨Nat.le_of_ble_eq_true rfl, Nat.le_of_ble_eq_true rfl⟩) rfl hl.1 rfl (Nat.le_of_ble_eq_true rfl) ⟨Nat.le_of_ble_eq_true rfl, Nat.le_of_ble_eq_true rfl⟩ dX9_choose_154 ?_
                          refine W.eq (g2 := F0 m 157 ls [.int (iI (mBr hps w.toNat)), .int (iI (mBr hps h.toNat))]) rfl ?_
                          refine nn_icmp_le hc dX9_choose_157 (tgt := 165) (by decide) (by omega) (by omega) (fun c26 => ?_) (fun c26 => ?_)
                          · refine lv_iload hc.1 hc.2.1 dX9_choose_165 (lv_at hl 4 rfl) ?_
                            refine lv_istore (lv' := [(6, .int (iI w)), (5, .int (iI b)), (4, .int (iI e)), (9, .int (iI 0)), (8, .int (iI (mBr hps h.toNat))), (7, .int (iI h)), (0, .ref z), (1, .int (iI x0)), (2, .int (iI p)), (3, .int (iI R))]) hc.1 hc.2.1 dX9_choose_167 hl (by decide) rfl (fun ls hl => ?_)
                            refine nn_iinc (lv' := [(7, .int (iI (h + 1))), (6, .int (iI w)), (5, .int (iI b)), (4, .int (iI e)), (9, .int (iI 0)), (8, .int (iI (mBr hps h.toNat))), (0, .ref z), (1, .int (iI x0)), (2, .int (iI p)), (3, .int (iI R))]) hc dX9_choose_169 hl (k0 := 5) rfl (by decide) rfl (fun ls hl => ?_)
                            refine lv_goto hc.1 hc.2.1 dX9_choose_172 (tgt := 15) (by decide) ?_
                            exact ih15 e b w (h + 1) _ _ _ (by omega) (by first | exact lst_take (by omega) (pE_iff.mpr (by omega)) | exact he.trans (lst_keep (by omega) (b_no pE_iff (by omega)))) (by first | exact fst_take (by omega) (by omega) (pBn_iff.mpr ⟨by omega, hbk⟩) | exact hb.trans (fst_keep (by omega) (Or.inr (by omega))) | exact hb.trans (fst_keep (by omega) (Or.inl (b_no pBn_iff (fun q9 => by have h8 := q9.2; rw [hbk] at h8; cases h8)))) | exact hb.trans (fst_keep (by omega) (Or.inl (b_no pBn_iff (fun q9 => by have h8 := q9.1; omega))))) (by first | exact fst_take (by omega) (by omega) (srv_iff.mpr (by omega)) | exact hw1.trans (fst_keep (by omega) (Or.inr (by omega))) | exact hw1.trans (fst_keep (by omega) (Or.inl (b_no srv_iff (by omega))))) hw (by omega) (lv_sub hl [3, 2, 1, 0, 6, 7, 8, 9] rfl)
                          · exfalso; omega
                      · exfalso; omega
              · exact absurd c16 (by decide)
            · refine nn_iconst hc dX9_choose_60 ?_
              refine lv_goto hc.1 hc.2.1 dX9_choose_61 (tgt := 65) (by decide) ?_
              refine lv_istore (lv' := [(9, .int (iI 1)), (8, .int (iI (mBr hps h.toNat))), (4, .int (iI e)), (5, .int (iI b)), (6, .int (iI w)), (7, .int (iI h)), (0, .ref z), (1, .int (iI x0)), (2, .int (iI p)), (3, .int (iI R))]) hc.1 hc.2.1 dX9_choose_65 hl (by decide) rfl (fun ls hl => ?_)
              refine lv_iload hc.1 hc.2.1 dX9_choose_67 (lv_at hl 0 rfl) ?_
              refine nn_if_eq hc dX9_choose_69 (tgt := 95) (by decide) (by decide) (fun c27 => ?_) (fun c27 => ?_)
              · exact absurd c27 (by decide)
              · refine lv_iload hc.1 hc.2.1 dX9_choose_72 (lv_at hl 2 rfl) ?_
                refine nn_bipush hc dX9_choose_74 (by decide +kernel) ?_
                refine nn_icmp_eq hc dX9_choose_76 (tgt := 90) (by decide) (by omega) (by decide) (fun c28 => ?_) (fun c28 => ?_)
                · refine lv_iload hc.1 hc.2.1 dX9_choose_90 (lv_at hl 5 rfl) ?_
                  refine lv_goto hc.1 hc.2.1 dX9_choose_92 (tgt := 97) (by decide) ?_
                  refine lv_istore (lv' := [(4, .int (iI h)), (9, .int (iI 1)), (8, .int (iI (mBr hps h.toNat))), (5, .int (iI b)), (6, .int (iI w)), (7, .int (iI h)), (0, .ref z), (1, .int (iI x0)), (2, .int (iI p)), (3, .int (iI R))]) hc.1 hc.2.1 dX9_choose_97 hl (by decide) rfl (fun ls hl => ?_)
                  refine lv_iload hc.1 hc.2.1 dX9_choose_99 (lv_at hl 1 rfl) ?_
                  refine nn_if_ne hc dX9_choose_101 (tgt := 138) (by decide) (by decide) (fun c29 => ?_) (fun c29 => ?_)
                  · refine lv_iload hc.1 hc.2.1 dX9_choose_138 (lv_at hl 3 rfl) ?_
                    refine lv_istore (lv' := [(5, .int (iI b)), (4, .int (iI h)), (9, .int (iI 1)), (8, .int (iI (mBr hps h.toNat))), (6, .int (iI w)), (7, .int (iI h)), (0, .ref z), (1, .int (iI x0)), (2, .int (iI p)), (3, .int (iI R))]) hc.1 hc.2.1 dX9_choose_140 hl (by decide) rfl (fun ls hl => ?_)
                    refine lv_iload hc.1 hc.2.1 dX9_choose_142 (lv_at hl 4 rfl) ?_
                    refine nn_bipush hc dX9_choose_144 (by decide +kernel) ?_
                    refine nn_icmp_eq hc dX9_choose_146 (tgt := 160) (by decide) (by omega) (by decide) (fun c30 => ?_) (fun c30 => ?_)
                    · refine lv_iload hc.1 hc.2.1 dX9_choose_160 (lv_at hl 5 rfl) ?_
                      refine lv_goto hc.1 hc.2.1 dX9_choose_162 (tgt := 167) (by decide) ?_
                      refine lv_istore (lv' := [(6, .int (iI h)), (5, .int (iI b)), (4, .int (iI h)), (9, .int (iI 1)), (8, .int (iI (mBr hps h.toNat))), (7, .int (iI h)), (0, .ref z), (1, .int (iI x0)), (2, .int (iI p)), (3, .int (iI R))]) hc.1 hc.2.1 dX9_choose_167 hl (by decide) rfl (fun ls hl => ?_)
                      refine nn_iinc (lv' := [(7, .int (iI (h + 1))), (6, .int (iI h)), (5, .int (iI b)), (4, .int (iI h)), (9, .int (iI 1)), (8, .int (iI (mBr hps h.toNat))), (0, .ref z), (1, .int (iI x0)), (2, .int (iI p)), (3, .int (iI R))]) hc dX9_choose_169 hl (k0 := 5) rfl (by decide) rfl (fun ls hl => ?_)
                      refine lv_goto hc.1 hc.2.1 dX9_choose_172 (tgt := 15) (by decide) ?_
                      exact ih15 h b h (h + 1) _ _ _ (by omega) (by first | exact lst_take (by omega) (pE_iff.mpr (by omega)) | exact he.trans (lst_keep (by omega) (b_no pE_iff (by omega)))) (by first | exact fst_take (by omega) (by omega) (pBn_iff.mpr ⟨by omega, hbk⟩) | exact hb.trans (fst_keep (by omega) (Or.inr (by omega))) | exact hb.trans (fst_keep (by omega) (Or.inl (b_no pBn_iff (fun q9 => by have h8 := q9.2; rw [hbk] at h8; cases h8)))) | exact hb.trans (fst_keep (by omega) (Or.inl (b_no pBn_iff (fun q9 => by have h8 := q9.1; omega))))) (by first | exact fst_take (by omega) (by omega) (srv_iff.mpr (by omega)) | exact hw1.trans (fst_keep (by omega) (Or.inr (by omega))) | exact hw1.trans (fst_keep (by omega) (Or.inl (b_no srv_iff (by omega))))) hw (by omega) (lv_sub hl [3, 2, 1, 0, 6, 7, 8, 9] rfl)
                    · have hq1 := srv_iff.mp (fstI_q (q := srv (mLn hps) nw x0) (n := h.toNat) (by omega))
                      rw [← hw1] at hq1
                      have hr1 : mBr hps h.toNat < mBr hps w.toNat := by have h9 := hsrt w.toNat h.toNat (by omega) (by omega); omega
                      have hMe := rM w.toNat (by omega)
                      refine lv_iload hc.1 hc.2.1 dX9_choose_149 (lv_at hl 3 rfl) ?_
                      refine lv_aload_n hc.1 hc.2.1 dX9_choose_151 rfl (lv_at hl 6 rfl) ?_
                      refine lv_iload hc.1 hc.2.1 dX9_choose_152 (lv_at hl 4 rfl) ?_
                      refine nn_Vp (As := [.int (iI w)]) (st := [.int (iI (mBr hps h.toNat))]) hc hw hz rfl (c_X9_breadth l g  hz hhp (by omega)) (cwV 1 hc.2.2.2.2 gX9_choose_X9_breadth rfl rfl rfl (by decide +kernel) ⟨Nat.le_of_ble_eq_true rfl, Nat.le_of_ble_eq_true rfl⟩) rfl hl.1 rfl (Nat.le_of_ble_eq_true rfl) ⟨Nat.le_of_ble_eq_true rfl, Nat.le_of_ble_eq_true rfl⟩ dX9_choose_154 ?_
                      refine W.eq (g2 := F0 m 157 ls [.int (iI (mBr hps w.toNat)), .int (iI (mBr hps h.toNat))]) rfl ?_
                      refine nn_icmp_le hc dX9_choose_157 (tgt := 165) (by decide) (by omega) (by omega) (fun c31 => ?_) (fun c31 => ?_)
                      · refine lv_iload hc.1 hc.2.1 dX9_choose_165 (lv_at hl 4 rfl) ?_
                        refine lv_istore (lv' := [(6, .int (iI w)), (5, .int (iI b)), (4, .int (iI h)), (9, .int (iI 1)), (8, .int (iI (mBr hps h.toNat))), (7, .int (iI h)), (0, .ref z), (1, .int (iI x0)), (2, .int (iI p)), (3, .int (iI R))]) hc.1 hc.2.1 dX9_choose_167 hl (by decide) rfl (fun ls hl => ?_)
                        refine nn_iinc (lv' := [(7, .int (iI (h + 1))), (6, .int (iI w)), (5, .int (iI b)), (4, .int (iI h)), (9, .int (iI 1)), (8, .int (iI (mBr hps h.toNat))), (0, .ref z), (1, .int (iI x0)), (2, .int (iI p)), (3, .int (iI R))]) hc dX9_choose_169 hl (k0 := 5) rfl (by decide) rfl (fun ls hl => ?_)
                        refine lv_goto hc.1 hc.2.1 dX9_choose_172 (tgt := 15) (by decide) ?_
                        exact ih15 h b w (h + 1) _ _ _ (by omega) (by first | exact lst_take (by omega) (pE_iff.mpr (by omega)) | exact he.trans (lst_keep (by omega) (b_no pE_iff (by omega)))) (by first | exact fst_take (by omega) (by omega) (pBn_iff.mpr ⟨by omega, hbk⟩) | exact hb.trans (fst_keep (by omega) (Or.inr (by omega))) | exact hb.trans (fst_keep (by omega) (Or.inl (b_no pBn_iff (fun q9 => by have h8 := q9.2; rw [hbk] at h8; cases h8)))) | exact hb.trans (fst_keep (by omega) (Or.inl (b_no pBn_iff (fun q9 => by have h8 := q9.1; omega))))) (by first | exact fst_take (by omega) (by omega) (srv_iff.mpr (by omega)) | exact hw1.trans (fst_keep (by omega) (Or.inr (by omega))) | exact hw1.trans (fst_keep (by omega) (Or.inl (b_no srv_iff (by omega))))) hw (by omega) (lv_sub hl [3, 2, 1, 0, 6, 7, 8, 9] rfl)
                      · exfalso; omega
                  · exact absurd c29 (by decide)
                · have hq1 := pE_iff.mp (lstI_q (q := pE (mLn hps) (mBr hps) nw x0 R p) (n := h.toNat) (by omega))
                  rw [← he] at hq1
                  have hr1 : mBr hps h.toNat < mBr hps e.toNat := by have h9 := hsrt e.toNat h.toNat (by omega) (by omega); omega
                  have hMe := rM e.toNat (by omega)
                  refine lv_iload hc.1 hc.2.1 dX9_choose_79 (lv_at hl 1 rfl) ?_
                  refine lv_aload_n hc.1 hc.2.1 dX9_choose_81 rfl (lv_at hl 6 rfl) ?_
                  refine lv_iload hc.1 hc.2.1 dX9_choose_82 (lv_at hl 2 rfl) ?_
                  refine nn_Vp (As := [.int (iI e)]) (st := [.int (iI (mBr hps h.toNat))]) hc hw hz rfl (c_X9_breadth l g  hz hhp (by omega)) (cwV 1 hc.2.2.2.2 gX9_choose_X9_breadth rfl rfl rfl (by decide +kernel) ⟨Nat.le_of_ble_eq_true rfl, Nat.le_of_ble_eq_true rfl⟩) rfl hl.1 rfl (Nat.le_of_ble_eq_true rfl) ⟨Nat.le_of_ble_eq_true rfl, Nat.le_of_ble_eq_true rfl⟩ dX9_choose_84 ?_
                  refine W.eq (g2 := F0 m 87 ls [.int (iI (mBr hps e.toNat)), .int (iI (mBr hps h.toNat))]) rfl ?_
                  refine nn_icmp_ge hc dX9_choose_87 (tgt := 95) (by decide) (by omega) (by omega) (fun c32 => ?_) (fun c32 => ?_)
                  · exfalso; omega
                  · refine lv_iload hc.1 hc.2.1 dX9_choose_90 (lv_at hl 5 rfl) ?_
                    refine lv_goto hc.1 hc.2.1 dX9_choose_92 (tgt := 97) (by decide) ?_
                    refine lv_istore (lv' := [(4, .int (iI h)), (9, .int (iI 1)), (8, .int (iI (mBr hps h.toNat))), (5, .int (iI b)), (6, .int (iI w)), (7, .int (iI h)), (0, .ref z), (1, .int (iI x0)), (2, .int (iI p)), (3, .int (iI R))]) hc.1 hc.2.1 dX9_choose_97 hl (by decide) rfl (fun ls hl => ?_)
                    refine lv_iload hc.1 hc.2.1 dX9_choose_99 (lv_at hl 1 rfl) ?_
                    refine nn_if_ne hc dX9_choose_101 (tgt := 138) (by decide) (by decide) (fun c33 => ?_) (fun c33 => ?_)
                    · refine lv_iload hc.1 hc.2.1 dX9_choose_138 (lv_at hl 3 rfl) ?_
                      refine lv_istore (lv' := [(5, .int (iI b)), (4, .int (iI h)), (9, .int (iI 1)), (8, .int (iI (mBr hps h.toNat))), (6, .int (iI w)), (7, .int (iI h)), (0, .ref z), (1, .int (iI x0)), (2, .int (iI p)), (3, .int (iI R))]) hc.1 hc.2.1 dX9_choose_140 hl (by decide) rfl (fun ls hl => ?_)
                      refine lv_iload hc.1 hc.2.1 dX9_choose_142 (lv_at hl 4 rfl) ?_
                      refine nn_bipush hc dX9_choose_144 (by decide +kernel) ?_
                      refine nn_icmp_eq hc dX9_choose_146 (tgt := 160) (by decide) (by omega) (by decide) (fun c34 => ?_) (fun c34 => ?_)
                      · refine lv_iload hc.1 hc.2.1 dX9_choose_160 (lv_at hl 5 rfl) ?_
                        refine lv_goto hc.1 hc.2.1 dX9_choose_162 (tgt := 167) (by decide) ?_
                        refine lv_istore (lv' := [(6, .int (iI h)), (5, .int (iI b)), (4, .int (iI h)), (9, .int (iI 1)), (8, .int (iI (mBr hps h.toNat))), (7, .int (iI h)), (0, .ref z), (1, .int (iI x0)), (2, .int (iI p)), (3, .int (iI R))]) hc.1 hc.2.1 dX9_choose_167 hl (by decide) rfl (fun ls hl => ?_)
                        refine nn_iinc (lv' := [(7, .int (iI (h + 1))), (6, .int (iI h)), (5, .int (iI b)), (4, .int (iI h)), (9, .int (iI 1)), (8, .int (iI (mBr hps h.toNat))), (0, .ref z), (1, .int (iI x0)), (2, .int (iI p)), (3, .int (iI R))]) hc dX9_choose_169 hl (k0 := 5) rfl (by decide) rfl (fun ls hl => ?_)
                        refine lv_goto hc.1 hc.2.1 dX9_choose_172 (tgt := 15) (by decide) ?_
                        exact ih15 h b h (h + 1) _ _ _ (by omega) (by first | exact lst_take (by omega) (pE_iff.mpr (by omega)) | exact he.trans (lst_keep (by omega) (b_no pE_iff (by omega)))) (by first | exact fst_take (by omega) (by omega) (pBn_iff.mpr ⟨by omega, hbk⟩) | exact hb.trans (fst_keep (by omega) (Or.inr (by omega))) | exact hb.trans (fst_keep (by omega) (Or.inl (b_no pBn_iff (fun q9 => by have h8 := q9.2; rw [hbk] at h8; cases h8)))) | exact hb.trans (fst_keep (by omega) (Or.inl (b_no pBn_iff (fun q9 => by have h8 := q9.1; omega))))) (by first | exact fst_take (by omega) (by omega) (srv_iff.mpr (by omega)) | exact hw1.trans (fst_keep (by omega) (Or.inr (by omega))) | exact hw1.trans (fst_keep (by omega) (Or.inl (b_no srv_iff (by omega))))) hw (by omega) (lv_sub hl [3, 2, 1, 0, 6, 7, 8, 9] rfl)
                      · have hq1 := srv_iff.mp (fstI_q (q := srv (mLn hps) nw x0) (n := h.toNat) (by omega))
                        rw [← hw1] at hq1
                        have hr1 : mBr hps h.toNat < mBr hps w.toNat := by have h9 := hsrt w.toNat h.toNat (by omega) (by omega); omega
                        have hMe := rM w.toNat (by omega)
                        refine lv_iload hc.1 hc.2.1 dX9_choose_149 (lv_at hl 3 rfl) ?_
                        refine lv_aload_n hc.1 hc.2.1 dX9_choose_151 rfl (lv_at hl 6 rfl) ?_
                        refine lv_iload hc.1 hc.2.1 dX9_choose_152 (lv_at hl 4 rfl) ?_
                        refine nn_Vp (As := [.int (iI w)]) (st := [.int (iI (mBr hps h.toNat))]) hc hw hz rfl (c_X9_breadth l g  hz hhp (by omega)) (cwV 1 hc.2.2.2.2 gX9_choose_X9_breadth rfl rfl rfl (by decide +kernel) ⟨Nat.le_of_ble_eq_true rfl, Nat.le_of_ble_eq_true rfl⟩) rfl hl.1 rfl (Nat.le_of_ble_eq_true rfl) ⟨Nat.le_of_ble_eq_true rfl, Nat.le_of_ble_eq_true rfl⟩ dX9_choose_154 ?_
                        refine W.eq (g2 := F0 m 157 ls [.int (iI (mBr hps w.toNat)), .int (iI (mBr hps h.toNat))]) rfl ?_
                        refine nn_icmp_le hc dX9_choose_157 (tgt := 165) (by decide) (by omega) (by omega) (fun c35 => ?_) (fun c35 => ?_)
                        · refine lv_iload hc.1 hc.2.1 dX9_choose_165 (lv_at hl 4 rfl) ?_
                          refine lv_istore (lv' := [(6, .int (iI w)), (5, .int (iI b)), (4, .int (iI h)), (9, .int (iI 1)), (8, .int (iI (mBr hps h.toNat))), (7, .int (iI h)), (0, .ref z), (1, .int (iI x0)), (2, .int (iI p)), (3, .int (iI R))]) hc.1 hc.2.1 dX9_choose_167 hl (by decide) rfl (fun ls hl => ?_)
                          refine nn_iinc (lv' := [(7, .int (iI (h + 1))), (6, .int (iI w)), (5, .int (iI b)), (4, .int (iI h)), (9, .int (iI 1)), (8, .int (iI (mBr hps h.toNat))), (0, .ref z), (1, .int (iI x0)), (2, .int (iI p)), (3, .int (iI R))]) hc dX9_choose_169 hl (k0 := 5) rfl (by decide) rfl (fun ls hl => ?_)
                          refine lv_goto hc.1 hc.2.1 dX9_choose_172 (tgt := 15) (by decide) ?_
                          exact ih15 h b w (h + 1) _ _ _ (by omega) (by first | exact lst_take (by omega) (pE_iff.mpr (by omega)) | exact he.trans (lst_keep (by omega) (b_no pE_iff (by omega)))) (by first | exact fst_take (by omega) (by omega) (pBn_iff.mpr ⟨by omega, hbk⟩) | exact hb.trans (fst_keep (by omega) (Or.inr (by omega))) | exact hb.trans (fst_keep (by omega) (Or.inl (b_no pBn_iff (fun q9 => by have h8 := q9.2; rw [hbk] at h8; cases h8)))) | exact hb.trans (fst_keep (by omega) (Or.inl (b_no pBn_iff (fun q9 => by have h8 := q9.1; omega))))) (by first | exact fst_take (by omega) (by omega) (srv_iff.mpr (by omega)) | exact hw1.trans (fst_keep (by omega) (Or.inr (by omega))) | exact hw1.trans (fst_keep (by omega) (Or.inl (b_no srv_iff (by omega))))) hw (by omega) (lv_sub hl [3, 2, 1, 0, 6, 7, 8, 9] rfl)
                        · exfalso; omega
                    · exact absurd c33 (by decide)
  exact lab15 _ (-4) (-4) (-4) 0 _ _ _ (by omega) (rfl) (rfl) (rfl) hw (Nat.lt_succ_self _) (lv_sub hl [3, 2, 1, 0, 4, 5, 6, 7] rfl)

set_option maxHeartbeats 4000000 in
set_option maxRecDepth 100000 in
theorem c_X9_choose_n1 (l : Launch) (g : gG) {n : Nat} {S : Nat → gE} {z : Nat} {mLen mAt mHC mRC mHS mJC mCh mVi : Int} {stg hps nw js : Nat → Int} {x0 p R : Int} (hz : S z = oO 9 [.ref (z + 1), .int (iI mLen), .int (iI mAt), .ref (z + 2), .ref (z + 3), .ref (z + 4), .ref (z + 5), .int (iI mHC), .int (iI mRC), .ref (z + 6), .ref (z + 7), .ref (z + 8), .int (iI mHS), .ref (z + 9), .ref (z + 10), .int (iI mJC), .int (iI mCh), .int (iI mVi)]) (hst : S (z + 2) = oI g 5 stg) (hhp : S (z + 4) = oI g 24 hps) (hnw : S (z + 6) = oI g 1249 nw) (hjs : S (z + 10) = oI g 60 js) (rHC : 0 ≤ mHC ∧ mHC ≤ 8) (rM : ∀ i : Nat, (i : Int) < mHC → (20 ≤ mLn hps i ∧ mLn hps i ≤ 60) ∧ (10 ≤ mBr hps i ∧ mBr hps i ≤ 60)) (hsrt : srt mHC (mLn hps) (mBr hps)) (rW : ∀ i : Nat, (i : Int) < mHC → 0 ≤ nw i ∧ nw i ≤ 1000000) (rJ : 0 ≤ mJC ∧ mJC ≤ 59) (rb : 1 ≤ stg 3 ∧ stg 3 ≤ 1000) (rj : ∀ i : Nat, (i : Int) < mJC → -1000000 ≤ js i ∧ js i ≤ 1000000) (rx0 : 0 ≤ x0 ∧ x0 ≤ 60) (rpR : (0 ≤ p ∧ p < R) ∧ R ≤ 1000) (hE : lstI (pE (mLn hps) (mBr hps) nw x0 R p) mHC.toNat = -4) (hB : fstI (pB (mLn hps) (mBr hps) nw x0 js (stg 3) mJC.toNat p) mHC.toNat = -4) (hW : fstI (srv (mLn hps) nw x0) mHC.toNat = -4) : g_Cs l yX9_choose wsX9_choose { frames := 1, cells := 0, slots := 0, locals := 24 } g [.ref z, .int (iI x0), .int (iI p), .int (iI R)] n S (fun vr n1 S1 => ∃ c1 : Int, ∃ v1 : Int, vr = some (.int (iI 0)) ∧ n = n1 ∧ S1 z = oO 9 [.ref (z + 1), .int (iI mLen), .int (iI mAt), .ref (z + 2), .ref (z + 3), .ref (z + 4), .ref (z + 5), .int (iI mHC), .int (iI mRC), .ref (z + 6), .ref (z + 7), .ref (z + 8), .int (iI mHS), .ref (z + 9), .ref (z + 10), .int (iI mJC), .int (iI c1), .int (iI v1)] ∧ (∀ bb, bb ≠ z → S1 bb = S bb)) 0 0 := by
  refine g_Cs.of (cc := cX9_choose) (maxL := 10) (ret := (some .boolean)) (by decide) rfl (Nat.le_of_ble_eq_true rfl) ?_
  intro pp ee s m below meth cK Q H locs ls hc hnm hw hl hret
  have hl : lv_has ls 10 [(0, .ref z), (1, .int (iI x0)), (2, .int (iI p)), (3, .int (iI R))] := hl
  have hiX9 : ∀ w ∈ u_ws RX9 TX9 18, w ∈ wsX9_choose := by decide +kernel
  have lk54 : Cond.fieldLink RX9 54 "RoofCoursesModel" "heapCount" "I" ∈ wsX9_choose := by decide +kernel
  have lk120 : Cond.fieldLink RX9 120 "RoofCoursesModel" "chosen" "I" ∈ wsX9_choose := by decide +kernel
  have lk25 : Cond.fieldLink RX9 25 "RoofCoursesModel" "now" "[I" ∈ wsX9_choose := by decide +kernel
  refine nn_bipush hc dX9_choose_0 (by decide +kernel) ?_
  refine lv_istore (lv' := [(4, .int (iI (-4))), (0, .ref z), (1, .int (iI x0)), (2, .int (iI p)), (3, .int (iI R))]) hc.1 hc.2.1 dX9_choose_2 hl (by decide) rfl (fun ls hl => ?_)
  refine nn_bipush hc dX9_choose_4 (by decide +kernel) ?_
  refine lv_istore (lv' := [(5, .int (iI (-4))), (4, .int (iI (-4))), (0, .ref z), (1, .int (iI x0)), (2, .int (iI p)), (3, .int (iI R))]) hc.1 hc.2.1 dX9_choose_6 hl (by decide) rfl (fun ls hl => ?_)
  refine nn_bipush hc dX9_choose_8 (by decide +kernel) ?_
  refine lv_istore (lv' := [(6, .int (iI (-4))), (5, .int (iI (-4))), (4, .int (iI (-4))), (0, .ref z), (1, .int (iI x0)), (2, .int (iI p)), (3, .int (iI R))]) hc.1 hc.2.1 dX9_choose_10 hl (by decide) rfl (fun ls hl => ?_)
  refine nn_iconst hc dX9_choose_12 ?_
  refine lv_istore (lv' := [(7, .int (iI 0)), (6, .int (iI (-4))), (5, .int (iI (-4))), (4, .int (iI (-4))), (0, .ref z), (1, .int (iI x0)), (2, .int (iI p)), (3, .int (iI R))]) hc.1 hc.2.1 dX9_choose_13 hl (by decide) rfl (fun ls hl => ?_)
  have lab15 : ∀ (fu15 : Nat) (e : Int) (b : Int) (w : Int) (h : Int) (H : Heap) (locs : List Loc) (ls : Array Slot), (0 ≤ h ∧ h ≤ mHC) → (e = lstI (pE (mLn hps) (mBr hps) nw x0 R p) h.toNat) → (b = fstI (pBn (mLn hps) (mBr hps) nw x0 R js (stg 3) mJC.toNat p) h.toNat) → (w = fstI (srv (mLn hps) nw x0) h.toNat) → g_W g n S s H locs → (mHC - h).toNat < fu15 → lv_has ls 10 [(4, .int (iI e)), (5, .int (iI b)), (6, .int (iI w)), (7, .int (iI h)), (0, .ref z), (1, .int (iI x0)), (2, .int (iI p)), (3, .int (iI R))] → W pp l ee ({ frames := 1, cells := 0, slots := 0, locals := 24 } : Room) s m ([.ref z, .int (iI x0), .int (iI p), .int (iI R)] : List Value).toArray below meth cK H locs 0 0 Q (F0 m 15 ls []) := by
    intro fu15
    induction fu15 with
    | zero =>
      intro e b w h H locs ls hh he hb hw1 hw hmeas hl
      exact absurd hmeas (Nat.not_lt_zero _)
    | succ fu15 ih15 =>
      intro e b w h H locs ls hh he hb hw1 hw hmeas hl
      refine lv_iload hc.1 hc.2.1 dX9_choose_15 (lv_at hl 3 rfl) ?_
      refine lv_aload_n hc.1 hc.2.1 dX9_choose_17 rfl (lv_at hl 4 rfl) ?_
      refine nn_get hc hw hz hiX9 rfl 7 (by decide) rfl lk54 dX9_choose_18 ?_
      refine nn_icmp_ge hc dX9_choose_21 (tgt := 175) (by decide) (by omega) (by omega) (fun c2 => ?_) (fun c2 => ?_)
      · have hHe : h.toNat = mHC.toNat := by omega
        rw [hHe] at he hb hw1
        have hre := lstI_r (pE (mLn hps) (mBr hps) nw x0 R p) mHC.toNat
        have hrb := fstI_r (pBn (mLn hps) (mBr hps) nw x0 R js (stg 3) mJC.toNat p) mHC.toNat
        have hrw := fstI_r (srv (mLn hps) nw x0) mHC.toNat
        have hbb : b = fstI (pB (mLn hps) (mBr hps) nw x0 js (stg 3) mJC.toNat p) mHC.toNat := hb.trans (pBn_pB hE)
        refine lv_aload_n hc.1 hc.2.1 dX9_choose_175 rfl (lv_at hl 4 rfl) ?_
        refine lv_iload hc.1 hc.2.1 dX9_choose_176 (lv_at hl 0 rfl) ?_
        refine nn_bipush hc dX9_choose_178 (by decide +kernel) ?_
        refine nn_icmp_eq hc dX9_choose_180 (tgt := 188) (by decide) (by omega) (by decide) (fun c3 => ?_) (fun c3 => ?_)
        · refine lv_iload hc.1 hc.2.1 dX9_choose_188 (lv_at hl 1 rfl) ?_
          refine nn_bipush hc dX9_choose_190 (by decide +kernel) ?_
          refine nn_icmp_eq hc dX9_choose_192 (tgt := 200) (by decide) (by omega) (by decide) (fun c4 => ?_) (fun c4 => ?_)
          · refine lv_iload hc.1 hc.2.1 dX9_choose_200 (lv_at hl 2 rfl) ?_
            refine nn_put hc hw hz hiX9 tyX9 tyX9_ok nmX9 rfl 16 (by decide) (Nat.le_of_ble_eq_true rfl) lk120 rfl rfl rfl dX9_choose_202 (fun S5 H locs hS5 fS5 hw => ?_)
            have hS5 : S5 z = oO 9 [.ref (z + 1), .int (iI mLen), .int (iI mAt), .ref (z + 2), .ref (z + 3), .ref (z + 4), .ref (z + 5), .int (iI mHC), .int (iI mRC), .ref (z + 6), .ref (z + 7), .ref (z + 8), .int (iI mHS), .ref (z + 9), .ref (z + 10), .int (iI mJC), .int (iI w), .int (iI mVi)] := hS5
            refine lv_aload_n hc.1 hc.2.1 dX9_choose_205 rfl (lv_at hl 4 rfl) ?_
            refine nn_get hc hw hS5 hiX9 rfl 16 (by decide) rfl lk120 dX9_choose_206 ?_
            refine nn_bipush hc dX9_choose_209 (by decide +kernel) ?_
            refine nn_icmp_ne hc dX9_choose_211 (tgt := 216) (by decide) (by omega) (by decide) (fun c6 => ?_) (fun c6 => ?_)
            · exfalso; omega
            · refine nn_iconst hc dX9_choose_214 ?_
              exact hret (some (.int (iI 0))) _ S5 _ _ _ _ hw (⟨_, _, rfl, rfl, hS5, fun bb hb0 => (fS5 bb hb0)⟩) ⟨_, rfl, by first | rfl | exact nn_nb _, dX9_choose_215⟩
          · exfalso; omega
        · exfalso; omega
      · have hM1 := rM h.toNat (by omega)
        have hW1 := rW h.toNat (by omega)
        have hre := lstI_r (pE (mLn hps) (mBr hps) nw x0 R p) h.toNat
        have hrb := fstI_r (pBn (mLn hps) (mBr hps) nw x0 R js (stg 3) mJC.toNat p) h.toNat
        have hrw := fstI_r (srv (mLn hps) nw x0) h.toNat
        refine lv_aload_n hc.1 hc.2.1 dX9_choose_24 rfl (lv_at hl 4 rfl) ?_
        refine lv_iload hc.1 hc.2.1 dX9_choose_25 (lv_at hl 3 rfl) ?_
        refine nn_Vp (As := [.int (iI h)]) (st := []) hc hw hz rfl (c_X9_heapLength l g  hz hhp (by omega)) (cwV 1 hc.2.2.2.2 gX9_choose_X9_heapLength rfl rfl rfl (by decide +kernel) ⟨Nat.le_of_ble_eq_true rfl, Nat.le_of_ble_eq_true rfl⟩) rfl hl.1 rfl (Nat.le_of_ble_eq_true rfl) ⟨Nat.le_of_ble_eq_true rfl, Nat.le_of_ble_eq_true rfl⟩ dX9_choose_27 ?_
        refine W.eq (g2 := F0 m 30 ls [.int (iI (mLn hps h.toNat))]) rfl ?_
        refine lv_iload_n hc.1 hc.2.1 dX9_choose_30 rfl (lv_at hl 5 rfl) ?_
        refine nn_icmp_ne hc dX9_choose_31 (tgt := 169) (by decide) (by omega) (by omega) (fun c7 => ?_) (fun c7 => ?_)
        · refine nn_iinc (lv' := [(7, .int (iI (h + 1))), (4, .int (iI e)), (5, .int (iI b)), (6, .int (iI w)), (0, .ref z), (1, .int (iI x0)), (2, .int (iI p)), (3, .int (iI R))]) hc dX9_choose_169 hl (k0 := 3) rfl (by decide) rfl (fun ls hl => ?_)
          refine lv_goto hc.1 hc.2.1 dX9_choose_172 (tgt := 15) (by decide) ?_
          exact ih15 e b w (h + 1) _ _ _ (by omega) (by first | exact lst_take (by omega) (pE_iff.mpr (by omega)) | exact he.trans (lst_keep (by omega) (b_no pE_iff (by omega)))) (by first | exact fst_take (by omega) (by omega) (pBn_iff.mpr ⟨by omega, hbk⟩) | exact hb.trans (fst_keep (by omega) (Or.inr (by omega))) | exact hb.trans (fst_keep (by omega) (Or.inl (b_no pBn_iff (fun q9 => by have h8 := q9.2; rw [hbk] at h8; cases h8)))) | exact hb.trans (fst_keep (by omega) (Or.inl (b_no pBn_iff (fun q9 => by have h8 := q9.1; omega))))) (by first | exact fst_take (by omega) (by omega) (srv_iff.mpr (by omega)) | exact hw1.trans (fst_keep (by omega) (Or.inr (by omega))) | exact hw1.trans (fst_keep (by omega) (Or.inl (b_no srv_iff (by omega))))) hw (by omega) (lv_sub hl [1, 2, 3, 0, 4, 5, 6, 7] rfl)
        · refine lv_aload_n hc.1 hc.2.1 dX9_choose_34 rfl (lv_at hl 4 rfl) ?_
          refine nn_get hc hw hz hiX9 rfl 9 (by decide) rfl lk25 dX9_choose_35 ?_
          refine lv_iload hc.1 hc.2.1 dX9_choose_38 (lv_at hl 3 rfl) ?_
          refine nn_iald hc hw hnw (by omega) (by omega) dX9_choose_40 ?_
          refine nn_if_le hc dX9_choose_41 (tgt := 169) (by decide) (by omega) (fun c8 => ?_) (fun c8 => ?_)
          · refine nn_iinc (lv' := [(7, .int (iI (h + 1))), (4, .int (iI e)), (5, .int (iI b)), (6, .int (iI w)), (0, .ref z), (1, .int (iI x0)), (2, .int (iI p)), (3, .int (iI R))]) hc dX9_choose_169 hl (k0 := 3) rfl (by decide) rfl (fun ls hl => ?_)
            refine lv_goto hc.1 hc.2.1 dX9_choose_172 (tgt := 15) (by decide) ?_
            exact ih15 e b w (h + 1) _ _ _ (by omega) (by first | exact lst_take (by omega) (pE_iff.mpr (by omega)) | exact he.trans (lst_keep (by omega) (b_no pE_iff (by omega)))) (by first | exact fst_take (by omega) (by omega) (pBn_iff.mpr ⟨by omega, hbk⟩) | exact hb.trans (fst_keep (by omega) (Or.inr (by omega))) | exact hb.trans (fst_keep (by omega) (Or.inl (b_no pBn_iff (fun q9 => by have h8 := q9.2; rw [hbk] at h8; cases h8)))) | exact hb.trans (fst_keep (by omega) (Or.inl (b_no pBn_iff (fun q9 => by have h8 := q9.1; omega))))) (by first | exact fst_take (by omega) (by omega) (srv_iff.mpr (by omega)) | exact hw1.trans (fst_keep (by omega) (Or.inr (by omega))) | exact hw1.trans (fst_keep (by omega) (Or.inl (b_no srv_iff (by omega))))) hw (by omega) (lv_sub hl [1, 2, 3, 0, 4, 5, 6, 7] rfl)
          · refine lv_aload_n hc.1 hc.2.1 dX9_choose_44 rfl (lv_at hl 4 rfl) ?_
            refine lv_iload hc.1 hc.2.1 dX9_choose_45 (lv_at hl 3 rfl) ?_
            refine nn_Vp (As := [.int (iI h)]) (st := []) hc hw hz rfl (c_X9_breadth l g  hz hhp (by omega)) (cwV 1 hc.2.2.2.2 gX9_choose_X9_breadth rfl rfl rfl (by decide +kernel) ⟨Nat.le_of_ble_eq_true rfl, Nat.le_of_ble_eq_true rfl⟩) rfl hl.1 rfl (Nat.le_of_ble_eq_true rfl) ⟨Nat.le_of_ble_eq_true rfl, Nat.le_of_ble_eq_true rfl⟩ dX9_choose_47 ?_
            refine W.eq (g2 := F0 m 50 ls [.int (iI (mBr hps h.toNat))]) rfl ?_
            refine lv_istore (lv' := [(8, .int (iI (mBr hps h.toNat))), (4, .int (iI e)), (5, .int (iI b)), (6, .int (iI w)), (7, .int (iI h)), (0, .ref z), (1, .int (iI x0)), (2, .int (iI p)), (3, .int (iI R))]) hc.1 hc.2.1 dX9_choose_50 hl (by decide) rfl (fun ls hl => ?_)
            refine lv_iload_n hc.1 hc.2.1 dX9_choose_52 rfl (lv_at hl 7 rfl) ?_
            refine lv_iload hc.1 hc.2.1 dX9_choose_53 (lv_at hl 0 rfl) ?_
            refine nn_iadd hc dX9_choose_55 ?_
            refine lv_iload_n hc.1 hc.2.1 dX9_choose_56 rfl (lv_at hl 8 rfl) ?_
            refine nn_icmp_lt hc dX9_choose_57 (tgt := 64) (by decide) (by omega) (by omega) (fun c9 => ?_) (fun c9 => ?_)
            · refine nn_iconst hc dX9_choose_64 ?_
              refine lv_istore (lv' := [(9, .int (iI 0)), (8, .int (iI (mBr hps h.toNat))), (4, .int (iI e)), (5, .int (iI b)), (6, .int (iI w)), (7, .int (iI h)), (0, .ref z), (1, .int (iI x0)), (2, .int (iI p)), (3, .int (iI R))]) hc.1 hc.2.1 dX9_choose_65 hl (by decide) rfl (fun ls hl => ?_)
              refine lv_iload hc.1 hc.2.1 dX9_choose_67 (lv_at hl 0 rfl) ?_
              refine nn_if_eq hc dX9_choose_69 (tgt := 95) (by decide) (by decide) (fun c10 => ?_) (fun c10 => ?_)
              · refine lv_iload hc.1 hc.2.1 dX9_choose_95 (lv_at hl 2 rfl) ?_
                refine lv_istore (lv' := [(4, .int (iI e)), (9, .int (iI 0)), (8, .int (iI (mBr hps h.toNat))), (5, .int (iI b)), (6, .int (iI w)), (7, .int (iI h)), (0, .ref z), (1, .int (iI x0)), (2, .int (iI p)), (3, .int (iI R))]) hc.1 hc.2.1 dX9_choose_97 hl (by decide) rfl (fun ls hl => ?_)
                refine lv_iload hc.1 hc.2.1 dX9_choose_99 (lv_at hl 1 rfl) ?_
                refine nn_if_ne hc dX9_choose_101 (tgt := 138) (by decide) (by decide) (fun c11 => ?_) (fun c11 => ?_)
                · exact absurd c11 (by decide)
                · refine lv_aload_n hc.1 hc.2.1 dX9_choose_104 rfl (lv_at hl 6 rfl) ?_
                  refine lv_iload_n hc.1 hc.2.1 dX9_choose_105 rfl (lv_at hl 8 rfl) ?_
                  refine lv_iload hc.1 hc.2.1 dX9_choose_106 (lv_at hl 2 rfl) ?_
                  refine nn_iadd hc dX9_choose_108 ?_
                  refine nn_Vp (As := [.int (iI (p + (mBr hps h.toNat)))]) (st := []) hc hw hz rfl (c_X9_isBroken l g  hz hst hjs (by omega) (by omega) (by omega) (rj)) (cwV 1 hc.2.2.2.2 gX9_choose_X9_isBroken rfl rfl rfl (by decide +kernel) ⟨Nat.le_of_ble_eq_true rfl, Nat.le_of_ble_eq_true rfl⟩) rfl hl.1 rfl (Nat.le_of_ble_eq_true rfl) ⟨Nat.le_of_ble_eq_true rfl, Nat.le_of_ble_eq_true rfl⟩ dX9_choose_109 ?_
                  refine W.eq (g2 := F0 m 112 ls [.int (iI (if brk js (stg 3) (p + (mBr hps h.toNat)) mJC.toNat = true then 1 else 0))]) rfl ?_
                  refine nn_if_eq hc dX9_choose_112 (tgt := 138) (by decide) (by omega) (fun c12 => ?_) (fun c12 => ?_)
                  · have hbk : brk js (stg 3) (p + mBr hps h.toNat) mJC.toNat = false := Bool.eq_false_iff.mpr (fun q9 => by have h8 := c12; rw [if_pos q9] at h8; exact absurd h8 (by decide))
                    refine lv_iload hc.1 hc.2.1 dX9_choose_138 (lv_at hl 3 rfl) ?_
                    refine lv_istore (lv' := [(5, .int (iI b)), (4, .int (iI e)), (9, .int (iI 0)), (8, .int (iI (mBr hps h.toNat))), (6, .int (iI w)), (7, .int (iI h)), (0, .ref z), (1, .int (iI x0)), (2, .int (iI p)), (3, .int (iI R))]) hc.1 hc.2.1 dX9_choose_140 hl (by decide) rfl (fun ls hl => ?_)
                    refine lv_iload hc.1 hc.2.1 dX9_choose_142 (lv_at hl 4 rfl) ?_
                    refine nn_bipush hc dX9_choose_144 (by decide +kernel) ?_
                    refine nn_icmp_eq hc dX9_choose_146 (tgt := 160) (by decide) (by omega) (by decide) (fun c13 => ?_) (fun c13 => ?_)
                    · refine lv_iload hc.1 hc.2.1 dX9_choose_160 (lv_at hl 5 rfl) ?_
                      refine lv_goto hc.1 hc.2.1 dX9_choose_162 (tgt := 167) (by decide) ?_
                      refine lv_istore (lv' := [(6, .int (iI h)), (5, .int (iI b)), (4, .int (iI e)), (9, .int (iI 0)), (8, .int (iI (mBr hps h.toNat))), (7, .int (iI h)), (0, .ref z), (1, .int (iI x0)), (2, .int (iI p)), (3, .int (iI R))]) hc.1 hc.2.1 dX9_choose_167 hl (by decide) rfl (fun ls hl => ?_)
                      refine nn_iinc (lv' := [(7, .int (iI (h + 1))), (6, .int (iI h)), (5, .int (iI b)), (4, .int (iI e)), (9, .int (iI 0)), (8, .int (iI (mBr hps h.toNat))), (0, .ref z), (1, .int (iI x0)), (2, .int (iI p)), (3, .int (iI R))]) hc dX9_choose_169 hl (k0 := 5) rfl (by decide) rfl (fun ls hl => ?_)
                      refine lv_goto hc.1 hc.2.1 dX9_choose_172 (tgt := 15) (by decide) ?_
                      exact ih15 e b h (h + 1) _ _ _ (by omega) (by first | exact lst_take (by omega) (pE_iff.mpr (by omega)) | exact he.trans (lst_keep (by omega) (b_no pE_iff (by omega)))) (by first | exact fst_take (by omega) (by omega) (pBn_iff.mpr ⟨by omega, hbk⟩) | exact hb.trans (fst_keep (by omega) (Or.inr (by omega))) | exact hb.trans (fst_keep (by omega) (Or.inl (b_no pBn_iff (fun q9 => by have h8 := q9.2; rw [hbk] at h8; cases h8)))) | exact hb.trans (fst_keep (by omega) (Or.inl (b_no pBn_iff (fun q9 => by have h8 := q9.1; omega))))) (by first | exact fst_take (by omega) (by omega) (srv_iff.mpr (by omega)) | exact hw1.trans (fst_keep (by omega) (Or.inr (by omega))) | exact hw1.trans (fst_keep (by omega) (Or.inl (b_no srv_iff (by omega))))) hw (by omega) (lv_sub hl [3, 2, 1, 0, 6, 7, 8, 9] rfl)
                    · have hq1 := srv_iff.mp (fstI_q (q := srv (mLn hps) nw x0) (n := h.toNat) (by omega))
                      rw [← hw1] at hq1
                      have hr1 : mBr hps h.toNat < mBr hps w.toNat := by have h9 := hsrt w.toNat h.toNat (by omega) (by omega); omega
                      have hMe := rM w.toNat (by omega)
                      refine lv_iload hc.1 hc.2.1 dX9_choose_149 (lv_at hl 3 rfl) ?_
                      refine lv_aload_n hc.1 hc.2.1 dX9_choose_151 rfl (lv_at hl 6 rfl) ?_
                      refine lv_iload hc.1 hc.2.1 dX9_choose_152 (lv_at hl 4 rfl) ?_
                      refine nn_Vp (As := [.int (iI w)]) (st := [.int (iI (mBr hps h.toNat))]) hc hw hz rfl (c_X9_breadth l g  hz hhp (by omega)) (cwV 1 hc.2.2.2.2 gX9_choose_X9_breadth rfl rfl rfl (by decide +kernel) ⟨Nat.le_of_ble_eq_true rfl, Nat.le_of_ble_eq_true rfl⟩) rfl hl.1 rfl (Nat.le_of_ble_eq_true rfl) ⟨Nat.le_of_ble_eq_true rfl, Nat.le_of_ble_eq_true rfl⟩ dX9_choose_154 ?_
                      refine W.eq (g2 := F0 m 157 ls [.int (iI (mBr hps w.toNat)), .int (iI (mBr hps h.toNat))]) rfl ?_
                      refine nn_icmp_le hc dX9_choose_157 (tgt := 165) (by decide) (by omega) (by omega) (fun c14 => ?_) (fun c14 => ?_)
                      · refine lv_iload hc.1 hc.2.1 dX9_choose_165 (lv_at hl 4 rfl) ?_
                        refine lv_istore (lv' := [(6, .int (iI w)), (5, .int (iI b)), (4, .int (iI e)), (9, .int (iI 0)), (8, .int (iI (mBr hps h.toNat))), (7, .int (iI h)), (0, .ref z), (1, .int (iI x0)), (2, .int (iI p)), (3, .int (iI R))]) hc.1 hc.2.1 dX9_choose_167 hl (by decide) rfl (fun ls hl => ?_)
                        refine nn_iinc (lv' := [(7, .int (iI (h + 1))), (6, .int (iI w)), (5, .int (iI b)), (4, .int (iI e)), (9, .int (iI 0)), (8, .int (iI (mBr hps h.toNat))), (0, .ref z), (1, .int (iI x0)), (2, .int (iI p)), (3, .int (iI R))]) hc dX9_choose_169 hl (k0 := 5) rfl (by decide) rfl (fun ls hl => ?_)
                        refine lv_goto hc.1 hc.2.1 dX9_choose_172 (tgt := 15) (by decide) ?_
                        exact ih15 e b w (h + 1) _ _ _ (by omega) (by first | exact lst_take (by omega) (pE_iff.mpr (by omega)) | exact he.trans (lst_keep (by omega) (b_no pE_iff (by omega)))) (by first | exact fst_take (by omega) (by omega) (pBn_iff.mpr ⟨by omega, hbk⟩) | exact hb.trans (fst_keep (by omega) (Or.inr (by omega))) | exact hb.trans (fst_keep (by omega) (Or.inl (b_no pBn_iff (fun q9 => by have h8 := q9.2; rw [hbk] at h8; cases h8)))) | exact hb.trans (fst_keep (by omega) (Or.inl (b_no pBn_iff (fun q9 => by have h8 := q9.1; omega))))) (by first | exact fst_take (by omega) (by omega) (srv_iff.mpr (by omega)) | exact hw1.trans (fst_keep (by omega) (Or.inr (by omega))) | exact hw1.trans (fst_keep (by omega) (Or.inl (b_no srv_iff (by omega))))) hw (by omega) (lv_sub hl [3, 2, 1, 0, 6, 7, 8, 9] rfl)
                      · exfalso; omega
                  · have hbk : brk js (stg 3) (p + mBr hps h.toNat) mJC.toNat = true := Classical.byContradiction (fun q9 => c12 (if_neg q9))
                    refine lv_iload hc.1 hc.2.1 dX9_choose_115 (lv_at hl 3 rfl) ?_
                    refine nn_bipush hc dX9_choose_117 (by decide +kernel) ?_
                    refine nn_icmp_eq hc dX9_choose_119 (tgt := 133) (by decide) (by omega) (by decide) (fun c15 => ?_) (fun c15 => ?_)
                    · refine lv_iload hc.1 hc.2.1 dX9_choose_133 (lv_at hl 5 rfl) ?_
                      refine lv_goto hc.1 hc.2.1 dX9_choose_135 (tgt := 140) (by decide) ?_
                      refine lv_istore (lv' := [(5, .int (iI h)), (4, .int (iI e)), (9, .int (iI 0)), (8, .int (iI (mBr hps h.toNat))), (6, .int (iI w)), (7, .int (iI h)), (0, .ref z), (1, .int (iI x0)), (2, .int (iI p)), (3, .int (iI R))]) hc.1 hc.2.1 dX9_choose_140 hl (by decide) rfl (fun ls hl => ?_)
                      refine lv_iload hc.1 hc.2.1 dX9_choose_142 (lv_at hl 4 rfl) ?_
                      refine nn_bipush hc dX9_choose_144 (by decide +kernel) ?_
                      refine nn_icmp_eq hc dX9_choose_146 (tgt := 160) (by decide) (by omega) (by decide) (fun c16 => ?_) (fun c16 => ?_)
                      · refine lv_iload hc.1 hc.2.1 dX9_choose_160 (lv_at hl 5 rfl) ?_
                        refine lv_goto hc.1 hc.2.1 dX9_choose_162 (tgt := 167) (by decide) ?_
                        refine lv_istore (lv' := [(6, .int (iI h)), (5, .int (iI h)), (4, .int (iI e)), (9, .int (iI 0)), (8, .int (iI (mBr hps h.toNat))), (7, .int (iI h)), (0, .ref z), (1, .int (iI x0)), (2, .int (iI p)), (3, .int (iI R))]) hc.1 hc.2.1 dX9_choose_167 hl (by decide) rfl (fun ls hl => ?_)
                        refine nn_iinc (lv' := [(7, .int (iI (h + 1))), (6, .int (iI h)), (5, .int (iI h)), (4, .int (iI e)), (9, .int (iI 0)), (8, .int (iI (mBr hps h.toNat))), (0, .ref z), (1, .int (iI x0)), (2, .int (iI p)), (3, .int (iI R))]) hc dX9_choose_169 hl (k0 := 5) rfl (by decide) rfl (fun ls hl => ?_)
                        refine lv_goto hc.1 hc.2.1 dX9_choose_172 (tgt := 15) (by decide) ?_
                        exact ih15 e h h (h + 1) _ _ _ (by omega) (by first | exact lst_take (by omega) (pE_iff.mpr (by omega)) | exact he.trans (lst_keep (by omega) (b_no pE_iff (by omega)))) (by first | exact fst_take (by omega) (by omega) (pBn_iff.mpr ⟨by omega, hbk⟩) | exact hb.trans (fst_keep (by omega) (Or.inr (by omega))) | exact hb.trans (fst_keep (by omega) (Or.inl (b_no pBn_iff (fun q9 => by have h8 := q9.2; rw [hbk] at h8; cases h8)))) | exact hb.trans (fst_keep (by omega) (Or.inl (b_no pBn_iff (fun q9 => by have h8 := q9.1; omega))))) (by first | exact fst_take (by omega) (by omega) (srv_iff.mpr (by omega)) | exact hw1.trans (fst_keep (by omega) (Or.inr (by omega))) | exact hw1.trans (fst_keep (by omega) (Or.inl (b_no srv_iff (by omega))))) hw (by omega) (lv_sub hl [3, 2, 1, 0, 6, 7, 8, 9] rfl)
                      · have hq1 := srv_iff.mp (fstI_q (q := srv (mLn hps) nw x0) (n := h.toNat) (by omega))
                        rw [← hw1] at hq1
                        have hr1 : mBr hps h.toNat < mBr hps w.toNat := by have h9 := hsrt w.toNat h.toNat (by omega) (by omega); omega
                        have hMe := rM w.toNat (by omega)
                        refine lv_iload hc.1 hc.2.1 dX9_choose_149 (lv_at hl 3 rfl) ?_
                        refine lv_aload_n hc.1 hc.2.1 dX9_choose_151 rfl (lv_at hl 6 rfl) ?_
                        refine lv_iload hc.1 hc.2.1 dX9_choose_152 (lv_at hl 4 rfl) ?_
                        refine nn_Vp (As := [.int (iI w)]) (st := [.int (iI (mBr hps h.toNat))]) hc hw hz rfl (c_X9_breadth l g  hz hhp (by omega)) (cwV 1 hc.2.2.2.2 gX9_choose_X9_breadth rfl rfl rfl (by decide +kernel) ⟨Nat.le_of_ble_eq_true rfl, Nat.le_of_ble_eq_true rfl⟩) rfl hl.1 rfl (Nat.le_of_ble_eq_true rfl) ⟨Nat.le_of_ble_eq_true rfl, Nat.le_of_ble_eq_true rfl⟩ dX9_choose_154 ?_
                        refine W.eq (g2 := F0 m 157 ls [.int (iI (mBr hps w.toNat)), .int (iI (mBr hps h.toNat))]) rfl ?_
                        refine nn_icmp_le hc dX9_choose_157 (tgt := 165) (by decide) (by omega) (by omega) (fun c17 => ?_) (fun c17 => ?_)
                        · refine lv_iload hc.1 hc.2.1 dX9_choose_165 (lv_at hl 4 rfl) ?_
                          refine lv_istore (lv' := [(6, .int (iI w)), (5, .int (iI h)), (4, .int (iI e)), (9, .int (iI 0)), (8, .int (iI (mBr hps h.toNat))), (7, .int (iI h)), (0, .ref z), (1, .int (iI x0)), (2, .int (iI p)), (3, .int (iI R))]) hc.1 hc.2.1 dX9_choose_167 hl (by decide) rfl (fun ls hl => ?_)
                          refine nn_iinc (lv' := [(7, .int (iI (h + 1))), (6, .int (iI w)), (5, .int (iI h)), (4, .int (iI e)), (9, .int (iI 0)), (8, .int (iI (mBr hps h.toNat))), (0, .ref z), (1, .int (iI x0)), (2, .int (iI p)), (3, .int (iI R))]) hc dX9_choose_169 hl (k0 := 5) rfl (by decide) rfl (fun ls hl => ?_)
                          refine lv_goto hc.1 hc.2.1 dX9_choose_172 (tgt := 15) (by decide) ?_
                          exact ih15 e h w (h + 1) _ _ _ (by omega) (by first | exact lst_take (by omega) (pE_iff.mpr (by omega)) | exact he.trans (lst_keep (by omega) (b_no pE_iff (by omega)))) (by first | exact fst_take (by omega) (by omega) (pBn_iff.mpr ⟨by omega, hbk⟩) | exact hb.trans (fst_keep (by omega) (Or.inr (by omega))) | exact hb.trans (fst_keep (by omega) (Or.inl (b_no pBn_iff (fun q9 => by have h8 := q9.2; rw [hbk] at h8; cases h8)))) | exact hb.trans (fst_keep (by omega) (Or.inl (b_no pBn_iff (fun q9 => by have h8 := q9.1; omega))))) (by first | exact fst_take (by omega) (by omega) (srv_iff.mpr (by omega)) | exact hw1.trans (fst_keep (by omega) (Or.inr (by omega))) | exact hw1.trans (fst_keep (by omega) (Or.inl (b_no srv_iff (by omega))))) hw (by omega) (lv_sub hl [3, 2, 1, 0, 6, 7, 8, 9] rfl)
                        · exfalso; omega
                    · have hq1 := (pBn_iff.mp (fstI_q (q := pBn (mLn hps) (mBr hps) nw x0 R js (stg 3) mJC.toNat p) (n := h.toNat) (by omega))).1
                      rw [← hb] at hq1
                      have hr1 : mBr hps h.toNat < mBr hps b.toNat := by have h9 := hsrt b.toNat h.toNat (by omega) (by omega); omega
                      have hMe := rM b.toNat (by omega)
                      refine lv_iload hc.1 hc.2.1 dX9_choose_122 (lv_at hl 2 rfl) ?_
                      refine lv_aload_n hc.1 hc.2.1 dX9_choose_124 rfl (lv_at hl 6 rfl) ?_
                      refine lv_iload hc.1 hc.2.1 dX9_choose_125 (lv_at hl 3 rfl) ?_
                      refine nn_Vp (As := [.int (iI b)]) (st := [.int (iI (mBr hps h.toNat))]) hc hw hz rfl (c_X9_breadth l g  hz hhp (by omega)) (cwV 1 hc.2.2.2.2 gX9_choose_X9_breadth rfl rfl rfl (by decide +kernel) ⟨Nat.le_of_ble_eq_true rfl, Nat.le_of_ble_eq_true rfl⟩) rfl hl.1 rfl (Nat.le_of_ble_eq_true rfl) ⟨Nat.le_of_ble_eq_true rfl, Nat.le_of_ble_eq_true rfl⟩ dX9_choose_127 ?_
                      refine W.eq (g2 := F0 m 130 ls [.int (iI (mBr hps b.toNat)), .int (iI (mBr hps h.toNat))]) rfl ?_
                      refine nn_icmp_le hc dX9_choose_130 (tgt := 138) (by decide) (by omega) (by omega) (fun c18 => ?_) (fun c18 => ?_)
                      · refine lv_iload hc.1 hc.2.1 dX9_choose_138 (lv_at hl 3 rfl) ?_
                        refine lv_istore (lv' := [(5, .int (iI b)), (4, .int (iI e)), (9, .int (iI 0)), (8, .int (iI (mBr hps h.toNat))), (6, .int (iI w)), (7, .int (iI h)), (0, .ref z), (1, .int (iI x0)), (2, .int (iI p)), (3, .int (iI R))]) hc.1 hc.2.1 dX9_choose_140 hl (by decide) rfl (fun ls hl => ?_)
                        refine lv_iload hc.1 hc.2.1 dX9_choose_142 (lv_at hl 4 rfl) ?_
                        refine nn_bipush hc dX9_choose_144 (by decide +kernel) ?_
                        refine nn_icmp_eq hc dX9_choose_146 (tgt := 160) (by decide) (by omega) (by decide) (fun c19 => ?_) (fun c19 => ?_)
                        · refine lv_iload hc.1 hc.2.1 dX9_choose_160 (lv_at hl 5 rfl) ?_
                          refine lv_goto hc.1 hc.2.1 dX9_choose_162 (tgt := 167) (by decide) ?_
                          refine lv_istore (lv' := [(6, .int (iI h)), (5, .int (iI b)), (4, .int (iI e)), (9, .int (iI 0)), (8, .int (iI (mBr hps h.toNat))), (7, .int (iI h)), (0, .ref z), (1, .int (iI x0)), (2, .int (iI p)), (3, .int (iI R))]) hc.1 hc.2.1 dX9_choose_167 hl (by decide) rfl (fun ls hl => ?_)
                          refine nn_iinc (lv' := [(7, .int (iI (h + 1))), (6, .int (iI h)), (5, .int (iI b)), (4, .int (iI e)), (9, .int (iI 0)), (8, .int (iI (mBr hps h.toNat))), (0, .ref z), (1, .int (iI x0)), (2, .int (iI p)), (3, .int (iI R))]) hc dX9_choose_169 hl (k0 := 5) rfl (by decide) rfl (fun ls hl => ?_)
                          refine lv_goto hc.1 hc.2.1 dX9_choose_172 (tgt := 15) (by decide) ?_
                          exact ih15 e b h (h + 1) _ _ _ (by omega) (by first | exact lst_take (by omega) (pE_iff.mpr (by omega)) | exact he.trans (lst_keep (by omega) (b_no pE_iff (by omega)))) (by first | exact fst_take (by omega) (by omega) (pBn_iff.mpr ⟨by omega, hbk⟩) | exact hb.trans (fst_keep (by omega) (Or.inr (by omega))) | exact hb.trans (fst_keep (by omega) (Or.inl (b_no pBn_iff (fun q9 => by have h8 := q9.2; rw [hbk] at h8; cases h8)))) | exact hb.trans (fst_keep (by omega) (Or.inl (b_no pBn_iff (fun q9 => by have h8 := q9.1; omega))))) (by first | exact fst_take (by omega) (by omega) (srv_iff.mpr (by omega)) | exact hw1.trans (fst_keep (by omega) (Or.inr (by omega))) | exact hw1.trans (fst_keep (by omega) (Or.inl (b_no srv_iff (by omega))))) hw (by omega) (lv_sub hl [3, 2, 1, 0, 6, 7, 8, 9] rfl)
                        · have hq1 := srv_iff.mp (fstI_q (q := srv (mLn hps) nw x0) (n := h.toNat) (by omega))
                          rw [← hw1] at hq1
                          have hr1 : mBr hps h.toNat < mBr hps w.toNat := by have h9 := hsrt w.toNat h.toNat (by omega) (by omega); omega
                          have hMe := rM w.toNat (by omega)
                          refine lv_iload hc.1 hc.2.1 dX9_choose_149 (lv_at hl 3 rfl) ?_
                          refine lv_aload_n hc.1 hc.2.1 dX9_choose_151 rfl (lv_at hl 6 rfl) ?_
                          refine lv_iload hc.1 hc.2.1 dX9_choose_152 (lv_at hl 4 rfl) ?_
                          refine nn_Vp (As := [.int (iI w)]) (st := [.int (iI (mBr hps h.toNat))]) hc hw hz rfl (c_X9_breadth l g  hz hhp (by omega)) (cwV 1 hc.2.2.2.2 gX9_choose_X9_breadth rfl rfl rfl (by decide +kernel) ⟨Nat.le_of_ble_eq_true rfl, Nat.le_of_ble_eq_true rfl⟩) rfl hl.1 rfl (Nat.le_of_ble_eq_true rfl) ⟨Nat.le_of_ble_eq_true rfl, Nat.le_of_ble_eq_true rfl⟩ dX9_choose_154 ?_
                          refine W.eq (g2 := F0 m 157 ls [.int (iI (mBr hps w.toNat)), .int (iI (mBr hps h.toNat))]) rfl ?_
                          refine nn_icmp_le hc dX9_choose_157 (tgt := 165) (by decide) (by omega) (by omega) (fun c20 => ?_) (fun c20 => ?_)
                          · refine lv_iload hc.1 hc.2.1 dX9_choose_165 (lv_at hl 4 rfl) ?_
                            refine lv_istore (lv' := [(6, .int (iI w)), (5, .int (iI b)), (4, .int (iI e)), (9, .int (iI 0)), (8, .int (iI (mBr hps h.toNat))), (7, .int (iI h)), (0, .ref z), (1, .int (iI x0)), (2, .int (iI p)), (3, .int (iI R))]) hc.1 hc.2.1 dX9_choose_167 hl (by decide) rfl (fun ls hl => ?_)
                            refine nn_iinc (lv' := [(7, .int (iI (h + 1))), (6, .int (iI w)), (5, .int (iI b)), (4, .int (iI e)), (9, .int (iI 0)), (8, .int (iI (mBr hps h.toNat))), (0, .ref z), (1, .int (iI x0)), (2, .int (iI p)), (3, .int (iI R))]) hc dX9_choose_169 hl (k0 := 5) rfl (by decide) rfl (fun ls hl => ?_)
                            refine lv_goto hc.1 hc.2.1 dX9_choose_172 (tgt := 15) (by decide) ?_
                            exact ih15 e b w (h + 1) _ _ _ (by omega) (by first | exact lst_take (by omega) (pE_iff.mpr (by omega)) | exact he.trans (lst_keep (by omega) (b_no pE_iff (by omega)))) (by first | exact fst_take (by omega) (by omega) (pBn_iff.mpr ⟨by omega, hbk⟩) | exact hb.trans (fst_keep (by omega) (Or.inr (by omega))) | exact hb.trans (fst_keep (by omega) (Or.inl (b_no pBn_iff (fun q9 => by have h8 := q9.2; rw [hbk] at h8; cases h8)))) | exact hb.trans (fst_keep (by omega) (Or.inl (b_no pBn_iff (fun q9 => by have h8 := q9.1; omega))))) (by first | exact fst_take (by omega) (by omega) (srv_iff.mpr (by omega)) | exact hw1.trans (fst_keep (by omega) (Or.inr (by omega))) | exact hw1.trans (fst_keep (by omega) (Or.inl (b_no srv_iff (by omega))))) hw (by omega) (lv_sub hl [3, 2, 1, 0, 6, 7, 8, 9] rfl)
                          · exfalso; omega
                      · exfalso; omega
              · exact absurd c10 (by decide)
            · refine nn_iconst hc dX9_choose_60 ?_
              refine lv_goto hc.1 hc.2.1 dX9_choose_61 (tgt := 65) (by decide) ?_
              refine lv_istore (lv' := [(9, .int (iI 1)), (8, .int (iI (mBr hps h.toNat))), (4, .int (iI e)), (5, .int (iI b)), (6, .int (iI w)), (7, .int (iI h)), (0, .ref z), (1, .int (iI x0)), (2, .int (iI p)), (3, .int (iI R))]) hc.1 hc.2.1 dX9_choose_65 hl (by decide) rfl (fun ls hl => ?_)
              refine lv_iload hc.1 hc.2.1 dX9_choose_67 (lv_at hl 0 rfl) ?_
              refine nn_if_eq hc dX9_choose_69 (tgt := 95) (by decide) (by decide) (fun c21 => ?_) (fun c21 => ?_)
              · exact absurd c21 (by decide)
              · refine lv_iload hc.1 hc.2.1 dX9_choose_72 (lv_at hl 2 rfl) ?_
                refine nn_bipush hc dX9_choose_74 (by decide +kernel) ?_
                refine nn_icmp_eq hc dX9_choose_76 (tgt := 90) (by decide) (by omega) (by decide) (fun c22 => ?_) (fun c22 => ?_)
                · refine lv_iload hc.1 hc.2.1 dX9_choose_90 (lv_at hl 5 rfl) ?_
                  refine lv_goto hc.1 hc.2.1 dX9_choose_92 (tgt := 97) (by decide) ?_
                  refine lv_istore (lv' := [(4, .int (iI h)), (9, .int (iI 1)), (8, .int (iI (mBr hps h.toNat))), (5, .int (iI b)), (6, .int (iI w)), (7, .int (iI h)), (0, .ref z), (1, .int (iI x0)), (2, .int (iI p)), (3, .int (iI R))]) hc.1 hc.2.1 dX9_choose_97 hl (by decide) rfl (fun ls hl => ?_)
                  refine lv_iload hc.1 hc.2.1 dX9_choose_99 (lv_at hl 1 rfl) ?_
                  refine nn_if_ne hc dX9_choose_101 (tgt := 138) (by decide) (by decide) (fun c23 => ?_) (fun c23 => ?_)
                  · refine lv_iload hc.1 hc.2.1 dX9_choose_138 (lv_at hl 3 rfl) ?_
                    refine lv_istore (lv' := [(5, .int (iI b)), (4, .int (iI h)), (9, .int (iI 1)), (8, .int (iI (mBr hps h.toNat))), (6, .int (iI w)), (7, .int (iI h)), (0, .ref z), (1, .int (iI x0)), (2, .int (iI p)), (3, .int (iI R))]) hc.1 hc.2.1 dX9_choose_140 hl (by decide) rfl (fun ls hl => ?_)
                    refine lv_iload hc.1 hc.2.1 dX9_choose_142 (lv_at hl 4 rfl) ?_
                    refine nn_bipush hc dX9_choose_144 (by decide +kernel) ?_
                    refine nn_icmp_eq hc dX9_choose_146 (tgt := 160) (by decide) (by omega) (by decide) (fun c24 => ?_) (fun c24 => ?_)
                    · refine lv_iload hc.1 hc.2.1 dX9_choose_160 (lv_at hl 5 rfl) ?_
                      refine lv_goto hc.1 hc.2.1 dX9_choose_162 (tgt := 167) (by decide) ?_
                      refine lv_istore (lv' := [(6, .int (iI h)), (5, .int (iI b)), (4, .int (iI h)), (9, .int (iI 1)), (8, .int (iI (mBr hps h.toNat))), (7, .int (iI h)), (0, .ref z), (1, .int (iI x0)), (2, .int (iI p)), (3, .int (iI R))]) hc.1 hc.2.1 dX9_choose_167 hl (by decide) rfl (fun ls hl => ?_)
                      refine nn_iinc (lv' := [(7, .int (iI (h + 1))), (6, .int (iI h)), (5, .int (iI b)), (4, .int (iI h)), (9, .int (iI 1)), (8, .int (iI (mBr hps h.toNat))), (0, .ref z), (1, .int (iI x0)), (2, .int (iI p)), (3, .int (iI R))]) hc dX9_choose_169 hl (k0 := 5) rfl (by decide) rfl (fun ls hl => ?_)
                      refine lv_goto hc.1 hc.2.1 dX9_choose_172 (tgt := 15) (by decide) ?_
                      exact ih15 h b h (h + 1) _ _ _ (by omega) (by first | exact lst_take (by omega) (pE_iff.mpr (by omega)) | exact he.trans (lst_keep (by omega) (b_no pE_iff (by omega)))) (by first | exact fst_take (by omega) (by omega) (pBn_iff.mpr ⟨by omega, hbk⟩) | exact hb.trans (fst_keep (by omega) (Or.inr (by omega))) | exact hb.trans (fst_keep (by omega) (Or.inl (b_no pBn_iff (fun q9 => by have h8 := q9.2; rw [hbk] at h8; cases h8)))) | exact hb.trans (fst_keep (by omega) (Or.inl (b_no pBn_iff (fun q9 => by have h8 := q9.1; omega))))) (by first | exact fst_take (by omega) (by omega) (srv_iff.mpr (by omega)) | exact hw1.trans (fst_keep (by omega) (Or.inr (by omega))) | exact hw1.trans (fst_keep (by omega) (Or.inl (b_no srv_iff (by omega))))) hw (by omega) (lv_sub hl [3, 2, 1, 0, 6, 7, 8, 9] rfl)
                    · have hq1 := srv_iff.mp (fstI_q (q := srv (mLn hps) nw x0) (n := h.toNat) (by omega))
                      rw [← hw1] at hq1
                      have hr1 : mBr hps h.toNat < mBr hps w.toNat := by have h9 := hsrt w.toNat h.toNat (by omega) (by omega); omega
                      have hMe := rM w.toNat (by omega)
                      refine lv_iload hc.1 hc.2.1 dX9_choose_149 (lv_at hl 3 rfl) ?_
                      refine lv_aload_n hc.1 hc.2.1 dX9_choose_151 rfl (lv_at hl 6 rfl) ?_
                      refine lv_iload hc.1 hc.2.1 dX9_choose_152 (lv_at hl 4 rfl) ?_
                      refine nn_Vp (As := [.int (iI w)]) (st := [.int (iI (mBr hps h.toNat))]) hc hw hz rfl (c_X9_breadth l g  hz hhp (by omega)) (cwV 1 hc.2.2.2.2 gX9_choose_X9_breadth rfl rfl rfl (by decide +kernel) ⟨Nat.le_of_ble_eq_true rfl, Nat.le_of_ble_eq_true rfl⟩) rfl hl.1 rfl (Nat.le_of_ble_eq_true rfl) ⟨Nat.le_of_ble_eq_true rfl, Nat.le_of_ble_eq_true rfl⟩ dX9_choose_154 ?_
                      refine W.eq (g2 := F0 m 157 ls [.int (iI (mBr hps w.toNat)), .int (iI (mBr hps h.toNat))]) rfl ?_
                      refine nn_icmp_le hc dX9_choose_157 (tgt := 165) (by decide) (by omega) (by omega) (fun c25 => ?_) (fun c25 => ?_)
                      · refine lv_iload hc.1 hc.2.1 dX9_choose_165 (lv_at hl 4 rfl) ?_
                        refine lv_istore (lv' := [(6, .int (iI w)), (5, .int (iI b)), (4, .int (iI h)), (9, .int (iI 1)), (8, .int (iI (mBr hps h.toNat))), (7, .int (iI h)), (0, .ref z), (1, .int (iI x0)), (2, .int (iI p)), (3, .int (iI R))]) hc.1 hc.2.1 dX9_choose_167 hl (by decide) rfl (fun ls hl => ?_)
                        refine nn_iinc (lv' := [(7, .int (iI (h + 1))), (6, .int (iI w)), (5, .int (iI b)), (4, .int (iI h)), (9, .int (iI 1)), (8, .int (iI (mBr hps h.toNat))), (0, .ref z), (1, .int (iI x0)), (2, .int (iI p)), (3, .int (iI R))]) hc dX9_choose_169 hl (k0 := 5) rfl (by decide) rfl (fun ls hl => ?_)
                        refine lv_goto hc.1 hc.2.1 dX9_choose_172 (tgt := 15) (by decide) ?_
                        exact ih15 h b w (h + 1) _ _ _ (by omega) (by first | exact lst_take (by omega) (pE_iff.mpr (by omega)) | exact he.trans (lst_keep (by omega) (b_no pE_iff (by omega)))) (by first | exact fst_take (by omega) (by omega) (pBn_iff.mpr ⟨by omega, hbk⟩) | exact hb.trans (fst_keep (by omega) (Or.inr (by omega))) | exact hb.trans (fst_keep (by omega) (Or.inl (b_no pBn_iff (fun q9 => by have h8 := q9.2; rw [hbk] at h8; cases h8)))) | exact hb.trans (fst_keep (by omega) (Or.inl (b_no pBn_iff (fun q9 => by have h8 := q9.1; omega))))) (by first | exact fst_take (by omega) (by omega) (srv_iff.mpr (by omega)) | exact hw1.trans (fst_keep (by omega) (Or.inr (by omega))) | exact hw1.trans (fst_keep (by omega) (Or.inl (b_no srv_iff (by omega))))) hw (by omega) (lv_sub hl [3, 2, 1, 0, 6, 7, 8, 9] rfl)
                      · exfalso; omega
                  · exact absurd c23 (by decide)
                · have hq1 := pE_iff.mp (lstI_q (q := pE (mLn hps) (mBr hps) nw x0 R p) (n := h.toNat) (by omega))
                  rw [← he] at hq1
                  have hr1 : mBr hps h.toNat < mBr hps e.toNat := by have h9 := hsrt e.toNat h.toNat (by omega) (by omega); omega
                  have hMe := rM e.toNat (by omega)
                  refine lv_iload hc.1 hc.2.1 dX9_choose_79 (lv_at hl 1 rfl) ?_
                  refine lv_aload_n hc.1 hc.2.1 dX9_choose_81 rfl (lv_at hl 6 rfl) ?_
                  refine lv_iload hc.1 hc.2.1 dX9_choose_82 (lv_at hl 2 rfl) ?_
                  refine nn_Vp (As := [.int (iI e)]) (st := [.int (iI (mBr hps h.toNat))]) hc hw hz rfl (c_X9_breadth l g  hz hhp (by omega)) (cwV 1 hc.2.2.2.2 gX9_choose_X9_breadth rfl rfl rfl (by decide +kernel) ⟨Nat.le_of_ble_eq_true rfl, Nat.le_of_ble_eq_true rfl⟩) rfl hl.1 rfl (Nat.le_of_ble_eq_true rfl) ⟨Nat.le_of_ble_eq_true rfl, Nat.le_of_ble_eq_true rfl⟩ dX9_choose_84 ?_
                  refine W.eq (g2 := F0 m 87 ls [.int (iI (mBr hps e.toNat)), .int (iI (mBr hps h.toNat))]) rfl ?_
                  refine nn_icmp_ge hc dX9_choose_87 (tgt := 95) (by decide) (by omega) (by omega) (fun c26 => ?_) (fun c26 => ?_)
                  · exfalso; omega
                  · refine lv_iload hc.1 hc.2.1 dX9_choose_90 (lv_at hl 5 rfl) ?_
                    refine lv_goto hc.1 hc.2.1 dX9_choose_92 (tgt := 97) (by decide) ?_
                    refine lv_istore (lv' := [(4, .int (iI h)), (9, .int (iI 1)), (8, .int (iI (mBr hps h.toNat))), (5, .int (iI b)), (6, .int (iI w)), (7, .int (iI h)), (0, .ref z), (1, .int (iI x0)), (2, .int (iI p)), (3, .int (iI R))]) hc.1 hc.2.1 dX9_choose_97 hl (by decide) rfl (fun ls hl => ?_)
                    refine lv_iload hc.1 hc.2.1 dX9_choose_99 (lv_at hl 1 rfl) ?_
                    refine nn_if_ne hc dX9_choose_101 (tgt := 138) (by decide) (by decide) (fun c27 => ?_) (fun c27 => ?_)
                    · refine lv_iload hc.1 hc.2.1 dX9_choose_138 (lv_at hl 3 rfl) ?_
                      refine lv_istore (lv' := [(5, .int (iI b)), (4, .int (iI h)), (9, .int (iI 1)), (8, .int (iI (mBr hps h.toNat))), (6, .int (iI w)), (7, .int (iI h)), (0, .ref z), (1, .int (iI x0)), (2, .int (iI p)), (3, .int (iI R))]) hc.1 hc.2.1 dX9_choose_140 hl (by decide) rfl (fun ls hl => ?_)
                      refine lv_iload hc.1 hc.2.1 dX9_choose_142 (lv_at hl 4 rfl) ?_
                      refine nn_bipush hc dX9_choose_144 (by decide +kernel) ?_
                      refine nn_icmp_eq hc dX9_choose_146 (tgt := 160) (by decide) (by omega) (by decide) (fun c28 => ?_) (fun c28 => ?_)
                      · refine lv_iload hc.1 hc.2.1 dX9_choose_160 (lv_at hl 5 rfl) ?_
                        refine lv_goto hc.1 hc.2.1 dX9_choose_162 (tgt := 167) (by decide) ?_
                        refine lv_istore (lv' := [(6, .int (iI h)), (5, .int (iI b)), (4, .int (iI h)), (9, .int (iI 1)), (8, .int (iI (mBr hps h.toNat))), (7, .int (iI h)), (0, .ref z), (1, .int (iI x0)), (2, .int (iI p)), (3, .int (iI R))]) hc.1 hc.2.1 dX9_choose_167 hl (by decide) rfl (fun ls hl => ?_)
                        refine nn_iinc (lv' := [(7, .int (iI (h + 1))), (6, .int (iI h)), (5, .int (iI b)), (4, .int (iI h)), (9, .int (iI 1)), (8, .int (iI (mBr hps h.toNat))), (0, .ref z), (1, .int (iI x0)), (2, .int (iI p)), (3, .int (iI R))]) hc dX9_choose_169 hl (k0 := 5) rfl (by decide) rfl (fun ls hl => ?_)
                        refine lv_goto hc.1 hc.2.1 dX9_choose_172 (tgt := 15) (by decide) ?_
                        exact ih15 h b h (h + 1) _ _ _ (by omega) (by first | exact lst_take (by omega) (pE_iff.mpr (by omega)) | exact he.trans (lst_keep (by omega) (b_no pE_iff (by omega)))) (by first | exact fst_take (by omega) (by omega) (pBn_iff.mpr ⟨by omega, hbk⟩) | exact hb.trans (fst_keep (by omega) (Or.inr (by omega))) | exact hb.trans (fst_keep (by omega) (Or.inl (b_no pBn_iff (fun q9 => by have h8 := q9.2; rw [hbk] at h8; cases h8)))) | exact hb.trans (fst_keep (by omega) (Or.inl (b_no pBn_iff (fun q9 => by have h8 := q9.1; omega))))) (by first | exact fst_take (by omega) (by omega) (srv_iff.mpr (by omega)) | exact hw1.trans (fst_keep (by omega) (Or.inr (by omega))) | exact hw1.trans (fst_keep (by omega) (Or.inl (b_no srv_iff (by omega))))) hw (by omega) (lv_sub hl [3, 2, 1, 0, 6, 7, 8, 9] rfl)
                      · have hq1 := srv_iff.mp (fstI_q (q := srv (mLn hps) nw x0) (n := h.toNat) (by omega))
                        rw [← hw1] at hq1
                        have hr1 : mBr hps h.toNat < mBr hps w.toNat := by have h9 := hsrt w.toNat h.toNat (by omega) (by omega); omega
                        have hMe := rM w.toNat (by omega)
                        refine lv_iload hc.1 hc.2.1 dX9_choose_149 (lv_at hl 3 rfl) ?_
                        refine lv_aload_n hc.1 hc.2.1 dX9_choose_151 rfl (lv_at hl 6 rfl) ?_
                        refine lv_iload hc.1 hc.2.1 dX9_choose_152 (lv_at hl 4 rfl) ?_
                        refine nn_Vp (As := [.int (iI w)]) (st := [.int (iI (mBr hps h.toNat))]) hc hw hz rfl (c_X9_breadth l g  hz hhp (by omega)) (cwV 1 hc.2.2.2.2 gX9_choose_X9_breadth rfl rfl rfl (by decide +kernel) ⟨Nat.le_of_ble_eq_true rfl, Nat.le_of_ble_eq_true rfl⟩) rfl hl.1 rfl (Nat.le_of_ble_eq_true rfl) ⟨Nat.le_of_ble_eq_true rfl, Nat.le_of_ble_eq_true rfl⟩ dX9_choose_154 ?_
                        refine W.eq (g2 := F0 m 157 ls [.int (iI (mBr hps w.toNat)), .int (iI (mBr hps h.toNat))]) rfl ?_
                        refine nn_icmp_le hc dX9_choose_157 (tgt := 165) (by decide) (by omega) (by omega) (fun c29 => ?_) (fun c29 => ?_)
                        · refine lv_iload hc.1 hc.2.1 dX9_choose_165 (lv_at hl 4 rfl) ?_
                          refine lv_istore (lv' := [(6, .int (iI w)), (5, .int (iI b)), (4, .int (iI h)), (9, .int (iI 1)), (8, .int (iI (mBr hps h.toNat))), (7, .int (iI h)), (0, .ref z), (1, .int (iI x0)), (2, .int (iI p)), (3, .int (iI R))]) hc.1 hc.2.1 dX9_choose_167 hl (by decide) rfl (fun ls hl => ?_)
                          refine nn_iinc (lv' := [(7, .int (iI (h + 1))), (6, .int (iI w)), (5, .int (iI b)), (4, .int (iI h)), (9, .int (iI 1)), (8, .int (iI (mBr hps h.toNat))), (0, .ref z), (1, .int (iI x0)), (2, .int (iI p)), (3, .int (iI R))]) hc dX9_choose_169 hl (k0 := 5) rfl (by decide) rfl (fun ls hl => ?_)
                          refine lv_goto hc.1 hc.2.1 dX9_choose_172 (tgt := 15) (by decide) ?_
                          exact ih15 h b w (h + 1) _ _ _ (by omega) (by first | exact lst_take (by omega) (pE_iff.mpr (by omega)) | exact he.trans (lst_keep (by omega) (b_no pE_iff (by omega)))) (by first | exact fst_take (by omega) (by omega) (pBn_iff.mpr ⟨by omega, hbk⟩) | exact hb.trans (fst_keep (by omega) (Or.inr (by omega))) | exact hb.trans (fst_keep (by omega) (Or.inl (b_no pBn_iff (fun q9 => by have h8 := q9.2; rw [hbk] at h8; cases h8)))) | exact hb.trans (fst_keep (by omega) (Or.inl (b_no pBn_iff (fun q9 => by have h8 := q9.1; omega))))) (by first | exact fst_take (by omega) (by omega) (srv_iff.mpr (by omega)) | exact hw1.trans (fst_keep (by omega) (Or.inr (by omega))) | exact hw1.trans (fst_keep (by omega) (Or.inl (b_no srv_iff (by omega))))) hw (by omega) (lv_sub hl [3, 2, 1, 0, 6, 7, 8, 9] rfl)
                        · exfalso; omega
                    · exact absurd c27 (by decide)
  exact lab15 _ (-4) (-4) (-4) 0 _ _ _ (by omega) (rfl) (rfl) (rfl) hw (Nat.lt_succ_self _) (lv_sub hl [3, 2, 1, 0, 4, 5, 6, 7] rfl)

set_option maxHeartbeats 4000000 in
set_option maxRecDepth 100000 in
theorem c_X9_choose_jc (l : Launch) (g : gG) {n : Nat} {S : Nat → gE} {z : Nat} {mLen mAt mHC mRC mHS mJC mCh mVi : Int} {stg hps nw js : Nat → Int} {x0 p R : Int} (hz : S z = oO 9 [.ref (z + 1), .int (iI mLen), .int (iI mAt), .ref (z + 2), .ref (z + 3), .ref (z + 4), .ref (z + 5), .int (iI mHC), .int (iI mRC), .ref (z + 6), .ref (z + 7), .ref (z + 8), .int (iI mHS), .ref (z + 9), .ref (z + 10), .int (iI mJC), .int (iI mCh), .int (iI mVi)]) (hst : S (z + 2) = oI g 5 stg) (hhp : S (z + 4) = oI g 24 hps) (hnw : S (z + 6) = oI g 1249 nw) (hjs : S (z + 10) = oI g 60 js) (rHC : 0 ≤ mHC ∧ mHC ≤ 8) (rM : ∀ i : Nat, (i : Int) < mHC → (20 ≤ mLn hps i ∧ mLn hps i ≤ 60) ∧ (10 ≤ mBr hps i ∧ mBr hps i ≤ 60)) (hsrt : srt mHC (mLn hps) (mBr hps)) (rW : ∀ i : Nat, (i : Int) < mHC → 0 ≤ nw i ∧ nw i ≤ 1000000) (rJ : 0 ≤ mJC ∧ mJC ≤ 59) (rb : 1 ≤ stg 3 ∧ stg 3 ≤ 1000) (rj : ∀ i : Nat, (i : Int) < mJC → -1000000 ≤ js i ∧ js i ≤ 1000000) (rx0 : 0 ≤ x0 ∧ x0 ≤ 60) (rpR : (0 ≤ p ∧ p < R) ∧ R ≤ 1000) (hE : lstI (pE (mLn hps) (mBr hps) nw x0 R p) mHC.toNat = -4) (hB : fstI (pB (mLn hps) (mBr hps) nw x0 js (stg 3) mJC.toNat p) mHC.toNat = -4) (hW : 0 ≤ fstI (srv (mLn hps) nw x0) mHC.toNat) (hC : cutI (fun v => brk js (stg 3) (p + v) mJC.toNat) (mBr hps (fstI (srv (mLn hps) nw x0) mHC.toNat).toNat - 1).toNat ≠ -4) : g_Cs l yX9_choose wsX9_choose { frames := 1, cells := 0, slots := 0, locals := 24 } g [.ref z, .int (iI x0), .int (iI p), .int (iI R)] n S (fun vr n1 S1 => vr = some (.int (iI 1)) ∧ n = n1 ∧ S1 z = oO 9 [.ref (z + 1), .int (iI mLen), .int (iI mAt), .ref (z + 2), .ref (z + 3), .ref (z + 4), .ref (z + 5), .int (iI mHC), .int (iI mRC), .ref (z + 6), .ref (z + 7), .ref (z + 8), .int (iI mHS), .ref (z + 9), .ref (z + 10), .int (iI mJC), .int (iI (fstI (srv (mLn hps) nw x0) mHC.toNat)), .int (iI (cutI (fun v => brk js (stg 3) (p + v) mJC.toNat) (mBr hps (fstI (srv (mLn hps) nw x0) mHC.toNat).toNat - 1).toNat))] ∧ (∀ bb, bb ≠ z → S1 bb = S bb)) 0 0 := by
  refine g_Cs.of (cc := cX9_choose) (maxL := 10) (ret := (some .boolean)) (by decide) rfl (Nat.le_of_ble_eq_true rfl) ?_
  intro pp ee s m below meth cK Q H locs ls hc hnm hw hl hret
  have hl : lv_has ls 10 [(0, .ref z), (1, .int (iI x0)), (2, .int (iI p)), (3, .int (iI R))] := hl
  have hiX9 : ∀ w ∈ u_ws RX9 TX9 18, w ∈ wsX9_choose := by decide +kernel
  have lk54 : Cond.fieldLink RX9 54 "RoofCoursesModel" "heapCount" "I" ∈ wsX9_choose := by decide +kernel
  have lk120 : Cond.fieldLink RX9 120 "RoofCoursesModel" "chosen" "I" ∈ wsX9_choose := by decide +kernel
  have lk123 : Cond.fieldLink RX9 123 "RoofCoursesModel" "visible" "I" ∈ wsX9_choose := by decide +kernel
  have lk25 : Cond.fieldLink RX9 25 "RoofCoursesModel" "now" "[I" ∈ wsX9_choose := by decide +kernel
  refine nn_bipush hc dX9_choose_0 (by decide +kernel) ?_
  refine lv_istore (lv' := [(4, .int (iI (-4))), (0, .ref z), (1, .int (iI x0)), (2, .int (iI p)), (3, .int (iI R))]) hc.1 hc.2.1 dX9_choose_2 hl (by decide) rfl (fun ls hl => ?_)
  refine nn_bipush hc dX9_choose_4 (by decide +kernel) ?_
  refine lv_istore (lv' := [(5, .int (iI (-4))), (4, .int (iI (-4))), (0, .ref z), (1, .int (iI x0)), (2, .int (iI p)), (3, .int (iI R))]) hc.1 hc.2.1 dX9_choose_6 hl (by decide) rfl (fun ls hl => ?_)
  refine nn_bipush hc dX9_choose_8 (by decide +kernel) ?_
  refine lv_istore (lv' := [(6, .int (iI (-4))), (5, .int (iI (-4))), (4, .int (iI (-4))), (0, .ref z), (1, .int (iI x0)), (2, .int (iI p)), (3, .int (iI R))]) hc.1 hc.2.1 dX9_choose_10 hl (by decide) rfl (fun ls hl => ?_)
  refine nn_iconst hc dX9_choose_12 ?_
  refine lv_istore (lv' := [(7, .int (iI 0)), (6, .int (iI (-4))), (5, .int (iI (-4))), (4, .int (iI (-4))), (0, .ref z), (1, .int (iI x0)), (2, .int (iI p)), (3, .int (iI R))]) hc.1 hc.2.1 dX9_choose_13 hl (by decide) rfl (fun ls hl => ?_)
  have lab15 : ∀ (fu15 : Nat) (e : Int) (b : Int) (w : Int) (h : Int) (H : Heap) (locs : List Loc) (ls : Array Slot), (0 ≤ h ∧ h ≤ mHC) → (e = lstI (pE (mLn hps) (mBr hps) nw x0 R p) h.toNat) → (b = fstI (pBn (mLn hps) (mBr hps) nw x0 R js (stg 3) mJC.toNat p) h.toNat) → (w = fstI (srv (mLn hps) nw x0) h.toNat) → g_W g n S s H locs → (mHC - h).toNat < fu15 → lv_has ls 10 [(4, .int (iI e)), (5, .int (iI b)), (6, .int (iI w)), (7, .int (iI h)), (0, .ref z), (1, .int (iI x0)), (2, .int (iI p)), (3, .int (iI R))] → W pp l ee ({ frames := 1, cells := 0, slots := 0, locals := 24 } : Room) s m ([.ref z, .int (iI x0), .int (iI p), .int (iI R)] : List Value).toArray below meth cK H locs 0 0 Q (F0 m 15 ls []) := by
    intro fu15
    induction fu15 with
    | zero =>
      intro e b w h H locs ls hh he hb hw1 hw hmeas hl
      exact absurd hmeas (Nat.not_lt_zero _)
    | succ fu15 ih15 =>
      intro e b w h H locs ls hh he hb hw1 hw hmeas hl
      refine lv_iload hc.1 hc.2.1 dX9_choose_15 (lv_at hl 3 rfl) ?_
      refine lv_aload_n hc.1 hc.2.1 dX9_choose_17 rfl (lv_at hl 4 rfl) ?_
      refine nn_get hc hw hz hiX9 rfl 7 (by decide) rfl lk54 dX9_choose_18 ?_
      refine nn_icmp_ge hc dX9_choose_21 (tgt := 175) (by decide) (by omega) (by omega) (fun c2 => ?_) (fun c2 => ?_)
      · have hHe : h.toNat = mHC.toNat := by omega
        rw [hHe] at he hb hw1
        have hre := lstI_r (pE (mLn hps) (mBr hps) nw x0 R p) mHC.toNat
        have hrb := fstI_r (pBn (mLn hps) (mBr hps) nw x0 R js (stg 3) mJC.toNat p) mHC.toNat
        have hrw := fstI_r (srv (mLn hps) nw x0) mHC.toNat
        have hbb : b = fstI (pB (mLn hps) (mBr hps) nw x0 js (stg 3) mJC.toNat p) mHC.toNat := hb.trans (pBn_pB hE)
        refine lv_aload_n hc.1 hc.2.1 dX9_choose_175 rfl (lv_at hl 4 rfl) ?_
        refine lv_iload hc.1 hc.2.1 dX9_choose_176 (lv_at hl 0 rfl) ?_
        refine nn_bipush hc dX9_choose_178 (by decide +kernel) ?_
        refine nn_icmp_eq hc dX9_choose_180 (tgt := 188) (by decide) (by omega) (by decide) (fun c3 => ?_) (fun c3 => ?_)
        · refine lv_iload hc.1 hc.2.1 dX9_choose_188 (lv_at hl 1 rfl) ?_
          refine nn_bipush hc dX9_choose_190 (by decide +kernel) ?_
          refine nn_icmp_eq hc dX9_choose_192 (tgt := 200) (by decide) (by omega) (by decide) (fun c4 => ?_) (fun c4 => ?_)
          · have hMw := rM w.toNat (by omega)
            have hcr := cutI_r (fun v => brk js (stg 3) (p + v) mJC.toNat) (mBr hps w.toNat - 1).toNat
            have hww : fstI (srv (mLn hps) nw x0) mHC.toNat = w := hw1.symm
            refine lv_iload hc.1 hc.2.1 dX9_choose_200 (lv_at hl 2 rfl) ?_
            refine nn_put hc hw hz hiX9 tyX9 tyX9_ok nmX9 rfl 16 (by decide) (Nat.le_of_ble_eq_true rfl) lk120 rfl rfl rfl dX9_choose_202 (fun S5 H locs hS5 fS5 hw => ?_)
            have hS5 : S5 z = oO 9 [.ref (z + 1), .int (iI mLen), .int (iI mAt), .ref (z + 2), .ref (z + 3), .ref (z + 4), .ref (z + 5), .int (iI mHC), .int (iI mRC), .ref (z + 6), .ref (z + 7), .ref (z + 8), .int (iI mHS), .ref (z + 9), .ref (z + 10), .int (iI mJC), .int (iI w), .int (iI mVi)] := hS5
            refine lv_aload_n hc.1 hc.2.1 dX9_choose_205 rfl (lv_at hl 4 rfl) ?_
            refine nn_get hc hw hS5 hiX9 rfl 16 (by decide) rfl lk120 dX9_choose_206 ?_
            refine nn_bipush hc dX9_choose_209 (by decide +kernel) ?_
            refine nn_icmp_ne hc dX9_choose_211 (tgt := 216) (by decide) (by omega) (by decide) (fun c6 => ?_) (fun c6 => ?_)
            · refine lv_aload_n hc.1 hc.2.1 dX9_choose_216 rfl (lv_at hl 4 rfl) ?_
              refine lv_iload hc.1 hc.2.1 dX9_choose_217 (lv_at hl 0 rfl) ?_
              refine nn_bipush hc dX9_choose_219 (by decide +kernel) ?_
              refine nn_icmp_eq hc dX9_choose_221 (tgt := 230) (by decide) (by omega) (by decide) (fun c7 => ?_) (fun c7 => ?_)
              · refine lv_aload_n hc.1 hc.2.1 dX9_choose_230 rfl (lv_at hl 4 rfl) ?_
                refine lv_aload_n hc.1 hc.2.1 dX9_choose_231 rfl (lv_at hl 4 rfl) ?_
                refine nn_get hc hw hS5 hiX9 rfl 16 (by decide) rfl lk120 dX9_choose_232 ?_
                have e8 : S5 (z + 4) = oI g 24 hps := (fS5 (z + 4) (off_nr (x := z) (a := 4) (by decide))).trans hhp
                refine nn_Vp (As := [.int (iI w)]) (st := [.ref z]) hc hw hS5 rfl (c_X9_breadth l g  hS5 e8 (by omega)) (cwV 1 hc.2.2.2.2 gX9_choose_X9_breadth rfl rfl rfl (by decide +kernel) ⟨Nat.le_of_ble_eq_true rfl, Nat.le_of_ble_eq_true rfl⟩) rfl hl.1 rfl (Nat.le_of_ble_eq_true rfl) ⟨Nat.le_of_ble_eq_true rfl, Nat.le_of_ble_eq_true rfl⟩ dX9_choose_235 ?_
                refine W.eq (g2 := F0 m 238 ls [.int (iI (mBr hps w.toNat)), .ref z]) rfl ?_
                refine nn_put hc hw hS5 hiX9 tyX9 tyX9_ok nmX9 rfl 17 (by decide) (Nat.le_of_ble_eq_true rfl) lk123 rfl rfl rfl dX9_choose_238 (fun S9 H locs hS9 fS9 hw => ?_)
                have hS9 : S9 z = oO 9 [.ref (z + 1), .int (iI mLen), .int (iI mAt), .ref (z + 2), .ref (z + 3), .ref (z + 4), .ref (z + 5), .int (iI mHC), .int (iI mRC), .ref (z + 6), .ref (z + 7), .ref (z + 8), .int (iI mHS), .ref (z + 9), .ref (z + 10), .int (iI mJC), .int (iI w), .int (iI (mBr hps w.toNat))] := hS9
                have lab241 : ∀ (fu241 : Nat) (b2 : Int) (vi : Int) (S10 : Nat → gE) (H : Heap) (locs : List Loc) (ls : Array Slot), ((b2 = w ∧ 1 ≤ vi ∧ vi ≤ 60 ∧ cutI (fun v => brk js (stg 3) (p + v) mJC.toNat) (mBr hps w.toNat - 1).toNat = vi) ∨ (b2 = -4 ∧ 1 ≤ vi ∧ vi ≤ 60 ∧ cutI (fun v => brk js (stg 3) (p + v) mJC.toNat) (mBr hps w.toNat - 1).toNat = cutI (fun v => brk js (stg 3) (p + v) mJC.toNat) (vi - 1).toNat)) → (cutI (fun v => brk js (stg 3) (p + v) mJC.toNat) (mBr hps w.toNat - 1).toNat ≠ -4) → S10 z = oO 9 [.ref (z + 1), .int (iI mLen), .int (iI mAt), .ref (z + 2), .ref (z + 3), .ref (z + 4), .ref (z + 5), .int (iI mHC), .int (iI mRC), .ref (z + 6), .ref (z + 7), .ref (z + 8), .int (iI mHS), .ref (z + 9), .ref (z + 10), .int (iI mJC), .int (iI w), .int (iI vi)] → (∀ bb, bb ≠ z → S10 bb = S9 bb) → g_W g n S10 s H locs → (if b2 = -4 then vi + 1 else 0).toNat < fu241 → lv_has ls 10 [(5, .int (iI b2)), (0, .ref z), (1, .int (iI x0)), (2, .int (iI p)), (3, .int (iI R)), (4, .int (iI e))] → W pp l ee ({ frames := 1, cells := 0, slots := 0, locals := 24 } : Room) s m ([.ref z, .int (iI x0), .int (iI p), .int (iI R)] : List Value).toArray below meth cK H locs 0 0 Q (F0 m 241 ls []) := by
                  intro fu241
                  induction fu241 with
                  | zero =>
                    intro b2 vi S10 H locs ls hv hcw hc241_0 fr241 hw hmeas hl
                    exact absurd hmeas (Nat.not_lt_zero _)
                  | succ fu241 ih241 =>
                    intro b2 vi S10 H locs ls hv hcw hc241_0 fr241 hw hmeas hl
                    refine lv_iload hc.1 hc.2.1 dX9_choose_241 (lv_at hl 5 rfl) ?_
                    refine nn_bipush hc dX9_choose_243 (by decide +kernel) ?_
                    refine nn_icmp_ne hc dX9_choose_245 (tgt := 306) (by decide) (by omega) (by decide) (fun c11 => ?_) (fun c11 => ?_)
                    · exfalso; omega
                    · refine lv_iload hc.1 hc.2.1 dX9_choose_248 (lv_at hl 0 rfl) ?_
                      refine nn_bipush hc dX9_choose_250 (by decide +kernel) ?_
                      refine nn_icmp_ne hc dX9_choose_252 (tgt := 306) (by decide) (by omega) (by decide) (fun c12 => ?_) (fun c12 => ?_)
                      · refine lv_aload_n hc.1 hc.2.1 dX9_choose_306 rfl (lv_at hl 1 rfl) ?_
                        refine nn_get hc hw hc241_0 hiX9 rfl 17 (by decide) rfl lk123 dX9_choose_307 ?_
                        refine nn_if_le hc dX9_choose_310 (tgt := 317) (by decide) (by omega) (fun c13 => ?_) (fun c13 => ?_)
                        · exfalso; omega
                        · refine nn_iconst hc dX9_choose_313 ?_
                          refine lv_goto hc.1 hc.2.1 dX9_choose_314 (tgt := 318) (by decide) ?_
                          exact hret (some (.int (iI 1))) _ S10 _ _ _ _ hw (⟨rfl, rfl, (by rw [hww, show cutI (fun v => brk js (stg 3) (p + v) mJC.toNat) (mBr hps w.toNat - 1).toNat = vi by omega]; exact hc241_0), fun bb hb0 => (((fr241 bb hb0)).trans (fS9 bb hb0)).trans (fS5 bb hb0)⟩) ⟨_, rfl, by first | rfl | exact nn_nb _, dX9_choose_318⟩
                      · refine lv_aload_n hc.1 hc.2.1 dX9_choose_255 rfl (lv_at hl 1 rfl) ?_
                        refine nn_get hc hw hc241_0 hiX9 rfl 17 (by decide) rfl lk123 dX9_choose_256 ?_
                        refine nn_if_le hc dX9_choose_259 (tgt := 306) (by decide) (by omega) (fun c14 => ?_) (fun c14 => ?_)
                        · exfalso; omega
                        · have hcr2 := cutI_r (fun v => brk js (stg 3) (p + v) mJC.toNat) (vi - 1).toNat
                          refine lv_aload_n hc.1 hc.2.1 dX9_choose_262 rfl (lv_at hl 1 rfl) ?_
                          refine lv_dup hc.1 hc.2.1 dX9_choose_263 rfl ?_
                          refine nn_get hc hw hc241_0 hiX9 rfl 17 (by decide) rfl lk123 dX9_choose_264 ?_
                          refine nn_iconst hc dX9_choose_267 ?_
                          refine nn_isub hc dX9_choose_268 ?_
                          refine nn_put hc hw hc241_0 hiX9 tyX9 tyX9_ok nmX9 rfl 17 (by decide) (Nat.le_of_ble_eq_true rfl) lk123 rfl rfl rfl dX9_choose_269 (fun S15 H locs hS15 fS15 hw => ?_)
                          have hS15 : S15 z = oO 9 [.ref (z + 1), .int (iI mLen), .int (iI mAt), .ref (z + 2), .ref (z + 3), .ref (z + 4), .ref (z + 5), .int (iI mHC), .int (iI mRC), .ref (z + 6), .ref (z + 7), .ref (z + 8), .int (iI mHS), .ref (z + 9), .ref (z + 10), .int (iI mJC), .int (iI w), .int (iI (vi - 1))] := hS15
                          refine lv_aload_n hc.1 hc.2.1 dX9_choose_272 rfl (lv_at hl 1 rfl) ?_
                          refine nn_get hc hw hS15 hiX9 rfl 17 (by decide) rfl lk123 dX9_choose_273 ?_
                          refine nn_if_le hc dX9_choose_276 (tgt := 299) (by decide) (by omega) (fun c16 => ?_) (fun c16 => ?_)
                          · exfalso; omega
                          · have hcr3 := cutI_r (fun v => brk js (stg 3) (p + v) mJC.toNat) (vi - 1 - 1).toNat
                            refine lv_aload_n hc.1 hc.2.1 dX9_choose_279 rfl (lv_at hl 1 rfl) ?_
                            refine lv_iload_n hc.1 hc.2.1 dX9_choose_280 rfl (lv_at hl 3 rfl) ?_
                            refine lv_aload_n hc.1 hc.2.1 dX9_choose_281 rfl (lv_at hl 1 rfl) ?_
                            refine nn_get hc hw hS15 hiX9 rfl 17 (by decide) rfl lk123 dX9_choose_282 ?_
                            refine nn_iadd hc dX9_choose_285 ?_
                            have e17 : S5 (z + 2) = oI g 5 stg := (fS5 (z + 2) (off_nr (x := z) (a := 2) (by decide))).trans hst
                            have e18 : S9 (z + 2) = oI g 5 stg := (fS9 (z + 2) (off_nr (x := z) (a := 2) (by decide))).trans e17
                            have e19 : S10 (z + 2) = oI g 5 stg := (fr241 (z + 2) (off_nr (x := z) (a := 2) (by decide))).trans e18
                            have e20 : S15 (z + 2) = oI g 5 stg := (fS15 (z + 2) (off_nr (x := z) (a := 2) (by decide))).trans e19
                            have e21 : S5 (z + 10) = oI g 60 js := (fS5 (z + 10) (off_nr (x := z) (a := 10) (by decide))).trans hjs
                            have e22 : S9 (z + 10) = oI g 60 js := (fS9 (z + 10) (off_nr (x := z) (a := 10) (by decide))).trans e21
                            have e23 : S10 (z + 10) = oI g 60 js := (fr241 (z + 10) (off_nr (x := z) (a := 10) (by decide))).trans e22
                            have e24 : S15 (z + 10) = oI g 60 js := (fS15 (z + 10) (off_nr (x := z) (a := 10) (by decide))).trans e23
                            refine nn_Vp (As := [.int (iI (p + (vi - 1)))]) (st := []) hc hw hS15 rfl (c_X9_isBroken l g  hS15 e20 e24 (by omega) (by omega) (by omega) (rj)) (cwV 1 hc.2.2.2.2 gX9_choose_X9_isBroken rfl rfl rfl (by decide +kernel) ⟨Nat.le_of_ble_eq_true rfl, Nat.le_of_ble_eq_true rfl⟩) rfl hl.1 rfl (Nat.le_of_ble_eq_true rfl) ⟨Nat.le_of_ble_eq_true rfl, Nat.le_of_ble_eq_true rfl⟩ dX9_choose_286 ?_
                            refine W.eq (g2 := F0 m 289 ls [.int (iI (if brk js (stg 3) (p + (vi - 1)) mJC.toNat = true then 1 else 0))]) rfl ?_
                            refine nn_if_eq hc dX9_choose_289 (tgt := 299) (by decide) (by omega) (fun c25 => ?_) (fun c25 => ?_)
                            · have hbk : brk js (stg 3) (p + (vi - 1)) mJC.toNat = false := Bool.eq_false_iff.mpr (fun q9 => by have h8 := c25; rw [if_pos q9] at h8; exact absurd h8 (by decide))
                              have hmi : cutI (fun v => brk js (stg 3) (p + v) mJC.toNat) (vi - 1).toNat = cutI (fun v => brk js (stg 3) (p + v) mJC.toNat) (vi - 1 - 1).toNat := cutI_miss (by omega) (by rw [show ((vi - 1).toNat : Int) = vi - 1 by omega]; exact hbk)
                              refine nn_bipush hc dX9_choose_299 (by decide +kernel) ?_
                              refine lv_istore (lv' := [(5, .int (iI (-4))), (0, .ref z), (1, .int (iI x0)), (2, .int (iI p)), (3, .int (iI R)), (4, .int (iI e))]) hc.1 hc.2.1 dX9_choose_301 hl (by decide) rfl (fun ls hl => ?_)
                              refine lv_goto hc.1 hc.2.1 dX9_choose_303 (tgt := 241) (by decide) ?_
                              exact ih241 (-4) (vi - 1) S15 _ _ _ (by omega) (hcw) hS15 (fun bb hb0 => ((fS15 bb hb0)).trans (fr241 bb hb0)) hw (by omega) (lv_sub hl [0, 1, 2, 3, 4, 5] rfl)
                            · have hbk : brk js (stg 3) (p + (vi - 1)) mJC.toNat = true := Classical.byContradiction (fun q9 => c25 (if_neg q9))
                              have hmi : cutI (fun v => brk js (stg 3) (p + v) mJC.toNat) (vi - 1).toNat = vi - 1 := cutI_hit (by omega) (by rw [show ((vi - 1).toNat : Int) = vi - 1 by omega]; exact hbk)
                              refine lv_aload_n hc.1 hc.2.1 dX9_choose_292 rfl (lv_at hl 1 rfl) ?_
                              refine nn_get hc hw hS15 hiX9 rfl 16 (by decide) rfl lk120 dX9_choose_293 ?_
                              refine lv_goto hc.1 hc.2.1 dX9_choose_296 (tgt := 301) (by decide) ?_
                              refine lv_istore (lv' := [(5, .int (iI w)), (0, .ref z), (1, .int (iI x0)), (2, .int (iI p)), (3, .int (iI R)), (4, .int (iI e))]) hc.1 hc.2.1 dX9_choose_301 hl (by decide) rfl (fun ls hl => ?_)
                              refine lv_goto hc.1 hc.2.1 dX9_choose_303 (tgt := 241) (by decide) ?_
                              exact ih241 w (vi - 1) S15 _ _ _ (by omega) (hcw) hS15 (fun bb hb0 => ((fS15 bb hb0)).trans (fr241 bb hb0)) hw (by omega) (lv_sub hl [0, 1, 2, 3, 4, 5] rfl)
                exact lab241 _ b (mBr hps w.toNat) S9 _ _ _ (by have hbe : b = -4 := (by omega); exact Or.inr ⟨hbe, by omega, by omega, rfl⟩) (by rw [hww] at hC; exact hC) hS9 (fun bb _ => rfl) hw (Nat.lt_succ_self _) (lv_sub hl [1, 4, 5, 6, 7, 0] rfl)
              · exfalso; omega
            · exfalso; omega
          · exfalso; omega
        · exfalso; omega
      · have hM1 := rM h.toNat (by omega)
        have hW1 := rW h.toNat (by omega)
        have hre := lstI_r (pE (mLn hps) (mBr hps) nw x0 R p) h.toNat
        have hrb := fstI_r (pBn (mLn hps) (mBr hps) nw x0 R js (stg 3) mJC.toNat p) h.toNat
        have hrw := fstI_r (srv (mLn hps) nw x0) h.toNat
        refine lv_aload_n hc.1 hc.2.1 dX9_choose_24 rfl (lv_at hl 4 rfl) ?_
        refine lv_iload hc.1 hc.2.1 dX9_choose_25 (lv_at hl 3 rfl) ?_
        refine nn_Vp (As := [.int (iI h)]) (st := []) hc hw hz rfl (c_X9_heapLength l g  hz hhp (by omega)) (cwV 1 hc.2.2.2.2 gX9_choose_X9_heapLength rfl rfl rfl (by decide +kernel) ⟨Nat.le_of_ble_eq_true rfl, Nat.le_of_ble_eq_true rfl⟩) rfl hl.1 rfl (Nat.le_of_ble_eq_true rfl) ⟨Nat.le_of_ble_eq_true rfl, Nat.le_of_ble_eq_true rfl⟩ dX9_choose_27 ?_
        refine W.eq (g2 := F0 m 30 ls [.int (iI (mLn hps h.toNat))]) rfl ?_
        refine lv_iload_n hc.1 hc.2.1 dX9_choose_30 rfl (lv_at hl 5 rfl) ?_
        refine nn_icmp_ne hc dX9_choose_31 (tgt := 169) (by decide) (by omega) (by omega) (fun c26 => ?_) (fun c26 => ?_)
        · refine nn_iinc (lv' := [(7, .int (iI (h + 1))), (4, .int (iI e)), (5, .int (iI b)), (6, .int (iI w)), (0, .ref z), (1, .int (iI x0)), (2, .int (iI p)), (3, .int (iI R))]) hc dX9_choose_169 hl (k0 := 3) rfl (by decide) rfl (fun ls hl => ?_)
          refine lv_goto hc.1 hc.2.1 dX9_choose_172 (tgt := 15) (by decide) ?_
          exact ih15 e b w (h + 1) _ _ _ (by omega) (by first | exact lst_take (by omega) (pE_iff.mpr (by omega)) | exact he.trans (lst_keep (by omega) (b_no pE_iff (by omega)))) (by first | exact fst_take (by omega) (by omega) (pBn_iff.mpr ⟨by omega, hbk⟩) | exact hb.trans (fst_keep (by omega) (Or.inr (by omega))) | exact hb.trans (fst_keep (by omega) (Or.inl (b_no pBn_iff (fun q9 => by have h8 := q9.2; rw [hbk] at h8; cases h8)))) | exact hb.trans (fst_keep (by omega) (Or.inl (b_no pBn_iff (fun q9 => by have h8 := q9.1; omega))))) (by first | exact fst_take (by omega) (by omega) (srv_iff.mpr (by omega)) | exact hw1.trans (fst_keep (by omega) (Or.inr (by omega))) | exact hw1.trans (fst_keep (by omega) (Or.inl (b_no srv_iff (by omega))))) hw (by omega) (lv_sub hl [1, 2, 3, 0, 4, 5, 6, 7] rfl)
        · refine lv_aload_n hc.1 hc.2.1 dX9_choose_34 rfl (lv_at hl 4 rfl) ?_
          refine nn_get hc hw hz hiX9 rfl 9 (by decide) rfl lk25 dX9_choose_35 ?_
          refine lv_iload hc.1 hc.2.1 dX9_choose_38 (lv_at hl 3 rfl) ?_
          refine nn_iald hc hw hnw (by omega) (by omega) dX9_choose_40 ?_
          refine nn_if_le hc dX9_choose_41 (tgt := 169) (by decide) (by omega) (fun c27 => ?_) (fun c27 => ?_)
          · refine nn_iinc (lv' := [(7, .int (iI (h + 1))), (4, .int (iI e)), (5, .int (iI b)), (6, .int (iI w)), (0, .ref z), (1, .int (iI x0)), (2, .int (iI p)), (3, .int (iI R))]) hc dX9_choose_169 hl (k0 := 3) rfl (by decide) rfl (fun ls hl => ?_)
            refine lv_goto hc.1 hc.2.1 dX9_choose_172 (tgt := 15) (by decide) ?_
            exact ih15 e b w (h + 1) _ _ _ (by omega) (by first | exact lst_take (by omega) (pE_iff.mpr (by omega)) | exact he.trans (lst_keep (by omega) (b_no pE_iff (by omega)))) (by first | exact fst_take (by omega) (by omega) (pBn_iff.mpr ⟨by omega, hbk⟩) | exact hb.trans (fst_keep (by omega) (Or.inr (by omega))) | exact hb.trans (fst_keep (by omega) (Or.inl (b_no pBn_iff (fun q9 => by have h8 := q9.2; rw [hbk] at h8; cases h8)))) | exact hb.trans (fst_keep (by omega) (Or.inl (b_no pBn_iff (fun q9 => by have h8 := q9.1; omega))))) (by first | exact fst_take (by omega) (by omega) (srv_iff.mpr (by omega)) | exact hw1.trans (fst_keep (by omega) (Or.inr (by omega))) | exact hw1.trans (fst_keep (by omega) (Or.inl (b_no srv_iff (by omega))))) hw (by omega) (lv_sub hl [1, 2, 3, 0, 4, 5, 6, 7] rfl)
          · refine lv_aload_n hc.1 hc.2.1 dX9_choose_44 rfl (lv_at hl 4 rfl) ?_
            refine lv_iload hc.1 hc.2.1 dX9_choose_45 (lv_at hl 3 rfl) ?_
            refine nn_Vp (As := [.int (iI h)]) (st := []) hc hw hz rfl (c_X9_breadth l g  hz hhp (by omega)) (cwV 1 hc.2.2.2.2 gX9_choose_X9_breadth rfl rfl rfl (by decide +kernel) ⟨Nat.le_of_ble_eq_true rfl, Nat.le_of_ble_eq_true rfl⟩) rfl hl.1 rfl (Nat.le_of_ble_eq_true rfl) ⟨Nat.le_of_ble_eq_true rfl, Nat.le_of_ble_eq_true rfl⟩ dX9_choose_47 ?_
            refine W.eq (g2 := F0 m 50 ls [.int (iI (mBr hps h.toNat))]) rfl ?_
            refine lv_istore (lv' := [(8, .int (iI (mBr hps h.toNat))), (4, .int (iI e)), (5, .int (iI b)), (6, .int (iI w)), (7, .int (iI h)), (0, .ref z), (1, .int (iI x0)), (2, .int (iI p)), (3, .int (iI R))]) hc.1 hc.2.1 dX9_choose_50 hl (by decide) rfl (fun ls hl => ?_)
            refine lv_iload_n hc.1 hc.2.1 dX9_choose_52 rfl (lv_at hl 7 rfl) ?_
            refine lv_iload hc.1 hc.2.1 dX9_choose_53 (lv_at hl 0 rfl) ?_
            refine nn_iadd hc dX9_choose_55 ?_
            refine lv_iload_n hc.1 hc.2.1 dX9_choose_56 rfl (lv_at hl 8 rfl) ?_
            refine nn_icmp_lt hc dX9_choose_57 (tgt := 64) (by decide) (by omega) (by omega) (fun c28 => ?_) (fun c28 => ?_)
            · refine nn_iconst hc dX9_choose_64 ?_
              refine lv_istore (lv' := [(9, .int (iI 0)), (8, .int (iI (mBr hps h.toNat))), (4, .int (iI e)), (5, .int (iI b)), (6, .int (iI w)), (7, .int (iI h)), (0, .ref z), (1, .int (iI x0)), (2, .int (iI p)), (3, .int (iI R))]) hc.1 hc.2.1 dX9_choose_65 hl (by decide) rfl (fun ls hl => ?_)
              refine lv_iload hc.1 hc.2.1 dX9_choose_67 (lv_at hl 0 rfl) ?_
              refine nn_if_eq hc dX9_choose_69 (tgt := 95) (by decide) (by decide) (fun c29 => ?_) (fun c29 => ?_)
              · refine lv_iload hc.1 hc.2.1 dX9_choose_95 (lv_at hl 2 rfl) ?_
                refine lv_istore (lv' := [(4, .int (iI e)), (9, .int (iI 0)), (8, .int (iI (mBr hps h.toNat))), (5, .int (iI b)), (6, .int (iI w)), (7, .int (iI h)), (0, .ref z), (1, .int (iI x0)), (2, .int (iI p)), (3, .int (iI R))]) hc.1 hc.2.1 dX9_choose_97 hl (by decide) rfl (fun ls hl => ?_)
                refine lv_iload hc.1 hc.2.1 dX9_choose_99 (lv_at hl 1 rfl) ?_
                refine nn_if_ne hc dX9_choose_101 (tgt := 138) (by decide) (by decide) (fun c30 => ?_) (fun c30 => ?_)
                · exact absurd c30 (by decide)
                · refine lv_aload_n hc.1 hc.2.1 dX9_choose_104 rfl (lv_at hl 6 rfl) ?_
                  refine lv_iload_n hc.1 hc.2.1 dX9_choose_105 rfl (lv_at hl 8 rfl) ?_
                  refine lv_iload hc.1 hc.2.1 dX9_choose_106 (lv_at hl 2 rfl) ?_
                  refine nn_iadd hc dX9_choose_108 ?_
                  refine nn_Vp (As := [.int (iI (p + (mBr hps h.toNat)))]) (st := []) hc hw hz rfl (c_X9_isBroken l g  hz hst hjs (by omega) (by omega) (by omega) (rj)) (cwV 1 hc.2.2.2.2 gX9_choose_X9_isBroken rfl rfl rfl (by decide +kernel) ⟨Nat.le_of_ble_eq_true rfl, Nat.le_of_ble_eq_true rfl⟩) rfl hl.1 rfl (Nat.le_of_ble_eq_true rfl) ⟨Nat.le_of_ble_eq_true rfl, Nat.le_of_ble_eq_true rfl⟩ dX9_choose_109 ?_
                  refine W.eq (g2 := F0 m 112 ls [.int (iI (if brk js (stg 3) (p + (mBr hps h.toNat)) mJC.toNat = true then 1 else 0))]) rfl ?_
                  refine nn_if_eq hc dX9_choose_112 (tgt := 138) (by decide) (by omega) (fun c31 => ?_) (fun c31 => ?_)
                  · have hbk : brk js (stg 3) (p + mBr hps h.toNat) mJC.toNat = false := Bool.eq_false_iff.mpr (fun q9 => by have h8 := c31; rw [if_pos q9] at h8; exact absurd h8 (by decide))
                    refine lv_iload hc.1 hc.2.1 dX9_choose_138 (lv_at hl 3 rfl) ?_
                    refine lv_istore (lv' := [(5, .int (iI b)), (4, .int (iI e)), (9, .int (iI 0)), (8, .int (iI (mBr hps h.toNat))), (6, .int (iI w)), (7, .int (iI h)), (0, .ref z), (1, .int (iI x0)), (2, .int (iI p)), (3, .int (iI R))]) hc.1 hc.2.1 dX9_choose_140 hl (by decide) rfl (fun ls hl => ?_)
                    refine lv_iload hc.1 hc.2.1 dX9_choose_142 (lv_at hl 4 rfl) ?_
                    refine nn_bipush hc dX9_choose_144 (by decide +kernel) ?_
                    refine nn_icmp_eq hc dX9_choose_146 (tgt := 160) (by decide) (by omega) (by decide) (fun c32 => ?_) (fun c32 => ?_)
                    · refine lv_iload hc.1 hc.2.1 dX9_choose_160 (lv_at hl 5 rfl) ?_
                      refine lv_goto hc.1 hc.2.1 dX9_choose_162 (tgt := 167) (by decide) ?_
                      refine lv_istore (lv' := [(6, .int (iI h)), (5, .int (iI b)), (4, .int (iI e)), (9, .int (iI 0)), (8, .int (iI (mBr hps h.toNat))), (7, .int (iI h)), (0, .ref z), (1, .int (iI x0)), (2, .int (iI p)), (3, .int (iI R))]) hc.1 hc.2.1 dX9_choose_167 hl (by decide) rfl (fun ls hl => ?_)
                      refine nn_iinc (lv' := [(7, .int (iI (h + 1))), (6, .int (iI h)), (5, .int (iI b)), (4, .int (iI e)), (9, .int (iI 0)), (8, .int (iI (mBr hps h.toNat))), (0, .ref z), (1, .int (iI x0)), (2, .int (iI p)), (3, .int (iI R))]) hc dX9_choose_169 hl (k0 := 5) rfl (by decide) rfl (fun ls hl => ?_)
                      refine lv_goto hc.1 hc.2.1 dX9_choose_172 (tgt := 15) (by decide) ?_
                      exact ih15 e b h (h + 1) _ _ _ (by omega) (by first | exact lst_take (by omega) (pE_iff.mpr (by omega)) | exact he.trans (lst_keep (by omega) (b_no pE_iff (by omega)))) (by first | exact fst_take (by omega) (by omega) (pBn_iff.mpr ⟨by omega, hbk⟩) | exact hb.trans (fst_keep (by omega) (Or.inr (by omega))) | exact hb.trans (fst_keep (by omega) (Or.inl (b_no pBn_iff (fun q9 => by have h8 := q9.2; rw [hbk] at h8; cases h8)))) | exact hb.trans (fst_keep (by omega) (Or.inl (b_no pBn_iff (fun q9 => by have h8 := q9.1; omega))))) (by first | exact fst_take (by omega) (by omega) (srv_iff.mpr (by omega)) | exact hw1.trans (fst_keep (by omega) (Or.inr (by omega))) | exact hw1.trans (fst_keep (by omega) (Or.inl (b_no srv_iff (by omega))))) hw (by omega) (lv_sub hl [3, 2, 1, 0, 6, 7, 8, 9] rfl)
                    · have hq1 := srv_iff.mp (fstI_q (q := srv (mLn hps) nw x0) (n := h.toNat) (by omega))
                      rw [← hw1] at hq1
                      have hr1 : mBr hps h.toNat < mBr hps w.toNat := by have h9 := hsrt w.toNat h.toNat (by omega) (by omega); omega
                      have hMe := rM w.toNat (by omega)
                      refine lv_iload hc.1 hc.2.1 dX9_choose_149 (lv_at hl 3 rfl) ?_
                      refine lv_aload_n hc.1 hc.2.1 dX9_choose_151 rfl (lv_at hl 6 rfl) ?_
                      refine lv_iload hc.1 hc.2.1 dX9_choose_152 (lv_at hl 4 rfl) ?_
                      refine nn_Vp (As := [.int (iI w)]) (st := [.int (iI (mBr hps h.toNat))]) hc hw hz rfl (c_X9_breadth l g  hz hhp (by omega)) (cwV 1 hc.2.2.2.2 gX9_choose_X9_breadth rfl rfl rfl (by decide +kernel) ⟨Nat.le_of_ble_eq_true rfl, Nat.le_of_ble_eq_true rfl⟩) rfl hl.1 rfl (Nat.le_of_ble_eq_true rfl) ⟨Nat.le_of_ble_eq_true rfl, Nat.le_of_ble_eq_true rfl⟩ dX9_choose_154 ?_
                      refine W.eq (g2 := F0 m 157 ls [.int (iI (mBr hps w.toNat)), .int (iI (mBr hps h.toNat))]) rfl ?_
                      refine nn_icmp_le hc dX9_choose_157 (tgt := 165) (by decide) (by omega) (by omega) (fun c33 => ?_) (fun c33 => ?_)
                      · refine lv_iload hc.1 hc.2.1 dX9_choose_165 (lv_at hl 4 rfl) ?_
                        refine lv_istore (lv' := [(6, .int (iI w)), (5, .int (iI b)), (4, .int (iI e)), (9, .int (iI 0)), (8, .int (iI (mBr hps h.toNat))), (7, .int (iI h)), (0, .ref z), (1, .int (iI x0)), (2, .int (iI p)), (3, .int (iI R))]) hc.1 hc.2.1 dX9_choose_167 hl (by decide) rfl (fun ls hl => ?_)
                        refine nn_iinc (lv' := [(7, .int (iI (h + 1))), (6, .int (iI w)), (5, .int (iI b)), (4, .int (iI e)), (9, .int (iI 0)), (8, .int (iI (mBr hps h.toNat))), (0, .ref z), (1, .int (iI x0)), (2, .int (iI p)), (3, .int (iI R))]) hc dX9_choose_169 hl (k0 := 5) rfl (by decide) rfl (fun ls hl => ?_)
                        refine lv_goto hc.1 hc.2.1 dX9_choose_172 (tgt := 15) (by decide) ?_
                        exact ih15 e b w (h + 1) _ _ _ (by omega) (by first | exact lst_take (by omega) (pE_iff.mpr (by omega)) | exact he.trans (lst_keep (by omega) (b_no pE_iff (by omega)))) (by first | exact fst_take (by omega) (by omega) (pBn_iff.mpr ⟨by omega, hbk⟩) | exact hb.trans (fst_keep (by omega) (Or.inr (by omega))) | exact hb.trans (fst_keep (by omega) (Or.inl (b_no pBn_iff (fun q9 => by have h8 := q9.2; rw [hbk] at h8; cases h8)))) | exact hb.trans (fst_keep (by omega) (Or.inl (b_no pBn_iff (fun q9 => by have h8 := q9.1; omega))))) (by first | exact fst_take (by omega) (by omega) (srv_iff.mpr (by omega)) | exact hw1.trans (fst_keep (by omega) (Or.inr (by omega))) | exact hw1.trans (fst_keep (by omega) (Or.inl (b_no srv_iff (by omega))))) hw (by omega) (lv_sub hl [3, 2, 1, 0, 6, 7, 8, 9] rfl)
                      · exfalso; omega
                  · have hbk : brk js (stg 3) (p + mBr hps h.toNat) mJC.toNat = true := Classical.byContradiction (fun q9 => c31 (if_neg q9))
                    refine lv_iload hc.1 hc.2.1 dX9_choose_115 (lv_at hl 3 rfl) ?_
                    refine nn_bipush hc dX9_choose_117 (by decide +kernel) ?_
                    refine nn_icmp_eq hc dX9_choose_119 (tgt := 133) (by decide) (by omega) (by decide) (fun c34 => ?_) (fun c34 => ?_)
                    · refine lv_iload hc.1 hc.2.1 dX9_choose_133 (lv_at hl 5 rfl) ?_
                      refine lv_goto hc.1 hc.2.1 dX9_choose_135 (tgt := 140) (by decide) ?_
                      refine lv_istore (lv' := [(5, .int (iI h)), (4, .int (iI e)), (9, .int (iI 0)), (8, .int (iI (mBr hps h.toNat))), (6, .int (iI w)), (7, .int (iI h)), (0, .ref z), (1, .int (iI x0)), (2, .int (iI p)), (3, .int (iI R))]) hc.1 hc.2.1 dX9_choose_140 hl (by decide) rfl (fun ls hl => ?_)
                      refine lv_iload hc.1 hc.2.1 dX9_choose_142 (lv_at hl 4 rfl) ?_
                      refine nn_bipush hc dX9_choose_144 (by decide +kernel) ?_
                      refine nn_icmp_eq hc dX9_choose_146 (tgt := 160) (by decide) (by omega) (by decide) (fun c35 => ?_) (fun c35 => ?_)
                      · refine lv_iload hc.1 hc.2.1 dX9_choose_160 (lv_at hl 5 rfl) ?_
                        refine lv_goto hc.1 hc.2.1 dX9_choose_162 (tgt := 167) (by decide) ?_
                        refine lv_istore (lv' := [(6, .int (iI h)), (5, .int (iI h)), (4, .int (iI e)), (9, .int (iI 0)), (8, .int (iI (mBr hps h.toNat))), (7, .int (iI h)), (0, .ref z), (1, .int (iI x0)), (2, .int (iI p)), (3, .int (iI R))]) hc.1 hc.2.1 dX9_choose_167 hl (by decide) rfl (fun ls hl => ?_)
                        refine nn_iinc (lv' := [(7, .int (iI (h + 1))), (6, .int (iI h)), (5, .int (iI h)), (4, .int (iI e)), (9, .int (iI 0)), (8, .int (iI (mBr hps h.toNat))), (0, .ref z), (1, .int (iI x0)), (2, .int (iI p)), (3, .int (iI R))]) hc dX9_choose_169 hl (k0 := 5) rfl (by decide) rfl (fun ls hl => ?_)
                        refine lv_goto hc.1 hc.2.1 dX9_choose_172 (tgt := 15) (by decide) ?_
                        exact ih15 e h h (h + 1) _ _ _ (by omega) (by first | exact lst_take (by omega) (pE_iff.mpr (by omega)) | exact he.trans (lst_keep (by omega) (b_no pE_iff (by omega)))) (by first | exact fst_take (by omega) (by omega) (pBn_iff.mpr ⟨by omega, hbk⟩) | exact hb.trans (fst_keep (by omega) (Or.inr (by omega))) | exact hb.trans (fst_keep (by omega) (Or.inl (b_no pBn_iff (fun q9 => by have h8 := q9.2; rw [hbk] at h8; cases h8)))) | exact hb.trans (fst_keep (by omega) (Or.inl (b_no pBn_iff (fun q9 => by have h8 := q9.1; omega))))) (by first | exact fst_take (by omega) (by omega) (srv_iff.mpr (by omega)) | exact hw1.trans (fst_keep (by omega) (Or.inr (by omega))) | exact hw1.trans (fst_keep (by omega) (Or.inl (b_no srv_iff (by omega))))) hw (by omega) (lv_sub hl [3, 2, 1, 0, 6, 7, 8, 9] rfl)
                      · have hq1 := srv_iff.mp (fstI_q (q := srv (mLn hps) nw x0) (n := h.toNat) (by omega))
                        rw [← hw1] at hq1
                        have hr1 : mBr hps h.toNat < mBr hps w.toNat := by have h9 := hsrt w.toNat h.toNat (by omega) (by omega); omega
                        have hMe := rM w.toNat (by omega)
                        refine lv_iload hc.1 hc.2.1 dX9_choose_149 (lv_at hl 3 rfl) ?_
                        refine lv_aload_n hc.1 hc.2.1 dX9_choose_151 rfl (lv_at hl 6 rfl) ?_
                        refine lv_iload hc.1 hc.2.1 dX9_choose_152 (lv_at hl 4 rfl) ?_
                        refine nn_Vp (As := [.int (iI w)]) (st := [.int (iI (mBr hps h.toNat))]) hc hw hz rfl (c_X9_breadth l g  hz hhp (by omega)) (cwV 1 hc.2.2.2.2 gX9_choose_X9_breadth rfl rfl rfl (by decide +kernel) ⟨Nat.le_of_ble_eq_true rfl, Nat.le_of_ble_eq_true rfl⟩) rfl hl.1 rfl (Nat.le_of_ble_eq_true rfl) ⟨Nat.le_of_ble_eq_true rfl, Nat.le_of_ble_eq_true rfl⟩ dX9_choose_154 ?_
                        refine W.eq (g2 := F0 m 157 ls [.int (iI (mBr hps w.toNat)), .int (iI (mBr hps h.toNat))]) rfl ?_
                        refine nn_icmp_le hc dX9_choose_157 (tgt := 165) (by decide) (by omega) (by omega) (fun c36 => ?_) (fun c36 => ?_)
                        · refine lv_iload hc.1 hc.2.1 dX9_choose_165 (lv_at hl 4 rfl) ?_
                          refine lv_istore (lv' := [(6, .int (iI w)), (5, .int (iI h)), (4, .int (iI e)), (9, .int (iI 0)), (8, .int (iI (mBr hps h.toNat))), (7, .int (iI h)), (0, .ref z), (1, .int (iI x0)), (2, .int (iI p)), (3, .int (iI R))]) hc.1 hc.2.1 dX9_choose_167 hl (by decide) rfl (fun ls hl => ?_)
                          refine nn_iinc (lv' := [(7, .int (iI (h + 1))), (6, .int (iI w)), (5, .int (iI h)), (4, .int (iI e)), (9, .int (iI 0)), (8, .int (iI (mBr hps h.toNat))), (0, .ref z), (1, .int (iI x0)), (2, .int (iI p)), (3, .int (iI R))]) hc dX9_choose_169 hl (k0 := 5) rfl (by decide) rfl (fun ls hl => ?_)
                          refine lv_goto hc.1 hc.2.1 dX9_choose_172 (tgt := 15) (by decide) ?_
                          exact ih15 e h w (h + 1) _ _ _ (by omega) (by first | exact lst_take (by omega) (pE_iff.mpr (by omega)) | exact he.trans (lst_keep (by omega) (b_no pE_iff (by omega)))) (by first | exact fst_take (by omega) (by omega) (pBn_iff.mpr ⟨by omega, hbk⟩) | exact hb.trans (fst_keep (by omega) (Or.inr (by omega))) | exact hb.trans (fst_keep (by omega) (Or.inl (b_no pBn_iff (fun q9 => by have h8 := q9.2; rw [hbk] at h8; cases h8)))) | exact hb.trans (fst_keep (by omega) (Or.inl (b_no pBn_iff (fun q9 => by have h8 := q9.1; omega))))) (by first | exact fst_take (by omega) (by omega) (srv_iff.mpr (by omega)) | exact hw1.trans (fst_keep (by omega) (Or.inr (by omega))) | exact hw1.trans (fst_keep (by omega) (Or.inl (b_no srv_iff (by omega))))) hw (by omega) (lv_sub hl [3, 2, 1, 0, 6, 7, 8, 9] rfl)
                        · exfalso; omega
                    · have hq1 := (pBn_iff.mp (fstI_q (q := pBn (mLn hps) (mBr hps) nw x0 R js (stg 3) mJC.toNat p) (n := h.toNat) (by omega))).1
                      rw [← hb] at hq1
                      have hr1 : mBr hps h.toNat < mBr hps b.toNat := by have h9 := hsrt b.toNat h.toNat (by omega) (by omega); omega
                      have hMe := rM b.toNat (by omega)
                      refine lv_iload hc.1 hc.2.1 dX9_choose_122 (lv_at hl 2 rfl) ?_
                      refine lv_aload_n hc.1 hc.2.1 dX9_choose_124 rfl (lv_at hl 6 rfl) ?_
                      refine lv_iload hc.1 hc.2.1 dX9_choose_125 (lv_at hl 3 rfl) ?_
                      refine nn_Vp (As := [.int (iI b)]) (st := [.int (iI (mBr hps h.toNat))]) hc hw hz rfl (c_X9_breadth l g  hz hhp (by omega)) (cwV 1 hc.2.2.2.2 gX9_choose_X9_breadth rfl rfl rfl (by decide +kernel) ⟨Nat.le_of_ble_eq_true rfl, Nat.le_of_ble_eq_true rfl⟩) rfl hl.1 rfl (Nat.le_of_ble_eq_true rfl) ⟨Nat.le_of_ble_eq_true rfl, Nat.le_of_ble_eq_true rfl⟩ dX9_choose_127 ?_
                      refine W.eq (g2 := F0 m 130 ls [.int (iI (mBr hps b.toNat)), .int (iI (mBr hps h.toNat))]) rfl ?_
                      refine nn_icmp_le hc dX9_choose_130 (tgt := 138) (by decide) (by omega) (by omega) (fun c37 => ?_) (fun c37 => ?_)
                      · refine lv_iload hc.1 hc.2.1 dX9_choose_138 (lv_at hl 3 rfl) ?_
                        refine lv_istore (lv' := [(5, .int (iI b)), (4, .int (iI e)), (9, .int (iI 0)), (8, .int (iI (mBr hps h.toNat))), (6, .int (iI w)), (7, .int (iI h)), (0, .ref z), (1, .int (iI x0)), (2, .int (iI p)), (3, .int (iI R))]) hc.1 hc.2.1 dX9_choose_140 hl (by decide) rfl (fun ls hl => ?_)
                        refine lv_iload hc.1 hc.2.1 dX9_choose_142 (lv_at hl 4 rfl) ?_
                        refine nn_bipush hc dX9_choose_144 (by decide +kernel) ?_
                        refine nn_icmp_eq hc dX9_choose_146 (tgt := 160) (by decide) (by omega) (by decide) (fun c38 => ?_) (fun c38 => ?_)
                        · refine lv_iload hc.1 hc.2.1 dX9_choose_160 (lv_at hl 5 rfl) ?_
                          refine lv_goto hc.1 hc.2.1 dX9_choose_162 (tgt := 167) (by decide) ?_
                          refine lv_istore (lv' := [(6, .int (iI h)), (5, .int (iI b)), (4, .int (iI e)), (9, .int (iI 0)), (8, .int (iI (mBr hps h.toNat))), (7, .int (iI h)), (0, .ref z), (1, .int (iI x0)), (2, .int (iI p)), (3, .int (iI R))]) hc.1 hc.2.1 dX9_choose_167 hl (by decide) rfl (fun ls hl => ?_)
                          refine nn_iinc (lv' := [(7, .int (iI (h + 1))), (6, .int (iI h)), (5, .int (iI b)), (4, .int (iI e)), (9, .int (iI 0)), (8, .int (iI (mBr hps h.toNat))), (0, .ref z), (1, .int (iI x0)), (2, .int (iI p)), (3, .int (iI R))]) hc dX9_choose_169 hl (k0 := 5) rfl (by decide) rfl (fun ls hl => ?_)
                          refine lv_goto hc.1 hc.2.1 dX9_choose_172 (tgt := 15) (by decide) ?_
                          exact ih15 e b h (h + 1) _ _ _ (by omega) (by first | exact lst_take (by omega) (pE_iff.mpr (by omega)) | exact he.trans (lst_keep (by omega) (b_no pE_iff (by omega)))) (by first | exact fst_take (by omega) (by omega) (pBn_iff.mpr ⟨by omega, hbk⟩) | exact hb.trans (fst_keep (by omega) (Or.inr (by omega))) | exact hb.trans (fst_keep (by omega) (Or.inl (b_no pBn_iff (fun q9 => by have h8 := q9.2; rw [hbk] at h8; cases h8)))) | exact hb.trans (fst_keep (by omega) (Or.inl (b_no pBn_iff (fun q9 => by have h8 := q9.1; omega))))) (by first | exact fst_take (by omega) (by omega) (srv_iff.mpr (by omega)) | exact hw1.trans (fst_keep (by omega) (Or.inr (by omega))) | exact hw1.trans (fst_keep (by omega) (Or.inl (b_no srv_iff (by omega))))) hw (by omega) (lv_sub hl [3, 2, 1, 0, 6, 7, 8, 9] rfl)
                        · have hq1 := srv_iff.mp (fstI_q (q := srv (mLn hps) nw x0) (n := h.toNat) (by omega))
                          rw [← hw1] at hq1
                          have hr1 : mBr hps h.toNat < mBr hps w.toNat := by have h9 := hsrt w.toNat h.toNat (by omega) (by omega); omega
                          have hMe := rM w.toNat (by omega)
                          refine lv_iload hc.1 hc.2.1 dX9_choose_149 (lv_at hl 3 rfl) ?_
                          refine lv_aload_n hc.1 hc.2.1 dX9_choose_151 rfl (lv_at hl 6 rfl) ?_
                          refine lv_iload hc.1 hc.2.1 dX9_choose_152 (lv_at hl 4 rfl) ?_
                          refine nn_Vp (As := [.int (iI w)]) (st := [.int (iI (mBr hps h.toNat))]) hc hw hz rfl (c_X9_breadth l g  hz hhp (by omega)) (cwV 1 hc.2.2.2.2 gX9_choose_X9_breadth rfl rfl rfl (by decide +kernel) ⟨Nat.le_of_ble_eq_true rfl, Nat.le_of_ble_eq_true rfl⟩) rfl hl.1 rfl (Nat.le_of_ble_eq_true rfl) ⟨Nat.le_of_ble_eq_true rfl, Nat.le_of_ble_eq_true rfl⟩ dX9_choose_154 ?_
                          refine W.eq (g2 := F0 m 157 ls [.int (iI (mBr hps w.toNat)), .int (iI (mBr hps h.toNat))]) rfl ?_
                          refine nn_icmp_le hc dX9_choose_157 (tgt := 165) (by decide) (by omega) (by omega) (fun c39 => ?_) (fun c39 => ?_)
                          · refine lv_iload hc.1 hc.2.1 dX9_choose_165 (lv_at hl 4 rfl) ?_
                            refine lv_istore (lv' := [(6, .int (iI w)), (5, .int (iI b)), (4, .int (iI e)), (9, .int (iI 0)), (8, .int (iI (mBr hps h.toNat))), (7, .int (iI h)), (0, .ref z), (1, .int (iI x0)), (2, .int (iI p)), (3, .int (iI R))]) hc.1 hc.2.1 dX9_choose_167 hl (by decide) rfl (fun ls hl => ?_)
                            refine nn_iinc (lv' := [(7, .int (iI (h + 1))), (6, .int (iI w)), (5, .int (iI b)), (4, .int (iI e)), (9, .int (iI 0)), (8, .int (iI (mBr hps h.toNat))), (0, .ref z), (1, .int (iI x0)), (2, .int (iI p)), (3, .int (iI R))]) hc dX9_choose_169 hl (k0 := 5) rfl (by decide) rfl (fun ls hl => ?_)
                            refine lv_goto hc.1 hc.2.1 dX9_choose_172 (tgt := 15) (by decide) ?_
                            exact ih15 e b w (h + 1) _ _ _ (by omega) (by first | exact lst_take (by omega) (pE_iff.mpr (by omega)) | exact he.trans (lst_keep (by omega) (b_no pE_iff (by omega)))) (by first | exact fst_take (by omega) (by omega) (pBn_iff.mpr ⟨by omega, hbk⟩) | exact hb.trans (fst_keep (by omega) (Or.inr (by omega))) | exact hb.trans (fst_keep (by omega) (Or.inl (b_no pBn_iff (fun q9 => by have h8 := q9.2; rw [hbk] at h8; cases h8)))) | exact hb.trans (fst_keep (by omega) (Or.inl (b_no pBn_iff (fun q9 => by have h8 := q9.1; omega))))) (by first | exact fst_take (by omega) (by omega) (srv_iff.mpr (by omega)) | exact hw1.trans (fst_keep (by omega) (Or.inr (by omega))) | exact hw1.trans (fst_keep (by omega) (Or.inl (b_no srv_iff (by omega))))) hw (by omega) (lv_sub hl [3, 2, 1, 0, 6, 7, 8, 9] rfl)
                          · exfalso; omega
                      · exfalso; omega
              · exact absurd c29 (by decide)
            · refine nn_iconst hc dX9_choose_60 ?_
              refine lv_goto hc.1 hc.2.1 dX9_choose_61 (tgt := 65) (by decide) ?_
              refine lv_istore (lv' := [(9, .int (iI 1)), (8, .int (iI (mBr hps h.toNat))), (4, .int (iI e)), (5, .int (iI b)), (6, .int (iI w)), (7, .int (iI h)), (0, .ref z), (1, .int (iI x0)), (2, .int (iI p)), (3, .int (iI R))]) hc.1 hc.2.1 dX9_choose_65 hl (by decide) rfl (fun ls hl => ?_)
              refine lv_iload hc.1 hc.2.1 dX9_choose_67 (lv_at hl 0 rfl) ?_
              refine nn_if_eq hc dX9_choose_69 (tgt := 95) (by decide) (by decide) (fun c40 => ?_) (fun c40 => ?_)
              · exact absurd c40 (by decide)
              · refine lv_iload hc.1 hc.2.1 dX9_choose_72 (lv_at hl 2 rfl) ?_
                refine nn_bipush hc dX9_choose_74 (by decide +kernel) ?_
                refine nn_icmp_eq hc dX9_choose_76 (tgt := 90) (by decide) (by omega) (by decide) (fun c41 => ?_) (fun c41 => ?_)
                · refine lv_iload hc.1 hc.2.1 dX9_choose_90 (lv_at hl 5 rfl) ?_
                  refine lv_goto hc.1 hc.2.1 dX9_choose_92 (tgt := 97) (by decide) ?_
                  refine lv_istore (lv' := [(4, .int (iI h)), (9, .int (iI 1)), (8, .int (iI (mBr hps h.toNat))), (5, .int (iI b)), (6, .int (iI w)), (7, .int (iI h)), (0, .ref z), (1, .int (iI x0)), (2, .int (iI p)), (3, .int (iI R))]) hc.1 hc.2.1 dX9_choose_97 hl (by decide) rfl (fun ls hl => ?_)
                  refine lv_iload hc.1 hc.2.1 dX9_choose_99 (lv_at hl 1 rfl) ?_
                  refine nn_if_ne hc dX9_choose_101 (tgt := 138) (by decide) (by decide) (fun c42 => ?_) (fun c42 => ?_)
                  · refine lv_iload hc.1 hc.2.1 dX9_choose_138 (lv_at hl 3 rfl) ?_
                    refine lv_istore (lv' := [(5, .int (iI b)), (4, .int (iI h)), (9, .int (iI 1)), (8, .int (iI (mBr hps h.toNat))), (6, .int (iI w)), (7, .int (iI h)), (0, .ref z), (1, .int (iI x0)), (2, .int (iI p)), (3, .int (iI R))]) hc.1 hc.2.1 dX9_choose_140 hl (by decide) rfl (fun ls hl => ?_)
                    refine lv_iload hc.1 hc.2.1 dX9_choose_142 (lv_at hl 4 rfl) ?_
                    refine nn_bipush hc dX9_choose_144 (by decide +kernel) ?_
                    refine nn_icmp_eq hc dX9_choose_146 (tgt := 160) (by decide) (by omega) (by decide) (fun c43 => ?_) (fun c43 => ?_)
                    · refine lv_iload hc.1 hc.2.1 dX9_choose_160 (lv_at hl 5 rfl) ?_
                      refine lv_goto hc.1 hc.2.1 dX9_choose_162 (tgt := 167) (by decide) ?_
                      refine lv_istore (lv' := [(6, .int (iI h)), (5, .int (iI b)), (4, .int (iI h)), (9, .int (iI 1)), (8, .int (iI (mBr hps h.toNat))), (7, .int (iI h)), (0, .ref z), (1, .int (iI x0)), (2, .int (iI p)), (3, .int (iI R))]) hc.1 hc.2.1 dX9_choose_167 hl (by decide) rfl (fun ls hl => ?_)
                      refine nn_iinc (lv' := [(7, .int (iI (h + 1))), (6, .int (iI h)), (5, .int (iI b)), (4, .int (iI h)), (9, .int (iI 1)), (8, .int (iI (mBr hps h.toNat))), (0, .ref z), (1, .int (iI x0)), (2, .int (iI p)), (3, .int (iI R))]) hc dX9_choose_169 hl (k0 := 5) rfl (by decide) rfl (fun ls hl => ?_)
                      refine lv_goto hc.1 hc.2.1 dX9_choose_172 (tgt := 15) (by decide) ?_
                      exact ih15 h b h (h + 1) _ _ _ (by omega) (by first | exact lst_take (by omega) (pE_iff.mpr (by omega)) | exact he.trans (lst_keep (by omega) (b_no pE_iff (by omega)))) (by first | exact fst_take (by omega) (by omega) (pBn_iff.mpr ⟨by omega, hbk⟩) | exact hb.trans (fst_keep (by omega) (Or.inr (by omega))) | exact hb.trans (fst_keep (by omega) (Or.inl (b_no pBn_iff (fun q9 => by have h8 := q9.2; rw [hbk] at h8; cases h8)))) | exact hb.trans (fst_keep (by omega) (Or.inl (b_no pBn_iff (fun q9 => by have h8 := q9.1; omega))))) (by first | exact fst_take (by omega) (by omega) (srv_iff.mpr (by omega)) | exact hw1.trans (fst_keep (by omega) (Or.inr (by omega))) | exact hw1.trans (fst_keep (by omega) (Or.inl (b_no srv_iff (by omega))))) hw (by omega) (lv_sub hl [3, 2, 1, 0, 6, 7, 8, 9] rfl)
                    · have hq1 := srv_iff.mp (fstI_q (q := srv (mLn hps) nw x0) (n := h.toNat) (by omega))
                      rw [← hw1] at hq1
                      have hr1 : mBr hps h.toNat < mBr hps w.toNat := by have h9 := hsrt w.toNat h.toNat (by omega) (by omega); omega
                      have hMe := rM w.toNat (by omega)
                      refine lv_iload hc.1 hc.2.1 dX9_choose_149 (lv_at hl 3 rfl) ?_
                      refine lv_aload_n hc.1 hc.2.1 dX9_choose_151 rfl (lv_at hl 6 rfl) ?_
                      refine lv_iload hc.1 hc.2.1 dX9_choose_152 (lv_at hl 4 rfl) ?_
                      refine nn_Vp (As := [.int (iI w)]) (st := [.int (iI (mBr hps h.toNat))]) hc hw hz rfl (c_X9_breadth l g  hz hhp (by omega)) (cwV 1 hc.2.2.2.2 gX9_choose_X9_breadth rfl rfl rfl (by decide +kernel) ⟨Nat.le_of_ble_eq_true rfl, Nat.le_of_ble_eq_true rfl⟩) rfl hl.1 rfl (Nat.le_of_ble_eq_true rfl) ⟨Nat.le_of_ble_eq_true rfl, Nat.le_of_ble_eq_true rfl⟩ dX9_choose_154 ?_
                      refine W.eq (g2 := F0 m 157 ls [.int (iI (mBr hps w.toNat)), .int (iI (mBr hps h.toNat))]) rfl ?_
                      refine nn_icmp_le hc dX9_choose_157 (tgt := 165) (by decide) (by omega) (by omega) (fun c44 => ?_) (fun c44 => ?_)
                      · refine lv_iload hc.1 hc.2.1 dX9_choose_165 (lv_at hl 4 rfl) ?_
                        refine lv_istore (lv' := [(6, .int (iI w)), (5, .int (iI b)), (4, .int (iI h)), (9, .int (iI 1)), (8, .int (iI (mBr hps h.toNat))), (7, .int (iI h)), (0, .ref z), (1, .int (iI x0)), (2, .int (iI p)), (3, .int (iI R))]) hc.1 hc.2.1 dX9_choose_167 hl (by decide) rfl (fun ls hl => ?_)
                        refine nn_iinc (lv' := [(7, .int (iI (h + 1))), (6, .int (iI w)), (5, .int (iI b)), (4, .int (iI h)), (9, .int (iI 1)), (8, .int (iI (mBr hps h.toNat))), (0, .ref z), (1, .int (iI x0)), (2, .int (iI p)), (3, .int (iI R))]) hc dX9_choose_169 hl (k0 := 5) rfl (by decide) rfl (fun ls hl => ?_)
                        refine lv_goto hc.1 hc.2.1 dX9_choose_172 (tgt := 15) (by decide) ?_
                        exact ih15 h b w (h + 1) _ _ _ (by omega) (by first | exact lst_take (by omega) (pE_iff.mpr (by omega)) | exact he.trans (lst_keep (by omega) (b_no pE_iff (by omega)))) (by first | exact fst_take (by omega) (by omega) (pBn_iff.mpr ⟨by omega, hbk⟩) | exact hb.trans (fst_keep (by omega) (Or.inr (by omega))) | exact hb.trans (fst_keep (by omega) (Or.inl (b_no pBn_iff (fun q9 => by have h8 := q9.2; rw [hbk] at h8; cases h8)))) | exact hb.trans (fst_keep (by omega) (Or.inl (b_no pBn_iff (fun q9 => by have h8 := q9.1; omega))))) (by first | exact fst_take (by omega) (by omega) (srv_iff.mpr (by omega)) | exact hw1.trans (fst_keep (by omega) (Or.inr (by omega))) | exact hw1.trans (fst_keep (by omega) (Or.inl (b_no srv_iff (by omega))))) hw (by omega) (lv_sub hl [3, 2, 1, 0, 6, 7, 8, 9] rfl)
                      · exfalso; omega
                  · exact absurd c42 (by decide)
                · have hq1 := pE_iff.mp (lstI_q (q := pE (mLn hps) (mBr hps) nw x0 R p) (n := h.toNat) (by omega))
                  rw [← he] at hq1
                  have hr1 : mBr hps h.toNat < mBr hps e.toNat := by have h9 := hsrt e.toNat h.toNat (by omega) (by omega); omega
                  have hMe := rM e.toNat (by omega)
                  refine lv_iload hc.1 hc.2.1 dX9_choose_79 (lv_at hl 1 rfl) ?_
                  refine lv_aload_n hc.1 hc.2.1 dX9_choose_81 rfl (lv_at hl 6 rfl) ?_
                  refine lv_iload hc.1 hc.2.1 dX9_choose_82 (lv_at hl 2 rfl) ?_
                  refine nn_Vp (As := [.int (iI e)]) (st := [.int (iI (mBr hps h.toNat))]) hc hw hz rfl (c_X9_breadth l g  hz hhp (by omega)) (cwV 1 hc.2.2.2.2 gX9_choose_X9_breadth rfl rfl rfl (by decide +kernel) ⟨Nat.le_of_ble_eq_true rfl, Nat.le_of_ble_eq_true rfl⟩) rfl hl.1 rfl (Nat.le_of_ble_eq_true rfl) ⟨Nat.le_of_ble_eq_true rfl, Nat.le_of_ble_eq_true rfl⟩ dX9_choose_84 ?_
                  refine W.eq (g2 := F0 m 87 ls [.int (iI (mBr hps e.toNat)), .int (iI (mBr hps h.toNat))]) rfl ?_
                  refine nn_icmp_ge hc dX9_choose_87 (tgt := 95) (by decide) (by omega) (by omega) (fun c45 => ?_) (fun c45 => ?_)
                  · exfalso; omega
                  · refine lv_iload hc.1 hc.2.1 dX9_choose_90 (lv_at hl 5 rfl) ?_
                    refine lv_goto hc.1 hc.2.1 dX9_choose_92 (tgt := 97) (by decide) ?_
                    refine lv_istore (lv' := [(4, .int (iI h)), (9, .int (iI 1)), (8, .int (iI (mBr hps h.toNat))), (5, .int (iI b)), (6, .int (iI w)), (7, .int (iI h)), (0, .ref z), (1, .int (iI x0)), (2, .int (iI p)), (3, .int (iI R))]) hc.1 hc.2.1 dX9_choose_97 hl (by decide) rfl (fun ls hl => ?_)
                    refine lv_iload hc.1 hc.2.1 dX9_choose_99 (lv_at hl 1 rfl) ?_
                    refine nn_if_ne hc dX9_choose_101 (tgt := 138) (by decide) (by decide) (fun c46 => ?_) (fun c46 => ?_)
                    · refine lv_iload hc.1 hc.2.1 dX9_choose_138 (lv_at hl 3 rfl) ?_
                      refine lv_istore (lv' := [(5, .int (iI b)), (4, .int (iI h)), (9, .int (iI 1)), (8, .int (iI (mBr hps h.toNat))), (6, .int (iI w)), (7, .int (iI h)), (0, .ref z), (1, .int (iI x0)), (2, .int (iI p)), (3, .int (iI R))]) hc.1 hc.2.1 dX9_choose_140 hl (by decide) rfl (fun ls hl => ?_)
                      refine lv_iload hc.1 hc.2.1 dX9_choose_142 (lv_at hl 4 rfl) ?_
                      refine nn_bipush hc dX9_choose_144 (by decide +kernel) ?_
                      refine nn_icmp_eq hc dX9_choose_146 (tgt := 160) (by decide) (by omega) (by decide) (fun c47 => ?_) (fun c47 => ?_)
                      · refine lv_iload hc.1 hc.2.1 dX9_choose_160 (lv_at hl 5 rfl) ?_
                        refine lv_goto hc.1 hc.2.1 dX9_choose_162 (tgt := 167) (by decide) ?_
                        refine lv_istore (lv' := [(6, .int (iI h)), (5, .int (iI b)), (4, .int (iI h)), (9, .int (iI 1)), (8, .int (iI (mBr hps h.toNat))), (7, .int (iI h)), (0, .ref z), (1, .int (iI x0)), (2, .int (iI p)), (3, .int (iI R))]) hc.1 hc.2.1 dX9_choose_167 hl (by decide) rfl (fun ls hl => ?_)
                        refine nn_iinc (lv' := [(7, .int (iI (h + 1))), (6, .int (iI h)), (5, .int (iI b)), (4, .int (iI h)), (9, .int (iI 1)), (8, .int (iI (mBr hps h.toNat))), (0, .ref z), (1, .int (iI x0)), (2, .int (iI p)), (3, .int (iI R))]) hc dX9_choose_169 hl (k0 := 5) rfl (by decide) rfl (fun ls hl => ?_)
                        refine lv_goto hc.1 hc.2.1 dX9_choose_172 (tgt := 15) (by decide) ?_
                        exact ih15 h b h (h + 1) _ _ _ (by omega) (by first | exact lst_take (by omega) (pE_iff.mpr (by omega)) | exact he.trans (lst_keep (by omega) (b_no pE_iff (by omega)))) (by first | exact fst_take (by omega) (by omega) (pBn_iff.mpr ⟨by omega, hbk⟩) | exact hb.trans (fst_keep (by omega) (Or.inr (by omega))) | exact hb.trans (fst_keep (by omega) (Or.inl (b_no pBn_iff (fun q9 => by have h8 := q9.2; rw [hbk] at h8; cases h8)))) | exact hb.trans (fst_keep (by omega) (Or.inl (b_no pBn_iff (fun q9 => by have h8 := q9.1; omega))))) (by first | exact fst_take (by omega) (by omega) (srv_iff.mpr (by omega)) | exact hw1.trans (fst_keep (by omega) (Or.inr (by omega))) | exact hw1.trans (fst_keep (by omega) (Or.inl (b_no srv_iff (by omega))))) hw (by omega) (lv_sub hl [3, 2, 1, 0, 6, 7, 8, 9] rfl)
                      · have hq1 := srv_iff.mp (fstI_q (q := srv (mLn hps) nw x0) (n := h.toNat) (by omega))
                        rw [← hw1] at hq1
                        have hr1 : mBr hps h.toNat < mBr hps w.toNat := by have h9 := hsrt w.toNat h.toNat (by omega) (by omega); omega
                        have hMe := rM w.toNat (by omega)
                        refine lv_iload hc.1 hc.2.1 dX9_choose_149 (lv_at hl 3 rfl) ?_
                        refine lv_aload_n hc.1 hc.2.1 dX9_choose_151 rfl (lv_at hl 6 rfl) ?_
                        refine lv_iload hc.1 hc.2.1 dX9_choose_152 (lv_at hl 4 rfl) ?_
                        refine nn_Vp (As := [.int (iI w)]) (st := [.int (iI (mBr hps h.toNat))]) hc hw hz rfl (c_X9_breadth l g  hz hhp (by omega)) (cwV 1 hc.2.2.2.2 gX9_choose_X9_breadth rfl rfl rfl (by decide +kernel) ⟨Nat.le_of_ble_eq_true rfl, Nat.le_of_ble_eq_true rfl⟩) rfl hl.1 rfl (Nat.le_of_ble_eq_true rfl) ⟨Nat.le_of_ble_eq_true rfl, Nat.le_of_ble_eq_true rfl⟩ dX9_choose_154 ?_
                        refine W.eq (g2 := F0 m 157 ls [.int (iI (mBr hps w.toNat)), .int (iI (mBr hps h.toNat))]) rfl ?_
                        refine nn_icmp_le hc dX9_choose_157 (tgt := 165) (by decide) (by omega) (by omega) (fun c48 => ?_) (fun c48 => ?_)
                        · refine lv_iload hc.1 hc.2.1 dX9_choose_165 (lv_at hl 4 rfl) ?_
                          refine lv_istore (lv' := [(6, .int (iI w)), (5, .int (iI b)), (4, .int (iI h)), (9, .int (iI 1)), (8, .int (iI (mBr hps h.toNat))), (7, .int (iI h)), (0, .ref z), (1, .int (iI x0)), (2, .int (iI p)), (3, .int (iI R))]) hc.1 hc.2.1 dX9_choose_167 hl (by decide) rfl (fun ls hl => ?_)
                          refine nn_iinc (lv' := [(7, .int (iI (h + 1))), (6, .int (iI w)), (5, .int (iI b)), (4, .int (iI h)), (9, .int (iI 1)), (8, .int (iI (mBr hps h.toNat))), (0, .ref z), (1, .int (iI x0)), (2, .int (iI p)), (3, .int (iI R))]) hc dX9_choose_169 hl (k0 := 5) rfl (by decide) rfl (fun ls hl => ?_)
                          refine lv_goto hc.1 hc.2.1 dX9_choose_172 (tgt := 15) (by decide) ?_
                          exact ih15 h b w (h + 1) _ _ _ (by omega) (by first | exact lst_take (by omega) (pE_iff.mpr (by omega)) | exact he.trans (lst_keep (by omega) (b_no pE_iff (by omega)))) (by first | exact fst_take (by omega) (by omega) (pBn_iff.mpr ⟨by omega, hbk⟩) | exact hb.trans (fst_keep (by omega) (Or.inr (by omega))) | exact hb.trans (fst_keep (by omega) (Or.inl (b_no pBn_iff (fun q9 => by have h8 := q9.2; rw [hbk] at h8; cases h8)))) | exact hb.trans (fst_keep (by omega) (Or.inl (b_no pBn_iff (fun q9 => by have h8 := q9.1; omega))))) (by first | exact fst_take (by omega) (by omega) (srv_iff.mpr (by omega)) | exact hw1.trans (fst_keep (by omega) (Or.inr (by omega))) | exact hw1.trans (fst_keep (by omega) (Or.inl (b_no srv_iff (by omega))))) hw (by omega) (lv_sub hl [3, 2, 1, 0, 6, 7, 8, 9] rfl)
                        · exfalso; omega
                    · exact absurd c46 (by decide)
  exact lab15 _ (-4) (-4) (-4) 0 _ _ _ (by omega) (rfl) (rfl) (rfl) hw (Nat.lt_succ_self _) (lv_sub hl [3, 2, 1, 0, 4, 5, 6, 7] rfl)

set_option maxHeartbeats 4000000 in
set_option maxRecDepth 100000 in
theorem c_X9_choose_n2 (l : Launch) (g : gG) {n : Nat} {S : Nat → gE} {z : Nat} {mLen mAt mHC mRC mHS mJC mCh mVi : Int} {stg hps nw js : Nat → Int} {x0 p R : Int} (hz : S z = oO 9 [.ref (z + 1), .int (iI mLen), .int (iI mAt), .ref (z + 2), .ref (z + 3), .ref (z + 4), .ref (z + 5), .int (iI mHC), .int (iI mRC), .ref (z + 6), .ref (z + 7), .ref (z + 8), .int (iI mHS), .ref (z + 9), .ref (z + 10), .int (iI mJC), .int (iI mCh), .int (iI mVi)]) (hst : S (z + 2) = oI g 5 stg) (hhp : S (z + 4) = oI g 24 hps) (hnw : S (z + 6) = oI g 1249 nw) (hjs : S (z + 10) = oI g 60 js) (rHC : 0 ≤ mHC ∧ mHC ≤ 8) (rM : ∀ i : Nat, (i : Int) < mHC → (20 ≤ mLn hps i ∧ mLn hps i ≤ 60) ∧ (10 ≤ mBr hps i ∧ mBr hps i ≤ 60)) (hsrt : srt mHC (mLn hps) (mBr hps)) (rW : ∀ i : Nat, (i : Int) < mHC → 0 ≤ nw i ∧ nw i ≤ 1000000) (rJ : 0 ≤ mJC ∧ mJC ≤ 59) (rb : 1 ≤ stg 3 ∧ stg 3 ≤ 1000) (rj : ∀ i : Nat, (i : Int) < mJC → -1000000 ≤ js i ∧ js i ≤ 1000000) (rx0 : 0 ≤ x0 ∧ x0 ≤ 60) (rpR : (0 ≤ p ∧ p < R) ∧ R ≤ 1000) (hE : lstI (pE (mLn hps) (mBr hps) nw x0 R p) mHC.toNat = -4) (hB : fstI (pB (mLn hps) (mBr hps) nw x0 js (stg 3) mJC.toNat p) mHC.toNat = -4) (hW : 0 ≤ fstI (srv (mLn hps) nw x0) mHC.toNat) (hC : cutI (fun v => brk js (stg 3) (p + v) mJC.toNat) (mBr hps (fstI (srv (mLn hps) nw x0) mHC.toNat).toNat - 1).toNat = -4) : g_Cs l yX9_choose wsX9_choose { frames := 1, cells := 0, slots := 0, locals := 24 } g [.ref z, .int (iI x0), .int (iI p), .int (iI R)] n S (fun vr n1 S1 => ∃ c1 : Int, ∃ v1 : Int, vr = some (.int (iI 0)) ∧ n = n1 ∧ S1 z = oO 9 [.ref (z + 1), .int (iI mLen), .int (iI mAt), .ref (z + 2), .ref (z + 3), .ref (z + 4), .ref (z + 5), .int (iI mHC), .int (iI mRC), .ref (z + 6), .ref (z + 7), .ref (z + 8), .int (iI mHS), .ref (z + 9), .ref (z + 10), .int (iI mJC), .int (iI c1), .int (iI v1)] ∧ (∀ bb, bb ≠ z → S1 bb = S bb)) 0 0 := by
  refine g_Cs.of (cc := cX9_choose) (maxL := 10) (ret := (some .boolean)) (by decide) rfl (Nat.le_of_ble_eq_true rfl) ?_
  intro pp ee s m below meth cK Q H locs ls hc hnm hw hl hret
  have hl : lv_has ls 10 [(0, .ref z), (1, .int (iI x0)), (2, .int (iI p)), (3, .int (iI R))] := hl
  have hiX9 : ∀ w ∈ u_ws RX9 TX9 18, w ∈ wsX9_choose := by decide +kernel
  have lk54 : Cond.fieldLink RX9 54 "RoofCoursesModel" "heapCount" "I" ∈ wsX9_choose := by decide +kernel
  have lk120 : Cond.fieldLink RX9 120 "RoofCoursesModel" "chosen" "I" ∈ wsX9_choose := by decide +kernel
  have lk123 : Cond.fieldLink RX9 123 "RoofCoursesModel" "visible" "I" ∈ wsX9_choose := by decide +kernel
  have lk25 : Cond.fieldLink RX9 25 "RoofCoursesModel" "now" "[I" ∈ wsX9_choose := by decide +kernel
  refine nn_bipush hc dX9_choose_0 (by decide +kernel) ?_
  refine lv_istore (lv' := [(4, .int (iI (-4))), (0, .ref z), (1, .int (iI x0)), (2, .int (iI p)), (3, .int (iI R))]) hc.1 hc.2.1 dX9_choose_2 hl (by decide) rfl (fun ls hl => ?_)
  refine nn_bipush hc dX9_choose_4 (by decide +kernel) ?_
  refine lv_istore (lv' := [(5, .int (iI (-4))), (4, .int (iI (-4))), (0, .ref z), (1, .int (iI x0)), (2, .int (iI p)), (3, .int (iI R))]) hc.1 hc.2.1 dX9_choose_6 hl (by decide) rfl (fun ls hl => ?_)
  refine nn_bipush hc dX9_choose_8 (by decide +kernel) ?_
  refine lv_istore (lv' := [(6, .int (iI (-4))), (5, .int (iI (-4))), (4, .int (iI (-4))), (0, .ref z), (1, .int (iI x0)), (2, .int (iI p)), (3, .int (iI R))]) hc.1 hc.2.1 dX9_choose_10 hl (by decide) rfl (fun ls hl => ?_)
  refine nn_iconst hc dX9_choose_12 ?_
  refine lv_istore (lv' := [(7, .int (iI 0)), (6, .int (iI (-4))), (5, .int (iI (-4))), (4, .int (iI (-4))), (0, .ref z), (1, .int (iI x0)), (2, .int (iI p)), (3, .int (iI R))]) hc.1 hc.2.1 dX9_choose_13 hl (by decide) rfl (fun ls hl => ?_)
  have lab15 : ∀ (fu15 : Nat) (e : Int) (b : Int) (w : Int) (h : Int) (H : Heap) (locs : List Loc) (ls : Array Slot), (0 ≤ h ∧ h ≤ mHC) → (e = lstI (pE (mLn hps) (mBr hps) nw x0 R p) h.toNat) → (b = fstI (pBn (mLn hps) (mBr hps) nw x0 R js (stg 3) mJC.toNat p) h.toNat) → (w = fstI (srv (mLn hps) nw x0) h.toNat) → g_W g n S s H locs → (mHC - h).toNat < fu15 → lv_has ls 10 [(4, .int (iI e)), (5, .int (iI b)), (6, .int (iI w)), (7, .int (iI h)), (0, .ref z), (1, .int (iI x0)), (2, .int (iI p)), (3, .int (iI R))] → W pp l ee ({ frames := 1, cells := 0, slots := 0, locals := 24 } : Room) s m ([.ref z, .int (iI x0), .int (iI p), .int (iI R)] : List Value).toArray below meth cK H locs 0 0 Q (F0 m 15 ls []) := by
    intro fu15
    induction fu15 with
    | zero =>
      intro e b w h H locs ls hh he hb hw1 hw hmeas hl
      exact absurd hmeas (Nat.not_lt_zero _)
    | succ fu15 ih15 =>
      intro e b w h H locs ls hh he hb hw1 hw hmeas hl
      refine lv_iload hc.1 hc.2.1 dX9_choose_15 (lv_at hl 3 rfl) ?_
      refine lv_aload_n hc.1 hc.2.1 dX9_choose_17 rfl (lv_at hl 4 rfl) ?_
      refine nn_get hc hw hz hiX9 rfl 7 (by decide) rfl lk54 dX9_choose_18 ?_
      refine nn_icmp_ge hc dX9_choose_21 (tgt := 175) (by decide) (by omega) (by omega) (fun c2 => ?_) (fun c2 => ?_)
      · have hHe : h.toNat = mHC.toNat := by omega
        rw [hHe] at he hb hw1
        have hre := lstI_r (pE (mLn hps) (mBr hps) nw x0 R p) mHC.toNat
        have hrb := fstI_r (pBn (mLn hps) (mBr hps) nw x0 R js (stg 3) mJC.toNat p) mHC.toNat
        have hrw := fstI_r (srv (mLn hps) nw x0) mHC.toNat
        have hbb : b = fstI (pB (mLn hps) (mBr hps) nw x0 js (stg 3) mJC.toNat p) mHC.toNat := hb.trans (pBn_pB hE)
        refine lv_aload_n hc.1 hc.2.1 dX9_choose_175 rfl (lv_at hl 4 rfl) ?_
        refine lv_iload hc.1 hc.2.1 dX9_choose_176 (lv_at hl 0 rfl) ?_
        refine nn_bipush hc dX9_choose_178 (by decide +kernel) ?_
        refine nn_icmp_eq hc dX9_choose_180 (tgt := 188) (by decide) (by omega) (by decide) (fun c3 => ?_) (fun c3 => ?_)
        · refine lv_iload hc.1 hc.2.1 dX9_choose_188 (lv_at hl 1 rfl) ?_
          refine nn_bipush hc dX9_choose_190 (by decide +kernel) ?_
          refine nn_icmp_eq hc dX9_choose_192 (tgt := 200) (by decide) (by omega) (by decide) (fun c4 => ?_) (fun c4 => ?_)
          · have hMw := rM w.toNat (by omega)
            have hcr := cutI_r (fun v => brk js (stg 3) (p + v) mJC.toNat) (mBr hps w.toNat - 1).toNat
            have hww : fstI (srv (mLn hps) nw x0) mHC.toNat = w := hw1.symm
            refine lv_iload hc.1 hc.2.1 dX9_choose_200 (lv_at hl 2 rfl) ?_
            refine nn_put hc hw hz hiX9 tyX9 tyX9_ok nmX9 rfl 16 (by decide) (Nat.le_of_ble_eq_true rfl) lk120 rfl rfl rfl dX9_choose_202 (fun S5 H locs hS5 fS5 hw => ?_)
            have hS5 : S5 z = oO 9 [.ref (z + 1), .int (iI mLen), .int (iI mAt), .ref (z + 2), .ref (z + 3), .ref (z + 4), .ref (z + 5), .int (iI mHC), .int (iI mRC), .ref (z + 6), .ref (z + 7), .ref (z + 8), .int (iI mHS), .ref (z + 9), .ref (z + 10), .int (iI mJC), .int (iI w), .int (iI mVi)] := hS5
            refine lv_aload_n hc.1 hc.2.1 dX9_choose_205 rfl (lv_at hl 4 rfl) ?_
            refine nn_get hc hw hS5 hiX9 rfl 16 (by decide) rfl lk120 dX9_choose_206 ?_
            refine nn_bipush hc dX9_choose_209 (by decide +kernel) ?_
            refine nn_icmp_ne hc dX9_choose_211 (tgt := 216) (by decide) (by omega) (by decide) (fun c6 => ?_) (fun c6 => ?_)
            · refine lv_aload_n hc.1 hc.2.1 dX9_choose_216 rfl (lv_at hl 4 rfl) ?_
              refine lv_iload hc.1 hc.2.1 dX9_choose_217 (lv_at hl 0 rfl) ?_
              refine nn_bipush hc dX9_choose_219 (by decide +kernel) ?_
              refine nn_icmp_eq hc dX9_choose_221 (tgt := 230) (by decide) (by omega) (by decide) (fun c7 => ?_) (fun c7 => ?_)
              · refine lv_aload_n hc.1 hc.2.1 dX9_choose_230 rfl (lv_at hl 4 rfl) ?_
                refine lv_aload_n hc.1 hc.2.1 dX9_choose_231 rfl (lv_at hl 4 rfl) ?_
                refine nn_get hc hw hS5 hiX9 rfl 16 (by decide) rfl lk120 dX9_choose_232 ?_
                have e8 : S5 (z + 4) = oI g 24 hps := (fS5 (z + 4) (off_nr (x := z) (a := 4) (by decide))).trans hhp
                refine nn_Vp (As := [.int (iI w)]) (st := [.ref z]) hc hw hS5 rfl (c_X9_breadth l g  hS5 e8 (by omega)) (cwV 1 hc.2.2.2.2 gX9_choose_X9_breadth rfl rfl rfl (by decide +kernel) ⟨Nat.le_of_ble_eq_true rfl, Nat.le_of_ble_eq_true rfl⟩) rfl hl.1 rfl (Nat.le_of_ble_eq_true rfl) ⟨Nat.le_of_ble_eq_true rfl, Nat.le_of_ble_eq_true rfl⟩ dX9_choose_235 ?_
                refine W.eq (g2 := F0 m 238 ls [.int (iI (mBr hps w.toNat)), .ref z]) rfl ?_
                refine nn_put hc hw hS5 hiX9 tyX9 tyX9_ok nmX9 rfl 17 (by decide) (Nat.le_of_ble_eq_true rfl) lk123 rfl rfl rfl dX9_choose_238 (fun S9 H locs hS9 fS9 hw => ?_)
                have hS9 : S9 z = oO 9 [.ref (z + 1), .int (iI mLen), .int (iI mAt), .ref (z + 2), .ref (z + 3), .ref (z + 4), .ref (z + 5), .int (iI mHC), .int (iI mRC), .ref (z + 6), .ref (z + 7), .ref (z + 8), .int (iI mHS), .ref (z + 9), .ref (z + 10), .int (iI mJC), .int (iI w), .int (iI (mBr hps w.toNat))] := hS9
                have lab241 : ∀ (fu241 : Nat) (b2 : Int) (vi : Int) (S10 : Nat → gE) (H : Heap) (locs : List Loc) (ls : Array Slot), (b2 = -4 ∧ 0 ≤ vi ∧ vi ≤ 60 ∧ (1 ≤ vi → cutI (fun v => brk js (stg 3) (p + v) mJC.toNat) (vi - 1).toNat = -4)) → S10 z = oO 9 [.ref (z + 1), .int (iI mLen), .int (iI mAt), .ref (z + 2), .ref (z + 3), .ref (z + 4), .ref (z + 5), .int (iI mHC), .int (iI mRC), .ref (z + 6), .ref (z + 7), .ref (z + 8), .int (iI mHS), .ref (z + 9), .ref (z + 10), .int (iI mJC), .int (iI w), .int (iI vi)] → (∀ bb, bb ≠ z → S10 bb = S9 bb) → g_W g n S10 s H locs → (vi + 1).toNat < fu241 → lv_has ls 10 [(5, .int (iI b2)), (0, .ref z), (1, .int (iI x0)), (2, .int (iI p)), (3, .int (iI R)), (4, .int (iI e))] → W pp l ee ({ frames := 1, cells := 0, slots := 0, locals := 24 } : Room) s m ([.ref z, .int (iI x0), .int (iI p), .int (iI R)] : List Value).toArray below meth cK H locs 0 0 Q (F0 m 241 ls []) := by
                  intro fu241
                  induction fu241 with
                  | zero =>
                    intro b2 vi S10 H locs ls hv hc241_0 fr241 hw hmeas hl
                    exact absurd hmeas (Nat.not_lt_zero _)
                  | succ fu241 ih241 =>
                    intro b2 vi S10 H locs ls hv hc241_0 fr241 hw hmeas hl
                    refine lv_iload hc.1 hc.2.1 dX9_choose_241 (lv_at hl 5 rfl) ?_
                    refine nn_bipush hc dX9_choose_243 (by decide +kernel) ?_
                    refine nn_icmp_ne hc dX9_choose_245 (tgt := 306) (by decide) (by omega) (by decide) (fun c11 => ?_) (fun c11 => ?_)
                    · exfalso; omega
                    · refine lv_iload hc.1 hc.2.1 dX9_choose_248 (lv_at hl 0 rfl) ?_
                      refine nn_bipush hc dX9_choose_250 (by decide +kernel) ?_
                      refine nn_icmp_ne hc dX9_choose_252 (tgt := 306) (by decide) (by omega) (by decide) (fun c12 => ?_) (fun c12 => ?_)
                      · exfalso; omega
                      · refine lv_aload_n hc.1 hc.2.1 dX9_choose_255 rfl (lv_at hl 1 rfl) ?_
                        refine nn_get hc hw hc241_0 hiX9 rfl 17 (by decide) rfl lk123 dX9_choose_256 ?_
                        refine nn_if_le hc dX9_choose_259 (tgt := 306) (by decide) (by omega) (fun c13 => ?_) (fun c13 => ?_)
                        · refine lv_aload_n hc.1 hc.2.1 dX9_choose_306 rfl (lv_at hl 1 rfl) ?_
                          refine nn_get hc hw hc241_0 hiX9 rfl 17 (by decide) rfl lk123 dX9_choose_307 ?_
                          refine nn_if_le hc dX9_choose_310 (tgt := 317) (by decide) (by omega) (fun c14 => ?_) (fun c14 => ?_)
                          · refine nn_iconst hc dX9_choose_317 ?_
                            exact hret (some (.int (iI 0))) _ S10 _ _ _ _ hw (⟨_, _, rfl, rfl, hc241_0, fun bb hb0 => (((fr241 bb hb0)).trans (fS9 bb hb0)).trans (fS5 bb hb0)⟩) ⟨_, rfl, by first | rfl | exact nn_nb _, dX9_choose_318⟩
                          · exfalso; omega
                        · refine lv_aload_n hc.1 hc.2.1 dX9_choose_262 rfl (lv_at hl 1 rfl) ?_
                          refine lv_dup hc.1 hc.2.1 dX9_choose_263 rfl ?_
                          refine nn_get hc hw hc241_0 hiX9 rfl 17 (by decide) rfl lk123 dX9_choose_264 ?_
                          refine nn_iconst hc dX9_choose_267 ?_
                          refine nn_isub hc dX9_choose_268 ?_
                          refine nn_put hc hw hc241_0 hiX9 tyX9 tyX9_ok nmX9 rfl 17 (by decide) (Nat.le_of_ble_eq_true rfl) lk123 rfl rfl rfl dX9_choose_269 (fun S15 H locs hS15 fS15 hw => ?_)
                          have hS15 : S15 z = oO 9 [.ref (z + 1), .int (iI mLen), .int (iI mAt), .ref (z + 2), .ref (z + 3), .ref (z + 4), .ref (z + 5), .int (iI mHC), .int (iI mRC), .ref (z + 6), .ref (z + 7), .ref (z + 8), .int (iI mHS), .ref (z + 9), .ref (z + 10), .int (iI mJC), .int (iI w), .int (iI (vi - 1))] := hS15
                          refine lv_aload_n hc.1 hc.2.1 dX9_choose_272 rfl (lv_at hl 1 rfl) ?_
                          refine nn_get hc hw hS15 hiX9 rfl 17 (by decide) rfl lk123 dX9_choose_273 ?_
                          refine nn_if_le hc dX9_choose_276 (tgt := 299) (by decide) (by omega) (fun c16 => ?_) (fun c16 => ?_)
                          · refine nn_bipush hc dX9_choose_299 (by decide +kernel) ?_
                            refine lv_istore (lv' := [(5, .int (iI (-4))), (0, .ref z), (1, .int (iI x0)), (2, .int (iI p)), (3, .int (iI R)), (4, .int (iI e))]) hc.1 hc.2.1 dX9_choose_301 hl (by decide) rfl (fun ls hl => ?_)
                            refine lv_goto hc.1 hc.2.1 dX9_choose_303 (tgt := 241) (by decide) ?_
                            exact ih241 (-4) (vi - 1) S15 _ _ _ (by first | exact ⟨rfl, by omega, by omega, fun _ => by rw [← hmi]; exact hv.2.2.2 (by omega)⟩ | exact ⟨rfl, by omega, by omega, fun _ => absurd hv.2.2.2 (by omega)⟩) hS15 (fun bb hb0 => ((fS15 bb hb0)).trans (fr241 bb hb0)) hw (by omega) (lv_sub hl [0, 1, 2, 3, 4, 5] rfl)
                          · refine lv_aload_n hc.1 hc.2.1 dX9_choose_279 rfl (lv_at hl 1 rfl) ?_
                            refine lv_iload_n hc.1 hc.2.1 dX9_choose_280 rfl (lv_at hl 3 rfl) ?_
                            refine lv_aload_n hc.1 hc.2.1 dX9_choose_281 rfl (lv_at hl 1 rfl) ?_
                            refine nn_get hc hw hS15 hiX9 rfl 17 (by decide) rfl lk123 dX9_choose_282 ?_
                            refine nn_iadd hc dX9_choose_285 ?_
                            have e17 : S5 (z + 2) = oI g 5 stg := (fS5 (z + 2) (off_nr (x := z) (a := 2) (by decide))).trans hst
                            have e18 : S9 (z + 2) = oI g 5 stg := (fS9 (z + 2) (off_nr (x := z) (a := 2) (by decide))).trans e17
                            have e19 : S10 (z + 2) = oI g 5 stg := (fr241 (z + 2) (off_nr (x := z) (a := 2) (by decide))).trans e18
                            have e20 : S15 (z + 2) = oI g 5 stg := (fS15 (z + 2) (off_nr (x := z) (a := 2) (by decide))).trans e19
                            have e21 : S5 (z + 10) = oI g 60 js := (fS5 (z + 10) (off_nr (x := z) (a := 10) (by decide))).trans hjs
                            have e22 : S9 (z + 10) = oI g 60 js := (fS9 (z + 10) (off_nr (x := z) (a := 10) (by decide))).trans e21
                            have e23 : S10 (z + 10) = oI g 60 js := (fr241 (z + 10) (off_nr (x := z) (a := 10) (by decide))).trans e22
                            have e24 : S15 (z + 10) = oI g 60 js := (fS15 (z + 10) (off_nr (x := z) (a := 10) (by decide))).trans e23
                            refine nn_Vp (As := [.int (iI (p + (vi - 1)))]) (st := []) hc hw hS15 rfl (c_X9_isBroken l g  hS15 e20 e24 (by omega) (by omega) (by omega) (rj)) (cwV 1 hc.2.2.2.2 gX9_choose_X9_isBroken rfl rfl rfl (by decide +kernel) ⟨Nat.le_of_ble_eq_true rfl, Nat.le_of_ble_eq_true rfl⟩) rfl hl.1 rfl (Nat.le_of_ble_eq_true rfl) ⟨Nat.le_of_ble_eq_true rfl, Nat.le_of_ble_eq_true rfl⟩ dX9_choose_286 ?_
                            refine W.eq (g2 := F0 m 289 ls [.int (iI (if brk js (stg 3) (p + (vi - 1)) mJC.toNat = true then 1 else 0))]) rfl ?_
                            refine nn_if_eq hc dX9_choose_289 (tgt := 299) (by decide) (by omega) (fun c25 => ?_) (fun c25 => ?_)
                            · have hbk : brk js (stg 3) (p + (vi - 1)) mJC.toNat = false := Bool.eq_false_iff.mpr (fun q9 => by have h8 := c25; rw [if_pos q9] at h8; exact absurd h8 (by decide))
                              have hmi : cutI (fun v => brk js (stg 3) (p + v) mJC.toNat) (vi - 1).toNat = cutI (fun v => brk js (stg 3) (p + v) mJC.toNat) (vi - 1 - 1).toNat := cutI_miss (by omega) (by rw [show ((vi - 1).toNat : Int) = vi - 1 by omega]; exact hbk)
                              refine nn_bipush hc dX9_choose_299 (by decide +kernel) ?_
                              refine lv_istore (lv' := [(5, .int (iI (-4))), (0, .ref z), (1, .int (iI x0)), (2, .int (iI p)), (3, .int (iI R)), (4, .int (iI e))]) hc.1 hc.2.1 dX9_choose_301 hl (by decide) rfl (fun ls hl => ?_)
                              refine lv_goto hc.1 hc.2.1 dX9_choose_303 (tgt := 241) (by decide) ?_
                              exact ih241 (-4) (vi - 1) S15 _ _ _ (by first | exact ⟨rfl, by omega, by omega, fun _ => by rw [← hmi]; exact hv.2.2.2 (by omega)⟩ | exact ⟨rfl, by omega, by omega, fun _ => absurd hv.2.2.2 (by omega)⟩) hS15 (fun bb hb0 => ((fS15 bb hb0)).trans (fr241 bb hb0)) hw (by omega) (lv_sub hl [0, 1, 2, 3, 4, 5] rfl)
                            · exfalso; have hbk : brk js (stg 3) (p + (vi - 1)) mJC.toNat = true := Classical.byContradiction (fun q9 => c25 (if_neg q9)); have hmi : cutI (fun v => brk js (stg 3) (p + v) mJC.toNat) (vi - 1).toNat = vi - 1 := cutI_hit (by omega) (by rw [show ((vi - 1).toNat : Int) = vi - 1 by omega]; exact hbk); have hv4 := hv.2.2.2 (by omega); omega
                exact lab241 _ b (mBr hps w.toNat) S9 _ _ _ (by have hbe : b = -4 := (by omega); exact ⟨hbe, by omega, by omega, fun _ => by rw [hww] at hC; exact hC⟩) hS9 (fun bb _ => rfl) hw (Nat.lt_succ_self _) (lv_sub hl [1, 4, 5, 6, 7, 0] rfl)
              · exfalso; omega
            · exfalso; omega
          · exfalso; omega
        · exfalso; omega
      · have hM1 := rM h.toNat (by omega)
        have hW1 := rW h.toNat (by omega)
        have hre := lstI_r (pE (mLn hps) (mBr hps) nw x0 R p) h.toNat
        have hrb := fstI_r (pBn (mLn hps) (mBr hps) nw x0 R js (stg 3) mJC.toNat p) h.toNat
        have hrw := fstI_r (srv (mLn hps) nw x0) h.toNat
        refine lv_aload_n hc.1 hc.2.1 dX9_choose_24 rfl (lv_at hl 4 rfl) ?_
        refine lv_iload hc.1 hc.2.1 dX9_choose_25 (lv_at hl 3 rfl) ?_
        refine nn_Vp (As := [.int (iI h)]) (st := []) hc hw hz rfl (c_X9_heapLength l g  hz hhp (by omega)) (cwV 1 hc.2.2.2.2 gX9_choose_X9_heapLength rfl rfl rfl (by decide +kernel) ⟨Nat.le_of_ble_eq_true rfl, Nat.le_of_ble_eq_true rfl⟩) rfl hl.1 rfl (Nat.le_of_ble_eq_true rfl) ⟨Nat.le_of_ble_eq_true rfl, Nat.le_of_ble_eq_true rfl⟩ dX9_choose_27 ?_
        refine W.eq (g2 := F0 m 30 ls [.int (iI (mLn hps h.toNat))]) rfl ?_
        refine lv_iload_n hc.1 hc.2.1 dX9_choose_30 rfl (lv_at hl 5 rfl) ?_
        refine nn_icmp_ne hc dX9_choose_31 (tgt := 169) (by decide) (by omega) (by omega) (fun c26 => ?_) (fun c26 => ?_)
        · refine nn_iinc (lv' := [(7, .int (iI (h + 1))), (4, .int (iI e)), (5, .int (iI b)), (6, .int (iI w)), (0, .ref z), (1, .int (iI x0)), (2, .int (iI p)), (3, .int (iI R))]) hc dX9_choose_169 hl (k0 := 3) rfl (by decide) rfl (fun ls hl => ?_)
          refine lv_goto hc.1 hc.2.1 dX9_choose_172 (tgt := 15) (by decide) ?_
          exact ih15 e b w (h + 1) _ _ _ (by omega) (by first | exact lst_take (by omega) (pE_iff.mpr (by omega)) | exact he.trans (lst_keep (by omega) (b_no pE_iff (by omega)))) (by first | exact fst_take (by omega) (by omega) (pBn_iff.mpr ⟨by omega, hbk⟩) | exact hb.trans (fst_keep (by omega) (Or.inr (by omega))) | exact hb.trans (fst_keep (by omega) (Or.inl (b_no pBn_iff (fun q9 => by have h8 := q9.2; rw [hbk] at h8; cases h8)))) | exact hb.trans (fst_keep (by omega) (Or.inl (b_no pBn_iff (fun q9 => by have h8 := q9.1; omega))))) (by first | exact fst_take (by omega) (by omega) (srv_iff.mpr (by omega)) | exact hw1.trans (fst_keep (by omega) (Or.inr (by omega))) | exact hw1.trans (fst_keep (by omega) (Or.inl (b_no srv_iff (by omega))))) hw (by omega) (lv_sub hl [1, 2, 3, 0, 4, 5, 6, 7] rfl)
        · refine lv_aload_n hc.1 hc.2.1 dX9_choose_34 rfl (lv_at hl 4 rfl) ?_
          refine nn_get hc hw hz hiX9 rfl 9 (by decide) rfl lk25 dX9_choose_35 ?_
          refine lv_iload hc.1 hc.2.1 dX9_choose_38 (lv_at hl 3 rfl) ?_
          refine nn_iald hc hw hnw (by omega) (by omega) dX9_choose_40 ?_
          refine nn_if_le hc dX9_choose_41 (tgt := 169) (by decide) (by omega) (fun c27 => ?_) (fun c27 => ?_)
          · refine nn_iinc (lv' := [(7, .int (iI (h + 1))), (4, .int (iI e)), (5, .int (iI b)), (6, .int (iI w)), (0, .ref z), (1, .int (iI x0)), (2, .int (iI p)), (3, .int (iI R))]) hc dX9_choose_169 hl (k0 := 3) rfl (by decide) rfl (fun ls hl => ?_)
            refine lv_goto hc.1 hc.2.1 dX9_choose_172 (tgt := 15) (by decide) ?_
            exact ih15 e b w (h + 1) _ _ _ (by omega) (by first | exact lst_take (by omega) (pE_iff.mpr (by omega)) | exact he.trans (lst_keep (by omega) (b_no pE_iff (by omega)))) (by first | exact fst_take (by omega) (by omega) (pBn_iff.mpr ⟨by omega, hbk⟩) | exact hb.trans (fst_keep (by omega) (Or.inr (by omega))) | exact hb.trans (fst_keep (by omega) (Or.inl (b_no pBn_iff (fun q9 => by have h8 := q9.2; rw [hbk] at h8; cases h8)))) | exact hb.trans (fst_keep (by omega) (Or.inl (b_no pBn_iff (fun q9 => by have h8 := q9.1; omega))))) (by first | exact fst_take (by omega) (by omega) (srv_iff.mpr (by omega)) | exact hw1.trans (fst_keep (by omega) (Or.inr (by omega))) | exact hw1.trans (fst_keep (by omega) (Or.inl (b_no srv_iff (by omega))))) hw (by omega) (lv_sub hl [1, 2, 3, 0, 4, 5, 6, 7] rfl)
          · refine lv_aload_n hc.1 hc.2.1 dX9_choose_44 rfl (lv_at hl 4 rfl) ?_
            refine lv_iload hc.1 hc.2.1 dX9_choose_45 (lv_at hl 3 rfl) ?_
            refine nn_Vp (As := [.int (iI h)]) (st := []) hc hw hz rfl (c_X9_breadth l g  hz hhp (by omega)) (cwV 1 hc.2.2.2.2 gX9_choose_X9_breadth rfl rfl rfl (by decide +kernel) ⟨Nat.le_of_ble_eq_true rfl, Nat.le_of_ble_eq_true rfl⟩) rfl hl.1 rfl (Nat.le_of_ble_eq_true rfl) ⟨Nat.le_of_ble_eq_true rfl, Nat.le_of_ble_eq_true rfl⟩ dX9_choose_47 ?_
            refine W.eq (g2 := F0 m 50 ls [.int (iI (mBr hps h.toNat))]) rfl ?_
            refine lv_istore (lv' := [(8, .int (iI (mBr hps h.toNat))), (4, .int (iI e)), (5, .int (iI b)), (6, .int (iI w)), (7, .int (iI h)), (0, .ref z), (1, .int (iI x0)), (2, .int (iI p)), (3, .int (iI R))]) hc.1 hc.2.1 dX9_choose_50 hl (by decide) rfl (fun ls hl => ?_)
            refine lv_iload_n hc.1 hc.2.1 dX9_choose_52 rfl (lv_at hl 7 rfl) ?_
            refine lv_iload hc.1 hc.2.1 dX9_choose_53 (lv_at hl 0 rfl) ?_
            refine nn_iadd hc dX9_choose_55 ?_
            refine lv_iload_n hc.1 hc.2.1 dX9_choose_56 rfl (lv_at hl 8 rfl) ?_
            refine nn_icmp_lt hc dX9_choose_57 (tgt := 64) (by decide) (by omega) (by omega) (fun c28 => ?_) (fun c28 => ?_)
            · refine nn_iconst hc dX9_choose_64 ?_
              refine lv_istore (lv' := [(9, .int (iI 0)), (8, .int (iI (mBr hps h.toNat))), (4, .int (iI e)), (5, .int (iI b)), (6, .int (iI w)), (7, .int (iI h)), (0, .ref z), (1, .int (iI x0)), (2, .int (iI p)), (3, .int (iI R))]) hc.1 hc.2.1 dX9_choose_65 hl (by decide) rfl (fun ls hl => ?_)
              refine lv_iload hc.1 hc.2.1 dX9_choose_67 (lv_at hl 0 rfl) ?_
              refine nn_if_eq hc dX9_choose_69 (tgt := 95) (by decide) (by decide) (fun c29 => ?_) (fun c29 => ?_)
              · refine lv_iload hc.1 hc.2.1 dX9_choose_95 (lv_at hl 2 rfl) ?_
                refine lv_istore (lv' := [(4, .int (iI e)), (9, .int (iI 0)), (8, .int (iI (mBr hps h.toNat))), (5, .int (iI b)), (6, .int (iI w)), (7, .int (iI h)), (0, .ref z), (1, .int (iI x0)), (2, .int (iI p)), (3, .int (iI R))]) hc.1 hc.2.1 dX9_choose_97 hl (by decide) rfl (fun ls hl => ?_)
                refine lv_iload hc.1 hc.2.1 dX9_choose_99 (lv_at hl 1 rfl) ?_
                refine nn_if_ne hc dX9_choose_101 (tgt := 138) (by decide) (by decide) (fun c30 => ?_) (fun c30 => ?_)
                · exact absurd c30 (by decide)
                · refine lv_aload_n hc.1 hc.2.1 dX9_choose_104 rfl (lv_at hl 6 rfl) ?_
                  refine lv_iload_n hc.1 hc.2.1 dX9_choose_105 rfl (lv_at hl 8 rfl) ?_
                  refine lv_iload hc.1 hc.2.1 dX9_choose_106 (lv_at hl 2 rfl) ?_
                  refine nn_iadd hc dX9_choose_108 ?_
                  refine nn_Vp (As := [.int (iI (p + (mBr hps h.toNat)))]) (st := []) hc hw hz rfl (c_X9_isBroken l g  hz hst hjs (by omega) (by omega) (by omega) (rj)) (cwV 1 hc.2.2.2.2 gX9_choose_X9_isBroken rfl rfl rfl (by decide +kernel) ⟨Nat.le_of_ble_eq_true rfl, Nat.le_of_ble_eq_true rfl⟩) rfl hl.1 rfl (Nat.le_of_ble_eq_true rfl) ⟨Nat.le_of_ble_eq_true rfl, Nat.le_of_ble_eq_true rfl⟩ dX9_choose_109 ?_
                  refine W.eq (g2 := F0 m 112 ls [.int (iI (if brk js (stg 3) (p + (mBr hps h.toNat)) mJC.toNat = true then 1 else 0))]) rfl ?_
                  refine nn_if_eq hc dX9_choose_112 (tgt := 138) (by decide) (by omega) (fun c31 => ?_) (fun c31 => ?_)
                  · have hbk : brk js (stg 3) (p + mBr hps h.toNat) mJC.toNat = false := Bool.eq_false_iff.mpr (fun q9 => by have h8 := c31; rw [if_pos q9] at h8; exact absurd h8 (by decide))
                    refine lv_iload hc.1 hc.2.1 dX9_choose_138 (lv_at hl 3 rfl) ?_
                    refine lv_istore (lv' := [(5, .int (iI b)), (4, .int (iI e)), (9, .int (iI 0)), (8, .int (iI (mBr hps h.toNat))), (6, .int (iI w)), (7, .int (iI h)), (0, .ref z), (1, .int (iI x0)), (2, .int (iI p)), (3, .int (iI R))]) hc.1 hc.2.1 dX9_choose_140 hl (by decide) rfl (fun ls hl => ?_)
                    refine lv_iload hc.1 hc.2.1 dX9_choose_142 (lv_at hl 4 rfl) ?_
                    refine nn_bipush hc dX9_choose_144 (by decide +kernel) ?_
                    refine nn_icmp_eq hc dX9_choose_146 (tgt := 160) (by decide) (by omega) (by decide) (fun c32 => ?_) (fun c32 => ?_)
                    · refine lv_iload hc.1 hc.2.1 dX9_choose_160 (lv_at hl 5 rfl) ?_
                      refine lv_goto hc.1 hc.2.1 dX9_choose_162 (tgt := 167) (by decide) ?_
                      refine lv_istore (lv' := [(6, .int (iI h)), (5, .int (iI b)), (4, .int (iI e)), (9, .int (iI 0)), (8, .int (iI (mBr hps h.toNat))), (7, .int (iI h)), (0, .ref z), (1, .int (iI x0)), (2, .int (iI p)), (3, .int (iI R))]) hc.1 hc.2.1 dX9_choose_167 hl (by decide) rfl (fun ls hl => ?_)
                      refine nn_iinc (lv' := [(7, .int (iI (h + 1))), (6, .int (iI h)), (5, .int (iI b)), (4, .int (iI e)), (9, .int (iI 0)), (8, .int (iI (mBr hps h.toNat))), (0, .ref z), (1, .int (iI x0)), (2, .int (iI p)), (3, .int (iI R))]) hc dX9_choose_169 hl (k0 := 5) rfl (by decide) rfl (fun ls hl => ?_)
                      refine lv_goto hc.1 hc.2.1 dX9_choose_172 (tgt := 15) (by decide) ?_
                      exact ih15 e b h (h + 1) _ _ _ (by omega) (by first | exact lst_take (by omega) (pE_iff.mpr (by omega)) | exact he.trans (lst_keep (by omega) (b_no pE_iff (by omega)))) (by first | exact fst_take (by omega) (by omega) (pBn_iff.mpr ⟨by omega, hbk⟩) | exact hb.trans (fst_keep (by omega) (Or.inr (by omega))) | exact hb.trans (fst_keep (by omega) (Or.inl (b_no pBn_iff (fun q9 => by have h8 := q9.2; rw [hbk] at h8; cases h8)))) | exact hb.trans (fst_keep (by omega) (Or.inl (b_no pBn_iff (fun q9 => by have h8 := q9.1; omega))))) (by first | exact fst_take (by omega) (by omega) (srv_iff.mpr (by omega)) | exact hw1.trans (fst_keep (by omega) (Or.inr (by omega))) | exact hw1.trans (fst_keep (by omega) (Or.inl (b_no srv_iff (by omega))))) hw (by omega) (lv_sub hl [3, 2, 1, 0, 6, 7, 8, 9] rfl)
                    · have hq1 := srv_iff.mp (fstI_q (q := srv (mLn hps) nw x0) (n := h.toNat) (by omega))
                      rw [← hw1] at hq1
                      have hr1 : mBr hps h.toNat < mBr hps w.toNat := by have h9 := hsrt w.toNat h.toNat (by omega) (by omega); omega
                      have hMe := rM w.toNat (by omega)
                      refine lv_iload hc.1 hc.2.1 dX9_choose_149 (lv_at hl 3 rfl) ?_
                      refine lv_aload_n hc.1 hc.2.1 dX9_choose_151 rfl (lv_at hl 6 rfl) ?_
                      refine lv_iload hc.1 hc.2.1 dX9_choose_152 (lv_at hl 4 rfl) ?_
                      refine nn_Vp (As := [.int (iI w)]) (st := [.int (iI (mBr hps h.toNat))]) hc hw hz rfl (c_X9_breadth l g  hz hhp (by omega)) (cwV 1 hc.2.2.2.2 gX9_choose_X9_breadth rfl rfl rfl (by decide +kernel) ⟨Nat.le_of_ble_eq_true rfl, Nat.le_of_ble_eq_true rfl⟩) rfl hl.1 rfl (Nat.le_of_ble_eq_true rfl) ⟨Nat.le_of_ble_eq_true rfl, Nat.le_of_ble_eq_true rfl⟩ dX9_choose_154 ?_
                      refine W.eq (g2 := F0 m 157 ls [.int (iI (mBr hps w.toNat)), .int (iI (mBr hps h.toNat))]) rfl ?_
                      refine nn_icmp_le hc dX9_choose_157 (tgt := 165) (by decide) (by omega) (by omega) (fun c33 => ?_) (fun c33 => ?_)
                      · refine lv_iload hc.1 hc.2.1 dX9_choose_165 (lv_at hl 4 rfl) ?_
                        refine lv_istore (lv' := [(6, .int (iI w)), (5, .int (iI b)), (4, .int (iI e)), (9, .int (iI 0)), (8, .int (iI (mBr hps h.toNat))), (7, .int (iI h)), (0, .ref z), (1, .int (iI x0)), (2, .int (iI p)), (3, .int (iI R))]) hc.1 hc.2.1 dX9_choose_167 hl (by decide) rfl (fun ls hl => ?_)
                        refine nn_iinc (lv' := [(7, .int (iI (h + 1))), (6, .int (iI w)), (5, .int (iI b)), (4, .int (iI e)), (9, .int (iI 0)), (8, .int (iI (mBr hps h.toNat))), (0, .ref z), (1, .int (iI x0)), (2, .int (iI p)), (3, .int (iI R))]) hc dX9_choose_169 hl (k0 := 5) rfl (by decide) rfl (fun ls hl => ?_)
                        refine lv_goto hc.1 hc.2.1 dX9_choose_172 (tgt := 15) (by decide) ?_
                        exact ih15 e b w (h + 1) _ _ _ (by omega) (by first | exact lst_take (by omega) (pE_iff.mpr (by omega)) | exact he.trans (lst_keep (by omega) (b_no pE_iff (by omega)))) (by first | exact fst_take (by omega) (by omega) (pBn_iff.mpr ⟨by omega, hbk⟩) | exact hb.trans (fst_keep (by omega) (Or.inr (by omega))) | exact hb.trans (fst_keep (by omega) (Or.inl (b_no pBn_iff (fun q9 => by have h8 := q9.2; rw [hbk] at h8; cases h8)))) | exact hb.trans (fst_keep (by omega) (Or.inl (b_no pBn_iff (fun q9 => by have h8 := q9.1; omega))))) (by first | exact fst_take (by omega) (by omega) (srv_iff.mpr (by omega)) | exact hw1.trans (fst_keep (by omega) (Or.inr (by omega))) | exact hw1.trans (fst_keep (by omega) (Or.inl (b_no srv_iff (by omega))))) hw (by omega) (lv_sub hl [3, 2, 1, 0, 6, 7, 8, 9] rfl)
                      · exfalso; omega
                  · have hbk : brk js (stg 3) (p + mBr hps h.toNat) mJC.toNat = true := Classical.byContradiction (fun q9 => c31 (if_neg q9))
                    refine lv_iload hc.1 hc.2.1 dX9_choose_115 (lv_at hl 3 rfl) ?_
                    refine nn_bipush hc dX9_choose_117 (by decide +kernel) ?_
                    refine nn_icmp_eq hc dX9_choose_119 (tgt := 133) (by decide) (by omega) (by decide) (fun c34 => ?_) (fun c34 => ?_)
                    · refine lv_iload hc.1 hc.2.1 dX9_choose_133 (lv_at hl 5 rfl) ?_
                      refine lv_goto hc.1 hc.2.1 dX9_choose_135 (tgt := 140) (by decide) ?_
                      refine lv_istore (lv' := [(5, .int (iI h)), (4, .int (iI e)), (9, .int (iI 0)), (8, .int (iI (mBr hps h.toNat))), (6, .int (iI w)), (7, .int (iI h)), (0, .ref z), (1, .int (iI x0)), (2, .int (iI p)), (3, .int (iI R))]) hc.1 hc.2.1 dX9_choose_140 hl (by decide) rfl (fun ls hl => ?_)
                      refine lv_iload hc.1 hc.2.1 dX9_choose_142 (lv_at hl 4 rfl) ?_
                      refine nn_bipush hc dX9_choose_144 (by decide +kernel) ?_
                      refine nn_icmp_eq hc dX9_choose_146 (tgt := 160) (by decide) (by omega) (by decide) (fun c35 => ?_) (fun c35 => ?_)
                      · refine lv_iload hc.1 hc.2.1 dX9_choose_160 (lv_at hl 5 rfl) ?_
                        refine lv_goto hc.1 hc.2.1 dX9_choose_162 (tgt := 167) (by decide) ?_
                        refine lv_istore (lv' := [(6, .int (iI h)), (5, .int (iI h)), (4, .int (iI e)), (9, .int (iI 0)), (8, .int (iI (mBr hps h.toNat))), (7, .int (iI h)), (0, .ref z), (1, .int (iI x0)), (2, .int (iI p)), (3, .int (iI R))]) hc.1 hc.2.1 dX9_choose_167 hl (by decide) rfl (fun ls hl => ?_)
                        refine nn_iinc (lv' := [(7, .int (iI (h + 1))), (6, .int (iI h)), (5, .int (iI h)), (4, .int (iI e)), (9, .int (iI 0)), (8, .int (iI (mBr hps h.toNat))), (0, .ref z), (1, .int (iI x0)), (2, .int (iI p)), (3, .int (iI R))]) hc dX9_choose_169 hl (k0 := 5) rfl (by decide) rfl (fun ls hl => ?_)
                        refine lv_goto hc.1 hc.2.1 dX9_choose_172 (tgt := 15) (by decide) ?_
                        exact ih15 e h h (h + 1) _ _ _ (by omega) (by first | exact lst_take (by omega) (pE_iff.mpr (by omega)) | exact he.trans (lst_keep (by omega) (b_no pE_iff (by omega)))) (by first | exact fst_take (by omega) (by omega) (pBn_iff.mpr ⟨by omega, hbk⟩) | exact hb.trans (fst_keep (by omega) (Or.inr (by omega))) | exact hb.trans (fst_keep (by omega) (Or.inl (b_no pBn_iff (fun q9 => by have h8 := q9.2; rw [hbk] at h8; cases h8)))) | exact hb.trans (fst_keep (by omega) (Or.inl (b_no pBn_iff (fun q9 => by have h8 := q9.1; omega))))) (by first | exact fst_take (by omega) (by omega) (srv_iff.mpr (by omega)) | exact hw1.trans (fst_keep (by omega) (Or.inr (by omega))) | exact hw1.trans (fst_keep (by omega) (Or.inl (b_no srv_iff (by omega))))) hw (by omega) (lv_sub hl [3, 2, 1, 0, 6, 7, 8, 9] rfl)
                      · have hq1 := srv_iff.mp (fstI_q (q := srv (mLn hps) nw x0) (n := h.toNat) (by omega))
                        rw [← hw1] at hq1
                        have hr1 : mBr hps h.toNat < mBr hps w.toNat := by have h9 := hsrt w.toNat h.toNat (by omega) (by omega); omega
                        have hMe := rM w.toNat (by omega)
                        refine lv_iload hc.1 hc.2.1 dX9_choose_149 (lv_at hl 3 rfl) ?_
                        refine lv_aload_n hc.1 hc.2.1 dX9_choose_151 rfl (lv_at hl 6 rfl) ?_
                        refine lv_iload hc.1 hc.2.1 dX9_choose_152 (lv_at hl 4 rfl) ?_
                        refine nn_Vp (As := [.int (iI w)]) (st := [.int (iI (mBr hps h.toNat))]) hc hw hz rfl (c_X9_breadth l g  hz hhp (by omega)) (cwV 1 hc.2.2.2.2 gX9_choose_X9_breadth rfl rfl rfl (by decide +kernel) ⟨Nat.le_of_ble_eq_true rfl, Nat.le_of_ble_eq_true rfl⟩) rfl hl.1 rfl (Nat.le_of_ble_eq_true rfl) ⟨Nat.le_of_ble_eq_true rfl, Nat.le_of_ble_eq_true rfl⟩ dX9_choose_154 ?_
                        refine W.eq (g2 := F0 m 157 ls [.int (iI (mBr hps w.toNat)), .int (iI (mBr hps h.toNat))]) rfl ?_
                        refine nn_icmp_le hc dX9_choose_157 (tgt := 165) (by decide) (by omega) (by omega) (fun c36 => ?_) (fun c36 => ?_)
                        · refine lv_iload hc.1 hc.2.1 dX9_choose_165 (lv_at hl 4 rfl) ?_
                          refine lv_istore (lv' := [(6, .int (iI w)), (5, .int (iI h)), (4, .int (iI e)), (9, .int (iI 0)), (8, .int (iI (mBr hps h.toNat))), (7, .int (iI h)), (0, .ref z), (1, .int (iI x0)), (2, .int (iI p)), (3, .int (iI R))]) hc.1 hc.2.1 dX9_choose_167 hl (by decide) rfl (fun ls hl => ?_)
                          refine nn_iinc (lv' := [(7, .int (iI (h + 1))), (6, .int (iI w)), (5, .int (iI h)), (4, .int (iI e)), (9, .int (iI 0)), (8, .int (iI (mBr hps h.toNat))), (0, .ref z), (1, .int (iI x0)), (2, .int (iI p)), (3, .int (iI R))]) hc dX9_choose_169 hl (k0 := 5) rfl (by decide) rfl (fun ls hl => ?_)
                          refine lv_goto hc.1 hc.2.1 dX9_choose_172 (tgt := 15) (by decide) ?_
                          exact ih15 e h w (h + 1) _ _ _ (by omega) (by first | exact lst_take (by omega) (pE_iff.mpr (by omega)) | exact he.trans (lst_keep (by omega) (b_no pE_iff (by omega)))) (by first | exact fst_take (by omega) (by omega) (pBn_iff.mpr ⟨by omega, hbk⟩) | exact hb.trans (fst_keep (by omega) (Or.inr (by omega))) | exact hb.trans (fst_keep (by omega) (Or.inl (b_no pBn_iff (fun q9 => by have h8 := q9.2; rw [hbk] at h8; cases h8)))) | exact hb.trans (fst_keep (by omega) (Or.inl (b_no pBn_iff (fun q9 => by have h8 := q9.1; omega))))) (by first | exact fst_take (by omega) (by omega) (srv_iff.mpr (by omega)) | exact hw1.trans (fst_keep (by omega) (Or.inr (by omega))) | exact hw1.trans (fst_keep (by omega) (Or.inl (b_no srv_iff (by omega))))) hw (by omega) (lv_sub hl [3, 2, 1, 0, 6, 7, 8, 9] rfl)
                        · exfalso; omega
                    · have hq1 := (pBn_iff.mp (fstI_q (q := pBn (mLn hps) (mBr hps) nw x0 R js (stg 3) mJC.toNat p) (n := h.toNat) (by omega))).1
                      rw [← hb] at hq1
                      have hr1 : mBr hps h.toNat < mBr hps b.toNat := by have h9 := hsrt b.toNat h.toNat (by omega) (by omega); omega
                      have hMe := rM b.toNat (by omega)
                      refine lv_iload hc.1 hc.2.1 dX9_choose_122 (lv_at hl 2 rfl) ?_
                      refine lv_aload_n hc.1 hc.2.1 dX9_choose_124 rfl (lv_at hl 6 rfl) ?_
                      refine lv_iload hc.1 hc.2.1 dX9_choose_125 (lv_at hl 3 rfl) ?_
                      refine nn_Vp (As := [.int (iI b)]) (st := [.int (iI (mBr hps h.toNat))]) hc hw hz rfl (c_X9_breadth l g  hz hhp (by omega)) (cwV 1 hc.2.2.2.2 gX9_choose_X9_breadth rfl rfl rfl (by decide +kernel) ⟨Nat.le_of_ble_eq_true rfl, Nat.le_of_ble_eq_true rfl⟩) rfl hl.1 rfl (Nat.le_of_ble_eq_true rfl) ⟨Nat.le_of_ble_eq_true rfl, Nat.le_of_ble_eq_true rfl⟩ dX9_choose_127 ?_
                      refine W.eq (g2 := F0 m 130 ls [.int (iI (mBr hps b.toNat)), .int (iI (mBr hps h.toNat))]) rfl ?_
                      refine nn_icmp_le hc dX9_choose_130 (tgt := 138) (by decide) (by omega) (by omega) (fun c37 => ?_) (fun c37 => ?_)
                      · refine lv_iload hc.1 hc.2.1 dX9_choose_138 (lv_at hl 3 rfl) ?_
                        refine lv_istore (lv' := [(5, .int (iI b)), (4, .int (iI e)), (9, .int (iI 0)), (8, .int (iI (mBr hps h.toNat))), (6, .int (iI w)), (7, .int (iI h)), (0, .ref z), (1, .int (iI x0)), (2, .int (iI p)), (3, .int (iI R))]) hc.1 hc.2.1 dX9_choose_140 hl (by decide) rfl (fun ls hl => ?_)
                        refine lv_iload hc.1 hc.2.1 dX9_choose_142 (lv_at hl 4 rfl) ?_
                        refine nn_bipush hc dX9_choose_144 (by decide +kernel) ?_
                        refine nn_icmp_eq hc dX9_choose_146 (tgt := 160) (by decide) (by omega) (by decide) (fun c38 => ?_) (fun c38 => ?_)
                        · refine lv_iload hc.1 hc.2.1 dX9_choose_160 (lv_at hl 5 rfl) ?_
                          refine lv_goto hc.1 hc.2.1 dX9_choose_162 (tgt := 167) (by decide) ?_
                          refine lv_istore (lv' := [(6, .int (iI h)), (5, .int (iI b)), (4, .int (iI e)), (9, .int (iI 0)), (8, .int (iI (mBr hps h.toNat))), (7, .int (iI h)), (0, .ref z), (1, .int (iI x0)), (2, .int (iI p)), (3, .int (iI R))]) hc.1 hc.2.1 dX9_choose_167 hl (by decide) rfl (fun ls hl => ?_)
                          refine nn_iinc (lv' := [(7, .int (iI (h + 1))), (6, .int (iI h)), (5, .int (iI b)), (4, .int (iI e)), (9, .int (iI 0)), (8, .int (iI (mBr hps h.toNat))), (0, .ref z), (1, .int (iI x0)), (2, .int (iI p)), (3, .int (iI R))]) hc dX9_choose_169 hl (k0 := 5) rfl (by decide) rfl (fun ls hl => ?_)
                          refine lv_goto hc.1 hc.2.1 dX9_choose_172 (tgt := 15) (by decide) ?_
                          exact ih15 e b h (h + 1) _ _ _ (by omega) (by first | exact lst_take (by omega) (pE_iff.mpr (by omega)) | exact he.trans (lst_keep (by omega) (b_no pE_iff (by omega)))) (by first | exact fst_take (by omega) (by omega) (pBn_iff.mpr ⟨by omega, hbk⟩) | exact hb.trans (fst_keep (by omega) (Or.inr (by omega))) | exact hb.trans (fst_keep (by omega) (Or.inl (b_no pBn_iff (fun q9 => by have h8 := q9.2; rw [hbk] at h8; cases h8)))) | exact hb.trans (fst_keep (by omega) (Or.inl (b_no pBn_iff (fun q9 => by have h8 := q9.1; omega))))) (by first | exact fst_take (by omega) (by omega) (srv_iff.mpr (by omega)) | exact hw1.trans (fst_keep (by omega) (Or.inr (by omega))) | exact hw1.trans (fst_keep (by omega) (Or.inl (b_no srv_iff (by omega))))) hw (by omega) (lv_sub hl [3, 2, 1, 0, 6, 7, 8, 9] rfl)
                        · have hq1 := srv_iff.mp (fstI_q (q := srv (mLn hps) nw x0) (n := h.toNat) (by omega))
                          rw [← hw1] at hq1
                          have hr1 : mBr hps h.toNat < mBr hps w.toNat := by have h9 := hsrt w.toNat h.toNat (by omega) (by omega); omega
                          have hMe := rM w.toNat (by omega)
                          refine lv_iload hc.1 hc.2.1 dX9_choose_149 (lv_at hl 3 rfl) ?_
                          refine lv_aload_n hc.1 hc.2.1 dX9_choose_151 rfl (lv_at hl 6 rfl) ?_
                          refine lv_iload hc.1 hc.2.1 dX9_choose_152 (lv_at hl 4 rfl) ?_
                          refine nn_Vp (As := [.int (iI w)]) (st := [.int (iI (mBr hps h.toNat))]) hc hw hz rfl (c_X9_breadth l g  hz hhp (by omega)) (cwV 1 hc.2.2.2.2 gX9_choose_X9_breadth rfl rfl rfl (by decide +kernel) ⟨Nat.le_of_ble_eq_true rfl, Nat.le_of_ble_eq_true rfl⟩) rfl hl.1 rfl (Nat.le_of_ble_eq_true rfl) ⟨Nat.le_of_ble_eq_true rfl, Nat.le_of_ble_eq_true rfl⟩ dX9_choose_154 ?_
                          refine W.eq (g2 := F0 m 157 ls [.int (iI (mBr hps w.toNat)), .int (iI (mBr hps h.toNat))]) rfl ?_
                          refine nn_icmp_le hc dX9_choose_157 (tgt := 165) (by decide) (by omega) (by omega) (fun c39 => ?_) (fun c39 => ?_)
                          · refine lv_iload hc.1 hc.2.1 dX9_choose_165 (lv_at hl 4 rfl) ?_
                            refine lv_istore (lv' := [(6, .int (iI w)), (5, .int (iI b)), (4, .int (iI e)), (9, .int (iI 0)), (8, .int (iI (mBr hps h.toNat))), (7, .int (iI h)), (0, .ref z), (1, .int (iI x0)), (2, .int (iI p)), (3, .int (iI R))]) hc.1 hc.2.1 dX9_choose_167 hl (by decide) rfl (fun ls hl => ?_)
                            refine nn_iinc (lv' := [(7, .int (iI (h + 1))), (6, .int (iI w)), (5, .int (iI b)), (4, .int (iI e)), (9, .int (iI 0)), (8, .int (iI (mBr hps h.toNat))), (0, .ref z), (1, .int (iI x0)), (2, .int (iI p)), (3, .int (iI R))]) hc dX9_choose_169 hl (k0 := 5) rfl (by decide) rfl (fun ls hl => ?_)
                            refine lv_goto hc.1 hc.2.1 dX9_choose_172 (tgt := 15) (by decide) ?_
                            exact ih15 e b w (h + 1) _ _ _ (by omega) (by first | exact lst_take (by omega) (pE_iff.mpr (by omega)) | exact he.trans (lst_keep (by omega) (b_no pE_iff (by omega)))) (by first | exact fst_take (by omega) (by omega) (pBn_iff.mpr ⟨by omega, hbk⟩) | exact hb.trans (fst_keep (by omega) (Or.inr (by omega))) | exact hb.trans (fst_keep (by omega) (Or.inl (b_no pBn_iff (fun q9 => by have h8 := q9.2; rw [hbk] at h8; cases h8)))) | exact hb.trans (fst_keep (by omega) (Or.inl (b_no pBn_iff (fun q9 => by have h8 := q9.1; omega))))) (by first | exact fst_take (by omega) (by omega) (srv_iff.mpr (by omega)) | exact hw1.trans (fst_keep (by omega) (Or.inr (by omega))) | exact hw1.trans (fst_keep (by omega) (Or.inl (b_no srv_iff (by omega))))) hw (by omega) (lv_sub hl [3, 2, 1, 0, 6, 7, 8, 9] rfl)
                          · exfalso; omega
                      · exfalso; omega
              · exact absurd c29 (by decide)
            · refine nn_iconst hc dX9_choose_60 ?_
              refine lv_goto hc.1 hc.2.1 dX9_choose_61 (tgt := 65) (by decide) ?_
              refine lv_istore (lv' := [(9, .int (iI 1)), (8, .int (iI (mBr hps h.toNat))), (4, .int (iI e)), (5, .int (iI b)), (6, .int (iI w)), (7, .int (iI h)), (0, .ref z), (1, .int (iI x0)), (2, .int (iI p)), (3, .int (iI R))]) hc.1 hc.2.1 dX9_choose_65 hl (by decide) rfl (fun ls hl => ?_)
              refine lv_iload hc.1 hc.2.1 dX9_choose_67 (lv_at hl 0 rfl) ?_
              refine nn_if_eq hc dX9_choose_69 (tgt := 95) (by decide) (by decide) (fun c40 => ?_) (fun c40 => ?_)
              · exact absurd c40 (by decide)
              · refine lv_iload hc.1 hc.2.1 dX9_choose_72 (lv_at hl 2 rfl) ?_
                refine nn_bipush hc dX9_choose_74 (by decide +kernel) ?_
                refine nn_icmp_eq hc dX9_choose_76 (tgt := 90) (by decide) (by omega) (by decide) (fun c41 => ?_) (fun c41 => ?_)
                · refine lv_iload hc.1 hc.2.1 dX9_choose_90 (lv_at hl 5 rfl) ?_
                  refine lv_goto hc.1 hc.2.1 dX9_choose_92 (tgt := 97) (by decide) ?_
                  refine lv_istore (lv' := [(4, .int (iI h)), (9, .int (iI 1)), (8, .int (iI (mBr hps h.toNat))), (5, .int (iI b)), (6, .int (iI w)), (7, .int (iI h)), (0, .ref z), (1, .int (iI x0)), (2, .int (iI p)), (3, .int (iI R))]) hc.1 hc.2.1 dX9_choose_97 hl (by decide) rfl (fun ls hl => ?_)
                  refine lv_iload hc.1 hc.2.1 dX9_choose_99 (lv_at hl 1 rfl) ?_
                  refine nn_if_ne hc dX9_choose_101 (tgt := 138) (by decide) (by decide) (fun c42 => ?_) (fun c42 => ?_)
                  · refine lv_iload hc.1 hc.2.1 dX9_choose_138 (lv_at hl 3 rfl) ?_
                    refine lv_istore (lv' := [(5, .int (iI b)), (4, .int (iI h)), (9, .int (iI 1)), (8, .int (iI (mBr hps h.toNat))), (6, .int (iI w)), (7, .int (iI h)), (0, .ref z), (1, .int (iI x0)), (2, .int (iI p)), (3, .int (iI R))]) hc.1 hc.2.1 dX9_choose_140 hl (by decide) rfl (fun ls hl => ?_)
                    refine lv_iload hc.1 hc.2.1 dX9_choose_142 (lv_at hl 4 rfl) ?_
                    refine nn_bipush hc dX9_choose_144 (by decide +kernel) ?_
                    refine nn_icmp_eq hc dX9_choose_146 (tgt := 160) (by decide) (by omega) (by decide) (fun c43 => ?_) (fun c43 => ?_)
                    · refine lv_iload hc.1 hc.2.1 dX9_choose_160 (lv_at hl 5 rfl) ?_
                      refine lv_goto hc.1 hc.2.1 dX9_choose_162 (tgt := 167) (by decide) ?_
                      refine lv_istore (lv' := [(6, .int (iI h)), (5, .int (iI b)), (4, .int (iI h)), (9, .int (iI 1)), (8, .int (iI (mBr hps h.toNat))), (7, .int (iI h)), (0, .ref z), (1, .int (iI x0)), (2, .int (iI p)), (3, .int (iI R))]) hc.1 hc.2.1 dX9_choose_167 hl (by decide) rfl (fun ls hl => ?_)
                      refine nn_iinc (lv' := [(7, .int (iI (h + 1))), (6, .int (iI h)), (5, .int (iI b)), (4, .int (iI h)), (9, .int (iI 1)), (8, .int (iI (mBr hps h.toNat))), (0, .ref z), (1, .int (iI x0)), (2, .int (iI p)), (3, .int (iI R))]) hc dX9_choose_169 hl (k0 := 5) rfl (by decide) rfl (fun ls hl => ?_)
                      refine lv_goto hc.1 hc.2.1 dX9_choose_172 (tgt := 15) (by decide) ?_
                      exact ih15 h b h (h + 1) _ _ _ (by omega) (by first | exact lst_take (by omega) (pE_iff.mpr (by omega)) | exact he.trans (lst_keep (by omega) (b_no pE_iff (by omega)))) (by first | exact fst_take (by omega) (by omega) (pBn_iff.mpr ⟨by omega, hbk⟩) | exact hb.trans (fst_keep (by omega) (Or.inr (by omega))) | exact hb.trans (fst_keep (by omega) (Or.inl (b_no pBn_iff (fun q9 => by have h8 := q9.2; rw [hbk] at h8; cases h8)))) | exact hb.trans (fst_keep (by omega) (Or.inl (b_no pBn_iff (fun q9 => by have h8 := q9.1; omega))))) (by first | exact fst_take (by omega) (by omega) (srv_iff.mpr (by omega)) | exact hw1.trans (fst_keep (by omega) (Or.inr (by omega))) | exact hw1.trans (fst_keep (by omega) (Or.inl (b_no srv_iff (by omega))))) hw (by omega) (lv_sub hl [3, 2, 1, 0, 6, 7, 8, 9] rfl)
                    · have hq1 := srv_iff.mp (fstI_q (q := srv (mLn hps) nw x0) (n := h.toNat) (by omega))
                      rw [← hw1] at hq1
                      have hr1 : mBr hps h.toNat < mBr hps w.toNat := by have h9 := hsrt w.toNat h.toNat (by omega) (by omega); omega
                      have hMe := rM w.toNat (by omega)
                      refine lv_iload hc.1 hc.2.1 dX9_choose_149 (lv_at hl 3 rfl) ?_
                      refine lv_aload_n hc.1 hc.2.1 dX9_choose_151 rfl (lv_at hl 6 rfl) ?_
                      refine lv_iload hc.1 hc.2.1 dX9_choose_152 (lv_at hl 4 rfl) ?_
                      refine nn_Vp (As := [.int (iI w)]) (st := [.int (iI (mBr hps h.toNat))]) hc hw hz rfl (c_X9_breadth l g  hz hhp (by omega)) (cwV 1 hc.2.2.2.2 gX9_choose_X9_breadth rfl rfl rfl (by decide +kernel) ⟨Nat.le_of_ble_eq_true rfl, Nat.le_of_ble_eq_true rfl⟩) rfl hl.1 rfl (Nat.le_of_ble_eq_true rfl) ⟨Nat.le_of_ble_eq_true rfl, Nat.le_of_ble_eq_true rfl⟩ dX9_choose_154 ?_
                      refine W.eq (g2 := F0 m 157 ls [.int (iI (mBr hps w.toNat)), .int (iI (mBr hps h.toNat))]) rfl ?_
                      refine nn_icmp_le hc dX9_choose_157 (tgt := 165) (by decide) (by omega) (by omega) (fun c44 => ?_) (fun c44 => ?_)
                      · refine lv_iload hc.1 hc.2.1 dX9_choose_165 (lv_at hl 4 rfl) ?_
                        refine lv_istore (lv' := [(6, .int (iI w)), (5, .int (iI b)), (4, .int (iI h)), (9, .int (iI 1)), (8, .int (iI (mBr hps h.toNat))), (7, .int (iI h)), (0, .ref z), (1, .int (iI x0)), (2, .int (iI p)), (3, .int (iI R))]) hc.1 hc.2.1 dX9_choose_167 hl (by decide) rfl (fun ls hl => ?_)
                        refine nn_iinc (lv' := [(7, .int (iI (h + 1))), (6, .int (iI w)), (5, .int (iI b)), (4, .int (iI h)), (9, .int (iI 1)), (8, .int (iI (mBr hps h.toNat))), (0, .ref z), (1, .int (iI x0)), (2, .int (iI p)), (3, .int (iI R))]) hc dX9_choose_169 hl (k0 := 5) rfl (by decide) rfl (fun ls hl => ?_)
                        refine lv_goto hc.1 hc.2.1 dX9_choose_172 (tgt := 15) (by decide) ?_
                        exact ih15 h b w (h + 1) _ _ _ (by omega) (by first | exact lst_take (by omega) (pE_iff.mpr (by omega)) | exact he.trans (lst_keep (by omega) (b_no pE_iff (by omega)))) (by first | exact fst_take (by omega) (by omega) (pBn_iff.mpr ⟨by omega, hbk⟩) | exact hb.trans (fst_keep (by omega) (Or.inr (by omega))) | exact hb.trans (fst_keep (by omega) (Or.inl (b_no pBn_iff (fun q9 => by have h8 := q9.2; rw [hbk] at h8; cases h8)))) | exact hb.trans (fst_keep (by omega) (Or.inl (b_no pBn_iff (fun q9 => by have h8 := q9.1; omega))))) (by first | exact fst_take (by omega) (by omega) (srv_iff.mpr (by omega)) | exact hw1.trans (fst_keep (by omega) (Or.inr (by omega))) | exact hw1.trans (fst_keep (by omega) (Or.inl (b_no srv_iff (by omega))))) hw (by omega) (lv_sub hl [3, 2, 1, 0, 6, 7, 8, 9] rfl)
                      · exfalso; omega
                  · exact absurd c42 (by decide)
                · have hq1 := pE_iff.mp (lstI_q (q := pE (mLn hps) (mBr hps) nw x0 R p) (n := h.toNat) (by omega))
                  rw [← he] at hq1
                  have hr1 : mBr hps h.toNat < mBr hps e.toNat := by have h9 := hsrt e.toNat h.toNat (by omega) (by omega); omega
                  have hMe := rM e.toNat (by omega)
                  refine lv_iload hc.1 hc.2.1 dX9_choose_79 (lv_at hl 1 rfl) ?_
                  refine lv_aload_n hc.1 hc.2.1 dX9_choose_81 rfl (lv_at hl 6 rfl) ?_
                  refine lv_iload hc.1 hc.2.1 dX9_choose_82 (lv_at hl 2 rfl) ?_
                  refine nn_Vp (As := [.int (iI e)]) (st := [.int (iI (mBr hps h.toNat))]) hc hw hz rfl (c_X9_breadth l g  hz hhp (by omega)) (cwV 1 hc.2.2.2.2 gX9_choose_X9_breadth rfl rfl rfl (by decide +kernel) ⟨Nat.le_of_ble_eq_true rfl, Nat.le_of_ble_eq_true rfl⟩) rfl hl.1 rfl (Nat.le_of_ble_eq_true rfl) ⟨Nat.le_of_ble_eq_true rfl, Nat.le_of_ble_eq_true rfl⟩ dX9_choose_84 ?_
                  refine W.eq (g2 := F0 m 87 ls [.int (iI (mBr hps e.toNat)), .int (iI (mBr hps h.toNat))]) rfl ?_
                  refine nn_icmp_ge hc dX9_choose_87 (tgt := 95) (by decide) (by omega) (by omega) (fun c45 => ?_) (fun c45 => ?_)
                  · exfalso; omega
                  · refine lv_iload hc.1 hc.2.1 dX9_choose_90 (lv_at hl 5 rfl) ?_
                    refine lv_goto hc.1 hc.2.1 dX9_choose_92 (tgt := 97) (by decide) ?_
                    refine lv_istore (lv' := [(4, .int (iI h)), (9, .int (iI 1)), (8, .int (iI (mBr hps h.toNat))), (5, .int (iI b)), (6, .int (iI w)), (7, .int (iI h)), (0, .ref z), (1, .int (iI x0)), (2, .int (iI p)), (3, .int (iI R))]) hc.1 hc.2.1 dX9_choose_97 hl (by decide) rfl (fun ls hl => ?_)
                    refine lv_iload hc.1 hc.2.1 dX9_choose_99 (lv_at hl 1 rfl) ?_
                    refine nn_if_ne hc dX9_choose_101 (tgt := 138) (by decide) (by decide) (fun c46 => ?_) (fun c46 => ?_)
                    · refine lv_iload hc.1 hc.2.1 dX9_choose_138 (lv_at hl 3 rfl) ?_
                      refine lv_istore (lv' := [(5, .int (iI b)), (4, .int (iI h)), (9, .int (iI 1)), (8, .int (iI (mBr hps h.toNat))), (6, .int (iI w)), (7, .int (iI h)), (0, .ref z), (1, .int (iI x0)), (2, .int (iI p)), (3, .int (iI R))]) hc.1 hc.2.1 dX9_choose_140 hl (by decide) rfl (fun ls hl => ?_)
                      refine lv_iload hc.1 hc.2.1 dX9_choose_142 (lv_at hl 4 rfl) ?_
                      refine nn_bipush hc dX9_choose_144 (by decide +kernel) ?_
                      refine nn_icmp_eq hc dX9_choose_146 (tgt := 160) (by decide) (by omega) (by decide) (fun c47 => ?_) (fun c47 => ?_)
                      · refine lv_iload hc.1 hc.2.1 dX9_choose_160 (lv_at hl 5 rfl) ?_
                        refine lv_goto hc.1 hc.2.1 dX9_choose_162 (tgt := 167) (by decide) ?_
                        refine lv_istore (lv' := [(6, .int (iI h)), (5, .int (iI b)), (4, .int (iI h)), (9, .int (iI 1)), (8, .int (iI (mBr hps h.toNat))), (7, .int (iI h)), (0, .ref z), (1, .int (iI x0)), (2, .int (iI p)), (3, .int (iI R))]) hc.1 hc.2.1 dX9_choose_167 hl (by decide) rfl (fun ls hl => ?_)
                        refine nn_iinc (lv' := [(7, .int (iI (h + 1))), (6, .int (iI h)), (5, .int (iI b)), (4, .int (iI h)), (9, .int (iI 1)), (8, .int (iI (mBr hps h.toNat))), (0, .ref z), (1, .int (iI x0)), (2, .int (iI p)), (3, .int (iI R))]) hc dX9_choose_169 hl (k0 := 5) rfl (by decide) rfl (fun ls hl => ?_)
                        refine lv_goto hc.1 hc.2.1 dX9_choose_172 (tgt := 15) (by decide) ?_
                        exact ih15 h b h (h + 1) _ _ _ (by omega) (by first | exact lst_take (by omega) (pE_iff.mpr (by omega)) | exact he.trans (lst_keep (by omega) (b_no pE_iff (by omega)))) (by first | exact fst_take (by omega) (by omega) (pBn_iff.mpr ⟨by omega, hbk⟩) | exact hb.trans (fst_keep (by omega) (Or.inr (by omega))) | exact hb.trans (fst_keep (by omega) (Or.inl (b_no pBn_iff (fun q9 => by have h8 := q9.2; rw [hbk] at h8; cases h8)))) | exact hb.trans (fst_keep (by omega) (Or.inl (b_no pBn_iff (fun q9 => by have h8 := q9.1; omega))))) (by first | exact fst_take (by omega) (by omega) (srv_iff.mpr (by omega)) | exact hw1.trans (fst_keep (by omega) (Or.inr (by omega))) | exact hw1.trans (fst_keep (by omega) (Or.inl (b_no srv_iff (by omega))))) hw (by omega) (lv_sub hl [3, 2, 1, 0, 6, 7, 8, 9] rfl)
                      · have hq1 := srv_iff.mp (fstI_q (q := srv (mLn hps) nw x0) (n := h.toNat) (by omega))
                        rw [← hw1] at hq1
                        have hr1 : mBr hps h.toNat < mBr hps w.toNat := by have h9 := hsrt w.toNat h.toNat (by omega) (by omega); omega
                        have hMe := rM w.toNat (by omega)
                        refine lv_iload hc.1 hc.2.1 dX9_choose_149 (lv_at hl 3 rfl) ?_
                        refine lv_aload_n hc.1 hc.2.1 dX9_choose_151 rfl (lv_at hl 6 rfl) ?_
                        refine lv_iload hc.1 hc.2.1 dX9_choose_152 (lv_at hl 4 rfl) ?_
                        refine nn_Vp (As := [.int (iI w)]) (st := [.int (iI (mBr hps h.toNat))]) hc hw hz rfl (c_X9_breadth l g  hz hhp (by omega)) (cwV 1 hc.2.2.2.2 gX9_choose_X9_breadth rfl rfl rfl (by decide +kernel) ⟨Nat.le_of_ble_eq_true rfl, Nat.le_of_ble_eq_true rfl⟩) rfl hl.1 rfl (Nat.le_of_ble_eq_true rfl) ⟨Nat.le_of_ble_eq_true rfl, Nat.le_of_ble_eq_true rfl⟩ dX9_choose_154 ?_
                        refine W.eq (g2 := F0 m 157 ls [.int (iI (mBr hps w.toNat)), .int (iI (mBr hps h.toNat))]) rfl ?_
                        refine nn_icmp_le hc dX9_choose_157 (tgt := 165) (by decide) (by omega) (by omega) (fun c48 => ?_) (fun c48 => ?_)
                        · refine lv_iload hc.1 hc.2.1 dX9_choose_165 (lv_at hl 4 rfl) ?_
                          refine lv_istore (lv' := [(6, .int (iI w)), (5, .int (iI b)), (4, .int (iI h)), (9, .int (iI 1)), (8, .int (iI (mBr hps h.toNat))), (7, .int (iI h)), (0, .ref z), (1, .int (iI x0)), (2, .int (iI p)), (3, .int (iI R))]) hc.1 hc.2.1 dX9_choose_167 hl (by decide) rfl (fun ls hl => ?_)
                          refine nn_iinc (lv' := [(7, .int (iI (h + 1))), (6, .int (iI w)), (5, .int (iI b)), (4, .int (iI h)), (9, .int (iI 1)), (8, .int (iI (mBr hps h.toNat))), (0, .ref z), (1, .int (iI x0)), (2, .int (iI p)), (3, .int (iI R))]) hc dX9_choose_169 hl (k0 := 5) rfl (by decide) rfl (fun ls hl => ?_)
                          refine lv_goto hc.1 hc.2.1 dX9_choose_172 (tgt := 15) (by decide) ?_
                          exact ih15 h b w (h + 1) _ _ _ (by omega) (by first | exact lst_take (by omega) (pE_iff.mpr (by omega)) | exact he.trans (lst_keep (by omega) (b_no pE_iff (by omega)))) (by first | exact fst_take (by omega) (by omega) (pBn_iff.mpr ⟨by omega, hbk⟩) | exact hb.trans (fst_keep (by omega) (Or.inr (by omega))) | exact hb.trans (fst_keep (by omega) (Or.inl (b_no pBn_iff (fun q9 => by have h8 := q9.2; rw [hbk] at h8; cases h8)))) | exact hb.trans (fst_keep (by omega) (Or.inl (b_no pBn_iff (fun q9 => by have h8 := q9.1; omega))))) (by first | exact fst_take (by omega) (by omega) (srv_iff.mpr (by omega)) | exact hw1.trans (fst_keep (by omega) (Or.inr (by omega))) | exact hw1.trans (fst_keep (by omega) (Or.inl (b_no srv_iff (by omega))))) hw (by omega) (lv_sub hl [3, 2, 1, 0, 6, 7, 8, 9] rfl)
                        · exfalso; omega
                    · exact absurd c46 (by decide)
  exact lab15 _ (-4) (-4) (-4) 0 _ _ _ (by omega) (rfl) (rfl) (rfl) hw (Nat.lt_succ_self _) (lv_sub hl [3, 2, 1, 0, 4, 5, 6, 7] rfl)

set_option maxHeartbeats 4000000 in
set_option maxRecDepth 100000 in
theorem c_X9_choose_end (l : Launch) (g : gG) {n : Nat} {S : Nat → gE} {z : Nat} {mLen mAt mHC mRC mHS mJC mCh mVi : Int} {stg hps nw js : Nat → Int} {x0 p R : Int} (hz : S z = oO 9 [.ref (z + 1), .int (iI mLen), .int (iI mAt), .ref (z + 2), .ref (z + 3), .ref (z + 4), .ref (z + 5), .int (iI mHC), .int (iI mRC), .ref (z + 6), .ref (z + 7), .ref (z + 8), .int (iI mHS), .ref (z + 9), .ref (z + 10), .int (iI mJC), .int (iI mCh), .int (iI mVi)]) (hst : S (z + 2) = oI g 5 stg) (hhp : S (z + 4) = oI g 24 hps) (hnw : S (z + 6) = oI g 1249 nw) (hjs : S (z + 10) = oI g 60 js) (rHC : 0 ≤ mHC ∧ mHC ≤ 8) (rM : ∀ i : Nat, (i : Int) < mHC → (20 ≤ mLn hps i ∧ mLn hps i ≤ 60) ∧ (10 ≤ mBr hps i ∧ mBr hps i ≤ 60)) (hsrt : srt mHC (mLn hps) (mBr hps)) (rW : ∀ i : Nat, (i : Int) < mHC → 0 ≤ nw i ∧ nw i ≤ 1000000) (rJ : 0 ≤ mJC ∧ mJC ≤ 59) (rb : 1 ≤ stg 3 ∧ stg 3 ≤ 1000) (rj : ∀ i : Nat, (i : Int) < mJC → -1000000 ≤ js i ∧ js i ≤ 1000000) (rx0 : 0 ≤ x0 ∧ x0 ≤ 60) (rpR : (0 ≤ p ∧ p < R) ∧ R ≤ 1000) (hE : 0 ≤ lstI (pE (mLn hps) (mBr hps) nw x0 R p) mHC.toNat) : g_Cs l yX9_choose wsX9_choose { frames := 1, cells := 0, slots := 0, locals := 24 } g [.ref z, .int (iI x0), .int (iI p), .int (iI R)] n S (fun vr n1 S1 => vr = some (.int (iI 1)) ∧ n = n1 ∧ S1 z = oO 9 [.ref (z + 1), .int (iI mLen), .int (iI mAt), .ref (z + 2), .ref (z + 3), .ref (z + 4), .ref (z + 5), .int (iI mHC), .int (iI mRC), .ref (z + 6), .ref (z + 7), .ref (z + 8), .int (iI mHS), .ref (z + 9), .ref (z + 10), .int (iI mJC), .int (iI (lstI (pE (mLn hps) (mBr hps) nw x0 R p) mHC.toNat)), .int (iI (R - p))] ∧ (∀ bb, bb ≠ z → S1 bb = S bb)) 0 0 := by
  refine g_Cs.of (cc := cX9_choose) (maxL := 10) (ret := (some .boolean)) (by decide) rfl (Nat.le_of_ble_eq_true rfl) ?_
  intro pp ee s m below meth cK Q H locs ls hc hnm hw hl hret
  have hl : lv_has ls 10 [(0, .ref z), (1, .int (iI x0)), (2, .int (iI p)), (3, .int (iI R))] := hl
  have hiX9 : ∀ w ∈ u_ws RX9 TX9 18, w ∈ wsX9_choose := by decide +kernel
  have lk54 : Cond.fieldLink RX9 54 "RoofCoursesModel" "heapCount" "I" ∈ wsX9_choose := by decide +kernel
  have lk120 : Cond.fieldLink RX9 120 "RoofCoursesModel" "chosen" "I" ∈ wsX9_choose := by decide +kernel
  have lk123 : Cond.fieldLink RX9 123 "RoofCoursesModel" "visible" "I" ∈ wsX9_choose := by decide +kernel
  have lk25 : Cond.fieldLink RX9 25 "RoofCoursesModel" "now" "[I" ∈ wsX9_choose := by decide +kernel
  refine nn_bipush hc dX9_choose_0 (by decide +kernel) ?_
  refine lv_istore (lv' := [(4, .int (iI (-4))), (0, .ref z), (1, .int (iI x0)), (2, .int (iI p)), (3, .int (iI R))]) hc.1 hc.2.1 dX9_choose_2 hl (by decide) rfl (fun ls hl => ?_)
  refine nn_bipush hc dX9_choose_4 (by decide +kernel) ?_
  refine lv_istore (lv' := [(5, .int (iI (-4))), (4, .int (iI (-4))), (0, .ref z), (1, .int (iI x0)), (2, .int (iI p)), (3, .int (iI R))]) hc.1 hc.2.1 dX9_choose_6 hl (by decide) rfl (fun ls hl => ?_)
  refine nn_bipush hc dX9_choose_8 (by decide +kernel) ?_
  refine lv_istore (lv' := [(6, .int (iI (-4))), (5, .int (iI (-4))), (4, .int (iI (-4))), (0, .ref z), (1, .int (iI x0)), (2, .int (iI p)), (3, .int (iI R))]) hc.1 hc.2.1 dX9_choose_10 hl (by decide) rfl (fun ls hl => ?_)
  refine nn_iconst hc dX9_choose_12 ?_
  refine lv_istore (lv' := [(7, .int (iI 0)), (6, .int (iI (-4))), (5, .int (iI (-4))), (4, .int (iI (-4))), (0, .ref z), (1, .int (iI x0)), (2, .int (iI p)), (3, .int (iI R))]) hc.1 hc.2.1 dX9_choose_13 hl (by decide) rfl (fun ls hl => ?_)
  have lab15 : ∀ (fu15 : Nat) (e : Int) (b : Int) (w : Int) (h : Int) (H : Heap) (locs : List Loc) (ls : Array Slot), (0 ≤ h ∧ h ≤ mHC) → (e = lstI (pE (mLn hps) (mBr hps) nw x0 R p) h.toNat) → (b = fstI (pBn (mLn hps) (mBr hps) nw x0 R js (stg 3) mJC.toNat p) h.toNat) → (w = fstI (srv (mLn hps) nw x0) h.toNat) → g_W g n S s H locs → (mHC - h).toNat < fu15 → lv_has ls 10 [(4, .int (iI e)), (5, .int (iI b)), (6, .int (iI w)), (7, .int (iI h)), (0, .ref z), (1, .int (iI x0)), (2, .int (iI p)), (3, .int (iI R))] → W pp l ee ({ frames := 1, cells := 0, slots := 0, locals := 24 } : Room) s m ([.ref z, .int (iI x0), .int (iI p), .int (iI R)] : List Value).toArray below meth cK H locs 0 0 Q (F0 m 15 ls []) := by
    intro fu15
    induction fu15 with
    | zero =>
      intro e b w h H locs ls hh he hb hw1 hw hmeas hl
      exact absurd hmeas (Nat.not_lt_zero _)
    | succ fu15 ih15 =>
      intro e b w h H locs ls hh he hb hw1 hw hmeas hl
      refine lv_iload hc.1 hc.2.1 dX9_choose_15 (lv_at hl 3 rfl) ?_
      refine lv_aload_n hc.1 hc.2.1 dX9_choose_17 rfl (lv_at hl 4 rfl) ?_
      refine nn_get hc hw hz hiX9 rfl 7 (by decide) rfl lk54 dX9_choose_18 ?_
      refine nn_icmp_ge hc dX9_choose_21 (tgt := 175) (by decide) (by omega) (by omega) (fun c2 => ?_) (fun c2 => ?_)
      · have hHe : h.toNat = mHC.toNat := by omega
        rw [hHe] at he hb hw1
        have hre := lstI_r (pE (mLn hps) (mBr hps) nw x0 R p) mHC.toNat
        have hrb := fstI_r (pBn (mLn hps) (mBr hps) nw x0 R js (stg 3) mJC.toNat p) mHC.toNat
        have hrw := fstI_r (srv (mLn hps) nw x0) mHC.toNat
        refine lv_aload_n hc.1 hc.2.1 dX9_choose_175 rfl (lv_at hl 4 rfl) ?_
        refine lv_iload hc.1 hc.2.1 dX9_choose_176 (lv_at hl 0 rfl) ?_
        refine nn_bipush hc dX9_choose_178 (by decide +kernel) ?_
        refine nn_icmp_eq hc dX9_choose_180 (tgt := 188) (by decide) (by omega) (by decide) (fun c3 => ?_) (fun c3 => ?_)
        · exfalso; omega
        · refine lv_iload hc.1 hc.2.1 dX9_choose_183 (lv_at hl 0 rfl) ?_
          refine lv_goto hc.1 hc.2.1 dX9_choose_185 (tgt := 202) (by decide) ?_
          refine nn_put hc hw hz hiX9 tyX9 tyX9_ok nmX9 rfl 16 (by decide) (Nat.le_of_ble_eq_true rfl) lk120 rfl rfl rfl dX9_choose_202 (fun S4 H locs hS4 fS4 hw => ?_)
          have hS4 : S4 z = oO 9 [.ref (z + 1), .int (iI mLen), .int (iI mAt), .ref (z + 2), .ref (z + 3), .ref (z + 4), .ref (z + 5), .int (iI mHC), .int (iI mRC), .ref (z + 6), .ref (z + 7), .ref (z + 8), .int (iI mHS), .ref (z + 9), .ref (z + 10), .int (iI mJC), .int (iI e), .int (iI mVi)] := hS4
          refine lv_aload_n hc.1 hc.2.1 dX9_choose_205 rfl (lv_at hl 4 rfl) ?_
          refine nn_get hc hw hS4 hiX9 rfl 16 (by decide) rfl lk120 dX9_choose_206 ?_
          refine nn_bipush hc dX9_choose_209 (by decide +kernel) ?_
          refine nn_icmp_ne hc dX9_choose_211 (tgt := 216) (by decide) (by omega) (by decide) (fun c5 => ?_) (fun c5 => ?_)
          · refine lv_aload_n hc.1 hc.2.1 dX9_choose_216 rfl (lv_at hl 4 rfl) ?_
            refine lv_iload hc.1 hc.2.1 dX9_choose_217 (lv_at hl 0 rfl) ?_
            refine nn_bipush hc dX9_choose_219 (by decide +kernel) ?_
            refine nn_icmp_eq hc dX9_choose_221 (tgt := 230) (by decide) (by omega) (by decide) (fun c6 => ?_) (fun c6 => ?_)
            · exfalso; omega
            · refine lv_iload_n hc.1 hc.2.1 dX9_choose_224 rfl (lv_at hl 7 rfl) ?_
              refine lv_iload_n hc.1 hc.2.1 dX9_choose_225 rfl (lv_at hl 6 rfl) ?_
              refine nn_isub hc dX9_choose_226 ?_
              refine lv_goto hc.1 hc.2.1 dX9_choose_227 (tgt := 238) (by decide) ?_
              refine nn_put hc hw hS4 hiX9 tyX9 tyX9_ok nmX9 rfl 17 (by decide) (Nat.le_of_ble_eq_true rfl) lk123 rfl rfl rfl dX9_choose_238 (fun S7 H locs hS7 fS7 hw => ?_)
              have hS7 : S7 z = oO 9 [.ref (z + 1), .int (iI mLen), .int (iI mAt), .ref (z + 2), .ref (z + 3), .ref (z + 4), .ref (z + 5), .int (iI mHC), .int (iI mRC), .ref (z + 6), .ref (z + 7), .ref (z + 8), .int (iI mHS), .ref (z + 9), .ref (z + 10), .int (iI mJC), .int (iI e), .int (iI (R - p))] := hS7
              refine lv_iload hc.1 hc.2.1 dX9_choose_241 (lv_at hl 0 rfl) ?_
              refine nn_bipush hc dX9_choose_243 (by decide +kernel) ?_
              refine nn_icmp_ne hc dX9_choose_245 (tgt := 306) (by decide) (by omega) (by decide) (fun c8 => ?_) (fun c8 => ?_)
              · refine lv_aload_n hc.1 hc.2.1 dX9_choose_306 rfl (lv_at hl 4 rfl) ?_
                refine nn_get hc hw hS7 hiX9 rfl 17 (by decide) rfl lk123 dX9_choose_307 ?_
                refine nn_if_le hc dX9_choose_310 (tgt := 317) (by decide) (by omega) (fun c9 => ?_) (fun c9 => ?_)
                · exfalso; omega
                · refine nn_iconst hc dX9_choose_313 ?_
                  refine lv_goto hc.1 hc.2.1 dX9_choose_314 (tgt := 318) (by decide) ?_
                  exact hret (some (.int (iI 1))) _ S7 _ _ _ _ hw (⟨rfl, rfl, (by rw [← he]; exact hS7), fun bb hb0 => ((fS7 bb hb0)).trans (fS4 bb hb0)⟩) ⟨_, rfl, by first | rfl | exact nn_nb _, dX9_choose_318⟩
              · exfalso; omega
          · exfalso; omega
      · have hM1 := rM h.toNat (by omega)
        have hW1 := rW h.toNat (by omega)
        have hre := lstI_r (pE (mLn hps) (mBr hps) nw x0 R p) h.toNat
        have hrb := fstI_r (pBn (mLn hps) (mBr hps) nw x0 R js (stg 3) mJC.toNat p) h.toNat
        have hrw := fstI_r (srv (mLn hps) nw x0) h.toNat
        refine lv_aload_n hc.1 hc.2.1 dX9_choose_24 rfl (lv_at hl 4 rfl) ?_
        refine lv_iload hc.1 hc.2.1 dX9_choose_25 (lv_at hl 3 rfl) ?_
        refine nn_Vp (As := [.int (iI h)]) (st := []) hc hw hz rfl (c_X9_heapLength l g  hz hhp (by omega)) (cwV 1 hc.2.2.2.2 gX9_choose_X9_heapLength rfl rfl rfl (by decide +kernel) ⟨Nat.le_of_ble_eq_true rfl, Nat.le_of_ble_eq_true rfl⟩) rfl hl.1 rfl (Nat.le_of_ble_eq_true rfl) ⟨Nat.le_of_ble_eq_true rfl, Nat.le_of_ble_eq_true rfl⟩ dX9_choose_27 ?_
        refine W.eq (g2 := F0 m 30 ls [.int (iI (mLn hps h.toNat))]) rfl ?_
        refine lv_iload_n hc.1 hc.2.1 dX9_choose_30 rfl (lv_at hl 5 rfl) ?_
        refine nn_icmp_ne hc dX9_choose_31 (tgt := 169) (by decide) (by omega) (by omega) (fun c10 => ?_) (fun c10 => ?_)
        · refine nn_iinc (lv' := [(7, .int (iI (h + 1))), (4, .int (iI e)), (5, .int (iI b)), (6, .int (iI w)), (0, .ref z), (1, .int (iI x0)), (2, .int (iI p)), (3, .int (iI R))]) hc dX9_choose_169 hl (k0 := 3) rfl (by decide) rfl (fun ls hl => ?_)
          refine lv_goto hc.1 hc.2.1 dX9_choose_172 (tgt := 15) (by decide) ?_
          exact ih15 e b w (h + 1) _ _ _ (by omega) (by first | exact lst_take (by omega) (pE_iff.mpr (by omega)) | exact he.trans (lst_keep (by omega) (b_no pE_iff (by omega)))) (by first | exact fst_take (by omega) (by omega) (pBn_iff.mpr ⟨by omega, hbk⟩) | exact hb.trans (fst_keep (by omega) (Or.inr (by omega))) | exact hb.trans (fst_keep (by omega) (Or.inl (b_no pBn_iff (fun q9 => by have h8 := q9.2; rw [hbk] at h8; cases h8)))) | exact hb.trans (fst_keep (by omega) (Or.inl (b_no pBn_iff (fun q9 => by have h8 := q9.1; omega))))) (by first | exact fst_take (by omega) (by omega) (srv_iff.mpr (by omega)) | exact hw1.trans (fst_keep (by omega) (Or.inr (by omega))) | exact hw1.trans (fst_keep (by omega) (Or.inl (b_no srv_iff (by omega))))) hw (by omega) (lv_sub hl [1, 2, 3, 0, 4, 5, 6, 7] rfl)
        · refine lv_aload_n hc.1 hc.2.1 dX9_choose_34 rfl (lv_at hl 4 rfl) ?_
          refine nn_get hc hw hz hiX9 rfl 9 (by decide) rfl lk25 dX9_choose_35 ?_
          refine lv_iload hc.1 hc.2.1 dX9_choose_38 (lv_at hl 3 rfl) ?_
          refine nn_iald hc hw hnw (by omega) (by omega) dX9_choose_40 ?_
          refine nn_if_le hc dX9_choose_41 (tgt := 169) (by decide) (by omega) (fun c11 => ?_) (fun c11 => ?_)
          · refine nn_iinc (lv' := [(7, .int (iI (h + 1))), (4, .int (iI e)), (5, .int (iI b)), (6, .int (iI w)), (0, .ref z), (1, .int (iI x0)), (2, .int (iI p)), (3, .int (iI R))]) hc dX9_choose_169 hl (k0 := 3) rfl (by decide) rfl (fun ls hl => ?_)
            refine lv_goto hc.1 hc.2.1 dX9_choose_172 (tgt := 15) (by decide) ?_
            exact ih15 e b w (h + 1) _ _ _ (by omega) (by first | exact lst_take (by omega) (pE_iff.mpr (by omega)) | exact he.trans (lst_keep (by omega) (b_no pE_iff (by omega)))) (by first | exact fst_take (by omega) (by omega) (pBn_iff.mpr ⟨by omega, hbk⟩) | exact hb.trans (fst_keep (by omega) (Or.inr (by omega))) | exact hb.trans (fst_keep (by omega) (Or.inl (b_no pBn_iff (fun q9 => by have h8 := q9.2; rw [hbk] at h8; cases h8)))) | exact hb.trans (fst_keep (by omega) (Or.inl (b_no pBn_iff (fun q9 => by have h8 := q9.1; omega))))) (by first | exact fst_take (by omega) (by omega) (srv_iff.mpr (by omega)) | exact hw1.trans (fst_keep (by omega) (Or.inr (by omega))) | exact hw1.trans (fst_keep (by omega) (Or.inl (b_no srv_iff (by omega))))) hw (by omega) (lv_sub hl [1, 2, 3, 0, 4, 5, 6, 7] rfl)
          · refine lv_aload_n hc.1 hc.2.1 dX9_choose_44 rfl (lv_at hl 4 rfl) ?_
            refine lv_iload hc.1 hc.2.1 dX9_choose_45 (lv_at hl 3 rfl) ?_
            refine nn_Vp (As := [.int (iI h)]) (st := []) hc hw hz rfl (c_X9_breadth l g  hz hhp (by omega)) (cwV 1 hc.2.2.2.2 gX9_choose_X9_breadth rfl rfl rfl (by decide +kernel) ⟨Nat.le_of_ble_eq_true rfl, Nat.le_of_ble_eq_true rfl⟩) rfl hl.1 rfl (Nat.le_of_ble_eq_true rfl) ⟨Nat.le_of_ble_eq_true rfl, Nat.le_of_ble_eq_true rfl⟩ dX9_choose_47 ?_
            refine W.eq (g2 := F0 m 50 ls [.int (iI (mBr hps h.toNat))]) rfl ?_
            refine lv_istore (lv' := [(8, .int (iI (mBr hps h.toNat))), (4, .int (iI e)), (5, .int (iI b)), (6, .int (iI w)), (7, .int (iI h)), (0, .ref z), (1, .int (iI x0)), (2, .int (iI p)), (3, .int (iI R))]) hc.1 hc.2.1 dX9_choose_50 hl (by decide) rfl (fun ls hl => ?_)
            refine lv_iload_n hc.1 hc.2.1 dX9_choose_52 rfl (lv_at hl 7 rfl) ?_
            refine lv_iload hc.1 hc.2.1 dX9_choose_53 (lv_at hl 0 rfl) ?_
            refine nn_iadd hc dX9_choose_55 ?_
            refine lv_iload_n hc.1 hc.2.1 dX9_choose_56 rfl (lv_at hl 8 rfl) ?_
            refine nn_icmp_lt hc dX9_choose_57 (tgt := 64) (by decide) (by omega) (by omega) (fun c12 => ?_) (fun c12 => ?_)
            · refine nn_iconst hc dX9_choose_64 ?_
              refine lv_istore (lv' := [(9, .int (iI 0)), (8, .int (iI (mBr hps h.toNat))), (4, .int (iI e)), (5, .int (iI b)), (6, .int (iI w)), (7, .int (iI h)), (0, .ref z), (1, .int (iI x0)), (2, .int (iI p)), (3, .int (iI R))]) hc.1 hc.2.1 dX9_choose_65 hl (by decide) rfl (fun ls hl => ?_)
              refine lv_iload hc.1 hc.2.1 dX9_choose_67 (lv_at hl 0 rfl) ?_
              refine nn_if_eq hc dX9_choose_69 (tgt := 95) (by decide) (by decide) (fun c13 => ?_) (fun c13 => ?_)
              · refine lv_iload hc.1 hc.2.1 dX9_choose_95 (lv_at hl 2 rfl) ?_
                refine lv_istore (lv' := [(4, .int (iI e)), (9, .int (iI 0)), (8, .int (iI (mBr hps h.toNat))), (5, .int (iI b)), (6, .int (iI w)), (7, .int (iI h)), (0, .ref z), (1, .int (iI x0)), (2, .int (iI p)), (3, .int (iI R))]) hc.1 hc.2.1 dX9_choose_97 hl (by decide) rfl (fun ls hl => ?_)
                refine lv_iload hc.1 hc.2.1 dX9_choose_99 (lv_at hl 1 rfl) ?_
                refine nn_if_ne hc dX9_choose_101 (tgt := 138) (by decide) (by decide) (fun c14 => ?_) (fun c14 => ?_)
                · exact absurd c14 (by decide)
                · refine lv_aload_n hc.1 hc.2.1 dX9_choose_104 rfl (lv_at hl 6 rfl) ?_
                  refine lv_iload_n hc.1 hc.2.1 dX9_choose_105 rfl (lv_at hl 8 rfl) ?_
                  refine lv_iload hc.1 hc.2.1 dX9_choose_106 (lv_at hl 2 rfl) ?_
                  refine nn_iadd hc dX9_choose_108 ?_
                  refine nn_Vp (As := [.int (iI (p + (mBr hps h.toNat)))]) (st := []) hc hw hz rfl (c_X9_isBroken l g  hz hst hjs (by omega) (by omega) (by omega) (rj)) (cwV 1 hc.2.2.2.2 gX9_choose_X9_isBroken rfl rfl rfl (by decide +kernel) ⟨Nat.le_of_ble_eq_true rfl, Nat.le_of_ble_eq_true rfl⟩) rfl hl.1 rfl (Nat.le_of_ble_eq_true rfl) ⟨Nat.le_of_ble_eq_true rfl, Nat.le_of_ble_eq_true rfl⟩ dX9_choose_109 ?_
                  refine W.eq (g2 := F0 m 112 ls [.int (iI (if brk js (stg 3) (p + (mBr hps h.toNat)) mJC.toNat = true then 1 else 0))]) rfl ?_
                  refine nn_if_eq hc dX9_choose_112 (tgt := 138) (by decide) (by omega) (fun c15 => ?_) (fun c15 => ?_)
                  · have hbk : brk js (stg 3) (p + mBr hps h.toNat) mJC.toNat = false := Bool.eq_false_iff.mpr (fun q9 => by have h8 := c15; rw [if_pos q9] at h8; exact absurd h8 (by decide))
                    refine lv_iload hc.1 hc.2.1 dX9_choose_138 (lv_at hl 3 rfl) ?_
                    refine lv_istore (lv' := [(5, .int (iI b)), (4, .int (iI e)), (9, .int (iI 0)), (8, .int (iI (mBr hps h.toNat))), (6, .int (iI w)), (7, .int (iI h)), (0, .ref z), (1, .int (iI x0)), (2, .int (iI p)), (3, .int (iI R))]) hc.1 hc.2.1 dX9_choose_140 hl (by decide) rfl (fun ls hl => ?_)
                    refine lv_iload hc.1 hc.2.1 dX9_choose_142 (lv_at hl 4 rfl) ?_
                    refine nn_bipush hc dX9_choose_144 (by decide +kernel) ?_
                    refine nn_icmp_eq hc dX9_choose_146 (tgt := 160) (by decide) (by omega) (by decide) (fun c16 => ?_) (fun c16 => ?_)
                    · refine lv_iload hc.1 hc.2.1 dX9_choose_160 (lv_at hl 5 rfl) ?_
                      refine lv_goto hc.1 hc.2.1 dX9_choose_162 (tgt := 167) (by decide) ?_
                      refine lv_istore (lv' := [(6, .int (iI h)), (5, .int (iI b)), (4, .int (iI e)), (9, .int (iI 0)), (8, .int (iI (mBr hps h.toNat))), (7, .int (iI h)), (0, .ref z), (1, .int (iI x0)), (2, .int (iI p)), (3, .int (iI R))]) hc.1 hc.2.1 dX9_choose_167 hl (by decide) rfl (fun ls hl => ?_)
                      refine nn_iinc (lv' := [(7, .int (iI (h + 1))), (6, .int (iI h)), (5, .int (iI b)), (4, .int (iI e)), (9, .int (iI 0)), (8, .int (iI (mBr hps h.toNat))), (0, .ref z), (1, .int (iI x0)), (2, .int (iI p)), (3, .int (iI R))]) hc dX9_choose_169 hl (k0 := 5) rfl (by decide) rfl (fun ls hl => ?_)
                      refine lv_goto hc.1 hc.2.1 dX9_choose_172 (tgt := 15) (by decide) ?_
                      exact ih15 e b h (h + 1) _ _ _ (by omega) (by first | exact lst_take (by omega) (pE_iff.mpr (by omega)) | exact he.trans (lst_keep (by omega) (b_no pE_iff (by omega)))) (by first | exact fst_take (by omega) (by omega) (pBn_iff.mpr ⟨by omega, hbk⟩) | exact hb.trans (fst_keep (by omega) (Or.inr (by omega))) | exact hb.trans (fst_keep (by omega) (Or.inl (b_no pBn_iff (fun q9 => by have h8 := q9.2; rw [hbk] at h8; cases h8)))) | exact hb.trans (fst_keep (by omega) (Or.inl (b_no pBn_iff (fun q9 => by have h8 := q9.1; omega))))) (by first | exact fst_take (by omega) (by omega) (srv_iff.mpr (by omega)) | exact hw1.trans (fst_keep (by omega) (Or.inr (by omega))) | exact hw1.trans (fst_keep (by omega) (Or.inl (b_no srv_iff (by omega))))) hw (by omega) (lv_sub hl [3, 2, 1, 0, 6, 7, 8, 9] rfl)
                    · have hq1 := srv_iff.mp (fstI_q (q := srv (mLn hps) nw x0) (n := h.toNat) (by omega))
                      rw [← hw1] at hq1
                      have hr1 : mBr hps h.toNat < mBr hps w.toNat := by have h9 := hsrt w.toNat h.toNat (by omega) (by omega); omega
                      have hMe := rM w.toNat (by omega)
                      refine lv_iload hc.1 hc.2.1 dX9_choose_149 (lv_at hl 3 rfl) ?_
                      refine lv_aload_n hc.1 hc.2.1 dX9_choose_151 rfl (lv_at hl 6 rfl) ?_
                      refine lv_iload hc.1 hc.2.1 dX9_choose_152 (lv_at hl 4 rfl) ?_
                      refine nn_Vp (As := [.int (iI w)]) (st := [.int (iI (mBr hps h.toNat))]) hc hw hz rfl (c_X9_breadth l g  hz hhp (by omega)) (cwV 1 hc.2.2.2.2 gX9_choose_X9_breadth rfl rfl rfl (by decide +kernel) ⟨Nat.le_of_ble_eq_true rfl, Nat.le_of_ble_eq_true rfl⟩) rfl hl.1 rfl (Nat.le_of_ble_eq_true rfl) ⟨Nat.le_of_ble_eq_true rfl, Nat.le_of_ble_eq_true rfl⟩ dX9_choose_154 ?_
                      refine W.eq (g2 := F0 m 157 ls [.int (iI (mBr hps w.toNat)), .int (iI (mBr hps h.toNat))]) rfl ?_
                      refine nn_icmp_le hc dX9_choose_157 (tgt := 165) (by decide) (by omega) (by omega) (fun c17 => ?_) (fun c17 => ?_)
                      · refine lv_iload hc.1 hc.2.1 dX9_choose_165 (lv_at hl 4 rfl) ?_
                        refine lv_istore (lv' := [(6, .int (iI w)), (5, .int (iI b)), (4, .int (iI e)), (9, .int (iI 0)), (8, .int (iI (mBr hps h.toNat))), (7, .int (iI h)), (0, .ref z), (1, .int (iI x0)), (2, .int (iI p)), (3, .int (iI R))]) hc.1 hc.2.1 dX9_choose_167 hl (by decide) rfl (fun ls hl => ?_)
                        refine nn_iinc (lv' := [(7, .int (iI (h + 1))), (6, .int (iI w)), (5, .int (iI b)), (4, .int (iI e)), (9, .int (iI 0)), (8, .int (iI (mBr hps h.toNat))), (0, .ref z), (1, .int (iI x0)), (2, .int (iI p)), (3, .int (iI R))]) hc dX9_choose_169 hl (k0 := 5) rfl (by decide) rfl (fun ls hl => ?_)
                        refine lv_goto hc.1 hc.2.1 dX9_choose_172 (tgt := 15) (by decide) ?_
                        exact ih15 e b w (h + 1) _ _ _ (by omega) (by first | exact lst_take (by omega) (pE_iff.mpr (by omega)) | exact he.trans (lst_keep (by omega) (b_no pE_iff (by omega)))) (by first | exact fst_take (by omega) (by omega) (pBn_iff.mpr ⟨by omega, hbk⟩) | exact hb.trans (fst_keep (by omega) (Or.inr (by omega))) | exact hb.trans (fst_keep (by omega) (Or.inl (b_no pBn_iff (fun q9 => by have h8 := q9.2; rw [hbk] at h8; cases h8)))) | exact hb.trans (fst_keep (by omega) (Or.inl (b_no pBn_iff (fun q9 => by have h8 := q9.1; omega))))) (by first | exact fst_take (by omega) (by omega) (srv_iff.mpr (by omega)) | exact hw1.trans (fst_keep (by omega) (Or.inr (by omega))) | exact hw1.trans (fst_keep (by omega) (Or.inl (b_no srv_iff (by omega))))) hw (by omega) (lv_sub hl [3, 2, 1, 0, 6, 7, 8, 9] rfl)
                      · exfalso; omega
                  · have hbk : brk js (stg 3) (p + mBr hps h.toNat) mJC.toNat = true := Classical.byContradiction (fun q9 => c15 (if_neg q9))
                    refine lv_iload hc.1 hc.2.1 dX9_choose_115 (lv_at hl 3 rfl) ?_
                    refine nn_bipush hc dX9_choose_117 (by decide +kernel) ?_
                    refine nn_icmp_eq hc dX9_choose_119 (tgt := 133) (by decide) (by omega) (by decide) (fun c18 => ?_) (fun c18 => ?_)
                    · refine lv_iload hc.1 hc.2.1 dX9_choose_133 (lv_at hl 5 rfl) ?_
                      refine lv_goto hc.1 hc.2.1 dX9_choose_135 (tgt := 140) (by decide) ?_
                      refine lv_istore (lv' := [(5, .int (iI h)), (4, .int (iI e)), (9, .int (iI 0)), (8, .int (iI (mBr hps h.toNat))), (6, .int (iI w)), (7, .int (iI h)), (0, .ref z), (1, .int (iI x0)), (2, .int (iI p)), (3, .int (iI R))]) hc.1 hc.2.1 dX9_choose_140 hl (by decide) rfl (fun ls hl => ?_)
                      refine lv_iload hc.1 hc.2.1 dX9_choose_142 (lv_at hl 4 rfl) ?_
                      refine nn_bipush hc dX9_choose_144 (by decide +kernel) ?_
                      refine nn_icmp_eq hc dX9_choose_146 (tgt := 160) (by decide) (by omega) (by decide) (fun c19 => ?_) (fun c19 => ?_)
                      · refine lv_iload hc.1 hc.2.1 dX9_choose_160 (lv_at hl 5 rfl) ?_
                        refine lv_goto hc.1 hc.2.1 dX9_choose_162 (tgt := 167) (by decide) ?_
                        refine lv_istore (lv' := [(6, .int (iI h)), (5, .int (iI h)), (4, .int (iI e)), (9, .int (iI 0)), (8, .int (iI (mBr hps h.toNat))), (7, .int (iI h)), (0, .ref z), (1, .int (iI x0)), (2, .int (iI p)), (3, .int (iI R))]) hc.1 hc.2.1 dX9_choose_167 hl (by decide) rfl (fun ls hl => ?_)
                        refine nn_iinc (lv' := [(7, .int (iI (h + 1))), (6, .int (iI h)), (5, .int (iI h)), (4, .int (iI e)), (9, .int (iI 0)), (8, .int (iI (mBr hps h.toNat))), (0, .ref z), (1, .int (iI x0)), (2, .int (iI p)), (3, .int (iI R))]) hc dX9_choose_169 hl (k0 := 5) rfl (by decide) rfl (fun ls hl => ?_)
                        refine lv_goto hc.1 hc.2.1 dX9_choose_172 (tgt := 15) (by decide) ?_
                        exact ih15 e h h (h + 1) _ _ _ (by omega) (by first | exact lst_take (by omega) (pE_iff.mpr (by omega)) | exact he.trans (lst_keep (by omega) (b_no pE_iff (by omega)))) (by first | exact fst_take (by omega) (by omega) (pBn_iff.mpr ⟨by omega, hbk⟩) | exact hb.trans (fst_keep (by omega) (Or.inr (by omega))) | exact hb.trans (fst_keep (by omega) (Or.inl (b_no pBn_iff (fun q9 => by have h8 := q9.2; rw [hbk] at h8; cases h8)))) | exact hb.trans (fst_keep (by omega) (Or.inl (b_no pBn_iff (fun q9 => by have h8 := q9.1; omega))))) (by first | exact fst_take (by omega) (by omega) (srv_iff.mpr (by omega)) | exact hw1.trans (fst_keep (by omega) (Or.inr (by omega))) | exact hw1.trans (fst_keep (by omega) (Or.inl (b_no srv_iff (by omega))))) hw (by omega) (lv_sub hl [3, 2, 1, 0, 6, 7, 8, 9] rfl)
                      · have hq1 := srv_iff.mp (fstI_q (q := srv (mLn hps) nw x0) (n := h.toNat) (by omega))
                        rw [← hw1] at hq1
                        have hr1 : mBr hps h.toNat < mBr hps w.toNat := by have h9 := hsrt w.toNat h.toNat (by omega) (by omega); omega
                        have hMe := rM w.toNat (by omega)
                        refine lv_iload hc.1 hc.2.1 dX9_choose_149 (lv_at hl 3 rfl) ?_
                        refine lv_aload_n hc.1 hc.2.1 dX9_choose_151 rfl (lv_at hl 6 rfl) ?_
                        refine lv_iload hc.1 hc.2.1 dX9_choose_152 (lv_at hl 4 rfl) ?_
                        refine nn_Vp (As := [.int (iI w)]) (st := [.int (iI (mBr hps h.toNat))]) hc hw hz rfl (c_X9_breadth l g  hz hhp (by omega)) (cwV 1 hc.2.2.2.2 gX9_choose_X9_breadth rfl rfl rfl (by decide +kernel) ⟨Nat.le_of_ble_eq_true rfl, Nat.le_of_ble_eq_true rfl⟩) rfl hl.1 rfl (Nat.le_of_ble_eq_true rfl) ⟨Nat.le_of_ble_eq_true rfl, Nat.le_of_ble_eq_true rfl⟩ dX9_choose_154 ?_
                        refine W.eq (g2 := F0 m 157 ls [.int (iI (mBr hps w.toNat)), .int (iI (mBr hps h.toNat))]) rfl ?_
                        refine nn_icmp_le hc dX9_choose_157 (tgt := 165) (by decide) (by omega) (by omega) (fun c20 => ?_) (fun c20 => ?_)
                        · refine lv_iload hc.1 hc.2.1 dX9_choose_165 (lv_at hl 4 rfl) ?_
                          refine lv_istore (lv' := [(6, .int (iI w)), (5, .int (iI h)), (4, .int (iI e)), (9, .int (iI 0)), (8, .int (iI (mBr hps h.toNat))), (7, .int (iI h)), (0, .ref z), (1, .int (iI x0)), (2, .int (iI p)), (3, .int (iI R))]) hc.1 hc.2.1 dX9_choose_167 hl (by decide) rfl (fun ls hl => ?_)
                          refine nn_iinc (lv' := [(7, .int (iI (h + 1))), (6, .int (iI w)), (5, .int (iI h)), (4, .int (iI e)), (9, .int (iI 0)), (8, .int (iI (mBr hps h.toNat))), (0, .ref z), (1, .int (iI x0)), (2, .int (iI p)), (3, .int (iI R))]) hc dX9_choose_169 hl (k0 := 5) rfl (by decide) rfl (fun ls hl => ?_)
                          refine lv_goto hc.1 hc.2.1 dX9_choose_172 (tgt := 15) (by decide) ?_
                          exact ih15 e h w (h + 1) _ _ _ (by omega) (by first | exact lst_take (by omega) (pE_iff.mpr (by omega)) | exact he.trans (lst_keep (by omega) (b_no pE_iff (by omega)))) (by first | exact fst_take (by omega) (by omega) (pBn_iff.mpr ⟨by omega, hbk⟩) | exact hb.trans (fst_keep (by omega) (Or.inr (by omega))) | exact hb.trans (fst_keep (by omega) (Or.inl (b_no pBn_iff (fun q9 => by have h8 := q9.2; rw [hbk] at h8; cases h8)))) | exact hb.trans (fst_keep (by omega) (Or.inl (b_no pBn_iff (fun q9 => by have h8 := q9.1; omega))))) (by first | exact fst_take (by omega) (by omega) (srv_iff.mpr (by omega)) | exact hw1.trans (fst_keep (by omega) (Or.inr (by omega))) | exact hw1.trans (fst_keep (by omega) (Or.inl (b_no srv_iff (by omega))))) hw (by omega) (lv_sub hl [3, 2, 1, 0, 6, 7, 8, 9] rfl)
                        · exfalso; omega
                    · have hq1 := (pBn_iff.mp (fstI_q (q := pBn (mLn hps) (mBr hps) nw x0 R js (stg 3) mJC.toNat p) (n := h.toNat) (by omega))).1
                      rw [← hb] at hq1
                      have hr1 : mBr hps h.toNat < mBr hps b.toNat := by have h9 := hsrt b.toNat h.toNat (by omega) (by omega); omega
                      have hMe := rM b.toNat (by omega)
                      refine lv_iload hc.1 hc.2.1 dX9_choose_122 (lv_at hl 2 rfl) ?_
                      refine lv_aload_n hc.1 hc.2.1 dX9_choose_124 rfl (lv_at hl 6 rfl) ?_
                      refine lv_iload hc.1 hc.2.1 dX9_choose_125 (lv_at hl 3 rfl) ?_
                      refine nn_Vp (As := [.int (iI b)]) (st := [.int (iI (mBr hps h.toNat))]) hc hw hz rfl (c_X9_breadth l g  hz hhp (by omega)) (cwV 1 hc.2.2.2.2 gX9_choose_X9_breadth rfl rfl rfl (by decide +kernel) ⟨Nat.le_of_ble_eq_true rfl, Nat.le_of_ble_eq_true rfl⟩) rfl hl.1 rfl (Nat.le_of_ble_eq_true rfl) ⟨Nat.le_of_ble_eq_true rfl, Nat.le_of_ble_eq_true rfl⟩ dX9_choose_127 ?_
                      refine W.eq (g2 := F0 m 130 ls [.int (iI (mBr hps b.toNat)), .int (iI (mBr hps h.toNat))]) rfl ?_
                      refine nn_icmp_le hc dX9_choose_130 (tgt := 138) (by decide) (by omega) (by omega) (fun c21 => ?_) (fun c21 => ?_)
                      · refine lv_iload hc.1 hc.2.1 dX9_choose_138 (lv_at hl 3 rfl) ?_
                        refine lv_istore (lv' := [(5, .int (iI b)), (4, .int (iI e)), (9, .int (iI 0)), (8, .int (iI (mBr hps h.toNat))), (6, .int (iI w)), (7, .int (iI h)), (0, .ref z), (1, .int (iI x0)), (2, .int (iI p)), (3, .int (iI R))]) hc.1 hc.2.1 dX9_choose_140 hl (by decide) rfl (fun ls hl => ?_)
                        refine lv_iload hc.1 hc.2.1 dX9_choose_142 (lv_at hl 4 rfl) ?_
                        refine nn_bipush hc dX9_choose_144 (by decide +kernel) ?_
                        refine nn_icmp_eq hc dX9_choose_146 (tgt := 160) (by decide) (by omega) (by decide) (fun c22 => ?_) (fun c22 => ?_)
                        · refine lv_iload hc.1 hc.2.1 dX9_choose_160 (lv_at hl 5 rfl) ?_
                          refine lv_goto hc.1 hc.2.1 dX9_choose_162 (tgt := 167) (by decide) ?_
                          refine lv_istore (lv' := [(6, .int (iI h)), (5, .int (iI b)), (4, .int (iI e)), (9, .int (iI 0)), (8, .int (iI (mBr hps h.toNat))), (7, .int (iI h)), (0, .ref z), (1, .int (iI x0)), (2, .int (iI p)), (3, .int (iI R))]) hc.1 hc.2.1 dX9_choose_167 hl (by decide) rfl (fun ls hl => ?_)
                          refine nn_iinc (lv' := [(7, .int (iI (h + 1))), (6, .int (iI h)), (5, .int (iI b)), (4, .int (iI e)), (9, .int (iI 0)), (8, .int (iI (mBr hps h.toNat))), (0, .ref z), (1, .int (iI x0)), (2, .int (iI p)), (3, .int (iI R))]) hc dX9_choose_169 hl (k0 := 5) rfl (by decide) rfl (fun ls hl => ?_)
                          refine lv_goto hc.1 hc.2.1 dX9_choose_172 (tgt := 15) (by decide) ?_
                          exact ih15 e b h (h + 1) _ _ _ (by omega) (by first | exact lst_take (by omega) (pE_iff.mpr (by omega)) | exact he.trans (lst_keep (by omega) (b_no pE_iff (by omega)))) (by first | exact fst_take (by omega) (by omega) (pBn_iff.mpr ⟨by omega, hbk⟩) | exact hb.trans (fst_keep (by omega) (Or.inr (by omega))) | exact hb.trans (fst_keep (by omega) (Or.inl (b_no pBn_iff (fun q9 => by have h8 := q9.2; rw [hbk] at h8; cases h8)))) | exact hb.trans (fst_keep (by omega) (Or.inl (b_no pBn_iff (fun q9 => by have h8 := q9.1; omega))))) (by first | exact fst_take (by omega) (by omega) (srv_iff.mpr (by omega)) | exact hw1.trans (fst_keep (by omega) (Or.inr (by omega))) | exact hw1.trans (fst_keep (by omega) (Or.inl (b_no srv_iff (by omega))))) hw (by omega) (lv_sub hl [3, 2, 1, 0, 6, 7, 8, 9] rfl)
                        · have hq1 := srv_iff.mp (fstI_q (q := srv (mLn hps) nw x0) (n := h.toNat) (by omega))
                          rw [← hw1] at hq1
                          have hr1 : mBr hps h.toNat < mBr hps w.toNat := by have h9 := hsrt w.toNat h.toNat (by omega) (by omega); omega
                          have hMe := rM w.toNat (by omega)
                          refine lv_iload hc.1 hc.2.1 dX9_choose_149 (lv_at hl 3 rfl) ?_
                          refine lv_aload_n hc.1 hc.2.1 dX9_choose_151 rfl (lv_at hl 6 rfl) ?_
                          refine lv_iload hc.1 hc.2.1 dX9_choose_152 (lv_at hl 4 rfl) ?_
                          refine nn_Vp (As := [.int (iI w)]) (st := [.int (iI (mBr hps h.toNat))]) hc hw hz rfl (c_X9_breadth l g  hz hhp (by omega)) (cwV 1 hc.2.2.2.2 gX9_choose_X9_breadth rfl rfl rfl (by decide +kernel) ⟨Nat.le_of_ble_eq_true rfl, Nat.le_of_ble_eq_true rfl⟩) rfl hl.1 rfl (Nat.le_of_ble_eq_true rfl) ⟨Nat.le_of_ble_eq_true rfl, Nat.le_of_ble_eq_true rfl⟩ dX9_choose_154 ?_
                          refine W.eq (g2 := F0 m 157 ls [.int (iI (mBr hps w.toNat)), .int (iI (mBr hps h.toNat))]) rfl ?_
                          refine nn_icmp_le hc dX9_choose_157 (tgt := 165) (by decide) (by omega) (by omega) (fun c23 => ?_) (fun c23 => ?_)
                          · refine lv_iload hc.1 hc.2.1 dX9_choose_165 (lv_at hl 4 rfl) ?_
                            refine lv_istore (lv' := [(6, .int (iI w)), (5, .int (iI b)), (4, .int (iI e)), (9, .int (iI 0)), (8, .int (iI (mBr hps h.toNat))), (7, .int (iI h)), (0, .ref z), (1, .int (iI x0)), (2, .int (iI p)), (3, .int (iI R))]) hc.1 hc.2.1 dX9_choose_167 hl (by decide) rfl (fun ls hl => ?_)
                            refine nn_iinc (lv' := [(7, .int (iI (h + 1))), (6, .int (iI w)), (5, .int (iI b)), (4, .int (iI e)), (9, .int (iI 0)), (8, .int (iI (mBr hps h.toNat))), (0, .ref z), (1, .int (iI x0)), (2, .int (iI p)), (3, .int (iI R))]) hc dX9_choose_169 hl (k0 := 5) rfl (by decide) rfl (fun ls hl => ?_)
                            refine lv_goto hc.1 hc.2.1 dX9_choose_172 (tgt := 15) (by decide) ?_
                            exact ih15 e b w (h + 1) _ _ _ (by omega) (by first | exact lst_take (by omega) (pE_iff.mpr (by omega)) | exact he.trans (lst_keep (by omega) (b_no pE_iff (by omega)))) (by first | exact fst_take (by omega) (by omega) (pBn_iff.mpr ⟨by omega, hbk⟩) | exact hb.trans (fst_keep (by omega) (Or.inr (by omega))) | exact hb.trans (fst_keep (by omega) (Or.inl (b_no pBn_iff (fun q9 => by have h8 := q9.2; rw [hbk] at h8; cases h8)))) | exact hb.trans (fst_keep (by omega) (Or.inl (b_no pBn_iff (fun q9 => by have h8 := q9.1; omega))))) (by first | exact fst_take (by omega) (by omega) (srv_iff.mpr (by omega)) | exact hw1.trans (fst_keep (by omega) (Or.inr (by omega))) | exact hw1.trans (fst_keep (by omega) (Or.inl (b_no srv_iff (by omega))))) hw (by omega) (lv_sub hl [3, 2, 1, 0, 6, 7, 8, 9] rfl)
                          · exfalso; omega
                      · exfalso; omega
              · exact absurd c13 (by decide)
            · refine nn_iconst hc dX9_choose_60 ?_
              refine lv_goto hc.1 hc.2.1 dX9_choose_61 (tgt := 65) (by decide) ?_
              refine lv_istore (lv' := [(9, .int (iI 1)), (8, .int (iI (mBr hps h.toNat))), (4, .int (iI e)), (5, .int (iI b)), (6, .int (iI w)), (7, .int (iI h)), (0, .ref z), (1, .int (iI x0)), (2, .int (iI p)), (3, .int (iI R))]) hc.1 hc.2.1 dX9_choose_65 hl (by decide) rfl (fun ls hl => ?_)
              refine lv_iload hc.1 hc.2.1 dX9_choose_67 (lv_at hl 0 rfl) ?_
              refine nn_if_eq hc dX9_choose_69 (tgt := 95) (by decide) (by decide) (fun c24 => ?_) (fun c24 => ?_)
              · exact absurd c24 (by decide)
              · refine lv_iload hc.1 hc.2.1 dX9_choose_72 (lv_at hl 2 rfl) ?_
                refine nn_bipush hc dX9_choose_74 (by decide +kernel) ?_
                refine nn_icmp_eq hc dX9_choose_76 (tgt := 90) (by decide) (by omega) (by decide) (fun c25 => ?_) (fun c25 => ?_)
                · refine lv_iload hc.1 hc.2.1 dX9_choose_90 (lv_at hl 5 rfl) ?_
                  refine lv_goto hc.1 hc.2.1 dX9_choose_92 (tgt := 97) (by decide) ?_
                  refine lv_istore (lv' := [(4, .int (iI h)), (9, .int (iI 1)), (8, .int (iI (mBr hps h.toNat))), (5, .int (iI b)), (6, .int (iI w)), (7, .int (iI h)), (0, .ref z), (1, .int (iI x0)), (2, .int (iI p)), (3, .int (iI R))]) hc.1 hc.2.1 dX9_choose_97 hl (by decide) rfl (fun ls hl => ?_)
                  refine lv_iload hc.1 hc.2.1 dX9_choose_99 (lv_at hl 1 rfl) ?_
                  refine nn_if_ne hc dX9_choose_101 (tgt := 138) (by decide) (by decide) (fun c26 => ?_) (fun c26 => ?_)
                  · refine lv_iload hc.1 hc.2.1 dX9_choose_138 (lv_at hl 3 rfl) ?_
                    refine lv_istore (lv' := [(5, .int (iI b)), (4, .int (iI h)), (9, .int (iI 1)), (8, .int (iI (mBr hps h.toNat))), (6, .int (iI w)), (7, .int (iI h)), (0, .ref z), (1, .int (iI x0)), (2, .int (iI p)), (3, .int (iI R))]) hc.1 hc.2.1 dX9_choose_140 hl (by decide) rfl (fun ls hl => ?_)
                    refine lv_iload hc.1 hc.2.1 dX9_choose_142 (lv_at hl 4 rfl) ?_
                    refine nn_bipush hc dX9_choose_144 (by decide +kernel) ?_
                    refine nn_icmp_eq hc dX9_choose_146 (tgt := 160) (by decide) (by omega) (by decide) (fun c27 => ?_) (fun c27 => ?_)
                    · refine lv_iload hc.1 hc.2.1 dX9_choose_160 (lv_at hl 5 rfl) ?_
                      refine lv_goto hc.1 hc.2.1 dX9_choose_162 (tgt := 167) (by decide) ?_
                      refine lv_istore (lv' := [(6, .int (iI h)), (5, .int (iI b)), (4, .int (iI h)), (9, .int (iI 1)), (8, .int (iI (mBr hps h.toNat))), (7, .int (iI h)), (0, .ref z), (1, .int (iI x0)), (2, .int (iI p)), (3, .int (iI R))]) hc.1 hc.2.1 dX9_choose_167 hl (by decide) rfl (fun ls hl => ?_)
                      refine nn_iinc (lv' := [(7, .int (iI (h + 1))), (6, .int (iI h)), (5, .int (iI b)), (4, .int (iI h)), (9, .int (iI 1)), (8, .int (iI (mBr hps h.toNat))), (0, .ref z), (1, .int (iI x0)), (2, .int (iI p)), (3, .int (iI R))]) hc dX9_choose_169 hl (k0 := 5) rfl (by decide) rfl (fun ls hl => ?_)
                      refine lv_goto hc.1 hc.2.1 dX9_choose_172 (tgt := 15) (by decide) ?_
                      exact ih15 h b h (h + 1) _ _ _ (by omega) (by first | exact lst_take (by omega) (pE_iff.mpr (by omega)) | exact he.trans (lst_keep (by omega) (b_no pE_iff (by omega)))) (by first | exact fst_take (by omega) (by omega) (pBn_iff.mpr ⟨by omega, hbk⟩) | exact hb.trans (fst_keep (by omega) (Or.inr (by omega))) | exact hb.trans (fst_keep (by omega) (Or.inl (b_no pBn_iff (fun q9 => by have h8 := q9.2; rw [hbk] at h8; cases h8)))) | exact hb.trans (fst_keep (by omega) (Or.inl (b_no pBn_iff (fun q9 => by have h8 := q9.1; omega))))) (by first | exact fst_take (by omega) (by omega) (srv_iff.mpr (by omega)) | exact hw1.trans (fst_keep (by omega) (Or.inr (by omega))) | exact hw1.trans (fst_keep (by omega) (Or.inl (b_no srv_iff (by omega))))) hw (by omega) (lv_sub hl [3, 2, 1, 0, 6, 7, 8, 9] rfl)
                    · have hq1 := srv_iff.mp (fstI_q (q := srv (mLn hps) nw x0) (n := h.toNat) (by omega))
                      rw [← hw1] at hq1
                      have hr1 : mBr hps h.toNat < mBr hps w.toNat := by have h9 := hsrt w.toNat h.toNat (by omega) (by omega); omega
                      have hMe := rM w.toNat (by omega)
                      refine lv_iload hc.1 hc.2.1 dX9_choose_149 (lv_at hl 3 rfl) ?_
                      refine lv_aload_n hc.1 hc.2.1 dX9_choose_151 rfl (lv_at hl 6 rfl) ?_
                      refine lv_iload hc.1 hc.2.1 dX9_choose_152 (lv_at hl 4 rfl) ?_
                      refine nn_Vp (As := [.int (iI w)]) (st := [.int (iI (mBr hps h.toNat))]) hc hw hz rfl (c_X9_breadth l g  hz hhp (by omega)) (cwV 1 hc.2.2.2.2 gX9_choose_X9_breadth rfl rfl rfl (by decide +kernel) ⟨Nat.le_of_ble_eq_true rfl, Nat.le_of_ble_eq_true rfl⟩) rfl hl.1 rfl (Nat.le_of_ble_eq_true rfl) ⟨Nat.le_of_ble_eq_true rfl, Nat.le_of_ble_eq_true rfl⟩ dX9_choose_154 ?_
                      refine W.eq (g2 := F0 m 157 ls [.int (iI (mBr hps w.toNat)), .int (iI (mBr hps h.toNat))]) rfl ?_
                      refine nn_icmp_le hc dX9_choose_157 (tgt := 165) (by decide) (by omega) (by omega) (fun c28 => ?_) (fun c28 => ?_)
                      · refine lv_iload hc.1 hc.2.1 dX9_choose_165 (lv_at hl 4 rfl) ?_
                        refine lv_istore (lv' := [(6, .int (iI w)), (5, .int (iI b)), (4, .int (iI h)), (9, .int (iI 1)), (8, .int (iI (mBr hps h.toNat))), (7, .int (iI h)), (0, .ref z), (1, .int (iI x0)), (2, .int (iI p)), (3, .int (iI R))]) hc.1 hc.2.1 dX9_choose_167 hl (by decide) rfl (fun ls hl => ?_)
                        refine nn_iinc (lv' := [(7, .int (iI (h + 1))), (6, .int (iI w)), (5, .int (iI b)), (4, .int (iI h)), (9, .int (iI 1)), (8, .int (iI (mBr hps h.toNat))), (0, .ref z), (1, .int (iI x0)), (2, .int (iI p)), (3, .int (iI R))]) hc dX9_choose_169 hl (k0 := 5) rfl (by decide) rfl (fun ls hl => ?_)
                        refine lv_goto hc.1 hc.2.1 dX9_choose_172 (tgt := 15) (by decide) ?_
                        exact ih15 h b w (h + 1) _ _ _ (by omega) (by first | exact lst_take (by omega) (pE_iff.mpr (by omega)) | exact he.trans (lst_keep (by omega) (b_no pE_iff (by omega)))) (by first | exact fst_take (by omega) (by omega) (pBn_iff.mpr ⟨by omega, hbk⟩) | exact hb.trans (fst_keep (by omega) (Or.inr (by omega))) | exact hb.trans (fst_keep (by omega) (Or.inl (b_no pBn_iff (fun q9 => by have h8 := q9.2; rw [hbk] at h8; cases h8)))) | exact hb.trans (fst_keep (by omega) (Or.inl (b_no pBn_iff (fun q9 => by have h8 := q9.1; omega))))) (by first | exact fst_take (by omega) (by omega) (srv_iff.mpr (by omega)) | exact hw1.trans (fst_keep (by omega) (Or.inr (by omega))) | exact hw1.trans (fst_keep (by omega) (Or.inl (b_no srv_iff (by omega))))) hw (by omega) (lv_sub hl [3, 2, 1, 0, 6, 7, 8, 9] rfl)
                      · exfalso; omega
                  · exact absurd c26 (by decide)
                · have hq1 := pE_iff.mp (lstI_q (q := pE (mLn hps) (mBr hps) nw x0 R p) (n := h.toNat) (by omega))
                  rw [← he] at hq1
                  have hr1 : mBr hps h.toNat < mBr hps e.toNat := by have h9 := hsrt e.toNat h.toNat (by omega) (by omega); omega
                  have hMe := rM e.toNat (by omega)
                  refine lv_iload hc.1 hc.2.1 dX9_choose_79 (lv_at hl 1 rfl) ?_
                  refine lv_aload_n hc.1 hc.2.1 dX9_choose_81 rfl (lv_at hl 6 rfl) ?_
                  refine lv_iload hc.1 hc.2.1 dX9_choose_82 (lv_at hl 2 rfl) ?_
                  refine nn_Vp (As := [.int (iI e)]) (st := [.int (iI (mBr hps h.toNat))]) hc hw hz rfl (c_X9_breadth l g  hz hhp (by omega)) (cwV 1 hc.2.2.2.2 gX9_choose_X9_breadth rfl rfl rfl (by decide +kernel) ⟨Nat.le_of_ble_eq_true rfl, Nat.le_of_ble_eq_true rfl⟩) rfl hl.1 rfl (Nat.le_of_ble_eq_true rfl) ⟨Nat.le_of_ble_eq_true rfl, Nat.le_of_ble_eq_true rfl⟩ dX9_choose_84 ?_
                  refine W.eq (g2 := F0 m 87 ls [.int (iI (mBr hps e.toNat)), .int (iI (mBr hps h.toNat))]) rfl ?_
                  refine nn_icmp_ge hc dX9_choose_87 (tgt := 95) (by decide) (by omega) (by omega) (fun c29 => ?_) (fun c29 => ?_)
                  · exfalso; omega
                  · refine lv_iload hc.1 hc.2.1 dX9_choose_90 (lv_at hl 5 rfl) ?_
                    refine lv_goto hc.1 hc.2.1 dX9_choose_92 (tgt := 97) (by decide) ?_
                    refine lv_istore (lv' := [(4, .int (iI h)), (9, .int (iI 1)), (8, .int (iI (mBr hps h.toNat))), (5, .int (iI b)), (6, .int (iI w)), (7, .int (iI h)), (0, .ref z), (1, .int (iI x0)), (2, .int (iI p)), (3, .int (iI R))]) hc.1 hc.2.1 dX9_choose_97 hl (by decide) rfl (fun ls hl => ?_)
                    refine lv_iload hc.1 hc.2.1 dX9_choose_99 (lv_at hl 1 rfl) ?_
                    refine nn_if_ne hc dX9_choose_101 (tgt := 138) (by decide) (by decide) (fun c30 => ?_) (fun c30 => ?_)
                    · refine lv_iload hc.1 hc.2.1 dX9_choose_138 (lv_at hl 3 rfl) ?_
                      refine lv_istore (lv' := [(5, .int (iI b)), (4, .int (iI h)), (9, .int (iI 1)), (8, .int (iI (mBr hps h.toNat))), (6, .int (iI w)), (7, .int (iI h)), (0, .ref z), (1, .int (iI x0)), (2, .int (iI p)), (3, .int (iI R))]) hc.1 hc.2.1 dX9_choose_140 hl (by decide) rfl (fun ls hl => ?_)
                      refine lv_iload hc.1 hc.2.1 dX9_choose_142 (lv_at hl 4 rfl) ?_
                      refine nn_bipush hc dX9_choose_144 (by decide +kernel) ?_
                      refine nn_icmp_eq hc dX9_choose_146 (tgt := 160) (by decide) (by omega) (by decide) (fun c31 => ?_) (fun c31 => ?_)
                      · refine lv_iload hc.1 hc.2.1 dX9_choose_160 (lv_at hl 5 rfl) ?_
                        refine lv_goto hc.1 hc.2.1 dX9_choose_162 (tgt := 167) (by decide) ?_
                        refine lv_istore (lv' := [(6, .int (iI h)), (5, .int (iI b)), (4, .int (iI h)), (9, .int (iI 1)), (8, .int (iI (mBr hps h.toNat))), (7, .int (iI h)), (0, .ref z), (1, .int (iI x0)), (2, .int (iI p)), (3, .int (iI R))]) hc.1 hc.2.1 dX9_choose_167 hl (by decide) rfl (fun ls hl => ?_)
                        refine nn_iinc (lv' := [(7, .int (iI (h + 1))), (6, .int (iI h)), (5, .int (iI b)), (4, .int (iI h)), (9, .int (iI 1)), (8, .int (iI (mBr hps h.toNat))), (0, .ref z), (1, .int (iI x0)), (2, .int (iI p)), (3, .int (iI R))]) hc dX9_choose_169 hl (k0 := 5) rfl (by decide) rfl (fun ls hl => ?_)
                        refine lv_goto hc.1 hc.2.1 dX9_choose_172 (tgt := 15) (by decide) ?_
                        exact ih15 h b h (h + 1) _ _ _ (by omega) (by first | exact lst_take (by omega) (pE_iff.mpr (by omega)) | exact he.trans (lst_keep (by omega) (b_no pE_iff (by omega)))) (by first | exact fst_take (by omega) (by omega) (pBn_iff.mpr ⟨by omega, hbk⟩) | exact hb.trans (fst_keep (by omega) (Or.inr (by omega))) | exact hb.trans (fst_keep (by omega) (Or.inl (b_no pBn_iff (fun q9 => by have h8 := q9.2; rw [hbk] at h8; cases h8)))) | exact hb.trans (fst_keep (by omega) (Or.inl (b_no pBn_iff (fun q9 => by have h8 := q9.1; omega))))) (by first | exact fst_take (by omega) (by omega) (srv_iff.mpr (by omega)) | exact hw1.trans (fst_keep (by omega) (Or.inr (by omega))) | exact hw1.trans (fst_keep (by omega) (Or.inl (b_no srv_iff (by omega))))) hw (by omega) (lv_sub hl [3, 2, 1, 0, 6, 7, 8, 9] rfl)
                      · have hq1 := srv_iff.mp (fstI_q (q := srv (mLn hps) nw x0) (n := h.toNat) (by omega))
                        rw [← hw1] at hq1
                        have hr1 : mBr hps h.toNat < mBr hps w.toNat := by have h9 := hsrt w.toNat h.toNat (by omega) (by omega); omega
                        have hMe := rM w.toNat (by omega)
                        refine lv_iload hc.1 hc.2.1 dX9_choose_149 (lv_at hl 3 rfl) ?_
                        refine lv_aload_n hc.1 hc.2.1 dX9_choose_151 rfl (lv_at hl 6 rfl) ?_
                        refine lv_iload hc.1 hc.2.1 dX9_choose_152 (lv_at hl 4 rfl) ?_
                        refine nn_Vp (As := [.int (iI w)]) (st := [.int (iI (mBr hps h.toNat))]) hc hw hz rfl (c_X9_breadth l g  hz hhp (by omega)) (cwV 1 hc.2.2.2.2 gX9_choose_X9_breadth rfl rfl rfl (by decide +kernel) ⟨Nat.le_of_ble_eq_true rfl, Nat.le_of_ble_eq_true rfl⟩) rfl hl.1 rfl (Nat.le_of_ble_eq_true rfl) ⟨Nat.le_of_ble_eq_true rfl, Nat.le_of_ble_eq_true rfl⟩ dX9_choose_154 ?_
                        refine W.eq (g2 := F0 m 157 ls [.int (iI (mBr hps w.toNat)), .int (iI (mBr hps h.toNat))]) rfl ?_
                        refine nn_icmp_le hc dX9_choose_157 (tgt := 165) (by decide) (by omega) (by omega) (fun c32 => ?_) (fun c32 => ?_)
                        · refine lv_iload hc.1 hc.2.1 dX9_choose_165 (lv_at hl 4 rfl) ?_
                          refine lv_istore (lv' := [(6, .int (iI w)), (5, .int (iI b)), (4, .int (iI h)), (9, .int (iI 1)), (8, .int (iI (mBr hps h.toNat))), (7, .int (iI h)), (0, .ref z), (1, .int (iI x0)), (2, .int (iI p)), (3, .int (iI R))]) hc.1 hc.2.1 dX9_choose_167 hl (by decide) rfl (fun ls hl => ?_)
                          refine nn_iinc (lv' := [(7, .int (iI (h + 1))), (6, .int (iI w)), (5, .int (iI b)), (4, .int (iI h)), (9, .int (iI 1)), (8, .int (iI (mBr hps h.toNat))), (0, .ref z), (1, .int (iI x0)), (2, .int (iI p)), (3, .int (iI R))]) hc dX9_choose_169 hl (k0 := 5) rfl (by decide) rfl (fun ls hl => ?_)
                          refine lv_goto hc.1 hc.2.1 dX9_choose_172 (tgt := 15) (by decide) ?_
                          exact ih15 h b w (h + 1) _ _ _ (by omega) (by first | exact lst_take (by omega) (pE_iff.mpr (by omega)) | exact he.trans (lst_keep (by omega) (b_no pE_iff (by omega)))) (by first | exact fst_take (by omega) (by omega) (pBn_iff.mpr ⟨by omega, hbk⟩) | exact hb.trans (fst_keep (by omega) (Or.inr (by omega))) | exact hb.trans (fst_keep (by omega) (Or.inl (b_no pBn_iff (fun q9 => by have h8 := q9.2; rw [hbk] at h8; cases h8)))) | exact hb.trans (fst_keep (by omega) (Or.inl (b_no pBn_iff (fun q9 => by have h8 := q9.1; omega))))) (by first | exact fst_take (by omega) (by omega) (srv_iff.mpr (by omega)) | exact hw1.trans (fst_keep (by omega) (Or.inr (by omega))) | exact hw1.trans (fst_keep (by omega) (Or.inl (b_no srv_iff (by omega))))) hw (by omega) (lv_sub hl [3, 2, 1, 0, 6, 7, 8, 9] rfl)
                        · exfalso; omega
                    · exact absurd c30 (by decide)
  exact lab15 _ (-4) (-4) (-4) 0 _ _ _ (by omega) (rfl) (rfl) (rfl) hw (Nat.lt_succ_self _) (lv_sub hl [3, 2, 1, 0, 4, 5, 6, 7] rfl)

set_option maxHeartbeats 4000000 in
set_option maxRecDepth 100000 in
theorem c_X9_choose_joint (l : Launch) (g : gG) {n : Nat} {S : Nat → gE} {z : Nat} {mLen mAt mHC mRC mHS mJC mCh mVi : Int} {stg hps nw js : Nat → Int} {x0 p R : Int} {hx : Nat} {vx : Int} (hz : S z = oO 9 [.ref (z + 1), .int (iI mLen), .int (iI mAt), .ref (z + 2), .ref (z + 3), .ref (z + 4), .ref (z + 5), .int (iI mHC), .int (iI mRC), .ref (z + 6), .ref (z + 7), .ref (z + 8), .int (iI mHS), .ref (z + 9), .ref (z + 10), .int (iI mJC), .int (iI mCh), .int (iI mVi)]) (hst : S (z + 2) = oI g 5 stg) (hhp : S (z + 4) = oI g 24 hps) (hnw : S (z + 6) = oI g 1249 nw) (hjs : S (z + 10) = oI g 60 js) (rHC : 0 ≤ mHC ∧ mHC ≤ 8) (rM : ∀ i : Nat, (i : Int) < mHC → (20 ≤ mLn hps i ∧ mLn hps i ≤ 60) ∧ (10 ≤ mBr hps i ∧ mBr hps i ≤ 60)) (hsrt : srt mHC (mLn hps) (mBr hps)) (rW : ∀ i : Nat, (i : Int) < mHC → 0 ≤ nw i ∧ nw i ≤ 1000000) (rJ : 0 ≤ mJC ∧ mJC ≤ 59) (rb : 1 ≤ stg 3 ∧ stg 3 ≤ 1000) (rj : ∀ i : Nat, (i : Int) < mJC → -1000000 ≤ js i ∧ js i ≤ 1000000) (rx0 : 0 ≤ x0 ∧ x0 ≤ 60) (rpR : (0 ≤ p ∧ p < R) ∧ R ≤ 1000) (hE : lstI (pE (mLn hps) (mBr hps) nw x0 R p) mHC.toNat = -4) (hpj : pj mHC.toNat (mLn hps) (mBr hps) nw x0 js (stg 3) mJC.toNat p = some (hx, vx)) : g_Cs l yX9_choose wsX9_choose { frames := 1, cells := 0, slots := 0, locals := 24 } g [.ref z, .int (iI x0), .int (iI p), .int (iI R)] n S (fun vr n1 S1 => vr = some (.int (iI 1)) ∧ n = n1 ∧ S1 z = oO 9 [.ref (z + 1), .int (iI mLen), .int (iI mAt), .ref (z + 2), .ref (z + 3), .ref (z + 4), .ref (z + 5), .int (iI mHC), .int (iI mRC), .ref (z + 6), .ref (z + 7), .ref (z + 8), .int (iI mHS), .ref (z + 9), .ref (z + 10), .int (iI mJC), .int (iI (hx : Int)), .int (iI vx)] ∧ (∀ bb, bb ≠ z → S1 bb = S bb)) 0 0 := by
  unfold pj at hpj
  by_cases h1 : fstI (pB (mLn hps) (mBr hps) nw x0 js (stg 3) mJC.toNat p) mHC.toNat = -4
  · rw [if_pos h1] at hpj
    have hr := fstI_r (srv (mLn hps) nw x0) mHC.toNat
    by_cases h2 : fstI (srv (mLn hps) nw x0) mHC.toNat = -4
    · rw [if_pos h2] at hpj; cases hpj
    · rw [if_neg h2] at hpj
      by_cases h3 : cutI (fun v => brk js (stg 3) (p + v) mJC.toNat) (mBr hps (fstI (srv (mLn hps) nw x0) mHC.toNat).toNat - 1).toNat = -4
      · rw [if_pos h3] at hpj; cases hpj
      · rw [if_neg h3] at hpj
        cases hpj
        rw [show (((fstI (srv (mLn hps) nw x0) mHC.toNat).toNat : Nat) : Int) = fstI (srv (mLn hps) nw x0) mHC.toNat by omega]
        exact c_X9_choose_jc l g hz hst hhp hnw hjs rHC rM hsrt rW rJ rb rj rx0 rpR hE h1 (by omega) h3
  · rw [if_neg h1] at hpj
    have hr := fstI_r (pB (mLn hps) (mBr hps) nw x0 js (stg 3) mJC.toNat p) mHC.toNat
    cases hpj
    rw [show (((fstI (pB (mLn hps) (mBr hps) nw x0 js (stg 3) mJC.toNat p) mHC.toNat).toNat : Nat) : Int) = fstI (pB (mLn hps) (mBr hps) nw x0 js (stg 3) mJC.toNat p) mHC.toNat by omega]
    exact c_X9_choose_jb l g hz hst hhp hnw hjs rHC rM hsrt rW rJ rb rj rx0 rpR hE (by omega)

set_option maxHeartbeats 4000000 in
set_option maxRecDepth 100000 in
theorem c_X9_choose_none (l : Launch) (g : gG) {n : Nat} {S : Nat → gE} {z : Nat} {mLen mAt mHC mRC mHS mJC mCh mVi : Int} {stg hps nw js : Nat → Int} {x0 p R : Int} (hz : S z = oO 9 [.ref (z + 1), .int (iI mLen), .int (iI mAt), .ref (z + 2), .ref (z + 3), .ref (z + 4), .ref (z + 5), .int (iI mHC), .int (iI mRC), .ref (z + 6), .ref (z + 7), .ref (z + 8), .int (iI mHS), .ref (z + 9), .ref (z + 10), .int (iI mJC), .int (iI mCh), .int (iI mVi)]) (hst : S (z + 2) = oI g 5 stg) (hhp : S (z + 4) = oI g 24 hps) (hnw : S (z + 6) = oI g 1249 nw) (hjs : S (z + 10) = oI g 60 js) (rHC : 0 ≤ mHC ∧ mHC ≤ 8) (rM : ∀ i : Nat, (i : Int) < mHC → (20 ≤ mLn hps i ∧ mLn hps i ≤ 60) ∧ (10 ≤ mBr hps i ∧ mBr hps i ≤ 60)) (hsrt : srt mHC (mLn hps) (mBr hps)) (rW : ∀ i : Nat, (i : Int) < mHC → 0 ≤ nw i ∧ nw i ≤ 1000000) (rJ : 0 ≤ mJC ∧ mJC ≤ 59) (rb : 1 ≤ stg 3 ∧ stg 3 ≤ 1000) (rj : ∀ i : Nat, (i : Int) < mJC → -1000000 ≤ js i ∧ js i ≤ 1000000) (rx0 : 0 ≤ x0 ∧ x0 ≤ 60) (rpR : (0 ≤ p ∧ p < R) ∧ R ≤ 1000) (hE : lstI (pE (mLn hps) (mBr hps) nw x0 R p) mHC.toNat = -4) (hpj : pj mHC.toNat (mLn hps) (mBr hps) nw x0 js (stg 3) mJC.toNat p = none) : g_Cs l yX9_choose wsX9_choose { frames := 1, cells := 0, slots := 0, locals := 24 } g [.ref z, .int (iI x0), .int (iI p), .int (iI R)] n S (fun vr n1 S1 => ∃ c1 : Int, ∃ v1 : Int, vr = some (.int (iI 0)) ∧ n = n1 ∧ S1 z = oO 9 [.ref (z + 1), .int (iI mLen), .int (iI mAt), .ref (z + 2), .ref (z + 3), .ref (z + 4), .ref (z + 5), .int (iI mHC), .int (iI mRC), .ref (z + 6), .ref (z + 7), .ref (z + 8), .int (iI mHS), .ref (z + 9), .ref (z + 10), .int (iI mJC), .int (iI c1), .int (iI v1)] ∧ (∀ bb, bb ≠ z → S1 bb = S bb)) 0 0 := by
  unfold pj at hpj
  by_cases h1 : fstI (pB (mLn hps) (mBr hps) nw x0 js (stg 3) mJC.toNat p) mHC.toNat = -4
  · rw [if_pos h1] at hpj
    have hr := fstI_r (srv (mLn hps) nw x0) mHC.toNat
    by_cases h2 : fstI (srv (mLn hps) nw x0) mHC.toNat = -4
    · exact c_X9_choose_n1 l g hz hst hhp hnw hjs rHC rM hsrt rW rJ rb rj rx0 rpR hE h1 h2
    · rw [if_neg h2] at hpj
      by_cases h3 : cutI (fun v => brk js (stg 3) (p + v) mJC.toNat) (mBr hps (fstI (srv (mLn hps) nw x0) mHC.toNat).toNat - 1).toNat = -4
      · exact c_X9_choose_n2 l g hz hst hhp hnw hjs rHC rM hsrt rW rJ rb rj rx0 rpR hE h1 (by omega) h3
      · rw [if_neg h3] at hpj; cases hpj
  · rw [if_neg h1] at hpj; cases hpj

