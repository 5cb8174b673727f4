set_option maxHeartbeats 4000000 in
set_option maxRecDepth 100000 in
theorem c_X9_mayBegin (l : Launch) (g : gG) {n : Nat} {S : Nat → gE} {z : Nat} {mLen mAt mHC mRC mHS mJC mCh mVi : Int} {stg hps nw : Nat → Int} {x0 : Int} (hz : S z = oO 9 [.ref (z + 1), .int (iI mLen), .int (iI mAt), .ref (z + 2), .ref (z + 3), .ref (z + 4), .ref (z + 5), .int (iI mHC), .int (iI mRC), .ref (z + 6), .ref (z + 7), .ref (z + 8), .int (iI mHS), .ref (z + 9), .ref (z + 10), .int (iI mJC), .int (iI mCh), .int (iI mVi)]) (hst : S (z + 2) = oI g 5 stg) (hhp : S (z + 4) = oI g 24 hps) (hnw : S (z + 6) = oI g 1249 nw) (rHC : 0 ≤ mHC ∧ mHC ≤ 8) (rM : ∀ i : Nat, (i : Int) < mHC → (20 ≤ mLn hps i ∧ mLn hps i ≤ 60) ∧ (10 ≤ mBr hps i ∧ mBr hps i ≤ 60)) (rx0 : 0 ≤ x0 ∧ x0 ≤ 60) (rc : 0 ≤ nw 8 ∧ nw 8 ≤ 20) (rg : ∀ k : Nat, (k : Int) < nw 8 → 0 ≤ nw (9 + 62 * k) - stg 2 ∧ nw (9 + 62 * k) - stg 2 ≤ 1000) (rr : (0 ≤ stg 0 ∧ stg 0 ≤ 100000) ∧ (0 ≤ (sumI (fun k => (nw (9 + 62 * k) - stg 2) / 2) (nw 8).toNat) ∧ (sumI (fun k => (nw (9 + 62 * k) - stg 2) / 2) (nw 8).toNat) ≤ 1000000)) (rt : 0 ≤ stg 2 ∧ stg 2 ≤ 10) : g_Cp l yX9_mayBegin wsX9_mayBegin { frames := 3, cells := 0, slots := 0, locals := 64 } g [.ref z, .int (iI x0)] n S (some (.int (iI (if hasL (mLn hps) x0 mHC.toNat = true ∧ nw 8 < 20 ∧ ¬ (0 < nw 8 ∧ stg 0 ≤ (sumI (fun k => (nw (9 + 62 * k) - stg 2) / 2) (nw 8).toNat)) ∧ (nw 8 = 0 ∨ x0 ≤ nw (9 + 62 * (nw 8 - 1).toNat)) then 1 else 0)))) := by
  refine g_Cp.of (cc := cX9_mayBegin) (maxL := 4) (ret := (some .boolean)) (by decide) rfl (Nat.le_of_ble_eq_true rfl) ?_
  intro pp ee s m below meth cK Q ls hc hnm hw hl hret
  have hl : lv_has ls 4 [(0, .ref z), (1, .int (iI x0))] := hl
  have hiX9 : ∀ w ∈ u_ws RX9 TX9 18, w ∈ wsX9_mayBegin := by decide +kernel
  have lk54 : Cond.fieldLink RX9 54 "RoofCoursesModel" "heapCount" "I" ∈ wsX9_mayBegin := by decide +kernel
  have lk25 : Cond.fieldLink RX9 25 "RoofCoursesModel" "now" "[I" ∈ wsX9_mayBegin := by decide +kernel
  have hrt : ∀ (pc : Nat) (ls : Array Slot) (xr : Int), decode cX9_mayBegin pc = .ok (.ireturn, 1) → xr = (if hasL (mLn hps) x0 mHC.toNat = true ∧ nw 8 < 20 ∧ ¬ (0 < nw 8 ∧ stg 0 ≤ (sumI (fun k => (nw (9 + 62 * k) - stg 2) / 2) (nw 8).toNat)) ∧ (nw 8 = 0 ∨ x0 ≤ nw (9 + 62 * (nw 8 - 1).toNat)) then 1 else 0) → W pp l ee ({ frames := 3, cells := 0, slots := 0, locals := 64 } : Room) s m ([.ref z, .int (iI x0)] : List Value).toArray below meth cK s.heap [] 0 0 Q (F0 m pc ls [.int (iI xr)]) := fun pc ls xr d hx => by subst hx; exact hret pc ls ⟨_, rfl, nn_nb _, d⟩
  refine nn_iconst hc dX9_mayBegin_0 ?_
  refine lv_istore_n (lv' := [(2, .int (iI 0)), (0, .ref z), (1, .int (iI x0))]) hc.1 hc.2.1 dX9_mayBegin_1 rfl hl (by decide) rfl (fun ls hl => ?_)
  refine nn_iconst hc dX9_mayBegin_2 ?_
  refine lv_istore_n (lv' := [(3, .int (iI 0)), (2, .int (iI 0)), (0, .ref z), (1, .int (iI x0))]) hc.1 hc.2.1 dX9_mayBegin_3 rfl hl (by decide) rfl (fun ls hl => ?_)
  have lab4 : ∀ (fu4 : Nat) (b : Int) (k : Int) (ls : Array Slot), (0 ≤ k ∧ k ≤ mHC) → ((b = 1 ∧ hasL (mLn hps) x0 k.toNat = true) ∨ (b = 0 ∧ hasL (mLn hps) x0 k.toNat = false)) → (mHC - k).toNat < fu4 → lv_has ls 4 [(2, .int (iI b)), (3, .int (iI k)), (0, .ref z), (1, .int (iI x0))] → W pp l ee ({ frames := 3, cells := 0, slots := 0, locals := 64 } : Room) s m ([.ref z, .int (iI x0)] : List Value).toArray below meth cK s.heap [] 0 0 Q (F0 m 4 ls []) := by
    intro fu4
    induction fu4 with
    | zero =>
      intro b k ls hk hb hmeas hl
      exact absurd hmeas (Nat.not_lt_zero _)
    | succ fu4 ih4 =>
      intro b k ls hk hb hmeas hl
      refine lv_iload_n hc.1 hc.2.1 dX9_mayBegin_4 rfl (lv_at hl 1 rfl) ?_
      refine lv_aload_n hc.1 hc.2.1 dX9_mayBegin_5 rfl (lv_at hl 2 rfl) ?_
      refine nn_get hc hw hz hiX9 rfl 7 (by decide) rfl lk54 dX9_mayBegin_6 ?_
      refine nn_icmp_ge hc dX9_mayBegin_9 (tgt := 37) (by decide) (by omega) (by omega) (fun c1 => ?_) (fun c1 => ?_)
      · have hke : k.toNat = mHC.toNat := by omega
        rw [hke] at hb
        refine lv_aload_n hc.1 hc.2.1 dX9_mayBegin_37 rfl (lv_at hl 2 rfl) ?_
        refine nn_get hc hw hz hiX9 rfl 9 (by decide) rfl lk25 dX9_mayBegin_38 ?_
        refine nn_bipush hc dX9_mayBegin_41 (by decide +kernel) ?_
        refine nn_iald hc hw hnw (by omega) (by omega) dX9_mayBegin_43 ?_
        refine W.eq (g2 := F0 m 44 ls [.int (iI (nw 8))]) rfl ?_
        refine lv_istore_n (lv' := [(3, .int (iI (nw 8))), (2, .int (iI b)), (0, .ref z), (1, .int (iI x0))]) hc.1 hc.2.1 dX9_mayBegin_44 rfl hl (by decide) rfl (fun ls hl => ?_)
        refine lv_iload_n hc.1 hc.2.1 dX9_mayBegin_45 rfl (lv_at hl 1 rfl) ?_
        refine nn_if_eq hc dX9_mayBegin_46 (tgt := 81) (by decide) (by omega) (fun c2 => ?_) (fun c2 => ?_)
        · refine nn_iconst hc dX9_mayBegin_81 ?_
          exact hrt _ _ _ dX9_mayBegin_82 (by rcases hb with ⟨h1, h2⟩ | ⟨h1, h2⟩; (simp only [h2, true_and]; split <;> omega); (refine Eq.trans (b := 0) ?_ (if_neg (fun q9 => absurd (h2.symm.trans q9.1) Bool.false_ne_true)).symm; omega))
        · refine lv_iload_n hc.1 hc.2.1 dX9_mayBegin_49 rfl (lv_at hl 0 rfl) ?_
          refine nn_bipush hc dX9_mayBegin_50 (by decide +kernel) ?_
          refine nn_icmp_ge hc dX9_mayBegin_52 (tgt := 81) (by decide) (by omega) (by decide) (fun c3 => ?_) (fun c3 => ?_)
          · refine nn_iconst hc dX9_mayBegin_81 ?_
            exact hrt _ _ _ dX9_mayBegin_82 (by rcases hb with ⟨h1, h2⟩ | ⟨h1, h2⟩; (simp only [h2, true_and]; split <;> omega); (refine Eq.trans (b := 0) ?_ (if_neg (fun q9 => absurd (h2.symm.trans q9.1) Bool.false_ne_true)).symm; omega))
          · refine lv_aload_n hc.1 hc.2.1 dX9_mayBegin_55 rfl (lv_at hl 2 rfl) ?_
            refine nn_Vp (As := []) (st := []) hc hw hz rfl (c_X9_isReady l g  hz hst hnw (by omega) (rg) (by omega)) (cwV 0 hc.2.2.2.2 gX9_mayBegin_X9_isReady rfl rfl rfl (by decide +kernel) ⟨Nat.le_of_ble_eq_true rfl, Nat.le_of_ble_eq_true rfl⟩) rfl hl.1 rfl (Nat.le_of_ble_eq_true rfl) ⟨Nat.le_of_ble_eq_true rfl, Nat.le_of_ble_eq_true rfl⟩ dX9_mayBegin_56 ?_
            refine W.eq (g2 := F0 m 59 ls [.int (iI (if 0 < nw 8 ∧ stg 0 ≤ sumI (fun k => (nw (9 + 62 * k) - stg 2) / 2) (nw 8).toNat then 1 else 0))]) rfl ?_
            refine nn_if_ne hc dX9_mayBegin_59 (tgt := 81) (by decide) (by omega) (fun c4 => ?_) (fun c4 => ?_)
            · refine nn_iconst hc dX9_mayBegin_81 ?_
              exact hrt _ _ _ dX9_mayBegin_82 (by rcases hb with ⟨h1, h2⟩ | ⟨h1, h2⟩; (simp only [h2, true_and]; split <;> omega); (refine Eq.trans (b := 0) ?_ (if_neg (fun q9 => absurd (h2.symm.trans q9.1) Bool.false_ne_true)).symm; omega))
            · refine lv_iload_n hc.1 hc.2.1 dX9_mayBegin_62 rfl (lv_at hl 0 rfl) ?_
              refine nn_if_eq hc dX9_mayBegin_63 (tgt := 77) (by decide) (by omega) (fun c5 => ?_) (fun c5 => ?_)
              · refine nn_iconst hc dX9_mayBegin_77 ?_
                refine lv_goto hc.1 hc.2.1 dX9_mayBegin_78 (tgt := 82) (by decide) ?_
                exact hrt _ _ _ dX9_mayBegin_82 (by rcases hb with ⟨h1, h2⟩ | ⟨h1, h2⟩; (simp only [h2, true_and]; split <;> omega); (refine Eq.trans (b := 0) ?_ (if_neg (fun q9 => absurd (h2.symm.trans q9.1) Bool.false_ne_true)).symm; omega))
              · have hg1 := rg (nw 8 - 1).toNat (by omega)
                refine lv_iload_n hc.1 hc.2.1 dX9_mayBegin_66 rfl (lv_at hl 3 rfl) ?_
                refine lv_aload_n hc.1 hc.2.1 dX9_mayBegin_67 rfl (lv_at hl 2 rfl) ?_
                refine lv_iload_n hc.1 hc.2.1 dX9_mayBegin_68 rfl (lv_at hl 0 rfl) ?_
                refine nn_iconst hc dX9_mayBegin_69 ?_
                refine nn_isub hc dX9_mayBegin_70 ?_
                refine nn_Vp (As := [.int (iI ((nw 8) - 1))]) (st := [.int (iI x0)]) hc hw hz rfl (c_X9_courseLength l g  hz hnw (by omega)) (cwV 1 hc.2.2.2.2 gX9_mayBegin_X9_courseLength rfl rfl rfl (by decide +kernel) ⟨Nat.le_of_ble_eq_true rfl, Nat.le_of_ble_eq_true rfl⟩) rfl hl.1 rfl (Nat.le_of_ble_eq_true rfl) ⟨Nat.le_of_ble_eq_true rfl, Nat.le_of_ble_eq_true rfl⟩ dX9_mayBegin_71 ?_
                refine W.eq (g2 := F0 m 74 ls [.int (iI (nw (9 + 62 * ((nw 8) - 1).toNat))), .int (iI x0)]) rfl ?_
                refine nn_icmp_gt hc dX9_mayBegin_74 (tgt := 81) (by decide) (by omega) (by omega) (fun c6 => ?_) (fun c6 => ?_)
                · refine nn_iconst hc dX9_mayBegin_81 ?_
                  exact hrt _ _ _ dX9_mayBegin_82 (by rcases hb with ⟨h1, h2⟩ | ⟨h1, h2⟩; (simp only [h2, true_and]; split <;> omega); (refine Eq.trans (b := 0) ?_ (if_neg (fun q9 => absurd (h2.symm.trans q9.1) Bool.false_ne_true)).symm; omega))
                · refine nn_iconst hc dX9_mayBegin_77 ?_
                  refine lv_goto hc.1 hc.2.1 dX9_mayBegin_78 (tgt := 82) (by decide) ?_
                  exact hrt _ _ _ dX9_mayBegin_82 (by rcases hb with ⟨h1, h2⟩ | ⟨h1, h2⟩; (simp only [h2, true_and]; split <;> omega); (refine Eq.trans (b := 0) ?_ (if_neg (fun q9 => absurd (h2.symm.trans q9.1) Bool.false_ne_true)).symm; omega))
      · have hM1 := rM k.toNat (by omega)
        refine lv_iload_n hc.1 hc.2.1 dX9_mayBegin_12 rfl (lv_at hl 0 rfl) ?_
        refine nn_if_ne hc dX9_mayBegin_13 (tgt := 25) (by decide) (by omega) (fun c7 => ?_) (fun c7 => ?_)
        · refine nn_iconst hc dX9_mayBegin_25 ?_
          refine lv_goto hc.1 hc.2.1 dX9_mayBegin_26 (tgt := 30) (by decide) ?_
          refine lv_istore_n (lv' := [(2, .int (iI 1)), (3, .int (iI k)), (0, .ref z), (1, .int (iI x0))]) hc.1 hc.2.1 dX9_mayBegin_30 rfl hl (by decide) rfl (fun ls hl => ?_)
          refine nn_iinc (lv' := [(3, .int (iI (k + 1))), (2, .int (iI 1)), (0, .ref z), (1, .int (iI x0))]) hc dX9_mayBegin_31 hl (k0 := 1) rfl (by decide) rfl (fun ls hl => ?_)
          refine lv_goto hc.1 hc.2.1 dX9_mayBegin_34 (tgt := 4) (by decide) ?_
          exact ih4 1 (k + 1) _ (by omega) (by rw [hasL_s (by omega), Bool.or_eq_true, Bool.or_eq_false_iff, decide_eq_true_eq, decide_eq_false_iff_not]; first | exact Or.inl ⟨rfl, Or.inl (by rcases hb with ⟨h1, h2⟩ | ⟨h1, h2⟩; exact h2; omega)⟩ | exact Or.inl ⟨rfl, Or.inr (by omega)⟩ | exact Or.inr ⟨rfl, (by rcases hb with ⟨h1, h2⟩ | ⟨h1, h2⟩; omega; exact h2), by omega⟩) (by omega) (lv_sub hl [1, 0, 2, 3] rfl)
        · refine lv_aload_n hc.1 hc.2.1 dX9_mayBegin_16 rfl (lv_at hl 2 rfl) ?_
          refine lv_iload_n hc.1 hc.2.1 dX9_mayBegin_17 rfl (lv_at hl 1 rfl) ?_
          refine nn_Vp (As := [.int (iI k)]) (st := []) hc hw hz rfl (c_X9_heapLength l g  hz hhp (by omega)) (cwV 1 hc.2.2.2.2 gX9_mayBegin_X9_heapLength rfl rfl rfl (by decide +kernel) ⟨Nat.le_of_ble_eq_true rfl, Nat.le_of_ble_eq_true rfl⟩) rfl hl.1 rfl (Nat.le_of_ble_eq_true rfl) ⟨Nat.le_of_ble_eq_true rfl, Nat.le_of_ble_eq_true rfl⟩ dX9_mayBegin_18 ?_
          refine W.eq (g2 := F0 m 21 ls [.int (iI (mLn hps k.toNat))]) rfl ?_
          refine lv_iload_n hc.1 hc.2.1 dX9_mayBegin_21 rfl (lv_at hl 3 rfl) ?_
          refine nn_icmp_ne hc dX9_mayBegin_22 (tgt := 29) (by decide) (by omega) (by omega) (fun c8 => ?_) (fun c8 => ?_)
          · refine nn_iconst hc dX9_mayBegin_29 ?_
            refine lv_istore_n (lv' := [(2, .int (iI 0)), (3, .int (iI k)), (0, .ref z), (1, .int (iI x0))]) hc.1 hc.2.1 dX9_mayBegin_30 rfl hl (by decide) rfl (fun ls hl => ?_)
            refine nn_iinc (lv' := [(3, .int (iI (k + 1))), (2, .int (iI 0)), (0, .ref z), (1, .int (iI x0))]) hc dX9_mayBegin_31 hl (k0 := 1) rfl (by decide) rfl (fun ls hl => ?_)
            refine lv_goto hc.1 hc.2.1 dX9_mayBegin_34 (tgt := 4) (by decide) ?_
            exact ih4 0 (k + 1) _ (by omega) (by rw [hasL_s (by omega), Bool.or_eq_true, Bool.or_eq_false_iff, decide_eq_true_eq, decide_eq_false_iff_not]; first | exact Or.inl ⟨rfl, Or.inl (by rcases hb with ⟨h1, h2⟩ | ⟨h1, h2⟩; exact h2; omega)⟩ | exact Or.inl ⟨rfl, Or.inr (by omega)⟩ | exact Or.inr ⟨rfl, (by rcases hb with ⟨h1, h2⟩ | ⟨h1, h2⟩; omega; exact h2), by omega⟩) (by omega) (lv_sub hl [1, 0, 2, 3] rfl)
          · refine nn_iconst hc dX9_mayBegin_25 ?_
            refine lv_goto hc.1 hc.2.1 dX9_mayBegin_26 (tgt := 30) (by decide) ?_
            refine lv_istore_n (lv' := [(2, .int (iI 1)), (3, .int (iI k)), (0, .ref z), (1, .int (iI x0))]) hc.1 hc.2.1 dX9_mayBegin_30 rfl hl (by decide) rfl (fun ls hl => ?_)
            refine nn_iinc (lv' := [(3, .int (iI (k + 1))), (2, .int (iI 1)), (0, .ref z), (1, .int (iI x0))]) hc dX9_mayBegin_31 hl (k0 := 1) rfl (by decide) rfl (fun ls hl => ?_)
            refine lv_goto hc.1 hc.2.1 dX9_mayBegin_34 (tgt := 4) (by decide) ?_
            exact ih4 1 (k + 1) _ (by omega) (by rw [hasL_s (by omega), Bool.or_eq_true, Bool.or_eq_false_iff, decide_eq_true_eq, decide_eq_false_iff_not]; first | exact Or.inl ⟨rfl, Or.inl (by rcases hb with ⟨h1, h2⟩ | ⟨h1, h2⟩; exact h2; omega)⟩ | exact Or.inl ⟨rfl, Or.inr (by omega)⟩ | exact Or.inr ⟨rfl, (by rcases hb with ⟨h1, h2⟩ | ⟨h1, h2⟩; omega; exact h2), by omega⟩) (by omega) (lv_sub hl [1, 0, 2, 3] rfl)
  exact lab4 _ 0 0 _ (by omega) (Or.inr ⟨rfl, rfl⟩) (Nat.lt_succ_self _) (lv_sub hl [1, 0, 2, 3] rfl)

set_option maxHeartbeats 4000000 in
set_option maxRecDepth 100000 in
theorem c_X9_layCourse_yes (l : Launch) (g : gG) {n : Nat} {S : Nat → gE} {z : Nat} {mLen mAt mHC mRC mHS mJC mCh mVi : Int} {stg hps nw js : Nat → Int} {x0 : Int} {rs : Nat → Int} {rows : rT} {sl : sL} (hz : S z = oO 9 [.ref (z + 1), .int (iI mLen), .int (iI mAt), .ref (z + 2), .ref (z + 3), .ref (z + 4), .ref (z + 5), .int (iI mHC), .int (iI mRC), .ref (z + 6), .ref (z + 7), .ref (z + 8), .int (iI mHS), .ref (z + 9), .ref (z + 10), .int (iI mJC), .int (iI mCh), .int (iI mVi)]) (hst : S (z + 2) = oI g 5 stg) (hhp : S (z + 4) = oI g 24 hps) (hnw : S (z + 6) = oI g 1249 nw) (hjs : S (z + 10) = oI g 60 js) (hM : goodM mHC stg hps) (hR : goodR mHC.toNat (mLn hps) (mBr hps) rs rows) (hS : mS nw rs rows) (rx0 : 20 ≤ x0 ∧ x0 ≤ 60) (hlay : layR mHC.toNat (mLn hps) (mBr hps) (stg 0) (stg 2) (stg 1) (stg 4) (stg 3) rs rows x0 = some sl) : g_Cs l yX9_layCourse wsX9_layCourse { frames := 4, cells := 0, slots := 0, locals := 91 } g [.ref z, .int (iI x0)] n S (fun vr n1 S1 => ∃ jf9 : Nat → Int, ∃ kw9 : Nat → Int, ∃ jc9 : Int, ∃ ch9 : Int, ∃ vi9 : Int, vr = some (.int (iI 1)) ∧ n = n1 ∧ S1 z = oO 9 [.ref (z + 1), .int (iI mLen), .int (iI mAt), .ref (z + 2), .ref (z + 3), .ref (z + 4), .ref (z + 5), .int (iI mHC), .int (iI mRC), .ref (z + 6), .ref (z + 7), .ref (z + 8), .int (iI mHS), .ref (z + 9), .ref (z + 10), .int (iI jc9), .int (iI ch9), .int (iI vi9)] ∧ S1 (z + 6) = oI g 1249 kw9 ∧ S1 (z + 10) = oI g 60 jf9 ∧ mS kw9 (fun i => rs i + (-1) * cntH sl i) (rows ++ [(x0, sl)]) ∧ (∀ bb, bb ≠ z → bb ≠ (z + 6) → bb ≠ (z + 10) → S1 bb = S bb)) 0 0 := by
  refine g_Cs.of (cc := cX9_layCourse) (maxL := 2) (ret := (some .boolean)) (by decide) rfl (Nat.le_of_ble_eq_true rfl) ?_
  intro pp ee s m below meth cK Q H locs ls hc hnm hw hl hret
  have hl : lv_has ls 2 [(0, .ref z), (1, .int (iI x0))] := hl
  have hiX9 : ∀ w ∈ u_ws RX9 TX9 18, w ∈ wsX9_layCourse := by decide +kernel
  have lk25 : Cond.fieldLink RX9 25 "RoofCoursesModel" "now" "[I" ∈ wsX9_layCourse := by decide +kernel
  have hM0 := hM
  obtain ⟨m1, m2, m3, m4, m5, m6, m7, m8⟩ := hM
  have hRl := hR.1
  have h8 := hS.2.1
  have hHD := mS_hd hS (stg 2)
  have hdr := hd_r hR m6 (Nat.le_refl rows.length)
  have hrg := mS_rg hM0 hR hS
  have htr := tpL_r hR
  have hbr1 : ∀ i : Nat, i < mHC.toNat → 1 ≤ mBr hps i := fun i hi => by have := m2 i (by omega); omega
  have hnl : ∀ c : Nat, c < rows.length → (rS rows c).length ≤ 60 := fun c hc => (hR.2.1 c hc).2.1.2
  have hmul : 0 ≤ stg 4 * hdR (stg 2) rows rows.length ∧ stg 4 * hdR (stg 2) rows rows.length ≤ 9 * 600 := ⟨Int.mul_nonneg m8.1 hdr.1, Int.mul_le_mul m8.2 (by omega) hdr.1 (by decide)⟩
  obtain ⟨hop, hly1⟩ := layR_some hlay
  have hly0 : layC mHC.toNat (mLn hps) (mBr hps) (stg 1) (stg 4) (stg 3) x0 nw (sumI (fun k => (nw (9 + 62 * k) - stg 2) / 2) (nw 8).toNat) (tpS rows) = some sl := by rw [hHD, layC_congr (fun i hi => hS.1 i (by omega))]; exact hly1
  have hhas := layC_has hbr1 hly1
  have hok9 := (layC_good hbr1 hly1).1
  have hmb : hasL (mLn hps) x0 mHC.toNat = true ∧ nw 8 < 20 ∧ ¬ (0 < nw 8 ∧ stg 0 ≤ (sumI (fun k => (nw (9 + 62 * k) - stg 2) / 2) (nw 8).toNat)) ∧ (nw 8 = 0 ∨ x0 ≤ nw (9 + 62 * (nw 8 - 1).toNat)) := ⟨hhas, by omega, by rw [hHD]; omega, by by_cases e9 : nw 8 = 0; exact Or.inl e9; exact Or.inr (by rw [← mS_top hS (by omega)]; exact hop.2.2)⟩
  refine lv_aload_n hc.1 hc.2.1 dX9_layCourse_0 rfl (lv_at hl 0 rfl) ?_
  refine lv_iload_n hc.1 hc.2.1 dX9_layCourse_1 rfl (lv_at hl 1 rfl) ?_
  refine nn_Vp (As := [.int (iI x0)]) (st := []) hc hw hz rfl (c_X9_mayBegin l g  hz hst hhp hnw (by omega) (m2) (by omega) (by omega) (hrg) (by rw [hHD]; omega) (by omega)) (cwV 1 hc.2.2.2.2 gX9_layCourse_X9_mayBegin rfl rfl rfl (by decide +kernel) ⟨Nat.le_of_ble_eq_true rfl, Nat.le_of_ble_eq_true rfl⟩) rfl hl.1 rfl (Nat.le_of_ble_eq_true rfl) ⟨Nat.le_of_ble_eq_true rfl, Nat.le_of_ble_eq_true rfl⟩ dX9_layCourse_2 ?_
  refine W.eq (g2 := F0 m 5 ls [.int (iI (if hasL (mLn hps) x0 mHC.toNat = true ∧ nw 8 < 20 ∧ ¬ (0 < nw 8 ∧ stg 0 ≤ (sumI (fun k => (nw (9 + 62 * k) - stg 2) / 2) (nw 8).toNat)) ∧ (nw 8 = 0 ∨ x0 ≤ nw (9 + 62 * (nw 8 - 1).toNat)) then 1 else 0))]) rfl ?_
  refine nn_if_ne hc dX9_layCourse_5 (tgt := 10) (by decide) (by omega) (fun c1 => ?_) (fun c1 => ?_)
  · refine lv_aload_n hc.1 hc.2.1 dX9_layCourse_10 rfl (lv_at hl 0 rfl) ?_
    refine lv_iload_n hc.1 hc.2.1 dX9_layCourse_11 rfl (lv_at hl 1 rfl) ?_
    refine nn_Vs (As := [.int (iI x0)]) (st := []) hc hw hz rfl (c_X9_fill_yes l g  hz hst hhp hnw hjs (by omega) (m2) (m3) (fun i hi => by rw [hS.1 i (by omega)]; have := goodR_rs hR (i := i) (by omega); omega) (by omega) (by omega) (by omega) (hrg) (by rw [hHD]; omega) (mS_bs hR hS) (ok_bv hM0 (tpS_ok hR)) (tpS_e hR) (hly0)) (cwV 1 hc.2.2.2.2 gX9_layCourse_X9_fill rfl rfl rfl (by decide +kernel) ⟨Nat.le_of_ble_eq_true rfl, Nat.le_of_ble_eq_true rfl⟩) rfl hl.1 rfl (Nat.le_of_ble_eq_true rfl) ⟨Nat.le_of_ble_eq_true rfl, Nat.le_of_ble_eq_true rfl⟩ dX9_layCourse_12 (fun vr n1 S2 H locs qS2 hw => ?_)
    obtain ⟨jf9_3, kw9_4, ch9_5, vi9_6, rfl, rfl, hS2_0, hS2_1, hS2_2, kS2_0, fS2⟩ := qS2
    refine W.eq (g2 := F0 m 15 ls [.int (iI 1)]) rfl ?_
    refine nn_if_ne hc dX9_layCourse_15 (tgt := 31) (by decide) (by decide) (fun c7 => ?_) (fun c7 => ?_)
    · have hmr := kS2_0
      refine lv_aload_n hc.1 hc.2.1 dX9_layCourse_31 rfl (lv_at hl 0 rfl) ?_
      refine nn_get hc hw hS2_0 hiX9 rfl 9 (by decide) rfl lk25 dX9_layCourse_32 ?_
      refine nn_bipush hc dX9_layCourse_35 (by decide +kernel) ?_
      refine lv_dup2_11 hc.1 hc.2.1 dX9_layCourse_37 rfl rfl ?_
      refine nn_iald hc hw hS2_1 (by omega) (by omega) dX9_layCourse_38 ?_
      refine W.eq (g2 := F0 m 39 ls [.int (iI (kw9_4 8)), .int (iI 8), .ref (z + 6)]) rfl ?_
      refine nn_iconst hc dX9_layCourse_39 ?_
      refine nn_iadd hc dX9_layCourse_40 ?_
      refine nn_iast hc hw hS2_1 (by omega) (by omega) dX9_layCourse_41 (fun S8 H locs hS8 fS8 hw => ?_)
      have hS8 : S8 (z + 6) = oI g 1249 (va_up kw9_4 8 ((kw9_4 8) + 1)) := hS8
      refine nn_iconst hc dX9_layCourse_42 ?_
      have e9 : S8 z = oO 9 [.ref (z + 1), .int (iI mLen), .int (iI mAt), .ref (z + 2), .ref (z + 3), .ref (z + 4), .ref (z + 5), .int (iI mHC), .int (iI mRC), .ref (z + 6), .ref (z + 7), .ref (z + 8), .int (iI mHS), .ref (z + 9), .ref (z + 10), .int (iI (((tpS rows).length - 1 : Nat) : Int)), .int (iI ch9_5), .int (iI vi9_6)] := (fS8 z (off_nl (x := z) (a := 6) (by decide))).trans hS2_0
      have e10 : S8 (z + 10) = oI g 60 jf9_3 := (fS8 (z + 10) (off_ne (x := z) (a := 10) (b := 6) (by decide))).trans hS2_2
      exact hret (some (.int (iI 1))) _ S8 _ _ _ _ hw (⟨_, _, _, _, _, rfl, rfl, e9, hS8, e10, mS_push hmr hS hnl (by rw [hmr.2.1 8 (by omega) (by omega)]), fun bb hb0 hb1 hb2 => ((fS8 bb hb1)).trans (fS2 bb hb0 hb1 hb2)⟩) ⟨_, rfl, by first | rfl | exact nn_nb _, dX9_layCourse_43⟩
    · exact absurd c7 (by decide)
  · exact absurd c1 (by rw [if_pos hmb]; decide)

set_option maxHeartbeats 4000000 in
set_option maxRecDepth 100000 in
theorem c_X9_layCourse_no (l : Launch) (g : gG) {n : Nat} {S : Nat → gE} {z : Nat} {mLen mAt mHC mRC mHS mJC mCh mVi : Int} {stg hps nw js : Nat → Int} {x0 : Int} {rs : Nat → Int} {rows : rT} (hz : S z = oO 9 [.ref (z + 1), .int (iI mLen), .int (iI mAt), .ref (z + 2), .ref (z + 3), .ref (z + 4), .ref (z + 5), .int (iI mHC), .int (iI mRC), .ref (z + 6), .ref (z + 7), .ref (z + 8), .int (iI mHS), .ref (z + 9), .ref (z + 10), .int (iI mJC), .int (iI mCh), .int (iI mVi)]) (hst : S (z + 2) = oI g 5 stg) (hhp : S (z + 4) = oI g 24 hps) (hnw : S (z + 6) = oI g 1249 nw) (hjs : S (z + 10) = oI g 60 js) (hM : goodM mHC stg hps) (hR : goodR mHC.toNat (mLn hps) (mBr hps) rs rows) (hS : mS nw rs rows) (rx0 : 20 ≤ x0 ∧ x0 ≤ 60) (hlay : layR mHC.toNat (mLn hps) (mBr hps) (stg 0) (stg 2) (stg 1) (stg 4) (stg 3) rs rows x0 = none) : g_Cs l yX9_layCourse wsX9_layCourse { frames := 4, cells := 0, slots := 0, locals := 91 } g [.ref z, .int (iI x0)] n S (fun vr n1 S1 => ∃ jf9 : Nat → Int, ∃ kw9 : Nat → Int, ∃ jc9 : Int, ∃ ch9 : Int, ∃ vi9 : Int, vr = some (.int (iI 0)) ∧ n = n1 ∧ S1 z = oO 9 [.ref (z + 1), .int (iI mLen), .int (iI mAt), .ref (z + 2), .ref (z + 3), .ref (z + 4), .ref (z + 5), .int (iI mHC), .int (iI mRC), .ref (z + 6), .ref (z + 7), .ref (z + 8), .int (iI mHS), .ref (z + 9), .ref (z + 10), .int (iI jc9), .int (iI ch9), .int (iI vi9)] ∧ S1 (z + 6) = oI g 1249 kw9 ∧ S1 (z + 10) = oI g 60 jf9 ∧ mS kw9 rs rows ∧ (∀ bb, bb ≠ z → bb ≠ (z + 6) → bb ≠ (z + 10) → S1 bb = S bb)) 0 0 := by
  refine g_Cs.of (cc := cX9_layCourse) (maxL := 2) (ret := (some .boolean)) (by decide) rfl (Nat.le_of_ble_eq_true rfl) ?_
  intro pp ee s m below meth cK Q H locs ls hc hnm hw hl hret
  have hl : lv_has ls 2 [(0, .ref z), (1, .int (iI x0))] := hl
  have hiX9 : ∀ w ∈ u_ws RX9 TX9 18, w ∈ wsX9_layCourse := by decide +kernel
  have lk25 : Cond.fieldLink RX9 25 "RoofCoursesModel" "now" "[I" ∈ wsX9_layCourse := by decide +kernel
  have hM0 := hM
  obtain ⟨m1, m2, m3, m4, m5, m6, m7, m8⟩ := hM
  have hRl := hR.1
  have h8 := hS.2.1
  have hHD := mS_hd hS (stg 2)
  have hdr := hd_r hR m6 (Nat.le_refl rows.length)
  have hrg := mS_rg hM0 hR hS
  have htr := tpL_r hR
  have hbr1 : ∀ i : Nat, i < mHC.toNat → 1 ≤ mBr hps i := fun i hi => by have := m2 i (by omega); omega
  have hnl : ∀ c : Nat, c < rows.length → (rS rows c).length ≤ 60 := fun c hc => (hR.2.1 c hc).2.1.2
  have hmul : 0 ≤ stg 4 * hdR (stg 2) rows rows.length ∧ stg 4 * hdR (stg 2) rows rows.length ≤ 9 * 600 := ⟨Int.mul_nonneg m8.1 hdr.1, Int.mul_le_mul m8.2 (by omega) hdr.1 (by decide)⟩
  have hly0 : (hasL (mLn hps) x0 mHC.toNat = true ∧ nw 8 < 20 ∧ ¬ (0 < nw 8 ∧ stg 0 ≤ (sumI (fun k => (nw (9 + 62 * k) - stg 2) / 2) (nw 8).toNat)) ∧ (nw 8 = 0 ∨ x0 ≤ nw (9 + 62 * (nw 8 - 1).toNat))) → layC mHC.toNat (mLn hps) (mBr hps) (stg 1) (stg 4) (stg 3) x0 nw (sumI (fun k => (nw (9 + 62 * k) - stg 2) / 2) (nw 8).toNat) (tpS rows) = none := fun hmb => by rw [hHD, layC_congr (fun i hi => hS.1 i (by omega))]; rcases layR_none hlay with q9 | q9; exact absurd (show rows.length < 20 ∧ hdR (stg 2) rows rows.length < stg 0 ∧ x0 ≤ tpL rows from by have t1 := hmb.2; rw [hHD] at t1; by_cases e9 : nw 8 = 0; have e8 : rows = [] := List.eq_nil_of_length_eq_zero (by omega); subst e8; refine ⟨by decide, ?_, ?_⟩; show (0 : Int) < stg 0; omega; show x0 ≤ 60; omega; have e7 := mS_top hS (by omega); omega) q9; exact q9
  refine lv_aload_n hc.1 hc.2.1 dX9_layCourse_0 rfl (lv_at hl 0 rfl) ?_
  refine lv_iload_n hc.1 hc.2.1 dX9_layCourse_1 rfl (lv_at hl 1 rfl) ?_
  refine nn_Vp (As := [.int (iI x0)]) (st := []) hc hw hz rfl (c_X9_mayBegin l g  hz hst hhp hnw (by omega) (m2) (by omega) (by omega) (hrg) (by rw [hHD]; omega) (by omega)) (cwV 1 hc.2.2.2.2 gX9_layCourse_X9_mayBegin rfl rfl rfl (by decide +kernel) ⟨Nat.le_of_ble_eq_true rfl, Nat.le_of_ble_eq_true rfl⟩) rfl hl.1 rfl (Nat.le_of_ble_eq_true rfl) ⟨Nat.le_of_ble_eq_true rfl, Nat.le_of_ble_eq_true rfl⟩ dX9_layCourse_2 ?_
  refine W.eq (g2 := F0 m 5 ls [.int (iI (if hasL (mLn hps) x0 mHC.toNat = true ∧ nw 8 < 20 ∧ ¬ (0 < nw 8 ∧ stg 0 ≤ (sumI (fun k => (nw (9 + 62 * k) - stg 2) / 2) (nw 8).toNat)) ∧ (nw 8 = 0 ∨ x0 ≤ nw (9 + 62 * (nw 8 - 1).toNat)) then 1 else 0))]) rfl ?_
  refine nn_if_ne hc dX9_layCourse_5 (tgt := 10) (by decide) (by omega) (fun c1 => ?_) (fun c1 => ?_)
  · have hmb : hasL (mLn hps) x0 mHC.toNat = true ∧ nw 8 < 20 ∧ ¬ (0 < nw 8 ∧ stg 0 ≤ (sumI (fun k => (nw (9 + 62 * k) - stg 2) / 2) (nw 8).toNat)) ∧ (nw 8 = 0 ∨ x0 ≤ nw (9 + 62 * (nw 8 - 1).toNat)) := Classical.byContradiction (fun q9 => c1 (if_neg q9))
    have hly0 := hly0 hmb
    refine lv_aload_n hc.1 hc.2.1 dX9_layCourse_10 rfl (lv_at hl 0 rfl) ?_
    refine lv_iload_n hc.1 hc.2.1 dX9_layCourse_11 rfl (lv_at hl 1 rfl) ?_
    refine nn_Vs (As := [.int (iI x0)]) (st := []) hc hw hz rfl (c_X9_fill_no l g  hz hst hhp hnw hjs (by omega) (m2) (m3) (fun i hi => by rw [hS.1 i (by omega)]; have := goodR_rs hR (i := i) (by omega); omega) (by omega) (by omega) (by omega) (hrg) (by rw [hHD]; omega) (mS_bs hR hS) (ok_bv hM0 (tpS_ok hR)) (tpS_e hR) (hly0)) (cwV 1 hc.2.2.2.2 gX9_layCourse_X9_fill rfl rfl rfl (by decide +kernel) ⟨Nat.le_of_ble_eq_true rfl, Nat.le_of_ble_eq_true rfl⟩) rfl hl.1 rfl (Nat.le_of_ble_eq_true rfl) ⟨Nat.le_of_ble_eq_true rfl, Nat.le_of_ble_eq_true rfl⟩ dX9_layCourse_12 (fun vr n1 S2 H locs qS2 hw => ?_)
    obtain ⟨jf9_3, kw9_4, ch9_5, vi9_6, acc9_7, rfl, rfl, hS2_0, hS2_1, hS2_2, kS2_0, kS2_1, kS2_2, fS2⟩ := qS2
    refine W.eq (g2 := F0 m 15 ls [.int (iI 0)]) rfl ?_
    refine nn_if_ne hc dX9_layCourse_15 (tgt := 31) (by decide) (by decide) (fun c8 => ?_) (fun c8 => ?_)
    · exact absurd c8 (by decide)
    · have hmr := kS2_0
      have hoka := kS2_1
      have hlna := kS2_2
      have hk8 : (kw9_4) 8 = nw 8 := hmr.2.1 8 (by omega) (by omega)
      refine lv_aload_n hc.1 hc.2.1 dX9_layCourse_18 rfl (lv_at hl 0 rfl) ?_
      refine lv_aload_n hc.1 hc.2.1 dX9_layCourse_19 rfl (lv_at hl 0 rfl) ?_
      refine nn_get hc hw hS2_0 hiX9 rfl 9 (by decide) rfl lk25 dX9_layCourse_20 ?_
      refine nn_bipush hc dX9_layCourse_23 (by decide +kernel) ?_
      refine nn_iald hc hw hS2_1 (by omega) (by omega) dX9_layCourse_25 ?_
      refine W.eq (g2 := F0 m 26 ls [.int (iI (kw9_4 8)), .ref z]) rfl ?_
      refine nn_Vs (As := [.int (iI (kw9_4 8))]) (st := []) hc hw hS2_0 rfl (c_X9_giveBack l g  hS2_0 hS2_1 (by omega) (by rw [hk8]; exact hmr.2.2) (hlna) (hoka) (by omega) (fun i hi => by have := m2 i (by omega); omega)) (cwV 1 hc.2.2.2.2 gX9_layCourse_X9_giveBack rfl rfl rfl (by decide +kernel) ⟨Nat.le_of_ble_eq_true rfl, Nat.le_of_ble_eq_true rfl⟩) rfl hl.1 rfl (Nat.le_of_ble_eq_true rfl) ⟨Nat.le_of_ble_eq_true rfl, Nat.le_of_ble_eq_true rfl⟩ dX9_layCourse_26 (fun vr n1 S9 H locs qS9 hw => ?_)
      obtain ⟨rfl, rfl, hS9_0, fS9⟩ := qS9
      refine W.eq (g2 := F0 m 29 ls []) rfl ?_
      refine nn_iconst hc dX9_layCourse_29 ?_
      have e10 : S9 z = oO 9 [.ref (z + 1), .int (iI mLen), .int (iI mAt), .ref (z + 2), .ref (z + 3), .ref (z + 4), .ref (z + 5), .int (iI mHC), .int (iI mRC), .ref (z + 6), .ref (z + 7), .ref (z + 8), .int (iI mHS), .ref (z + 9), .ref (z + 10), .int (iI (((tpS rows).length - 1 : Nat) : Int)), .int (iI ch9_5), .int (iI vi9_6)] := (fS9 z (off_nl (x := z) (a := 6) (by decide))).trans hS2_0
      have e11 : S9 (z + 10) = oI g 60 jf9_3 := (fS9 (z + 10) (off_ne (x := z) (a := 10) (b := 6) (by decide))).trans hS2_2
      exact hret (some (.int (iI 0))) _ S9 _ _ _ _ hw (⟨_, _, _, _, _, rfl, rfl, e10, hS9_0, e11, mS_back hM0 hmr hoka hS hnl, fun bb hb0 hb1 hb2 => ((fS9 bb hb1)).trans (fS2 bb hb0 hb1 hb2)⟩) ⟨_, rfl, by first | rfl | exact nn_nb _, dX9_layCourse_30⟩
  · refine nn_iconst hc dX9_layCourse_8 ?_
    exact hret (some (.int (iI 0))) _ S _ _ _ _ hw (⟨_, _, _, _, _, rfl, rfl, hz, hnw, hjs, hS, fun bb _ _ _ => rfl⟩) ⟨_, rfl, by first | rfl | exact nn_nb _, dX9_layCourse_9⟩

set_option maxHeartbeats 4000000 in
set_option maxRecDepth 100000 in
theorem c_X9_takeUp (l : Launch) (g : gG) {n : Nat} {S : Nat → gE} {z : Nat} {mLen mAt mHC mRC mHS mJC mCh mVi : Int} {stg hps nw : Nat → Int} {x0 : Int} {rs : Nat → Int} {rows : rT} {sl : sL} (hz : S z = oO 9 [.ref (z + 1), .int (iI mLen), .int (iI mAt), .ref (z + 2), .ref (z + 3), .ref (z + 4), .ref (z + 5), .int (iI mHC), .int (iI mRC), .ref (z + 6), .ref (z + 7), .ref (z + 8), .int (iI mHS), .ref (z + 9), .ref (z + 10), .int (iI mJC), .int (iI mCh), .int (iI mVi)]) (hnw : S (z + 6) = oI g 1249 nw) (hM : goodM mHC stg hps) (hR : goodR mHC.toNat (mLn hps) (mBr hps) rs (rows ++ [(x0, sl)])) (hS : mS nw rs (rows ++ [(x0, sl)])) : g_Cs l yX9_takeUp wsX9_takeUp { frames := 2, cells := 0, slots := 0, locals := 44 } g [.ref z] n S (fun vr n1 S1 => ∃ kw9 : Nat → Int, vr = none ∧ n = n1 ∧ S1 (z + 6) = oI g 1249 kw9 ∧ mS kw9 (fun i => rs i + cntH sl i) rows ∧ (∀ bb, bb ≠ (z + 6) → S1 bb = S bb)) 0 0 := by
  refine g_Cs.of (cc := cX9_takeUp) (maxL := 1) (ret := none) (by decide) rfl (Nat.le_of_ble_eq_true rfl) ?_
  intro pp ee s m below meth cK Q H locs ls hc hnm hw hl hret
  have hl : lv_has ls 1 [(0, .ref z)] := hl
  have hiX9 : ∀ w ∈ u_ws RX9 TX9 18, w ∈ wsX9_takeUp := by decide +kernel
  have lk25 : Cond.fieldLink RX9 25 "RoofCoursesModel" "now" "[I" ∈ wsX9_takeUp := by decide +kernel
  have hM0 := hM
  obtain ⟨m1, m2, m3, m4, m5, m6, m7, m8⟩ := hM
  have h8 := hS.2.1
  have hRl := hR.1
  rw [len_sn] at h8 hRl
  have hrw := hS.2.2 rows.length (by rw [len_sn]; omega)
  have hgd := hR.2.1 rows.length (by rw [len_sn]; omega)
  rw [rL_at, rS_at] at hrw hgd
  refine lv_aload_n hc.1 hc.2.1 dX9_takeUp_0 rfl (lv_at hl 0 rfl) ?_
  refine nn_get hc hw hz hiX9 rfl 9 (by decide) rfl lk25 dX9_takeUp_1 ?_
  refine nn_bipush hc dX9_takeUp_4 (by decide +kernel) ?_
  refine lv_dup2_11 hc.1 hc.2.1 dX9_takeUp_6 rfl rfl ?_
  refine nn_iald hc hw hnw (by omega) (by omega) dX9_takeUp_7 ?_
  refine W.eq (g2 := F0 m 8 ls [.int (iI (nw 8)), .int (iI 8), .ref (z + 6)]) rfl ?_
  refine nn_iconst hc dX9_takeUp_8 ?_
  refine nn_isub hc dX9_takeUp_9 ?_
  refine nn_iast hc hw hnw (by omega) (by omega) dX9_takeUp_10 (fun S1 H locs hS1 fS1 hw => ?_)
  have hS1 : S1 (z + 6) = oI g 1249 (va_up nw 8 ((nw 8) - 1)) := hS1
  refine lv_aload_n hc.1 hc.2.1 dX9_takeUp_11 rfl (lv_at hl 0 rfl) ?_
  refine lv_aload_n hc.1 hc.2.1 dX9_takeUp_12 rfl (lv_at hl 0 rfl) ?_
  have e2 : S1 z = oO 9 [.ref (z + 1), .int (iI mLen), .int (iI mAt), .ref (z + 2), .ref (z + 3), .ref (z + 4), .ref (z + 5), .int (iI mHC), .int (iI mRC), .ref (z + 6), .ref (z + 7), .ref (z + 8), .int (iI mHS), .ref (z + 9), .ref (z + 10), .int (iI mJC), .int (iI mCh), .int (iI mVi)] := (fS1 z (off_nl (x := z) (a := 6) (by decide))).trans hz
  refine nn_get hc hw e2 hiX9 rfl 9 (by decide) rfl lk25 dX9_takeUp_13 ?_
  refine nn_bipush hc dX9_takeUp_16 (by decide +kernel) ?_
  refine nn_iald hc hw hS1 (by omega) (by omega) dX9_takeUp_18 ?_
  refine W.eq (g2 := F0 m 19 ls [.int (iI ((va_up nw 8 ((nw 8) - 1)) 8)), .ref z]) rfl ?_
  have hv8 : va_up nw 8 (nw 8 - 1) 8 = nw 8 - 1 := va_up_self _ _ _
  refine nn_Vs (As := [.int (iI ((va_up nw 8 ((nw 8) - 1)) 8))]) (st := []) hc hw e2 rfl (c_X9_giveBack l g  e2 hS1 (by omega) (by rw [hv8, show (nw 8 - 1).toNat = rows.length by omega]; exact ⟨by rw [va_up_ne _ _ (by omega)]; exact hrw.1, by rw [va_up_ne _ _ (by omega)]; exact hrw.2.1, fun i hi => by rw [va_up_ne _ _ (by omega)]; exact hrw.2.2 i hi⟩) (hgd.2.1.2) (hgd.1) (by omega) (fun i hi => by have := m2 i (by omega); omega)) (cwV 1 hc.2.2.2.2 gX9_takeUp_X9_giveBack rfl rfl rfl (by decide +kernel) ⟨Nat.le_of_ble_eq_true rfl, Nat.le_of_ble_eq_true rfl⟩) rfl hl.1 rfl (Nat.le_of_ble_eq_true rfl) ⟨Nat.le_of_ble_eq_true rfl, Nat.le_of_ble_eq_true rfl⟩ dX9_takeUp_19 (fun vr n1 S3 H locs qS3 hw => ?_)
  obtain ⟨rfl, rfl, hS3_0, fS3⟩ := qS3
  refine W.eq (g2 := F0 m 22 ls []) rfl ?_
  exact hret none _ S3 _ _ _ _ hw (⟨_, rfl, rfl, hS3_0, mS_pop hM0 hgd.1 hS rfl, fun bb hb0 => ((fS3 bb hb0)).trans (fS1 bb hb0)⟩) ⟨rfl, dX9_takeUp_22⟩

