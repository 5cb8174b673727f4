set_option maxHeartbeats 4000000 in
set_option maxRecDepth 100000 in
theorem c_X0_choose (l : Launch) (g : gG) {n : Nat} {S : Nat → gE} {u o : Nat} {mo wa re : Int} {y : Nat} {pl : Nat} {nH pHi pWi pLp pBk pHp : Int} {ln br rs : Nat → Int} {lf bl : Nat} {lv : Nat → Int} {dL dF dG dR dZ dW dU : Int} {ed : Nat → Int} {bs : sL} {how : Int} {cL cF cG cR cZ cW cU : Int} {hf eo : Nat → Int} (hu : S u = oO 0 [.ref pl, .ref y, .ref o, .ref (u + 1), .ref (u + 2), .ref (u + 5), .ref (u + 8), .int (iI mo), .int (iI wa), .int (iI re)]) (hy : S y = oO 4 [.ref pl, .ref (y + 1)]) (hp : S pl = oO 5 [.ref (pl + 1), .ref (pl + 2), .ref (pl + 3), .int (iI nH), .int (iI pHi), .int (iI pWi), .int (iI pLp), .int (iI pBk), .int (iI pHp)]) (hln : S (pl + 1) = oI g 8 ln) (hbr : S (pl + 2) = oI g 8 br) (hrs : S (y + 1) = oI g 8 rs) (ha : S (u + 2) = oO 3 [.ref (u + 2 + 1), .ref (u + 2 + 2), .int (iI cL), .int (iI cF), .int (iI cG), .int (iI cR), .int (iI cZ), .int (iI cW), .int (iI cU)]) (hhf : S (u + 3) = oI g 60 hf) (heo : S (u + 4) = oI g 60 eo) (hb : S bl = oO 3 [.ref (bl + 1), .ref (bl + 2), .int (iI dL), .int (iI dF), .int (iI dG), .int (iI dR), .int (iI dZ), .int (iI dW), .int (iI dU)]) (hed0 : S (bl + 2) = oI g 60 ed) (hlf : S lf = oI g 8 lv) (rH : 0 ≤ nH ∧ nH ≤ 8) (rP : ∀ i : Nat, (i : Int) < nH → (20 ≤ ln i ∧ ln i ≤ 60) ∧ (10 ≤ br i ∧ br i ≤ 60)) (rV : ∀ i : Nat, (i : Int) < nH → 0 ≤ lv i ∧ lv i ≤ 1000000) (rbk : 0 ≤ pBk ∧ pBk ≤ 1000000) (rlp : 0 ≤ pLp ∧ pLp ≤ 10) (rwi : 0 ≤ pWi ∧ pWi ≤ 1000) (rhp : 0 ≤ pHp ∧ pHp ≤ 9) (rhow : how = 0 ∨ how = 1) (rdL : 0 ≤ dL ∧ dL ≤ 60) (rft : 0 ≤ dF + dG ∧ dF + dG ≤ 1000) (hbs : dZ = bs.length ∧ bs.length ≤ 60 ∧ ∀ i : Nat, i < bs.length → ed i = slE bs i) (hbe : ∀ i : Nat, -1000000 ≤ slE bs i ∧ slE bs i ≤ 1000000) (hd : apA u y pl bl lf) : g_Cs l yX0_choose wsX0_choose { frames := 5, cells := 0, slots := 0, locals := 114 } g [.ref u, .int (iI how), .ref lf, .ref bl] n S (fun vr n1 S1 => ∃ r1 : Nat → Int, ∃ p1 : Int, ∃ p2 : Int, ∃ p3 : Int, ∃ p4 : Int, ∃ p5 : Int, ∃ p6 : Int, ∃ p7 : Int, ∃ h1 : Nat → Int, ∃ e1 : Nat → Int, vr = some (.int (iI (chL nH.toNat ln br pLp pWi pHp pBk how lv dL (dF + dG) bs))) ∧ n = n1 ∧ S1 (y + 1) = oI g 8 r1 ∧ S1 (u + 2) = oO 3 [.ref (u + 2 + 1), .ref (u + 2 + 2), .int (iI p1), .int (iI p2), .int (iI p3), .int (iI p4), .int (iI p5), .int (iI p6), .int (iI p7)] ∧ S1 (u + 3) = oI g 60 h1 ∧ S1 (u + 4) = oI g 60 e1 ∧ (∀ bb, bb ≠ (y + 1) → bb ≠ (u + 2) → bb ≠ (u + 3) → bb ≠ (u + 4) → S1 bb = S bb)) 0 0 := by
  refine g_Cs.of (cc := cX0_choose) (maxL := 10) (ret := (some .int)) (by decide) rfl (Nat.le_of_ble_eq_true rfl) ?_
  intro pp ee s m below meth cK Q H locs ls hc hnm hw hl hret
  have hl : lv_has ls 10 [(0, .ref u), (1, .int (iI how)), (2, .ref lf), (3, .ref bl)] := hl
  have hiX0 : ∀ w ∈ u_ws RX0 TX0 10, w ∈ wsX0_choose := by decide +kernel
  have hiX5 : ∀ w ∈ u_ws RX5 TX5 9, w ∈ wsX0_choose := by decide +kernel
  have hiX3 : ∀ w ∈ u_ws RX3 TX3 9, w ∈ wsX0_choose := by decide +kernel
  have lk28 : Cond.fieldLink RX0 28 "RoofCourses$Ahead" "plan" "LRoofCourses$Plan;" ∈ wsX0_choose := by decide +kernel
  have lk40 : Cond.fieldLink RX0 40 "RoofCourses$Plan" "heaps" "I" ∈ wsX0_choose := by decide +kernel
  have lk46 : Cond.fieldLink RX0 46 "RoofCourses$Plan" "length" "[I" ∈ wsX0_choose := by decide +kernel
  have lk49 : Cond.fieldLink RX0 49 "RoofCourses$Course" "length" "I" ∈ wsX0_choose := by decide +kernel
  have lk32 : Cond.fieldLink RX0 32 "RoofCourses$Ahead" "layer" "LRoofCourses$Layer;" ∈ wsX0_choose := by decide +kernel
  have lk18 : Cond.fieldLink RX0 18 "RoofCourses$Ahead" "probe" "LRoofCourses$Course;" ∈ wsX0_choose := by decide +kernel
  have lk57 : Cond.fieldLink RX0 57 "RoofCourses$Course" "waste" "I" ∈ wsX0_choose := by decide +kernel
  have lk60 : Cond.fieldLink RX0 60 "RoofCourses$Course" "gauge" "I" ∈ wsX0_choose := by decide +kernel
  have hm0 : 0 ≤ pHp * (dF + dG) := Int.mul_nonneg rhp.1 rft.1
  have hm1 : pHp * (dF + dG) ≤ 9 * 1000 := Int.mul_le_mul rhp.2 rft.2 rft.1 (by decide)
  have hLC : ∀ L : Int, layG nH.toNat ln br L (rmF pWi pHp (dF + dG)) ed pBk (dZ - 1).toNat 60 lv 0 = layC nH.toNat ln br pWi pHp pBk L lv (dF + dG) bs := fun L => by unfold layC; rw [show (dZ - 1).toNat = bs.length - 1 by omega]; exact layG_ed (fun i hi => hbs.2.2 i (by omega)) 60 lv 0
  have hedr : ∀ k : Nat, (k : Int) < dZ - 1 → -1000000 ≤ ed k ∧ ed k ≤ 1000000 := fun k hk => by rw [hbs.2.2 k (by omega)]; exact hbe k
  have hbr1 : ∀ i : Nat, i < nH.toNat → 1 ≤ br i := fun i hi => by have := rP i (by omega); omega
  have hbr2 : ∀ i : Nat, i < nH.toNat → 1 ≤ br i ∧ br i ≤ 60 := fun i hi => by have := rP i (by omega); omega
  have h20 : ∀ i : Nat, i < nH.toNat → 20 ≤ ln i ∧ ln i ≤ 60 := fun i hi => by have := rP i (by omega); omega
  refine nn_bipush hc dX0_choose_0 (by decide +kernel) ?_
  refine lv_istore (lv' := [(4, .int (iI (-4))), (0, .ref u), (1, .int (iI how)), (2, .ref lf), (3, .ref bl)]) hc.1 hc.2.1 dX0_choose_2 hl (by decide) rfl (fun ls hl => ?_)
  refine nn_iconst hc dX0_choose_4 ?_
  refine lv_istore (lv' := [(5, .int (iI 0)), (4, .int (iI (-4))), (0, .ref u), (1, .int (iI how)), (2, .ref lf), (3, .ref bl)]) hc.1 hc.2.1 dX0_choose_5 hl (by decide) rfl (fun ls hl => ?_)
  refine nn_iconst hc dX0_choose_7 ?_
  refine lv_istore (lv' := [(6, .int (iI 1)), (5, .int (iI 0)), (4, .int (iI (-4))), (0, .ref u), (1, .int (iI how)), (2, .ref lf), (3, .ref bl)]) hc.1 hc.2.1 dX0_choose_8 hl (by decide) rfl (fun ls hl => ?_)
  refine nn_iconst hc dX0_choose_10 ?_
  refine lv_istore (lv' := [(7, .int (iI 0)), (6, .int (iI 1)), (5, .int (iI 0)), (4, .int (iI (-4))), (0, .ref u), (1, .int (iI how)), (2, .ref lf), (3, .ref bl)]) hc.1 hc.2.1 dX0_choose_11 hl (by decide) rfl (fun ls hl => ?_)
  have lab13 : ∀ (fu13 : Nat) (h : Int) (best : Int) (bW : Int) (bG : Int) (ks : Nat → Int) (kh : Nat → Int) (ke : Nat → Int) (w1 : Int) (w2 : Int) (w3 : Int) (w4 : Int) (w5 : Int) (w6 : Int) (w7 : Int) (S1 : Nat → gE) (H : Heap) (locs : List Loc) (ls : Array Slot), (0 ≤ h ∧ h ≤ nH) → (chG nH.toNat ln br pLp pWi pHp pBk how lv dL (dF + dG) bs h.toNat = (best, bW, bG)) → (((best = -4 ∨ (20 ≤ best ∧ best ≤ 60)) ∧ (0 ≤ bW ∧ bW ≤ 216000)) ∧ (1 ≤ bG ∧ bG ≤ 30)) → (how = 1 → best = -4) → S1 (y + 1) = oI g 8 ks → S1 (u + 2) = oO 3 [.ref (u + 2 + 1), .ref (u + 2 + 2), .int (iI w1), .int (iI w2), .int (iI w3), .int (iI w4), .int (iI w5), .int (iI w6), .int (iI w7)] → S1 (u + 3) = oI g 60 kh → S1 (u + 4) = oI g 60 ke → (∀ bb, bb ≠ (y + 1) → bb ≠ (u + 2) → bb ≠ (u + 3) → bb ≠ (u + 4) → S1 bb = S bb) → g_W g n S1 s H locs → (nH - h).toNat < fu13 → lv_has ls 10 [(4, .int (iI best)), (5, .int (iI bW)), (6, .int (iI bG)), (7, .int (iI h)), (0, .ref u), (1, .int (iI how)), (2, .ref lf), (3, .ref bl)] → W pp l ee ({ frames := 5, cells := 0, slots := 0, locals := 114 } : Room) s m ([.ref u, .int (iI how), .ref lf, .ref bl] : List Value).toArray below meth cK H locs 0 0 Q (F0 m 13 ls []) := by
    intro fu13
    induction fu13 with
    | zero =>
      intro h best bW bG ks kh ke w1 w2 w3 w4 w5 w6 w7 S1 H locs ls hh hbst hrg hone hc13_0 hc13_1 hc13_2 hc13_3 fr13 hw hmeas hl
      exact absurd hmeas (Nat.not_lt_zero _)
    | succ fu13 ih13 =>
      intro h best bW bG ks kh ke w1 w2 w3 w4 w5 w6 w7 S1 H locs ls hh hbst hrg hone hc13_0 hc13_1 hc13_2 hc13_3 fr13 hw hmeas hl
      refine lv_iload hc.1 hc.2.1 dX0_choose_13 (lv_at hl 3 rfl) ?_
      refine lv_aload_n hc.1 hc.2.1 dX0_choose_15 rfl (lv_at hl 4 rfl) ?_
      have e2 : S1 u = oO 0 [.ref pl, .ref y, .ref o, .ref (u + 1), .ref (u + 2), .ref (u + 5), .ref (u + 8), .int (iI mo), .int (iI wa), .int (iI re)] := (fr13 u (by have hd9 := hd; unfold apA at hd9; omega) (off_nl (x := u) (a := 2) (by decide)) (off_nl (x := u) (a := 3) (by decide)) (off_nl (x := u) (a := 4) (by decide))).trans hu
      refine nn_get hc hw e2 hiX0 rfl 0 (by decide) rfl lk28 dX0_choose_16 ?_
      have e3 : S1 pl = oO 5 [.ref (pl + 1), .ref (pl + 2), .ref (pl + 3), .int (iI nH), .int (iI pHi), .int (iI pWi), .int (iI pLp), .int (iI pBk), .int (iI pHp)] := (fr13 pl (by have hd9 := hd; unfold apA at hd9; omega) (by have hd9 := hd; unfold apA at hd9; omega) (by have hd9 := hd; unfold apA at hd9; omega) (by have hd9 := hd; unfold apA at hd9; omega)).trans hp
      refine nn_get hc hw e3 hiX5 rfl 3 (by decide) rfl lk40 dX0_choose_19 ?_
      refine nn_icmp_ge hc dX0_choose_22 (tgt := 167) (by decide) (by omega) (by omega) (fun c4 => ?_) (fun c4 => ?_)
      · refine lv_iload hc.1 hc.2.1 dX0_choose_167 (lv_at hl 0 rfl) ?_
        exact hret (some (.int (iI best))) _ S1 _ _ _ _ hw (⟨_, _, _, _, _, _, _, _, _, _, congrArg (fun z => some (Value.int (iI z))) ((congrArg Prod.fst ((congrArg (chG nH.toNat ln br pLp pWi pHp pBk how lv dL (dF + dG) bs) (show nH.toNat = h.toNat by omega)).trans hbst)).symm), rfl, hc13_0, hc13_1, hc13_2, hc13_3, fun bb hb0 hb1 hb2 hb3 => (fr13 bb hb0 hb1 hb2 hb3)⟩) ⟨_, rfl, rfl, dX0_choose_169⟩
      · have hPh := rP h.toNat (by omega)
        refine lv_aload_n hc.1 hc.2.1 dX0_choose_25 rfl (lv_at hl 4 rfl) ?_
        refine nn_get hc hw e2 hiX0 rfl 0 (by decide) rfl lk28 dX0_choose_26 ?_
        refine nn_get hc hw e3 hiX5 rfl 0 (by decide) rfl lk46 dX0_choose_29 ?_
        refine lv_iload hc.1 hc.2.1 dX0_choose_32 (lv_at hl 3 rfl) ?_
        have e5 : S1 (pl + 1) = oI g 8 ln := (fr13 (pl + 1) (by have hd9 := hd; unfold apA at hd9; omega) (by have hd9 := hd; unfold apA at hd9; omega) (by have hd9 := hd; unfold apA at hd9; omega) (by have hd9 := hd; unfold apA at hd9; omega)).trans hln
        refine nn_iald hc hw e5 (by omega) (by omega) dX0_choose_34 ?_
        refine lv_istore (lv' := [(8, .int (iI (ln h.toNat))), (4, .int (iI best)), (5, .int (iI bW)), (6, .int (iI bG)), (7, .int (iI h)), (0, .ref u), (1, .int (iI how)), (2, .ref lf), (3, .ref bl)]) hc.1 hc.2.1 dX0_choose_35 hl (by decide) rfl (fun ls hl => ?_)
        refine lv_iload hc.1 hc.2.1 dX0_choose_37 (lv_at hl 4 rfl) ?_
        refine nn_if_eq hc dX0_choose_39 (tgt := 59) (by decide) (by omega) (fun c6 => ?_) (fun c6 => ?_)
        · refine nn_iconst hc dX0_choose_59 ?_
          refine lv_goto hc.1 hc.2.1 dX0_choose_60 (tgt := 64) (by decide) ?_
          have lab64 : ∀ (z : Int) (H : Heap) (locs : List Loc) (ls : Array Slot), ((z = 1 ∧ (h = 0 ∨ ln (h.toNat - 1) ≠ ln h.toNat)) ∨ (z = 0 ∧ ¬ h = 0 ∧ ln (h.toNat - 1) = ln h.toNat)) → g_W g n S1 s H locs → lv_has ls 10 [(0, .ref u), (1, .int (iI how)), (2, .ref lf), (3, .ref bl), (4, .int (iI best)), (5, .int (iI bW)), (6, .int (iI bG)), (7, .int (iI h)), (8, .int (iI (ln h.toNat)))] → W pp l ee ({ frames := 5, cells := 0, slots := 0, locals := 114 } : Room) s m ([.ref u, .int (iI how), .ref lf, .ref bl] : List Value).toArray below meth cK H locs 0 0 Q (F0 m 64 ls [.int (iI z)]) := by
            intro z H locs ls hz hw hl
            refine lv_istore (lv' := [(9, .int (iI z)), (0, .ref u), (1, .int (iI how)), (2, .ref lf), (3, .ref bl), (4, .int (iI best)), (5, .int (iI bW)), (6, .int (iI bG)), (7, .int (iI h)), (8, .int (iI (ln h.toNat)))]) hc.1 hc.2.1 dX0_choose_64 hl (by decide) rfl (fun ls hl => ?_)
            refine lv_iload hc.1 hc.2.1 dX0_choose_66 (lv_at hl 0 rfl) ?_
            refine nn_if_eq hc dX0_choose_68 (tgt := 161) (by decide) (by omega) (fun c8 => ?_) (fun c8 => ?_)
            · refine nn_iinc (lv' := [(7, .int (iI (h + 1))), (9, .int (iI z)), (0, .ref u), (1, .int (iI how)), (2, .ref lf), (3, .ref bl), (4, .int (iI best)), (5, .int (iI bW)), (6, .int (iI bG)), (8, .int (iI (ln h.toNat)))]) hc dX0_choose_161 hl (k0 := 8) rfl (by decide) rfl (fun ls hl => ?_)
              refine lv_goto hc.1 hc.2.1 dX0_choose_164 (tgt := 13) (by decide) ?_
              exact ih13 (h + 1) best bW bG ks kh ke w1 w2 w3 w4 w5 w6 w7 S1 _ _ _ (by omega) (by rw [toNat_succ (by omega)]; first | exact chG_take hN hly hC | exact (chG_keep hly hK).trans hbst | exact (chG_none hly).trans hbst | exact (chG_skip (b_no isN_iff (by omega))).trans hbst) (by omega) (fun hx => by first | exact hone hx | omega) hc13_0 hc13_1 hc13_2 hc13_3 (fun bb hb0 hb1 hb2 hb3 => (fr13 bb hb0 hb1 hb2 hb3)) hw (by omega) (lv_sub hl [6, 7, 8, 0, 2, 3, 4, 5] rfl)
            · refine lv_iload hc.1 hc.2.1 dX0_choose_71 (lv_at hl 9 rfl) ?_
              refine lv_aload_n hc.1 hc.2.1 dX0_choose_73 rfl (lv_at hl 4 rfl) ?_
              have e9 : S1 bl = oO 3 [.ref (bl + 1), .ref (bl + 2), .int (iI dL), .int (iI dF), .int (iI dG), .int (iI dR), .int (iI dZ), .int (iI dW), .int (iI dU)] := (fr13 bl (by have hd9 := hd; unfold apA at hd9; omega) (by have hd9 := hd; unfold apA at hd9; omega) (by have hd9 := hd; unfold apA at hd9; omega) (by have hd9 := hd; unfold apA at hd9; omega)).trans hb
              refine nn_get hc hw e9 hiX3 rfl 2 (by decide) rfl lk49 dX0_choose_74 ?_
              refine nn_icmp_gt hc dX0_choose_77 (tgt := 161) (by decide) (by omega) (by omega) (fun c10 => ?_) (fun c10 => ?_)
              · refine nn_iinc (lv' := [(7, .int (iI (h + 1))), (9, .int (iI z)), (0, .ref u), (1, .int (iI how)), (2, .ref lf), (3, .ref bl), (4, .int (iI best)), (5, .int (iI bW)), (6, .int (iI bG)), (8, .int (iI (ln h.toNat)))]) hc dX0_choose_161 hl (k0 := 8) rfl (by decide) rfl (fun ls hl => ?_)
                refine lv_goto hc.1 hc.2.1 dX0_choose_164 (tgt := 13) (by decide) ?_
                exact ih13 (h + 1) best bW bG ks kh ke w1 w2 w3 w4 w5 w6 w7 S1 _ _ _ (by omega) (by rw [toNat_succ (by omega)]; first | exact chG_take hN hly hC | exact (chG_keep hly hK).trans hbst | exact (chG_none hly).trans hbst | exact (chG_skip (b_no isN_iff (by omega))).trans hbst) (by omega) (fun hx => by first | exact hone hx | omega) hc13_0 hc13_1 hc13_2 hc13_3 (fun bb hb0 hb1 hb2 hb3 => (fr13 bb hb0 hb1 hb2 hb3)) hw (by omega) (lv_sub hl [6, 7, 8, 0, 2, 3, 4, 5] rfl)
              · have hN : isN ln dL h.toNat = true := isN_iff.mpr (by omega)
                refine lv_aload_n hc.1 hc.2.1 dX0_choose_80 rfl (lv_at hl 1 rfl) ?_
                refine nn_get hc hw e2 hiX0 rfl 1 (by decide) rfl lk32 dX0_choose_81 ?_
                refine lv_aload_n hc.1 hc.2.1 dX0_choose_84 rfl (lv_at hl 1 rfl) ?_
                refine nn_get hc hw e2 hiX0 rfl 4 (by decide) rfl lk18 dX0_choose_85 ?_
                refine lv_iload hc.1 hc.2.1 dX0_choose_88 (lv_at hl 9 rfl) ?_
                refine lv_aload_n hc.1 hc.2.1 dX0_choose_90 rfl (lv_at hl 3 rfl) ?_
                refine lv_aload_n hc.1 hc.2.1 dX0_choose_91 rfl (lv_at hl 4 rfl) ?_
                rcases hly : layC nH.toNat ln br pWi pHp pBk (ln h.toNat) lv (dF + dG) bs with _ | sl
                · have e11 : S1 y = oO 4 [.ref pl, .ref (y + 1)] := (fr13 y (off_nl (x := y) (a := 1) (by decide)) (by have hd9 := hd; unfold apA at hd9; omega) (by have hd9 := hd; unfold apA at hd9; omega) (by have hd9 := hd; unfold apA at hd9; omega)).trans hy
                  have e12 : S1 (pl + 2) = oI g 8 br := (fr13 (pl + 2) (by have hd9 := hd; unfold apA at hd9; omega) (by have hd9 := hd; unfold apA at hd9; omega) (by have hd9 := hd; unfold apA at hd9; omega) (by have hd9 := hd; unfold apA at hd9; omega)).trans hbr
                  have e13 : S1 (bl + 2) = oI g 60 ed := (fr13 (bl + 2) (by have hd9 := hd; unfold apA at hd9; omega) (by have hd9 := hd; unfold apA at hd9; omega) (by have hd9 := hd; unfold apA at hd9; omega) (by have hd9 := hd; unfold apA at hd9; omega)).trans hed0
                  have e14 : S1 lf = oI g 8 lv := (fr13 lf (by have hd9 := hd; unfold apA at hd9; omega) (by have hd9 := hd; unfold apA at hd9; omega) (by have hd9 := hd; unfold apA at hd9; omega) (by have hd9 := hd; unfold apA at hd9; omega)).trans hlf
                  refine nn_Vs (As := [.ref (u + 2), .int (iI (ln h.toNat)), .ref lf, .ref bl]) (st := []) hc hw e11 rfl (c_X4_fill_no l g  e11 e3 e5 e12 hc13_0 hc13_1 hc13_2 hc13_3 e9 e13 e14 (by omega) (rP) (rV) (by omega) (hedr) (by omega) (by omega) (by omega) (by omega) (by omega) (by omega) (by have hd9 := hd; unfold apA at hd9; omega) (by have hd9 := hd; unfold apA at hd9; omega) ((hLC _).trans hly)) (cwV 4 hc.2.2.2.2 gX0_choose_X4_fill rfl rfl rfl (by decide +kernel) ⟨Nat.le_of_ble_eq_true rfl, Nat.le_of_ble_eq_true rfl⟩) rfl hl.1 rfl (Nat.le_of_ble_eq_true rfl) ⟨Nat.le_of_ble_eq_true rfl, Nat.le_of_ble_eq_true rfl⟩ dX0_choose_92 (fun vr n1 S15 H locs qS15 hw => ?_)
                  obtain ⟨r1_16, z1_17, w1_18, u1_19, h1_20, e1_21, rfl, rfl, hS15_0, hS15_1, hS15_2, hS15_3, fS15⟩ := qS15
                  refine W.eq (g2 := F0 m 95 ls [.int (iI 0)]) rfl ?_
                  refine nn_if_ne hc dX0_choose_95 (tgt := 101) (by decide) (by decide) (fun c22 => ?_) (fun c22 => ?_)
                  · exact absurd c22 (by decide)
                  · refine lv_goto hc.1 hc.2.1 dX0_choose_98 (tgt := 161) (by decide) ?_
                    refine nn_iinc (lv' := [(7, .int (iI (h + 1))), (9, .int (iI z)), (0, .ref u), (1, .int (iI how)), (2, .ref lf), (3, .ref bl), (4, .int (iI best)), (5, .int (iI bW)), (6, .int (iI bG)), (8, .int (iI (ln h.toNat)))]) hc dX0_choose_161 hl (k0 := 8) rfl (by decide) rfl (fun ls hl => ?_)
                    refine lv_goto hc.1 hc.2.1 dX0_choose_164 (tgt := 13) (by decide) ?_
                    exact ih13 (h + 1) best bW bG r1_16 h1_20 e1_21 (ln h.toNat) (dF + dG) (((ln h.toNat) - pLp) / 2) (rmF pWi pHp (dF + dG)) z1_17 w1_18 u1_19 S15 _ _ _ (by omega) (by rw [toNat_succ (by omega)]; first | exact chG_take hN hly hC | exact (chG_keep hly hK).trans hbst | exact (chG_none hly).trans hbst | exact (chG_skip (b_no isN_iff (by omega))).trans hbst) (by omega) (fun hx => by first | exact hone hx | omega) hS15_0 hS15_1 hS15_2 hS15_3 (fun bb hb0 hb1 hb2 hb3 => ((fS15 bb hb0 hb1 hb2 hb3)).trans (fr13 bb hb0 hb1 hb2 hb3)) hw (by omega) (lv_sub hl [6, 7, 8, 0, 2, 3, 4, 5] rfl)
                · have e23 : S1 y = oO 4 [.ref pl, .ref (y + 1)] := (fr13 y (off_nl (x := y) (a := 1) (by decide)) (by have hd9 := hd; unfold apA at hd9; omega) (by have hd9 := hd; unfold apA at hd9; omega) (by have hd9 := hd; unfold apA at hd9; omega)).trans hy
                  have e24 : S1 (pl + 2) = oI g 8 br := (fr13 (pl + 2) (by have hd9 := hd; unfold apA at hd9; omega) (by have hd9 := hd; unfold apA at hd9; omega) (by have hd9 := hd; unfold apA at hd9; omega) (by have hd9 := hd; unfold apA at hd9; omega)).trans hbr
                  have e25 : S1 (bl + 2) = oI g 60 ed := (fr13 (bl + 2) (by have hd9 := hd; unfold apA at hd9; omega) (by have hd9 := hd; unfold apA at hd9; omega) (by have hd9 := hd; unfold apA at hd9; omega) (by have hd9 := hd; unfold apA at hd9; omega)).trans hed0
                  have e26 : S1 lf = oI g 8 lv := (fr13 lf (by have hd9 := hd; unfold apA at hd9; omega) (by have hd9 := hd; unfold apA at hd9; omega) (by have hd9 := hd; unfold apA at hd9; omega) (by have hd9 := hd; unfold apA at hd9; omega)).trans hlf
                  refine nn_Vs (As := [.ref (u + 2), .int (iI (ln h.toNat)), .ref lf, .ref bl]) (st := []) hc hw e23 rfl (c_X4_fill_yes l g  e23 e3 e5 e24 hc13_0 hc13_1 hc13_2 hc13_3 e9 e25 e26 (by omega) (rP) (rV) (by omega) (hedr) (by omega) (by omega) (by omega) (by omega) (by omega) (by omega) (by have hd9 := hd; unfold apA at hd9; omega) (by have hd9 := hd; unfold apA at hd9; omega) ((hLC _).trans hly)) (cwV 4 hc.2.2.2.2 gX0_choose_X4_fill rfl rfl rfl (by decide +kernel) ⟨Nat.le_of_ble_eq_true rfl, Nat.le_of_ble_eq_true rfl⟩) rfl hl.1 rfl (Nat.le_of_ble_eq_true rfl) ⟨Nat.le_of_ble_eq_true rfl, Nat.le_of_ble_eq_true rfl⟩ dX0_choose_92 (fun vr n1 S27 H locs qS27 hw => ?_)
                  obtain ⟨r1_28, h1_29, e1_30, rfl, rfl, hS27_0, hS27_1, hS27_2, hS27_3, kS27_0, kS27_1, fS27⟩ := qS27
                  refine W.eq (g2 := F0 m 95 ls [.int (iI 1)]) rfl ?_
                  refine nn_if_ne hc dX0_choose_95 (tgt := 101) (by decide) (by decide) (fun c31 => ?_) (fun c31 => ?_)
                  · have hgd := layC_good hbr1 hly
                    have hws := wst_rng hbr2 (by omega) sl hgd.1
                    refine lv_iload_n hc.1 hc.2.1 dX0_choose_101 rfl (lv_at hl 2 rfl) ?_
                    refine nn_iconst hc dX0_choose_102 ?_
                    refine nn_icmp_ne hc dX0_choose_103 (tgt := 109) (by decide) (by omega) (by decide) (fun c32 => ?_) (fun c32 => ?_)
                    · refine lv_iload hc.1 hc.2.1 dX0_choose_109 (lv_at hl 5 rfl) ?_
                      refine nn_bipush hc dX0_choose_111 (by decide +kernel) ?_
                      refine nn_icmp_eq hc dX0_choose_113 (tgt := 139) (by decide) (by omega) (by decide) (fun c33 => ?_) (fun c33 => ?_)
                      · have hC : (chG nH.toNat ln br pLp pWi pHp pBk how lv dL (dF + dG) bs h.toNat).1 = -4 ∨ (how = 0 ∧ wst br (ln h.toNat) sl * (chG nH.toNat ln br pLp pWi pHp pBk how lv dL (dF + dG) bs h.toNat).2.2 < (chG nH.toNat ln br pLp pWi pHp pBk how lv dL (dF + dG) bs h.toNat).2.1 * ((ln h.toNat - pLp) / 2)) := by rw [hbst]; exact Or.inl c33
                        refine lv_iload hc.1 hc.2.1 dX0_choose_139 (lv_at hl 9 rfl) ?_
                        refine lv_istore (lv' := [(4, .int (iI (ln h.toNat))), (9, .int (iI z)), (0, .ref u), (1, .int (iI how)), (2, .ref lf), (3, .ref bl), (5, .int (iI bW)), (6, .int (iI bG)), (7, .int (iI h)), (8, .int (iI (ln h.toNat)))]) hc.1 hc.2.1 dX0_choose_141 hl (by decide) rfl (fun ls hl => ?_)
                        refine lv_aload_n hc.1 hc.2.1 dX0_choose_143 rfl (lv_at hl 2 rfl) ?_
                        have e34 : S27 u = oO 0 [.ref pl, .ref y, .ref o, .ref (u + 1), .ref (u + 2), .ref (u + 5), .ref (u + 8), .int (iI mo), .int (iI wa), .int (iI re)] := (fS27 u (by have hd9 := hd; unfold apA at hd9; omega) (off_nl (x := u) (a := 2) (by decide)) (off_nl (x := u) (a := 3) (by decide)) (off_nl (x := u) (a := 4) (by decide))).trans e2
                        refine nn_get hc hw e34 hiX0 rfl 4 (by decide) rfl lk18 dX0_choose_144 ?_
                        refine nn_get hc hw hS27_1 hiX3 rfl 7 (by decide) rfl lk57 dX0_choose_147 ?_
                        refine lv_istore (lv' := [(5, .int (iI (wst br (ln h.toNat) sl))), (4, .int (iI (ln h.toNat))), (9, .int (iI z)), (0, .ref u), (1, .int (iI how)), (2, .ref lf), (3, .ref bl), (6, .int (iI bG)), (7, .int (iI h)), (8, .int (iI (ln h.toNat)))]) hc.1 hc.2.1 dX0_choose_150 hl (by decide) rfl (fun ls hl => ?_)
                        refine lv_aload_n hc.1 hc.2.1 dX0_choose_152 rfl (lv_at hl 3 rfl) ?_
                        refine nn_get hc hw e34 hiX0 rfl 4 (by decide) rfl lk18 dX0_choose_153 ?_
                        refine nn_get hc hw hS27_1 hiX3 rfl 4 (by decide) rfl lk60 dX0_choose_156 ?_
                        refine lv_istore (lv' := [(6, .int (iI (((ln h.toNat) - pLp) / 2))), (5, .int (iI (wst br (ln h.toNat) sl))), (4, .int (iI (ln h.toNat))), (9, .int (iI z)), (0, .ref u), (1, .int (iI how)), (2, .ref lf), (3, .ref bl), (7, .int (iI h)), (8, .int (iI (ln h.toNat)))]) hc.1 hc.2.1 dX0_choose_159 hl (by decide) rfl (fun ls hl => ?_)
                        refine nn_iinc (lv' := [(7, .int (iI (h + 1))), (6, .int (iI (((ln h.toNat) - pLp) / 2))), (5, .int (iI (wst br (ln h.toNat) sl))), (4, .int (iI (ln h.toNat))), (9, .int (iI z)), (0, .ref u), (1, .int (iI how)), (2, .ref lf), (3, .ref bl), (8, .int (iI (ln h.toNat)))]) hc dX0_choose_161 hl (k0 := 8) rfl (by decide) rfl (fun ls hl => ?_)
                        refine lv_goto hc.1 hc.2.1 dX0_choose_164 (tgt := 13) (by decide) ?_
                        exact ih13 (h + 1) (ln h.toNat) (wst br (ln h.toNat) sl) (((ln h.toNat) - pLp) / 2) r1_28 h1_29 e1_30 (ln h.toNat) (dF + dG) (((ln h.toNat) - pLp) / 2) (rmF pWi pHp (dF + dG)) (sl.length : Int) (wst br (ln h.toNat) sl) (cuts br sl) S27 _ _ _ (by omega) (by rw [toNat_succ (by omega)]; first | exact chG_take hN hly hC | exact (chG_keep hly hK).trans hbst | exact (chG_none hly).trans hbst | exact (chG_skip (b_no isN_iff (by omega))).trans hbst) (by omega) (fun hx => by first | exact hone hx | omega) hS27_0 hS27_1 hS27_2 hS27_3 (fun bb hb0 hb1 hb2 hb3 => ((fS27 bb hb0 hb1 hb2 hb3)).trans (fr13 bb hb0 hb1 hb2 hb3)) hw (by omega) (lv_sub hl [3, 2, 1, 0, 5, 6, 7, 8] rfl)
                      · have m1 : 0 ≤ wst br (ln h.toNat) sl * bG := Int.mul_nonneg hws.1 (by omega)
                        have m2 : wst br (ln h.toNat) sl * bG ≤ 216000 * 30 := Int.mul_le_mul (by omega) (by omega) (by omega) (by decide)
                        have m3 : 0 ≤ bW * ((ln h.toNat - pLp) / 2) := Int.mul_nonneg (by omega) (by omega)
                        have m4 : bW * ((ln h.toNat - pLp) / 2) ≤ 216000 * 30 := Int.mul_le_mul (by omega) (by omega) (by omega) (by decide)
                        refine lv_aload_n hc.1 hc.2.1 dX0_choose_116 rfl (lv_at hl 1 rfl) ?_
                        have e35 : S27 u = oO 0 [.ref pl, .ref y, .ref o, .ref (u + 1), .ref (u + 2), .ref (u + 5), .ref (u + 8), .int (iI mo), .int (iI wa), .int (iI re)] := (fS27 u (by have hd9 := hd; unfold apA at hd9; omega) (off_nl (x := u) (a := 2) (by decide)) (off_nl (x := u) (a := 3) (by decide)) (off_nl (x := u) (a := 4) (by decide))).trans e2
                        refine nn_get hc hw e35 hiX0 rfl 4 (by decide) rfl lk18 dX0_choose_117 ?_
                        refine nn_get hc hw hS27_1 hiX3 rfl 7 (by decide) rfl lk57 dX0_choose_120 ?_
                        refine lv_iload hc.1 hc.2.1 dX0_choose_123 (lv_at hl 7 rfl) ?_
                        refine nn_imul hc dX0_choose_125 ?_
                        refine lv_iload hc.1 hc.2.1 dX0_choose_126 (lv_at hl 6 rfl) ?_
                        refine lv_aload_n hc.1 hc.2.1 dX0_choose_128 rfl (lv_at hl 1 rfl) ?_
                        refine nn_get hc hw e35 hiX0 rfl 4 (by decide) rfl lk18 dX0_choose_129 ?_
                        refine nn_get hc hw hS27_1 hiX3 rfl 4 (by decide) rfl lk60 dX0_choose_132 ?_
                        refine nn_imul hc dX0_choose_135 ?_
                        refine nn_icmp_ge hc dX0_choose_136 (tgt := 161) (by decide) (by omega) (by omega) (fun c36 => ?_) (fun c36 => ?_)
                        · have hK : ¬ ((chG nH.toNat ln br pLp pWi pHp pBk how lv dL (dF + dG) bs h.toNat).1 = -4 ∨ (how = 0 ∧ wst br (ln h.toNat) sl * (chG nH.toNat ln br pLp pWi pHp pBk how lv dL (dF + dG) bs h.toNat).2.2 < (chG nH.toNat ln br pLp pWi pHp pBk how lv dL (dF + dG) bs h.toNat).2.1 * ((ln h.toNat - pLp) / 2))) := by rw [hbst]; intro hq; rcases hq with hq | hq; exact absurd hq (by omega); have hq2 : wst br (ln h.toNat) sl * bG < bW * ((ln h.toNat - pLp) / 2) := hq.2; omega
                          refine nn_iinc (lv' := [(7, .int (iI (h + 1))), (9, .int (iI z)), (0, .ref u), (1, .int (iI how)), (2, .ref lf), (3, .ref bl), (4, .int (iI best)), (5, .int (iI bW)), (6, .int (iI bG)), (8, .int (iI (ln h.toNat)))]) hc dX0_choose_161 hl (k0 := 8) rfl (by decide) rfl (fun ls hl => ?_)
                          refine lv_goto hc.1 hc.2.1 dX0_choose_164 (tgt := 13) (by decide) ?_
                          exact ih13 (h + 1) best bW bG r1_28 h1_29 e1_30 (ln h.toNat) (dF + dG) (((ln h.toNat) - pLp) / 2) (rmF pWi pHp (dF + dG)) (sl.length : Int) (wst br (ln h.toNat) sl) (cuts br sl) S27 _ _ _ (by omega) (by rw [toNat_succ (by omega)]; first | exact chG_take hN hly hC | exact (chG_keep hly hK).trans hbst | exact (chG_none hly).trans hbst | exact (chG_skip (b_no isN_iff (by omega))).trans hbst) (by omega) (fun hx => by first | exact hone hx | omega) hS27_0 hS27_1 hS27_2 hS27_3 (fun bb hb0 hb1 hb2 hb3 => ((fS27 bb hb0 hb1 hb2 hb3)).trans (fr13 bb hb0 hb1 hb2 hb3)) hw (by omega) (lv_sub hl [6, 7, 8, 0, 2, 3, 4, 5] rfl)
                        · have hC : (chG nH.toNat ln br pLp pWi pHp pBk how lv dL (dF + dG) bs h.toNat).1 = -4 ∨ (how = 0 ∧ wst br (ln h.toNat) sl * (chG nH.toNat ln br pLp pWi pHp pBk how lv dL (dF + dG) bs h.toNat).2.2 < (chG nH.toNat ln br pLp pWi pHp pBk how lv dL (dF + dG) bs h.toNat).2.1 * ((ln h.toNat - pLp) / 2)) := by rw [hbst]; exact Or.inr ⟨by omega, c36⟩
                          refine lv_iload hc.1 hc.2.1 dX0_choose_139 (lv_at hl 9 rfl) ?_
                          refine lv_istore (lv' := [(4, .int (iI (ln h.toNat))), (9, .int (iI z)), (0, .ref u), (1, .int (iI how)), (2, .ref lf), (3, .ref bl), (5, .int (iI bW)), (6, .int (iI bG)), (7, .int (iI h)), (8, .int (iI (ln h.toNat)))]) hc.1 hc.2.1 dX0_choose_141 hl (by decide) rfl (fun ls hl => ?_)
                          refine lv_aload_n hc.1 hc.2.1 dX0_choose_143 rfl (lv_at hl 2 rfl) ?_
                          refine nn_get hc hw e35 hiX0 rfl 4 (by decide) rfl lk18 dX0_choose_144 ?_
                          refine nn_get hc hw hS27_1 hiX3 rfl 7 (by decide) rfl lk57 dX0_choose_147 ?_
                          refine lv_istore (lv' := [(5, .int (iI (wst br (ln h.toNat) sl))), (4, .int (iI (ln h.toNat))), (9, .int (iI z)), (0, .ref u), (1, .int (iI how)), (2, .ref lf), (3, .ref bl), (6, .int (iI bG)), (7, .int (iI h)), (8, .int (iI (ln h.toNat)))]) hc.1 hc.2.1 dX0_choose_150 hl (by decide) rfl (fun ls hl => ?_)
                          refine lv_aload_n hc.1 hc.2.1 dX0_choose_152 rfl (lv_at hl 3 rfl) ?_
                          refine nn_get hc hw e35 hiX0 rfl 4 (by decide) rfl lk18 dX0_choose_153 ?_
                          refine nn_get hc hw hS27_1 hiX3 rfl 4 (by decide) rfl lk60 dX0_choose_156 ?_
                          refine lv_istore (lv' := [(6, .int (iI (((ln h.toNat) - pLp) / 2))), (5, .int (iI (wst br (ln h.toNat) sl))), (4, .int (iI (ln h.toNat))), (9, .int (iI z)), (0, .ref u), (1, .int (iI how)), (2, .ref lf), (3, .ref bl), (7, .int (iI h)), (8, .int (iI (ln h.toNat)))]) hc.1 hc.2.1 dX0_choose_159 hl (by decide) rfl (fun ls hl => ?_)
                          refine nn_iinc (lv' := [(7, .int (iI (h + 1))), (6, .int (iI (((ln h.toNat) - pLp) / 2))), (5, .int (iI (wst br (ln h.toNat) sl))), (4, .int (iI (ln h.toNat))), (9, .int (iI z)), (0, .ref u), (1, .int (iI how)), (2, .ref lf), (3, .ref bl), (8, .int (iI (ln h.toNat)))]) hc dX0_choose_161 hl (k0 := 8) rfl (by decide) rfl (fun ls hl => ?_)
                          refine lv_goto hc.1 hc.2.1 dX0_choose_164 (tgt := 13) (by decide) ?_
                          exact ih13 (h + 1) (ln h.toNat) (wst br (ln h.toNat) sl) (((ln h.toNat) - pLp) / 2) r1_28 h1_29 e1_30 (ln h.toNat) (dF + dG) (((ln h.toNat) - pLp) / 2) (rmF pWi pHp (dF + dG)) (sl.length : Int) (wst br (ln h.toNat) sl) (cuts br sl) S27 _ _ _ (by omega) (by rw [toNat_succ (by omega)]; first | exact chG_take hN hly hC | exact (chG_keep hly hK).trans hbst | exact (chG_none hly).trans hbst | exact (chG_skip (b_no isN_iff (by omega))).trans hbst) (by omega) (fun hx => by first | exact hone hx | omega) hS27_0 hS27_1 hS27_2 hS27_3 (fun bb hb0 hb1 hb2 hb3 => ((fS27 bb hb0 hb1 hb2 hb3)).trans (fr13 bb hb0 hb1 hb2 hb3)) hw (by omega) (lv_sub hl [3, 2, 1, 0, 5, 6, 7, 8] rfl)
                    · have hC : (chG nH.toNat ln br pLp pWi pHp pBk how lv dL (dF + dG) bs h.toNat).1 = -4 ∨ (how = 0 ∧ wst br (ln h.toNat) sl * (chG nH.toNat ln br pLp pWi pHp pBk how lv dL (dF + dG) bs h.toNat).2.2 < (chG nH.toNat ln br pLp pWi pHp pBk how lv dL (dF + dG) bs h.toNat).2.1 * ((ln h.toNat - pLp) / 2)) := by rw [hbst]; exact Or.inl (hone (by omega))
                      have hT := chG_take hN hly hC
                      have hres : ln h.toNat = chL nH.toNat ln br pLp pWi pHp pBk how lv dL (dF + dG) bs := by unfold chL; have hS := chG_stay (nH := nH.toNat) (ln := ln) (br := br) (lp := pLp) (wi := pWi) (hp := pHp) (bk := pBk) (how := how) (lv := lv) (bL := dL) (hd := dF + dG) (bs := bs) (by omega) (k := h.toNat + 1) (by rw [hT]; show ln h.toNat ≠ -4; omega) (nH.toNat - (h.toNat + 1)); rw [show h.toNat + 1 + (nH.toNat - (h.toNat + 1)) = nH.toNat by omega] at hS; rw [hS, hT]
                      refine lv_iload hc.1 hc.2.1 dX0_choose_106 (lv_at hl 9 rfl) ?_
                      exact hret (some (.int (iI (ln h.toNat)))) _ S27 _ _ _ _ hw (⟨_, _, _, _, _, _, _, _, _, _, congrArg (fun z => some (Value.int (iI z))) hres, rfl, hS27_0, hS27_1, hS27_2, hS27_3, fun bb hb0 hb1 hb2 hb3 => ((fS27 bb hb0 hb1 hb2 hb3)).trans (fr13 bb hb0 hb1 hb2 hb3)⟩) ⟨_, rfl, rfl, dX0_choose_108⟩
                  · exact absurd c31 (by decide)
          exact lab64 1 _ _ _ (by omega) hw (lv_sub hl [5, 6, 7, 8, 1, 2, 3, 4, 0] rfl)
        · have hPg := rP (h - 1).toNat (by omega)
          have e42 : ln (h - 1).toNat = ln (h.toNat - 1) := by rw [show (h - 1).toNat = h.toNat - 1 by omega]
          refine lv_aload_n hc.1 hc.2.1 dX0_choose_42 rfl (lv_at hl 5 rfl) ?_
          refine nn_get hc hw e2 hiX0 rfl 0 (by decide) rfl lk28 dX0_choose_43 ?_
          refine nn_get hc hw e3 hiX5 rfl 0 (by decide) rfl lk46 dX0_choose_46 ?_
          refine lv_iload hc.1 hc.2.1 dX0_choose_49 (lv_at hl 4 rfl) ?_
          refine nn_iconst hc dX0_choose_51 ?_
          refine nn_isub hc dX0_choose_52 ?_
          refine nn_iald hc hw e5 (by omega) (by omega) dX0_choose_53 ?_
          refine lv_iload hc.1 hc.2.1 dX0_choose_54 (lv_at hl 0 rfl) ?_
          refine nn_icmp_eq hc dX0_choose_56 (tgt := 63) (by decide) (by omega) (by omega) (fun c37 => ?_) (fun c37 => ?_)
          · refine nn_iconst hc dX0_choose_63 ?_
            have lab64 : ∀ (z : Int) (H : Heap) (locs : List Loc) (ls : Array Slot), ((z = 1 ∧ (h = 0 ∨ ln (h.toNat - 1) ≠ ln h.toNat)) ∨ (z = 0 ∧ ¬ h = 0 ∧ ln (h.toNat - 1) = ln h.toNat)) → g_W g n S1 s H locs → lv_has ls 10 [(0, .ref u), (1, .int (iI how)), (2, .ref lf), (3, .ref bl), (4, .int (iI best)), (5, .int (iI bW)), (6, .int (iI bG)), (7, .int (iI h)), (8, .int (iI (ln h.toNat)))] → W pp l ee ({ frames := 5, cells := 0, slots := 0, locals := 114 } : Room) s m ([.ref u, .int (iI how), .ref lf, .ref bl] : List Value).toArray below meth cK H locs 0 0 Q (F0 m 64 ls [.int (iI z)]) := by
              intro z H locs ls hz hw hl
              refine lv_istore (lv' := [(9, .int (iI z)), (0, .ref u), (1, .int (iI how)), (2, .ref lf), (3, .ref bl), (4, .int (iI best)), (5, .int (iI bW)), (6, .int (iI bG)), (7, .int (iI h)), (8, .int (iI (ln h.toNat)))]) hc.1 hc.2.1 dX0_choose_64 hl (by decide) rfl (fun ls hl => ?_)
              refine lv_iload hc.1 hc.2.1 dX0_choose_66 (lv_at hl 0 rfl) ?_
              refine nn_if_eq hc dX0_choose_68 (tgt := 161) (by decide) (by omega) (fun c39 => ?_) (fun c39 => ?_)
              · refine nn_iinc (lv' := [(7, .int (iI (h + 1))), (9, .int (iI z)), (0, .ref u), (1, .int (iI how)), (2, .ref lf), (3, .ref bl), (4, .int (iI best)), (5, .int (iI bW)), (6, .int (iI bG)), (8, .int (iI (ln h.toNat)))]) hc dX0_choose_161 hl (k0 := 8) rfl (by decide) rfl (fun ls hl => ?_)
                refine lv_goto hc.1 hc.2.1 dX0_choose_164 (tgt := 13) (by decide) ?_
                exact ih13 (h + 1) best bW bG ks kh ke w1 w2 w3 w4 w5 w6 w7 S1 _ _ _ (by omega) (by rw [toNat_succ (by omega)]; first | exact chG_take hN hly hC | exact (chG_keep hly hK).trans hbst | exact (chG_none hly).trans hbst | exact (chG_skip (b_no isN_iff (by omega))).trans hbst) (by omega) (fun hx => by first | exact hone hx | omega) hc13_0 hc13_1 hc13_2 hc13_3 (fun bb hb0 hb1 hb2 hb3 => (fr13 bb hb0 hb1 hb2 hb3)) hw (by omega) (lv_sub hl [6, 7, 8, 0, 2, 3, 4, 5] rfl)
              · refine lv_iload hc.1 hc.2.1 dX0_choose_71 (lv_at hl 9 rfl) ?_
                refine lv_aload_n hc.1 hc.2.1 dX0_choose_73 rfl (lv_at hl 4 rfl) ?_
                have e40 : S1 bl = oO 3 [.ref (bl + 1), .ref (bl + 2), .int (iI dL), .int (iI dF), .int (iI dG), .int (iI dR), .int (iI dZ), .int (iI dW), .int (iI dU)] := (fr13 bl (by have hd9 := hd; unfold apA at hd9; omega) (by have hd9 := hd; unfold apA at hd9; omega) (by have hd9 := hd; unfold apA at hd9; omega) (by have hd9 := hd; unfold apA at hd9; omega)).trans hb
                refine nn_get hc hw e40 hiX3 rfl 2 (by decide) rfl lk49 dX0_choose_74 ?_
                refine nn_icmp_gt hc dX0_choose_77 (tgt := 161) (by decide) (by omega) (by omega) (fun c41 => ?_) (fun c41 => ?_)
                · refine nn_iinc (lv' := [(7, .int (iI (h + 1))), (9, .int (iI z)), (0, .ref u), (1, .int (iI how)), (2, .ref lf), (3, .ref bl), (4, .int (iI best)), (5, .int (iI bW)), (6, .int (iI bG)), (8, .int (iI (ln h.toNat)))]) hc dX0_choose_161 hl (k0 := 8) rfl (by decide) rfl (fun ls hl => ?_)
                  refine lv_goto hc.1 hc.2.1 dX0_choose_164 (tgt := 13) (by decide) ?_
                  exact ih13 (h + 1) best bW bG ks kh ke w1 w2 w3 w4 w5 w6 w7 S1 _ _ _ (by omega) (by rw [toNat_succ (by omega)]; first | exact chG_take hN hly hC | exact (chG_keep hly hK).trans hbst | exact (chG_none hly).trans hbst | exact (chG_skip (b_no isN_iff (by omega))).trans hbst) (by omega) (fun hx => by first | exact hone hx | omega) hc13_0 hc13_1 hc13_2 hc13_3 (fun bb hb0 hb1 hb2 hb3 => (fr13 bb hb0 hb1 hb2 hb3)) hw (by omega) (lv_sub hl [6, 7, 8, 0, 2, 3, 4, 5] rfl)
                · have hN : isN ln dL h.toNat = true := isN_iff.mpr (by omega)
                  refine lv_aload_n hc.1 hc.2.1 dX0_choose_80 rfl (lv_at hl 1 rfl) ?_
                  refine nn_get hc hw e2 hiX0 rfl 1 (by decide) rfl lk32 dX0_choose_81 ?_
                  refine lv_aload_n hc.1 hc.2.1 dX0_choose_84 rfl (lv_at hl 1 rfl) ?_
                  refine nn_get hc hw e2 hiX0 rfl 4 (by decide) rfl lk18 dX0_choose_85 ?_
                  refine lv_iload hc.1 hc.2.1 dX0_choose_88 (lv_at hl 9 rfl) ?_
                  refine lv_aload_n hc.1 hc.2.1 dX0_choose_90 rfl (lv_at hl 3 rfl) ?_
                  refine lv_aload_n hc.1 hc.2.1 dX0_choose_91 rfl (lv_at hl 4 rfl) ?_
                  rcases hly : layC nH.toNat ln br pWi pHp pBk (ln h.toNat) lv (dF + dG) bs with _ | sl
                  · have e42 : S1 y = oO 4 [.ref pl, .ref (y + 1)] := (fr13 y (off_nl (x := y) (a := 1) (by decide)) (by have hd9 := hd; unfold apA at hd9; omega) (by have hd9 := hd; unfold apA at hd9; omega) (by have hd9 := hd; unfold apA at hd9; omega)).trans hy
                    have e43 : S1 (pl + 2) = oI g 8 br := (fr13 (pl + 2) (by have hd9 := hd; unfold apA at hd9; omega) (by have hd9 := hd; unfold apA at hd9; omega) (by have hd9 := hd; unfold apA at hd9; omega) (by have hd9 := hd; unfold apA at hd9; omega)).trans hbr
                    have e44 : S1 (bl + 2) = oI g 60 ed := (fr13 (bl + 2) (by have hd9 := hd; unfold apA at hd9; omega) (by have hd9 := hd; unfold apA at hd9; omega) (by have hd9 := hd; unfold apA at hd9; omega) (by have hd9 := hd; unfold apA at hd9; omega)).trans hed0
                    have e45 : S1 lf = oI g 8 lv := (fr13 lf (by have hd9 := hd; unfold apA at hd9; omega) (by have hd9 := hd; unfold apA at hd9; omega) (by have hd9 := hd; unfold apA at hd9; omega) (by have hd9 := hd; unfold apA at hd9; omega)).trans hlf
                    refine nn_Vs (As := [.ref (u + 2), .int (iI (ln h.toNat)), .ref lf, .ref bl]) (st := []) hc hw e42 rfl (c_X4_fill_no l g  e42 e3 e5 e43 hc13_0 hc13_1 hc13_2 hc13_3 e40 e44 e45 (by omega) (rP) (rV) (by omega) (hedr) (by omega) (by omega) (by omega) (by omega) (by omega) (by omega) (by have hd9 := hd; unfold apA at hd9; omega) (by have hd9 := hd; unfold apA at hd9; omega) ((hLC _).trans hly)) (cwV 4 hc.2.2.2.2 gX0_choose_X4_fill rfl rfl rfl (by decide +kernel) ⟨Nat.le_of_ble_eq_true rfl, Nat.le_of_ble_eq_true rfl⟩) rfl hl.1 rfl (Nat.le_of_ble_eq_true rfl) ⟨Nat.le_of_ble_eq_true rfl, Nat.le_of_ble_eq_true rfl⟩ dX0_choose_92 (fun vr n1 S46 H locs qS46 hw => ?_)
                    obtain ⟨r1_47, z1_48, w1_49, u1_50, h1_51, e1_52, rfl, rfl, hS46_0, hS46_1, hS46_2, hS46_3, fS46⟩ := qS46
                    refine W.eq (g2 := F0 m 95 ls [.int (iI 0)]) rfl ?_
                    refine nn_if_ne hc dX0_choose_95 (tgt := 101) (by decide) (by decide) (fun c53 => ?_) (fun c53 => ?_)
                    · exact absurd c53 (by decide)
                    · refine lv_goto hc.1 hc.2.1 dX0_choose_98 (tgt := 161) (by decide) ?_
                      refine nn_iinc (lv' := [(7, .int (iI (h + 1))), (9, .int (iI z)), (0, .ref u), (1, .int (iI how)), (2, .ref lf), (3, .ref bl), (4, .int (iI best)), (5, .int (iI bW)), (6, .int (iI bG)), (8, .int (iI (ln h.toNat)))]) hc dX0_choose_161 hl (k0 := 8) rfl (by decide) rfl (fun ls hl => ?_)
                      refine lv_goto hc.1 hc.2.1 dX0_choose_164 (tgt := 13) (by decide) ?_
                      exact ih13 (h + 1) best bW bG r1_47 h1_51 e1_52 (ln h.toNat) (dF + dG) (((ln h.toNat) - pLp) / 2) (rmF pWi pHp (dF + dG)) z1_48 w1_49 u1_50 S46 _ _ _ (by omega) (by rw [toNat_succ (by omega)]; first | exact chG_take hN hly hC | exact (chG_keep hly hK).trans hbst | exact (chG_none hly).trans hbst | exact (chG_skip (b_no isN_iff (by omega))).trans hbst) (by omega) (fun hx => by first | exact hone hx | omega) hS46_0 hS46_1 hS46_2 hS46_3 (fun bb hb0 hb1 hb2 hb3 => ((fS46 bb hb0 hb1 hb2 hb3)).trans (fr13 bb hb0 hb1 hb2 hb3)) hw (by omega) (lv_sub hl [6, 7, 8, 0, 2, 3, 4, 5] rfl)
                  · have e54 : S1 y = oO 4 [.ref pl, .ref (y + 1)] := (fr13 y (off_nl (x := y) (a := 1) (by decide)) (by have hd9 := hd; unfold apA at hd9; omega) (by have hd9 := hd; unfold apA at hd9; omega) (by have hd9 := hd; unfold apA at hd9; omega)).trans hy
                    have e55 : S1 (pl + 2) = oI g 8 br := (fr13 (pl + 2) (by have hd9 := hd; unfold apA at hd9; omega) (by have hd9 := hd; unfold apA at hd9; omega) (by have hd9 := hd; unfold apA at hd9; omega) (by have hd9 := hd; unfold apA at hd9; omega)).trans hbr
                    have e56 : S1 (bl + 2) = oI g 60 ed := (fr13 (bl + 2) (by have hd9 := hd; unfold apA at hd9; omega) (by have hd9 := hd; unfold apA at hd9; omega) (by have hd9 := hd; unfold apA at hd9; omega) (by have hd9 := hd; unfold apA at hd9; omega)).trans hed0
                    have e57 : S1 lf = oI g 8 lv := (fr13 lf (by have hd9 := hd; unfold apA at hd9; omega) (by have hd9 := hd; unfold apA at hd9; omega) (by have hd9 := hd; unfold apA at hd9; omega) (by have hd9 := hd; unfold apA at hd9; omega)).trans hlf
                    refine nn_Vs (As := [.ref (u + 2), .int (iI (ln h.toNat)), .ref lf, .ref bl]) (st := []) hc hw e54 rfl (c_X4_fill_yes l g  e54 e3 e5 e55 hc13_0 hc13_1 hc13_2 hc13_3 e40 e56 e57 (by omega) (rP) (rV) (by omega) (hedr) (by omega) (by omega) (by omega) (by omega) (by omega) (by omega) (by have hd9 := hd; unfold apA at hd9; omega) (by have hd9 := hd; unfold apA at hd9; omega) ((hLC _).trans hly)) (cwV 4 hc.2.2.2.2 gX0_choose_X4_fill rfl rfl rfl (by decide +kernel) ⟨Nat.le_of_ble_eq_true rfl, Nat.le_of_ble_eq_true rfl⟩) rfl hl.1 rfl (Nat.le_of_ble_eq_true rfl) ⟨Nat.le_of_ble_eq_true rfl, Nat.le_of_ble_eq_true rfl⟩ dX0_choose_92 (fun vr n1 S58 H locs qS58 hw => ?_)
                    obtain ⟨r1_59, h1_60, e1_61, rfl, rfl, hS58_0, hS58_1, hS58_2, hS58_3, kS58_0, kS58_1, fS58⟩ := qS58
                    refine W.eq (g2 := F0 m 95 ls [.int (iI 1)]) rfl ?_
                    refine nn_if_ne hc dX0_choose_95 (tgt := 101) (by decide) (by decide) (fun c62 => ?_) (fun c62 => ?_)
                    · have hgd := layC_good hbr1 hly
                      have hws := wst_rng hbr2 (by omega) sl hgd.1
                      refine lv_iload_n hc.1 hc.2.1 dX0_choose_101 rfl (lv_at hl 2 rfl) ?_
                      refine nn_iconst hc dX0_choose_102 ?_
                      refine nn_icmp_ne hc dX0_choose_103 (tgt := 109) (by decide) (by omega) (by decide) (fun c63 => ?_) (fun c63 => ?_)
                      · refine lv_iload hc.1 hc.2.1 dX0_choose_109 (lv_at hl 5 rfl) ?_
                        refine nn_bipush hc dX0_choose_111 (by decide +kernel) ?_
                        refine nn_icmp_eq hc dX0_choose_113 (tgt := 139) (by decide) (by omega) (by decide) (fun c64 => ?_) (fun c64 => ?_)
                        · have hC : (chG nH.toNat ln br pLp pWi pHp pBk how lv dL (dF + dG) bs h.toNat).1 = -4 ∨ (how = 0 ∧ wst br (ln h.toNat) sl * (chG nH.toNat ln br pLp pWi pHp pBk how lv dL (dF + dG) bs h.toNat).2.2 < (chG nH.toNat ln br pLp pWi pHp pBk how lv dL (dF + dG) bs h.toNat).2.1 * ((ln h.toNat - pLp) / 2)) := by rw [hbst]; exact Or.inl c64
                          refine lv_iload hc.1 hc.2.1 dX0_choose_139 (lv_at hl 9 rfl) ?_
                          refine lv_istore (lv' := [(4, .int (iI (ln h.toNat))), (9, .int (iI z)), (0, .ref u), (1, .int (iI how)), (2, .ref lf), (3, .ref bl), (5, .int (iI bW)), (6, .int (iI bG)), (7, .int (iI h)), (8, .int (iI (ln h.toNat)))]) hc.1 hc.2.1 dX0_choose_141 hl (by decide) rfl (fun ls hl => ?_)
                          refine lv_aload_n hc.1 hc.2.1 dX0_choose_143 rfl (lv_at hl 2 rfl) ?_
                          have e65 : S58 u = oO 0 [.ref pl, .ref y, .ref o, .ref (u + 1), .ref (u + 2), .ref (u + 5), .ref (u + 8), .int (iI mo), .int (iI wa), .int (iI re)] := (fS58 u (by have hd9 := hd; unfold apA at hd9; omega) (off_nl (x := u) (a := 2) (by decide)) (off_nl (x := u) (a := 3) (by decide)) (off_nl (x := u) (a := 4) (by decide))).trans e2
                          refine nn_get hc hw e65 hiX0 rfl 4 (by decide) rfl lk18 dX0_choose_144 ?_
                          refine nn_get hc hw hS58_1 hiX3 rfl 7 (by decide) rfl lk57 dX0_choose_147 ?_
                          refine lv_istore (lv' := [(5, .int (iI (wst br (ln h.toNat) sl))), (4, .int (iI (ln h.toNat))), (9, .int (iI z)), (0, .ref u), (1, .int (iI how)), (2, .ref lf), (3, .ref bl), (6, .int (iI bG)), (7, .int (iI h)), (8, .int (iI (ln h.toNat)))]) hc.1 hc.2.1 dX0_choose_150 hl (by decide) rfl (fun ls hl => ?_)
                          refine lv_aload_n hc.1 hc.2.1 dX0_choose_152 rfl (lv_at hl 3 rfl) ?_
                          refine nn_get hc hw e65 hiX0 rfl 4 (by decide) rfl lk18 dX0_choose_153 ?_
                          refine nn_get hc hw hS58_1 hiX3 rfl 4 (by decide) rfl lk60 dX0_choose_156 ?_
                          refine lv_istore (lv' := [(6, .int (iI (((ln h.toNat) - pLp) / 2))), (5, .int (iI (wst br (ln h.toNat) sl))), (4, .int (iI (ln h.toNat))), (9, .int (iI z)), (0, .ref u), (1, .int (iI how)), (2, .ref lf), (3, .ref bl), (7, .int (iI h)), (8, .int (iI (ln h.toNat)))]) hc.1 hc.2.1 dX0_choose_159 hl (by decide) rfl (fun ls hl => ?_)
                          refine nn_iinc (lv' := [(7, .int (iI (h + 1))), (6, .int (iI (((ln h.toNat) - pLp) / 2))), (5, .int (iI (wst br (ln h.toNat) sl))), (4, .int (iI (ln h.toNat))), (9, .int (iI z)), (0, .ref u), (1, .int (iI how)), (2, .ref lf), (3, .ref bl), (8, .int (iI (ln h.toNat)))]) hc dX0_choose_161 hl (k0 := 8) rfl (by decide) rfl (fun ls hl => ?_)
                          refine lv_goto hc.1 hc.2.1 dX0_choose_164 (tgt := 13) (by decide) ?_
                          exact ih13 (h + 1) (ln h.toNat) (wst br (ln h.toNat) sl) (((ln h.toNat) - pLp) / 2) r1_59 h1_60 e1_61 (ln h.toNat) (dF + dG) (((ln h.toNat) - pLp) / 2) (rmF pWi pHp (dF + dG)) (sl.length : Int) (wst br (ln h.toNat) sl) (cuts br sl) S58 _ _ _ (by omega) (by rw [toNat_succ (by omega)]; first | exact chG_take hN hly hC | exact (chG_keep hly hK).trans hbst | exact (chG_none hly).trans hbst | exact (chG_skip (b_no isN_iff (by omega))).trans hbst) (by omega) (fun hx => by first | exact hone hx | omega) hS58_0 hS58_1 hS58_2 hS58_3 (fun bb hb0 hb1 hb2 hb3 => ((fS58 bb hb0 hb1 hb2 hb3)).trans (fr13 bb hb0 hb1 hb2 hb3)) hw (by omega) (lv_sub hl [3, 2, 1, 0, 5, 6, 7, 8] rfl)
                        · have m1 : 0 ≤ wst br (ln h.toNat) sl * bG := Int.mul_nonneg hws.1 (by omega)
                          have m2 : wst br (ln h.toNat) sl * bG ≤ 216000 * 30 := Int.mul_le_mul (by omega) (by omega) (by omega) (by decide)
                          have m3 : 0 ≤ bW * ((ln h.toNat - pLp) / 2) := Int.mul_nonneg (by omega) (by omega)
                          have m4 : bW * ((ln h.toNat - pLp) / 2) ≤ 216000 * 30 := Int.mul_le_mul (by omega) (by omega) (by omega) (by decide)
                          refine lv_aload_n hc.1 hc.2.1 dX0_choose_116 rfl (lv_at hl 1 rfl) ?_
                          have e66 : S58 u = oO 0 [.ref pl, .ref y, .ref o, .ref (u + 1), .ref (u + 2), .ref (u + 5), .ref (u + 8), .int (iI mo), .int (iI wa), .int (iI re)] := (fS58 u (by have hd9 := hd; unfold apA at hd9; omega) (off_nl (x := u) (a := 2) (by decide)) (off_nl (x := u) (a := 3) (by decide)) (off_nl (x := u) (a := 4) (by decide))).trans e2
                          refine nn_get hc hw e66 hiX0 rfl 4 (by decide) rfl lk18 dX0_choose_117 ?_
                          refine nn_get hc hw hS58_1 hiX3 rfl 7 (by decide) rfl lk57 dX0_choose_120 ?_
                          refine lv_iload hc.1 hc.2.1 dX0_choose_123 (lv_at hl 7 rfl) ?_
                          refine nn_imul hc dX0_choose_125 ?_
                          refine lv_iload hc.1 hc.2.1 dX0_choose_126 (lv_at hl 6 rfl) ?_
                          refine lv_aload_n hc.1 hc.2.1 dX0_choose_128 rfl (lv_at hl 1 rfl) ?_
                          refine nn_get hc hw e66 hiX0 rfl 4 (by decide) rfl lk18 dX0_choose_129 ?_
                          refine nn_get hc hw hS58_1 hiX3 rfl 4 (by decide) rfl lk60 dX0_choose_132 ?_
                          refine nn_imul hc dX0_choose_135 ?_
                          refine nn_icmp_ge hc dX0_choose_136 (tgt := 161) (by decide) (by omega) (by omega) (fun c67 => ?_) (fun c67 => ?_)
                          · have hK : ¬ ((chG nH.toNat ln br pLp pWi pHp pBk how lv dL (dF + dG) bs h.toNat).1 = -4 ∨ (how = 0 ∧ wst br (ln h.toNat) sl * (chG nH.toNat ln br pLp pWi pHp pBk how lv dL (dF + dG) bs h.toNat).2.2 < (chG nH.toNat ln br pLp pWi pHp pBk how lv dL (dF + dG) bs h.toNat).2.1 * ((ln h.toNat - pLp) / 2))) := by rw [hbst]; intro hq; rcases hq with hq | hq; exact absurd hq (by omega); have hq2 : wst br (ln h.toNat) sl * bG < bW * ((ln h.toNat - pLp) / 2) := hq.2; omega
                            refine nn_iinc (lv' := [(7, .int (iI (h + 1))), (9, .int (iI z)), (0, .ref u), (1, .int (iI how)), (2, .ref lf), (3, .ref bl), (4, .int (iI best)), (5, .int (iI bW)), (6, .int (iI bG)), (8, .int (iI (ln h.toNat)))]) hc dX0_choose_161 hl (k0 := 8) rfl (by decide) rfl (fun ls hl => ?_)
                            refine lv_goto hc.1 hc.2.1 dX0_choose_164 (tgt := 13) (by decide) ?_
                            exact ih13 (h + 1) best bW bG r1_59 h1_60 e1_61 (ln h.toNat) (dF + dG) (((ln h.toNat) - pLp) / 2) (rmF pWi pHp (dF + dG)) (sl.length : Int) (wst br (ln h.toNat) sl) (cuts br sl) S58 _ _ _ (by omega) (by rw [toNat_succ (by omega)]; first | exact chG_take hN hly hC | exact (chG_keep hly hK).trans hbst | exact (chG_none hly).trans hbst | exact (chG_skip (b_no isN_iff (by omega))).trans hbst) (by omega) (fun hx => by first | exact hone hx | omega) hS58_0 hS58_1 hS58_2 hS58_3 (fun bb hb0 hb1 hb2 hb3 => ((fS58 bb hb0 hb1 hb2 hb3)).trans (fr13 bb hb0 hb1 hb2 hb3)) hw (by omega) (lv_sub hl [6, 7, 8, 0, 2, 3, 4, 5] rfl)
                          · have hC : (chG nH.toNat ln br pLp pWi pHp pBk how lv dL (dF + dG) bs h.toNat).1 = -4 ∨ (how = 0 ∧ wst br (ln h.toNat) sl * (chG nH.toNat ln br pLp pWi pHp pBk how lv dL (dF + dG) bs h.toNat).2.2 < (chG nH.toNat ln br pLp pWi pHp pBk how lv dL (dF + dG) bs h.toNat).2.1 * ((ln h.toNat - pLp) / 2)) := by rw [hbst]; exact Or.inr ⟨by omega, c67⟩
                            refine lv_iload hc.1 hc.2.1 dX0_choose_139 (lv_at hl 9 rfl) ?_
                            refine lv_istore (lv' := [(4, .int (iI (ln h.toNat))), (9, .int (iI z)), (0, .ref u), (1, .int (iI how)), (2, .ref lf), (3, .ref bl), (5, .int (iI bW)), (6, .int (iI bG)), (7, .int (iI h)), (8, .int (iI (ln h.toNat)))]) hc.1 hc.2.1 dX0_choose_141 hl (by decide) rfl (fun ls hl => ?_)
                            refine lv_aload_n hc.1 hc.2.1 dX0_choose_143 rfl (lv_at hl 2 rfl) ?_
                            refine nn_get hc hw e66 hiX0 rfl 4 (by decide) rfl lk18 dX0_choose_144 ?_
                            refine nn_get hc hw hS58_1 hiX3 rfl 7 (by decide) rfl lk57 dX0_choose_147 ?_
                            refine lv_istore (lv' := [(5, .int (iI (wst br (ln h.toNat) sl))), (4, .int (iI (ln h.toNat))), (9, .int (iI z)), (0, .ref u), (1, .int (iI how)), (2, .ref lf), (3, .ref bl), (6, .int (iI bG)), (7, .int (iI h)), (8, .int (iI (ln h.toNat)))]) hc.1 hc.2.1 dX0_choose_150 hl (by decide) rfl (fun ls hl => ?_)
                            refine lv_aload_n hc.1 hc.2.1 dX0_choose_152 rfl (lv_at hl 3 rfl) ?_
                            refine nn_get hc hw e66 hiX0 rfl 4 (by decide) rfl lk18 dX0_choose_153 ?_
                            refine nn_get hc hw hS58_1 hiX3 rfl 4 (by decide) rfl lk60 dX0_choose_156 ?_
                            refine lv_istore (lv' := [(6, .int (iI (((ln h.toNat) - pLp) / 2))), (5, .int (iI (wst br (ln h.toNat) sl))), (4, .int (iI (ln h.toNat))), (9, .int (iI z)), (0, .ref u), (1, .int (iI how)), (2, .ref lf), (3, .ref bl), (7, .int (iI h)), (8, .int (iI (ln h.toNat)))]) hc.1 hc.2.1 dX0_choose_159 hl (by decide) rfl (fun ls hl => ?_)
                            refine nn_iinc (lv' := [(7, .int (iI (h + 1))), (6, .int (iI (((ln h.toNat) - pLp) / 2))), (5, .int (iI (wst br (ln h.toNat) sl))), (4, .int (iI (ln h.toNat))), (9, .int (iI z)), (0, .ref u), (1, .int (iI how)), (2, .ref lf), (3, .ref bl), (8, .int (iI (ln h.toNat)))]) hc dX0_choose_161 hl (k0 := 8) rfl (by decide) rfl (fun ls hl => ?_)
                            refine lv_goto hc.1 hc.2.1 dX0_choose_164 (tgt := 13) (by decide) ?_
                            exact ih13 (h + 1) (ln h.toNat) (wst br (ln h.toNat) sl) (((ln h.toNat) - pLp) / 2) r1_59 h1_60 e1_61 (ln h.toNat) (dF + dG) (((ln h.toNat) - pLp) / 2) (rmF pWi pHp (dF + dG)) (sl.length : Int) (wst br (ln h.toNat) sl) (cuts br sl) S58 _ _ _ (by omega) (by rw [toNat_succ (by omega)]; first | exact chG_take hN hly hC | exact (chG_keep hly hK).trans hbst | exact (chG_none hly).trans hbst | exact (chG_skip (b_no isN_iff (by omega))).trans hbst) (by omega) (fun hx => by first | exact hone hx | omega) hS58_0 hS58_1 hS58_2 hS58_3 (fun bb hb0 hb1 hb2 hb3 => ((fS58 bb hb0 hb1 hb2 hb3)).trans (fr13 bb hb0 hb1 hb2 hb3)) hw (by omega) (lv_sub hl [3, 2, 1, 0, 5, 6, 7, 8] rfl)
                      · have hC : (chG nH.toNat ln br pLp pWi pHp pBk how lv dL (dF + dG) bs h.toNat).1 = -4 ∨ (how = 0 ∧ wst br (ln h.toNat) sl * (chG nH.toNat ln br pLp pWi pHp pBk how lv dL (dF + dG) bs h.toNat).2.2 < (chG nH.toNat ln br pLp pWi pHp pBk how lv dL (dF + dG) bs h.toNat).2.1 * ((ln h.toNat - pLp) / 2)) := by rw [hbst]; exact Or.inl (hone (by omega))
                        have hT := chG_take hN hly hC
                        have hres : ln h.toNat = chL nH.toNat ln br pLp pWi pHp pBk how lv dL (dF + dG) bs := by unfold chL; have hS := chG_stay (nH := nH.toNat) (ln := ln) (br := br) (lp := pLp) (wi := pWi) (hp := pHp) (bk := pBk) (how := how) (lv := lv) (bL := dL) (hd := dF + dG) (bs := bs) (by omega) (k := h.toNat + 1) (by rw [hT]; show ln h.toNat ≠ -4; omega) (nH.toNat - (h.toNat + 1)); rw [show h.toNat + 1 + (nH.toNat - (h.toNat + 1)) = nH.toNat by omega] at hS; rw [hS, hT]
                        refine lv_iload hc.1 hc.2.1 dX0_choose_106 (lv_at hl 9 rfl) ?_
                        exact hret (some (.int (iI (ln h.toNat)))) _ S58 _ _ _ _ hw (⟨_, _, _, _, _, _, _, _, _, _, congrArg (fun z => some (Value.int (iI z))) hres, rfl, hS58_0, hS58_1, hS58_2, hS58_3, fun bb hb0 hb1 hb2 hb3 => ((fS58 bb hb0 hb1 hb2 hb3)).trans (fr13 bb hb0 hb1 hb2 hb3)⟩) ⟨_, rfl, rfl, dX0_choose_108⟩
                    · exact absurd c62 (by decide)
            exact lab64 0 _ _ _ (by omega) hw (lv_sub hl [5, 6, 7, 8, 1, 2, 3, 4, 0] rfl)
          · refine nn_iconst hc dX0_choose_59 ?_
            refine lv_goto hc.1 hc.2.1 dX0_choose_60 (tgt := 64) (by decide) ?_
            have lab64 : ∀ (z : Int) (H : Heap) (locs : List Loc) (ls : Array Slot), ((z = 1 ∧ (h = 0 ∨ ln (h.toNat - 1) ≠ ln h.toNat)) ∨ (z = 0 ∧ ¬ h = 0 ∧ ln (h.toNat - 1) = ln h.toNat)) → g_W g n S1 s H locs → lv_has ls 10 [(0, .ref u), (1, .int (iI how)), (2, .ref lf), (3, .ref bl), (4, .int (iI best)), (5, .int (iI bW)), (6, .int (iI bG)), (7, .int (iI h)), (8, .int (iI (ln h.toNat)))] → W pp l ee ({ frames := 5, cells := 0, slots := 0, locals := 114 } : Room) s m ([.ref u, .int (iI how), .ref lf, .ref bl] : List Value).toArray below meth cK H locs 0 0 Q (F0 m 64 ls [.int (iI z)]) := by
              intro z H locs ls hz hw hl
              refine lv_istore (lv' := [(9, .int (iI z)), (0, .ref u), (1, .int (iI how)), (2, .ref lf), (3, .ref bl), (4, .int (iI best)), (5, .int (iI bW)), (6, .int (iI bG)), (7, .int (iI h)), (8, .int (iI (ln h.toNat)))]) hc.1 hc.2.1 dX0_choose_64 hl (by decide) rfl (fun ls hl => ?_)
              refine lv_iload hc.1 hc.2.1 dX0_choose_66 (lv_at hl 0 rfl) ?_
              refine nn_if_eq hc dX0_choose_68 (tgt := 161) (by decide) (by omega) (fun c69 => ?_) (fun c69 => ?_)
              · refine nn_iinc (lv' := [(7, .int (iI (h + 1))), (9, .int (iI z)), (0, .ref u), (1, .int (iI how)), (2, .ref lf), (3, .ref bl), (4, .int (iI best)), (5, .int (iI bW)), (6, .int (iI bG)), (8, .int (iI (ln h.toNat)))]) hc dX0_choose_161 hl (k0 := 8) rfl (by decide) rfl (fun ls hl => ?_)
                refine lv_goto hc.1 hc.2.1 dX0_choose_164 (tgt := 13) (by decide) ?_
                exact ih13 (h + 1) best bW bG ks kh ke w1 w2 w3 w4 w5 w6 w7 S1 _ _ _ (by omega) (by rw [toNat_succ (by omega)]; first | exact chG_take hN hly hC | exact (chG_keep hly hK).trans hbst | exact (chG_none hly).trans hbst | exact (chG_skip (b_no isN_iff (by omega))).trans hbst) (by omega) (fun hx => by first | exact hone hx | omega) hc13_0 hc13_1 hc13_2 hc13_3 (fun bb hb0 hb1 hb2 hb3 => (fr13 bb hb0 hb1 hb2 hb3)) hw (by omega) (lv_sub hl [6, 7, 8, 0, 2, 3, 4, 5] rfl)
              · refine lv_iload hc.1 hc.2.1 dX0_choose_71 (lv_at hl 9 rfl) ?_
                refine lv_aload_n hc.1 hc.2.1 dX0_choose_73 rfl (lv_at hl 4 rfl) ?_
                have e70 : S1 bl = oO 3 [.ref (bl + 1), .ref (bl + 2), .int (iI dL), .int (iI dF), .int (iI dG), .int (iI dR), .int (iI dZ), .int (iI dW), .int (iI dU)] := (fr13 bl (by have hd9 := hd; unfold apA at hd9; omega) (by have hd9 := hd; unfold apA at hd9; omega) (by have hd9 := hd; unfold apA at hd9; omega) (by have hd9 := hd; unfold apA at hd9; omega)).trans hb
                refine nn_get hc hw e70 hiX3 rfl 2 (by decide) rfl lk49 dX0_choose_74 ?_
                refine nn_icmp_gt hc dX0_choose_77 (tgt := 161) (by decide) (by omega) (by omega) (fun c71 => ?_) (fun c71 => ?_)
                · refine nn_iinc (lv' := [(7, .int (iI (h + 1))), (9, .int (iI z)), (0, .ref u), (1, .int (iI how)), (2, .ref lf), (3, .ref bl), (4, .int (iI best)), (5, .int (iI bW)), (6, .int (iI bG)), (8, .int (iI (ln h.toNat)))]) hc dX0_choose_161 hl (k0 := 8) rfl (by decide) rfl (fun ls hl => ?_)
                  refine lv_goto hc.1 hc.2.1 dX0_choose_164 (tgt := 13) (by decide) ?_
                  exact ih13 (h + 1) best bW bG ks kh ke w1 w2 w3 w4 w5 w6 w7 S1 _ _ _ (by omega) (by rw [toNat_succ (by omega)]; first | exact chG_take hN hly hC | exact (chG_keep hly hK).trans hbst | exact (chG_none hly).trans hbst | exact (chG_skip (b_no isN_iff (by omega))).trans hbst) (by omega) (fun hx => by first | exact hone hx | omega) hc13_0 hc13_1 hc13_2 hc13_3 (fun bb hb0 hb1 hb2 hb3 => (fr13 bb hb0 hb1 hb2 hb3)) hw (by omega) (lv_sub hl [6, 7, 8, 0, 2, 3, 4, 5] rfl)
                · have hN : isN ln dL h.toNat = true := isN_iff.mpr (by omega)
                  refine lv_aload_n hc.1 hc.2.1 dX0_choose_80 rfl (lv_at hl 1 rfl) ?_
                  refine nn_get hc hw e2 hiX0 rfl 1 (by decide) rfl lk32 dX0_choose_81 ?_
                  refine lv_aload_n hc.1 hc.2.1 dX0_choose_84 rfl (lv_at hl 1 rfl) ?_
                  refine nn_get hc hw e2 hiX0 rfl 4 (by decide) rfl lk18 dX0_choose_85 ?_
                  refine lv_iload hc.1 hc.2.1 dX0_choose_88 (lv_at hl 9 rfl) ?_
                  refine lv_aload_n hc.1 hc.2.1 dX0_choose_90 rfl (lv_at hl 3 rfl) ?_
                  refine lv_aload_n hc.1 hc.2.1 dX0_choose_91 rfl (lv_at hl 4 rfl) ?_
                  rcases hly : layC nH.toNat ln br pWi pHp pBk (ln h.toNat) lv (dF + dG) bs with _ | sl
                  · have e72 : S1 y = oO 4 [.ref pl, .ref (y + 1)] := (fr13 y (off_nl (x := y) (a := 1) (by decide)) (by have hd9 := hd; unfold apA at hd9; omega) (by have hd9 := hd; unfold apA at hd9; omega) (by have hd9 := hd; unfold apA at hd9; omega)).trans hy
                    have e73 : S1 (pl + 2) = oI g 8 br := (fr13 (pl + 2) (by have hd9 := hd; unfold apA at hd9; omega) (by have hd9 := hd; unfold apA at hd9; omega) (by have hd9 := hd; unfold apA at hd9; omega) (by have hd9 := hd; unfold apA at hd9; omega)).trans hbr
                    have e74 : S1 (bl + 2) = oI g 60 ed := (fr13 (bl + 2) (by have hd9 := hd; unfold apA at hd9; omega) (by have hd9 := hd; unfold apA at hd9; omega) (by have hd9 := hd; unfold apA at hd9; omega) (by have hd9 := hd; unfold apA at hd9; omega)).trans hed0
                    have e75 : S1 lf = oI g 8 lv := (fr13 lf (by have hd9 := hd; unfold apA at hd9; omega) (by have hd9 := hd; unfold apA at hd9; omega) (by have hd9 := hd; unfold apA at hd9; omega) (by have hd9 := hd; unfold apA at hd9; omega)).trans hlf
                    refine nn_Vs (As := [.ref (u + 2), .int (iI (ln h.toNat)), .ref lf, .ref bl]) (st := []) hc hw e72 rfl (c_X4_fill_no l g  e72 e3 e5 e73 hc13_0 hc13_1 hc13_2 hc13_3 e70 e74 e75 (by omega) (rP) (rV) (by omega) (hedr) (by omega) (by omega) (by omega) (by omega) (by omega) (by omega) (by have hd9 := hd; unfold apA at hd9; omega) (by have hd9 := hd; unfold apA at hd9; omega) ((hLC _).trans hly)) (cwV 4 hc.2.2.2.2 gX0_choose_X4_fill rfl rfl rfl (by decide +kernel) ⟨Nat.le_of_ble_eq_true rfl, Nat.le_of_ble_eq_true rfl⟩) rfl hl.1 rfl (Nat.le_of_ble_eq_true rfl) ⟨Nat.le_of_ble_eq_true rfl, Nat.le_of_ble_eq_true rfl⟩ dX0_choose_92 (fun vr n1 S76 H locs qS76 hw => ?_)
                    obtain ⟨r1_77, z1_78, w1_79, u1_80, h1_81, e1_82, rfl, rfl, hS76_0, hS76_1, hS76_2, hS76_3, fS76⟩ := qS76
                    refine W.eq (g2 := F0 m 95 ls [.int (iI 0)]) rfl ?_
                    refine nn_if_ne hc dX0_choose_95 (tgt := 101) (by decide) (by decide) (fun c83 => ?_) (fun c83 => ?_)
                    · exact absurd c83 (by decide)
                    · refine lv_goto hc.1 hc.2.1 dX0_choose_98 (tgt := 161) (by decide) ?_
                      refine nn_iinc (lv' := [(7, .int (iI (h + 1))), (9, .int (iI z)), (0, .ref u), (1, .int (iI how)), (2, .ref lf), (3, .ref bl), (4, .int (iI best)), (5, .int (iI bW)), (6, .int (iI bG)), (8, .int (iI (ln h.toNat)))]) hc dX0_choose_161 hl (k0 := 8) rfl (by decide) rfl (fun ls hl => ?_)
                      refine lv_goto hc.1 hc.2.1 dX0_choose_164 (tgt := 13) (by decide) ?_
                      exact ih13 (h + 1) best bW bG r1_77 h1_81 e1_82 (ln h.toNat) (dF + dG) (((ln h.toNat) - pLp) / 2) (rmF pWi pHp (dF + dG)) z1_78 w1_79 u1_80 S76 _ _ _ (by omega) (by rw [toNat_succ (by omega)]; first | exact chG_take hN hly hC | exact (chG_keep hly hK).trans hbst | exact (chG_none hly).trans hbst | exact (chG_skip (b_no isN_iff (by omega))).trans hbst) (by omega) (fun hx => by first | exact hone hx | omega) hS76_0 hS76_1 hS76_2 hS76_3 (fun bb hb0 hb1 hb2 hb3 => ((fS76 bb hb0 hb1 hb2 hb3)).trans (fr13 bb hb0 hb1 hb2 hb3)) hw (by omega) (lv_sub hl [6, 7, 8, 0, 2, 3, 4, 5] rfl)
                  · have e84 : S1 y = oO 4 [.ref pl, .ref (y + 1)] := (fr13 y (off_nl (x := y) (a := 1) (by decide)) (by have hd9 := hd; unfold apA at hd9; omega) (by have hd9 := hd; unfold apA at hd9; omega) (by have hd9 := hd; unfold apA at hd9; omega)).trans hy
                    have e85 : S1 (pl + 2) = oI g 8 br := (fr13 (pl + 2) (by have hd9 := hd; unfold apA at hd9; omega) (by have hd9 := hd; unfold apA at hd9; omega) (by have hd9 := hd; unfold apA at hd9; omega) (by have hd9 := hd; unfold apA at hd9; omega)).trans hbr
                    have e86 : S1 (bl + 2) = oI g 60 ed := (fr13 (bl + 2) (by have hd9 := hd; unfold apA at hd9; omega) (by have hd9 := hd; unfold apA at hd9; omega) (by have hd9 := hd; unfold apA at hd9; omega) (by have hd9 := hd; unfold apA at hd9; omega)).trans hed0
                    have e87 : S1 lf = oI g 8 lv := (fr13 lf (by have hd9 := hd; unfold apA at hd9; omega) (by have hd9 := hd; unfold apA at hd9; omega) (by have hd9 := hd; unfold apA at hd9; omega) (by have hd9 := hd; unfold apA at hd9; omega)).trans hlf
                    refine nn_Vs (As := [.ref (u + 2), .int (iI (ln h.toNat)), .ref lf, .ref bl]) (st := []) hc hw e84 rfl (c_X4_fill_yes l g  e84 e3 e5 e85 hc13_0 hc13_1 hc13_2 hc13_3 e70 e86 e87 (by omega) (rP) (rV) (by omega) (hedr) (by omega) (by omega) (by omega) (by omega) (by omega) (by omega) (by have hd9 := hd; unfold apA at hd9; omega) (by have hd9 := hd; unfold apA at hd9; omega) ((hLC _).trans hly)) (cwV 4 hc.2.2.2.2 gX0_choose_X4_fill rfl rfl rfl (by decide +kernel) ⟨Nat.le_of_ble_eq_true rfl, Nat.le_of_ble_eq_true rfl⟩) rfl hl.1 rfl (Nat.le_of_ble_eq_true rfl) ⟨Nat.le_of_ble_eq_true rfl, Nat.le_of_ble_eq_true rfl⟩ dX0_choose_92 (fun vr n1 S88 H locs qS88 hw => ?_)
                    obtain ⟨r1_89, h1_90, e1_91, rfl, rfl, hS88_0, hS88_1, hS88_2, hS88_3, kS88_0, kS88_1, fS88⟩ := qS88
                    refine W.eq (g2 := F0 m 95 ls [.int (iI 1)]) rfl ?_
                    refine nn_if_ne hc dX0_choose_95 (tgt := 101) (by decide) (by decide) (fun c92 => ?_) (fun c92 => ?_)
                    · have hgd := layC_good hbr1 hly
                      have hws := wst_rng hbr2 (by omega) sl hgd.1
                      refine lv_iload_n hc.1 hc.2.1 dX0_choose_101 rfl (lv_at hl 2 rfl) ?_
                      refine nn_iconst hc dX0_choose_102 ?_
                      refine nn_icmp_ne hc dX0_choose_103 (tgt := 109) (by decide) (by omega) (by decide) (fun c93 => ?_) (fun c93 => ?_)
                      · refine lv_iload hc.1 hc.2.1 dX0_choose_109 (lv_at hl 5 rfl) ?_
                        refine nn_bipush hc dX0_choose_111 (by decide +kernel) ?_
                        refine nn_icmp_eq hc dX0_choose_113 (tgt := 139) (by decide) (by omega) (by decide) (fun c94 => ?_) (fun c94 => ?_)
                        · have hC : (chG nH.toNat ln br pLp pWi pHp pBk how lv dL (dF + dG) bs h.toNat).1 = -4 ∨ (how = 0 ∧ wst br (ln h.toNat) sl * (chG nH.toNat ln br pLp pWi pHp pBk how lv dL (dF + dG) bs h.toNat).2.2 < (chG nH.toNat ln br pLp pWi pHp pBk how lv dL (dF + dG) bs h.toNat).2.1 * ((ln h.toNat - pLp) / 2)) := by rw [hbst]; exact Or.inl c94
                          refine lv_iload hc.1 hc.2.1 dX0_choose_139 (lv_at hl 9 rfl) ?_
                          refine lv_istore (lv' := [(4, .int (iI (ln h.toNat))), (9, .int (iI z)), (0, .ref u), (1, .int (iI how)), (2, .ref lf), (3, .ref bl), (5, .int (iI bW)), (6, .int (iI bG)), (7, .int (iI h)), (8, .int (iI (ln h.toNat)))]) hc.1 hc.2.1 dX0_choose_141 hl (by decide) rfl (fun ls hl => ?_)
                          refine lv_aload_n hc.1 hc.2.1 dX0_choose_143 rfl (lv_at hl 2 rfl) ?_
                          have e95 : S88 u = oO 0 [.ref pl, .ref y, .ref o, .ref (u + 1), .ref (u + 2), .ref (u + 5), .ref (u + 8), .int (iI mo), .int (iI wa), .int (iI re)] := (fS88 u (by have hd9 := hd; unfold apA at hd9; omega) (off_nl (x := u) (a := 2) (by decide)) (off_nl (x := u) (a := 3) (by decide)) (off_nl (x := u) (a := 4) (by decide))).trans e2
                          refine nn_get hc hw e95 hiX0 rfl 4 (by decide) rfl lk18 dX0_choose_144 ?_
                          refine nn_get hc hw hS88_1 hiX3 rfl 7 (by decide) rfl lk57 dX0_choose_147 ?_
                          refine lv_istore (lv' := [(5, .int (iI (wst br (ln h.toNat) sl))), (4, .int (iI (ln h.toNat))), (9, .int (iI z)), (0, .ref u), (1, .int (iI how)), (2, .ref lf), (3, .ref bl), (6, .int (iI bG)), (7, .int (iI h)), (8, .int (iI (ln h.toNat)))]) hc.1 hc.2.1 dX0_choose_150 hl (by decide) rfl (fun ls hl => ?_)
                          refine lv_aload_n hc.1 hc.2.1 dX0_choose_152 rfl (lv_at hl 3 rfl) ?_
                          refine nn_get hc hw e95 hiX0 rfl 4 (by decide) rfl lk18 dX0_choose_153 ?_
                          refine nn_get hc hw hS88_1 hiX3 rfl 4 (by decide) rfl lk60 dX0_choose_156 ?_
                          refine lv_istore (lv' := [(6, .int (iI (((ln h.toNat) - pLp) / 2))), (5, .int (iI (wst br (ln h.toNat) sl))), (4, .int (iI (ln h.toNat))), (9, .int (iI z)), (0, .ref u), (1, .int (iI how)), (2, .ref lf), (3, .ref bl), (7, .int (iI h)), (8, .int (iI (ln h.toNat)))]) hc.1 hc.2.1 dX0_choose_159 hl (by decide) rfl (fun ls hl => ?_)
                          refine nn_iinc (lv' := [(7, .int (iI (h + 1))), (6, .int (iI (((ln h.toNat) - pLp) / 2))), (5, .int (iI (wst br (ln h.toNat) sl))), (4, .int (iI (ln h.toNat))), (9, .int (iI z)), (0, .ref u), (1, .int (iI how)), (2, .ref lf), (3, .ref bl), (8, .int (iI (ln h.toNat)))]) hc dX0_choose_161 hl (k0 := 8) rfl (by decide) rfl (fun ls hl => ?_)
                          refine lv_goto hc.1 hc.2.1 dX0_choose_164 (tgt := 13) (by decide) ?_
                          exact ih13 (h + 1) (ln h.toNat) (wst br (ln h.toNat) sl) (((ln h.toNat) - pLp) / 2) r1_89 h1_90 e1_91 (ln h.toNat) (dF + dG) (((ln h.toNat) - pLp) / 2) (rmF pWi pHp (dF + dG)) (sl.length : Int) (wst br (ln h.toNat) sl) (cuts br sl) S88 _ _ _ (by omega) (by rw [toNat_succ (by omega)]; first | exact chG_take hN hly hC | exact (chG_keep hly hK).trans hbst | exact (chG_none hly).trans hbst | exact (chG_skip (b_no isN_iff (by omega))).trans hbst) (by omega) (fun hx => by first | exact hone hx | omega) hS88_0 hS88_1 hS88_2 hS88_3 (fun bb hb0 hb1 hb2 hb3 => ((fS88 bb hb0 hb1 hb2 hb3)).trans (fr13 bb hb0 hb1 hb2 hb3)) hw (by omega) (lv_sub hl [3, 2, 1, 0, 5, 6, 7, 8] rfl)
                        · have m1 : 0 ≤ wst br (ln h.toNat) sl * bG := Int.mul_nonneg hws.1 (by omega)
                          have m2 : wst br (ln h.toNat) sl * bG ≤ 216000 * 30 := Int.mul_le_mul (by omega) (by omega) (by omega) (by decide)
                          have m3 : 0 ≤ bW * ((ln h.toNat - pLp) / 2) := Int.mul_nonneg (by omega) (by omega)
                          have m4 : bW * ((ln h.toNat - pLp) / 2) ≤ 216000 * 30 := Int.mul_le_mul (by omega) (by omega) (by omega) (by decide)
                          refine lv_aload_n hc.1 hc.2.1 dX0_choose_116 rfl (lv_at hl 1 rfl) ?_
                          have e96 : S88 u = oO 0 [.ref pl, .ref y, .ref o, .ref (u + 1), .ref (u + 2), .ref (u + 5), .ref (u + 8), .int (iI mo), .int (iI wa), .int (iI re)] := (fS88 u (by have hd9 := hd; unfold apA at hd9; omega) (off_nl (x := u) (a := 2) (by decide)) (off_nl (x := u) (a := 3) (by decide)) (off_nl (x := u) (a := 4) (by decide))).trans e2
                          refine nn_get hc hw e96 hiX0 rfl 4 (by decide) rfl lk18 dX0_choose_117 ?_
                          refine nn_get hc hw hS88_1 hiX3 rfl 7 (by decide) rfl lk57 dX0_choose_120 ?_
                          refine lv_iload hc.1 hc.2.1 dX0_choose_123 (lv_at hl 7 rfl) ?_
                          refine nn_imul hc dX0_choose_125 ?_
                          refine lv_iload hc.1 hc.2.1 dX0_choose_126 (lv_at hl 6 rfl) ?_
                          refine lv_aload_n hc.1 hc.2.1 dX0_choose_128 rfl (lv_at hl 1 rfl) ?_
                          refine nn_get hc hw e96 hiX0 rfl 4 (by decide) rfl lk18 dX0_choose_129 ?_
                          refine nn_get hc hw hS88_1 hiX3 rfl 4 (by decide) rfl lk60 dX0_choose_132 ?_
                          refine nn_imul hc dX0_choose_135 ?_
                          refine nn_icmp_ge hc dX0_choose_136 (tgt := 161) (by decide) (by omega) (by omega) (fun c97 => ?_) (fun c97 => ?_)
                          · have hK : ¬ ((chG nH.toNat ln br pLp pWi pHp pBk how lv dL (dF + dG) bs h.toNat).1 = -4 ∨ (how = 0 ∧ wst br (ln h.toNat) sl * (chG nH.toNat ln br pLp pWi pHp pBk how lv dL (dF + dG) bs h.toNat).2.2 < (chG nH.toNat ln br pLp pWi pHp pBk how lv dL (dF + dG) bs h.toNat).2.1 * ((ln h.toNat - pLp) / 2))) := by rw [hbst]; intro hq; rcases hq with hq | hq; exact absurd hq (by omega); have hq2 : wst br (ln h.toNat) sl * bG < bW * ((ln h.toNat - pLp) / 2) := hq.2; omega
                            refine nn_iinc (lv' := [(7, .int (iI (h + 1))), (9, .int (iI z)), (0, .ref u), (1, .int (iI how)), (2, .ref lf), (3, .ref bl), (4, .int (iI best)), (5, .int (iI bW)), (6, .int (iI bG)), (8, .int (iI (ln h.toNat)))]) hc dX0_choose_161 hl (k0 := 8) rfl (by decide) rfl (fun ls hl => ?_)
                            refine lv_goto hc.1 hc.2.1 dX0_choose_164 (tgt := 13) (by decide) ?_
                            exact ih13 (h + 1) best bW bG r1_89 h1_90 e1_91 (ln h.toNat) (dF + dG) (((ln h.toNat) - pLp) / 2) (rmF pWi pHp (dF + dG)) (sl.length : Int) (wst br (ln h.toNat) sl) (cuts br sl) S88 _ _ _ (by omega) (by rw [toNat_succ (by omega)]; first | exact chG_take hN hly hC | exact (chG_keep hly hK).trans hbst | exact (chG_none hly).trans hbst | exact (chG_skip (b_no isN_iff (by omega))).trans hbst) (by omega) (fun hx => by first | exact hone hx | omega) hS88_0 hS88_1 hS88_2 hS88_3 (fun bb hb0 hb1 hb2 hb3 => ((fS88 bb hb0 hb1 hb2 hb3)).trans (fr13 bb hb0 hb1 hb2 hb3)) hw (by omega) (lv_sub hl [6, 7, 8, 0, 2, 3, 4, 5] rfl)
                          · have hC : (chG nH.toNat ln br pLp pWi pHp pBk how lv dL (dF + dG) bs h.toNat).1 = -4 ∨ (how = 0 ∧ wst br (ln h.toNat) sl * (chG nH.toNat ln br pLp pWi pHp pBk how lv dL (dF + dG) bs h.toNat).2.2 < (chG nH.toNat ln br pLp pWi pHp pBk how lv dL (dF + dG) bs h.toNat).2.1 * ((ln h.toNat - pLp) / 2)) := by rw [hbst]; exact Or.inr ⟨by omega, c97⟩
                            refine lv_iload hc.1 hc.2.1 dX0_choose_139 (lv_at hl 9 rfl) ?_
                            refine lv_istore (lv' := [(4, .int (iI (ln h.toNat))), (9, .int (iI z)), (0, .ref u), (1, .int (iI how)), (2, .ref lf), (3, .ref bl), (5, .int (iI bW)), (6, .int (iI bG)), (7, .int (iI h)), (8, .int (iI (ln h.toNat)))]) hc.1 hc.2.1 dX0_choose_141 hl (by decide) rfl (fun ls hl => ?_)
                            refine lv_aload_n hc.1 hc.2.1 dX0_choose_143 rfl (lv_at hl 2 rfl) ?_
                            refine nn_get hc hw e96 hiX0 rfl 4 (by decide) rfl lk18 dX0_choose_144 ?_
                            refine nn_get hc hw hS88_1 hiX3 rfl 7 (by decide) rfl lk57 dX0_choose_147 ?_
                            refine lv_istore (lv' := [(5, .int (iI (wst br (ln h.toNat) sl))), (4, .int (iI (ln h.toNat))), (9, .int (iI z)), (0, .ref u), (1, .int (iI how)), (2, .ref lf), (3, .ref bl), (6, .int (iI bG)), (7, .int (iI h)), (8, .int (iI (ln h.toNat)))]) hc.1 hc.2.1 dX0_choose_150 hl (by decide) rfl (fun ls hl => ?_)
                            refine lv_aload_n hc.1 hc.2.1 dX0_choose_152 rfl (lv_at hl 3 rfl) ?_
                            refine nn_get hc hw e96 hiX0 rfl 4 (by decide) rfl lk18 dX0_choose_153 ?_
                            refine nn_get hc hw hS88_1 hiX3 rfl 4 (by decide) rfl lk60 dX0_choose_156 ?_
                            refine lv_istore (lv' := [(6, .int (iI (((ln h.toNat) - pLp) / 2))), (5, .int (iI (wst br (ln h.toNat) sl))), (4, .int (iI (ln h.toNat))), (9, .int (iI z)), (0, .ref u), (1, .int (iI how)), (2, .ref lf), (3, .ref bl), (7, .int (iI h)), (8, .int (iI (ln h.toNat)))]) hc.1 hc.2.1 dX0_choose_159 hl (by decide) rfl (fun ls hl => ?_)
                            refine nn_iinc (lv' := [(7, .int (iI (h + 1))), (6, .int (iI (((ln h.toNat) - pLp) / 2))), (5, .int (iI (wst br (ln h.toNat) sl))), (4, .int (iI (ln h.toNat))), (9, .int (iI z)), (0, .ref u), (1, .int (iI how)), (2, .ref lf), (3, .ref bl), (8, .int (iI (ln h.toNat)))]) hc dX0_choose_161 hl (k0 := 8) rfl (by decide) rfl (fun ls hl => ?_)
                            refine lv_goto hc.1 hc.2.1 dX0_choose_164 (tgt := 13) (by decide) ?_
                            exact ih13 (h + 1) (ln h.toNat) (wst br (ln h.toNat) sl) (((ln h.toNat) - pLp) / 2) r1_89 h1_90 e1_91 (ln h.toNat) (dF + dG) (((ln h.toNat) - pLp) / 2) (rmF pWi pHp (dF + dG)) (sl.length : Int) (wst br (ln h.toNat) sl) (cuts br sl) S88 _ _ _ (by omega) (by rw [toNat_succ (by omega)]; first | exact chG_take hN hly hC | exact (chG_keep hly hK).trans hbst | exact (chG_none hly).trans hbst | exact (chG_skip (b_no isN_iff (by omega))).trans hbst) (by omega) (fun hx => by first | exact hone hx | omega) hS88_0 hS88_1 hS88_2 hS88_3 (fun bb hb0 hb1 hb2 hb3 => ((fS88 bb hb0 hb1 hb2 hb3)).trans (fr13 bb hb0 hb1 hb2 hb3)) hw (by omega) (lv_sub hl [3, 2, 1, 0, 5, 6, 7, 8] rfl)
                      · have hC : (chG nH.toNat ln br pLp pWi pHp pBk how lv dL (dF + dG) bs h.toNat).1 = -4 ∨ (how = 0 ∧ wst br (ln h.toNat) sl * (chG nH.toNat ln br pLp pWi pHp pBk how lv dL (dF + dG) bs h.toNat).2.2 < (chG nH.toNat ln br pLp pWi pHp pBk how lv dL (dF + dG) bs h.toNat).2.1 * ((ln h.toNat - pLp) / 2)) := by rw [hbst]; exact Or.inl (hone (by omega))
                        have hT := chG_take hN hly hC
                        have hres : ln h.toNat = chL nH.toNat ln br pLp pWi pHp pBk how lv dL (dF + dG) bs := by unfold chL; have hS := chG_stay (nH := nH.toNat) (ln := ln) (br := br) (lp := pLp) (wi := pWi) (hp := pHp) (bk := pBk) (how := how) (lv := lv) (bL := dL) (hd := dF + dG) (bs := bs) (by omega) (k := h.toNat + 1) (by rw [hT]; show ln h.toNat ≠ -4; omega) (nH.toNat - (h.toNat + 1)); rw [show h.toNat + 1 + (nH.toNat - (h.toNat + 1)) = nH.toNat by omega] at hS; rw [hS, hT]
                        refine lv_iload hc.1 hc.2.1 dX0_choose_106 (lv_at hl 9 rfl) ?_
                        exact hret (some (.int (iI (ln h.toNat)))) _ S88 _ _ _ _ hw (⟨_, _, _, _, _, _, _, _, _, _, congrArg (fun z => some (Value.int (iI z))) hres, rfl, hS88_0, hS88_1, hS88_2, hS88_3, fun bb hb0 hb1 hb2 hb3 => ((fS88 bb hb0 hb1 hb2 hb3)).trans (fr13 bb hb0 hb1 hb2 hb3)⟩) ⟨_, rfl, rfl, dX0_choose_108⟩
                    · exact absurd c92 (by decide)
            exact lab64 1 _ _ _ (by omega) hw (lv_sub hl [5, 6, 7, 8, 1, 2, 3, 4, 0] rfl)
  exact lab13 _ 0 (-4) 0 1 rs hf eo cL cF cG cR cZ cW cU S _ _ _ (by omega) (rfl) (by omega) (fun _ => rfl) hrs ha hhf heo (fun bb _ _ _ _ => rfl) hw (Nat.lt_succ_self _) (lv_sub hl [3, 2, 1, 0, 4, 5, 6, 7] rfl)

