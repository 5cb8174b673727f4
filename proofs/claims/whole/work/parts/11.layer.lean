set_option maxHeartbeats 4000000 in
set_option maxRecDepth 100000 in
theorem c_X4_putWithJoint_no (l : Launch) (g : gG) {n : Nat} {S : Nat → gE} {y : Nat} {pl : Nat} {nH pHi pWi pLp pBk pHp : Int} {ln br rs : Nat → Int} {a : Nat} {cL cF cG cR cZ cW cU : Int} {bl : Nat} {dL dF dG dR dZ dW dU : Int} {ed : Nat → Int} {p : Int} (hy : S y = oO 4 [.ref pl, .ref (y + 1)]) (hp : S pl = oO 5 [.ref (pl + 1), .ref (pl + 2), .ref (pl + 3), .int (iI nH), .int (iI pHi), .int (iI pWi), .int (iI pLp), .int (iI pBk), .int (iI pHp)]) (hln : S (pl + 1) = oI g 8 ln) (hbr : S (pl + 2) = oI g 8 br) (hrs : S (y + 1) = oI g 8 rs) (ha : S a = oO 3 [.ref (a + 1), .ref (a + 2), .int (iI cL), .int (iI cF), .int (iI cG), .int (iI cR), .int (iI cZ), .int (iI cW), .int (iI cU)]) (hb : S bl = oO 3 [.ref (bl + 1), .ref (bl + 2), .int (iI dL), .int (iI dF), .int (iI dG), .int (iI dR), .int (iI dZ), .int (iI dW), .int (iI dU)]) (hed : S (bl + 2) = oI g 60 ed) (rH : 0 ≤ nH ∧ nH ≤ 8) (rP : ∀ i : Nat, (i : Int) < nH → (20 ≤ ln i ∧ ln i ≤ 60) ∧ (10 ≤ br i ∧ br i ≤ 60)) (rR : ∀ i : Nat, (i : Int) < nH → 0 ≤ rs i ∧ rs i ≤ 1000000) (rL : 0 ≤ cL ∧ cL ≤ 60) (rZb : 0 ≤ dZ ∧ dZ ≤ 60) (red : ∀ k : Nat, (k : Int) < dZ - 1 → -1000000 ≤ ed k ∧ ed k ≤ 1000000) (rbk : 0 ≤ pBk ∧ pBk ≤ 1000000) (rp : 0 ≤ p ∧ p ≤ 1000000) (hpj : pj nH.toNat ln br rs cL ed pBk (dZ - 1).toNat p = none) : g_Cp l yX4_putWithJoint wsX4_putWithJoint { frames := 3, cells := 0, slots := 0, locals := 60 } g [.ref y, .ref a, .int (iI p), .ref bl] n S (some (.int (iI 0))) := by
  refine g_Cp.of (cc := cX4_putWithJoint) (maxL := 7) (ret := (some .boolean)) (by decide) rfl (Nat.le_of_ble_eq_true rfl) ?_
  intro pp ee s m below meth cK Q ls hc hnm hw hl hret
  have hl : lv_has ls 7 [(0, .ref y), (1, .ref a), (2, .int (iI p)), (3, .ref bl)] := hl
  have hiX4 : ∀ w ∈ u_ws RX4 TX4 2, w ∈ wsX4_putWithJoint := by decide +kernel
  have hiX5 : ∀ w ∈ u_ws RX5 TX5 9, w ∈ wsX4_putWithJoint := by decide +kernel
  have lk15 : Cond.fieldLink RX4 15 "RoofCourses$Layer" "plan" "LRoofCourses$Plan;" ∈ wsX4_putWithJoint := by decide +kernel
  have lk55 : Cond.fieldLink RX4 55 "RoofCourses$Plan" "breadth" "[I" ∈ wsX4_putWithJoint := by decide +kernel
  have hrt : ∀ (pc : Nat) (ls : Array Slot) (xr : Int), decode cX4_putWithJoint pc = .ok (.ireturn, 1) → xr = (0) → W pp l ee ({ frames := 3, cells := 0, slots := 0, locals := 60 } : Room) s m ([.ref y, .ref a, .int (iI p), .ref bl] : List Value).toArray below meth cK s.heap [] 0 0 Q (F0 m pc ls [.int (iI xr)]) := fun pc ls xr d hx => by subst hx; exact hret pc ls ⟨_, rfl, rfl, d⟩
  refine lv_aload_n hc.1 hc.2.1 dX4_putWithJoint_0 rfl (lv_at hl 0 rfl) ?_
  refine lv_iload_n hc.1 hc.2.1 dX4_putWithJoint_1 rfl (lv_at hl 2 rfl) ?_
  refine lv_aload_n hc.1 hc.2.1 dX4_putWithJoint_2 rfl (lv_at hl 1 rfl) ?_
  refine lv_aload_n hc.1 hc.2.1 dX4_putWithJoint_3 rfl (lv_at hl 3 rfl) ?_
  refine nn_Vp (As := [.int (iI p), .ref a, .ref bl]) (st := []) hc hw hy rfl (c_X4_brokenAt l g  hy hp hln hbr hrs ha hb hed (by omega) (by omega) (by omega) (by omega) (by omega) (by omega) (by omega) (by omega)) (cwV 3 hc.2.2.2.2 gX4_putWithJoint_X4_brokenAt rfl rfl rfl (by decide +kernel) ⟨Nat.le_of_ble_eq_true rfl, Nat.le_of_ble_eq_true rfl⟩) rfl hl.1 rfl (Nat.le_of_ble_eq_true rfl) ⟨Nat.le_of_ble_eq_true rfl, Nat.le_of_ble_eq_true rfl⟩ dX4_putWithJoint_4 ?_
  refine W.eq (g2 := F0 m 7 ls [.int (iI (fstI (pB ln br rs cL ed pBk (dZ - 1).toNat p) nH.toNat))]) rfl ?_
  refine nn_name (fun xb exb => ?_)
  refine lv_istore (lv' := [(4, .int (iI xb)), (0, .ref y), (1, .ref a), (2, .int (iI p)), (3, .ref bl)]) hc.1 hc.2.1 dX4_putWithJoint_7 hl (by decide) rfl (fun ls hl => ?_)
  have hrb := fstI_r (pB ln br rs cL ed pBk (dZ - 1).toNat p) nH.toNat
  refine lv_iload hc.1 hc.2.1 dX4_putWithJoint_9 (lv_at hl 0 rfl) ?_
  refine nn_if_lt hc dX4_putWithJoint_11 (tgt := 53) (by decide) (by omega) (fun c1 => ?_) (fun c1 => ?_)
  · refine lv_aload_n hc.1 hc.2.1 dX4_putWithJoint_53 rfl (lv_at hl 1 rfl) ?_
    refine lv_aload_n hc.1 hc.2.1 dX4_putWithJoint_54 rfl (lv_at hl 2 rfl) ?_
    refine nn_Vp (As := [.ref a]) (st := []) hc hw hy rfl (c_X4_broadestFor l g  hy hp hln hrs ha (by omega) (by omega) (by omega) (by omega)) (cwV 1 hc.2.2.2.2 gX4_putWithJoint_X4_broadestFor rfl rfl rfl (by decide +kernel) ⟨Nat.le_of_ble_eq_true rfl, Nat.le_of_ble_eq_true rfl⟩) rfl hl.1 rfl (Nat.le_of_ble_eq_true rfl) ⟨Nat.le_of_ble_eq_true rfl, Nat.le_of_ble_eq_true rfl⟩ dX4_putWithJoint_55 ?_
    refine W.eq (g2 := F0 m 58 ls [.int (iI (fstI (srv ln rs cL) nH.toNat))]) rfl ?_
    refine nn_name (fun xw exw => ?_)
    refine lv_istore (lv' := [(5, .int (iI xw)), (4, .int (iI xb)), (0, .ref y), (1, .ref a), (2, .int (iI p)), (3, .ref bl)]) hc.1 hc.2.1 dX4_putWithJoint_58 hl (by decide) rfl (fun ls hl => ?_)
    have hrw := fstI_r (srv ln rs cL) nH.toNat
    refine lv_iload hc.1 hc.2.1 dX4_putWithJoint_60 (lv_at hl 0 rfl) ?_
    refine nn_if_ge hc dX4_putWithJoint_62 (tgt := 67) (by decide) (by omega) (fun c2 => ?_) (fun c2 => ?_)
    · have hPw := rP xw.toNat (by omega)
      have hRw := rR xw.toNat (by omega)
      refine lv_aload_n hc.1 hc.2.1 dX4_putWithJoint_67 rfl (lv_at hl 2 rfl) ?_
      refine lv_iload_n hc.1 hc.2.1 dX4_putWithJoint_68 rfl (lv_at hl 4 rfl) ?_
      refine lv_aload_n hc.1 hc.2.1 dX4_putWithJoint_69 rfl (lv_at hl 2 rfl) ?_
      refine nn_get hc hw hy hiX4 rfl 0 (by decide) rfl lk15 dX4_putWithJoint_70 ?_
      refine nn_get hc hw hp hiX5 rfl 1 (by decide) rfl lk55 dX4_putWithJoint_73 ?_
      refine lv_iload hc.1 hc.2.1 dX4_putWithJoint_76 (lv_at hl 0 rfl) ?_
      refine nn_iald hc hw hbr (by omega) (by omega) dX4_putWithJoint_78 ?_
      refine lv_aload_n hc.1 hc.2.1 dX4_putWithJoint_79 rfl (lv_at hl 5 rfl) ?_
      refine nn_Vp (As := [.int (iI p), .int (iI (br xw.toNat)), .ref bl]) (st := []) hc hw hy rfl (c_X4_cutAt l g  hy hp hb hed (by omega) (by omega) (by omega) (by omega) (by omega)) (cwV 3 hc.2.2.2.2 gX4_putWithJoint_X4_cutAt rfl rfl rfl (by decide +kernel) ⟨Nat.le_of_ble_eq_true rfl, Nat.le_of_ble_eq_true rfl⟩) rfl hl.1 rfl (Nat.le_of_ble_eq_true rfl) ⟨Nat.le_of_ble_eq_true rfl, Nat.le_of_ble_eq_true rfl⟩ dX4_putWithJoint_80 ?_
      refine W.eq (g2 := F0 m 83 ls [.int (iI (cutI (fun v => brk ed pBk (p + v) (dZ - 1).toNat) ((br xw.toNat) - 1).toNat))]) rfl ?_
      refine nn_name (fun xc exc => ?_)
      refine lv_istore (lv' := [(6, .int (iI xc)), (5, .int (iI xw)), (4, .int (iI xb)), (0, .ref y), (1, .ref a), (2, .int (iI p)), (3, .ref bl)]) hc.1 hc.2.1 dX4_putWithJoint_83 hl (by decide) rfl (fun ls hl => ?_)
      have hrc := cutI_r (fun v => brk ed pBk (p + v) (dZ - 1).toNat) (br xw.toNat - 1).toNat
      refine lv_iload hc.1 hc.2.1 dX4_putWithJoint_85 (lv_at hl 0 rfl) ?_
      refine nn_iconst hc dX4_putWithJoint_87 ?_
      refine nn_icmp_ge hc dX4_putWithJoint_88 (tgt := 93) (by decide) (by omega) (by decide) (fun c3 => ?_) (fun c3 => ?_)
      · exact absurd hpj (by unfold pj; rw [if_pos (by omega), if_neg (by omega), ← exw, if_neg (by omega)]; exact fun z => by cases z)
      · refine nn_iconst hc dX4_putWithJoint_91 ?_
        exact hrt _ _ _ dX4_putWithJoint_92 (by first | rfl | omega | (split <;> omega))
    · refine nn_iconst hc dX4_putWithJoint_65 ?_
      exact hrt _ _ _ dX4_putWithJoint_66 (by first | rfl | omega | (split <;> omega))
  · exact absurd hpj (by unfold pj; rw [if_neg (by omega)]; exact fun z => by cases z)

set_option maxHeartbeats 4000000 in
set_option maxRecDepth 100000 in
theorem c_X4_putWithJoint_yes (l : Launch) (g : gG) {n : Nat} {S : Nat → gE} {y : Nat} {pl : Nat} {nH pHi pWi pLp pBk pHp : Int} {ln br rs : Nat → Int} {a : Nat} {cL cF cG cR cZ cW cU : Int} {bl : Nat} {dL dF dG dR dZ dW dU : Int} {ed : Nat → Int} {hf eo : Nat → Int} {p : Int} {h : Nat} {v : Int} (hy : S y = oO 4 [.ref pl, .ref (y + 1)]) (hp : S pl = oO 5 [.ref (pl + 1), .ref (pl + 2), .ref (pl + 3), .int (iI nH), .int (iI pHi), .int (iI pWi), .int (iI pLp), .int (iI pBk), .int (iI pHp)]) (hln : S (pl + 1) = oI g 8 ln) (hbr : S (pl + 2) = oI g 8 br) (hrs : S (y + 1) = oI g 8 rs) (ha : S a = oO 3 [.ref (a + 1), .ref (a + 2), .int (iI cL), .int (iI cF), .int (iI cG), .int (iI cR), .int (iI cZ), .int (iI cW), .int (iI cU)]) (hhf : S (a + 1) = oI g 60 hf) (heo : S (a + 2) = oI g 60 eo) (hb : S bl = oO 3 [.ref (bl + 1), .ref (bl + 2), .int (iI dL), .int (iI dF), .int (iI dG), .int (iI dR), .int (iI dZ), .int (iI dW), .int (iI dU)]) (hed : S (bl + 2) = oI g 60 ed) (rH : 0 ≤ nH ∧ nH ≤ 8) (rP : ∀ i : Nat, (i : Int) < nH → (20 ≤ ln i ∧ ln i ≤ 60) ∧ (10 ≤ br i ∧ br i ≤ 60)) (rR : ∀ i : Nat, (i : Int) < nH → 0 ≤ rs i ∧ rs i ≤ 1000000) (rL : 0 ≤ cL ∧ cL ≤ 60) (rZb : 0 ≤ dZ ∧ dZ ≤ 60) (red : ∀ k : Nat, (k : Int) < dZ - 1 → -1000000 ≤ ed k ∧ ed k ≤ 1000000) (rbk : 0 ≤ pBk ∧ pBk ≤ 1000000) (rp : 0 ≤ p ∧ p ≤ 1000000) (rZ : 0 ≤ cZ ∧ cZ < 60) (hd : ((a + 3 ≤ y ∨ y + 2 ≤ a) ∧ (a + 3 ≤ pl ∨ pl + 4 ≤ a) ∧ (a + 3 ≤ bl ∨ bl + 3 ≤ a)) ∧ (y + 2 ≤ pl ∨ pl + 4 ≤ y) ∧ (y + 2 ≤ bl ∨ bl + 3 ≤ y)) (hpj : pj nH.toNat ln br rs cL ed pBk (dZ - 1).toNat p = some (h, v)) : g_Cs l yX4_putWithJoint wsX4_putWithJoint { frames := 3, cells := 0, slots := 0, locals := 60 } g [.ref y, .ref a, .int (iI p), .ref bl] n S (fun vr n1 S1 => vr = some (.int (iI 1)) ∧ n = n1 ∧ S1 (y + 1) = oI g 8 (va_up rs h (rs h - 1)) ∧ S1 a = oO 3 [.ref (a + 1), .ref (a + 2), .int (iI cL), .int (iI cF), .int (iI cG), .int (iI cR), .int (iI (cZ + 1)), .int (iI (cW + (if v < br h then (br h - v) * cL else 0))), .int (iI (cU + (if v < br h then 1 else 0)))] ∧ S1 (a + 1) = oI g 60 (va_up hf cZ.toNat (h : Int)) ∧ S1 (a + 2) = oI g 60 (va_up eo cZ.toNat ((if 0 < cZ ∧ cZ ≤ 60 then eo (cZ - 1).toNat else 0) + v)) ∧ (∀ bb, bb ≠ (y + 1) → bb ≠ a → bb ≠ (a + 1) → bb ≠ (a + 2) → S1 bb = S bb)) 0 0 := by
  refine g_Cs.of (cc := cX4_putWithJoint) (maxL := 7) (ret := (some .boolean)) (by decide) rfl (Nat.le_of_ble_eq_true rfl) ?_
  intro pp ee s m below meth cK Q H locs ls hc hnm hw hl hret
  have hl : lv_has ls 7 [(0, .ref y), (1, .ref a), (2, .int (iI p)), (3, .ref bl)] := hl
  have hiX4 : ∀ w ∈ u_ws RX4 TX4 2, w ∈ wsX4_putWithJoint := by decide +kernel
  have hiX5 : ∀ w ∈ u_ws RX5 TX5 9, w ∈ wsX4_putWithJoint := by decide +kernel
  have lk15 : Cond.fieldLink RX4 15 "RoofCourses$Layer" "plan" "LRoofCourses$Plan;" ∈ wsX4_putWithJoint := by decide +kernel
  have lk55 : Cond.fieldLink RX4 55 "RoofCourses$Plan" "breadth" "[I" ∈ wsX4_putWithJoint := by decide +kernel
  have lk9 : Cond.fieldLink RX4 9 "RoofCourses$Layer" "rest" "[I" ∈ wsX4_putWithJoint := by decide +kernel
  refine lv_aload_n hc.1 hc.2.1 dX4_putWithJoint_0 rfl (lv_at hl 0 rfl) ?_
  refine lv_iload_n hc.1 hc.2.1 dX4_putWithJoint_1 rfl (lv_at hl 2 rfl) ?_
  refine lv_aload_n hc.1 hc.2.1 dX4_putWithJoint_2 rfl (lv_at hl 1 rfl) ?_
  refine lv_aload_n hc.1 hc.2.1 dX4_putWithJoint_3 rfl (lv_at hl 3 rfl) ?_
  refine nn_Vp (As := [.int (iI p), .ref a, .ref bl]) (st := []) hc hw hy rfl (c_X4_brokenAt l g  hy hp hln hbr hrs ha hb hed (by omega) (by omega) (by omega) (by omega) (by omega) (by omega) (by omega) (by omega)) (cwV 3 hc.2.2.2.2 gX4_putWithJoint_X4_brokenAt rfl rfl rfl (by decide +kernel) ⟨Nat.le_of_ble_eq_true rfl, Nat.le_of_ble_eq_true rfl⟩) rfl hl.1 rfl (Nat.le_of_ble_eq_true rfl) ⟨Nat.le_of_ble_eq_true rfl, Nat.le_of_ble_eq_true rfl⟩ dX4_putWithJoint_4 ?_
  refine W.eq (g2 := F0 m 7 ls [.int (iI (fstI (pB ln br rs cL ed pBk (dZ - 1).toNat p) nH.toNat))]) rfl ?_
  refine nn_name (fun xb exb => ?_)
  refine lv_istore (lv' := [(4, .int (iI xb)), (0, .ref y), (1, .ref a), (2, .int (iI p)), (3, .ref bl)]) hc.1 hc.2.1 dX4_putWithJoint_7 hl (by decide) rfl (fun ls hl => ?_)
  have hrb := fstI_r (pB ln br rs cL ed pBk (dZ - 1).toNat p) nH.toNat
  refine lv_iload hc.1 hc.2.1 dX4_putWithJoint_9 (lv_at hl 0 rfl) ?_
  refine nn_if_lt hc dX4_putWithJoint_11 (tgt := 53) (by decide) (by omega) (fun c1 => ?_) (fun c1 => ?_)
  · refine lv_aload_n hc.1 hc.2.1 dX4_putWithJoint_53 rfl (lv_at hl 1 rfl) ?_
    refine lv_aload_n hc.1 hc.2.1 dX4_putWithJoint_54 rfl (lv_at hl 2 rfl) ?_
    refine nn_Vp (As := [.ref a]) (st := []) hc hw hy rfl (c_X4_broadestFor l g  hy hp hln hrs ha (by omega) (by omega) (by omega) (by omega)) (cwV 1 hc.2.2.2.2 gX4_putWithJoint_X4_broadestFor rfl rfl rfl (by decide +kernel) ⟨Nat.le_of_ble_eq_true rfl, Nat.le_of_ble_eq_true rfl⟩) rfl hl.1 rfl (Nat.le_of_ble_eq_true rfl) ⟨Nat.le_of_ble_eq_true rfl, Nat.le_of_ble_eq_true rfl⟩ dX4_putWithJoint_55 ?_
    refine W.eq (g2 := F0 m 58 ls [.int (iI (fstI (srv ln rs cL) nH.toNat))]) rfl ?_
    refine nn_name (fun xw exw => ?_)
    refine lv_istore (lv' := [(5, .int (iI xw)), (4, .int (iI xb)), (0, .ref y), (1, .ref a), (2, .int (iI p)), (3, .ref bl)]) hc.1 hc.2.1 dX4_putWithJoint_58 hl (by decide) rfl (fun ls hl => ?_)
    have hrw := fstI_r (srv ln rs cL) nH.toNat
    refine lv_iload hc.1 hc.2.1 dX4_putWithJoint_60 (lv_at hl 0 rfl) ?_
    refine nn_if_ge hc dX4_putWithJoint_62 (tgt := 67) (by decide) (by omega) (fun c2 => ?_) (fun c2 => ?_)
    · have hPw := rP xw.toNat (by omega)
      have hRw := rR xw.toNat (by omega)
      refine lv_aload_n hc.1 hc.2.1 dX4_putWithJoint_67 rfl (lv_at hl 2 rfl) ?_
      refine lv_iload_n hc.1 hc.2.1 dX4_putWithJoint_68 rfl (lv_at hl 4 rfl) ?_
      refine lv_aload_n hc.1 hc.2.1 dX4_putWithJoint_69 rfl (lv_at hl 2 rfl) ?_
      refine nn_get hc hw hy hiX4 rfl 0 (by decide) rfl lk15 dX4_putWithJoint_70 ?_
      refine nn_get hc hw hp hiX5 rfl 1 (by decide) rfl lk55 dX4_putWithJoint_73 ?_
      refine lv_iload hc.1 hc.2.1 dX4_putWithJoint_76 (lv_at hl 0 rfl) ?_
      refine nn_iald hc hw hbr (by omega) (by omega) dX4_putWithJoint_78 ?_
      refine lv_aload_n hc.1 hc.2.1 dX4_putWithJoint_79 rfl (lv_at hl 5 rfl) ?_
      refine nn_Vp (As := [.int (iI p), .int (iI (br xw.toNat)), .ref bl]) (st := []) hc hw hy rfl (c_X4_cutAt l g  hy hp hb hed (by omega) (by omega) (by omega) (by omega) (by omega)) (cwV 3 hc.2.2.2.2 gX4_putWithJoint_X4_cutAt rfl rfl rfl (by decide +kernel) ⟨Nat.le_of_ble_eq_true rfl, Nat.le_of_ble_eq_true rfl⟩) rfl hl.1 rfl (Nat.le_of_ble_eq_true rfl) ⟨Nat.le_of_ble_eq_true rfl, Nat.le_of_ble_eq_true rfl⟩ dX4_putWithJoint_80 ?_
      refine W.eq (g2 := F0 m 83 ls [.int (iI (cutI (fun v => brk ed pBk (p + v) (dZ - 1).toNat) ((br xw.toNat) - 1).toNat))]) rfl ?_
      refine nn_name (fun xc exc => ?_)
      refine lv_istore (lv' := [(6, .int (iI xc)), (5, .int (iI xw)), (4, .int (iI xb)), (0, .ref y), (1, .ref a), (2, .int (iI p)), (3, .ref bl)]) hc.1 hc.2.1 dX4_putWithJoint_83 hl (by decide) rfl (fun ls hl => ?_)
      have hrc := cutI_r (fun v => brk ed pBk (p + v) (dZ - 1).toNat) (br xw.toNat - 1).toNat
      refine lv_iload hc.1 hc.2.1 dX4_putWithJoint_85 (lv_at hl 0 rfl) ?_
      refine nn_iconst hc dX4_putWithJoint_87 ?_
      refine nn_icmp_ge hc dX4_putWithJoint_88 (tgt := 93) (by decide) (by omega) (by decide) (fun c3 => ?_) (fun c3 => ?_)
      · have hq : some (xw.toNat, xc) = some (h, v) := by rw [← hpj]; unfold pj; rw [if_pos (by omega), if_neg (by omega), ← exw, if_neg (by omega), ← exc]
        obtain ⟨hh, hv⟩ : xw.toNat = h ∧ xc = v := by simpa using hq
        subst hh
        subst hv
        refine lv_aload_n hc.1 hc.2.1 dX4_putWithJoint_93 rfl (lv_at hl 3 rfl) ?_
        refine nn_get hc hw hy hiX4 rfl 1 (by decide) rfl lk9 dX4_putWithJoint_94 ?_
        refine lv_iload hc.1 hc.2.1 dX4_putWithJoint_97 (lv_at hl 1 rfl) ?_
        refine lv_dup2_11 hc.1 hc.2.1 dX4_putWithJoint_99 rfl rfl ?_
        refine nn_iald hc hw hrs (by omega) (by omega) dX4_putWithJoint_100 ?_
        refine nn_iconst hc dX4_putWithJoint_101 ?_
        refine nn_isub hc dX4_putWithJoint_102 ?_
        refine nn_iast hc hw hrs (by omega) (by omega) dX4_putWithJoint_103 (fun S4 H locs hS4 fS4 hw => ?_)
        refine lv_aload_n hc.1 hc.2.1 dX4_putWithJoint_104 rfl (lv_at hl 4 rfl) ?_
        refine lv_iload hc.1 hc.2.1 dX4_putWithJoint_105 (lv_at hl 1 rfl) ?_
        refine lv_aload_n hc.1 hc.2.1 dX4_putWithJoint_107 rfl (lv_at hl 3 rfl) ?_
        have e5 : S4 y = oO 4 [.ref pl, .ref (y + 1)] := (fS4 y (off_nl (x := y) (a := 1) (by decide))).trans hy
        refine nn_get hc hw e5 hiX4 rfl 0 (by decide) rfl lk15 dX4_putWithJoint_108 ?_
        have e6 : S4 pl = oO 5 [.ref (pl + 1), .ref (pl + 2), .ref (pl + 3), .int (iI nH), .int (iI pHi), .int (iI pWi), .int (iI pLp), .int (iI pBk), .int (iI pHp)] := (fS4 pl (by omega)).trans hp
        refine nn_get hc hw e6 hiX5 rfl 1 (by decide) rfl lk55 dX4_putWithJoint_111 ?_
        refine lv_iload hc.1 hc.2.1 dX4_putWithJoint_114 (lv_at hl 1 rfl) ?_
        have e7 : S4 (pl + 2) = oI g 8 br := (fS4 (pl + 2) (by omega)).trans hbr
        refine nn_iald hc hw e7 (by omega) (by omega) dX4_putWithJoint_116 ?_
        refine lv_iload hc.1 hc.2.1 dX4_putWithJoint_117 (lv_at hl 0 rfl) ?_
        have e8 : S4 a = oO 3 [.ref (a + 1), .ref (a + 2), .int (iI cL), .int (iI cF), .int (iI cG), .int (iI cR), .int (iI cZ), .int (iI cW), .int (iI cU)] := (fS4 a (by omega)).trans ha
        have e9 : S4 (a + 1) = oI g 60 hf := (fS4 (a + 1) (by omega)).trans hhf
        have e10 : S4 (a + 2) = oI g 60 eo := (fS4 (a + 2) (by omega)).trans heo
        refine nn_Vs (As := [.int (iI xw), .int (iI (br xw.toNat)), .int (iI xc)]) (st := []) hc hw e8 rfl (c_X3_put l g  e8 e9 e10 (by omega) (by omega) (by omega)) (cwV 3 hc.2.2.2.2 gX4_putWithJoint_X3_put rfl rfl rfl (by decide +kernel) ⟨Nat.le_of_ble_eq_true rfl, Nat.le_of_ble_eq_true rfl⟩) rfl hl.1 rfl (Nat.le_of_ble_eq_true rfl) ⟨Nat.le_of_ble_eq_true rfl, Nat.le_of_ble_eq_true rfl⟩ dX4_putWithJoint_119 (fun vr n1 S11 H locs qS11 hw => ?_)
        obtain ⟨rfl, rfl, hS11_0, hS11_1, hS11_2, fS11⟩ := qS11
        refine W.eq (g2 := F0 m 122 ls []) rfl ?_
        refine nn_iconst hc dX4_putWithJoint_122 ?_
        have e12 : S11 (y + 1) = oI g 8 (va_up rs xw.toNat ((rs xw.toNat) - 1)) := (fS11 (y + 1) (by omega) (by omega) (by omega)).trans hS4
        exact hret (some (.int (iI 1))) _ S11 _ _ _ _ hw (⟨rfl, rfl, (e12), (hS11_0), (by rw [show ((xw.toNat : Nat) : Int) = xw by omega]; exact hS11_1), (hS11_2), fun bb hb0 hb1 hb2 hb3 => ((fS11 bb hb1 hb2 hb3)).trans (fS4 bb hb0)⟩) ⟨_, rfl, by first | rfl | exact nn_nb _, dX4_putWithJoint_123⟩
      · exact absurd hpj (by unfold pj; rw [if_pos (by omega), if_neg (by omega), ← exw, if_pos (by omega)]; exact fun z => by cases z)
    · exact absurd hpj (by unfold pj; rw [if_pos (by omega), if_pos (by omega)]; exact fun z => by cases z)
  · have hPb := rP xb.toNat (by omega)
    have hRb := rR xb.toNat (by omega)
    have hq : some (xb.toNat, br xb.toNat) = some (h, v) := by rw [← hpj]; unfold pj; rw [if_neg (by omega), ← exb]
    obtain ⟨hh, hv⟩ : xb.toNat = h ∧ br xb.toNat = v := by simpa using hq
    subst hh
    subst hv
    refine lv_aload_n hc.1 hc.2.1 dX4_putWithJoint_14 rfl (lv_at hl 1 rfl) ?_
    refine nn_get hc hw hy hiX4 rfl 1 (by decide) rfl lk9 dX4_putWithJoint_15 ?_
    refine lv_iload hc.1 hc.2.1 dX4_putWithJoint_18 (lv_at hl 0 rfl) ?_
    refine lv_dup2_11 hc.1 hc.2.1 dX4_putWithJoint_20 rfl rfl ?_
    refine nn_iald hc hw hrs (by omega) (by omega) dX4_putWithJoint_21 ?_
    refine nn_iconst hc dX4_putWithJoint_22 ?_
    refine nn_isub hc dX4_putWithJoint_23 ?_
    refine nn_iast hc hw hrs (by omega) (by omega) dX4_putWithJoint_24 (fun S13 H locs hS13 fS13 hw => ?_)
    refine lv_aload_n hc.1 hc.2.1 dX4_putWithJoint_25 rfl (lv_at hl 2 rfl) ?_
    refine lv_iload hc.1 hc.2.1 dX4_putWithJoint_26 (lv_at hl 0 rfl) ?_
    refine lv_aload_n hc.1 hc.2.1 dX4_putWithJoint_28 rfl (lv_at hl 1 rfl) ?_
    have e14 : S13 y = oO 4 [.ref pl, .ref (y + 1)] := (fS13 y (off_nl (x := y) (a := 1) (by decide))).trans hy
    refine nn_get hc hw e14 hiX4 rfl 0 (by decide) rfl lk15 dX4_putWithJoint_29 ?_
    have e15 : S13 pl = oO 5 [.ref (pl + 1), .ref (pl + 2), .ref (pl + 3), .int (iI nH), .int (iI pHi), .int (iI pWi), .int (iI pLp), .int (iI pBk), .int (iI pHp)] := (fS13 pl (by omega)).trans hp
    refine nn_get hc hw e15 hiX5 rfl 1 (by decide) rfl lk55 dX4_putWithJoint_32 ?_
    refine lv_iload hc.1 hc.2.1 dX4_putWithJoint_35 (lv_at hl 0 rfl) ?_
    have e16 : S13 (pl + 2) = oI g 8 br := (fS13 (pl + 2) (by omega)).trans hbr
    refine nn_iald hc hw e16 (by omega) (by omega) dX4_putWithJoint_37 ?_
    refine lv_aload_n hc.1 hc.2.1 dX4_putWithJoint_38 rfl (lv_at hl 1 rfl) ?_
    refine nn_get hc hw e14 hiX4 rfl 0 (by decide) rfl lk15 dX4_putWithJoint_39 ?_
    refine nn_get hc hw e15 hiX5 rfl 1 (by decide) rfl lk55 dX4_putWithJoint_42 ?_
    refine lv_iload hc.1 hc.2.1 dX4_putWithJoint_45 (lv_at hl 0 rfl) ?_
    refine nn_iald hc hw e16 (by omega) (by omega) dX4_putWithJoint_47 ?_
    have e17 : S13 a = oO 3 [.ref (a + 1), .ref (a + 2), .int (iI cL), .int (iI cF), .int (iI cG), .int (iI cR), .int (iI cZ), .int (iI cW), .int (iI cU)] := (fS13 a (by omega)).trans ha
    have e18 : S13 (a + 1) = oI g 60 hf := (fS13 (a + 1) (by omega)).trans hhf
    have e19 : S13 (a + 2) = oI g 60 eo := (fS13 (a + 2) (by omega)).trans heo
    refine nn_Vs (As := [.int (iI xb), .int (iI (br xb.toNat)), .int (iI (br xb.toNat))]) (st := []) hc hw e17 rfl (c_X3_put l g  e17 e18 e19 (by omega) (by omega) (by omega)) (cwV 3 hc.2.2.2.2 gX4_putWithJoint_X3_put rfl rfl rfl (by decide +kernel) ⟨Nat.le_of_ble_eq_true rfl, Nat.le_of_ble_eq_true rfl⟩) rfl hl.1 rfl (Nat.le_of_ble_eq_true rfl) ⟨Nat.le_of_ble_eq_true rfl, Nat.le_of_ble_eq_true rfl⟩ dX4_putWithJoint_48 (fun vr n1 S20 H locs qS20 hw => ?_)
    obtain ⟨rfl, rfl, hS20_0, hS20_1, hS20_2, fS20⟩ := qS20
    refine W.eq (g2 := F0 m 51 ls []) rfl ?_
    refine nn_iconst hc dX4_putWithJoint_51 ?_
    have e21 : S20 (y + 1) = oI g 8 (va_up rs xb.toNat ((rs xb.toNat) - 1)) := (fS20 (y + 1) (by omega) (by omega) (by omega)).trans hS13
    exact hret (some (.int (iI 1))) _ S20 _ _ _ _ hw (⟨rfl, rfl, (e21), (hS20_0), (by rw [show ((xb.toNat : Nat) : Int) = xb by omega]; exact hS20_1), (hS20_2), fun bb hb0 hb1 hb2 hb3 => ((fS20 bb hb1 hb2 hb3)).trans (fS13 bb hb0)⟩) ⟨_, rfl, by first | rfl | exact nn_nb _, dX4_putWithJoint_52⟩

set_option maxHeartbeats 4000000 in
set_option maxRecDepth 100000 in
theorem c_X4_fill_yes (l : Launch) (g : gG) {n : Nat} {S : Nat → gE} {y : Nat} {pl : Nat} {nH pHi pWi pLp pBk pHp : Int} {ln br rs : Nat → Int} {a : Nat} {cL cF cG cR cZ cW cU : Int} {bl : Nat} {dL dF dG dR dZ dW dU : Int} {ed : Nat → Int} {hf eo lv : Nat → Int} {lf : Nat} {fl : Int} {sl : sL} (hy : S y = oO 4 [.ref pl, .ref (y + 1)]) (hp : S pl = oO 5 [.ref (pl + 1), .ref (pl + 2), .ref (pl + 3), .int (iI nH), .int (iI pHi), .int (iI pWi), .int (iI pLp), .int (iI pBk), .int (iI pHp)]) (hln : S (pl + 1) = oI g 8 ln) (hbr : S (pl + 2) = oI g 8 br) (hrs : S (y + 1) = oI g 8 rs) (ha : S a = oO 3 [.ref (a + 1), .ref (a + 2), .int (iI cL), .int (iI cF), .int (iI cG), .int (iI cR), .int (iI cZ), .int (iI cW), .int (iI cU)]) (hhf : S (a + 1) = oI g 60 hf) (heo : S (a + 2) = oI g 60 eo) (hb : S bl = oO 3 [.ref (bl + 1), .ref (bl + 2), .int (iI dL), .int (iI dF), .int (iI dG), .int (iI dR), .int (iI dZ), .int (iI dW), .int (iI dU)]) (hed : S (bl + 2) = oI g 60 ed) (hlf : S lf = oI g 8 lv) (rH : 0 ≤ nH ∧ nH ≤ 8) (rP : ∀ i : Nat, (i : Int) < nH → (20 ≤ ln i ∧ ln i ≤ 60) ∧ (10 ≤ br i ∧ br i ≤ 60)) (rV : ∀ i : Nat, (i : Int) < nH → 0 ≤ lv i ∧ lv i ≤ 1000000) (rZb : 0 ≤ dZ ∧ dZ ≤ 60) (red : ∀ k : Nat, (k : Int) < dZ - 1 → -1000000 ≤ ed k ∧ ed k ≤ 1000000) (rbk : 0 ≤ pBk ∧ pBk ≤ 1000000) (rffl : 20 ≤ fl ∧ fl ≤ 60) (rlp : 0 ≤ pLp ∧ pLp ≤ 10) (rwi : 0 ≤ pWi ∧ pWi ≤ 1000) (rft : 0 ≤ dF + dG ∧ dF + dG ≤ 1000) (rhp : 0 ≤ pHp * (dF + dG) ∧ pHp * (dF + dG) ≤ 1000000) (hd : ((a + 3 ≤ y ∨ y + 2 ≤ a) ∧ (a + 3 ≤ pl ∨ pl + 4 ≤ a) ∧ (a + 3 ≤ bl ∨ bl + 3 ≤ a)) ∧ (y + 2 ≤ pl ∨ pl + 4 ≤ y) ∧ (y + 2 ≤ bl ∨ bl + 3 ≤ y)) (hdl : (lf < a ∨ a + 3 ≤ lf) ∧ lf ≠ y + 1) (hlay : layG nH.toNat ln br fl (rmF pWi pHp (dF + dG)) ed pBk (dZ - 1).toNat 60 lv 0 = some sl) : g_Cs l yX4_fill wsX4_fill { frames := 4, cells := 0, slots := 0, locals := 86 } g [.ref y, .ref a, .int (iI fl), .ref lf, .ref bl] n S (fun vr n1 S1 => ∃ r1 : Nat → Int, ∃ h1 : Nat → Int, ∃ e1 : Nat → Int, vr = some (.int (iI 1)) ∧ n = n1 ∧ S1 (y + 1) = oI g 8 r1 ∧ S1 a = oO 3 [.ref (a + 1), .ref (a + 2), .int (iI fl), .int (iI (dF + dG)), .int (iI ((fl - pLp) / 2)), .int (iI (rmF pWi pHp (dF + dG))), .int (iI (sl.length : Int)), .int (iI (wst br fl sl)), .int (iI (cuts br sl))] ∧ S1 (a + 1) = oI g 60 h1 ∧ S1 (a + 2) = oI g 60 e1 ∧ (∀ i : Nat, i < sl.length → h1 i = slH sl i) ∧ (∀ i : Nat, i < sl.length → e1 i = slE sl i) ∧ (∀ bb, bb ≠ (y + 1) → bb ≠ a → bb ≠ (a + 1) → bb ≠ (a + 2) → S1 bb = S bb)) 0 0 := by
  refine g_Cs.of (cc := cX4_fill) (maxL := 9) (ret := (some .boolean)) (by decide) rfl (Nat.le_of_ble_eq_true rfl) ?_
  intro pp ee s m below meth cK Q H locs ls hc hnm hw hl hret
  have hl : lv_has ls 9 [(0, .ref y), (1, .ref a), (2, .int (iI fl)), (3, .ref lf), (4, .ref bl)] := hl
  have hiX4 : ∀ w ∈ u_ws RX4 TX4 2, w ∈ wsX4_fill := by decide +kernel
  have hiX3 : ∀ w ∈ u_ws RX3 TX3 9, w ∈ wsX4_fill := by decide +kernel
  have hiX5 : ∀ w ∈ u_ws RX5 TX5 9, w ∈ wsX4_fill := by decide +kernel
  have lk9 : Cond.fieldLink RX4 9 "RoofCourses$Layer" "rest" "[I" ∈ wsX4_fill := by decide +kernel
  have lkK19 : Cond.methodLink RX4 19 arraycopyName ∈ wsX4_fill := by decide +kernel
  have lkKn : Cond.native arraycopyName ∈ wsX4_fill := by decide +kernel
  have lkKs : Cond.static arraycopyName ∈ wsX4_fill := by decide +kernel
  have lkKi : Cond.initialized "java/lang/System" ∈ wsX4_fill := by decide +kernel
  have lk15 : Cond.fieldLink RX4 15 "RoofCourses$Layer" "plan" "LRoofCourses$Plan;" ∈ wsX4_fill := by decide +kernel
  have lk44 : Cond.fieldLink RX4 44 "RoofCourses$Course" "size" "I" ∈ wsX4_fill := by decide +kernel
  have lk55 : Cond.fieldLink RX4 55 "RoofCourses$Plan" "breadth" "[I" ∈ wsX4_fill := by decide +kernel
  have lk58 : Cond.fieldLink RX4 58 "RoofCourses$Course" "room" "I" ∈ wsX4_fill := by decide +kernel
  refine lv_aload_n hc.1 hc.2.1 dX4_fill_0 rfl (lv_at hl 3 rfl) ?_
  refine nn_iconst hc dX4_fill_1 ?_
  refine lv_aload_n hc.1 hc.2.1 dX4_fill_2 rfl (lv_at hl 0 rfl) ?_
  refine nn_get hc hw hy hiX4 rfl 1 (by decide) rfl lk9 dX4_fill_3 ?_
  refine nn_iconst hc dX4_fill_6 ?_
  refine nn_bipush hc dX4_fill_7 (by decide +kernel) ?_
  refine nn_copy hc hl.1 hw lkK19 lkKn lkKs lkKi hlf hrs (by omega) (by decide) (by decide) (Nat.le_of_ble_eq_true rfl) (Nat.le_of_ble_eq_true rfl) dX4_fill_9 (fun S1 H locs hS1 fS1 hw => ?_)
  have hS1 : S1 (y + 1) = oI g 8 (va_cpy lv rs 0 0 8) := hS1
  refine lv_aload hc.1 hc.2.1 dX4_fill_12 (lv_at hl 4 rfl) ?_
  have e2 : S1 bl = oO 3 [.ref (bl + 1), .ref (bl + 2), .int (iI dL), .int (iI dF), .int (iI dG), .int (iI dR), .int (iI dZ), .int (iI dW), .int (iI dU)] := (fS1 bl (by omega)).trans hb
  refine nn_Vp (As := []) (st := []) hc hw e2 rfl (c_X3_head l g  e2 ) (cwV 0 hc.2.2.2.2 gX4_fill_X3_head rfl rfl rfl (by decide +kernel) ⟨Nat.le_of_ble_eq_true rfl, Nat.le_of_ble_eq_true rfl⟩) rfl hl.1 rfl (Nat.le_of_ble_eq_true rfl) ⟨Nat.le_of_ble_eq_true rfl, Nat.le_of_ble_eq_true rfl⟩ dX4_fill_14 ?_
  refine W.eq (g2 := F0 m 17 ls [.int (iI (dF + dG))]) rfl ?_
  refine nn_name (fun xf exf => ?_)
  refine lv_istore (lv' := [(5, .int (iI xf)), (0, .ref y), (1, .ref a), (2, .int (iI fl)), (3, .ref lf), (4, .ref bl)]) hc.1 hc.2.1 dX4_fill_17 hl (by decide) rfl (fun ls hl => ?_)
  have hxf : xf = dF + dG := exf
  refine lv_aload_n hc.1 hc.2.1 dX4_fill_19 rfl (lv_at hl 2 rfl) ?_
  refine lv_iload_n hc.1 hc.2.1 dX4_fill_20 rfl (lv_at hl 3 rfl) ?_
  refine lv_iload hc.1 hc.2.1 dX4_fill_21 (lv_at hl 0 rfl) ?_
  refine lv_aload_n hc.1 hc.2.1 dX4_fill_23 rfl (lv_at hl 1 rfl) ?_
  have e3 : S1 y = oO 4 [.ref pl, .ref (y + 1)] := (fS1 y (off_nl (x := y) (a := 1) (by decide))).trans hy
  refine nn_get hc hw e3 hiX4 rfl 0 (by decide) rfl lk15 dX4_fill_24 ?_
  refine lv_iload_n hc.1 hc.2.1 dX4_fill_27 rfl (lv_at hl 3 rfl) ?_
  have e4 : S1 pl = oO 5 [.ref (pl + 1), .ref (pl + 2), .ref (pl + 3), .int (iI nH), .int (iI pHi), .int (iI pWi), .int (iI pLp), .int (iI pBk), .int (iI pHp)] := (fS1 pl (by omega)).trans hp
  refine nn_Vp (As := [.int (iI fl)]) (st := [.int (iI xf), .int (iI fl), .ref a]) hc hw e4 rfl (c_X5_gaugeOf l g  e4 (by omega)) (cwV 1 hc.2.2.2.2 gX4_fill_X5_gaugeOf rfl rfl rfl (by decide +kernel) ⟨Nat.le_of_ble_eq_true rfl, Nat.le_of_ble_eq_true rfl⟩) rfl hl.1 rfl (Nat.le_of_ble_eq_true rfl) ⟨Nat.le_of_ble_eq_true rfl, Nat.le_of_ble_eq_true rfl⟩ dX4_fill_28 ?_
  refine W.eq (g2 := F0 m 31 ls [.int (iI ((fl - pLp) / 2)), .int (iI xf), .int (iI fl), .ref a]) rfl ?_
  refine lv_aload_n hc.1 hc.2.1 dX4_fill_31 rfl (lv_at hl 1 rfl) ?_
  refine nn_get hc hw e3 hiX4 rfl 0 (by decide) rfl lk15 dX4_fill_32 ?_
  refine lv_iload hc.1 hc.2.1 dX4_fill_35 (lv_at hl 0 rfl) ?_
  refine nn_Vp (As := [.int (iI xf)]) (st := [.int (iI ((fl - pLp) / 2)), .int (iI xf), .int (iI fl), .ref a]) hc hw e4 rfl (c_X5_roomAt l g  e4 (by rw [exf]; omega) (by omega)) (cwV 1 hc.2.2.2.2 gX4_fill_X5_roomAt rfl rfl rfl (by decide +kernel) ⟨Nat.le_of_ble_eq_true rfl, Nat.le_of_ble_eq_true rfl⟩) rfl hl.1 rfl (Nat.le_of_ble_eq_true rfl) ⟨Nat.le_of_ble_eq_true rfl, Nat.le_of_ble_eq_true rfl⟩ dX4_fill_37 ?_
  refine W.eq (g2 := F0 m 40 ls [.int (iI (rmF pWi pHp xf)), .int (iI ((fl - pLp) / 2)), .int (iI xf), .int (iI fl), .ref a]) rfl ?_
  have e5 : S1 a = oO 3 [.ref (a + 1), .ref (a + 2), .int (iI cL), .int (iI cF), .int (iI cG), .int (iI cR), .int (iI cZ), .int (iI cW), .int (iI cU)] := (fS1 a (by omega)).trans ha
  refine nn_Vs (As := [.int (iI fl), .int (iI xf), .int (iI ((fl - pLp) / 2)), .int (iI (rmF pWi pHp xf))]) (st := []) hc hw e5 rfl (c_X3_begin l g  e5 ) (cwV 4 hc.2.2.2.2 gX4_fill_X3_begin rfl rfl rfl (by decide +kernel) ⟨Nat.le_of_ble_eq_true rfl, Nat.le_of_ble_eq_true rfl⟩) rfl hl.1 rfl (Nat.le_of_ble_eq_true rfl) ⟨Nat.le_of_ble_eq_true rfl, Nat.le_of_ble_eq_true rfl⟩ dX4_fill_40 (fun vr n1 S6 H locs qS6 hw => ?_)
  obtain ⟨rfl, rfl, hS6_0, fS6⟩ := qS6
  refine W.eq (g2 := F0 m 43 ls []) rfl ?_
  refine nn_iconst hc dX4_fill_43 ?_
  refine lv_istore (lv' := [(6, .int (iI 0)), (5, .int (iI xf)), (0, .ref y), (1, .ref a), (2, .int (iI fl)), (3, .ref lf), (4, .ref bl)]) hc.1 hc.2.1 dX4_fill_44 hl (by decide) rfl (fun ls hl => ?_)
  have lab46 : ∀ (fu46 : Nat) (k : Int) (ks : Nat → Int) (kh : Nat → Int) (ke : Nat → Int) (kW : Int) (kU : Int) (acc : sL) (tl : sL) (S7 : Nat → gE) (H : Heap) (locs : List Loc) (ls : Array Slot), ((k = acc.length ∧ 0 ≤ k ∧ k ≤ 60) ∧ (0 ≤ tot acc ∧ tot acc < rmF pWi pHp (dF + dG))) → (layG nH.toNat ln br fl (rmF pWi pHp (dF + dG)) ed pBk (dZ - 1).toNat (60 - acc.length) ks (tot acc) = some tl) → (sl = acc ++ tl) → (kW = wst br fl acc ∧ kU = cuts br acc) → (∀ i : Nat, i < acc.length → kh i = slH acc i) → (∀ i : Nat, i < acc.length → ke i = slE acc i) → (∀ i : Nat, (i : Int) < nH → 0 ≤ ks i ∧ ks i ≤ 1000000) → S7 (y + 1) = oI g 8 ks → S7 a = oO 3 [.ref (a + 1), .ref (a + 2), .int (iI fl), .int (iI xf), .int (iI ((fl - pLp) / 2)), .int (iI (rmF pWi pHp xf)), .int (iI k), .int (iI kW), .int (iI kU)] → S7 (a + 1) = oI g 60 kh → S7 (a + 2) = oI g 60 ke → (∀ bb, bb ≠ (y + 1) → bb ≠ a → bb ≠ (a + 1) → bb ≠ (a + 2) → S7 bb = S6 bb) → g_W g n S7 s H locs → (60 - k).toNat < fu46 → lv_has ls 9 [(6, .int (iI k)), (0, .ref y), (1, .ref a), (2, .int (iI fl)), (3, .ref lf), (4, .ref bl), (5, .int (iI xf))] → W pp l ee ({ frames := 4, cells := 0, slots := 0, locals := 86 } : Room) s m ([.ref y, .ref a, .int (iI fl), .ref lf, .ref bl] : List Value).toArray below meth cK H locs 0 0 Q (F0 m 46 ls []) := by
    intro fu46
    induction fu46 with
    | zero =>
      intro k ks kh ke kW kU acc tl S7 H locs ls hk hly hsl hWU hhh hee hks hc46_0 hc46_1 hc46_2 hc46_3 fr46 hw hmeas hl
      exact absurd hmeas (Nat.not_lt_zero _)
    | succ fu46 ih46 =>
      intro k ks kh ke kW kU acc tl S7 H locs ls hk hly hsl hWU hhh hee hks hc46_0 hc46_1 hc46_2 hc46_3 fr46 hw hmeas hl
      refine lv_iload hc.1 hc.2.1 dX4_fill_46 (lv_at hl 0 rfl) ?_
      refine nn_bipush hc dX4_fill_48 (by decide +kernel) ?_
      refine nn_icmp_ge hc dX4_fill_50 (tgt := 122) (by decide) (by omega) (by decide) (fun c8 => ?_) (fun c8 => ?_)
      · exfalso; rw [show 60 - acc.length = 0 by omega] at hly; cases hly
      · have hxp0 := start_tot hk.1.1 (by omega) hee
        refine lv_aload_n hc.1 hc.2.1 dX4_fill_53 rfl (lv_at hl 2 rfl) ?_
        refine lv_aload_n hc.1 hc.2.1 dX4_fill_54 rfl (lv_at hl 2 rfl) ?_
        refine nn_get hc hw hc46_1 hiX3 rfl 6 (by decide) rfl lk44 dX4_fill_55 ?_
        refine nn_Vp (As := [.int (iI k)]) (st := []) hc hw hc46_1 rfl (c_X3_startOf l g  hc46_1 hc46_3 (by omega)) (cwV 1 hc.2.2.2.2 gX4_fill_X3_startOf rfl rfl rfl (by decide +kernel) ⟨Nat.le_of_ble_eq_true rfl, Nat.le_of_ble_eq_true rfl⟩) rfl hl.1 rfl (Nat.le_of_ble_eq_true rfl) ⟨Nat.le_of_ble_eq_true rfl, Nat.le_of_ble_eq_true rfl⟩ dX4_fill_58 ?_
        refine W.eq (g2 := F0 m 61 ls [.int (iI (if 0 < k ∧ k ≤ 60 then ke (k - 1).toNat else 0))]) rfl ?_
        refine nn_name (fun xp exp => ?_)
        refine lv_istore (lv' := [(7, .int (iI xp)), (6, .int (iI k)), (0, .ref y), (1, .ref a), (2, .int (iI fl)), (3, .ref lf), (4, .ref bl), (5, .int (iI xf))]) hc.1 hc.2.1 dX4_fill_61 hl (by decide) rfl (fun ls hl => ?_)
        have hxp : xp = tot acc := exp.trans hxp0
        have hRge := rmF_ge pWi pHp (dF + dG)
        have hRle : rmF pWi pHp xf ≤ 1000 := by unfold rmF; rw [hxf]; split <;> omega
        have hxR : rmF pWi pHp xf = rmF pWi pHp (dF + dG) := by rw [hxf]
        refine lv_aload_n hc.1 hc.2.1 dX4_fill_63 rfl (lv_at hl 2 rfl) ?_
        refine lv_iload hc.1 hc.2.1 dX4_fill_64 (lv_at hl 0 rfl) ?_
        refine lv_aload_n hc.1 hc.2.1 dX4_fill_66 rfl (lv_at hl 3 rfl) ?_
        have e9 : S1 y = oO 4 [.ref pl, .ref (y + 1)] := (fS1 y (off_nl (x := y) (a := 1) (by decide))).trans hy
        have e10 : S6 y = oO 4 [.ref pl, .ref (y + 1)] := (fS6 y (by omega)).trans e9
        have e11 : S7 y = oO 4 [.ref pl, .ref (y + 1)] := (fr46 y (off_nl (x := y) (a := 1) (by decide)) (by omega) (by omega) (by omega)).trans e10
        have e12 : S1 pl = oO 5 [.ref (pl + 1), .ref (pl + 2), .ref (pl + 3), .int (iI nH), .int (iI pHi), .int (iI pWi), .int (iI pLp), .int (iI pBk), .int (iI pHp)] := (fS1 pl (by omega)).trans hp
        have e13 : S6 pl = oO 5 [.ref (pl + 1), .ref (pl + 2), .ref (pl + 3), .int (iI nH), .int (iI pHi), .int (iI pWi), .int (iI pLp), .int (iI pBk), .int (iI pHp)] := (fS6 pl (by omega)).trans e12
        have e14 : S7 pl = oO 5 [.ref (pl + 1), .ref (pl + 2), .ref (pl + 3), .int (iI nH), .int (iI pHi), .int (iI pWi), .int (iI pLp), .int (iI pBk), .int (iI pHp)] := (fr46 pl (by omega) (by omega) (by omega) (by omega)).trans e13
        have e15 : S1 (pl + 1) = oI g 8 ln := (fS1 (pl + 1) (by omega)).trans hln
        have e16 : S6 (pl + 1) = oI g 8 ln := (fS6 (pl + 1) (by omega)).trans e15
        have e17 : S7 (pl + 1) = oI g 8 ln := (fr46 (pl + 1) (by omega) (by omega) (by omega) (by omega)).trans e16
        have e18 : S1 (pl + 2) = oI g 8 br := (fS1 (pl + 2) (by omega)).trans hbr
        have e19 : S6 (pl + 2) = oI g 8 br := (fS6 (pl + 2) (by omega)).trans e18
        have e20 : S7 (pl + 2) = oI g 8 br := (fr46 (pl + 2) (by omega) (by omega) (by omega) (by omega)).trans e19
        refine nn_Vp (As := [.int (iI xp), .ref a]) (st := []) hc hw e11 rfl (c_X4_endingAt l g  e11 e14 e17 e20 hc46_0 hc46_1 (by omega) (rP) (hks) (by omega) (by omega) (by omega)) (cwV 2 hc.2.2.2.2 gX4_fill_X4_endingAt rfl rfl rfl (by decide +kernel) ⟨Nat.le_of_ble_eq_true rfl, Nat.le_of_ble_eq_true rfl⟩) rfl hl.1 rfl (Nat.le_of_ble_eq_true rfl) ⟨Nat.le_of_ble_eq_true rfl, Nat.le_of_ble_eq_true rfl⟩ dX4_fill_67 ?_
        refine W.eq (g2 := F0 m 70 ls [.int (iI (lstI (pE ln br ks fl (rmF pWi pHp xf) xp) nH.toNat))]) rfl ?_
        refine nn_name (fun xe exe => ?_)
        refine lv_istore (lv' := [(8, .int (iI xe)), (7, .int (iI xp)), (6, .int (iI k)), (0, .ref y), (1, .ref a), (2, .int (iI fl)), (3, .ref lf), (4, .ref bl), (5, .int (iI xf))]) hc.1 hc.2.1 dX4_fill_70 hl (by decide) rfl (fun ls hl => ?_)
        have hre := lstI_r (pE ln br ks fl (rmF pWi pHp xf) xp) nH.toNat
        have hlE : lstI (pE ln br ks fl (rmF pWi pHp (dF + dG)) (tot acc)) nH.toNat = xe := by rw [← hxp, ← hxR, exe]
        refine lv_iload hc.1 hc.2.1 dX4_fill_72 (lv_at hl 0 rfl) ?_
        refine nn_if_lt hc dX4_fill_74 (tgt := 102) (by decide) (by omega) (fun c21 => ?_) (fun c21 => ?_)
        · have hb1 : ∀ i : Nat, i < nH.toNat → 1 ≤ br i := fun i hi => by have := rP i (by omega); omega
          obtain ⟨x, rr, hp1, hl2, hl3⟩ := layG_step (f := 59 - acc.length) (by rw [show 59 - acc.length + 1 = 60 - acc.length by omega]; exact hly) (by omega)
          have hx := pj_fits (R := rmF pWi pHp (dF + dG)) hb1 (by omega) hp1
          refine lv_aload_n hc.1 hc.2.1 dX4_fill_102 rfl (lv_at hl 3 rfl) ?_
          refine lv_aload_n hc.1 hc.2.1 dX4_fill_103 rfl (lv_at hl 4 rfl) ?_
          refine lv_iload hc.1 hc.2.1 dX4_fill_104 (lv_at hl 1 rfl) ?_
          refine lv_aload hc.1 hc.2.1 dX4_fill_106 (lv_at hl 7 rfl) ?_
          have e22 : S1 bl = oO 3 [.ref (bl + 1), .ref (bl + 2), .int (iI dL), .int (iI dF), .int (iI dG), .int (iI dR), .int (iI dZ), .int (iI dW), .int (iI dU)] := (fS1 bl (by omega)).trans hb
          have e23 : S6 bl = oO 3 [.ref (bl + 1), .ref (bl + 2), .int (iI dL), .int (iI dF), .int (iI dG), .int (iI dR), .int (iI dZ), .int (iI dW), .int (iI dU)] := (fS6 bl (by omega)).trans e22
          have e24 : S7 bl = oO 3 [.ref (bl + 1), .ref (bl + 2), .int (iI dL), .int (iI dF), .int (iI dG), .int (iI dR), .int (iI dZ), .int (iI dW), .int (iI dU)] := (fr46 bl (by omega) (by omega) (by omega) (by omega)).trans e23
          have e25 : S1 (bl + 2) = oI g 60 ed := (fS1 (bl + 2) (by omega)).trans hed
          have e26 : S6 (bl + 2) = oI g 60 ed := (fS6 (bl + 2) (by omega)).trans e25
          have e27 : S7 (bl + 2) = oI g 60 ed := (fr46 (bl + 2) (by omega) (by omega) (by omega) (by omega)).trans e26
          refine nn_Vs (As := [.ref a, .int (iI xp), .ref bl]) (st := []) hc hw e11 rfl (c_X4_putWithJoint_yes l g  e11 e14 e17 e20 hc46_0 hc46_1 hc46_2 hc46_3 e24 e27 (by omega) (rP) (hks) (by omega) (by omega) (red) (by omega) (by omega) (by omega) (by omega) (by rw [hxp]; exact hp1)) (cwV 3 hc.2.2.2.2 gX4_fill_X4_putWithJoint rfl rfl rfl (by decide +kernel) ⟨Nat.le_of_ble_eq_true rfl, Nat.le_of_ble_eq_true rfl⟩) rfl hl.1 rfl (Nat.le_of_ble_eq_true rfl) ⟨Nat.le_of_ble_eq_true rfl, Nat.le_of_ble_eq_true rfl⟩ dX4_fill_108 (fun vr n1 S28 H locs qS28 hw => ?_)
          obtain ⟨rfl, rfl, hS28_0, hS28_1, hS28_2, hS28_3, fS28⟩ := qS28
          refine W.eq (g2 := F0 m 111 ls [.int (iI 1)]) rfl ?_
          refine nn_if_ne hc dX4_fill_111 (tgt := 116) (by decide) (by decide) (fun c29 => ?_) (fun c29 => ?_)
          · refine nn_iinc (lv' := [(6, .int (iI (k + 1))), (8, .int (iI xe)), (7, .int (iI xp)), (0, .ref y), (1, .ref a), (2, .int (iI fl)), (3, .ref lf), (4, .ref bl), (5, .int (iI xf))]) hc dX4_fill_116 hl (k0 := 2) rfl (by decide) rfl (fun ls hl => ?_)
            refine lv_goto hc.1 hc.2.1 dX4_fill_119 (tgt := 46) (by decide) ?_
            exact ih46 (k + 1) (va_up ks x.1 (ks x.1 - 1)) (va_up kh k.toNat (x.1 : Int)) (va_up ke k.toNat ((if 0 < k ∧ k ≤ 60 then ke (k - 1).toNat else 0) + x.2)) (kW + (if x.2 < br x.1 then (br x.1 - x.2) * fl else 0)) (kU + (if x.2 < br x.1 then 1 else 0)) (acc ++ [x]) rr S28 _ _ _ (by rw [tot_snoc acc x.1 x.2, List.length_append]; simp only [List.length_cons, List.length_nil]; omega) (by rw [tot_snoc acc x.1 x.2, List.length_append, show 60 - (acc.length + [x].length) = 59 - acc.length by simp only [List.length_cons, List.length_nil]; omega]; exact hl3) (by rw [hsl, hl2, List.append_assoc]; rfl) (⟨by rw [wst_snoc br fl acc x.1 x.2, hWU.1], by rw [cuts_snoc br acc x.1 x.2, hWU.2]⟩) (up_slH (by omega) rfl hhh) (up_slE (by omega) (by rw [start_tot hk.1.1 (by omega) hee]) hee) (fun i hi => by have h1 := hks i hi; unfold va_up; split; rename_i e2; rw [← e2]; rw [← e2] at hx; omega; exact h1) hS28_0 hS28_1 hS28_2 hS28_3 (fun bb hb0 hb1 hb2 hb3 => ((fS28 bb hb0 hb1 hb2 hb3)).trans (fr46 bb hb0 hb1 hb2 hb3)) hw (by omega) (lv_sub hl [0, 3, 4, 5, 6, 7, 8] rfl)
          · exact absurd c29 (by decide)
        · have hPe := rP xe.toNat (by omega)
          have hl1 := layG_end (f := 59 - acc.length) (by rw [show 59 - acc.length + 1 = 60 - acc.length by omega]; exact hly) (by omega)
          have hsl2 : sl = acc ++ [(xe.toNat, rmF pWi pHp (dF + dG) - tot acc)] := by rw [hsl, hl1, hlE]
          refine lv_aload_n hc.1 hc.2.1 dX4_fill_77 rfl (lv_at hl 4 rfl) ?_
          refine lv_iload hc.1 hc.2.1 dX4_fill_78 (lv_at hl 0 rfl) ?_
          refine lv_aload_n hc.1 hc.2.1 dX4_fill_80 rfl (lv_at hl 3 rfl) ?_
          refine nn_get hc hw e11 hiX4 rfl 0 (by decide) rfl lk15 dX4_fill_81 ?_
          refine nn_get hc hw e14 hiX5 rfl 1 (by decide) rfl lk55 dX4_fill_84 ?_
          refine lv_iload hc.1 hc.2.1 dX4_fill_87 (lv_at hl 0 rfl) ?_
          refine nn_iald hc hw e20 (by omega) (by omega) dX4_fill_89 ?_
          refine lv_aload_n hc.1 hc.2.1 dX4_fill_90 rfl (lv_at hl 4 rfl) ?_
          refine nn_get hc hw hc46_1 hiX3 rfl 5 (by decide) rfl lk58 dX4_fill_91 ?_
          refine lv_iload hc.1 hc.2.1 dX4_fill_94 (lv_at hl 1 rfl) ?_
          refine nn_isub hc dX4_fill_96 ?_
          refine nn_Vs (As := [.int (iI xe), .int (iI (br xe.toNat)), .int (iI ((rmF pWi pHp xf) - xp))]) (st := []) hc hw hc46_1 rfl (c_X3_put l g  hc46_1 hc46_2 hc46_3 (by omega) (by omega) (by omega)) (cwV 3 hc.2.2.2.2 gX4_fill_X3_put rfl rfl rfl (by decide +kernel) ⟨Nat.le_of_ble_eq_true rfl, Nat.le_of_ble_eq_true rfl⟩) rfl hl.1 rfl (Nat.le_of_ble_eq_true rfl) ⟨Nat.le_of_ble_eq_true rfl, Nat.le_of_ble_eq_true rfl⟩ dX4_fill_97 (fun vr n1 S30 H locs qS30 hw => ?_)
          obtain ⟨rfl, rfl, hS30_0, hS30_1, hS30_2, fS30⟩ := qS30
          refine W.eq (g2 := F0 m 100 ls []) rfl ?_
          refine nn_iconst hc dX4_fill_100 ?_
          have e31 : S30 (y + 1) = oI g 8 ks := (fS30 (y + 1) (by omega) (by omega) (by omega)).trans hc46_0
          exact hret (some (.int (iI 1))) _ S30 _ _ _ _ hw (⟨_, _, _, rfl, rfl, e31, (by rw [hsl2, ← hxR, ← hxf, wst_snoc, cuts_snoc, List.length_append, ← hWU.1, ← hWU.2]; simp only [List.length_cons, List.length_nil]; rw [show (((acc.length + (0 + 1) : Nat)) : Int) = k + 1 by omega, ← hxp]; exact hS30_0), hS30_1, hS30_2, (by rw [hsl2]; exact up_slH (x := (xe.toNat, rmF pWi pHp (dF + dG) - tot acc)) (by omega) (by omega) hhh), (by rw [hsl2]; exact up_slE (x := (xe.toNat, rmF pWi pHp (dF + dG) - tot acc)) (by omega) (by rw [start_tot hk.1.1 (by omega) hee, hxp, hxR]) hee), fun bb hb0 hb1 hb2 hb3 => ((((fS30 bb hb1 hb2 hb3)).trans (fr46 bb hb0 hb1 hb2 hb3)).trans (fS6 bb hb1)).trans (fS1 bb hb0)⟩) ⟨_, rfl, by first | rfl | exact nn_nb _, dX4_fill_101⟩
  have e32 : S6 (y + 1) = oI g 8 (va_cpy lv rs 0 0 8) := (fS6 (y + 1) (by omega)).trans hS1
  have e33 : S1 (a + 1) = oI g 60 hf := (fS1 (a + 1) (by omega)).trans hhf
  have e34 : S6 (a + 1) = oI g 60 hf := (fS6 (a + 1) (off_nr (x := a) (a := 1) (by decide))).trans e33
  have e35 : S1 (a + 2) = oI g 60 eo := (fS1 (a + 2) (by omega)).trans heo
  have e36 : S6 (a + 2) = oI g 60 eo := (fS6 (a + 2) (off_nr (x := a) (a := 2) (by decide))).trans e35
  exact lab46 _ 0 (va_cpy lv rs 0 0 8) hf eo 0 0 ([]) sl S6 _ _ _ (⟨⟨rfl, by decide, by decide⟩, Int.le_refl 0, by have := rmF_ge pWi pHp (dF + dG); show (0 : Int) < _; omega⟩) ((layG_congr 60 _ lv 0 (fun i hi => cpy8 (by omega))).trans hlay) (rfl) (⟨rfl, rfl⟩) (fun i hi => absurd hi (Nat.not_lt_zero i)) (fun i hi => absurd hi (Nat.not_lt_zero i)) (fun i hi => by rw [cpy8 (by omega)]; exact rV i hi) e32 hS6_0 e34 e36 (fun bb _ _ _ _ => rfl) hw (Nat.lt_succ_self _) (lv_sub hl [0, 2, 3, 4, 5, 6, 1] rfl)

set_option maxHeartbeats 4000000 in
set_option maxRecDepth 100000 in
theorem c_X4_fill_no (l : Launch) (g : gG) {n : Nat} {S : Nat → gE} {y : Nat} {pl : Nat} {nH pHi pWi pLp pBk pHp : Int} {ln br rs : Nat → Int} {a : Nat} {cL cF cG cR cZ cW cU : Int} {bl : Nat} {dL dF dG dR dZ dW dU : Int} {ed : Nat → Int} {hf eo lv : Nat → Int} {lf : Nat} {fl : Int} (hy : S y = oO 4 [.ref pl, .ref (y + 1)]) (hp : S pl = oO 5 [.ref (pl + 1), .ref (pl + 2), .ref (pl + 3), .int (iI nH), .int (iI pHi), .int (iI pWi), .int (iI pLp), .int (iI pBk), .int (iI pHp)]) (hln : S (pl + 1) = oI g 8 ln) (hbr : S (pl + 2) = oI g 8 br) (hrs : S (y + 1) = oI g 8 rs) (ha : S a = oO 3 [.ref (a + 1), .ref (a + 2), .int (iI cL), .int (iI cF), .int (iI cG), .int (iI cR), .int (iI cZ), .int (iI cW), .int (iI cU)]) (hhf : S (a + 1) = oI g 60 hf) (heo : S (a + 2) = oI g 60 eo) (hb : S bl = oO 3 [.ref (bl + 1), .ref (bl + 2), .int (iI dL), .int (iI dF), .int (iI dG), .int (iI dR), .int (iI dZ), .int (iI dW), .int (iI dU)]) (hed : S (bl + 2) = oI g 60 ed) (hlf : S lf = oI g 8 lv) (rH : 0 ≤ nH ∧ nH ≤ 8) (rP : ∀ i : Nat, (i : Int) < nH → (20 ≤ ln i ∧ ln i ≤ 60) ∧ (10 ≤ br i ∧ br i ≤ 60)) (rV : ∀ i : Nat, (i : Int) < nH → 0 ≤ lv i ∧ lv i ≤ 1000000) (rZb : 0 ≤ dZ ∧ dZ ≤ 60) (red : ∀ k : Nat, (k : Int) < dZ - 1 → -1000000 ≤ ed k ∧ ed k ≤ 1000000) (rbk : 0 ≤ pBk ∧ pBk ≤ 1000000) (rffl : 20 ≤ fl ∧ fl ≤ 60) (rlp : 0 ≤ pLp ∧ pLp ≤ 10) (rwi : 0 ≤ pWi ∧ pWi ≤ 1000) (rft : 0 ≤ dF + dG ∧ dF + dG ≤ 1000) (rhp : 0 ≤ pHp * (dF + dG) ∧ pHp * (dF + dG) ≤ 1000000) (hd : ((a + 3 ≤ y ∨ y + 2 ≤ a) ∧ (a + 3 ≤ pl ∨ pl + 4 ≤ a) ∧ (a + 3 ≤ bl ∨ bl + 3 ≤ a)) ∧ (y + 2 ≤ pl ∨ pl + 4 ≤ y) ∧ (y + 2 ≤ bl ∨ bl + 3 ≤ y)) (hdl : (lf < a ∨ a + 3 ≤ lf) ∧ lf ≠ y + 1) (hlay : layG nH.toNat ln br fl (rmF pWi pHp (dF + dG)) ed pBk (dZ - 1).toNat 60 lv 0 = none) : g_Cs l yX4_fill wsX4_fill { frames := 4, cells := 0, slots := 0, locals := 86 } g [.ref y, .ref a, .int (iI fl), .ref lf, .ref bl] n S (fun vr n1 S1 => ∃ r1 : Nat → Int, ∃ z1 : Int, ∃ w1 : Int, ∃ u1 : Int, ∃ h1 : Nat → Int, ∃ e1 : Nat → Int, vr = some (.int (iI 0)) ∧ n = n1 ∧ S1 (y + 1) = oI g 8 r1 ∧ S1 a = oO 3 [.ref (a + 1), .ref (a + 2), .int (iI fl), .int (iI (dF + dG)), .int (iI ((fl - pLp) / 2)), .int (iI (rmF pWi pHp (dF + dG))), .int (iI z1), .int (iI w1), .int (iI u1)] ∧ S1 (a + 1) = oI g 60 h1 ∧ S1 (a + 2) = oI g 60 e1 ∧ (∀ bb, bb ≠ (y + 1) → bb ≠ a → bb ≠ (a + 1) → bb ≠ (a + 2) → S1 bb = S bb)) 0 0 := by
  refine g_Cs.of (cc := cX4_fill) (maxL := 9) (ret := (some .boolean)) (by decide) rfl (Nat.le_of_ble_eq_true rfl) ?_
  intro pp ee s m below meth cK Q H locs ls hc hnm hw hl hret
  have hl : lv_has ls 9 [(0, .ref y), (1, .ref a), (2, .int (iI fl)), (3, .ref lf), (4, .ref bl)] := hl
  have hiX4 : ∀ w ∈ u_ws RX4 TX4 2, w ∈ wsX4_fill := by decide +kernel
  have hiX3 : ∀ w ∈ u_ws RX3 TX3 9, w ∈ wsX4_fill := by decide +kernel
  have lk9 : Cond.fieldLink RX4 9 "RoofCourses$Layer" "rest" "[I" ∈ wsX4_fill := by decide +kernel
  have lkK19 : Cond.methodLink RX4 19 arraycopyName ∈ wsX4_fill := by decide +kernel
  have lkKn : Cond.native arraycopyName ∈ wsX4_fill := by decide +kernel
  have lkKs : Cond.static arraycopyName ∈ wsX4_fill := by decide +kernel
  have lkKi : Cond.initialized "java/lang/System" ∈ wsX4_fill := by decide +kernel
  have lk15 : Cond.fieldLink RX4 15 "RoofCourses$Layer" "plan" "LRoofCourses$Plan;" ∈ wsX4_fill := by decide +kernel
  have lk44 : Cond.fieldLink RX4 44 "RoofCourses$Course" "size" "I" ∈ wsX4_fill := by decide +kernel
  refine lv_aload_n hc.1 hc.2.1 dX4_fill_0 rfl (lv_at hl 3 rfl) ?_
  refine nn_iconst hc dX4_fill_1 ?_
  refine lv_aload_n hc.1 hc.2.1 dX4_fill_2 rfl (lv_at hl 0 rfl) ?_
  refine nn_get hc hw hy hiX4 rfl 1 (by decide) rfl lk9 dX4_fill_3 ?_
  refine nn_iconst hc dX4_fill_6 ?_
  refine nn_bipush hc dX4_fill_7 (by decide +kernel) ?_
  refine nn_copy hc hl.1 hw lkK19 lkKn lkKs lkKi hlf hrs (by omega) (by decide) (by decide) (Nat.le_of_ble_eq_true rfl) (Nat.le_of_ble_eq_true rfl) dX4_fill_9 (fun S1 H locs hS1 fS1 hw => ?_)
  have hS1 : S1 (y + 1) = oI g 8 (va_cpy lv rs 0 0 8) := hS1
  refine lv_aload hc.1 hc.2.1 dX4_fill_12 (lv_at hl 4 rfl) ?_
  have e2 : S1 bl = oO 3 [.ref (bl + 1), .ref (bl + 2), .int (iI dL), .int (iI dF), .int (iI dG), .int (iI dR), .int (iI dZ), .int (iI dW), .int (iI dU)] := (fS1 bl (by omega)).trans hb
  refine nn_Vp (As := []) (st := []) hc hw e2 rfl (c_X3_head l g  e2 ) (cwV 0 hc.2.2.2.2 gX4_fill_X3_head rfl rfl rfl (by decide +kernel) ⟨Nat.le_of_ble_eq_true rfl, Nat.le_of_ble_eq_true rfl⟩) rfl hl.1 rfl (Nat.le_of_ble_eq_true rfl) ⟨Nat.le_of_ble_eq_true rfl, Nat.le_of_ble_eq_true rfl⟩ dX4_fill_14 ?_
  refine W.eq (g2 := F0 m 17 ls [.int (iI (dF + dG))]) rfl ?_
  refine nn_name (fun xf exf => ?_)
  refine lv_istore (lv' := [(5, .int (iI xf)), (0, .ref y), (1, .ref a), (2, .int (iI fl)), (3, .ref lf), (4, .ref bl)]) hc.1 hc.2.1 dX4_fill_17 hl (by decide) rfl (fun ls hl => ?_)
  have hxf : xf = dF + dG := exf
  refine lv_aload_n hc.1 hc.2.1 dX4_fill_19 rfl (lv_at hl 2 rfl) ?_
  refine lv_iload_n hc.1 hc.2.1 dX4_fill_20 rfl (lv_at hl 3 rfl) ?_
  refine lv_iload hc.1 hc.2.1 dX4_fill_21 (lv_at hl 0 rfl) ?_
  refine lv_aload_n hc.1 hc.2.1 dX4_fill_23 rfl (lv_at hl 1 rfl) ?_
  have e3 : S1 y = oO 4 [.ref pl, .ref (y + 1)] := (fS1 y (off_nl (x := y) (a := 1) (by decide))).trans hy
  refine nn_get hc hw e3 hiX4 rfl 0 (by decide) rfl lk15 dX4_fill_24 ?_
  refine lv_iload_n hc.1 hc.2.1 dX4_fill_27 rfl (lv_at hl 3 rfl) ?_
  have e4 : S1 pl = oO 5 [.ref (pl + 1), .ref (pl + 2), .ref (pl + 3), .int (iI nH), .int (iI pHi), .int (iI pWi), .int (iI pLp), .int (iI pBk), .int (iI pHp)] := (fS1 pl (by omega)).trans hp
  refine nn_Vp (As := [.int (iI fl)]) (st := [.int (iI xf), .int (iI fl), .ref a]) hc hw e4 rfl (c_X5_gaugeOf l g  e4 (by omega)) (cwV 1 hc.2.2.2.2 gX4_fill_X5_gaugeOf rfl rfl rfl (by decide +kernel) ⟨Nat.le_of_ble_eq_true rfl, Nat.le_of_ble_eq_true rfl⟩) rfl hl.1 rfl (Nat.le_of_ble_eq_true rfl) ⟨Nat.le_of_ble_eq_true rfl, Nat.le_of_ble_eq_true rfl⟩ dX4_fill_28 ?_
  refine W.eq (g2 := F0 m 31 ls [.int (iI ((fl - pLp) / 2)), .int (iI xf), .int (iI fl), .ref a]) rfl ?_
  refine lv_aload_n hc.1 hc.2.1 dX4_fill_31 rfl (lv_at hl 1 rfl) ?_
  refine nn_get hc hw e3 hiX4 rfl 0 (by decide) rfl lk15 dX4_fill_32 ?_
  refine lv_iload hc.1 hc.2.1 dX4_fill_35 (lv_at hl 0 rfl) ?_
  refine nn_Vp (As := [.int (iI xf)]) (st := [.int (iI ((fl - pLp) / 2)), .int (iI xf), .int (iI fl), .ref a]) hc hw e4 rfl (c_X5_roomAt l g  e4 (by rw [exf]; omega) (by omega)) (cwV 1 hc.2.2.2.2 gX4_fill_X5_roomAt rfl rfl rfl (by decide +kernel) ⟨Nat.le_of_ble_eq_true rfl, Nat.le_of_ble_eq_true rfl⟩) rfl hl.1 rfl (Nat.le_of_ble_eq_true rfl) ⟨Nat.le_of_ble_eq_true rfl, Nat.le_of_ble_eq_true rfl⟩ dX4_fill_37 ?_
  refine W.eq (g2 := F0 m 40 ls [.int (iI (rmF pWi pHp xf)), .int (iI ((fl - pLp) / 2)), .int (iI xf), .int (iI fl), .ref a]) rfl ?_
  have e5 : S1 a = oO 3 [.ref (a + 1), .ref (a + 2), .int (iI cL), .int (iI cF), .int (iI cG), .int (iI cR), .int (iI cZ), .int (iI cW), .int (iI cU)] := (fS1 a (by omega)).trans ha
  refine nn_Vs (As := [.int (iI fl), .int (iI xf), .int (iI ((fl - pLp) / 2)), .int (iI (rmF pWi pHp xf))]) (st := []) hc hw e5 rfl (c_X3_begin l g  e5 ) (cwV 4 hc.2.2.2.2 gX4_fill_X3_begin rfl rfl rfl (by decide +kernel) ⟨Nat.le_of_ble_eq_true rfl, Nat.le_of_ble_eq_true rfl⟩) rfl hl.1 rfl (Nat.le_of_ble_eq_true rfl) ⟨Nat.le_of_ble_eq_true rfl, Nat.le_of_ble_eq_true rfl⟩ dX4_fill_40 (fun vr n1 S6 H locs qS6 hw => ?_)
  obtain ⟨rfl, rfl, hS6_0, fS6⟩ := qS6
  refine W.eq (g2 := F0 m 43 ls []) rfl ?_
  refine nn_iconst hc dX4_fill_43 ?_
  refine lv_istore (lv' := [(6, .int (iI 0)), (5, .int (iI xf)), (0, .ref y), (1, .ref a), (2, .int (iI fl)), (3, .ref lf), (4, .ref bl)]) hc.1 hc.2.1 dX4_fill_44 hl (by decide) rfl (fun ls hl => ?_)
  have lab46 : ∀ (fu46 : Nat) (k : Int) (ks : Nat → Int) (kh : Nat → Int) (ke : Nat → Int) (kW : Int) (kU : Int) (acc : sL) (S7 : Nat → gE) (H : Heap) (locs : List Loc) (ls : Array Slot), ((k = acc.length ∧ 0 ≤ k ∧ k ≤ 60) ∧ (0 ≤ tot acc ∧ tot acc < rmF pWi pHp (dF + dG))) → (layG nH.toNat ln br fl (rmF pWi pHp (dF + dG)) ed pBk (dZ - 1).toNat (60 - acc.length) ks (tot acc) = none) → (∀ i : Nat, i < acc.length → ke i = slE acc i) → (∀ i : Nat, (i : Int) < nH → 0 ≤ ks i ∧ ks i ≤ 1000000) → S7 (y + 1) = oI g 8 ks → S7 a = oO 3 [.ref (a + 1), .ref (a + 2), .int (iI fl), .int (iI xf), .int (iI ((fl - pLp) / 2)), .int (iI (rmF pWi pHp xf)), .int (iI k), .int (iI kW), .int (iI kU)] → S7 (a + 1) = oI g 60 kh → S7 (a + 2) = oI g 60 ke → (∀ bb, bb ≠ (y + 1) → bb ≠ a → bb ≠ (a + 1) → bb ≠ (a + 2) → S7 bb = S6 bb) → g_W g n S7 s H locs → (60 - k).toNat < fu46 → lv_has ls 9 [(6, .int (iI k)), (0, .ref y), (1, .ref a), (2, .int (iI fl)), (3, .ref lf), (4, .ref bl), (5, .int (iI xf))] → W pp l ee ({ frames := 4, cells := 0, slots := 0, locals := 86 } : Room) s m ([.ref y, .ref a, .int (iI fl), .ref lf, .ref bl] : List Value).toArray below meth cK H locs 0 0 Q (F0 m 46 ls []) := by
    intro fu46
    induction fu46 with
    | zero =>
      intro k ks kh ke kW kU acc S7 H locs ls hk hly hee hks hc46_0 hc46_1 hc46_2 hc46_3 fr46 hw hmeas hl
      exact absurd hmeas (Nat.not_lt_zero _)
    | succ fu46 ih46 =>
      intro k ks kh ke kW kU acc S7 H locs ls hk hly hee hks hc46_0 hc46_1 hc46_2 hc46_3 fr46 hw hmeas hl
      refine lv_iload hc.1 hc.2.1 dX4_fill_46 (lv_at hl 0 rfl) ?_
      refine nn_bipush hc dX4_fill_48 (by decide +kernel) ?_
      refine nn_icmp_ge hc dX4_fill_50 (tgt := 122) (by decide) (by omega) (by decide) (fun c8 => ?_) (fun c8 => ?_)
      · have hxR : rmF pWi pHp xf = rmF pWi pHp (dF + dG) := by rw [hxf]
        refine nn_iconst hc dX4_fill_122 ?_
        exact hret (some (.int (iI 0))) _ S7 _ _ _ _ hw (⟨_, _, _, _, _, _, rfl, rfl, hc46_0, (by rw [← hxR, ← hxf]; exact hc46_1), hc46_2, hc46_3, fun bb hb0 hb1 hb2 hb3 => (((fr46 bb hb0 hb1 hb2 hb3)).trans (fS6 bb hb1)).trans (fS1 bb hb0)⟩) ⟨_, rfl, by first | rfl | exact nn_nb _, dX4_fill_123⟩
      · have hxp0 := start_tot hk.1.1 (by omega) hee
        obtain ⟨hz1, hz2⟩ := layG_no (f := 59 - acc.length) (by rw [show 59 - acc.length + 1 = 60 - acc.length by omega]; exact hly)
        refine lv_aload_n hc.1 hc.2.1 dX4_fill_53 rfl (lv_at hl 2 rfl) ?_
        refine lv_aload_n hc.1 hc.2.1 dX4_fill_54 rfl (lv_at hl 2 rfl) ?_
        refine nn_get hc hw hc46_1 hiX3 rfl 6 (by decide) rfl lk44 dX4_fill_55 ?_
        refine nn_Vp (As := [.int (iI k)]) (st := []) hc hw hc46_1 rfl (c_X3_startOf l g  hc46_1 hc46_3 (by omega)) (cwV 1 hc.2.2.2.2 gX4_fill_X3_startOf rfl rfl rfl (by decide +kernel) ⟨Nat.le_of_ble_eq_true rfl, Nat.le_of_ble_eq_true rfl⟩) rfl hl.1 rfl (Nat.le_of_ble_eq_true rfl) ⟨Nat.le_of_ble_eq_true rfl, Nat.le_of_ble_eq_true rfl⟩ dX4_fill_58 ?_
        refine W.eq (g2 := F0 m 61 ls [.int (iI (if 0 < k ∧ k ≤ 60 then ke (k - 1).toNat else 0))]) rfl ?_
        refine nn_name (fun xp exp => ?_)
        refine lv_istore (lv' := [(7, .int (iI xp)), (6, .int (iI k)), (0, .ref y), (1, .ref a), (2, .int (iI fl)), (3, .ref lf), (4, .ref bl), (5, .int (iI xf))]) hc.1 hc.2.1 dX4_fill_61 hl (by decide) rfl (fun ls hl => ?_)
        have hxp : xp = tot acc := exp.trans hxp0
        have hRge := rmF_ge pWi pHp (dF + dG)
        have hRle : rmF pWi pHp xf ≤ 1000 := by unfold rmF; rw [hxf]; split <;> omega
        have hxR : rmF pWi pHp xf = rmF pWi pHp (dF + dG) := by rw [hxf]
        refine lv_aload_n hc.1 hc.2.1 dX4_fill_63 rfl (lv_at hl 2 rfl) ?_
        refine lv_iload hc.1 hc.2.1 dX4_fill_64 (lv_at hl 0 rfl) ?_
        refine lv_aload_n hc.1 hc.2.1 dX4_fill_66 rfl (lv_at hl 3 rfl) ?_
        have e9 : S1 y = oO 4 [.ref pl, .ref (y + 1)] := (fS1 y (off_nl (x := y) (a := 1) (by decide))).trans hy
        have e10 : S6 y = oO 4 [.ref pl, .ref (y + 1)] := (fS6 y (by omega)).trans e9
        have e11 : S7 y = oO 4 [.ref pl, .ref (y + 1)] := (fr46 y (off_nl (x := y) (a := 1) (by decide)) (by omega) (by omega) (by omega)).trans e10
        have e12 : S1 pl = oO 5 [.ref (pl + 1), .ref (pl + 2), .ref (pl + 3), .int (iI nH), .int (iI pHi), .int (iI pWi), .int (iI pLp), .int (iI pBk), .int (iI pHp)] := (fS1 pl (by omega)).trans hp
        have e13 : S6 pl = oO 5 [.ref (pl + 1), .ref (pl + 2), .ref (pl + 3), .int (iI nH), .int (iI pHi), .int (iI pWi), .int (iI pLp), .int (iI pBk), .int (iI pHp)] := (fS6 pl (by omega)).trans e12
        have e14 : S7 pl = oO 5 [.ref (pl + 1), .ref (pl + 2), .ref (pl + 3), .int (iI nH), .int (iI pHi), .int (iI pWi), .int (iI pLp), .int (iI pBk), .int (iI pHp)] := (fr46 pl (by omega) (by omega) (by omega) (by omega)).trans e13
        have e15 : S1 (pl + 1) = oI g 8 ln := (fS1 (pl + 1) (by omega)).trans hln
        have e16 : S6 (pl + 1) = oI g 8 ln := (fS6 (pl + 1) (by omega)).trans e15
        have e17 : S7 (pl + 1) = oI g 8 ln := (fr46 (pl + 1) (by omega) (by omega) (by omega) (by omega)).trans e16
        have e18 : S1 (pl + 2) = oI g 8 br := (fS1 (pl + 2) (by omega)).trans hbr
        have e19 : S6 (pl + 2) = oI g 8 br := (fS6 (pl + 2) (by omega)).trans e18
        have e20 : S7 (pl + 2) = oI g 8 br := (fr46 (pl + 2) (by omega) (by omega) (by omega) (by omega)).trans e19
        refine nn_Vp (As := [.int (iI xp), .ref a]) (st := []) hc hw e11 rfl (c_X4_endingAt l g  e11 e14 e17 e20 hc46_0 hc46_1 (by omega) (rP) (hks) (by omega) (by omega) (by omega)) (cwV 2 hc.2.2.2.2 gX4_fill_X4_endingAt rfl rfl rfl (by decide +kernel) ⟨Nat.le_of_ble_eq_true rfl, Nat.le_of_ble_eq_true rfl⟩) rfl hl.1 rfl (Nat.le_of_ble_eq_true rfl) ⟨Nat.le_of_ble_eq_true rfl, Nat.le_of_ble_eq_true rfl⟩ dX4_fill_67 ?_
        refine W.eq (g2 := F0 m 70 ls [.int (iI (lstI (pE ln br ks fl (rmF pWi pHp xf) xp) nH.toNat))]) rfl ?_
        refine nn_name (fun xe exe => ?_)
        refine lv_istore (lv' := [(8, .int (iI xe)), (7, .int (iI xp)), (6, .int (iI k)), (0, .ref y), (1, .ref a), (2, .int (iI fl)), (3, .ref lf), (4, .ref bl), (5, .int (iI xf))]) hc.1 hc.2.1 dX4_fill_70 hl (by decide) rfl (fun ls hl => ?_)
        have hre := lstI_r (pE ln br ks fl (rmF pWi pHp xf) xp) nH.toNat
        have hlE : lstI (pE ln br ks fl (rmF pWi pHp (dF + dG)) (tot acc)) nH.toNat = xe := by rw [← hxp, ← hxR, exe]
        refine lv_iload hc.1 hc.2.1 dX4_fill_72 (lv_at hl 0 rfl) ?_
        refine nn_if_lt hc dX4_fill_74 (tgt := 102) (by decide) (by omega) (fun c21 => ?_) (fun c21 => ?_)
        · have hb1 : ∀ i : Nat, i < nH.toNat → 1 ≤ br i := fun i hi => by have := rP i (by omega); omega
          refine lv_aload_n hc.1 hc.2.1 dX4_fill_102 rfl (lv_at hl 3 rfl) ?_
          refine lv_aload_n hc.1 hc.2.1 dX4_fill_103 rfl (lv_at hl 4 rfl) ?_
          refine lv_iload hc.1 hc.2.1 dX4_fill_104 (lv_at hl 1 rfl) ?_
          refine lv_aload hc.1 hc.2.1 dX4_fill_106 (lv_at hl 7 rfl) ?_
          rcases hz2 with hp1 | ⟨x, hp1, hl3⟩
          · have e22 : S1 bl = oO 3 [.ref (bl + 1), .ref (bl + 2), .int (iI dL), .int (iI dF), .int (iI dG), .int (iI dR), .int (iI dZ), .int (iI dW), .int (iI dU)] := (fS1 bl (by omega)).trans hb
            have e23 : S6 bl = oO 3 [.ref (bl + 1), .ref (bl + 2), .int (iI dL), .int (iI dF), .int (iI dG), .int (iI dR), .int (iI dZ), .int (iI dW), .int (iI dU)] := (fS6 bl (by omega)).trans e22
            have e24 : S7 bl = oO 3 [.ref (bl + 1), .ref (bl + 2), .int (iI dL), .int (iI dF), .int (iI dG), .int (iI dR), .int (iI dZ), .int (iI dW), .int (iI dU)] := (fr46 bl (by omega) (by omega) (by omega) (by omega)).trans e23
            have e25 : S1 (bl + 2) = oI g 60 ed := (fS1 (bl + 2) (by omega)).trans hed
            have e26 : S6 (bl + 2) = oI g 60 ed := (fS6 (bl + 2) (by omega)).trans e25
            have e27 : S7 (bl + 2) = oI g 60 ed := (fr46 (bl + 2) (by omega) (by omega) (by omega) (by omega)).trans e26
            refine nn_Vp (As := [.ref a, .int (iI xp), .ref bl]) (st := []) hc hw e11 rfl (c_X4_putWithJoint_no l g  e11 e14 e17 e20 hc46_0 hc46_1 e24 e27 (by omega) (rP) (hks) (by omega) (by omega) (red) (by omega) (by omega) (by rw [hxp]; exact hp1)) (cwV 3 hc.2.2.2.2 gX4_fill_X4_putWithJoint rfl rfl rfl (by decide +kernel) ⟨Nat.le_of_ble_eq_true rfl, Nat.le_of_ble_eq_true rfl⟩) rfl hl.1 rfl (Nat.le_of_ble_eq_true rfl) ⟨Nat.le_of_ble_eq_true rfl, Nat.le_of_ble_eq_true rfl⟩ dX4_fill_108 ?_
            refine W.eq (g2 := F0 m 111 ls [.int (iI 0)]) rfl ?_
            refine nn_if_ne hc dX4_fill_111 (tgt := 116) (by decide) (by decide) (fun c28 => ?_) (fun c28 => ?_)
            · exact absurd c28 (by decide)
            · refine nn_iconst hc dX4_fill_114 ?_
              exact hret (some (.int (iI 0))) _ S7 _ _ _ _ hw (⟨_, _, _, _, _, _, rfl, rfl, hc46_0, (by rw [← hxR, ← hxf]; exact hc46_1), hc46_2, hc46_3, fun bb hb0 hb1 hb2 hb3 => (((fr46 bb hb0 hb1 hb2 hb3)).trans (fS6 bb hb1)).trans (fS1 bb hb0)⟩) ⟨_, rfl, by first | rfl | exact nn_nb _, dX4_fill_115⟩
          · have hx := pj_fits (R := rmF pWi pHp (dF + dG)) hb1 (by omega) hp1
            have e29 : S1 bl = oO 3 [.ref (bl + 1), .ref (bl + 2), .int (iI dL), .int (iI dF), .int (iI dG), .int (iI dR), .int (iI dZ), .int (iI dW), .int (iI dU)] := (fS1 bl (by omega)).trans hb
            have e30 : S6 bl = oO 3 [.ref (bl + 1), .ref (bl + 2), .int (iI dL), .int (iI dF), .int (iI dG), .int (iI dR), .int (iI dZ), .int (iI dW), .int (iI dU)] := (fS6 bl (by omega)).trans e29
            have e31 : S7 bl = oO 3 [.ref (bl + 1), .ref (bl + 2), .int (iI dL), .int (iI dF), .int (iI dG), .int (iI dR), .int (iI dZ), .int (iI dW), .int (iI dU)] := (fr46 bl (by omega) (by omega) (by omega) (by omega)).trans e30
            have e32 : S1 (bl + 2) = oI g 60 ed := (fS1 (bl + 2) (by omega)).trans hed
            have e33 : S6 (bl + 2) = oI g 60 ed := (fS6 (bl + 2) (by omega)).trans e32
            have e34 : S7 (bl + 2) = oI g 60 ed := (fr46 (bl + 2) (by omega) (by omega) (by omega) (by omega)).trans e33
            refine nn_Vs (As := [.ref a, .int (iI xp), .ref bl]) (st := []) hc hw e11 rfl (c_X4_putWithJoint_yes l g  e11 e14 e17 e20 hc46_0 hc46_1 hc46_2 hc46_3 e31 e34 (by omega) (rP) (hks) (by omega) (by omega) (red) (by omega) (by omega) (by omega) (by omega) (by rw [hxp]; exact hp1)) (cwV 3 hc.2.2.2.2 gX4_fill_X4_putWithJoint rfl rfl rfl (by decide +kernel) ⟨Nat.le_of_ble_eq_true rfl, Nat.le_of_ble_eq_true rfl⟩) rfl hl.1 rfl (Nat.le_of_ble_eq_true rfl) ⟨Nat.le_of_ble_eq_true rfl, Nat.le_of_ble_eq_true rfl⟩ dX4_fill_108 (fun vr n1 S35 H locs qS35 hw => ?_)
            obtain ⟨rfl, rfl, hS35_0, hS35_1, hS35_2, hS35_3, fS35⟩ := qS35
            refine W.eq (g2 := F0 m 111 ls [.int (iI 1)]) rfl ?_
            refine nn_if_ne hc dX4_fill_111 (tgt := 116) (by decide) (by decide) (fun c36 => ?_) (fun c36 => ?_)
            · refine nn_iinc (lv' := [(6, .int (iI (k + 1))), (8, .int (iI xe)), (7, .int (iI xp)), (0, .ref y), (1, .ref a), (2, .int (iI fl)), (3, .ref lf), (4, .ref bl), (5, .int (iI xf))]) hc dX4_fill_116 hl (k0 := 2) rfl (by decide) rfl (fun ls hl => ?_)
              refine lv_goto hc.1 hc.2.1 dX4_fill_119 (tgt := 46) (by decide) ?_
              exact ih46 (k + 1) (va_up ks x.1 (ks x.1 - 1)) (va_up kh k.toNat (x.1 : Int)) (va_up ke k.toNat ((if 0 < k ∧ k ≤ 60 then ke (k - 1).toNat else 0) + x.2)) (kW + (if x.2 < br x.1 then (br x.1 - x.2) * fl else 0)) (kU + (if x.2 < br x.1 then 1 else 0)) (acc ++ [x]) S35 _ _ _ (by rw [tot_snoc acc x.1 x.2, List.length_append]; simp only [List.length_cons, List.length_nil]; omega) (by rw [tot_snoc acc x.1 x.2, List.length_append, show 60 - (acc.length + [x].length) = 59 - acc.length by simp only [List.length_cons, List.length_nil]; omega]; exact hl3) (up_slE (by omega) (by rw [start_tot hk.1.1 (by omega) hee]) hee) (fun i hi => by have h1 := hks i hi; unfold va_up; split; rename_i e2; rw [← e2]; rw [← e2] at hx; omega; exact h1) hS35_0 hS35_1 hS35_2 hS35_3 (fun bb hb0 hb1 hb2 hb3 => ((fS35 bb hb0 hb1 hb2 hb3)).trans (fr46 bb hb0 hb1 hb2 hb3)) hw (by omega) (lv_sub hl [0, 3, 4, 5, 6, 7, 8] rfl)
            · exact absurd c36 (by decide)
        · exfalso; omega
  have e37 : S6 (y + 1) = oI g 8 (va_cpy lv rs 0 0 8) := (fS6 (y + 1) (by omega)).trans hS1
  have e38 : S1 (a + 1) = oI g 60 hf := (fS1 (a + 1) (by omega)).trans hhf
  have e39 : S6 (a + 1) = oI g 60 hf := (fS6 (a + 1) (off_nr (x := a) (a := 1) (by decide))).trans e38
  have e40 : S1 (a + 2) = oI g 60 eo := (fS1 (a + 2) (by omega)).trans heo
  have e41 : S6 (a + 2) = oI g 60 eo := (fS6 (a + 2) (off_nr (x := a) (a := 2) (by decide))).trans e40
  exact lab46 _ 0 (va_cpy lv rs 0 0 8) hf eo 0 0 ([]) S6 _ _ _ (⟨⟨rfl, by decide, by decide⟩, Int.le_refl 0, by have := rmF_ge pWi pHp (dF + dG); show (0 : Int) < _; omega⟩) ((layG_congr 60 _ lv 0 (fun i hi => cpy8 (by omega))).trans hlay) (fun i hi => absurd hi (Nat.not_lt_zero i)) (fun i hi => by rw [cpy8 (by omega)]; exact rV i hi) e37 hS6_0 e39 e41 (fun bb _ _ _ _ => rfl) hw (Nat.lt_succ_self _) (lv_sub hl [0, 2, 3, 4, 5, 6, 1] rfl)

