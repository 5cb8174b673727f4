set_option maxHeartbeats 4000000 in
set_option maxRecDepth 100000 in
theorem c_X8_isWithin (l : Launch) (g : gG) (n : Nat) (S : Nat → gE) {x lo hi : Int}  (rx : -2147483648 ≤ x ∧ x < 2147483648) (rl : -2147483648 ≤ lo ∧ lo < 2147483648) (rh : -2147483648 ≤ hi ∧ hi < 2147483648) : g_Cp l yX8_isWithin wsX8_isWithin { frames := 0, cells := 0, slots := 0, locals := 0 } g [.int (iI x), .int (iI lo), .int (iI hi)] n S (some (.int (iI (if lo ≤ x ∧ x ≤ hi then 1 else 0)))) := by
  refine g_Cp.of (cc := cX8_isWithin) (maxL := 3) (ret := (some .boolean)) (by decide) rfl (Nat.le_of_ble_eq_true rfl) ?_
  intro p e s m below meth c Q ls hc hnm hw hl hret
  have hl : lv_has ls 3 [(0, .int (iI x)), (1, .int (iI lo)), (2, .int (iI hi))] := hl
  have hrt : ∀ (pc : Nat) (ls : Array Slot) (xr : Int), decode cX8_isWithin pc = .ok (.ireturn, 1) → xr = (if lo ≤ x ∧ x ≤ hi then 1 else 0) → W p l e ({ frames := 0, cells := 0, slots := 0, locals := 0 } : Room) s m ([.int (iI x), .int (iI lo), .int (iI hi)] : List Value).toArray below meth c s.heap [] 0 0 Q (F0 m pc ls [.int (iI xr)]) := fun pc ls xr d hx => by subst hx; exact hret pc ls ⟨_, rfl, nn_nb _, d⟩
  refine lv_iload_n hc.1 hc.2.1 dX8_isWithin_0 rfl (lv_at hl 0 rfl) ?_
  refine lv_iload_n hc.1 hc.2.1 dX8_isWithin_1 rfl (lv_at hl 1 rfl) ?_
  refine nn_icmp_lt hc dX8_isWithin_2 (tgt := 14) (by decide) (by omega) (by omega) (fun c1 => ?_) (fun c1 => ?_)
  · refine nn_iconst hc dX8_isWithin_14 ?_
    exact hrt _ _ _ dX8_isWithin_15 (by first | rfl | omega | (split <;> omega))
  · refine lv_iload_n hc.1 hc.2.1 dX8_isWithin_5 rfl (lv_at hl 0 rfl) ?_
    refine lv_iload_n hc.1 hc.2.1 dX8_isWithin_6 rfl (lv_at hl 2 rfl) ?_
    refine nn_icmp_gt hc dX8_isWithin_7 (tgt := 14) (by decide) (by omega) (by omega) (fun c2 => ?_) (fun c2 => ?_)
    · refine nn_iconst hc dX8_isWithin_14 ?_
      exact hrt _ _ _ dX8_isWithin_15 (by first | rfl | omega | (split <;> omega))
    · refine nn_iconst hc dX8_isWithin_10 ?_
      refine lv_goto hc.1 hc.2.1 dX8_isWithin_11 (tgt := 15) (by decide) ?_
      exact hrt _ _ _ dX8_isWithin_15 (by first | rfl | omega | (split <;> omega))

set_option maxHeartbeats 4000000 in
set_option maxRecDepth 100000 in
theorem c_X3_head (l : Launch) (g : gG) (n : Nat) (S : Nat → gE) {a : Nat} {cL cF cG cR cZ cW cU : Int} (ha : S a = oO 3 [.ref (a + 1), .ref (a + 2), .int (iI cL), .int (iI cF), .int (iI cG), .int (iI cR), .int (iI cZ), .int (iI cW), .int (iI cU)])  : g_Cp l yX3_head wsX3_head { frames := 0, cells := 0, slots := 0, locals := 0 } g [.ref a] n S (some (.int (iI (cF + cG)))) := by
  refine g_Cp.of (cc := cX3_head) (maxL := 1) (ret := (some .int)) (by decide) rfl (Nat.le_of_ble_eq_true rfl) ?_
  intro p e s m below meth c Q ls hc hnm hw hl hret
  have hl : lv_has ls 1 [(0, .ref a)] := hl
  have hiX3 : ∀ w ∈ u_ws RX3 TX3 9, w ∈ wsX3_head := by decide +kernel
  have lk22 : Cond.fieldLink RX3 22 "RoofCourses$Course" "foot" "I" ∈ wsX3_head := by decide +kernel
  have lk25 : Cond.fieldLink RX3 25 "RoofCourses$Course" "gauge" "I" ∈ wsX3_head := by decide +kernel
  have hrt : ∀ (pc : Nat) (ls : Array Slot) (xr : Int), decode cX3_head pc = .ok (.ireturn, 1) → xr = (cF + cG) → W p l e ({ frames := 0, cells := 0, slots := 0, locals := 0 } : Room) s m ([.ref a] : List Value).toArray below meth c s.heap [] 0 0 Q (F0 m pc ls [.int (iI xr)]) := fun pc ls xr d hx => by subst hx; exact hret pc ls ⟨_, rfl, rfl, d⟩
  refine lv_aload_n hc.1 hc.2.1 dX3_head_0 rfl (lv_at hl 0 rfl) ?_
  refine nn_get hc hw ha hiX3 rfl 3 (by decide) rfl lk22 dX3_head_1 ?_
  refine lv_aload_n hc.1 hc.2.1 dX3_head_4 rfl (lv_at hl 0 rfl) ?_
  refine nn_get hc hw ha hiX3 rfl 4 (by decide) rfl lk25 dX3_head_5 ?_
  refine nn_iadd hc dX3_head_8 ?_
  exact hrt _ _ _ dX3_head_9 (by first | rfl | omega | (split <;> omega))

set_option maxHeartbeats 4000000 in
set_option maxRecDepth 100000 in
theorem c_X3_startOf (l : Launch) (g : gG) (n : Nat) (S : Nat → gE) {a : Nat} {cL cF cG cR cZ cW cU : Int} {k : Int} {ed : Nat → Int} (ha : S a = oO 3 [.ref (a + 1), .ref (a + 2), .int (iI cL), .int (iI cF), .int (iI cG), .int (iI cR), .int (iI cZ), .int (iI cW), .int (iI cU)]) (he : S (a + 2) = oI g 60 ed) (rk : -2147483648 ≤ k ∧ k < 2147483648) : g_Cp l yX3_startOf wsX3_startOf { frames := 0, cells := 0, slots := 0, locals := 0 } g [.ref a, .int (iI k)] n S (some (.int (iI (if 0 < k ∧ k ≤ 60 then ed (k - 1).toNat else 0)))) := by
  refine g_Cp.of (cc := cX3_startOf) (maxL := 2) (ret := (some .int)) (by decide) rfl (Nat.le_of_ble_eq_true rfl) ?_
  intro p e s m below meth c Q ls hc hnm hw hl hret
  have hl : lv_has ls 2 [(0, .ref a), (1, .int (iI k))] := hl
  have hiX3 : ∀ w ∈ u_ws RX3 TX3 9, w ∈ wsX3_startOf := by decide +kernel
  have lk15 : Cond.fieldLink RX3 15 "RoofCourses$Course" "edge" "[I" ∈ wsX3_startOf := by decide +kernel
  have hrt : ∀ (pc : Nat) (ls : Array Slot) (xr : Int), decode cX3_startOf pc = .ok (.ireturn, 1) → xr = (if 0 < k ∧ k ≤ 60 then ed (k - 1).toNat else 0) → W p l e ({ frames := 0, cells := 0, slots := 0, locals := 0 } : Room) s m ([.ref a, .int (iI k)] : List Value).toArray below meth c s.heap [] 0 0 Q (F0 m pc ls [.int (iI xr)]) := fun pc ls xr d hx => by subst hx; exact hret pc ls ⟨_, rfl, rfl, d⟩
  refine lv_iload_n hc.1 hc.2.1 dX3_startOf_0 rfl (lv_at hl 1 rfl) ?_
  refine nn_if_le hc dX3_startOf_1 (tgt := 21) (by decide) (by omega) (fun c1 => ?_) (fun c1 => ?_)
  · refine nn_iconst hc dX3_startOf_21 ?_
    exact hrt _ _ _ dX3_startOf_22 (by first | (rw [if_pos (by omega)]) | (rw [if_neg (by omega)]))
  · refine lv_iload_n hc.1 hc.2.1 dX3_startOf_4 rfl (lv_at hl 1 rfl) ?_
    refine nn_bipush hc dX3_startOf_5 (by decide +kernel) ?_
    refine nn_icmp_gt hc dX3_startOf_7 (tgt := 21) (by decide) (by omega) (by decide) (fun c2 => ?_) (fun c2 => ?_)
    · refine nn_iconst hc dX3_startOf_21 ?_
      exact hrt _ _ _ dX3_startOf_22 (by first | (rw [if_pos (by omega)]) | (rw [if_neg (by omega)]))
    · refine lv_aload_n hc.1 hc.2.1 dX3_startOf_10 rfl (lv_at hl 0 rfl) ?_
      refine nn_get hc hw ha hiX3 rfl 1 (by decide) rfl lk15 dX3_startOf_11 ?_
      refine lv_iload_n hc.1 hc.2.1 dX3_startOf_14 rfl (lv_at hl 1 rfl) ?_
      refine nn_iconst hc dX3_startOf_15 ?_
      refine nn_isub hc dX3_startOf_16 ?_
      refine nn_iald hc hw he (by omega) (by omega) dX3_startOf_17 ?_
      refine lv_goto hc.1 hc.2.1 dX3_startOf_18 (tgt := 22) (by decide) ?_
      exact hrt _ _ _ dX3_startOf_22 (by first | (rw [if_pos (by omega)]) | (rw [if_neg (by omega)]))

set_option maxHeartbeats 4000000 in
set_option maxRecDepth 100000 in
theorem c_X3_joints (l : Launch) (g : gG) (n : Nat) (S : Nat → gE) {a : Nat} {cL cF cG cR cZ cW cU : Int} (ha : S a = oO 3 [.ref (a + 1), .ref (a + 2), .int (iI cL), .int (iI cF), .int (iI cG), .int (iI cR), .int (iI cZ), .int (iI cW), .int (iI cU)]) (rZ : 0 ≤ cZ ∧ cZ ≤ 60) : g_Cp l yX3_joints wsX3_joints { frames := 1, cells := 0, slots := 0, locals := 13 } g [.ref a] n S (some (.int (iI (if 0 < cZ - 1 then cZ - 1 else 0)))) := by
  refine g_Cp.of (cc := cX3_joints) (maxL := 1) (ret := (some .int)) (by decide) rfl (Nat.le_of_ble_eq_true rfl) ?_
  intro p e s m below meth c Q ls hc hnm hw hl hret
  have hl : lv_has ls 1 [(0, .ref a)] := hl
  have hiX3 : ∀ w ∈ u_ws RX3 TX3 9, w ∈ wsX3_joints := by decide +kernel
  have lk31 : Cond.fieldLink RX3 31 "RoofCourses$Course" "size" "I" ∈ wsX3_joints := by decide +kernel
  have lkM44 : Cond.methodLink RX3 44 Lib.Math.max.name ∈ wsX3_joints := by decide +kernel
  have lkMsmax : Cond.static Lib.Math.max.name ∈ wsX3_joints := by decide +kernel
  have lkMi : Cond.initialized "java/lang/Math" ∈ wsX3_joints := by decide +kernel
  have lkMcmax : Cond.code Lib.Math.max.name Lib.Math.max.code 2 (some .int) ∈ wsX3_joints := by decide +kernel
  have hrt : ∀ (pc : Nat) (ls : Array Slot) (xr : Int), decode cX3_joints pc = .ok (.ireturn, 1) → xr = (if 0 < cZ - 1 then cZ - 1 else 0) → W p l e ({ frames := 1, cells := 0, slots := 0, locals := 13 } : Room) s m ([.ref a] : List Value).toArray below meth c s.heap [] 0 0 Q (F0 m pc ls [.int (iI xr)]) := fun pc ls xr d hx => by subst hx; exact hret pc ls ⟨_, rfl, rfl, d⟩
  refine nn_iconst hc dX3_joints_0 ?_
  refine lv_aload_n hc.1 hc.2.1 dX3_joints_1 rfl (lv_at hl 0 rfl) ?_
  refine nn_get hc hw ha hiX3 rfl 6 (by decide) rfl lk31 dX3_joints_2 ?_
  refine nn_iconst hc dX3_joints_5 ?_
  refine nn_isub hc dX3_joints_6 ?_
  refine nn_max hc hl.1 (by decide) (by omega) lkM44 lkMsmax lkMi lkMcmax (Nat.le_of_ble_eq_true rfl) (Nat.le_of_ble_eq_true rfl) ⟨Nat.zero_le _, Nat.zero_le _⟩ dX3_joints_7 ?_
  exact hrt _ _ _ dX3_joints_10 (by first | rfl | omega | (split <;> omega))

set_option maxHeartbeats 4000000 in
set_option maxRecDepth 100000 in
theorem c_X3_isBrokenAt (l : Launch) (g : gG) (n : Nat) (S : Nat → gE) {a : Nat} {cL cF cG cR cZ cW cU : Int} {pl br : Int} {ed : Nat → Int} (ha : S a = oO 3 [.ref (a + 1), .ref (a + 2), .int (iI cL), .int (iI cF), .int (iI cG), .int (iI cR), .int (iI cZ), .int (iI cW), .int (iI cU)]) (he : S (a + 2) = oI g 60 ed) (rZ : 0 ≤ cZ ∧ cZ ≤ 60) (rp : -1000000 ≤ pl ∧ pl ≤ 1000000) (rb : 0 ≤ br ∧ br ≤ 1000000) (red : ∀ k : Nat, k < 60 → -1000000 ≤ ed k ∧ ed k ≤ 1000000) : g_Cp l yX3_isBrokenAt wsX3_isBrokenAt { frames := 2, cells := 0, slots := 0, locals := 33 } g [.ref a, .int (iI pl), .int (iI br)] n S (some (.int (iI (if brk ed br pl (cZ - 1).toNat = true then 1 else 0)))) := by
  refine g_Cp.of (cc := cX3_isBrokenAt) (maxL := 4) (ret := (some .boolean)) (by decide) rfl (Nat.le_of_ble_eq_true rfl) ?_
  intro p e s m below meth c Q ls hc hnm hw hl hret
  have hl : lv_has ls 4 [(0, .ref a), (1, .int (iI pl)), (2, .int (iI br))] := hl
  have hiX3 : ∀ w ∈ u_ws RX3 TX3 9, w ∈ wsX3_isBrokenAt := by decide +kernel
  have lk15 : Cond.fieldLink RX3 15 "RoofCourses$Course" "edge" "[I" ∈ wsX3_isBrokenAt := by decide +kernel
  have lkM54 : Cond.methodLink RX3 54 Lib.Math.abs.name ∈ wsX3_isBrokenAt := by decide +kernel
  have lkMsabs : Cond.static Lib.Math.abs.name ∈ wsX3_isBrokenAt := by decide +kernel
  have lkMi : Cond.initialized "java/lang/Math" ∈ wsX3_isBrokenAt := by decide +kernel
  have lkMcabs : Cond.code Lib.Math.abs.name Lib.Math.abs.code 1 (some .int) ∈ wsX3_isBrokenAt := by decide +kernel
  have hrt : ∀ (pc : Nat) (ls : Array Slot) (xr : Int), decode cX3_isBrokenAt pc = .ok (.ireturn, 1) → xr = (if brk ed br pl (cZ - 1).toNat = true then 1 else 0) → W p l e ({ frames := 2, cells := 0, slots := 0, locals := 33 } : Room) s m ([.ref a, .int (iI pl), .int (iI br)] : List Value).toArray below meth c s.heap [] 0 0 Q (F0 m pc ls [.int (iI xr)]) := fun pc ls xr d hx => by subst hx; exact hret pc ls ⟨_, rfl, nn_nb _, d⟩
  refine nn_iconst hc dX3_isBrokenAt_0 ?_
  refine lv_istore_n (lv' := [(3, .int (iI 0)), (0, .ref a), (1, .int (iI pl)), (2, .int (iI br))]) hc.1 hc.2.1 dX3_isBrokenAt_1 rfl hl (by decide) rfl (fun ls hl => ?_)
  have lab2 : ∀ (fu2 : Nat) (k : Int) (ls : Array Slot), (0 ≤ k ∧ (k < cZ ∨ k = 0)) → (∀ i : Nat, (i : Int) < k → br ≤ ed i - pl ∨ br ≤ pl - ed i) → (60 - k).toNat < fu2 → lv_has ls 4 [(3, .int (iI k)), (0, .ref a), (1, .int (iI pl)), (2, .int (iI br))] → W p l e ({ frames := 2, cells := 0, slots := 0, locals := 33 } : Room) s m ([.ref a, .int (iI pl), .int (iI br)] : List Value).toArray below meth c s.heap [] 0 0 Q (F0 m 2 ls []) := by
    intro fu2
    induction fu2 with
    | zero =>
      intro k ls hk hall hmeas hl
      exact absurd hmeas (Nat.not_lt_zero _)
    | succ fu2 ih2 =>
      intro k ls hk hall hmeas hl
      refine lv_iload_n hc.1 hc.2.1 dX3_isBrokenAt_2 rfl (lv_at hl 0 rfl) ?_
      refine lv_aload_n hc.1 hc.2.1 dX3_isBrokenAt_3 rfl (lv_at hl 1 rfl) ?_
      refine nn_Vp (As := []) (st := [.int (iI k)]) hc hw ha rfl (c_X3_joints l g _ _  ha (by omega)) (cwV 0 hc.2.2.2.2 gX3_isBrokenAt_X3_joints rfl rfl rfl (by decide +kernel) ⟨Nat.le_of_ble_eq_true rfl, Nat.le_of_ble_eq_true rfl⟩) rfl hl.1 rfl (Nat.le_of_ble_eq_true rfl) ⟨Nat.le_of_ble_eq_true rfl, Nat.le_of_ble_eq_true rfl⟩ dX3_isBrokenAt_4 ?_
      refine W.eq (g2 := F0 m 7 ls [.int (iI (if 0 < cZ - 1 then cZ - 1 else 0)), .int (iI k)]) rfl ?_
      refine nn_icmp_ge hc dX3_isBrokenAt_7 (tgt := 33) (by decide) (by omega) (by omega) (fun c1 => ?_) (fun c1 => ?_)
      · refine nn_iconst hc dX3_isBrokenAt_33 ?_
        exact hrt _ _ _ dX3_isBrokenAt_34 (by rw [if_pos (brk_iff.mpr (fun i hi => hall i (by omega)))])
      · refine lv_aload_n hc.1 hc.2.1 dX3_isBrokenAt_10 rfl (lv_at hl 1 rfl) ?_
        refine nn_get hc hw ha hiX3 rfl 1 (by decide) rfl lk15 dX3_isBrokenAt_11 ?_
        refine lv_iload_n hc.1 hc.2.1 dX3_isBrokenAt_14 rfl (lv_at hl 0 rfl) ?_
        have hrk := red k.toNat (by omega)
        refine nn_iald hc hw he (by omega) (by omega) dX3_isBrokenAt_15 ?_
        refine lv_iload_n hc.1 hc.2.1 dX3_isBrokenAt_16 rfl (lv_at hl 2 rfl) ?_
        refine nn_isub hc dX3_isBrokenAt_17 ?_
        refine nn_abs hc hl.1 (by omega) lkM54 lkMsabs lkMi lkMcabs (Nat.le_of_ble_eq_true rfl) (Nat.le_of_ble_eq_true rfl) ⟨Nat.zero_le _, Nat.zero_le _⟩ dX3_isBrokenAt_18 ?_
        refine lv_iload_n hc.1 hc.2.1 dX3_isBrokenAt_21 rfl (lv_at hl 3 rfl) ?_
        refine nn_icmp_ge hc dX3_isBrokenAt_22 (tgt := 27) (by decide) (by omega) (by omega) (fun c2 => ?_) (fun c2 => ?_)
        · refine nn_iinc (lv' := [(3, .int (iI (k + 1))), (0, .ref a), (1, .int (iI pl)), (2, .int (iI br))]) hc dX3_isBrokenAt_27 hl (k0 := 0) rfl (by decide) rfl (fun ls hl => ?_)
          refine lv_goto hc.1 hc.2.1 dX3_isBrokenAt_30 (tgt := 2) (by decide) ?_
          exact ih2 (k + 1) _ (by omega) (fun i hi => by rcases Nat.lt_or_ge i k.toNat with q | q; exact hall i (by omega); have e1 : i = k.toNat := (by omega); subst e1; omega) (by omega) (lv_sub hl [0, 1, 2, 3] rfl)
        · refine nn_iconst hc dX3_isBrokenAt_25 ?_
          exact hrt _ _ _ dX3_isBrokenAt_26 (by rw [if_neg (fun q => by have := brk_iff.mp q k.toNat (by omega); omega)])
  exact lab2 _ 0 _ (by omega) (fun i hi => absurd hi (by omega)) (Nat.lt_succ_self _) (lv_sub hl [0, 1, 2, 3] rfl)

