set_option maxHeartbeats 4000000 in
set_option maxRecDepth 100000 in
theorem c_X8_isWithin (l : Launch) (g : gG) {n : Nat} {S : Nat → gE} {x lo hi : Int}  (r_x : -2147483648 ≤ x ∧ x < 2147483648) (r_lo : -2147483648 ≤ lo ∧ lo < 2147483648) (r_hi : -2147483648 ≤ hi ∧ hi < 2147483648) : g_Cp l yX8_isWithin wsX8_isWithin { frames := 0, cells := 0, slots := 0, locals := 0 } g [.int (iI x), .int (iI lo), .int (iI hi)] n S (some (.int (iI (if lo ≤ x ∧ x ≤ hi then 1 else 0)))) := by
  refine g_Cp.of (cc := cX8_isWithin) (maxL := 3) (ret := (some .boolean)) (by decide) rfl (Nat.le_of_ble_eq_true rfl) ?_
  intro pp ee s m below meth cK Q ls hc hnm hw hl hret
  have hl : lv_has ls 3 [(0, .int (iI x)), (1, .int (iI lo)), (2, .int (iI hi))] := hl
  have hrt : ∀ (pc : Nat) (ls : Array Slot) (xr : Int), decode cX8_isWithin pc = .ok (.ireturn, 1) → xr = (if lo ≤ x ∧ x ≤ hi then 1 else 0) → W pp l ee ({ frames := 0, cells := 0, slots := 0, locals := 0 } : Room) s m ([.int (iI x), .int (iI lo), .int (iI hi)] : List Value).toArray below meth cK s.heap [] 0 0 Q (F0 m pc ls [.int (iI xr)]) := fun pc ls xr d hx => by subst hx; exact hret pc ls ⟨_, rfl, nn_nb _, d⟩
  refine lv_iload_n hc.1 hc.2.1 dX8_isWithin_0 rfl (lv_at hl 0 rfl) ?_
  refine lv_iload_n hc.1 hc.2.1 dX8_isWithin_1 rfl (lv_at hl 1 rfl) ?_
  refine nn_icmp_lt hc dX8_isWithin_2 (tgt := 14) (by decide) (by omega) (by omega) (fun c1 => ?_) (fun c1 => ?_)
  · refine nn_iconst hc dX8_isWithin_14 ?_
    exact hrt _ _ _ dX8_isWithin_15 (by first | rfl | omega | (split <;> omega))
  · refine lv_iload_n hc.1 hc.2.1 dX8_isWithin_5 rfl (lv_at hl 0 rfl) ?_
    refine lv_iload_n hc.1 hc.2.1 dX8_isWithin_6 rfl (lv_at hl 2 rfl) ?_
    refine nn_icmp_gt hc dX8_isWithin_7 (tgt := 14) (by decide) (by omega) (by omega) (fun c2 => ?_) (fun c2 => ?_)
    · refine nn_iconst hc dX8_isWithin_14 ?_
      exact hrt _ _ _ dX8_isWithin_15 (by first | rfl | omega | (split <;> omega))
    · refine nn_iconst hc dX8_isWithin_10 ?_
      refine lv_goto hc.1 hc.2.1 dX8_isWithin_11 (tgt := 15) (by decide) ?_
      exact hrt _ _ _ dX8_isWithin_15 (by first | rfl | omega | (split <;> omega))

set_option maxHeartbeats 4000000 in
set_option maxRecDepth 100000 in
theorem c_X3_head (l : Launch) (g : gG) {n : Nat} {S : Nat → gE} {a : Nat} {cL cF cG cR cZ cW cU : Int} (ha : S a = oO 3 [.ref (a + 1), .ref (a + 2), .int (iI cL), .int (iI cF), .int (iI cG), .int (iI cR), .int (iI cZ), .int (iI cW), .int (iI cU)])  : g_Cp l yX3_head wsX3_head { frames := 0, cells := 0, slots := 0, locals := 0 } g [.ref a] n S (some (.int (iI (cF + cG)))) := by
  refine g_Cp.of (cc := cX3_head) (maxL := 1) (ret := (some .int)) (by decide) rfl (Nat.le_of_ble_eq_true rfl) ?_
  intro pp ee s m below meth cK Q ls hc hnm hw hl hret
  have hl : lv_has ls 1 [(0, .ref a)] := hl
  have hiX3 : ∀ w ∈ u_ws RX3 TX3 9, w ∈ wsX3_head := by decide +kernel
  have lk22 : Cond.fieldLink RX3 22 "RoofCourses$Course" "foot" "I" ∈ wsX3_head := by decide +kernel
  have lk25 : Cond.fieldLink RX3 25 "RoofCourses$Course" "gauge" "I" ∈ wsX3_head := by decide +kernel
  have hrt : ∀ (pc : Nat) (ls : Array Slot) (xr : Int), decode cX3_head pc = .ok (.ireturn, 1) → xr = (cF + cG) → W pp l ee ({ frames := 0, cells := 0, slots := 0, locals := 0 } : Room) s m ([.ref a] : List Value).toArray below meth cK s.heap [] 0 0 Q (F0 m pc ls [.int (iI xr)]) := fun pc ls xr d hx => by subst hx; exact hret pc ls ⟨_, rfl, rfl, d⟩
  refine lv_aload_n hc.1 hc.2.1 dX3_head_0 rfl (lv_at hl 0 rfl) ?_
  refine nn_get hc hw ha hiX3 rfl 3 (by decide) rfl lk22 dX3_head_1 ?_
  refine lv_aload_n hc.1 hc.2.1 dX3_head_4 rfl (lv_at hl 0 rfl) ?_
  refine nn_get hc hw ha hiX3 rfl 4 (by decide) rfl lk25 dX3_head_5 ?_
  refine nn_iadd hc dX3_head_8 ?_
  exact hrt _ _ _ dX3_head_9 (by first | rfl | omega | (split <;> omega))

set_option maxHeartbeats 4000000 in
set_option maxRecDepth 100000 in
theorem c_X3_startOf (l : Launch) (g : gG) {n : Nat} {S : Nat → gE} {a : Nat} {cL cF cG cR cZ cW cU : Int} {k : Int} {ed : Nat → Int} (ha : S a = oO 3 [.ref (a + 1), .ref (a + 2), .int (iI cL), .int (iI cF), .int (iI cG), .int (iI cR), .int (iI cZ), .int (iI cW), .int (iI cU)]) (he : S (a + 2) = oI g 60 ed) (rk : -2147483648 ≤ k ∧ k < 2147483648) : g_Cp l yX3_startOf wsX3_startOf { frames := 0, cells := 0, slots := 0, locals := 0 } g [.ref a, .int (iI k)] n S (some (.int (iI (if 0 < k ∧ k ≤ 60 then ed (k - 1).toNat else 0)))) := by
  refine g_Cp.of (cc := cX3_startOf) (maxL := 2) (ret := (some .int)) (by decide) rfl (Nat.le_of_ble_eq_true rfl) ?_
  intro pp ee s m below meth cK Q ls hc hnm hw hl hret
  have hl : lv_has ls 2 [(0, .ref a), (1, .int (iI k))] := hl
  have hiX3 : ∀ w ∈ u_ws RX3 TX3 9, w ∈ wsX3_startOf := by decide +kernel
  have lk15 : Cond.fieldLink RX3 15 "RoofCourses$Course" "edge" "[I" ∈ wsX3_startOf := by decide +kernel
  have hrt : ∀ (pc : Nat) (ls : Array Slot) (xr : Int), decode cX3_startOf pc = .ok (.ireturn, 1) → xr = (if 0 < k ∧ k ≤ 60 then ed (k - 1).toNat else 0) → W pp l ee ({ frames := 0, cells := 0, slots := 0, locals := 0 } : Room) s m ([.ref a, .int (iI k)] : List Value).toArray below meth cK s.heap [] 0 0 Q (F0 m pc ls [.int (iI xr)]) := fun pc ls xr d hx => by subst hx; exact hret pc ls ⟨_, rfl, rfl, d⟩
  refine lv_iload_n hc.1 hc.2.1 dX3_startOf_0 rfl (lv_at hl 1 rfl) ?_
  refine nn_if_le hc dX3_startOf_1 (tgt := 21) (by decide) (by omega) (fun c1 => ?_) (fun c1 => ?_)
  · refine nn_iconst hc dX3_startOf_21 ?_
    exact hrt _ _ _ dX3_startOf_22 (by first | (rw [if_pos (by omega)]) | (rw [if_neg (by omega)]))
  · refine lv_iload_n hc.1 hc.2.1 dX3_startOf_4 rfl (lv_at hl 1 rfl) ?_
    refine nn_bipush hc dX3_startOf_5 (by decide +kernel) ?_
    refine nn_icmp_gt hc dX3_startOf_7 (tgt := 21) (by decide) (by omega) (by decide) (fun c2 => ?_) (fun c2 => ?_)
    · refine nn_iconst hc dX3_startOf_21 ?_
      exact hrt _ _ _ dX3_startOf_22 (by first | (rw [if_pos (by omega)]) | (rw [if_neg (by omega)]))
    · refine lv_aload_n hc.1 hc.2.1 dX3_startOf_10 rfl (lv_at hl 0 rfl) ?_
      refine nn_get hc hw ha hiX3 rfl 1 (by decide) rfl lk15 dX3_startOf_11 ?_
      refine lv_iload_n hc.1 hc.2.1 dX3_startOf_14 rfl (lv_at hl 1 rfl) ?_
      refine nn_iconst hc dX3_startOf_15 ?_
      refine nn_isub hc dX3_startOf_16 ?_
      refine nn_iald hc hw he (by omega) (by omega) dX3_startOf_17 ?_
      refine lv_goto hc.1 hc.2.1 dX3_startOf_18 (tgt := 22) (by decide) ?_
      exact hrt _ _ _ dX3_startOf_22 (by first | (rw [if_pos (by omega)]) | (rw [if_neg (by omega)]))

set_option maxHeartbeats 4000000 in
set_option maxRecDepth 100000 in
theorem c_X3_joints (l : Launch) (g : gG) {n : Nat} {S : Nat → gE} {a : Nat} {cL cF cG cR cZ cW cU : Int} (ha : S a = oO 3 [.ref (a + 1), .ref (a + 2), .int (iI cL), .int (iI cF), .int (iI cG), .int (iI cR), .int (iI cZ), .int (iI cW), .int (iI cU)]) (rZ : 0 ≤ cZ ∧ cZ ≤ 60) : g_Cp l yX3_joints wsX3_joints { frames := 1, cells := 0, slots := 0, locals := 13 } g [.ref a] n S (some (.int (iI (if 0 < cZ - 1 then cZ - 1 else 0)))) := by
  refine g_Cp.of (cc := cX3_joints) (maxL := 1) (ret := (some .int)) (by decide) rfl (Nat.le_of_ble_eq_true rfl) ?_
  intro pp ee s m below meth cK Q ls hc hnm hw hl hret
  have hl : lv_has ls 1 [(0, .ref a)] := hl
  have hiX3 : ∀ w ∈ u_ws RX3 TX3 9, w ∈ wsX3_joints := by decide +kernel
  have lk31 : Cond.fieldLink RX3 31 "RoofCourses$Course" "size" "I" ∈ wsX3_joints := by decide +kernel
  have lkM44 : Cond.methodLink RX3 44 Lib.Math.max.name ∈ wsX3_joints := by decide +kernel
  have lkMsmax : Cond.static Lib.Math.max.name ∈ wsX3_joints := by decide +kernel
  have lkMi : Cond.initialized "java/lang/Math" ∈ wsX3_joints := by decide +kernel
  have lkMcmax : Cond.code Lib.Math.max.name Lib.Math.max.code 2 (some .int) ∈ wsX3_joints := by decide +kernel
  have hrt : ∀ (pc : Nat) (ls : Array Slot) (xr : Int), decode cX3_joints pc = .ok (.ireturn, 1) → xr = (if 0 < cZ - 1 then cZ - 1 else 0) → W pp l ee ({ frames := 1, cells := 0, slots := 0, locals := 13 } : Room) s m ([.ref a] : List Value).toArray below meth cK s.heap [] 0 0 Q (F0 m pc ls [.int (iI xr)]) := fun pc ls xr d hx => by subst hx; exact hret pc ls ⟨_, rfl, rfl, d⟩
  refine nn_iconst hc dX3_joints_0 ?_
  refine lv_aload_n hc.1 hc.2.1 dX3_joints_1 rfl (lv_at hl 0 rfl) ?_
  refine nn_get hc hw ha hiX3 rfl 6 (by decide) rfl lk31 dX3_joints_2 ?_
  refine nn_iconst hc dX3_joints_5 ?_
  refine nn_isub hc dX3_joints_6 ?_
  refine nn_max hc hl.1 (by decide) (by omega) lkM44 lkMsmax lkMi lkMcmax (Nat.le_of_ble_eq_true rfl) (Nat.le_of_ble_eq_true rfl) ⟨Nat.zero_le _, Nat.zero_le _⟩ dX3_joints_7 ?_
  exact hrt _ _ _ dX3_joints_10 (by first | rfl | omega | (split <;> omega))

set_option maxHeartbeats 4000000 in
set_option maxRecDepth 100000 in
theorem c_X3_isBrokenAt (l : Launch) (g : gG) {n : Nat} {S : Nat → gE} {a : Nat} {cL cF cG cR cZ cW cU : Int} {pl br : Int} {ed : Nat → Int} (ha : S a = oO 3 [.ref (a + 1), .ref (a + 2), .int (iI cL), .int (iI cF), .int (iI cG), .int (iI cR), .int (iI cZ), .int (iI cW), .int (iI cU)]) (he : S (a + 2) = oI g 60 ed) (rZ : 0 ≤ cZ ∧ cZ ≤ 60) (rp : -100000000 ≤ pl ∧ pl ≤ 100000000) (rb : 0 ≤ br ∧ br ≤ 100000000) (red : ∀ k : Nat, (k : Int) < cZ - 1 → -100000000 ≤ ed k ∧ ed k ≤ 100000000) : g_Cp l yX3_isBrokenAt wsX3_isBrokenAt { frames := 1, cells := 0, slots := 0, locals := 13 } g [.ref a, .int (iI pl), .int (iI br)] n S (some (.int (iI (if brk ed br pl (cZ - 1).toNat = true then 1 else 0)))) := by
  refine g_Cp.of (cc := cX3_isBrokenAt) (maxL := 4) (ret := (some .boolean)) (by decide) rfl (Nat.le_of_ble_eq_true rfl) ?_
  intro pp ee s m below meth cK Q ls hc hnm hw hl hret
  have hl : lv_has ls 4 [(0, .ref a), (1, .int (iI pl)), (2, .int (iI br))] := hl
  have hiX3 : ∀ w ∈ u_ws RX3 TX3 9, w ∈ wsX3_isBrokenAt := by decide +kernel
  have lk31 : Cond.fieldLink RX3 31 "RoofCourses$Course" "size" "I" ∈ wsX3_isBrokenAt := by decide +kernel
  have lk15 : Cond.fieldLink RX3 15 "RoofCourses$Course" "edge" "[I" ∈ wsX3_isBrokenAt := by decide +kernel
  have lkM50 : Cond.methodLink RX3 50 Lib.Math.abs.name ∈ wsX3_isBrokenAt := by decide +kernel
  have lkMsabs : Cond.static Lib.Math.abs.name ∈ wsX3_isBrokenAt := by decide +kernel
  have lkMi : Cond.initialized "java/lang/Math" ∈ wsX3_isBrokenAt := by decide +kernel
  have lkMcabs : Cond.code Lib.Math.abs.name Lib.Math.abs.code 1 (some .int) ∈ wsX3_isBrokenAt := by decide +kernel
  have hrt : ∀ (pc : Nat) (ls : Array Slot) (xr : Int), decode cX3_isBrokenAt pc = .ok (.ireturn, 1) → xr = (if brk ed br pl (cZ - 1).toNat = true then 1 else 0) → W pp l ee ({ frames := 1, cells := 0, slots := 0, locals := 13 } : Room) s m ([.ref a, .int (iI pl), .int (iI br)] : List Value).toArray below meth cK s.heap [] 0 0 Q (F0 m pc ls [.int (iI xr)]) := fun pc ls xr d hx => by subst hx; exact hret pc ls ⟨_, rfl, nn_nb _, d⟩
  refine nn_iconst hc dX3_isBrokenAt_0 ?_
  refine lv_istore_n (lv' := [(3, .int (iI 0)), (0, .ref a), (1, .int (iI pl)), (2, .int (iI br))]) hc.1 hc.2.1 dX3_isBrokenAt_1 rfl hl (by decide) rfl (fun ls hl => ?_)
  have lab2 : ∀ (fu2 : Nat) (k : Int) (ls : Array Slot), (0 ≤ k ∧ (k < cZ ∨ k = 0)) → (∀ i : Nat, (i : Int) < k → br ≤ ed i - pl ∨ br ≤ pl - ed i) → (60 - k).toNat < fu2 → lv_has ls 4 [(3, .int (iI k)), (0, .ref a), (1, .int (iI pl)), (2, .int (iI br))] → W pp l ee ({ frames := 1, cells := 0, slots := 0, locals := 13 } : Room) s m ([.ref a, .int (iI pl), .int (iI br)] : List Value).toArray below meth cK s.heap [] 0 0 Q (F0 m 2 ls []) := by
    intro fu2
    induction fu2 with
    | zero =>
      intro k ls hk hall hmeas hl
      exact absurd hmeas (Nat.not_lt_zero _)
    | succ fu2 ih2 =>
      intro k ls hk hall hmeas hl
      refine lv_iload_n hc.1 hc.2.1 dX3_isBrokenAt_2 rfl (lv_at hl 0 rfl) ?_
      refine lv_aload_n hc.1 hc.2.1 dX3_isBrokenAt_3 rfl (lv_at hl 1 rfl) ?_
      refine nn_get hc hw ha hiX3 rfl 6 (by decide) rfl lk31 dX3_isBrokenAt_4 ?_
      refine nn_iconst hc dX3_isBrokenAt_7 ?_
      refine nn_isub hc dX3_isBrokenAt_8 ?_
      refine nn_icmp_ge hc dX3_isBrokenAt_9 (tgt := 35) (by decide) (by omega) (by omega) (fun c1 => ?_) (fun c1 => ?_)
      · refine nn_iconst hc dX3_isBrokenAt_35 ?_
        exact hrt _ _ _ dX3_isBrokenAt_36 (by rw [if_pos (brk_iff.mpr (fun i hi => hall i (by omega)))])
      · refine lv_aload_n hc.1 hc.2.1 dX3_isBrokenAt_12 rfl (lv_at hl 1 rfl) ?_
        refine nn_get hc hw ha hiX3 rfl 1 (by decide) rfl lk15 dX3_isBrokenAt_13 ?_
        refine lv_iload_n hc.1 hc.2.1 dX3_isBrokenAt_16 rfl (lv_at hl 0 rfl) ?_
        have hrk := red k.toNat (by omega)
        refine nn_iald hc hw he (by omega) (by omega) dX3_isBrokenAt_17 ?_
        refine lv_iload_n hc.1 hc.2.1 dX3_isBrokenAt_18 rfl (lv_at hl 2 rfl) ?_
        refine nn_isub hc dX3_isBrokenAt_19 ?_
        refine nn_abs hc hl.1 (by omega) lkM50 lkMsabs lkMi lkMcabs (Nat.le_of_ble_eq_true rfl) (Nat.le_of_ble_eq_true rfl) ⟨Nat.zero_le _, Nat.zero_le _⟩ dX3_isBrokenAt_20 ?_
        refine lv_iload_n hc.1 hc.2.1 dX3_isBrokenAt_23 rfl (lv_at hl 3 rfl) ?_
        refine nn_icmp_ge hc dX3_isBrokenAt_24 (tgt := 29) (by decide) (by omega) (by omega) (fun c2 => ?_) (fun c2 => ?_)
        · refine nn_iinc (lv' := [(3, .int (iI (k + 1))), (0, .ref a), (1, .int (iI pl)), (2, .int (iI br))]) hc dX3_isBrokenAt_29 hl (k0 := 0) rfl (by decide) rfl (fun ls hl => ?_)
          refine lv_goto hc.1 hc.2.1 dX3_isBrokenAt_32 (tgt := 2) (by decide) ?_
          exact ih2 (k + 1) _ (by omega) (fun i hi => by rcases Nat.lt_or_ge i k.toNat with q | q; exact hall i (by omega); have e1 : i = k.toNat := (by omega); subst e1; omega) (by omega) (lv_sub hl [0, 1, 2, 3] rfl)
        · refine nn_iconst hc dX3_isBrokenAt_27 ?_
          exact hrt _ _ _ dX3_isBrokenAt_28 (by rw [if_neg (fun q => by have := brk_iff.mp q k.toNat (by omega); omega)])
  exact lab2 _ 0 _ (by omega) (fun i hi => absurd hi (by omega)) (Nat.lt_succ_self _) (lv_sub hl [0, 1, 2, 3] rfl)

set_option maxHeartbeats 4000000 in
set_option maxRecDepth 100000 in
theorem c_X3_init (l : Launch) (g : gG) {S : Nat → gE} {a : Nat} (ha : S a = oO 3 [.null, .null, .int (iI 0), .int (iI 0), .int (iI 0), .int (iI 0), .int (iI 0), .int (iI 0), .int (iI 0)])  : g_Cs l yX3_init wsX3_init { frames := 1, cells := 2, slots := 120, locals := 12 } g [.ref a] (a + 1) S (fun vr n1 S1 => vr = none ∧ a + 3 = n1 ∧ S1 a = oO 3 [.ref (a + 1), .ref (a + 2), .int (iI 0), .int (iI 0), .int (iI 0), .int (iI 0), .int (iI 0), .int (iI 0), .int (iI 0)] ∧ S1 (a + 1) = oI g 60 (fun _ => 0) ∧ S1 (a + 2) = oI g 60 (fun _ => 0) ∧ (∀ bb, bb ≠ a → bb ≠ (a + 1) → bb ≠ (a + 2) → S1 bb = S bb)) 2 120 := by
  refine g_Cs.of (cc := cX3_init) (maxL := 1) (ret := none) (by decide) rfl (Nat.le_of_ble_eq_true rfl) ?_
  intro pp ee s m below meth cK Q H locs ls hc hnm hw hl hret
  have hl : lv_has ls 1 [(0, .ref a)] := hl
  have hiX3 : ∀ w ∈ u_ws RX3 TX3 9, w ∈ wsX3_init := by decide +kernel
  have lkO : Cond.methodLink RX3 3 objectInit ∈ wsX3_init := by decide +kernel
  have lkOi : Cond.instanceMethod objectInit ∈ wsX3_init := by decide +kernel
  have lkOc : Cond.code objectInit ⟨#[0xb1]⟩ 1 none ∈ wsX3_init := by decide +kernel
  have lkAint : Cond.arrayClass .int ∈ wsX3_init := by decide +kernel
  have lk9 : Cond.fieldLink RX3 9 "RoofCourses$Course" "heapOf" "[I" ∈ wsX3_init := by decide +kernel
  have lk15 : Cond.fieldLink RX3 15 "RoofCourses$Course" "edge" "[I" ∈ wsX3_init := by decide +kernel
  refine lv_aload_n hc.1 hc.2.1 dX3_init_0 rfl (lv_at hl 0 rfl) ?_
  refine W.objInit hc.1 hc.2.1 hc.2.2.2.1 (hc.2.2.2.2 _ lkO) (hc.2.2.2.2 _ lkOi) (hc.2.2.2.2 _ lkOc) rfl (by rw [hc.2.2.1]; exact hl.1) rfl dX3_init_1 (Nat.le_of_ble_eq_true rfl) (Nat.le_of_ble_eq_true rfl) ?_
  refine W.eq (g2 := F0 m 4 ls []) rfl ?_
  refine lv_aload_n hc.1 hc.2.1 dX3_init_4 rfl (lv_at hl 0 rfl) ?_
  refine nn_bipush hc dX3_init_5 (by decide +kernel) ?_
  refine nn_newI (N := 60) hc hw lkAint (by decide) rfl (Nat.le_of_ble_eq_true rfl) (Nat.le_of_ble_eq_true rfl) (Nat.le_of_ble_eq_true rfl) dX3_init_7 (fun S1 H hS1 fS1 hw => ?_)
  have hS1 : S1 (a + 1) = oI g 60 (fun _ => 0) := hS1
  have hw : g_W g (a + 2) S1 s H locs := hw
  refine W.cs (cells' := 1) (slots' := 60) (by decide) (by decide) ?_
  have e2 : S1 a = oO 3 [.null, .null, .int (iI 0), .int (iI 0), .int (iI 0), .int (iI 0), .int (iI 0), .int (iI 0), .int (iI 0)] := (fS1 a (off_nl (x := a) (a := 1) (by decide))).trans ha
  refine nn_putF hc hnm hw e2 hiX3 tyX3 tyX3_ok nmX3 rfl 0 (by decide) (Nat.le_of_ble_eq_true rfl) lk9 rfl rfl rfl rfl dX3_init_9 (fun S3 H locs hS3 fS3 hw => ?_)
  have hS3 : S3 a = oO 3 [.ref (a + 1), .null, .int (iI 0), .int (iI 0), .int (iI 0), .int (iI 0), .int (iI 0), .int (iI 0), .int (iI 0)] := hS3
  refine lv_aload_n hc.1 hc.2.1 dX3_init_12 rfl (lv_at hl 0 rfl) ?_
  refine nn_bipush hc dX3_init_13 (by decide +kernel) ?_
  refine nn_newI (N := 60) hc hw lkAint (by decide) rfl (Nat.le_of_ble_eq_true rfl) (Nat.le_of_ble_eq_true rfl) (Nat.le_of_ble_eq_true rfl) dX3_init_15 (fun S4 H hS4 fS4 hw => ?_)
  have hS4 : S4 (a + 2) = oI g 60 (fun _ => 0) := hS4
  have hw : g_W g (a + 3) S4 s H locs := hw
  refine W.cs (cells' := 2) (slots' := 120) (by decide) (by decide) ?_
  have e5 : S4 a = oO 3 [.ref (a + 1), .null, .int (iI 0), .int (iI 0), .int (iI 0), .int (iI 0), .int (iI 0), .int (iI 0), .int (iI 0)] := (fS4 a (off_nl (x := a) (a := 2) (by decide))).trans hS3
  refine nn_putF hc hnm hw e5 hiX3 tyX3 tyX3_ok nmX3 rfl 1 (by decide) (Nat.le_of_ble_eq_true rfl) lk15 rfl rfl rfl rfl dX3_init_17 (fun S6 H locs hS6 fS6 hw => ?_)
  have hS6 : S6 a = oO 3 [.ref (a + 1), .ref (a + 2), .int (iI 0), .int (iI 0), .int (iI 0), .int (iI 0), .int (iI 0), .int (iI 0), .int (iI 0)] := hS6
  have e7 : S3 (a + 1) = oI g 60 (fun _ => 0) := (fS3 (a + 1) (off_nr (x := a) (a := 1) (by decide))).trans hS1
  have e8 : S4 (a + 1) = oI g 60 (fun _ => 0) := (fS4 (a + 1) (off_ne (x := a) (a := 1) (b := 2) (by decide))).trans e7
  have e9 : S6 (a + 1) = oI g 60 (fun _ => 0) := (fS6 (a + 1) (off_nr (x := a) (a := 1) (by decide))).trans e8
  have e10 : S6 (a + 2) = oI g 60 (fun _ => 0) := (fS6 (a + 2) (off_nr (x := a) (a := 2) (by decide))).trans hS4
  exact hret none _ S6 _ _ _ _ hw (⟨rfl, rfl, hS6, e9, e10, fun bb hb0 hb1 hb2 => ((((fS6 bb hb0)).trans (fS4 bb hb2)).trans (fS3 bb hb0)).trans (fS1 bb hb1)⟩) ⟨rfl, dX3_init_20⟩

set_option maxHeartbeats 4000000 in
set_option maxRecDepth 100000 in
theorem c_X3_begin (l : Launch) (g : gG) {n : Nat} {S : Nat → gE} {a : Nat} {cL cF cG cR cZ cW cU : Int} {bL bF bG bR : Int} (ha : S a = oO 3 [.ref (a + 1), .ref (a + 2), .int (iI cL), .int (iI cF), .int (iI cG), .int (iI cR), .int (iI cZ), .int (iI cW), .int (iI cU)])  : g_Cs l yX3_begin wsX3_begin { frames := 0, cells := 0, slots := 0, locals := 0 } g [.ref a, .int (iI bL), .int (iI bF), .int (iI bG), .int (iI bR)] n S (fun vr n1 S1 => vr = none ∧ n = n1 ∧ S1 a = oO 3 [.ref (a + 1), .ref (a + 2), .int (iI bL), .int (iI bF), .int (iI bG), .int (iI bR), .int (iI 0), .int (iI 0), .int (iI 0)] ∧ (∀ bb, bb ≠ a → S1 bb = S bb)) 0 0 := by
  refine g_Cs.of (cc := cX3_begin) (maxL := 5) (ret := none) (by decide) rfl (Nat.le_of_ble_eq_true rfl) ?_
  intro pp ee s m below meth cK Q H locs ls hc hnm hw hl hret
  have hl : lv_has ls 5 [(0, .ref a), (1, .int (iI bL)), (2, .int (iI bF)), (3, .int (iI bG)), (4, .int (iI bR))] := hl
  have hiX3 : ∀ w ∈ u_ws RX3 TX3 9, w ∈ wsX3_begin := by decide +kernel
  have lk18 : Cond.fieldLink RX3 18 "RoofCourses$Course" "length" "I" ∈ wsX3_begin := by decide +kernel
  have lk22 : Cond.fieldLink RX3 22 "RoofCourses$Course" "foot" "I" ∈ wsX3_begin := by decide +kernel
  have lk25 : Cond.fieldLink RX3 25 "RoofCourses$Course" "gauge" "I" ∈ wsX3_begin := by decide +kernel
  have lk28 : Cond.fieldLink RX3 28 "RoofCourses$Course" "room" "I" ∈ wsX3_begin := by decide +kernel
  have lk31 : Cond.fieldLink RX3 31 "RoofCourses$Course" "size" "I" ∈ wsX3_begin := by decide +kernel
  have lk34 : Cond.fieldLink RX3 34 "RoofCourses$Course" "waste" "I" ∈ wsX3_begin := by decide +kernel
  have lk37 : Cond.fieldLink RX3 37 "RoofCourses$Course" "cut" "I" ∈ wsX3_begin := by decide +kernel
  refine lv_aload_n hc.1 hc.2.1 dX3_begin_0 rfl (lv_at hl 0 rfl) ?_
  refine lv_iload_n hc.1 hc.2.1 dX3_begin_1 rfl (lv_at hl 1 rfl) ?_
  refine nn_put hc hw ha hiX3 tyX3 tyX3_ok nmX3 rfl 2 (by decide) (Nat.le_of_ble_eq_true rfl) lk18 rfl rfl rfl dX3_begin_2 (fun S1 H locs hS1 fS1 hw => ?_)
  have hS1 : S1 a = oO 3 [.ref (a + 1), .ref (a + 2), .int (iI bL), .int (iI cF), .int (iI cG), .int (iI cR), .int (iI cZ), .int (iI cW), .int (iI cU)] := hS1
  refine lv_aload_n hc.1 hc.2.1 dX3_begin_5 rfl (lv_at hl 0 rfl) ?_
  refine lv_iload_n hc.1 hc.2.1 dX3_begin_6 rfl (lv_at hl 2 rfl) ?_
  refine nn_put hc hw hS1 hiX3 tyX3 tyX3_ok nmX3 rfl 3 (by decide) (Nat.le_of_ble_eq_true rfl) lk22 rfl rfl rfl dX3_begin_7 (fun S2 H locs hS2 fS2 hw => ?_)
  have hS2 : S2 a = oO 3 [.ref (a + 1), .ref (a + 2), .int (iI bL), .int (iI bF), .int (iI cG), .int (iI cR), .int (iI cZ), .int (iI cW), .int (iI cU)] := hS2
  refine lv_aload_n hc.1 hc.2.1 dX3_begin_10 rfl (lv_at hl 0 rfl) ?_
  refine lv_iload_n hc.1 hc.2.1 dX3_begin_11 rfl (lv_at hl 3 rfl) ?_
  refine nn_put hc hw hS2 hiX3 tyX3 tyX3_ok nmX3 rfl 4 (by decide) (Nat.le_of_ble_eq_true rfl) lk25 rfl rfl rfl dX3_begin_12 (fun S3 H locs hS3 fS3 hw => ?_)
  have hS3 : S3 a = oO 3 [.ref (a + 1), .ref (a + 2), .int (iI bL), .int (iI bF), .int (iI bG), .int (iI cR), .int (iI cZ), .int (iI cW), .int (iI cU)] := hS3
  refine lv_aload_n hc.1 hc.2.1 dX3_begin_15 rfl (lv_at hl 0 rfl) ?_
  refine lv_iload hc.1 hc.2.1 dX3_begin_16 (lv_at hl 4 rfl) ?_
  refine nn_put hc hw hS3 hiX3 tyX3 tyX3_ok nmX3 rfl 5 (by decide) (Nat.le_of_ble_eq_true rfl) lk28 rfl rfl rfl dX3_begin_18 (fun S4 H locs hS4 fS4 hw => ?_)
  have hS4 : S4 a = oO 3 [.ref (a + 1), .ref (a + 2), .int (iI bL), .int (iI bF), .int (iI bG), .int (iI bR), .int (iI cZ), .int (iI cW), .int (iI cU)] := hS4
  refine lv_aload_n hc.1 hc.2.1 dX3_begin_21 rfl (lv_at hl 0 rfl) ?_
  refine nn_iconst hc dX3_begin_22 ?_
  refine nn_put hc hw hS4 hiX3 tyX3 tyX3_ok nmX3 rfl 6 (by decide) (Nat.le_of_ble_eq_true rfl) lk31 rfl rfl rfl dX3_begin_23 (fun S5 H locs hS5 fS5 hw => ?_)
  have hS5 : S5 a = oO 3 [.ref (a + 1), .ref (a + 2), .int (iI bL), .int (iI bF), .int (iI bG), .int (iI bR), .int (iI 0), .int (iI cW), .int (iI cU)] := hS5
  refine lv_aload_n hc.1 hc.2.1 dX3_begin_26 rfl (lv_at hl 0 rfl) ?_
  refine nn_iconst hc dX3_begin_27 ?_
  refine nn_put hc hw hS5 hiX3 tyX3 tyX3_ok nmX3 rfl 7 (by decide) (Nat.le_of_ble_eq_true rfl) lk34 rfl rfl rfl dX3_begin_28 (fun S6 H locs hS6 fS6 hw => ?_)
  have hS6 : S6 a = oO 3 [.ref (a + 1), .ref (a + 2), .int (iI bL), .int (iI bF), .int (iI bG), .int (iI bR), .int (iI 0), .int (iI 0), .int (iI cU)] := hS6
  refine lv_aload_n hc.1 hc.2.1 dX3_begin_31 rfl (lv_at hl 0 rfl) ?_
  refine nn_iconst hc dX3_begin_32 ?_
  refine nn_put hc hw hS6 hiX3 tyX3 tyX3_ok nmX3 rfl 8 (by decide) (Nat.le_of_ble_eq_true rfl) lk37 rfl rfl rfl dX3_begin_33 (fun S7 H locs hS7 fS7 hw => ?_)
  have hS7 : S7 a = oO 3 [.ref (a + 1), .ref (a + 2), .int (iI bL), .int (iI bF), .int (iI bG), .int (iI bR), .int (iI 0), .int (iI 0), .int (iI 0)] := hS7
  exact hret none _ S7 _ _ _ _ hw (⟨rfl, rfl, hS7, fun bb hb0 => (((((((fS7 bb hb0)).trans (fS6 bb hb0)).trans (fS5 bb hb0)).trans (fS4 bb hb0)).trans (fS3 bb hb0)).trans (fS2 bb hb0)).trans (fS1 bb hb0)⟩) ⟨rfl, dX3_begin_36⟩

set_option maxHeartbeats 4000000 in
set_option maxRecDepth 100000 in
theorem c_X3_put (l : Launch) (g : gG) {n : Nat} {S : Nat → gE} {a : Nat} {cL cF cG cR cZ cW cU : Int} {ph pb pv : Int} {hf ed : Nat → Int} (ha : S a = oO 3 [.ref (a + 1), .ref (a + 2), .int (iI cL), .int (iI cF), .int (iI cG), .int (iI cR), .int (iI cZ), .int (iI cW), .int (iI cU)]) (hh : S (a + 1) = oI g 60 hf) (he : S (a + 2) = oI g 60 ed) (rZ : 0 ≤ cZ ∧ cZ < 60) (r_pb : -2147483648 ≤ pb ∧ pb < 2147483648) (r_pv : -2147483648 ≤ pv ∧ pv < 2147483648) : g_Cs l yX3_put wsX3_put { frames := 1, cells := 0, slots := 0, locals := 21 } g [.ref a, .int (iI ph), .int (iI pb), .int (iI pv)] n S (fun vr n1 S1 => vr = none ∧ n = n1 ∧ S1 a = oO 3 [.ref (a + 1), .ref (a + 2), .int (iI cL), .int (iI cF), .int (iI cG), .int (iI cR), .int (iI (cZ + 1)), .int (iI (cW + (if pv < pb then (pb - pv) * cL else 0))), .int (iI (cU + (if pv < pb then 1 else 0)))] ∧ S1 (a + 1) = oI g 60 (va_up hf cZ.toNat ph) ∧ S1 (a + 2) = oI g 60 (va_up ed cZ.toNat ((if 0 < cZ ∧ cZ ≤ 60 then ed (cZ - 1).toNat else 0) + pv)) ∧ (∀ bb, bb ≠ a → bb ≠ (a + 1) → bb ≠ (a + 2) → S1 bb = S bb)) 0 0 := by
  refine g_Cs.of (cc := cX3_put) (maxL := 4) (ret := none) (by decide) rfl (Nat.le_of_ble_eq_true rfl) ?_
  intro pp ee s m below meth cK Q H locs ls hc hnm hw hl hret
  have hl : lv_has ls 4 [(0, .ref a), (1, .int (iI ph)), (2, .int (iI pb)), (3, .int (iI pv))] := hl
  have hiX3 : ∀ w ∈ u_ws RX3 TX3 9, w ∈ wsX3_put := by decide +kernel
  have lk31 : Cond.fieldLink RX3 31 "RoofCourses$Course" "size" "I" ∈ wsX3_put := by decide +kernel
  have lk9 : Cond.fieldLink RX3 9 "RoofCourses$Course" "heapOf" "[I" ∈ wsX3_put := by decide +kernel
  have lk15 : Cond.fieldLink RX3 15 "RoofCourses$Course" "edge" "[I" ∈ wsX3_put := by decide +kernel
  have lk37 : Cond.fieldLink RX3 37 "RoofCourses$Course" "cut" "I" ∈ wsX3_put := by decide +kernel
  have lk34 : Cond.fieldLink RX3 34 "RoofCourses$Course" "waste" "I" ∈ wsX3_put := by decide +kernel
  have lk18 : Cond.fieldLink RX3 18 "RoofCourses$Course" "length" "I" ∈ wsX3_put := by decide +kernel
  refine lv_aload_n hc.1 hc.2.1 dX3_put_0 rfl (lv_at hl 0 rfl) ?_
  refine nn_get hc hw ha hiX3 rfl 6 (by decide) rfl lk31 dX3_put_1 ?_
  refine nn_bipush hc dX3_put_4 (by decide +kernel) ?_
  refine nn_icmp_lt hc dX3_put_6 (tgt := 10) (by decide) (by omega) (by decide) (fun c1 => ?_) (fun c1 => ?_)
  · refine lv_aload_n hc.1 hc.2.1 dX3_put_10 rfl (lv_at hl 0 rfl) ?_
    refine nn_get hc hw ha hiX3 rfl 0 (by decide) rfl lk9 dX3_put_11 ?_
    refine lv_aload_n hc.1 hc.2.1 dX3_put_14 rfl (lv_at hl 0 rfl) ?_
    refine nn_get hc hw ha hiX3 rfl 6 (by decide) rfl lk31 dX3_put_15 ?_
    refine lv_iload_n hc.1 hc.2.1 dX3_put_18 rfl (lv_at hl 1 rfl) ?_
    refine nn_iast hc hw hh (by omega) (by omega) dX3_put_19 (fun S2 H locs hS2 fS2 hw => ?_)
    refine lv_aload_n hc.1 hc.2.1 dX3_put_20 rfl (lv_at hl 0 rfl) ?_
    have e3 : S2 a = oO 3 [.ref (a + 1), .ref (a + 2), .int (iI cL), .int (iI cF), .int (iI cG), .int (iI cR), .int (iI cZ), .int (iI cW), .int (iI cU)] := (fS2 a (off_nl (x := a) (a := 1) (by decide))).trans ha
    refine nn_get hc hw e3 hiX3 rfl 1 (by decide) rfl lk15 dX3_put_21 ?_
    refine lv_aload_n hc.1 hc.2.1 dX3_put_24 rfl (lv_at hl 0 rfl) ?_
    refine nn_get hc hw e3 hiX3 rfl 6 (by decide) rfl lk31 dX3_put_25 ?_
    refine lv_aload_n hc.1 hc.2.1 dX3_put_28 rfl (lv_at hl 0 rfl) ?_
    refine lv_aload_n hc.1 hc.2.1 dX3_put_29 rfl (lv_at hl 0 rfl) ?_
    refine nn_get hc hw e3 hiX3 rfl 6 (by decide) rfl lk31 dX3_put_30 ?_
    have e4 : S2 (a + 2) = oI g 60 ed := (fS2 (a + 2) (off_ne (x := a) (a := 2) (b := 1) (by decide))).trans he
    refine nn_Vp (As := [.int (iI cZ)]) (st := [.int (iI cZ), .ref (a + 2)]) hc hw e3 rfl (c_X3_startOf l g  e3 e4 (by omega)) (cwV 1 hc.2.2.2.2 gX3_put_X3_startOf rfl rfl rfl (by decide +kernel) ⟨Nat.le_of_ble_eq_true rfl, Nat.le_of_ble_eq_true rfl⟩) rfl hl.1 rfl (Nat.le_of_ble_eq_true rfl) ⟨Nat.le_of_ble_eq_true rfl, Nat.le_of_ble_eq_true rfl⟩ dX3_put_33 ?_
    refine W.eq (g2 := F0 m 36 ls [.int (iI (if 0 < cZ ∧ cZ ≤ 60 then ed (cZ - 1).toNat else 0)), .int (iI cZ), .ref (a + 2)]) rfl ?_
    refine lv_iload_n hc.1 hc.2.1 dX3_put_36 rfl (lv_at hl 3 rfl) ?_
    refine nn_iadd hc dX3_put_37 ?_
    refine nn_iast hc hw e4 (by omega) (by omega) dX3_put_38 (fun S5 H locs hS5 fS5 hw => ?_)
    refine lv_aload_n hc.1 hc.2.1 dX3_put_39 rfl (lv_at hl 0 rfl) ?_
    refine lv_dup hc.1 hc.2.1 dX3_put_40 rfl ?_
    have e6 : S5 a = oO 3 [.ref (a + 1), .ref (a + 2), .int (iI cL), .int (iI cF), .int (iI cG), .int (iI cR), .int (iI cZ), .int (iI cW), .int (iI cU)] := (fS5 a (off_nl (x := a) (a := 2) (by decide))).trans e3
    refine nn_get hc hw e6 hiX3 rfl 6 (by decide) rfl lk31 dX3_put_41 ?_
    refine nn_iconst hc dX3_put_44 ?_
    refine nn_iadd hc dX3_put_45 ?_
    refine nn_put hc hw e6 hiX3 tyX3 tyX3_ok nmX3 rfl 6 (by decide) (Nat.le_of_ble_eq_true rfl) lk31 rfl rfl rfl dX3_put_46 (fun S7 H locs hS7 fS7 hw => ?_)
    have hS7 : S7 a = oO 3 [.ref (a + 1), .ref (a + 2), .int (iI cL), .int (iI cF), .int (iI cG), .int (iI cR), .int (iI (cZ + 1)), .int (iI cW), .int (iI cU)] := hS7
    refine lv_iload_n hc.1 hc.2.1 dX3_put_49 rfl (lv_at hl 3 rfl) ?_
    refine lv_iload_n hc.1 hc.2.1 dX3_put_50 rfl (lv_at hl 2 rfl) ?_
    refine nn_icmp_ge hc dX3_put_51 (tgt := 81) (by decide) (by omega) (by omega) (fun c8 => ?_) (fun c8 => ?_)
    · have e9 : S5 (a + 1) = oI g 60 (va_up hf cZ.toNat ph) := (fS5 (a + 1) (off_ne (x := a) (a := 1) (b := 2) (by decide))).trans hS2
      have e10 : S7 (a + 1) = oI g 60 (va_up hf cZ.toNat ph) := (fS7 (a + 1) (off_nr (x := a) (a := 1) (by decide))).trans e9
      have e11 : S7 (a + 2) = oI g 60 (va_up ed cZ.toNat ((if 0 < cZ ∧ cZ ≤ 60 then ed (cZ - 1).toNat else 0) + pv)) := (fS7 (a + 2) (off_nr (x := a) (a := 2) (by decide))).trans hS5
      exact hret none _ S7 _ _ _ _ hw (⟨rfl, rfl, (by first | (rw [if_pos (by omega), if_pos (by omega)]; exact hS7) | (rw [if_neg (by omega), if_neg (by omega), Int.add_zero, Int.add_zero]; exact hS7)), e10, e11, fun bb hb0 hb1 hb2 => (((fS7 bb hb0)).trans (fS5 bb hb2)).trans (fS2 bb hb1)⟩) ⟨rfl, dX3_put_81⟩
    · refine lv_aload_n hc.1 hc.2.1 dX3_put_54 rfl (lv_at hl 0 rfl) ?_
      refine lv_dup hc.1 hc.2.1 dX3_put_55 rfl ?_
      refine nn_get hc hw hS7 hiX3 rfl 8 (by decide) rfl lk37 dX3_put_56 ?_
      refine nn_iconst hc dX3_put_59 ?_
      refine nn_iadd hc dX3_put_60 ?_
      refine nn_put hc hw hS7 hiX3 tyX3 tyX3_ok nmX3 rfl 8 (by decide) (Nat.le_of_ble_eq_true rfl) lk37 rfl rfl rfl dX3_put_61 (fun S12 H locs hS12 fS12 hw => ?_)
      have hS12 : S12 a = oO 3 [.ref (a + 1), .ref (a + 2), .int (iI cL), .int (iI cF), .int (iI cG), .int (iI cR), .int (iI (cZ + 1)), .int (iI cW), .int (iI (cU + 1))] := hS12
      refine lv_aload_n hc.1 hc.2.1 dX3_put_64 rfl (lv_at hl 0 rfl) ?_
      refine lv_dup hc.1 hc.2.1 dX3_put_65 rfl ?_
      refine nn_get hc hw hS12 hiX3 rfl 7 (by decide) rfl lk34 dX3_put_66 ?_
      refine lv_iload_n hc.1 hc.2.1 dX3_put_69 rfl (lv_at hl 2 rfl) ?_
      refine lv_iload_n hc.1 hc.2.1 dX3_put_70 rfl (lv_at hl 3 rfl) ?_
      refine nn_isub hc dX3_put_71 ?_
      refine lv_aload_n hc.1 hc.2.1 dX3_put_72 rfl (lv_at hl 0 rfl) ?_
      refine nn_get hc hw hS12 hiX3 rfl 2 (by decide) rfl lk18 dX3_put_73 ?_
      refine nn_imul hc dX3_put_76 ?_
      refine nn_iadd hc dX3_put_77 ?_
      refine nn_put hc hw hS12 hiX3 tyX3 tyX3_ok nmX3 rfl 7 (by decide) (Nat.le_of_ble_eq_true rfl) lk34 rfl rfl rfl dX3_put_78 (fun S13 H locs hS13 fS13 hw => ?_)
      have hS13 : S13 a = oO 3 [.ref (a + 1), .ref (a + 2), .int (iI cL), .int (iI cF), .int (iI cG), .int (iI cR), .int (iI (cZ + 1)), .int (iI (cW + ((pb - pv) * cL))), .int (iI (cU + 1))] := hS13
      have e14 : S5 (a + 1) = oI g 60 (va_up hf cZ.toNat ph) := (fS5 (a + 1) (off_ne (x := a) (a := 1) (b := 2) (by decide))).trans hS2
      have e15 : S7 (a + 1) = oI g 60 (va_up hf cZ.toNat ph) := (fS7 (a + 1) (off_nr (x := a) (a := 1) (by decide))).trans e14
      have e16 : S12 (a + 1) = oI g 60 (va_up hf cZ.toNat ph) := (fS12 (a + 1) (off_nr (x := a) (a := 1) (by decide))).trans e15
      have e17 : S13 (a + 1) = oI g 60 (va_up hf cZ.toNat ph) := (fS13 (a + 1) (off_nr (x := a) (a := 1) (by decide))).trans e16
      have e18 : S7 (a + 2) = oI g 60 (va_up ed cZ.toNat ((if 0 < cZ ∧ cZ ≤ 60 then ed (cZ - 1).toNat else 0) + pv)) := (fS7 (a + 2) (off_nr (x := a) (a := 2) (by decide))).trans hS5
      have e19 : S12 (a + 2) = oI g 60 (va_up ed cZ.toNat ((if 0 < cZ ∧ cZ ≤ 60 then ed (cZ - 1).toNat else 0) + pv)) := (fS12 (a + 2) (off_nr (x := a) (a := 2) (by decide))).trans e18
      have e20 : S13 (a + 2) = oI g 60 (va_up ed cZ.toNat ((if 0 < cZ ∧ cZ ≤ 60 then ed (cZ - 1).toNat else 0) + pv)) := (fS13 (a + 2) (off_nr (x := a) (a := 2) (by decide))).trans e19
      exact hret none _ S13 _ _ _ _ hw (⟨rfl, rfl, (by first | (rw [if_pos (by omega), if_pos (by omega)]; exact hS13) | (rw [if_neg (by omega), if_neg (by omega), Int.add_zero, Int.add_zero]; exact hS13)), e17, e20, fun bb hb0 hb1 hb2 => (((((fS13 bb hb0)).trans (fS12 bb hb0)).trans (fS7 bb hb0)).trans (fS5 bb hb2)).trans (fS2 bb hb1)⟩) ⟨rfl, dX3_put_81⟩
  · exfalso; omega

set_option maxHeartbeats 4000000 in
set_option maxRecDepth 100000 in
theorem c_X5_gaugeOf (l : Launch) (g : gG) {n : Nat} {S : Nat → gE} {pl : Nat} {nH pHi pWi pLp pBk pHp : Int} {x : Int} (hp : S pl = oO 5 [.ref (pl + 1), .ref (pl + 2), .ref (pl + 3), .int (iI nH), .int (iI pHi), .int (iI pWi), .int (iI pLp), .int (iI pBk), .int (iI pHp)]) (rx : 0 ≤ x - pLp ∧ x - pLp < 2147483648) : g_Cp l yX5_gaugeOf wsX5_gaugeOf { frames := 0, cells := 0, slots := 0, locals := 0 } g [.ref pl, .int (iI x)] n S (some (.int (iI ((x - pLp) / 2)))) := by
  refine g_Cp.of (cc := cX5_gaugeOf) (maxL := 2) (ret := (some .int)) (by decide) rfl (Nat.le_of_ble_eq_true rfl) ?_
  intro pp ee s m below meth cK Q ls hc hnm hw hl hret
  have hl : lv_has ls 2 [(0, .ref pl), (1, .int (iI x))] := hl
  have hiX5 : ∀ w ∈ u_ws RX5 TX5 9, w ∈ wsX5_gaugeOf := by decide +kernel
  have lk31 : Cond.fieldLink RX5 31 "RoofCourses$Plan" "lap" "I" ∈ wsX5_gaugeOf := by decide +kernel
  have hrt : ∀ (pc : Nat) (ls : Array Slot) (xr : Int), decode cX5_gaugeOf pc = .ok (.ireturn, 1) → xr = ((x - pLp) / 2) → W pp l ee ({ frames := 0, cells := 0, slots := 0, locals := 0 } : Room) s m ([.ref pl, .int (iI x)] : List Value).toArray below meth cK s.heap [] 0 0 Q (F0 m pc ls [.int (iI xr)]) := fun pc ls xr d hx => by subst hx; exact hret pc ls ⟨_, rfl, rfl, d⟩
  refine lv_iload_n hc.1 hc.2.1 dX5_gaugeOf_0 rfl (lv_at hl 1 rfl) ?_
  refine lv_aload_n hc.1 hc.2.1 dX5_gaugeOf_1 rfl (lv_at hl 0 rfl) ?_
  refine nn_get hc hw hp hiX5 rfl 6 (by decide) rfl lk31 dX5_gaugeOf_2 ?_
  refine nn_isub hc dX5_gaugeOf_5 ?_
  refine nn_iconst hc dX5_gaugeOf_6 ?_
  refine nn_idiv hc dX5_gaugeOf_7 (by omega) (by omega) ?_
  exact hrt _ _ _ dX5_gaugeOf_8 (by first | rfl | omega | (split <;> omega))

set_option maxHeartbeats 4000000 in
set_option maxRecDepth 100000 in
theorem c_X5_roomAt (l : Launch) (g : gG) {n : Nat} {S : Nat → gE} {pl : Nat} {nH pHi pWi pLp pBk pHp : Int} {x : Int} (hp : S pl = oO 5 [.ref (pl + 1), .ref (pl + 2), .ref (pl + 3), .int (iI nH), .int (iI pHi), .int (iI pWi), .int (iI pLp), .int (iI pBk), .int (iI pHp)]) (rx : 0 ≤ pHp * x ∧ pHp * x < 2147483648) (rw : 0 ≤ pWi ∧ pWi < 2147483648) : g_Cp l yX5_roomAt wsX5_roomAt { frames := 1, cells := 0, slots := 0, locals := 13 } g [.ref pl, .int (iI x)] n S (some (.int (iI (rmF pWi pHp x)))) := by
  refine g_Cp.of (cc := cX5_roomAt) (maxL := 2) (ret := (some .int)) (by decide) rfl (Nat.le_of_ble_eq_true rfl) ?_
  intro pp ee s m below meth cK Q ls hc hnm hw hl hret
  have hl : lv_has ls 2 [(0, .ref pl), (1, .int (iI x))] := hl
  have hiX5 : ∀ w ∈ u_ws RX5 TX5 9, w ∈ wsX5_roomAt := by decide +kernel
  have lk28 : Cond.fieldLink RX5 28 "RoofCourses$Plan" "wide" "I" ∈ wsX5_roomAt := by decide +kernel
  have lk37 : Cond.fieldLink RX5 37 "RoofCourses$Plan" "hip" "I" ∈ wsX5_roomAt := by decide +kernel
  have lkM72 : Cond.methodLink RX5 72 Lib.Math.max.name ∈ wsX5_roomAt := by decide +kernel
  have lkMsmax : Cond.static Lib.Math.max.name ∈ wsX5_roomAt := by decide +kernel
  have lkMi : Cond.initialized "java/lang/Math" ∈ wsX5_roomAt := by decide +kernel
  have lkMcmax : Cond.code Lib.Math.max.name Lib.Math.max.code 2 (some .int) ∈ wsX5_roomAt := by decide +kernel
  have hrt : ∀ (pc : Nat) (ls : Array Slot) (xr : Int), decode cX5_roomAt pc = .ok (.ireturn, 1) → xr = (rmF pWi pHp x) → W pp l ee ({ frames := 1, cells := 0, slots := 0, locals := 13 } : Room) s m ([.ref pl, .int (iI x)] : List Value).toArray below meth cK s.heap [] 0 0 Q (F0 m pc ls [.int (iI xr)]) := fun pc ls xr d hx => by subst hx; exact hret pc ls ⟨_, rfl, rfl, d⟩
  refine nn_bipush hc dX5_roomAt_0 (by decide +kernel) ?_
  refine lv_aload_n hc.1 hc.2.1 dX5_roomAt_2 rfl (lv_at hl 0 rfl) ?_
  refine nn_get hc hw hp hiX5 rfl 5 (by decide) rfl lk28 dX5_roomAt_3 ?_
  refine lv_aload_n hc.1 hc.2.1 dX5_roomAt_6 rfl (lv_at hl 0 rfl) ?_
  refine nn_get hc hw hp hiX5 rfl 8 (by decide) rfl lk37 dX5_roomAt_7 ?_
  refine lv_iload_n hc.1 hc.2.1 dX5_roomAt_10 rfl (lv_at hl 1 rfl) ?_
  refine nn_imul hc dX5_roomAt_11 ?_
  refine nn_bipush hc dX5_roomAt_12 (by decide +kernel) ?_
  refine nn_idiv hc dX5_roomAt_14 (by omega) (by omega) ?_
  refine nn_isub hc dX5_roomAt_15 ?_
  refine nn_max hc hl.1 (by decide) (by omega) lkM72 lkMsmax lkMi lkMcmax (Nat.le_of_ble_eq_true rfl) (Nat.le_of_ble_eq_true rfl) ⟨Nat.zero_le _, Nat.zero_le _⟩ dX5_roomAt_16 ?_
  exact hrt _ _ _ dX5_roomAt_19 (by first | rfl | omega | (split <;> omega))

set_option maxHeartbeats 4000000 in
set_option maxRecDepth 100000 in
theorem c_X5_isReadyBy (l : Launch) (g : gG) {n : Nat} {S : Nat → gE} {pl : Nat} {nH pHi pWi pLp pBk pHp : Int} {a : Nat} {cL cF cG cR cZ cW cU : Int} (hp : S pl = oO 5 [.ref (pl + 1), .ref (pl + 2), .ref (pl + 3), .int (iI nH), .int (iI pHi), .int (iI pWi), .int (iI pLp), .int (iI pBk), .int (iI pHp)]) (ha : S a = oO 3 [.ref (a + 1), .ref (a + 2), .int (iI cL), .int (iI cF), .int (iI cG), .int (iI cR), .int (iI cZ), .int (iI cW), .int (iI cU)]) (r1 : -2147483648 ≤ cF + cG ∧ cF + cG < 2147483648) (r2 : -2147483648 ≤ pHi ∧ pHi < 2147483648) : g_Cp l yX5_isReadyBy wsX5_isReadyBy { frames := 1, cells := 0, slots := 0, locals := 20 } g [.ref pl, .ref a] n S (some (.int (iI (if pHi ≤ cF + cG then 1 else 0)))) := by
  refine g_Cp.of (cc := cX5_isReadyBy) (maxL := 2) (ret := (some .boolean)) (by decide) rfl (Nat.le_of_ble_eq_true rfl) ?_
  intro pp ee s m below meth cK Q ls hc hnm hw hl hret
  have hl : lv_has ls 2 [(0, .ref pl), (1, .ref a)] := hl
  have hiX5 : ∀ w ∈ u_ws RX5 TX5 9, w ∈ wsX5_isReadyBy := by decide +kernel
  have lk25 : Cond.fieldLink RX5 25 "RoofCourses$Plan" "high" "I" ∈ wsX5_isReadyBy := by decide +kernel
  have hrt : ∀ (pc : Nat) (ls : Array Slot) (xr : Int), decode cX5_isReadyBy pc = .ok (.ireturn, 1) → xr = (if pHi ≤ cF + cG then 1 else 0) → W pp l ee ({ frames := 1, cells := 0, slots := 0, locals := 20 } : Room) s m ([.ref pl, .ref a] : List Value).toArray below meth cK s.heap [] 0 0 Q (F0 m pc ls [.int (iI xr)]) := fun pc ls xr d hx => by subst hx; exact hret pc ls ⟨_, rfl, nn_nb _, d⟩
  refine lv_aload_n hc.1 hc.2.1 dX5_isReadyBy_0 rfl (lv_at hl 1 rfl) ?_
  refine nn_Vp (As := []) (st := []) hc hw ha rfl (c_X3_head l g  ha ) (cwV 0 hc.2.2.2.2 gX5_isReadyBy_X3_head rfl rfl rfl (by decide +kernel) ⟨Nat.le_of_ble_eq_true rfl, Nat.le_of_ble_eq_true rfl⟩) rfl hl.1 rfl (Nat.le_of_ble_eq_true rfl) ⟨Nat.le_of_ble_eq_true rfl, Nat.le_of_ble_eq_true rfl⟩ dX5_isReadyBy_1 ?_
  refine W.eq (g2 := F0 m 4 ls [.int (iI (cF + cG))]) rfl ?_
  refine lv_aload_n hc.1 hc.2.1 dX5_isReadyBy_4 rfl (lv_at hl 0 rfl) ?_
  refine nn_get hc hw hp hiX5 rfl 4 (by decide) rfl lk25 dX5_isReadyBy_5 ?_
  refine nn_icmp_lt hc dX5_isReadyBy_8 (tgt := 15) (by decide) (by omega) (by omega) (fun c1 => ?_) (fun c1 => ?_)
  · refine nn_iconst hc dX5_isReadyBy_15 ?_
    exact hrt _ _ _ dX5_isReadyBy_16 (by first | rfl | omega | (split <;> omega))
  · refine nn_iconst hc dX5_isReadyBy_11 ?_
    refine lv_goto hc.1 hc.2.1 dX5_isReadyBy_12 (tgt := 16) (by decide) ?_
    exact hrt _ _ _ dX5_isReadyBy_16 (by first | rfl | omega | (split <;> omega))

set_option maxHeartbeats 4000000 in
set_option maxRecDepth 100000 in
theorem c_X4_serves (l : Launch) (g : gG) {n : Nat} {S : Nat → gE} {y : Nat} {pl : Nat} {nH pHi pWi pLp pBk pHp : Int} {ln rs : Nat → Int} {a : Nat} {cL cF cG cR cZ cW cU : Int} {h : Int} (hy : S y = oO 4 [.ref pl, .ref (y + 1)]) (hp : S pl = oO 5 [.ref (pl + 1), .ref (pl + 2), .ref (pl + 3), .int (iI nH), .int (iI pHi), .int (iI pWi), .int (iI pLp), .int (iI pBk), .int (iI pHp)]) (hln : S (pl + 1) = oI g 8 ln) (hrs : S (y + 1) = oI g 8 rs) (ha : S a = oO 3 [.ref (a + 1), .ref (a + 2), .int (iI cL), .int (iI cF), .int (iI cG), .int (iI cR), .int (iI cZ), .int (iI cW), .int (iI cU)]) (rh : 0 ≤ h ∧ h < 8) (r1 : -1000000000 ≤ ln h.toNat ∧ ln h.toNat ≤ 1000000000) (r2 : -1000000000 ≤ rs h.toNat ∧ rs h.toNat ≤ 1000000000) (r3 : -1000000000 ≤ cL ∧ cL ≤ 1000000000) : g_Cp l yX4_serves wsX4_serves { frames := 0, cells := 0, slots := 0, locals := 0 } g [.ref y, .int (iI h), .ref a] n S (some (.int (iI (if ln h.toNat = cL ∧ 0 < rs h.toNat then 1 else 0)))) := by
  refine g_Cp.of (cc := cX4_serves) (maxL := 3) (ret := (some .boolean)) (by decide) rfl (Nat.le_of_ble_eq_true rfl) ?_
  intro pp ee s m below meth cK Q ls hc hnm hw hl hret
  have hl : lv_has ls 3 [(0, .ref y), (1, .int (iI h)), (2, .ref a)] := hl
  have hiX4 : ∀ w ∈ u_ws RX4 TX4 2, w ∈ wsX4_serves := by decide +kernel
  have hiX5 : ∀ w ∈ u_ws RX5 TX5 9, w ∈ wsX4_serves := by decide +kernel
  have hiX3 : ∀ w ∈ u_ws RX3 TX3 9, w ∈ wsX4_serves := by decide +kernel
  have lk15 : Cond.fieldLink RX4 15 "RoofCourses$Layer" "plan" "LRoofCourses$Plan;" ∈ wsX4_serves := by decide +kernel
  have lk81 : Cond.fieldLink RX4 81 "RoofCourses$Plan" "length" "[I" ∈ wsX4_serves := by decide +kernel
  have lk84 : Cond.fieldLink RX4 84 "RoofCourses$Course" "length" "I" ∈ wsX4_serves := by decide +kernel
  have lk9 : Cond.fieldLink RX4 9 "RoofCourses$Layer" "rest" "[I" ∈ wsX4_serves := by decide +kernel
  have hrt : ∀ (pc : Nat) (ls : Array Slot) (xr : Int), decode cX4_serves pc = .ok (.ireturn, 1) → xr = (if ln h.toNat = cL ∧ 0 < rs h.toNat then 1 else 0) → W pp l ee ({ frames := 0, cells := 0, slots := 0, locals := 0 } : Room) s m ([.ref y, .int (iI h), .ref a] : List Value).toArray below meth cK s.heap [] 0 0 Q (F0 m pc ls [.int (iI xr)]) := fun pc ls xr d hx => by subst hx; exact hret pc ls ⟨_, rfl, nn_nb _, d⟩
  refine lv_aload_n hc.1 hc.2.1 dX4_serves_0 rfl (lv_at hl 0 rfl) ?_
  refine nn_get hc hw hy hiX4 rfl 0 (by decide) rfl lk15 dX4_serves_1 ?_
  refine nn_get hc hw hp hiX5 rfl 0 (by decide) rfl lk81 dX4_serves_4 ?_
  refine lv_iload_n hc.1 hc.2.1 dX4_serves_7 rfl (lv_at hl 1 rfl) ?_
  refine nn_iald hc hw hln (by omega) (by omega) dX4_serves_8 ?_
  refine lv_aload_n hc.1 hc.2.1 dX4_serves_9 rfl (lv_at hl 2 rfl) ?_
  refine nn_get hc hw ha hiX3 rfl 2 (by decide) rfl lk84 dX4_serves_10 ?_
  refine nn_icmp_ne hc dX4_serves_13 (tgt := 29) (by decide) (by omega) (by omega) (fun c1 => ?_) (fun c1 => ?_)
  · refine nn_iconst hc dX4_serves_29 ?_
    exact hrt _ _ _ dX4_serves_30 (by first | rfl | omega | (split <;> omega))
  · refine lv_aload_n hc.1 hc.2.1 dX4_serves_16 rfl (lv_at hl 0 rfl) ?_
    refine nn_get hc hw hy hiX4 rfl 1 (by decide) rfl lk9 dX4_serves_17 ?_
    refine lv_iload_n hc.1 hc.2.1 dX4_serves_20 rfl (lv_at hl 1 rfl) ?_
    refine nn_iald hc hw hrs (by omega) (by omega) dX4_serves_21 ?_
    refine nn_if_le hc dX4_serves_22 (tgt := 29) (by decide) (by omega) (fun c2 => ?_) (fun c2 => ?_)
    · refine nn_iconst hc dX4_serves_29 ?_
      exact hrt _ _ _ dX4_serves_30 (by first | rfl | omega | (split <;> omega))
    · refine nn_iconst hc dX4_serves_25 ?_
      refine lv_goto hc.1 hc.2.1 dX4_serves_26 (tgt := 30) (by decide) ?_
      exact hrt _ _ _ dX4_serves_30 (by first | rfl | omega | (split <;> omega))

set_option maxHeartbeats 4000000 in
set_option maxRecDepth 100000 in
theorem c_X4_endingAt (l : Launch) (g : gG) {n : Nat} {S : Nat → gE} {y : Nat} {pl : Nat} {nH pHi pWi pLp pBk pHp : Int} {ln br rs : Nat → Int} {a : Nat} {cL cF cG cR cZ cW cU : Int} {p : Int} (hy : S y = oO 4 [.ref pl, .ref (y + 1)]) (hp : S pl = oO 5 [.ref (pl + 1), .ref (pl + 2), .ref (pl + 3), .int (iI nH), .int (iI pHi), .int (iI pWi), .int (iI pLp), .int (iI pBk), .int (iI pHp)]) (hln : S (pl + 1) = oI g 8 ln) (hbr : S (pl + 2) = oI g 8 br) (hrs : S (y + 1) = oI g 8 rs) (ha : S a = oO 3 [.ref (a + 1), .ref (a + 2), .int (iI cL), .int (iI cF), .int (iI cG), .int (iI cR), .int (iI cZ), .int (iI cW), .int (iI cU)]) (rH : 0 ≤ nH ∧ nH ≤ 8) (rP : ∀ i : Nat, (i : Int) < nH → (20 ≤ ln i ∧ ln i ≤ 60) ∧ (10 ≤ br i ∧ br i ≤ 60)) (rR : ∀ i : Nat, (i : Int) < nH → 0 ≤ rs i ∧ rs i ≤ 1000000) (rL : 0 ≤ cL ∧ cL ≤ 60) (rp : 0 ≤ p ∧ p ≤ 1000000) (rRo : 0 ≤ cR ∧ cR ≤ 1000000) : g_Cp l yX4_endingAt wsX4_endingAt { frames := 1, cells := 0, slots := 0, locals := 22 } g [.ref y, .int (iI p), .ref a] n S (some (.int (iI (lstI (pE ln br rs cL cR p) nH.toNat)))) := by
  refine g_Cp.of (cc := cX4_endingAt) (maxL := 4) (ret := (some .int)) (by decide) rfl (Nat.le_of_ble_eq_true rfl) ?_
  intro pp ee s m below meth cK Q ls hc hnm hw hl hret
  have hl : lv_has ls 4 [(0, .ref y), (1, .int (iI p)), (2, .ref a)] := hl
  have hiX4 : ∀ w ∈ u_ws RX4 TX4 2, w ∈ wsX4_endingAt := by decide +kernel
  have hiX5 : ∀ w ∈ u_ws RX5 TX5 9, w ∈ wsX4_endingAt := by decide +kernel
  have hiX3 : ∀ w ∈ u_ws RX3 TX3 9, w ∈ wsX4_endingAt := by decide +kernel
  have lk15 : Cond.fieldLink RX4 15 "RoofCourses$Layer" "plan" "LRoofCourses$Plan;" ∈ wsX4_endingAt := by decide +kernel
  have lk86 : Cond.fieldLink RX4 86 "RoofCourses$Plan" "heaps" "I" ∈ wsX4_endingAt := by decide +kernel
  have lk55 : Cond.fieldLink RX4 55 "RoofCourses$Plan" "breadth" "[I" ∈ wsX4_endingAt := by decide +kernel
  have lk58 : Cond.fieldLink RX4 58 "RoofCourses$Course" "room" "I" ∈ wsX4_endingAt := by decide +kernel
  have hrt : ∀ (pc : Nat) (ls : Array Slot) (xr : Int), decode cX4_endingAt pc = .ok (.ireturn, 1) → xr = (lstI (pE ln br rs cL cR p) nH.toNat) → W pp l ee ({ frames := 1, cells := 0, slots := 0, locals := 22 } : Room) s m ([.ref y, .int (iI p), .ref a] : List Value).toArray below meth cK s.heap [] 0 0 Q (F0 m pc ls [.int (iI xr)]) := fun pc ls xr d hx => by subst hx; exact hret pc ls ⟨_, rfl, rfl, d⟩
  refine lv_aload_n hc.1 hc.2.1 dX4_endingAt_0 rfl (lv_at hl 0 rfl) ?_
  refine nn_get hc hw hy hiX4 rfl 0 (by decide) rfl lk15 dX4_endingAt_1 ?_
  refine nn_get hc hw hp hiX5 rfl 3 (by decide) rfl lk86 dX4_endingAt_4 ?_
  refine nn_iconst hc dX4_endingAt_7 ?_
  refine nn_isub hc dX4_endingAt_8 ?_
  refine lv_istore_n (lv' := [(3, .int (iI (nH - 1))), (0, .ref y), (1, .int (iI p)), (2, .ref a)]) hc.1 hc.2.1 dX4_endingAt_9 rfl hl (by decide) rfl (fun ls hl => ?_)
  have lab10 : ∀ (fu10 : Nat) (h : Int) (ls : Array Slot), (-1 ≤ h ∧ h < nH) → (lstI (pE ln br rs cL cR p) nH.toNat = lstI (pE ln br rs cL cR p) (h + 1).toNat) → (h + 1).toNat < fu10 → lv_has ls 4 [(3, .int (iI h)), (0, .ref y), (1, .int (iI p)), (2, .ref a)] → W pp l ee ({ frames := 1, cells := 0, slots := 0, locals := 22 } : Room) s m ([.ref y, .int (iI p), .ref a] : List Value).toArray below meth cK s.heap [] 0 0 Q (F0 m 10 ls []) := by
    intro fu10
    induction fu10 with
    | zero =>
      intro h ls hh hv hmeas hl
      exact absurd hmeas (Nat.not_lt_zero _)
    | succ fu10 ih10 =>
      intro h ls hh hv hmeas hl
      refine lv_iload_n hc.1 hc.2.1 dX4_endingAt_10 rfl (lv_at hl 0 rfl) ?_
      refine nn_if_lt hc dX4_endingAt_11 (tgt := 49) (by decide) (by omega) (fun c1 => ?_) (fun c1 => ?_)
      · refine nn_bipush hc dX4_endingAt_49 (by decide +kernel) ?_
        exact hrt _ _ _ dX4_endingAt_51 (by rw [hv, show (h + 1).toNat = 0 by omega]; rfl)
      · have hP1 := rP h.toNat (by omega)
        have hR1 := rR h.toNat (by omega)
        refine lv_aload_n hc.1 hc.2.1 dX4_endingAt_14 rfl (lv_at hl 1 rfl) ?_
        refine lv_iload_n hc.1 hc.2.1 dX4_endingAt_15 rfl (lv_at hl 0 rfl) ?_
        refine lv_aload_n hc.1 hc.2.1 dX4_endingAt_16 rfl (lv_at hl 3 rfl) ?_
        refine nn_Vp (As := [.int (iI h), .ref a]) (st := []) hc hw hy rfl (c_X4_serves l g  hy hp hln hrs ha (by omega) (by omega) (by omega) (by omega)) (cwV 2 hc.2.2.2.2 gX4_endingAt_X4_serves rfl rfl rfl (by decide +kernel) ⟨Nat.le_of_ble_eq_true rfl, Nat.le_of_ble_eq_true rfl⟩) rfl hl.1 rfl (Nat.le_of_ble_eq_true rfl) ⟨Nat.le_of_ble_eq_true rfl, Nat.le_of_ble_eq_true rfl⟩ dX4_endingAt_17 ?_
        refine W.eq (g2 := F0 m 20 ls [.int (iI (if ln h.toNat = cL ∧ 0 < rs h.toNat then 1 else 0))]) rfl ?_
        refine nn_if_eq hc dX4_endingAt_20 (tgt := 43) (by decide) (by omega) (fun c2 => ?_) (fun c2 => ?_)
        · refine nn_iinc (lv' := [(3, .int (iI (h + (-1)))), (0, .ref y), (1, .int (iI p)), (2, .ref a)]) hc dX4_endingAt_43 hl (k0 := 0) rfl (by decide) rfl (fun ls hl => ?_)
          refine lv_goto hc.1 hc.2.1 dX4_endingAt_46 (tgt := 10) (by decide) ?_
          exact ih10 (h + (-1)) _ (by omega) (by rw [hv, lstI_miss (by omega) (b_no pE_iff (by omega)), show h + -1 + 1 = h by omega]) (by omega) (lv_sub hl [0, 1, 2, 3] rfl)
        · refine lv_iload_n hc.1 hc.2.1 dX4_endingAt_23 rfl (lv_at hl 2 rfl) ?_
          refine lv_aload_n hc.1 hc.2.1 dX4_endingAt_24 rfl (lv_at hl 1 rfl) ?_
          refine nn_get hc hw hy hiX4 rfl 0 (by decide) rfl lk15 dX4_endingAt_25 ?_
          refine nn_get hc hw hp hiX5 rfl 1 (by decide) rfl lk55 dX4_endingAt_28 ?_
          refine lv_iload_n hc.1 hc.2.1 dX4_endingAt_31 rfl (lv_at hl 0 rfl) ?_
          refine nn_iald hc hw hbr (by omega) (by omega) dX4_endingAt_32 ?_
          refine nn_iadd hc dX4_endingAt_33 ?_
          refine lv_aload_n hc.1 hc.2.1 dX4_endingAt_34 rfl (lv_at hl 3 rfl) ?_
          refine nn_get hc hw ha hiX3 rfl 5 (by decide) rfl lk58 dX4_endingAt_35 ?_
          refine nn_icmp_lt hc dX4_endingAt_38 (tgt := 43) (by decide) (by omega) (by omega) (fun c3 => ?_) (fun c3 => ?_)
          · refine nn_iinc (lv' := [(3, .int (iI (h + (-1)))), (0, .ref y), (1, .int (iI p)), (2, .ref a)]) hc dX4_endingAt_43 hl (k0 := 0) rfl (by decide) rfl (fun ls hl => ?_)
            refine lv_goto hc.1 hc.2.1 dX4_endingAt_46 (tgt := 10) (by decide) ?_
            exact ih10 (h + (-1)) _ (by omega) (by rw [hv, lstI_miss (by omega) (b_no pE_iff (by omega)), show h + -1 + 1 = h by omega]) (by omega) (lv_sub hl [0, 1, 2, 3] rfl)
          · refine lv_iload_n hc.1 hc.2.1 dX4_endingAt_41 rfl (lv_at hl 0 rfl) ?_
            exact hrt _ _ _ dX4_endingAt_42 (by rw [hv, lstI_hit (by omega) (pE_iff.mpr (by omega))])
  exact lab10 _ (nH - 1) _ (by omega) (by rw [show nH - 1 + 1 = nH by omega]) (Nat.lt_succ_self _) (lv_sub hl [0, 1, 2, 3] rfl)

set_option maxHeartbeats 4000000 in
set_option maxRecDepth 100000 in
theorem c_X4_broadestFor (l : Launch) (g : gG) {n : Nat} {S : Nat → gE} {y : Nat} {pl : Nat} {nH pHi pWi pLp pBk pHp : Int} {ln br rs : Nat → Int} {a : Nat} {cL cF cG cR cZ cW cU : Int} (hy : S y = oO 4 [.ref pl, .ref (y + 1)]) (hp : S pl = oO 5 [.ref (pl + 1), .ref (pl + 2), .ref (pl + 3), .int (iI nH), .int (iI pHi), .int (iI pWi), .int (iI pLp), .int (iI pBk), .int (iI pHp)]) (hln : S (pl + 1) = oI g 8 ln) (hrs : S (y + 1) = oI g 8 rs) (ha : S a = oO 3 [.ref (a + 1), .ref (a + 2), .int (iI cL), .int (iI cF), .int (iI cG), .int (iI cR), .int (iI cZ), .int (iI cW), .int (iI cU)]) (rH : 0 ≤ nH ∧ nH ≤ 8) (rP : ∀ i : Nat, (i : Int) < nH → (20 ≤ ln i ∧ ln i ≤ 60) ∧ (10 ≤ br i ∧ br i ≤ 60)) (rR : ∀ i : Nat, (i : Int) < nH → 0 ≤ rs i ∧ rs i ≤ 1000000) (rL : 0 ≤ cL ∧ cL ≤ 60) : g_Cp l yX4_broadestFor wsX4_broadestFor { frames := 1, cells := 0, slots := 0, locals := 22 } g [.ref y, .ref a] n S (some (.int (iI (fstI (srv ln rs cL) nH.toNat)))) := by
  refine g_Cp.of (cc := cX4_broadestFor) (maxL := 3) (ret := (some .int)) (by decide) rfl (Nat.le_of_ble_eq_true rfl) ?_
  intro pp ee s m below meth cK Q ls hc hnm hw hl hret
  have hl : lv_has ls 3 [(0, .ref y), (1, .ref a)] := hl
  have hiX4 : ∀ w ∈ u_ws RX4 TX4 2, w ∈ wsX4_broadestFor := by decide +kernel
  have hiX5 : ∀ w ∈ u_ws RX5 TX5 9, w ∈ wsX4_broadestFor := by decide +kernel
  have lk15 : Cond.fieldLink RX4 15 "RoofCourses$Layer" "plan" "LRoofCourses$Plan;" ∈ wsX4_broadestFor := by decide +kernel
  have lk86 : Cond.fieldLink RX4 86 "RoofCourses$Plan" "heaps" "I" ∈ wsX4_broadestFor := by decide +kernel
  have hrt : ∀ (pc : Nat) (ls : Array Slot) (xr : Int), decode cX4_broadestFor pc = .ok (.ireturn, 1) → xr = (fstI (srv ln rs cL) nH.toNat) → W pp l ee ({ frames := 1, cells := 0, slots := 0, locals := 22 } : Room) s m ([.ref y, .ref a] : List Value).toArray below meth cK s.heap [] 0 0 Q (F0 m pc ls [.int (iI xr)]) := fun pc ls xr d hx => by subst hx; exact hret pc ls ⟨_, rfl, rfl, d⟩
  refine nn_iconst hc dX4_broadestFor_0 ?_
  refine lv_istore_n (lv' := [(2, .int (iI 0)), (0, .ref y), (1, .ref a)]) hc.1 hc.2.1 dX4_broadestFor_1 rfl hl (by decide) rfl (fun ls hl => ?_)
  have lab2 : ∀ (fu2 : Nat) (h : Int) (ls : Array Slot), (0 ≤ h ∧ h ≤ nH) → (∀ i : Nat, (i : Int) < h → srv ln rs cL i = false) → (nH - h).toNat < fu2 → lv_has ls 3 [(2, .int (iI h)), (0, .ref y), (1, .ref a)] → W pp l ee ({ frames := 1, cells := 0, slots := 0, locals := 22 } : Room) s m ([.ref y, .ref a] : List Value).toArray below meth cK s.heap [] 0 0 Q (F0 m 2 ls []) := by
    intro fu2
    induction fu2 with
    | zero =>
      intro h ls hh hv hmeas hl
      exact absurd hmeas (Nat.not_lt_zero _)
    | succ fu2 ih2 =>
      intro h ls hh hv hmeas hl
      refine lv_iload_n hc.1 hc.2.1 dX4_broadestFor_2 rfl (lv_at hl 0 rfl) ?_
      refine lv_aload_n hc.1 hc.2.1 dX4_broadestFor_3 rfl (lv_at hl 1 rfl) ?_
      refine nn_get hc hw hy hiX4 rfl 0 (by decide) rfl lk15 dX4_broadestFor_4 ?_
      refine nn_get hc hw hp hiX5 rfl 3 (by decide) rfl lk86 dX4_broadestFor_7 ?_
      refine nn_icmp_ge hc dX4_broadestFor_10 (tgt := 30) (by decide) (by omega) (by omega) (fun c1 => ?_) (fun c1 => ?_)
      · refine nn_bipush hc dX4_broadestFor_30 (by decide +kernel) ?_
        exact hrt _ _ _ dX4_broadestFor_32 (by rw [fstI_none.mpr (fun i hi => hv i (by omega))])
      · have hP1 := rP h.toNat (by omega)
        have hR1 := rR h.toNat (by omega)
        refine lv_aload_n hc.1 hc.2.1 dX4_broadestFor_13 rfl (lv_at hl 1 rfl) ?_
        refine lv_iload_n hc.1 hc.2.1 dX4_broadestFor_14 rfl (lv_at hl 0 rfl) ?_
        refine lv_aload_n hc.1 hc.2.1 dX4_broadestFor_15 rfl (lv_at hl 2 rfl) ?_
        refine nn_Vp (As := [.int (iI h), .ref a]) (st := []) hc hw hy rfl (c_X4_serves l g  hy hp hln hrs ha (by omega) (by omega) (by omega) (by omega)) (cwV 2 hc.2.2.2.2 gX4_broadestFor_X4_serves rfl rfl rfl (by decide +kernel) ⟨Nat.le_of_ble_eq_true rfl, Nat.le_of_ble_eq_true rfl⟩) rfl hl.1 rfl (Nat.le_of_ble_eq_true rfl) ⟨Nat.le_of_ble_eq_true rfl, Nat.le_of_ble_eq_true rfl⟩ dX4_broadestFor_16 ?_
        refine W.eq (g2 := F0 m 19 ls [.int (iI (if ln h.toNat = cL ∧ 0 < rs h.toNat then 1 else 0))]) rfl ?_
        refine nn_if_eq hc dX4_broadestFor_19 (tgt := 24) (by decide) (by omega) (fun c2 => ?_) (fun c2 => ?_)
        · refine nn_iinc (lv' := [(2, .int (iI (h + 1))), (0, .ref y), (1, .ref a)]) hc dX4_broadestFor_24 hl (k0 := 0) rfl (by decide) rfl (fun ls hl => ?_)
          refine lv_goto hc.1 hc.2.1 dX4_broadestFor_27 (tgt := 2) (by decide) ?_
          exact ih2 (h + 1) _ (by omega) (fun i hi => by rcases Nat.lt_or_ge i h.toNat with q | q; exact hv i (by omega); have e1 : i = h.toNat := (by omega); subst e1; exact b_no srv_iff (by omega)) (by omega) (lv_sub hl [0, 1, 2] rfl)
        · refine lv_iload_n hc.1 hc.2.1 dX4_broadestFor_22 rfl (lv_at hl 0 rfl) ?_
          exact hrt _ _ _ dX4_broadestFor_23 (by rw [fstI_some (h := h.toNat) (by omega) (srv_iff.mpr (by omega)) (fun i hi => hv i (by omega))]; omega)
  exact lab2 _ 0 _ (by omega) (fun i hi => absurd hi (by omega)) (Nat.lt_succ_self _) (lv_sub hl [0, 1, 2] rfl)

set_option maxHeartbeats 4000000 in
set_option maxRecDepth 100000 in
theorem c_X4_brokenAt (l : Launch) (g : gG) {n : Nat} {S : Nat → gE} {y : Nat} {pl : Nat} {nH pHi pWi pLp pBk pHp : Int} {ln br rs : Nat → Int} {a : Nat} {cL cF cG cR cZ cW cU : Int} {bl : Nat} {dL dF dG dR dZ dW dU : Int} {ed : Nat → Int} {p : Int} (hy : S y = oO 4 [.ref pl, .ref (y + 1)]) (hp : S pl = oO 5 [.ref (pl + 1), .ref (pl + 2), .ref (pl + 3), .int (iI nH), .int (iI pHi), .int (iI pWi), .int (iI pLp), .int (iI pBk), .int (iI pHp)]) (hln : S (pl + 1) = oI g 8 ln) (hbr : S (pl + 2) = oI g 8 br) (hrs : S (y + 1) = oI g 8 rs) (ha : S a = oO 3 [.ref (a + 1), .ref (a + 2), .int (iI cL), .int (iI cF), .int (iI cG), .int (iI cR), .int (iI cZ), .int (iI cW), .int (iI cU)]) (hb : S bl = oO 3 [.ref (bl + 1), .ref (bl + 2), .int (iI dL), .int (iI dF), .int (iI dG), .int (iI dR), .int (iI dZ), .int (iI dW), .int (iI dU)]) (hed : S (bl + 2) = oI g 60 ed) (rH : 0 ≤ nH ∧ nH ≤ 8) (rP : ∀ i : Nat, (i : Int) < nH → (20 ≤ ln i ∧ ln i ≤ 60) ∧ (10 ≤ br i ∧ br i ≤ 60)) (rR : ∀ i : Nat, (i : Int) < nH → 0 ≤ rs i ∧ rs i ≤ 1000000) (rL : 0 ≤ cL ∧ cL ≤ 60) (rZb : 0 ≤ dZ ∧ dZ ≤ 60) (red : ∀ k : Nat, (k : Int) < dZ - 1 → -1000000 ≤ ed k ∧ ed k ≤ 1000000) (rbk : 0 ≤ pBk ∧ pBk ≤ 1000000) (rp : 0 ≤ p ∧ p ≤ 1000000) : g_Cp l yX4_brokenAt wsX4_brokenAt { frames := 2, cells := 0, slots := 0, locals := 36 } g [.ref y, .int (iI p), .ref a, .ref bl] n S (some (.int (iI (fstI (pB ln br rs cL ed pBk (dZ - 1).toNat p) nH.toNat)))) := by
  refine g_Cp.of (cc := cX4_brokenAt) (maxL := 5) (ret := (some .int)) (by decide) rfl (Nat.le_of_ble_eq_true rfl) ?_
  intro pp ee s m below meth cK Q ls hc hnm hw hl hret
  have hl : lv_has ls 5 [(0, .ref y), (1, .int (iI p)), (2, .ref a), (3, .ref bl)] := hl
  have hiX4 : ∀ w ∈ u_ws RX4 TX4 2, w ∈ wsX4_brokenAt := by decide +kernel
  have hiX5 : ∀ w ∈ u_ws RX5 TX5 9, w ∈ wsX4_brokenAt := by decide +kernel
  have lk15 : Cond.fieldLink RX4 15 "RoofCourses$Layer" "plan" "LRoofCourses$Plan;" ∈ wsX4_brokenAt := by decide +kernel
  have lk86 : Cond.fieldLink RX4 86 "RoofCourses$Plan" "heaps" "I" ∈ wsX4_brokenAt := by decide +kernel
  have lk55 : Cond.fieldLink RX4 55 "RoofCourses$Plan" "breadth" "[I" ∈ wsX4_brokenAt := by decide +kernel
  have lk93 : Cond.fieldLink RX4 93 "RoofCourses$Plan" "breaking" "I" ∈ wsX4_brokenAt := by decide +kernel
  have hrt : ∀ (pc : Nat) (ls : Array Slot) (xr : Int), decode cX4_brokenAt pc = .ok (.ireturn, 1) → xr = (fstI (pB ln br rs cL ed pBk (dZ - 1).toNat p) nH.toNat) → W pp l ee ({ frames := 2, cells := 0, slots := 0, locals := 36 } : Room) s m ([.ref y, .int (iI p), .ref a, .ref bl] : List Value).toArray below meth cK s.heap [] 0 0 Q (F0 m pc ls [.int (iI xr)]) := fun pc ls xr d hx => by subst hx; exact hret pc ls ⟨_, rfl, rfl, d⟩
  refine nn_iconst hc dX4_brokenAt_0 ?_
  refine lv_istore (lv' := [(4, .int (iI 0)), (0, .ref y), (1, .int (iI p)), (2, .ref a), (3, .ref bl)]) hc.1 hc.2.1 dX4_brokenAt_1 hl (by decide) rfl (fun ls hl => ?_)
  have lab3 : ∀ (fu3 : Nat) (h : Int) (ls : Array Slot), (0 ≤ h ∧ h ≤ nH) → (∀ i : Nat, (i : Int) < h → pB ln br rs cL ed pBk (dZ - 1).toNat p i = false) → (nH - h).toNat < fu3 → lv_has ls 5 [(4, .int (iI h)), (0, .ref y), (1, .int (iI p)), (2, .ref a), (3, .ref bl)] → W pp l ee ({ frames := 2, cells := 0, slots := 0, locals := 36 } : Room) s m ([.ref y, .int (iI p), .ref a, .ref bl] : List Value).toArray below meth cK s.heap [] 0 0 Q (F0 m 3 ls []) := by
    intro fu3
    induction fu3 with
    | zero =>
      intro h ls hh hv hmeas hl
      exact absurd hmeas (Nat.not_lt_zero _)
    | succ fu3 ih3 =>
      intro h ls hh hv hmeas hl
      refine lv_iload hc.1 hc.2.1 dX4_brokenAt_3 (lv_at hl 0 rfl) ?_
      refine lv_aload_n hc.1 hc.2.1 dX4_brokenAt_5 rfl (lv_at hl 1 rfl) ?_
      refine nn_get hc hw hy hiX4 rfl 0 (by decide) rfl lk15 dX4_brokenAt_6 ?_
      refine nn_get hc hw hp hiX5 rfl 3 (by decide) rfl lk86 dX4_brokenAt_9 ?_
      refine nn_icmp_ge hc dX4_brokenAt_12 (tgt := 60) (by decide) (by omega) (by omega) (fun c1 => ?_) (fun c1 => ?_)
      · refine nn_bipush hc dX4_brokenAt_60 (by decide +kernel) ?_
        exact hrt _ _ _ dX4_brokenAt_62 (by rw [fstI_none.mpr (fun i hi => hv i (by omega))])
      · have hP1 := rP h.toNat (by omega)
        have hR1 := rR h.toNat (by omega)
        refine lv_aload_n hc.1 hc.2.1 dX4_brokenAt_15 rfl (lv_at hl 1 rfl) ?_
        refine lv_iload hc.1 hc.2.1 dX4_brokenAt_16 (lv_at hl 0 rfl) ?_
        refine lv_aload_n hc.1 hc.2.1 dX4_brokenAt_18 rfl (lv_at hl 3 rfl) ?_
        refine nn_Vp (As := [.int (iI h), .ref a]) (st := []) hc hw hy rfl (c_X4_serves l g  hy hp hln hrs ha (by omega) (by omega) (by omega) (by omega)) (cwV 2 hc.2.2.2.2 gX4_brokenAt_X4_serves rfl rfl rfl (by decide +kernel) ⟨Nat.le_of_ble_eq_true rfl, Nat.le_of_ble_eq_true rfl⟩) rfl hl.1 rfl (Nat.le_of_ble_eq_true rfl) ⟨Nat.le_of_ble_eq_true rfl, Nat.le_of_ble_eq_true rfl⟩ dX4_brokenAt_19 ?_
        refine W.eq (g2 := F0 m 22 ls [.int (iI (if ln h.toNat = cL ∧ 0 < rs h.toNat then 1 else 0))]) rfl ?_
        refine nn_if_eq hc dX4_brokenAt_22 (tgt := 54) (by decide) (by omega) (fun c2 => ?_) (fun c2 => ?_)
        · have hq2 : True := trivial
          refine nn_iinc (lv' := [(4, .int (iI (h + 1))), (0, .ref y), (1, .int (iI p)), (2, .ref a), (3, .ref bl)]) hc dX4_brokenAt_54 hl (k0 := 0) rfl (by decide) rfl (fun ls hl => ?_)
          refine lv_goto hc.1 hc.2.1 dX4_brokenAt_57 (tgt := 3) (by decide) ?_
          exact ih3 (h + 1) _ (by omega) (fun i hi => by rcases Nat.lt_or_ge i h.toNat with q | q; exact hv i (by omega); have e1 : i = h.toNat := (by omega); subst e1; exact b_no pB_iff (by first | omega | (intro z; rw [if_pos z.2] at hq2; omega))) (by omega) (lv_sub hl [0, 1, 2, 3, 4] rfl)
        · refine lv_aload_n hc.1 hc.2.1 dX4_brokenAt_25 rfl (lv_at hl 4 rfl) ?_
          refine lv_iload_n hc.1 hc.2.1 dX4_brokenAt_26 rfl (lv_at hl 2 rfl) ?_
          refine lv_aload_n hc.1 hc.2.1 dX4_brokenAt_27 rfl (lv_at hl 1 rfl) ?_
          refine nn_get hc hw hy hiX4 rfl 0 (by decide) rfl lk15 dX4_brokenAt_28 ?_
          refine nn_get hc hw hp hiX5 rfl 1 (by decide) rfl lk55 dX4_brokenAt_31 ?_
          refine lv_iload hc.1 hc.2.1 dX4_brokenAt_34 (lv_at hl 0 rfl) ?_
          refine nn_iald hc hw hbr (by omega) (by omega) dX4_brokenAt_36 ?_
          refine nn_iadd hc dX4_brokenAt_37 ?_
          refine lv_aload_n hc.1 hc.2.1 dX4_brokenAt_38 rfl (lv_at hl 1 rfl) ?_
          refine nn_get hc hw hy hiX4 rfl 0 (by decide) rfl lk15 dX4_brokenAt_39 ?_
          refine nn_get hc hw hp hiX5 rfl 7 (by decide) rfl lk93 dX4_brokenAt_42 ?_
          refine nn_Vp (As := [.int (iI (p + (br h.toNat))), .int (iI pBk)]) (st := []) hc hw hb rfl (c_X3_isBrokenAt l g  hb hed (by omega) (by omega) (by omega) (fun k hk => by have := red k hk; omega)) (cwV 2 hc.2.2.2.2 gX4_brokenAt_X3_isBrokenAt rfl rfl rfl (by decide +kernel) ⟨Nat.le_of_ble_eq_true rfl, Nat.le_of_ble_eq_true rfl⟩) rfl hl.1 rfl (Nat.le_of_ble_eq_true rfl) ⟨Nat.le_of_ble_eq_true rfl, Nat.le_of_ble_eq_true rfl⟩ dX4_brokenAt_45 ?_
          refine W.eq (g2 := F0 m 48 ls [.int (iI (if brk ed pBk (p + (br h.toNat)) (dZ - 1).toNat = true then 1 else 0))]) rfl ?_
          refine nn_if_eq hc dX4_brokenAt_48 (tgt := 54) (by decide) (by omega) (fun c3 => ?_) (fun c3 => ?_)
          · have hq2 := c3
            refine nn_iinc (lv' := [(4, .int (iI (h + 1))), (0, .ref y), (1, .int (iI p)), (2, .ref a), (3, .ref bl)]) hc dX4_brokenAt_54 hl (k0 := 0) rfl (by decide) rfl (fun ls hl => ?_)
            refine lv_goto hc.1 hc.2.1 dX4_brokenAt_57 (tgt := 3) (by decide) ?_
            exact ih3 (h + 1) _ (by omega) (fun i hi => by rcases Nat.lt_or_ge i h.toNat with q | q; exact hv i (by omega); have e1 : i = h.toNat := (by omega); subst e1; exact b_no pB_iff (by first | omega | (intro z; rw [if_pos z.2] at hq2; omega))) (by omega) (lv_sub hl [0, 1, 2, 3, 4] rfl)
          · have hq3 := c3
            have hq4 : brk ed pBk (p + br h.toNat) (dZ - 1).toNat = true := Classical.byContradiction (fun z => hq3 (if_neg z))
            refine lv_iload hc.1 hc.2.1 dX4_brokenAt_51 (lv_at hl 0 rfl) ?_
            exact hrt _ _ _ dX4_brokenAt_53 (by rw [fstI_some (h := h.toNat) (by omega) (pB_iff.mpr ⟨by omega, hq4⟩) (fun i hi => hv i (by omega))]; omega)
  exact lab3 _ 0 _ (by omega) (fun i hi => absurd hi (by omega)) (Nat.lt_succ_self _) (lv_sub hl [0, 1, 2, 3, 4] rfl)

set_option maxHeartbeats 4000000 in
set_option maxRecDepth 100000 in
theorem c_X4_cutAt (l : Launch) (g : gG) {n : Nat} {S : Nat → gE} {y : Nat} {pl : Nat} {nH pHi pWi pLp pBk pHp : Int} {bl : Nat} {dL dF dG dR dZ dW dU : Int} {ed : Nat → Int} {p b : Int} (hy : S y = oO 4 [.ref pl, .ref (y + 1)]) (hp : S pl = oO 5 [.ref (pl + 1), .ref (pl + 2), .ref (pl + 3), .int (iI nH), .int (iI pHi), .int (iI pWi), .int (iI pLp), .int (iI pBk), .int (iI pHp)]) (hb : S bl = oO 3 [.ref (bl + 1), .ref (bl + 2), .int (iI dL), .int (iI dF), .int (iI dG), .int (iI dR), .int (iI dZ), .int (iI dW), .int (iI dU)]) (hed : S (bl + 2) = oI g 60 ed) (rZb : 0 ≤ dZ ∧ dZ ≤ 60) (red : ∀ k : Nat, (k : Int) < dZ - 1 → -1000000 ≤ ed k ∧ ed k ≤ 1000000) (rbk : 0 ≤ pBk ∧ pBk ≤ 1000000) (rp : 0 ≤ p ∧ p ≤ 1000000) (rb : 0 ≤ b ∧ b ≤ 1000000) : g_Cp l yX4_cutAt wsX4_cutAt { frames := 2, cells := 0, slots := 0, locals := 36 } g [.ref y, .int (iI p), .int (iI b), .ref bl] n S (some (.int (iI (cutI (fun v => brk ed pBk (p + v) (dZ - 1).toNat) (b - 1).toNat)))) := by
  refine g_Cp.of (cc := cX4_cutAt) (maxL := 5) (ret := (some .int)) (by decide) rfl (Nat.le_of_ble_eq_true rfl) ?_
  intro pp ee s m below meth cK Q ls hc hnm hw hl hret
  have hl : lv_has ls 5 [(0, .ref y), (1, .int (iI p)), (2, .int (iI b)), (3, .ref bl)] := hl
  have hiX4 : ∀ w ∈ u_ws RX4 TX4 2, w ∈ wsX4_cutAt := by decide +kernel
  have hiX5 : ∀ w ∈ u_ws RX5 TX5 9, w ∈ wsX4_cutAt := by decide +kernel
  have lk15 : Cond.fieldLink RX4 15 "RoofCourses$Layer" "plan" "LRoofCourses$Plan;" ∈ wsX4_cutAt := by decide +kernel
  have lk93 : Cond.fieldLink RX4 93 "RoofCourses$Plan" "breaking" "I" ∈ wsX4_cutAt := by decide +kernel
  have hrt : ∀ (pc : Nat) (ls : Array Slot) (xr : Int), decode cX4_cutAt pc = .ok (.ireturn, 1) → xr = (cutI (fun v => brk ed pBk (p + v) (dZ - 1).toNat) (b - 1).toNat) → W pp l ee ({ frames := 2, cells := 0, slots := 0, locals := 36 } : Room) s m ([.ref y, .int (iI p), .int (iI b), .ref bl] : List Value).toArray below meth cK s.heap [] 0 0 Q (F0 m pc ls [.int (iI xr)]) := fun pc ls xr d hx => by subst hx; exact hret pc ls ⟨_, rfl, rfl, d⟩
  refine lv_iload_n hc.1 hc.2.1 dX4_cutAt_0 rfl (lv_at hl 2 rfl) ?_
  refine nn_iconst hc dX4_cutAt_1 ?_
  refine nn_isub hc dX4_cutAt_2 ?_
  refine lv_istore (lv' := [(4, .int (iI (b - 1))), (0, .ref y), (1, .int (iI p)), (2, .int (iI b)), (3, .ref bl)]) hc.1 hc.2.1 dX4_cutAt_3 hl (by decide) rfl (fun ls hl => ?_)
  have lab5 : ∀ (fu5 : Nat) (h : Int) (ls : Array Slot), (-1 ≤ h ∧ h ≤ b) → (cutI (fun v => brk ed pBk (p + v) (dZ - 1).toNat) (b - 1).toNat = cutI (fun v => brk ed pBk (p + v) (dZ - 1).toNat) h.toNat) → (h + 1).toNat < fu5 → lv_has ls 5 [(4, .int (iI h)), (0, .ref y), (1, .int (iI p)), (2, .int (iI b)), (3, .ref bl)] → W pp l ee ({ frames := 2, cells := 0, slots := 0, locals := 36 } : Room) s m ([.ref y, .int (iI p), .int (iI b), .ref bl] : List Value).toArray below meth cK s.heap [] 0 0 Q (F0 m 5 ls []) := by
    intro fu5
    induction fu5 with
    | zero =>
      intro h ls hh hv hmeas hl
      exact absurd hmeas (Nat.not_lt_zero _)
    | succ fu5 ih5 =>
      intro h ls hh hv hmeas hl
      refine lv_iload hc.1 hc.2.1 dX4_cutAt_5 (lv_at hl 0 rfl) ?_
      refine nn_iconst hc dX4_cutAt_7 ?_
      refine nn_icmp_lt hc dX4_cutAt_8 (tgt := 38) (by decide) (by omega) (by decide) (fun c1 => ?_) (fun c1 => ?_)
      · refine nn_bipush hc dX4_cutAt_38 (by decide +kernel) ?_
        exact hrt _ _ _ dX4_cutAt_40 (by rw [hv, show h.toNat = 0 by omega]; rfl)
      · refine lv_aload_n hc.1 hc.2.1 dX4_cutAt_11 rfl (lv_at hl 4 rfl) ?_
        refine lv_iload_n hc.1 hc.2.1 dX4_cutAt_12 rfl (lv_at hl 2 rfl) ?_
        refine lv_iload hc.1 hc.2.1 dX4_cutAt_13 (lv_at hl 0 rfl) ?_
        refine nn_iadd hc dX4_cutAt_15 ?_
        refine lv_aload_n hc.1 hc.2.1 dX4_cutAt_16 rfl (lv_at hl 1 rfl) ?_
        refine nn_get hc hw hy hiX4 rfl 0 (by decide) rfl lk15 dX4_cutAt_17 ?_
        refine nn_get hc hw hp hiX5 rfl 7 (by decide) rfl lk93 dX4_cutAt_20 ?_
        refine nn_Vp (As := [.int (iI (p + h)), .int (iI pBk)]) (st := []) hc hw hb rfl (c_X3_isBrokenAt l g  hb hed (by omega) (by omega) (by omega) (fun k hk => by have := red k hk; omega)) (cwV 2 hc.2.2.2.2 gX4_cutAt_X3_isBrokenAt rfl rfl rfl (by decide +kernel) ⟨Nat.le_of_ble_eq_true rfl, Nat.le_of_ble_eq_true rfl⟩) rfl hl.1 rfl (Nat.le_of_ble_eq_true rfl) ⟨Nat.le_of_ble_eq_true rfl, Nat.le_of_ble_eq_true rfl⟩ dX4_cutAt_23 ?_
        refine W.eq (g2 := F0 m 26 ls [.int (iI (if brk ed pBk (p + h) (dZ - 1).toNat = true then 1 else 0))]) rfl ?_
        refine nn_if_eq hc dX4_cutAt_26 (tgt := 32) (by decide) (by omega) (fun c2 => ?_) (fun c2 => ?_)
        · have hq2 := c2
          refine nn_iinc (lv' := [(4, .int (iI (h + (-1)))), (0, .ref y), (1, .int (iI p)), (2, .int (iI b)), (3, .ref bl)]) hc dX4_cutAt_32 hl (k0 := 0) rfl (by decide) rfl (fun ls hl => ?_)
          refine lv_goto hc.1 hc.2.1 dX4_cutAt_35 (tgt := 5) (by decide) ?_
          exact ih5 (h + (-1)) _ (by omega) (by rw [hv, cutI_miss (by omega) (Bool.eq_false_iff.mpr (fun z => by rw [show ((h.toNat : Nat) : Int) = h by omega] at z; rw [if_pos z] at hq2; omega)), show h - 1 = h + -1 by omega]) (by omega) (lv_sub hl [0, 1, 2, 3, 4] rfl)
        · have hq3 := c2
          have hq4 : brk ed pBk (p + h) (dZ - 1).toNat = true := Classical.byContradiction (fun z => hq3 (if_neg z))
          refine lv_iload hc.1 hc.2.1 dX4_cutAt_29 (lv_at hl 0 rfl) ?_
          exact hrt _ _ _ dX4_cutAt_31 (by rw [hv, cutI_hit (q := fun v => brk ed pBk (p + v) (dZ - 1).toNat) (by omega) (show brk ed pBk (p + (h.toNat : Int)) (dZ - 1).toNat = true by rw [show ((h.toNat : Nat) : Int) = h by omega]; exact hq4)])
  exact lab5 _ (b - 1) _ (by omega) (rfl) (Nat.lt_succ_self _) (lv_sub hl [0, 1, 2, 3, 4] rfl)

