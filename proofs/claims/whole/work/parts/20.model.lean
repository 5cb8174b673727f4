set_option maxHeartbeats 4000000 in
set_option maxRecDepth 100000 in
theorem c_X9_in (l : Launch) (g : gG) {n : Nat} {S : Nat → gE} {x lo hi : Int}  (r_x : -2147483648 ≤ x ∧ x < 2147483648) (r_lo : -2147483648 ≤ lo ∧ lo < 2147483648) (r_hi : -2147483648 ≤ hi ∧ hi < 2147483648) : g_Cp l yX9_in wsX9_in { frames := 0, cells := 0, slots := 0, locals := 0 } g [.int (iI x), .int (iI lo), .int (iI hi)] n S (some (.int (iI (if lo ≤ x ∧ x ≤ hi then 1 else 0)))) := by
  refine g_Cp.of (cc := cX9_in) (maxL := 3) (ret := (some .boolean)) (by decide) rfl (Nat.le_of_ble_eq_true rfl) ?_
  intro pp ee s m below meth cK Q ls hc hnm hw hl hret
  have hl : lv_has ls 3 [(0, .int (iI x)), (1, .int (iI lo)), (2, .int (iI hi))] := hl
  have hrt : ∀ (pc : Nat) (ls : Array Slot) (xr : Int), decode cX9_in pc = .ok (.ireturn, 1) → xr = (if lo ≤ x ∧ x ≤ hi then 1 else 0) → W pp l ee ({ frames := 0, cells := 0, slots := 0, locals := 0 } : Room) s m ([.int (iI x), .int (iI lo), .int (iI hi)] : List Value).toArray below meth cK s.heap [] 0 0 Q (F0 m pc ls [.int (iI xr)]) := fun pc ls xr d hx => by subst hx; exact hret pc ls ⟨_, rfl, nn_nb _, d⟩
  refine lv_iload_n hc.1 hc.2.1 dX9_in_0 rfl (lv_at hl 0 rfl) ?_
  refine lv_iload_n hc.1 hc.2.1 dX9_in_1 rfl (lv_at hl 1 rfl) ?_
  refine nn_icmp_lt hc dX9_in_2 (tgt := 14) (by decide) (by omega) (by omega) (fun c1 => ?_) (fun c1 => ?_)
  · refine nn_iconst hc dX9_in_14 ?_
    exact hrt _ _ _ dX9_in_15 (by first | rfl | omega | (split <;> omega))
  · refine lv_iload_n hc.1 hc.2.1 dX9_in_5 rfl (lv_at hl 0 rfl) ?_
    refine lv_iload_n hc.1 hc.2.1 dX9_in_6 rfl (lv_at hl 2 rfl) ?_
    refine nn_icmp_gt hc dX9_in_7 (tgt := 14) (by decide) (by omega) (by omega) (fun c2 => ?_) (fun c2 => ?_)
    · refine nn_iconst hc dX9_in_14 ?_
      exact hrt _ _ _ dX9_in_15 (by first | rfl | omega | (split <;> omega))
    · refine nn_iconst hc dX9_in_10 ?_
      refine lv_goto hc.1 hc.2.1 dX9_in_11 (tgt := 15) (by decide) ?_
      exact hrt _ _ _ dX9_in_15 (by first | rfl | omega | (split <;> omega))

set_option maxHeartbeats 4000000 in
set_option maxRecDepth 100000 in
theorem c_X9_heapLength (l : Launch) (g : gG) {n : Nat} {S : Nat → gE} {z : Nat} {mLen mAt mHC mRC mHS mJC mCh mVi : Int} {hps : Nat → Int} {h : Int} (hz : S z = oO 9 [.ref (z + 1), .int (iI mLen), .int (iI mAt), .ref (z + 2), .ref (z + 3), .ref (z + 4), .ref (z + 5), .int (iI mHC), .int (iI mRC), .ref (z + 6), .ref (z + 7), .ref (z + 8), .int (iI mHS), .ref (z + 9), .ref (z + 10), .int (iI mJC), .int (iI mCh), .int (iI mVi)]) (hhp : S (z + 4) = oI g 24 hps) (rh : 0 ≤ h ∧ h < 8) : g_Cp l yX9_heapLength wsX9_heapLength { frames := 0, cells := 0, slots := 0, locals := 0 } g [.ref z, .int (iI h)] n S (some (.int (iI (mLn hps h.toNat)))) := by
  refine g_Cp.of (cc := cX9_heapLength) (maxL := 2) (ret := (some .int)) (by decide) rfl (Nat.le_of_ble_eq_true rfl) ?_
  intro pp ee s m below meth cK Q ls hc hnm hw hl hret
  have hl : lv_has ls 2 [(0, .ref z), (1, .int (iI h))] := hl
  have hiX9 : ∀ w ∈ u_ws RX9 TX9 18, w ∈ wsX9_heapLength := by decide +kernel
  have lk19 : Cond.fieldLink RX9 19 "RoofCoursesModel" "heaps" "[I" ∈ wsX9_heapLength := by decide +kernel
  have hrt : ∀ (pc : Nat) (ls : Array Slot) (xr : Int), decode cX9_heapLength pc = .ok (.ireturn, 1) → xr = (mLn hps h.toNat) → W pp l ee ({ frames := 0, cells := 0, slots := 0, locals := 0 } : Room) s m ([.ref z, .int (iI h)] : List Value).toArray below meth cK s.heap [] 0 0 Q (F0 m pc ls [.int (iI xr)]) := fun pc ls xr d hx => by subst hx; exact hret pc ls ⟨_, rfl, rfl, d⟩
  refine lv_aload_n hc.1 hc.2.1 dX9_heapLength_0 rfl (lv_at hl 0 rfl) ?_
  refine nn_get hc hw hz hiX9 rfl 5 (by decide) rfl lk19 dX9_heapLength_1 ?_
  refine nn_iconst hc dX9_heapLength_4 ?_
  refine lv_iload_n hc.1 hc.2.1 dX9_heapLength_5 rfl (lv_at hl 1 rfl) ?_
  refine nn_imul hc dX9_heapLength_6 ?_
  refine nn_iald hc hw hhp (by omega) (by omega) dX9_heapLength_7 ?_
  exact hrt _ _ _ dX9_heapLength_8 (by unfold mLn; congr 1; omega)

set_option maxHeartbeats 4000000 in
set_option maxRecDepth 100000 in
theorem c_X9_breadth (l : Launch) (g : gG) {n : Nat} {S : Nat → gE} {z : Nat} {mLen mAt mHC mRC mHS mJC mCh mVi : Int} {hps : Nat → Int} {h : Int} (hz : S z = oO 9 [.ref (z + 1), .int (iI mLen), .int (iI mAt), .ref (z + 2), .ref (z + 3), .ref (z + 4), .ref (z + 5), .int (iI mHC), .int (iI mRC), .ref (z + 6), .ref (z + 7), .ref (z + 8), .int (iI mHS), .ref (z + 9), .ref (z + 10), .int (iI mJC), .int (iI mCh), .int (iI mVi)]) (hhp : S (z + 4) = oI g 24 hps) (rh : 0 ≤ h ∧ h < 8) : g_Cp l yX9_breadth wsX9_breadth { frames := 0, cells := 0, slots := 0, locals := 0 } g [.ref z, .int (iI h)] n S (some (.int (iI (mBr hps h.toNat)))) := by
  refine g_Cp.of (cc := cX9_breadth) (maxL := 2) (ret := (some .int)) (by decide) rfl (Nat.le_of_ble_eq_true rfl) ?_
  intro pp ee s m below meth cK Q ls hc hnm hw hl hret
  have hl : lv_has ls 2 [(0, .ref z), (1, .int (iI h))] := hl
  have hiX9 : ∀ w ∈ u_ws RX9 TX9 18, w ∈ wsX9_breadth := by decide +kernel
  have lk19 : Cond.fieldLink RX9 19 "RoofCoursesModel" "heaps" "[I" ∈ wsX9_breadth := by decide +kernel
  have hrt : ∀ (pc : Nat) (ls : Array Slot) (xr : Int), decode cX9_breadth pc = .ok (.ireturn, 1) → xr = (mBr hps h.toNat) → W pp l ee ({ frames := 0, cells := 0, slots := 0, locals := 0 } : Room) s m ([.ref z, .int (iI h)] : List Value).toArray below meth cK s.heap [] 0 0 Q (F0 m pc ls [.int (iI xr)]) := fun pc ls xr d hx => by subst hx; exact hret pc ls ⟨_, rfl, rfl, d⟩
  refine lv_aload_n hc.1 hc.2.1 dX9_breadth_0 rfl (lv_at hl 0 rfl) ?_
  refine nn_get hc hw hz hiX9 rfl 5 (by decide) rfl lk19 dX9_breadth_1 ?_
  refine nn_iconst hc dX9_breadth_4 ?_
  refine lv_iload_n hc.1 hc.2.1 dX9_breadth_5 rfl (lv_at hl 1 rfl) ?_
  refine nn_imul hc dX9_breadth_6 ?_
  refine nn_iconst hc dX9_breadth_7 ?_
  refine nn_iadd hc dX9_breadth_8 ?_
  refine nn_iald hc hw hhp (by omega) (by omega) dX9_breadth_9 ?_
  exact hrt _ _ _ dX9_breadth_10 (by unfold mBr; congr 1; omega)

set_option maxHeartbeats 4000000 in
set_option maxRecDepth 100000 in
theorem c_X9_courseLength (l : Launch) (g : gG) {n : Nat} {S : Nat → gE} {z : Nat} {mLen mAt mHC mRC mHS mJC mCh mVi : Int} {nw : Nat → Int} {c : Int} (hz : S z = oO 9 [.ref (z + 1), .int (iI mLen), .int (iI mAt), .ref (z + 2), .ref (z + 3), .ref (z + 4), .ref (z + 5), .int (iI mHC), .int (iI mRC), .ref (z + 6), .ref (z + 7), .ref (z + 8), .int (iI mHS), .ref (z + 9), .ref (z + 10), .int (iI mJC), .int (iI mCh), .int (iI mVi)]) (hnw : S (z + 6) = oI g 1249 nw) (rc : 0 ≤ c ∧ c < 20) : g_Cp l yX9_courseLength wsX9_courseLength { frames := 0, cells := 0, slots := 0, locals := 0 } g [.ref z, .int (iI c)] n S (some (.int (iI (nw (9 + 62 * c.toNat))))) := by
  refine g_Cp.of (cc := cX9_courseLength) (maxL := 2) (ret := (some .int)) (by decide) rfl (Nat.le_of_ble_eq_true rfl) ?_
  intro pp ee s m below meth cK Q ls hc hnm hw hl hret
  have hl : lv_has ls 2 [(0, .ref z), (1, .int (iI c))] := hl
  have hiX9 : ∀ w ∈ u_ws RX9 TX9 18, w ∈ wsX9_courseLength := by decide +kernel
  have lk25 : Cond.fieldLink RX9 25 "RoofCoursesModel" "now" "[I" ∈ wsX9_courseLength := by decide +kernel
  have hrt : ∀ (pc : Nat) (ls : Array Slot) (xr : Int), decode cX9_courseLength pc = .ok (.ireturn, 1) → xr = (nw (9 + 62 * c.toNat)) → W pp l ee ({ frames := 0, cells := 0, slots := 0, locals := 0 } : Room) s m ([.ref z, .int (iI c)] : List Value).toArray below meth cK s.heap [] 0 0 Q (F0 m pc ls [.int (iI xr)]) := fun pc ls xr d hx => by subst hx; exact hret pc ls ⟨_, rfl, rfl, d⟩
  refine lv_aload_n hc.1 hc.2.1 dX9_courseLength_0 rfl (lv_at hl 0 rfl) ?_
  refine nn_get hc hw hz hiX9 rfl 9 (by decide) rfl lk25 dX9_courseLength_1 ?_
  refine nn_bipush hc dX9_courseLength_4 (by decide +kernel) ?_
  refine nn_bipush hc dX9_courseLength_6 (by decide +kernel) ?_
  refine lv_iload_n hc.1 hc.2.1 dX9_courseLength_8 rfl (lv_at hl 1 rfl) ?_
  refine nn_imul hc dX9_courseLength_9 ?_
  refine nn_iadd hc dX9_courseLength_10 ?_
  refine nn_iald hc hw hnw (by omega) (by omega) dX9_courseLength_11 ?_
  exact hrt _ _ _ dX9_courseLength_12 (by congr 1; omega)

set_option maxHeartbeats 4000000 in
set_option maxRecDepth 100000 in
theorem c_X9_slateCount (l : Launch) (g : gG) {n : Nat} {S : Nat → gE} {z : Nat} {mLen mAt mHC mRC mHS mJC mCh mVi : Int} {nw : Nat → Int} {c : Int} (hz : S z = oO 9 [.ref (z + 1), .int (iI mLen), .int (iI mAt), .ref (z + 2), .ref (z + 3), .ref (z + 4), .ref (z + 5), .int (iI mHC), .int (iI mRC), .ref (z + 6), .ref (z + 7), .ref (z + 8), .int (iI mHS), .ref (z + 9), .ref (z + 10), .int (iI mJC), .int (iI mCh), .int (iI mVi)]) (hnw : S (z + 6) = oI g 1249 nw) (rc : 0 ≤ c ∧ c < 20) : g_Cp l yX9_slateCount wsX9_slateCount { frames := 0, cells := 0, slots := 0, locals := 0 } g [.ref z, .int (iI c)] n S (some (.int (iI (nw (9 + 62 * c.toNat + 1))))) := by
  refine g_Cp.of (cc := cX9_slateCount) (maxL := 2) (ret := (some .int)) (by decide) rfl (Nat.le_of_ble_eq_true rfl) ?_
  intro pp ee s m below meth cK Q ls hc hnm hw hl hret
  have hl : lv_has ls 2 [(0, .ref z), (1, .int (iI c))] := hl
  have hiX9 : ∀ w ∈ u_ws RX9 TX9 18, w ∈ wsX9_slateCount := by decide +kernel
  have lk25 : Cond.fieldLink RX9 25 "RoofCoursesModel" "now" "[I" ∈ wsX9_slateCount := by decide +kernel
  have hrt : ∀ (pc : Nat) (ls : Array Slot) (xr : Int), decode cX9_slateCount pc = .ok (.ireturn, 1) → xr = (nw (9 + 62 * c.toNat + 1)) → W pp l ee ({ frames := 0, cells := 0, slots := 0, locals := 0 } : Room) s m ([.ref z, .int (iI c)] : List Value).toArray below meth cK s.heap [] 0 0 Q (F0 m pc ls [.int (iI xr)]) := fun pc ls xr d hx => by subst hx; exact hret pc ls ⟨_, rfl, rfl, d⟩
  refine lv_aload_n hc.1 hc.2.1 dX9_slateCount_0 rfl (lv_at hl 0 rfl) ?_
  refine nn_get hc hw hz hiX9 rfl 9 (by decide) rfl lk25 dX9_slateCount_1 ?_
  refine nn_bipush hc dX9_slateCount_4 (by decide +kernel) ?_
  refine nn_bipush hc dX9_slateCount_6 (by decide +kernel) ?_
  refine lv_iload_n hc.1 hc.2.1 dX9_slateCount_8 rfl (lv_at hl 1 rfl) ?_
  refine nn_imul hc dX9_slateCount_9 ?_
  refine nn_iadd hc dX9_slateCount_10 ?_
  refine nn_iconst hc dX9_slateCount_11 ?_
  refine nn_iadd hc dX9_slateCount_12 ?_
  refine nn_iald hc hw hnw (by omega) (by omega) dX9_slateCount_13 ?_
  exact hrt _ _ _ dX9_slateCount_14 (by congr 1; omega)

set_option maxHeartbeats 4000000 in
set_option maxRecDepth 100000 in
theorem c_X9_slateOf (l : Launch) (g : gG) {n : Nat} {S : Nat → gE} {z : Nat} {mLen mAt mHC mRC mHS mJC mCh mVi : Int} {nw : Nat → Int} {c k : Int} (hz : S z = oO 9 [.ref (z + 1), .int (iI mLen), .int (iI mAt), .ref (z + 2), .ref (z + 3), .ref (z + 4), .ref (z + 5), .int (iI mHC), .int (iI mRC), .ref (z + 6), .ref (z + 7), .ref (z + 8), .int (iI mHS), .ref (z + 9), .ref (z + 10), .int (iI mJC), .int (iI mCh), .int (iI mVi)]) (hnw : S (z + 6) = oI g 1249 nw) (rc : 0 ≤ c ∧ c < 20) (rk : 0 ≤ k ∧ k < 60) : g_Cp l yX9_slateOf wsX9_slateOf { frames := 0, cells := 0, slots := 0, locals := 0 } g [.ref z, .int (iI c), .int (iI k)] n S (some (.int (iI (nw (9 + 62 * c.toNat + 2 + k.toNat))))) := by
  refine g_Cp.of (cc := cX9_slateOf) (maxL := 3) (ret := (some .int)) (by decide) rfl (Nat.le_of_ble_eq_true rfl) ?_
  intro pp ee s m below meth cK Q ls hc hnm hw hl hret
  have hl : lv_has ls 3 [(0, .ref z), (1, .int (iI c)), (2, .int (iI k))] := hl
  have hiX9 : ∀ w ∈ u_ws RX9 TX9 18, w ∈ wsX9_slateOf := by decide +kernel
  have lk25 : Cond.fieldLink RX9 25 "RoofCoursesModel" "now" "[I" ∈ wsX9_slateOf := by decide +kernel
  have hrt : ∀ (pc : Nat) (ls : Array Slot) (xr : Int), decode cX9_slateOf pc = .ok (.ireturn, 1) → xr = (nw (9 + 62 * c.toNat + 2 + k.toNat)) → W pp l ee ({ frames := 0, cells := 0, slots := 0, locals := 0 } : Room) s m ([.ref z, .int (iI c), .int (iI k)] : List Value).toArray below meth cK s.heap [] 0 0 Q (F0 m pc ls [.int (iI xr)]) := fun pc ls xr d hx => by subst hx; exact hret pc ls ⟨_, rfl, rfl, d⟩
  refine lv_aload_n hc.1 hc.2.1 dX9_slateOf_0 rfl (lv_at hl 0 rfl) ?_
  refine nn_get hc hw hz hiX9 rfl 9 (by decide) rfl lk25 dX9_slateOf_1 ?_
  refine nn_bipush hc dX9_slateOf_4 (by decide +kernel) ?_
  refine nn_bipush hc dX9_slateOf_6 (by decide +kernel) ?_
  refine lv_iload_n hc.1 hc.2.1 dX9_slateOf_8 rfl (lv_at hl 1 rfl) ?_
  refine nn_imul hc dX9_slateOf_9 ?_
  refine nn_iadd hc dX9_slateOf_10 ?_
  refine nn_iconst hc dX9_slateOf_11 ?_
  refine nn_iadd hc dX9_slateOf_12 ?_
  refine lv_iload_n hc.1 hc.2.1 dX9_slateOf_13 rfl (lv_at hl 2 rfl) ?_
  refine nn_iadd hc dX9_slateOf_14 ?_
  refine nn_iald hc hw hnw (by omega) (by omega) dX9_slateOf_15 ?_
  exact hrt _ _ _ dX9_slateOf_16 (by congr 1; omega)

set_option maxHeartbeats 4000000 in
set_option maxRecDepth 100000 in
theorem c_X9_gauge (l : Launch) (g : gG) {n : Nat} {S : Nat → gE} {z : Nat} {mLen mAt mHC mRC mHS mJC mCh mVi : Int} {stg : Nat → Int} {x : Int} (hz : S z = oO 9 [.ref (z + 1), .int (iI mLen), .int (iI mAt), .ref (z + 2), .ref (z + 3), .ref (z + 4), .ref (z + 5), .int (iI mHC), .int (iI mRC), .ref (z + 6), .ref (z + 7), .ref (z + 8), .int (iI mHS), .ref (z + 9), .ref (z + 10), .int (iI mJC), .int (iI mCh), .int (iI mVi)]) (hst : S (z + 2) = oI g 5 stg) (rx : 0 ≤ x - stg 2 ∧ x - stg 2 < 2147483648) : g_Cp l yX9_gauge wsX9_gauge { frames := 0, cells := 0, slots := 0, locals := 0 } g [.ref z, .int (iI x)] n S (some (.int (iI ((x - stg 2) / 2)))) := by
  refine g_Cp.of (cc := cX9_gauge) (maxL := 2) (ret := (some .int)) (by decide) rfl (Nat.le_of_ble_eq_true rfl) ?_
  intro pp ee s m below meth cK Q ls hc hnm hw hl hret
  have hl : lv_has ls 2 [(0, .ref z), (1, .int (iI x))] := hl
  have hiX9 : ∀ w ∈ u_ws RX9 TX9 18, w ∈ wsX9_gauge := by decide +kernel
  have lk13 : Cond.fieldLink RX9 13 "RoofCoursesModel" "settings" "[I" ∈ wsX9_gauge := by decide +kernel
  have hrt : ∀ (pc : Nat) (ls : Array Slot) (xr : Int), decode cX9_gauge pc = .ok (.ireturn, 1) → xr = ((x - stg 2) / 2) → W pp l ee ({ frames := 0, cells := 0, slots := 0, locals := 0 } : Room) s m ([.ref z, .int (iI x)] : List Value).toArray below meth cK s.heap [] 0 0 Q (F0 m pc ls [.int (iI xr)]) := fun pc ls xr d hx => by subst hx; exact hret pc ls ⟨_, rfl, rfl, d⟩
  refine lv_iload_n hc.1 hc.2.1 dX9_gauge_0 rfl (lv_at hl 1 rfl) ?_
  refine lv_aload_n hc.1 hc.2.1 dX9_gauge_1 rfl (lv_at hl 0 rfl) ?_
  refine nn_get hc hw hz hiX9 rfl 3 (by decide) rfl lk13 dX9_gauge_2 ?_
  refine nn_iconst hc dX9_gauge_5 ?_
  refine nn_iald hc hw hst (by omega) (by omega) dX9_gauge_6 ?_
  refine W.eq (g2 := F0 m 7 ls [.int (iI (stg 2)), .int (iI x)]) rfl ?_
  refine nn_isub hc dX9_gauge_7 ?_
  refine nn_iconst hc dX9_gauge_8 ?_
  refine nn_idiv hc dX9_gauge_9 (by omega) (by omega) ?_
  exact hrt _ _ _ dX9_gauge_10 (by first | rfl | omega | (split <;> omega))

set_option maxHeartbeats 4000000 in
set_option maxRecDepth 100000 in
theorem c_X9_foot (l : Launch) (g : gG) {n : Nat} {S : Nat → gE} {z : Nat} {mLen mAt mHC mRC mHS mJC mCh mVi : Int} {stg nw : Nat → Int} {c : Int} (hz : S z = oO 9 [.ref (z + 1), .int (iI mLen), .int (iI mAt), .ref (z + 2), .ref (z + 3), .ref (z + 4), .ref (z + 5), .int (iI mHC), .int (iI mRC), .ref (z + 6), .ref (z + 7), .ref (z + 8), .int (iI mHS), .ref (z + 9), .ref (z + 10), .int (iI mJC), .int (iI mCh), .int (iI mVi)]) (hst : S (z + 2) = oI g 5 stg) (hnw : S (z + 6) = oI g 1249 nw) (rc : 0 ≤ c ∧ c ≤ 20) (rg : ∀ k : Nat, (k : Int) < c → 0 ≤ nw (9 + 62 * k) - stg 2 ∧ nw (9 + 62 * k) - stg 2 ≤ 1000) : g_Cp l yX9_foot wsX9_foot { frames := 1, cells := 0, slots := 0, locals := 21 } g [.ref z, .int (iI c)] n S (some (.int (iI (sumI (fun k => (nw (9 + 62 * k) - stg 2) / 2) c.toNat)))) := by
  refine g_Cp.of (cc := cX9_foot) (maxL := 4) (ret := (some .int)) (by decide) rfl (Nat.le_of_ble_eq_true rfl) ?_
  intro pp ee s m below meth cK Q ls hc hnm hw hl hret
  have hl : lv_has ls 4 [(0, .ref z), (1, .int (iI c))] := hl
  have hrt : ∀ (pc : Nat) (ls : Array Slot) (xr : Int), decode cX9_foot pc = .ok (.ireturn, 1) → xr = (sumI (fun k => (nw (9 + 62 * k) - stg 2) / 2) c.toNat) → W pp l ee ({ frames := 1, cells := 0, slots := 0, locals := 21 } : Room) s m ([.ref z, .int (iI c)] : List Value).toArray below meth cK s.heap [] 0 0 Q (F0 m pc ls [.int (iI xr)]) := fun pc ls xr d hx => by subst hx; exact hret pc ls ⟨_, rfl, rfl, d⟩
  refine nn_iconst hc dX9_foot_0 ?_
  refine lv_istore_n (lv' := [(2, .int (iI 0)), (0, .ref z), (1, .int (iI c))]) hc.1 hc.2.1 dX9_foot_1 rfl hl (by decide) rfl (fun ls hl => ?_)
  refine nn_iconst hc dX9_foot_2 ?_
  refine lv_istore_n (lv' := [(3, .int (iI 0)), (2, .int (iI 0)), (0, .ref z), (1, .int (iI c))]) hc.1 hc.2.1 dX9_foot_3 rfl hl (by decide) rfl (fun ls hl => ?_)
  have lab4 : ∀ (fu4 : Nat) (t : Int) (k : Int) (ls : Array Slot), (0 ≤ k ∧ k ≤ c) → (t = sumI (fun k => (nw (9 + 62 * k) - stg 2) / 2) k.toNat) → (c - k).toNat < fu4 → lv_has ls 4 [(2, .int (iI t)), (3, .int (iI k)), (0, .ref z), (1, .int (iI c))] → W pp l ee ({ frames := 1, cells := 0, slots := 0, locals := 21 } : Room) s m ([.ref z, .int (iI c)] : List Value).toArray below meth cK s.heap [] 0 0 Q (F0 m 4 ls []) := by
    intro fu4
    induction fu4 with
    | zero =>
      intro t k ls hk ht hmeas hl
      exact absurd hmeas (Nat.not_lt_zero _)
    | succ fu4 ih4 =>
      intro t k ls hk ht hmeas hl
      refine lv_iload_n hc.1 hc.2.1 dX9_foot_4 rfl (lv_at hl 1 rfl) ?_
      refine lv_iload_n hc.1 hc.2.1 dX9_foot_5 rfl (lv_at hl 3 rfl) ?_
      refine nn_icmp_ge hc dX9_foot_6 (tgt := 27) (by decide) (by omega) (by omega) (fun c1 => ?_) (fun c1 => ?_)
      · refine lv_iload_n hc.1 hc.2.1 dX9_foot_27 rfl (lv_at hl 0 rfl) ?_
        exact hrt _ _ _ dX9_foot_28 (by rw [ht, show k.toNat = c.toNat by omega])
      · have hg1 := rg k.toNat (by omega)
        refine lv_iload_n hc.1 hc.2.1 dX9_foot_9 rfl (lv_at hl 0 rfl) ?_
        refine lv_aload_n hc.1 hc.2.1 dX9_foot_10 rfl (lv_at hl 2 rfl) ?_
        refine lv_aload_n hc.1 hc.2.1 dX9_foot_11 rfl (lv_at hl 2 rfl) ?_
        refine lv_iload_n hc.1 hc.2.1 dX9_foot_12 rfl (lv_at hl 1 rfl) ?_
        refine nn_Vp (As := [.int (iI k)]) (st := [.ref z, .int (iI t)]) hc hw hz rfl (c_X9_courseLength l g  hz hnw (by omega)) (cwV 1 hc.2.2.2.2 gX9_foot_X9_courseLength rfl rfl rfl (by decide +kernel) ⟨Nat.le_of_ble_eq_true rfl, Nat.le_of_ble_eq_true rfl⟩) rfl hl.1 rfl (Nat.le_of_ble_eq_true rfl) ⟨Nat.le_of_ble_eq_true rfl, Nat.le_of_ble_eq_true rfl⟩ dX9_foot_13 ?_
        refine W.eq (g2 := F0 m 16 ls [.int (iI (nw (9 + 62 * k.toNat))), .ref z, .int (iI t)]) rfl ?_
        refine nn_Vp (As := [.int (iI (nw (9 + 62 * k.toNat)))]) (st := [.int (iI t)]) hc hw hz rfl (c_X9_gauge l g  hz hst (by omega)) (cwV 1 hc.2.2.2.2 gX9_foot_X9_gauge rfl rfl rfl (by decide +kernel) ⟨Nat.le_of_ble_eq_true rfl, Nat.le_of_ble_eq_true rfl⟩) rfl hl.1 rfl (Nat.le_of_ble_eq_true rfl) ⟨Nat.le_of_ble_eq_true rfl, Nat.le_of_ble_eq_true rfl⟩ dX9_foot_16 ?_
        refine W.eq (g2 := F0 m 19 ls [.int (iI (((nw (9 + 62 * k.toNat)) - stg 2) / 2)), .int (iI t)]) rfl ?_
        refine nn_iadd hc dX9_foot_19 ?_
        refine lv_istore_n (lv' := [(2, .int (iI (t + (((nw (9 + 62 * k.toNat)) - stg 2) / 2)))), (3, .int (iI k)), (0, .ref z), (1, .int (iI c))]) hc.1 hc.2.1 dX9_foot_20 rfl hl (by decide) rfl (fun ls hl => ?_)
        refine nn_iinc (lv' := [(3, .int (iI (k + 1))), (2, .int (iI (t + (((nw (9 + 62 * k.toNat)) - stg 2) / 2)))), (0, .ref z), (1, .int (iI c))]) hc dX9_foot_21 hl (k0 := 1) rfl (by decide) rfl (fun ls hl => ?_)
        refine lv_goto hc.1 hc.2.1 dX9_foot_24 (tgt := 4) (by decide) ?_
        exact ih4 (t + (((nw (9 + 62 * k.toNat)) - stg 2) / 2)) (k + 1) _ (by omega) (by rw [ht, sumI_s (by omega)]) (by omega) (lv_sub hl [1, 0, 2, 3] rfl)
  exact lab4 _ 0 0 _ (by omega) (rfl) (Nat.lt_succ_self _) (lv_sub hl [1, 0, 2, 3] rfl)

set_option maxHeartbeats 4000000 in
set_option maxRecDepth 100000 in
theorem c_X9_room (l : Launch) (g : gG) {n : Nat} {S : Nat → gE} {z : Nat} {mLen mAt mHC mRC mHS mJC mCh mVi : Int} {stg nw : Nat → Int} {c : Int} (hz : S z = oO 9 [.ref (z + 1), .int (iI mLen), .int (iI mAt), .ref (z + 2), .ref (z + 3), .ref (z + 4), .ref (z + 5), .int (iI mHC), .int (iI mRC), .ref (z + 6), .ref (z + 7), .ref (z + 8), .int (iI mHS), .ref (z + 9), .ref (z + 10), .int (iI mJC), .int (iI mCh), .int (iI mVi)]) (hst : S (z + 2) = oI g 5 stg) (hnw : S (z + 6) = oI g 1249 nw) (rc : 0 ≤ c ∧ c ≤ 20) (rg : ∀ k : Nat, (k : Int) < c → 0 ≤ nw (9 + 62 * k) - stg 2 ∧ nw (9 + 62 * k) - stg 2 ≤ 1000) (rr : (0 ≤ stg 1 ∧ stg 1 ≤ 1000) ∧ (0 ≤ stg 4 * sumI (fun k => (nw (9 + 62 * k) - stg 2) / 2) c.toNat ∧ stg 4 * sumI (fun k => (nw (9 + 62 * k) - stg 2) / 2) c.toNat ≤ 1000000)) : g_Cp l yX9_room wsX9_room { frames := 2, cells := 0, slots := 0, locals := 44 } g [.ref z, .int (iI c)] n S (some (.int (iI (rmF (stg 1) (stg 4) (sumI (fun k => (nw (9 + 62 * k) - stg 2) / 2) c.toNat))))) := by
  refine g_Cp.of (cc := cX9_room) (maxL := 3) (ret := (some .int)) (by decide) rfl (Nat.le_of_ble_eq_true rfl) ?_
  intro pp ee s m below meth cK Q ls hc hnm hw hl hret
  have hl : lv_has ls 3 [(0, .ref z), (1, .int (iI c))] := hl
  have hiX9 : ∀ w ∈ u_ws RX9 TX9 18, w ∈ wsX9_room := by decide +kernel
  have lk13 : Cond.fieldLink RX9 13 "RoofCoursesModel" "settings" "[I" ∈ wsX9_room := by decide +kernel
  have hrt : ∀ (pc : Nat) (ls : Array Slot) (xr : Int), decode cX9_room pc = .ok (.ireturn, 1) → xr = (rmF (stg 1) (stg 4) (sumI (fun k => (nw (9 + 62 * k) - stg 2) / 2) c.toNat)) → W pp l ee ({ frames := 2, cells := 0, slots := 0, locals := 44 } : Room) s m ([.ref z, .int (iI c)] : List Value).toArray below meth cK s.heap [] 0 0 Q (F0 m pc ls [.int (iI xr)]) := fun pc ls xr d hx => by subst hx; exact hret pc ls ⟨_, rfl, rfl, d⟩
  refine lv_aload_n hc.1 hc.2.1 dX9_room_0 rfl (lv_at hl 0 rfl) ?_
  refine nn_get hc hw hz hiX9 rfl 3 (by decide) rfl lk13 dX9_room_1 ?_
  refine nn_iconst hc dX9_room_4 ?_
  refine nn_iald hc hw hst (by omega) (by omega) dX9_room_5 ?_
  refine W.eq (g2 := F0 m 6 ls [.int (iI (stg 1))]) rfl ?_
  refine lv_aload_n hc.1 hc.2.1 dX9_room_6 rfl (lv_at hl 0 rfl) ?_
  refine nn_get hc hw hz hiX9 rfl 3 (by decide) rfl lk13 dX9_room_7 ?_
  refine nn_iconst hc dX9_room_10 ?_
  refine nn_iald hc hw hst (by omega) (by omega) dX9_room_11 ?_
  refine W.eq (g2 := F0 m 12 ls [.int (iI (stg 4)), .int (iI (stg 1))]) rfl ?_
  refine lv_aload_n hc.1 hc.2.1 dX9_room_12 rfl (lv_at hl 0 rfl) ?_
  refine lv_iload_n hc.1 hc.2.1 dX9_room_13 rfl (lv_at hl 1 rfl) ?_
  refine nn_Vp (As := [.int (iI c)]) (st := [.int (iI (stg 4)), .int (iI (stg 1))]) hc hw hz rfl (c_X9_foot l g  hz hst hnw (by omega) (rg)) (cwV 1 hc.2.2.2.2 gX9_room_X9_foot rfl rfl rfl (by decide +kernel) ⟨Nat.le_of_ble_eq_true rfl, Nat.le_of_ble_eq_true rfl⟩) rfl hl.1 rfl (Nat.le_of_ble_eq_true rfl) ⟨Nat.le_of_ble_eq_true rfl, Nat.le_of_ble_eq_true rfl⟩ dX9_room_14 ?_
  refine W.eq (g2 := F0 m 17 ls [.int (iI (sumI (fun k => (nw (9 + 62 * k) - stg 2) / 2) c.toNat)), .int (iI (stg 4)), .int (iI (stg 1))]) rfl ?_
  refine nn_imul hc dX9_room_17 ?_
  refine nn_bipush hc dX9_room_18 (by decide +kernel) ?_
  refine nn_idiv hc dX9_room_20 (by omega) (by omega) ?_
  refine nn_isub hc dX9_room_21 ?_
  refine nn_name (fun xr exr => ?_)
  refine lv_istore_n (lv' := [(2, .int (iI xr)), (0, .ref z), (1, .int (iI c))]) hc.1 hc.2.1 dX9_room_22 rfl hl (by decide) rfl (fun ls hl => ?_)
  refine lv_iload_n hc.1 hc.2.1 dX9_room_23 rfl (lv_at hl 0 rfl) ?_
  refine nn_bipush hc dX9_room_24 (by decide +kernel) ?_
  refine nn_icmp_ge hc dX9_room_26 (tgt := 34) (by decide) (by omega) (by decide) (fun c1 => ?_) (fun c1 => ?_)
  · refine lv_iload_n hc.1 hc.2.1 dX9_room_34 rfl (lv_at hl 0 rfl) ?_
    exact hrt _ _ _ dX9_room_35 (by unfold rmF; first | (rw [if_pos (by omega)]; exact exr) | (rw [if_neg (by omega)]) | (by_cases h9 : 20 < stg 1 - stg 4 * sumI (fun k => (nw (9 + 62 * k) - stg 2) / 2) c.toNat / 10; rw [if_pos h9]; omega; rw [if_neg h9]; omega))
  · refine nn_bipush hc dX9_room_29 (by decide +kernel) ?_
    refine lv_goto hc.1 hc.2.1 dX9_room_31 (tgt := 35) (by decide) ?_
    exact hrt _ _ _ dX9_room_35 (by unfold rmF; first | (rw [if_pos (by omega)]; exact exr) | (rw [if_neg (by omega)]) | (by_cases h9 : 20 < stg 1 - stg 4 * sumI (fun k => (nw (9 + 62 * k) - stg 2) / 2) c.toNat / 10; rw [if_pos h9]; omega; rw [if_neg h9]; omega))

set_option maxHeartbeats 4000000 in
set_option maxRecDepth 100000 in
theorem c_X9_isReady (l : Launch) (g : gG) {n : Nat} {S : Nat → gE} {z : Nat} {mLen mAt mHC mRC mHS mJC mCh mVi : Int} {stg nw : Nat → Int} (hz : S z = oO 9 [.ref (z + 1), .int (iI mLen), .int (iI mAt), .ref (z + 2), .ref (z + 3), .ref (z + 4), .ref (z + 5), .int (iI mHC), .int (iI mRC), .ref (z + 6), .ref (z + 7), .ref (z + 8), .int (iI mHS), .ref (z + 9), .ref (z + 10), .int (iI mJC), .int (iI mCh), .int (iI mVi)]) (hst : S (z + 2) = oI g 5 stg) (hnw : S (z + 6) = oI g 1249 nw) (rc : 0 ≤ nw 8 ∧ nw 8 ≤ 20) (rg : ∀ k : Nat, (k : Int) < nw 8 → 0 ≤ nw (9 + 62 * k) - stg 2 ∧ nw (9 + 62 * k) - stg 2 ≤ 1000) (rr : (0 ≤ stg 0 ∧ stg 0 ≤ 100000) ∧ (0 ≤ sumI (fun k => (nw (9 + 62 * k) - stg 2) / 2) (nw 8).toNat ∧ sumI (fun k => (nw (9 + 62 * k) - stg 2) / 2) (nw 8).toNat ≤ 1000000)) : g_Cp l yX9_isReady wsX9_isReady { frames := 2, cells := 0, slots := 0, locals := 44 } g [.ref z] n S (some (.int (iI (if 0 < nw 8 ∧ stg 0 ≤ sumI (fun k => (nw (9 + 62 * k) - stg 2) / 2) (nw 8).toNat then 1 else 0)))) := by
  refine g_Cp.of (cc := cX9_isReady) (maxL := 1) (ret := (some .boolean)) (by decide) rfl (Nat.le_of_ble_eq_true rfl) ?_
  intro pp ee s m below meth cK Q ls hc hnm hw hl hret
  have hl : lv_has ls 1 [(0, .ref z)] := hl
  have hiX9 : ∀ w ∈ u_ws RX9 TX9 18, w ∈ wsX9_isReady := by decide +kernel
  have lk25 : Cond.fieldLink RX9 25 "RoofCoursesModel" "now" "[I" ∈ wsX9_isReady := by decide +kernel
  have lk13 : Cond.fieldLink RX9 13 "RoofCoursesModel" "settings" "[I" ∈ wsX9_isReady := by decide +kernel
  have hrt : ∀ (pc : Nat) (ls : Array Slot) (xr : Int), decode cX9_isReady pc = .ok (.ireturn, 1) → xr = (if 0 < nw 8 ∧ stg 0 ≤ sumI (fun k => (nw (9 + 62 * k) - stg 2) / 2) (nw 8).toNat then 1 else 0) → W pp l ee ({ frames := 2, cells := 0, slots := 0, locals := 44 } : Room) s m ([.ref z] : List Value).toArray below meth cK s.heap [] 0 0 Q (F0 m pc ls [.int (iI xr)]) := fun pc ls xr d hx => by subst hx; exact hret pc ls ⟨_, rfl, nn_nb _, d⟩
  refine lv_aload_n hc.1 hc.2.1 dX9_isReady_0 rfl (lv_at hl 0 rfl) ?_
  refine nn_get hc hw hz hiX9 rfl 9 (by decide) rfl lk25 dX9_isReady_1 ?_
  refine nn_bipush hc dX9_isReady_4 (by decide +kernel) ?_
  refine nn_iald hc hw hnw (by omega) (by omega) dX9_isReady_6 ?_
  refine W.eq (g2 := F0 m 7 ls [.int (iI (nw 8))]) rfl ?_
  refine nn_if_le hc dX9_isReady_7 (tgt := 34) (by decide) (by omega) (fun c1 => ?_) (fun c1 => ?_)
  · refine nn_iconst hc dX9_isReady_34 ?_
    exact hrt _ _ _ dX9_isReady_35 (by first | rfl | omega | (split <;> omega))
  · refine lv_aload_n hc.1 hc.2.1 dX9_isReady_10 rfl (lv_at hl 0 rfl) ?_
    refine lv_aload_n hc.1 hc.2.1 dX9_isReady_11 rfl (lv_at hl 0 rfl) ?_
    refine nn_get hc hw hz hiX9 rfl 9 (by decide) rfl lk25 dX9_isReady_12 ?_
    refine nn_bipush hc dX9_isReady_15 (by decide +kernel) ?_
    refine nn_iald hc hw hnw (by omega) (by omega) dX9_isReady_17 ?_
    refine W.eq (g2 := F0 m 18 ls [.int (iI (nw 8)), .ref z]) rfl ?_
    refine nn_Vp (As := [.int (iI (nw 8))]) (st := []) hc hw hz rfl (c_X9_foot l g  hz hst hnw (by omega) (rg)) (cwV 1 hc.2.2.2.2 gX9_isReady_X9_foot rfl rfl rfl (by decide +kernel) ⟨Nat.le_of_ble_eq_true rfl, Nat.le_of_ble_eq_true rfl⟩) rfl hl.1 rfl (Nat.le_of_ble_eq_true rfl) ⟨Nat.le_of_ble_eq_true rfl, Nat.le_of_ble_eq_true rfl⟩ dX9_isReady_18 ?_
    refine W.eq (g2 := F0 m 21 ls [.int (iI (sumI (fun k => (nw (9 + 62 * k) - stg 2) / 2) (nw 8).toNat))]) rfl ?_
    refine lv_aload_n hc.1 hc.2.1 dX9_isReady_21 rfl (lv_at hl 0 rfl) ?_
    refine nn_get hc hw hz hiX9 rfl 3 (by decide) rfl lk13 dX9_isReady_22 ?_
    refine nn_iconst hc dX9_isReady_25 ?_
    refine nn_iald hc hw hst (by omega) (by omega) dX9_isReady_26 ?_
    refine W.eq (g2 := F0 m 27 ls [.int (iI (stg 0)), .int (iI (sumI (fun k => (nw (9 + 62 * k) - stg 2) / 2) (nw 8).toNat))]) rfl ?_
    refine nn_icmp_lt hc dX9_isReady_27 (tgt := 34) (by decide) (by omega) (by omega) (fun c2 => ?_) (fun c2 => ?_)
    · refine nn_iconst hc dX9_isReady_34 ?_
      exact hrt _ _ _ dX9_isReady_35 (by first | rfl | omega | (split <;> omega))
    · refine nn_iconst hc dX9_isReady_30 ?_
      refine lv_goto hc.1 hc.2.1 dX9_isReady_31 (tgt := 35) (by decide) ?_
      exact hrt _ _ _ dX9_isReady_35 (by first | rfl | omega | (split <;> omega))

set_option maxHeartbeats 4000000 in
set_option maxRecDepth 100000 in
theorem c_X9_waste (l : Launch) (g : gG) {n : Nat} {S : Nat → gE} {z : Nat} {mLen mAt mHC mRC mHS mJC mCh mVi : Int} {hps nw : Nat → Int} {c cL : Int} {sl : sL} (hz : S z = oO 9 [.ref (z + 1), .int (iI mLen), .int (iI mAt), .ref (z + 2), .ref (z + 3), .ref (z + 4), .ref (z + 5), .int (iI mHC), .int (iI mRC), .ref (z + 6), .ref (z + 7), .ref (z + 8), .int (iI mHS), .ref (z + 9), .ref (z + 10), .int (iI mJC), .int (iI mCh), .int (iI mVi)]) (hnw : S (z + 6) = oI g 1249 nw) (hhp : S (z + 4) = oI g 24 hps) (rc : 0 ≤ c ∧ c < 20) (hrow : rowIs nw c.toNat cL sl) (hok : okS mHC.toNat (mLn hps) (mBr hps) cL sl) (hln : sl.length ≤ 60) (rHC : 0 ≤ mHC ∧ mHC ≤ 8) (rbr : ∀ i : Nat, i < mHC.toNat → 1 ≤ mBr hps i ∧ mBr hps i ≤ 60) : g_Cp l yX9_waste wsX9_waste { frames := 1, cells := 0, slots := 0, locals := 22 } g [.ref z, .int (iI c)] n S (some (.int (iI (wst (mBr hps) cL sl)))) := by
  refine g_Cp.of (cc := cX9_waste) (maxL := 4) (ret := (some .int)) (by decide) rfl (Nat.le_of_ble_eq_true rfl) ?_
  intro pp ee s m below meth cK Q ls hc hnm hw hl hret
  have hl : lv_has ls 4 [(0, .ref z), (1, .int (iI c))] := hl
  have hrt : ∀ (pc : Nat) (ls : Array Slot) (xr : Int), decode cX9_waste pc = .ok (.ireturn, 1) → xr = (wst (mBr hps) cL sl) → W pp l ee ({ frames := 1, cells := 0, slots := 0, locals := 22 } : Room) s m ([.ref z, .int (iI c)] : List Value).toArray below meth cK s.heap [] 0 0 Q (F0 m pc ls [.int (iI xr)]) := fun pc ls xr d hx => by subst hx; exact hret pc ls ⟨_, rfl, rfl, d⟩
  refine nn_iconst hc dX9_waste_0 ?_
  refine lv_istore_n (lv' := [(2, .int (iI 0)), (0, .ref z), (1, .int (iI c))]) hc.1 hc.2.1 dX9_waste_1 rfl hl (by decide) rfl (fun ls hl => ?_)
  refine nn_iconst hc dX9_waste_2 ?_
  refine lv_istore_n (lv' := [(3, .int (iI 0)), (2, .int (iI 0)), (0, .ref z), (1, .int (iI c))]) hc.1 hc.2.1 dX9_waste_3 rfl hl (by decide) rfl (fun ls hl => ?_)
  have lab4 : ∀ (fu4 : Nat) (t : Int) (k : Int) (ls : Array Slot), (0 ≤ k ∧ k ≤ sl.length) → (t = sumI (fun i => mBr hps (slH sl i).toNat - slV sl i) k.toNat) → (60 - k).toNat < fu4 → lv_has ls 4 [(2, .int (iI t)), (3, .int (iI k)), (0, .ref z), (1, .int (iI c))] → W pp l ee ({ frames := 1, cells := 0, slots := 0, locals := 22 } : Room) s m ([.ref z, .int (iI c)] : List Value).toArray below meth cK s.heap [] 0 0 Q (F0 m 4 ls []) := by
    intro fu4
    induction fu4 with
    | zero =>
      intro t k ls hk ht hmeas hl
      exact absurd hmeas (Nat.not_lt_zero _)
    | succ fu4 ih4 =>
      intro t k ls hk ht hmeas hl
      have hrow2 := hrow.2.1
      refine lv_iload_n hc.1 hc.2.1 dX9_waste_4 rfl (lv_at hl 1 rfl) ?_
      refine lv_aload_n hc.1 hc.2.1 dX9_waste_5 rfl (lv_at hl 2 rfl) ?_
      refine lv_iload_n hc.1 hc.2.1 dX9_waste_6 rfl (lv_at hl 3 rfl) ?_
      refine nn_Vp (As := [.int (iI c)]) (st := [.int (iI k)]) hc hw hz rfl (c_X9_slateCount l g  hz hnw (by omega)) (cwV 1 hc.2.2.2.2 gX9_waste_X9_slateCount rfl rfl rfl (by decide +kernel) ⟨Nat.le_of_ble_eq_true rfl, Nat.le_of_ble_eq_true rfl⟩) rfl hl.1 rfl (Nat.le_of_ble_eq_true rfl) ⟨Nat.le_of_ble_eq_true rfl, Nat.le_of_ble_eq_true rfl⟩ dX9_waste_7 ?_
      refine W.eq (g2 := F0 m 10 ls [.int (iI (nw (9 + 62 * c.toNat + 1))), .int (iI k)]) rfl ?_
      refine nn_icmp_ge hc dX9_waste_10 (tgt := 45) (by decide) (by omega) (by omega) (fun c1 => ?_) (fun c1 => ?_)
      · refine lv_iload_n hc.1 hc.2.1 dX9_waste_45 rfl (lv_at hl 0 rfl) ?_
        refine lv_aload_n hc.1 hc.2.1 dX9_waste_46 rfl (lv_at hl 2 rfl) ?_
        refine lv_iload_n hc.1 hc.2.1 dX9_waste_47 rfl (lv_at hl 3 rfl) ?_
        refine nn_Vp (As := [.int (iI c)]) (st := [.int (iI t)]) hc hw hz rfl (c_X9_courseLength l g  hz hnw (by omega)) (cwV 1 hc.2.2.2.2 gX9_waste_X9_courseLength rfl rfl rfl (by decide +kernel) ⟨Nat.le_of_ble_eq_true rfl, Nat.le_of_ble_eq_true rfl⟩) rfl hl.1 rfl (Nat.le_of_ble_eq_true rfl) ⟨Nat.le_of_ble_eq_true rfl, Nat.le_of_ble_eq_true rfl⟩ dX9_waste_48 ?_
        refine W.eq (g2 := F0 m 51 ls [.int (iI (nw (9 + 62 * c.toNat))), .int (iI t)]) rfl ?_
        refine nn_imul hc dX9_waste_51 ?_
        exact hrt _ _ _ dX9_waste_52 (by rw [wst_sum hok, ht, hrow.1, show k.toNat = sl.length by omega])
      · have hs1 := hrow.2.2 k.toNat (by omega)
        have hs2 := slH_ok hok (i := k.toNat) (by omega)
        have hs3 := slV_ok hok (i := k.toNat) (by omega)
        have hs4 := rbr (slH sl k.toNat).toNat (by omega)
        have hd64 := d64 (h := slH sl k.toNat) (v := slV sl k.toNat) (by omega)
        rw [← hs1] at hd64
        have hs5 : mBr hps (nw (9 + 62 * c.toNat + 2 + k.toNat) / 64).toNat = mBr hps (slH sl k.toNat).toNat := by rw [hd64.1]
        refine lv_iload_n hc.1 hc.2.1 dX9_waste_13 rfl (lv_at hl 0 rfl) ?_
        refine lv_aload_n hc.1 hc.2.1 dX9_waste_14 rfl (lv_at hl 2 rfl) ?_
        refine lv_aload_n hc.1 hc.2.1 dX9_waste_15 rfl (lv_at hl 2 rfl) ?_
        refine lv_iload_n hc.1 hc.2.1 dX9_waste_16 rfl (lv_at hl 3 rfl) ?_
        refine lv_iload_n hc.1 hc.2.1 dX9_waste_17 rfl (lv_at hl 1 rfl) ?_
        refine nn_Vp (As := [.int (iI c), .int (iI k)]) (st := [.ref z, .int (iI t)]) hc hw hz rfl (c_X9_slateOf l g  hz hnw (by omega) (by omega)) (cwV 2 hc.2.2.2.2 gX9_waste_X9_slateOf rfl rfl rfl (by decide +kernel) ⟨Nat.le_of_ble_eq_true rfl, Nat.le_of_ble_eq_true rfl⟩) rfl hl.1 rfl (Nat.le_of_ble_eq_true rfl) ⟨Nat.le_of_ble_eq_true rfl, Nat.le_of_ble_eq_true rfl⟩ dX9_waste_18 ?_
        refine W.eq (g2 := F0 m 21 ls [.int (iI (nw (9 + 62 * c.toNat + 2 + k.toNat))), .ref z, .int (iI t)]) rfl ?_
        refine nn_bipush hc dX9_waste_21 (by decide +kernel) ?_
        refine nn_idiv hc dX9_waste_23 (by omega) (by omega) ?_
        refine nn_Vp (As := [.int (iI ((nw (9 + 62 * c.toNat + 2 + k.toNat)) / 64))]) (st := [.int (iI t)]) hc hw hz rfl (c_X9_breadth l g  hz hhp (by omega)) (cwV 1 hc.2.2.2.2 gX9_waste_X9_breadth rfl rfl rfl (by decide +kernel) ⟨Nat.le_of_ble_eq_true rfl, Nat.le_of_ble_eq_true rfl⟩) rfl hl.1 rfl (Nat.le_of_ble_eq_true rfl) ⟨Nat.le_of_ble_eq_true rfl, Nat.le_of_ble_eq_true rfl⟩ dX9_waste_24 ?_
        refine W.eq (g2 := F0 m 27 ls [.int (iI (mBr hps ((nw (9 + 62 * c.toNat + 2 + k.toNat)) / 64).toNat)), .int (iI t)]) rfl ?_
        refine lv_aload_n hc.1 hc.2.1 dX9_waste_27 rfl (lv_at hl 2 rfl) ?_
        refine lv_iload_n hc.1 hc.2.1 dX9_waste_28 rfl (lv_at hl 3 rfl) ?_
        refine lv_iload_n hc.1 hc.2.1 dX9_waste_29 rfl (lv_at hl 1 rfl) ?_
        refine nn_Vp (As := [.int (iI c), .int (iI k)]) (st := [.int (iI (mBr hps ((nw (9 + 62 * c.toNat + 2 + k.toNat)) / 64).toNat)), .int (iI t)]) hc hw hz rfl (c_X9_slateOf l g  hz hnw (by omega) (by omega)) (cwV 2 hc.2.2.2.2 gX9_waste_X9_slateOf rfl rfl rfl (by decide +kernel) ⟨Nat.le_of_ble_eq_true rfl, Nat.le_of_ble_eq_true rfl⟩) rfl hl.1 rfl (Nat.le_of_ble_eq_true rfl) ⟨Nat.le_of_ble_eq_true rfl, Nat.le_of_ble_eq_true rfl⟩ dX9_waste_30 ?_
        refine W.eq (g2 := F0 m 33 ls [.int (iI (nw (9 + 62 * c.toNat + 2 + k.toNat))), .int (iI (mBr hps ((nw (9 + 62 * c.toNat + 2 + k.toNat)) / 64).toNat)), .int (iI t)]) rfl ?_
        refine nn_bipush hc dX9_waste_33 (by decide +kernel) ?_
        refine nn_irem hc dX9_waste_35 (by omega) (by omega) ?_
        refine nn_isub hc dX9_waste_36 ?_
        refine nn_iadd hc dX9_waste_37 ?_
        refine nn_name (fun xt ext => ?_)
        refine lv_istore_n (lv' := [(2, .int (iI xt)), (3, .int (iI k)), (0, .ref z), (1, .int (iI c))]) hc.1 hc.2.1 dX9_waste_38 rfl hl (by decide) rfl (fun ls hl => ?_)
        refine nn_iinc (lv' := [(3, .int (iI (k + 1))), (2, .int (iI xt)), (0, .ref z), (1, .int (iI c))]) hc dX9_waste_39 hl (k0 := 1) rfl (by decide) rfl (fun ls hl => ?_)
        refine lv_goto hc.1 hc.2.1 dX9_waste_42 (tgt := 4) (by decide) ?_
        exact ih4 xt (k + 1) _ (by omega) (by rw [ext, ht, sumI_s (by omega), hd64.1, hd64.2]) (by omega) (lv_sub hl [1, 0, 2, 3] rfl)
  exact lab4 _ 0 0 _ (by omega) (rfl) (Nat.lt_succ_self _) (lv_sub hl [1, 0, 2, 3] rfl)

set_option maxHeartbeats 4000000 in
set_option maxRecDepth 100000 in
theorem c_X9_cutCount (l : Launch) (g : gG) {n : Nat} {S : Nat → gE} {z : Nat} {mLen mAt mHC mRC mHS mJC mCh mVi : Int} {hps nw : Nat → Int} {c cL : Int} {sl : sL} (hz : S z = oO 9 [.ref (z + 1), .int (iI mLen), .int (iI mAt), .ref (z + 2), .ref (z + 3), .ref (z + 4), .ref (z + 5), .int (iI mHC), .int (iI mRC), .ref (z + 6), .ref (z + 7), .ref (z + 8), .int (iI mHS), .ref (z + 9), .ref (z + 10), .int (iI mJC), .int (iI mCh), .int (iI mVi)]) (hnw : S (z + 6) = oI g 1249 nw) (hhp : S (z + 4) = oI g 24 hps) (rc : 0 ≤ c ∧ c < 20) (hrow : rowIs nw c.toNat cL sl) (hok : okS mHC.toNat (mLn hps) (mBr hps) cL sl) (hln : sl.length ≤ 60) (rHC : 0 ≤ mHC ∧ mHC ≤ 8) (rbr : ∀ i : Nat, i < mHC.toNat → 1 ≤ mBr hps i ∧ mBr hps i ≤ 60) : g_Cp l yX9_cutCount wsX9_cutCount { frames := 1, cells := 0, slots := 0, locals := 22 } g [.ref z, .int (iI c)] n S (some (.int (iI (cuts (mBr hps) sl)))) := by
  refine g_Cp.of (cc := cX9_cutCount) (maxL := 4) (ret := (some .int)) (by decide) rfl (Nat.le_of_ble_eq_true rfl) ?_
  intro pp ee s m below meth cK Q ls hc hnm hw hl hret
  have hl : lv_has ls 4 [(0, .ref z), (1, .int (iI c))] := hl
  have hrt : ∀ (pc : Nat) (ls : Array Slot) (xr : Int), decode cX9_cutCount pc = .ok (.ireturn, 1) → xr = (cuts (mBr hps) sl) → W pp l ee ({ frames := 1, cells := 0, slots := 0, locals := 22 } : Room) s m ([.ref z, .int (iI c)] : List Value).toArray below meth cK s.heap [] 0 0 Q (F0 m pc ls [.int (iI xr)]) := fun pc ls xr d hx => by subst hx; exact hret pc ls ⟨_, rfl, rfl, d⟩
  refine nn_iconst hc dX9_cutCount_0 ?_
  refine lv_istore_n (lv' := [(2, .int (iI 0)), (0, .ref z), (1, .int (iI c))]) hc.1 hc.2.1 dX9_cutCount_1 rfl hl (by decide) rfl (fun ls hl => ?_)
  refine nn_iconst hc dX9_cutCount_2 ?_
  refine lv_istore_n (lv' := [(3, .int (iI 0)), (2, .int (iI 0)), (0, .ref z), (1, .int (iI c))]) hc.1 hc.2.1 dX9_cutCount_3 rfl hl (by decide) rfl (fun ls hl => ?_)
  have lab4 : ∀ (fu4 : Nat) (t : Int) (k : Int) (ls : Array Slot), (0 ≤ k ∧ k ≤ sl.length) → (t = sumI (fun i => if slV sl i < mBr hps (slH sl i).toNat then 1 else 0) k.toNat) → (60 - k).toNat < fu4 → lv_has ls 4 [(2, .int (iI t)), (3, .int (iI k)), (0, .ref z), (1, .int (iI c))] → W pp l ee ({ frames := 1, cells := 0, slots := 0, locals := 22 } : Room) s m ([.ref z, .int (iI c)] : List Value).toArray below meth cK s.heap [] 0 0 Q (F0 m 4 ls []) := by
    intro fu4
    induction fu4 with
    | zero =>
      intro t k ls hk ht hmeas hl
      exact absurd hmeas (Nat.not_lt_zero _)
    | succ fu4 ih4 =>
      intro t k ls hk ht hmeas hl
      have hrow2 := hrow.2.1
      refine lv_iload_n hc.1 hc.2.1 dX9_cutCount_4 rfl (lv_at hl 1 rfl) ?_
      refine lv_aload_n hc.1 hc.2.1 dX9_cutCount_5 rfl (lv_at hl 2 rfl) ?_
      refine lv_iload_n hc.1 hc.2.1 dX9_cutCount_6 rfl (lv_at hl 3 rfl) ?_
      refine nn_Vp (As := [.int (iI c)]) (st := [.int (iI k)]) hc hw hz rfl (c_X9_slateCount l g  hz hnw (by omega)) (cwV 1 hc.2.2.2.2 gX9_cutCount_X9_slateCount rfl rfl rfl (by decide +kernel) ⟨Nat.le_of_ble_eq_true rfl, Nat.le_of_ble_eq_true rfl⟩) rfl hl.1 rfl (Nat.le_of_ble_eq_true rfl) ⟨Nat.le_of_ble_eq_true rfl, Nat.le_of_ble_eq_true rfl⟩ dX9_cutCount_7 ?_
      refine W.eq (g2 := F0 m 10 ls [.int (iI (nw (9 + 62 * c.toNat + 1))), .int (iI k)]) rfl ?_
      refine nn_icmp_ge hc dX9_cutCount_10 (tgt := 52) (by decide) (by omega) (by omega) (fun c1 => ?_) (fun c1 => ?_)
      · refine lv_iload_n hc.1 hc.2.1 dX9_cutCount_52 rfl (lv_at hl 0 rfl) ?_
        exact hrt _ _ _ dX9_cutCount_53 (by rw [cuts_sum, ht, show k.toNat = sl.length by omega])
      · have hs1 := hrow.2.2 k.toNat (by omega)
        have hs2 := slH_ok hok (i := k.toNat) (by omega)
        have hs3 := slV_ok hok (i := k.toNat) (by omega)
        have hs4 := rbr (slH sl k.toNat).toNat (by omega)
        have hd64 := d64 (h := slH sl k.toNat) (v := slV sl k.toNat) (by omega)
        rw [← hs1] at hd64
        have hs5 : mBr hps (nw (9 + 62 * c.toNat + 2 + k.toNat) / 64).toNat = mBr hps (slH sl k.toNat).toNat := by rw [hd64.1]
        refine lv_iload_n hc.1 hc.2.1 dX9_cutCount_13 rfl (lv_at hl 0 rfl) ?_
        refine lv_aload_n hc.1 hc.2.1 dX9_cutCount_14 rfl (lv_at hl 2 rfl) ?_
        refine lv_iload_n hc.1 hc.2.1 dX9_cutCount_15 rfl (lv_at hl 3 rfl) ?_
        refine lv_iload_n hc.1 hc.2.1 dX9_cutCount_16 rfl (lv_at hl 1 rfl) ?_
        refine nn_Vp (As := [.int (iI c), .int (iI k)]) (st := [.int (iI t)]) hc hw hz rfl (c_X9_slateOf l g  hz hnw (by omega) (by omega)) (cwV 2 hc.2.2.2.2 gX9_cutCount_X9_slateOf rfl rfl rfl (by decide +kernel) ⟨Nat.le_of_ble_eq_true rfl, Nat.le_of_ble_eq_true rfl⟩) rfl hl.1 rfl (Nat.le_of_ble_eq_true rfl) ⟨Nat.le_of_ble_eq_true rfl, Nat.le_of_ble_eq_true rfl⟩ dX9_cutCount_17 ?_
        refine W.eq (g2 := F0 m 20 ls [.int (iI (nw (9 + 62 * c.toNat + 2 + k.toNat))), .int (iI t)]) rfl ?_
        refine nn_bipush hc dX9_cutCount_20 (by decide +kernel) ?_
        refine nn_irem hc dX9_cutCount_22 (by omega) (by omega) ?_
        refine lv_aload_n hc.1 hc.2.1 dX9_cutCount_23 rfl (lv_at hl 2 rfl) ?_
        refine lv_aload_n hc.1 hc.2.1 dX9_cutCount_24 rfl (lv_at hl 2 rfl) ?_
        refine lv_iload_n hc.1 hc.2.1 dX9_cutCount_25 rfl (lv_at hl 3 rfl) ?_
        refine lv_iload_n hc.1 hc.2.1 dX9_cutCount_26 rfl (lv_at hl 1 rfl) ?_
        refine nn_Vp (As := [.int (iI c), .int (iI k)]) (st := [.ref z, .int (iI ((nw (9 + 62 * c.toNat + 2 + k.toNat)) % 64)), .int (iI t)]) hc hw hz rfl (c_X9_slateOf l g  hz hnw (by omega) (by omega)) (cwV 2 hc.2.2.2.2 gX9_cutCount_X9_slateOf rfl rfl rfl (by decide +kernel) ⟨Nat.le_of_ble_eq_true rfl, Nat.le_of_ble_eq_true rfl⟩) rfl hl.1 rfl (Nat.le_of_ble_eq_true rfl) ⟨Nat.le_of_ble_eq_true rfl, Nat.le_of_ble_eq_true rfl⟩ dX9_cutCount_27 ?_
        refine W.eq (g2 := F0 m 30 ls [.int (iI (nw (9 + 62 * c.toNat + 2 + k.toNat))), .ref z, .int (iI ((nw (9 + 62 * c.toNat + 2 + k.toNat)) % 64)), .int (iI t)]) rfl ?_
        refine nn_bipush hc dX9_cutCount_30 (by decide +kernel) ?_
        refine nn_idiv hc dX9_cutCount_32 (by omega) (by omega) ?_
        refine nn_Vp (As := [.int (iI ((nw (9 + 62 * c.toNat + 2 + k.toNat)) / 64))]) (st := [.int (iI ((nw (9 + 62 * c.toNat + 2 + k.toNat)) % 64)), .int (iI t)]) hc hw hz rfl (c_X9_breadth l g  hz hhp (by omega)) (cwV 1 hc.2.2.2.2 gX9_cutCount_X9_breadth rfl rfl rfl (by decide +kernel) ⟨Nat.le_of_ble_eq_true rfl, Nat.le_of_ble_eq_true rfl⟩) rfl hl.1 rfl (Nat.le_of_ble_eq_true rfl) ⟨Nat.le_of_ble_eq_true rfl, Nat.le_of_ble_eq_true rfl⟩ dX9_cutCount_33 ?_
        refine W.eq (g2 := F0 m 36 ls [.int (iI (mBr hps ((nw (9 + 62 * c.toNat + 2 + k.toNat)) / 64).toNat)), .int (iI ((nw (9 + 62 * c.toNat + 2 + k.toNat)) % 64)), .int (iI t)]) rfl ?_
        refine nn_icmp_ge hc dX9_cutCount_36 (tgt := 43) (by decide) (by omega) (by omega) (fun c2 => ?_) (fun c2 => ?_)
        · have hcc := c2
          refine nn_iconst hc dX9_cutCount_43 ?_
          refine nn_iadd hc dX9_cutCount_44 ?_
          refine lv_istore_n (lv' := [(2, .int (iI (t + 0))), (3, .int (iI k)), (0, .ref z), (1, .int (iI c))]) hc.1 hc.2.1 dX9_cutCount_45 rfl hl (by decide) rfl (fun ls hl => ?_)
          refine nn_iinc (lv' := [(3, .int (iI (k + 1))), (2, .int (iI (t + 0))), (0, .ref z), (1, .int (iI c))]) hc dX9_cutCount_46 hl (k0 := 1) rfl (by decide) rfl (fun ls hl => ?_)
          refine lv_goto hc.1 hc.2.1 dX9_cutCount_49 (tgt := 4) (by decide) ?_
          exact ih4 (t + 0) (k + 1) _ (by omega) (by rw [ht, sumI_s (by omega)]; first | (rw [if_pos (by omega)]) | (rw [if_neg (by omega)])) (by omega) (lv_sub hl [1, 0, 2, 3] rfl)
        · have hcc := c2
          refine nn_iconst hc dX9_cutCount_39 ?_
          refine lv_goto hc.1 hc.2.1 dX9_cutCount_40 (tgt := 44) (by decide) ?_
          refine nn_iadd hc dX9_cutCount_44 ?_
          refine lv_istore_n (lv' := [(2, .int (iI (t + 1))), (3, .int (iI k)), (0, .ref z), (1, .int (iI c))]) hc.1 hc.2.1 dX9_cutCount_45 rfl hl (by decide) rfl (fun ls hl => ?_)
          refine nn_iinc (lv' := [(3, .int (iI (k + 1))), (2, .int (iI (t + 1))), (0, .ref z), (1, .int (iI c))]) hc dX9_cutCount_46 hl (k0 := 1) rfl (by decide) rfl (fun ls hl => ?_)
          refine lv_goto hc.1 hc.2.1 dX9_cutCount_49 (tgt := 4) (by decide) ?_
          exact ih4 (t + 1) (k + 1) _ (by omega) (by rw [ht, sumI_s (by omega)]; first | (rw [if_pos (by omega)]) | (rw [if_neg (by omega)])) (by omega) (lv_sub hl [1, 0, 2, 3] rfl)
  exact lab4 _ 0 0 _ (by omega) (rfl) (Nat.lt_succ_self _) (lv_sub hl [1, 0, 2, 3] rfl)

set_option maxHeartbeats 4000000 in
set_option maxRecDepth 100000 in
theorem c_X9_findJoints (l : Launch) (g : gG) {n : Nat} {S : Nat → gE} {z : Nat} {mLen mAt mHC mRC mHS mJC mCh mVi : Int} {nw js : Nat → Int} {c cL : Int} {sl : sL} (hz : S z = oO 9 [.ref (z + 1), .int (iI mLen), .int (iI mAt), .ref (z + 2), .ref (z + 3), .ref (z + 4), .ref (z + 5), .int (iI mHC), .int (iI mRC), .ref (z + 6), .ref (z + 7), .ref (z + 8), .int (iI mHS), .ref (z + 9), .ref (z + 10), .int (iI mJC), .int (iI mCh), .int (iI mVi)]) (hnw : S (z + 6) = oI g 1249 nw) (hjs : S (z + 10) = oI g 60 js) (rc : 0 ≤ c ∧ c < 20) (hrow : rowIs nw c.toNat cL sl) (hln : 1 ≤ sl.length ∧ sl.length ≤ 60) (hv : ∀ i : Nat, i < sl.length → 0 ≤ slV sl i ∧ slV sl i < 64 ∧ 0 ≤ slH sl i ∧ slH sl i < 8) : g_Cs l yX9_findJoints wsX9_findJoints { frames := 1, cells := 0, slots := 0, locals := 22 } g [.ref z, .int (iI c)] n S (fun vr n1 S1 => ∃ jf : Nat → Int, vr = none ∧ n = n1 ∧ S1 z = oO 9 [.ref (z + 1), .int (iI mLen), .int (iI mAt), .ref (z + 2), .ref (z + 3), .ref (z + 4), .ref (z + 5), .int (iI mHC), .int (iI mRC), .ref (z + 6), .ref (z + 7), .ref (z + 8), .int (iI mHS), .ref (z + 9), .ref (z + 10), .int (iI ((sl.length : Int) - 1)), .int (iI mCh), .int (iI mVi)] ∧ S1 (z + 10) = oI g 60 jf ∧ (∀ i : Nat, i + 1 < sl.length → jf i = slE sl i) ∧ (∀ bb, bb ≠ z → bb ≠ (z + 10) → S1 bb = S bb)) 0 0 := by
  refine g_Cs.of (cc := cX9_findJoints) (maxL := 4) (ret := none) (by decide) rfl (Nat.le_of_ble_eq_true rfl) ?_
  intro pp ee s m below meth cK Q H locs ls hc hnm hw hl hret
  have hl : lv_has ls 4 [(0, .ref z), (1, .int (iI c))] := hl
  have hiX9 : ∀ w ∈ u_ws RX9 TX9 18, w ∈ wsX9_findJoints := by decide +kernel
  have lk111 : Cond.fieldLink RX9 111 "RoofCoursesModel" "jointCount" "I" ∈ wsX9_findJoints := by decide +kernel
  have lk37 : Cond.fieldLink RX9 37 "RoofCoursesModel" "joints" "[I" ∈ wsX9_findJoints := by decide +kernel
  refine lv_aload_n hc.1 hc.2.1 dX9_findJoints_0 rfl (lv_at hl 0 rfl) ?_
  refine nn_iconst hc dX9_findJoints_1 ?_
  refine nn_put hc hw hz hiX9 tyX9 tyX9_ok nmX9 rfl 15 (by decide) (Nat.le_of_ble_eq_true rfl) lk111 rfl rfl rfl dX9_findJoints_2 (fun S1 H locs hS1 fS1 hw => ?_)
  have hS1 : S1 z = oO 9 [.ref (z + 1), .int (iI mLen), .int (iI mAt), .ref (z + 2), .ref (z + 3), .ref (z + 4), .ref (z + 5), .int (iI mHC), .int (iI mRC), .ref (z + 6), .ref (z + 7), .ref (z + 8), .int (iI mHS), .ref (z + 9), .ref (z + 10), .int (iI 0), .int (iI mCh), .int (iI mVi)] := hS1
  refine nn_iconst hc dX9_findJoints_5 ?_
  refine lv_istore_n (lv' := [(2, .int (iI 0)), (0, .ref z), (1, .int (iI c))]) hc.1 hc.2.1 dX9_findJoints_6 rfl hl (by decide) rfl (fun ls hl => ?_)
  refine nn_iconst hc dX9_findJoints_7 ?_
  refine lv_istore_n (lv' := [(3, .int (iI 0)), (2, .int (iI 0)), (0, .ref z), (1, .int (iI c))]) hc.1 hc.2.1 dX9_findJoints_8 rfl hl (by decide) rfl (fun ls hl => ?_)
  have lab9 : ∀ (fu9 : Nat) (t : Int) (k : Int) (f : Nat → Int) (S2 : Nat → gE) (H : Heap) (locs : List Loc) (ls : Array Slot), (0 ≤ k ∧ k + 1 ≤ sl.length) → (t = (if 0 < k then slE sl (k.toNat - 1) else 0)) → (∀ i : Nat, (i : Int) < k → f i = slE sl i) → S2 z = oO 9 [.ref (z + 1), .int (iI mLen), .int (iI mAt), .ref (z + 2), .ref (z + 3), .ref (z + 4), .ref (z + 5), .int (iI mHC), .int (iI mRC), .ref (z + 6), .ref (z + 7), .ref (z + 8), .int (iI mHS), .ref (z + 9), .ref (z + 10), .int (iI k), .int (iI mCh), .int (iI mVi)] → S2 (z + 10) = oI g 60 f → (∀ bb, bb ≠ z → bb ≠ (z + 10) → S2 bb = S1 bb) → g_W g n S2 s H locs → (60 - k).toNat < fu9 → lv_has ls 4 [(2, .int (iI t)), (3, .int (iI k)), (0, .ref z), (1, .int (iI c))] → W pp l ee ({ frames := 1, cells := 0, slots := 0, locals := 22 } : Room) s m ([.ref z, .int (iI c)] : List Value).toArray below meth cK H locs 0 0 Q (F0 m 9 ls []) := by
    intro fu9
    induction fu9 with
    | zero =>
      intro t k f S2 H locs ls hk ht hf hc9_0 hc9_1 fr9 hw hmeas hl
      exact absurd hmeas (Nat.not_lt_zero _)
    | succ fu9 ih9 =>
      intro t k f S2 H locs ls hk ht hf hc9_0 hc9_1 fr9 hw hmeas hl
      have hrow2 := hrow.2.1
      refine lv_iload_n hc.1 hc.2.1 dX9_findJoints_9 rfl (lv_at hl 3 rfl) ?_
      refine nn_if_lt hc dX9_findJoints_10 (tgt := 59) (by decide) (by omega) (fun c3 => ?_) (fun c3 => ?_)
      · exfalso; omega
      · refine lv_iload_n hc.1 hc.2.1 dX9_findJoints_13 rfl (lv_at hl 1 rfl) ?_
        refine nn_iconst hc dX9_findJoints_14 ?_
        refine nn_iadd hc dX9_findJoints_15 ?_
        refine lv_aload_n hc.1 hc.2.1 dX9_findJoints_16 rfl (lv_at hl 2 rfl) ?_
        refine lv_iload_n hc.1 hc.2.1 dX9_findJoints_17 rfl (lv_at hl 3 rfl) ?_
        have e4 : S1 (z + 6) = oI g 1249 nw := (fS1 (z + 6) (off_nr (x := z) (a := 6) (by decide))).trans hnw
        have e5 : S2 (z + 6) = oI g 1249 nw := (fr9 (z + 6) (off_nr (x := z) (a := 6) (by decide)) (off_ne (x := z) (a := 6) (b := 10) (by decide))).trans e4
        refine nn_Vp (As := [.int (iI c)]) (st := [.int (iI (k + 1))]) hc hw hc9_0 rfl (c_X9_slateCount l g  hc9_0 e5 (by omega)) (cwV 1 hc.2.2.2.2 gX9_findJoints_X9_slateCount rfl rfl rfl (by decide +kernel) ⟨Nat.le_of_ble_eq_true rfl, Nat.le_of_ble_eq_true rfl⟩) rfl hl.1 rfl (Nat.le_of_ble_eq_true rfl) ⟨Nat.le_of_ble_eq_true rfl, Nat.le_of_ble_eq_true rfl⟩ dX9_findJoints_18 ?_
        refine W.eq (g2 := F0 m 21 ls [.int (iI (nw (9 + 62 * c.toNat + 1))), .int (iI (k + 1))]) rfl ?_
        refine nn_icmp_ge hc dX9_findJoints_21 (tgt := 59) (by decide) (by omega) (by omega) (fun c6 => ?_) (fun c6 => ?_)
        · exact hret none _ S2 _ _ _ _ hw (⟨_, rfl, rfl, (by rw [show (sl.length : Int) - 1 = k by omega]; exact hc9_0), hc9_1, (fun i hi => hf i (by omega)), fun bb hb0 hb1 => ((fr9 bb hb0 hb1)).trans (fS1 bb hb0)⟩) ⟨rfl, dX9_findJoints_59⟩
        · have hs1 := hrow.2.2 k.toNat (by omega)
          have hs2 := hv k.toNat (by omega)
          have hd64 := d64 (h := slH sl k.toNat) (v := slV sl k.toNat) (by omega)
          rw [← hs1] at hd64
          refine lv_iload_n hc.1 hc.2.1 dX9_findJoints_24 rfl (lv_at hl 0 rfl) ?_
          refine lv_aload_n hc.1 hc.2.1 dX9_findJoints_25 rfl (lv_at hl 2 rfl) ?_
          refine lv_iload_n hc.1 hc.2.1 dX9_findJoints_26 rfl (lv_at hl 3 rfl) ?_
          refine lv_iload_n hc.1 hc.2.1 dX9_findJoints_27 rfl (lv_at hl 1 rfl) ?_
          refine nn_Vp (As := [.int (iI c), .int (iI k)]) (st := [.int (iI t)]) hc hw hc9_0 rfl (c_X9_slateOf l g  hc9_0 e5 (by omega) (by omega)) (cwV 2 hc.2.2.2.2 gX9_findJoints_X9_slateOf rfl rfl rfl (by decide +kernel) ⟨Nat.le_of_ble_eq_true rfl, Nat.le_of_ble_eq_true rfl⟩) rfl hl.1 rfl (Nat.le_of_ble_eq_true rfl) ⟨Nat.le_of_ble_eq_true rfl, Nat.le_of_ble_eq_true rfl⟩ dX9_findJoints_28 ?_
          refine W.eq (g2 := F0 m 31 ls [.int (iI (nw (9 + 62 * c.toNat + 2 + k.toNat))), .int (iI t)]) rfl ?_
          refine nn_bipush hc dX9_findJoints_31 (by decide +kernel) ?_
          refine nn_irem hc dX9_findJoints_33 (by omega) (by omega) ?_
          refine nn_iadd hc dX9_findJoints_34 ?_
          refine nn_name (fun xt ext => ?_)
          refine lv_istore_n (lv' := [(2, .int (iI xt)), (3, .int (iI k)), (0, .ref z), (1, .int (iI c))]) hc.1 hc.2.1 dX9_findJoints_35 rfl hl (by decide) rfl (fun ls hl => ?_)
          have hq0 : (if 0 < k then slE sl (k.toNat - 1) else 0) = (if 0 < k.toNat then slE sl (k.toNat - 1) else 0) := by (repeat' split) <;> omega
          have hxe : xt = slE sl k.toNat := by rw [ext, ht, hd64.2, hq0]; exact (slE_step sl (by omega)).symm
          refine lv_aload_n hc.1 hc.2.1 dX9_findJoints_36 rfl (lv_at hl 2 rfl) ?_
          refine nn_get hc hw hc9_0 hiX9 rfl 14 (by decide) rfl lk37 dX9_findJoints_37 ?_
          refine lv_iload_n hc.1 hc.2.1 dX9_findJoints_40 rfl (lv_at hl 1 rfl) ?_
          refine lv_iload_n hc.1 hc.2.1 dX9_findJoints_41 rfl (lv_at hl 0 rfl) ?_
          refine nn_iast hc hw hc9_1 (by omega) (by omega) dX9_findJoints_42 (fun S7 H locs hS7 fS7 hw => ?_)
          refine lv_aload_n hc.1 hc.2.1 dX9_findJoints_43 rfl (lv_at hl 2 rfl) ?_
          refine lv_dup hc.1 hc.2.1 dX9_findJoints_44 rfl ?_
          have e8 : S7 z = oO 9 [.ref (z + 1), .int (iI mLen), .int (iI mAt), .ref (z + 2), .ref (z + 3), .ref (z + 4), .ref (z + 5), .int (iI mHC), .int (iI mRC), .ref (z + 6), .ref (z + 7), .ref (z + 8), .int (iI mHS), .ref (z + 9), .ref (z + 10), .int (iI k), .int (iI mCh), .int (iI mVi)] := (fS7 z (off_nl (x := z) (a := 10) (by decide))).trans hc9_0
          refine nn_get hc hw e8 hiX9 rfl 15 (by decide) rfl lk111 dX9_findJoints_45 ?_
          refine nn_iconst hc dX9_findJoints_48 ?_
          refine nn_iadd hc dX9_findJoints_49 ?_
          refine nn_put hc hw e8 hiX9 tyX9 tyX9_ok nmX9 rfl 15 (by decide) (Nat.le_of_ble_eq_true rfl) lk111 rfl rfl rfl dX9_findJoints_50 (fun S9 H locs hS9 fS9 hw => ?_)
          have hS9 : S9 z = oO 9 [.ref (z + 1), .int (iI mLen), .int (iI mAt), .ref (z + 2), .ref (z + 3), .ref (z + 4), .ref (z + 5), .int (iI mHC), .int (iI mRC), .ref (z + 6), .ref (z + 7), .ref (z + 8), .int (iI mHS), .ref (z + 9), .ref (z + 10), .int (iI (k + 1)), .int (iI mCh), .int (iI mVi)] := hS9
          refine nn_iinc (lv' := [(3, .int (iI (k + 1))), (2, .int (iI xt)), (0, .ref z), (1, .int (iI c))]) hc dX9_findJoints_53 hl (k0 := 1) rfl (by decide) rfl (fun ls hl => ?_)
          refine lv_goto hc.1 hc.2.1 dX9_findJoints_56 (tgt := 9) (by decide) ?_
          have e10 : S9 (z + 10) = oI g 60 (va_up f k.toNat xt) := (fS9 (z + 10) (off_nr (x := z) (a := 10) (by decide))).trans hS7
          exact ih9 xt (k + 1) (va_up f k.toNat xt) S9 _ _ _ (by omega) (by rw [if_pos (by omega), show (k + 1).toNat - 1 = k.toNat by omega]; exact hxe) (fun i hi => by unfold va_up; by_cases e1 : i = k.toNat; rw [if_pos e1, e1]; exact hxe; rw [if_neg e1]; exact hf i (by omega)) hS9 e10 (fun bb hb0 hb1 => (((fS9 bb hb0)).trans (fS7 bb hb1)).trans (fr9 bb hb0 hb1)) hw (by omega) (lv_sub hl [1, 0, 2, 3] rfl)
  have e11 : S1 (z + 10) = oI g 60 js := (fS1 (z + 10) (off_nr (x := z) (a := 10) (by decide))).trans hjs
  exact lab9 _ 0 0 js S1 _ _ _ (by omega) (rfl) (fun i hi => absurd hi (by omega)) hS1 e11 (fun bb _ _ => rfl) hw (Nat.lt_succ_self _) (lv_sub hl [1, 0, 2, 3] rfl)

set_option maxHeartbeats 4000000 in
set_option maxRecDepth 100000 in
theorem c_X9_findJoints_0 (l : Launch) (g : gG) {n : Nat} {S : Nat → gE} {z : Nat} {mLen mAt mHC mRC mHS mJC mCh mVi : Int} (hz : S z = oO 9 [.ref (z + 1), .int (iI mLen), .int (iI mAt), .ref (z + 2), .ref (z + 3), .ref (z + 4), .ref (z + 5), .int (iI mHC), .int (iI mRC), .ref (z + 6), .ref (z + 7), .ref (z + 8), .int (iI mHS), .ref (z + 9), .ref (z + 10), .int (iI mJC), .int (iI mCh), .int (iI mVi)])  : g_Cs l yX9_findJoints wsX9_findJoints { frames := 0, cells := 0, slots := 0, locals := 0 } g [.ref z, .int (iI (-1))] n S (fun vr n1 S1 => vr = none ∧ n = n1 ∧ S1 z = oO 9 [.ref (z + 1), .int (iI mLen), .int (iI mAt), .ref (z + 2), .ref (z + 3), .ref (z + 4), .ref (z + 5), .int (iI mHC), .int (iI mRC), .ref (z + 6), .ref (z + 7), .ref (z + 8), .int (iI mHS), .ref (z + 9), .ref (z + 10), .int (iI 0), .int (iI mCh), .int (iI mVi)] ∧ (∀ bb, bb ≠ z → S1 bb = S bb)) 0 0 := by
  refine g_Cs.of (cc := cX9_findJoints) (maxL := 4) (ret := none) (by decide) rfl (Nat.le_of_ble_eq_true rfl) ?_
  intro pp ee s m below meth cK Q H locs ls hc hnm hw hl hret
  have hl : lv_has ls 4 [(0, .ref z), (1, .int (iI (-1)))] := hl
  have hiX9 : ∀ w ∈ u_ws RX9 TX9 18, w ∈ wsX9_findJoints := by decide +kernel
  have lk111 : Cond.fieldLink RX9 111 "RoofCoursesModel" "jointCount" "I" ∈ wsX9_findJoints := by decide +kernel
  refine lv_aload_n hc.1 hc.2.1 dX9_findJoints_0 rfl (lv_at hl 0 rfl) ?_
  refine nn_iconst hc dX9_findJoints_1 ?_
  refine nn_put hc hw hz hiX9 tyX9 tyX9_ok nmX9 rfl 15 (by decide) (Nat.le_of_ble_eq_true rfl) lk111 rfl rfl rfl dX9_findJoints_2 (fun S1 H locs hS1 fS1 hw => ?_)
  have hS1 : S1 z = oO 9 [.ref (z + 1), .int (iI mLen), .int (iI mAt), .ref (z + 2), .ref (z + 3), .ref (z + 4), .ref (z + 5), .int (iI mHC), .int (iI mRC), .ref (z + 6), .ref (z + 7), .ref (z + 8), .int (iI mHS), .ref (z + 9), .ref (z + 10), .int (iI 0), .int (iI mCh), .int (iI mVi)] := hS1
  refine nn_iconst hc dX9_findJoints_5 ?_
  refine lv_istore_n (lv' := [(2, .int (iI 0)), (0, .ref z), (1, .int (iI (-1)))]) hc.1 hc.2.1 dX9_findJoints_6 rfl hl (by decide) rfl (fun ls hl => ?_)
  refine nn_iconst hc dX9_findJoints_7 ?_
  refine lv_istore_n (lv' := [(3, .int (iI 0)), (2, .int (iI 0)), (0, .ref z), (1, .int (iI (-1)))]) hc.1 hc.2.1 dX9_findJoints_8 rfl hl (by decide) rfl (fun ls hl => ?_)
  refine lv_iload_n hc.1 hc.2.1 dX9_findJoints_9 rfl (lv_at hl 3 rfl) ?_
  refine nn_if_lt hc dX9_findJoints_10 (tgt := 59) (by decide) (by decide) (fun c2 => ?_) (fun c2 => ?_)
  · exact hret none _ S1 _ _ _ _ hw (⟨rfl, rfl, hS1, fun bb hb0 => (fS1 bb hb0)⟩) ⟨rfl, dX9_findJoints_59⟩
  · exact absurd c2 (by decide)

set_option maxHeartbeats 4000000 in
set_option maxRecDepth 100000 in
theorem c_X9_isBroken (l : Launch) (g : gG) {n : Nat} {S : Nat → gE} {z : Nat} {mLen mAt mHC mRC mHS mJC mCh mVi : Int} {stg js : Nat → Int} {p : Int} (hz : S z = oO 9 [.ref (z + 1), .int (iI mLen), .int (iI mAt), .ref (z + 2), .ref (z + 3), .ref (z + 4), .ref (z + 5), .int (iI mHC), .int (iI mRC), .ref (z + 6), .ref (z + 7), .ref (z + 8), .int (iI mHS), .ref (z + 9), .ref (z + 10), .int (iI mJC), .int (iI mCh), .int (iI mVi)]) (hst : S (z + 2) = oI g 5 stg) (hjs : S (z + 10) = oI g 60 js) (rJ : 0 ≤ mJC ∧ mJC ≤ 59) (rp : -1000000 ≤ p ∧ p ≤ 1000000) (rb : 1 ≤ stg 3 ∧ stg 3 ≤ 1000) (rj : ∀ i : Nat, (i : Int) < mJC → -1000000 ≤ js i ∧ js i ≤ 1000000) : g_Cp l yX9_isBroken wsX9_isBroken { frames := 0, cells := 0, slots := 0, locals := 0 } g [.ref z, .int (iI p)] n S (some (.int (iI (if brk js (stg 3) p mJC.toNat = true then 1 else 0)))) := by
  refine g_Cp.of (cc := cX9_isBroken) (maxL := 5) (ret := (some .boolean)) (by decide) rfl (Nat.le_of_ble_eq_true rfl) ?_
  intro pp ee s m below meth cK Q ls hc hnm hw hl hret
  have hl : lv_has ls 5 [(0, .ref z), (1, .int (iI p))] := hl
  have hiX9 : ∀ w ∈ u_ws RX9 TX9 18, w ∈ wsX9_isBroken := by decide +kernel
  have lk111 : Cond.fieldLink RX9 111 "RoofCoursesModel" "jointCount" "I" ∈ wsX9_isBroken := by decide +kernel
  have lk37 : Cond.fieldLink RX9 37 "RoofCoursesModel" "joints" "[I" ∈ wsX9_isBroken := by decide +kernel
  have lk13 : Cond.fieldLink RX9 13 "RoofCoursesModel" "settings" "[I" ∈ wsX9_isBroken := by decide +kernel
  have hrt : ∀ (pc : Nat) (ls : Array Slot) (xr : Int), decode cX9_isBroken pc = .ok (.ireturn, 1) → xr = (if brk js (stg 3) p mJC.toNat = true then 1 else 0) → W pp l ee ({ frames := 0, cells := 0, slots := 0, locals := 0 } : Room) s m ([.ref z, .int (iI p)] : List Value).toArray below meth cK s.heap [] 0 0 Q (F0 m pc ls [.int (iI xr)]) := fun pc ls xr d hx => by subst hx; exact hret pc ls ⟨_, rfl, nn_nb _, d⟩
  refine nn_iconst hc dX9_isBroken_0 ?_
  refine lv_istore_n (lv' := [(2, .int (iI 1)), (0, .ref z), (1, .int (iI p))]) hc.1 hc.2.1 dX9_isBroken_1 rfl hl (by decide) rfl (fun ls hl => ?_)
  refine nn_iconst hc dX9_isBroken_2 ?_
  refine lv_istore_n (lv' := [(3, .int (iI 0)), (2, .int (iI 1)), (0, .ref z), (1, .int (iI p))]) hc.1 hc.2.1 dX9_isBroken_3 rfl hl (by decide) rfl (fun ls hl => ?_)
  have lab4 : ∀ (fu4 : Nat) (b : Int) (k : Int) (ls : Array Slot), (0 ≤ k ∧ k ≤ mJC) → ((b = 1 ∧ brk js (stg 3) p k.toNat = true) ∨ (b = 0 ∧ brk js (stg 3) p k.toNat = false)) → (mJC - k).toNat < fu4 → lv_has ls 5 [(2, .int (iI b)), (3, .int (iI k)), (0, .ref z), (1, .int (iI p))] → W pp l ee ({ frames := 0, cells := 0, slots := 0, locals := 0 } : Room) s m ([.ref z, .int (iI p)] : List Value).toArray below meth cK s.heap [] 0 0 Q (F0 m 4 ls []) := by
    intro fu4
    induction fu4 with
    | zero =>
      intro b k ls hk hb hmeas hl
      exact absurd hmeas (Nat.not_lt_zero _)
    | succ fu4 ih4 =>
      intro b k ls hk hb hmeas hl
      refine lv_iload_n hc.1 hc.2.1 dX9_isBroken_4 rfl (lv_at hl 1 rfl) ?_
      refine lv_aload_n hc.1 hc.2.1 dX9_isBroken_5 rfl (lv_at hl 2 rfl) ?_
      refine nn_get hc hw hz hiX9 rfl 15 (by decide) rfl lk111 dX9_isBroken_6 ?_
      refine nn_icmp_ge hc dX9_isBroken_9 (tgt := 61) (by decide) (by omega) (by omega) (fun c1 => ?_) (fun c1 => ?_)
      · refine lv_iload_n hc.1 hc.2.1 dX9_isBroken_61 rfl (lv_at hl 0 rfl) ?_
        exact hrt _ _ _ dX9_isBroken_62 (by rw [show mJC.toNat = k.toNat by omega]; rcases hb with ⟨h1, h2⟩ | ⟨h1, h2⟩; rw [if_pos h2]; exact h1; rw [if_neg (by rw [h2]; decide)]; exact h1)
      · have hj1 := rj k.toNat (by omega)
        refine lv_iload_n hc.1 hc.2.1 dX9_isBroken_12 rfl (lv_at hl 3 rfl) ?_
        refine lv_aload_n hc.1 hc.2.1 dX9_isBroken_13 rfl (lv_at hl 2 rfl) ?_
        refine nn_get hc hw hz hiX9 rfl 14 (by decide) rfl lk37 dX9_isBroken_14 ?_
        refine lv_iload_n hc.1 hc.2.1 dX9_isBroken_17 rfl (lv_at hl 1 rfl) ?_
        refine nn_iald hc hw hjs (by omega) (by omega) dX9_isBroken_18 ?_
        refine nn_isub hc dX9_isBroken_19 ?_
        refine lv_istore (lv' := [(4, .int (iI (p - (js k.toNat)))), (2, .int (iI b)), (3, .int (iI k)), (0, .ref z), (1, .int (iI p))]) hc.1 hc.2.1 dX9_isBroken_20 hl (by decide) rfl (fun ls hl => ?_)
        refine lv_iload_n hc.1 hc.2.1 dX9_isBroken_22 rfl (lv_at hl 1 rfl) ?_
        refine nn_if_eq hc dX9_isBroken_23 (tgt := 53) (by decide) (by omega) (fun c2 => ?_) (fun c2 => ?_)
        · refine nn_iconst hc dX9_isBroken_53 ?_
          refine lv_istore_n (lv' := [(2, .int (iI 0)), (4, .int (iI (p - (js k.toNat)))), (3, .int (iI k)), (0, .ref z), (1, .int (iI p))]) hc.1 hc.2.1 dX9_isBroken_54 rfl hl (by decide) rfl (fun ls hl => ?_)
          refine nn_iinc (lv' := [(3, .int (iI (k + 1))), (2, .int (iI 0)), (4, .int (iI (p - (js k.toNat)))), (0, .ref z), (1, .int (iI p))]) hc dX9_isBroken_55 hl (k0 := 2) rfl (by decide) rfl (fun ls hl => ?_)
          refine lv_goto hc.1 hc.2.1 dX9_isBroken_58 (tgt := 4) (by decide) ?_
          exact ih4 0 (k + 1) _ (by omega) (by rw [toNat_succ (by omega), brk, Bool.and_eq_true, decide_eq_true_eq, Bool.and_eq_false_iff, decide_eq_false_iff_not]; rcases hb with ⟨h1, h2⟩ | ⟨h1, h2⟩ <;> rw [h2] <;> simp <;> omega) (by omega) (lv_sub hl [1, 0, 3, 4] rfl)
        · refine lv_iload hc.1 hc.2.1 dX9_isBroken_26 (lv_at hl 0 rfl) ?_
          refine lv_aload_n hc.1 hc.2.1 dX9_isBroken_28 rfl (lv_at hl 3 rfl) ?_
          refine nn_get hc hw hz hiX9 rfl 3 (by decide) rfl lk13 dX9_isBroken_29 ?_
          refine nn_iconst hc dX9_isBroken_32 ?_
          refine nn_iald hc hw hst (by omega) (by omega) dX9_isBroken_33 ?_
          refine W.eq (g2 := F0 m 34 ls [.int (iI (stg 3)), .int (iI (p - (js k.toNat)))]) rfl ?_
          refine nn_icmp_ge hc dX9_isBroken_34 (tgt := 49) (by decide) (by omega) (by omega) (fun c3 => ?_) (fun c3 => ?_)
          · refine nn_iconst hc dX9_isBroken_49 ?_
            refine lv_goto hc.1 hc.2.1 dX9_isBroken_50 (tgt := 54) (by decide) ?_
            refine lv_istore_n (lv' := [(2, .int (iI 1)), (4, .int (iI (p - (js k.toNat)))), (3, .int (iI k)), (0, .ref z), (1, .int (iI p))]) hc.1 hc.2.1 dX9_isBroken_54 rfl hl (by decide) rfl (fun ls hl => ?_)
            refine nn_iinc (lv' := [(3, .int (iI (k + 1))), (2, .int (iI 1)), (4, .int (iI (p - (js k.toNat)))), (0, .ref z), (1, .int (iI p))]) hc dX9_isBroken_55 hl (k0 := 2) rfl (by decide) rfl (fun ls hl => ?_)
            refine lv_goto hc.1 hc.2.1 dX9_isBroken_58 (tgt := 4) (by decide) ?_
            exact ih4 1 (k + 1) _ (by omega) (by rw [toNat_succ (by omega), brk, Bool.and_eq_true, decide_eq_true_eq, Bool.and_eq_false_iff, decide_eq_false_iff_not]; rcases hb with ⟨h1, h2⟩ | ⟨h1, h2⟩ <;> rw [h2] <;> simp <;> omega) (by omega) (lv_sub hl [1, 0, 3, 4] rfl)
          · refine lv_iload hc.1 hc.2.1 dX9_isBroken_37 (lv_at hl 0 rfl) ?_
            refine lv_aload_n hc.1 hc.2.1 dX9_isBroken_39 rfl (lv_at hl 3 rfl) ?_
            refine nn_get hc hw hz hiX9 rfl 3 (by decide) rfl lk13 dX9_isBroken_40 ?_
            refine nn_iconst hc dX9_isBroken_43 ?_
            refine nn_iald hc hw hst (by omega) (by omega) dX9_isBroken_44 ?_
            refine W.eq (g2 := F0 m 45 ls [.int (iI (stg 3)), .int (iI (p - (js k.toNat)))]) rfl ?_
            refine nn_ineg hc dX9_isBroken_45 ?_
            refine nn_icmp_gt hc dX9_isBroken_46 (tgt := 53) (by decide) (by omega) (by omega) (fun c4 => ?_) (fun c4 => ?_)
            · refine nn_iconst hc dX9_isBroken_53 ?_
              refine lv_istore_n (lv' := [(2, .int (iI 0)), (4, .int (iI (p - (js k.toNat)))), (3, .int (iI k)), (0, .ref z), (1, .int (iI p))]) hc.1 hc.2.1 dX9_isBroken_54 rfl hl (by decide) rfl (fun ls hl => ?_)
              refine nn_iinc (lv' := [(3, .int (iI (k + 1))), (2, .int (iI 0)), (4, .int (iI (p - (js k.toNat)))), (0, .ref z), (1, .int (iI p))]) hc dX9_isBroken_55 hl (k0 := 2) rfl (by decide) rfl (fun ls hl => ?_)
              refine lv_goto hc.1 hc.2.1 dX9_isBroken_58 (tgt := 4) (by decide) ?_
              exact ih4 0 (k + 1) _ (by omega) (by rw [toNat_succ (by omega), brk, Bool.and_eq_true, decide_eq_true_eq, Bool.and_eq_false_iff, decide_eq_false_iff_not]; rcases hb with ⟨h1, h2⟩ | ⟨h1, h2⟩ <;> rw [h2] <;> simp <;> omega) (by omega) (lv_sub hl [1, 0, 3, 4] rfl)
            · refine nn_iconst hc dX9_isBroken_49 ?_
              refine lv_goto hc.1 hc.2.1 dX9_isBroken_50 (tgt := 54) (by decide) ?_
              refine lv_istore_n (lv' := [(2, .int (iI 1)), (4, .int (iI (p - (js k.toNat)))), (3, .int (iI k)), (0, .ref z), (1, .int (iI p))]) hc.1 hc.2.1 dX9_isBroken_54 rfl hl (by decide) rfl (fun ls hl => ?_)
              refine nn_iinc (lv' := [(3, .int (iI (k + 1))), (2, .int (iI 1)), (4, .int (iI (p - (js k.toNat)))), (0, .ref z), (1, .int (iI p))]) hc dX9_isBroken_55 hl (k0 := 2) rfl (by decide) rfl (fun ls hl => ?_)
              refine lv_goto hc.1 hc.2.1 dX9_isBroken_58 (tgt := 4) (by decide) ?_
              exact ih4 1 (k + 1) _ (by omega) (by rw [toNat_succ (by omega), brk, Bool.and_eq_true, decide_eq_true_eq, Bool.and_eq_false_iff, decide_eq_false_iff_not]; rcases hb with ⟨h1, h2⟩ | ⟨h1, h2⟩ <;> rw [h2] <;> simp <;> omega) (by omega) (lv_sub hl [1, 0, 3, 4] rfl)
  exact lab4 _ 1 0 _ (by omega) (Or.inl ⟨rfl, rfl⟩) (Nat.lt_succ_self _) (lv_sub hl [1, 0, 2, 3] rfl)

