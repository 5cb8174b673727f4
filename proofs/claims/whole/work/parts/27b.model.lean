set_option maxHeartbeats 4000000 in
set_option maxRecDepth 100000 in
theorem c_X9_isHeap (l : Launch) (g : gG) {n : Nat} {S : Nat → gE} {z : Nat} {mLen mAt mHC mRC mHS mJC mCh mVi : Int} {h : Int} (hz : S z = oO 9 [.ref (z + 1), .int (iI mLen), .int (iI mAt), .ref (z + 2), .ref (z + 3), .ref (z + 4), .ref (z + 5), .int (iI mHC), .int (iI mRC), .ref (z + 6), .ref (z + 7), .ref (z + 8), .int (iI mHS), .ref (z + 9), .ref (z + 10), .int (iI mJC), .int (iI mCh), .int (iI mVi)]) (rHC : 0 ≤ mHC ∧ mHC ≤ 8) (r_h : -2147483648 ≤ h ∧ h < 2147483648) : g_Cp l yX9_isHeap wsX9_isHeap { frames := 1, cells := 0, slots := 0, locals := 22 } g [.ref z, .int (iI h)] n S (some (.int (iI (if 0 ≤ h ∧ h ≤ mHC - 1 then 1 else 0)))) := by
  refine g_Cp.of (cc := cX9_isHeap) (maxL := 2) (ret := (some .boolean)) (by decide) rfl (Nat.le_of_ble_eq_true rfl) ?_
  intro pp ee s m below meth cK Q ls hc hnm hw hl hret
  have hl : lv_has ls 2 [(0, .ref z), (1, .int (iI h))] := hl
  have hiX9 : ∀ w ∈ u_ws RX9 TX9 18, w ∈ wsX9_isHeap := by decide +kernel
  have lk54 : Cond.fieldLink RX9 54 "RoofCoursesModel" "heapCount" "I" ∈ wsX9_isHeap := by decide +kernel
  have hrt : ∀ (pc : Nat) (ls : Array Slot) (xr : Int), decode cX9_isHeap pc = .ok (.ireturn, 1) → xr = (if 0 ≤ h ∧ h ≤ mHC - 1 then 1 else 0) → W pp l ee ({ frames := 1, cells := 0, slots := 0, locals := 22 } : Room) s m ([.ref z, .int (iI h)] : List Value).toArray below meth cK s.heap [] 0 0 Q (F0 m pc ls [.int (iI xr)]) := fun pc ls xr d hx => by subst hx; exact hret pc ls ⟨_, rfl, nn_nb _, d⟩
  refine lv_iload_n hc.1 hc.2.1 dX9_isHeap_0 rfl (lv_at hl 1 rfl) ?_
  refine nn_iconst hc dX9_isHeap_1 ?_
  refine lv_aload_n hc.1 hc.2.1 dX9_isHeap_2 rfl (lv_at hl 0 rfl) ?_
  refine nn_get hc hw hz hiX9 rfl 7 (by decide) rfl lk54 dX9_isHeap_3 ?_
  refine nn_iconst hc dX9_isHeap_6 ?_
  refine nn_isub hc dX9_isHeap_7 ?_
  refine nn_Sp (As := [.int (iI h), .int (iI 0), .int (iI (mHC - 1))]) (st := []) hc hw (c_X9_in l g   (by omega) (by omega) (by omega)) (va_cwS 3 hc.2.2.2.2 gX9_isHeap_X9_in rfl rfl rfl (by decide +kernel) ⟨Nat.le_of_ble_eq_true rfl, Nat.le_of_ble_eq_true rfl⟩) rfl hl.1 rfl (Nat.le_of_ble_eq_true rfl) ⟨Nat.le_of_ble_eq_true rfl, Nat.le_of_ble_eq_true rfl⟩ dX9_isHeap_8 ?_
  refine W.eq (g2 := F0 m 11 ls [.int (iI (if 0 ≤ h ∧ h ≤ (mHC - 1) then 1 else 0))]) rfl ?_
  exact hrt _ _ _ dX9_isHeap_11 (by first | rfl | omega | (split <;> omega))

set_option maxHeartbeats 4000000 in
set_option maxRecDepth 100000 in
theorem c_X9_isCourse (l : Launch) (g : gG) {n : Nat} {S : Nat → gE} {z : Nat} {mLen mAt mHC mRC mHS mJC mCh mVi : Int} {nw : Nat → Int} {c : Int} (hz : S z = oO 9 [.ref (z + 1), .int (iI mLen), .int (iI mAt), .ref (z + 2), .ref (z + 3), .ref (z + 4), .ref (z + 5), .int (iI mHC), .int (iI mRC), .ref (z + 6), .ref (z + 7), .ref (z + 8), .int (iI mHS), .ref (z + 9), .ref (z + 10), .int (iI mJC), .int (iI mCh), .int (iI mVi)]) (hnw : S (z + 6) = oI g 1249 nw) (r8 : 0 ≤ nw 8 ∧ nw 8 ≤ 20) (r_c : -2147483648 ≤ c ∧ c < 2147483648) : g_Cp l yX9_isCourse wsX9_isCourse { frames := 1, cells := 0, slots := 0, locals := 22 } g [.ref z, .int (iI c)] n S (some (.int (iI (if 0 ≤ c ∧ c ≤ nw 8 - 1 then 1 else 0)))) := by
  refine g_Cp.of (cc := cX9_isCourse) (maxL := 2) (ret := (some .boolean)) (by decide) rfl (Nat.le_of_ble_eq_true rfl) ?_
  intro pp ee s m below meth cK Q ls hc hnm hw hl hret
  have hl : lv_has ls 2 [(0, .ref z), (1, .int (iI c))] := hl
  have hiX9 : ∀ w ∈ u_ws RX9 TX9 18, w ∈ wsX9_isCourse := by decide +kernel
  have lk25 : Cond.fieldLink RX9 25 "RoofCoursesModel" "now" "[I" ∈ wsX9_isCourse := by decide +kernel
  have hrt : ∀ (pc : Nat) (ls : Array Slot) (xr : Int), decode cX9_isCourse pc = .ok (.ireturn, 1) → xr = (if 0 ≤ c ∧ c ≤ nw 8 - 1 then 1 else 0) → W pp l ee ({ frames := 1, cells := 0, slots := 0, locals := 22 } : Room) s m ([.ref z, .int (iI c)] : List Value).toArray below meth cK s.heap [] 0 0 Q (F0 m pc ls [.int (iI xr)]) := fun pc ls xr d hx => by subst hx; exact hret pc ls ⟨_, rfl, nn_nb _, d⟩
  refine lv_iload_n hc.1 hc.2.1 dX9_isCourse_0 rfl (lv_at hl 1 rfl) ?_
  refine nn_iconst hc dX9_isCourse_1 ?_
  refine lv_aload_n hc.1 hc.2.1 dX9_isCourse_2 rfl (lv_at hl 0 rfl) ?_
  refine nn_get hc hw hz hiX9 rfl 9 (by decide) rfl lk25 dX9_isCourse_3 ?_
  refine nn_bipush hc dX9_isCourse_6 (by decide +kernel) ?_
  refine nn_iald hc hw hnw (by omega) (by omega) dX9_isCourse_8 ?_
  refine W.eq (g2 := F0 m 9 ls [.int (iI (nw 8)), .int (iI 0), .int (iI c)]) rfl ?_
  refine nn_iconst hc dX9_isCourse_9 ?_
  refine nn_isub hc dX9_isCourse_10 ?_
  refine nn_Sp (As := [.int (iI c), .int (iI 0), .int (iI ((nw 8) - 1))]) (st := []) hc hw (c_X9_in l g   (by omega) (by omega) (by omega)) (va_cwS 3 hc.2.2.2.2 gX9_isCourse_X9_in rfl rfl rfl (by decide +kernel) ⟨Nat.le_of_ble_eq_true rfl, Nat.le_of_ble_eq_true rfl⟩) rfl hl.1 rfl (Nat.le_of_ble_eq_true rfl) ⟨Nat.le_of_ble_eq_true rfl, Nat.le_of_ble_eq_true rfl⟩ dX9_isCourse_11 ?_
  refine W.eq (g2 := F0 m 14 ls [.int (iI (if 0 ≤ c ∧ c ≤ ((nw 8) - 1) then 1 else 0))]) rfl ?_
  exact hrt _ _ _ dX9_isCourse_14 (by first | rfl | omega | (split <;> omega))

set_option maxHeartbeats 4000000 in
set_option maxRecDepth 100000 in
theorem c_X9_laidOf (l : Launch) (g : gG) {n : Nat} {S : Nat → gE} {z : Nat} {mLen mAt mHC mRC mHS mJC mCh mVi : Int} {stg hps nw : Nat → Int} {rs : Nat → Int} {rows : rT} {h : Int} (hz : S z = oO 9 [.ref (z + 1), .int (iI mLen), .int (iI mAt), .ref (z + 2), .ref (z + 3), .ref (z + 4), .ref (z + 5), .int (iI mHC), .int (iI mRC), .ref (z + 6), .ref (z + 7), .ref (z + 8), .int (iI mHS), .ref (z + 9), .ref (z + 10), .int (iI mJC), .int (iI mCh), .int (iI mVi)]) (hnw : S (z + 6) = oI g 1249 nw) (hM : goodM mHC stg hps) (hR : goodR mHC.toNat (mLn hps) (mBr hps) rs rows) (hS : mS nw rs rows) (rh : 0 ≤ h ∧ h < 8) : g_Cp l yX9_laidOf wsX9_laidOf { frames := 1, cells := 0, slots := 0, locals := 22 } g [.ref z, .int (iI h)] n S (some (.int (iI (cntR rows h.toNat)))) := by
  refine g_Cp.of (cc := cX9_laidOf) (maxL := 5) (ret := (some .int)) (by decide) rfl (Nat.le_of_ble_eq_true rfl) ?_
  intro pp ee s m below meth cK Q ls hc hnm hw hl hret
  have hl : lv_has ls 5 [(0, .ref z), (1, .int (iI h))] := hl
  have hiX9 : ∀ w ∈ u_ws RX9 TX9 18, w ∈ wsX9_laidOf := by decide +kernel
  have lk25 : Cond.fieldLink RX9 25 "RoofCoursesModel" "now" "[I" ∈ wsX9_laidOf := by decide +kernel
  have hM0 := hM
  obtain ⟨m1, m2, m3, m4, m5, m6, m7, m8⟩ := hM
  have hRl := hR.1
  have h8 := hS.2.1
  have hdr := hd_r hR m6 (Nat.le_refl rows.length)
  have hrg := mS_rg hM0 hR hS
  have hHD := mS_hd hS (stg 2)
  have hbr2 : ∀ i : Nat, i < mHC.toNat → 1 ≤ mBr hps i ∧ mBr hps i ≤ 60 := fun i hi => by have := m2 i (by omega); omega
  have hrt : ∀ (pc : Nat) (ls : Array Slot) (xr : Int), decode cX9_laidOf pc = .ok (.ireturn, 1) → xr = (cntR rows h.toNat) → W pp l ee ({ frames := 1, cells := 0, slots := 0, locals := 22 } : Room) s m ([.ref z, .int (iI h)] : List Value).toArray below meth cK s.heap [] 0 0 Q (F0 m pc ls [.int (iI xr)]) := fun pc ls xr d hx => by subst hx; exact hret pc ls ⟨_, rfl, rfl, d⟩
  refine nn_iconst hc dX9_laidOf_0 ?_
  refine lv_istore_n (lv' := [(2, .int (iI 0)), (0, .ref z), (1, .int (iI h))]) hc.1 hc.2.1 dX9_laidOf_1 rfl hl (by decide) rfl (fun ls hl => ?_)
  refine nn_iconst hc dX9_laidOf_2 ?_
  refine lv_istore_n (lv' := [(3, .int (iI 0)), (2, .int (iI 0)), (0, .ref z), (1, .int (iI h))]) hc.1 hc.2.1 dX9_laidOf_3 rfl hl (by decide) rfl (fun ls hl => ?_)
  have lab4 : ∀ (fu4 : Nat) (t : Int) (c : Int) (ls : Array Slot), (0 ≤ c ∧ c ≤ rows.length) → (t = sumI (fun c => cntH (rS rows c) h.toNat) c.toNat) → (20 - c).toNat < fu4 → lv_has ls 5 [(2, .int (iI t)), (3, .int (iI c)), (0, .ref z), (1, .int (iI h))] → W pp l ee ({ frames := 1, cells := 0, slots := 0, locals := 22 } : Room) s m ([.ref z, .int (iI h)] : List Value).toArray below meth cK s.heap [] 0 0 Q (F0 m 4 ls []) := by
    intro fu4
    induction fu4 with
    | zero =>
      intro t c ls hc0 ht hmeas hl
      exact absurd hmeas (Nat.not_lt_zero _)
    | succ fu4 ih4 =>
      intro t c ls hc0 ht hmeas hl
      refine lv_iload_n hc.1 hc.2.1 dX9_laidOf_4 rfl (lv_at hl 1 rfl) ?_
      refine lv_aload_n hc.1 hc.2.1 dX9_laidOf_5 rfl (lv_at hl 2 rfl) ?_
      refine nn_get hc hw hz hiX9 rfl 9 (by decide) rfl lk25 dX9_laidOf_6 ?_
      refine nn_bipush hc dX9_laidOf_9 (by decide +kernel) ?_
      refine nn_iald hc hw hnw (by omega) (by omega) dX9_laidOf_11 ?_
      refine W.eq (g2 := F0 m 12 ls [.int (iI (nw 8)), .int (iI c)]) rfl ?_
      refine nn_icmp_ge hc dX9_laidOf_12 (tgt := 62) (by decide) (by omega) (by omega) (fun c1 => ?_) (fun c1 => ?_)
      · refine lv_iload_n hc.1 hc.2.1 dX9_laidOf_62 rfl (lv_at hl 0 rfl) ?_
        exact hrt _ _ _ dX9_laidOf_63 (by rw [ht]; unfold cntR; rw [show c.toNat = rows.length by omega])
      · have hgd := hR.2.1 c.toNat (by omega)
        have hrw := hS.2.2 c.toNat (by omega)
        have hrw2 := hrw.2.1
        refine nn_iconst hc dX9_laidOf_15 ?_
        refine lv_istore (lv' := [(4, .int (iI 0)), (2, .int (iI t)), (3, .int (iI c)), (0, .ref z), (1, .int (iI h))]) hc.1 hc.2.1 dX9_laidOf_16 hl (by decide) rfl (fun ls hl => ?_)
        have lab18 : ∀ (fu18 : Nat) (t1 : Int) (k : Int) (ls : Array Slot), (0 ≤ k ∧ k ≤ (rS rows c.toNat).length) → (t1 = sumI (fun c => cntH (rS rows c) h.toNat) c.toNat + cntH ((rS rows c.toNat).take k.toNat) h.toNat) → (60 - k).toNat < fu18 → lv_has ls 5 [(2, .int (iI t1)), (4, .int (iI k)), (0, .ref z), (1, .int (iI h)), (3, .int (iI c))] → W pp l ee ({ frames := 1, cells := 0, slots := 0, locals := 22 } : Room) s m ([.ref z, .int (iI h)] : List Value).toArray below meth cK s.heap [] 0 0 Q (F0 m 18 ls []) := by
          intro fu18
          induction fu18 with
          | zero =>
            intro t1 k ls hk ht1 hmeas hl
            exact absurd hmeas (Nat.not_lt_zero _)
          | succ fu18 ih18 =>
            intro t1 k ls hk ht1 hmeas hl
            refine lv_iload hc.1 hc.2.1 dX9_laidOf_18 (lv_at hl 1 rfl) ?_
            refine lv_aload_n hc.1 hc.2.1 dX9_laidOf_20 rfl (lv_at hl 2 rfl) ?_
            refine lv_iload_n hc.1 hc.2.1 dX9_laidOf_21 rfl (lv_at hl 4 rfl) ?_
            refine nn_Vp (As := [.int (iI c)]) (st := [.int (iI k)]) hc hw hz rfl (c_X9_slateCount l g  hz hnw (by omega)) (cwV 1 hc.2.2.2.2 gX9_laidOf_X9_slateCount rfl rfl rfl (by decide +kernel) ⟨Nat.le_of_ble_eq_true rfl, Nat.le_of_ble_eq_true rfl⟩) rfl hl.1 rfl (Nat.le_of_ble_eq_true rfl) ⟨Nat.le_of_ble_eq_true rfl, Nat.le_of_ble_eq_true rfl⟩ dX9_laidOf_22 ?_
            refine W.eq (g2 := F0 m 25 ls [.int (iI (nw (9 + 62 * c.toNat + 1))), .int (iI k)]) rfl ?_
            refine nn_icmp_ge hc dX9_laidOf_25 (tgt := 56) (by decide) (by omega) (by omega) (fun c2 => ?_) (fun c2 => ?_)
            · refine nn_iinc (lv' := [(3, .int (iI (c + 1))), (2, .int (iI t1)), (4, .int (iI k)), (0, .ref z), (1, .int (iI h))]) hc dX9_laidOf_56 hl (k0 := 4) rfl (by decide) rfl (fun ls hl => ?_)
              refine lv_goto hc.1 hc.2.1 dX9_laidOf_59 (tgt := 4) (by decide) ?_
              exact ih4 t1 (c + 1) _ (by omega) (by rw [cntR_s (by omega), ht1, show k.toNat = (rS rows c.toNat).length by omega, List.take_length]) (by omega) (lv_sub hl [1, 0, 3, 4] rfl)
            · have hs1 := hrw.2.2 k.toNat (by omega)
              have hs2 := slH_ok hgd.1 (i := k.toNat) (by omega)
              have hs3 := slV_ok hgd.1 (i := k.toNat) (by omega)
              have hs4 := hbr2 (slH (rS rows c.toNat) k.toNat).toNat (by omega)
              have hd64 := d64 (h := slH (rS rows c.toNat) k.toNat) (v := slV (rS rows c.toNat) k.toNat) (by omega)
              rw [← hs1] at hd64
              refine lv_iload_n hc.1 hc.2.1 dX9_laidOf_28 rfl (lv_at hl 0 rfl) ?_
              refine lv_aload_n hc.1 hc.2.1 dX9_laidOf_29 rfl (lv_at hl 2 rfl) ?_
              refine lv_iload_n hc.1 hc.2.1 dX9_laidOf_30 rfl (lv_at hl 4 rfl) ?_
              refine lv_iload hc.1 hc.2.1 dX9_laidOf_31 (lv_at hl 1 rfl) ?_
              refine nn_Vp (As := [.int (iI c), .int (iI k)]) (st := [.int (iI t1)]) hc hw hz rfl (c_X9_slateOf l g  hz hnw (by omega) (by omega)) (cwV 2 hc.2.2.2.2 gX9_laidOf_X9_slateOf rfl rfl rfl (by decide +kernel) ⟨Nat.le_of_ble_eq_true rfl, Nat.le_of_ble_eq_true rfl⟩) rfl hl.1 rfl (Nat.le_of_ble_eq_true rfl) ⟨Nat.le_of_ble_eq_true rfl, Nat.le_of_ble_eq_true rfl⟩ dX9_laidOf_33 ?_
              refine W.eq (g2 := F0 m 36 ls [.int (iI (nw (9 + 62 * c.toNat + 2 + k.toNat))), .int (iI t1)]) rfl ?_
              refine nn_bipush hc dX9_laidOf_36 (by decide +kernel) ?_
              refine nn_idiv hc dX9_laidOf_38 (by omega) (by omega) ?_
              refine lv_iload_n hc.1 hc.2.1 dX9_laidOf_39 rfl (lv_at hl 3 rfl) ?_
              refine nn_icmp_ne hc dX9_laidOf_40 (tgt := 47) (by decide) (by omega) (by omega) (fun c3 => ?_) (fun c3 => ?_)
              · refine nn_iconst hc dX9_laidOf_47 ?_
                refine nn_iadd hc dX9_laidOf_48 ?_
                refine lv_istore_n (lv' := [(2, .int (iI (t1 + 0))), (4, .int (iI k)), (0, .ref z), (1, .int (iI h)), (3, .int (iI c))]) hc.1 hc.2.1 dX9_laidOf_49 rfl hl (by decide) rfl (fun ls hl => ?_)
                refine nn_iinc (lv' := [(4, .int (iI (k + 1))), (2, .int (iI (t1 + 0))), (0, .ref z), (1, .int (iI h)), (3, .int (iI c))]) hc dX9_laidOf_50 hl (k0 := 1) rfl (by decide) rfl (fun ls hl => ?_)
                refine lv_goto hc.1 hc.2.1 dX9_laidOf_53 (tgt := 18) (by decide) ?_
                exact ih18 (t1 + 0) (k + 1) _ (by omega) (by rw [cntH_s (by omega) (by omega), ht1, show ((h.toNat : Nat) : Int) = h by omega]; first | (rw [if_pos (by omega)]; omega) | (rw [if_neg (by omega)]; omega)) (by omega) (lv_sub hl [1, 0, 2, 3, 4] rfl)
              · refine nn_iconst hc dX9_laidOf_43 ?_
                refine lv_goto hc.1 hc.2.1 dX9_laidOf_44 (tgt := 48) (by decide) ?_
                refine nn_iadd hc dX9_laidOf_48 ?_
                refine lv_istore_n (lv' := [(2, .int (iI (t1 + 1))), (4, .int (iI k)), (0, .ref z), (1, .int (iI h)), (3, .int (iI c))]) hc.1 hc.2.1 dX9_laidOf_49 rfl hl (by decide) rfl (fun ls hl => ?_)
                refine nn_iinc (lv' := [(4, .int (iI (k + 1))), (2, .int (iI (t1 + 1))), (0, .ref z), (1, .int (iI h)), (3, .int (iI c))]) hc dX9_laidOf_50 hl (k0 := 1) rfl (by decide) rfl (fun ls hl => ?_)
                refine lv_goto hc.1 hc.2.1 dX9_laidOf_53 (tgt := 18) (by decide) ?_
                exact ih18 (t1 + 1) (k + 1) _ (by omega) (by rw [cntH_s (by omega) (by omega), ht1, show ((h.toNat : Nat) : Int) = h by omega]; first | (rw [if_pos (by omega)]; omega) | (rw [if_neg (by omega)]; omega)) (by omega) (lv_sub hl [1, 0, 2, 3, 4] rfl)
        exact lab18 _ t 0 _ (by omega) (by rw [ht]; show _ = _ + cntH ((rS rows c.toNat).take 0) h.toNat; rw [List.take_zero]; simp [cntH]) (Nat.lt_succ_self _) (lv_sub hl [1, 0, 3, 4, 2] rfl)
  exact lab4 _ 0 0 _ (by omega) (rfl) (Nat.lt_succ_self _) (lv_sub hl [1, 0, 2, 3] rfl)

set_option maxHeartbeats 4000000 in
set_option maxRecDepth 100000 in
theorem c_X9_heap (l : Launch) (g : gG) {n : Nat} {S : Nat → gE} {z : Nat} {mLen mAt mHC mRC mHS mJC mCh mVi : Int} {stg hps nw : Nat → Int} {rs : Nat → Int} {rows : rT} {h what : Int} (hz : S z = oO 9 [.ref (z + 1), .int (iI mLen), .int (iI mAt), .ref (z + 2), .ref (z + 3), .ref (z + 4), .ref (z + 5), .int (iI mHC), .int (iI mRC), .ref (z + 6), .ref (z + 7), .ref (z + 8), .int (iI mHS), .ref (z + 9), .ref (z + 10), .int (iI mJC), .int (iI mCh), .int (iI mVi)]) (hhp : S (z + 4) = oI g 24 hps) (hnw : S (z + 6) = oI g 1249 nw) (hM : goodM mHC stg hps) (hR : goodR mHC.toNat (mLn hps) (mBr hps) rs rows) (hS : mS nw rs rows) (r_h : -2147483648 ≤ h ∧ h < 2147483648) (r_what : -2147483648 ≤ what ∧ what < 2147483648) : g_Cp l yX9_heap wsX9_heap { frames := 2, cells := 0, slots := 0, locals := 46 } g [.ref z, .int (iI h), .int (iI what)] n S (some (.int (iI (if (0 ≤ h ∧ h < mHC) ∧ (0 ≤ what ∧ what ≤ 3) then aHeap (mLn hps) (mBr hps) rs rows h.toNat what else -1)))) := by
  refine g_Cp.of (cc := cX9_heap) (maxL := 3) (ret := (some .int)) (by decide) rfl (Nat.le_of_ble_eq_true rfl) ?_
  intro pp ee s m below meth cK Q ls hc hnm hw hl hret
  have hl : lv_has ls 3 [(0, .ref z), (1, .int (iI h)), (2, .int (iI what))] := hl
  have hiX9 : ∀ w ∈ u_ws RX9 TX9 18, w ∈ wsX9_heap := by decide +kernel
  have lk25 : Cond.fieldLink RX9 25 "RoofCoursesModel" "now" "[I" ∈ wsX9_heap := by decide +kernel
  have lk19 : Cond.fieldLink RX9 19 "RoofCoursesModel" "heaps" "[I" ∈ wsX9_heap := by decide +kernel
  have hM0 := hM
  obtain ⟨m1, m2, m3, m4, m5, m6, m7, m8⟩ := hM
  have hRl := hR.1
  have h8 := hS.2.1
  have hdr := hd_r hR m6 (Nat.le_refl rows.length)
  have hrg := mS_rg hM0 hR hS
  have hHD := mS_hd hS (stg 2)
  have hbr2 : ∀ i : Nat, i < mHC.toNat → 1 ≤ mBr hps i ∧ mBr hps i ≤ 60 := fun i hi => by have := m2 i (by omega); omega
  have hrt : ∀ (pc : Nat) (ls : Array Slot) (xr : Int), decode cX9_heap pc = .ok (.ireturn, 1) → xr = (if (0 ≤ h ∧ h < mHC) ∧ (0 ≤ what ∧ what ≤ 3) then aHeap (mLn hps) (mBr hps) rs rows h.toNat what else -1) → W pp l ee ({ frames := 2, cells := 0, slots := 0, locals := 46 } : Room) s m ([.ref z, .int (iI h), .int (iI what)] : List Value).toArray below meth cK s.heap [] 0 0 Q (F0 m pc ls [.int (iI xr)]) := fun pc ls xr d hx => by subst hx; exact hret pc ls ⟨_, rfl, rfl, d⟩
  refine lv_aload_n hc.1 hc.2.1 dX9_heap_0 rfl (lv_at hl 0 rfl) ?_
  refine lv_iload_n hc.1 hc.2.1 dX9_heap_1 rfl (lv_at hl 1 rfl) ?_
  refine nn_Vp (As := [.int (iI h)]) (st := []) hc hw hz rfl (c_X9_isHeap l g  hz (by omega) (by omega)) (cwV 1 hc.2.2.2.2 gX9_heap_X9_isHeap rfl rfl rfl (by decide +kernel) ⟨Nat.le_of_ble_eq_true rfl, Nat.le_of_ble_eq_true rfl⟩) rfl hl.1 rfl (Nat.le_of_ble_eq_true rfl) ⟨Nat.le_of_ble_eq_true rfl, Nat.le_of_ble_eq_true rfl⟩ dX9_heap_2 ?_
  refine W.eq (g2 := F0 m 5 ls [.int (iI (if 0 ≤ h ∧ h ≤ mHC - 1 then 1 else 0))]) rfl ?_
  refine nn_if_eq hc dX9_heap_5 (tgt := 17) (by decide) (by omega) (fun c1 => ?_) (fun c1 => ?_)
  · refine nn_iconst hc dX9_heap_17 ?_
    exact hrt _ _ _ dX9_heap_18 (by rw [if_neg (by omega)])
  · refine lv_iload_n hc.1 hc.2.1 dX9_heap_8 rfl (lv_at hl 2 rfl) ?_
    refine nn_iconst hc dX9_heap_9 ?_
    refine nn_iconst hc dX9_heap_10 ?_
    refine nn_Sp (As := [.int (iI what), .int (iI 0), .int (iI 3)]) (st := []) hc hw (c_X9_in l g   (by omega) (by omega) (by omega)) (va_cwS 3 hc.2.2.2.2 gX9_heap_X9_in rfl rfl rfl (by decide +kernel) ⟨Nat.le_of_ble_eq_true rfl, Nat.le_of_ble_eq_true rfl⟩) rfl hl.1 rfl (Nat.le_of_ble_eq_true rfl) ⟨Nat.le_of_ble_eq_true rfl, Nat.le_of_ble_eq_true rfl⟩ dX9_heap_11 ?_
    refine W.eq (g2 := F0 m 14 ls [.int (iI (if 0 ≤ what ∧ what ≤ 3 then 1 else 0))]) rfl ?_
    refine nn_if_ne hc dX9_heap_14 (tgt := 19) (by decide) (by omega) (fun c2 => ?_) (fun c2 => ?_)
    · refine lv_iload_n hc.1 hc.2.1 dX9_heap_19 rfl (lv_at hl 2 rfl) ?_
      refine nn_iconst hc dX9_heap_20 ?_
      refine nn_icmp_ge hc dX9_heap_21 (tgt := 37) (by decide) (by omega) (by decide) (fun c3 => ?_) (fun c3 => ?_)
      · refine lv_iload_n hc.1 hc.2.1 dX9_heap_37 rfl (lv_at hl 2 rfl) ?_
        refine nn_iconst hc dX9_heap_38 ?_
        refine nn_icmp_ne hc dX9_heap_39 (tgt := 51) (by decide) (by omega) (by decide) (fun c4 => ?_) (fun c4 => ?_)
        · refine lv_aload_n hc.1 hc.2.1 dX9_heap_51 rfl (lv_at hl 0 rfl) ?_
          refine lv_iload_n hc.1 hc.2.1 dX9_heap_52 rfl (lv_at hl 1 rfl) ?_
          refine nn_Vp (As := [.int (iI h)]) (st := []) hc hw hz rfl (c_X9_laidOf l g  hz hnw (hM0) (hR) (hS) (by omega)) (cwV 1 hc.2.2.2.2 gX9_heap_X9_laidOf rfl rfl rfl (by decide +kernel) ⟨Nat.le_of_ble_eq_true rfl, Nat.le_of_ble_eq_true rfl⟩) rfl hl.1 rfl (Nat.le_of_ble_eq_true rfl) ⟨Nat.le_of_ble_eq_true rfl, Nat.le_of_ble_eq_true rfl⟩ dX9_heap_53 ?_
          refine W.eq (g2 := F0 m 56 ls [.int (iI (cntR rows h.toNat))]) rfl ?_
          exact hrt _ _ _ dX9_heap_56 (by rw [if_pos (by omega)]; unfold aHeap; by_cases q0 : what = 0; (rw [if_pos q0]; first | (unfold mLn; congr 1; omega) | (exfalso; omega)); (rw [if_neg q0]; by_cases q1 : what = 1; (rw [if_pos q1]; first | (unfold mBr; congr 1; omega) | (exfalso; omega)); (rw [if_neg q1]; by_cases q2 : what = 2; (rw [if_pos q2]; first | exact hns | (exfalso; omega)); (first | (exfalso; omega) | (rw [if_neg q2])))))
        · have hns := hS.1 h.toNat (by omega)
          refine lv_aload_n hc.1 hc.2.1 dX9_heap_42 rfl (lv_at hl 0 rfl) ?_
          refine nn_get hc hw hz hiX9 rfl 9 (by decide) rfl lk25 dX9_heap_43 ?_
          refine lv_iload_n hc.1 hc.2.1 dX9_heap_46 rfl (lv_at hl 1 rfl) ?_
          refine nn_iald hc hw hnw (by omega) (by omega) dX9_heap_47 ?_
          refine lv_goto hc.1 hc.2.1 dX9_heap_48 (tgt := 56) (by decide) ?_
          exact hrt _ _ _ dX9_heap_56 (by rw [if_pos (by omega)]; unfold aHeap; by_cases q0 : what = 0; (rw [if_pos q0]; first | (unfold mLn; congr 1; omega) | (exfalso; omega)); (rw [if_neg q0]; by_cases q1 : what = 1; (rw [if_pos q1]; first | (unfold mBr; congr 1; omega) | (exfalso; omega)); (rw [if_neg q1]; by_cases q2 : what = 2; (rw [if_pos q2]; first | exact hns | (exfalso; omega)); (first | (exfalso; omega) | (rw [if_neg q2])))))
      · refine lv_aload_n hc.1 hc.2.1 dX9_heap_24 rfl (lv_at hl 0 rfl) ?_
        refine nn_get hc hw hz hiX9 rfl 5 (by decide) rfl lk19 dX9_heap_25 ?_
        refine nn_iconst hc dX9_heap_28 ?_
        refine lv_iload_n hc.1 hc.2.1 dX9_heap_29 rfl (lv_at hl 1 rfl) ?_
        refine nn_imul hc dX9_heap_30 ?_
        refine lv_iload_n hc.1 hc.2.1 dX9_heap_31 rfl (lv_at hl 2 rfl) ?_
        refine nn_iadd hc dX9_heap_32 ?_
        refine nn_iald hc hw hhp (by omega) (by omega) dX9_heap_33 ?_
        refine lv_goto hc.1 hc.2.1 dX9_heap_34 (tgt := 56) (by decide) ?_
        exact hrt _ _ _ dX9_heap_56 (by rw [if_pos (by omega)]; unfold aHeap; by_cases q0 : what = 0; (rw [if_pos q0]; first | (unfold mLn; congr 1; omega) | (exfalso; omega)); (rw [if_neg q0]; by_cases q1 : what = 1; (rw [if_pos q1]; first | (unfold mBr; congr 1; omega) | (exfalso; omega)); (rw [if_neg q1]; by_cases q2 : what = 2; (rw [if_pos q2]; first | exact hns | (exfalso; omega)); (first | (exfalso; omega) | (rw [if_neg q2])))))
    · refine nn_iconst hc dX9_heap_17 ?_
      exact hrt _ _ _ dX9_heap_18 (by rw [if_neg (by omega)])

set_option maxHeartbeats 4000000 in
set_option maxRecDepth 100000 in
theorem c_X9_lapHeld (l : Launch) (g : gG) {n : Nat} {S : Nat → gE} {z : Nat} {mLen mAt mHC mRC mHS mJC mCh mVi : Int} {stg hps nw : Nat → Int} {rs : Nat → Int} {rows : rT} {c : Int} (hz : S z = oO 9 [.ref (z + 1), .int (iI mLen), .int (iI mAt), .ref (z + 2), .ref (z + 3), .ref (z + 4), .ref (z + 5), .int (iI mHC), .int (iI mRC), .ref (z + 6), .ref (z + 7), .ref (z + 8), .int (iI mHS), .ref (z + 9), .ref (z + 10), .int (iI mJC), .int (iI mCh), .int (iI mVi)]) (hst : S (z + 2) = oI g 5 stg) (hnw : S (z + 6) = oI g 1249 nw) (hM : goodM mHC stg hps) (hR : goodR mHC.toNat (mLn hps) (mBr hps) rs rows) (hS : mS nw rs rows) (rc : 0 ≤ c ∧ c < rows.length) : g_Cp l yX9_lapHeld wsX9_lapHeld { frames := 1, cells := 0, slots := 0, locals := 21 } g [.ref z, .int (iI c)] n S (some (.int (iI (lapR (stg 2) rows c.toNat)))) := by
  refine g_Cp.of (cc := cX9_lapHeld) (maxL := 2) (ret := (some .int)) (by decide) rfl (Nat.le_of_ble_eq_true rfl) ?_
  intro pp ee s m below meth cK Q ls hc hnm hw hl hret
  have hl : lv_has ls 2 [(0, .ref z), (1, .int (iI c))] := hl
  have hiX9 : ∀ w ∈ u_ws RX9 TX9 18, w ∈ wsX9_lapHeld := by decide +kernel
  have lk25 : Cond.fieldLink RX9 25 "RoofCoursesModel" "now" "[I" ∈ wsX9_lapHeld := by decide +kernel
  have hM0 := hM
  obtain ⟨m1, m2, m3, m4, m5, m6, m7, m8⟩ := hM
  have hRl := hR.1
  have h8 := hS.2.1
  have hdr := hd_r hR m6 (Nat.le_refl rows.length)
  have hrg := mS_rg hM0 hR hS
  have hHD := mS_hd hS (stg 2)
  have hbr2 : ∀ i : Nat, i < mHC.toNat → 1 ≤ mBr hps i ∧ mBr hps i ≤ 60 := fun i hi => by have := m2 i (by omega); omega
  have hrt : ∀ (pc : Nat) (ls : Array Slot) (xr : Int), decode cX9_lapHeld pc = .ok (.ireturn, 1) → xr = (lapR (stg 2) rows c.toNat) → W pp l ee ({ frames := 1, cells := 0, slots := 0, locals := 21 } : Room) s m ([.ref z, .int (iI c)] : List Value).toArray below meth cK s.heap [] 0 0 Q (F0 m pc ls [.int (iI xr)]) := fun pc ls xr d hx => by subst hx; exact hret pc ls ⟨_, rfl, rfl, d⟩
  refine lv_iload_n hc.1 hc.2.1 dX9_lapHeld_0 rfl (lv_at hl 1 rfl) ?_
  refine nn_iconst hc dX9_lapHeld_1 ?_
  refine nn_iadd hc dX9_lapHeld_2 ?_
  refine lv_aload_n hc.1 hc.2.1 dX9_lapHeld_3 rfl (lv_at hl 0 rfl) ?_
  refine nn_get hc hw hz hiX9 rfl 9 (by decide) rfl lk25 dX9_lapHeld_4 ?_
  refine nn_bipush hc dX9_lapHeld_7 (by decide +kernel) ?_
  refine nn_iald hc hw hnw (by omega) (by omega) dX9_lapHeld_9 ?_
  refine W.eq (g2 := F0 m 10 ls [.int (iI (nw 8)), .int (iI (c + 1))]) rfl ?_
  refine nn_icmp_ne hc dX9_lapHeld_10 (tgt := 18) (by decide) (by omega) (by omega) (fun c1 => ?_) (fun c1 => ?_)
  · have g1 := hrg c.toNat (by omega)
    have e1 := (hS.2.2 c.toNat (by omega)).1
    have g2 := hrg (c + 1).toNat (by omega)
    have e2 := (hS.2.2 (c + 1).toNat (by omega)).1
    refine lv_aload_n hc.1 hc.2.1 dX9_lapHeld_18 rfl (lv_at hl 0 rfl) ?_
    refine lv_iload_n hc.1 hc.2.1 dX9_lapHeld_19 rfl (lv_at hl 1 rfl) ?_
    refine nn_Vp (As := [.int (iI c)]) (st := []) hc hw hz rfl (c_X9_courseLength l g  hz hnw (by omega)) (cwV 1 hc.2.2.2.2 gX9_lapHeld_X9_courseLength rfl rfl rfl (by decide +kernel) ⟨Nat.le_of_ble_eq_true rfl, Nat.le_of_ble_eq_true rfl⟩) rfl hl.1 rfl (Nat.le_of_ble_eq_true rfl) ⟨Nat.le_of_ble_eq_true rfl, Nat.le_of_ble_eq_true rfl⟩ dX9_lapHeld_20 ?_
    refine W.eq (g2 := F0 m 23 ls [.int (iI (nw (9 + 62 * c.toNat)))]) rfl ?_
    refine lv_aload_n hc.1 hc.2.1 dX9_lapHeld_23 rfl (lv_at hl 0 rfl) ?_
    refine lv_aload_n hc.1 hc.2.1 dX9_lapHeld_24 rfl (lv_at hl 0 rfl) ?_
    refine lv_iload_n hc.1 hc.2.1 dX9_lapHeld_25 rfl (lv_at hl 1 rfl) ?_
    refine nn_Vp (As := [.int (iI c)]) (st := [.ref z, .int (iI (nw (9 + 62 * c.toNat)))]) hc hw hz rfl (c_X9_courseLength l g  hz hnw (by omega)) (cwV 1 hc.2.2.2.2 gX9_lapHeld_X9_courseLength rfl rfl rfl (by decide +kernel) ⟨Nat.le_of_ble_eq_true rfl, Nat.le_of_ble_eq_true rfl⟩) rfl hl.1 rfl (Nat.le_of_ble_eq_true rfl) ⟨Nat.le_of_ble_eq_true rfl, Nat.le_of_ble_eq_true rfl⟩ dX9_lapHeld_26 ?_
    refine W.eq (g2 := F0 m 29 ls [.int (iI (nw (9 + 62 * c.toNat))), .ref z, .int (iI (nw (9 + 62 * c.toNat)))]) rfl ?_
    refine nn_Vp (As := [.int (iI (nw (9 + 62 * c.toNat)))]) (st := [.int (iI (nw (9 + 62 * c.toNat)))]) hc hw hz rfl (c_X9_gauge l g  hz hst (by omega)) (cwV 1 hc.2.2.2.2 gX9_lapHeld_X9_gauge rfl rfl rfl (by decide +kernel) ⟨Nat.le_of_ble_eq_true rfl, Nat.le_of_ble_eq_true rfl⟩) rfl hl.1 rfl (Nat.le_of_ble_eq_true rfl) ⟨Nat.le_of_ble_eq_true rfl, Nat.le_of_ble_eq_true rfl⟩ dX9_lapHeld_29 ?_
    refine W.eq (g2 := F0 m 32 ls [.int (iI (((nw (9 + 62 * c.toNat)) - stg 2) / 2)), .int (iI (nw (9 + 62 * c.toNat)))]) rfl ?_
    refine nn_isub hc dX9_lapHeld_32 ?_
    refine lv_aload_n hc.1 hc.2.1 dX9_lapHeld_33 rfl (lv_at hl 0 rfl) ?_
    refine lv_aload_n hc.1 hc.2.1 dX9_lapHeld_34 rfl (lv_at hl 0 rfl) ?_
    refine lv_iload_n hc.1 hc.2.1 dX9_lapHeld_35 rfl (lv_at hl 1 rfl) ?_
    refine nn_iconst hc dX9_lapHeld_36 ?_
    refine nn_iadd hc dX9_lapHeld_37 ?_
    refine nn_Vp (As := [.int (iI (c + 1))]) (st := [.ref z, .int (iI ((nw (9 + 62 * c.toNat)) - (((nw (9 + 62 * c.toNat)) - stg 2) / 2)))]) hc hw hz rfl (c_X9_courseLength l g  hz hnw (by omega)) (cwV 1 hc.2.2.2.2 gX9_lapHeld_X9_courseLength rfl rfl rfl (by decide +kernel) ⟨Nat.le_of_ble_eq_true rfl, Nat.le_of_ble_eq_true rfl⟩) rfl hl.1 rfl (Nat.le_of_ble_eq_true rfl) ⟨Nat.le_of_ble_eq_true rfl, Nat.le_of_ble_eq_true rfl⟩ dX9_lapHeld_38 ?_
    refine W.eq (g2 := F0 m 41 ls [.int (iI (nw (9 + 62 * (c + 1).toNat))), .ref z, .int (iI ((nw (9 + 62 * c.toNat)) - (((nw (9 + 62 * c.toNat)) - stg 2) / 2)))]) rfl ?_
    refine nn_Vp (As := [.int (iI (nw (9 + 62 * (c + 1).toNat)))]) (st := [.int (iI ((nw (9 + 62 * c.toNat)) - (((nw (9 + 62 * c.toNat)) - stg 2) / 2)))]) hc hw hz rfl (c_X9_gauge l g  hz hst (by omega)) (cwV 1 hc.2.2.2.2 gX9_lapHeld_X9_gauge rfl rfl rfl (by decide +kernel) ⟨Nat.le_of_ble_eq_true rfl, Nat.le_of_ble_eq_true rfl⟩) rfl hl.1 rfl (Nat.le_of_ble_eq_true rfl) ⟨Nat.le_of_ble_eq_true rfl, Nat.le_of_ble_eq_true rfl⟩ dX9_lapHeld_41 ?_
    refine W.eq (g2 := F0 m 44 ls [.int (iI (((nw (9 + 62 * (c + 1).toNat)) - stg 2) / 2)), .int (iI ((nw (9 + 62 * c.toNat)) - (((nw (9 + 62 * c.toNat)) - stg 2) / 2)))]) rfl ?_
    refine nn_isub hc dX9_lapHeld_44 ?_
    exact hrt _ _ _ dX9_lapHeld_45 (by unfold lapR; first | (rw [if_pos (by omega)]) | (rw [if_neg (by omega), e1, e2, show c.toNat + 1 = (c + 1).toNat by omega]))
  · refine nn_bipush hc dX9_lapHeld_13 (by decide +kernel) ?_
    refine lv_goto hc.1 hc.2.1 dX9_lapHeld_15 (tgt := 45) (by decide) ?_
    exact hrt _ _ _ dX9_lapHeld_45 (by unfold lapR; first | (rw [if_pos (by omega)]) | (rw [if_neg (by omega), e1, e2, show c.toNat + 1 = (c + 1).toNat by omega]))

set_option maxHeartbeats 4000000 in
set_option maxRecDepth 100000 in
theorem c_X9_told (l : Launch) (g : gG) {n : Nat} {S : Nat → gE} {z : Nat} {mLen mAt mHC mRC mHS mJC mCh mVi : Int} {stg hps nw : Nat → Int} {rs : Nat → Int} {rows : rT} {what c : Int} (hz : S z = oO 9 [.ref (z + 1), .int (iI mLen), .int (iI mAt), .ref (z + 2), .ref (z + 3), .ref (z + 4), .ref (z + 5), .int (iI mHC), .int (iI mRC), .ref (z + 6), .ref (z + 7), .ref (z + 8), .int (iI mHS), .ref (z + 9), .ref (z + 10), .int (iI mJC), .int (iI mCh), .int (iI mVi)]) (hst : S (z + 2) = oI g 5 stg) (hhp : S (z + 4) = oI g 24 hps) (hnw : S (z + 6) = oI g 1249 nw) (hM : goodM mHC stg hps) (hR : goodR mHC.toNat (mLn hps) (mBr hps) rs rows) (hS : mS nw rs rows) (r_c : -2147483648 ≤ c ∧ c < 2147483648) (r_what : -2147483648 ≤ what ∧ what < 2147483648) : g_Cp l yX9_told wsX9_told { frames := 3, cells := 0, slots := 0, locals := 66 } g [.ref z, .int (iI c), .int (iI what)] n S (some (.int (iI (if (0 ≤ c ∧ c < rows.length) ∧ (0 ≤ what ∧ what ≤ 7) then aTold (mBr hps) (stg 2) (stg 1) (stg 4) rows c.toNat what else -1)))) := by
  refine g_Cp.of (cc := cX9_told) (maxL := 3) (ret := (some .int)) (by decide) rfl (Nat.le_of_ble_eq_true rfl) ?_
  intro pp ee s m below meth cK Q ls hc hnm hw hl hret
  have hl : lv_has ls 3 [(0, .ref z), (1, .int (iI c)), (2, .int (iI what))] := hl
  have hM0 := hM
  obtain ⟨m1, m2, m3, m4, m5, m6, m7, m8⟩ := hM
  have hRl := hR.1
  have h8 := hS.2.1
  have hdr := hd_r hR m6 (Nat.le_refl rows.length)
  have hrg := mS_rg hM0 hR hS
  have hHD := mS_hd hS (stg 2)
  have hbr2 : ∀ i : Nat, i < mHC.toNat → 1 ≤ mBr hps i ∧ mBr hps i ≤ 60 := fun i hi => by have := m2 i (by omega); omega
  have hrt : ∀ (pc : Nat) (ls : Array Slot) (xr : Int), decode cX9_told pc = .ok (.ireturn, 1) → xr = (if (0 ≤ c ∧ c < rows.length) ∧ (0 ≤ what ∧ what ≤ 7) then aTold (mBr hps) (stg 2) (stg 1) (stg 4) rows c.toNat what else -1) → W pp l ee ({ frames := 3, cells := 0, slots := 0, locals := 66 } : Room) s m ([.ref z, .int (iI c), .int (iI what)] : List Value).toArray below meth cK s.heap [] 0 0 Q (F0 m pc ls [.int (iI xr)]) := fun pc ls xr d hx => by subst hx; exact hret pc ls ⟨_, rfl, rfl, d⟩
  refine lv_aload_n hc.1 hc.2.1 dX9_told_0 rfl (lv_at hl 0 rfl) ?_
  refine lv_iload_n hc.1 hc.2.1 dX9_told_1 rfl (lv_at hl 1 rfl) ?_
  refine nn_Vp (As := [.int (iI c)]) (st := []) hc hw hz rfl (c_X9_isCourse l g  hz hnw (by omega) (by omega)) (cwV 1 hc.2.2.2.2 gX9_told_X9_isCourse rfl rfl rfl (by decide +kernel) ⟨Nat.le_of_ble_eq_true rfl, Nat.le_of_ble_eq_true rfl⟩) rfl hl.1 rfl (Nat.le_of_ble_eq_true rfl) ⟨Nat.le_of_ble_eq_true rfl, Nat.le_of_ble_eq_true rfl⟩ dX9_told_2 ?_
  refine W.eq (g2 := F0 m 5 ls [.int (iI (if 0 ≤ c ∧ c ≤ nw 8 - 1 then 1 else 0))]) rfl ?_
  refine nn_if_eq hc dX9_told_5 (tgt := 18) (by decide) (by omega) (fun c1 => ?_) (fun c1 => ?_)
  · refine nn_iconst hc dX9_told_18 ?_
    exact hrt _ _ _ dX9_told_19 (by rw [if_neg (by omega)])
  · refine lv_iload_n hc.1 hc.2.1 dX9_told_8 rfl (lv_at hl 2 rfl) ?_
    refine nn_iconst hc dX9_told_9 ?_
    refine nn_bipush hc dX9_told_10 (by decide +kernel) ?_
    refine nn_Sp (As := [.int (iI what), .int (iI 0), .int (iI 7)]) (st := []) hc hw (c_X9_in l g   (by omega) (by omega) (by omega)) (va_cwS 3 hc.2.2.2.2 gX9_told_X9_in rfl rfl rfl (by decide +kernel) ⟨Nat.le_of_ble_eq_true rfl, Nat.le_of_ble_eq_true rfl⟩) rfl hl.1 rfl (Nat.le_of_ble_eq_true rfl) ⟨Nat.le_of_ble_eq_true rfl, Nat.le_of_ble_eq_true rfl⟩ dX9_told_12 ?_
    refine W.eq (g2 := F0 m 15 ls [.int (iI (if 0 ≤ what ∧ what ≤ 7 then 1 else 0))]) rfl ?_
    refine nn_if_ne hc dX9_told_15 (tgt := 20) (by decide) (by omega) (fun c2 => ?_) (fun c2 => ?_)
    · have g1 := hrg c.toNat (by omega)
      have hrw := hS.2.2 c.toNat (by omega)
      have hgd := hR.2.1 c.toNat (by omega)
      have hhd := mS_hdc hS (stg 2) (c := c.toNat) (by omega)
      have hdc := hd_r hR m6 (c := c.toNat) (by omega)
      have hmul : 0 ≤ stg 4 * hdR (stg 2) rows c.toNat ∧ stg 4 * hdR (stg 2) rows c.toNat ≤ 9 * 600 := ⟨Int.mul_nonneg m8.1 hdc.1, Int.mul_le_mul m8.2 (by omega) hdc.1 (by decide)⟩
      refine lv_iload_n hc.1 hc.2.1 dX9_told_20 rfl (lv_at hl 2 rfl) ?_
      rcases (show what = 0 ∨ what = 1 ∨ what = 2 ∨ what = 3 ∨ what = 4 ∨ what = 5 ∨ what = 6 ∨ (what < 0 ∨ 6 < what) by omega) with w3 | w3 | w3 | w3 | w3 | w3 | w3 | w3
      · refine nn_tabIn hc 0 (tgt := 64) w3 (by decide) (by decide) (by decide) dX9_told_21 rfl (by decide) ?_
        refine lv_aload_n hc.1 hc.2.1 dX9_told_64 rfl (lv_at hl 0 rfl) ?_
        refine lv_iload_n hc.1 hc.2.1 dX9_told_65 rfl (lv_at hl 1 rfl) ?_
        refine nn_Vp (As := [.int (iI c)]) (st := []) hc hw hz rfl (c_X9_courseLength l g  hz hnw (by omega)) (cwV 1 hc.2.2.2.2 gX9_told_X9_courseLength rfl rfl rfl (by decide +kernel) ⟨Nat.le_of_ble_eq_true rfl, Nat.le_of_ble_eq_true rfl⟩) rfl hl.1 rfl (Nat.le_of_ble_eq_true rfl) ⟨Nat.le_of_ble_eq_true rfl, Nat.le_of_ble_eq_true rfl⟩ dX9_told_66 ?_
        refine W.eq (g2 := F0 m 69 ls [.int (iI (nw (9 + 62 * c.toNat)))]) rfl ?_
        exact hrt _ _ _ dX9_told_69 (by rw [if_pos (by omega)]; unfold aTold; rw [if_pos (by omega)]; exact hrw.1)
      · refine nn_tabIn hc 1 (tgt := 70) w3 (by decide) (by decide) (by decide) dX9_told_21 rfl (by decide) ?_
        refine lv_aload_n hc.1 hc.2.1 dX9_told_70 rfl (lv_at hl 0 rfl) ?_
        refine lv_iload_n hc.1 hc.2.1 dX9_told_71 rfl (lv_at hl 1 rfl) ?_
        refine nn_Vp (As := [.int (iI c)]) (st := []) hc hw hz rfl (c_X9_foot l g  hz hst hnw (by omega) (fun k hk => hrg k (by omega))) (cwV 1 hc.2.2.2.2 gX9_told_X9_foot rfl rfl rfl (by decide +kernel) ⟨Nat.le_of_ble_eq_true rfl, Nat.le_of_ble_eq_true rfl⟩) rfl hl.1 rfl (Nat.le_of_ble_eq_true rfl) ⟨Nat.le_of_ble_eq_true rfl, Nat.le_of_ble_eq_true rfl⟩ dX9_told_72 ?_
        refine W.eq (g2 := F0 m 75 ls [.int (iI (sumI (fun k => (nw (9 + 62 * k) - stg 2) / 2) c.toNat))]) rfl ?_
        exact hrt _ _ _ dX9_told_75 (by rw [if_pos (by omega)]; unfold aTold; rw [if_neg (by omega), if_pos (by omega)]; exact hhd)
      · refine nn_tabIn hc 2 (tgt := 76) w3 (by decide) (by decide) (by decide) dX9_told_21 rfl (by decide) ?_
        refine lv_aload_n hc.1 hc.2.1 dX9_told_76 rfl (lv_at hl 0 rfl) ?_
        refine lv_aload_n hc.1 hc.2.1 dX9_told_77 rfl (lv_at hl 0 rfl) ?_
        refine lv_iload_n hc.1 hc.2.1 dX9_told_78 rfl (lv_at hl 1 rfl) ?_
        refine nn_Vp (As := [.int (iI c)]) (st := [.ref z]) hc hw hz rfl (c_X9_courseLength l g  hz hnw (by omega)) (cwV 1 hc.2.2.2.2 gX9_told_X9_courseLength rfl rfl rfl (by decide +kernel) ⟨Nat.le_of_ble_eq_true rfl, Nat.le_of_ble_eq_true rfl⟩) rfl hl.1 rfl (Nat.le_of_ble_eq_true rfl) ⟨Nat.le_of_ble_eq_true rfl, Nat.le_of_ble_eq_true rfl⟩ dX9_told_79 ?_
        refine W.eq (g2 := F0 m 82 ls [.int (iI (nw (9 + 62 * c.toNat))), .ref z]) rfl ?_
        refine nn_Vp (As := [.int (iI (nw (9 + 62 * c.toNat)))]) (st := []) hc hw hz rfl (c_X9_gauge l g  hz hst (by omega)) (cwV 1 hc.2.2.2.2 gX9_told_X9_gauge rfl rfl rfl (by decide +kernel) ⟨Nat.le_of_ble_eq_true rfl, Nat.le_of_ble_eq_true rfl⟩) rfl hl.1 rfl (Nat.le_of_ble_eq_true rfl) ⟨Nat.le_of_ble_eq_true rfl, Nat.le_of_ble_eq_true rfl⟩ dX9_told_82 ?_
        refine W.eq (g2 := F0 m 85 ls [.int (iI (((nw (9 + 62 * c.toNat)) - stg 2) / 2))]) rfl ?_
        exact hrt _ _ _ dX9_told_85 (by rw [if_pos (by omega)]; unfold aTold; rw [if_neg (by omega), if_neg (by omega), if_pos (by omega)]; exact (by rw [hrw.1]))
      · refine nn_tabIn hc 3 (tgt := 86) w3 (by decide) (by decide) (by decide) dX9_told_21 rfl (by decide) ?_
        refine lv_aload_n hc.1 hc.2.1 dX9_told_86 rfl (lv_at hl 0 rfl) ?_
        refine lv_iload_n hc.1 hc.2.1 dX9_told_87 rfl (lv_at hl 1 rfl) ?_
        refine nn_Vp (As := [.int (iI c)]) (st := []) hc hw hz rfl (c_X9_room l g  hz hst hnw (by omega) (fun k hk => hrg k (by omega)) (by rw [hhd]; omega)) (cwV 1 hc.2.2.2.2 gX9_told_X9_room rfl rfl rfl (by decide +kernel) ⟨Nat.le_of_ble_eq_true rfl, Nat.le_of_ble_eq_true rfl⟩) rfl hl.1 rfl (Nat.le_of_ble_eq_true rfl) ⟨Nat.le_of_ble_eq_true rfl, Nat.le_of_ble_eq_true rfl⟩ dX9_told_88 ?_
        refine W.eq (g2 := F0 m 91 ls [.int (iI (rmF (stg 1) (stg 4) (sumI (fun k => (nw (9 + 62 * k) - stg 2) / 2) c.toNat)))]) rfl ?_
        exact hrt _ _ _ dX9_told_91 (by rw [if_pos (by omega)]; unfold aTold; rw [if_neg (by omega), if_neg (by omega), if_neg (by omega), if_pos (by omega)]; exact (by rw [hhd]))
      · refine nn_tabIn hc 4 (tgt := 92) w3 (by decide) (by decide) (by decide) dX9_told_21 rfl (by decide) ?_
        refine lv_aload_n hc.1 hc.2.1 dX9_told_92 rfl (lv_at hl 0 rfl) ?_
        refine lv_iload_n hc.1 hc.2.1 dX9_told_93 rfl (lv_at hl 1 rfl) ?_
        refine nn_Vp (As := [.int (iI c)]) (st := []) hc hw hz rfl (c_X9_slateCount l g  hz hnw (by omega)) (cwV 1 hc.2.2.2.2 gX9_told_X9_slateCount rfl rfl rfl (by decide +kernel) ⟨Nat.le_of_ble_eq_true rfl, Nat.le_of_ble_eq_true rfl⟩) rfl hl.1 rfl (Nat.le_of_ble_eq_true rfl) ⟨Nat.le_of_ble_eq_true rfl, Nat.le_of_ble_eq_true rfl⟩ dX9_told_94 ?_
        refine W.eq (g2 := F0 m 97 ls [.int (iI (nw (9 + 62 * c.toNat + 1)))]) rfl ?_
        exact hrt _ _ _ dX9_told_97 (by rw [if_pos (by omega)]; unfold aTold; rw [if_neg (by omega), if_neg (by omega), if_neg (by omega), if_neg (by omega), if_pos (by omega)]; exact hrw.2.1)
      · refine nn_tabIn hc 5 (tgt := 98) w3 (by decide) (by decide) (by decide) dX9_told_21 rfl (by decide) ?_
        refine lv_aload_n hc.1 hc.2.1 dX9_told_98 rfl (lv_at hl 0 rfl) ?_
        refine lv_iload_n hc.1 hc.2.1 dX9_told_99 rfl (lv_at hl 1 rfl) ?_
        refine nn_Vp (As := [.int (iI c)]) (st := []) hc hw hz rfl (c_X9_waste l g  hz hnw hhp (by omega) (hrw) (hgd.1) (hgd.2.1.2) (by omega) (hbr2)) (cwV 1 hc.2.2.2.2 gX9_told_X9_waste rfl rfl rfl (by decide +kernel) ⟨Nat.le_of_ble_eq_true rfl, Nat.le_of_ble_eq_true rfl⟩) rfl hl.1 rfl (Nat.le_of_ble_eq_true rfl) ⟨Nat.le_of_ble_eq_true rfl, Nat.le_of_ble_eq_true rfl⟩ dX9_told_100 ?_
        refine W.eq (g2 := F0 m 103 ls [.int (iI (wst (mBr hps) (rL rows c.toNat) (rS rows c.toNat)))]) rfl ?_
        exact hrt _ _ _ dX9_told_103 (by rw [if_pos (by omega)]; unfold aTold; rw [if_neg (by omega), if_neg (by omega), if_neg (by omega), if_neg (by omega), if_neg (by omega), if_pos (by omega)])
      · refine nn_tabIn hc 6 (tgt := 104) w3 (by decide) (by decide) (by decide) dX9_told_21 rfl (by decide) ?_
        refine lv_aload_n hc.1 hc.2.1 dX9_told_104 rfl (lv_at hl 0 rfl) ?_
        refine lv_iload_n hc.1 hc.2.1 dX9_told_105 rfl (lv_at hl 1 rfl) ?_
        refine nn_Vp (As := [.int (iI c)]) (st := []) hc hw hz rfl (c_X9_lapHeld l g  hz hst hnw (hM0) (hR) (hS) (by omega)) (cwV 1 hc.2.2.2.2 gX9_told_X9_lapHeld rfl rfl rfl (by decide +kernel) ⟨Nat.le_of_ble_eq_true rfl, Nat.le_of_ble_eq_true rfl⟩) rfl hl.1 rfl (Nat.le_of_ble_eq_true rfl) ⟨Nat.le_of_ble_eq_true rfl, Nat.le_of_ble_eq_true rfl⟩ dX9_told_106 ?_
        refine W.eq (g2 := F0 m 109 ls [.int (iI (lapR (stg 2) rows c.toNat))]) rfl ?_
        exact hrt _ _ _ dX9_told_109 (by rw [if_pos (by omega)]; unfold aTold; rw [if_neg (by omega), if_neg (by omega), if_neg (by omega), if_neg (by omega), if_neg (by omega), if_neg (by omega), if_pos (by omega)])
      · refine nn_tabOut hc (tgt := 110) (by omega) w3 dX9_told_21 (by decide) ?_
        refine lv_aload_n hc.1 hc.2.1 dX9_told_110 rfl (lv_at hl 0 rfl) ?_
        refine lv_iload_n hc.1 hc.2.1 dX9_told_111 rfl (lv_at hl 1 rfl) ?_
        refine nn_Vp (As := [.int (iI c)]) (st := []) hc hw hz rfl (c_X9_cutCount l g  hz hnw hhp (by omega) (hrw) (hgd.1) (hgd.2.1.2) (by omega) (hbr2)) (cwV 1 hc.2.2.2.2 gX9_told_X9_cutCount rfl rfl rfl (by decide +kernel) ⟨Nat.le_of_ble_eq_true rfl, Nat.le_of_ble_eq_true rfl⟩) rfl hl.1 rfl (Nat.le_of_ble_eq_true rfl) ⟨Nat.le_of_ble_eq_true rfl, Nat.le_of_ble_eq_true rfl⟩ dX9_told_112 ?_
        refine W.eq (g2 := F0 m 115 ls [.int (iI (cuts (mBr hps) (rS rows c.toNat)))]) rfl ?_
        exact hrt _ _ _ dX9_told_115 (by rw [if_pos (by omega)]; unfold aTold; rw [if_neg (by omega), if_neg (by omega), if_neg (by omega), if_neg (by omega), if_neg (by omega), if_neg (by omega), if_neg (by omega)])
    · refine nn_iconst hc dX9_told_18 ?_
      exact hrt _ _ _ dX9_told_19 (by rw [if_neg (by omega)])

set_option maxHeartbeats 4000000 in
set_option maxRecDepth 100000 in
theorem c_X9_slate (l : Launch) (g : gG) {n : Nat} {S : Nat → gE} {z : Nat} {mLen mAt mHC mRC mHS mJC mCh mVi : Int} {stg hps nw : Nat → Int} {rs : Nat → Int} {rows : rT} {what c k : Int} (hz : S z = oO 9 [.ref (z + 1), .int (iI mLen), .int (iI mAt), .ref (z + 2), .ref (z + 3), .ref (z + 4), .ref (z + 5), .int (iI mHC), .int (iI mRC), .ref (z + 6), .ref (z + 7), .ref (z + 8), .int (iI mHS), .ref (z + 9), .ref (z + 10), .int (iI mJC), .int (iI mCh), .int (iI mVi)]) (hnw : S (z + 6) = oI g 1249 nw) (hM : goodM mHC stg hps) (hR : goodR mHC.toNat (mLn hps) (mBr hps) rs rows) (hS : mS nw rs rows) (r_c : -2147483648 ≤ c ∧ c < 2147483648) (r_k : -2147483648 ≤ k ∧ k < 2147483648) (r_what : -2147483648 ≤ what ∧ what < 2147483648) : g_Cp l yX9_slate wsX9_slate { frames := 2, cells := 0, slots := 0, locals := 43 } g [.ref z, .int (iI c), .int (iI k), .int (iI what)] n S (some (.int (iI (if (0 ≤ c ∧ c < rows.length) ∧ 0 ≤ k ∧ (0 ≤ what ∧ what ≤ 1) then aSlate (rS rows c.toNat) k.toNat what else -1)))) := by
  refine g_Cp.of (cc := cX9_slate) (maxL := 4) (ret := (some .int)) (by decide) rfl (Nat.le_of_ble_eq_true rfl) ?_
  intro pp ee s m below meth cK Q ls hc hnm hw hl hret
  have hl : lv_has ls 4 [(0, .ref z), (1, .int (iI c)), (2, .int (iI k)), (3, .int (iI what))] := hl
  have hM0 := hM
  obtain ⟨m1, m2, m3, m4, m5, m6, m7, m8⟩ := hM
  have hRl := hR.1
  have h8 := hS.2.1
  have hdr := hd_r hR m6 (Nat.le_refl rows.length)
  have hrg := mS_rg hM0 hR hS
  have hHD := mS_hd hS (stg 2)
  have hbr2 : ∀ i : Nat, i < mHC.toNat → 1 ≤ mBr hps i ∧ mBr hps i ≤ 60 := fun i hi => by have := m2 i (by omega); omega
  have hrt : ∀ (pc : Nat) (ls : Array Slot) (xr : Int), decode cX9_slate pc = .ok (.ireturn, 1) → xr = (if (0 ≤ c ∧ c < rows.length) ∧ 0 ≤ k ∧ (0 ≤ what ∧ what ≤ 1) then aSlate (rS rows c.toNat) k.toNat what else -1) → W pp l ee ({ frames := 2, cells := 0, slots := 0, locals := 43 } : Room) s m ([.ref z, .int (iI c), .int (iI k), .int (iI what)] : List Value).toArray below meth cK s.heap [] 0 0 Q (F0 m pc ls [.int (iI xr)]) := fun pc ls xr d hx => by subst hx; exact hret pc ls ⟨_, rfl, rfl, d⟩
  refine lv_aload_n hc.1 hc.2.1 dX9_slate_0 rfl (lv_at hl 0 rfl) ?_
  refine lv_iload_n hc.1 hc.2.1 dX9_slate_1 rfl (lv_at hl 1 rfl) ?_
  refine nn_Vp (As := [.int (iI c)]) (st := []) hc hw hz rfl (c_X9_isCourse l g  hz hnw (by omega) (by omega)) (cwV 1 hc.2.2.2.2 gX9_slate_X9_isCourse rfl rfl rfl (by decide +kernel) ⟨Nat.le_of_ble_eq_true rfl, Nat.le_of_ble_eq_true rfl⟩) rfl hl.1 rfl (Nat.le_of_ble_eq_true rfl) ⟨Nat.le_of_ble_eq_true rfl, Nat.le_of_ble_eq_true rfl⟩ dX9_slate_2 ?_
  refine W.eq (g2 := F0 m 5 ls [.int (iI (if 0 ≤ c ∧ c ≤ nw 8 - 1 then 1 else 0))]) rfl ?_
  refine nn_if_eq hc dX9_slate_5 (tgt := 21) (by decide) (by omega) (fun c1 => ?_) (fun c1 => ?_)
  · refine nn_iconst hc dX9_slate_21 ?_
    exact hrt _ _ _ dX9_slate_22 (by rw [if_neg (by omega)])
  · refine lv_iload_n hc.1 hc.2.1 dX9_slate_8 rfl (lv_at hl 2 rfl) ?_
    refine nn_if_lt hc dX9_slate_9 (tgt := 21) (by decide) (by omega) (fun c2 => ?_) (fun c2 => ?_)
    · refine nn_iconst hc dX9_slate_21 ?_
      exact hrt _ _ _ dX9_slate_22 (by rw [if_neg (by omega)])
    · refine lv_iload_n hc.1 hc.2.1 dX9_slate_12 rfl (lv_at hl 3 rfl) ?_
      refine nn_iconst hc dX9_slate_13 ?_
      refine nn_iconst hc dX9_slate_14 ?_
      refine nn_Sp (As := [.int (iI what), .int (iI 0), .int (iI 1)]) (st := []) hc hw (c_X9_in l g   (by omega) (by omega) (by omega)) (va_cwS 3 hc.2.2.2.2 gX9_slate_X9_in rfl rfl rfl (by decide +kernel) ⟨Nat.le_of_ble_eq_true rfl, Nat.le_of_ble_eq_true rfl⟩) rfl hl.1 rfl (Nat.le_of_ble_eq_true rfl) ⟨Nat.le_of_ble_eq_true rfl, Nat.le_of_ble_eq_true rfl⟩ dX9_slate_15 ?_
      refine W.eq (g2 := F0 m 18 ls [.int (iI (if 0 ≤ what ∧ what ≤ 1 then 1 else 0))]) rfl ?_
      refine nn_if_ne hc dX9_slate_18 (tgt := 23) (by decide) (by omega) (fun c3 => ?_) (fun c3 => ?_)
      · have hrw := hS.2.2 c.toNat (by omega)
        have hgd := hR.2.1 c.toNat (by omega)
        have hrw2 := hrw.2.1
        refine lv_iload_n hc.1 hc.2.1 dX9_slate_23 rfl (lv_at hl 2 rfl) ?_
        refine lv_aload_n hc.1 hc.2.1 dX9_slate_24 rfl (lv_at hl 0 rfl) ?_
        refine lv_iload_n hc.1 hc.2.1 dX9_slate_25 rfl (lv_at hl 1 rfl) ?_
        refine nn_Vp (As := [.int (iI c)]) (st := [.int (iI k)]) hc hw hz rfl (c_X9_slateCount l g  hz hnw (by omega)) (cwV 1 hc.2.2.2.2 gX9_slate_X9_slateCount rfl rfl rfl (by decide +kernel) ⟨Nat.le_of_ble_eq_true rfl, Nat.le_of_ble_eq_true rfl⟩) rfl hl.1 rfl (Nat.le_of_ble_eq_true rfl) ⟨Nat.le_of_ble_eq_true rfl, Nat.le_of_ble_eq_true rfl⟩ dX9_slate_26 ?_
        refine W.eq (g2 := F0 m 29 ls [.int (iI (nw (9 + 62 * c.toNat + 1))), .int (iI k)]) rfl ?_
        refine nn_icmp_lt hc dX9_slate_29 (tgt := 35) (by decide) (by omega) (by omega) (fun c4 => ?_) (fun c4 => ?_)
        · have hs1 := hrw.2.2 k.toNat (by omega)
          have hs2 := slH_ok hgd.1 (i := k.toNat) (by omega)
          have hs3 := slV_ok hgd.1 (i := k.toNat) (by omega)
          have hs4 := hbr2 (slH (rS rows c.toNat) k.toNat).toNat (by omega)
          have hd64 := d64 (h := slH (rS rows c.toNat) k.toNat) (v := slV (rS rows c.toNat) k.toNat) (by omega)
          rw [← hs1] at hd64
          refine lv_iload_n hc.1 hc.2.1 dX9_slate_35 rfl (lv_at hl 3 rfl) ?_
          refine nn_if_ne hc dX9_slate_36 (tgt := 51) (by decide) (by omega) (fun c5 => ?_) (fun c5 => ?_)
          · refine lv_aload_n hc.1 hc.2.1 dX9_slate_51 rfl (lv_at hl 0 rfl) ?_
            refine lv_iload_n hc.1 hc.2.1 dX9_slate_52 rfl (lv_at hl 1 rfl) ?_
            refine lv_iload_n hc.1 hc.2.1 dX9_slate_53 rfl (lv_at hl 2 rfl) ?_
            refine nn_Vp (As := [.int (iI c), .int (iI k)]) (st := []) hc hw hz rfl (c_X9_slateOf l g  hz hnw (by omega) (by omega)) (cwV 2 hc.2.2.2.2 gX9_slate_X9_slateOf rfl rfl rfl (by decide +kernel) ⟨Nat.le_of_ble_eq_true rfl, Nat.le_of_ble_eq_true rfl⟩) rfl hl.1 rfl (Nat.le_of_ble_eq_true rfl) ⟨Nat.le_of_ble_eq_true rfl, Nat.le_of_ble_eq_true rfl⟩ dX9_slate_54 ?_
            refine W.eq (g2 := F0 m 57 ls [.int (iI (nw (9 + 62 * c.toNat + 2 + k.toNat)))]) rfl ?_
            refine nn_bipush hc dX9_slate_57 (by decide +kernel) ?_
            refine nn_irem hc dX9_slate_59 (by omega) (by omega) ?_
            exact hrt _ _ _ dX9_slate_60 (by rw [if_pos (by omega)]; unfold aSlate; rw [if_neg (by omega)]; first | (rw [if_pos (by omega)]; exact hd64.1) | (rw [if_neg (by omega)]; exact hd64.2))
          · refine lv_aload_n hc.1 hc.2.1 dX9_slate_39 rfl (lv_at hl 0 rfl) ?_
            refine lv_iload_n hc.1 hc.2.1 dX9_slate_40 rfl (lv_at hl 1 rfl) ?_
            refine lv_iload_n hc.1 hc.2.1 dX9_slate_41 rfl (lv_at hl 2 rfl) ?_
            refine nn_Vp (As := [.int (iI c), .int (iI k)]) (st := []) hc hw hz rfl (c_X9_slateOf l g  hz hnw (by omega) (by omega)) (cwV 2 hc.2.2.2.2 gX9_slate_X9_slateOf rfl rfl rfl (by decide +kernel) ⟨Nat.le_of_ble_eq_true rfl, Nat.le_of_ble_eq_true rfl⟩) rfl hl.1 rfl (Nat.le_of_ble_eq_true rfl) ⟨Nat.le_of_ble_eq_true rfl, Nat.le_of_ble_eq_true rfl⟩ dX9_slate_42 ?_
            refine W.eq (g2 := F0 m 45 ls [.int (iI (nw (9 + 62 * c.toNat + 2 + k.toNat)))]) rfl ?_
            refine nn_bipush hc dX9_slate_45 (by decide +kernel) ?_
            refine nn_idiv hc dX9_slate_47 (by omega) (by omega) ?_
            refine lv_goto hc.1 hc.2.1 dX9_slate_48 (tgt := 60) (by decide) ?_
            exact hrt _ _ _ dX9_slate_60 (by rw [if_pos (by omega)]; unfold aSlate; rw [if_neg (by omega)]; first | (rw [if_pos (by omega)]; exact hd64.1) | (rw [if_neg (by omega)]; exact hd64.2))
        · refine nn_bipush hc dX9_slate_32 (by decide +kernel) ?_
          exact hrt _ _ _ dX9_slate_34 (by rw [if_pos (by omega)]; unfold aSlate; rw [if_pos (by omega)])
      · refine nn_iconst hc dX9_slate_21 ?_
        exact hrt _ _ _ dX9_slate_22 (by rw [if_neg (by omega)])

set_option maxHeartbeats 4000000 in
set_option maxRecDepth 100000 in
theorem c_X9_sumOf (l : Launch) (g : gG) {n : Nat} {S : Nat → gE} {z : Nat} {mLen mAt mHC mRC mHS mJC mCh mVi : Int} {stg hps nw : Nat → Int} {rs : Nat → Int} {rows : rT} {what : Int} (hz : S z = oO 9 [.ref (z + 1), .int (iI mLen), .int (iI mAt), .ref (z + 2), .ref (z + 3), .ref (z + 4), .ref (z + 5), .int (iI mHC), .int (iI mRC), .ref (z + 6), .ref (z + 7), .ref (z + 8), .int (iI mHS), .ref (z + 9), .ref (z + 10), .int (iI mJC), .int (iI mCh), .int (iI mVi)]) (hhp : S (z + 4) = oI g 24 hps) (hnw : S (z + 6) = oI g 1249 nw) (hM : goodM mHC stg hps) (hR : goodR mHC.toNat (mLn hps) (mBr hps) rs rows) (hS : mS nw rs rows) (rw9 : what = 9 ∨ what = 10) : g_Cp l yX9_sumOf wsX9_sumOf { frames := 2, cells := 0, slots := 0, locals := 45 } g [.ref z, .int (iI what)] n S (some (.int (iI (if what = 9 then wstR (mBr hps) rows else sumI rs mHC.toNat)))) := by
  refine g_Cp.of (cc := cX9_sumOf) (maxL := 4) (ret := (some .int)) (by decide) rfl (Nat.le_of_ble_eq_true rfl) ?_
  intro pp ee s m below meth cK Q ls hc hnm hw hl hret
  have hl : lv_has ls 4 [(0, .ref z), (1, .int (iI what))] := hl
  have hiX9 : ∀ w ∈ u_ws RX9 TX9 18, w ∈ wsX9_sumOf := by decide +kernel
  have lk25 : Cond.fieldLink RX9 25 "RoofCoursesModel" "now" "[I" ∈ wsX9_sumOf := by decide +kernel
  have lk54 : Cond.fieldLink RX9 54 "RoofCoursesModel" "heapCount" "I" ∈ wsX9_sumOf := by decide +kernel
  have hM0 := hM
  obtain ⟨m1, m2, m3, m4, m5, m6, m7, m8⟩ := hM
  have hRl := hR.1
  have h8 := hS.2.1
  have hdr := hd_r hR m6 (Nat.le_refl rows.length)
  have hrg := mS_rg hM0 hR hS
  have hHD := mS_hd hS (stg 2)
  have hbr2 : ∀ i : Nat, i < mHC.toNat → 1 ≤ mBr hps i ∧ mBr hps i ≤ 60 := fun i hi => by have := m2 i (by omega); omega
  have hrt : ∀ (pc : Nat) (ls : Array Slot) (xr : Int), decode cX9_sumOf pc = .ok (.ireturn, 1) → xr = (if what = 9 then wstR (mBr hps) rows else sumI rs mHC.toNat) → W pp l ee ({ frames := 2, cells := 0, slots := 0, locals := 45 } : Room) s m ([.ref z, .int (iI what)] : List Value).toArray below meth cK s.heap [] 0 0 Q (F0 m pc ls [.int (iI xr)]) := fun pc ls xr d hx => by subst hx; exact hret pc ls ⟨_, rfl, rfl, d⟩
  refine nn_iconst hc dX9_sumOf_0 ?_
  refine lv_istore_n (lv' := [(2, .int (iI 0)), (0, .ref z), (1, .int (iI what))]) hc.1 hc.2.1 dX9_sumOf_1 rfl hl (by decide) rfl (fun ls hl => ?_)
  refine nn_iconst hc dX9_sumOf_2 ?_
  refine lv_istore_n (lv' := [(3, .int (iI 0)), (2, .int (iI 0)), (0, .ref z), (1, .int (iI what))]) hc.1 hc.2.1 dX9_sumOf_3 rfl hl (by decide) rfl (fun ls hl => ?_)
  have lab4 : ∀ (fu4 : Nat) (t : Int) (c : Int) (ls : Array Slot), (0 ≤ c ∧ c ≤ rows.length) → (t = (if what = 9 then sumI (fun c => wst (mBr hps) (rL rows c) (rS rows c)) c.toNat else 0)) → (what = 10 → c = 0) → (20 - c).toNat < fu4 → lv_has ls 4 [(2, .int (iI t)), (3, .int (iI c)), (0, .ref z), (1, .int (iI what))] → W pp l ee ({ frames := 2, cells := 0, slots := 0, locals := 45 } : Room) s m ([.ref z, .int (iI what)] : List Value).toArray below meth cK s.heap [] 0 0 Q (F0 m 4 ls []) := by
    intro fu4
    induction fu4 with
    | zero =>
      intro t c ls hc0 ht hcw hmeas hl
      exact absurd hmeas (Nat.not_lt_zero _)
    | succ fu4 ih4 =>
      intro t c ls hc0 ht hcw hmeas hl
      refine lv_iload_n hc.1 hc.2.1 dX9_sumOf_4 rfl (lv_at hl 1 rfl) ?_
      refine lv_aload_n hc.1 hc.2.1 dX9_sumOf_5 rfl (lv_at hl 2 rfl) ?_
      refine nn_get hc hw hz hiX9 rfl 9 (by decide) rfl lk25 dX9_sumOf_6 ?_
      refine nn_bipush hc dX9_sumOf_9 (by decide +kernel) ?_
      refine nn_iald hc hw hnw (by omega) (by omega) dX9_sumOf_11 ?_
      refine W.eq (g2 := F0 m 12 ls [.int (iI (nw 8)), .int (iI c)]) rfl ?_
      refine nn_icmp_ge hc dX9_sumOf_12 (tgt := 35) (by decide) (by omega) (by omega) (fun c1 => ?_) (fun c1 => ?_)
      · have hw99 : (what = 9 ∧ c = rows.length) ∨ what = 10 := by omega
        refine nn_iconst hc dX9_sumOf_35 ?_
        refine lv_istore_n (lv' := [(3, .int (iI 0)), (2, .int (iI t)), (0, .ref z), (1, .int (iI what))]) hc.1 hc.2.1 dX9_sumOf_36 rfl hl (by decide) rfl (fun ls hl => ?_)
        have lab37 : ∀ (fu37 : Nat) (t1 : Int) (k : Int) (ls : Array Slot), (0 ≤ k ∧ k ≤ mHC) → ((what = 9 ∧ k = 0 ∧ t1 = wstR (mBr hps) rows) ∨ (what = 10 ∧ t1 = sumI rs k.toNat)) → (mHC - k).toNat < fu37 → lv_has ls 4 [(2, .int (iI t1)), (3, .int (iI k)), (0, .ref z), (1, .int (iI what))] → W pp l ee ({ frames := 2, cells := 0, slots := 0, locals := 45 } : Room) s m ([.ref z, .int (iI what)] : List Value).toArray below meth cK s.heap [] 0 0 Q (F0 m 37 ls []) := by
          intro fu37
          induction fu37 with
          | zero =>
            intro t1 k ls hk ht1 hmeas hl
            exact absurd hmeas (Nat.not_lt_zero _)
          | succ fu37 ih37 =>
            intro t1 k ls hk ht1 hmeas hl
            refine lv_iload_n hc.1 hc.2.1 dX9_sumOf_37 rfl (lv_at hl 1 rfl) ?_
            refine lv_aload_n hc.1 hc.2.1 dX9_sumOf_38 rfl (lv_at hl 2 rfl) ?_
            refine nn_get hc hw hz hiX9 rfl 7 (by decide) rfl lk54 dX9_sumOf_39 ?_
            refine nn_icmp_ge hc dX9_sumOf_42 (tgt := 66) (by decide) (by omega) (by omega) (fun c2 => ?_) (fun c2 => ?_)
            · refine lv_iload_n hc.1 hc.2.1 dX9_sumOf_66 rfl (lv_at hl 0 rfl) ?_
              exact hrt _ _ _ dX9_sumOf_67 (by rcases ht1 with ⟨q1, q2, q3⟩ | ⟨q1, q2⟩; (rw [if_pos q1]; exact q3); (rw [if_neg (by omega), q2, show k.toNat = mHC.toNat by omega]))
            · refine lv_iload_n hc.1 hc.2.1 dX9_sumOf_45 rfl (lv_at hl 3 rfl) ?_
              refine nn_bipush hc dX9_sumOf_46 (by decide +kernel) ?_
              refine nn_icmp_ne hc dX9_sumOf_48 (tgt := 66) (by decide) (by omega) (by decide) (fun c3 => ?_) (fun c3 => ?_)
              · refine lv_iload_n hc.1 hc.2.1 dX9_sumOf_66 rfl (lv_at hl 0 rfl) ?_
                exact hrt _ _ _ dX9_sumOf_67 (by rcases ht1 with ⟨q1, q2, q3⟩ | ⟨q1, q2⟩; (rw [if_pos q1]; exact q3); (rw [if_neg (by omega), q2, show k.toNat = mHC.toNat by omega]))
              · refine lv_iload_n hc.1 hc.2.1 dX9_sumOf_51 rfl (lv_at hl 0 rfl) ?_
                refine lv_aload_n hc.1 hc.2.1 dX9_sumOf_52 rfl (lv_at hl 2 rfl) ?_
                refine nn_get hc hw hz hiX9 rfl 9 (by decide) rfl lk25 dX9_sumOf_53 ?_
                refine lv_iload_n hc.1 hc.2.1 dX9_sumOf_56 rfl (lv_at hl 1 rfl) ?_
                refine nn_iald hc hw hnw (by omega) (by omega) dX9_sumOf_57 ?_
                refine nn_iadd hc dX9_sumOf_58 ?_
                refine lv_istore_n (lv' := [(2, .int (iI (t1 + (nw k.toNat)))), (3, .int (iI k)), (0, .ref z), (1, .int (iI what))]) hc.1 hc.2.1 dX9_sumOf_59 rfl hl (by decide) rfl (fun ls hl => ?_)
                refine nn_iinc (lv' := [(3, .int (iI (k + 1))), (2, .int (iI (t1 + (nw k.toNat)))), (0, .ref z), (1, .int (iI what))]) hc dX9_sumOf_60 hl (k0 := 1) rfl (by decide) rfl (fun ls hl => ?_)
                refine lv_goto hc.1 hc.2.1 dX9_sumOf_63 (tgt := 37) (by decide) ?_
                exact ih37 (t1 + (nw k.toNat)) (k + 1) _ (by omega) (Or.inr ⟨by omega, by rw [sumI_s (by omega), ← hS.1 k.toNat (by omega)]; omega⟩) (by omega) (lv_sub hl [1, 0, 2, 3] rfl)
        exact lab37 _ t 0 _ (by omega) (by rcases hw99 with ⟨q1, q2⟩ | q1; exact Or.inl ⟨q1, rfl, by rw [ht, if_pos q1]; unfold wstR; rw [show c.toNat = rows.length by omega]⟩; exact Or.inr ⟨q1, by rw [ht, if_neg (by omega)]; rfl⟩) (Nat.lt_succ_self _) (lv_sub hl [1, 0, 2, 3] rfl)
      · refine lv_iload_n hc.1 hc.2.1 dX9_sumOf_15 rfl (lv_at hl 3 rfl) ?_
        refine nn_bipush hc dX9_sumOf_16 (by decide +kernel) ?_
        refine nn_icmp_ne hc dX9_sumOf_18 (tgt := 35) (by decide) (by omega) (by decide) (fun c4 => ?_) (fun c4 => ?_)
        · have hw99 : (what = 9 ∧ c = rows.length) ∨ what = 10 := by omega
          refine nn_iconst hc dX9_sumOf_35 ?_
          refine lv_istore_n (lv' := [(3, .int (iI 0)), (2, .int (iI t)), (0, .ref z), (1, .int (iI what))]) hc.1 hc.2.1 dX9_sumOf_36 rfl hl (by decide) rfl (fun ls hl => ?_)
          have lab37 : ∀ (fu37 : Nat) (t1 : Int) (k : Int) (ls : Array Slot), (0 ≤ k ∧ k ≤ mHC) → ((what = 9 ∧ k = 0 ∧ t1 = wstR (mBr hps) rows) ∨ (what = 10 ∧ t1 = sumI rs k.toNat)) → (mHC - k).toNat < fu37 → lv_has ls 4 [(2, .int (iI t1)), (3, .int (iI k)), (0, .ref z), (1, .int (iI what))] → W pp l ee ({ frames := 2, cells := 0, slots := 0, locals := 45 } : Room) s m ([.ref z, .int (iI what)] : List Value).toArray below meth cK s.heap [] 0 0 Q (F0 m 37 ls []) := by
            intro fu37
            induction fu37 with
            | zero =>
              intro t1 k ls hk ht1 hmeas hl
              exact absurd hmeas (Nat.not_lt_zero _)
            | succ fu37 ih37 =>
              intro t1 k ls hk ht1 hmeas hl
              refine lv_iload_n hc.1 hc.2.1 dX9_sumOf_37 rfl (lv_at hl 1 rfl) ?_
              refine lv_aload_n hc.1 hc.2.1 dX9_sumOf_38 rfl (lv_at hl 2 rfl) ?_
              refine nn_get hc hw hz hiX9 rfl 7 (by decide) rfl lk54 dX9_sumOf_39 ?_
              refine nn_icmp_ge hc dX9_sumOf_42 (tgt := 66) (by decide) (by omega) (by omega) (fun c5 => ?_) (fun c5 => ?_)
              · refine lv_iload_n hc.1 hc.2.1 dX9_sumOf_66 rfl (lv_at hl 0 rfl) ?_
                exact hrt _ _ _ dX9_sumOf_67 (by rcases ht1 with ⟨q1, q2, q3⟩ | ⟨q1, q2⟩; (rw [if_pos q1]; exact q3); (rw [if_neg (by omega), q2, show k.toNat = mHC.toNat by omega]))
              · refine lv_iload_n hc.1 hc.2.1 dX9_sumOf_45 rfl (lv_at hl 3 rfl) ?_
                refine nn_bipush hc dX9_sumOf_46 (by decide +kernel) ?_
                refine nn_icmp_ne hc dX9_sumOf_48 (tgt := 66) (by decide) (by omega) (by decide) (fun c6 => ?_) (fun c6 => ?_)
                · refine lv_iload_n hc.1 hc.2.1 dX9_sumOf_66 rfl (lv_at hl 0 rfl) ?_
                  exact hrt _ _ _ dX9_sumOf_67 (by rcases ht1 with ⟨q1, q2, q3⟩ | ⟨q1, q2⟩; (rw [if_pos q1]; exact q3); (rw [if_neg (by omega), q2, show k.toNat = mHC.toNat by omega]))
                · refine lv_iload_n hc.1 hc.2.1 dX9_sumOf_51 rfl (lv_at hl 0 rfl) ?_
                  refine lv_aload_n hc.1 hc.2.1 dX9_sumOf_52 rfl (lv_at hl 2 rfl) ?_
                  refine nn_get hc hw hz hiX9 rfl 9 (by decide) rfl lk25 dX9_sumOf_53 ?_
                  refine lv_iload_n hc.1 hc.2.1 dX9_sumOf_56 rfl (lv_at hl 1 rfl) ?_
                  refine nn_iald hc hw hnw (by omega) (by omega) dX9_sumOf_57 ?_
                  refine nn_iadd hc dX9_sumOf_58 ?_
                  refine lv_istore_n (lv' := [(2, .int (iI (t1 + (nw k.toNat)))), (3, .int (iI k)), (0, .ref z), (1, .int (iI what))]) hc.1 hc.2.1 dX9_sumOf_59 rfl hl (by decide) rfl (fun ls hl => ?_)
                  refine nn_iinc (lv' := [(3, .int (iI (k + 1))), (2, .int (iI (t1 + (nw k.toNat)))), (0, .ref z), (1, .int (iI what))]) hc dX9_sumOf_60 hl (k0 := 1) rfl (by decide) rfl (fun ls hl => ?_)
                  refine lv_goto hc.1 hc.2.1 dX9_sumOf_63 (tgt := 37) (by decide) ?_
                  exact ih37 (t1 + (nw k.toNat)) (k + 1) _ (by omega) (Or.inr ⟨by omega, by rw [sumI_s (by omega), ← hS.1 k.toNat (by omega)]; omega⟩) (by omega) (lv_sub hl [1, 0, 2, 3] rfl)
          exact lab37 _ t 0 _ (by omega) (by rcases hw99 with ⟨q1, q2⟩ | q1; exact Or.inl ⟨q1, rfl, by rw [ht, if_pos q1]; unfold wstR; rw [show c.toNat = rows.length by omega]⟩; exact Or.inr ⟨q1, by rw [ht, if_neg (by omega)]; rfl⟩) (Nat.lt_succ_self _) (lv_sub hl [1, 0, 2, 3] rfl)
        · have hrw := hS.2.2 c.toNat (by omega)
          have hgd := hR.2.1 c.toNat (by omega)
          refine lv_iload_n hc.1 hc.2.1 dX9_sumOf_21 rfl (lv_at hl 0 rfl) ?_
          refine lv_aload_n hc.1 hc.2.1 dX9_sumOf_22 rfl (lv_at hl 2 rfl) ?_
          refine lv_iload_n hc.1 hc.2.1 dX9_sumOf_23 rfl (lv_at hl 1 rfl) ?_
          refine nn_Vp (As := [.int (iI c)]) (st := [.int (iI t)]) hc hw hz rfl (c_X9_waste l g  hz hnw hhp (by omega) (hrw) (hgd.1) (hgd.2.1.2) (by omega) (hbr2)) (cwV 1 hc.2.2.2.2 gX9_sumOf_X9_waste rfl rfl rfl (by decide +kernel) ⟨Nat.le_of_ble_eq_true rfl, Nat.le_of_ble_eq_true rfl⟩) rfl hl.1 rfl (Nat.le_of_ble_eq_true rfl) ⟨Nat.le_of_ble_eq_true rfl, Nat.le_of_ble_eq_true rfl⟩ dX9_sumOf_24 ?_
          refine W.eq (g2 := F0 m 27 ls [.int (iI (wst (mBr hps) (rL rows c.toNat) (rS rows c.toNat))), .int (iI t)]) rfl ?_
          refine nn_iadd hc dX9_sumOf_27 ?_
          refine lv_istore_n (lv' := [(2, .int (iI (t + (wst (mBr hps) (rL rows c.toNat) (rS rows c.toNat))))), (3, .int (iI c)), (0, .ref z), (1, .int (iI what))]) hc.1 hc.2.1 dX9_sumOf_28 rfl hl (by decide) rfl (fun ls hl => ?_)
          refine nn_iinc (lv' := [(3, .int (iI (c + 1))), (2, .int (iI (t + (wst (mBr hps) (rL rows c.toNat) (rS rows c.toNat))))), (0, .ref z), (1, .int (iI what))]) hc dX9_sumOf_29 hl (k0 := 1) rfl (by decide) rfl (fun ls hl => ?_)
          refine lv_goto hc.1 hc.2.1 dX9_sumOf_32 (tgt := 4) (by decide) ?_
          exact ih4 (t + (wst (mBr hps) (rL rows c.toNat) (rS rows c.toNat))) (c + 1) _ (by omega) (by rw [if_pos (by omega), sumI_s (by omega), ht, if_pos (by omega)]) (by omega) (by omega) (lv_sub hl [1, 0, 2, 3] rfl)
  exact lab4 _ 0 0 _ (by omega) (by split <;> rfl) (fun _ => rfl) (Nat.lt_succ_self _) (lv_sub hl [1, 0, 2, 3] rfl)

set_option maxHeartbeats 4000000 in
set_option maxRecDepth 100000 in
theorem c_X9_count (l : Launch) (g : gG) {n : Nat} {S : Nat → gE} {z : Nat} {mLen mAt mHC mRC mHS mJC mCh mVi : Int} {stg hps nw : Nat → Int} {rs : Nat → Int} {rows : rT} {what : Int} (hz : S z = oO 9 [.ref (z + 1), .int (iI mLen), .int (iI mAt), .ref (z + 2), .ref (z + 3), .ref (z + 4), .ref (z + 5), .int (iI mHC), .int (iI mRC), .ref (z + 6), .ref (z + 7), .ref (z + 8), .int (iI mHS), .ref (z + 9), .ref (z + 10), .int (iI mJC), .int (iI mCh), .int (iI mVi)]) (hst : S (z + 2) = oI g 5 stg) (hhp : S (z + 4) = oI g 24 hps) (hnw : S (z + 6) = oI g 1249 nw) (hM : goodM mHC stg hps) (hR : goodR mHC.toNat (mLn hps) (mBr hps) rs rows) (hS : mS nw rs rows) (rHS : 0 ≤ mHS) (rLen : 0 ≤ mLen) (r_what : -2147483648 ≤ what ∧ what < 2147483648) : g_Cp l yX9_count wsX9_count { frames := 3, cells := 0, slots := 0, locals := 68 } g [.ref z, .int (iI what)] n S (some (.int (iI (aCount mHC (stg 0) (stg 1) (stg 2) (stg 3) (stg 4) (mBr hps) rs rows mHS.toNat mLen.toNat what)))) := by
  refine g_Cp.of (cc := cX9_count) (maxL := 2) (ret := (some .int)) (by decide) rfl (Nat.le_of_ble_eq_true rfl) ?_
  intro pp ee s m below meth cK Q ls hc hnm hw hl hret
  have hl : lv_has ls 2 [(0, .ref z), (1, .int (iI what))] := hl
  have hiX9 : ∀ w ∈ u_ws RX9 TX9 18, w ∈ wsX9_count := by decide +kernel
  have lk54 : Cond.fieldLink RX9 54 "RoofCoursesModel" "heapCount" "I" ∈ wsX9_count := by decide +kernel
  have lk25 : Cond.fieldLink RX9 25 "RoofCoursesModel" "now" "[I" ∈ wsX9_count := by decide +kernel
  have lk13 : Cond.fieldLink RX9 13 "RoofCoursesModel" "settings" "[I" ∈ wsX9_count := by decide +kernel
  have lk57 : Cond.fieldLink RX9 57 "RoofCoursesModel" "historySize" "I" ∈ wsX9_count := by decide +kernel
  have lk63 : Cond.fieldLink RX9 63 "RoofCoursesModel" "length" "I" ∈ wsX9_count := by decide +kernel
  have hM0 := hM
  obtain ⟨m1, m2, m3, m4, m5, m6, m7, m8⟩ := hM
  have hRl := hR.1
  have h8 := hS.2.1
  have hdr := hd_r hR m6 (Nat.le_refl rows.length)
  have hrg := mS_rg hM0 hR hS
  have hHD := mS_hd hS (stg 2)
  have hbr2 : ∀ i : Nat, i < mHC.toNat → 1 ≤ mBr hps i ∧ mBr hps i ≤ 60 := fun i hi => by have := m2 i (by omega); omega
  have hrt : ∀ (pc : Nat) (ls : Array Slot) (xr : Int), decode cX9_count pc = .ok (.ireturn, 1) → xr = (aCount mHC (stg 0) (stg 1) (stg 2) (stg 3) (stg 4) (mBr hps) rs rows mHS.toNat mLen.toNat what) → W pp l ee ({ frames := 3, cells := 0, slots := 0, locals := 68 } : Room) s m ([.ref z, .int (iI what)] : List Value).toArray below meth cK s.heap [] 0 0 Q (F0 m pc ls [.int (iI xr)]) := fun pc ls xr d hx => by subst hx; exact hret pc ls ⟨_, rfl, rfl, d⟩
  refine lv_iload_n hc.1 hc.2.1 dX9_count_0 rfl (lv_at hl 1 rfl) ?_
  rcases (show what = 0 ∨ what = 1 ∨ what = 2 ∨ what = 3 ∨ what = 4 ∨ what = 5 ∨ what = 6 ∨ what = 7 ∨ what = 8 ∨ what = 9 ∨ what = 10 ∨ what = 11 ∨ what = 12 ∨ (what < 0 ∨ 12 < what) by omega) with w1 | w1 | w1 | w1 | w1 | w1 | w1 | w1 | w1 | w1 | w1 | w1 | w1 | w1
  · refine nn_tabIn hc 0 (tgt := 68) w1 (by decide) (by decide) (by decide) dX9_count_1 rfl (by decide) ?_
    refine lv_aload_n hc.1 hc.2.1 dX9_count_68 rfl (lv_at hl 0 rfl) ?_
    refine nn_get hc hw hz hiX9 rfl 7 (by decide) rfl lk54 dX9_count_69 ?_
    exact hrt _ _ _ dX9_count_72 (by unfold aCount; rw [if_pos (by omega)])
  · refine nn_tabIn hc 1 (tgt := 73) w1 (by decide) (by decide) (by decide) dX9_count_1 rfl (by decide) ?_
    refine lv_aload_n hc.1 hc.2.1 dX9_count_73 rfl (lv_at hl 0 rfl) ?_
    refine nn_get hc hw hz hiX9 rfl 9 (by decide) rfl lk25 dX9_count_74 ?_
    refine nn_bipush hc dX9_count_77 (by decide +kernel) ?_
    refine nn_iald hc hw hnw (by omega) (by omega) dX9_count_79 ?_
    refine W.eq (g2 := F0 m 80 ls [.int (iI (nw 8))]) rfl ?_
    exact hrt _ _ _ dX9_count_80 (by unfold aCount; rw [if_neg (by omega), if_pos (by omega)]; exact h8)
  · refine nn_tabIn hc 2 (tgt := 81) w1 (by decide) (by decide) (by decide) dX9_count_1 rfl (by decide) ?_
    refine lv_aload_n hc.1 hc.2.1 dX9_count_81 rfl (lv_at hl 0 rfl) ?_
    refine nn_get hc hw hz hiX9 rfl 3 (by decide) rfl lk13 dX9_count_82 ?_
    refine lv_iload_n hc.1 hc.2.1 dX9_count_85 rfl (lv_at hl 1 rfl) ?_
    refine nn_iconst hc dX9_count_86 ?_
    refine nn_isub hc dX9_count_87 ?_
    refine nn_iald hc hw hst (by omega) (by omega) dX9_count_88 ?_
    exact hrt _ _ _ dX9_count_89 (by unfold aCount; rcases (show what = 2 ∨ what = 3 ∨ what = 4 ∨ what = 5 ∨ what = 6 by omega) with q | q | q | q | q <;> subst q <;> rfl)
  · refine nn_tabIn hc 3 (tgt := 81) w1 (by decide) (by decide) (by decide) dX9_count_1 rfl (by decide) ?_
    refine lv_aload_n hc.1 hc.2.1 dX9_count_81 rfl (lv_at hl 0 rfl) ?_
    refine nn_get hc hw hz hiX9 rfl 3 (by decide) rfl lk13 dX9_count_82 ?_
    refine lv_iload_n hc.1 hc.2.1 dX9_count_85 rfl (lv_at hl 1 rfl) ?_
    refine nn_iconst hc dX9_count_86 ?_
    refine nn_isub hc dX9_count_87 ?_
    refine nn_iald hc hw hst (by omega) (by omega) dX9_count_88 ?_
    exact hrt _ _ _ dX9_count_89 (by unfold aCount; rcases (show what = 2 ∨ what = 3 ∨ what = 4 ∨ what = 5 ∨ what = 6 by omega) with q | q | q | q | q <;> subst q <;> rfl)
  · refine nn_tabIn hc 4 (tgt := 81) w1 (by decide) (by decide) (by decide) dX9_count_1 rfl (by decide) ?_
    refine lv_aload_n hc.1 hc.2.1 dX9_count_81 rfl (lv_at hl 0 rfl) ?_
    refine nn_get hc hw hz hiX9 rfl 3 (by decide) rfl lk13 dX9_count_82 ?_
    refine lv_iload_n hc.1 hc.2.1 dX9_count_85 rfl (lv_at hl 1 rfl) ?_
    refine nn_iconst hc dX9_count_86 ?_
    refine nn_isub hc dX9_count_87 ?_
    refine nn_iald hc hw hst (by omega) (by omega) dX9_count_88 ?_
    exact hrt _ _ _ dX9_count_89 (by unfold aCount; rcases (show what = 2 ∨ what = 3 ∨ what = 4 ∨ what = 5 ∨ what = 6 by omega) with q | q | q | q | q <;> subst q <;> rfl)
  · refine nn_tabIn hc 5 (tgt := 81) w1 (by decide) (by decide) (by decide) dX9_count_1 rfl (by decide) ?_
    refine lv_aload_n hc.1 hc.2.1 dX9_count_81 rfl (lv_at hl 0 rfl) ?_
    refine nn_get hc hw hz hiX9 rfl 3 (by decide) rfl lk13 dX9_count_82 ?_
    refine lv_iload_n hc.1 hc.2.1 dX9_count_85 rfl (lv_at hl 1 rfl) ?_
    refine nn_iconst hc dX9_count_86 ?_
    refine nn_isub hc dX9_count_87 ?_
    refine nn_iald hc hw hst (by omega) (by omega) dX9_count_88 ?_
    exact hrt _ _ _ dX9_count_89 (by unfold aCount; rcases (show what = 2 ∨ what = 3 ∨ what = 4 ∨ what = 5 ∨ what = 6 by omega) with q | q | q | q | q <;> subst q <;> rfl)
  · refine nn_tabIn hc 6 (tgt := 81) w1 (by decide) (by decide) (by decide) dX9_count_1 rfl (by decide) ?_
    refine lv_aload_n hc.1 hc.2.1 dX9_count_81 rfl (lv_at hl 0 rfl) ?_
    refine nn_get hc hw hz hiX9 rfl 3 (by decide) rfl lk13 dX9_count_82 ?_
    refine lv_iload_n hc.1 hc.2.1 dX9_count_85 rfl (lv_at hl 1 rfl) ?_
    refine nn_iconst hc dX9_count_86 ?_
    refine nn_isub hc dX9_count_87 ?_
    refine nn_iald hc hw hst (by omega) (by omega) dX9_count_88 ?_
    exact hrt _ _ _ dX9_count_89 (by unfold aCount; rcases (show what = 2 ∨ what = 3 ∨ what = 4 ∨ what = 5 ∨ what = 6 by omega) with q | q | q | q | q <;> subst q <;> rfl)
  · refine nn_tabIn hc 7 (tgt := 90) w1 (by decide) (by decide) (by decide) dX9_count_1 rfl (by decide) ?_
    refine lv_aload_n hc.1 hc.2.1 dX9_count_90 rfl (lv_at hl 0 rfl) ?_
    refine lv_aload_n hc.1 hc.2.1 dX9_count_91 rfl (lv_at hl 0 rfl) ?_
    refine nn_get hc hw hz hiX9 rfl 9 (by decide) rfl lk25 dX9_count_92 ?_
    refine nn_bipush hc dX9_count_95 (by decide +kernel) ?_
    refine nn_iald hc hw hnw (by omega) (by omega) dX9_count_97 ?_
    refine W.eq (g2 := F0 m 98 ls [.int (iI (nw 8)), .ref z]) rfl ?_
    refine nn_Vp (As := [.int (iI (nw 8))]) (st := []) hc hw hz rfl (c_X9_foot l g  hz hst hnw (by omega) (hrg)) (cwV 1 hc.2.2.2.2 gX9_count_X9_foot rfl rfl rfl (by decide +kernel) ⟨Nat.le_of_ble_eq_true rfl, Nat.le_of_ble_eq_true rfl⟩) rfl hl.1 rfl (Nat.le_of_ble_eq_true rfl) ⟨Nat.le_of_ble_eq_true rfl, Nat.le_of_ble_eq_true rfl⟩ dX9_count_98 ?_
    refine W.eq (g2 := F0 m 101 ls [.int (iI (sumI (fun k => (nw (9 + 62 * k) - stg 2) / 2) (nw 8).toNat))]) rfl ?_
    exact hrt _ _ _ dX9_count_101 (by unfold aCount; rw [if_neg (by omega), if_neg (by omega), if_neg (by omega), if_neg (by omega), if_neg (by omega), if_neg (by omega), if_neg (by omega), if_pos (by omega)]; exact hHD)
  · refine nn_tabIn hc 8 (tgt := 102) w1 (by decide) (by decide) (by decide) dX9_count_1 rfl (by decide) ?_
    refine lv_aload_n hc.1 hc.2.1 dX9_count_102 rfl (lv_at hl 0 rfl) ?_
    refine nn_Vp (As := []) (st := []) hc hw hz rfl (c_X9_isReady l g  hz hst hnw (by omega) (hrg) (by rw [hHD]; omega)) (cwV 0 hc.2.2.2.2 gX9_count_X9_isReady rfl rfl rfl (by decide +kernel) ⟨Nat.le_of_ble_eq_true rfl, Nat.le_of_ble_eq_true rfl⟩) rfl hl.1 rfl (Nat.le_of_ble_eq_true rfl) ⟨Nat.le_of_ble_eq_true rfl, Nat.le_of_ble_eq_true rfl⟩ dX9_count_103 ?_
    refine W.eq (g2 := F0 m 106 ls [.int (iI (if 0 < nw 8 ∧ stg 0 ≤ sumI (fun k => (nw (9 + 62 * k) - stg 2) / 2) (nw 8).toNat then 1 else 0))]) rfl ?_
    refine nn_if_eq hc dX9_count_106 (tgt := 113) (by decide) (by omega) (fun c2 => ?_) (fun c2 => ?_)
    · refine nn_iconst hc dX9_count_113 ?_
      exact hrt _ _ _ dX9_count_114 (by unfold aCount; rw [if_neg (by omega), if_neg (by omega), if_neg (by omega), if_neg (by omega), if_neg (by omega), if_neg (by omega), if_neg (by omega), if_neg (by omega), if_pos (by omega)]; rw [hHD] at *; first | (rw [if_pos (by omega)]) | (rw [if_neg (by omega)]))
    · refine nn_iconst hc dX9_count_109 ?_
      refine lv_goto hc.1 hc.2.1 dX9_count_110 (tgt := 114) (by decide) ?_
      exact hrt _ _ _ dX9_count_114 (by unfold aCount; rw [if_neg (by omega), if_neg (by omega), if_neg (by omega), if_neg (by omega), if_neg (by omega), if_neg (by omega), if_neg (by omega), if_neg (by omega), if_pos (by omega)]; rw [hHD] at *; first | (rw [if_pos (by omega)]) | (rw [if_neg (by omega)]))
  · refine nn_tabIn hc 9 (tgt := 115) w1 (by decide) (by decide) (by decide) dX9_count_1 rfl (by decide) ?_
    refine lv_aload_n hc.1 hc.2.1 dX9_count_115 rfl (lv_at hl 0 rfl) ?_
    refine lv_iload_n hc.1 hc.2.1 dX9_count_116 rfl (lv_at hl 1 rfl) ?_
    refine nn_Vp (As := [.int (iI what)]) (st := []) hc hw hz rfl (c_X9_sumOf l g  hz hhp hnw (hM0) (hR) (hS) (by omega)) (cwV 1 hc.2.2.2.2 gX9_count_X9_sumOf rfl rfl rfl (by decide +kernel) ⟨Nat.le_of_ble_eq_true rfl, Nat.le_of_ble_eq_true rfl⟩) rfl hl.1 rfl (Nat.le_of_ble_eq_true rfl) ⟨Nat.le_of_ble_eq_true rfl, Nat.le_of_ble_eq_true rfl⟩ dX9_count_117 ?_
    refine W.eq (g2 := F0 m 120 ls [.int (iI (if what = 9 then wstR (mBr hps) rows else sumI rs mHC.toNat))]) rfl ?_
    exact hrt _ _ _ dX9_count_120 (by unfold aCount; rcases (show what = 9 ∨ what = 10 by omega) with q | q <;> subst q <;> rfl)
  · refine nn_tabIn hc 10 (tgt := 115) w1 (by decide) (by decide) (by decide) dX9_count_1 rfl (by decide) ?_
    refine lv_aload_n hc.1 hc.2.1 dX9_count_115 rfl (lv_at hl 0 rfl) ?_
    refine lv_iload_n hc.1 hc.2.1 dX9_count_116 rfl (lv_at hl 1 rfl) ?_
    refine nn_Vp (As := [.int (iI what)]) (st := []) hc hw hz rfl (c_X9_sumOf l g  hz hhp hnw (hM0) (hR) (hS) (by omega)) (cwV 1 hc.2.2.2.2 gX9_count_X9_sumOf rfl rfl rfl (by decide +kernel) ⟨Nat.le_of_ble_eq_true rfl, Nat.le_of_ble_eq_true rfl⟩) rfl hl.1 rfl (Nat.le_of_ble_eq_true rfl) ⟨Nat.le_of_ble_eq_true rfl, Nat.le_of_ble_eq_true rfl⟩ dX9_count_117 ?_
    refine W.eq (g2 := F0 m 120 ls [.int (iI (if what = 9 then wstR (mBr hps) rows else sumI rs mHC.toNat))]) rfl ?_
    exact hrt _ _ _ dX9_count_120 (by unfold aCount; rcases (show what = 9 ∨ what = 10 by omega) with q | q <;> subst q <;> rfl)
  · refine nn_tabIn hc 11 (tgt := 121) w1 (by decide) (by decide) (by decide) dX9_count_1 rfl (by decide) ?_
    refine lv_aload_n hc.1 hc.2.1 dX9_count_121 rfl (lv_at hl 0 rfl) ?_
    refine nn_get hc hw hz hiX9 rfl 12 (by decide) rfl lk57 dX9_count_122 ?_
    exact hrt _ _ _ dX9_count_125 (by unfold aCount; rw [if_neg (by omega), if_neg (by omega), if_neg (by omega), if_neg (by omega), if_neg (by omega), if_neg (by omega), if_neg (by omega), if_neg (by omega), if_neg (by omega), if_neg (by omega), if_neg (by omega), if_pos (by omega)]; exact (show mHS = ((mHS.toNat : Nat) : Int) by omega))
  · refine nn_tabIn hc 12 (tgt := 126) w1 (by decide) (by decide) (by decide) dX9_count_1 rfl (by decide) ?_
    refine lv_aload_n hc.1 hc.2.1 dX9_count_126 rfl (lv_at hl 0 rfl) ?_
    refine nn_get hc hw hz hiX9 rfl 1 (by decide) rfl lk63 dX9_count_127 ?_
    exact hrt _ _ _ dX9_count_130 (by unfold aCount; rw [if_neg (by omega), if_neg (by omega), if_neg (by omega), if_neg (by omega), if_neg (by omega), if_neg (by omega), if_neg (by omega), if_neg (by omega), if_neg (by omega), if_neg (by omega), if_neg (by omega), if_neg (by omega), if_pos (by omega)]; exact (show mLen = ((mLen.toNat : Nat) : Int) by omega))
  · refine nn_tabOut hc (tgt := 131) (by omega) w1 dX9_count_1 (by decide) ?_
    refine nn_iconst hc dX9_count_131 ?_
    exact hrt _ _ _ dX9_count_132 (by unfold aCount; rw [if_neg (by omega), if_neg (by omega), if_neg (by omega), if_neg (by omega), if_neg (by omega), if_neg (by omega), if_neg (by omega), if_neg (by omega), if_neg (by omega), if_neg (by omega), if_neg (by omega), if_neg (by omega), if_neg (by omega)])

