set_option maxHeartbeats 4000000 in
set_option maxRecDepth 100000 in
theorem c_X2_add_any (l : Launch) (g : gG) {n : Nat} {S : Nat → gE} {w : Nat} {wZ : Int} {kp : Nat → Option Nat} {q : Nat} {vs : List Value} (hw0 : S w = oO 2 [.ref (w + 1), .int (iI wZ)]) (hk0 : S (w + 1) = oR g 3 6 kp) (hq : S q = oO 1 vs) (rw : 0 ≤ wZ ∧ wZ ≤ 6) (hkp : ∀ j : Nat, (j : Int) < wZ → ∃ (x : Nat) (us : List Value), kp j = some x ∧ S x = oO 1 us) : g_Cs l yX2_add wsX2_add { frames := 0, cells := 0, slots := 0, locals := 0 } g [.ref w, .ref q] n S (fun vr n1 S1 => vr = none ∧ n = n1 ∧ S1 w = oO 2 [.ref (w + 1), .int (iI (if wZ = 6 then 6 else wZ + 1))] ∧ S1 (w + 1) = oR g 3 6 (adK kp wZ q) ∧ (∀ bb, bb ≠ w → bb ≠ (w + 1) → S1 bb = S bb)) 0 0 := by
  by_cases e9 : wZ = 6
  · refine (c_X2_add_full l g hw0 hk0 hq e9 (fun j hj => hkp j (by omega))).mono (fun v n1 S1 h => ?_)
    obtain ⟨h1, h2, h3, h4, h5⟩ := h
    exact ⟨h1, h2, by rw [if_pos e9]; exact h3, by unfold adK; rw [if_pos e9]; exact h4, h5⟩
  · refine ((c_X2_add_lt l g hw0 hk0 hq (by omega)).wide (Nat.le_of_ble_eq_true rfl) (Nat.le_of_ble_eq_true rfl) (Nat.le_of_ble_eq_true rfl) (Nat.le_of_ble_eq_true rfl)).mono (fun v n1 S1 h => ?_)
    obtain ⟨h1, h2, h3, h4, h5⟩ := h
    exact ⟨h1, h2, by rw [if_neg e9]; exact h3, by unfold adK; rw [if_neg e9]; exact h4, h5⟩

set_option maxHeartbeats 4000000 in
set_option maxRecDepth 100000 in
theorem c_X1_undoOn_0b (l : Launch) (g : gG) {n : Nat} {S : Nat → gE} {a co : Nat} {hn sn : Int} {o : Nat} {pl : Nat} {zR : Int} {lv : Nat → Int} {cs : Nat → Option Nat} {q : Nat} {qL qF qG qR qZ qW qU : Int} {hf : Nat → Int} (ha : S a = oO 1 [.int (iI 0), .ref co, .int (iI hn), .int (iI sn)]) (ho : S o = oO 6 [.ref pl, .ref (o + 1), .ref (o + 2), .ref (o + 3), .int (iI zR)]) (hlv : S (o + 1) = oI g 8 lv) (hcs : S (o + 2) = oR g 2 20 cs) (hq : S q = oO 3 [.ref (q + 1), .ref (q + 2), .int (iI qL), .int (iI qF), .int (iI qG), .int (iI qR), .int (iI qZ), .int (iI qW), .int (iI qU)]) (hqh : S (q + 1) = oI g 60 hf) (rzR : 0 < zR ∧ zR ≤ 20) (hla : cs (zR - 1).toNat = some q) (rZ : 0 ≤ qZ ∧ qZ ≤ 60) (rh : ∀ k : Nat, (k : Int) < qZ → 0 ≤ hf k ∧ hf k < 8) (hd : o + 4 ≤ q ∨ q + 3 ≤ o ∨ q = o + 3) : g_Cs l yX1_undoOn wsX1_undoOn { frames := 4, cells := 0, slots := 0, locals := 88 } g [.ref a, .ref o] n S (fun vr n1 S1 => vr = none ∧ n = n1 ∧ S1 o = oO 6 [.ref pl, .ref (o + 1), .ref (o + 2), .ref (o + 3), .int (iI (zR - 1))] ∧ S1 (o + 1) = oI g 8 (adS lv hf 1 qZ.toNat) ∧ (∀ bb, bb ≠ o → bb ≠ (o + 1) → S1 bb = S bb)) 0 0 := by
  refine g_Cs.of (cc := cX1_undoOn) (maxL := 2) (ret := none) (by decide) rfl (Nat.le_of_ble_eq_true rfl) ?_
  intro pp ee s m below meth cK Q H locs ls hc hnm hw hl hret
  have hl : lv_has ls 2 [(0, .ref a), (1, .ref o)] := hl
  have hiX1 : ∀ w ∈ u_ws RX1 TX1 4, w ∈ wsX1_undoOn := by decide +kernel
  have lk7 : Cond.fieldLink RX1 7 "RoofCourses$Change" "kind" "I" ∈ wsX1_undoOn := by decide +kernel
  refine lv_aload_n hc.1 hc.2.1 dX1_undoOn_0 rfl (lv_at hl 0 rfl) ?_
  refine nn_get hc hw ha hiX1 rfl 0 (by decide) rfl lk7 dX1_undoOn_1 ?_
  refine nn_if_ne hc dX1_undoOn_4 (tgt := 15) (by decide) (by decide) (fun c1 => ?_) (fun c1 => ?_)
  · exact absurd c1 (by decide)
  · refine lv_aload_n hc.1 hc.2.1 dX1_undoOn_7 rfl (lv_at hl 1 rfl) ?_
    refine nn_Vs (As := []) (st := []) hc hw ho rfl (c_X6_pop l g  ho hlv hcs hq hqh (by omega) (hla) (by omega) (rh) (by omega)) (cwV 0 hc.2.2.2.2 gX1_undoOn_X6_pop rfl rfl rfl (by decide +kernel) ⟨Nat.le_of_ble_eq_true rfl, Nat.le_of_ble_eq_true rfl⟩) rfl hl.1 rfl (Nat.le_of_ble_eq_true rfl) ⟨Nat.le_of_ble_eq_true rfl, Nat.le_of_ble_eq_true rfl⟩ dX1_undoOn_8 (fun vr n1 S2 H locs qS2 hw => ?_)
    obtain ⟨rfl, rfl, hS2_0, hS2_1, fS2⟩ := qS2
    refine W.eq (g2 := F0 m 11 ls [.ref q]) rfl ?_
    refine lv_pop hc.1 hc.2.1 dX1_undoOn_11 rfl ?_
    refine lv_goto hc.1 hc.2.1 dX1_undoOn_12 (tgt := 50) (by decide) ?_
    exact hret none _ S2 _ _ _ _ hw (⟨rfl, rfl, hS2_0, hS2_1, fun bb hb0 hb1 => (fS2 bb hb0 hb1)⟩) ⟨rfl, dX1_undoOn_50⟩

set_option maxHeartbeats 4000000 in
set_option maxRecDepth 100000 in
theorem c_X6_begin_b (l : Launch) (g : gG) {n : Nat} {S : Nat → gE} {o pl : Nat} {zR : Int} {lv sl : Nat → Int} {nH pHi pWi pLp pBk pHp : Int} (ho : S o = oO 6 [.ref pl, .ref (o + 1), .ref (o + 2), .ref (o + 3), .int (iI zR)]) (hlv : S (o + 1) = oI g 8 lv) (hp : S pl = oO 5 [.ref (pl + 1), .ref (pl + 2), .ref (pl + 3), .int (iI nH), .int (iI pHi), .int (iI pWi), .int (iI pLp), .int (iI pBk), .int (iI pHp)]) (hsl : S (pl + 3) = oI g 8 sl) (hd : o + 4 ≤ pl ∨ pl + 4 ≤ o) : g_Cs l yX6_begin wsX6_begin { frames := 1, cells := 0, slots := 0, locals := 18 } g [.ref o] n S (fun vr n1 S1 => vr = none ∧ n = n1 ∧ S1 o = oO 6 [.ref pl, .ref (o + 1), .ref (o + 2), .ref (o + 3), .int (iI 0)] ∧ S1 (o + 1) = oI g 8 (va_cpy sl lv 0 0 8) ∧ (∀ bb, bb ≠ o → bb ≠ (o + 1) → S1 bb = S bb)) 0 0 := by
  refine g_Cs.of (cc := cX6_begin) (maxL := 1) (ret := none) (by decide) rfl (Nat.le_of_ble_eq_true rfl) ?_
  intro pp ee s m below meth cK Q H locs ls hc hnm hw hl hret
  have hl : lv_has ls 1 [(0, .ref o)] := hl
  have hiX6 : ∀ w ∈ u_ws RX6 TX6 5, w ∈ wsX6_begin := by decide +kernel
  have hiX5 : ∀ w ∈ u_ws RX5 TX5 9, w ∈ wsX6_begin := by decide +kernel
  have lk26 : Cond.fieldLink RX6 26 "RoofCourses$Roof" "plan" "LRoofCourses$Plan;" ∈ wsX6_begin := by decide +kernel
  have lk34 : Cond.fieldLink RX6 34 "RoofCourses$Plan" "slates" "[I" ∈ wsX6_begin := by decide +kernel
  have lk9 : Cond.fieldLink RX6 9 "RoofCourses$Roof" "left" "[I" ∈ wsX6_begin := by decide +kernel
  have lkK39 : Cond.methodLink RX6 39 arraycopyName ∈ wsX6_begin := by decide +kernel
  have lkKn : Cond.native arraycopyName ∈ wsX6_begin := by decide +kernel
  have lkKs : Cond.static arraycopyName ∈ wsX6_begin := by decide +kernel
  have lkKi : Cond.initialized "java/lang/System" ∈ wsX6_begin := by decide +kernel
  have lk45 : Cond.fieldLink RX6 45 "RoofCourses$Roof" "size" "I" ∈ wsX6_begin := by decide +kernel
  refine lv_aload_n hc.1 hc.2.1 dX6_begin_0 rfl (lv_at hl 0 rfl) ?_
  refine nn_get hc hw ho hiX6 rfl 0 (by decide) rfl lk26 dX6_begin_1 ?_
  refine nn_get hc hw hp hiX5 rfl 2 (by decide) rfl lk34 dX6_begin_4 ?_
  refine nn_iconst hc dX6_begin_7 ?_
  refine lv_aload_n hc.1 hc.2.1 dX6_begin_8 rfl (lv_at hl 0 rfl) ?_
  refine nn_get hc hw ho hiX6 rfl 1 (by decide) rfl lk9 dX6_begin_9 ?_
  refine nn_iconst hc dX6_begin_12 ?_
  refine nn_bipush hc dX6_begin_13 (by decide +kernel) ?_
  refine nn_copy hc hl.1 hw lkK39 lkKn lkKs lkKi hsl hlv (by omega) (by decide) (by decide) (Nat.le_of_ble_eq_true rfl) (Nat.le_of_ble_eq_true rfl) dX6_begin_15 (fun S1 H locs hS1 fS1 hw => ?_)
  have hS1 : S1 (o + 1) = oI g 8 (va_cpy sl lv 0 0 8) := hS1
  refine lv_aload_n hc.1 hc.2.1 dX6_begin_18 rfl (lv_at hl 0 rfl) ?_
  refine nn_iconst hc dX6_begin_19 ?_
  have e2 : S1 o = oO 6 [.ref pl, .ref (o + 1), .ref (o + 2), .ref (o + 3), .int (iI zR)] := (fS1 o (off_nl (x := o) (a := 1) (by decide))).trans ho
  refine nn_put hc hw e2 hiX6 tyX6 tyX6_ok nmX6 rfl 4 (by decide) (Nat.le_of_ble_eq_true rfl) lk45 rfl rfl rfl dX6_begin_20 (fun S3 H locs hS3 fS3 hw => ?_)
  have hS3 : S3 o = oO 6 [.ref pl, .ref (o + 1), .ref (o + 2), .ref (o + 3), .int (iI 0)] := hS3
  have e4 : S3 (o + 1) = oI g 8 (va_cpy sl lv 0 0 8) := (fS3 (o + 1) (off_nr (x := o) (a := 1) (by decide))).trans hS1
  exact hret none _ S3 _ _ _ _ hw (⟨rfl, rfl, hS3, e4, fun bb hb0 hb1 => ((fS3 bb hb0)).trans (fS1 bb hb1)⟩) ⟨rfl, dX6_begin_23⟩

set_option maxHeartbeats 4000000 in
set_option maxRecDepth 100000 in
theorem c_X6_isOpen_b (l : Launch) (g : gG) {n : Nat} {S : Nat → gE} {o pl : Nat} {zR : Int} {cs : Nat → Option Nat} {nH pHi pWi pLp pBk pHp : Int} {q : Nat} {qL qF qG qR qZ qW qU : Int} (ho : S o = oO 6 [.ref pl, .ref (o + 1), .ref (o + 2), .ref (o + 3), .int (iI zR)]) (hcs : S (o + 2) = oR g 2 20 cs) (hp : S pl = oO 5 [.ref (pl + 1), .ref (pl + 2), .ref (pl + 3), .int (iI nH), .int (iI pHi), .int (iI pWi), .int (iI pLp), .int (iI pBk), .int (iI pHp)]) (hq : S q = oO 3 [.ref (q + 1), .ref (q + 2), .int (iI qL), .int (iI qF), .int (iI qG), .int (iI qR), .int (iI qZ), .int (iI qW), .int (iI qU)]) (rzR : 0 ≤ zR ∧ zR ≤ 20) (hla : (0 < zR ∧ cs (zR - 1).toNat = some q) ∨ (zR = 0 ∧ q = o + 3)) (r1 : -1000000 ≤ qF + qG ∧ qF + qG ≤ 1000000) (r2 : -1000000 ≤ pHi ∧ pHi ≤ 1000000) : g_Cp l yX6_isOpen wsX6_isOpen { frames := 2, cells := 0, slots := 0, locals := 41 } g [.ref o] n S (some (.int (iI (if zR < 20 ∧ qF + qG < pHi then 1 else 0)))) := by
  refine g_Cp.of (cc := cX6_isOpen) (maxL := 1) (ret := (some .boolean)) (by decide) rfl (Nat.le_of_ble_eq_true rfl) ?_
  intro pp ee s m below meth cK Q ls hc hnm hw hl hret
  have hl : lv_has ls 1 [(0, .ref o)] := hl
  have hiX6 : ∀ w ∈ u_ws RX6 TX6 5, w ∈ wsX6_isOpen := by decide +kernel
  have lk45 : Cond.fieldLink RX6 45 "RoofCourses$Roof" "size" "I" ∈ wsX6_isOpen := by decide +kernel
  have lk26 : Cond.fieldLink RX6 26 "RoofCourses$Roof" "plan" "LRoofCourses$Plan;" ∈ wsX6_isOpen := by decide +kernel
  have hrt : ∀ (pc : Nat) (ls : Array Slot) (xr : Int), decode cX6_isOpen pc = .ok (.ireturn, 1) → xr = (if zR < 20 ∧ qF + qG < pHi then 1 else 0) → W pp l ee ({ frames := 2, cells := 0, slots := 0, locals := 41 } : Room) s m ([.ref o] : List Value).toArray below meth cK s.heap [] 0 0 Q (F0 m pc ls [.int (iI xr)]) := fun pc ls xr d hx => by subst hx; exact hret pc ls ⟨_, rfl, nn_nb _, d⟩
  refine lv_aload_n hc.1 hc.2.1 dX6_isOpen_0 rfl (lv_at hl 0 rfl) ?_
  refine nn_get hc hw ho hiX6 rfl 4 (by decide) rfl lk45 dX6_isOpen_1 ?_
  refine nn_bipush hc dX6_isOpen_4 (by decide +kernel) ?_
  refine nn_icmp_ge hc dX6_isOpen_6 (tgt := 27) (by decide) (by omega) (by decide) (fun c1 => ?_) (fun c1 => ?_)
  · refine nn_iconst hc dX6_isOpen_27 ?_
    exact hrt _ _ _ dX6_isOpen_28 (by first | rfl | omega | (split <;> omega))
  · refine lv_aload_n hc.1 hc.2.1 dX6_isOpen_9 rfl (lv_at hl 0 rfl) ?_
    refine nn_get hc hw ho hiX6 rfl 0 (by decide) rfl lk26 dX6_isOpen_10 ?_
    refine lv_aload_n hc.1 hc.2.1 dX6_isOpen_13 rfl (lv_at hl 0 rfl) ?_
    refine nn_Vp (As := []) (st := [.ref pl]) hc hw ho rfl (c_X6_last l g  ho hcs (by omega) (hla)) (cwV 0 hc.2.2.2.2 gX6_isOpen_X6_last rfl rfl rfl (by decide +kernel) ⟨Nat.le_of_ble_eq_true rfl, Nat.le_of_ble_eq_true rfl⟩) rfl hl.1 rfl (Nat.le_of_ble_eq_true rfl) ⟨Nat.le_of_ble_eq_true rfl, Nat.le_of_ble_eq_true rfl⟩ dX6_isOpen_14 ?_
    refine W.eq (g2 := F0 m 17 ls [.ref q, .ref pl]) rfl ?_
    refine nn_Vp (As := [.ref q]) (st := []) hc hw hp rfl (c_X5_isReadyBy l g  hp hq (by omega) (by omega)) (cwV 1 hc.2.2.2.2 gX6_isOpen_X5_isReadyBy rfl rfl rfl (by decide +kernel) ⟨Nat.le_of_ble_eq_true rfl, Nat.le_of_ble_eq_true rfl⟩) rfl hl.1 rfl (Nat.le_of_ble_eq_true rfl) ⟨Nat.le_of_ble_eq_true rfl, Nat.le_of_ble_eq_true rfl⟩ dX6_isOpen_17 ?_
    refine W.eq (g2 := F0 m 20 ls [.int (iI (if pHi ≤ qF + qG then 1 else 0))]) rfl ?_
    refine nn_if_ne hc dX6_isOpen_20 (tgt := 27) (by decide) (by omega) (fun c2 => ?_) (fun c2 => ?_)
    · refine nn_iconst hc dX6_isOpen_27 ?_
      exact hrt _ _ _ dX6_isOpen_28 (by first | rfl | omega | (split <;> omega))
    · refine nn_iconst hc dX6_isOpen_23 ?_
      refine lv_goto hc.1 hc.2.1 dX6_isOpen_24 (tgt := 28) (by decide) ?_
      exact hrt _ _ _ dX6_isOpen_28 (by first | rfl | omega | (split <;> omega))

set_option maxHeartbeats 4000000 in
set_option maxRecDepth 100000 in
theorem c_X6_slatesLeft_b (l : Launch) (g : gG) {n : Nat} {S : Nat → gE} {o pl : Nat} {zR : Int} {lv : Nat → Int} {nH pHi pWi pLp pBk pHp : Int} (ho : S o = oO 6 [.ref pl, .ref (o + 1), .ref (o + 2), .ref (o + 3), .int (iI zR)]) (hlv : S (o + 1) = oI g 8 lv) (hp : S pl = oO 5 [.ref (pl + 1), .ref (pl + 2), .ref (pl + 3), .int (iI nH), .int (iI pHi), .int (iI pWi), .int (iI pLp), .int (iI pBk), .int (iI pHp)]) (rH : 0 ≤ nH ∧ nH ≤ 8) : g_Cp l yX6_slatesLeft wsX6_slatesLeft { frames := 0, cells := 0, slots := 0, locals := 0 } g [.ref o] n S (some (.int (iI (sumI lv nH.toNat)))) := by
  refine g_Cp.of (cc := cX6_slatesLeft) (maxL := 3) (ret := (some .int)) (by decide) rfl (Nat.le_of_ble_eq_true rfl) ?_
  intro pp ee s m below meth cK Q ls hc hnm hw hl hret
  have hl : lv_has ls 3 [(0, .ref o)] := hl
  have hiX6 : ∀ w ∈ u_ws RX6 TX6 5, w ∈ wsX6_slatesLeft := by decide +kernel
  have hiX5 : ∀ w ∈ u_ws RX5 TX5 9, w ∈ wsX6_slatesLeft := by decide +kernel
  have lk26 : Cond.fieldLink RX6 26 "RoofCourses$Roof" "plan" "LRoofCourses$Plan;" ∈ wsX6_slatesLeft := by decide +kernel
  have lk78 : Cond.fieldLink RX6 78 "RoofCourses$Plan" "heaps" "I" ∈ wsX6_slatesLeft := by decide +kernel
  have lk9 : Cond.fieldLink RX6 9 "RoofCourses$Roof" "left" "[I" ∈ wsX6_slatesLeft := by decide +kernel
  have hrt : ∀ (pc : Nat) (ls : Array Slot) (xr : Int), decode cX6_slatesLeft pc = .ok (.ireturn, 1) → xr = (sumI lv nH.toNat) → W pp l ee ({ frames := 0, cells := 0, slots := 0, locals := 0 } : Room) s m ([.ref o] : List Value).toArray below meth cK s.heap [] 0 0 Q (F0 m pc ls [.int (iI xr)]) := fun pc ls xr d hx => by subst hx; exact hret pc ls ⟨_, rfl, rfl, d⟩
  refine nn_iconst hc dX6_slatesLeft_0 ?_
  refine lv_istore_n (lv' := [(1, .int (iI 0)), (0, .ref o)]) hc.1 hc.2.1 dX6_slatesLeft_1 rfl hl (by decide) rfl (fun ls hl => ?_)
  refine nn_iconst hc dX6_slatesLeft_2 ?_
  refine lv_istore_n (lv' := [(2, .int (iI 0)), (1, .int (iI 0)), (0, .ref o)]) hc.1 hc.2.1 dX6_slatesLeft_3 rfl hl (by decide) rfl (fun ls hl => ?_)
  have lab4 : ∀ (fu4 : Nat) (k : Int) (t : Int) (ls : Array Slot), (0 ≤ k ∧ k ≤ nH) → (t = sumI lv k.toNat) → (nH - k).toNat < fu4 → lv_has ls 3 [(1, .int (iI t)), (2, .int (iI k)), (0, .ref o)] → W pp l ee ({ frames := 0, cells := 0, slots := 0, locals := 0 } : Room) s m ([.ref o] : List Value).toArray below meth cK s.heap [] 0 0 Q (F0 m 4 ls []) := by
    intro fu4
    induction fu4 with
    | zero =>
      intro k t ls hk ht hmeas hl
      exact absurd hmeas (Nat.not_lt_zero _)
    | succ fu4 ih4 =>
      intro k t ls hk ht hmeas hl
      refine lv_iload_n hc.1 hc.2.1 dX6_slatesLeft_4 rfl (lv_at hl 1 rfl) ?_
      refine lv_aload_n hc.1 hc.2.1 dX6_slatesLeft_5 rfl (lv_at hl 2 rfl) ?_
      refine nn_get hc hw ho hiX6 rfl 0 (by decide) rfl lk26 dX6_slatesLeft_6 ?_
      refine nn_get hc hw hp hiX5 rfl 3 (by decide) rfl lk78 dX6_slatesLeft_9 ?_
      refine nn_icmp_ge hc dX6_slatesLeft_12 (tgt := 30) (by decide) (by omega) (by omega) (fun c1 => ?_) (fun c1 => ?_)
      · refine lv_iload_n hc.1 hc.2.1 dX6_slatesLeft_30 rfl (lv_at hl 0 rfl) ?_
        exact hrt _ _ _ dX6_slatesLeft_31 (by rw [ht, show k.toNat = nH.toNat by omega])
      · refine lv_iload_n hc.1 hc.2.1 dX6_slatesLeft_15 rfl (lv_at hl 0 rfl) ?_
        refine lv_aload_n hc.1 hc.2.1 dX6_slatesLeft_16 rfl (lv_at hl 2 rfl) ?_
        refine nn_get hc hw ho hiX6 rfl 1 (by decide) rfl lk9 dX6_slatesLeft_17 ?_
        refine lv_iload_n hc.1 hc.2.1 dX6_slatesLeft_20 rfl (lv_at hl 1 rfl) ?_
        refine nn_iald hc hw hlv (by omega) (by omega) dX6_slatesLeft_21 ?_
        refine nn_iadd hc dX6_slatesLeft_22 ?_
        refine lv_istore_n (lv' := [(1, .int (iI (t + (lv k.toNat)))), (2, .int (iI k)), (0, .ref o)]) hc.1 hc.2.1 dX6_slatesLeft_23 rfl hl (by decide) rfl (fun ls hl => ?_)
        refine nn_iinc (lv' := [(2, .int (iI (k + 1))), (1, .int (iI (t + (lv k.toNat)))), (0, .ref o)]) hc dX6_slatesLeft_24 hl (k0 := 1) rfl (by decide) rfl (fun ls hl => ?_)
        refine lv_goto hc.1 hc.2.1 dX6_slatesLeft_27 (tgt := 4) (by decide) ?_
        exact ih4 (k + 1) (t + (lv k.toNat)) _ (by omega) (by rw [ht, sumI_s (by omega)]) (by omega) (lv_sub hl [1, 0, 2] rfl)
  exact lab4 _ 0 0 _ (by omega) (rfl) (Nat.lt_succ_self _) (lv_sub hl [1, 0, 2] rfl)

set_option maxHeartbeats 4000000 in
set_option maxRecDepth 100000 in
theorem c_X8_isHeap (l : Launch) (g : gG) {n : Nat} {S : Nat → gE} {x tr : Nat} {nH pHi pWi pLp pBk pHp : Int} {h0 : Int} (hx : S x = oO 8 [.ref (x + 1), .ref (x + 4), .ref (x + 8), .ref (x + 12), .ref (x + 14), .ref (x + 20), .ref (x + 31), .ref tr]) (hp : S (x + 4) = oO 5 [.ref (x + 5), .ref (x + 6), .ref (x + 7), .int (iI nH), .int (iI pHi), .int (iI pWi), .int (iI pLp), .int (iI pBk), .int (iI pHp)]) (rH : 0 ≤ nH ∧ nH ≤ 8) (r_h0 : -2147483648 ≤ h0 ∧ h0 < 2147483648) : g_Cp l yX8_isHeap wsX8_isHeap { frames := 1, cells := 0, slots := 0, locals := 22 } g [.ref x, .int (iI h0)] n S (some (.int (iI (if 0 ≤ h0 ∧ h0 ≤ nH - 1 then 1 else 0)))) := by
  refine g_Cp.of (cc := cX8_isHeap) (maxL := 2) (ret := (some .boolean)) (by decide) rfl (Nat.le_of_ble_eq_true rfl) ?_
  intro pp ee s m below meth cK Q ls hc hnm hw hl hret
  have hl : lv_has ls 2 [(0, .ref x), (1, .int (iI h0))] := hl
  have hiX8 : ∀ w ∈ u_ws RX8 TX8 8, w ∈ wsX8_isHeap := by decide +kernel
  have hiX5 : ∀ w ∈ u_ws RX5 TX5 9, w ∈ wsX8_isHeap := by decide +kernel
  have lk19 : Cond.fieldLink RX8 19 "RoofCourses" "plan" "LRoofCourses$Plan;" ∈ wsX8_isHeap := by decide +kernel
  have lk99 : Cond.fieldLink RX8 99 "RoofCourses$Plan" "heaps" "I" ∈ wsX8_isHeap := by decide +kernel
  have hrt : ∀ (pc : Nat) (ls : Array Slot) (xr : Int), decode cX8_isHeap pc = .ok (.ireturn, 1) → xr = (if 0 ≤ h0 ∧ h0 ≤ nH - 1 then 1 else 0) → W pp l ee ({ frames := 1, cells := 0, slots := 0, locals := 22 } : Room) s m ([.ref x, .int (iI h0)] : List Value).toArray below meth cK s.heap [] 0 0 Q (F0 m pc ls [.int (iI xr)]) := fun pc ls xr d hx => by subst hx; exact hret pc ls ⟨_, rfl, nn_nb _, d⟩
  refine lv_iload_n hc.1 hc.2.1 dX8_isHeap_0 rfl (lv_at hl 1 rfl) ?_
  refine nn_iconst hc dX8_isHeap_1 ?_
  refine lv_aload_n hc.1 hc.2.1 dX8_isHeap_2 rfl (lv_at hl 0 rfl) ?_
  refine nn_get hc hw hx hiX8 rfl 1 (by decide) rfl lk19 dX8_isHeap_3 ?_
  refine nn_get hc hw hp hiX5 rfl 3 (by decide) rfl lk99 dX8_isHeap_6 ?_
  refine nn_iconst hc dX8_isHeap_9 ?_
  refine nn_isub hc dX8_isHeap_10 ?_
  refine nn_Sp (As := [.int (iI h0), .int (iI 0), .int (iI (nH - 1))]) (st := []) hc hw (c_X8_isWithin l g   (by omega) (by omega) (by omega)) (va_cwS 3 hc.2.2.2.2 gX8_isHeap_X8_isWithin rfl rfl rfl (by decide +kernel) ⟨Nat.le_of_ble_eq_true rfl, Nat.le_of_ble_eq_true rfl⟩) rfl hl.1 rfl (Nat.le_of_ble_eq_true rfl) ⟨Nat.le_of_ble_eq_true rfl, Nat.le_of_ble_eq_true rfl⟩ dX8_isHeap_11 ?_
  refine W.eq (g2 := F0 m 14 ls [.int (iI (if 0 ≤ h0 ∧ h0 ≤ (nH - 1) then 1 else 0))]) rfl ?_
  exact hrt _ _ _ dX8_isHeap_14 (by first | rfl | omega | (split <;> omega))

set_option maxHeartbeats 4000000 in
set_option maxRecDepth 100000 in
theorem c_X8_isCourse (l : Launch) (g : gG) {n : Nat} {S : Nat → gE} {x tr : Nat} {zR : Int} {c0 : Int} (hx : S x = oO 8 [.ref (x + 1), .ref (x + 4), .ref (x + 8), .ref (x + 12), .ref (x + 14), .ref (x + 20), .ref (x + 31), .ref tr]) (ho : S (x + 14) = oO 6 [.ref (x + 4), .ref (x + 15), .ref (x + 16), .ref (x + 17), .int (iI zR)]) (rzR : 0 ≤ zR ∧ zR ≤ 20) (r_c0 : -2147483648 ≤ c0 ∧ c0 < 2147483648) : g_Cp l yX8_isCourse wsX8_isCourse { frames := 1, cells := 0, slots := 0, locals := 22 } g [.ref x, .int (iI c0)] n S (some (.int (iI (if 0 ≤ c0 ∧ c0 ≤ zR - 1 then 1 else 0)))) := by
  refine g_Cp.of (cc := cX8_isCourse) (maxL := 2) (ret := (some .boolean)) (by decide) rfl (Nat.le_of_ble_eq_true rfl) ?_
  intro pp ee s m below meth cK Q ls hc hnm hw hl hret
  have hl : lv_has ls 2 [(0, .ref x), (1, .int (iI c0))] := hl
  have hiX8 : ∀ w ∈ u_ws RX8 TX8 8, w ∈ wsX8_isCourse := by decide +kernel
  have hiX6 : ∀ w ∈ u_ws RX6 TX6 5, w ∈ wsX8_isCourse := by decide +kernel
  have lk38 : Cond.fieldLink RX8 38 "RoofCourses" "roof" "LRoofCourses$Roof;" ∈ wsX8_isCourse := by decide +kernel
  have lk124 : Cond.fieldLink RX8 124 "RoofCourses$Roof" "size" "I" ∈ wsX8_isCourse := by decide +kernel
  have hrt : ∀ (pc : Nat) (ls : Array Slot) (xr : Int), decode cX8_isCourse pc = .ok (.ireturn, 1) → xr = (if 0 ≤ c0 ∧ c0 ≤ zR - 1 then 1 else 0) → W pp l ee ({ frames := 1, cells := 0, slots := 0, locals := 22 } : Room) s m ([.ref x, .int (iI c0)] : List Value).toArray below meth cK s.heap [] 0 0 Q (F0 m pc ls [.int (iI xr)]) := fun pc ls xr d hx => by subst hx; exact hret pc ls ⟨_, rfl, nn_nb _, d⟩
  refine lv_iload_n hc.1 hc.2.1 dX8_isCourse_0 rfl (lv_at hl 1 rfl) ?_
  refine nn_iconst hc dX8_isCourse_1 ?_
  refine lv_aload_n hc.1 hc.2.1 dX8_isCourse_2 rfl (lv_at hl 0 rfl) ?_
  refine nn_get hc hw hx hiX8 rfl 4 (by decide) rfl lk38 dX8_isCourse_3 ?_
  refine nn_get hc hw ho hiX6 rfl 4 (by decide) rfl lk124 dX8_isCourse_6 ?_
  refine nn_iconst hc dX8_isCourse_9 ?_
  refine nn_isub hc dX8_isCourse_10 ?_
  refine nn_Sp (As := [.int (iI c0), .int (iI 0), .int (iI (zR - 1))]) (st := []) hc hw (c_X8_isWithin l g   (by omega) (by omega) (by omega)) (va_cwS 3 hc.2.2.2.2 gX8_isCourse_X8_isWithin rfl rfl rfl (by decide +kernel) ⟨Nat.le_of_ble_eq_true rfl, Nat.le_of_ble_eq_true rfl⟩) rfl hl.1 rfl (Nat.le_of_ble_eq_true rfl) ⟨Nat.le_of_ble_eq_true rfl, Nat.le_of_ble_eq_true rfl⟩ dX8_isCourse_11 ?_
  refine W.eq (g2 := F0 m 14 ls [.int (iI (if 0 ≤ c0 ∧ c0 ≤ (zR - 1) then 1 else 0))]) rfl ?_
  exact hrt _ _ _ dX8_isCourse_14 (by first | rfl | omega | (split <;> omega))

set_option maxHeartbeats 4000000 in
set_option maxRecDepth 100000 in
theorem c_K_write_bad (l : Launch) (g : gG) {n : Nat} {S : Nat → gE} {x tr : Nat} {x0 : Int} (hx : S x = oO 8 [.ref (x + 1), .ref (x + 4), .ref (x + 8), .ref (x + 12), .ref (x + 14), .ref (x + 20), .ref (x + 31), .ref tr]) (r_x0 : -2147483648 ≤ x0 ∧ x0 < 2147483648) (hb : ¬ (32 ≤ x0 ∧ x0 ≤ 126)) : g_Cs l yX8_write wsX8_write { frames := 1, cells := 0, slots := 0, locals := 22 } g [.ref x, .int (iI x0)] n S (fun vr n1 S1 => vr = some (.int (iI (-1))) ∧ n = n1 ∧ S = S1) 0 0 := by
  refine g_Cs.of (cc := cX8_write) (maxL := 2) (ret := (some .int)) (by decide) rfl (Nat.le_of_ble_eq_true rfl) ?_
  intro pp ee s m below meth cK Q H locs ls hc hnm hw hl hret
  have hl : lv_has ls 2 [(0, .ref x), (1, .int (iI x0))] := hl
  refine lv_iload_n hc.1 hc.2.1 dX8_write_0 rfl (lv_at hl 1 rfl) ?_
  refine nn_bipush hc dX8_write_1 (by decide +kernel) ?_
  refine nn_bipush hc dX8_write_3 (by decide +kernel) ?_
  refine nn_Sp (As := [.int (iI x0), .int (iI 32), .int (iI 126)]) (st := []) hc hw (c_X8_isWithin l g   (by omega) (by omega) (by omega)) (va_cwS 3 hc.2.2.2.2 gX8_write_X8_isWithin rfl rfl rfl (by decide +kernel) ⟨Nat.le_of_ble_eq_true rfl, Nat.le_of_ble_eq_true rfl⟩) rfl hl.1 rfl (Nat.le_of_ble_eq_true rfl) ⟨Nat.le_of_ble_eq_true rfl, Nat.le_of_ble_eq_true rfl⟩ dX8_write_5 ?_
  refine W.eq (g2 := F0 m 8 ls [.int (iI (if 32 ≤ x0 ∧ x0 ≤ 126 then 1 else 0))]) rfl ?_
  refine nn_if_ne hc dX8_write_8 (tgt := 13) (by decide) (by omega) (fun c1 => ?_) (fun c1 => ?_)
  · exfalso; omega
  · refine nn_iconst hc dX8_write_11 ?_
    exact hret (some (.int (iI (-1)))) _ S _ _ _ _ hw (⟨rfl, rfl, rfl⟩) ⟨_, rfl, rfl, dX8_write_12⟩

set_option maxHeartbeats 4000000 in
set_option maxRecDepth 100000 in
theorem c_K_write_full (l : Launch) (g : gG) {n : Nat} {S : Nat → gE} {x tr tz : Nat} {ta : Int} {tx : Nat → Int} {x0 : Int} (hx : S x = oO 8 [.ref (x + 1), .ref (x + 4), .ref (x + 8), .ref (x + 12), .ref (x + 14), .ref (x + 20), .ref (x + 31), .ref tr]) (ht : S (x + 1) = oO 7 [.ref (x + 2), .ref (x + 3), .int (iI (tz : Int)), .int (iI ta)]) (htx : S (x + 2) = oC g 200 tx) (hb : 32 ≤ x0 ∧ x0 ≤ 126) (ht2 : tz = 200) : g_Cs l yX8_write wsX8_write { frames := 1, cells := 0, slots := 0, locals := 22 } g [.ref x, .int (iI x0)] n S (fun vr n1 S1 => vr = some (.int (iI (-3))) ∧ n = n1 ∧ S = S1) 0 0 := by
  refine g_Cs.of (cc := cX8_write) (maxL := 2) (ret := (some .int)) (by decide) rfl (Nat.le_of_ble_eq_true rfl) ?_
  intro pp ee s m below meth cK Q H locs ls hc hnm hw hl hret
  have hl : lv_has ls 2 [(0, .ref x), (1, .int (iI x0))] := hl
  have hiX8 : ∀ w ∈ u_ws RX8 TX8 8, w ∈ wsX8_write := by decide +kernel
  have lk10 : Cond.fieldLink RX8 10 "RoofCourses" "text" "LRoofCourses$Text;" ∈ wsX8_write := by decide +kernel
  refine lv_iload_n hc.1 hc.2.1 dX8_write_0 rfl (lv_at hl 1 rfl) ?_
  refine nn_bipush hc dX8_write_1 (by decide +kernel) ?_
  refine nn_bipush hc dX8_write_3 (by decide +kernel) ?_
  refine nn_Sp (As := [.int (iI x0), .int (iI 32), .int (iI 126)]) (st := []) hc hw (c_X8_isWithin l g   (by omega) (by omega) (by omega)) (va_cwS 3 hc.2.2.2.2 gX8_write_X8_isWithin rfl rfl rfl (by decide +kernel) ⟨Nat.le_of_ble_eq_true rfl, Nat.le_of_ble_eq_true rfl⟩) rfl hl.1 rfl (Nat.le_of_ble_eq_true rfl) ⟨Nat.le_of_ble_eq_true rfl, Nat.le_of_ble_eq_true rfl⟩ dX8_write_5 ?_
  refine W.eq (g2 := F0 m 8 ls [.int (iI (if 32 ≤ x0 ∧ x0 ≤ 126 then 1 else 0))]) rfl ?_
  refine nn_if_ne hc dX8_write_8 (tgt := 13) (by decide) (by omega) (fun c1 => ?_) (fun c1 => ?_)
  · refine lv_aload_n hc.1 hc.2.1 dX8_write_13 rfl (lv_at hl 0 rfl) ?_
    refine nn_get hc hw hx hiX8 rfl 0 (by decide) rfl lk10 dX8_write_14 ?_
    refine lv_iload_n hc.1 hc.2.1 dX8_write_17 rfl (lv_at hl 1 rfl) ?_
    refine nn_i2c hc dX8_write_18 (by omega) ?_
    refine nn_Vp (As := [.int (iI x0)]) (st := []) hc hw ht rfl (c_X7_append_no l g  ht htx (by omega)) (cwV 1 hc.2.2.2.2 gX8_write_X7_append rfl rfl rfl (by decide +kernel) ⟨Nat.le_of_ble_eq_true rfl, Nat.le_of_ble_eq_true rfl⟩) rfl hl.1 rfl (Nat.le_of_ble_eq_true rfl) ⟨Nat.le_of_ble_eq_true rfl, Nat.le_of_ble_eq_true rfl⟩ dX8_write_19 ?_
    refine W.eq (g2 := F0 m 22 ls [.int (iI 0)]) rfl ?_
    refine nn_if_eq hc dX8_write_22 (tgt := 35) (by decide) (by decide) (fun c2 => ?_) (fun c2 => ?_)
    · refine nn_bipush hc dX8_write_35 (by decide +kernel) ?_
      exact hret (some (.int (iI (-3)))) _ S _ _ _ _ hw (⟨rfl, rfl, rfl⟩) ⟨_, rfl, rfl, dX8_write_37⟩
    · exact absurd c2 (by decide)
  · exfalso; omega

set_option maxHeartbeats 4000000 in
set_option maxRecDepth 100000 in
theorem c_K_write_ok (l : Launch) (g : gG) {n : Nat} {S : Nat → gE} {x tr tz : Nat} {ta : Int} {tx : Nat → Int} {x0 : Int} (hx : S x = oO 8 [.ref (x + 1), .ref (x + 4), .ref (x + 8), .ref (x + 12), .ref (x + 14), .ref (x + 20), .ref (x + 31), .ref tr]) (ht : S (x + 1) = oO 7 [.ref (x + 2), .ref (x + 3), .int (iI (tz : Int)), .int (iI ta)]) (htx : S (x + 2) = oC g 200 tx) (hb : 32 ≤ x0 ∧ x0 ≤ 126) (ht2 : tz < 200) : g_Cs l yX8_write wsX8_write { frames := 1, cells := 0, slots := 0, locals := 22 } g [.ref x, .int (iI x0)] n S (fun vr n1 S1 => vr = some (.int (iI ((tz : Int) + 1))) ∧ n = n1 ∧ S1 (x + 1) = oO 7 [.ref (x + 2), .ref (x + 3), .int (iI ((tz : Int) + 1)), .int (iI ta)] ∧ S1 (x + 2) = oC g 200 (va_up tx tz x0) ∧ (∀ bb, bb ≠ (x + 1) → bb ≠ (x + 2) → S1 bb = S bb)) 0 0 := by
  refine g_Cs.of (cc := cX8_write) (maxL := 2) (ret := (some .int)) (by decide) rfl (Nat.le_of_ble_eq_true rfl) ?_
  intro pp ee s m below meth cK Q H locs ls hc hnm hw hl hret
  have hl : lv_has ls 2 [(0, .ref x), (1, .int (iI x0))] := hl
  have hiX8 : ∀ w ∈ u_ws RX8 TX8 8, w ∈ wsX8_write := by decide +kernel
  have hiX7 : ∀ w ∈ u_ws RX7 TX7 4, w ∈ wsX8_write := by decide +kernel
  have lk10 : Cond.fieldLink RX8 10 "RoofCourses" "text" "LRoofCourses$Text;" ∈ wsX8_write := by decide +kernel
  have lk95 : Cond.fieldLink RX8 95 "RoofCourses$Text" "size" "I" ∈ wsX8_write := by decide +kernel
  refine lv_iload_n hc.1 hc.2.1 dX8_write_0 rfl (lv_at hl 1 rfl) ?_
  refine nn_bipush hc dX8_write_1 (by decide +kernel) ?_
  refine nn_bipush hc dX8_write_3 (by decide +kernel) ?_
  refine nn_Sp (As := [.int (iI x0), .int (iI 32), .int (iI 126)]) (st := []) hc hw (c_X8_isWithin l g   (by omega) (by omega) (by omega)) (va_cwS 3 hc.2.2.2.2 gX8_write_X8_isWithin rfl rfl rfl (by decide +kernel) ⟨Nat.le_of_ble_eq_true rfl, Nat.le_of_ble_eq_true rfl⟩) rfl hl.1 rfl (Nat.le_of_ble_eq_true rfl) ⟨Nat.le_of_ble_eq_true rfl, Nat.le_of_ble_eq_true rfl⟩ dX8_write_5 ?_
  refine W.eq (g2 := F0 m 8 ls [.int (iI (if 32 ≤ x0 ∧ x0 ≤ 126 then 1 else 0))]) rfl ?_
  refine nn_if_ne hc dX8_write_8 (tgt := 13) (by decide) (by omega) (fun c1 => ?_) (fun c1 => ?_)
  · refine lv_aload_n hc.1 hc.2.1 dX8_write_13 rfl (lv_at hl 0 rfl) ?_
    refine nn_get hc hw hx hiX8 rfl 0 (by decide) rfl lk10 dX8_write_14 ?_
    refine lv_iload_n hc.1 hc.2.1 dX8_write_17 rfl (lv_at hl 1 rfl) ?_
    refine nn_i2c hc dX8_write_18 (by omega) ?_
    refine nn_Vs (As := [.int (iI x0)]) (st := []) hc hw ht rfl (c_X7_append_yes l g  ht htx (by omega) (by omega)) (cwV 1 hc.2.2.2.2 gX8_write_X7_append rfl rfl rfl (by decide +kernel) ⟨Nat.le_of_ble_eq_true rfl, Nat.le_of_ble_eq_true rfl⟩) rfl hl.1 rfl (Nat.le_of_ble_eq_true rfl) ⟨Nat.le_of_ble_eq_true rfl, Nat.le_of_ble_eq_true rfl⟩ dX8_write_19 (fun vr n1 S2 H locs qS2 hw => ?_)
    obtain ⟨rfl, rfl, hS2_0, hS2_1, fS2⟩ := qS2
    refine W.eq (g2 := F0 m 22 ls [.int (iI 1)]) rfl ?_
    refine nn_if_eq hc dX8_write_22 (tgt := 35) (by decide) (by decide) (fun c3 => ?_) (fun c3 => ?_)
    · exact absurd c3 (by decide)
    · refine lv_aload_n hc.1 hc.2.1 dX8_write_25 rfl (lv_at hl 0 rfl) ?_
      have e4 : S2 x = oO 8 [.ref (x + 1), .ref (x + 4), .ref (x + 8), .ref (x + 12), .ref (x + 14), .ref (x + 20), .ref (x + 31), .ref tr] := (fS2 x (off_nl (x := x) (a := 1) (by decide)) (off_nl (x := x) (a := 2) (by decide))).trans hx
      refine nn_get hc hw e4 hiX8 rfl 0 (by decide) rfl lk10 dX8_write_26 ?_
      refine nn_get hc hw hS2_0 hiX7 rfl 2 (by decide) rfl lk95 dX8_write_29 ?_
      refine lv_goto hc.1 hc.2.1 dX8_write_32 (tgt := 37) (by decide) ?_
      exact hret (some (.int (iI ((tz : Int) + 1)))) _ S2 _ _ _ _ hw (⟨rfl, rfl, (by (repeat' split) <;> first | exact hS2_0 | (exfalso; omega)), (hS2_1), fun bb hb0 hb1 => (fS2 bb hb0 hb1)⟩) ⟨_, rfl, rfl, dX8_write_37⟩
  · exfalso; omega

set_option maxHeartbeats 4000000 in
set_option maxRecDepth 100000 in
theorem c_K_wipe (l : Launch) (g : gG) {n : Nat} {S : Nat → gE} {x tr tz : Nat} {ta : Int} (hx : S x = oO 8 [.ref (x + 1), .ref (x + 4), .ref (x + 8), .ref (x + 12), .ref (x + 14), .ref (x + 20), .ref (x + 31), .ref tr]) (ht : S (x + 1) = oO 7 [.ref (x + 2), .ref (x + 3), .int (iI (tz : Int)), .int (iI ta)])  : g_Cs l yX8_wipe wsX8_wipe { frames := 1, cells := 0, slots := 0, locals := 20 } g [.ref x] n S (fun vr n1 S1 => vr = some (.int (iI (tz : Int))) ∧ n = n1 ∧ S1 (x + 1) = oO 7 [.ref (x + 2), .ref (x + 3), .int (iI 0), .int (iI ta)] ∧ (∀ bb, bb ≠ (x + 1) → S1 bb = S bb)) 0 0 := by
  refine g_Cs.of (cc := cX8_wipe) (maxL := 2) (ret := (some .int)) (by decide) rfl (Nat.le_of_ble_eq_true rfl) ?_
  intro pp ee s m below meth cK Q H locs ls hc hnm hw hl hret
  have hl : lv_has ls 2 [(0, .ref x)] := hl
  have hiX8 : ∀ w ∈ u_ws RX8 TX8 8, w ∈ wsX8_wipe := by decide +kernel
  have hiX7 : ∀ w ∈ u_ws RX7 TX7 4, w ∈ wsX8_wipe := by decide +kernel
  have lk10 : Cond.fieldLink RX8 10 "RoofCourses" "text" "LRoofCourses$Text;" ∈ wsX8_wipe := by decide +kernel
  have lk95 : Cond.fieldLink RX8 95 "RoofCourses$Text" "size" "I" ∈ wsX8_wipe := by decide +kernel
  refine lv_aload_n hc.1 hc.2.1 dX8_wipe_0 rfl (lv_at hl 0 rfl) ?_
  refine nn_get hc hw hx hiX8 rfl 0 (by decide) rfl lk10 dX8_wipe_1 ?_
  refine nn_get hc hw ht hiX7 rfl 2 (by decide) rfl lk95 dX8_wipe_4 ?_
  refine lv_istore_n (lv' := [(1, .int (iI (tz : Int))), (0, .ref x)]) hc.1 hc.2.1 dX8_wipe_7 rfl hl (by decide) rfl (fun ls hl => ?_)
  refine lv_aload_n hc.1 hc.2.1 dX8_wipe_8 rfl (lv_at hl 1 rfl) ?_
  refine nn_get hc hw hx hiX8 rfl 0 (by decide) rfl lk10 dX8_wipe_9 ?_
  refine nn_Vs (As := []) (st := []) hc hw ht rfl (c_X7_clear l g  ht ) (cwV 0 hc.2.2.2.2 gX8_wipe_X7_clear rfl rfl rfl (by decide +kernel) ⟨Nat.le_of_ble_eq_true rfl, Nat.le_of_ble_eq_true rfl⟩) rfl hl.1 rfl (Nat.le_of_ble_eq_true rfl) ⟨Nat.le_of_ble_eq_true rfl, Nat.le_of_ble_eq_true rfl⟩ dX8_wipe_12 (fun vr n1 S1 H locs qS1 hw => ?_)
  obtain ⟨rfl, rfl, hS1_0, fS1⟩ := qS1
  refine W.eq (g2 := F0 m 15 ls []) rfl ?_
  refine lv_iload_n hc.1 hc.2.1 dX8_wipe_15 rfl (lv_at hl 0 rfl) ?_
  exact hret (some (.int (iI (tz : Int)))) _ S1 _ _ _ _ hw (⟨rfl, rfl, (by (repeat' split) <;> first | exact hS1_0 | (exfalso; omega)), fun bb hb0 => (fS1 bb hb0)⟩) ⟨_, rfl, rfl, dX8_wipe_16⟩

set_option maxHeartbeats 4000000 in
set_option maxRecDepth 100000 in
theorem c_K_fault (l : Launch) (g : gG) {n : Nat} {S : Nat → gE} {x tr tz : Nat} {ta : Int} {tx nb : Nat → Int} {j1 j2 j3 j4 j5 j6 : Int} {jl jb js : Nat → Int} (hx : S x = oO 8 [.ref (x + 1), .ref (x + 4), .ref (x + 8), .ref (x + 12), .ref (x + 14), .ref (x + 20), .ref (x + 31), .ref tr]) (ht : S (x + 1) = oO 7 [.ref (x + 2), .ref (x + 3), .int (iI (tz : Int)), .int (iI ta)]) (htx : S (x + 2) = oC g 200 tx) (hnb : S (x + 3) = oI g 3 nb) (hr0 : S (x + 8) = oO 5 [.ref (x + 9), .ref (x + 10), .ref (x + 11), .int (iI j1), .int (iI j2), .int (iI j3), .int (iI j4), .int (iI j5), .int (iI j6)]) (hr1 : S (x + 9) = oI g 8 jl) (hr2 : S (x + 10) = oI g 8 jb) (hr3 : S (x + 11) = oI g 8 js) (rtz : tz ≤ 200) (rtx : ∀ i : Nat, i < tz → 32 ≤ tx i ∧ tx i ≤ 126) (rnb : ∀ i : Nat, i < 3 → -1000 ≤ nb i ∧ nb i ≤ 1000) : g_Cs l yX8_fault wsX8_fault { frames := 5, cells := 0, slots := 0, locals := 121 } g [.ref x] n S (fun vr n1 S1 => vr = some (.int (iI ((rdC tx tz 200 0 (0, jl, jb, js, 100, 120, 6, 4, 0)).1))) ∧ n = n1 ∧ gbP g S1 (x + 8) ∧ (∃ a : Int, S1 (x + 1) = oO 7 [.ref (x + 2), .ref (x + 3), .int (iI (tz : Int)), .int (iI a)]) ∧ (∃ f : Nat → Int, S1 (x + 3) = oI g 3 f ∧ ∀ i : Nat, i < 3 → -1000 ≤ f i ∧ f i ≤ 1000) ∧ (∀ bb, bb ≠ (x + 1) → bb ≠ (x + 3) → bb ≠ (x + 8) → bb ≠ (x + 9) → bb ≠ (x + 10) → bb ≠ (x + 11) → S1 bb = S bb)) 0 0 := by
  refine g_Cs.of (cc := cX8_fault) (maxL := 1) (ret := (some .int)) (by decide) rfl (Nat.le_of_ble_eq_true rfl) ?_
  intro pp ee s m below meth cK Q H locs ls hc hnm hw hl hret
  have hl : lv_has ls 1 [(0, .ref x)] := hl
  have hiX8 : ∀ w ∈ u_ws RX8 TX8 8, w ∈ wsX8_fault := by decide +kernel
  have lk10 : Cond.fieldLink RX8 10 "RoofCourses" "text" "LRoofCourses$Text;" ∈ wsX8_fault := by decide +kernel
  have lk23 : Cond.fieldLink RX8 23 "RoofCourses" "read" "LRoofCourses$Plan;" ∈ wsX8_fault := by decide +kernel
  refine lv_aload_n hc.1 hc.2.1 dX8_fault_0 rfl (lv_at hl 0 rfl) ?_
  refine nn_get hc hw hx hiX8 rfl 0 (by decide) rfl lk10 dX8_fault_1 ?_
  refine lv_aload_n hc.1 hc.2.1 dX8_fault_4 rfl (lv_at hl 0 rfl) ?_
  refine nn_get hc hw hx hiX8 rfl 2 (by decide) rfl lk23 dX8_fault_5 ?_
  by_cases hq9 : (rdC tx tz 200 0 (0, jl, jb, js, 100, 120, 6, 4, 0)).1 = -4
  · refine nn_Vs (As := [.ref (x + 8)]) (st := []) hc hw ht rfl (c_X7_readInto_ok l g  ht htx hnb hr0 hr1 hr2 hr3 (by omega) (fun i hi => rtx i (by omega)) (rnb) (by omega) (hq9)) (cwV 1 hc.2.2.2.2 gX8_fault_X7_readInto rfl rfl rfl (by decide +kernel) ⟨Nat.le_of_ble_eq_true rfl, Nat.le_of_ble_eq_true rfl⟩) rfl hl.1 rfl (Nat.le_of_ble_eq_true rfl) ⟨Nat.le_of_ble_eq_true rfl, Nat.le_of_ble_eq_true rfl⟩ dX8_fault_8 (fun vr n1 S1 H locs qS1 hw => ?_)
    obtain ⟨rfl, rfl, hS1_0, hS1_1, hS1_2, hS1_3, kS1_0, kS1_1, fS1⟩ := qS1
    refine W.eq (g2 := F0 m 11 ls [.int (iI (-4))]) rfl ?_
    exact hret (some (.int (iI (-4)))) _ S1 _ _ _ _ hw (⟨(by rw [hq9]), rfl, ⟨_, _, _, _, _, _, _, _, _, hS1_0, hS1_1, hS1_2, hS1_3⟩, kS1_0, kS1_1, fun bb hb0 hb1 hb2 hb3 hb4 hb5 => (fS1 bb hb2 hb3 hb4 hb5 hb0 hb1)⟩) ⟨_, rfl, rfl, dX8_fault_11⟩
  · refine nn_Vs (As := [.ref (x + 8)]) (st := []) hc hw ht rfl (c_X7_readInto_bad l g  ht htx hnb hr0 hr1 hr2 hr3 (by omega) (fun i hi => rtx i (by omega)) (rnb) (by omega) (hq9)) (cwV 1 hc.2.2.2.2 gX8_fault_X7_readInto rfl rfl rfl (by decide +kernel) ⟨Nat.le_of_ble_eq_true rfl, Nat.le_of_ble_eq_true rfl⟩) rfl hl.1 rfl (Nat.le_of_ble_eq_true rfl) ⟨Nat.le_of_ble_eq_true rfl, Nat.le_of_ble_eq_true rfl⟩ dX8_fault_8 (fun vr n1 S2 H locs qS2 hw => ?_)
    obtain ⟨rfl, rfl, kS2_0, kS2_1, kS2_2, fS2⟩ := qS2
    refine W.eq (g2 := F0 m 11 ls [.int (iI ((rdC tx (tz : Int).toNat 200 0 (0, jl, jb, js, 100, 120, 6, 4, 0)).1))]) rfl ?_
    exact hret (some (.int (iI ((rdC tx (tz : Int).toNat 200 0 (0, jl, jb, js, 100, 120, 6, 4, 0)).1)))) _ S2 _ _ _ _ hw (⟨rfl, rfl, kS2_0, kS2_1, kS2_2, fun bb hb0 hb1 hb2 hb3 hb4 hb5 => (fS2 bb hb2 hb3 hb4 hb5 hb0 hb1)⟩) ⟨_, rfl, rfl, dX8_fault_11⟩

set_option maxHeartbeats 4000000 in
set_option maxRecDepth 100000 in
theorem c_K_lay_bad (l : Launch) (g : gG) {n : Nat} {S : Nat → gE} {x tr tz : Nat} {ta : Int} {tx nb : Nat → Int} {j1 j2 j3 j4 j5 j6 : Int} {jl jb js : Nat → Int} (hx : S x = oO 8 [.ref (x + 1), .ref (x + 4), .ref (x + 8), .ref (x + 12), .ref (x + 14), .ref (x + 20), .ref (x + 31), .ref tr]) (ht : S (x + 1) = oO 7 [.ref (x + 2), .ref (x + 3), .int (iI (tz : Int)), .int (iI ta)]) (htx : S (x + 2) = oC g 200 tx) (hnb : S (x + 3) = oI g 3 nb) (hr0 : S (x + 8) = oO 5 [.ref (x + 9), .ref (x + 10), .ref (x + 11), .int (iI j1), .int (iI j2), .int (iI j3), .int (iI j4), .int (iI j5), .int (iI j6)]) (hr1 : S (x + 9) = oI g 8 jl) (hr2 : S (x + 10) = oI g 8 jb) (hr3 : S (x + 11) = oI g 8 js) (rtz : tz ≤ 200) (rtx : ∀ i : Nat, i < tz → 32 ≤ tx i ∧ tx i ≤ 126) (rnb : ∀ i : Nat, i < 3 → -1000 ≤ nb i ∧ nb i ≤ 1000) (hq9 : (rdC tx tz 200 0 (0, jl, jb, js, 100, 120, 6, 4, 0)).1 ≠ -4) : g_Cs l yX8_lay wsX8_lay { frames := 5, cells := 0, slots := 0, locals := 121 } g [.ref x] n S (fun vr n1 S1 => vr = some (.int (iI (-2))) ∧ n = n1 ∧ gbP g S1 (x + 8) ∧ (∃ a : Int, S1 (x + 1) = oO 7 [.ref (x + 2), .ref (x + 3), .int (iI (tz : Int)), .int (iI a)]) ∧ (∃ f : Nat → Int, S1 (x + 3) = oI g 3 f ∧ ∀ i : Nat, i < 3 → -1000 ≤ f i ∧ f i ≤ 1000) ∧ (∀ bb, bb ≠ (x + 1) → bb ≠ (x + 3) → bb ≠ (x + 8) → bb ≠ (x + 9) → bb ≠ (x + 10) → bb ≠ (x + 11) → S1 bb = S bb)) 0 0 := by
  refine g_Cs.of (cc := cX8_lay) (maxL := 1) (ret := (some .int)) (by decide) rfl (Nat.le_of_ble_eq_true rfl) ?_
  intro pp ee s m below meth cK Q H locs ls hc hnm hw hl hret
  have hl : lv_has ls 1 [(0, .ref x)] := hl
  have hiX8 : ∀ w ∈ u_ws RX8 TX8 8, w ∈ wsX8_lay := by decide +kernel
  have lk10 : Cond.fieldLink RX8 10 "RoofCourses" "text" "LRoofCourses$Text;" ∈ wsX8_lay := by decide +kernel
  have lk23 : Cond.fieldLink RX8 23 "RoofCourses" "read" "LRoofCourses$Plan;" ∈ wsX8_lay := by decide +kernel
  have hans0 := rdC_ans tx tz 200 0 (0, jl, jb, js, 100, 120, 6, 4, 0) rtz
  have hans : -2147483648 ≤ (rdC tx tz 200 0 (0, jl, jb, js, 100, 120, 6, 4, 0)).1 ∧ (rdC tx tz 200 0 (0, jl, jb, js, 100, 120, 6, 4, 0)).1 < 2147483648 := by omega
  refine lv_aload_n hc.1 hc.2.1 dX8_lay_0 rfl (lv_at hl 0 rfl) ?_
  refine nn_get hc hw hx hiX8 rfl 0 (by decide) rfl lk10 dX8_lay_1 ?_
  refine lv_aload_n hc.1 hc.2.1 dX8_lay_4 rfl (lv_at hl 0 rfl) ?_
  refine nn_get hc hw hx hiX8 rfl 2 (by decide) rfl lk23 dX8_lay_5 ?_
  refine nn_Vs (As := [.ref (x + 8)]) (st := []) hc hw ht rfl (c_X7_readInto_bad l g  ht htx hnb hr0 hr1 hr2 hr3 (by omega) (fun i hi => rtx i (by omega)) (rnb) (by omega) (hq9)) (cwV 1 hc.2.2.2.2 gX8_lay_X7_readInto rfl rfl rfl (by decide +kernel) ⟨Nat.le_of_ble_eq_true rfl, Nat.le_of_ble_eq_true rfl⟩) rfl hl.1 rfl (Nat.le_of_ble_eq_true rfl) ⟨Nat.le_of_ble_eq_true rfl, Nat.le_of_ble_eq_true rfl⟩ dX8_lay_8 (fun vr n1 S1 H locs qS1 hw => ?_)
  obtain ⟨rfl, rfl, kS1_0, kS1_1, kS1_2, fS1⟩ := qS1
  refine W.eq (g2 := F0 m 11 ls [.int (iI ((rdC tx (tz : Int).toNat 200 0 (0, jl, jb, js, 100, 120, 6, 4, 0)).1))]) rfl ?_
  refine nn_bipush hc dX8_lay_11 (by decide +kernel) ?_
  refine nn_icmp_ne hc dX8_lay_13 (tgt := 26) (by decide) (hans) (by decide) (fun c2 => ?_) (fun c2 => ?_)
  · refine nn_bipush hc dX8_lay_26 (by decide +kernel) ?_
    exact hret (some (.int (iI (-2)))) _ S1 _ _ _ _ hw (⟨rfl, rfl, kS1_0, kS1_1, kS1_2, fun bb hb0 hb1 hb2 hb3 hb4 hb5 => (fS1 bb hb2 hb3 hb4 hb5 hb0 hb1)⟩) ⟨_, rfl, rfl, dX8_lay_28⟩
  · exact absurd c2 hq9

set_option maxHeartbeats 4000000 in
set_option maxRecDepth 100000 in
theorem c_K_lay_0 (l : Launch) (g : gG) {n : Nat} {S : Nat → gE} {x tr tz : Nat} {ta : Int} {tx nb : Nat → Int} {j1 j2 j3 j4 j5 j6 : Int} {jl jb js : Nat → Int} (hx : S x = oO 8 [.ref (x + 1), .ref (x + 4), .ref (x + 8), .ref (x + 12), .ref (x + 14), .ref (x + 20), .ref (x + 31), .ref tr]) (ht : S (x + 1) = oO 7 [.ref (x + 2), .ref (x + 3), .int (iI (tz : Int)), .int (iI ta)]) (htx : S (x + 2) = oC g 200 tx) (hnb : S (x + 3) = oI g 3 nb) (hr0 : S (x + 8) = oO 5 [.ref (x + 9), .ref (x + 10), .ref (x + 11), .int (iI j1), .int (iI j2), .int (iI j3), .int (iI j4), .int (iI j5), .int (iI j6)]) (hr1 : S (x + 9) = oI g 8 jl) (hr2 : S (x + 10) = oI g 8 jb) (hr3 : S (x + 11) = oI g 8 js) (rtz : tz ≤ 200) (rtx : ∀ i : Nat, i < tz → 32 ≤ tx i ∧ tx i ≤ 126) (rnb : ∀ i : Nat, i < 3 → -1000 ≤ nb i ∧ nb i ≤ 1000) (hq9 : (rdC tx tz 200 0 (0, jl, jb, js, 100, 120, 6, 4, 0)).1 = -4) (hz9 : (rdC tx tz 200 0 (0, jl, jb, js, 100, 120, 6, 4, 0)).2.1 = 0) : g_Cs l yX8_lay wsX8_lay { frames := 5, cells := 0, slots := 0, locals := 121 } g [.ref x] n S (fun vr n1 S1 => vr = some (.int (iI (-2))) ∧ n = n1 ∧ gbP g S1 (x + 8) ∧ (∃ a : Int, S1 (x + 1) = oO 7 [.ref (x + 2), .ref (x + 3), .int (iI (tz : Int)), .int (iI a)]) ∧ (∃ f : Nat → Int, S1 (x + 3) = oI g 3 f ∧ ∀ i : Nat, i < 3 → -1000 ≤ f i ∧ f i ≤ 1000) ∧ (∀ bb, bb ≠ (x + 1) → bb ≠ (x + 3) → bb ≠ (x + 8) → bb ≠ (x + 9) → bb ≠ (x + 10) → bb ≠ (x + 11) → S1 bb = S bb)) 0 0 := by
  refine g_Cs.of (cc := cX8_lay) (maxL := 1) (ret := (some .int)) (by decide) rfl (Nat.le_of_ble_eq_true rfl) ?_
  intro pp ee s m below meth cK Q H locs ls hc hnm hw hl hret
  have hl : lv_has ls 1 [(0, .ref x)] := hl
  have hiX8 : ∀ w ∈ u_ws RX8 TX8 8, w ∈ wsX8_lay := by decide +kernel
  have hiX5 : ∀ w ∈ u_ws RX5 TX5 9, w ∈ wsX8_lay := by decide +kernel
  have lk10 : Cond.fieldLink RX8 10 "RoofCourses" "text" "LRoofCourses$Text;" ∈ wsX8_lay := by decide +kernel
  have lk23 : Cond.fieldLink RX8 23 "RoofCourses" "read" "LRoofCourses$Plan;" ∈ wsX8_lay := by decide +kernel
  have lk99 : Cond.fieldLink RX8 99 "RoofCourses$Plan" "heaps" "I" ∈ wsX8_lay := by decide +kernel
  have hgd9 := (rdC_good (tx := tx) (tl := tz) 200 0 (0, jl, jb, js, 100, 120, 6, 4, 0) (goodP_0 jl jb js)).1
  have hgd8 : -2147483648 ≤ (rdC tx tz 200 0 (0, jl, jb, js, 100, 120, 6, 4, 0)).2.1 ∧ (rdC tx tz 200 0 (0, jl, jb, js, 100, 120, 6, 4, 0)).2.1 < 2147483648 := by omega
  refine lv_aload_n hc.1 hc.2.1 dX8_lay_0 rfl (lv_at hl 0 rfl) ?_
  refine nn_get hc hw hx hiX8 rfl 0 (by decide) rfl lk10 dX8_lay_1 ?_
  refine lv_aload_n hc.1 hc.2.1 dX8_lay_4 rfl (lv_at hl 0 rfl) ?_
  refine nn_get hc hw hx hiX8 rfl 2 (by decide) rfl lk23 dX8_lay_5 ?_
  refine nn_Vs (As := [.ref (x + 8)]) (st := []) hc hw ht rfl (c_X7_readInto_ok l g  ht htx hnb hr0 hr1 hr2 hr3 (by omega) (fun i hi => rtx i (by omega)) (rnb) (by omega) (hq9)) (cwV 1 hc.2.2.2.2 gX8_lay_X7_readInto rfl rfl rfl (by decide +kernel) ⟨Nat.le_of_ble_eq_true rfl, Nat.le_of_ble_eq_true rfl⟩) rfl hl.1 rfl (Nat.le_of_ble_eq_true rfl) ⟨Nat.le_of_ble_eq_true rfl, Nat.le_of_ble_eq_true rfl⟩ dX8_lay_8 (fun vr n1 S1 H locs qS1 hw => ?_)
  obtain ⟨rfl, rfl, hS1_0, hS1_1, hS1_2, hS1_3, kS1_0, kS1_1, fS1⟩ := qS1
  refine W.eq (g2 := F0 m 11 ls [.int (iI (-4))]) rfl ?_
  refine nn_bipush hc dX8_lay_11 (by decide +kernel) ?_
  refine nn_icmp_ne hc dX8_lay_13 (tgt := 26) (by decide) (by decide) (by decide) (fun c2 => ?_) (fun c2 => ?_)
  · exact absurd c2 (by decide)
  · refine lv_aload_n hc.1 hc.2.1 dX8_lay_16 rfl (lv_at hl 0 rfl) ?_
    have e3 : S1 x = oO 8 [.ref (x + 1), .ref (x + 4), .ref (x + 8), .ref (x + 12), .ref (x + 14), .ref (x + 20), .ref (x + 31), .ref tr] := (fS1 x (off_nl (x := x) (a := 8) (by decide)) (off_nl (x := x) (a := 9) (by decide)) (off_nl (x := x) (a := 10) (by decide)) (off_nl (x := x) (a := 11) (by decide)) (off_nl (x := x) (a := 1) (by decide)) (off_nl (x := x) (a := 3) (by decide))).trans hx
    refine nn_get hc hw e3 hiX8 rfl 2 (by decide) rfl lk23 dX8_lay_17 ?_
    refine nn_get hc hw hS1_0 hiX5 rfl 3 (by decide) rfl lk99 dX8_lay_20 ?_
    refine nn_if_ne hc dX8_lay_23 (tgt := 29) (by decide) (hgd8) (fun c4 => ?_) (fun c4 => ?_)
    · exact absurd hz9 c4
    · refine nn_bipush hc dX8_lay_26 (by decide +kernel) ?_
      exact hret (some (.int (iI (-2)))) _ S1 _ _ _ _ hw (⟨rfl, rfl, ⟨_, _, _, _, _, _, _, _, _, hS1_0, hS1_1, hS1_2, hS1_3⟩, kS1_0, kS1_1, fun bb hb0 hb1 hb2 hb3 hb4 hb5 => (fS1 bb hb2 hb3 hb4 hb5 hb0 hb1)⟩) ⟨_, rfl, rfl, dX8_lay_28⟩

set_option maxHeartbeats 4000000 in
set_option maxRecDepth 100000 in
theorem c_K_lay_yes (l : Launch) (g : gG) {n : Nat} {S : Nat → gE} {x tr tz : Nat} {ta : Int} {tx nb : Nat → Int} {nH pHi pWi pLp pBk pHp : Int} {ln br sl : Nat → Int} {j1 j2 j3 j4 j5 j6 : Int} {jl jb js : Nat → Int} {lv : Nat → Int} {zR : Int} {wZ : Int} (hx : S x = oO 8 [.ref (x + 1), .ref (x + 4), .ref (x + 8), .ref (x + 12), .ref (x + 14), .ref (x + 20), .ref (x + 31), .ref tr]) (ht : S (x + 1) = oO 7 [.ref (x + 2), .ref (x + 3), .int (iI (tz : Int)), .int (iI ta)]) (htx : S (x + 2) = oC g 200 tx) (hnb : S (x + 3) = oI g 3 nb) (hr0 : S (x + 8) = oO 5 [.ref (x + 9), .ref (x + 10), .ref (x + 11), .int (iI j1), .int (iI j2), .int (iI j3), .int (iI j4), .int (iI j5), .int (iI j6)]) (hr1 : S (x + 9) = oI g 8 jl) (hr2 : S (x + 10) = oI g 8 jb) (hr3 : S (x + 11) = oI g 8 js) (hp : S (x + 4) = oO 5 [.ref (x + 5), .ref (x + 6), .ref (x + 7), .int (iI nH), .int (iI pHi), .int (iI pWi), .int (iI pLp), .int (iI pBk), .int (iI pHp)]) (hln : S (x + 5) = oI g 8 ln) (hbr : S (x + 6) = oI g 8 br) (hsl : S (x + 7) = oI g 8 sl) (ho : S (x + 14) = oO 6 [.ref (x + 4), .ref (x + 15), .ref (x + 16), .ref (x + 17), .int (iI zR)]) (hlv : S (x + 15) = oI g 8 lv) (hw0 : S (x + 31) = oO 2 [.ref (x + 32), .int (iI wZ)]) (rtz : tz ≤ 200) (rtx : ∀ i : Nat, i < tz → 32 ≤ tx i ∧ tx i ≤ 126) (rnb : ∀ i : Nat, i < 3 → -1000 ≤ nb i ∧ nb i ≤ 1000) (hq9 : (rdC tx tz 200 0 (0, jl, jb, js, 100, 120, 6, 4, 0)).1 = -4) (hz9 : (rdC tx tz 200 0 (0, jl, jb, js, 100, 120, 6, 4, 0)).2.1 ≠ 0) : g_Cs l yX8_lay wsX8_lay { frames := 5, cells := 0, slots := 0, locals := 121 } g [.ref x] n S (fun vr n1 S1 => vr = some (.int (iI ((rdC tx tz 200 0 (0, jl, jb, js, 100, 120, 6, 4, 0)).2.1))) ∧ n = n1 ∧ S1 (x + 4) = oO 5 [.ref (x + 5), .ref (x + 6), .ref (x + 7), .int (iI ((rdC tx tz 200 0 (0, jl, jb, js, 100, 120, 6, 4, 0)).2.1)), .int (iI ((rdC tx tz 200 0 (0, jl, jb, js, 100, 120, 6, 4, 0)).2.2.2.2.2.1)), .int (iI ((rdC tx tz 200 0 (0, jl, jb, js, 100, 120, 6, 4, 0)).2.2.2.2.2.2.1)), .int (iI ((rdC tx tz 200 0 (0, jl, jb, js, 100, 120, 6, 4, 0)).2.2.2.2.2.2.2.1)), .int (iI ((rdC tx tz 200 0 (0, jl, jb, js, 100, 120, 6, 4, 0)).2.2.2.2.2.2.2.2.1)), .int (iI ((rdC tx tz 200 0 (0, jl, jb, js, 100, 120, 6, 4, 0)).2.2.2.2.2.2.2.2.2))] ∧ S1 (x + 5) = oI g 8 (va_cpy (rdC tx tz 200 0 (0, jl, jb, js, 100, 120, 6, 4, 0)).2.2.1 ln 0 0 8) ∧ S1 (x + 6) = oI g 8 (va_cpy (rdC tx tz 200 0 (0, jl, jb, js, 100, 120, 6, 4, 0)).2.2.2.1 br 0 0 8) ∧ S1 (x + 7) = oI g 8 (va_cpy (rdC tx tz 200 0 (0, jl, jb, js, 100, 120, 6, 4, 0)).2.2.2.2.1 sl 0 0 8) ∧ S1 (x + 8) = oO 5 [.ref (x + 9), .ref (x + 10), .ref (x + 11), .int (iI ((rdC tx tz 200 0 (0, jl, jb, js, 100, 120, 6, 4, 0)).2.1)), .int (iI ((rdC tx tz 200 0 (0, jl, jb, js, 100, 120, 6, 4, 0)).2.2.2.2.2.1)), .int (iI ((rdC tx tz 200 0 (0, jl, jb, js, 100, 120, 6, 4, 0)).2.2.2.2.2.2.1)), .int (iI ((rdC tx tz 200 0 (0, jl, jb, js, 100, 120, 6, 4, 0)).2.2.2.2.2.2.2.1)), .int (iI ((rdC tx tz 200 0 (0, jl, jb, js, 100, 120, 6, 4, 0)).2.2.2.2.2.2.2.2.1)), .int (iI ((rdC tx tz 200 0 (0, jl, jb, js, 100, 120, 6, 4, 0)).2.2.2.2.2.2.2.2.2))] ∧ S1 (x + 9) = oI g 8 ((rdC tx tz 200 0 (0, jl, jb, js, 100, 120, 6, 4, 0)).2.2.1) ∧ S1 (x + 10) = oI g 8 ((rdC tx tz 200 0 (0, jl, jb, js, 100, 120, 6, 4, 0)).2.2.2.1) ∧ S1 (x + 11) = oI g 8 ((rdC tx tz 200 0 (0, jl, jb, js, 100, 120, 6, 4, 0)).2.2.2.2.1) ∧ S1 (x + 14) = oO 6 [.ref (x + 4), .ref (x + 15), .ref (x + 16), .ref (x + 17), .int (iI 0)] ∧ S1 (x + 15) = oI g 8 (va_cpy (va_cpy (rdC tx tz 200 0 (0, jl, jb, js, 100, 120, 6, 4, 0)).2.2.2.2.1 sl 0 0 8) lv 0 0 8) ∧ S1 (x + 31) = oO 2 [.ref (x + 32), .int (iI 0)] ∧ (∃ a : Int, S1 (x + 1) = oO 7 [.ref (x + 2), .ref (x + 3), .int (iI (tz : Int)), .int (iI a)]) ∧ (∃ f : Nat → Int, S1 (x + 3) = oI g 3 f ∧ ∀ i : Nat, i < 3 → -1000 ≤ f i ∧ f i ≤ 1000) ∧ (∀ bb, bb ≠ (x + 4) → bb ≠ (x + 5) → bb ≠ (x + 6) → bb ≠ (x + 7) → bb ≠ (x + 8) → bb ≠ (x + 9) → bb ≠ (x + 10) → bb ≠ (x + 11) → bb ≠ (x + 14) → bb ≠ (x + 15) → bb ≠ (x + 31) → bb ≠ (x + 1) → bb ≠ (x + 3) → S1 bb = S bb)) 0 0 := by
  refine g_Cs.of (cc := cX8_lay) (maxL := 1) (ret := (some .int)) (by decide) rfl (Nat.le_of_ble_eq_true rfl) ?_
  intro pp ee s m below meth cK Q H locs ls hc hnm hw hl hret
  have hl : lv_has ls 1 [(0, .ref x)] := hl
  have hiX8 : ∀ w ∈ u_ws RX8 TX8 8, w ∈ wsX8_lay := by decide +kernel
  have hiX5 : ∀ w ∈ u_ws RX5 TX5 9, w ∈ wsX8_lay := by decide +kernel
  have lk10 : Cond.fieldLink RX8 10 "RoofCourses" "text" "LRoofCourses$Text;" ∈ wsX8_lay := by decide +kernel
  have lk23 : Cond.fieldLink RX8 23 "RoofCourses" "read" "LRoofCourses$Plan;" ∈ wsX8_lay := by decide +kernel
  have lk99 : Cond.fieldLink RX8 99 "RoofCourses$Plan" "heaps" "I" ∈ wsX8_lay := by decide +kernel
  have lk19 : Cond.fieldLink RX8 19 "RoofCourses" "plan" "LRoofCourses$Plan;" ∈ wsX8_lay := by decide +kernel
  have lk38 : Cond.fieldLink RX8 38 "RoofCourses" "roof" "LRoofCourses$Roof;" ∈ wsX8_lay := by decide +kernel
  have lk54 : Cond.fieldLink RX8 54 "RoofCourses" "changes" "LRoofCourses$Changes;" ∈ wsX8_lay := by decide +kernel
  have hgd9 := (rdC_good (tx := tx) (tl := tz) 200 0 (0, jl, jb, js, 100, 120, 6, 4, 0) (goodP_0 jl jb js)).1
  have hgd8 : -2147483648 ≤ (rdC tx tz 200 0 (0, jl, jb, js, 100, 120, 6, 4, 0)).2.1 ∧ (rdC tx tz 200 0 (0, jl, jb, js, 100, 120, 6, 4, 0)).2.1 < 2147483648 := by omega
  refine lv_aload_n hc.1 hc.2.1 dX8_lay_0 rfl (lv_at hl 0 rfl) ?_
  refine nn_get hc hw hx hiX8 rfl 0 (by decide) rfl lk10 dX8_lay_1 ?_
  refine lv_aload_n hc.1 hc.2.1 dX8_lay_4 rfl (lv_at hl 0 rfl) ?_
  refine nn_get hc hw hx hiX8 rfl 2 (by decide) rfl lk23 dX8_lay_5 ?_
  refine nn_Vs (As := [.ref (x + 8)]) (st := []) hc hw ht rfl (c_X7_readInto_ok l g  ht htx hnb hr0 hr1 hr2 hr3 (by omega) (fun i hi => rtx i (by omega)) (rnb) (by omega) (hq9)) (cwV 1 hc.2.2.2.2 gX8_lay_X7_readInto rfl rfl rfl (by decide +kernel) ⟨Nat.le_of_ble_eq_true rfl, Nat.le_of_ble_eq_true rfl⟩) rfl hl.1 rfl (Nat.le_of_ble_eq_true rfl) ⟨Nat.le_of_ble_eq_true rfl, Nat.le_of_ble_eq_true rfl⟩ dX8_lay_8 (fun vr n1 S1 H locs qS1 hw => ?_)
  obtain ⟨rfl, rfl, hS1_0, hS1_1, hS1_2, hS1_3, kS1_0, kS1_1, fS1⟩ := qS1
  refine W.eq (g2 := F0 m 11 ls [.int (iI (-4))]) rfl ?_
  refine nn_bipush hc dX8_lay_11 (by decide +kernel) ?_
  refine nn_icmp_ne hc dX8_lay_13 (tgt := 26) (by decide) (by decide) (by decide) (fun c2 => ?_) (fun c2 => ?_)
  · exact absurd c2 (by decide)
  · obtain ⟨ta9, hta9⟩ := kS1_0
    obtain ⟨nb9, hnb9, hnb8⟩ := kS1_1
    have ha93 : S1 (x + 1) = oO 7 [.ref (x + 2), .ref (x + 3), .int (iI (tz : Int)), .int (iI ta9)] := hta9
    have hb94 : S1 (x + 3) = oI g 3 nb9 := hnb9
    refine lv_aload_n hc.1 hc.2.1 dX8_lay_16 rfl (lv_at hl 0 rfl) ?_
    have e5 : S1 x = oO 8 [.ref (x + 1), .ref (x + 4), .ref (x + 8), .ref (x + 12), .ref (x + 14), .ref (x + 20), .ref (x + 31), .ref tr] := (fS1 x (off_nl (x := x) (a := 8) (by decide)) (off_nl (x := x) (a := 9) (by decide)) (off_nl (x := x) (a := 10) (by decide)) (off_nl (x := x) (a := 11) (by decide)) (off_nl (x := x) (a := 1) (by decide)) (off_nl (x := x) (a := 3) (by decide))).trans hx
    refine nn_get hc hw e5 hiX8 rfl 2 (by decide) rfl lk23 dX8_lay_17 ?_
    refine nn_get hc hw hS1_0 hiX5 rfl 3 (by decide) rfl lk99 dX8_lay_20 ?_
    refine nn_if_ne hc dX8_lay_23 (tgt := 29) (by decide) (hgd8) (fun c6 => ?_) (fun c6 => ?_)
    · refine lv_aload_n hc.1 hc.2.1 dX8_lay_29 rfl (lv_at hl 0 rfl) ?_
      refine nn_get hc hw e5 hiX8 rfl 1 (by decide) rfl lk19 dX8_lay_30 ?_
      refine lv_aload_n hc.1 hc.2.1 dX8_lay_33 rfl (lv_at hl 0 rfl) ?_
      refine nn_get hc hw e5 hiX8 rfl 2 (by decide) rfl lk23 dX8_lay_34 ?_
      have e7 : S1 (x + 4) = oO 5 [.ref (x + 5), .ref (x + 6), .ref (x + 7), .int (iI nH), .int (iI pHi), .int (iI pWi), .int (iI pLp), .int (iI pBk), .int (iI pHp)] := (fS1 (x + 4) (off_ne (x := x) (a := 4) (b := 8) (by decide)) (off_ne (x := x) (a := 4) (b := 9) (by decide)) (off_ne (x := x) (a := 4) (b := 10) (by decide)) (off_ne (x := x) (a := 4) (b := 11) (by decide)) (off_ne (x := x) (a := 4) (b := 1) (by decide)) (off_ne (x := x) (a := 4) (b := 3) (by decide))).trans hp
      have e8 : S1 ((x + 4) + 1) = oI g 8 ln := (fS1 ((x + 4) + 1) (off_ne (x := x) (a := 5) (b := 8) (by decide)) (off_ne (x := x) (a := 5) (b := 9) (by decide)) (off_ne (x := x) (a := 5) (b := 10) (by decide)) (off_ne (x := x) (a := 5) (b := 11) (by decide)) (off_ne (x := x) (a := 5) (b := 1) (by decide)) (off_ne (x := x) (a := 5) (b := 3) (by decide))).trans hln
      have e9 : S1 ((x + 4) + 2) = oI g 8 br := (fS1 ((x + 4) + 2) (off_ne (x := x) (a := 6) (b := 8) (by decide)) (off_ne (x := x) (a := 6) (b := 9) (by decide)) (off_ne (x := x) (a := 6) (b := 10) (by decide)) (off_ne (x := x) (a := 6) (b := 11) (by decide)) (off_ne (x := x) (a := 6) (b := 1) (by decide)) (off_ne (x := x) (a := 6) (b := 3) (by decide))).trans hbr
      have e10 : S1 ((x + 4) + 3) = oI g 8 sl := (fS1 ((x + 4) + 3) (off_ne (x := x) (a := 7) (b := 8) (by decide)) (off_ne (x := x) (a := 7) (b := 9) (by decide)) (off_ne (x := x) (a := 7) (b := 10) (by decide)) (off_ne (x := x) (a := 7) (b := 11) (by decide)) (off_ne (x := x) (a := 7) (b := 1) (by decide)) (off_ne (x := x) (a := 7) (b := 3) (by decide))).trans hsl
      refine nn_Vs (As := [.ref (x + 8)]) (st := []) hc hw e7 rfl (c_X5_copy l g  e7 e8 e9 e10 hS1_0 hS1_1 hS1_2 hS1_3 (by omega)) (cwV 1 hc.2.2.2.2 gX8_lay_X5_copy rfl rfl rfl (by decide +kernel) ⟨Nat.le_of_ble_eq_true rfl, Nat.le_of_ble_eq_true rfl⟩) rfl hl.1 rfl (Nat.le_of_ble_eq_true rfl) ⟨Nat.le_of_ble_eq_true rfl, Nat.le_of_ble_eq_true rfl⟩ dX8_lay_37 (fun vr n1 S11 H locs qS11 hw => ?_)
      obtain ⟨rfl, rfl, hS11_0, hS11_1, hS11_2, hS11_3, fS11⟩ := qS11
      refine W.eq (g2 := F0 m 40 ls []) rfl ?_
      refine lv_aload_n hc.1 hc.2.1 dX8_lay_40 rfl (lv_at hl 0 rfl) ?_
      have e12 : S11 x = oO 8 [.ref (x + 1), .ref (x + 4), .ref (x + 8), .ref (x + 12), .ref (x + 14), .ref (x + 20), .ref (x + 31), .ref tr] := (fS11 x (off_nl (x := x) (a := 4) (by decide)) (off_nl (x := x) (a := 5) (by decide)) (off_nl (x := x) (a := 6) (by decide)) (off_nl (x := x) (a := 7) (by decide))).trans e5
      refine nn_get hc hw e12 hiX8 rfl 4 (by decide) rfl lk38 dX8_lay_41 ?_
      have e13 : S1 (x + 14) = oO 6 [.ref (x + 4), .ref (x + 15), .ref (x + 16), .ref (x + 17), .int (iI zR)] := (fS1 (x + 14) (off_ne (x := x) (a := 14) (b := 8) (by decide)) (off_ne (x := x) (a := 14) (b := 9) (by decide)) (off_ne (x := x) (a := 14) (b := 10) (by decide)) (off_ne (x := x) (a := 14) (b := 11) (by decide)) (off_ne (x := x) (a := 14) (b := 1) (by decide)) (off_ne (x := x) (a := 14) (b := 3) (by decide))).trans ho
      have e14 : S11 (x + 14) = oO 6 [.ref (x + 4), .ref (x + 15), .ref (x + 16), .ref (x + 17), .int (iI zR)] := (fS11 (x + 14) (off_ne (x := x) (a := 14) (b := 4) (by decide)) (off_ne (x := x) (a := 14) (b := 5) (by decide)) (off_ne (x := x) (a := 14) (b := 6) (by decide)) (off_ne (x := x) (a := 14) (b := 7) (by decide))).trans e13
      have e15 : S1 ((x + 14) + 1) = oI g 8 lv := (fS1 ((x + 14) + 1) (off_ne (x := x) (a := 15) (b := 8) (by decide)) (off_ne (x := x) (a := 15) (b := 9) (by decide)) (off_ne (x := x) (a := 15) (b := 10) (by decide)) (off_ne (x := x) (a := 15) (b := 11) (by decide)) (off_ne (x := x) (a := 15) (b := 1) (by decide)) (off_ne (x := x) (a := 15) (b := 3) (by decide))).trans hlv
      have e16 : S11 ((x + 14) + 1) = oI g 8 lv := (fS11 ((x + 14) + 1) (off_ne (x := x) (a := 15) (b := 4) (by decide)) (off_ne (x := x) (a := 15) (b := 5) (by decide)) (off_ne (x := x) (a := 15) (b := 6) (by decide)) (off_ne (x := x) (a := 15) (b := 7) (by decide))).trans e15
      refine nn_Vs (As := []) (st := []) hc hw e14 rfl (c_X6_begin_b l g  e14 e16 hS11_0 hS11_3 (by omega)) (cwV 0 hc.2.2.2.2 gX8_lay_X6_begin rfl rfl rfl (by decide +kernel) ⟨Nat.le_of_ble_eq_true rfl, Nat.le_of_ble_eq_true rfl⟩) rfl hl.1 rfl (Nat.le_of_ble_eq_true rfl) ⟨Nat.le_of_ble_eq_true rfl, Nat.le_of_ble_eq_true rfl⟩ dX8_lay_44 (fun vr n1 S17 H locs qS17 hw => ?_)
      obtain ⟨rfl, rfl, hS17_0, hS17_1, fS17⟩ := qS17
      refine W.eq (g2 := F0 m 47 ls []) rfl ?_
      refine lv_aload_n hc.1 hc.2.1 dX8_lay_47 rfl (lv_at hl 0 rfl) ?_
      have e18 : S17 x = oO 8 [.ref (x + 1), .ref (x + 4), .ref (x + 8), .ref (x + 12), .ref (x + 14), .ref (x + 20), .ref (x + 31), .ref tr] := (fS17 x (off_nl (x := x) (a := 14) (by decide)) (off_nl (x := x) (a := 15) (by decide))).trans e12
      refine nn_get hc hw e18 hiX8 rfl 6 (by decide) rfl lk54 dX8_lay_48 ?_
      have e19 : S1 (x + 31) = oO 2 [.ref (x + 32), .int (iI wZ)] := (fS1 (x + 31) (off_ne (x := x) (a := 31) (b := 8) (by decide)) (off_ne (x := x) (a := 31) (b := 9) (by decide)) (off_ne (x := x) (a := 31) (b := 10) (by decide)) (off_ne (x := x) (a := 31) (b := 11) (by decide)) (off_ne (x := x) (a := 31) (b := 1) (by decide)) (off_ne (x := x) (a := 31) (b := 3) (by decide))).trans hw0
      have e20 : S11 (x + 31) = oO 2 [.ref (x + 32), .int (iI wZ)] := (fS11 (x + 31) (off_ne (x := x) (a := 31) (b := 4) (by decide)) (off_ne (x := x) (a := 31) (b := 5) (by decide)) (off_ne (x := x) (a := 31) (b := 6) (by decide)) (off_ne (x := x) (a := 31) (b := 7) (by decide))).trans e19
      have e21 : S17 (x + 31) = oO 2 [.ref (x + 32), .int (iI wZ)] := (fS17 (x + 31) (off_ne (x := x) (a := 31) (b := 14) (by decide)) (off_ne (x := x) (a := 31) (b := 15) (by decide))).trans e20
      refine nn_Vs (As := []) (st := []) hc hw e21 rfl (c_X2_clear l g  e21 ) (cwV 0 hc.2.2.2.2 gX8_lay_X2_clear rfl rfl rfl (by decide +kernel) ⟨Nat.le_of_ble_eq_true rfl, Nat.le_of_ble_eq_true rfl⟩) rfl hl.1 rfl (Nat.le_of_ble_eq_true rfl) ⟨Nat.le_of_ble_eq_true rfl, Nat.le_of_ble_eq_true rfl⟩ dX8_lay_51 (fun vr n1 S22 H locs qS22 hw => ?_)
      obtain ⟨rfl, rfl, hS22_0, fS22⟩ := qS22
      refine W.eq (g2 := F0 m 54 ls []) rfl ?_
      refine lv_aload_n hc.1 hc.2.1 dX8_lay_54 rfl (lv_at hl 0 rfl) ?_
      have e23 : S22 x = oO 8 [.ref (x + 1), .ref (x + 4), .ref (x + 8), .ref (x + 12), .ref (x + 14), .ref (x + 20), .ref (x + 31), .ref tr] := (fS22 x (off_nl (x := x) (a := 31) (by decide))).trans e18
      refine nn_get hc hw e23 hiX8 rfl 1 (by decide) rfl lk19 dX8_lay_55 ?_
      have e24 : S17 (x + 4) = oO 5 [.ref ((x + 4) + 1), .ref ((x + 4) + 2), .ref ((x + 4) + 3), .int (iI ((rdC tx (tz : Int).toNat 200 0 (0, jl, jb, js, 100, 120, 6, 4, 0)).2.1)), .int (iI ((rdC tx (tz : Int).toNat 200 0 (0, jl, jb, js, 100, 120, 6, 4, 0)).2.2.2.2.2.1)), .int (iI ((rdC tx (tz : Int).toNat 200 0 (0, jl, jb, js, 100, 120, 6, 4, 0)).2.2.2.2.2.2.1)), .int (iI ((rdC tx (tz : Int).toNat 200 0 (0, jl, jb, js, 100, 120, 6, 4, 0)).2.2.2.2.2.2.2.1)), .int (iI ((rdC tx (tz : Int).toNat 200 0 (0, jl, jb, js, 100, 120, 6, 4, 0)).2.2.2.2.2.2.2.2.1)), .int (iI ((rdC tx (tz : Int).toNat 200 0 (0, jl, jb, js, 100, 120, 6, 4, 0)).2.2.2.2.2.2.2.2.2))] := (fS17 (x + 4) (off_ne (x := x) (a := 4) (b := 14) (by decide)) (off_ne (x := x) (a := 4) (b := 15) (by decide))).trans hS11_0
      have e25 : S22 (x + 4) = oO 5 [.ref ((x + 4) + 1), .ref ((x + 4) + 2), .ref ((x + 4) + 3), .int (iI ((rdC tx (tz : Int).toNat 200 0 (0, jl, jb, js, 100, 120, 6, 4, 0)).2.1)), .int (iI ((rdC tx (tz : Int).toNat 200 0 (0, jl, jb, js, 100, 120, 6, 4, 0)).2.2.2.2.2.1)), .int (iI ((rdC tx (tz : Int).toNat 200 0 (0, jl, jb, js, 100, 120, 6, 4, 0)).2.2.2.2.2.2.1)), .int (iI ((rdC tx (tz : Int).toNat 200 0 (0, jl, jb, js, 100, 120, 6, 4, 0)).2.2.2.2.2.2.2.1)), .int (iI ((rdC tx (tz : Int).toNat 200 0 (0, jl, jb, js, 100, 120, 6, 4, 0)).2.2.2.2.2.2.2.2.1)), .int (iI ((rdC tx (tz : Int).toNat 200 0 (0, jl, jb, js, 100, 120, 6, 4, 0)).2.2.2.2.2.2.2.2.2))] := (fS22 (x + 4) (off_ne (x := x) (a := 4) (b := 31) (by decide))).trans e24
      refine nn_get hc hw e25 hiX5 rfl 3 (by decide) rfl lk99 dX8_lay_58 ?_
      have e26 : S17 (x + 5) = oI g 8 (va_cpy ((rdC tx (tz : Int).toNat 200 0 (0, jl, jb, js, 100, 120, 6, 4, 0)).2.2.1) ln 0 0 8) := (fS17 (x + 5) (off_ne (x := x) (a := 5) (b := 14) (by decide)) (off_ne (x := x) (a := 5) (b := 15) (by decide))).trans hS11_1
      have e27 : S22 (x + 5) = oI g 8 (va_cpy ((rdC tx (tz : Int).toNat 200 0 (0, jl, jb, js, 100, 120, 6, 4, 0)).2.2.1) ln 0 0 8) := (fS22 (x + 5) (off_ne (x := x) (a := 5) (b := 31) (by decide))).trans e26
      have e28 : S17 (x + 6) = oI g 8 (va_cpy ((rdC tx (tz : Int).toNat 200 0 (0, jl, jb, js, 100, 120, 6, 4, 0)).2.2.2.1) br 0 0 8) := (fS17 (x + 6) (off_ne (x := x) (a := 6) (b := 14) (by decide)) (off_ne (x := x) (a := 6) (b := 15) (by decide))).trans hS11_2
      have e29 : S22 (x + 6) = oI g 8 (va_cpy ((rdC tx (tz : Int).toNat 200 0 (0, jl, jb, js, 100, 120, 6, 4, 0)).2.2.2.1) br 0 0 8) := (fS22 (x + 6) (off_ne (x := x) (a := 6) (b := 31) (by decide))).trans e28
      have e30 : S17 (x + 7) = oI g 8 (va_cpy ((rdC tx (tz : Int).toNat 200 0 (0, jl, jb, js, 100, 120, 6, 4, 0)).2.2.2.2.1) sl 0 0 8) := (fS17 (x + 7) (off_ne (x := x) (a := 7) (b := 14) (by decide)) (off_ne (x := x) (a := 7) (b := 15) (by decide))).trans hS11_3
      have e31 : S22 (x + 7) = oI g 8 (va_cpy ((rdC tx (tz : Int).toNat 200 0 (0, jl, jb, js, 100, 120, 6, 4, 0)).2.2.2.2.1) sl 0 0 8) := (fS22 (x + 7) (off_ne (x := x) (a := 7) (b := 31) (by decide))).trans e30
      have e32 : S11 (x + 8) = oO 5 [.ref ((x + 8) + 1), .ref ((x + 8) + 2), .ref ((x + 8) + 3), .int (iI ((rdC tx (tz : Int).toNat 200 0 (0, jl, jb, js, 100, 120, 6, 4, 0)).2.1)), .int (iI ((rdC tx (tz : Int).toNat 200 0 (0, jl, jb, js, 100, 120, 6, 4, 0)).2.2.2.2.2.1)), .int (iI ((rdC tx (tz : Int).toNat 200 0 (0, jl, jb, js, 100, 120, 6, 4, 0)).2.2.2.2.2.2.1)), .int (iI ((rdC tx (tz : Int).toNat 200 0 (0, jl, jb, js, 100, 120, 6, 4, 0)).2.2.2.2.2.2.2.1)), .int (iI ((rdC tx (tz : Int).toNat 200 0 (0, jl, jb, js, 100, 120, 6, 4, 0)).2.2.2.2.2.2.2.2.1)), .int (iI ((rdC tx (tz : Int).toNat 200 0 (0, jl, jb, js, 100, 120, 6, 4, 0)).2.2.2.2.2.2.2.2.2))] := (fS11 (x + 8) (off_ne (x := x) (a := 8) (b := 4) (by decide)) (off_ne (x := x) (a := 8) (b := 5) (by decide)) (off_ne (x := x) (a := 8) (b := 6) (by decide)) (off_ne (x := x) (a := 8) (b := 7) (by decide))).trans hS1_0
      have e33 : S17 (x + 8) = oO 5 [.ref ((x + 8) + 1), .ref ((x + 8) + 2), .ref ((x + 8) + 3), .int (iI ((rdC tx (tz : Int).toNat 200 0 (0, jl, jb, js, 100, 120, 6, 4, 0)).2.1)), .int (iI ((rdC tx (tz : Int).toNat 200 0 (0, jl, jb, js, 100, 120, 6, 4, 0)).2.2.2.2.2.1)), .int (iI ((rdC tx (tz : Int).toNat 200 0 (0, jl, jb, js, 100, 120, 6, 4, 0)).2.2.2.2.2.2.1)), .int (iI ((rdC tx (tz : Int).toNat 200 0 (0, jl, jb, js, 100, 120, 6, 4, 0)).2.2.2.2.2.2.2.1)), .int (iI ((rdC tx (tz : Int).toNat 200 0 (0, jl, jb, js, 100, 120, 6, 4, 0)).2.2.2.2.2.2.2.2.1)), .int (iI ((rdC tx (tz : Int).toNat 200 0 (0, jl, jb, js, 100, 120, 6, 4, 0)).2.2.2.2.2.2.2.2.2))] := (fS17 (x + 8) (off_ne (x := x) (a := 8) (b := 14) (by decide)) (off_ne (x := x) (a := 8) (b := 15) (by decide))).trans e32
      have e34 : S22 (x + 8) = oO 5 [.ref ((x + 8) + 1), .ref ((x + 8) + 2), .ref ((x + 8) + 3), .int (iI ((rdC tx (tz : Int).toNat 200 0 (0, jl, jb, js, 100, 120, 6, 4, 0)).2.1)), .int (iI ((rdC tx (tz : Int).toNat 200 0 (0, jl, jb, js, 100, 120, 6, 4, 0)).2.2.2.2.2.1)), .int (iI ((rdC tx (tz : Int).toNat 200 0 (0, jl, jb, js, 100, 120, 6, 4, 0)).2.2.2.2.2.2.1)), .int (iI ((rdC tx (tz : Int).toNat 200 0 (0, jl, jb, js, 100, 120, 6, 4, 0)).2.2.2.2.2.2.2.1)), .int (iI ((rdC tx (tz : Int).toNat 200 0 (0, jl, jb, js, 100, 120, 6, 4, 0)).2.2.2.2.2.2.2.2.1)), .int (iI ((rdC tx (tz : Int).toNat 200 0 (0, jl, jb, js, 100, 120, 6, 4, 0)).2.2.2.2.2.2.2.2.2))] := (fS22 (x + 8) (off_ne (x := x) (a := 8) (b := 31) (by decide))).trans e33
      have e35 : S11 (x + 9) = oI g 8 ((rdC tx (tz : Int).toNat 200 0 (0, jl, jb, js, 100, 120, 6, 4, 0)).2.2.1) := (fS11 (x + 9) (off_ne (x := x) (a := 9) (b := 4) (by decide)) (off_ne (x := x) (a := 9) (b := 5) (by decide)) (off_ne (x := x) (a := 9) (b := 6) (by decide)) (off_ne (x := x) (a := 9) (b := 7) (by decide))).trans hS1_1
      have e36 : S17 (x + 9) = oI g 8 ((rdC tx (tz : Int).toNat 200 0 (0, jl, jb, js, 100, 120, 6, 4, 0)).2.2.1) := (fS17 (x + 9) (off_ne (x := x) (a := 9) (b := 14) (by decide)) (off_ne (x := x) (a := 9) (b := 15) (by decide))).trans e35
      have e37 : S22 (x + 9) = oI g 8 ((rdC tx (tz : Int).toNat 200 0 (0, jl, jb, js, 100, 120, 6, 4, 0)).2.2.1) := (fS22 (x + 9) (off_ne (x := x) (a := 9) (b := 31) (by decide))).trans e36
      have e38 : S11 (x + 10) = oI g 8 ((rdC tx (tz : Int).toNat 200 0 (0, jl, jb, js, 100, 120, 6, 4, 0)).2.2.2.1) := (fS11 (x + 10) (off_ne (x := x) (a := 10) (b := 4) (by decide)) (off_ne (x := x) (a := 10) (b := 5) (by decide)) (off_ne (x := x) (a := 10) (b := 6) (by decide)) (off_ne (x := x) (a := 10) (b := 7) (by decide))).trans hS1_2
      have e39 : S17 (x + 10) = oI g 8 ((rdC tx (tz : Int).toNat 200 0 (0, jl, jb, js, 100, 120, 6, 4, 0)).2.2.2.1) := (fS17 (x + 10) (off_ne (x := x) (a := 10) (b := 14) (by decide)) (off_ne (x := x) (a := 10) (b := 15) (by decide))).trans e38
      have e40 : S22 (x + 10) = oI g 8 ((rdC tx (tz : Int).toNat 200 0 (0, jl, jb, js, 100, 120, 6, 4, 0)).2.2.2.1) := (fS22 (x + 10) (off_ne (x := x) (a := 10) (b := 31) (by decide))).trans e39
      have e41 : S11 (x + 11) = oI g 8 ((rdC tx (tz : Int).toNat 200 0 (0, jl, jb, js, 100, 120, 6, 4, 0)).2.2.2.2.1) := (fS11 (x + 11) (off_ne (x := x) (a := 11) (b := 4) (by decide)) (off_ne (x := x) (a := 11) (b := 5) (by decide)) (off_ne (x := x) (a := 11) (b := 6) (by decide)) (off_ne (x := x) (a := 11) (b := 7) (by decide))).trans hS1_3
      have e42 : S17 (x + 11) = oI g 8 ((rdC tx (tz : Int).toNat 200 0 (0, jl, jb, js, 100, 120, 6, 4, 0)).2.2.2.2.1) := (fS17 (x + 11) (off_ne (x := x) (a := 11) (b := 14) (by decide)) (off_ne (x := x) (a := 11) (b := 15) (by decide))).trans e41
      have e43 : S22 (x + 11) = oI g 8 ((rdC tx (tz : Int).toNat 200 0 (0, jl, jb, js, 100, 120, 6, 4, 0)).2.2.2.2.1) := (fS22 (x + 11) (off_ne (x := x) (a := 11) (b := 31) (by decide))).trans e42
      have e44 : S22 (x + 14) = oO 6 [.ref (x + 4), .ref ((x + 14) + 1), .ref ((x + 14) + 2), .ref ((x + 14) + 3), .int (iI 0)] := (fS22 (x + 14) (off_ne (x := x) (a := 14) (b := 31) (by decide))).trans hS17_0
      have e45 : S22 (x + 15) = oI g 8 (va_cpy (va_cpy ((rdC tx (tz : Int).toNat 200 0 (0, jl, jb, js, 100, 120, 6, 4, 0)).2.2.2.2.1) sl 0 0 8) lv 0 0 8) := (fS22 (x + 15) (off_ne (x := x) (a := 15) (b := 31) (by decide))).trans hS17_1
      have e46 : S11 (x + 1) = oO 7 [.ref (x + 2), .ref (x + 3), .int (iI (tz : Int)), .int (iI ta9)] := (fS11 (x + 1) (off_ne (x := x) (a := 1) (b := 4) (by decide)) (off_ne (x := x) (a := 1) (b := 5) (by decide)) (off_ne (x := x) (a := 1) (b := 6) (by decide)) (off_ne (x := x) (a := 1) (b := 7) (by decide))).trans ha93
      have e47 : S17 (x + 1) = oO 7 [.ref (x + 2), .ref (x + 3), .int (iI (tz : Int)), .int (iI ta9)] := (fS17 (x + 1) (off_ne (x := x) (a := 1) (b := 14) (by decide)) (off_ne (x := x) (a := 1) (b := 15) (by decide))).trans e46
      have e48 : S22 (x + 1) = oO 7 [.ref (x + 2), .ref (x + 3), .int (iI (tz : Int)), .int (iI ta9)] := (fS22 (x + 1) (off_ne (x := x) (a := 1) (b := 31) (by decide))).trans e47
      have e49 : S11 (x + 3) = oI g 3 nb9 := (fS11 (x + 3) (off_ne (x := x) (a := 3) (b := 4) (by decide)) (off_ne (x := x) (a := 3) (b := 5) (by decide)) (off_ne (x := x) (a := 3) (b := 6) (by decide)) (off_ne (x := x) (a := 3) (b := 7) (by decide))).trans hb94
      have e50 : S17 (x + 3) = oI g 3 nb9 := (fS17 (x + 3) (off_ne (x := x) (a := 3) (b := 14) (by decide)) (off_ne (x := x) (a := 3) (b := 15) (by decide))).trans e49
      have e51 : S22 (x + 3) = oI g 3 nb9 := (fS22 (x + 3) (off_ne (x := x) (a := 3) (b := 31) (by decide))).trans e50
      exact hret (some (.int (iI ((rdC tx (tz : Int).toNat 200 0 (0, jl, jb, js, 100, 120, 6, 4, 0)).2.1)))) _ S22 _ _ _ _ hw (⟨rfl, rfl, e25, e27, e29, e31, e34, e37, e40, e43, e44, e45, hS22_0, ⟨_, e48⟩, ⟨_, e51, hnb8⟩, fun bb hb0 hb1 hb2 hb3 hb4 hb5 hb6 hb7 hb8 hb9 hb10 hb11 hb12 => ((((fS22 bb hb10)).trans (fS17 bb hb8 hb9)).trans (fS11 bb hb0 hb1 hb2 hb3)).trans (fS1 bb hb4 hb5 hb6 hb7 hb11 hb12)⟩) ⟨_, rfl, rfl, dX8_lay_61⟩
    · exact absurd c6 hz9

set_option maxHeartbeats 4000000 in
set_option maxRecDepth 100000 in
theorem c_K_fillTrial_no (l : Launch) (g : gG) {n : Nat} {S : Nat → gE} {x tr q : Nat} {nH pHi pWi pLp pBk pHp : Int} {ln br : Nat → Int} {rest lv : Nat → Int} {zR : Int} {cs : Nat → Option Nat} {t1 t2 t3 t4 t5 t6 t7 : Int} {tf te : Nat → Int} {qL qF qG qR : Int} {ed : Nat → Int} {bs : sL} {fl : Int} (hx : S x = oO 8 [.ref (x + 1), .ref (x + 4), .ref (x + 8), .ref (x + 12), .ref (x + 14), .ref (x + 20), .ref (x + 31), .ref tr]) (hp : S (x + 4) = oO 5 [.ref (x + 5), .ref (x + 6), .ref (x + 7), .int (iI nH), .int (iI pHi), .int (iI pWi), .int (iI pLp), .int (iI pBk), .int (iI pHp)]) (hln : S (x + 5) = oI g 8 ln) (hbr : S (x + 6) = oI g 8 br) (hy : S (x + 12) = oO 4 [.ref (x + 4), .ref (x + 13)]) (hrs : S (x + 13) = oI g 8 rest) (ho : S (x + 14) = oO 6 [.ref (x + 4), .ref (x + 15), .ref (x + 16), .ref (x + 17), .int (iI zR)]) (hlv : S (x + 15) = oI g 8 lv) (hcs : S (x + 16) = oR g 2 20 cs) (htr0 : S tr = oO 3 [.ref (tr + 1), .ref (tr + 2), .int (iI t1), .int (iI t2), .int (iI t3), .int (iI t4), .int (iI t5), .int (iI t6), .int (iI t7)]) (htr1 : S (tr + 1) = oI g 60 tf) (htr2 : S (tr + 2) = oI g 60 te) (hq0 : S q = oO 3 [.ref (q + 1), .ref (q + 2), .int (iI qL), .int (iI qF), .int (iI qG), .int (iI qR), .int (iI (bs.length : Int)), .int (iI (wst br qL bs)), .int (iI (cuts br bs))]) (hq2 : S (q + 2) = oI g 60 ed) (rH : 0 ≤ nH ∧ nH ≤ 8) (rP : ∀ i : Nat, (i : Int) < nH → (20 ≤ ln i ∧ ln i ≤ 60) ∧ (10 ≤ br i ∧ br i ≤ 60)) (rV : ∀ i : Nat, (i : Int) < nH → 0 ≤ lv i ∧ lv i ≤ 1000000) (rbk : 0 ≤ pBk ∧ pBk ≤ 1000000) (rlp : 0 ≤ pLp ∧ pLp ≤ 10) (rwi : 0 ≤ pWi ∧ pWi ≤ 1000) (rhp : 0 ≤ pHp ∧ pHp ≤ 9) (rhi : 0 ≤ pHi ∧ pHi ≤ 100000) (rzR : 0 ≤ zR ∧ zR ≤ 20) (hla : (0 < zR ∧ cs (zR - 1).toNat = some q) ∨ (zR = 0 ∧ q = x + 17)) (rqL : 0 ≤ qL ∧ qL ≤ 60) (rft : (0 ≤ qF + qG ∧ qF + qG ≤ 1000) ∧ bs.length ≤ 60) (hbs : ∀ i : Nat, i < bs.length → ed i = slE bs i) (hbe : ∀ i : Nat, -1000000 ≤ slE bs i ∧ slE bs i ≤ 1000000) (htra : tr = x + 33 ∨ x + 47 ≤ tr) (hqa : q = x + 17 ∨ q = x + 33 ∨ x + 47 ≤ q) (hqt : q + 3 ≤ tr ∨ tr + 3 ≤ q) (rfl0 : 20 ≤ fl ∧ fl ≤ 60) (hno : ¬ (zR < 20 ∧ qF + qG < pHi ∧ fl ≤ qL) ∨ layC nH.toNat ln br pWi pHp pBk fl lv (qF + qG) bs = none) : g_Cs l yX8_fillTrial wsX8_fillTrial { frames := 5, cells := 0, slots := 0, locals := 114 } g [.ref x, .int (iI fl)] n S (fun vr n1 S1 => vr = some (.int (iI 0)) ∧ n = n1 ∧ gbc g S1 tr ∧ (∃ f : Nat → Int, S1 (x + 13) = oI g 8 f) ∧ (∀ bb, bb ≠ (x + 13) → bb ≠ tr → bb ≠ (tr + 1) → bb ≠ (tr + 2) → S1 bb = S bb)) 0 0 := by
  refine g_Cs.of (cc := cX8_fillTrial) (maxL := 3) (ret := (some .boolean)) (by decide) rfl (Nat.le_of_ble_eq_true rfl) ?_
  intro pp ee s m below meth cK Q H locs ls hc hnm hw hl hret
  have hl : lv_has ls 3 [(0, .ref x), (1, .int (iI fl))] := hl
  have hiX8 : ∀ w ∈ u_ws RX8 TX8 8, w ∈ wsX8_fillTrial := by decide +kernel
  have hiX3 : ∀ w ∈ u_ws RX3 TX3 9, w ∈ wsX8_fillTrial := by decide +kernel
  have hiX6 : ∀ w ∈ u_ws RX6 TX6 5, w ∈ wsX8_fillTrial := by decide +kernel
  have lk38 : Cond.fieldLink RX8 38 "RoofCourses" "roof" "LRoofCourses$Roof;" ∈ wsX8_fillTrial := by decide +kernel
  have lk168 : Cond.fieldLink RX8 168 "RoofCourses$Course" "length" "I" ∈ wsX8_fillTrial := by decide +kernel
  have lk31 : Cond.fieldLink RX8 31 "RoofCourses" "layer" "LRoofCourses$Layer;" ∈ wsX8_fillTrial := by decide +kernel
  have lk61 : Cond.fieldLink RX8 61 "RoofCourses" "trial" "LRoofCourses$Course;" ∈ wsX8_fillTrial := by decide +kernel
  have lk132 : Cond.fieldLink RX8 132 "RoofCourses$Roof" "left" "[I" ∈ wsX8_fillTrial := by decide +kernel
  have hm0 : 0 ≤ pHp * (qF + qG) := Int.mul_nonneg rhp.1 rft.1.1
  have hm1 : pHp * (qF + qG) ≤ 9 * 1000 := Int.mul_le_mul rhp.2 rft.1.2 rft.1.1 (by decide)
  have hLC : layG nH.toNat ln br fl (rmF pWi pHp (qF + qG)) ed pBk ((bs.length : Int) - 1).toNat 60 lv 0 = layC nH.toNat ln br pWi pHp pBk fl lv (qF + qG) bs := by unfold layC; rw [show ((bs.length : Int) - 1).toNat = bs.length - 1 by omega]; exact layG_ed (fun i hi => hbs i (by omega)) 60 lv 0
  have hedr : ∀ k : Nat, (k : Int) < (bs.length : Int) - 1 → -1000000 ≤ ed k ∧ ed k ≤ 1000000 := fun k hk => by rw [hbs k (by omega)]; exact hbe k
  refine lv_aload_n hc.1 hc.2.1 dX8_fillTrial_0 rfl (lv_at hl 0 rfl) ?_
  refine nn_get hc hw hx hiX8 rfl 4 (by decide) rfl lk38 dX8_fillTrial_1 ?_
  refine nn_Vp (As := []) (st := []) hc hw ho rfl (c_X6_last l g  ho hcs (by omega) (hla)) (cwV 0 hc.2.2.2.2 gX8_fillTrial_X6_last rfl rfl rfl (by decide +kernel) ⟨Nat.le_of_ble_eq_true rfl, Nat.le_of_ble_eq_true rfl⟩) rfl hl.1 rfl (Nat.le_of_ble_eq_true rfl) ⟨Nat.le_of_ble_eq_true rfl, Nat.le_of_ble_eq_true rfl⟩ dX8_fillTrial_4 ?_
  refine W.eq (g2 := F0 m 7 ls [.ref q]) rfl ?_
  refine lv_astore_n (lv' := [(2, .ref q), (0, .ref x), (1, .int (iI fl))]) hc.1 hc.2.1 dX8_fillTrial_7 rfl hl (by decide) rfl (fun ls hl => ?_)
  refine lv_aload_n hc.1 hc.2.1 dX8_fillTrial_8 rfl (lv_at hl 1 rfl) ?_
  refine nn_get hc hw hx hiX8 rfl 4 (by decide) rfl lk38 dX8_fillTrial_9 ?_
  refine nn_Vp (As := []) (st := []) hc hw ho rfl (c_X6_isOpen_b l g  ho hcs hp hq0 (by omega) (hla) (by omega) (by omega)) (cwV 0 hc.2.2.2.2 gX8_fillTrial_X6_isOpen rfl rfl rfl (by decide +kernel) ⟨Nat.le_of_ble_eq_true rfl, Nat.le_of_ble_eq_true rfl⟩) rfl hl.1 rfl (Nat.le_of_ble_eq_true rfl) ⟨Nat.le_of_ble_eq_true rfl, Nat.le_of_ble_eq_true rfl⟩ dX8_fillTrial_12 ?_
  refine W.eq (g2 := F0 m 15 ls [.int (iI (if zR < 20 ∧ qF + qG < pHi then 1 else 0))]) rfl ?_
  refine nn_if_eq hc dX8_fillTrial_15 (tgt := 53) (by decide) (by omega) (fun c1 => ?_) (fun c1 => ?_)
  · refine nn_iconst hc dX8_fillTrial_53 ?_
    exact hret (some (.int (iI 0))) _ S _ _ _ _ hw (⟨rfl, rfl, ⟨_, _, _, _, _, _, _, _, _, htr0, htr1, htr2⟩, ⟨_, hrs⟩, fun bb _ _ _ _ => rfl⟩) ⟨_, rfl, by first | rfl | exact nn_nb _, dX8_fillTrial_54⟩
  · refine lv_iload_n hc.1 hc.2.1 dX8_fillTrial_18 rfl (lv_at hl 2 rfl) ?_
    refine lv_aload_n hc.1 hc.2.1 dX8_fillTrial_19 rfl (lv_at hl 0 rfl) ?_
    refine nn_get hc hw hq0 hiX3 rfl 2 (by decide) rfl lk168 dX8_fillTrial_20 ?_
    refine nn_icmp_gt hc dX8_fillTrial_23 (tgt := 53) (by decide) (by omega) (by omega) (fun c2 => ?_) (fun c2 => ?_)
    · refine nn_iconst hc dX8_fillTrial_53 ?_
      exact hret (some (.int (iI 0))) _ S _ _ _ _ hw (⟨rfl, rfl, ⟨_, _, _, _, _, _, _, _, _, htr0, htr1, htr2⟩, ⟨_, hrs⟩, fun bb _ _ _ _ => rfl⟩) ⟨_, rfl, by first | rfl | exact nn_nb _, dX8_fillTrial_54⟩
    · have hly : layC nH.toNat ln br pWi pHp pBk fl lv (qF + qG) bs = none := by rcases hno with h9 | h9; exact absurd (by omega) h9; exact h9
      refine lv_aload_n hc.1 hc.2.1 dX8_fillTrial_26 rfl (lv_at hl 1 rfl) ?_
      refine nn_get hc hw hx hiX8 rfl 3 (by decide) rfl lk31 dX8_fillTrial_27 ?_
      refine lv_aload_n hc.1 hc.2.1 dX8_fillTrial_30 rfl (lv_at hl 1 rfl) ?_
      refine nn_get hc hw hx hiX8 rfl 7 (by decide) rfl lk61 dX8_fillTrial_31 ?_
      refine lv_iload_n hc.1 hc.2.1 dX8_fillTrial_34 rfl (lv_at hl 2 rfl) ?_
      refine lv_aload_n hc.1 hc.2.1 dX8_fillTrial_35 rfl (lv_at hl 1 rfl) ?_
      refine nn_get hc hw hx hiX8 rfl 4 (by decide) rfl lk38 dX8_fillTrial_36 ?_
      refine nn_get hc hw ho hiX6 rfl 1 (by decide) rfl lk132 dX8_fillTrial_39 ?_
      refine lv_aload_n hc.1 hc.2.1 dX8_fillTrial_42 rfl (lv_at hl 0 rfl) ?_
      refine nn_Vs (As := [.ref tr, .int (iI fl), .ref (x + 15), .ref q]) (st := []) hc hw hy rfl (c_X4_fill_no l g  hy hp hln hbr hrs htr0 htr1 htr2 hq0 hq2 hlv (by omega) (rP) (rV) (by omega) (hedr) (by omega) (by omega) (by omega) (by omega) (by omega) (by omega) (by omega) (by omega) (hLC.trans hly)) (cwV 4 hc.2.2.2.2 gX8_fillTrial_X4_fill rfl rfl rfl (by decide +kernel) ⟨Nat.le_of_ble_eq_true rfl, Nat.le_of_ble_eq_true rfl⟩) rfl hl.1 rfl (Nat.le_of_ble_eq_true rfl) ⟨Nat.le_of_ble_eq_true rfl, Nat.le_of_ble_eq_true rfl⟩ dX8_fillTrial_43 (fun vr n1 S3 H locs qS3 hw => ?_)
      obtain ⟨r1_4, z1_5, w1_6, u1_7, h1_8, e1_9, rfl, rfl, hS3_0, hS3_1, hS3_2, hS3_3, fS3⟩ := qS3
      refine W.eq (g2 := F0 m 46 ls [.int (iI 0)]) rfl ?_
      refine nn_if_eq hc dX8_fillTrial_46 (tgt := 53) (by decide) (by decide) (fun c10 => ?_) (fun c10 => ?_)
      · refine nn_iconst hc dX8_fillTrial_53 ?_
        exact hret (some (.int (iI 0))) _ S3 _ _ _ _ hw (⟨rfl, rfl, ⟨_, _, _, _, _, _, _, _, _, hS3_1, hS3_2, hS3_3⟩, ⟨_, hS3_0⟩, fun bb hb0 hb1 hb2 hb3 => (fS3 bb hb0 hb1 hb2 hb3)⟩) ⟨_, rfl, by first | rfl | exact nn_nb _, dX8_fillTrial_54⟩
      · exact absurd c10 (by decide)

set_option maxHeartbeats 4000000 in
set_option maxRecDepth 100000 in
theorem c_K_fillTrial_yes (l : Launch) (g : gG) {n : Nat} {S : Nat → gE} {x tr q : Nat} {nH pHi pWi pLp pBk pHp : Int} {ln br : Nat → Int} {rest lv : Nat → Int} {zR : Int} {cs : Nat → Option Nat} {t1 t2 t3 t4 t5 t6 t7 : Int} {tf te : Nat → Int} {qL qF qG qR : Int} {ed : Nat → Int} {bs sl0 : sL} {fl : Int} (hx : S x = oO 8 [.ref (x + 1), .ref (x + 4), .ref (x + 8), .ref (x + 12), .ref (x + 14), .ref (x + 20), .ref (x + 31), .ref tr]) (hp : S (x + 4) = oO 5 [.ref (x + 5), .ref (x + 6), .ref (x + 7), .int (iI nH), .int (iI pHi), .int (iI pWi), .int (iI pLp), .int (iI pBk), .int (iI pHp)]) (hln : S (x + 5) = oI g 8 ln) (hbr : S (x + 6) = oI g 8 br) (hy : S (x + 12) = oO 4 [.ref (x + 4), .ref (x + 13)]) (hrs : S (x + 13) = oI g 8 rest) (ho : S (x + 14) = oO 6 [.ref (x + 4), .ref (x + 15), .ref (x + 16), .ref (x + 17), .int (iI zR)]) (hlv : S (x + 15) = oI g 8 lv) (hcs : S (x + 16) = oR g 2 20 cs) (htr0 : S tr = oO 3 [.ref (tr + 1), .ref (tr + 2), .int (iI t1), .int (iI t2), .int (iI t3), .int (iI t4), .int (iI t5), .int (iI t6), .int (iI t7)]) (htr1 : S (tr + 1) = oI g 60 tf) (htr2 : S (tr + 2) = oI g 60 te) (hq0 : S q = oO 3 [.ref (q + 1), .ref (q + 2), .int (iI qL), .int (iI qF), .int (iI qG), .int (iI qR), .int (iI (bs.length : Int)), .int (iI (wst br qL bs)), .int (iI (cuts br bs))]) (hq2 : S (q + 2) = oI g 60 ed) (rH : 0 ≤ nH ∧ nH ≤ 8) (rP : ∀ i : Nat, (i : Int) < nH → (20 ≤ ln i ∧ ln i ≤ 60) ∧ (10 ≤ br i ∧ br i ≤ 60)) (rV : ∀ i : Nat, (i : Int) < nH → 0 ≤ lv i ∧ lv i ≤ 1000000) (rbk : 0 ≤ pBk ∧ pBk ≤ 1000000) (rlp : 0 ≤ pLp ∧ pLp ≤ 10) (rwi : 0 ≤ pWi ∧ pWi ≤ 1000) (rhp : 0 ≤ pHp ∧ pHp ≤ 9) (rhi : 0 ≤ pHi ∧ pHi ≤ 100000) (rzR : 0 ≤ zR ∧ zR ≤ 20) (hla : (0 < zR ∧ cs (zR - 1).toNat = some q) ∨ (zR = 0 ∧ q = x + 17)) (rqL : 0 ≤ qL ∧ qL ≤ 60) (rft : (0 ≤ qF + qG ∧ qF + qG ≤ 1000) ∧ bs.length ≤ 60) (hbs : ∀ i : Nat, i < bs.length → ed i = slE bs i) (hbe : ∀ i : Nat, -1000000 ≤ slE bs i ∧ slE bs i ≤ 1000000) (htra : tr = x + 33 ∨ x + 47 ≤ tr) (hqa : q = x + 17 ∨ q = x + 33 ∨ x + 47 ≤ q) (hqt : q + 3 ≤ tr ∨ tr + 3 ≤ q) (rfl0 : 20 ≤ fl ∧ fl ≤ 60) (hop : zR < 20 ∧ qF + qG < pHi ∧ fl ≤ qL) (hly : layC nH.toNat ln br pWi pHp pBk fl lv (qF + qG) bs = some sl0) : g_Cs l yX8_fillTrial wsX8_fillTrial { frames := 5, cells := 0, slots := 0, locals := 114 } g [.ref x, .int (iI fl)] n S (fun vr n1 S1 => ∃ r9 : Nat → Int, ∃ h9 : Nat → Int, ∃ e9 : Nat → Int, vr = some (.int (iI 1)) ∧ n = n1 ∧ S1 (x + 13) = oI g 8 r9 ∧ S1 tr = oO 3 [.ref (tr + 1), .ref (tr + 2), .int (iI fl), .int (iI (qF + qG)), .int (iI ((fl - pLp) / 2)), .int (iI (rmF pWi pHp (qF + qG))), .int (iI (sl0.length : Int)), .int (iI (wst br fl sl0)), .int (iI (cuts br sl0))] ∧ S1 (tr + 1) = oI g 60 h9 ∧ S1 (tr + 2) = oI g 60 e9 ∧ (∀ i : Nat, i < sl0.length → h9 i = slH sl0 i) ∧ (∀ i : Nat, i < sl0.length → e9 i = slE sl0 i) ∧ (∀ bb, bb ≠ (x + 13) → bb ≠ tr → bb ≠ (tr + 1) → bb ≠ (tr + 2) → S1 bb = S bb)) 0 0 := by
  refine g_Cs.of (cc := cX8_fillTrial) (maxL := 3) (ret := (some .boolean)) (by decide) rfl (Nat.le_of_ble_eq_true rfl) ?_
  intro pp ee s m below meth cK Q H locs ls hc hnm hw hl hret
  have hl : lv_has ls 3 [(0, .ref x), (1, .int (iI fl))] := hl
  have hiX8 : ∀ w ∈ u_ws RX8 TX8 8, w ∈ wsX8_fillTrial := by decide +kernel
  have hiX3 : ∀ w ∈ u_ws RX3 TX3 9, w ∈ wsX8_fillTrial := by decide +kernel
  have hiX6 : ∀ w ∈ u_ws RX6 TX6 5, w ∈ wsX8_fillTrial := by decide +kernel
  have lk38 : Cond.fieldLink RX8 38 "RoofCourses" "roof" "LRoofCourses$Roof;" ∈ wsX8_fillTrial := by decide +kernel
  have lk168 : Cond.fieldLink RX8 168 "RoofCourses$Course" "length" "I" ∈ wsX8_fillTrial := by decide +kernel
  have lk31 : Cond.fieldLink RX8 31 "RoofCourses" "layer" "LRoofCourses$Layer;" ∈ wsX8_fillTrial := by decide +kernel
  have lk61 : Cond.fieldLink RX8 61 "RoofCourses" "trial" "LRoofCourses$Course;" ∈ wsX8_fillTrial := by decide +kernel
  have lk132 : Cond.fieldLink RX8 132 "RoofCourses$Roof" "left" "[I" ∈ wsX8_fillTrial := by decide +kernel
  have hm0 : 0 ≤ pHp * (qF + qG) := Int.mul_nonneg rhp.1 rft.1.1
  have hm1 : pHp * (qF + qG) ≤ 9 * 1000 := Int.mul_le_mul rhp.2 rft.1.2 rft.1.1 (by decide)
  have hLC : layG nH.toNat ln br fl (rmF pWi pHp (qF + qG)) ed pBk ((bs.length : Int) - 1).toNat 60 lv 0 = layC nH.toNat ln br pWi pHp pBk fl lv (qF + qG) bs := by unfold layC; rw [show ((bs.length : Int) - 1).toNat = bs.length - 1 by omega]; exact layG_ed (fun i hi => hbs i (by omega)) 60 lv 0
  have hedr : ∀ k : Nat, (k : Int) < (bs.length : Int) - 1 → -1000000 ≤ ed k ∧ ed k ≤ 1000000 := fun k hk => by rw [hbs k (by omega)]; exact hbe k
  refine lv_aload_n hc.1 hc.2.1 dX8_fillTrial_0 rfl (lv_at hl 0 rfl) ?_
  refine nn_get hc hw hx hiX8 rfl 4 (by decide) rfl lk38 dX8_fillTrial_1 ?_
  refine nn_Vp (As := []) (st := []) hc hw ho rfl (c_X6_last l g  ho hcs (by omega) (hla)) (cwV 0 hc.2.2.2.2 gX8_fillTrial_X6_last rfl rfl rfl (by decide +kernel) ⟨Nat.le_of_ble_eq_true rfl, Nat.le_of_ble_eq_true rfl⟩) rfl hl.1 rfl (Nat.le_of_ble_eq_true rfl) ⟨Nat.le_of_ble_eq_true rfl, Nat.le_of_ble_eq_true rfl⟩ dX8_fillTrial_4 ?_
  refine W.eq (g2 := F0 m 7 ls [.ref q]) rfl ?_
  refine lv_astore_n (lv' := [(2, .ref q), (0, .ref x), (1, .int (iI fl))]) hc.1 hc.2.1 dX8_fillTrial_7 rfl hl (by decide) rfl (fun ls hl => ?_)
  refine lv_aload_n hc.1 hc.2.1 dX8_fillTrial_8 rfl (lv_at hl 1 rfl) ?_
  refine nn_get hc hw hx hiX8 rfl 4 (by decide) rfl lk38 dX8_fillTrial_9 ?_
  refine nn_Vp (As := []) (st := []) hc hw ho rfl (c_X6_isOpen_b l g  ho hcs hp hq0 (by omega) (hla) (by omega) (by omega)) (cwV 0 hc.2.2.2.2 gX8_fillTrial_X6_isOpen rfl rfl rfl (by decide +kernel) ⟨Nat.le_of_ble_eq_true rfl, Nat.le_of_ble_eq_true rfl⟩) rfl hl.1 rfl (Nat.le_of_ble_eq_true rfl) ⟨Nat.le_of_ble_eq_true rfl, Nat.le_of_ble_eq_true rfl⟩ dX8_fillTrial_12 ?_
  refine W.eq (g2 := F0 m 15 ls [.int (iI (if zR < 20 ∧ qF + qG < pHi then 1 else 0))]) rfl ?_
  refine nn_if_eq hc dX8_fillTrial_15 (tgt := 53) (by decide) (by omega) (fun c1 => ?_) (fun c1 => ?_)
  · exfalso; omega
  · refine lv_iload_n hc.1 hc.2.1 dX8_fillTrial_18 rfl (lv_at hl 2 rfl) ?_
    refine lv_aload_n hc.1 hc.2.1 dX8_fillTrial_19 rfl (lv_at hl 0 rfl) ?_
    refine nn_get hc hw hq0 hiX3 rfl 2 (by decide) rfl lk168 dX8_fillTrial_20 ?_
    refine nn_icmp_gt hc dX8_fillTrial_23 (tgt := 53) (by decide) (by omega) (by omega) (fun c2 => ?_) (fun c2 => ?_)
    · exfalso; omega
    · refine lv_aload_n hc.1 hc.2.1 dX8_fillTrial_26 rfl (lv_at hl 1 rfl) ?_
      refine nn_get hc hw hx hiX8 rfl 3 (by decide) rfl lk31 dX8_fillTrial_27 ?_
      refine lv_aload_n hc.1 hc.2.1 dX8_fillTrial_30 rfl (lv_at hl 1 rfl) ?_
      refine nn_get hc hw hx hiX8 rfl 7 (by decide) rfl lk61 dX8_fillTrial_31 ?_
      refine lv_iload_n hc.1 hc.2.1 dX8_fillTrial_34 rfl (lv_at hl 2 rfl) ?_
      refine lv_aload_n hc.1 hc.2.1 dX8_fillTrial_35 rfl (lv_at hl 1 rfl) ?_
      refine nn_get hc hw hx hiX8 rfl 4 (by decide) rfl lk38 dX8_fillTrial_36 ?_
      refine nn_get hc hw ho hiX6 rfl 1 (by decide) rfl lk132 dX8_fillTrial_39 ?_
      refine lv_aload_n hc.1 hc.2.1 dX8_fillTrial_42 rfl (lv_at hl 0 rfl) ?_
      refine nn_Vs (As := [.ref tr, .int (iI fl), .ref (x + 15), .ref q]) (st := []) hc hw hy rfl (c_X4_fill_yes l g  hy hp hln hbr hrs htr0 htr1 htr2 hq0 hq2 hlv (by omega) (rP) (rV) (by omega) (hedr) (by omega) (by omega) (by omega) (by omega) (by omega) (by omega) (by omega) (by omega) (hLC.trans hly)) (cwV 4 hc.2.2.2.2 gX8_fillTrial_X4_fill rfl rfl rfl (by decide +kernel) ⟨Nat.le_of_ble_eq_true rfl, Nat.le_of_ble_eq_true rfl⟩) rfl hl.1 rfl (Nat.le_of_ble_eq_true rfl) ⟨Nat.le_of_ble_eq_true rfl, Nat.le_of_ble_eq_true rfl⟩ dX8_fillTrial_43 (fun vr n1 S3 H locs qS3 hw => ?_)
      obtain ⟨r1_4, h1_5, e1_6, rfl, rfl, hS3_0, hS3_1, hS3_2, hS3_3, kS3_0, kS3_1, fS3⟩ := qS3
      refine W.eq (g2 := F0 m 46 ls [.int (iI 1)]) rfl ?_
      refine nn_if_eq hc dX8_fillTrial_46 (tgt := 53) (by decide) (by decide) (fun c7 => ?_) (fun c7 => ?_)
      · exact absurd c7 (by decide)
      · refine nn_iconst hc dX8_fillTrial_49 ?_
        refine lv_goto hc.1 hc.2.1 dX8_fillTrial_50 (tgt := 54) (by decide) ?_
        exact hret (some (.int (iI 1))) _ S3 _ _ _ _ hw (⟨_, _, _, rfl, rfl, hS3_0, hS3_1, hS3_2, hS3_3, kS3_0, kS3_1, fun bb hb0 hb1 hb2 hb3 => (fS3 bb hb0 hb1 hb2 hb3)⟩) ⟨_, rfl, by first | rfl | exact nn_nb _, dX8_fillTrial_54⟩

set_option maxHeartbeats 4000000 in
set_option maxRecDepth 100000 in
theorem c_K_tried_bad (l : Launch) (g : gG) {n : Nat} {S : Nat → gE} {x tr : Nat} {fl what : Int} (hx : S x = oO 8 [.ref (x + 1), .ref (x + 4), .ref (x + 8), .ref (x + 12), .ref (x + 14), .ref (x + 20), .ref (x + 31), .ref tr]) (r_fl : -2147483648 ≤ fl ∧ fl < 2147483648) (r_what : -2147483648 ≤ what ∧ what < 2147483648) (hb : ¬ ((20 ≤ fl ∧ fl ≤ 60) ∧ (0 ≤ what ∧ what ≤ 1))) : g_Cs l yX8_tried wsX8_tried { frames := 1, cells := 0, slots := 0, locals := 22 } g [.ref x, .int (iI fl), .int (iI what)] n S (fun vr n1 S1 => vr = some (.int (iI (-1))) ∧ n = n1 ∧ S = S1) 0 0 := by
  refine g_Cs.of (cc := cX8_tried) (maxL := 3) (ret := (some .int)) (by decide) rfl (Nat.le_of_ble_eq_true rfl) ?_
  intro pp ee s m below meth cK Q H locs ls hc hnm hw hl hret
  have hl : lv_has ls 3 [(0, .ref x), (1, .int (iI fl)), (2, .int (iI what))] := hl
  refine lv_iload_n hc.1 hc.2.1 dX8_tried_0 rfl (lv_at hl 1 rfl) ?_
  refine nn_bipush hc dX8_tried_1 (by decide +kernel) ?_
  refine nn_bipush hc dX8_tried_3 (by decide +kernel) ?_
  refine nn_Sp (As := [.int (iI fl), .int (iI 20), .int (iI 60)]) (st := []) hc hw (c_X8_isWithin l g   (by omega) (by omega) (by omega)) (va_cwS 3 hc.2.2.2.2 gX8_tried_X8_isWithin rfl rfl rfl (by decide +kernel) ⟨Nat.le_of_ble_eq_true rfl, Nat.le_of_ble_eq_true rfl⟩) rfl hl.1 rfl (Nat.le_of_ble_eq_true rfl) ⟨Nat.le_of_ble_eq_true rfl, Nat.le_of_ble_eq_true rfl⟩ dX8_tried_5 ?_
  refine W.eq (g2 := F0 m 8 ls [.int (iI (if 20 ≤ fl ∧ fl ≤ 60 then 1 else 0))]) rfl ?_
  refine nn_if_eq hc dX8_tried_8 (tgt := 20) (by decide) (by omega) (fun c1 => ?_) (fun c1 => ?_)
  · refine nn_iconst hc dX8_tried_20 ?_
    exact hret (some (.int (iI (-1)))) _ S _ _ _ _ hw (⟨rfl, rfl, rfl⟩) ⟨_, rfl, rfl, dX8_tried_21⟩
  · refine lv_iload_n hc.1 hc.2.1 dX8_tried_11 rfl (lv_at hl 2 rfl) ?_
    refine nn_iconst hc dX8_tried_12 ?_
    refine nn_iconst hc dX8_tried_13 ?_
    refine nn_Sp (As := [.int (iI what), .int (iI 0), .int (iI 1)]) (st := []) hc hw (c_X8_isWithin l g   (by omega) (by omega) (by omega)) (va_cwS 3 hc.2.2.2.2 gX8_tried_X8_isWithin rfl rfl rfl (by decide +kernel) ⟨Nat.le_of_ble_eq_true rfl, Nat.le_of_ble_eq_true rfl⟩) rfl hl.1 rfl (Nat.le_of_ble_eq_true rfl) ⟨Nat.le_of_ble_eq_true rfl, Nat.le_of_ble_eq_true rfl⟩ dX8_tried_14 ?_
    refine W.eq (g2 := F0 m 17 ls [.int (iI (if 0 ≤ what ∧ what ≤ 1 then 1 else 0))]) rfl ?_
    refine nn_if_ne hc dX8_tried_17 (tgt := 22) (by decide) (by omega) (fun c2 => ?_) (fun c2 => ?_)
    · exfalso; omega
    · refine nn_iconst hc dX8_tried_20 ?_
      exact hret (some (.int (iI (-1)))) _ S _ _ _ _ hw (⟨rfl, rfl, rfl⟩) ⟨_, rfl, rfl, dX8_tried_21⟩

set_option maxHeartbeats 4000000 in
set_option maxRecDepth 100000 in
theorem c_K_tried_no (l : Launch) (g : gG) {n : Nat} {S : Nat → gE} {x tr q : Nat} {nH pHi pWi pLp pBk pHp : Int} {ln br : Nat → Int} {rest lv : Nat → Int} {zR : Int} {cs : Nat → Option Nat} {t1 t2 t3 t4 t5 t6 t7 : Int} {tf te : Nat → Int} {qL qF qG qR : Int} {ed : Nat → Int} {bs : sL} {fl what : Int} (hx : S x = oO 8 [.ref (x + 1), .ref (x + 4), .ref (x + 8), .ref (x + 12), .ref (x + 14), .ref (x + 20), .ref (x + 31), .ref tr]) (hp : S (x + 4) = oO 5 [.ref (x + 5), .ref (x + 6), .ref (x + 7), .int (iI nH), .int (iI pHi), .int (iI pWi), .int (iI pLp), .int (iI pBk), .int (iI pHp)]) (hln : S (x + 5) = oI g 8 ln) (hbr : S (x + 6) = oI g 8 br) (hy : S (x + 12) = oO 4 [.ref (x + 4), .ref (x + 13)]) (hrs : S (x + 13) = oI g 8 rest) (ho : S (x + 14) = oO 6 [.ref (x + 4), .ref (x + 15), .ref (x + 16), .ref (x + 17), .int (iI zR)]) (hlv : S (x + 15) = oI g 8 lv) (hcs : S (x + 16) = oR g 2 20 cs) (htr0 : S tr = oO 3 [.ref (tr + 1), .ref (tr + 2), .int (iI t1), .int (iI t2), .int (iI t3), .int (iI t4), .int (iI t5), .int (iI t6), .int (iI t7)]) (htr1 : S (tr + 1) = oI g 60 tf) (htr2 : S (tr + 2) = oI g 60 te) (hq0 : S q = oO 3 [.ref (q + 1), .ref (q + 2), .int (iI qL), .int (iI qF), .int (iI qG), .int (iI qR), .int (iI (bs.length : Int)), .int (iI (wst br qL bs)), .int (iI (cuts br bs))]) (hq2 : S (q + 2) = oI g 60 ed) (rH : 0 ≤ nH ∧ nH ≤ 8) (rP : ∀ i : Nat, (i : Int) < nH → (20 ≤ ln i ∧ ln i ≤ 60) ∧ (10 ≤ br i ∧ br i ≤ 60)) (rV : ∀ i : Nat, (i : Int) < nH → 0 ≤ lv i ∧ lv i ≤ 1000000) (rbk : 0 ≤ pBk ∧ pBk ≤ 1000000) (rlp : 0 ≤ pLp ∧ pLp ≤ 10) (rwi : 0 ≤ pWi ∧ pWi ≤ 1000) (rhp : 0 ≤ pHp ∧ pHp ≤ 9) (rhi : 0 ≤ pHi ∧ pHi ≤ 100000) (rzR : 0 ≤ zR ∧ zR ≤ 20) (hla : (0 < zR ∧ cs (zR - 1).toNat = some q) ∨ (zR = 0 ∧ q = x + 17)) (rqL : 0 ≤ qL ∧ qL ≤ 60) (rft : (0 ≤ qF + qG ∧ qF + qG ≤ 1000) ∧ bs.length ≤ 60) (hbs : ∀ i : Nat, i < bs.length → ed i = slE bs i) (hbe : ∀ i : Nat, -1000000 ≤ slE bs i ∧ slE bs i ≤ 1000000) (htra : tr = x + 33 ∨ x + 47 ≤ tr) (hqa : q = x + 17 ∨ q = x + 33 ∨ x + 47 ≤ q) (hqt : q + 3 ≤ tr ∨ tr + 3 ≤ q) (hb : (20 ≤ fl ∧ fl ≤ 60) ∧ (0 ≤ what ∧ what ≤ 1)) (hno : ¬ (zR < 20 ∧ qF + qG < pHi ∧ fl ≤ qL) ∨ layC nH.toNat ln br pWi pHp pBk fl lv (qF + qG) bs = none) : g_Cs l yX8_tried wsX8_tried { frames := 6, cells := 0, slots := 0, locals := 136 } g [.ref x, .int (iI fl), .int (iI what)] n S (fun vr n1 S1 => vr = some (.int (iI (-2))) ∧ n = n1 ∧ gbc g S1 tr ∧ (∃ f : Nat → Int, S1 (x + 13) = oI g 8 f) ∧ (∀ bb, bb ≠ (x + 13) → bb ≠ tr → bb ≠ (tr + 1) → bb ≠ (tr + 2) → S1 bb = S bb)) 0 0 := by
  refine g_Cs.of (cc := cX8_tried) (maxL := 3) (ret := (some .int)) (by decide) rfl (Nat.le_of_ble_eq_true rfl) ?_
  intro pp ee s m below meth cK Q H locs ls hc hnm hw hl hret
  have hl : lv_has ls 3 [(0, .ref x), (1, .int (iI fl)), (2, .int (iI what))] := hl
  refine lv_iload_n hc.1 hc.2.1 dX8_tried_0 rfl (lv_at hl 1 rfl) ?_
  refine nn_bipush hc dX8_tried_1 (by decide +kernel) ?_
  refine nn_bipush hc dX8_tried_3 (by decide +kernel) ?_
  refine nn_Sp (As := [.int (iI fl), .int (iI 20), .int (iI 60)]) (st := []) hc hw (c_X8_isWithin l g   (by omega) (by omega) (by omega)) (va_cwS 3 hc.2.2.2.2 gX8_tried_X8_isWithin rfl rfl rfl (by decide +kernel) ⟨Nat.le_of_ble_eq_true rfl, Nat.le_of_ble_eq_true rfl⟩) rfl hl.1 rfl (Nat.le_of_ble_eq_true rfl) ⟨Nat.le_of_ble_eq_true rfl, Nat.le_of_ble_eq_true rfl⟩ dX8_tried_5 ?_
  refine W.eq (g2 := F0 m 8 ls [.int (iI (if 20 ≤ fl ∧ fl ≤ 60 then 1 else 0))]) rfl ?_
  refine nn_if_eq hc dX8_tried_8 (tgt := 20) (by decide) (by omega) (fun c1 => ?_) (fun c1 => ?_)
  · exfalso; omega
  · refine lv_iload_n hc.1 hc.2.1 dX8_tried_11 rfl (lv_at hl 2 rfl) ?_
    refine nn_iconst hc dX8_tried_12 ?_
    refine nn_iconst hc dX8_tried_13 ?_
    refine nn_Sp (As := [.int (iI what), .int (iI 0), .int (iI 1)]) (st := []) hc hw (c_X8_isWithin l g   (by omega) (by omega) (by omega)) (va_cwS 3 hc.2.2.2.2 gX8_tried_X8_isWithin rfl rfl rfl (by decide +kernel) ⟨Nat.le_of_ble_eq_true rfl, Nat.le_of_ble_eq_true rfl⟩) rfl hl.1 rfl (Nat.le_of_ble_eq_true rfl) ⟨Nat.le_of_ble_eq_true rfl, Nat.le_of_ble_eq_true rfl⟩ dX8_tried_14 ?_
    refine W.eq (g2 := F0 m 17 ls [.int (iI (if 0 ≤ what ∧ what ≤ 1 then 1 else 0))]) rfl ?_
    refine nn_if_ne hc dX8_tried_17 (tgt := 22) (by decide) (by omega) (fun c2 => ?_) (fun c2 => ?_)
    · refine lv_aload_n hc.1 hc.2.1 dX8_tried_22 rfl (lv_at hl 0 rfl) ?_
      refine lv_iload_n hc.1 hc.2.1 dX8_tried_23 rfl (lv_at hl 1 rfl) ?_
      refine nn_Vs (As := [.int (iI fl)]) (st := []) hc hw hx rfl (c_K_fillTrial_no l g  hx hp hln hbr hy hrs ho hlv hcs htr0 htr1 htr2 hq0 hq2 (rH) (rP) (rV) (rbk) (rlp) (rwi) (rhp) (rhi) (rzR) (hla) (rqL) (rft) (hbs) (hbe) (htra) (hqa) (hqt) (by omega) (hno)) (cwV 1 hc.2.2.2.2 gX8_tried_X8_fillTrial rfl rfl rfl (by decide +kernel) ⟨Nat.le_of_ble_eq_true rfl, Nat.le_of_ble_eq_true rfl⟩) rfl hl.1 rfl (Nat.le_of_ble_eq_true rfl) ⟨Nat.le_of_ble_eq_true rfl, Nat.le_of_ble_eq_true rfl⟩ dX8_tried_24 (fun vr n1 S3 H locs qS3 hw => ?_)
      obtain ⟨rfl, rfl, kS3_0, kS3_1, fS3⟩ := qS3
      refine W.eq (g2 := F0 m 27 ls [.int (iI 0)]) rfl ?_
      refine nn_if_ne hc dX8_tried_27 (tgt := 33) (by decide) (by decide) (fun c4 => ?_) (fun c4 => ?_)
      · exact absurd c4 (by decide)
      · refine nn_bipush hc dX8_tried_30 (by decide +kernel) ?_
        exact hret (some (.int (iI (-2)))) _ S3 _ _ _ _ hw (⟨rfl, rfl, kS3_0, kS3_1, fun bb hb0 hb1 hb2 hb3 => (fS3 bb hb0 hb1 hb2 hb3)⟩) ⟨_, rfl, rfl, dX8_tried_32⟩
    · exfalso; omega

set_option maxHeartbeats 4000000 in
set_option maxRecDepth 100000 in
theorem c_K_tried_yes (l : Launch) (g : gG) {n : Nat} {S : Nat → gE} {x tr q : Nat} {nH pHi pWi pLp pBk pHp : Int} {ln br : Nat → Int} {rest lv : Nat → Int} {zR : Int} {cs : Nat → Option Nat} {t1 t2 t3 t4 t5 t6 t7 : Int} {tf te : Nat → Int} {qL qF qG qR : Int} {ed : Nat → Int} {bs sl0 : sL} {fl what : Int} (hx : S x = oO 8 [.ref (x + 1), .ref (x + 4), .ref (x + 8), .ref (x + 12), .ref (x + 14), .ref (x + 20), .ref (x + 31), .ref tr]) (hp : S (x + 4) = oO 5 [.ref (x + 5), .ref (x + 6), .ref (x + 7), .int (iI nH), .int (iI pHi), .int (iI pWi), .int (iI pLp), .int (iI pBk), .int (iI pHp)]) (hln : S (x + 5) = oI g 8 ln) (hbr : S (x + 6) = oI g 8 br) (hy : S (x + 12) = oO 4 [.ref (x + 4), .ref (x + 13)]) (hrs : S (x + 13) = oI g 8 rest) (ho : S (x + 14) = oO 6 [.ref (x + 4), .ref (x + 15), .ref (x + 16), .ref (x + 17), .int (iI zR)]) (hlv : S (x + 15) = oI g 8 lv) (hcs : S (x + 16) = oR g 2 20 cs) (htr0 : S tr = oO 3 [.ref (tr + 1), .ref (tr + 2), .int (iI t1), .int (iI t2), .int (iI t3), .int (iI t4), .int (iI t5), .int (iI t6), .int (iI t7)]) (htr1 : S (tr + 1) = oI g 60 tf) (htr2 : S (tr + 2) = oI g 60 te) (hq0 : S q = oO 3 [.ref (q + 1), .ref (q + 2), .int (iI qL), .int (iI qF), .int (iI qG), .int (iI qR), .int (iI (bs.length : Int)), .int (iI (wst br qL bs)), .int (iI (cuts br bs))]) (hq2 : S (q + 2) = oI g 60 ed) (rH : 0 ≤ nH ∧ nH ≤ 8) (rP : ∀ i : Nat, (i : Int) < nH → (20 ≤ ln i ∧ ln i ≤ 60) ∧ (10 ≤ br i ∧ br i ≤ 60)) (rV : ∀ i : Nat, (i : Int) < nH → 0 ≤ lv i ∧ lv i ≤ 1000000) (rbk : 0 ≤ pBk ∧ pBk ≤ 1000000) (rlp : 0 ≤ pLp ∧ pLp ≤ 10) (rwi : 0 ≤ pWi ∧ pWi ≤ 1000) (rhp : 0 ≤ pHp ∧ pHp ≤ 9) (rhi : 0 ≤ pHi ∧ pHi ≤ 100000) (rzR : 0 ≤ zR ∧ zR ≤ 20) (hla : (0 < zR ∧ cs (zR - 1).toNat = some q) ∨ (zR = 0 ∧ q = x + 17)) (rqL : 0 ≤ qL ∧ qL ≤ 60) (rft : (0 ≤ qF + qG ∧ qF + qG ≤ 1000) ∧ bs.length ≤ 60) (hbs : ∀ i : Nat, i < bs.length → ed i = slE bs i) (hbe : ∀ i : Nat, -1000000 ≤ slE bs i ∧ slE bs i ≤ 1000000) (htra : tr = x + 33 ∨ x + 47 ≤ tr) (hqa : q = x + 17 ∨ q = x + 33 ∨ x + 47 ≤ q) (hqt : q + 3 ≤ tr ∨ tr + 3 ≤ q) (hb : (20 ≤ fl ∧ fl ≤ 60) ∧ (0 ≤ what ∧ what ≤ 1)) (hop : zR < 20 ∧ qF + qG < pHi ∧ fl ≤ qL) (hly : layC nH.toNat ln br pWi pHp pBk fl lv (qF + qG) bs = some sl0) : g_Cs l yX8_tried wsX8_tried { frames := 6, cells := 0, slots := 0, locals := 136 } g [.ref x, .int (iI fl), .int (iI what)] n S (fun vr n1 S1 => ∃ r9 : Nat → Int, ∃ h9 : Nat → Int, ∃ e9 : Nat → Int, vr = some (.int (iI (if what = 0 then (sl0.length : Int) else wst br fl sl0))) ∧ n = n1 ∧ S1 (x + 13) = oI g 8 r9 ∧ S1 tr = oO 3 [.ref (tr + 1), .ref (tr + 2), .int (iI fl), .int (iI (qF + qG)), .int (iI ((fl - pLp) / 2)), .int (iI (rmF pWi pHp (qF + qG))), .int (iI (sl0.length : Int)), .int (iI (wst br fl sl0)), .int (iI (cuts br sl0))] ∧ S1 (tr + 1) = oI g 60 h9 ∧ S1 (tr + 2) = oI g 60 e9 ∧ (∀ i : Nat, i < sl0.length → h9 i = slH sl0 i) ∧ (∀ i : Nat, i < sl0.length → e9 i = slE sl0 i) ∧ (∀ bb, bb ≠ (x + 13) → bb ≠ tr → bb ≠ (tr + 1) → bb ≠ (tr + 2) → S1 bb = S bb)) 0 0 := by
  refine g_Cs.of (cc := cX8_tried) (maxL := 3) (ret := (some .int)) (by decide) rfl (Nat.le_of_ble_eq_true rfl) ?_
  intro pp ee s m below meth cK Q H locs ls hc hnm hw hl hret
  have hl : lv_has ls 3 [(0, .ref x), (1, .int (iI fl)), (2, .int (iI what))] := hl
  have hiX8 : ∀ w ∈ u_ws RX8 TX8 8, w ∈ wsX8_tried := by decide +kernel
  have hiX3 : ∀ w ∈ u_ws RX3 TX3 9, w ∈ wsX8_tried := by decide +kernel
  have lk61 : Cond.fieldLink RX8 61 "RoofCourses" "trial" "LRoofCourses$Course;" ∈ wsX8_tried := by decide +kernel
  have lk179 : Cond.fieldLink RX8 179 "RoofCourses$Course" "waste" "I" ∈ wsX8_tried := by decide +kernel
  have lk123 : Cond.fieldLink RX8 123 "RoofCourses$Course" "size" "I" ∈ wsX8_tried := by decide +kernel
  refine lv_iload_n hc.1 hc.2.1 dX8_tried_0 rfl (lv_at hl 1 rfl) ?_
  refine nn_bipush hc dX8_tried_1 (by decide +kernel) ?_
  refine nn_bipush hc dX8_tried_3 (by decide +kernel) ?_
  refine nn_Sp (As := [.int (iI fl), .int (iI 20), .int (iI 60)]) (st := []) hc hw (c_X8_isWithin l g   (by omega) (by omega) (by omega)) (va_cwS 3 hc.2.2.2.2 gX8_tried_X8_isWithin rfl rfl rfl (by decide +kernel) ⟨Nat.le_of_ble_eq_true rfl, Nat.le_of_ble_eq_true rfl⟩) rfl hl.1 rfl (Nat.le_of_ble_eq_true rfl) ⟨Nat.le_of_ble_eq_true rfl, Nat.le_of_ble_eq_true rfl⟩ dX8_tried_5 ?_
  refine W.eq (g2 := F0 m 8 ls [.int (iI (if 20 ≤ fl ∧ fl ≤ 60 then 1 else 0))]) rfl ?_
  refine nn_if_eq hc dX8_tried_8 (tgt := 20) (by decide) (by omega) (fun c1 => ?_) (fun c1 => ?_)
  · exfalso; omega
  · refine lv_iload_n hc.1 hc.2.1 dX8_tried_11 rfl (lv_at hl 2 rfl) ?_
    refine nn_iconst hc dX8_tried_12 ?_
    refine nn_iconst hc dX8_tried_13 ?_
    refine nn_Sp (As := [.int (iI what), .int (iI 0), .int (iI 1)]) (st := []) hc hw (c_X8_isWithin l g   (by omega) (by omega) (by omega)) (va_cwS 3 hc.2.2.2.2 gX8_tried_X8_isWithin rfl rfl rfl (by decide +kernel) ⟨Nat.le_of_ble_eq_true rfl, Nat.le_of_ble_eq_true rfl⟩) rfl hl.1 rfl (Nat.le_of_ble_eq_true rfl) ⟨Nat.le_of_ble_eq_true rfl, Nat.le_of_ble_eq_true rfl⟩ dX8_tried_14 ?_
    refine W.eq (g2 := F0 m 17 ls [.int (iI (if 0 ≤ what ∧ what ≤ 1 then 1 else 0))]) rfl ?_
    refine nn_if_ne hc dX8_tried_17 (tgt := 22) (by decide) (by omega) (fun c2 => ?_) (fun c2 => ?_)
    · refine lv_aload_n hc.1 hc.2.1 dX8_tried_22 rfl (lv_at hl 0 rfl) ?_
      refine lv_iload_n hc.1 hc.2.1 dX8_tried_23 rfl (lv_at hl 1 rfl) ?_
      refine nn_Vs (As := [.int (iI fl)]) (st := []) hc hw hx rfl (c_K_fillTrial_yes l g  hx hp hln hbr hy hrs ho hlv hcs htr0 htr1 htr2 hq0 hq2 (rH) (rP) (rV) (rbk) (rlp) (rwi) (rhp) (rhi) (rzR) (hla) (rqL) (rft) (hbs) (hbe) (htra) (hqa) (hqt) (by omega) (hop) (hly)) (cwV 1 hc.2.2.2.2 gX8_tried_X8_fillTrial rfl rfl rfl (by decide +kernel) ⟨Nat.le_of_ble_eq_true rfl, Nat.le_of_ble_eq_true rfl⟩) rfl hl.1 rfl (Nat.le_of_ble_eq_true rfl) ⟨Nat.le_of_ble_eq_true rfl, Nat.le_of_ble_eq_true rfl⟩ dX8_tried_24 (fun vr n1 S3 H locs qS3 hw => ?_)
      obtain ⟨r9_4, h9_5, e9_6, rfl, rfl, hS3_0, hS3_1, hS3_2, hS3_3, kS3_0, kS3_1, fS3⟩ := qS3
      refine W.eq (g2 := F0 m 27 ls [.int (iI 1)]) rfl ?_
      refine nn_if_ne hc dX8_tried_27 (tgt := 33) (by decide) (by decide) (fun c7 => ?_) (fun c7 => ?_)
      · refine lv_iload_n hc.1 hc.2.1 dX8_tried_33 rfl (lv_at hl 2 rfl) ?_
        refine nn_if_ne hc dX8_tried_34 (tgt := 47) (by decide) (by omega) (fun c8 => ?_) (fun c8 => ?_)
        · refine lv_aload_n hc.1 hc.2.1 dX8_tried_47 rfl (lv_at hl 0 rfl) ?_
          have e9 : S3 x = oO 8 [.ref (x + 1), .ref (x + 4), .ref (x + 8), .ref (x + 12), .ref (x + 14), .ref (x + 20), .ref (x + 31), .ref tr] := (fS3 x (off_nl (x := x) (a := 13) (by decide)) (by omega) (by omega) (by omega)).trans hx
          refine nn_get hc hw e9 hiX8 rfl 7 (by decide) rfl lk61 dX8_tried_48 ?_
          refine nn_get hc hw hS3_1 hiX3 rfl 7 (by decide) rfl lk179 dX8_tried_51 ?_
          exact hret (some (.int (iI (wst br fl sl0)))) _ S3 _ _ _ _ hw (⟨_, _, _, (by first | (rw [if_pos (show what = 0 by omega)]) | (rw [if_neg (show ¬ what = 0 by omega)])), rfl, hS3_0, hS3_1, hS3_2, hS3_3, kS3_0, kS3_1, fun bb hb0 hb1 hb2 hb3 => (fS3 bb hb0 hb1 hb2 hb3)⟩) ⟨_, rfl, rfl, dX8_tried_54⟩
        · refine lv_aload_n hc.1 hc.2.1 dX8_tried_37 rfl (lv_at hl 0 rfl) ?_
          have e10 : S3 x = oO 8 [.ref (x + 1), .ref (x + 4), .ref (x + 8), .ref (x + 12), .ref (x + 14), .ref (x + 20), .ref (x + 31), .ref tr] := (fS3 x (off_nl (x := x) (a := 13) (by decide)) (by omega) (by omega) (by omega)).trans hx
          refine nn_get hc hw e10 hiX8 rfl 7 (by decide) rfl lk61 dX8_tried_38 ?_
          refine nn_get hc hw hS3_1 hiX3 rfl 6 (by decide) rfl lk123 dX8_tried_41 ?_
          refine lv_goto hc.1 hc.2.1 dX8_tried_44 (tgt := 54) (by decide) ?_
          exact hret (some (.int (iI (sl0.length : Int)))) _ S3 _ _ _ _ hw (⟨_, _, _, (by first | (rw [if_pos (show what = 0 by omega)]) | (rw [if_neg (show ¬ what = 0 by omega)])), rfl, hS3_0, hS3_1, hS3_2, hS3_3, kS3_0, kS3_1, fun bb hb0 hb1 hb2 hb3 => (fS3 bb hb0 hb1 hb2 hb3)⟩) ⟨_, rfl, rfl, dX8_tried_54⟩
      · exact absurd c7 (by decide)
    · exfalso; omega

set_option maxHeartbeats 4000000 in
set_option maxRecDepth 100000 in
theorem c_K_next_bad (l : Launch) (g : gG) {n : Nat} {S : Nat → gE} {x tr : Nat} {how : Int} (hx : S x = oO 8 [.ref (x + 1), .ref (x + 4), .ref (x + 8), .ref (x + 12), .ref (x + 14), .ref (x + 20), .ref (x + 31), .ref tr]) (r_how : -2147483648 ≤ how ∧ how < 2147483648) (hb : ¬ (0 ≤ how ∧ how ≤ 1)) : g_Cs l yX8_next wsX8_next { frames := 1, cells := 0, slots := 0, locals := 22 } g [.ref x, .int (iI how)] n S (fun vr n1 S1 => vr = some (.int (iI (-1))) ∧ n = n1 ∧ S = S1) 0 0 := by
  refine g_Cs.of (cc := cX8_next) (maxL := 2) (ret := (some .int)) (by decide) rfl (Nat.le_of_ble_eq_true rfl) ?_
  intro pp ee s m below meth cK Q H locs ls hc hnm hw hl hret
  have hl : lv_has ls 2 [(0, .ref x), (1, .int (iI how))] := hl
  refine lv_iload_n hc.1 hc.2.1 dX8_next_0 rfl (lv_at hl 1 rfl) ?_
  refine nn_iconst hc dX8_next_1 ?_
  refine nn_iconst hc dX8_next_2 ?_
  refine nn_Sp (As := [.int (iI how), .int (iI 0), .int (iI 1)]) (st := []) hc hw (c_X8_isWithin l g   (by omega) (by omega) (by omega)) (va_cwS 3 hc.2.2.2.2 gX8_next_X8_isWithin rfl rfl rfl (by decide +kernel) ⟨Nat.le_of_ble_eq_true rfl, Nat.le_of_ble_eq_true rfl⟩) rfl hl.1 rfl (Nat.le_of_ble_eq_true rfl) ⟨Nat.le_of_ble_eq_true rfl, Nat.le_of_ble_eq_true rfl⟩ dX8_next_3 ?_
  refine W.eq (g2 := F0 m 6 ls [.int (iI (if 0 ≤ how ∧ how ≤ 1 then 1 else 0))]) rfl ?_
  refine nn_if_ne hc dX8_next_6 (tgt := 11) (by decide) (by omega) (fun c1 => ?_) (fun c1 => ?_)
  · exfalso; omega
  · refine nn_iconst hc dX8_next_9 ?_
    exact hret (some (.int (iI (-1)))) _ S _ _ _ _ hw (⟨rfl, rfl, rfl⟩) ⟨_, rfl, rfl, dX8_next_10⟩

set_option maxHeartbeats 4000000 in
set_option maxRecDepth 100000 in
theorem c_K_next_shut (l : Launch) (g : gG) {n : Nat} {S : Nat → gE} {x tr q : Nat} {nH pHi pWi pLp pBk pHp : Int} {br : Nat → Int} {zR : Int} {cs : Nat → Option Nat} {qL qF qG qR : Int} {ed : Nat → Int} {bs : sL} {how : Int} (hx : S x = oO 8 [.ref (x + 1), .ref (x + 4), .ref (x + 8), .ref (x + 12), .ref (x + 14), .ref (x + 20), .ref (x + 31), .ref tr]) (hp : S (x + 4) = oO 5 [.ref (x + 5), .ref (x + 6), .ref (x + 7), .int (iI nH), .int (iI pHi), .int (iI pWi), .int (iI pLp), .int (iI pBk), .int (iI pHp)]) (ho : S (x + 14) = oO 6 [.ref (x + 4), .ref (x + 15), .ref (x + 16), .ref (x + 17), .int (iI zR)]) (hcs : S (x + 16) = oR g 2 20 cs) (hq0 : S q = oO 3 [.ref (q + 1), .ref (q + 2), .int (iI qL), .int (iI qF), .int (iI qG), .int (iI qR), .int (iI (bs.length : Int)), .int (iI (wst br qL bs)), .int (iI (cuts br bs))]) (hq2 : S (q + 2) = oI g 60 ed) (rzR : 0 ≤ zR ∧ zR ≤ 20) (hla : (0 < zR ∧ cs (zR - 1).toNat = some q) ∨ (zR = 0 ∧ q = x + 17)) (rqL : 0 ≤ qL ∧ qL ≤ 60) (rft : (0 ≤ qF + qG ∧ qF + qG ≤ 1000) ∧ bs.length ≤ 60) (hbs : ∀ i : Nat, i < bs.length → ed i = slE bs i) (hbe : ∀ i : Nat, -1000000 ≤ slE bs i ∧ slE bs i ≤ 1000000) (rhi : 0 ≤ pHi ∧ pHi ≤ 100000) (hb : 0 ≤ how ∧ how ≤ 1) (hop : ¬ (zR < 20 ∧ qF + qG < pHi)) : g_Cs l yX8_next wsX8_next { frames := 3, cells := 0, slots := 0, locals := 61 } g [.ref x, .int (iI how)] n S (fun vr n1 S1 => vr = some (.int (iI (-4))) ∧ n = n1 ∧ S = S1) 0 0 := by
  refine g_Cs.of (cc := cX8_next) (maxL := 2) (ret := (some .int)) (by decide) rfl (Nat.le_of_ble_eq_true rfl) ?_
  intro pp ee s m below meth cK Q H locs ls hc hnm hw hl hret
  have hl : lv_has ls 2 [(0, .ref x), (1, .int (iI how))] := hl
  have hiX8 : ∀ w ∈ u_ws RX8 TX8 8, w ∈ wsX8_next := by decide +kernel
  have lk38 : Cond.fieldLink RX8 38 "RoofCourses" "roof" "LRoofCourses$Roof;" ∈ wsX8_next := by decide +kernel
  refine lv_iload_n hc.1 hc.2.1 dX8_next_0 rfl (lv_at hl 1 rfl) ?_
  refine nn_iconst hc dX8_next_1 ?_
  refine nn_iconst hc dX8_next_2 ?_
  refine nn_Sp (As := [.int (iI how), .int (iI 0), .int (iI 1)]) (st := []) hc hw (c_X8_isWithin l g   (by omega) (by omega) (by omega)) (va_cwS 3 hc.2.2.2.2 gX8_next_X8_isWithin rfl rfl rfl (by decide +kernel) ⟨Nat.le_of_ble_eq_true rfl, Nat.le_of_ble_eq_true rfl⟩) rfl hl.1 rfl (Nat.le_of_ble_eq_true rfl) ⟨Nat.le_of_ble_eq_true rfl, Nat.le_of_ble_eq_true rfl⟩ dX8_next_3 ?_
  refine W.eq (g2 := F0 m 6 ls [.int (iI (if 0 ≤ how ∧ how ≤ 1 then 1 else 0))]) rfl ?_
  refine nn_if_ne hc dX8_next_6 (tgt := 11) (by decide) (by omega) (fun c1 => ?_) (fun c1 => ?_)
  · refine lv_aload_n hc.1 hc.2.1 dX8_next_11 rfl (lv_at hl 0 rfl) ?_
    refine nn_get hc hw hx hiX8 rfl 4 (by decide) rfl lk38 dX8_next_12 ?_
    refine nn_Vp (As := []) (st := []) hc hw ho rfl (c_X6_isOpen_b l g  ho hcs hp hq0 (by omega) (hla) (by omega) (by omega)) (cwV 0 hc.2.2.2.2 gX8_next_X6_isOpen rfl rfl rfl (by decide +kernel) ⟨Nat.le_of_ble_eq_true rfl, Nat.le_of_ble_eq_true rfl⟩) rfl hl.1 rfl (Nat.le_of_ble_eq_true rfl) ⟨Nat.le_of_ble_eq_true rfl, Nat.le_of_ble_eq_true rfl⟩ dX8_next_15 ?_
    refine W.eq (g2 := F0 m 18 ls [.int (iI (if zR < 20 ∧ qF + qG < pHi then 1 else 0))]) rfl ?_
    refine nn_if_eq hc dX8_next_18 (tgt := 46) (by decide) (by omega) (fun c2 => ?_) (fun c2 => ?_)
    · refine nn_bipush hc dX8_next_46 (by decide +kernel) ?_
      exact hret (some (.int (iI (-4)))) _ S _ _ _ _ hw (⟨rfl, rfl, rfl⟩) ⟨_, rfl, rfl, dX8_next_48⟩
    · exfalso; omega
  · exfalso; omega

set_option maxHeartbeats 4000000 in
set_option maxRecDepth 100000 in
theorem c_K_next_ok (l : Launch) (g : gG) {n : Nat} {S : Nat → gE} {x tr q : Nat} {nH pHi pWi pLp pBk pHp : Int} {ln br : Nat → Int} {rest lv : Nat → Int} {zR : Int} {cs : Nat → Option Nat} {mo wa re : Int} {t1 t2 t3 t4 t5 t6 t7 : Int} {tf te : Nat → Int} {qL qF qG qR : Int} {ed : Nat → Int} {bs : sL} {how : Int} (hx : S x = oO 8 [.ref (x + 1), .ref (x + 4), .ref (x + 8), .ref (x + 12), .ref (x + 14), .ref (x + 20), .ref (x + 31), .ref tr]) (hp : S (x + 4) = oO 5 [.ref (x + 5), .ref (x + 6), .ref (x + 7), .int (iI nH), .int (iI pHi), .int (iI pWi), .int (iI pLp), .int (iI pBk), .int (iI pHp)]) (hln : S (x + 5) = oI g 8 ln) (hbr : S (x + 6) = oI g 8 br) (hy : S (x + 12) = oO 4 [.ref (x + 4), .ref (x + 13)]) (hrs : S (x + 13) = oI g 8 rest) (ho : S (x + 14) = oO 6 [.ref (x + 4), .ref (x + 15), .ref (x + 16), .ref (x + 17), .int (iI zR)]) (hlv : S (x + 15) = oI g 8 lv) (hcs : S (x + 16) = oR g 2 20 cs) (hu : S (x + 20) = oO 0 [.ref (x + 4), .ref (x + 12), .ref (x + 14), .ref (x + 21), .ref (x + 22), .ref (x + 25), .ref (x + 28), .int (iI mo), .int (iI wa), .int (iI re)]) (hu2 : S (x + 22) = oO 3 [.ref (x + 22 + 1), .ref (x + 22 + 2), .int (iI t1), .int (iI t2), .int (iI t3), .int (iI t4), .int (iI t5), .int (iI t6), .int (iI t7)]) (hu3 : S (x + 23) = oI g 60 tf) (hu4 : S (x + 24) = oI g 60 te) (hq0 : S q = oO 3 [.ref (q + 1), .ref (q + 2), .int (iI qL), .int (iI qF), .int (iI qG), .int (iI qR), .int (iI (bs.length : Int)), .int (iI (wst br qL bs)), .int (iI (cuts br bs))]) (hq2 : S (q + 2) = oI g 60 ed) (rH : 0 ≤ nH ∧ nH ≤ 8) (rP : ∀ i : Nat, (i : Int) < nH → (20 ≤ ln i ∧ ln i ≤ 60) ∧ (10 ≤ br i ∧ br i ≤ 60)) (rV : ∀ i : Nat, (i : Int) < nH → 0 ≤ lv i ∧ lv i ≤ 1000000) (rbk : 0 ≤ pBk ∧ pBk ≤ 1000000) (rlp : 0 ≤ pLp ∧ pLp ≤ 10) (rwi : 0 ≤ pWi ∧ pWi ≤ 1000) (rhp : 0 ≤ pHp ∧ pHp ≤ 9) (rhi : 0 ≤ pHi ∧ pHi ≤ 100000) (rzR : 0 ≤ zR ∧ zR ≤ 20) (hla : (0 < zR ∧ cs (zR - 1).toNat = some q) ∨ (zR = 0 ∧ q = x + 17)) (rqL : 0 ≤ qL ∧ qL ≤ 60) (rft : (0 ≤ qF + qG ∧ qF + qG ≤ 1000) ∧ bs.length ≤ 60) (hbs : ∀ i : Nat, i < bs.length → ed i = slE bs i) (hbe : ∀ i : Nat, -1000000 ≤ slE bs i ∧ slE bs i ≤ 1000000) (hqa : q = x + 17 ∨ q = x + 33 ∨ x + 47 ≤ q) (hb : 0 ≤ how ∧ how ≤ 1) (hop : zR < 20 ∧ qF + qG < pHi) : g_Cs l yX8_next wsX8_next { frames := 6, cells := 0, slots := 0, locals := 143 } g [.ref x, .int (iI how)] n S (fun vr n1 S1 => vr = some (.int (iI (chL nH.toNat ln br pLp pWi pHp pBk how lv qL (qF + qG) bs))) ∧ n = n1 ∧ gbc g S1 (x + 22) ∧ (∃ f : Nat → Int, S1 (x + 13) = oI g 8 f) ∧ (∀ bb, bb ≠ (x + 13) → bb ≠ (x + 22) → bb ≠ (x + 23) → bb ≠ (x + 24) → S1 bb = S bb)) 0 0 := by
  refine g_Cs.of (cc := cX8_next) (maxL := 2) (ret := (some .int)) (by decide) rfl (Nat.le_of_ble_eq_true rfl) ?_
  intro pp ee s m below meth cK Q H locs ls hc hnm hw hl hret
  have hl : lv_has ls 2 [(0, .ref x), (1, .int (iI how))] := hl
  have hiX8 : ∀ w ∈ u_ws RX8 TX8 8, w ∈ wsX8_next := by decide +kernel
  have hiX6 : ∀ w ∈ u_ws RX6 TX6 5, w ∈ wsX8_next := by decide +kernel
  have lk38 : Cond.fieldLink RX8 38 "RoofCourses" "roof" "LRoofCourses$Roof;" ∈ wsX8_next := by decide +kernel
  have lk47 : Cond.fieldLink RX8 47 "RoofCourses" "ahead" "LRoofCourses$Ahead;" ∈ wsX8_next := by decide +kernel
  have lk132 : Cond.fieldLink RX8 132 "RoofCourses$Roof" "left" "[I" ∈ wsX8_next := by decide +kernel
  refine lv_iload_n hc.1 hc.2.1 dX8_next_0 rfl (lv_at hl 1 rfl) ?_
  refine nn_iconst hc dX8_next_1 ?_
  refine nn_iconst hc dX8_next_2 ?_
  refine nn_Sp (As := [.int (iI how), .int (iI 0), .int (iI 1)]) (st := []) hc hw (c_X8_isWithin l g   (by omega) (by omega) (by omega)) (va_cwS 3 hc.2.2.2.2 gX8_next_X8_isWithin rfl rfl rfl (by decide +kernel) ⟨Nat.le_of_ble_eq_true rfl, Nat.le_of_ble_eq_true rfl⟩) rfl hl.1 rfl (Nat.le_of_ble_eq_true rfl) ⟨Nat.le_of_ble_eq_true rfl, Nat.le_of_ble_eq_true rfl⟩ dX8_next_3 ?_
  refine W.eq (g2 := F0 m 6 ls [.int (iI (if 0 ≤ how ∧ how ≤ 1 then 1 else 0))]) rfl ?_
  refine nn_if_ne hc dX8_next_6 (tgt := 11) (by decide) (by omega) (fun c1 => ?_) (fun c1 => ?_)
  · refine lv_aload_n hc.1 hc.2.1 dX8_next_11 rfl (lv_at hl 0 rfl) ?_
    refine nn_get hc hw hx hiX8 rfl 4 (by decide) rfl lk38 dX8_next_12 ?_
    refine nn_Vp (As := []) (st := []) hc hw ho rfl (c_X6_isOpen_b l g  ho hcs hp hq0 (by omega) (hla) (by omega) (by omega)) (cwV 0 hc.2.2.2.2 gX8_next_X6_isOpen rfl rfl rfl (by decide +kernel) ⟨Nat.le_of_ble_eq_true rfl, Nat.le_of_ble_eq_true rfl⟩) rfl hl.1 rfl (Nat.le_of_ble_eq_true rfl) ⟨Nat.le_of_ble_eq_true rfl, Nat.le_of_ble_eq_true rfl⟩ dX8_next_15 ?_
    refine W.eq (g2 := F0 m 18 ls [.int (iI (if zR < 20 ∧ qF + qG < pHi then 1 else 0))]) rfl ?_
    refine nn_if_eq hc dX8_next_18 (tgt := 46) (by decide) (by omega) (fun c2 => ?_) (fun c2 => ?_)
    · exfalso; omega
    · refine lv_aload_n hc.1 hc.2.1 dX8_next_21 rfl (lv_at hl 0 rfl) ?_
      refine nn_get hc hw hx hiX8 rfl 5 (by decide) rfl lk47 dX8_next_22 ?_
      refine lv_iload_n hc.1 hc.2.1 dX8_next_25 rfl (lv_at hl 1 rfl) ?_
      refine lv_aload_n hc.1 hc.2.1 dX8_next_26 rfl (lv_at hl 0 rfl) ?_
      refine nn_get hc hw hx hiX8 rfl 4 (by decide) rfl lk38 dX8_next_27 ?_
      refine nn_get hc hw ho hiX6 rfl 1 (by decide) rfl lk132 dX8_next_30 ?_
      refine lv_aload_n hc.1 hc.2.1 dX8_next_33 rfl (lv_at hl 0 rfl) ?_
      refine nn_get hc hw hx hiX8 rfl 4 (by decide) rfl lk38 dX8_next_34 ?_
      refine nn_Vp (As := []) (st := [.ref (x + 15), .int (iI how), .ref (x + 20)]) hc hw ho rfl (c_X6_last l g  ho hcs (by omega) (hla)) (cwV 0 hc.2.2.2.2 gX8_next_X6_last rfl rfl rfl (by decide +kernel) ⟨Nat.le_of_ble_eq_true rfl, Nat.le_of_ble_eq_true rfl⟩) rfl hl.1 rfl (Nat.le_of_ble_eq_true rfl) ⟨Nat.le_of_ble_eq_true rfl, Nat.le_of_ble_eq_true rfl⟩ dX8_next_37 ?_
      refine W.eq (g2 := F0 m 40 ls [.ref q, .ref (x + 15), .int (iI how), .ref (x + 20)]) rfl ?_
      refine nn_Vs (As := [.int (iI how), .ref (x + 15), .ref q]) (st := []) hc hw hu rfl (c_X0_choose l g (bs := bs) hu hy hp hln hbr hrs hu2 hu3 hu4 hq0 hq2 hlv (by omega) (rP) (rV) (by omega) (by omega) (by omega) (by omega) (by omega) (by omega) (by omega) (⟨rfl, rft.2, hbs⟩) (hbe) (by unfold apA; omega)) (cwV 3 hc.2.2.2.2 gX8_next_X0_choose rfl rfl rfl (by decide +kernel) ⟨Nat.le_of_ble_eq_true rfl, Nat.le_of_ble_eq_true rfl⟩) rfl hl.1 rfl (Nat.le_of_ble_eq_true rfl) ⟨Nat.le_of_ble_eq_true rfl, Nat.le_of_ble_eq_true rfl⟩ dX8_next_40 (fun vr n1 S3 H locs qS3 hw => ?_)
      obtain ⟨r1_4, p1_5, p2_6, p3_7, p4_8, p5_9, p6_10, p7_11, h1_12, e1_13, rfl, rfl, hS3_0, hS3_1, hS3_2, hS3_3, fS3⟩ := qS3
      refine W.eq (g2 := F0 m 43 ls [.int (iI (chL nH.toNat ln br pLp pWi pHp pBk how lv qL (qF + qG) bs))]) rfl ?_
      refine lv_goto hc.1 hc.2.1 dX8_next_43 (tgt := 48) (by decide) ?_
      exact hret (some (.int (iI (chL nH.toNat ln br pLp pWi pHp pBk how lv qL (qF + qG) bs)))) _ S3 _ _ _ _ hw (⟨rfl, rfl, ⟨_, _, _, _, _, _, _, _, _, hS3_1, hS3_2, hS3_3⟩, ⟨_, hS3_0⟩, fun bb hb0 hb1 hb2 hb3 => (fS3 bb hb0 hb1 hb2 hb3)⟩) ⟨_, rfl, rfl, dX8_next_48⟩
  · exfalso; omega

set_option maxHeartbeats 4000000 in
set_option maxRecDepth 100000 in
theorem c_K_itself_bad (l : Launch) (g : gG) {n : Nat} {S : Nat → gE} {x tr : Nat} {how what : Int} (hx : S x = oO 8 [.ref (x + 1), .ref (x + 4), .ref (x + 8), .ref (x + 12), .ref (x + 14), .ref (x + 20), .ref (x + 31), .ref tr]) (r_how : -2147483648 ≤ how ∧ how < 2147483648) (r_what : -2147483648 ≤ what ∧ what < 2147483648) (hb : ¬ ((0 ≤ how ∧ how ≤ 1) ∧ (0 ≤ what ∧ what ≤ 2))) : g_Cs l yX8_itself wsX8_itself { frames := 1, cells := 0, slots := 0, locals := 22 } g [.ref x, .int (iI how), .int (iI what)] n S (fun vr n1 S1 => vr = some (.int (iI (-1))) ∧ n = n1 ∧ S = S1) 0 0 := by
  refine g_Cs.of (cc := cX8_itself) (maxL := 3) (ret := (some .int)) (by decide) rfl (Nat.le_of_ble_eq_true rfl) ?_
  intro pp ee s m below meth cK Q H locs ls hc hnm hw hl hret
  have hl : lv_has ls 3 [(0, .ref x), (1, .int (iI how)), (2, .int (iI what))] := hl
  refine lv_iload_n hc.1 hc.2.1 dX8_itself_0 rfl (lv_at hl 1 rfl) ?_
  refine nn_iconst hc dX8_itself_1 ?_
  refine nn_iconst hc dX8_itself_2 ?_
  refine nn_Sp (As := [.int (iI how), .int (iI 0), .int (iI 1)]) (st := []) hc hw (c_X8_isWithin l g   (by omega) (by omega) (by omega)) (va_cwS 3 hc.2.2.2.2 gX8_itself_X8_isWithin rfl rfl rfl (by decide +kernel) ⟨Nat.le_of_ble_eq_true rfl, Nat.le_of_ble_eq_true rfl⟩) rfl hl.1 rfl (Nat.le_of_ble_eq_true rfl) ⟨Nat.le_of_ble_eq_true rfl, Nat.le_of_ble_eq_true rfl⟩ dX8_itself_3 ?_
  refine W.eq (g2 := F0 m 6 ls [.int (iI (if 0 ≤ how ∧ how ≤ 1 then 1 else 0))]) rfl ?_
  refine nn_if_eq hc dX8_itself_6 (tgt := 18) (by decide) (by omega) (fun c1 => ?_) (fun c1 => ?_)
  · refine nn_iconst hc dX8_itself_18 ?_
    exact hret (some (.int (iI (-1)))) _ S _ _ _ _ hw (⟨rfl, rfl, rfl⟩) ⟨_, rfl, rfl, dX8_itself_19⟩
  · refine lv_iload_n hc.1 hc.2.1 dX8_itself_9 rfl (lv_at hl 2 rfl) ?_
    refine nn_iconst hc dX8_itself_10 ?_
    refine nn_iconst hc dX8_itself_11 ?_
    refine nn_Sp (As := [.int (iI what), .int (iI 0), .int (iI 2)]) (st := []) hc hw (c_X8_isWithin l g   (by omega) (by omega) (by omega)) (va_cwS 3 hc.2.2.2.2 gX8_itself_X8_isWithin rfl rfl rfl (by decide +kernel) ⟨Nat.le_of_ble_eq_true rfl, Nat.le_of_ble_eq_true rfl⟩) rfl hl.1 rfl (Nat.le_of_ble_eq_true rfl) ⟨Nat.le_of_ble_eq_true rfl, Nat.le_of_ble_eq_true rfl⟩ dX8_itself_12 ?_
    refine W.eq (g2 := F0 m 15 ls [.int (iI (if 0 ≤ what ∧ what ≤ 2 then 1 else 0))]) rfl ?_
    refine nn_if_ne hc dX8_itself_15 (tgt := 20) (by decide) (by omega) (fun c2 => ?_) (fun c2 => ?_)
    · exfalso; omega
    · refine nn_iconst hc dX8_itself_18 ?_
      exact hret (some (.int (iI (-1)))) _ S _ _ _ _ hw (⟨rfl, rfl, rfl⟩) ⟨_, rfl, rfl, dX8_itself_19⟩

set_option maxHeartbeats 4000000 in
set_option maxRecDepth 100000 in
theorem c_K_itself_ok (l : Launch) (g : gG) {n : Nat} {S : Nat → gE} {x tr q : Nat} {nH pHi pWi pLp pBk pHp : Int} {ln br : Nat → Int} {lv ul : Nat → Int} {zR : Int} {cs : Nat → Option Nat} {mo wa re : Int} {qL qF qG qR : Int} {bs : sL} {how what : Int} (hx : S x = oO 8 [.ref (x + 1), .ref (x + 4), .ref (x + 8), .ref (x + 12), .ref (x + 14), .ref (x + 20), .ref (x + 31), .ref tr]) (hp : S (x + 4) = oO 5 [.ref (x + 5), .ref (x + 6), .ref (x + 7), .int (iI nH), .int (iI pHi), .int (iI pWi), .int (iI pLp), .int (iI pBk), .int (iI pHp)]) (hln : S (x + 5) = oI g 8 ln) (hbr : S (x + 6) = oI g 8 br) (hy : S (x + 12) = oO 4 [.ref (x + 4), .ref (x + 13)]) (ho : S (x + 14) = oO 6 [.ref (x + 4), .ref (x + 15), .ref (x + 16), .ref (x + 17), .int (iI zR)]) (hlv : S (x + 15) = oI g 8 lv) (hcs : S (x + 16) = oR g 2 20 cs) (hu : S (x + 20) = oO 0 [.ref (x + 4), .ref (x + 12), .ref (x + 14), .ref (x + 21), .ref (x + 22), .ref (x + 25), .ref (x + 28), .int (iI mo), .int (iI wa), .int (iI re)]) (hul : S (x + 21) = oI g 8 ul) (rH : 0 ≤ nH ∧ nH ≤ 8) (rP : ∀ i : Nat, (i : Int) < nH → (20 ≤ ln i ∧ ln i ≤ 60) ∧ (10 ≤ br i ∧ br i ≤ 60)) (rV : ∀ i : Nat, (i : Int) < nH → 0 ≤ lv i ∧ lv i ≤ 1000000) (rbk : 0 ≤ pBk ∧ pBk ≤ 1000000) (rlp : 0 ≤ pLp ∧ pLp ≤ 10) (rwi : 0 ≤ pWi ∧ pWi ≤ 1000) (rhp : 0 ≤ pHp ∧ pHp ≤ 9) (rhi : 0 ≤ pHi ∧ pHi ≤ 100000) (rzR : 0 ≤ zR ∧ zR ≤ 20) (hla : (0 < zR ∧ cs (zR - 1).toNat = some q) ∨ (zR = 0 ∧ q = x + 17)) (rqL : 0 ≤ qL ∧ qL ≤ 60) (rft : (0 ≤ qF + qG ∧ qF + qG ≤ 30 * zR) ∧ bs.length ≤ 60) (hbe : ∀ i : Nat, -1000000 ≤ slE bs i ∧ slE bs i ≤ 1000000) (hqc : crs g S q qL qF qG qR br bs) (hp0 : gbc g S (x + 22)) (he0 : gbc g S (x + 25)) (hd0 : gbc g S (x + 28)) (hr0 : ∃ f : Nat → Int, S (x + 13) = oI g 8 f) (hqa : q = x + 17 ∨ q = x + 33 ∨ x + 47 ≤ q) (hb : (0 ≤ how ∧ how ≤ 1) ∧ (0 ≤ what ∧ what ≤ 2)) : g_Cs l yX8_itself wsX8_itself { frames := 7, cells := 0, slots := 0, locals := 168 } g [.ref x, .int (iI how), .int (iI what)] n S (fun vr n1 S1 => vr = some (.int (iI (aIts pHi (goG nH.toNat ln br pHi pLp pWi pHp pBk how (20 - zR).toNat lv qL (qF + qG) bs) what))) ∧ n = n1 ∧ (∃ a b c : Int, S1 (x + 20) = oO 0 [.ref (x + 4), .ref (x + 12), .ref (x + 14), .ref (x + 21), .ref (x + 22), .ref (x + 25), .ref (x + 28), .int (iI a), .int (iI b), .int (iI c)]) ∧ gbc g S1 (x + 22) ∧ gbc g S1 (x + 25) ∧ gbc g S1 (x + 28) ∧ (∃ f : Nat → Int, S1 (x + 13) = oI g 8 f) ∧ (∃ f : Nat → Int, S1 (x + 21) = oI g 8 f) ∧ (∀ bb, bb ≠ (x + 20) → bb ≠ (x + 21) → bb ≠ (x + 13) → bb ≠ (x + 22) → bb ≠ (x + 23) → bb ≠ (x + 24) → bb ≠ (x + 25) → bb ≠ (x + 26) → bb ≠ (x + 27) → bb ≠ (x + 28) → bb ≠ (x + 29) → bb ≠ (x + 30) → S1 bb = S bb)) 0 0 := by
  refine g_Cs.of (cc := cX8_itself) (maxL := 3) (ret := (some .int)) (by decide) rfl (Nat.le_of_ble_eq_true rfl) ?_
  intro pp ee s m below meth cK Q H locs ls hc hnm hw hl hret
  have hl : lv_has ls 3 [(0, .ref x), (1, .int (iI how)), (2, .int (iI what))] := hl
  have hiX8 : ∀ w ∈ u_ws RX8 TX8 8, w ∈ wsX8_itself := by decide +kernel
  have hiX0 : ∀ w ∈ u_ws RX0 TX0 10, w ∈ wsX8_itself := by decide +kernel
  have lk47 : Cond.fieldLink RX8 47 "RoofCourses" "ahead" "LRoofCourses$Ahead;" ∈ wsX8_itself := by decide +kernel
  have lk215 : Cond.fieldLink RX8 215 "RoofCourses$Ahead" "more" "I" ∈ wsX8_itself := by decide +kernel
  have lk218 : Cond.fieldLink RX8 218 "RoofCourses$Ahead" "waste" "I" ∈ wsX8_itself := by decide +kernel
  have lk219 : Cond.fieldLink RX8 219 "RoofCourses$Ahead" "ready" "Z" ∈ wsX8_itself := by decide +kernel
  refine lv_iload_n hc.1 hc.2.1 dX8_itself_0 rfl (lv_at hl 1 rfl) ?_
  refine nn_iconst hc dX8_itself_1 ?_
  refine nn_iconst hc dX8_itself_2 ?_
  refine nn_Sp (As := [.int (iI how), .int (iI 0), .int (iI 1)]) (st := []) hc hw (c_X8_isWithin l g   (by omega) (by omega) (by omega)) (va_cwS 3 hc.2.2.2.2 gX8_itself_X8_isWithin rfl rfl rfl (by decide +kernel) ⟨Nat.le_of_ble_eq_true rfl, Nat.le_of_ble_eq_true rfl⟩) rfl hl.1 rfl (Nat.le_of_ble_eq_true rfl) ⟨Nat.le_of_ble_eq_true rfl, Nat.le_of_ble_eq_true rfl⟩ dX8_itself_3 ?_
  refine W.eq (g2 := F0 m 6 ls [.int (iI (if 0 ≤ how ∧ how ≤ 1 then 1 else 0))]) rfl ?_
  refine nn_if_eq hc dX8_itself_6 (tgt := 18) (by decide) (by omega) (fun c1 => ?_) (fun c1 => ?_)
  · exfalso; omega
  · refine lv_iload_n hc.1 hc.2.1 dX8_itself_9 rfl (lv_at hl 2 rfl) ?_
    refine nn_iconst hc dX8_itself_10 ?_
    refine nn_iconst hc dX8_itself_11 ?_
    refine nn_Sp (As := [.int (iI what), .int (iI 0), .int (iI 2)]) (st := []) hc hw (c_X8_isWithin l g   (by omega) (by omega) (by omega)) (va_cwS 3 hc.2.2.2.2 gX8_itself_X8_isWithin rfl rfl rfl (by decide +kernel) ⟨Nat.le_of_ble_eq_true rfl, Nat.le_of_ble_eq_true rfl⟩) rfl hl.1 rfl (Nat.le_of_ble_eq_true rfl) ⟨Nat.le_of_ble_eq_true rfl, Nat.le_of_ble_eq_true rfl⟩ dX8_itself_12 ?_
    refine W.eq (g2 := F0 m 15 ls [.int (iI (if 0 ≤ what ∧ what ≤ 2 then 1 else 0))]) rfl ?_
    refine nn_if_ne hc dX8_itself_15 (tgt := 20) (by decide) (by omega) (fun c2 => ?_) (fun c2 => ?_)
    · refine lv_aload_n hc.1 hc.2.1 dX8_itself_20 rfl (lv_at hl 0 rfl) ?_
      refine nn_get hc hw hx hiX8 rfl 5 (by decide) rfl lk47 dX8_itself_21 ?_
      refine lv_iload_n hc.1 hc.2.1 dX8_itself_24 rfl (lv_at hl 1 rfl) ?_
      refine nn_Vs (As := [.int (iI how)]) (st := []) hc hw hu rfl (c_X0_go l g  hu hul hy hp hln hbr ho hlv hcs (by omega) (rP) (by omega) (by omega) (by omega) (by omega) (by omega) (rV) (by omega) (by omega) (hla) (⟨rft.1, rqL, rft.2⟩) (hbe) (hqc) (hp0) (he0) (hd0) (hr0) (by omega)) (cwV 1 hc.2.2.2.2 gX8_itself_X0_go rfl rfl rfl (by decide +kernel) ⟨Nat.le_of_ble_eq_true rfl, Nat.le_of_ble_eq_true rfl⟩) rfl hl.1 rfl (Nat.le_of_ble_eq_true rfl) ⟨Nat.le_of_ble_eq_true rfl, Nat.le_of_ble_eq_true rfl⟩ dX8_itself_25 (fun vr n1 S3 H locs qS3 hw => ?_)
      obtain ⟨rfl, rfl, hS3_0, kS3_0, kS3_1, kS3_2, kS3_3, kS3_4, fS3⟩ := qS3
      refine W.eq (g2 := F0 m 28 ls []) rfl ?_
      refine lv_iload_n hc.1 hc.2.1 dX8_itself_28 rfl (lv_at hl 2 rfl) ?_
      rcases (show what = 0 ∨ what = 1 ∨ (what ≠ 0 ∧ what ≠ 1) by omega) with w4 | w4 | w4
      · refine nn_lookIn (off := 27) hc 0 (tgt := 56) w4 (by decide) dX8_itself_29 (by decide +kernel) (by decide +kernel) (by decide) ?_
        refine lv_aload_n hc.1 hc.2.1 dX8_itself_56 rfl (lv_at hl 0 rfl) ?_
        have e5 : S3 x = oO 8 [.ref (x + 1), .ref (x + 4), .ref (x + 8), .ref (x + 12), .ref (x + 14), .ref (x + 20), .ref (x + 31), .ref tr] := (fS3 x (off_nl (x := x) (a := 20) (by decide)) (off_nl (x := x) (a := 21) (by decide)) (off_nl (x := x) (a := 13) (by decide)) (off_nl (x := x) (a := 22) (by decide)) (off_nl (x := x) (a := 23) (by decide)) (off_nl (x := x) (a := 24) (by decide)) (off_nl (x := x) (a := 25) (by decide)) (off_nl (x := x) (a := 26) (by decide)) (off_nl (x := x) (a := 27) (by decide)) (off_nl (x := x) (a := 28) (by decide)) (off_nl (x := x) (a := 29) (by decide)) (off_nl (x := x) (a := 30) (by decide))).trans hx
        refine nn_get hc hw e5 hiX8 rfl 5 (by decide) rfl lk47 dX8_itself_57 ?_
        refine nn_get hc hw hS3_0 hiX0 rfl 7 (by decide) rfl lk215 dX8_itself_60 ?_
        exact hret (some (.int (iI ((goG nH.toNat ln br pHi pLp pWi pHp pBk how (20 - zR).toNat lv qL (qF + qG) bs).1)))) _ S3 _ _ _ _ hw (⟨(by unfold aIts; rw [if_pos (show what = 0 by omega)]), rfl, ⟨_, _, _, hS3_0⟩, kS3_0, kS3_1, kS3_2, kS3_3, kS3_4, fun bb hb0 hb1 hb2 hb3 hb4 hb5 hb6 hb7 hb8 hb9 hb10 hb11 => (fS3 bb hb0 hb1 hb2 hb3 hb4 hb5 hb6 hb7 hb8 hb9 hb10 hb11)⟩) ⟨_, rfl, rfl, dX8_itself_63⟩
      · refine nn_lookIn (off := 35) hc 1 (tgt := 64) w4 (by decide) dX8_itself_29 (by decide +kernel) (by decide +kernel) (by decide) ?_
        refine lv_aload_n hc.1 hc.2.1 dX8_itself_64 rfl (lv_at hl 0 rfl) ?_
        have e6 : S3 x = oO 8 [.ref (x + 1), .ref (x + 4), .ref (x + 8), .ref (x + 12), .ref (x + 14), .ref (x + 20), .ref (x + 31), .ref tr] := (fS3 x (off_nl (x := x) (a := 20) (by decide)) (off_nl (x := x) (a := 21) (by decide)) (off_nl (x := x) (a := 13) (by decide)) (off_nl (x := x) (a := 22) (by decide)) (off_nl (x := x) (a := 23) (by decide)) (off_nl (x := x) (a := 24) (by decide)) (off_nl (x := x) (a := 25) (by decide)) (off_nl (x := x) (a := 26) (by decide)) (off_nl (x := x) (a := 27) (by decide)) (off_nl (x := x) (a := 28) (by decide)) (off_nl (x := x) (a := 29) (by decide)) (off_nl (x := x) (a := 30) (by decide))).trans hx
        refine nn_get hc hw e6 hiX8 rfl 5 (by decide) rfl lk47 dX8_itself_65 ?_
        refine nn_get hc hw hS3_0 hiX0 rfl 8 (by decide) rfl lk218 dX8_itself_68 ?_
        exact hret (some (.int (iI ((goG nH.toNat ln br pHi pLp pWi pHp pBk how (20 - zR).toNat lv qL (qF + qG) bs).2.1)))) _ S3 _ _ _ _ hw (⟨(by unfold aIts; rw [if_neg (show ¬ what = 0 by omega), if_pos (show what = 1 by omega)]), rfl, ⟨_, _, _, hS3_0⟩, kS3_0, kS3_1, kS3_2, kS3_3, kS3_4, fun bb hb0 hb1 hb2 hb3 hb4 hb5 hb6 hb7 hb8 hb9 hb10 hb11 => (fS3 bb hb0 hb1 hb2 hb3 hb4 hb5 hb6 hb7 hb8 hb9 hb10 hb11)⟩) ⟨_, rfl, rfl, dX8_itself_71⟩
      · refine nn_lookOut hc (tgt := 72) (by omega) dX8_itself_29 (by decide +kernel) (by rw [Op.lookupswitch.offset_cons, if_neg (by omega), Op.lookupswitch.offset_cons, if_neg (by omega)]; rfl) (by decide) ?_
        refine lv_aload_n hc.1 hc.2.1 dX8_itself_72 rfl (lv_at hl 0 rfl) ?_
        have e7 : S3 x = oO 8 [.ref (x + 1), .ref (x + 4), .ref (x + 8), .ref (x + 12), .ref (x + 14), .ref (x + 20), .ref (x + 31), .ref tr] := (fS3 x (off_nl (x := x) (a := 20) (by decide)) (off_nl (x := x) (a := 21) (by decide)) (off_nl (x := x) (a := 13) (by decide)) (off_nl (x := x) (a := 22) (by decide)) (off_nl (x := x) (a := 23) (by decide)) (off_nl (x := x) (a := 24) (by decide)) (off_nl (x := x) (a := 25) (by decide)) (off_nl (x := x) (a := 26) (by decide)) (off_nl (x := x) (a := 27) (by decide)) (off_nl (x := x) (a := 28) (by decide)) (off_nl (x := x) (a := 29) (by decide)) (off_nl (x := x) (a := 30) (by decide))).trans hx
        refine nn_get hc hw e7 hiX8 rfl 5 (by decide) rfl lk47 dX8_itself_73 ?_
        refine nn_get hc hw hS3_0 hiX0 rfl 9 (by decide) rfl lk219 dX8_itself_76 ?_
        refine nn_if_eq hc dX8_itself_79 (tgt := 86) (by decide) (by split <;> decide) (fun c8 => ?_) (fun c8 => ?_)
        · have hre := c8
          refine nn_iconst hc dX8_itself_86 ?_
          exact hret (some (.int (iI 0))) _ S3 _ _ _ _ hw (⟨(by unfold aIts; rw [if_neg (show ¬ what = 0 by omega), if_neg (show ¬ what = 1 by omega)]; first | (rw [if_pos (Classical.byContradiction fun q9 => by rw [if_neg q9] at hre; omega)]) | (rw [if_neg (fun q9 => by rw [if_pos q9] at hre; omega)])), rfl, ⟨_, _, _, hS3_0⟩, kS3_0, kS3_1, kS3_2, kS3_3, kS3_4, fun bb hb0 hb1 hb2 hb3 hb4 hb5 hb6 hb7 hb8 hb9 hb10 hb11 => (fS3 bb hb0 hb1 hb2 hb3 hb4 hb5 hb6 hb7 hb8 hb9 hb10 hb11)⟩) ⟨_, rfl, rfl, dX8_itself_87⟩
        · have hre := c8
          refine nn_iconst hc dX8_itself_82 ?_
          refine lv_goto hc.1 hc.2.1 dX8_itself_83 (tgt := 87) (by decide) ?_
          exact hret (some (.int (iI 1))) _ S3 _ _ _ _ hw (⟨(by unfold aIts; rw [if_neg (show ¬ what = 0 by omega), if_neg (show ¬ what = 1 by omega)]; first | (rw [if_pos (Classical.byContradiction fun q9 => by rw [if_neg q9] at hre; omega)]) | (rw [if_neg (fun q9 => by rw [if_pos q9] at hre; omega)])), rfl, ⟨_, _, _, hS3_0⟩, kS3_0, kS3_1, kS3_2, kS3_3, kS3_4, fun bb hb0 hb1 hb2 hb3 hb4 hb5 hb6 hb7 hb8 hb9 hb10 hb11 => (fS3 bb hb0 hb1 hb2 hb3 hb4 hb5 hb6 hb7 hb8 hb9 hb10 hb11)⟩) ⟨_, rfl, rfl, dX8_itself_87⟩
    · exfalso; omega

