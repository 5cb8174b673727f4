set_option maxHeartbeats 4000000 in
set_option maxRecDepth 100000 in
theorem c_X6_begin (l : Launch) (g : gG) {n : Nat} {S : Nat → gE} {o : Nat} {pl : Nat} {zR : Int} {lv : Nat → Int} {pl : Nat} {nH pHi pWi pLp pBk pHp : Int} {sl : Nat → Int} (ho : S o = oO 6 [.ref pl, .ref (o + 1), .ref (o + 2), .ref (o + 3), .int (iI zR)]) (hlv : S (o + 1) = oI g 8 lv) (hp : S pl = oO 5 [.ref (pl + 1), .ref (pl + 2), .ref (pl + 3), .int (iI nH), .int (iI pHi), .int (iI pWi), .int (iI pLp), .int (iI pBk), .int (iI pHp)]) (hsl : S (pl + 3) = oI g 8 sl) (hd : o + 4 ≤ pl ∨ pl + 4 ≤ o) : g_Cs l yX6_begin wsX6_begin { frames := 1, cells := 0, slots := 0, locals := 18 } g [.ref o] n S (fun vr n1 S1 => vr = none ∧ n = n1 ∧ S1 o = oO 6 [.ref pl, .ref (o + 1), .ref (o + 2), .ref (o + 3), .int (iI 0)] ∧ S1 (o + 1) = oI g 8 (va_cpy sl lv 0 0 8) ∧ (∀ bb, bb ≠ o → bb ≠ (o + 1) → S1 bb = S bb)) 0 0 := by
  refine g_Cs.of (cc := cX6_begin) (maxL := 1) (ret := none) (by decide) rfl (Nat.le_of_ble_eq_true rfl) ?_
  intro pp ee s m below meth cK Q H locs ls hc hnm hw hl hret
  have hl : lv_has ls 1 [(0, .ref o)] := hl
  have hiX6 : ∀ w ∈ u_ws RX6 TX6 5, w ∈ wsX6_begin := by decide +kernel
  have hiX5 : ∀ w ∈ u_ws RX5 TX5 9, w ∈ wsX6_begin := by decide +kernel
  have lk26 : Cond.fieldLink RX6 26 "RoofCourses$Roof" "plan" "LRoofCourses$Plan;" ∈ wsX6_begin := by decide +kernel
  have lk34 : Cond.fieldLink RX6 34 "RoofCourses$Plan" "slates" "[I" ∈ wsX6_begin := by decide +kernel
  have lk9 : Cond.fieldLink RX6 9 "RoofCourses$Roof" "left" "[I" ∈ wsX6_begin := by decide +kernel
  have lkK39 : Cond.methodLink RX6 39 arraycopyName ∈ wsX6_begin := by decide +kernel
  have lkKn : Cond.native arraycopyName ∈ wsX6_begin := by decide +kernel
  have lkKs : Cond.static arraycopyName ∈ wsX6_begin := by decide +kernel
  have lkKi : Cond.initialized "java/lang/System" ∈ wsX6_begin := by decide +kernel
  have lk45 : Cond.fieldLink RX6 45 "RoofCourses$Roof" "size" "I" ∈ wsX6_begin := by decide +kernel
  refine lv_aload_n hc.1 hc.2.1 dX6_begin_0 rfl (lv_at hl 0 rfl) ?_
  refine nn_get hc hw ho hiX6 rfl 0 (by decide) rfl lk26 dX6_begin_1 ?_
  refine nn_get hc hw hp hiX5 rfl 2 (by decide) rfl lk34 dX6_begin_4 ?_
  refine nn_iconst hc dX6_begin_7 ?_
  refine lv_aload_n hc.1 hc.2.1 dX6_begin_8 rfl (lv_at hl 0 rfl) ?_
  refine nn_get hc hw ho hiX6 rfl 1 (by decide) rfl lk9 dX6_begin_9 ?_
  refine nn_iconst hc dX6_begin_12 ?_
  refine nn_bipush hc dX6_begin_13 (by decide +kernel) ?_
  refine nn_copy hc hl.1 hw lkK39 lkKn lkKs lkKi hsl hlv (by omega) (by decide) (by decide) (Nat.le_of_ble_eq_true rfl) (Nat.le_of_ble_eq_true rfl) dX6_begin_15 (fun S1 H locs hS1 fS1 hw => ?_)
  have hS1 : S1 (o + 1) = oI g 8 (va_cpy sl lv 0 0 8) := hS1
  refine lv_aload_n hc.1 hc.2.1 dX6_begin_18 rfl (lv_at hl 0 rfl) ?_
  refine nn_iconst hc dX6_begin_19 ?_
  have e2 : S1 o = oO 6 [.ref pl, .ref (o + 1), .ref (o + 2), .ref (o + 3), .int (iI zR)] := (fS1 o (off_nl (x := o) (a := 1) (by decide))).trans ho
  refine nn_put hc hw e2 hiX6 tyX6 tyX6_ok nmX6 rfl 4 (by decide) (Nat.le_of_ble_eq_true rfl) lk45 rfl rfl rfl dX6_begin_20 (fun S3 H locs hS3 fS3 hw => ?_)
  have hS3 : S3 o = oO 6 [.ref pl, .ref (o + 1), .ref (o + 2), .ref (o + 3), .int (iI 0)] := hS3
  have e4 : S3 (o + 1) = oI g 8 (va_cpy sl lv 0 0 8) := (fS3 (o + 1) (off_nr (x := o) (a := 1) (by decide))).trans hS1
  exact hret none _ S3 _ _ _ _ hw (⟨rfl, rfl, hS3, e4, fun bb hb0 hb1 => ((fS3 bb hb0)).trans (fS1 bb hb1)⟩) ⟨rfl, dX6_begin_23⟩

set_option maxHeartbeats 4000000 in
set_option maxRecDepth 100000 in
theorem c_X6_last (l : Launch) (g : gG) {n : Nat} {S : Nat → gE} {o : Nat} {pl : Nat} {zR : Int} {cs : Nat → Option Nat} {q : Nat} (ho : S o = oO 6 [.ref pl, .ref (o + 1), .ref (o + 2), .ref (o + 3), .int (iI zR)]) (hcs : S (o + 2) = oR g 2 20 cs) (rzR : 0 ≤ zR ∧ zR ≤ 20) (hla : (0 < zR ∧ cs (zR - 1).toNat = some q) ∨ (zR = 0 ∧ q = o + 3)) : g_Cp l yX6_last wsX6_last { frames := 0, cells := 0, slots := 0, locals := 0 } g [.ref o] n S (some (.ref q)) := by
  refine g_Cp.of (cc := cX6_last) (maxL := 1) (ret := (some (.object "RoofCourses$Course"))) (by decide) rfl (Nat.le_of_ble_eq_true rfl) ?_
  intro pp ee s m below meth cK Q ls hc hnm hw hl hret
  have hl : lv_has ls 1 [(0, .ref o)] := hl
  have hiX6 : ∀ w ∈ u_ws RX6 TX6 5, w ∈ wsX6_last := by decide +kernel
  have lk45 : Cond.fieldLink RX6 45 "RoofCourses$Roof" "size" "I" ∈ wsX6_last := by decide +kernel
  have lk22 : Cond.fieldLink RX6 22 "RoofCourses$Roof" "ground" "LRoofCourses$Course;" ∈ wsX6_last := by decide +kernel
  have lk17 : Cond.fieldLink RX6 17 "RoofCourses$Roof" "courses" "[LRoofCourses$Course;" ∈ wsX6_last := by decide +kernel
  have hra : ∀ (pc : Nat) (ls : Array Slot) (xr : Nat), decode cX6_last pc = .ok (.areturn, 1) → xr = (q) → W pp l ee ({ frames := 0, cells := 0, slots := 0, locals := 0 } : Room) s m ([.ref o] : List Value).toArray below meth cK s.heap [] 0 0 Q (F0 m pc ls [.ref xr]) := fun pc ls xr d hx => by subst hx; exact hret pc ls ⟨_, rfl, Or.inr ⟨_, rfl⟩, d⟩
  refine lv_aload_n hc.1 hc.2.1 dX6_last_0 rfl (lv_at hl 0 rfl) ?_
  refine nn_get hc hw ho hiX6 rfl 4 (by decide) rfl lk45 dX6_last_1 ?_
  refine nn_if_le hc dX6_last_4 (tgt := 21) (by decide) (by omega) (fun c1 => ?_) (fun c1 => ?_)
  · refine lv_aload_n hc.1 hc.2.1 dX6_last_21 rfl (lv_at hl 0 rfl) ?_
    refine nn_get hc hw ho hiX6 rfl 3 (by decide) rfl lk22 dX6_last_22 ?_
    exact hra _ _ _ dX6_last_25 (by omega)
  · have hla1 : cs (zR - 1).toNat = some q := by rcases hla with h | h; exact h.2; omega
    refine lv_aload_n hc.1 hc.2.1 dX6_last_7 rfl (lv_at hl 0 rfl) ?_
    refine nn_get hc hw ho hiX6 rfl 2 (by decide) rfl lk17 dX6_last_8 ?_
    refine lv_aload_n hc.1 hc.2.1 dX6_last_11 rfl (lv_at hl 0 rfl) ?_
    refine nn_get hc hw ho hiX6 rfl 4 (by decide) rfl lk45 dX6_last_12 ?_
    refine nn_iconst hc dX6_last_15 ?_
    refine nn_isub hc dX6_last_16 ?_
    refine nn_aald (x := some q) hc hw hcs rfl (by omega) (by omega) (hla1) dX6_last_17 ?_
    refine W.eq (g2 := F0 m 18 ls [.ref q]) rfl ?_
    refine lv_goto hc.1 hc.2.1 dX6_last_18 (tgt := 25) (by decide) ?_
    exact hra _ _ _ dX6_last_25 (by omega)

set_option maxHeartbeats 4000000 in
set_option maxRecDepth 100000 in
theorem c_X6_isOpen (l : Launch) (g : gG) {n : Nat} {S : Nat → gE} {o : Nat} {pl : Nat} {zR : Int} {cs : Nat → Option Nat} {q : Nat} {qL qF qG qR qZ qW qU : Int} {pl : Nat} {nH pHi pWi pLp pBk pHp : Int} (ho : S o = oO 6 [.ref pl, .ref (o + 1), .ref (o + 2), .ref (o + 3), .int (iI zR)]) (hcs : S (o + 2) = oR g 2 20 cs) (hp : S pl = oO 5 [.ref (pl + 1), .ref (pl + 2), .ref (pl + 3), .int (iI nH), .int (iI pHi), .int (iI pWi), .int (iI pLp), .int (iI pBk), .int (iI pHp)]) (hq : S q = oO 3 [.ref (q + 1), .ref (q + 2), .int (iI qL), .int (iI qF), .int (iI qG), .int (iI qR), .int (iI qZ), .int (iI qW), .int (iI qU)]) (rzR : 0 ≤ zR ∧ zR ≤ 20) (hla : (0 < zR ∧ cs (zR - 1).toNat = some q) ∨ (zR = 0 ∧ q = o + 3)) (r1 : -1000000 ≤ qF + qG ∧ qF + qG ≤ 1000000) (r2 : -1000000 ≤ pHi ∧ pHi ≤ 1000000) : g_Cp l yX6_isOpen wsX6_isOpen { frames := 2, cells := 0, slots := 0, locals := 41 } g [.ref o] n S (some (.int (iI (if zR < 20 ∧ qF + qG < pHi then 1 else 0)))) := by
  refine g_Cp.of (cc := cX6_isOpen) (maxL := 1) (ret := (some .boolean)) (by decide) rfl (Nat.le_of_ble_eq_true rfl) ?_
  intro pp ee s m below meth cK Q ls hc hnm hw hl hret
  have hl : lv_has ls 1 [(0, .ref o)] := hl
  have hiX6 : ∀ w ∈ u_ws RX6 TX6 5, w ∈ wsX6_isOpen := by decide +kernel
  have lk45 : Cond.fieldLink RX6 45 "RoofCourses$Roof" "size" "I" ∈ wsX6_isOpen := by decide +kernel
  have lk26 : Cond.fieldLink RX6 26 "RoofCourses$Roof" "plan" "LRoofCourses$Plan;" ∈ wsX6_isOpen := by decide +kernel
  have hrt : ∀ (pc : Nat) (ls : Array Slot) (xr : Int), decode cX6_isOpen pc = .ok (.ireturn, 1) → xr = (if zR < 20 ∧ qF + qG < pHi then 1 else 0) → W pp l ee ({ frames := 2, cells := 0, slots := 0, locals := 41 } : Room) s m ([.ref o] : List Value).toArray below meth cK s.heap [] 0 0 Q (F0 m pc ls [.int (iI xr)]) := fun pc ls xr d hx => by subst hx; exact hret pc ls ⟨_, rfl, nn_nb _, d⟩
  refine lv_aload_n hc.1 hc.2.1 dX6_isOpen_0 rfl (lv_at hl 0 rfl) ?_
  refine nn_get hc hw ho hiX6 rfl 4 (by decide) rfl lk45 dX6_isOpen_1 ?_
  refine nn_bipush hc dX6_isOpen_4 (by decide +kernel) ?_
  refine nn_icmp_ge hc dX6_isOpen_6 (tgt := 27) (by decide) (by omega) (by decide) (fun c1 => ?_) (fun c1 => ?_)
  · refine nn_iconst hc dX6_isOpen_27 ?_
    exact hrt _ _ _ dX6_isOpen_28 (by first | rfl | omega | (split <;> omega))
  · refine lv_aload_n hc.1 hc.2.1 dX6_isOpen_9 rfl (lv_at hl 0 rfl) ?_
    refine nn_get hc hw ho hiX6 rfl 0 (by decide) rfl lk26 dX6_isOpen_10 ?_
    refine lv_aload_n hc.1 hc.2.1 dX6_isOpen_13 rfl (lv_at hl 0 rfl) ?_
    refine nn_Vp (As := []) (st := [.ref pl]) hc hw ho rfl (c_X6_last l g  ho hcs (by omega) (hla)) (cwV 0 hc.2.2.2.2 gX6_isOpen_X6_last rfl rfl rfl (by decide +kernel) ⟨Nat.le_of_ble_eq_true rfl, Nat.le_of_ble_eq_true rfl⟩) rfl hl.1 rfl (Nat.le_of_ble_eq_true rfl) ⟨Nat.le_of_ble_eq_true rfl, Nat.le_of_ble_eq_true rfl⟩ dX6_isOpen_14 ?_
    refine W.eq (g2 := F0 m 17 ls [.ref q, .ref pl]) rfl ?_
    refine nn_Vp (As := [.ref q]) (st := []) hc hw hp rfl (c_X5_isReadyBy l g  hp hq (by omega) (by omega)) (cwV 1 hc.2.2.2.2 gX6_isOpen_X5_isReadyBy rfl rfl rfl (by decide +kernel) ⟨Nat.le_of_ble_eq_true rfl, Nat.le_of_ble_eq_true rfl⟩) rfl hl.1 rfl (Nat.le_of_ble_eq_true rfl) ⟨Nat.le_of_ble_eq_true rfl, Nat.le_of_ble_eq_true rfl⟩ dX6_isOpen_17 ?_
    refine W.eq (g2 := F0 m 20 ls [.int (iI (if pHi ≤ qF + qG then 1 else 0))]) rfl ?_
    refine nn_if_ne hc dX6_isOpen_20 (tgt := 27) (by decide) (by omega) (fun c2 => ?_) (fun c2 => ?_)
    · refine nn_iconst hc dX6_isOpen_27 ?_
      exact hrt _ _ _ dX6_isOpen_28 (by first | rfl | omega | (split <;> omega))
    · refine nn_iconst hc dX6_isOpen_23 ?_
      refine lv_goto hc.1 hc.2.1 dX6_isOpen_24 (tgt := 28) (by decide) ?_
      exact hrt _ _ _ dX6_isOpen_28 (by first | rfl | omega | (split <;> omega))

set_option maxHeartbeats 4000000 in
set_option maxRecDepth 100000 in
theorem c_X6_addTo (l : Launch) (g : gG) {n : Nat} {S : Nat → gE} {b : Nat} {lv : Nat → Int} {u sa : Int} (hb : S b = oI g 8 lv) (ru : 0 ≤ u ∧ u < 8) : g_Cs l yX6_addTo wsX6_addTo { frames := 1, cells := 0, slots := 0, locals := 22 } g [.ref b, .int (iI u), .int (iI sa)] n S (fun vr n1 S1 => vr = none ∧ n = n1 ∧ S1 b = oI g 8 (va_up lv u.toNat (lv u.toNat + sa)) ∧ (∀ bb, bb ≠ b → S1 bb = S bb)) 0 0 := by
  refine g_Cs.of (cc := cX6_addTo) (maxL := 3) (ret := none) (by decide) rfl (Nat.le_of_ble_eq_true rfl) ?_
  intro pp ee s m below meth cK Q H locs ls hc hnm hw hl hret
  have hl : lv_has ls 3 [(0, .ref b), (1, .int (iI u)), (2, .int (iI sa))] := hl
  have lkI_X8 : Cond.initialized RX8 ∈ wsX6_addTo := by decide +kernel
  have lkSt_X8_isWithin : Cond.static yX8_isWithin ∈ wsX6_addTo := by decide +kernel
  refine lv_iload_n hc.1 hc.2.1 dX6_addTo_0 rfl (lv_at hl 1 rfl) ?_
  refine nn_iconst hc dX6_addTo_1 ?_
  refine lv_aload_n hc.1 hc.2.1 dX6_addTo_2 rfl (lv_at hl 0 rfl) ?_
  refine nn_alen hc hw hb dX6_addTo_3 ?_
  refine W.eq (g2 := F0 m 4 ls [.int (iI 8), .int (iI 0), .int (iI u)]) rfl ?_
  refine nn_iconst hc dX6_addTo_4 ?_
  refine nn_isub hc dX6_addTo_5 ?_
  refine nn_SpN (As := [.int (iI u), .int (iI 0), .int (iI (8 - 1))]) (st := []) hc hw (c_X8_isWithin l g   (by omega) (by omega) (by omega)) (va_cnB (own := RX6) (index := 68) (y := yX8_isWithin) (host := "RoofCourses") 3 hc.2.2.2.2 gX6_addTo_X8_isWithin_n68 rfl rfl rfl (g_nw hw (RX6, 68, yX8_isWithin) (by decide +kernel)) (hc.2.2.2.2 _ lkI_X8) (by decide +kernel) ⟨Nat.le_of_ble_eq_true rfl, Nat.le_of_ble_eq_true rfl⟩) lkSt_X8_isWithin rfl hl.1 rfl (Nat.le_of_ble_eq_true rfl) ⟨Nat.le_of_ble_eq_true rfl, Nat.le_of_ble_eq_true rfl⟩ dX6_addTo_6 ?_
  refine W.eq (g2 := F0 m 9 ls [.int (iI (if 0 ≤ u ∧ u ≤ (8 - 1) then 1 else 0))]) rfl ?_
  refine nn_if_eq hc dX6_addTo_9 (tgt := 19) (by decide) (by omega) (fun c1 => ?_) (fun c1 => ?_)
  · exfalso; omega
  · refine lv_aload_n hc.1 hc.2.1 dX6_addTo_12 rfl (lv_at hl 0 rfl) ?_
    refine lv_iload_n hc.1 hc.2.1 dX6_addTo_13 rfl (lv_at hl 1 rfl) ?_
    refine lv_dup2_11 hc.1 hc.2.1 dX6_addTo_14 rfl rfl ?_
    refine nn_iald hc hw hb (by omega) (by omega) dX6_addTo_15 ?_
    refine lv_iload_n hc.1 hc.2.1 dX6_addTo_16 rfl (lv_at hl 2 rfl) ?_
    refine nn_iadd hc dX6_addTo_17 ?_
    refine nn_iast hc hw hb (by omega) (by omega) dX6_addTo_18 (fun S2 H locs hS2 fS2 hw => ?_)
    exact hret none _ S2 _ _ _ _ hw (⟨rfl, rfl, (by (repeat' split) <;> first | exact hS2 | (exfalso; omega)), fun bb hb0 => (fS2 bb hb0)⟩) ⟨rfl, dX6_addTo_19⟩

set_option maxHeartbeats 4000000 in
set_option maxRecDepth 100000 in
theorem c_X6_addSlates (l : Launch) (g : gG) {n : Nat} {S : Nat → gE} {b : Nat} {q : Nat} {qL qF qG qR qZ qW qU : Int} {hf : Nat → Int} {lv : Nat → Int} {ea : Int} (hb : S b = oI g 8 lv) (hq : S q = oO 3 [.ref (q + 1), .ref (q + 2), .int (iI qL), .int (iI qF), .int (iI qG), .int (iI qR), .int (iI qZ), .int (iI qW), .int (iI qU)]) (hqh : S (q + 1) = oI g 60 hf) (rZ : 0 ≤ qZ ∧ qZ ≤ 60) (rh : ∀ k : Nat, (k : Int) < qZ → 0 ≤ hf k ∧ hf k < 8) (hd : b ≠ q ∧ b ≠ q + 1) : g_Cs l yX6_addSlates wsX6_addSlates { frames := 2, cells := 0, slots := 0, locals := 44 } g [.ref b, .ref q, .int (iI ea)] n S (fun vr n1 S1 => vr = none ∧ n = n1 ∧ S1 b = oI g 8 (adS lv hf ea qZ.toNat) ∧ (∀ bb, bb ≠ b → S1 bb = S bb)) 0 0 := by
  refine g_Cs.of (cc := cX6_addSlates) (maxL := 4) (ret := none) (by decide) rfl (Nat.le_of_ble_eq_true rfl) ?_
  intro pp ee s m below meth cK Q H locs ls hc hnm hw hl hret
  have hl : lv_has ls 4 [(0, .ref b), (1, .ref q), (2, .int (iI ea))] := hl
  have hiX3 : ∀ w ∈ u_ws RX3 TX3 9, w ∈ wsX6_addSlates := by decide +kernel
  have lk60 : Cond.fieldLink RX6 60 "RoofCourses$Course" "size" "I" ∈ wsX6_addSlates := by decide +kernel
  have lk61 : Cond.fieldLink RX6 61 "RoofCourses$Course" "heapOf" "[I" ∈ wsX6_addSlates := by decide +kernel
  refine nn_iconst hc dX6_addSlates_0 ?_
  refine lv_istore_n (lv' := [(3, .int (iI 0)), (0, .ref b), (1, .ref q), (2, .int (iI ea))]) hc.1 hc.2.1 dX6_addSlates_1 rfl hl (by decide) rfl (fun ls hl => ?_)
  have lab2 : ∀ (fu2 : Nat) (k : Int) (f : Nat → Int) (S1 : Nat → gE) (H : Heap) (locs : List Loc) (ls : Array Slot), (0 ≤ k ∧ k ≤ qZ) → (f = adS lv hf ea k.toNat) → S1 b = oI g 8 f → (∀ bb, bb ≠ b → S1 bb = S bb) → g_W g n S1 s H locs → (qZ - k).toNat < fu2 → lv_has ls 4 [(3, .int (iI k)), (0, .ref b), (1, .ref q), (2, .int (iI ea))] → W pp l ee ({ frames := 2, cells := 0, slots := 0, locals := 44 } : Room) s m ([.ref b, .ref q, .int (iI ea)] : List Value).toArray below meth cK H locs 0 0 Q (F0 m 2 ls []) := by
    intro fu2
    induction fu2 with
    | zero =>
      intro k f S1 H locs ls hk hf1 hc2_0 fr2 hw hmeas hl
      exact absurd hmeas (Nat.not_lt_zero _)
    | succ fu2 ih2 =>
      intro k f S1 H locs ls hk hf1 hc2_0 fr2 hw hmeas hl
      refine lv_iload_n hc.1 hc.2.1 dX6_addSlates_2 rfl (lv_at hl 0 rfl) ?_
      refine lv_aload_n hc.1 hc.2.1 dX6_addSlates_3 rfl (lv_at hl 2 rfl) ?_
      have e2 : S1 q = oO 3 [.ref (q + 1), .ref (q + 2), .int (iI qL), .int (iI qF), .int (iI qG), .int (iI qR), .int (iI qZ), .int (iI qW), .int (iI qU)] := (fr2 q (by omega)).trans hq
      refine nn_get hc hw e2 hiX3 rfl 6 (by decide) rfl lk60 dX6_addSlates_4 ?_
      refine nn_icmp_ge hc dX6_addSlates_7 (tgt := 27) (by decide) (by omega) (by omega) (fun c3 => ?_) (fun c3 => ?_)
      · exact hret none _ S1 _ _ _ _ hw (⟨rfl, rfl, (by rw [show qZ.toNat = k.toNat by omega, ← hf1]; exact hc2_0), fun bb hb0 => (fr2 bb hb0)⟩) ⟨rfl, dX6_addSlates_27⟩
      · refine lv_aload_n hc.1 hc.2.1 dX6_addSlates_10 rfl (lv_at hl 1 rfl) ?_
        refine lv_aload_n hc.1 hc.2.1 dX6_addSlates_11 rfl (lv_at hl 2 rfl) ?_
        refine nn_get hc hw e2 hiX3 rfl 0 (by decide) rfl lk61 dX6_addSlates_12 ?_
        refine lv_iload_n hc.1 hc.2.1 dX6_addSlates_15 rfl (lv_at hl 0 rfl) ?_
        have hrk := rh k.toNat (by omega)
        have e4 : S1 (q + 1) = oI g 60 hf := (fr2 (q + 1) (by omega)).trans hqh
        refine nn_iald hc hw e4 (by omega) (by omega) dX6_addSlates_16 ?_
        refine lv_iload_n hc.1 hc.2.1 dX6_addSlates_17 rfl (lv_at hl 3 rfl) ?_
        refine nn_Ss (As := [.ref b, .int (iI (hf k.toNat)), .int (iI ea)]) (st := []) hc hw (c_X6_addTo l g  hc2_0 (by omega)) (va_cwS 3 hc.2.2.2.2 gX6_addSlates_X6_addTo rfl rfl rfl (by decide +kernel) ⟨Nat.le_of_ble_eq_true rfl, Nat.le_of_ble_eq_true rfl⟩) rfl hl.1 rfl (Nat.le_of_ble_eq_true rfl) ⟨Nat.le_of_ble_eq_true rfl, Nat.le_of_ble_eq_true rfl⟩ dX6_addSlates_18 (fun vr n1 S5 H locs qS5 hw => ?_)
        obtain ⟨rfl, rfl, hS5_0, fS5⟩ := qS5
        refine W.eq (g2 := F0 m 21 ls []) rfl ?_
        refine nn_iinc (lv' := [(3, .int (iI (k + 1))), (0, .ref b), (1, .ref q), (2, .int (iI ea))]) hc dX6_addSlates_21 hl (k0 := 0) rfl (by decide) rfl (fun ls hl => ?_)
        refine lv_goto hc.1 hc.2.1 dX6_addSlates_24 (tgt := 2) (by decide) ?_
        exact ih2 (k + 1) (va_up f (hf k.toNat).toNat (f (hf k.toNat).toNat + ea)) S5 _ _ _ (by omega) (by rw [hf1, adS_s (by omega)]) hS5_0 (fun bb hb0 => ((fS5 bb hb0)).trans (fr2 bb hb0)) hw (by omega) (lv_sub hl [0, 1, 2, 3] rfl)
  exact lab2 _ 0 lv S _ _ _ (by omega) (rfl) hb (fun bb _ => rfl) hw (Nat.lt_succ_self _) (lv_sub hl [0, 1, 2, 3] rfl)

set_option maxHeartbeats 4000000 in
set_option maxRecDepth 100000 in
theorem c_X6_push (l : Launch) (g : gG) {n : Nat} {S : Nat → gE} {o : Nat} {pl : Nat} {zR : Int} {lv : Nat → Int} {cs : Nat → Option Nat} {q : Nat} {qL qF qG qR qZ qW qU : Int} {hf : Nat → Int} (ho : S o = oO 6 [.ref pl, .ref (o + 1), .ref (o + 2), .ref (o + 3), .int (iI zR)]) (hlv : S (o + 1) = oI g 8 lv) (hcs : S (o + 2) = oR g 2 20 cs) (hq : S q = oO 3 [.ref (q + 1), .ref (q + 2), .int (iI qL), .int (iI qF), .int (iI qG), .int (iI qR), .int (iI qZ), .int (iI qW), .int (iI qU)]) (hqh : S (q + 1) = oI g 60 hf) (rzR : 0 ≤ zR ∧ zR < 20) (rZ : 0 ≤ qZ ∧ qZ ≤ 60) (rh : ∀ k : Nat, (k : Int) < qZ → 0 ≤ hf k ∧ hf k < 8) (hd : o + 4 ≤ q ∨ q + 3 ≤ o ∨ q = o + 3) : g_Cs l yX6_push wsX6_push { frames := 3, cells := 0, slots := 0, locals := 67 } g [.ref o, .ref q] n S (fun vr n1 S1 => vr = none ∧ n = n1 ∧ S1 o = oO 6 [.ref pl, .ref (o + 1), .ref (o + 2), .ref (o + 3), .int (iI (zR + 1))] ∧ S1 (o + 1) = oI g 8 (adS lv hf (-1) qZ.toNat) ∧ S1 (o + 2) = oR g 2 20 (va_up cs zR.toNat (some q)) ∧ (∀ bb, bb ≠ o → bb ≠ (o + 1) → bb ≠ (o + 2) → S1 bb = S bb)) 0 0 := by
  refine g_Cs.of (cc := cX6_push) (maxL := 2) (ret := none) (by decide) rfl (Nat.le_of_ble_eq_true rfl) ?_
  intro pp ee s m below meth cK Q H locs ls hc hnm hw hl hret
  have hl : lv_has ls 2 [(0, .ref o), (1, .ref q)] := hl
  have hiX6 : ∀ w ∈ u_ws RX6 TX6 5, w ∈ wsX6_push := by decide +kernel
  have lk45 : Cond.fieldLink RX6 45 "RoofCourses$Roof" "size" "I" ∈ wsX6_push := by decide +kernel
  have lk17 : Cond.fieldLink RX6 17 "RoofCourses$Roof" "courses" "[LRoofCourses$Course;" ∈ wsX6_push := by decide +kernel
  have lk9 : Cond.fieldLink RX6 9 "RoofCourses$Roof" "left" "[I" ∈ wsX6_push := by decide +kernel
  refine lv_aload_n hc.1 hc.2.1 dX6_push_0 rfl (lv_at hl 0 rfl) ?_
  refine nn_get hc hw ho hiX6 rfl 4 (by decide) rfl lk45 dX6_push_1 ?_
  refine nn_bipush hc dX6_push_4 (by decide +kernel) ?_
  refine nn_icmp_lt hc dX6_push_6 (tgt := 10) (by decide) (by omega) (by decide) (fun c1 => ?_) (fun c1 => ?_)
  · refine lv_aload_n hc.1 hc.2.1 dX6_push_10 rfl (lv_at hl 0 rfl) ?_
    refine nn_get hc hw ho hiX6 rfl 2 (by decide) rfl lk17 dX6_push_11 ?_
    refine lv_aload_n hc.1 hc.2.1 dX6_push_14 rfl (lv_at hl 0 rfl) ?_
    refine nn_get hc hw ho hiX6 rfl 4 (by decide) rfl lk45 dX6_push_15 ?_
    refine lv_aload_n hc.1 hc.2.1 dX6_push_18 rfl (lv_at hl 1 rfl) ?_
    refine nn_aast hc hw hcs rfl hq rfl (by omega) (by omega) dX6_push_19 (fun S2 H locs hS2 fS2 hw => ?_)
    refine lv_aload_n hc.1 hc.2.1 dX6_push_20 rfl (lv_at hl 0 rfl) ?_
    refine lv_dup hc.1 hc.2.1 dX6_push_21 rfl ?_
    have e3 : S2 o = oO 6 [.ref pl, .ref (o + 1), .ref (o + 2), .ref (o + 3), .int (iI zR)] := (fS2 o (off_nl (x := o) (a := 2) (by decide))).trans ho
    refine nn_get hc hw e3 hiX6 rfl 4 (by decide) rfl lk45 dX6_push_22 ?_
    refine nn_iconst hc dX6_push_25 ?_
    refine nn_iadd hc dX6_push_26 ?_
    refine nn_put hc hw e3 hiX6 tyX6 tyX6_ok nmX6 rfl 4 (by decide) (Nat.le_of_ble_eq_true rfl) lk45 rfl rfl rfl dX6_push_27 (fun S4 H locs hS4 fS4 hw => ?_)
    have hS4 : S4 o = oO 6 [.ref pl, .ref (o + 1), .ref (o + 2), .ref (o + 3), .int (iI (zR + 1))] := hS4
    refine lv_aload_n hc.1 hc.2.1 dX6_push_30 rfl (lv_at hl 0 rfl) ?_
    refine nn_get hc hw hS4 hiX6 rfl 1 (by decide) rfl lk9 dX6_push_31 ?_
    refine lv_aload_n hc.1 hc.2.1 dX6_push_34 rfl (lv_at hl 1 rfl) ?_
    refine nn_iconst hc dX6_push_35 ?_
    have e5 : S2 (o + 1) = oI g 8 lv := (fS2 (o + 1) (off_ne (x := o) (a := 1) (b := 2) (by decide))).trans hlv
    have e6 : S4 (o + 1) = oI g 8 lv := (fS4 (o + 1) (off_nr (x := o) (a := 1) (by decide))).trans e5
    have e7 : S2 q = oO 3 [.ref (q + 1), .ref (q + 2), .int (iI qL), .int (iI qF), .int (iI qG), .int (iI qR), .int (iI qZ), .int (iI qW), .int (iI qU)] := (fS2 q (by omega)).trans hq
    have e8 : S4 q = oO 3 [.ref (q + 1), .ref (q + 2), .int (iI qL), .int (iI qF), .int (iI qG), .int (iI qR), .int (iI qZ), .int (iI qW), .int (iI qU)] := (fS4 q (by omega)).trans e7
    have e9 : S2 (q + 1) = oI g 60 hf := (fS2 (q + 1) (by omega)).trans hqh
    have e10 : S4 (q + 1) = oI g 60 hf := (fS4 (q + 1) (by omega)).trans e9
    refine nn_Ss (As := [.ref (o + 1), .ref q, .int (iI (-1))]) (st := []) hc hw (c_X6_addSlates l g  e6 e8 e10 (by omega) (rh) (by omega)) (va_cwS 3 hc.2.2.2.2 gX6_push_X6_addSlates rfl rfl rfl (by decide +kernel) ⟨Nat.le_of_ble_eq_true rfl, Nat.le_of_ble_eq_true rfl⟩) rfl hl.1 rfl (Nat.le_of_ble_eq_true rfl) ⟨Nat.le_of_ble_eq_true rfl, Nat.le_of_ble_eq_true rfl⟩ dX6_push_36 (fun vr n1 S11 H locs qS11 hw => ?_)
    obtain ⟨rfl, rfl, hS11_0, fS11⟩ := qS11
    refine W.eq (g2 := F0 m 39 ls []) rfl ?_
    have e12 : S11 o = oO 6 [.ref pl, .ref (o + 1), .ref (o + 2), .ref (o + 3), .int (iI (zR + 1))] := (fS11 o (off_nl (x := o) (a := 1) (by decide))).trans hS4
    have e13 : S4 (o + 2) = oR g 2 20 (va_up cs zR.toNat (some q)) := (fS4 (o + 2) (off_nr (x := o) (a := 2) (by decide))).trans hS2
    have e14 : S11 (o + 2) = oR g 2 20 (va_up cs zR.toNat (some q)) := (fS11 (o + 2) (off_ne (x := o) (a := 2) (b := 1) (by decide))).trans e13
    exact hret none _ S11 _ _ _ _ hw (⟨rfl, rfl, e12, hS11_0, e14, fun bb hb0 hb1 hb2 => (((fS11 bb hb1)).trans (fS4 bb hb0)).trans (fS2 bb hb2)⟩) ⟨rfl, dX6_push_39⟩
  · exfalso; omega

set_option maxHeartbeats 4000000 in
set_option maxRecDepth 100000 in
theorem c_X6_pop (l : Launch) (g : gG) {n : Nat} {S : Nat → gE} {o : Nat} {pl : Nat} {zR : Int} {lv : Nat → Int} {cs : Nat → Option Nat} {q : Nat} {qL qF qG qR qZ qW qU : Int} {hf : Nat → Int} (ho : S o = oO 6 [.ref pl, .ref (o + 1), .ref (o + 2), .ref (o + 3), .int (iI zR)]) (hlv : S (o + 1) = oI g 8 lv) (hcs : S (o + 2) = oR g 2 20 cs) (hq : S q = oO 3 [.ref (q + 1), .ref (q + 2), .int (iI qL), .int (iI qF), .int (iI qG), .int (iI qR), .int (iI qZ), .int (iI qW), .int (iI qU)]) (hqh : S (q + 1) = oI g 60 hf) (rzR : 0 < zR ∧ zR ≤ 20) (hla : cs (zR - 1).toNat = some q) (rZ : 0 ≤ qZ ∧ qZ ≤ 60) (rh : ∀ k : Nat, (k : Int) < qZ → 0 ≤ hf k ∧ hf k < 8) (hd : o + 4 ≤ q ∨ q + 3 ≤ o ∨ q = o + 3) : g_Cs l yX6_pop wsX6_pop { frames := 3, cells := 0, slots := 0, locals := 67 } g [.ref o] n S (fun vr n1 S1 => vr = some (.ref q) ∧ n = n1 ∧ S1 o = oO 6 [.ref pl, .ref (o + 1), .ref (o + 2), .ref (o + 3), .int (iI (zR - 1))] ∧ S1 (o + 1) = oI g 8 (adS lv hf 1 qZ.toNat) ∧ (∀ bb, bb ≠ o → bb ≠ (o + 1) → S1 bb = S bb)) 0 0 := by
  refine g_Cs.of (cc := cX6_pop) (maxL := 2) (ret := (some (.object "RoofCourses$Course"))) (by decide) rfl (Nat.le_of_ble_eq_true rfl) ?_
  intro pp ee s m below meth cK Q H locs ls hc hnm hw hl hret
  have hl : lv_has ls 2 [(0, .ref o)] := hl
  have hiX6 : ∀ w ∈ u_ws RX6 TX6 5, w ∈ wsX6_pop := by decide +kernel
  have lk45 : Cond.fieldLink RX6 45 "RoofCourses$Roof" "size" "I" ∈ wsX6_pop := by decide +kernel
  have lk9 : Cond.fieldLink RX6 9 "RoofCourses$Roof" "left" "[I" ∈ wsX6_pop := by decide +kernel
  refine lv_aload_n hc.1 hc.2.1 dX6_pop_0 rfl (lv_at hl 0 rfl) ?_
  refine nn_Vp (As := []) (st := []) hc hw ho rfl (c_X6_last l g  ho hcs (by omega) (Or.inl ⟨by omega, hla⟩)) (cwV 0 hc.2.2.2.2 gX6_pop_X6_last rfl rfl rfl (by decide +kernel) ⟨Nat.le_of_ble_eq_true rfl, Nat.le_of_ble_eq_true rfl⟩) rfl hl.1 rfl (Nat.le_of_ble_eq_true rfl) ⟨Nat.le_of_ble_eq_true rfl, Nat.le_of_ble_eq_true rfl⟩ dX6_pop_1 ?_
  refine W.eq (g2 := F0 m 4 ls [.ref q]) rfl ?_
  refine lv_astore_n (lv' := [(1, .ref q), (0, .ref o)]) hc.1 hc.2.1 dX6_pop_4 rfl hl (by decide) rfl (fun ls hl => ?_)
  refine lv_aload_n hc.1 hc.2.1 dX6_pop_5 rfl (lv_at hl 1 rfl) ?_
  refine nn_get hc hw ho hiX6 rfl 4 (by decide) rfl lk45 dX6_pop_6 ?_
  refine nn_if_le hc dX6_pop_9 (tgt := 31) (by decide) (by omega) (fun c1 => ?_) (fun c1 => ?_)
  · exfalso; omega
  · refine lv_aload_n hc.1 hc.2.1 dX6_pop_12 rfl (lv_at hl 1 rfl) ?_
    refine lv_dup hc.1 hc.2.1 dX6_pop_13 rfl ?_
    refine nn_get hc hw ho hiX6 rfl 4 (by decide) rfl lk45 dX6_pop_14 ?_
    refine nn_iconst hc dX6_pop_17 ?_
    refine nn_isub hc dX6_pop_18 ?_
    refine nn_put hc hw ho hiX6 tyX6 tyX6_ok nmX6 rfl 4 (by decide) (Nat.le_of_ble_eq_true rfl) lk45 rfl rfl rfl dX6_pop_19 (fun S2 H locs hS2 fS2 hw => ?_)
    have hS2 : S2 o = oO 6 [.ref pl, .ref (o + 1), .ref (o + 2), .ref (o + 3), .int (iI (zR - 1))] := hS2
    refine lv_aload_n hc.1 hc.2.1 dX6_pop_22 rfl (lv_at hl 1 rfl) ?_
    refine nn_get hc hw hS2 hiX6 rfl 1 (by decide) rfl lk9 dX6_pop_23 ?_
    refine lv_aload_n hc.1 hc.2.1 dX6_pop_26 rfl (lv_at hl 0 rfl) ?_
    refine nn_iconst hc dX6_pop_27 ?_
    have e3 : S2 (o + 1) = oI g 8 lv := (fS2 (o + 1) (off_nr (x := o) (a := 1) (by decide))).trans hlv
    have e4 : S2 q = oO 3 [.ref (q + 1), .ref (q + 2), .int (iI qL), .int (iI qF), .int (iI qG), .int (iI qR), .int (iI qZ), .int (iI qW), .int (iI qU)] := (fS2 q (by omega)).trans hq
    have e5 : S2 (q + 1) = oI g 60 hf := (fS2 (q + 1) (by omega)).trans hqh
    refine nn_Ss (As := [.ref (o + 1), .ref q, .int (iI 1)]) (st := []) hc hw (c_X6_addSlates l g  e3 e4 e5 (by omega) (rh) (by omega)) (va_cwS 3 hc.2.2.2.2 gX6_pop_X6_addSlates rfl rfl rfl (by decide +kernel) ⟨Nat.le_of_ble_eq_true rfl, Nat.le_of_ble_eq_true rfl⟩) rfl hl.1 rfl (Nat.le_of_ble_eq_true rfl) ⟨Nat.le_of_ble_eq_true rfl, Nat.le_of_ble_eq_true rfl⟩ dX6_pop_28 (fun vr n1 S6 H locs qS6 hw => ?_)
    obtain ⟨rfl, rfl, hS6_0, fS6⟩ := qS6
    refine W.eq (g2 := F0 m 31 ls []) rfl ?_
    refine lv_aload_n hc.1 hc.2.1 dX6_pop_31 rfl (lv_at hl 0 rfl) ?_
    have e7 : S6 o = oO 6 [.ref pl, .ref (o + 1), .ref (o + 2), .ref (o + 3), .int (iI (zR - 1))] := (fS6 o (off_nl (x := o) (a := 1) (by decide))).trans hS2
    exact hret (some (.ref q)) _ S6 _ _ _ _ hw (⟨rfl, rfl, e7, hS6_0, fun bb hb0 hb1 => ((fS6 bb hb1)).trans (fS2 bb hb0)⟩) ⟨_, rfl, Or.inr ⟨_, rfl⟩, dX6_pop_32⟩

set_option maxHeartbeats 4000000 in
set_option maxRecDepth 100000 in
theorem c_X6_waste (l : Launch) (g : gG) {n : Nat} {S : Nat → gE} {o : Nat} {pl : Nat} {zR : Int} {cs : Nat → Option Nat} {ca : Nat → Nat} {kL kF kG kR kZ kW kU : Nat → Int} (ho : S o = oO 6 [.ref pl, .ref (o + 1), .ref (o + 2), .ref (o + 3), .int (iI zR)]) (hcs : S (o + 2) = oR g 2 20 cs) (rzR : 0 ≤ zR ∧ zR ≤ 20) (hca : ∀ j : Nat, (j : Int) < zR → cs j = some (ca j)) (hck : ∀ j : Nat, (j : Int) < zR → S (ca j) = oO 3 [.ref (ca j + 1), .ref (ca j + 2), .int (iI (kL j)), .int (iI (kF j)), .int (iI (kG j)), .int (iI (kR j)), .int (iI (kZ j)), .int (iI (kW j)), .int (iI (kU j))]) : g_Cp l yX6_waste wsX6_waste { frames := 0, cells := 0, slots := 0, locals := 0 } g [.ref o] n S (some (.int (iI (sumI kW zR.toNat)))) := by
  refine g_Cp.of (cc := cX6_waste) (maxL := 3) (ret := (some .int)) (by decide) rfl (Nat.le_of_ble_eq_true rfl) ?_
  intro pp ee s m below meth cK Q ls hc hnm hw hl hret
  have hl : lv_has ls 3 [(0, .ref o)] := hl
  have hiX6 : ∀ w ∈ u_ws RX6 TX6 5, w ∈ wsX6_waste := by decide +kernel
  have hiX3 : ∀ w ∈ u_ws RX3 TX3 9, w ∈ wsX6_waste := by decide +kernel
  have lk45 : Cond.fieldLink RX6 45 "RoofCourses$Roof" "size" "I" ∈ wsX6_waste := by decide +kernel
  have lk17 : Cond.fieldLink RX6 17 "RoofCourses$Roof" "courses" "[LRoofCourses$Course;" ∈ wsX6_waste := by decide +kernel
  have lk75 : Cond.fieldLink RX6 75 "RoofCourses$Course" "waste" "I" ∈ wsX6_waste := by decide +kernel
  have hrt : ∀ (pc : Nat) (ls : Array Slot) (xr : Int), decode cX6_waste pc = .ok (.ireturn, 1) → xr = (sumI kW zR.toNat) → W pp l ee ({ frames := 0, cells := 0, slots := 0, locals := 0 } : Room) s m ([.ref o] : List Value).toArray below meth cK s.heap [] 0 0 Q (F0 m pc ls [.int (iI xr)]) := fun pc ls xr d hx => by subst hx; exact hret pc ls ⟨_, rfl, rfl, d⟩
  refine nn_iconst hc dX6_waste_0 ?_
  refine lv_istore_n (lv' := [(1, .int (iI 0)), (0, .ref o)]) hc.1 hc.2.1 dX6_waste_1 rfl hl (by decide) rfl (fun ls hl => ?_)
  refine nn_iconst hc dX6_waste_2 ?_
  refine lv_istore_n (lv' := [(2, .int (iI 0)), (1, .int (iI 0)), (0, .ref o)]) hc.1 hc.2.1 dX6_waste_3 rfl hl (by decide) rfl (fun ls hl => ?_)
  have lab4 : ∀ (fu4 : Nat) (k : Int) (t : Int) (ls : Array Slot), (0 ≤ k ∧ k ≤ zR) → (t = sumI kW k.toNat) → (zR - k).toNat < fu4 → lv_has ls 3 [(1, .int (iI t)), (2, .int (iI k)), (0, .ref o)] → W pp l ee ({ frames := 0, cells := 0, slots := 0, locals := 0 } : Room) s m ([.ref o] : List Value).toArray below meth cK s.heap [] 0 0 Q (F0 m 4 ls []) := by
    intro fu4
    induction fu4 with
    | zero =>
      intro k t ls hk ht hmeas hl
      exact absurd hmeas (Nat.not_lt_zero _)
    | succ fu4 ih4 =>
      intro k t ls hk ht hmeas hl
      refine lv_iload_n hc.1 hc.2.1 dX6_waste_4 rfl (lv_at hl 1 rfl) ?_
      refine lv_aload_n hc.1 hc.2.1 dX6_waste_5 rfl (lv_at hl 2 rfl) ?_
      refine nn_get hc hw ho hiX6 rfl 4 (by decide) rfl lk45 dX6_waste_6 ?_
      refine nn_icmp_ge hc dX6_waste_9 (tgt := 30) (by decide) (by omega) (by omega) (fun c1 => ?_) (fun c1 => ?_)
      · refine lv_iload_n hc.1 hc.2.1 dX6_waste_30 rfl (lv_at hl 0 rfl) ?_
        exact hrt _ _ _ dX6_waste_31 (by rw [ht, show k.toNat = zR.toNat by omega])
      · have hx2 : S (ca k.toNat) = oO 3 [.ref (ca k.toNat + 1), .ref (ca k.toNat + 2), .int (iI (kL k.toNat)), .int (iI (kF k.toNat)), .int (iI (kG k.toNat)), .int (iI (kR k.toNat)), .int (iI (kZ k.toNat)), .int (iI (kW k.toNat)), .int (iI (kU k.toNat))] := hck _ (by omega)
        refine lv_iload_n hc.1 hc.2.1 dX6_waste_12 rfl (lv_at hl 0 rfl) ?_
        refine lv_aload_n hc.1 hc.2.1 dX6_waste_13 rfl (lv_at hl 2 rfl) ?_
        refine nn_get hc hw ho hiX6 rfl 2 (by decide) rfl lk17 dX6_waste_14 ?_
        refine lv_iload_n hc.1 hc.2.1 dX6_waste_17 rfl (lv_at hl 1 rfl) ?_
        refine nn_aald (x := some (ca k.toNat)) hc hw hcs rfl (by omega) (by omega) (hca _ (by omega)) dX6_waste_18 ?_
        refine W.eq (g2 := F0 m 19 ls [.ref (ca k.toNat), .int (iI t)]) rfl ?_
        refine nn_get hc hw hx2 hiX3 rfl 7 (by decide) rfl lk75 dX6_waste_19 ?_
        refine nn_iadd hc dX6_waste_22 ?_
        refine lv_istore_n (lv' := [(1, .int (iI (t + (kW k.toNat)))), (2, .int (iI k)), (0, .ref o)]) hc.1 hc.2.1 dX6_waste_23 rfl hl (by decide) rfl (fun ls hl => ?_)
        refine nn_iinc (lv' := [(2, .int (iI (k + 1))), (1, .int (iI (t + (kW k.toNat)))), (0, .ref o)]) hc dX6_waste_24 hl (k0 := 1) rfl (by decide) rfl (fun ls hl => ?_)
        refine lv_goto hc.1 hc.2.1 dX6_waste_27 (tgt := 4) (by decide) ?_
        exact ih4 (k + 1) (t + (kW k.toNat)) _ (by omega) (by rw [ht, sumI_s (by omega)]) (by omega) (lv_sub hl [1, 0, 2] rfl)
  exact lab4 _ 0 0 _ (by omega) (rfl) (Nat.lt_succ_self _) (lv_sub hl [1, 0, 2] rfl)

set_option maxHeartbeats 4000000 in
set_option maxRecDepth 100000 in
theorem c_X6_slatesLeft (l : Launch) (g : gG) {n : Nat} {S : Nat → gE} {o : Nat} {pl : Nat} {zR : Int} {lv : Nat → Int} {pl : Nat} {nH pHi pWi pLp pBk pHp : Int} (ho : S o = oO 6 [.ref pl, .ref (o + 1), .ref (o + 2), .ref (o + 3), .int (iI zR)]) (hlv : S (o + 1) = oI g 8 lv) (hp : S pl = oO 5 [.ref (pl + 1), .ref (pl + 2), .ref (pl + 3), .int (iI nH), .int (iI pHi), .int (iI pWi), .int (iI pLp), .int (iI pBk), .int (iI pHp)]) (rH : 0 ≤ nH ∧ nH ≤ 8) : g_Cp l yX6_slatesLeft wsX6_slatesLeft { frames := 0, cells := 0, slots := 0, locals := 0 } g [.ref o] n S (some (.int (iI (sumI lv nH.toNat)))) := by
  refine g_Cp.of (cc := cX6_slatesLeft) (maxL := 3) (ret := (some .int)) (by decide) rfl (Nat.le_of_ble_eq_true rfl) ?_
  intro pp ee s m below meth cK Q ls hc hnm hw hl hret
  have hl : lv_has ls 3 [(0, .ref o)] := hl
  have hiX6 : ∀ w ∈ u_ws RX6 TX6 5, w ∈ wsX6_slatesLeft := by decide +kernel
  have hiX5 : ∀ w ∈ u_ws RX5 TX5 9, w ∈ wsX6_slatesLeft := by decide +kernel
  have lk26 : Cond.fieldLink RX6 26 "RoofCourses$Roof" "plan" "LRoofCourses$Plan;" ∈ wsX6_slatesLeft := by decide +kernel
  have lk78 : Cond.fieldLink RX6 78 "RoofCourses$Plan" "heaps" "I" ∈ wsX6_slatesLeft := by decide +kernel
  have lk9 : Cond.fieldLink RX6 9 "RoofCourses$Roof" "left" "[I" ∈ wsX6_slatesLeft := by decide +kernel
  have hrt : ∀ (pc : Nat) (ls : Array Slot) (xr : Int), decode cX6_slatesLeft pc = .ok (.ireturn, 1) → xr = (sumI lv nH.toNat) → W pp l ee ({ frames := 0, cells := 0, slots := 0, locals := 0 } : Room) s m ([.ref o] : List Value).toArray below meth cK s.heap [] 0 0 Q (F0 m pc ls [.int (iI xr)]) := fun pc ls xr d hx => by subst hx; exact hret pc ls ⟨_, rfl, rfl, d⟩
  refine nn_iconst hc dX6_slatesLeft_0 ?_
  refine lv_istore_n (lv' := [(1, .int (iI 0)), (0, .ref o)]) hc.1 hc.2.1 dX6_slatesLeft_1 rfl hl (by decide) rfl (fun ls hl => ?_)
  refine nn_iconst hc dX6_slatesLeft_2 ?_
  refine lv_istore_n (lv' := [(2, .int (iI 0)), (1, .int (iI 0)), (0, .ref o)]) hc.1 hc.2.1 dX6_slatesLeft_3 rfl hl (by decide) rfl (fun ls hl => ?_)
  have lab4 : ∀ (fu4 : Nat) (k : Int) (t : Int) (ls : Array Slot), (0 ≤ k ∧ k ≤ nH) → (t = sumI lv k.toNat) → (nH - k).toNat < fu4 → lv_has ls 3 [(1, .int (iI t)), (2, .int (iI k)), (0, .ref o)] → W pp l ee ({ frames := 0, cells := 0, slots := 0, locals := 0 } : Room) s m ([.ref o] : List Value).toArray below meth cK s.heap [] 0 0 Q (F0 m 4 ls []) := by
    intro fu4
    induction fu4 with
    | zero =>
      intro k t ls hk ht hmeas hl
      exact absurd hmeas (Nat.not_lt_zero _)
    | succ fu4 ih4 =>
      intro k t ls hk ht hmeas hl
      refine lv_iload_n hc.1 hc.2.1 dX6_slatesLeft_4 rfl (lv_at hl 1 rfl) ?_
      refine lv_aload_n hc.1 hc.2.1 dX6_slatesLeft_5 rfl (lv_at hl 2 rfl) ?_
      refine nn_get hc hw ho hiX6 rfl 0 (by decide) rfl lk26 dX6_slatesLeft_6 ?_
      refine nn_get hc hw hp hiX5 rfl 3 (by decide) rfl lk78 dX6_slatesLeft_9 ?_
      refine nn_icmp_ge hc dX6_slatesLeft_12 (tgt := 30) (by decide) (by omega) (by omega) (fun c1 => ?_) (fun c1 => ?_)
      · refine lv_iload_n hc.1 hc.2.1 dX6_slatesLeft_30 rfl (lv_at hl 0 rfl) ?_
        exact hrt _ _ _ dX6_slatesLeft_31 (by rw [ht, show k.toNat = nH.toNat by omega])
      · refine lv_iload_n hc.1 hc.2.1 dX6_slatesLeft_15 rfl (lv_at hl 0 rfl) ?_
        refine lv_aload_n hc.1 hc.2.1 dX6_slatesLeft_16 rfl (lv_at hl 2 rfl) ?_
        refine nn_get hc hw ho hiX6 rfl 1 (by decide) rfl lk9 dX6_slatesLeft_17 ?_
        refine lv_iload_n hc.1 hc.2.1 dX6_slatesLeft_20 rfl (lv_at hl 1 rfl) ?_
        refine nn_iald hc hw hlv (by omega) (by omega) dX6_slatesLeft_21 ?_
        refine nn_iadd hc dX6_slatesLeft_22 ?_
        refine lv_istore_n (lv' := [(1, .int (iI (t + (lv k.toNat)))), (2, .int (iI k)), (0, .ref o)]) hc.1 hc.2.1 dX6_slatesLeft_23 rfl hl (by decide) rfl (fun ls hl => ?_)
        refine nn_iinc (lv' := [(2, .int (iI (k + 1))), (1, .int (iI (t + (lv k.toNat)))), (0, .ref o)]) hc dX6_slatesLeft_24 hl (k0 := 1) rfl (by decide) rfl (fun ls hl => ?_)
        refine lv_goto hc.1 hc.2.1 dX6_slatesLeft_27 (tgt := 4) (by decide) ?_
        exact ih4 (k + 1) (t + (lv k.toNat)) _ (by omega) (by rw [ht, sumI_s (by omega)]) (by omega) (lv_sub hl [1, 0, 2] rfl)
  exact lab4 _ 0 0 _ (by omega) (rfl) (Nat.lt_succ_self _) (lv_sub hl [1, 0, 2] rfl)

set_option maxHeartbeats 4000000 in
set_option maxRecDepth 100000 in
theorem c_X6_lapHeldBy (l : Launch) (g : gG) {n : Nat} {S : Nat → gE} {o : Nat} {pl : Nat} {zR : Int} {cs : Nat → Option Nat} {ca : Nat → Nat} {kL kF kG kR kZ kW kU : Nat → Int} {x : Int} (ho : S o = oO 6 [.ref pl, .ref (o + 1), .ref (o + 2), .ref (o + 3), .int (iI zR)]) (hcs : S (o + 2) = oR g 2 20 cs) (rzR : 0 ≤ zR ∧ zR ≤ 20) (rx : 0 ≤ x ∧ x < zR) (hca : ∀ j : Nat, (j : Int) < zR → cs j = some (ca j)) (hck : ∀ j : Nat, (j : Int) < zR → S (ca j) = oO 3 [.ref (ca j + 1), .ref (ca j + 2), .int (iI (kL j)), .int (iI (kF j)), .int (iI (kG j)), .int (iI (kR j)), .int (iI (kZ j)), .int (iI (kW j)), .int (iI (kU j))]) : g_Cp l yX6_lapHeldBy wsX6_lapHeldBy { frames := 0, cells := 0, slots := 0, locals := 0 } g [.ref o, .int (iI x)] n S (some (.int (iI (if x < zR - 1 then kL x.toNat - kG x.toNat - kG (x + 1).toNat else -4)))) := by
  refine g_Cp.of (cc := cX6_lapHeldBy) (maxL := 2) (ret := (some .int)) (by decide) rfl (Nat.le_of_ble_eq_true rfl) ?_
  intro pp ee s m below meth cK Q ls hc hnm hw hl hret
  have hl : lv_has ls 2 [(0, .ref o), (1, .int (iI x))] := hl
  have hiX6 : ∀ w ∈ u_ws RX6 TX6 5, w ∈ wsX6_lapHeldBy := by decide +kernel
  have hiX3 : ∀ w ∈ u_ws RX3 TX3 9, w ∈ wsX6_lapHeldBy := by decide +kernel
  have lk45 : Cond.fieldLink RX6 45 "RoofCourses$Roof" "size" "I" ∈ wsX6_lapHeldBy := by decide +kernel
  have lk17 : Cond.fieldLink RX6 17 "RoofCourses$Roof" "courses" "[LRoofCourses$Course;" ∈ wsX6_lapHeldBy := by decide +kernel
  have lk30 : Cond.fieldLink RX6 30 "RoofCourses$Course" "length" "I" ∈ wsX6_lapHeldBy := by decide +kernel
  have lk72 : Cond.fieldLink RX6 72 "RoofCourses$Course" "gauge" "I" ∈ wsX6_lapHeldBy := by decide +kernel
  have hrt : ∀ (pc : Nat) (ls : Array Slot) (xr : Int), decode cX6_lapHeldBy pc = .ok (.ireturn, 1) → xr = (if x < zR - 1 then kL x.toNat - kG x.toNat - kG (x + 1).toNat else -4) → W pp l ee ({ frames := 0, cells := 0, slots := 0, locals := 0 } : Room) s m ([.ref o, .int (iI x)] : List Value).toArray below meth cK s.heap [] 0 0 Q (F0 m pc ls [.int (iI xr)]) := fun pc ls xr d hx => by subst hx; exact hret pc ls ⟨_, rfl, rfl, d⟩
  refine lv_iload_n hc.1 hc.2.1 dX6_lapHeldBy_0 rfl (lv_at hl 1 rfl) ?_
  refine nn_if_lt hc dX6_lapHeldBy_1 (tgt := 14) (by decide) (by omega) (fun c1 => ?_) (fun c1 => ?_)
  · exfalso; omega
  · refine lv_iload_n hc.1 hc.2.1 dX6_lapHeldBy_4 rfl (lv_at hl 1 rfl) ?_
    refine lv_aload_n hc.1 hc.2.1 dX6_lapHeldBy_5 rfl (lv_at hl 0 rfl) ?_
    refine nn_get hc hw ho hiX6 rfl 4 (by decide) rfl lk45 dX6_lapHeldBy_6 ?_
    refine nn_iconst hc dX6_lapHeldBy_9 ?_
    refine nn_isub hc dX6_lapHeldBy_10 ?_
    refine nn_icmp_lt hc dX6_lapHeldBy_11 (tgt := 17) (by decide) (by omega) (by omega) (fun c2 => ?_) (fun c2 => ?_)
    · have hx3 : S (ca x.toNat) = oO 3 [.ref (ca x.toNat + 1), .ref (ca x.toNat + 2), .int (iI (kL x.toNat)), .int (iI (kF x.toNat)), .int (iI (kG x.toNat)), .int (iI (kR x.toNat)), .int (iI (kZ x.toNat)), .int (iI (kW x.toNat)), .int (iI (kU x.toNat))] := hck _ (by omega)
      have hx4 : S (ca (x + 1).toNat) = oO 3 [.ref (ca (x + 1).toNat + 1), .ref (ca (x + 1).toNat + 2), .int (iI (kL (x + 1).toNat)), .int (iI (kF (x + 1).toNat)), .int (iI (kG (x + 1).toNat)), .int (iI (kR (x + 1).toNat)), .int (iI (kZ (x + 1).toNat)), .int (iI (kW (x + 1).toNat)), .int (iI (kU (x + 1).toNat))] := hck _ (by omega)
      refine lv_aload_n hc.1 hc.2.1 dX6_lapHeldBy_17 rfl (lv_at hl 0 rfl) ?_
      refine nn_get hc hw ho hiX6 rfl 2 (by decide) rfl lk17 dX6_lapHeldBy_18 ?_
      refine lv_iload_n hc.1 hc.2.1 dX6_lapHeldBy_21 rfl (lv_at hl 1 rfl) ?_
      refine nn_aald (x := some (ca x.toNat)) hc hw hcs rfl (by omega) (by omega) (hca _ (by omega)) dX6_lapHeldBy_22 ?_
      refine W.eq (g2 := F0 m 23 ls [.ref (ca x.toNat)]) rfl ?_
      refine nn_get hc hw hx3 hiX3 rfl 2 (by decide) rfl lk30 dX6_lapHeldBy_23 ?_
      refine lv_aload_n hc.1 hc.2.1 dX6_lapHeldBy_26 rfl (lv_at hl 0 rfl) ?_
      refine nn_get hc hw ho hiX6 rfl 2 (by decide) rfl lk17 dX6_lapHeldBy_27 ?_
      refine lv_iload_n hc.1 hc.2.1 dX6_lapHeldBy_30 rfl (lv_at hl 1 rfl) ?_
      refine nn_aald (x := some (ca x.toNat)) hc hw hcs rfl (by omega) (by omega) (hca _ (by omega)) dX6_lapHeldBy_31 ?_
      refine W.eq (g2 := F0 m 32 ls [.ref (ca x.toNat), .int (iI (kL x.toNat))]) rfl ?_
      refine nn_get hc hw hx3 hiX3 rfl 4 (by decide) rfl lk72 dX6_lapHeldBy_32 ?_
      refine nn_isub hc dX6_lapHeldBy_35 ?_
      refine lv_aload_n hc.1 hc.2.1 dX6_lapHeldBy_36 rfl (lv_at hl 0 rfl) ?_
      refine nn_get hc hw ho hiX6 rfl 2 (by decide) rfl lk17 dX6_lapHeldBy_37 ?_
      refine lv_iload_n hc.1 hc.2.1 dX6_lapHeldBy_40 rfl (lv_at hl 1 rfl) ?_
      refine nn_iconst hc dX6_lapHeldBy_41 ?_
      refine nn_iadd hc dX6_lapHeldBy_42 ?_
      refine nn_aald (x := some (ca (x + 1).toNat)) hc hw hcs rfl (by omega) (by omega) (hca _ (by omega)) dX6_lapHeldBy_43 ?_
      refine W.eq (g2 := F0 m 44 ls [.ref (ca (x + 1).toNat), .int (iI ((kL x.toNat) - (kG x.toNat)))]) rfl ?_
      refine nn_get hc hw hx4 hiX3 rfl 4 (by decide) rfl lk72 dX6_lapHeldBy_44 ?_
      refine nn_isub hc dX6_lapHeldBy_47 ?_
      exact hrt _ _ _ dX6_lapHeldBy_48 (by rw [if_pos (by omega)])
    · refine nn_bipush hc dX6_lapHeldBy_14 (by decide +kernel) ?_
      exact hrt _ _ _ dX6_lapHeldBy_16 (by rw [if_neg (by omega)])

set_option maxHeartbeats 4000000 in
set_option maxRecDepth 100000 in
theorem c_X6_laidOf (l : Launch) (g : gG) {n : Nat} {S : Nat → gE} {o : Nat} {pl : Nat} {zR : Int} {cs : Nat → Option Nat} {ca : Nat → Nat} {kL kF kG kR kZ kW kU : Nat → Int} {kh : Nat → Nat → Int} {h : Int} (ho : S o = oO 6 [.ref pl, .ref (o + 1), .ref (o + 2), .ref (o + 3), .int (iI zR)]) (hcs : S (o + 2) = oR g 2 20 cs) (rzR : 0 ≤ zR ∧ zR ≤ 20) (hca : ∀ j : Nat, (j : Int) < zR → cs j = some (ca j)) (hck : ∀ j : Nat, (j : Int) < zR → S (ca j) = oO 3 [.ref (ca j + 1), .ref (ca j + 2), .int (iI (kL j)), .int (iI (kF j)), .int (iI (kG j)), .int (iI (kR j)), .int (iI (kZ j)), .int (iI (kW j)), .int (iI (kU j))]) (hch : ∀ j : Nat, (j : Int) < zR → S (ca j + 1) = oI g 60 (kh j)) (hcz : ∀ j : Nat, (j : Int) < zR → 0 ≤ kZ j ∧ kZ j ≤ 60) (hcr : ∀ j k : Nat, (j : Int) < zR → (k : Int) < kZ j → 0 ≤ kh j k ∧ kh j k < 8) (rh : 0 ≤ h ∧ h < 8) : g_Cp l yX6_laidOf wsX6_laidOf { frames := 0, cells := 0, slots := 0, locals := 0 } g [.ref o, .int (iI h)] n S (some (.int (iI (cnt2 kh kZ h zR.toNat)))) := by
  refine g_Cp.of (cc := cX6_laidOf) (maxL := 6) (ret := (some .int)) (by decide) rfl (Nat.le_of_ble_eq_true rfl) ?_
  intro pp ee s m below meth cK Q ls hc hnm hw hl hret
  have hl : lv_has ls 6 [(0, .ref o), (1, .int (iI h))] := hl
  have hiX6 : ∀ w ∈ u_ws RX6 TX6 5, w ∈ wsX6_laidOf := by decide +kernel
  have hiX3 : ∀ w ∈ u_ws RX3 TX3 9, w ∈ wsX6_laidOf := by decide +kernel
  have lk45 : Cond.fieldLink RX6 45 "RoofCourses$Roof" "size" "I" ∈ wsX6_laidOf := by decide +kernel
  have lk17 : Cond.fieldLink RX6 17 "RoofCourses$Roof" "courses" "[LRoofCourses$Course;" ∈ wsX6_laidOf := by decide +kernel
  have lk60 : Cond.fieldLink RX6 60 "RoofCourses$Course" "size" "I" ∈ wsX6_laidOf := by decide +kernel
  have lk61 : Cond.fieldLink RX6 61 "RoofCourses$Course" "heapOf" "[I" ∈ wsX6_laidOf := by decide +kernel
  have hrt : ∀ (pc : Nat) (ls : Array Slot) (xr : Int), decode cX6_laidOf pc = .ok (.ireturn, 1) → xr = (cnt2 kh kZ h zR.toNat) → W pp l ee ({ frames := 0, cells := 0, slots := 0, locals := 0 } : Room) s m ([.ref o, .int (iI h)] : List Value).toArray below meth cK s.heap [] 0 0 Q (F0 m pc ls [.int (iI xr)]) := fun pc ls xr d hx => by subst hx; exact hret pc ls ⟨_, rfl, rfl, d⟩
  refine nn_iconst hc dX6_laidOf_0 ?_
  refine lv_istore_n (lv' := [(2, .int (iI 0)), (0, .ref o), (1, .int (iI h))]) hc.1 hc.2.1 dX6_laidOf_1 rfl hl (by decide) rfl (fun ls hl => ?_)
  refine nn_iconst hc dX6_laidOf_2 ?_
  refine lv_istore_n (lv' := [(3, .int (iI 0)), (2, .int (iI 0)), (0, .ref o), (1, .int (iI h))]) hc.1 hc.2.1 dX6_laidOf_3 rfl hl (by decide) rfl (fun ls hl => ?_)
  have lab4 : ∀ (fu4 : Nat) (k : Int) (t : Int) (ls : Array Slot), (0 ≤ k ∧ k ≤ zR) → (t = cnt2 kh kZ h k.toNat) → (zR - k).toNat < fu4 → lv_has ls 6 [(2, .int (iI t)), (3, .int (iI k)), (0, .ref o), (1, .int (iI h))] → W pp l ee ({ frames := 0, cells := 0, slots := 0, locals := 0 } : Room) s m ([.ref o, .int (iI h)] : List Value).toArray below meth cK s.heap [] 0 0 Q (F0 m 4 ls []) := by
    intro fu4
    induction fu4 with
    | zero =>
      intro k t ls hk ht hmeas hl
      exact absurd hmeas (Nat.not_lt_zero _)
    | succ fu4 ih4 =>
      intro k t ls hk ht hmeas hl
      refine lv_iload_n hc.1 hc.2.1 dX6_laidOf_4 rfl (lv_at hl 1 rfl) ?_
      refine lv_aload_n hc.1 hc.2.1 dX6_laidOf_5 rfl (lv_at hl 2 rfl) ?_
      refine nn_get hc hw ho hiX6 rfl 4 (by decide) rfl lk45 dX6_laidOf_6 ?_
      refine nn_icmp_ge hc dX6_laidOf_9 (tgt := 60) (by decide) (by omega) (by omega) (fun c1 => ?_) (fun c1 => ?_)
      · refine lv_iload_n hc.1 hc.2.1 dX6_laidOf_60 rfl (lv_at hl 0 rfl) ?_
        exact hrt _ _ _ dX6_laidOf_61 (by rw [ht, show k.toNat = zR.toNat by omega])
      · have hz1 := hcz k.toNat (by omega)
        have hx2 : S (ca k.toNat) = oO 3 [.ref (ca k.toNat + 1), .ref (ca k.toNat + 2), .int (iI (kL k.toNat)), .int (iI (kF k.toNat)), .int (iI (kG k.toNat)), .int (iI (kR k.toNat)), .int (iI (kZ k.toNat)), .int (iI (kW k.toNat)), .int (iI (kU k.toNat))] := hck _ (by omega)
        have hx3 : S (ca k.toNat + 1) = oI g 60 (kh k.toNat) := hch _ (by omega)
        refine lv_aload_n hc.1 hc.2.1 dX6_laidOf_12 rfl (lv_at hl 2 rfl) ?_
        refine nn_get hc hw ho hiX6 rfl 2 (by decide) rfl lk17 dX6_laidOf_13 ?_
        refine lv_iload_n hc.1 hc.2.1 dX6_laidOf_16 rfl (lv_at hl 1 rfl) ?_
        refine nn_aald (x := some (ca k.toNat)) hc hw hcs rfl (by omega) (by omega) (hca _ (by omega)) dX6_laidOf_17 ?_
        refine W.eq (g2 := F0 m 18 ls [.ref (ca k.toNat)]) rfl ?_
        refine lv_astore (lv' := [(4, .ref (ca k.toNat)), (2, .int (iI t)), (3, .int (iI k)), (0, .ref o), (1, .int (iI h))]) hc.1 hc.2.1 dX6_laidOf_18 hl (by decide) rfl (fun ls hl => ?_)
        refine nn_iconst hc dX6_laidOf_20 ?_
        refine lv_istore (lv' := [(5, .int (iI 0)), (4, .ref (ca k.toNat)), (2, .int (iI t)), (3, .int (iI k)), (0, .ref o), (1, .int (iI h))]) hc.1 hc.2.1 dX6_laidOf_21 hl (by decide) rfl (fun ls hl => ?_)
        have lab23 : ∀ (fu23 : Nat) (i : Int) (t2 : Int) (ls : Array Slot), (0 ≤ i ∧ i ≤ kZ k.toNat) → (t2 = cnt2 kh kZ h k.toNat + cnt1 (kh k.toNat) h i.toNat) → (kZ k.toNat - i).toNat < fu23 → lv_has ls 6 [(5, .int (iI i)), (2, .int (iI t2)), (0, .ref o), (1, .int (iI h)), (3, .int (iI k)), (4, .ref (ca k.toNat))] → W pp l ee ({ frames := 0, cells := 0, slots := 0, locals := 0 } : Room) s m ([.ref o, .int (iI h)] : List Value).toArray below meth cK s.heap [] 0 0 Q (F0 m 23 ls []) := by
          intro fu23
          induction fu23 with
          | zero =>
            intro i t2 ls hi ht2 hmeas hl
            exact absurd hmeas (Nat.not_lt_zero _)
          | succ fu23 ih23 =>
            intro i t2 ls hi ht2 hmeas hl
            refine lv_iload hc.1 hc.2.1 dX6_laidOf_23 (lv_at hl 0 rfl) ?_
            refine lv_aload hc.1 hc.2.1 dX6_laidOf_25 (lv_at hl 5 rfl) ?_
            refine nn_get hc hw hx2 hiX3 rfl 6 (by decide) rfl lk60 dX6_laidOf_27 ?_
            refine nn_icmp_ge hc dX6_laidOf_30 (tgt := 54) (by decide) (by omega) (by omega) (fun c4 => ?_) (fun c4 => ?_)
            · refine nn_iinc (lv' := [(3, .int (iI (k + 1))), (5, .int (iI i)), (2, .int (iI t2)), (0, .ref o), (1, .int (iI h)), (4, .ref (ca k.toNat))]) hc dX6_laidOf_54 hl (k0 := 4) rfl (by decide) rfl (fun ls hl => ?_)
              refine lv_goto hc.1 hc.2.1 dX6_laidOf_57 (tgt := 4) (by decide) ?_
              exact ih4 (k + 1) t2 _ (by omega) (by rw [ht2, show i.toNat = (kZ k.toNat).toNat by omega, cnt2_s (by omega)]) (by omega) (lv_sub hl [2, 0, 3, 4] rfl)
            · have hr1 := hcr k.toNat i.toNat (by omega) (by omega)
              refine lv_aload hc.1 hc.2.1 dX6_laidOf_33 (lv_at hl 5 rfl) ?_
              refine nn_get hc hw hx2 hiX3 rfl 0 (by decide) rfl lk61 dX6_laidOf_35 ?_
              refine lv_iload hc.1 hc.2.1 dX6_laidOf_38 (lv_at hl 0 rfl) ?_
              refine nn_iald hc hw hx3 (by omega) (by omega) dX6_laidOf_40 ?_
              refine lv_iload_n hc.1 hc.2.1 dX6_laidOf_41 rfl (lv_at hl 3 rfl) ?_
              refine nn_icmp_ne hc dX6_laidOf_42 (tgt := 48) (by decide) (by omega) (by omega) (fun c5 => ?_) (fun c5 => ?_)
              · refine nn_iinc (lv' := [(5, .int (iI (i + 1))), (2, .int (iI t2)), (0, .ref o), (1, .int (iI h)), (3, .int (iI k)), (4, .ref (ca k.toNat))]) hc dX6_laidOf_48 hl (k0 := 0) rfl (by decide) rfl (fun ls hl => ?_)
                refine lv_goto hc.1 hc.2.1 dX6_laidOf_51 (tgt := 23) (by decide) ?_
                exact ih23 (i + 1) t2 _ (by omega) (by rw [ht2, cnt1_s (by omega)]; first | (rw [if_pos (by omega)]; omega) | (rw [if_neg (by omega)]; omega)) (by omega) (lv_sub hl [0, 1, 2, 3, 4, 5] rfl)
              · refine nn_iinc (lv' := [(2, .int (iI (t2 + 1))), (5, .int (iI i)), (0, .ref o), (1, .int (iI h)), (3, .int (iI k)), (4, .ref (ca k.toNat))]) hc dX6_laidOf_45 hl (k0 := 1) rfl (by decide) rfl (fun ls hl => ?_)
                refine nn_iinc (lv' := [(5, .int (iI (i + 1))), (2, .int (iI (t2 + 1))), (0, .ref o), (1, .int (iI h)), (3, .int (iI k)), (4, .ref (ca k.toNat))]) hc dX6_laidOf_48 hl (k0 := 1) rfl (by decide) rfl (fun ls hl => ?_)
                refine lv_goto hc.1 hc.2.1 dX6_laidOf_51 (tgt := 23) (by decide) ?_
                exact ih23 (i + 1) (t2 + 1) _ (by omega) (by rw [ht2, cnt1_s (by omega)]; first | (rw [if_pos (by omega)]; omega) | (rw [if_neg (by omega)]; omega)) (by omega) (lv_sub hl [0, 1, 2, 3, 4, 5] rfl)
        exact lab23 _ 0 t _ (by omega) (by rw [ht]; simp [cnt1]) (Nat.lt_succ_self _) (lv_sub hl [0, 2, 4, 5, 3, 1] rfl)
  exact lab4 _ 0 0 _ (by omega) (rfl) (Nat.lt_succ_self _) (lv_sub hl [1, 0, 2, 3] rfl)

set_option maxHeartbeats 4000000 in
set_option maxRecDepth 100000 in
theorem c_X1_init (l : Launch) (g : gG) {n : Nat} {S : Nat → gE} {a : Nat} {kd hn sn : Int} {co : Nat} (ha : S a = oO 1 [.int (iI 0), .null, .int (iI 0), .int (iI 0)])  : g_Cs l yX1_init wsX1_init { frames := 1, cells := 0, slots := 0, locals := 12 } g [.ref a, .int (iI kd), .ref co, .int (iI hn), .int (iI sn)] n S (fun vr n1 S1 => vr = none ∧ n = n1 ∧ S1 a = oO 1 [.int (iI kd), .ref co, .int (iI hn), .int (iI sn)] ∧ (∀ bb, bb ≠ a → S1 bb = S bb)) 0 0 := by
  refine g_Cs.of (cc := cX1_init) (maxL := 5) (ret := none) (by decide) rfl (Nat.le_of_ble_eq_true rfl) ?_
  intro pp ee s m below meth cK Q H locs ls hc hnm hw hl hret
  have hl : lv_has ls 5 [(0, .ref a), (1, .int (iI kd)), (2, .ref co), (3, .int (iI hn)), (4, .int (iI sn))] := hl
  have hiX1 : ∀ w ∈ u_ws RX1 TX1 4, w ∈ wsX1_init := by decide +kernel
  have lkO : Cond.methodLink RX1 1 objectInit ∈ wsX1_init := by decide +kernel
  have lkOi : Cond.instanceMethod objectInit ∈ wsX1_init := by decide +kernel
  have lkOc : Cond.code objectInit ⟨#[0xb1]⟩ 1 none ∈ wsX1_init := by decide +kernel
  have lk7 : Cond.fieldLink RX1 7 "RoofCourses$Change" "kind" "I" ∈ wsX1_init := by decide +kernel
  have lk13 : Cond.fieldLink RX1 13 "RoofCourses$Change" "course" "LRoofCourses$Course;" ∈ wsX1_init := by decide +kernel
  have lk17 : Cond.fieldLink RX1 17 "RoofCourses$Change" "heapNumber" "I" ∈ wsX1_init := by decide +kernel
  have lk20 : Cond.fieldLink RX1 20 "RoofCourses$Change" "slates" "I" ∈ wsX1_init := by decide +kernel
  refine lv_aload_n hc.1 hc.2.1 dX1_init_0 rfl (lv_at hl 0 rfl) ?_
  refine W.objInit hc.1 hc.2.1 hc.2.2.2.1 (hc.2.2.2.2 _ lkO) (hc.2.2.2.2 _ lkOi) (hc.2.2.2.2 _ lkOc) rfl (by rw [hc.2.2.1]; exact hl.1) rfl dX1_init_1 (Nat.le_of_ble_eq_true rfl) (Nat.le_of_ble_eq_true rfl) ?_
  refine W.eq (g2 := F0 m 4 ls []) rfl ?_
  refine lv_aload_n hc.1 hc.2.1 dX1_init_4 rfl (lv_at hl 0 rfl) ?_
  refine lv_iload_n hc.1 hc.2.1 dX1_init_5 rfl (lv_at hl 1 rfl) ?_
  refine nn_putF hc hnm hw ha hiX1 tyX1 tyX1_ok nmX1 rfl 0 (by decide) (Nat.le_of_ble_eq_true rfl) lk7 rfl rfl rfl rfl dX1_init_6 (fun S1 H locs hS1 fS1 hw => ?_)
  have hS1 : S1 a = oO 1 [.int (iI kd), .null, .int (iI 0), .int (iI 0)] := hS1
  refine lv_aload_n hc.1 hc.2.1 dX1_init_9 rfl (lv_at hl 0 rfl) ?_
  refine lv_aload_n hc.1 hc.2.1 dX1_init_10 rfl (lv_at hl 2 rfl) ?_
  refine nn_putF hc hnm hw hS1 hiX1 tyX1 tyX1_ok nmX1 rfl 1 (by decide) (Nat.le_of_ble_eq_true rfl) lk13 rfl rfl rfl rfl dX1_init_11 (fun S2 H locs hS2 fS2 hw => ?_)
  have hS2 : S2 a = oO 1 [.int (iI kd), .ref co, .int (iI 0), .int (iI 0)] := hS2
  refine lv_aload_n hc.1 hc.2.1 dX1_init_14 rfl (lv_at hl 0 rfl) ?_
  refine lv_iload_n hc.1 hc.2.1 dX1_init_15 rfl (lv_at hl 3 rfl) ?_
  refine nn_putF hc hnm hw hS2 hiX1 tyX1 tyX1_ok nmX1 rfl 2 (by decide) (Nat.le_of_ble_eq_true rfl) lk17 rfl rfl rfl rfl dX1_init_16 (fun S3 H locs hS3 fS3 hw => ?_)
  have hS3 : S3 a = oO 1 [.int (iI kd), .ref co, .int (iI hn), .int (iI 0)] := hS3
  refine lv_aload_n hc.1 hc.2.1 dX1_init_19 rfl (lv_at hl 0 rfl) ?_
  refine lv_iload hc.1 hc.2.1 dX1_init_20 (lv_at hl 4 rfl) ?_
  refine nn_putF hc hnm hw hS3 hiX1 tyX1 tyX1_ok nmX1 rfl 3 (by decide) (Nat.le_of_ble_eq_true rfl) lk20 rfl rfl rfl rfl dX1_init_22 (fun S4 H locs hS4 fS4 hw => ?_)
  have hS4 : S4 a = oO 1 [.int (iI kd), .ref co, .int (iI hn), .int (iI sn)] := hS4
  exact hret none _ S4 _ _ _ _ hw (⟨rfl, rfl, hS4, fun bb hb0 => ((((fS4 bb hb0)).trans (fS3 bb hb0)).trans (fS2 bb hb0)).trans (fS1 bb hb0)⟩) ⟨rfl, dX1_init_25⟩

set_option maxHeartbeats 4000000 in
set_option maxRecDepth 100000 in
theorem c_X1_undoOn_0 (l : Launch) (g : gG) {n : Nat} {S : Nat → gE} {a : Nat} {hn sn : Int} {o : Nat} {pl : Nat} {zR : Int} {lv : Nat → Int} {cs : Nat → Option Nat} {q : Nat} {qL qF qG qR qZ qW qU : Int} {hf : Nat → Int} (ha : S a = oO 1 [.int (iI 0), .ref q, .int (iI hn), .int (iI sn)]) (ho : S o = oO 6 [.ref pl, .ref (o + 1), .ref (o + 2), .ref (o + 3), .int (iI zR)]) (hlv : S (o + 1) = oI g 8 lv) (hcs : S (o + 2) = oR g 2 20 cs) (hq : S q = oO 3 [.ref (q + 1), .ref (q + 2), .int (iI qL), .int (iI qF), .int (iI qG), .int (iI qR), .int (iI qZ), .int (iI qW), .int (iI qU)]) (hqh : S (q + 1) = oI g 60 hf) (rzR : 0 < zR ∧ zR ≤ 20) (hla : cs (zR - 1).toNat = some q) (rZ : 0 ≤ qZ ∧ qZ ≤ 60) (rh : ∀ k : Nat, (k : Int) < qZ → 0 ≤ hf k ∧ hf k < 8) (hd : o + 4 ≤ q ∨ q + 3 ≤ o ∨ q = o + 3) : g_Cs l yX1_undoOn wsX1_undoOn { frames := 4, cells := 0, slots := 0, locals := 88 } g [.ref a, .ref o] n S (fun vr n1 S1 => vr = none ∧ n = n1 ∧ S1 o = oO 6 [.ref pl, .ref (o + 1), .ref (o + 2), .ref (o + 3), .int (iI (zR - 1))] ∧ S1 (o + 1) = oI g 8 (adS lv hf 1 qZ.toNat) ∧ (∀ bb, bb ≠ o → bb ≠ (o + 1) → S1 bb = S bb)) 0 0 := by
  refine g_Cs.of (cc := cX1_undoOn) (maxL := 2) (ret := none) (by decide) rfl (Nat.le_of_ble_eq_true rfl) ?_
  intro pp ee s m below meth cK Q H locs ls hc hnm hw hl hret
  have hl : lv_has ls 2 [(0, .ref a), (1, .ref o)] := hl
  have hiX1 : ∀ w ∈ u_ws RX1 TX1 4, w ∈ wsX1_undoOn := by decide +kernel
  have lk7 : Cond.fieldLink RX1 7 "RoofCourses$Change" "kind" "I" ∈ wsX1_undoOn := by decide +kernel
  refine lv_aload_n hc.1 hc.2.1 dX1_undoOn_0 rfl (lv_at hl 0 rfl) ?_
  refine nn_get hc hw ha hiX1 rfl 0 (by decide) rfl lk7 dX1_undoOn_1 ?_
  refine nn_if_ne hc dX1_undoOn_4 (tgt := 15) (by decide) (by decide) (fun c1 => ?_) (fun c1 => ?_)
  · exact absurd c1 (by decide)
  · refine lv_aload_n hc.1 hc.2.1 dX1_undoOn_7 rfl (lv_at hl 1 rfl) ?_
    refine nn_Vs (As := []) (st := []) hc hw ho rfl (c_X6_pop l g  ho hlv hcs hq hqh (by omega) (hla) (by omega) (rh) (by omega)) (cwV 0 hc.2.2.2.2 gX1_undoOn_X6_pop rfl rfl rfl (by decide +kernel) ⟨Nat.le_of_ble_eq_true rfl, Nat.le_of_ble_eq_true rfl⟩) rfl hl.1 rfl (Nat.le_of_ble_eq_true rfl) ⟨Nat.le_of_ble_eq_true rfl, Nat.le_of_ble_eq_true rfl⟩ dX1_undoOn_8 (fun vr n1 S2 H locs qS2 hw => ?_)
    obtain ⟨rfl, rfl, hS2_0, hS2_1, fS2⟩ := qS2
    refine W.eq (g2 := F0 m 11 ls [.ref q]) rfl ?_
    refine lv_pop hc.1 hc.2.1 dX1_undoOn_11 rfl ?_
    refine lv_goto hc.1 hc.2.1 dX1_undoOn_12 (tgt := 50) (by decide) ?_
    exact hret none _ S2 _ _ _ _ hw (⟨rfl, rfl, hS2_0, hS2_1, fun bb hb0 hb1 => (fS2 bb hb0 hb1)⟩) ⟨rfl, dX1_undoOn_50⟩

set_option maxHeartbeats 4000000 in
set_option maxRecDepth 100000 in
theorem c_X1_undoOn_1 (l : Launch) (g : gG) {n : Nat} {S : Nat → gE} {a : Nat} {hn sn : Int} {o : Nat} {pl : Nat} {zR : Int} {lv : Nat → Int} {cs : Nat → Option Nat} {q : Nat} {qL qF qG qR qZ qW qU : Int} {hf : Nat → Int} (ha : S a = oO 1 [.int (iI 1), .ref q, .int (iI hn), .int (iI sn)]) (ho : S o = oO 6 [.ref pl, .ref (o + 1), .ref (o + 2), .ref (o + 3), .int (iI zR)]) (hlv : S (o + 1) = oI g 8 lv) (hcs : S (o + 2) = oR g 2 20 cs) (hq : S q = oO 3 [.ref (q + 1), .ref (q + 2), .int (iI qL), .int (iI qF), .int (iI qG), .int (iI qR), .int (iI qZ), .int (iI qW), .int (iI qU)]) (hqh : S (q + 1) = oI g 60 hf) (rzR : 0 ≤ zR ∧ zR < 20) (rZ : 0 ≤ qZ ∧ qZ ≤ 60) (rh : ∀ k : Nat, (k : Int) < qZ → 0 ≤ hf k ∧ hf k < 8) (hd : o + 4 ≤ q ∨ q + 3 ≤ o ∨ q = o + 3) : g_Cs l yX1_undoOn wsX1_undoOn { frames := 4, cells := 0, slots := 0, locals := 88 } g [.ref a, .ref o] n S (fun vr n1 S1 => vr = none ∧ n = n1 ∧ S1 o = oO 6 [.ref pl, .ref (o + 1), .ref (o + 2), .ref (o + 3), .int (iI (zR + 1))] ∧ S1 (o + 1) = oI g 8 (adS lv hf (-1) qZ.toNat) ∧ S1 (o + 2) = oR g 2 20 (va_up cs zR.toNat (some q)) ∧ (∀ bb, bb ≠ o → bb ≠ (o + 1) → bb ≠ (o + 2) → S1 bb = S bb)) 0 0 := by
  refine g_Cs.of (cc := cX1_undoOn) (maxL := 2) (ret := none) (by decide) rfl (Nat.le_of_ble_eq_true rfl) ?_
  intro pp ee s m below meth cK Q H locs ls hc hnm hw hl hret
  have hl : lv_has ls 2 [(0, .ref a), (1, .ref o)] := hl
  have hiX1 : ∀ w ∈ u_ws RX1 TX1 4, w ∈ wsX1_undoOn := by decide +kernel
  have lk7 : Cond.fieldLink RX1 7 "RoofCourses$Change" "kind" "I" ∈ wsX1_undoOn := by decide +kernel
  have lk13 : Cond.fieldLink RX1 13 "RoofCourses$Change" "course" "LRoofCourses$Course;" ∈ wsX1_undoOn := by decide +kernel
  refine lv_aload_n hc.1 hc.2.1 dX1_undoOn_0 rfl (lv_at hl 0 rfl) ?_
  refine nn_get hc hw ha hiX1 rfl 0 (by decide) rfl lk7 dX1_undoOn_1 ?_
  refine nn_if_ne hc dX1_undoOn_4 (tgt := 15) (by decide) (by decide) (fun c1 => ?_) (fun c1 => ?_)
  · refine lv_aload_n hc.1 hc.2.1 dX1_undoOn_15 rfl (lv_at hl 0 rfl) ?_
    refine nn_get hc hw ha hiX1 rfl 0 (by decide) rfl lk7 dX1_undoOn_16 ?_
    refine nn_iconst hc dX1_undoOn_19 ?_
    refine nn_icmp_ne hc dX1_undoOn_20 (tgt := 34) (by decide) (by decide) (by decide) (fun c2 => ?_) (fun c2 => ?_)
    · exact absurd c2 (by decide)
    · refine lv_aload_n hc.1 hc.2.1 dX1_undoOn_23 rfl (lv_at hl 1 rfl) ?_
      refine lv_aload_n hc.1 hc.2.1 dX1_undoOn_24 rfl (lv_at hl 0 rfl) ?_
      refine nn_get hc hw ha hiX1 rfl 1 (by decide) rfl lk13 dX1_undoOn_25 ?_
      refine nn_Vs (As := [.ref q]) (st := []) hc hw ho rfl (c_X6_push l g  ho hlv hcs hq hqh (by omega) (by omega) (rh) (by omega)) (cwV 1 hc.2.2.2.2 gX1_undoOn_X6_push rfl rfl rfl (by decide +kernel) ⟨Nat.le_of_ble_eq_true rfl, Nat.le_of_ble_eq_true rfl⟩) rfl hl.1 rfl (Nat.le_of_ble_eq_true rfl) ⟨Nat.le_of_ble_eq_true rfl, Nat.le_of_ble_eq_true rfl⟩ dX1_undoOn_28 (fun vr n1 S3 H locs qS3 hw => ?_)
      obtain ⟨rfl, rfl, hS3_0, hS3_1, hS3_2, fS3⟩ := qS3
      refine W.eq (g2 := F0 m 31 ls []) rfl ?_
      refine lv_goto hc.1 hc.2.1 dX1_undoOn_31 (tgt := 50) (by decide) ?_
      exact hret none _ S3 _ _ _ _ hw (⟨rfl, rfl, hS3_0, hS3_1, hS3_2, fun bb hb0 hb1 hb2 => (fS3 bb hb0 hb1 hb2)⟩) ⟨rfl, dX1_undoOn_50⟩
  · exact absurd c1 (by decide)

set_option maxHeartbeats 4000000 in
set_option maxRecDepth 100000 in
theorem c_X1_undoOn_2 (l : Launch) (g : gG) {n : Nat} {S : Nat → gE} {a : Nat} {hn sn : Int} {o : Nat} {pl : Nat} {zR : Int} {lv : Nat → Int} {q : Nat} (ha : S a = oO 1 [.int (iI 2), .ref q, .int (iI hn), .int (iI sn)]) (ho : S o = oO 6 [.ref pl, .ref (o + 1), .ref (o + 2), .ref (o + 3), .int (iI zR)]) (hlv : S (o + 1) = oI g 8 lv) (rhn : 0 ≤ hn ∧ hn < 8) : g_Cs l yX1_undoOn wsX1_undoOn { frames := 2, cells := 0, slots := 0, locals := 44 } g [.ref a, .ref o] n S (fun vr n1 S1 => vr = none ∧ n = n1 ∧ S1 (o + 1) = oI g 8 (va_up lv hn.toNat (lv hn.toNat - sn)) ∧ (∀ bb, bb ≠ (o + 1) → S1 bb = S bb)) 0 0 := by
  refine g_Cs.of (cc := cX1_undoOn) (maxL := 2) (ret := none) (by decide) rfl (Nat.le_of_ble_eq_true rfl) ?_
  intro pp ee s m below meth cK Q H locs ls hc hnm hw hl hret
  have hl : lv_has ls 2 [(0, .ref a), (1, .ref o)] := hl
  have hiX1 : ∀ w ∈ u_ws RX1 TX1 4, w ∈ wsX1_undoOn := by decide +kernel
  have hiX6 : ∀ w ∈ u_ws RX6 TX6 5, w ∈ wsX1_undoOn := by decide +kernel
  have lk7 : Cond.fieldLink RX1 7 "RoofCourses$Change" "kind" "I" ∈ wsX1_undoOn := by decide +kernel
  have lk33 : Cond.fieldLink RX1 33 "RoofCourses$Roof" "left" "[I" ∈ wsX1_undoOn := by decide +kernel
  have lk17 : Cond.fieldLink RX1 17 "RoofCourses$Change" "heapNumber" "I" ∈ wsX1_undoOn := by decide +kernel
  have lk20 : Cond.fieldLink RX1 20 "RoofCourses$Change" "slates" "I" ∈ wsX1_undoOn := by decide +kernel
  refine lv_aload_n hc.1 hc.2.1 dX1_undoOn_0 rfl (lv_at hl 0 rfl) ?_
  refine nn_get hc hw ha hiX1 rfl 0 (by decide) rfl lk7 dX1_undoOn_1 ?_
  refine nn_if_ne hc dX1_undoOn_4 (tgt := 15) (by decide) (by decide) (fun c1 => ?_) (fun c1 => ?_)
  · refine lv_aload_n hc.1 hc.2.1 dX1_undoOn_15 rfl (lv_at hl 0 rfl) ?_
    refine nn_get hc hw ha hiX1 rfl 0 (by decide) rfl lk7 dX1_undoOn_16 ?_
    refine nn_iconst hc dX1_undoOn_19 ?_
    refine nn_icmp_ne hc dX1_undoOn_20 (tgt := 34) (by decide) (by decide) (by decide) (fun c2 => ?_) (fun c2 => ?_)
    · refine lv_aload_n hc.1 hc.2.1 dX1_undoOn_34 rfl (lv_at hl 1 rfl) ?_
      refine nn_get hc hw ho hiX6 rfl 1 (by decide) rfl lk33 dX1_undoOn_35 ?_
      refine lv_aload_n hc.1 hc.2.1 dX1_undoOn_38 rfl (lv_at hl 0 rfl) ?_
      refine nn_get hc hw ha hiX1 rfl 2 (by decide) rfl lk17 dX1_undoOn_39 ?_
      refine lv_aload_n hc.1 hc.2.1 dX1_undoOn_42 rfl (lv_at hl 0 rfl) ?_
      refine nn_get hc hw ha hiX1 rfl 3 (by decide) rfl lk20 dX1_undoOn_43 ?_
      refine nn_ineg hc dX1_undoOn_46 ?_
      refine nn_Ss (As := [.ref (o + 1), .int (iI hn), .int (iI (-sn))]) (st := []) hc hw (c_X6_addTo l g  hlv (by omega)) (va_cwS 3 hc.2.2.2.2 gX1_undoOn_X6_addTo rfl rfl rfl (by decide +kernel) ⟨Nat.le_of_ble_eq_true rfl, Nat.le_of_ble_eq_true rfl⟩) rfl hl.1 rfl (Nat.le_of_ble_eq_true rfl) ⟨Nat.le_of_ble_eq_true rfl, Nat.le_of_ble_eq_true rfl⟩ dX1_undoOn_47 (fun vr n1 S3 H locs qS3 hw => ?_)
      obtain ⟨rfl, rfl, hS3_0, fS3⟩ := qS3
      refine W.eq (g2 := F0 m 50 ls []) rfl ?_
      exact hret none _ S3 _ _ _ _ hw (⟨rfl, rfl, (by rw [Int.sub_eq_add_neg]; exact hS3_0), fun bb hb0 => (fS3 bb hb0)⟩) ⟨rfl, dX1_undoOn_50⟩
    · exact absurd c2 (by decide)
  · exact absurd c1 (by decide)

set_option maxHeartbeats 4000000 in
set_option maxRecDepth 100000 in
theorem c_X2_clear (l : Launch) (g : gG) {n : Nat} {S : Nat → gE} {w : Nat} {wZ : Int} (hw0 : S w = oO 2 [.ref (w + 1), .int (iI wZ)])  : g_Cs l yX2_clear wsX2_clear { frames := 0, cells := 0, slots := 0, locals := 0 } g [.ref w] n S (fun vr n1 S1 => vr = none ∧ n = n1 ∧ S1 w = oO 2 [.ref (w + 1), .int (iI 0)] ∧ (∀ bb, bb ≠ w → S1 bb = S bb)) 0 0 := by
  refine g_Cs.of (cc := cX2_clear) (maxL := 1) (ret := none) (by decide) rfl (Nat.le_of_ble_eq_true rfl) ?_
  intro pp ee s m below meth cK Q H locs ls hc hnm hw hl hret
  have hl : lv_has ls 1 [(0, .ref w)] := hl
  have hiX2 : ∀ w ∈ u_ws RX2 TX2 2, w ∈ wsX2_clear := by decide +kernel
  have lk17 : Cond.fieldLink RX2 17 "RoofCourses$Changes" "size" "I" ∈ wsX2_clear := by decide +kernel
  refine lv_aload_n hc.1 hc.2.1 dX2_clear_0 rfl (lv_at hl 0 rfl) ?_
  refine nn_iconst hc dX2_clear_1 ?_
  refine nn_put hc hw hw0 hiX2 tyX2 tyX2_ok nmX2 rfl 1 (by decide) (Nat.le_of_ble_eq_true rfl) lk17 rfl rfl rfl dX2_clear_2 (fun S1 H locs hS1 fS1 hw => ?_)
  have hS1 : S1 w = oO 2 [.ref (w + 1), .int (iI 0)] := hS1
  exact hret none _ S1 _ _ _ _ hw (⟨rfl, rfl, hS1, fun bb hb0 => (fS1 bb hb0)⟩) ⟨rfl, dX2_clear_5⟩

set_option maxHeartbeats 4000000 in
set_option maxRecDepth 100000 in
theorem c_X2_takeLatest_no (l : Launch) (g : gG) {n : Nat} {S : Nat → gE} {w : Nat} {wZ : Int} (hw0 : S w = oO 2 [.ref (w + 1), .int (iI wZ)]) (rw : wZ = 0) : g_Cp l yX2_takeLatest wsX2_takeLatest { frames := 0, cells := 0, slots := 0, locals := 0 } g [.ref w] n S (some (.null)) := by
  refine g_Cp.of (cc := cX2_takeLatest) (maxL := 1) (ret := (some (.object "RoofCourses$Change"))) (by decide) rfl (Nat.le_of_ble_eq_true rfl) ?_
  intro pp ee s m below meth cK Q ls hc hnm hw hl hret
  have hl : lv_has ls 1 [(0, .ref w)] := hl
  have hiX2 : ∀ w ∈ u_ws RX2 TX2 2, w ∈ wsX2_takeLatest := by decide +kernel
  have lk17 : Cond.fieldLink RX2 17 "RoofCourses$Changes" "size" "I" ∈ wsX2_takeLatest := by decide +kernel
  refine lv_aload_n hc.1 hc.2.1 dX2_takeLatest_0 rfl (lv_at hl 0 rfl) ?_
  refine nn_get hc hw hw0 hiX2 rfl 1 (by decide) rfl lk17 dX2_takeLatest_1 ?_
  refine nn_if_gt hc dX2_takeLatest_4 (tgt := 9) (by decide) (by omega) (fun c1 => ?_) (fun c1 => ?_)
  · exfalso; omega
  · refine lv_null hc.1 hc.2.1 dX2_takeLatest_7 ?_
    exact hret _ _ ⟨_, rfl, Or.inl rfl, dX2_takeLatest_8⟩

set_option maxHeartbeats 4000000 in
set_option maxRecDepth 100000 in
theorem c_X2_takeLatest_yes (l : Launch) (g : gG) {n : Nat} {S : Nat → gE} {w : Nat} {wZ : Int} {kp : Nat → Option Nat} {q : Nat} (hw0 : S w = oO 2 [.ref (w + 1), .int (iI wZ)]) (hk0 : S (w + 1) = oR g 3 6 kp) (rw : 0 < wZ ∧ wZ ≤ 6) (hla : kp (wZ - 1).toNat = some q) : g_Cs l yX2_takeLatest wsX2_takeLatest { frames := 0, cells := 0, slots := 0, locals := 0 } g [.ref w] n S (fun vr n1 S1 => vr = some (.ref q) ∧ n = n1 ∧ S1 w = oO 2 [.ref (w + 1), .int (iI (wZ - 1))] ∧ (∀ bb, bb ≠ w → S1 bb = S bb)) 0 0 := by
  refine g_Cs.of (cc := cX2_takeLatest) (maxL := 1) (ret := (some (.object "RoofCourses$Change"))) (by decide) rfl (Nat.le_of_ble_eq_true rfl) ?_
  intro pp ee s m below meth cK Q H locs ls hc hnm hw hl hret
  have hl : lv_has ls 1 [(0, .ref w)] := hl
  have hiX2 : ∀ w ∈ u_ws RX2 TX2 2, w ∈ wsX2_takeLatest := by decide +kernel
  have lk17 : Cond.fieldLink RX2 17 "RoofCourses$Changes" "size" "I" ∈ wsX2_takeLatest := by decide +kernel
  have lk11 : Cond.fieldLink RX2 11 "RoofCourses$Changes" "kept" "[LRoofCourses$Change;" ∈ wsX2_takeLatest := by decide +kernel
  refine lv_aload_n hc.1 hc.2.1 dX2_takeLatest_0 rfl (lv_at hl 0 rfl) ?_
  refine nn_get hc hw hw0 hiX2 rfl 1 (by decide) rfl lk17 dX2_takeLatest_1 ?_
  refine nn_if_gt hc dX2_takeLatest_4 (tgt := 9) (by decide) (by omega) (fun c1 => ?_) (fun c1 => ?_)
  · refine lv_aload_n hc.1 hc.2.1 dX2_takeLatest_9 rfl (lv_at hl 0 rfl) ?_
    refine lv_dup hc.1 hc.2.1 dX2_takeLatest_10 rfl ?_
    refine nn_get hc hw hw0 hiX2 rfl 1 (by decide) rfl lk17 dX2_takeLatest_11 ?_
    refine nn_iconst hc dX2_takeLatest_14 ?_
    refine nn_isub hc dX2_takeLatest_15 ?_
    refine nn_put hc hw hw0 hiX2 tyX2 tyX2_ok nmX2 rfl 1 (by decide) (Nat.le_of_ble_eq_true rfl) lk17 rfl rfl rfl dX2_takeLatest_16 (fun S2 H locs hS2 fS2 hw => ?_)
    have hS2 : S2 w = oO 2 [.ref (w + 1), .int (iI (wZ - 1))] := hS2
    refine lv_aload_n hc.1 hc.2.1 dX2_takeLatest_19 rfl (lv_at hl 0 rfl) ?_
    refine nn_get hc hw hS2 hiX2 rfl 0 (by decide) rfl lk11 dX2_takeLatest_20 ?_
    refine lv_aload_n hc.1 hc.2.1 dX2_takeLatest_23 rfl (lv_at hl 0 rfl) ?_
    refine nn_get hc hw hS2 hiX2 rfl 1 (by decide) rfl lk17 dX2_takeLatest_24 ?_
    have e3 : S2 (w + 1) = oR g 3 6 kp := (fS2 (w + 1) (off_nr (x := w) (a := 1) (by decide))).trans hk0
    refine nn_aald (x := some q) hc hw e3 rfl (by omega) (by omega) (hla) dX2_takeLatest_27 ?_
    refine W.eq (g2 := F0 m 28 ls [.ref q]) rfl ?_
    exact hret (some (.ref q)) _ S2 _ _ _ _ hw (⟨rfl, rfl, hS2, fun bb hb0 => (fS2 bb hb0)⟩) ⟨_, rfl, Or.inr ⟨_, rfl⟩, dX2_takeLatest_28⟩
  · exfalso; omega

set_option maxHeartbeats 4000000 in
set_option maxRecDepth 100000 in
theorem c_X2_add_lt (l : Launch) (g : gG) {n : Nat} {S : Nat → gE} {w : Nat} {wZ : Int} {kp : Nat → Option Nat} {q : Nat} {vs : List Value} (hw0 : S w = oO 2 [.ref (w + 1), .int (iI wZ)]) (hk0 : S (w + 1) = oR g 3 6 kp) (hq : S q = oO 1 vs) (rw : 0 ≤ wZ ∧ wZ < 6) : g_Cs l yX2_add wsX2_add { frames := 0, cells := 0, slots := 0, locals := 0 } g [.ref w, .ref q] n S (fun vr n1 S1 => vr = none ∧ n = n1 ∧ S1 w = oO 2 [.ref (w + 1), .int (iI (wZ + 1))] ∧ S1 (w + 1) = oR g 3 6 (va_up kp wZ.toNat (some q)) ∧ (∀ bb, bb ≠ w → bb ≠ (w + 1) → S1 bb = S bb)) 0 0 := by
  refine g_Cs.of (cc := cX2_add) (maxL := 3) (ret := none) (by decide) rfl (Nat.le_of_ble_eq_true rfl) ?_
  intro pp ee s m below meth cK Q H locs ls hc hnm hw hl hret
  have hl : lv_has ls 3 [(0, .ref w), (1, .ref q)] := hl
  have hiX2 : ∀ w ∈ u_ws RX2 TX2 2, w ∈ wsX2_add := by decide +kernel
  have lk17 : Cond.fieldLink RX2 17 "RoofCourses$Changes" "size" "I" ∈ wsX2_add := by decide +kernel
  have lk11 : Cond.fieldLink RX2 11 "RoofCourses$Changes" "kept" "[LRoofCourses$Change;" ∈ wsX2_add := by decide +kernel
  refine lv_aload_n hc.1 hc.2.1 dX2_add_0 rfl (lv_at hl 0 rfl) ?_
  refine nn_get hc hw hw0 hiX2 rfl 1 (by decide) rfl lk17 dX2_add_1 ?_
  refine nn_bipush hc dX2_add_4 (by decide +kernel) ?_
  refine nn_icmp_lt hc dX2_add_6 (tgt := 42) (by decide) (by omega) (by decide) (fun c1 => ?_) (fun c1 => ?_)
  · refine lv_aload_n hc.1 hc.2.1 dX2_add_42 rfl (lv_at hl 0 rfl) ?_
    refine nn_get hc hw hw0 hiX2 rfl 0 (by decide) rfl lk11 dX2_add_43 ?_
    refine lv_aload_n hc.1 hc.2.1 dX2_add_46 rfl (lv_at hl 0 rfl) ?_
    refine nn_get hc hw hw0 hiX2 rfl 1 (by decide) rfl lk17 dX2_add_47 ?_
    refine lv_aload_n hc.1 hc.2.1 dX2_add_50 rfl (lv_at hl 1 rfl) ?_
    refine nn_aast hc hw hk0 rfl hq rfl (by omega) (by omega) dX2_add_51 (fun S2 H locs hS2 fS2 hw => ?_)
    refine lv_aload_n hc.1 hc.2.1 dX2_add_52 rfl (lv_at hl 0 rfl) ?_
    refine lv_dup hc.1 hc.2.1 dX2_add_53 rfl ?_
    have e3 : S2 w = oO 2 [.ref (w + 1), .int (iI wZ)] := (fS2 w (off_nl (x := w) (a := 1) (by decide))).trans hw0
    refine nn_get hc hw e3 hiX2 rfl 1 (by decide) rfl lk17 dX2_add_54 ?_
    refine nn_iconst hc dX2_add_57 ?_
    refine nn_iadd hc dX2_add_58 ?_
    refine nn_put hc hw e3 hiX2 tyX2 tyX2_ok nmX2 rfl 1 (by decide) (Nat.le_of_ble_eq_true rfl) lk17 rfl rfl rfl dX2_add_59 (fun S4 H locs hS4 fS4 hw => ?_)
    have hS4 : S4 w = oO 2 [.ref (w + 1), .int (iI (wZ + 1))] := hS4
    have e5 : S4 (w + 1) = oR g 3 6 (va_up kp wZ.toNat (some q)) := (fS4 (w + 1) (off_nr (x := w) (a := 1) (by decide))).trans hS2
    exact hret none _ S4 _ _ _ _ hw (⟨rfl, rfl, hS4, e5, fun bb hb0 hb1 => ((fS4 bb hb0)).trans (fS2 bb hb1)⟩) ⟨rfl, dX2_add_62⟩
  · exfalso; omega

set_option maxHeartbeats 4000000 in
set_option maxRecDepth 100000 in
theorem c_X2_add_full (l : Launch) (g : gG) {n : Nat} {S : Nat → gE} {w : Nat} {wZ : Int} {kp : Nat → Option Nat} {q : Nat} {vs : List Value} (hw0 : S w = oO 2 [.ref (w + 1), .int (iI wZ)]) (hk0 : S (w + 1) = oR g 3 6 kp) (hq : S q = oO 1 vs) (rw : wZ = 6) (hkp : ∀ j : Nat, j < 6 → ∃ (x : Nat) (us : List Value), kp j = some x ∧ S x = oO 1 us) : g_Cs l yX2_add wsX2_add { frames := 0, cells := 0, slots := 0, locals := 0 } g [.ref w, .ref q] n S (fun vr n1 S1 => vr = none ∧ n = n1 ∧ S1 w = oO 2 [.ref (w + 1), .int (iI 6)] ∧ S1 (w + 1) = oR g 3 6 (va_up (shf kp 6) 5 (some q)) ∧ (∀ bb, bb ≠ w → bb ≠ (w + 1) → S1 bb = S bb)) 0 0 := by
  refine g_Cs.of (cc := cX2_add) (maxL := 3) (ret := none) (by decide) rfl (Nat.le_of_ble_eq_true rfl) ?_
  intro pp ee s m below meth cK Q H locs ls hc hnm hw hl hret
  have hl : lv_has ls 3 [(0, .ref w), (1, .ref q)] := hl
  have hiX2 : ∀ w ∈ u_ws RX2 TX2 2, w ∈ wsX2_add := by decide +kernel
  have lk17 : Cond.fieldLink RX2 17 "RoofCourses$Changes" "size" "I" ∈ wsX2_add := by decide +kernel
  have lk11 : Cond.fieldLink RX2 11 "RoofCourses$Changes" "kept" "[LRoofCourses$Change;" ∈ wsX2_add := by decide +kernel
  refine lv_aload_n hc.1 hc.2.1 dX2_add_0 rfl (lv_at hl 0 rfl) ?_
  refine nn_get hc hw hw0 hiX2 rfl 1 (by decide) rfl lk17 dX2_add_1 ?_
  refine nn_bipush hc dX2_add_4 (by decide +kernel) ?_
  refine nn_icmp_lt hc dX2_add_6 (tgt := 42) (by decide) (by omega) (by decide) (fun c1 => ?_) (fun c1 => ?_)
  · exfalso; omega
  · refine nn_iconst hc dX2_add_9 ?_
    refine lv_istore_n (lv' := [(2, .int (iI 1)), (0, .ref w), (1, .ref q)]) hc.1 hc.2.1 dX2_add_10 rfl hl (by decide) rfl (fun ls hl => ?_)
    have lab11 : ∀ (fu11 : Nat) (k : Int) (f : Nat → Option Nat) (S2 : Nat → gE) (H : Heap) (locs : List Loc) (ls : Array Slot), (1 ≤ k ∧ k ≤ 6) → (f = shf kp k.toNat) → S2 (w + 1) = oR g 3 6 f → (∀ bb, bb ≠ (w + 1) → S2 bb = S bb) → g_W g n S2 s H locs → (6 - k).toNat < fu11 → lv_has ls 3 [(2, .int (iI k)), (0, .ref w), (1, .ref q)] → W pp l ee ({ frames := 0, cells := 0, slots := 0, locals := 0 } : Room) s m ([.ref w, .ref q] : List Value).toArray below meth cK H locs 0 0 Q (F0 m 11 ls []) := by
      intro fu11
      induction fu11 with
      | zero =>
        intro k f S2 H locs ls hk hf1 hc11_0 fr11 hw hmeas hl
        exact absurd hmeas (Nat.not_lt_zero _)
      | succ fu11 ih11 =>
        intro k f S2 H locs ls hk hf1 hc11_0 fr11 hw hmeas hl
        refine lv_iload_n hc.1 hc.2.1 dX2_add_11 rfl (lv_at hl 0 rfl) ?_
        refine nn_bipush hc dX2_add_12 (by decide +kernel) ?_
        refine nn_icmp_ge hc dX2_add_14 (tgt := 37) (by decide) (by omega) (by decide) (fun c3 => ?_) (fun c3 => ?_)
        · refine lv_aload_n hc.1 hc.2.1 dX2_add_37 rfl (lv_at hl 1 rfl) ?_
          refine nn_iconst hc dX2_add_38 ?_
          have e4 : S2 w = oO 2 [.ref (w + 1), .int (iI wZ)] := (fr11 w (off_nl (x := w) (a := 1) (by decide))).trans hw0
          refine nn_put hc hw e4 hiX2 tyX2 tyX2_ok nmX2 rfl 1 (by decide) (Nat.le_of_ble_eq_true rfl) lk17 rfl rfl rfl dX2_add_39 (fun S5 H locs hS5 fS5 hw => ?_)
          have hS5 : S5 w = oO 2 [.ref (w + 1), .int (iI 5)] := hS5
          refine lv_aload_n hc.1 hc.2.1 dX2_add_42 rfl (lv_at hl 1 rfl) ?_
          refine nn_get hc hw hS5 hiX2 rfl 0 (by decide) rfl lk11 dX2_add_43 ?_
          refine lv_aload_n hc.1 hc.2.1 dX2_add_46 rfl (lv_at hl 1 rfl) ?_
          refine nn_get hc hw hS5 hiX2 rfl 1 (by decide) rfl lk17 dX2_add_47 ?_
          refine lv_aload_n hc.1 hc.2.1 dX2_add_50 rfl (lv_at hl 2 rfl) ?_
          have e6 : S5 (w + 1) = oR g 3 6 f := (fS5 (w + 1) (off_nr (x := w) (a := 1) (by decide))).trans hc11_0
          have e7 : S2 q = oO 1 vs := (fr11 q (ne_oR hq hk0)).trans hq
          have e8 : S5 q = oO 1 vs := (fS5 q (ne_oO hq hw0 (by decide))).trans e7
          refine nn_aast hc hw e6 rfl e8 rfl (by omega) (by omega) dX2_add_51 (fun S9 H locs hS9 fS9 hw => ?_)
          have hS9 : S9 (w + 1) = oR g 3 6 (va_up f 5 (some q)) := hS9
          refine lv_aload_n hc.1 hc.2.1 dX2_add_52 rfl (lv_at hl 1 rfl) ?_
          refine lv_dup hc.1 hc.2.1 dX2_add_53 rfl ?_
          have e10 : S9 w = oO 2 [.ref (w + 1), .int (iI 5)] := (fS9 w (off_nl (x := w) (a := 1) (by decide))).trans hS5
          refine nn_get hc hw e10 hiX2 rfl 1 (by decide) rfl lk17 dX2_add_54 ?_
          refine nn_iconst hc dX2_add_57 ?_
          refine nn_iadd hc dX2_add_58 ?_
          refine nn_put hc hw e10 hiX2 tyX2 tyX2_ok nmX2 rfl 1 (by decide) (Nat.le_of_ble_eq_true rfl) lk17 rfl rfl rfl dX2_add_59 (fun S11 H locs hS11 fS11 hw => ?_)
          have hS11 : S11 w = oO 2 [.ref (w + 1), .int (iI (5 + 1))] := hS11
          have e12 : S11 (w + 1) = oR g 3 6 (va_up f 5 (some q)) := (fS11 (w + 1) (off_nr (x := w) (a := 1) (by decide))).trans hS9
          exact hret none _ S11 _ _ _ _ hw (⟨rfl, rfl, (by (repeat' split) <;> first | exact hS11 | (exfalso; omega)), (by rw [show shf kp 6 = f by rw [hf1, show k.toNat = 6 by omega]]; exact e12), fun bb hb0 hb1 => ((((fS11 bb hb0)).trans (fS9 bb hb1)).trans (fS5 bb hb0)).trans (fr11 bb hb1)⟩) ⟨rfl, dX2_add_62⟩
        · obtain ⟨x, us, hx1, hx2⟩ := hkp k.toNat (by omega)
          have hx3 : f k.toNat = some x := by rw [hf1]; unfold shf; rw [if_neg (by omega)]; exact hx1
          refine lv_aload_n hc.1 hc.2.1 dX2_add_17 rfl (lv_at hl 1 rfl) ?_
          have e13 : S2 w = oO 2 [.ref (w + 1), .int (iI wZ)] := (fr11 w (off_nl (x := w) (a := 1) (by decide))).trans hw0
          refine nn_get hc hw e13 hiX2 rfl 0 (by decide) rfl lk11 dX2_add_18 ?_
          refine lv_iload_n hc.1 hc.2.1 dX2_add_21 rfl (lv_at hl 0 rfl) ?_
          refine nn_iconst hc dX2_add_22 ?_
          refine nn_isub hc dX2_add_23 ?_
          refine lv_aload_n hc.1 hc.2.1 dX2_add_24 rfl (lv_at hl 1 rfl) ?_
          refine nn_get hc hw e13 hiX2 rfl 0 (by decide) rfl lk11 dX2_add_25 ?_
          refine lv_iload_n hc.1 hc.2.1 dX2_add_28 rfl (lv_at hl 0 rfl) ?_
          refine nn_aald (x := some x) hc hw hc11_0 rfl (by omega) (by omega) (hx3) dX2_add_29 ?_
          refine W.eq (g2 := F0 m 30 ls [.ref x, .int (iI (k - 1)), .ref (w + 1)]) rfl ?_
          have hx14 : S2 x = oO 1 us := (fr11 x (ne_oR hx2 hk0)).trans hx2
          refine nn_aast hc hw hc11_0 rfl hx14 rfl (by omega) (by omega) dX2_add_30 (fun S15 H locs hS15 fS15 hw => ?_)
          refine nn_iinc (lv' := [(2, .int (iI (k + 1))), (0, .ref w), (1, .ref q)]) hc dX2_add_31 hl (k0 := 0) rfl (by decide) rfl (fun ls hl => ?_)
          refine lv_goto hc.1 hc.2.1 dX2_add_34 (tgt := 11) (by decide) ?_
          exact ih11 (k + 1) (va_up f (k - 1).toNat (some x)) S15 _ _ _ (by omega) (by rw [hf1, show (k - 1).toNat = k.toNat - 1 by omega, ← hx1, shf_s (by omega), toNat_succ (by omega)]) hS15 (fun bb hb0 => ((fS15 bb hb0)).trans (fr11 bb hb0)) hw (by omega) (lv_sub hl [0, 1, 2] rfl)
    exact lab11 _ 1 kp S _ _ _ (by omega) ((shf_1 kp).symm) hk0 (fun bb _ => rfl) hw (Nat.lt_succ_self _) (lv_sub hl [0, 1, 2] rfl)

