section LAWR
variable {p : Program} {l : Launch} {e : Env} {R : Room} {s : State} {m : MethodId} {args : Array Value} {below : List Frame} {meth : Method} {c : Code} {H : Heap} {locs : List Loc} {cells slots : Nat} {Q : State → Prop}
variable {cc : ByteArray} {pc nL : Nat} {ls : Array Slot} {st : List Value} {Ts : List Cond} {own : String} {g : gG} {n : Nat} {S : Nat → gE} {b L : Nat} {xs : Nat → Int32}
theorem iI_ofNat (k : Nat) : Int32.ofNat k = iI (k : Int) := by
  unfold iI
  rw [Int32.ofInt_eq_ofNat]
theorem nn_slen (hc : CallFix p m c cc nL s args Ts own) (hw : g_W g n S s H locs) (hX : va_X b L xs s s.heap) (hbl : b < s.heap.size) (hbA : ¬ g_A g b) (d : decode cc pc = .ok (.arraylength, 1))
    (kk : W p l e R s m args below meth c H locs cells slots Q (F0 m (pc + 1) ls (.int (iI (L : Int)) :: st))) : W p l e R s m args below meth c H locs cells slots Q (F0 m pc ls (.ref b :: st)) :=
  va_slen hc.1 hc.2.1 hX hbl hbA hw.2.2 d (by rw [iI_ofNat]; exact kk)
theorem nn_sld (hc : CallFix p m c cc nL s args Ts own) (hw : g_W g n S s H locs) (hX : va_X b L xs s s.heap) (hbl : b < s.heap.size) (hbA : ¬ g_A g b) {i : Int} (hi : 0 ≤ i ∧ i < L) (hL : L ≤ 2048) (d : decode cc pc = .ok (.iaload, 1))
    (kk : W p l e R s m args below meth c H locs cells slots Q (F0 m (pc + 1) ls (.int (iI (xs i.toNat).toInt) :: st))) : W p l e R s m args below meth c H locs cells slots Q (F0 m pc ls (.int (iI i) :: .ref b :: st)) :=
  va_sld hc.1 hc.2.1 hX hbl hbA hw.2.2 (iI_in hi (by omega)) d (by
    rw [iI_nat (by omega), iI_of (xs i.toNat)]
    exact kk)
theorem and15 (z : Int32) : ∃ v : Int, (0 ≤ v ∧ v ≤ 15) ∧ (z &&& iI 15) = iI v := by
  obtain ⟨j, h1, h2⟩ := pk_andE z (m := iI 15) 4 (by decide +kernel)
  refine ⟨(j : Int), by omega, ?_⟩
  rw [h2]
  exact iI_ofNat j
end LAWR
def LW (g : gG) (S : Nat → gE) (n x : Nat) (A : aT) (J : jT) : Prop := CA g S n x A J ∧ MA g S (x + 36) A ∧ goodA A
section LAWC
variable {p : Program} {l : Launch} {e : Env} {s : State} {m : MethodId} {args : Array Value} {below : List Frame} {meth : Method} {c : Code} {H : Heap} {locs : List Loc} {cells slots : Nat} {Q : State → Prop}
variable {ls : Array Slot} {g : gG} {n x : Nat} {S : Nat → gE} {b L : Nat} {xs : Nat → Int32} {A : aT} {J : jT} {i : Int}

set_option maxHeartbeats 4000000 in
set_option maxRecDepth 100000 in
theorem lc_write (hc : CallFix p m c cL_law 4 s args wsL_law RL) (hl : lv_has ls 4 [(3, .int (iI i)), (2, .ref (x + 36)), (1, .ref x), (0, .ref b)]) (hX : va_X b L xs s s.heap) (hbl : b < s.heap.size) (hbA : ¬ g_A g b) (hi : 0 ≤ i ∧ i + 4 ≤ L) (hL : L ≤ 2048) (hw : g_W g n S s H locs) (hI : LW g S n x A J) (hcs : cells + 4 ≤ 600000 ∧ slots + 133 ≤ 7302250)
    (kk : ∀ (n1 : Nat) (S1 : Nat → gE) (A1 : aT) (J1 : jT) (H1 : Heap) (locs1 : List Loc), LW g S1 n1 x A1 J1 → g_W g n1 S1 s H1 locs1 → W p l e room_1 s m args below meth c H1 locs1 (cells + 4) (slots + 133) Q (F0 m 510 ls [])) : W p l e room_1 s m args below meth c H locs cells slots Q (F0 m 112 ls []) := by
  obtain ⟨hA, hM, hg⟩ := hI
  obtain ⟨tr, lv, cs, ca, kp, h0, -⟩ : CI g S n x A.1 A.2.1 A.2.2.1 J A.2.2.2.1 A.2.2.2.2.1 A.2.2.2.2.2 := id hA
  have ry1 := iI_rng (xs (i + 1).toNat)
  refine lv_aload_n hc.1 hc.2.1 dL_law_112 rfl (lv_at hl 2 rfl) ?_
  refine lv_aload_n hc.1 hc.2.1 dL_law_113 rfl (lv_at hl 3 rfl) ?_
  refine lv_iload_n hc.1 hc.2.1 dL_law_114 rfl (lv_at hl 0 rfl) ?_
  refine nn_iconst hc dL_law_115 ?_
  refine nn_iadd hc dL_law_116 ?_
  refine nn_sld hc hw hX hbl hbA (by omega) hL dL_law_117 ?_
  refine nn_Vs (As := [.int (iI ((xs (i + 1).toNat).toInt))]) (st := []) hc hw h0 rfl (w_K_write l g hA hg ry1) (cwV 1 hc.2.2.2.2 gL_law_X8_write rfl rfl rfl (by decide +kernel) ⟨(Nat.le_of_ble_eq_true rfl), (Nat.le_of_ble_eq_true rfl)⟩) rfl hl.1 rfl (Nat.le_of_ble_eq_true rfl) ⟨by show cells + 0 ≤ 600000; omega, by show slots + 0 ≤ 7302250; omega⟩ dL_law_118 (fun v1 n1 S1 H locs hq hw => ?_)
  obtain ⟨rfl, hn1, ⟨J1, hA1⟩, fr1⟩ := hq
  have hM1 : MA g S1 (x + 36) A := MI.kept hM (fun bb h1 h2 => fr1 bb (Or.inr ⟨h1, by omega⟩))
  refine W.eq (g2 := F0 m 121 ls [.int (iI (sWrite A ((xs (i + 1).toNat).toInt)).1)]) rfl ?_
  obtain ⟨mHC, stg, hps, hmP, mAt, mRC, mJC, mCh, mVi, txa, rst, rhp, nw, sv, hs, nbs, js, z0, -⟩ : MI g S1 (x + 36) A.1 A.2.1 A.2.2.1 A.2.2.2.1 A.2.2.2.2.1 A.2.2.2.2.2 := id hM1
  refine lv_aload_n hc.1 hc.2.1 dL_law_121 rfl (lv_at hl 1 rfl) ?_
  refine lv_aload_n hc.1 hc.2.1 dL_law_122 rfl (lv_at hl 3 rfl) ?_
  refine lv_iload_n hc.1 hc.2.1 dL_law_123 rfl (lv_at hl 0 rfl) ?_
  refine nn_iconst hc dL_law_124 ?_
  refine nn_iadd hc dL_law_125 ?_
  refine nn_sld hc hw hX hbl hbA (by omega) hL dL_law_126 ?_
  refine nn_Vs (As := [.int (iI ((xs (i + 1).toNat).toInt))]) (st := [.int (iI (sWrite A ((xs (i + 1).toNat).toInt)).1)]) hc hw z0 rfl (w_M_write l g hM1 hg ry1) (cwV 1 hc.2.2.2.2 gL_law_X9_write rfl rfl rfl (by decide +kernel) ⟨(Nat.le_of_ble_eq_true rfl), (Nat.le_of_ble_eq_true rfl)⟩) rfl hl.1 rfl (Nat.le_of_ble_eq_true rfl) ⟨by show cells + 0 + 0 ≤ 600000; omega, by show slots + 0 + 0 ≤ 7302250; omega⟩ dL_law_127 (fun v2 n2 S2 H locs hq hw => ?_)
  obtain ⟨rfl, rfl, hM2, fr2⟩ := hq
  have hA2 : CA g S2 n1 x (sWrite A ((xs (i + 1).toNat).toInt)).2 J1 := CI.kept hA1 (fun bb h1 h2 => fr2 bb (by omega))
  refine W.eq (g2 := F0 m 130 ls [.int (iI (sWrite A ((xs (i + 1).toNat).toInt)).1), .int (iI (sWrite A ((xs (i + 1).toNat).toInt)).1)]) rfl ?_
  refine lv_icmp_eq hc.1 hc.2.1 dL_law_130 (tgt := 510) (by decide) (fun _ => ?_) (fun hne => absurd rfl hne)
  refine W.widen (k := cells + 4) (n := slots + 133) (by omega) (by omega) ?_
  exact kk n1 S2 (sWrite A ((xs (i + 1).toNat).toInt)).2 J1 _ _ ⟨hA2, hM2, gWrite hg ((xs (i + 1).toNat).toInt)⟩ hw
set_option maxHeartbeats 4000000 in
set_option maxRecDepth 100000 in
theorem lc_wipe (hc : CallFix p m c cL_law 4 s args wsL_law RL) (hl : lv_has ls 4 [(3, .int (iI i)), (2, .ref (x + 36)), (1, .ref x), (0, .ref b)]) (hX : va_X b L xs s s.heap) (hbl : b < s.heap.size) (hbA : ¬ g_A g b) (hi : 0 ≤ i ∧ i + 4 ≤ L) (hL : L ≤ 2048) (hw : g_W g n S s H locs) (hI : LW g S n x A J) (hcs : cells + 4 ≤ 600000 ∧ slots + 133 ≤ 7302250)
    (kk : ∀ (n1 : Nat) (S1 : Nat → gE) (A1 : aT) (J1 : jT) (H1 : Heap) (locs1 : List Loc), LW g S1 n1 x A1 J1 → g_W g n1 S1 s H1 locs1 → W p l e room_1 s m args below meth c H1 locs1 (cells + 4) (slots + 133) Q (F0 m 510 ls [])) : W p l e room_1 s m args below meth c H locs cells slots Q (F0 m 135 ls []) := by
  obtain ⟨hA, hM, hg⟩ := hI
  obtain ⟨tr, lv, cs, ca, kp, h0, -⟩ : CI g S n x A.1 A.2.1 A.2.2.1 J A.2.2.2.1 A.2.2.2.2.1 A.2.2.2.2.2 := id hA
  refine lv_aload_n hc.1 hc.2.1 dL_law_135 rfl (lv_at hl 2 rfl) ?_
  refine nn_Vs (As := []) (st := []) hc hw h0 rfl (w_K_wipe l g hA hg ) (cwV 0 hc.2.2.2.2 gL_law_X8_wipe rfl rfl rfl (by decide +kernel) ⟨(Nat.le_of_ble_eq_true rfl), (Nat.le_of_ble_eq_true rfl)⟩) rfl hl.1 rfl (Nat.le_of_ble_eq_true rfl) ⟨by show cells + 0 ≤ 600000; omega, by show slots + 0 ≤ 7302250; omega⟩ dL_law_136 (fun v1 n1 S1 H locs hq hw => ?_)
  obtain ⟨rfl, hn1, ⟨J1, hA1⟩, fr1⟩ := hq
  have hM1 : MA g S1 (x + 36) A := MI.kept hM (fun bb h1 h2 => fr1 bb (Or.inr ⟨h1, by omega⟩))
  refine W.eq (g2 := F0 m 139 ls [.int (iI (sWipe A).1)]) rfl ?_
  obtain ⟨mHC, stg, hps, hmP, mAt, mRC, mJC, mCh, mVi, txa, rst, rhp, nw, sv, hs, nbs, js, z0, -⟩ : MI g S1 (x + 36) A.1 A.2.1 A.2.2.1 A.2.2.2.1 A.2.2.2.2.1 A.2.2.2.2.2 := id hM1
  refine lv_aload_n hc.1 hc.2.1 dL_law_139 rfl (lv_at hl 1 rfl) ?_
  refine nn_Vs (As := []) (st := [.int (iI (sWipe A).1)]) hc hw z0 rfl (w_M_wipe l g hM1 hg ) (cwV 0 hc.2.2.2.2 gL_law_X9_wipe rfl rfl rfl (by decide +kernel) ⟨(Nat.le_of_ble_eq_true rfl), (Nat.le_of_ble_eq_true rfl)⟩) rfl hl.1 rfl (Nat.le_of_ble_eq_true rfl) ⟨by show cells + 0 + 0 ≤ 600000; omega, by show slots + 0 + 0 ≤ 7302250; omega⟩ dL_law_140 (fun v2 n2 S2 H locs hq hw => ?_)
  obtain ⟨rfl, rfl, hM2, fr2⟩ := hq
  have hA2 : CA g S2 n1 x (sWipe A).2 J1 := CI.kept hA1 (fun bb h1 h2 => fr2 bb (by omega))
  refine W.eq (g2 := F0 m 143 ls [.int (iI (sWipe A).1), .int (iI (sWipe A).1)]) rfl ?_
  refine lv_icmp_eq hc.1 hc.2.1 dL_law_143 (tgt := 510) (by decide) (fun _ => ?_) (fun hne => absurd rfl hne)
  refine W.widen (k := cells + 4) (n := slots + 133) (by omega) (by omega) ?_
  exact kk n1 S2 (sWipe A).2 J1 _ _ ⟨hA2, hM2, gWipe hg⟩ hw
set_option maxHeartbeats 4000000 in
set_option maxRecDepth 100000 in
theorem lc_fault (hc : CallFix p m c cL_law 4 s args wsL_law RL) (hl : lv_has ls 4 [(3, .int (iI i)), (2, .ref (x + 36)), (1, .ref x), (0, .ref b)]) (hX : va_X b L xs s s.heap) (hbl : b < s.heap.size) (hbA : ¬ g_A g b) (hi : 0 ≤ i ∧ i + 4 ≤ L) (hL : L ≤ 2048) (hw : g_W g n S s H locs) (hI : LW g S n x A J) (hcs : cells + 4 ≤ 600000 ∧ slots + 133 ≤ 7302250)
    (kk : ∀ (n1 : Nat) (S1 : Nat → gE) (A1 : aT) (J1 : jT) (H1 : Heap) (locs1 : List Loc), LW g S1 n1 x A1 J1 → g_W g n1 S1 s H1 locs1 → W p l e room_1 s m args below meth c H1 locs1 (cells + 4) (slots + 133) Q (F0 m 510 ls [])) : W p l e room_1 s m args below meth c H locs cells slots Q (F0 m 148 ls []) := by
  obtain ⟨hA, hM, hg⟩ := hI
  obtain ⟨tr, lv, cs, ca, kp, h0, -⟩ : CI g S n x A.1 A.2.1 A.2.2.1 J A.2.2.2.1 A.2.2.2.2.1 A.2.2.2.2.2 := id hA
  refine lv_aload_n hc.1 hc.2.1 dL_law_148 rfl (lv_at hl 2 rfl) ?_
  refine nn_Vs (As := []) (st := []) hc hw h0 rfl (w_K_fault l g hA hg ) (cwV 0 hc.2.2.2.2 gL_law_X8_fault rfl rfl rfl (by decide +kernel) ⟨(Nat.le_of_ble_eq_true rfl), (Nat.le_of_ble_eq_true rfl)⟩) rfl hl.1 rfl (Nat.le_of_ble_eq_true rfl) ⟨by show cells + 0 ≤ 600000; omega, by show slots + 0 ≤ 7302250; omega⟩ dL_law_149 (fun v1 n1 S1 H locs hq hw => ?_)
  obtain ⟨rfl, hn1, ⟨J1, hA1⟩, fr1⟩ := hq
  have hM1 : MA g S1 (x + 36) A := MI.kept hM (fun bb h1 h2 => fr1 bb (Or.inr ⟨h1, by omega⟩))
  refine W.eq (g2 := F0 m 152 ls [.int (iI (sFault A J).1)]) rfl ?_
  obtain ⟨mHC, stg, hps, hmP, mAt, mRC, mJC, mCh, mVi, txa, rst, rhp, nw, sv, hs, nbs, js, z0, -⟩ : MI g S1 (x + 36) A.1 A.2.1 A.2.2.1 A.2.2.2.1 A.2.2.2.2.1 A.2.2.2.2.2 := id hM1
  refine lv_aload_n hc.1 hc.2.1 dL_law_152 rfl (lv_at hl 1 rfl) ?_
  refine nn_Vs (As := []) (st := [.int (iI (sFault A J).1)]) hc hw z0 rfl (w_M_fault l g J hM1 hg ) (cwV 0 hc.2.2.2.2 gL_law_X9_fault rfl rfl rfl (by decide +kernel) ⟨(Nat.le_of_ble_eq_true rfl), (Nat.le_of_ble_eq_true rfl)⟩) rfl hl.1 rfl (Nat.le_of_ble_eq_true rfl) ⟨by show cells + 0 + 0 ≤ 600000; omega, by show slots + 0 + 0 ≤ 7302250; omega⟩ dL_law_153 (fun v2 n2 S2 H locs hq hw => ?_)
  obtain ⟨rfl, rfl, hM2, fr2⟩ := hq
  have hA2 : CA g S2 n1 x (sFault A J).2 J1 := CI.kept hA1 (fun bb h1 h2 => fr2 bb (by omega))
  refine W.eq (g2 := F0 m 156 ls [.int (iI (sFault A J).1), .int (iI (sFault A J).1)]) rfl ?_
  refine lv_icmp_eq hc.1 hc.2.1 dL_law_156 (tgt := 510) (by decide) (fun _ => ?_) (fun hne => absurd rfl hne)
  refine W.widen (k := cells + 4) (n := slots + 133) (by omega) (by omega) ?_
  exact kk n1 S2 (sFault A J).2 J1 _ _ ⟨hA2, hM2, hg⟩ hw
set_option maxHeartbeats 4000000 in
set_option maxRecDepth 100000 in
theorem lc_lay (hc : CallFix p m c cL_law 4 s args wsL_law RL) (hl : lv_has ls 4 [(3, .int (iI i)), (2, .ref (x + 36)), (1, .ref x), (0, .ref b)]) (hX : va_X b L xs s s.heap) (hbl : b < s.heap.size) (hbA : ¬ g_A g b) (hi : 0 ≤ i ∧ i + 4 ≤ L) (hL : L ≤ 2048) (hw : g_W g n S s H locs) (hI : LW g S n x A J) (hcs : cells + 4 ≤ 600000 ∧ slots + 133 ≤ 7302250)
    (kk : ∀ (n1 : Nat) (S1 : Nat → gE) (A1 : aT) (J1 : jT) (H1 : Heap) (locs1 : List Loc), LW g S1 n1 x A1 J1 → g_W g n1 S1 s H1 locs1 → W p l e room_1 s m args below meth c H1 locs1 (cells + 4) (slots + 133) Q (F0 m 510 ls [])) : W p l e room_1 s m args below meth c H locs cells slots Q (F0 m 161 ls []) := by
  obtain ⟨hA, hM, hg⟩ := hI
  obtain ⟨tr, lv, cs, ca, kp, h0, -⟩ : CI g S n x A.1 A.2.1 A.2.2.1 J A.2.2.2.1 A.2.2.2.2.1 A.2.2.2.2.2 := id hA
  refine lv_aload_n hc.1 hc.2.1 dL_law_161 rfl (lv_at hl 2 rfl) ?_
  refine nn_Vs (As := []) (st := []) hc hw h0 rfl (w_K_lay l g hA hg ) (cwV 0 hc.2.2.2.2 gL_law_X8_lay rfl rfl rfl (by decide +kernel) ⟨(Nat.le_of_ble_eq_true rfl), (Nat.le_of_ble_eq_true rfl)⟩) rfl hl.1 rfl (Nat.le_of_ble_eq_true rfl) ⟨by show cells + 0 ≤ 600000; omega, by show slots + 0 ≤ 7302250; omega⟩ dL_law_162 (fun v1 n1 S1 H locs hq hw => ?_)
  obtain ⟨rfl, hn1, ⟨J1, hA1⟩, fr1⟩ := hq
  have hM1 : MA g S1 (x + 36) A := MI.kept hM (fun bb h1 h2 => fr1 bb (Or.inr ⟨h1, by omega⟩))
  refine W.eq (g2 := F0 m 165 ls [.int (iI (sLay A J).1)]) rfl ?_
  obtain ⟨mHC, stg, hps, hmP, mAt, mRC, mJC, mCh, mVi, txa, rst, rhp, nw, sv, hs, nbs, js, z0, -⟩ : MI g S1 (x + 36) A.1 A.2.1 A.2.2.1 A.2.2.2.1 A.2.2.2.2.1 A.2.2.2.2.2 := id hM1
  refine lv_aload_n hc.1 hc.2.1 dL_law_165 rfl (lv_at hl 1 rfl) ?_
  refine nn_Vs (As := []) (st := [.int (iI (sLay A J).1)]) hc hw z0 rfl (w_M_lay l g J hM1 hg ) (cwV 0 hc.2.2.2.2 gL_law_X9_lay rfl rfl rfl (by decide +kernel) ⟨(Nat.le_of_ble_eq_true rfl), (Nat.le_of_ble_eq_true rfl)⟩) rfl hl.1 rfl (Nat.le_of_ble_eq_true rfl) ⟨by show cells + 0 + 0 ≤ 600000; omega, by show slots + 0 + 0 ≤ 7302250; omega⟩ dL_law_166 (fun v2 n2 S2 H locs hq hw => ?_)
  obtain ⟨rfl, rfl, hM2, fr2⟩ := hq
  have hA2 : CA g S2 n1 x (sLay A J).2 J1 := CI.kept hA1 (fun bb h1 h2 => fr2 bb (by omega))
  refine W.eq (g2 := F0 m 169 ls [.int (iI (sLay A J).1), .int (iI (sLay A J).1)]) rfl ?_
  refine lv_icmp_eq hc.1 hc.2.1 dL_law_169 (tgt := 510) (by decide) (fun _ => ?_) (fun hne => absurd rfl hne)
  refine W.widen (k := cells + 4) (n := slots + 133) (by omega) (by omega) ?_
  exact kk n1 S2 (sLay A J).2 J1 _ _ ⟨hA2, hM2, gLay hg J⟩ hw
set_option maxHeartbeats 4000000 in
set_option maxRecDepth 100000 in
theorem lc_course (hc : CallFix p m c cL_law 4 s args wsL_law RL) (hl : lv_has ls 4 [(3, .int (iI i)), (2, .ref (x + 36)), (1, .ref x), (0, .ref b)]) (hX : va_X b L xs s s.heap) (hbl : b < s.heap.size) (hbA : ¬ g_A g b) (hi : 0 ≤ i ∧ i + 4 ≤ L) (hL : L ≤ 2048) (hw : g_W g n S s H locs) (hI : LW g S n x A J) (hcs : cells + 4 ≤ 600000 ∧ slots + 133 ≤ 7302250)
    (kk : ∀ (n1 : Nat) (S1 : Nat → gE) (A1 : aT) (J1 : jT) (H1 : Heap) (locs1 : List Loc), LW g S1 n1 x A1 J1 → g_W g n1 S1 s H1 locs1 → W p l e room_1 s m args below meth c H1 locs1 (cells + 4) (slots + 133) Q (F0 m 510 ls [])) : W p l e room_1 s m args below meth c H locs cells slots Q (F0 m 174 ls []) := by
  obtain ⟨hA, hM, hg⟩ := hI
  obtain ⟨tr, lv, cs, ca, kp, h0, -⟩ : CI g S n x A.1 A.2.1 A.2.2.1 J A.2.2.2.1 A.2.2.2.2.1 A.2.2.2.2.2 := id hA
  have ry1 := iI_rng (xs (i + 1).toNat)
  refine lv_aload_n hc.1 hc.2.1 dL_law_174 rfl (lv_at hl 2 rfl) ?_
  refine lv_aload_n hc.1 hc.2.1 dL_law_175 rfl (lv_at hl 3 rfl) ?_
  refine lv_iload_n hc.1 hc.2.1 dL_law_176 rfl (lv_at hl 0 rfl) ?_
  refine nn_iconst hc dL_law_177 ?_
  refine nn_iadd hc dL_law_178 ?_
  refine nn_sld hc hw hX hbl hbA (by omega) hL dL_law_179 ?_
  refine nn_Vs (As := [.int (iI ((xs (i + 1).toNat).toInt))]) (st := []) hc hw h0 rfl (w_K_course l g hA hg ry1) (cwV 1 hc.2.2.2.2 gL_law_X8_course rfl rfl rfl (by decide +kernel) ⟨(Nat.le_of_ble_eq_true rfl), (Nat.le_of_ble_eq_true rfl)⟩) rfl hl.1 rfl (Nat.le_of_ble_eq_true rfl) ⟨by show cells + 4 ≤ 600000; omega, by show slots + 133 ≤ 7302250; omega⟩ dL_law_180 (fun v1 n1 S1 H locs hq hw => ?_)
  obtain ⟨rfl, hn1, ⟨J1, hA1⟩, fr1⟩ := hq
  have hM1 : MA g S1 (x + 36) A := MI.kept hM (fun bb h1 h2 => fr1 bb (Or.inr ⟨h1, by omega⟩))
  refine W.eq (g2 := F0 m 183 ls [.int (iI (sCourse A ((xs (i + 1).toNat).toInt)).1)]) rfl ?_
  obtain ⟨mHC, stg, hps, hmP, mAt, mRC, mJC, mCh, mVi, txa, rst, rhp, nw, sv, hs, nbs, js, z0, -⟩ : MI g S1 (x + 36) A.1 A.2.1 A.2.2.1 A.2.2.2.1 A.2.2.2.2.1 A.2.2.2.2.2 := id hM1
  refine lv_aload_n hc.1 hc.2.1 dL_law_183 rfl (lv_at hl 1 rfl) ?_
  refine lv_aload_n hc.1 hc.2.1 dL_law_184 rfl (lv_at hl 3 rfl) ?_
  refine lv_iload_n hc.1 hc.2.1 dL_law_185 rfl (lv_at hl 0 rfl) ?_
  refine nn_iconst hc dL_law_186 ?_
  refine nn_iadd hc dL_law_187 ?_
  refine nn_sld hc hw hX hbl hbA (by omega) hL dL_law_188 ?_
  refine nn_Vs (As := [.int (iI ((xs (i + 1).toNat).toInt))]) (st := [.int (iI (sCourse A ((xs (i + 1).toNat).toInt)).1)]) hc hw z0 rfl (w_M_course l g hM1 hg ry1) (cwV 1 hc.2.2.2.2 gL_law_X9_course rfl rfl rfl (by decide +kernel) ⟨(Nat.le_of_ble_eq_true rfl), (Nat.le_of_ble_eq_true rfl)⟩) rfl hl.1 rfl (Nat.le_of_ble_eq_true rfl) ⟨by show cells + 4 + 0 ≤ 600000; omega, by show slots + 133 + 0 ≤ 7302250; omega⟩ dL_law_189 (fun v2 n2 S2 H locs hq hw => ?_)
  obtain ⟨rfl, rfl, hM2, fr2⟩ := hq
  have hA2 : CA g S2 n1 x (sCourse A ((xs (i + 1).toNat).toInt)).2 J1 := CI.kept hA1 (fun bb h1 h2 => fr2 bb (by omega))
  refine W.eq (g2 := F0 m 192 ls [.int (iI (sCourse A ((xs (i + 1).toNat).toInt)).1), .int (iI (sCourse A ((xs (i + 1).toNat).toInt)).1)]) rfl ?_
  refine lv_icmp_eq hc.1 hc.2.1 dL_law_192 (tgt := 510) (by decide) (fun _ => ?_) (fun hne => absurd rfl hne)
  refine W.widen (k := cells + 4) (n := slots + 133) (by omega) (by omega) ?_
  exact kk n1 S2 (sCourse A ((xs (i + 1).toNat).toInt)).2 J1 _ _ ⟨hA2, hM2, gCourse hg ((xs (i + 1).toNat).toInt)⟩ hw
set_option maxHeartbeats 4000000 in
set_option maxRecDepth 100000 in
theorem lc_up (hc : CallFix p m c cL_law 4 s args wsL_law RL) (hl : lv_has ls 4 [(3, .int (iI i)), (2, .ref (x + 36)), (1, .ref x), (0, .ref b)]) (hX : va_X b L xs s s.heap) (hbl : b < s.heap.size) (hbA : ¬ g_A g b) (hi : 0 ≤ i ∧ i + 4 ≤ L) (hL : L ≤ 2048) (hw : g_W g n S s H locs) (hI : LW g S n x A J) (hcs : cells + 4 ≤ 600000 ∧ slots + 133 ≤ 7302250)
    (kk : ∀ (n1 : Nat) (S1 : Nat → gE) (A1 : aT) (J1 : jT) (H1 : Heap) (locs1 : List Loc), LW g S1 n1 x A1 J1 → g_W g n1 S1 s H1 locs1 → W p l e room_1 s m args below meth c H1 locs1 (cells + 4) (slots + 133) Q (F0 m 510 ls [])) : W p l e room_1 s m args below meth c H locs cells slots Q (F0 m 197 ls []) := by
  obtain ⟨hA, hM, hg⟩ := hI
  obtain ⟨tr, lv, cs, ca, kp, h0, -⟩ : CI g S n x A.1 A.2.1 A.2.2.1 J A.2.2.2.1 A.2.2.2.2.1 A.2.2.2.2.2 := id hA
  refine lv_aload_n hc.1 hc.2.1 dL_law_197 rfl (lv_at hl 2 rfl) ?_
  refine nn_Vs (As := []) (st := []) hc hw h0 rfl (w_K_up l g hA hg ) (cwV 0 hc.2.2.2.2 gL_law_X8_up rfl rfl rfl (by decide +kernel) ⟨(Nat.le_of_ble_eq_true rfl), (Nat.le_of_ble_eq_true rfl)⟩) rfl hl.1 rfl (Nat.le_of_ble_eq_true rfl) ⟨by show cells + 1 ≤ 600000; omega, by show slots + 4 ≤ 7302250; omega⟩ dL_law_198 (fun v1 n1 S1 H locs hq hw => ?_)
  obtain ⟨rfl, hn1, ⟨J1, hA1⟩, fr1⟩ := hq
  have hM1 : MA g S1 (x + 36) A := MI.kept hM (fun bb h1 h2 => fr1 bb (Or.inr ⟨h1, by omega⟩))
  refine W.eq (g2 := F0 m 201 ls [.int (iI (sUp A).1)]) rfl ?_
  obtain ⟨mHC, stg, hps, hmP, mAt, mRC, mJC, mCh, mVi, txa, rst, rhp, nw, sv, hs, nbs, js, z0, -⟩ : MI g S1 (x + 36) A.1 A.2.1 A.2.2.1 A.2.2.2.1 A.2.2.2.2.1 A.2.2.2.2.2 := id hM1
  refine lv_aload_n hc.1 hc.2.1 dL_law_201 rfl (lv_at hl 1 rfl) ?_
  refine nn_Vs (As := []) (st := [.int (iI (sUp A).1)]) hc hw z0 rfl (w_M_up l g hM1 hg ) (cwV 0 hc.2.2.2.2 gL_law_X9_up rfl rfl rfl (by decide +kernel) ⟨(Nat.le_of_ble_eq_true rfl), (Nat.le_of_ble_eq_true rfl)⟩) rfl hl.1 rfl (Nat.le_of_ble_eq_true rfl) ⟨by show cells + 1 + 0 ≤ 600000; omega, by show slots + 4 + 0 ≤ 7302250; omega⟩ dL_law_202 (fun v2 n2 S2 H locs hq hw => ?_)
  obtain ⟨rfl, rfl, hM2, fr2⟩ := hq
  have hA2 : CA g S2 n1 x (sUp A).2 J1 := CI.kept hA1 (fun bb h1 h2 => fr2 bb (by omega))
  refine W.eq (g2 := F0 m 205 ls [.int (iI (sUp A).1), .int (iI (sUp A).1)]) rfl ?_
  refine lv_icmp_eq hc.1 hc.2.1 dL_law_205 (tgt := 510) (by decide) (fun _ => ?_) (fun hne => absurd rfl hne)
  refine W.widen (k := cells + 4) (n := slots + 133) (by omega) (by omega) ?_
  exact kk n1 S2 (sUp A).2 J1 _ _ ⟨hA2, hM2, gUp hg⟩ hw
set_option maxHeartbeats 4000000 in
set_option maxRecDepth 100000 in
theorem lc_bring (hc : CallFix p m c cL_law 4 s args wsL_law RL) (hl : lv_has ls 4 [(3, .int (iI i)), (2, .ref (x + 36)), (1, .ref x), (0, .ref b)]) (hX : va_X b L xs s s.heap) (hbl : b < s.heap.size) (hbA : ¬ g_A g b) (hi : 0 ≤ i ∧ i + 4 ≤ L) (hL : L ≤ 2048) (hw : g_W g n S s H locs) (hI : LW g S n x A J) (hcs : cells + 4 ≤ 600000 ∧ slots + 133 ≤ 7302250)
    (kk : ∀ (n1 : Nat) (S1 : Nat → gE) (A1 : aT) (J1 : jT) (H1 : Heap) (locs1 : List Loc), LW g S1 n1 x A1 J1 → g_W g n1 S1 s H1 locs1 → W p l e room_1 s m args below meth c H1 locs1 (cells + 4) (slots + 133) Q (F0 m 510 ls [])) : W p l e room_1 s m args below meth c H locs cells slots Q (F0 m 210 ls []) := by
  obtain ⟨hA, hM, hg⟩ := hI
  obtain ⟨tr, lv, cs, ca, kp, h0, -⟩ : CI g S n x A.1 A.2.1 A.2.2.1 J A.2.2.2.1 A.2.2.2.2.1 A.2.2.2.2.2 := id hA
  have ry1 := iI_rng (xs (i + 1).toNat)
  have ry2 := iI_rng (xs (i + 2).toNat)
  refine lv_aload_n hc.1 hc.2.1 dL_law_210 rfl (lv_at hl 2 rfl) ?_
  refine lv_aload_n hc.1 hc.2.1 dL_law_211 rfl (lv_at hl 3 rfl) ?_
  refine lv_iload_n hc.1 hc.2.1 dL_law_212 rfl (lv_at hl 0 rfl) ?_
  refine nn_iconst hc dL_law_213 ?_
  refine nn_iadd hc dL_law_214 ?_
  refine nn_sld hc hw hX hbl hbA (by omega) hL dL_law_215 ?_
  refine lv_aload_n hc.1 hc.2.1 dL_law_216 rfl (lv_at hl 3 rfl) ?_
  refine lv_iload_n hc.1 hc.2.1 dL_law_217 rfl (lv_at hl 0 rfl) ?_
  refine nn_iconst hc dL_law_218 ?_
  refine nn_iadd hc dL_law_219 ?_
  refine nn_sld hc hw hX hbl hbA (by omega) hL dL_law_220 ?_
  refine nn_Vs (As := [.int (iI ((xs (i + 1).toNat).toInt)), .int (iI ((xs (i + 2).toNat).toInt))]) (st := []) hc hw h0 rfl (w_K_bring l g hA hg ry1 ry2) (cwV 2 hc.2.2.2.2 gL_law_X8_bring rfl rfl rfl (by decide +kernel) ⟨(Nat.le_of_ble_eq_true rfl), (Nat.le_of_ble_eq_true rfl)⟩) rfl hl.1 rfl (Nat.le_of_ble_eq_true rfl) ⟨by show cells + 1 ≤ 600000; omega, by show slots + 4 ≤ 7302250; omega⟩ dL_law_221 (fun v1 n1 S1 H locs hq hw => ?_)
  obtain ⟨rfl, hn1, ⟨J1, hA1⟩, fr1⟩ := hq
  have hM1 : MA g S1 (x + 36) A := MI.kept hM (fun bb h1 h2 => fr1 bb (Or.inr ⟨h1, by omega⟩))
  refine W.eq (g2 := F0 m 224 ls [.int (iI (sBring A ((xs (i + 1).toNat).toInt) ((xs (i + 2).toNat).toInt)).1)]) rfl ?_
  obtain ⟨mHC, stg, hps, hmP, mAt, mRC, mJC, mCh, mVi, txa, rst, rhp, nw, sv, hs, nbs, js, z0, -⟩ : MI g S1 (x + 36) A.1 A.2.1 A.2.2.1 A.2.2.2.1 A.2.2.2.2.1 A.2.2.2.2.2 := id hM1
  refine lv_aload_n hc.1 hc.2.1 dL_law_224 rfl (lv_at hl 1 rfl) ?_
  refine lv_aload_n hc.1 hc.2.1 dL_law_225 rfl (lv_at hl 3 rfl) ?_
  refine lv_iload_n hc.1 hc.2.1 dL_law_226 rfl (lv_at hl 0 rfl) ?_
  refine nn_iconst hc dL_law_227 ?_
  refine nn_iadd hc dL_law_228 ?_
  refine nn_sld hc hw hX hbl hbA (by omega) hL dL_law_229 ?_
  refine lv_aload_n hc.1 hc.2.1 dL_law_230 rfl (lv_at hl 3 rfl) ?_
  refine lv_iload_n hc.1 hc.2.1 dL_law_231 rfl (lv_at hl 0 rfl) ?_
  refine nn_iconst hc dL_law_232 ?_
  refine nn_iadd hc dL_law_233 ?_
  refine nn_sld hc hw hX hbl hbA (by omega) hL dL_law_234 ?_
  refine nn_Vs (As := [.int (iI ((xs (i + 1).toNat).toInt)), .int (iI ((xs (i + 2).toNat).toInt))]) (st := [.int (iI (sBring A ((xs (i + 1).toNat).toInt) ((xs (i + 2).toNat).toInt)).1)]) hc hw z0 rfl (w_M_bring l g hM1 hg ry1 ry2) (cwV 2 hc.2.2.2.2 gL_law_X9_bring rfl rfl rfl (by decide +kernel) ⟨(Nat.le_of_ble_eq_true rfl), (Nat.le_of_ble_eq_true rfl)⟩) rfl hl.1 rfl (Nat.le_of_ble_eq_true rfl) ⟨by show cells + 1 + 0 ≤ 600000; omega, by show slots + 4 + 0 ≤ 7302250; omega⟩ dL_law_235 (fun v2 n2 S2 H locs hq hw => ?_)
  obtain ⟨rfl, rfl, hM2, fr2⟩ := hq
  have hA2 : CA g S2 n1 x (sBring A ((xs (i + 1).toNat).toInt) ((xs (i + 2).toNat).toInt)).2 J1 := CI.kept hA1 (fun bb h1 h2 => fr2 bb (by omega))
  refine W.eq (g2 := F0 m 238 ls [.int (iI (sBring A ((xs (i + 1).toNat).toInt) ((xs (i + 2).toNat).toInt)).1), .int (iI (sBring A ((xs (i + 1).toNat).toInt) ((xs (i + 2).toNat).toInt)).1)]) rfl ?_
  refine lv_icmp_eq hc.1 hc.2.1 dL_law_238 (tgt := 510) (by decide) (fun _ => ?_) (fun hne => absurd rfl hne)
  refine W.widen (k := cells + 4) (n := slots + 133) (by omega) (by omega) ?_
  exact kk n1 S2 (sBring A ((xs (i + 1).toNat).toInt) ((xs (i + 2).toNat).toInt)).2 J1 _ _ ⟨hA2, hM2, gBring hg ((xs (i + 1).toNat).toInt) ((xs (i + 2).toNat).toInt)⟩ hw
set_option maxHeartbeats 4000000 in
set_option maxRecDepth 100000 in
theorem lc_undo (hc : CallFix p m c cL_law 4 s args wsL_law RL) (hl : lv_has ls 4 [(3, .int (iI i)), (2, .ref (x + 36)), (1, .ref x), (0, .ref b)]) (hX : va_X b L xs s s.heap) (hbl : b < s.heap.size) (hbA : ¬ g_A g b) (hi : 0 ≤ i ∧ i + 4 ≤ L) (hL : L ≤ 2048) (hw : g_W g n S s H locs) (hI : LW g S n x A J) (hcs : cells + 4 ≤ 600000 ∧ slots + 133 ≤ 7302250)
    (kk : ∀ (n1 : Nat) (S1 : Nat → gE) (A1 : aT) (J1 : jT) (H1 : Heap) (locs1 : List Loc), LW g S1 n1 x A1 J1 → g_W g n1 S1 s H1 locs1 → W p l e room_1 s m args below meth c H1 locs1 (cells + 4) (slots + 133) Q (F0 m 510 ls [])) : W p l e room_1 s m args below meth c H locs cells slots Q (F0 m 243 ls []) := by
  obtain ⟨hA, hM, hg⟩ := hI
  obtain ⟨tr, lv, cs, ca, kp, h0, -⟩ : CI g S n x A.1 A.2.1 A.2.2.1 J A.2.2.2.1 A.2.2.2.2.1 A.2.2.2.2.2 := id hA
  refine lv_aload_n hc.1 hc.2.1 dL_law_243 rfl (lv_at hl 2 rfl) ?_
  refine nn_Vs (As := []) (st := []) hc hw h0 rfl (w_K_undo l g hA hg ) (cwV 0 hc.2.2.2.2 gL_law_X8_undo rfl rfl rfl (by decide +kernel) ⟨(Nat.le_of_ble_eq_true rfl), (Nat.le_of_ble_eq_true rfl)⟩) rfl hl.1 rfl (Nat.le_of_ble_eq_true rfl) ⟨by show cells + 0 ≤ 600000; omega, by show slots + 0 ≤ 7302250; omega⟩ dL_law_244 (fun v1 n1 S1 H locs hq hw => ?_)
  obtain ⟨rfl, hn1, ⟨J1, hA1⟩, fr1⟩ := hq
  have hM1 : MA g S1 (x + 36) A := MI.kept hM (fun bb h1 h2 => fr1 bb (Or.inr ⟨h1, by omega⟩))
  refine W.eq (g2 := F0 m 247 ls [.int (iI (sUndo A).1)]) rfl ?_
  obtain ⟨mHC, stg, hps, hmP, mAt, mRC, mJC, mCh, mVi, txa, rst, rhp, nw, sv, hs, nbs, js, z0, -⟩ : MI g S1 (x + 36) A.1 A.2.1 A.2.2.1 A.2.2.2.1 A.2.2.2.2.1 A.2.2.2.2.2 := id hM1
  refine lv_aload_n hc.1 hc.2.1 dL_law_247 rfl (lv_at hl 1 rfl) ?_
  refine nn_Vs (As := []) (st := [.int (iI (sUndo A).1)]) hc hw z0 rfl (w_M_undo l g hM1 hg ) (cwV 0 hc.2.2.2.2 gL_law_X9_undo rfl rfl rfl (by decide +kernel) ⟨(Nat.le_of_ble_eq_true rfl), (Nat.le_of_ble_eq_true rfl)⟩) rfl hl.1 rfl (Nat.le_of_ble_eq_true rfl) ⟨by show cells + 0 + 0 ≤ 600000; omega, by show slots + 0 + 0 ≤ 7302250; omega⟩ dL_law_248 (fun v2 n2 S2 H locs hq hw => ?_)
  obtain ⟨rfl, rfl, hM2, fr2⟩ := hq
  have hA2 : CA g S2 n1 x (sUndo A).2 J1 := CI.kept hA1 (fun bb h1 h2 => fr2 bb (by omega))
  refine W.eq (g2 := F0 m 251 ls [.int (iI (sUndo A).1), .int (iI (sUndo A).1)]) rfl ?_
  refine lv_icmp_eq hc.1 hc.2.1 dL_law_251 (tgt := 510) (by decide) (fun _ => ?_) (fun hne => absurd rfl hne)
  refine W.widen (k := cells + 4) (n := slots + 133) (by omega) (by omega) ?_
  exact kk n1 S2 (sUndo A).2 J1 _ _ ⟨hA2, hM2, gUndo hg⟩ hw
set_option maxHeartbeats 4000000 in
set_option maxRecDepth 100000 in
theorem lc_heap (hc : CallFix p m c cL_law 4 s args wsL_law RL) (hl : lv_has ls 4 [(3, .int (iI i)), (2, .ref (x + 36)), (1, .ref x), (0, .ref b)]) (hX : va_X b L xs s s.heap) (hbl : b < s.heap.size) (hbA : ¬ g_A g b) (hi : 0 ≤ i ∧ i + 4 ≤ L) (hL : L ≤ 2048) (hw : g_W g n S s H locs) (hI : LW g S n x A J) (hcs : cells + 4 ≤ 600000 ∧ slots + 133 ≤ 7302250)
    (kk : ∀ (n1 : Nat) (S1 : Nat → gE) (A1 : aT) (J1 : jT) (H1 : Heap) (locs1 : List Loc), LW g S1 n1 x A1 J1 → g_W g n1 S1 s H1 locs1 → W p l e room_1 s m args below meth c H1 locs1 (cells + 4) (slots + 133) Q (F0 m 510 ls [])) : W p l e room_1 s m args below meth c H locs cells slots Q (F0 m 256 ls []) := by
  obtain ⟨hA, hM, hg⟩ := hI
  obtain ⟨tr, lv, cs, ca, kp, h0, -⟩ : CI g S n x A.1 A.2.1 A.2.2.1 J A.2.2.2.1 A.2.2.2.2.1 A.2.2.2.2.2 := id hA
  have ry1 := iI_rng (xs (i + 1).toNat)
  have ry2 := iI_rng (xs (i + 2).toNat)
  refine lv_aload_n hc.1 hc.2.1 dL_law_256 rfl (lv_at hl 2 rfl) ?_
  refine lv_aload_n hc.1 hc.2.1 dL_law_257 rfl (lv_at hl 3 rfl) ?_
  refine lv_iload_n hc.1 hc.2.1 dL_law_258 rfl (lv_at hl 0 rfl) ?_
  refine nn_iconst hc dL_law_259 ?_
  refine nn_iadd hc dL_law_260 ?_
  refine nn_sld hc hw hX hbl hbA (by omega) hL dL_law_261 ?_
  refine lv_aload_n hc.1 hc.2.1 dL_law_262 rfl (lv_at hl 3 rfl) ?_
  refine lv_iload_n hc.1 hc.2.1 dL_law_263 rfl (lv_at hl 0 rfl) ?_
  refine nn_iconst hc dL_law_264 ?_
  refine nn_iadd hc dL_law_265 ?_
  refine nn_sld hc hw hX hbl hbA (by omega) hL dL_law_266 ?_
  refine nn_Vp (As := [.int (iI ((xs (i + 1).toNat).toInt)), .int (iI ((xs (i + 2).toNat).toInt))]) (st := []) hc hw h0 rfl (w_K_heap l g hA hg ry1 ry2) (cwV 2 hc.2.2.2.2 gL_law_X8_heap rfl rfl rfl (by decide +kernel) ⟨(Nat.le_of_ble_eq_true rfl), (Nat.le_of_ble_eq_true rfl)⟩) rfl hl.1 rfl (Nat.le_of_ble_eq_true rfl) ⟨by show cells ≤ 600000; omega, by show slots ≤ 7302250; omega⟩ dL_law_267 ?_
  refine W.eq (g2 := F0 m 270 ls [.int (iI (sHeap A ((xs (i + 1).toNat).toInt) ((xs (i + 2).toNat).toInt)))]) rfl ?_
  obtain ⟨mHC, stg, hps, hmP, mAt, mRC, mJC, mCh, mVi, txa, rst, rhp, nw, sv, hs, nbs, js, z0, -⟩ : MI g S (x + 36) A.1 A.2.1 A.2.2.1 A.2.2.2.1 A.2.2.2.2.1 A.2.2.2.2.2 := id hM
  refine lv_aload_n hc.1 hc.2.1 dL_law_270 rfl (lv_at hl 1 rfl) ?_
  refine lv_aload_n hc.1 hc.2.1 dL_law_271 rfl (lv_at hl 3 rfl) ?_
  refine lv_iload_n hc.1 hc.2.1 dL_law_272 rfl (lv_at hl 0 rfl) ?_
  refine nn_iconst hc dL_law_273 ?_
  refine nn_iadd hc dL_law_274 ?_
  refine nn_sld hc hw hX hbl hbA (by omega) hL dL_law_275 ?_
  refine lv_aload_n hc.1 hc.2.1 dL_law_276 rfl (lv_at hl 3 rfl) ?_
  refine lv_iload_n hc.1 hc.2.1 dL_law_277 rfl (lv_at hl 0 rfl) ?_
  refine nn_iconst hc dL_law_278 ?_
  refine nn_iadd hc dL_law_279 ?_
  refine nn_sld hc hw hX hbl hbA (by omega) hL dL_law_280 ?_
  refine nn_Vp (As := [.int (iI ((xs (i + 1).toNat).toInt)), .int (iI ((xs (i + 2).toNat).toInt))]) (st := [.int (iI (sHeap A ((xs (i + 1).toNat).toInt) ((xs (i + 2).toNat).toInt)))]) hc hw z0 rfl (w_M_heap l g hM hg ry1 ry2) (cwV 2 hc.2.2.2.2 gL_law_X9_heap rfl rfl rfl (by decide +kernel) ⟨(Nat.le_of_ble_eq_true rfl), (Nat.le_of_ble_eq_true rfl)⟩) rfl hl.1 rfl (Nat.le_of_ble_eq_true rfl) ⟨by show cells ≤ 600000; omega, by show slots ≤ 7302250; omega⟩ dL_law_281 ?_
  refine W.eq (g2 := F0 m 284 ls [.int (iI (sHeap A ((xs (i + 1).toNat).toInt) ((xs (i + 2).toNat).toInt))), .int (iI (sHeap A ((xs (i + 1).toNat).toInt) ((xs (i + 2).toNat).toInt)))]) rfl ?_
  refine lv_icmp_eq hc.1 hc.2.1 dL_law_284 (tgt := 510) (by decide) (fun _ => ?_) (fun hne => absurd rfl hne)
  refine W.widen (k := cells + 4) (n := slots + 133) (by omega) (by omega) ?_
  exact kk n S A J _ _ ⟨hA, hM, hg⟩ hw
set_option maxHeartbeats 4000000 in
set_option maxRecDepth 100000 in
theorem lc_told (hc : CallFix p m c cL_law 4 s args wsL_law RL) (hl : lv_has ls 4 [(3, .int (iI i)), (2, .ref (x + 36)), (1, .ref x), (0, .ref b)]) (hX : va_X b L xs s s.heap) (hbl : b < s.heap.size) (hbA : ¬ g_A g b) (hi : 0 ≤ i ∧ i + 4 ≤ L) (hL : L ≤ 2048) (hw : g_W g n S s H locs) (hI : LW g S n x A J) (hcs : cells + 4 ≤ 600000 ∧ slots + 133 ≤ 7302250)
    (kk : ∀ (n1 : Nat) (S1 : Nat → gE) (A1 : aT) (J1 : jT) (H1 : Heap) (locs1 : List Loc), LW g S1 n1 x A1 J1 → g_W g n1 S1 s H1 locs1 → W p l e room_1 s m args below meth c H1 locs1 (cells + 4) (slots + 133) Q (F0 m 510 ls [])) : W p l e room_1 s m args below meth c H locs cells slots Q (F0 m 289 ls []) := by
  obtain ⟨hA, hM, hg⟩ := hI
  obtain ⟨tr, lv, cs, ca, kp, h0, -⟩ : CI g S n x A.1 A.2.1 A.2.2.1 J A.2.2.2.1 A.2.2.2.2.1 A.2.2.2.2.2 := id hA
  have ry1 := iI_rng (xs (i + 1).toNat)
  have ry2 := iI_rng (xs (i + 2).toNat)
  refine lv_aload_n hc.1 hc.2.1 dL_law_289 rfl (lv_at hl 2 rfl) ?_
  refine lv_aload_n hc.1 hc.2.1 dL_law_290 rfl (lv_at hl 3 rfl) ?_
  refine lv_iload_n hc.1 hc.2.1 dL_law_291 rfl (lv_at hl 0 rfl) ?_
  refine nn_iconst hc dL_law_292 ?_
  refine nn_iadd hc dL_law_293 ?_
  refine nn_sld hc hw hX hbl hbA (by omega) hL dL_law_294 ?_
  refine lv_aload_n hc.1 hc.2.1 dL_law_295 rfl (lv_at hl 3 rfl) ?_
  refine lv_iload_n hc.1 hc.2.1 dL_law_296 rfl (lv_at hl 0 rfl) ?_
  refine nn_iconst hc dL_law_297 ?_
  refine nn_iadd hc dL_law_298 ?_
  refine nn_sld hc hw hX hbl hbA (by omega) hL dL_law_299 ?_
  refine nn_Vp (As := [.int (iI ((xs (i + 1).toNat).toInt)), .int (iI ((xs (i + 2).toNat).toInt))]) (st := []) hc hw h0 rfl (w_K_told l g hA hg ry1 ry2) (cwV 2 hc.2.2.2.2 gL_law_X8_told rfl rfl rfl (by decide +kernel) ⟨(Nat.le_of_ble_eq_true rfl), (Nat.le_of_ble_eq_true rfl)⟩) rfl hl.1 rfl (Nat.le_of_ble_eq_true rfl) ⟨by show cells ≤ 600000; omega, by show slots ≤ 7302250; omega⟩ dL_law_300 ?_
  refine W.eq (g2 := F0 m 303 ls [.int (iI (sTold A ((xs (i + 1).toNat).toInt) ((xs (i + 2).toNat).toInt)))]) rfl ?_
  obtain ⟨mHC, stg, hps, hmP, mAt, mRC, mJC, mCh, mVi, txa, rst, rhp, nw, sv, hs, nbs, js, z0, -⟩ : MI g S (x + 36) A.1 A.2.1 A.2.2.1 A.2.2.2.1 A.2.2.2.2.1 A.2.2.2.2.2 := id hM
  refine lv_aload_n hc.1 hc.2.1 dL_law_303 rfl (lv_at hl 1 rfl) ?_
  refine lv_aload_n hc.1 hc.2.1 dL_law_304 rfl (lv_at hl 3 rfl) ?_
  refine lv_iload_n hc.1 hc.2.1 dL_law_305 rfl (lv_at hl 0 rfl) ?_
  refine nn_iconst hc dL_law_306 ?_
  refine nn_iadd hc dL_law_307 ?_
  refine nn_sld hc hw hX hbl hbA (by omega) hL dL_law_308 ?_
  refine lv_aload_n hc.1 hc.2.1 dL_law_309 rfl (lv_at hl 3 rfl) ?_
  refine lv_iload_n hc.1 hc.2.1 dL_law_310 rfl (lv_at hl 0 rfl) ?_
  refine nn_iconst hc dL_law_311 ?_
  refine nn_iadd hc dL_law_312 ?_
  refine nn_sld hc hw hX hbl hbA (by omega) hL dL_law_313 ?_
  refine nn_Vp (As := [.int (iI ((xs (i + 1).toNat).toInt)), .int (iI ((xs (i + 2).toNat).toInt))]) (st := [.int (iI (sTold A ((xs (i + 1).toNat).toInt) ((xs (i + 2).toNat).toInt)))]) hc hw z0 rfl (w_M_told l g hM hg ry1 ry2) (cwV 2 hc.2.2.2.2 gL_law_X9_told rfl rfl rfl (by decide +kernel) ⟨(Nat.le_of_ble_eq_true rfl), (Nat.le_of_ble_eq_true rfl)⟩) rfl hl.1 rfl (Nat.le_of_ble_eq_true rfl) ⟨by show cells ≤ 600000; omega, by show slots ≤ 7302250; omega⟩ dL_law_314 ?_
  refine W.eq (g2 := F0 m 317 ls [.int (iI (sTold A ((xs (i + 1).toNat).toInt) ((xs (i + 2).toNat).toInt))), .int (iI (sTold A ((xs (i + 1).toNat).toInt) ((xs (i + 2).toNat).toInt)))]) rfl ?_
  refine lv_icmp_eq hc.1 hc.2.1 dL_law_317 (tgt := 510) (by decide) (fun _ => ?_) (fun hne => absurd rfl hne)
  refine W.widen (k := cells + 4) (n := slots + 133) (by omega) (by omega) ?_
  exact kk n S A J _ _ ⟨hA, hM, hg⟩ hw
set_option maxHeartbeats 4000000 in
set_option maxRecDepth 100000 in
theorem lc_joint (hc : CallFix p m c cL_law 4 s args wsL_law RL) (hl : lv_has ls 4 [(3, .int (iI i)), (2, .ref (x + 36)), (1, .ref x), (0, .ref b)]) (hX : va_X b L xs s s.heap) (hbl : b < s.heap.size) (hbA : ¬ g_A g b) (hi : 0 ≤ i ∧ i + 4 ≤ L) (hL : L ≤ 2048) (hw : g_W g n S s H locs) (hI : LW g S n x A J) (hcs : cells + 4 ≤ 600000 ∧ slots + 133 ≤ 7302250)
    (kk : ∀ (n1 : Nat) (S1 : Nat → gE) (A1 : aT) (J1 : jT) (H1 : Heap) (locs1 : List Loc), LW g S1 n1 x A1 J1 → g_W g n1 S1 s H1 locs1 → W p l e room_1 s m args below meth c H1 locs1 (cells + 4) (slots + 133) Q (F0 m 510 ls [])) : W p l e room_1 s m args below meth c H locs cells slots Q (F0 m 322 ls []) := by
  obtain ⟨hA, hM, hg⟩ := hI
  obtain ⟨tr, lv, cs, ca, kp, h0, -⟩ : CI g S n x A.1 A.2.1 A.2.2.1 J A.2.2.2.1 A.2.2.2.2.1 A.2.2.2.2.2 := id hA
  have ry1 := iI_rng (xs (i + 1).toNat)
  have ry2 := iI_rng (xs (i + 2).toNat)
  refine lv_aload_n hc.1 hc.2.1 dL_law_322 rfl (lv_at hl 2 rfl) ?_
  refine lv_aload_n hc.1 hc.2.1 dL_law_323 rfl (lv_at hl 3 rfl) ?_
  refine lv_iload_n hc.1 hc.2.1 dL_law_324 rfl (lv_at hl 0 rfl) ?_
  refine nn_iconst hc dL_law_325 ?_
  refine nn_iadd hc dL_law_326 ?_
  refine nn_sld hc hw hX hbl hbA (by omega) hL dL_law_327 ?_
  refine lv_aload_n hc.1 hc.2.1 dL_law_328 rfl (lv_at hl 3 rfl) ?_
  refine lv_iload_n hc.1 hc.2.1 dL_law_329 rfl (lv_at hl 0 rfl) ?_
  refine nn_iconst hc dL_law_330 ?_
  refine nn_iadd hc dL_law_331 ?_
  refine nn_sld hc hw hX hbl hbA (by omega) hL dL_law_332 ?_
  refine nn_Vp (As := [.int (iI ((xs (i + 1).toNat).toInt)), .int (iI ((xs (i + 2).toNat).toInt))]) (st := []) hc hw h0 rfl (w_K_joint l g hA hg ry1 ry2) (cwV 2 hc.2.2.2.2 gL_law_X8_joint rfl rfl rfl (by decide +kernel) ⟨(Nat.le_of_ble_eq_true rfl), (Nat.le_of_ble_eq_true rfl)⟩) rfl hl.1 rfl (Nat.le_of_ble_eq_true rfl) ⟨by show cells ≤ 600000; omega, by show slots ≤ 7302250; omega⟩ dL_law_333 ?_
  refine W.eq (g2 := F0 m 336 ls [.int (iI (sJoint A ((xs (i + 1).toNat).toInt) ((xs (i + 2).toNat).toInt)))]) rfl ?_
  obtain ⟨mHC, stg, hps, hmP, mAt, mRC, mJC, mCh, mVi, txa, rst, rhp, nw, sv, hs, nbs, js, z0, -⟩ : MI g S (x + 36) A.1 A.2.1 A.2.2.1 A.2.2.2.1 A.2.2.2.2.1 A.2.2.2.2.2 := id hM
  refine lv_aload_n hc.1 hc.2.1 dL_law_336 rfl (lv_at hl 1 rfl) ?_
  refine lv_aload_n hc.1 hc.2.1 dL_law_337 rfl (lv_at hl 3 rfl) ?_
  refine lv_iload_n hc.1 hc.2.1 dL_law_338 rfl (lv_at hl 0 rfl) ?_
  refine nn_iconst hc dL_law_339 ?_
  refine nn_iadd hc dL_law_340 ?_
  refine nn_sld hc hw hX hbl hbA (by omega) hL dL_law_341 ?_
  refine lv_aload_n hc.1 hc.2.1 dL_law_342 rfl (lv_at hl 3 rfl) ?_
  refine lv_iload_n hc.1 hc.2.1 dL_law_343 rfl (lv_at hl 0 rfl) ?_
  refine nn_iconst hc dL_law_344 ?_
  refine nn_iadd hc dL_law_345 ?_
  refine nn_sld hc hw hX hbl hbA (by omega) hL dL_law_346 ?_
  refine nn_Vs (As := [.int (iI ((xs (i + 1).toNat).toInt)), .int (iI ((xs (i + 2).toNat).toInt))]) (st := [.int (iI (sJoint A ((xs (i + 1).toNat).toInt) ((xs (i + 2).toNat).toInt)))]) hc hw z0 rfl (w_M_joint l g hM hg ry1 ry2) (cwV 2 hc.2.2.2.2 gL_law_X9_joint rfl rfl rfl (by decide +kernel) ⟨(Nat.le_of_ble_eq_true rfl), (Nat.le_of_ble_eq_true rfl)⟩) rfl hl.1 rfl (Nat.le_of_ble_eq_true rfl) ⟨by show cells + 0 ≤ 600000; omega, by show slots + 0 ≤ 7302250; omega⟩ dL_law_347 (fun v2 n2 S2 H locs hq hw => ?_)
  obtain ⟨rfl, rfl, hM2, fr2⟩ := hq
  have hA2 : CA g S2 n x A J := CI.kept hA (fun bb h1 h2 => fr2 bb (by omega))
  refine W.eq (g2 := F0 m 350 ls [.int (iI (sJoint A ((xs (i + 1).toNat).toInt) ((xs (i + 2).toNat).toInt))), .int (iI (sJoint A ((xs (i + 1).toNat).toInt) ((xs (i + 2).toNat).toInt)))]) rfl ?_
  refine lv_icmp_eq hc.1 hc.2.1 dL_law_350 (tgt := 510) (by decide) (fun _ => ?_) (fun hne => absurd rfl hne)
  refine W.widen (k := cells + 4) (n := slots + 133) (by omega) (by omega) ?_
  exact kk n S2 A J _ _ ⟨hA2, hM2, hg⟩ hw
set_option maxHeartbeats 4000000 in
set_option maxRecDepth 100000 in
theorem lc_slate (hc : CallFix p m c cL_law 4 s args wsL_law RL) (hl : lv_has ls 4 [(3, .int (iI i)), (2, .ref (x + 36)), (1, .ref x), (0, .ref b)]) (hX : va_X b L xs s s.heap) (hbl : b < s.heap.size) (hbA : ¬ g_A g b) (hi : 0 ≤ i ∧ i + 4 ≤ L) (hL : L ≤ 2048) (hw : g_W g n S s H locs) (hI : LW g S n x A J) (hcs : cells + 4 ≤ 600000 ∧ slots + 133 ≤ 7302250)
    (kk : ∀ (n1 : Nat) (S1 : Nat → gE) (A1 : aT) (J1 : jT) (H1 : Heap) (locs1 : List Loc), LW g S1 n1 x A1 J1 → g_W g n1 S1 s H1 locs1 → W p l e room_1 s m args below meth c H1 locs1 (cells + 4) (slots + 133) Q (F0 m 510 ls [])) : W p l e room_1 s m args below meth c H locs cells slots Q (F0 m 355 ls []) := by
  obtain ⟨hA, hM, hg⟩ := hI
  obtain ⟨tr, lv, cs, ca, kp, h0, -⟩ : CI g S n x A.1 A.2.1 A.2.2.1 J A.2.2.2.1 A.2.2.2.2.1 A.2.2.2.2.2 := id hA
  have ry1 := iI_rng (xs (i + 1).toNat)
  have ry2 := iI_rng (xs (i + 2).toNat)
  have ry3 := iI_rng (xs (i + 3).toNat)
  refine lv_aload_n hc.1 hc.2.1 dL_law_355 rfl (lv_at hl 2 rfl) ?_
  refine lv_aload_n hc.1 hc.2.1 dL_law_356 rfl (lv_at hl 3 rfl) ?_
  refine lv_iload_n hc.1 hc.2.1 dL_law_357 rfl (lv_at hl 0 rfl) ?_
  refine nn_iconst hc dL_law_358 ?_
  refine nn_iadd hc dL_law_359 ?_
  refine nn_sld hc hw hX hbl hbA (by omega) hL dL_law_360 ?_
  refine lv_aload_n hc.1 hc.2.1 dL_law_361 rfl (lv_at hl 3 rfl) ?_
  refine lv_iload_n hc.1 hc.2.1 dL_law_362 rfl (lv_at hl 0 rfl) ?_
  refine nn_iconst hc dL_law_363 ?_
  refine nn_iadd hc dL_law_364 ?_
  refine nn_sld hc hw hX hbl hbA (by omega) hL dL_law_365 ?_
  refine lv_aload_n hc.1 hc.2.1 dL_law_366 rfl (lv_at hl 3 rfl) ?_
  refine lv_iload_n hc.1 hc.2.1 dL_law_367 rfl (lv_at hl 0 rfl) ?_
  refine nn_iconst hc dL_law_368 ?_
  refine nn_iadd hc dL_law_369 ?_
  refine nn_sld hc hw hX hbl hbA (by omega) hL dL_law_370 ?_
  refine nn_Vp (As := [.int (iI ((xs (i + 1).toNat).toInt)), .int (iI ((xs (i + 2).toNat).toInt)), .int (iI ((xs (i + 3).toNat).toInt))]) (st := []) hc hw h0 rfl (w_K_slate l g hA hg ry1 ry2 ry3) (cwV 3 hc.2.2.2.2 gL_law_X8_slate rfl rfl rfl (by decide +kernel) ⟨(Nat.le_of_ble_eq_true rfl), (Nat.le_of_ble_eq_true rfl)⟩) rfl hl.1 rfl (Nat.le_of_ble_eq_true rfl) ⟨by show cells ≤ 600000; omega, by show slots ≤ 7302250; omega⟩ dL_law_371 ?_
  refine W.eq (g2 := F0 m 374 ls [.int (iI (sSlate A ((xs (i + 1).toNat).toInt) ((xs (i + 2).toNat).toInt) ((xs (i + 3).toNat).toInt)))]) rfl ?_
  obtain ⟨mHC, stg, hps, hmP, mAt, mRC, mJC, mCh, mVi, txa, rst, rhp, nw, sv, hs, nbs, js, z0, -⟩ : MI g S (x + 36) A.1 A.2.1 A.2.2.1 A.2.2.2.1 A.2.2.2.2.1 A.2.2.2.2.2 := id hM
  refine lv_aload_n hc.1 hc.2.1 dL_law_374 rfl (lv_at hl 1 rfl) ?_
  refine lv_aload_n hc.1 hc.2.1 dL_law_375 rfl (lv_at hl 3 rfl) ?_
  refine lv_iload_n hc.1 hc.2.1 dL_law_376 rfl (lv_at hl 0 rfl) ?_
  refine nn_iconst hc dL_law_377 ?_
  refine nn_iadd hc dL_law_378 ?_
  refine nn_sld hc hw hX hbl hbA (by omega) hL dL_law_379 ?_
  refine lv_aload_n hc.1 hc.2.1 dL_law_380 rfl (lv_at hl 3 rfl) ?_
  refine lv_iload_n hc.1 hc.2.1 dL_law_381 rfl (lv_at hl 0 rfl) ?_
  refine nn_iconst hc dL_law_382 ?_
  refine nn_iadd hc dL_law_383 ?_
  refine nn_sld hc hw hX hbl hbA (by omega) hL dL_law_384 ?_
  refine lv_aload_n hc.1 hc.2.1 dL_law_385 rfl (lv_at hl 3 rfl) ?_
  refine lv_iload_n hc.1 hc.2.1 dL_law_386 rfl (lv_at hl 0 rfl) ?_
  refine nn_iconst hc dL_law_387 ?_
  refine nn_iadd hc dL_law_388 ?_
  refine nn_sld hc hw hX hbl hbA (by omega) hL dL_law_389 ?_
  refine nn_Vp (As := [.int (iI ((xs (i + 1).toNat).toInt)), .int (iI ((xs (i + 2).toNat).toInt)), .int (iI ((xs (i + 3).toNat).toInt))]) (st := [.int (iI (sSlate A ((xs (i + 1).toNat).toInt) ((xs (i + 2).toNat).toInt) ((xs (i + 3).toNat).toInt)))]) hc hw z0 rfl (w_M_slate l g hM hg ry1 ry2 ry3) (cwV 3 hc.2.2.2.2 gL_law_X9_slate rfl rfl rfl (by decide +kernel) ⟨(Nat.le_of_ble_eq_true rfl), (Nat.le_of_ble_eq_true rfl)⟩) rfl hl.1 rfl (Nat.le_of_ble_eq_true rfl) ⟨by show cells ≤ 600000; omega, by show slots ≤ 7302250; omega⟩ dL_law_390 ?_
  refine W.eq (g2 := F0 m 393 ls [.int (iI (sSlate A ((xs (i + 1).toNat).toInt) ((xs (i + 2).toNat).toInt) ((xs (i + 3).toNat).toInt))), .int (iI (sSlate A ((xs (i + 1).toNat).toInt) ((xs (i + 2).toNat).toInt) ((xs (i + 3).toNat).toInt)))]) rfl ?_
  refine lv_icmp_eq hc.1 hc.2.1 dL_law_393 (tgt := 510) (by decide) (fun _ => ?_) (fun hne => absurd rfl hne)
  refine W.widen (k := cells + 4) (n := slots + 133) (by omega) (by omega) ?_
  exact kk n S A J _ _ ⟨hA, hM, hg⟩ hw
set_option maxHeartbeats 4000000 in
set_option maxRecDepth 100000 in
theorem lc_tried (hc : CallFix p m c cL_law 4 s args wsL_law RL) (hl : lv_has ls 4 [(3, .int (iI i)), (2, .ref (x + 36)), (1, .ref x), (0, .ref b)]) (hX : va_X b L xs s s.heap) (hbl : b < s.heap.size) (hbA : ¬ g_A g b) (hi : 0 ≤ i ∧ i + 4 ≤ L) (hL : L ≤ 2048) (hw : g_W g n S s H locs) (hI : LW g S n x A J) (hcs : cells + 4 ≤ 600000 ∧ slots + 133 ≤ 7302250)
    (kk : ∀ (n1 : Nat) (S1 : Nat → gE) (A1 : aT) (J1 : jT) (H1 : Heap) (locs1 : List Loc), LW g S1 n1 x A1 J1 → g_W g n1 S1 s H1 locs1 → W p l e room_1 s m args below meth c H1 locs1 (cells + 4) (slots + 133) Q (F0 m 510 ls [])) : W p l e room_1 s m args below meth c H locs cells slots Q (F0 m 398 ls []) := by
  obtain ⟨hA, hM, hg⟩ := hI
  obtain ⟨tr, lv, cs, ca, kp, h0, -⟩ : CI g S n x A.1 A.2.1 A.2.2.1 J A.2.2.2.1 A.2.2.2.2.1 A.2.2.2.2.2 := id hA
  have ry1 := iI_rng (xs (i + 1).toNat)
  have ry2 := iI_rng (xs (i + 2).toNat)
  refine lv_aload_n hc.1 hc.2.1 dL_law_398 rfl (lv_at hl 2 rfl) ?_
  refine lv_aload_n hc.1 hc.2.1 dL_law_399 rfl (lv_at hl 3 rfl) ?_
  refine lv_iload_n hc.1 hc.2.1 dL_law_400 rfl (lv_at hl 0 rfl) ?_
  refine nn_iconst hc dL_law_401 ?_
  refine nn_iadd hc dL_law_402 ?_
  refine nn_sld hc hw hX hbl hbA (by omega) hL dL_law_403 ?_
  refine lv_aload_n hc.1 hc.2.1 dL_law_404 rfl (lv_at hl 3 rfl) ?_
  refine lv_iload_n hc.1 hc.2.1 dL_law_405 rfl (lv_at hl 0 rfl) ?_
  refine nn_iconst hc dL_law_406 ?_
  refine nn_iadd hc dL_law_407 ?_
  refine nn_sld hc hw hX hbl hbA (by omega) hL dL_law_408 ?_
  refine nn_Vs (As := [.int (iI ((xs (i + 1).toNat).toInt)), .int (iI ((xs (i + 2).toNat).toInt))]) (st := []) hc hw h0 rfl (w_K_tried l g hA hg ry1 ry2) (cwV 2 hc.2.2.2.2 gL_law_X8_tried rfl rfl rfl (by decide +kernel) ⟨(Nat.le_of_ble_eq_true rfl), (Nat.le_of_ble_eq_true rfl)⟩) rfl hl.1 rfl (Nat.le_of_ble_eq_true rfl) ⟨by show cells + 0 ≤ 600000; omega, by show slots + 0 ≤ 7302250; omega⟩ dL_law_409 (fun v1 n1 S1 H locs hq hw => ?_)
  obtain ⟨rfl, hn1, ⟨J1, hA1⟩, fr1⟩ := hq
  have hM1 : MA g S1 (x + 36) A := MI.kept hM (fun bb h1 h2 => fr1 bb (Or.inr ⟨h1, by omega⟩))
  refine W.eq (g2 := F0 m 412 ls [.int (iI (sTried A ((xs (i + 1).toNat).toInt) ((xs (i + 2).toNat).toInt)))]) rfl ?_
  obtain ⟨mHC, stg, hps, hmP, mAt, mRC, mJC, mCh, mVi, txa, rst, rhp, nw, sv, hs, nbs, js, z0, -⟩ : MI g S1 (x + 36) A.1 A.2.1 A.2.2.1 A.2.2.2.1 A.2.2.2.2.1 A.2.2.2.2.2 := id hM1
  refine lv_aload_n hc.1 hc.2.1 dL_law_412 rfl (lv_at hl 1 rfl) ?_
  refine lv_aload_n hc.1 hc.2.1 dL_law_413 rfl (lv_at hl 3 rfl) ?_
  refine lv_iload_n hc.1 hc.2.1 dL_law_414 rfl (lv_at hl 0 rfl) ?_
  refine nn_iconst hc dL_law_415 ?_
  refine nn_iadd hc dL_law_416 ?_
  refine nn_sld hc hw hX hbl hbA (by omega) hL dL_law_417 ?_
  refine lv_aload_n hc.1 hc.2.1 dL_law_418 rfl (lv_at hl 3 rfl) ?_
  refine lv_iload_n hc.1 hc.2.1 dL_law_419 rfl (lv_at hl 0 rfl) ?_
  refine nn_iconst hc dL_law_420 ?_
  refine nn_iadd hc dL_law_421 ?_
  refine nn_sld hc hw hX hbl hbA (by omega) hL dL_law_422 ?_
  refine nn_Vs (As := [.int (iI ((xs (i + 1).toNat).toInt)), .int (iI ((xs (i + 2).toNat).toInt))]) (st := [.int (iI (sTried A ((xs (i + 1).toNat).toInt) ((xs (i + 2).toNat).toInt)))]) hc hw z0 rfl (w_M_tried l g hM1 hg ry1 ry2) (cwV 2 hc.2.2.2.2 gL_law_X9_tried rfl rfl rfl (by decide +kernel) ⟨(Nat.le_of_ble_eq_true rfl), (Nat.le_of_ble_eq_true rfl)⟩) rfl hl.1 rfl (Nat.le_of_ble_eq_true rfl) ⟨by show cells + 0 + 0 ≤ 600000; omega, by show slots + 0 + 0 ≤ 7302250; omega⟩ dL_law_423 (fun v2 n2 S2 H locs hq hw => ?_)
  obtain ⟨rfl, rfl, hM2, fr2⟩ := hq
  have hA2 : CA g S2 n1 x A J1 := CI.kept hA1 (fun bb h1 h2 => fr2 bb (by omega))
  refine W.eq (g2 := F0 m 426 ls [.int (iI (sTried A ((xs (i + 1).toNat).toInt) ((xs (i + 2).toNat).toInt))), .int (iI (sTried A ((xs (i + 1).toNat).toInt) ((xs (i + 2).toNat).toInt)))]) rfl ?_
  refine lv_icmp_eq hc.1 hc.2.1 dL_law_426 (tgt := 510) (by decide) (fun _ => ?_) (fun hne => absurd rfl hne)
  refine W.widen (k := cells + 4) (n := slots + 133) (by omega) (by omega) ?_
  exact kk n1 S2 A J1 _ _ ⟨hA2, hM2, hg⟩ hw
set_option maxHeartbeats 4000000 in
set_option maxRecDepth 100000 in
theorem lc_next (hc : CallFix p m c cL_law 4 s args wsL_law RL) (hl : lv_has ls 4 [(3, .int (iI i)), (2, .ref (x + 36)), (1, .ref x), (0, .ref b)]) (hX : va_X b L xs s s.heap) (hbl : b < s.heap.size) (hbA : ¬ g_A g b) (hi : 0 ≤ i ∧ i + 4 ≤ L) (hL : L ≤ 2048) (hw : g_W g n S s H locs) (hI : LW g S n x A J) (hcs : cells + 4 ≤ 600000 ∧ slots + 133 ≤ 7302250)
    (kk : ∀ (n1 : Nat) (S1 : Nat → gE) (A1 : aT) (J1 : jT) (H1 : Heap) (locs1 : List Loc), LW g S1 n1 x A1 J1 → g_W g n1 S1 s H1 locs1 → W p l e room_1 s m args below meth c H1 locs1 (cells + 4) (slots + 133) Q (F0 m 510 ls [])) : W p l e room_1 s m args below meth c H locs cells slots Q (F0 m 431 ls []) := by
  obtain ⟨hA, hM, hg⟩ := hI
  obtain ⟨tr, lv, cs, ca, kp, h0, -⟩ : CI g S n x A.1 A.2.1 A.2.2.1 J A.2.2.2.1 A.2.2.2.2.1 A.2.2.2.2.2 := id hA
  have ry1 := iI_rng (xs (i + 1).toNat)
  refine lv_aload_n hc.1 hc.2.1 dL_law_431 rfl (lv_at hl 2 rfl) ?_
  refine lv_aload_n hc.1 hc.2.1 dL_law_432 rfl (lv_at hl 3 rfl) ?_
  refine lv_iload_n hc.1 hc.2.1 dL_law_433 rfl (lv_at hl 0 rfl) ?_
  refine nn_iconst hc dL_law_434 ?_
  refine nn_iadd hc dL_law_435 ?_
  refine nn_sld hc hw hX hbl hbA (by omega) hL dL_law_436 ?_
  refine nn_Vs (As := [.int (iI ((xs (i + 1).toNat).toInt))]) (st := []) hc hw h0 rfl (w_K_next l g hA hg ry1) (cwV 1 hc.2.2.2.2 gL_law_X8_next rfl rfl rfl (by decide +kernel) ⟨(Nat.le_of_ble_eq_true rfl), (Nat.le_of_ble_eq_true rfl)⟩) rfl hl.1 rfl (Nat.le_of_ble_eq_true rfl) ⟨by show cells + 0 ≤ 600000; omega, by show slots + 0 ≤ 7302250; omega⟩ dL_law_437 (fun v1 n1 S1 H locs hq hw => ?_)
  obtain ⟨rfl, hn1, ⟨J1, hA1⟩, fr1⟩ := hq
  have hM1 : MA g S1 (x + 36) A := MI.kept hM (fun bb h1 h2 => fr1 bb (Or.inr ⟨h1, by omega⟩))
  refine W.eq (g2 := F0 m 440 ls [.int (iI (sNext A ((xs (i + 1).toNat).toInt)))]) rfl ?_
  obtain ⟨mHC, stg, hps, hmP, mAt, mRC, mJC, mCh, mVi, txa, rst, rhp, nw, sv, hs, nbs, js, z0, -⟩ : MI g S1 (x + 36) A.1 A.2.1 A.2.2.1 A.2.2.2.1 A.2.2.2.2.1 A.2.2.2.2.2 := id hM1
  refine lv_aload_n hc.1 hc.2.1 dL_law_440 rfl (lv_at hl 1 rfl) ?_
  refine lv_aload_n hc.1 hc.2.1 dL_law_441 rfl (lv_at hl 3 rfl) ?_
  refine lv_iload_n hc.1 hc.2.1 dL_law_442 rfl (lv_at hl 0 rfl) ?_
  refine nn_iconst hc dL_law_443 ?_
  refine nn_iadd hc dL_law_444 ?_
  refine nn_sld hc hw hX hbl hbA (by omega) hL dL_law_445 ?_
  refine nn_Vs (As := [.int (iI ((xs (i + 1).toNat).toInt))]) (st := [.int (iI (sNext A ((xs (i + 1).toNat).toInt)))]) hc hw z0 rfl (w_M_next l g hM1 hg ry1) (cwV 1 hc.2.2.2.2 gL_law_X9_next rfl rfl rfl (by decide +kernel) ⟨(Nat.le_of_ble_eq_true rfl), (Nat.le_of_ble_eq_true rfl)⟩) rfl hl.1 rfl (Nat.le_of_ble_eq_true rfl) ⟨by show cells + 0 + 0 ≤ 600000; omega, by show slots + 0 + 0 ≤ 7302250; omega⟩ dL_law_446 (fun v2 n2 S2 H locs hq hw => ?_)
  obtain ⟨rfl, rfl, hM2, fr2⟩ := hq
  have hA2 : CA g S2 n1 x A J1 := CI.kept hA1 (fun bb h1 h2 => fr2 bb (by omega))
  refine W.eq (g2 := F0 m 449 ls [.int (iI (sNext A ((xs (i + 1).toNat).toInt))), .int (iI (sNext A ((xs (i + 1).toNat).toInt)))]) rfl ?_
  refine lv_icmp_eq hc.1 hc.2.1 dL_law_449 (tgt := 510) (by decide) (fun _ => ?_) (fun hne => absurd rfl hne)
  refine W.widen (k := cells + 4) (n := slots + 133) (by omega) (by omega) ?_
  exact kk n1 S2 A J1 _ _ ⟨hA2, hM2, hg⟩ hw
set_option maxHeartbeats 4000000 in
set_option maxRecDepth 100000 in
theorem lc_itself (hc : CallFix p m c cL_law 4 s args wsL_law RL) (hl : lv_has ls 4 [(3, .int (iI i)), (2, .ref (x + 36)), (1, .ref x), (0, .ref b)]) (hX : va_X b L xs s s.heap) (hbl : b < s.heap.size) (hbA : ¬ g_A g b) (hi : 0 ≤ i ∧ i + 4 ≤ L) (hL : L ≤ 2048) (hw : g_W g n S s H locs) (hI : LW g S n x A J) (hcs : cells + 4 ≤ 600000 ∧ slots + 133 ≤ 7302250)
    (kk : ∀ (n1 : Nat) (S1 : Nat → gE) (A1 : aT) (J1 : jT) (H1 : Heap) (locs1 : List Loc), LW g S1 n1 x A1 J1 → g_W g n1 S1 s H1 locs1 → W p l e room_1 s m args below meth c H1 locs1 (cells + 4) (slots + 133) Q (F0 m 510 ls [])) : W p l e room_1 s m args below meth c H locs cells slots Q (F0 m 454 ls []) := by
  obtain ⟨hA, hM, hg⟩ := hI
  obtain ⟨tr, lv, cs, ca, kp, h0, -⟩ : CI g S n x A.1 A.2.1 A.2.2.1 J A.2.2.2.1 A.2.2.2.2.1 A.2.2.2.2.2 := id hA
  have ry1 := iI_rng (xs (i + 1).toNat)
  have ry2 := iI_rng (xs (i + 2).toNat)
  refine lv_aload_n hc.1 hc.2.1 dL_law_454 rfl (lv_at hl 2 rfl) ?_
  refine lv_aload_n hc.1 hc.2.1 dL_law_455 rfl (lv_at hl 3 rfl) ?_
  refine lv_iload_n hc.1 hc.2.1 dL_law_456 rfl (lv_at hl 0 rfl) ?_
  refine nn_iconst hc dL_law_457 ?_
  refine nn_iadd hc dL_law_458 ?_
  refine nn_sld hc hw hX hbl hbA (by omega) hL dL_law_459 ?_
  refine lv_aload_n hc.1 hc.2.1 dL_law_460 rfl (lv_at hl 3 rfl) ?_
  refine lv_iload_n hc.1 hc.2.1 dL_law_461 rfl (lv_at hl 0 rfl) ?_
  refine nn_iconst hc dL_law_462 ?_
  refine nn_iadd hc dL_law_463 ?_
  refine nn_sld hc hw hX hbl hbA (by omega) hL dL_law_464 ?_
  refine nn_Vs (As := [.int (iI ((xs (i + 1).toNat).toInt)), .int (iI ((xs (i + 2).toNat).toInt))]) (st := []) hc hw h0 rfl (w_K_itself l g hA hg ry1 ry2) (cwV 2 hc.2.2.2.2 gL_law_X8_itself rfl rfl rfl (by decide +kernel) ⟨(Nat.le_of_ble_eq_true rfl), (Nat.le_of_ble_eq_true rfl)⟩) rfl hl.1 rfl (Nat.le_of_ble_eq_true rfl) ⟨by show cells + 0 ≤ 600000; omega, by show slots + 0 ≤ 7302250; omega⟩ dL_law_465 (fun v1 n1 S1 H locs hq hw => ?_)
  obtain ⟨rfl, hn1, ⟨J1, hA1⟩, fr1⟩ := hq
  have hM1 : MA g S1 (x + 36) A := MI.kept hM (fun bb h1 h2 => fr1 bb (Or.inr ⟨h1, by omega⟩))
  refine W.eq (g2 := F0 m 468 ls [.int (iI (sItself A ((xs (i + 1).toNat).toInt) ((xs (i + 2).toNat).toInt)))]) rfl ?_
  obtain ⟨mHC, stg, hps, hmP, mAt, mRC, mJC, mCh, mVi, txa, rst, rhp, nw, sv, hs, nbs, js, z0, -⟩ : MI g S1 (x + 36) A.1 A.2.1 A.2.2.1 A.2.2.2.1 A.2.2.2.2.1 A.2.2.2.2.2 := id hM1
  refine lv_aload_n hc.1 hc.2.1 dL_law_468 rfl (lv_at hl 1 rfl) ?_
  refine lv_aload_n hc.1 hc.2.1 dL_law_469 rfl (lv_at hl 3 rfl) ?_
  refine lv_iload_n hc.1 hc.2.1 dL_law_470 rfl (lv_at hl 0 rfl) ?_
  refine nn_iconst hc dL_law_471 ?_
  refine nn_iadd hc dL_law_472 ?_
  refine nn_sld hc hw hX hbl hbA (by omega) hL dL_law_473 ?_
  refine lv_aload_n hc.1 hc.2.1 dL_law_474 rfl (lv_at hl 3 rfl) ?_
  refine lv_iload_n hc.1 hc.2.1 dL_law_475 rfl (lv_at hl 0 rfl) ?_
  refine nn_iconst hc dL_law_476 ?_
  refine nn_iadd hc dL_law_477 ?_
  refine nn_sld hc hw hX hbl hbA (by omega) hL dL_law_478 ?_
  refine nn_Vs (As := [.int (iI ((xs (i + 1).toNat).toInt)), .int (iI ((xs (i + 2).toNat).toInt))]) (st := [.int (iI (sItself A ((xs (i + 1).toNat).toInt) ((xs (i + 2).toNat).toInt)))]) hc hw z0 rfl (w_M_itself l g hM1 hg ry1 ry2) (cwV 2 hc.2.2.2.2 gL_law_X9_itself rfl rfl rfl (by decide +kernel) ⟨(Nat.le_of_ble_eq_true rfl), (Nat.le_of_ble_eq_true rfl)⟩) rfl hl.1 rfl (Nat.le_of_ble_eq_true rfl) ⟨by show cells + 0 + 0 ≤ 600000; omega, by show slots + 0 + 0 ≤ 7302250; omega⟩ dL_law_479 (fun v2 n2 S2 H locs hq hw => ?_)
  obtain ⟨rfl, rfl, hM2, fr2⟩ := hq
  have hA2 : CA g S2 n1 x A J1 := CI.kept hA1 (fun bb h1 h2 => fr2 bb (by omega))
  refine W.eq (g2 := F0 m 482 ls [.int (iI (sItself A ((xs (i + 1).toNat).toInt) ((xs (i + 2).toNat).toInt))), .int (iI (sItself A ((xs (i + 1).toNat).toInt) ((xs (i + 2).toNat).toInt)))]) rfl ?_
  refine lv_icmp_eq hc.1 hc.2.1 dL_law_482 (tgt := 510) (by decide) (fun _ => ?_) (fun hne => absurd rfl hne)
  refine W.widen (k := cells + 4) (n := slots + 133) (by omega) (by omega) ?_
  exact kk n1 S2 A J1 _ _ ⟨hA2, hM2, hg⟩ hw
set_option maxHeartbeats 4000000 in
set_option maxRecDepth 100000 in
theorem lc_count (hc : CallFix p m c cL_law 4 s args wsL_law RL) (hl : lv_has ls 4 [(3, .int (iI i)), (2, .ref (x + 36)), (1, .ref x), (0, .ref b)]) (hX : va_X b L xs s s.heap) (hbl : b < s.heap.size) (hbA : ¬ g_A g b) (hi : 0 ≤ i ∧ i + 4 ≤ L) (hL : L ≤ 2048) (hw : g_W g n S s H locs) (hI : LW g S n x A J) (hcs : cells + 4 ≤ 600000 ∧ slots + 133 ≤ 7302250)
    (kk : ∀ (n1 : Nat) (S1 : Nat → gE) (A1 : aT) (J1 : jT) (H1 : Heap) (locs1 : List Loc), LW g S1 n1 x A1 J1 → g_W g n1 S1 s H1 locs1 → W p l e room_1 s m args below meth c H1 locs1 (cells + 4) (slots + 133) Q (F0 m 510 ls [])) : W p l e room_1 s m args below meth c H locs cells slots Q (F0 m 487 ls []) := by
  obtain ⟨hA, hM, hg⟩ := hI
  obtain ⟨tr, lv, cs, ca, kp, h0, -⟩ : CI g S n x A.1 A.2.1 A.2.2.1 J A.2.2.2.1 A.2.2.2.2.1 A.2.2.2.2.2 := id hA
  have ry1 := iI_rng (xs (i + 1).toNat)
  refine lv_aload_n hc.1 hc.2.1 dL_law_487 rfl (lv_at hl 2 rfl) ?_
  refine lv_aload_n hc.1 hc.2.1 dL_law_488 rfl (lv_at hl 3 rfl) ?_
  refine lv_iload_n hc.1 hc.2.1 dL_law_489 rfl (lv_at hl 0 rfl) ?_
  refine nn_iconst hc dL_law_490 ?_
  refine nn_iadd hc dL_law_491 ?_
  refine nn_sld hc hw hX hbl hbA (by omega) hL dL_law_492 ?_
  refine nn_Vp (As := [.int (iI ((xs (i + 1).toNat).toInt))]) (st := []) hc hw h0 rfl (w_K_count l g hA hg ry1) (cwV 1 hc.2.2.2.2 gL_law_X8_count rfl rfl rfl (by decide +kernel) ⟨(Nat.le_of_ble_eq_true rfl), (Nat.le_of_ble_eq_true rfl)⟩) rfl hl.1 rfl (Nat.le_of_ble_eq_true rfl) ⟨by show cells ≤ 600000; omega, by show slots ≤ 7302250; omega⟩ dL_law_493 ?_
  refine W.eq (g2 := F0 m 496 ls [.int (iI (sCount A ((xs (i + 1).toNat).toInt)))]) rfl ?_
  obtain ⟨mHC, stg, hps, hmP, mAt, mRC, mJC, mCh, mVi, txa, rst, rhp, nw, sv, hs, nbs, js, z0, -⟩ : MI g S (x + 36) A.1 A.2.1 A.2.2.1 A.2.2.2.1 A.2.2.2.2.1 A.2.2.2.2.2 := id hM
  refine lv_aload_n hc.1 hc.2.1 dL_law_496 rfl (lv_at hl 1 rfl) ?_
  refine lv_aload_n hc.1 hc.2.1 dL_law_497 rfl (lv_at hl 3 rfl) ?_
  refine lv_iload_n hc.1 hc.2.1 dL_law_498 rfl (lv_at hl 0 rfl) ?_
  refine nn_iconst hc dL_law_499 ?_
  refine nn_iadd hc dL_law_500 ?_
  refine nn_sld hc hw hX hbl hbA (by omega) hL dL_law_501 ?_
  refine nn_Vp (As := [.int (iI ((xs (i + 1).toNat).toInt))]) (st := [.int (iI (sCount A ((xs (i + 1).toNat).toInt)))]) hc hw z0 rfl (w_M_count l g hM hg ry1) (cwV 1 hc.2.2.2.2 gL_law_X9_count rfl rfl rfl (by decide +kernel) ⟨(Nat.le_of_ble_eq_true rfl), (Nat.le_of_ble_eq_true rfl)⟩) rfl hl.1 rfl (Nat.le_of_ble_eq_true rfl) ⟨by show cells ≤ 600000; omega, by show slots ≤ 7302250; omega⟩ dL_law_502 ?_
  refine W.eq (g2 := F0 m 505 ls [.int (iI (sCount A ((xs (i + 1).toNat).toInt))), .int (iI (sCount A ((xs (i + 1).toNat).toInt)))]) rfl ?_
  refine lv_icmp_eq hc.1 hc.2.1 dL_law_505 (tgt := 510) (by decide) (fun _ => ?_) (fun hne => absurd rfl hne)
  refine W.widen (k := cells + 4) (n := slots + 133) (by omega) (by omega) ?_
  exact kk n S A J _ _ ⟨hA, hM, hg⟩ hw
end LAWC
