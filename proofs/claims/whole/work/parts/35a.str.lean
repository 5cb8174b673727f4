/-! ===== the String constant, outside our store ===== -/
def kB : List Int := [104, 52, 48, 44, 51, 48, 44, 51, 48, 59, 104, 52, 48, 44, 50, 50, 44, 51, 48, 59, 104, 52, 48, 44, 49, 55, 44, 57, 59, 104, 51, 48, 44, 50, 53, 44, 52, 48, 59, 104, 51, 48, 44, 49, 56, 44, 52, 48, 59, 104, 50, 52, 44, 50, 48, 44, 54, 48, 59, 104, 50, 52, 44, 49, 49, 44, 51, 48, 59, 114, 49, 49, 48, 44, 49, 51, 48, 59, 112, 54, 44, 52, 59, 105, 50, 59]
def kO (A : Nat → Prop) (q t : Nat) (U : State) (H : Heap) : Prop := va_O "java/lang/String" q A U H ∧ va_OF "java/lang/String" "coder" "B" (.int (iI 0)) q A U H ∧ va_OF "java/lang/String" "value" "[B" (.ref t) q A U H ∧ va_T .byte t 86 (fun j => .int (iI (kB.getD j 0))) A U H ∧ va_Z "java/lang/String" "COMPACT_STRINGS" "Z" (.int (iI 1)) A U H ∧ va_Zq "jdk/internal/util/Preconditions" "SIOOBE_FORMATTER" "Ljava/util/function/BiFunction;" A U H
theorem kO.kept {A : Nat → Prop} {q t : Nat} {U : State} {H H1 : Heap} (h : kO A q t U H) (hq : ∀ a : Nat, a < H.size → ¬ A a → H1[a]? = H[a]?) : kO A q t U H1 := ⟨h.1.kept hq, h.2.1.kept hq, h.2.2.1.kept hq, h.2.2.2.1.kept hq, h.2.2.2.2.1.kept hq, h.2.2.2.2.2.kept hq⟩
theorem kO.moved {A : Nat → Prop} {q t : Nat} {u U : State} {H : Heap} (hvm : u.vm.Alike U.vm) (h : kO A q t u H) : kO A q t U H := ⟨va_O.moved hvm h.1, va_OF.moved hvm h.2.1, va_OF.moved hvm h.2.2.1, va_T.moved hvm h.2.2.2.1, va_Z.moved hvm h.2.2.2.2.1, va_Zq.moved hvm h.2.2.2.2.2⟩
def kC (l : Launch) (y : MethodName) (ws : List Cond) (rm : Room) (A : Nat → Prop) (q t : Nat) (av : List Value) (v : Option Value) : Prop :=
  Met l y ws rm (va_Pc av (fun U => kO A q t U U.heap)) (fun _ st oc tt => oc = .returned v ∧ tt.heap = st.heap) 0 0 (fun _ => False)
section KC
variable {l : Launch} {y : MethodName} {ws ws' : List Cond} {rm : Room} {A : Nat → Prop} {q t : Nat} {av : List Value} {cc : ByteArray} {maxL : Nat}
theorem kC.of {ret : Option FieldType} {v : Option Value} (hy : plainName y.cls = true) (hw : ws = Cond.code y cc maxL ret :: ws') (hlen : (lg_sl av).length ≤ maxL)
    (body : ∀ (p : Program) (e : Env) (s : State) (m : MethodId) (below : List Frame) (meth : Method) (c : Code) (Q : State → Prop) (ls : Array Slot), CallFix p m c cc maxL s av.toArray ws y.cls → kO A q t s s.heap → lv_has ls maxL (lv_args 0 av) →
      (∀ (pc : Nat) (ls : Array Slot), (match v with
        | none => ret = none ∧ decode cc pc = .ok (.return_, 1)
        | some (.int x) => ∃ ty, ret = some ty ∧ narrow ty (.int x) = .int x ∧ decode cc pc = .ok (.ireturn, 1)
        | some w => ∃ C, ret = some (.object C) ∧ (w = .null ∨ ∃ a, w = .ref a) ∧ decode cc pc = .ok (.areturn, 1)) → W p l e rm s m av.toArray below meth c s.heap [] 0 0 Q (F0 m pc ls v.toList)) →
      W p l e rm s m av.toArray below meth c s.heap [] 0 0 Q (F0 m 0 ls [])) : kC l y ws rm A q t av v := by
  refine Met.ofW (cc := cc) (maxL := maxL) (ret := ret) hy hw ?_
  intro p e s m args below meth c s₁ B hml hv
  obtain ⟨rfl, hK⟩ := hv
  have hx := B.exec
  have hb := B.bytes
  have hr := B.returns
  have hts := atoms_spec (ws := ws) B.pre
  have hown : s.vm.findClass y.cls = some m.cls := findClass_of_methodNamed B.named
  have hlocks := B.notSynchronized
  rw [lg_entry_eq]
  refine body p e s m below meth c _ _ ⟨hx, hb, hml, hown, hts⟩ hK (lv_entry av hlen) ?_
  intro pc ls hret
  cases v with
  | none =>
    obtain ⟨rfl, hd⟩ := hret
    exact W.vret hx hb hr (fun t ht _ => ⟨rfl, ht⟩) (fun q hq => by cases hq) hd
  | some w =>
    cases w with
    | int x =>
      obtain ⟨ty, rfl, hn, hd⟩ := hret
      exact W.zret hx hb hr hn (fun t ht _ => ⟨rfl, ht⟩) (fun q hq => by cases hq) hd
    | _ =>
      obtain ⟨C, rfl, hn, hd⟩ := hret
      exact W.aret hx hb hr (Or.inl ⟨C, rfl⟩) hn (fun t ht _ => ⟨rfl, ht⟩) (fun q hq => by cases hq) hd
end KC
section KR
variable {p : Program} {l : Launch} {e : Env} {R : Room} {s : State} {m : MethodId} {args : Array Value} {below : List Frame} {meth : Method} {c : Code} {H : Heap} {locs : List Loc} {cells slots : Nat} {Q : State → Prop}
variable {cc : ByteArray} {pc nL : Nat} {ls : Array Slot} {st st0 : List Value} {Ts : List Cond} {own : String} {A : Nat → Prop} {q t : Nat}
variable {y : MethodName} {bytes : ByteArray} {maxL mc ms na index : Nat} {ret : Option FieldType} {ws : List Cond} {rm : Room} {As : List Value}
theorem k_blind {av : List Value} : FrameBlind (va_Pc av (fun U => kO A q t U U.heap)) := fun a U f mk h => ⟨h.1, kO.moved (u := U) (U := U.calling f mk a) (Vm.Alike.refl U.vm) h.2⟩
theorem k_pre (hk : kO A q t s s.heap) (hS : va_S A s.heap H locs) (av : List Value) : ∀ U : State, U.heap = H → s.WarmedH U.vm → va_Pc av (fun U => kO A q t U U.heap) av.toArray U := fun U hU hW => ⟨rfl, by
  show kO A q t U U.heap
  rw [hU]
  exact (hk.kept hS.2.1).moved hW.alike⟩
theorem k_V {v : Option Value} (hc : CallFix p m c cc nL s args Ts own) (hk : kO A q t s s.heap) (hS : va_S A s.heap H locs) (hM : kC l y ws rm A q t (.ref q :: As) v) (cw : CallW R s args own RJ0 index y bytes maxL ret ws rm 0 0 na) (hn : As.length = na) (hl : ls.size = nL) (hst : st0 = As.reverse ++ .ref q :: st) (hW : (st.map fun v => v.category).sum ≤ 8) (hf : cells ≤ R.cells ∧ slots ≤ R.slots) (d : decode cc pc = .ok (.invokevirtual index, 3))
    (kk : W p l e R s m args below meth c H locs cells slots Q (F0 m (pc + 3) ls (v.toList ++ st))) : W p l e R s m args below meth c H locs cells slots Q (F0 m pc ls st0) :=
  nn_goP (va_runV hc hM cw ⟨k_blind, va_Orecv hk.1 hS, k_pre hk hS _⟩ rfl hn hl hst (lv_room hW) d hf) kk
theorem k_S {v : Option Value} (hc : CallFix p m c cc nL s args Ts own) (hk : kO A q t s s.heap) (hS : va_S A s.heap H locs) (hM : kC l y ws rm A q t As v) (cw : CallB R s args own index y bytes maxL ret ws rm 0 0 na ∧ (Cond.static y).before args s = true) (hn : As.length = na) (hl : ls.size = nL) (hst : st0 = As.reverse ++ st) (hW : (st.map fun v => v.category).sum ≤ 8) (hf : cells ≤ R.cells ∧ slots ≤ R.slots) (d : decode cc pc = .ok (.invokestatic index, 3))
    (kk : W p l e R s m args below meth c H locs cells slots Q (F0 m (pc + 3) ls (v.toList ++ st))) : W p l e R s m args below meth c H locs cells slots Q (F0 m pc ls st0) :=
  nn_goP (va_runS hc hM cw ⟨k_blind, k_pre hk hS _⟩ rfl hn hl hst (lv_room hW) d hf) kk
end KR
theorem kB_all : kB.length = 86 ∧ ∀ c ∈ kB, 32 ≤ c ∧ c ≤ 126 := by decide
theorem kB_r {j : Nat} (h : j < 86) : 32 ≤ kB.getD j 0 ∧ kB.getD j 0 ≤ 126 := by
  have h1 := kB_all
  rw [List.getD_eq_getElem?_getD, List.getElem?_eq_getElem (by omega)]
  exact h1.2 _ (List.getElem_mem _)
theorem and255 : ∀ k : Nat, k < 128 → (iI (k : Int) &&& iI 255) = iI (k : Int) := by decide +kernel
theorem and255I {z : Int} (h : 0 ≤ z ∧ z < 128) : (iI z &&& iI 255) = iI z := by
  have h1 := and255 z.toNat (by omega)
  rw [show ((z.toNat : Nat) : Int) = z by omega] at h1
  exact h1

set_option maxHeartbeats 4000000 in
set_option maxRecDepth 100000 in
theorem c_J0_coder_7d493 (l : Launch) {A : Nat → Prop} {q t : Nat}  : kC l yJ0_coder_7d493 wsJ0_coder_7d493 { frames := 0, cells := 0, slots := 0, locals := 0 } A q t [.ref q] (some (.int (iI 0))) := by
  refine kC.of (cc := cJ0_coder_7d493) (maxL := 1) (ret := some .byte) (by decide) rfl (Nat.le_of_ble_eq_true rfl) ?_
  intro pp ee s m below meth cK Q ls hc hk hl hret
  have hl : lv_has ls 1 [(0, .ref q)] := hl
  have lk38 : Cond.fieldLink RJ0 38 "java/lang/String" "COMPACT_STRINGS" "Z" ∈ wsJ0_coder_7d493 := by decide +kernel
  have lk15 : Cond.fieldLink RJ0 15 "java/lang/String" "coder" "B" ∈ wsJ0_coder_7d493 := by decide +kernel
  refine va_gets hc.1 hc.2.1 hk.2.2.2.2.1 va_S.rf hc.2.2.2.1 (hc.2.2.2.2 _ lk38) (fun x h => h) dJ0_coder_7d493_0 ?_
  refine nn_if_eq hc dJ0_coder_7d493_3 (tgt := 13) (by decide) (by decide) (fun c1 => absurd c1 (by decide)) (fun c1 => ?_)
  refine lv_aload_n hc.1 hc.2.1 dJ0_coder_7d493_6 rfl (lv_at hl 0 rfl) ?_
  refine vk_getf hc.1 hc.2.1 hk.2.1 va_S.rf hc.2.2.2.1 (hc.2.2.2.2 _ lk15) (fun x h => h) dJ0_coder_7d493_7 ?_
  refine lv_goto hc.1 hc.2.1 dJ0_coder_7d493_10 (tgt := 14) (by decide) ?_
  exact hret _ _ ⟨_, rfl, rfl, dJ0_coder_7d493_14⟩

set_option maxHeartbeats 4000000 in
set_option maxRecDepth 100000 in
theorem c_J0_isLatin1_aae02 (l : Launch) {A : Nat → Prop} {q t : Nat}  : kC l yJ0_isLatin1_aae02 wsJ0_isLatin1_aae02 { frames := 0, cells := 0, slots := 0, locals := 0 } A q t [.ref q] (some (.int (iI 1))) := by
  refine kC.of (cc := cJ0_isLatin1_aae02) (maxL := 1) (ret := some .boolean) (by decide) rfl (Nat.le_of_ble_eq_true rfl) ?_
  intro pp ee s m below meth cK Q ls hc hk hl hret
  have hl : lv_has ls 1 [(0, .ref q)] := hl
  have lk38 : Cond.fieldLink RJ0 38 "java/lang/String" "COMPACT_STRINGS" "Z" ∈ wsJ0_isLatin1_aae02 := by decide +kernel
  have lk15 : Cond.fieldLink RJ0 15 "java/lang/String" "coder" "B" ∈ wsJ0_isLatin1_aae02 := by decide +kernel
  refine va_gets hc.1 hc.2.1 hk.2.2.2.2.1 va_S.rf hc.2.2.2.1 (hc.2.2.2.2 _ lk38) (fun x h => h) dJ0_isLatin1_aae02_0 ?_
  refine nn_if_eq hc dJ0_isLatin1_aae02_3 (tgt := 17) (by decide) (by decide) (fun c1 => absurd c1 (by decide)) (fun c1 => ?_)
  refine lv_aload_n hc.1 hc.2.1 dJ0_isLatin1_aae02_6 rfl (lv_at hl 0 rfl) ?_
  refine vk_getf hc.1 hc.2.1 hk.2.1 va_S.rf hc.2.2.2.1 (hc.2.2.2.2 _ lk15) (fun x h => h) dJ0_isLatin1_aae02_7 ?_
  refine nn_if_ne hc dJ0_isLatin1_aae02_10 (tgt := 17) (by decide) (by decide) (fun c1 => absurd rfl c1) (fun c1 => ?_)
  refine nn_iconst hc dJ0_isLatin1_aae02_13 ?_
  refine lv_goto hc.1 hc.2.1 dJ0_isLatin1_aae02_14 (tgt := 18) (by decide) ?_
  exact hret _ _ ⟨_, rfl, rfl, dJ0_isLatin1_aae02_18⟩

set_option maxHeartbeats 4000000 in
set_option maxRecDepth 100000 in
theorem c_J0_length_8abf5 (l : Launch) {A : Nat → Prop} {q t : Nat}  : kC l yJ0_length_8abf5 wsJ0_length_8abf5 { frames := 1, cells := 0, slots := 0, locals := 20 } A q t [.ref q] (some (.int (iI 86))) := by
  refine kC.of (cc := cJ0_length_8abf5) (maxL := 1) (ret := some .int) (by decide) rfl (Nat.le_of_ble_eq_true rfl) ?_
  intro pp ee s m below meth cK Q ls hc hk hl hret
  have hl : lv_has ls 1 [(0, .ref q)] := hl
  have lk9 : Cond.fieldLink RJ0 9 "java/lang/String" "value" "[B" ∈ wsJ0_length_8abf5 := by decide +kernel
  refine lv_aload_n hc.1 hc.2.1 dJ0_length_8abf5_0 rfl (lv_at hl 0 rfl) ?_
  refine vk_getf hc.1 hc.2.1 hk.2.2.1 va_S.rf hc.2.2.2.1 (hc.2.2.2.2 _ lk9) (fun x h => h) dJ0_length_8abf5_1 ?_
  refine va_tlen hc.1 hc.2.1 hk.2.2.2.1 va_S.rf (v := iI 86) rfl dJ0_length_8abf5_4 ?_
  refine lv_aload_n hc.1 hc.2.1 dJ0_length_8abf5_5 rfl (lv_at hl 0 rfl) ?_
  refine k_V (As := []) (st := [.int (iI 86)]) hc hk va_S.rf (c_J0_coder_7d493 l) (cwV 0 hc.2.2.2.2 gJ0_length_8abf5_J0_coder_7d493 rfl rfl rfl (by decide +kernel) ⟨(Nat.le_of_ble_eq_true rfl), (Nat.le_of_ble_eq_true rfl)⟩) rfl hl.1 rfl (Nat.le_of_ble_eq_true rfl) ⟨(Nat.le_of_ble_eq_true rfl), (Nat.le_of_ble_eq_true rfl)⟩ dJ0_length_8abf5_6 ?_
  refine W.eq (g2 := F0 m 9 ls [.int (iI 0), .int (iI 86)]) rfl ?_
  refine lv_ishr hc.1 hc.2.1 dJ0_length_8abf5_9 ?_
  rw [show (iI 86 >>> (iI 0 &&& 31)) = iI 86 by decide +kernel]
  exact hret _ _ ⟨_, rfl, rfl, dJ0_length_8abf5_10⟩

set_option maxHeartbeats 4000000 in
set_option maxRecDepth 100000 in
theorem c_J3_checkIndex_8e157n (l : Launch) {A : Nat → Prop} {q t : Nat} {k : Int} (rk : 0 ≤ k ∧ k < 86) : kC l yJ3_checkIndex_8e157 wsJ3_checkIndex_8e157 { frames := 0, cells := 0, slots := 0, locals := 0 } A q t [.int (iI k), .int (iI 86), .null] (some (.int (iI k))) := by
  refine kC.of (cc := cJ3_checkIndex_8e157) (maxL := 3) (ret := some .int) (by decide) rfl (Nat.le_of_ble_eq_true rfl) ?_
  intro pp ee s m below meth cK Q ls hc hk hl hret
  have hl : lv_has ls 3 [(0, .int (iI k)), (1, .int (iI 86)), (2, .null)] := hl
  refine lv_iload_n hc.1 hc.2.1 dJ3_checkIndex_8e157_0 rfl (lv_at hl 0 rfl) ?_
  refine nn_if_lt hc dJ3_checkIndex_8e157_1 (tgt := 9) (by decide) (by omega) (fun c1 => absurd c1 (by omega)) (fun c1 => ?_)
  refine lv_iload_n hc.1 hc.2.1 dJ3_checkIndex_8e157_4 rfl (lv_at hl 0 rfl) ?_
  refine lv_iload_n hc.1 hc.2.1 dJ3_checkIndex_8e157_5 rfl (lv_at hl 1 rfl) ?_
  refine nn_icmp_lt hc dJ3_checkIndex_8e157_6 (tgt := 16) (by decide) (by omega) (by omega) (fun c2 => ?_) (fun c2 => absurd c2 (by omega))
  refine lv_iload_n hc.1 hc.2.1 dJ3_checkIndex_8e157_16 rfl (lv_at hl 0 rfl) ?_
  exact hret _ _ ⟨_, rfl, rfl, dJ3_checkIndex_8e157_17⟩

set_option maxHeartbeats 4000000 in
set_option maxRecDepth 100000 in
theorem c_J3_checkIndex_8e157r (l : Launch) {A : Nat → Prop} {q t : Nat} {k : Int} {a0 : Nat} (rk : 0 ≤ k ∧ k < 86) : kC l yJ3_checkIndex_8e157 wsJ3_checkIndex_8e157 { frames := 0, cells := 0, slots := 0, locals := 0 } A q t [.int (iI k), .int (iI 86), .ref a0] (some (.int (iI k))) := by
  refine kC.of (cc := cJ3_checkIndex_8e157) (maxL := 3) (ret := some .int) (by decide) rfl (Nat.le_of_ble_eq_true rfl) ?_
  intro pp ee s m below meth cK Q ls hc hk hl hret
  have hl : lv_has ls 3 [(0, .int (iI k)), (1, .int (iI 86)), (2, .ref a0)] := hl
  refine lv_iload_n hc.1 hc.2.1 dJ3_checkIndex_8e157_0 rfl (lv_at hl 0 rfl) ?_
  refine nn_if_lt hc dJ3_checkIndex_8e157_1 (tgt := 9) (by decide) (by omega) (fun c1 => absurd c1 (by omega)) (fun c1 => ?_)
  refine lv_iload_n hc.1 hc.2.1 dJ3_checkIndex_8e157_4 rfl (lv_at hl 0 rfl) ?_
  refine lv_iload_n hc.1 hc.2.1 dJ3_checkIndex_8e157_5 rfl (lv_at hl 1 rfl) ?_
  refine nn_icmp_lt hc dJ3_checkIndex_8e157_6 (tgt := 16) (by decide) (by omega) (by omega) (fun c2 => ?_) (fun c2 => absurd c2 (by omega))
  refine lv_iload_n hc.1 hc.2.1 dJ3_checkIndex_8e157_16 rfl (lv_at hl 0 rfl) ?_
  exact hret _ _ ⟨_, rfl, rfl, dJ3_checkIndex_8e157_17⟩

set_option maxHeartbeats 4000000 in
set_option maxRecDepth 100000 in
theorem c_J0_checkIndex_df160 (l : Launch) {A : Nat → Prop} {q t : Nat} {k : Int} (rk : 0 ≤ k ∧ k < 86) : kC l yJ0_checkIndex_df160 wsJ0_checkIndex_df160 { frames := 1, cells := 0, slots := 0, locals := 22 } A q t [.int (iI k), .int (iI 86)] none := by
  refine kC.of (cc := cJ0_checkIndex_df160) (maxL := 2) (ret := none) (by decide) rfl (Nat.le_of_ble_eq_true rfl) ?_
  intro pp ee s m below meth cK Q ls hc hk hl hret
  have hl : lv_has ls 2 [(0, .int (iI k)), (1, .int (iI 86))] := hl
  have lk : Cond.fieldLink RJ0 1053 "jdk/internal/util/Preconditions" "SIOOBE_FORMATTER" "Ljava/util/function/BiFunction;" ∈ wsJ0_checkIndex_df160 := by decide +kernel
  refine lv_iload_n hc.1 hc.2.1 dJ0_checkIndex_df160_0 rfl (lv_at hl 0 rfl) ?_
  refine lv_iload_n hc.1 hc.2.1 dJ0_checkIndex_df160_1 rfl (lv_at hl 1 rfl) ?_
  rcases hk.2.2.2.2.2 with hZ | ⟨a0, hZ⟩
  · refine va_gets hc.1 hc.2.1 hZ va_S.rf hc.2.2.2.1 (hc.2.2.2.2 _ lk) (fun x h => h) dJ0_checkIndex_df160_2 ?_
    refine k_S (As := [.int (iI k), .int (iI 86), .null]) (st := []) hc hk va_S.rf (c_J3_checkIndex_8e157n l rk) (va_cwS 3 hc.2.2.2.2 gJ0_checkIndex_df160_J3_checkIndex_8e157 rfl rfl rfl (by decide +kernel) ⟨(Nat.le_of_ble_eq_true rfl), (Nat.le_of_ble_eq_true rfl)⟩) rfl hl.1 rfl (Nat.le_of_ble_eq_true rfl) ⟨(Nat.le_of_ble_eq_true rfl), (Nat.le_of_ble_eq_true rfl)⟩ dJ0_checkIndex_df160_5 ?_
    refine W.eq (g2 := F0 m 8 ls [.int (iI k)]) rfl ?_
    refine lv_pop hc.1 hc.2.1 dJ0_checkIndex_df160_8 rfl ?_
    exact hret _ _ ⟨rfl, dJ0_checkIndex_df160_9⟩
  · refine va_gets hc.1 hc.2.1 hZ va_S.rf hc.2.2.2.1 (hc.2.2.2.2 _ lk) (fun x h => h) dJ0_checkIndex_df160_2 ?_
    refine k_S (As := [.int (iI k), .int (iI 86), .ref a0]) (st := []) hc hk va_S.rf (c_J3_checkIndex_8e157r l rk) (va_cwS 3 hc.2.2.2.2 gJ0_checkIndex_df160_J3_checkIndex_8e157 rfl rfl rfl (by decide +kernel) ⟨(Nat.le_of_ble_eq_true rfl), (Nat.le_of_ble_eq_true rfl)⟩) rfl hl.1 rfl (Nat.le_of_ble_eq_true rfl) ⟨(Nat.le_of_ble_eq_true rfl), (Nat.le_of_ble_eq_true rfl)⟩ dJ0_checkIndex_df160_5 ?_
    refine W.eq (g2 := F0 m 8 ls [.int (iI k)]) rfl ?_
    refine lv_pop hc.1 hc.2.1 dJ0_checkIndex_df160_8 rfl ?_
    exact hret _ _ ⟨rfl, dJ0_checkIndex_df160_9⟩

set_option maxHeartbeats 4000000 in
set_option maxRecDepth 100000 in
theorem c_J1_charAt_3b067 (l : Launch) {A : Nat → Prop} {q t : Nat} {k : Int} (rk : 0 ≤ k ∧ k < 86) : kC l yJ1_charAt_3b067 wsJ1_charAt_3b067 { frames := 2, cells := 0, slots := 0, locals := 43 } A q t [.ref t, .int (iI k)] (some (.int (iI (kB.getD k.toNat 0)))) := by
  refine kC.of (cc := cJ1_charAt_3b067) (maxL := 2) (ret := some .char) (by decide) rfl (Nat.le_of_ble_eq_true rfl) ?_
  intro pp ee s m below meth cK Q ls hc hk hl hret
  have hl : lv_has ls 2 [(0, .ref t), (1, .int (iI k))] := hl
  have hb := kB_r (j := k.toNat) (by omega)
  refine lv_iload_n hc.1 hc.2.1 dJ1_charAt_3b067_0 rfl (lv_at hl 1 rfl) ?_
  refine lv_aload_n hc.1 hc.2.1 dJ1_charAt_3b067_1 rfl (lv_at hl 0 rfl) ?_
  refine va_tlen hc.1 hc.2.1 hk.2.2.2.1 va_S.rf (v := iI 86) rfl dJ1_charAt_3b067_2 ?_
  refine k_S (As := [.int (iI k), .int (iI 86)]) (st := []) hc hk va_S.rf (c_J0_checkIndex_df160 l rk) (va_cwS 2 hc.2.2.2.2 gJ1_charAt_3b067_J0_checkIndex_df160 rfl rfl rfl (by decide +kernel) ⟨(Nat.le_of_ble_eq_true rfl), (Nat.le_of_ble_eq_true rfl)⟩) rfl hl.1 rfl (Nat.le_of_ble_eq_true rfl) ⟨(Nat.le_of_ble_eq_true rfl), (Nat.le_of_ble_eq_true rfl)⟩ dJ1_charAt_3b067_3 ?_
  refine W.eq (g2 := F0 m 6 ls []) rfl ?_
  refine lv_aload_n hc.1 hc.2.1 dJ1_charAt_3b067_6 rfl (lv_at hl 0 rfl) ?_
  refine lv_iload_n hc.1 hc.2.1 dJ1_charAt_3b067_7 rfl (lv_at hl 1 rfl) ?_
  refine va_tb hc.1 hc.2.1 hk.2.2.2.1 va_S.rf (iI_in (N := 86) (by omega) (by decide)) (v := .int (iI (kB.getD k.toNat 0))) (by rw [iI_nat (by omega)]) dJ1_charAt_3b067_8 ?_
  refine nn_sipush hc dJ1_charAt_3b067_9 (by decide +kernel) ?_
  refine lv_iand hc.1 hc.2.1 dJ1_charAt_3b067_12 ?_
  rw [and255I (by omega)]
  refine nn_i2c hc dJ1_charAt_3b067_13 (by omega) ?_
  exact hret _ _ ⟨_, rfl, ch_nw (by omega), dJ1_charAt_3b067_14⟩

set_option maxHeartbeats 4000000 in
set_option maxRecDepth 100000 in
theorem c_J0_charAt_5068e (l : Launch) {A : Nat → Prop} {q t : Nat} {k : Int} (rk : 0 ≤ k ∧ k < 86) : kC l yJ0_charAt_5068e wsJ0_charAt_5068e { frames := 3, cells := 0, slots := 0, locals := 64 } A q t [.ref q, .int (iI k)] (some (.int (iI (kB.getD k.toNat 0)))) := by
  refine kC.of (cc := cJ0_charAt_5068e) (maxL := 2) (ret := some .char) (by decide) rfl (Nat.le_of_ble_eq_true rfl) ?_
  intro pp ee s m below meth cK Q ls hc hk hl hret
  have hl : lv_has ls 2 [(0, .ref q), (1, .int (iI k))] := hl
  have hb := kB_r (j := k.toNat) (by omega)
  have lk9 : Cond.fieldLink RJ0 9 "java/lang/String" "value" "[B" ∈ wsJ0_charAt_5068e := by decide +kernel
  refine lv_aload_n hc.1 hc.2.1 dJ0_charAt_5068e_0 rfl (lv_at hl 0 rfl) ?_
  refine k_V (As := []) (st := []) hc hk va_S.rf (c_J0_isLatin1_aae02 l) (cwV 0 hc.2.2.2.2 gJ0_charAt_5068e_J0_isLatin1_aae02 rfl rfl rfl (by decide +kernel) ⟨(Nat.le_of_ble_eq_true rfl), (Nat.le_of_ble_eq_true rfl)⟩) rfl hl.1 rfl (Nat.le_of_ble_eq_true rfl) ⟨(Nat.le_of_ble_eq_true rfl), (Nat.le_of_ble_eq_true rfl)⟩ dJ0_charAt_5068e_1 ?_
  refine W.eq (g2 := F0 m 4 ls [.int (iI 1)]) rfl ?_
  refine nn_if_eq hc dJ0_charAt_5068e_4 (tgt := 16) (by decide) (by decide) (fun c1 => absurd c1 (by decide)) (fun c1 => ?_)
  refine lv_aload_n hc.1 hc.2.1 dJ0_charAt_5068e_7 rfl (lv_at hl 0 rfl) ?_
  refine vk_getf hc.1 hc.2.1 hk.2.2.1 va_S.rf hc.2.2.2.1 (hc.2.2.2.2 _ lk9) (fun x h => h) dJ0_charAt_5068e_8 ?_
  refine lv_iload_n hc.1 hc.2.1 dJ0_charAt_5068e_11 rfl (lv_at hl 1 rfl) ?_
  refine k_S (As := [.ref t, .int (iI k)]) (st := []) hc hk va_S.rf (c_J1_charAt_3b067 l rk) (va_cwS 2 hc.2.2.2.2 gJ0_charAt_5068e_J1_charAt_3b067 rfl rfl rfl (by decide +kernel) ⟨(Nat.le_of_ble_eq_true rfl), (Nat.le_of_ble_eq_true rfl)⟩) rfl hl.1 rfl (Nat.le_of_ble_eq_true rfl) ⟨(Nat.le_of_ble_eq_true rfl), (Nat.le_of_ble_eq_true rfl)⟩ dJ0_charAt_5068e_12 ?_
  refine W.eq (g2 := F0 m 15 ls [.int (iI (kB.getD k.toNat 0))]) rfl ?_
  exact hret _ _ ⟨_, rfl, ch_nw (by omega), dJ0_charAt_5068e_15⟩

