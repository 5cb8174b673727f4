def R_law : String := "RoofCoursesLaw"
def lw_P (b : Addr) (xs : List Int32) (args : Array Value) (s : State) : Prop := args = #[.ref b] ∧ s.IntsAt b xs ∧ xs.length ≤ 2048 ∧ (Jvm.Cond.and given_1 narrow_1).before args s = true
def lw_Q (_ : Array Value) (s : State) (o : Outcome) (t : State) : Prop := o = .returned (some (.int 1)) ∧ Framed s o t [] 600000 7302250
def lw_Z (below : List Frame) (a : Array Value) (s : State) : State → Prop := fun t => ∃ o, t.status = .running ∧ Ended t below o ∧ lw_Q a s o t
/-- the law's own end, with 1 on the stack, nothing written that was there before, its room as the claim has it -/
theorem lw_ret {p : Program} {l : Launch} {e : Env} {s : State} {m : MethodId} {below : List Frame} {meth : Method} {c : Code} {b : Nat} (hx : p.tables.exec = Jvm.exec) (hb : c.code = code) (hr : meth.sig.returnType = ret) (hlocks : meth.locks = false) {pc : Nat} {H : Heap} {ls : Array Slot} (hdg : decode code pc = .ok (.ireturn, 1)) : W p l e room_1 s m #[Value.ref b] below meth c H [] 600000 7302250 (lw_Z below #[Value.ref b] s) (F0 m pc ls [.int 1]) := by
  intro T hT X
  obtain ⟨fs, hret, hrun, hended, hW, hframe⟩ := X.leave (v := some (.int 1)) (hlocks := hlocks) (fun h => by rw [hr] at h; cases h)
  have hmeth' : T.vm.method? m = some meth := X.method'
  refine ⟨T.setFrames fs, ?_, .returned (some (.int 1)), hrun, hended, rfl, ⟨_, rfl⟩, hW, hframe⟩
  jvm_step X.here [X.here.top, hx, hb, hdg, hmeth', hr, ret, narrow_b1]
  (try refine ⟨rfl, ?_⟩); (try refine ⟨rfl, ?_⟩)
  first | (intro acts; rw [hret _ acts rfl rfl rfl]) | rw [hret _ _ rfl rfl rfl]
  exact Steps.refl _
/-- what holds at the law's entry: the machine, the code, the tables' words (any of lw_tbl by 'hts w (by decide +kernel)'), the script of L ints xs at the cell b, what the Statement gives of the start (any of its parts by flat_of_before) -/
def lw_At (p : Program) (s : State) (m : MethodId) (meth : Method) (c : Code) (b L : Nat) (xs : Nat → Int32) : Prop :=
  p.tables.exec = Jvm.exec ∧ c.code = code ∧ meth.sig.returnType = ret ∧ c.maxLocals = 4 ∧ s.vm.findClass R_law = some m.cls ∧ (∀ w ∈ lw_tbl, w.before #[Value.ref b] s = true) ∧ va_X b L xs s s.heap ∧ b < s.heap.size ∧ meth.locks = false ∧ (Jvm.Cond.and given_1 narrow_1).before #[Value.ref b] s = true
set_option maxHeartbeats 4000000 in
set_option maxRecDepth 100000 in
theorem law_loop {p : Program} {l : Launch} {e : Env} {s : State} {m : MethodId} {below : List Frame} {meth : Method} {c : Code} {b L : Nat} {xs : Nat → Int32} {g : gG} {x : Nat} (hL : L ≤ 2048) (C0 : lw_At p s m meth c b L xs) (hc : CallFix p m c cL_law 4 s #[Value.ref b] wsL_law RL) (hg2 : g.2.2 = s.heap.size) :
    ∀ (fu : Nat) (i : Int) (n : Nat) (S : Nat → gE) (A : aT) (J : jT) (H : Heap) (locs : List Loc) (ls : Array Slot), ((L : Int) + 4 - i).toNat < fu → (0 ≤ i ∧ i ≤ L) → LW g S n x A J → g_W g n S s H locs → lv_has ls 4 [(3, .int (iI i)), (2, .ref (x + 36)), (1, .ref x), (0, .ref b)] → W p l e room_1 s m #[Value.ref b] below meth c H locs (47 + i.toNat) (11326 + 34 * i.toNat) (lw_Z below #[Value.ref b] s) (F0 m 18 ls []) := by
  obtain ⟨hx, hb, hr, hml, hown, hts, hX, hbl, hlocks, hgv⟩ := id C0
  have hbA : ¬ g_A g b := fun q => by
    have q1 : g.2.2 ≤ b := q
    omega
  intro fu
  induction fu with
  | zero =>
    intro i n S A J H locs ls hm
    exact absurd hm (Nat.not_lt_zero _)
  | succ fu ih =>
    intro i n S A J H locs ls hm hi hI hw hl
    refine lv_iload_n hc.1 hc.2.1 dL_law_18 rfl (lv_at hl 0 rfl) ?_
    refine lv_aload_n hc.1 hc.2.1 dL_law_19 rfl (lv_at hl 3 rfl) ?_
    refine nn_slen hc hw hX hbl hbA dL_law_20 ?_
    refine nn_iconst hc dL_law_21 ?_
    refine nn_isub hc dL_law_22 ?_
    refine nn_icmp_gt hc dL_law_23 (tgt := 516) (by decide) (by omega) (by omega) (fun c1 => ?_) (fun c1 => ?_)
    · refine nn_iconst hc dL_law_516 ?_
      refine va_forget (fun q hq => by
        have q1 : g.2.2 ≤ q.base := hw.2.2.2.2 q hq
        rw [hg2] at q1
        exact q1) ?_
      refine W.widen (k := 600000) (n := 7302250) (by omega) (by omega) ?_
      refine W.eq (g2 := F0 m 517 ls [.int 1]) rfl ?_
      exact lw_ret hx hb hr hlocks dL_law_517
    · have hnext : ∀ (n1 : Nat) (S1 : Nat → gE) (A1 : aT) (J1 : jT) (H1 : Heap) (locs1 : List Loc), LW g S1 n1 x A1 J1 → g_W g n1 S1 s H1 locs1 → W p l e room_1 s m #[Value.ref b] below meth c H1 locs1 (47 + i.toNat + 4) (11326 + 34 * i.toNat + 133) (lw_Z below #[Value.ref b] s) (F0 m 510 ls []) := by
        intro n1 S1 A1 J1 H1 locs1 hI1 hw1
        refine nn_iinc (lv' := [(3, .int (iI (i + 4))), (2, .ref (x + 36)), (1, .ref x), (0, .ref b)]) hc dL_law_510 hl (k0 := 0) rfl (by decide) rfl (fun ls hl => ?_)
        refine lv_goto hc.1 hc.2.1 dL_law_513 (tgt := 18) (by decide) ?_
        refine W.widen (k := 47 + (i + 4).toNat) (n := 11326 + 34 * (i + 4).toNat) (by omega) (by omega) ?_
        exact ih (i + 4) n1 S1 A1 J1 H1 locs1 ls (by omega) (by omega) hI1 hw1 hl
      refine lv_aload_n hc.1 hc.2.1 dL_law_26 rfl (lv_at hl 3 rfl) ?_
      refine lv_iload_n hc.1 hc.2.1 dL_law_27 rfl (lv_at hl 0 rfl) ?_
      refine nn_sld hc hw hX hbl hbA (by omega) hL dL_law_28 ?_
      refine nn_bipush hc dL_law_29 (by decide +kernel) ?_
      refine lv_iand hc.1 hc.2.1 dL_law_31 ?_
      obtain ⟨v, hv, hv2⟩ := and15 (iI (xs i.toNat).toInt)
      rw [hv2]
      rcases (show v = 0 ∨ v = 1 ∨ v = 2 ∨ v = 3 ∨ v = 4 ∨ v = 5 ∨ v = 6 ∨ v = 7 ∨ v = 8 ∨ v = 9 ∨ v = 10 ∨ v = 11 ∨ v = 12 ∨ v = 13 ∨ v = 14 ∨ v = 15 by omega) with w | w | w | w | w | w | w | w | w | w | w | w | w | w | w | w
      · refine nn_tabIn hc 0 (tgt := 112) w (by decide) (by decide) (by decide) dL_law_32 rfl (by decide) ?_
        exact lc_write hc hl hX hbl hbA (by omega) hL hw hI ⟨by omega, by omega⟩ hnext
      · refine nn_tabIn hc 1 (tgt := 135) w (by decide) (by decide) (by decide) dL_law_32 rfl (by decide) ?_
        exact lc_wipe hc hl hX hbl hbA (by omega) hL hw hI ⟨by omega, by omega⟩ hnext
      · refine nn_tabIn hc 2 (tgt := 148) w (by decide) (by decide) (by decide) dL_law_32 rfl (by decide) ?_
        exact lc_fault hc hl hX hbl hbA (by omega) hL hw hI ⟨by omega, by omega⟩ hnext
      · refine nn_tabIn hc 3 (tgt := 161) w (by decide) (by decide) (by decide) dL_law_32 rfl (by decide) ?_
        exact lc_lay hc hl hX hbl hbA (by omega) hL hw hI ⟨by omega, by omega⟩ hnext
      · refine nn_tabIn hc 4 (tgt := 174) w (by decide) (by decide) (by decide) dL_law_32 rfl (by decide) ?_
        exact lc_course hc hl hX hbl hbA (by omega) hL hw hI ⟨by omega, by omega⟩ hnext
      · refine nn_tabIn hc 5 (tgt := 197) w (by decide) (by decide) (by decide) dL_law_32 rfl (by decide) ?_
        exact lc_up hc hl hX hbl hbA (by omega) hL hw hI ⟨by omega, by omega⟩ hnext
      · refine nn_tabIn hc 6 (tgt := 210) w (by decide) (by decide) (by decide) dL_law_32 rfl (by decide) ?_
        exact lc_bring hc hl hX hbl hbA (by omega) hL hw hI ⟨by omega, by omega⟩ hnext
      · refine nn_tabIn hc 7 (tgt := 243) w (by decide) (by decide) (by decide) dL_law_32 rfl (by decide) ?_
        exact lc_undo hc hl hX hbl hbA (by omega) hL hw hI ⟨by omega, by omega⟩ hnext
      · refine nn_tabIn hc 8 (tgt := 256) w (by decide) (by decide) (by decide) dL_law_32 rfl (by decide) ?_
        exact lc_heap hc hl hX hbl hbA (by omega) hL hw hI ⟨by omega, by omega⟩ hnext
      · refine nn_tabIn hc 9 (tgt := 289) w (by decide) (by decide) (by decide) dL_law_32 rfl (by decide) ?_
        exact lc_told hc hl hX hbl hbA (by omega) hL hw hI ⟨by omega, by omega⟩ hnext
      · refine nn_tabIn hc 10 (tgt := 322) w (by decide) (by decide) (by decide) dL_law_32 rfl (by decide) ?_
        exact lc_joint hc hl hX hbl hbA (by omega) hL hw hI ⟨by omega, by omega⟩ hnext
      · refine nn_tabIn hc 11 (tgt := 355) w (by decide) (by decide) (by decide) dL_law_32 rfl (by decide) ?_
        exact lc_slate hc hl hX hbl hbA (by omega) hL hw hI ⟨by omega, by omega⟩ hnext
      · refine nn_tabIn hc 12 (tgt := 398) w (by decide) (by decide) (by decide) dL_law_32 rfl (by decide) ?_
        exact lc_tried hc hl hX hbl hbA (by omega) hL hw hI ⟨by omega, by omega⟩ hnext
      · refine nn_tabIn hc 13 (tgt := 431) w (by decide) (by decide) (by decide) dL_law_32 rfl (by decide) ?_
        exact lc_next hc hl hX hbl hbA (by omega) hL hw hI ⟨by omega, by omega⟩ hnext
      · refine nn_tabIn hc 14 (tgt := 454) w (by decide) (by decide) (by decide) dL_law_32 rfl (by decide) ?_
        exact lc_itself hc hl hX hbl hbA (by omega) hL hw hI ⟨by omega, by omega⟩ hnext
      · refine nn_tabIn hc 15 (tgt := 487) w (by decide) (by decide) (by decide) dL_law_32 rfl (by decide) ?_
        exact lc_count hc hl hX hbl hbA (by omega) hL hw hI ⟨by omega, by omega⟩ hnext

