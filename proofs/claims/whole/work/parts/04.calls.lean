section NNK
variable {p : Program} {l : Launch} {e : Env} {R : Room} {s : State} {m : MethodId} {args : Array Value} {below : List Frame} {meth : Method} {c : Code} {H : Heap} {locs : List Loc} {cells slots : Nat} {Q : State → Prop}
variable {cc : ByteArray} {pc nL : Nat} {ls : Array Slot} {st st0 : List Value} {Ts : List Cond} {own : String} {g : gG} {n : Nat} {S : Nat → gE}
variable {y : MethodName} {bytes : ByteArray} {maxL mc ms na index : Nat} {ret : Option FieldType} {ws : List Cond} {rm : Room} {C : String} {T : u_T} {N ci b : Nat} {As : List Value}
theorem g_blind {av : List Value} : FrameBlind (va_Pc av (fun U => g_S g n S U.heap ∧ g_K g U)) := fun a U f mk q => ⟨q.1, q.2.1, g_K.same (u := U) (U := U.calling f mk a) rfl q.2.2⟩
theorem g_recv (hw : g_W g n S s H locs) {fs : List Value} (hS : S b = oO ci fs) (hci : vwCl[ci]? = some (C, T, N)) : ∃ cell : Cell, H[b]? = some cell ∧ cell.vm.isStatics = false ∧ s.vm.findClass C = some cell.cls := by
  obtain ⟨-, -, hat⟩ := hw.1.2.2 b _ hS
  obtain ⟨q', h1, cell, g1, g2, g3, -⟩ := hat
  exact ⟨cell, g1, by rw [g3]; rfl, by rw [g2]; exact (hw.2.1.1.1 ci _ hci).2.1⟩
theorem g_pre (hw : g_W g n S s H locs) (av : List Value) : ∀ U : State, U.heap = H → s.WarmedH U.vm → va_Pc av (fun U => g_S g n S U.heap ∧ g_K g U) av.toArray U := fun U hU hW => ⟨rfl, by rw [hU]; exact hw.1, hw.2.1.moved hW⟩
theorem nn_goP {v : Option Value} {f : JFrame} (hr : va_Run p l e R s m args below meth c H locs cells slots 0 0 f st (fun s0 oc t => oc = .returned v ∧ t.heap = s0.heap) (fun _ => False)) (kk : W p l e R s m args below meth c H locs cells slots Q { f with pc := f.pc + 3, stack := v.toList ++ st }) : W p l e R s m args below meth c H locs cells slots Q f := by
  intro T1 hT X
  obtain ⟨v', st₀, t, T', L, h0, X', hL, e1, e2, ⟨hv, hh⟩, stp⟩ := hr T1 hT X
  cases hv
  obtain ⟨t2, a1, b1⟩ := kk T' (by rw [e1, hh, h0]) (Stand.forget X' (fun q h => (hL q h).elim))
  exact ⟨t2, stp t2 a1, b1⟩
theorem nn_goS {Qp : Option Value → Nat → (Nat → gE) → Prop} {f : JFrame} (hw : g_W g n S s H locs) (hr : va_Run p l e R s m args below meth c H locs cells slots mc ms f st (fun s0 oc t => ∃ (v : Option Value) (n1 : Nat) (S1 : Nat → gE), oc = .returned v ∧ Qp v n1 S1 ∧ g_S g n1 S1 t.heap ∧ va_F (g_A g) s0 t) (g_A g))
    (kk : ∀ (v : Option Value) (n1 : Nat) (S1 : Nat → gE) (H1 : Heap) (locs1 : List Loc), Qp v n1 S1 → g_W g n1 S1 s H1 locs1 → W p l e R s m args below meth c H1 locs1 (cells + mc) (slots + ms) Q { f with pc := f.pc + 3, stack := v.toList ++ st }) : W p l e R s m args below meth c H locs cells slots Q f := by
  intro T1 hT X
  obtain ⟨v', st₀, t, T', L, h0, X', hL, e1, e2, ⟨v, n1, S1, hv, hq, hs, hz, hk⟩, stp⟩ := hr T1 hT X
  cases hv
  rw [h0] at hz hk
  obtain ⟨-, h2, h3, h4, h5⟩ := hw
  obtain ⟨t2, a1, b1⟩ := kk _ n1 S1 T'.heap (locs ++ L) hq ⟨by rw [e1]; exact hs, h2, Nat.le_trans h3 (by rw [e1]; exact hz), fun q g1 g2 => by rw [e1, hk q (Nat.lt_of_lt_of_le g1 h3) g2]; exact h4 q g1 g2, fun q hq => by
      rcases List.mem_append.mp hq with h | h
      · exact h5 q h
      · exact hL q h⟩ T' rfl X'
  exact ⟨t2, stp t2 a1, b1⟩
theorem nn_Vp {v : Option Value} (hc : CallFix p m c cc nL s args Ts own) (hw : g_W g n S s H locs) {fs : List Value} (hS : S b = oO ci fs) (hci : vwCl[ci]? = some (C, T, N)) (hM : g_Cp l y ws rm g (.ref b :: As) n S v) (cw : CallW R s args own C index y bytes maxL ret ws rm 0 0 na) (hn : As.length = na) (hl : ls.size = nL) (hst : st0 = As.reverse ++ .ref b :: st) (hW : (st.map fun v => v.category).sum ≤ 8) (hf : cells ≤ R.cells ∧ slots ≤ R.slots) (d : decode cc pc = .ok (.invokevirtual index, 3))
    (kk : W p l e R s m args below meth c H locs cells slots Q (F0 m (pc + 3) ls (v.toList ++ st))) : W p l e R s m args below meth c H locs cells slots Q (F0 m pc ls st0) :=
  nn_goP (va_runV hc hM cw ⟨g_blind, g_recv hw hS hci, g_pre hw _⟩ rfl hn hl hst (lv_room hW) d hf) kk
theorem nn_Sp {v : Option Value} (hc : CallFix p m c cc nL s args Ts own) (hw : g_W g n S s H locs) (hM : g_Cp l y ws rm g As n S v) (cw : CallB R s args own index y bytes maxL ret ws rm 0 0 na ∧ (Cond.static y).before args s = true) (hn : As.length = na) (hl : ls.size = nL) (hst : st0 = As.reverse ++ st) (hW : (st.map fun v => v.category).sum ≤ 8) (hf : cells ≤ R.cells ∧ slots ≤ R.slots) (d : decode cc pc = .ok (.invokestatic index, 3))
    (kk : W p l e R s m args below meth c H locs cells slots Q (F0 m (pc + 3) ls (v.toList ++ st))) : W p l e R s m args below meth c H locs cells slots Q (F0 m pc ls st0) :=
  nn_goP (va_runS hc hM cw ⟨g_blind, g_pre hw _⟩ rfl hn hl hst (lv_room hW) d hf) kk
theorem nn_Vs {Qp : Option Value → Nat → (Nat → gE) → Prop} (hc : CallFix p m c cc nL s args Ts own) (hw : g_W g n S s H locs) {fs : List Value} (hS : S b = oO ci fs) (hci : vwCl[ci]? = some (C, T, N)) (hM : g_Cs l y ws rm g (.ref b :: As) n S Qp mc ms) (cw : CallW R s args own C index y bytes maxL ret ws rm mc ms na) (hn : As.length = na) (hl : ls.size = nL) (hst : st0 = As.reverse ++ .ref b :: st) (hW : (st.map fun v => v.category).sum ≤ 8) (hf : cells + mc ≤ R.cells ∧ slots + ms ≤ R.slots) (d : decode cc pc = .ok (.invokevirtual index, 3))
    (kk : ∀ (v : Option Value) (n1 : Nat) (S1 : Nat → gE) (H1 : Heap) (locs1 : List Loc), Qp v n1 S1 → g_W g n1 S1 s H1 locs1 → W p l e R s m args below meth c H1 locs1 (cells + mc) (slots + ms) Q (F0 m (pc + 3) ls (v.toList ++ st))) : W p l e R s m args below meth c H locs cells slots Q (F0 m pc ls st0) :=
  nn_goS hw (va_runV hc hM cw ⟨g_blind, g_recv hw hS hci, g_pre hw _⟩ rfl hn hl hst (lv_room hW) d hf) kk
theorem nn_Ss {Qp : Option Value → Nat → (Nat → gE) → Prop} (hc : CallFix p m c cc nL s args Ts own) (hw : g_W g n S s H locs) (hM : g_Cs l y ws rm g As n S Qp mc ms) (cw : CallB R s args own index y bytes maxL ret ws rm mc ms na ∧ (Cond.static y).before args s = true) (hn : As.length = na) (hl : ls.size = nL) (hst : st0 = As.reverse ++ st) (hW : (st.map fun v => v.category).sum ≤ 8) (hf : cells + mc ≤ R.cells ∧ slots + ms ≤ R.slots) (d : decode cc pc = .ok (.invokestatic index, 3))
    (kk : ∀ (v : Option Value) (n1 : Nat) (S1 : Nat → gE) (H1 : Heap) (locs1 : List Loc), Qp v n1 S1 → g_W g n1 S1 s H1 locs1 → W p l e R s m args below meth c H1 locs1 (cells + mc) (slots + ms) Q (F0 m (pc + 3) ls (v.toList ++ st))) : W p l e R s m args below meth c H locs cells slots Q (F0 m pc ls st0) :=
  nn_goS hw (va_runS hc hM cw ⟨g_blind, g_pre hw _⟩ rfl hn hl hst (lv_room hW) d hf) kk
theorem nn_Is {Qp : Option Value → Nat → (Nat → gE) → Prop} (hc : CallFix p m c cc nL s args Ts own) (hw : g_W g n S s H locs) (hM : g_Cs l y ws rm g (.ref b :: As) n S Qp mc ms) (cw : CallB R s args own index y bytes maxL none ws rm mc ms na ∧ y.name = "<init>" ∧ (Cond.instanceMethod y).before args s = true) (hn : As.length = na) (hl : ls.size = nL) (hst : st0 = As.reverse ++ .ref b :: st) (hW : (st.map fun v => v.category).sum ≤ 8) (hf : cells + mc ≤ R.cells ∧ slots + ms ≤ R.slots) (d : decode cc pc = .ok (.invokespecial index, 3))
    (kk : ∀ (v : Option Value) (n1 : Nat) (S1 : Nat → gE) (H1 : Heap) (locs1 : List Loc), Qp v n1 S1 → g_W g n1 S1 s H1 locs1 → W p l e R s m args below meth c H1 locs1 (cells + mc) (slots + ms) Q (F0 m (pc + 3) ls (v.toList ++ st))) : W p l e R s m args below meth c H locs cells slots Q (F0 m pc ls st0) :=
  nn_goS hw (va_runI hc hM cw ⟨g_blind, g_pre hw _⟩ rfl hn hl hst (lv_room hW) d hf) kk
theorem g_nw (hw : g_W g n S s H locs) (q : String × Nat × MethodName) (hq : q ∈ g_nest) : va_Nw (.methodLinkNest q.1 q.2.1 q.2.2 "RoofCourses") s := hw.2.1.2.1 q hq
theorem nn_SpN {v : Option Value} {host : String} (hc : CallFix p m c cc nL s args Ts own) (hw : g_W g n S s H locs) (hM : g_Cp l y ws rm g As n S v) (cw : va_CN R s args own index y host bytes maxL ret ws rm 0 0 na) (hstat : Cond.static y ∈ Ts) (hn : As.length = na) (hl : ls.size = nL) (hst : st0 = As.reverse ++ st) (hW : (st.map fun v => v.category).sum ≤ 8) (hf : cells ≤ R.cells ∧ slots ≤ R.slots) (d : decode cc pc = .ok (.invokestatic index, 3))
    (kk : W p l e R s m args below meth c H locs cells slots Q (F0 m (pc + 3) ls (v.toList ++ st))) : W p l e R s m args below meth c H locs cells slots Q (F0 m pc ls st0) :=
  nn_goP (va_runSN hc hM ⟨cw, hc.2.2.2.2 _ hstat, trivial⟩ ⟨g_blind, g_pre hw _⟩ rfl hn hl hst (lv_room hW) d hf) kk
theorem nn_IsN {Qp : Option Value → Nat → (Nat → gE) → Prop} {host : String} (hc : CallFix p m c cc nL s args Ts own) (hw : g_W g n S s H locs) (hM : g_Cs l y ws rm g (.ref b :: As) n S Qp mc ms) (cw : va_CN R s args own index y host bytes maxL none ws rm mc ms na) (hy : y.name = "<init>") (hinst : Cond.instanceMethod y ∈ Ts) (hn : As.length = na) (hl : ls.size = nL) (hst : st0 = As.reverse ++ .ref b :: st) (hW : (st.map fun v => v.category).sum ≤ 8) (hf : cells + mc ≤ R.cells ∧ slots + ms ≤ R.slots) (d : decode cc pc = .ok (.invokespecial index, 3))
    (kk : ∀ (v : Option Value) (n1 : Nat) (S1 : Nat → gE) (H1 : Heap) (locs1 : List Loc), Qp v n1 S1 → g_W g n1 S1 s H1 locs1 → W p l e R s m args below meth c H1 locs1 (cells + mc) (slots + ms) Q (F0 m (pc + 3) ls (v.toList ++ st))) : W p l e R s m args below meth c H locs cells slots Q (F0 m pc ls st0) :=
  nn_goS hw (va_runIN hc hM ⟨cw, hy, hc.2.2.2.2 _ hinst⟩ ⟨g_blind, g_pre hw _⟩ rfl hn hl hst (lv_room hW) d hf) kk
/-! Math -/
theorem nn_max (hc : CallFix p m c cc nL s args Ts own) (hl : ls.size = nL) {a b : Int} (ha : -2147483648 ≤ a ∧ a < 2147483648) (hb : -2147483648 ≤ b ∧ b < 2147483648) (hlink : Cond.methodLink own index Lib.Math.max.name ∈ Ts) (hstat : Cond.static Lib.Math.max.name ∈ Ts) (hini : Cond.initialized "java/lang/Math" ∈ Ts) (hcode : Cond.code Lib.Math.max.name Lib.Math.max.code 2 (some .int) ∈ Ts) (hfr : 1 ≤ R.frames) (hlo : (st.map fun v => v.category).sum + 13 ≤ R.locals) (hf : cells ≤ R.cells ∧ slots ≤ R.slots) (d : decode cc pc = .ok (.invokestatic index, 3))
    (kk : W p l e R s m args below meth c H locs cells slots Q (F0 m (pc + 3) ls (.int (iI (if a < b then b else a)) :: st))) : W p l e R s m args below meth c H locs cells slots Q (F0 m pc ls (.int (iI b) :: .int (iI a) :: st)) := by
  have ht := hc.2.2.2.2
  refine va_mmax hc.1 hc.2.1 (hc.2.2.1.trans hl.symm) hc.2.2.2.1 (ht _ hlink) (ht _ hstat) (ht _ hini) (ht _ hcode) hfr hlo hf.1 hf.2 d ?_
  have e1 : (if iI a < iI b then iI b else iI a) = iI (if a < b then b else a) := by
    by_cases h : a < b
    · rw [if_pos ((iI_lt ha hb).mpr h), if_pos h]
    · rw [if_neg (fun q => h ((iI_lt ha hb).mp q)), if_neg h]
  rw [e1]
  exact kk
theorem nn_abs (hc : CallFix p m c cc nL s args Ts own) (hl : ls.size = nL) {a : Int} (ha : -2147483647 ≤ a ∧ a < 2147483648) (hlink : Cond.methodLink own index Lib.Math.abs.name ∈ Ts) (hstat : Cond.static Lib.Math.abs.name ∈ Ts) (hini : Cond.initialized "java/lang/Math" ∈ Ts) (hcode : Cond.code Lib.Math.abs.name Lib.Math.abs.code 1 (some .int) ∈ Ts) (hfr : 1 ≤ R.frames) (hlo : (st.map fun v => v.category).sum + 13 ≤ R.locals) (hf : cells ≤ R.cells ∧ slots ≤ R.slots) (d : decode cc pc = .ok (.invokestatic index, 3))
    (kk : W p l e R s m args below meth c H locs cells slots Q (F0 m (pc + 3) ls (.int (iI (if 0 ≤ a then a else -a)) :: st))) : W p l e R s m args below meth c H locs cells slots Q (F0 m pc ls (.int (iI a) :: st)) := by
  have ht := hc.2.2.2.2
  refine va_mabs hc.1 hc.2.1 (hc.2.2.1.trans hl.symm) hc.2.2.2.1 (ht _ hlink) (ht _ hstat) (ht _ hini) (ht _ hcode) hfr hlo hf.1 hf.2 d ?_
  have e0 : (0 ≤ iI a) ↔ 0 ≤ a := by rw [← iI_0]; exact iI_le (by omega) (by omega)
  have e1 : (if 0 ≤ iI a then iI a else 0 - iI a) = iI (if 0 ≤ a then a else -a) := by
    by_cases h : 0 ≤ a
    · rw [if_pos (e0.mpr h), if_pos h]
    · rw [if_neg (fun q => h (e0.mp q)), if_neg h, ← iI_0, iI_sub]
      congr 1
      omega
  rw [e1]
  exact kk
/-! answers -/
theorem nn_nb (P : Prop) [Decidable P] : narrow .boolean (.int (iI (if P then 1 else 0))) = .int (iI (if P then 1 else 0)) := by
  split <;> rfl
end NNK
