section NNN
variable {p : Program} {l : Launch} {e : Env} {R : Room} {s : State} {m : MethodId} {args : Array Value} {below : List Frame} {meth : Method} {c : Code} {H : Heap} {locs : List Loc} {cells slots : Nat} {Q : State → Prop}
variable {cc : ByteArray} {pc nL : Nat} {ls : Array Slot} {st : List Value} {Ts : List Cond} {own : String} {g : gG} {n : Nat} {S : Nat → gE}
theorem nn_new (hc : CallFix p m c cc nL s args Ts own) (hw : g_W g n S s H locs) {C : String} {T : u_T} {N ci index : Nat} (hin : ∀ w ∈ u_ws C T N, w ∈ Ts) (ty : Nat → FieldType) (hty : ∀ k, k < N → parseFieldDescriptor (T k).2.2.1 = some (ty k)) (hcl : Cond.classLink own index C ∈ Ts) (hinst : Cond.instantiable C N ∈ Ts) (hini : Cond.initialized C ∈ Ts) (hci : vwCl[ci]? = some (C, T, N)) (fs : List Value) (hfs : ∀ j, j < N → defaultValue (ty j) = vp_V fs j) (hcells : cells + 1 ≤ R.cells) (hslots : slots + N ≤ R.slots) (d : decode cc pc = .ok (.new index, 3))
    (kk : ∀ (S1 : Nat → gE) (H1 : Heap), S1 n = oO ci fs → (∀ b, b ≠ n → S1 b = S b) → g_W g (n + 1) S1 s H1 locs → W p l e R s m args below meth c H1 locs (cells + 1) (slots + N) Q (F0 m (pc + 3) ls (.ref n :: st))) : W p l e R s m args below meth c H locs cells slots Q (F0 m pc ls st) := by
  obtain ⟨hexec, hb, -, hown, hts⟩ := hc
  have hKn := hw.2.1.1.1 ci _ hci
  refine W.newcK hexec hb hown (hts _ hcl) (hts _ hinst) (hts _ hini) rfl d hcells hslots hKn.2.1 hw.1.1 fun H1 kC hkC e1 z1 o1 => ?_
  exact kk (va_up S n (oO ci fs)) H1 (va_up_self _ _ _) (fun b hb => va_up_ne _ _ hb) (hw.push ⟨_, hci, (u_born ty hts hin hKn hkC e1 hty).to hfs⟩ z1 o1)
theorem nn_newI (hc : CallFix p m c cc nL s args Ts own) (hw : g_W g n S s H locs) (harr : Cond.arrayClass .int ∈ Ts) {z : Int} {N : Nat} (hz : 0 ≤ z ∧ z < 2147483648) (hN : z.toNat = N) (hbytes : N * componentBytes .int ≤ 536870912) (hcells : cells + 1 ≤ R.cells) (hslots : slots + N ≤ R.slots) (d : decode cc pc = .ok (.newarray .int, 2))
    (kk : ∀ (S1 : Nat → gE) (H1 : Heap), S1 n = oI g N (fun _ => 0) → (∀ b, b ≠ n → S1 b = S b) → g_W g (n + 1) S1 s H1 locs → W p l e R s m args below meth c H1 locs (cells + 1) (slots + N) Q (F0 m (pc + 2) ls (.ref n :: st))) : W p l e R s m args below meth c H locs cells slots Q (F0 m pc ls (.int (iI z) :: st)) := by
  obtain ⟨hexec, hb, -, hown, hts⟩ := hc
  have h0 : ¬ iI z < 0 := by rw [← iI_0, iI_lt (by omega) (by omega)]; omega
  refine va_newaK (atype := .int) hexec hb (hts _ harr) rfl d (N := N) rfl h0 (by rw [iI_nat hz, hN]) hbytes hcells hslots hw.1.1 fun H1 cA e1 z1 o1 hAr hNm => ?_
  have hcA : cA = g.2.1 0 := by
    have h1 : s.vm.findClass ("[" ++ (FieldType.int).toString) = some (g.2.1 0) := (hw.2.1.1.2 0 _ rfl).2
    exact Option.some.inj (hNm.symm.trans h1)
  subst hcA
  exact kk (va_up S n (oI g N (fun _ => 0))) H1 (va_up_self _ _ _) (fun b hb => va_up_ne _ _ hb) (hw.push (show H1[n]? = some (vp_cell _ _) from e1) z1 o1)
theorem nn_newC (hc : CallFix p m c cc nL s args Ts own) (hw : g_W g n S s H locs) (harr : Cond.arrayClass .char ∈ Ts) {z : Int} {N : Nat} (hz : 0 ≤ z ∧ z < 2147483648) (hN : z.toNat = N) (hbytes : N * componentBytes .char ≤ 536870912) (hcells : cells + 1 ≤ R.cells) (hslots : slots + N ≤ R.slots) (d : decode cc pc = .ok (.newarray .char, 2))
    (kk : ∀ (S1 : Nat → gE) (H1 : Heap), S1 n = oC g N (fun _ => 0) → (∀ b, b ≠ n → S1 b = S b) → g_W g (n + 1) S1 s H1 locs → W p l e R s m args below meth c H1 locs (cells + 1) (slots + N) Q (F0 m (pc + 2) ls (.ref n :: st))) : W p l e R s m args below meth c H locs cells slots Q (F0 m pc ls (.int (iI z) :: st)) := by
  obtain ⟨hexec, hb, -, hown, hts⟩ := hc
  have h0 : ¬ iI z < 0 := by rw [← iI_0, iI_lt (by omega) (by omega)]; omega
  refine va_newaK (atype := .char) hexec hb (hts _ harr) rfl d (N := N) rfl h0 (by rw [iI_nat hz, hN]) hbytes hcells hslots hw.1.1 fun H1 cA e1 z1 o1 hAr hNm => ?_
  have hcA : cA = g.2.1 1 := by
    have h1 : s.vm.findClass ("[" ++ (FieldType.char).toString) = some (g.2.1 1) := (hw.2.1.1.2 1 _ rfl).2
    exact Option.some.inj (hNm.symm.trans h1)
  subst hcA
  exact kk (va_up S n (oC g N (fun _ => 0))) H1 (va_up_self _ _ _) (fun b hb => va_up_ne _ _ hb) (hw.push (show H1[n]? = some (vp_cell _ _) from e1) z1 o1)
theorem nn_newQ (hc : CallFix p m c cc nL s args Ts own) (hw : g_W g n S s H locs) {C : String} {t index : Nat} (hcl : Cond.classLink own index C ∈ Ts) (hover : va_AO C s) (ht : (g_T g)[t]? = some (g.2.1 t, .object C)) {z : Int} {N : Nat} (hz : 0 ≤ z ∧ z < 2147483648) (hN : z.toNat = N) (hbytes : N * 4 ≤ 536870912) (hcells : cells + 1 ≤ R.cells) (hslots : slots + N ≤ R.slots) (d : decode cc pc = .ok (.anewarray index, 3))
    (kk : ∀ (S1 : Nat → gE) (H1 : Heap), S1 n = oR g t N (fun _ => none) → (∀ b, b ≠ n → S1 b = S b) → g_W g (n + 1) S1 s H1 locs → W p l e R s m args below meth c H1 locs (cells + 1) (slots + N) Q (F0 m (pc + 3) ls (.ref n :: st))) : W p l e R s m args below meth c H locs cells slots Q (F0 m pc ls (.int (iI z) :: st)) := by
  obtain ⟨hexec, hb, -, hown, hts⟩ := hc
  have h0 : ¬ iI z < 0 := by rw [← iI_0, iI_lt (by omega) (by omega)]; omega
  have hzn : (iI z).toNatClampNeg = N := by rw [iI_nat hz, hN]
  subst hzn
  refine W.anew hexec hb hown (hts _ hcl) (va_AO.use hover) rfl d rfl h0 hbytes hcells hslots fun cA kA comp f1 f2 f3 f4 => ?_
  have hsz := hw.1.1
  subst hsz
  generalize hH1 : H.push ({ cls := cA, slots := Array.replicate (iI z).toNatClampNeg .null, vm := .none } : Cell) = H1
  have z1 : H1.size = H.size + 1 := by rw [← hH1, Array.size_push]
  have e1 : H1[H.size]? = some (arrV cA (iI z).toNatClampNeg (fun _ => .null)) := by rw [← hH1, Array.getElem?_push_size, ← arrV_new]
  have o1 : ∀ q : Nat, q < H.size → H1[q]? = H[q]? := fun q hq => by rw [← hH1, Array.getElem?_push, if_neg (Nat.ne_of_lt hq)]
  have hcA : cA = g.2.1 t := by
    obtain ⟨kA', comp', g1, g2, g3, g4⟩ := (hw.2.1.1.2 t _ ht).2
    exact Option.some.inj (f1.symm.trans g4)
  subst hcA
  exact kk (va_up S H.size (oR g t (iI z).toNatClampNeg (fun _ => none))) H1 (va_up_self _ _ _) (fun b hb => va_up_ne _ _ hb) (hw.push (show H1[H.size]? = some (vp_cell _ _) from by rw [vp_cell_q]; exact e1) z1 o1)
/-- System.arraycopy of k ints from the place 0 on -/
theorem nn_copy (hc : CallFix p m c cc nL s args Ts own) (hl : ls.size = nL) (hw : g_W g n S s H locs) {index : Nat} (hlink : Cond.methodLink own index arraycopyName ∈ Ts) (hnat : Cond.native arraycopyName ∈ Ts) (hstat : Cond.static arraycopyName ∈ Ts) (hini : Cond.initialized "java/lang/System" ∈ Ts) {a0 a n0 n1 : Nat} {f h : Nat → Int} (hS0 : S a0 = oI g n0 f) (hS1 : S a = oI g n1 h) {z : Int} (hz : 0 ≤ z ∧ z < 2147483648) (h4 : z.toNat ≤ n0) (h5 : z.toNat ≤ n1)
    (hframes : 1 ≤ R.frames) (hlocals : (st.map fun v => v.category).sum + (nativeFrameWords "java/lang/System" "arraycopy" 5 + 11) ≤ R.locals) (d : decode cc pc = .ok (.invokestatic index, 3))
    (kk : ∀ (S1 : Nat → gE) (H1 : Heap) (locs1 : List Loc), S1 a = oI g n1 (va_cpy f h 0 0 z.toNat) → (∀ b, b ≠ a → S1 b = S b) → g_W g n S1 s H1 locs1 → W p l e R s m args below meth c H1 locs1 cells slots Q (F0 m (pc + 3) ls st)) : W p l e R s m args below meth c H locs cells slots Q (F0 m pc ls (.int (iI z) :: .int (iI 0) :: .ref a :: .int (iI 0) :: .ref a0 :: st)) := by
  obtain ⟨hexec, hb, hml, hown, hts⟩ := hc
  have nz : (iI z).toNatClampNeg = z.toNat := iI_nat hz
  have n00 : (iI 0).toNatClampNeg = 0 := rfl
  have hzi : (iI z).toInt = z := iI_toInt (by omega)
  have h0i : (iI 0).toInt = 0 := rfl
  intro T hT X
  obtain ⟨-, -, hat0⟩ := hw.1.2.2 a0 _ hS0
  obtain ⟨-, -, hat1⟩ := hw.1.2.2 a _ hS1
  have hc0 : H[a0]? = some (vp_cell (g.2.1 0) (n0, .inl (fun j => iI (f j)))) := hat0
  have hc1 : H[a]? = some (vp_cell (g.2.1 0) (n1, .inl (fun j => iI (h j)))) := hat1
  obtain ⟨-, k0, hk0, cm0, hkk0⟩ := (hw.2.1.1.2 0 _ rfl).1 n0 (fun j => .int (iI (f j)))
  obtain ⟨-, k1, hk1, cm1, hkk1⟩ := (hw.2.1.1.2 0 _ rfl).1 n1 (fun j => .int (iI (h j)))
  obtain ⟨vm', X', step⟩ := X.arraycopy hexec hown (hts _ hlink) (hts _ hnat) (hts _ hstat) (hts _ hini) (src := a0) (dst := a) (cs := vp_cell (g.2.1 0) (n0, .inl (fun j => iI (f j)))) (cd := vp_cell (g.2.1 0) (n1, .inl (fun j => iI (h j)))) (srcPos := iI 0) (destPos := iI 0) (n := iI z) (by rw [hT]; exact hc0) (by rw [hT]; exact hc1)
    (fun _ h => by cases h) (fun _ h => by cases h) (fun h => by cases h) (fun h => by cases h) hk0 hk1 hkk0 hkk1 (by simp [refKind]) (by decide) (by decide) (by rw [← iI_0, iI_lt (by omega) (by omega)]; omega)
    (by rw [hzi, h0i]; show ¬ _ > ((arrV (g.2.1 0) n0 (fun j => .int (iI (f j)))).slots.size : Int); rw [arrV_size]; omega)
    (by rw [hzi, h0i]; show ¬ _ > ((arrV (g.2.1 0) n1 (fun j => .int (iI (h j)))).slots.size : Int); rw [arrV_size]; omega)
    (fun vm₁ _ i hi => by
      have e : (vp_cell (g.2.1 0) (n0, .inl (fun j => iI (f j)))).slots.getD ((iI 0).toNatClampNeg + i) .null = .int (iI (f ((iI 0).toNatClampNeg + i))) := by
        show (arrV (g.2.1 0) n0 (fun j => .int (iI (f j)))).slots.getD _ _ = _
        rw [Array.getD_eq_getD_getElem?, arrV_read _ _ (by rw [nz] at hi; rw [n00]; omega)]
        rfl
      refine ⟨?_, ?_⟩
      · rw [e]
        rfl
      · rw [e]
        exact trivial)
    (g := F0 m pc ls (.int (iI z) :: .int (iI 0) :: .ref a :: .int (iI 0) :: .ref a0 :: st)) rfl (by rw [hml]; exact hl) (rest := st) rfl (by rw [hb]; exact d) hframes (by show 2 * 0 + _ + _ ≤ _; omega)
  have e1 : copied (vp_cell (g.2.1 0) (n0, .inl (fun j => iI (f j)))) (vp_cell (g.2.1 0) (n1, .inl (fun j => iI (h j)))) (iI 0) (iI 0) (iI z) = vp_cell (g.2.1 0) (n1, .inl (va_cpy (fun j => iI (f j)) (fun j => iI (h j)) (iI 0).toNatClampNeg (iI 0).toNatClampNeg (iI z).toNatClampNeg)) := va_copied (fun z => .int z) (g.2.1 0) (g.2.1 0) (fun j => iI (f j)) (fun j => iI (h j)) (by rw [nz, n00]; omega)
  have e2 : va_cpy (fun j => iI (f j)) (fun j => iI (h j)) (iI 0).toNatClampNeg (iI 0).toNatClampNeg (iI z).toNatClampNeg = (fun j => iI (va_cpy f h 0 0 z.toNat j)) := by
    funext j
    rw [nz, n00]
    unfold va_cpy
    split <;> rfl
  rw [e2] at e1
  rw [e1] at X' step
  have hl : a < H.size := (Array.getElem?_eq_some_iff.mp hc1).1
  have hheap : ((T.setVm vm').setCell a (vp_cell (g.2.1 0) (n1, .inl (fun j => iI (va_cpy f h 0 0 z.toNat j))))).heap = H.setIfInBounds a (vp_cell (g.2.1 0) (n1, .inl (fun j => iI (va_cpy f h 0 0 z.toNat j)))) := by rw [← hT]; rfl
  have oq : ∀ q : Nat, q ≠ a → (H.setIfInBounds a (vp_cell (g.2.1 0) (n1, .inl (fun j => iI (va_cpy f h 0 0 z.toNat j)))))[q]? = H[q]? := fun q hq => by simp [Array.getElem?_setIfInBounds, Ne.symm hq]
  obtain ⟨t, a1, b1⟩ := kk (va_up S a (oI g n1 (va_cpy f h 0 0 z.toNat))) _ _ (va_up_self _ _ _) (fun b hb => va_up_ne _ _ hb) (hw.set hS1 (show (H.setIfInBounds a _)[a]? = some _ by simp [Array.getElem?_setIfInBounds, hl]) (by simp) oq (fun q hq => by
      obtain ⟨z, -, hz⟩ := List.mem_map.mp hq
      rw [← hz])) _ hheap X'
  exact ⟨t, step t a1, b1⟩
/-! switches -/
theorem nn_tab (hc : CallFix p m c cc nL s args Ts own) {dflt lo hi : Int} {offs : Array Int} {len : Nat} {x : Int} (hx : -2147483648 ≤ x ∧ x < 2147483648) (d : decode cc pc = .ok (.tableswitch dflt lo hi offs, len)) (off : Int → Int) (ho : ∀ z : Int, lo ≤ z → z ≤ hi → offs[(z - lo).toNat]? = some (off z))
    (kd : x < lo ∨ hi < x → ∀ tgt : Nat, (pc : Int) + dflt = (tgt : Int) → W p l e R s m args below meth c H locs cells slots Q (F0 m tgt ls st))
    (kk : lo ≤ x → x ≤ hi → ∀ tgt : Nat, (pc : Int) + off x = (tgt : Int) → W p l e R s m args below meth c H locs cells slots Q (F0 m tgt ls st)) (hp : 0 ≤ (pc : Int) + dflt ∧ ∀ z : Int, lo ≤ z → z ≤ hi → 0 ≤ (pc : Int) + off z) : W p l e R s m args below meth c H locs cells slots Q (F0 m pc ls (.int (iI x) :: st)) := by
  by_cases h : x < lo ∨ hi < x
  · exact lv_tableOut (tgt := ((pc : Int) + dflt).toNat) hc.1 hc.2.1 d (by rw [iI_toInt hx]; exact h) (by omega) (kd h _ (by omega))
  · have h1 : lo ≤ x := by omega
    have h2 : x ≤ hi := by omega
    have h3 := hp.2 x h1 h2
    exact lv_tableIn (tgt := ((pc : Int) + off x).toNat) hc.1 hc.2.1 d (by rw [iI_toInt hx]; omega) (by rw [iI_toInt hx]; omega) (by rw [iI_toInt hx]; exact ho x h1 h2) (by omega) (kk h1 h2 _ (by omega))
end NNN
section NNS
variable {p : Program} {l : Launch} {e : Env} {R : Room} {s : State} {m : MethodId} {args : Array Value} {below : List Frame} {meth : Method} {c : Code} {H : Heap} {locs : List Loc} {cells slots : Nat} {Q : State → Prop}
variable {cc : ByteArray} {pc nL : Nat} {ls : Array Slot} {st : List Value} {Ts : List Cond} {own : String}
theorem nn_tabIn (hc : CallFix p m c cc nL s args Ts own) {dflt lo hi : Int} {offs : Array Int} {len : Nat} {x : Int} (z : Int) {off : Int} {tgt : Nat} (hxz : x = z) (hz : (iI z).toInt = z) (h1 : lo ≤ z) (h2 : z ≤ hi) (d : decode cc pc = .ok (.tableswitch dflt lo hi offs, len)) (ho : offs[(z - lo).toNat]? = some off) (ht : (pc : Int) + off = (tgt : Int))
    (k : W p l e R s m args below meth c H locs cells slots Q (F0 m tgt ls st)) : W p l e R s m args below meth c H locs cells slots Q (F0 m pc ls (.int (iI x) :: st)) := by
  subst hxz
  exact lv_tableIn hc.1 hc.2.1 d (by rw [hz]; omega) (by rw [hz]; omega) (by rw [hz]; exact ho) ht k
theorem nn_tabOut (hc : CallFix p m c cc nL s args Ts own) {dflt lo hi : Int} {offs : Array Int} {len : Nat} {x : Int} {tgt : Nat} (hx : -2147483648 ≤ x ∧ x < 2147483648) (h : x < lo ∨ hi < x) (d : decode cc pc = .ok (.tableswitch dflt lo hi offs, len)) (ht : (pc : Int) + dflt = (tgt : Int))
    (k : W p l e R s m args below meth c H locs cells slots Q (F0 m tgt ls st)) : W p l e R s m args below meth c H locs cells slots Q (F0 m pc ls (.int (iI x) :: st)) :=
  lv_tableOut hc.1 hc.2.1 d (by rw [iI_toInt hx]; exact h) ht k
theorem nn_lookIn (hc : CallFix p m c cc nL s args Ts own) {dflt : Int} {ps : Array (Int × Int)} {len : Nat} {x : Int} (z : Int) {off : Int} {tgt : Nat} (hxz : x = z) (hz : (iI z).toInt = z) (d : decode cc pc = .ok (.lookupswitch dflt ps, len)) (hp : (ps.toList.zip (ps.toList.drop 1)).all (fun (a, next) => a.1 < next.1) = true) (ho : Op.lookupswitch.offset ps.toList dflt z = off) (ht : (pc : Int) + off = (tgt : Int))
    (k : W p l e R s m args below meth c H locs cells slots Q (F0 m tgt ls st)) : W p l e R s m args below meth c H locs cells slots Q (F0 m pc ls (.int (iI x) :: st)) := by
  subst hxz
  exact lv_lookup hc.1 hc.2.1 d hp (by rw [hz]; exact ho) ht k
theorem nn_lookOut (hc : CallFix p m c cc nL s args Ts own) {dflt : Int} {ps : Array (Int × Int)} {len : Nat} {x : Int} {tgt : Nat} (hx : -2147483648 ≤ x ∧ x < 2147483648) (d : decode cc pc = .ok (.lookupswitch dflt ps, len)) (hp : (ps.toList.zip (ps.toList.drop 1)).all (fun (a, next) => a.1 < next.1) = true) (ho : Op.lookupswitch.offset ps.toList dflt x = dflt) (ht : (pc : Int) + dflt = (tgt : Int))
    (k : W p l e R s m args below meth c H locs cells slots Q (F0 m tgt ls st)) : W p l e R s m args below meth c H locs cells slots Q (F0 m pc ls (.int (iI x) :: st)) :=
  lv_lookup hc.1 hc.2.1 d hp (by rw [iI_toInt hx]; exact ho) ht k
/-- a value that a join gives a name to -/
theorem nn_name {x : Int} {rest : List Value} (k : ∀ z : Int, z = x → W p l e R s m args below meth c H locs cells slots Q (F0 m pc ls (.int (iI z) :: rest))) : W p l e R s m args below meth c H locs cells slots Q (F0 m pc ls (.int (iI x) :: rest)) := k x rfl
end NNS
