/-! ===== the text at first, read ===== -/
def kTx : Nat → Int := fun i => kB.getD i 0
theorem itC_mk {tx : Nat → Int} {tl i e : Nat} {P P1 : pT} {ns : List Int} (h : nmA tx tl (nOf (tx i)) (i + 1) = some (ns, e)) (h2 : takeC (tx i) (ns.getD 0 0) (ns.getD 1 0) (ns.getD 2 0) P = some P1) : itC tx tl i P = some (e, P1) := by
  unfold itC
  rw [h]
  show Option.map _ _ = _
  rw [h2]
  rfl
theorem kh_it {i e : Nat} {l b c : Int} {P P1 : pT} (h : nmA kTx 86 (nOf (kTx i)) (i + 1) = some ([l, b, c], e)) (hi : kTx i = 104) (hr : (20 ≤ l ∧ l ≤ 60) ∧ (10 ≤ b ∧ b ≤ 60) ∧ (1 ≤ c ∧ c ≤ 99)) (h2 : addC P l b c = some P1) : itC kTx 86 i P = some (e, P1) := by
  refine itC_mk h ?_
  rw [hi]
  show takeC 104 l b c P = some P1
  unfold takeC
  rw [if_pos rfl, if_pos hr]
  exact h2
theorem krd : rdC kTx 86 200 0 ip0 = (-4, ip8) := by
  rw [rdC_some (by decide) (kh_it (i := 0) (e := 10) (by decide +kernel) (by decide +kernel) (by decide) ia1)]
  rw [rdC_some (by decide) (kh_it (i := 10) (e := 20) (by decide +kernel) (by decide +kernel) (by decide) ia2)]
  rw [rdC_some (by decide) (kh_it (i := 20) (e := 29) (by decide +kernel) (by decide +kernel) (by decide) ia3)]
  rw [rdC_some (by decide) (kh_it (i := 29) (e := 39) (by decide +kernel) (by decide +kernel) (by decide) ia4)]
  rw [rdC_some (by decide) (kh_it (i := 39) (e := 49) (by decide +kernel) (by decide +kernel) (by decide) ia5)]
  rw [rdC_some (by decide) (kh_it (i := 49) (e := 59) (by decide +kernel) (by decide +kernel) (by decide) ia6)]
  rw [rdC_some (by decide) (kh_it (i := 59) (e := 69) (by decide +kernel) (by decide +kernel) (by decide) ia7)]
  rw [rdC_some (by decide) (itC_mk (tx := kTx) (tl := 86) (i := 69) (e := 78) (ns := [110, 130]) (P := ip7) (P1 := (ip7.1, ip7.2.1, ip7.2.2.1, ip7.2.2.2.1, 110, 130, ip7.2.2.2.2.2.2)) (by decide +kernel) (by
    rw [show kTx 69 = 114 by decide +kernel]
    unfold takeC
    rw [if_neg (by decide), if_pos rfl, if_pos (by decide)]
    rfl))]
  rw [rdC_some (by decide) (itC_mk (tx := kTx) (tl := 86) (i := 78) (e := 83) (ns := [6, 4]) (P1 := (ip7.1, ip7.2.1, ip7.2.2.1, ip7.2.2.2.1, 110, 130, 6, 4, ip7.2.2.2.2.2.2.2.2)) (by decide +kernel) (by
    rw [show kTx 78 = 112 by decide +kernel]
    unfold takeC
    rw [if_neg (by decide), if_neg (by decide), if_pos rfl, if_pos (by decide)]
    rfl))]
  rw [rdC_some (by decide) (itC_mk (tx := kTx) (tl := 86) (i := 83) (e := 86) (ns := [2]) (P1 := ip8) (by decide +kernel) (by
    rw [show kTx 83 = 105 by decide +kernel]
    unfold takeC
    rw [if_neg (by decide), if_neg (by decide), if_neg (by decide), if_pos rfl, if_pos (by decide)]
    rfl))]
  exact rdC_end (by decide)
def ipR : Nat → Int := fun i => if (i : Int) < ip8.1 then ip8.2.2.2.1 i else 0
theorem ip_goodA (tx : Nat → Int) : goodA (0, tx, ip8, ipR, [], []) := by
  refine ⟨Nat.zero_le _, fun i hi => absurd hi (Nat.not_lt_zero i), ig8, goodR_0 (fun i hi => ?_), goodH_0⟩
  have hi' : i < ip8.1.toNat := hi
  show 0 ≤ ipR i ∧ ipR i ≤ 999
  unfold ipR
  rw [if_pos (by omega)]
  have := ig8.2.1 i (by omega)
  omega
def kTxt : String := "h40,30,30;h40,22,30;h40,17,9;h30,25,40;h30,18,40;h24,20,60;h24,11,30;r110,130;p6,4;i2;"
/-- a method that reads the String constant too -/
def g_Ck (l : Launch) (y : MethodName) (ws : List Cond) (rm : Room) (g : gG) (qs ts : Nat) (av : List Value) (n : Nat) (S : Nat → gE) (Qp : Option Value → Nat → (Nat → gE) → Prop) (mc ms : Nat) : Prop :=
  Met l y ws rm (va_Pc av (fun U => g_S g n S U.heap ∧ g_K g U ∧ kO (g_A g) qs ts U U.heap ∧ vk_R RX8 65 kTxt qs U)) (fun _ st oc t => ∃ (v : Option Value) (n1 : Nat) (S1 : Nat → gE), oc = .returned v ∧ Qp v n1 S1 ∧ g_S g n1 S1 t.heap ∧ va_F (g_A g) st t) mc ms (g_A g)
section CK
variable {l : Launch} {y : MethodName} {ws ws' : List Cond} {rm : Room} {g : gG} {av : List Value} {n qs ts : Nat} {S : Nat → gE} {cc : ByteArray} {maxL : Nat}
theorem g_Ck.of {ret : Option FieldType} {Qp : Option Value → Nat → (Nat → gE) → Prop} {mc ms : Nat} (hy : plainName y.cls = true) (hw : ws = Cond.code y cc maxL ret :: ws') (hlen : (lg_sl av).length ≤ maxL)
    (body : ∀ (p : Program) (e : Env) (s : State) (m : MethodId) (below : List Frame) (meth : Method) (c : Code) (Q : State → Prop) (H : Heap) (locs : List Loc) (ls : Array Slot), CallFix p m c cc maxL s av.toArray ws y.cls → meth.name = y.name → kO (g_A g) qs ts s s.heap → vk_R RX8 65 kTxt qs s → g_W g n S s H locs → lv_has ls maxL (lv_args 0 av) →
      (∀ (v : Option Value) (n1 : Nat) (S1 : Nat → gE) (H : Heap) (locs : List Loc) (pc : Nat) (ls : Array Slot), g_W g n1 S1 s H locs → Qp v n1 S1 → (match v with
        | none => ret = none ∧ decode cc pc = .ok (.return_, 1)
        | some (.int x) => ∃ ty, ret = some ty ∧ narrow ty (.int x) = .int x ∧ decode cc pc = .ok (.ireturn, 1)
        | some w => ∃ C, ret = some (.object C) ∧ (w = .null ∨ ∃ a, w = .ref a) ∧ decode cc pc = .ok (.areturn, 1)) → W p l e rm s m av.toArray below meth c H locs mc ms Q (F0 m pc ls v.toList)) →
      W p l e rm s m av.toArray below meth c H locs 0 0 Q (F0 m 0 ls [])) : g_Ck l y ws rm g qs ts av n S Qp mc ms := by
  refine Met.ofW (cc := cc) (maxL := maxL) (ret := ret) hy hw ?_
  intro p e s m args below meth c s₁ B hml hv
  obtain ⟨rfl, hS, hK, hk, hR⟩ := hv
  have hx := B.exec
  have hb := B.bytes
  have hr := B.returns
  have hts := atoms_spec (ws := ws) B.pre
  have hown : s.vm.findClass y.cls = some m.cls := findClass_of_methodNamed B.named
  have hlocks := B.notSynchronized
  have hin : meth.name = y.name := (name_of_methodNamed B.named B.method).1
  rw [lg_entry_eq]
  refine body p e s m below meth c _ _ _ _ ⟨hx, hb, hml, hown, hts⟩ hin hk hR ⟨hS, hK, va_S.rf⟩ (lv_entry av hlen) ?_
  intro v n1 S1 H locs pc ls hw1 hq hret
  have key : ∀ t : State, t.heap = H → ∃ (v' : Option Value) (n1 : Nat) (S1 : Nat → gE), Outcome.returned v = .returned v' ∧ Qp v' n1 S1 ∧ g_S g n1 S1 t.heap ∧ va_F (g_A g) s t := fun t ht => ⟨v, n1, S1, rfl, hq, by rw [ht]; exact hw1.1, hw1.2.2.F ht⟩
  cases v with
  | none =>
    obtain ⟨rfl, hd⟩ := hret
    exact W.vret hx hb hr (fun t ht _ => key t ht) (fun q hq => hw1.2.2.2.2 q hq) hd
  | some w =>
    cases w with
    | int x =>
      obtain ⟨ty, rfl, hn, hd⟩ := hret
      exact W.zret hx hb hr hn (fun t ht _ => key t ht) (fun q hq => hw1.2.2.2.2 q hq) hd
    | _ =>
      obtain ⟨C, rfl, hn, hd⟩ := hret
      exact W.aret hx hb hr (Or.inl ⟨C, rfl⟩) hn (fun t ht _ => key t ht) (fun q hq => hw1.2.2.2.2 q hq) hd
end CK
section CKR
variable {p : Program} {l : Launch} {e : Env} {R : Room} {s : State} {m : MethodId} {args : Array Value} {below : List Frame} {meth : Method} {c : Code} {H : Heap} {locs : List Loc} {cells slots : Nat} {Q : State → Prop}
variable {cc : ByteArray} {pc nL : Nat} {ls : Array Slot} {st st0 : List Value} {Ts : List Cond} {own : String} {g : gG} {n qs ts : Nat} {S : Nat → gE}
variable {y : MethodName} {bytes : ByteArray} {maxL mc ms na index : Nat} {ws : List Cond} {rm : Room} {b : Nat} {As : List Value}
theorem ck_blind {av : List Value} : FrameBlind (va_Pc av (fun U => g_S g n S U.heap ∧ g_K g U ∧ kO (g_A g) qs ts U U.heap ∧ vk_R RX8 65 kTxt qs U)) := fun a U f mk h => ⟨h.1, h.2.1, g_K.same (u := U) (U := U.calling f mk a) rfl h.2.2.1, kO.moved (u := U) (U := U.calling f mk a) (Vm.Alike.refl U.vm) h.2.2.2.1, vk_R.same (u := U) (U := U.calling f mk a) rfl h.2.2.2.2⟩
theorem nn_Ik {Qp : Option Value → Nat → (Nat → gE) → Prop} (hc : CallFix p m c cc nL s args Ts own) (hk : kO (g_A g) qs ts s s.heap) (hR : vk_R RX8 65 kTxt qs s) (hw : g_W g n S s H locs) (hM : g_Ck l y ws rm g qs ts (.ref b :: As) n S Qp mc ms) (cw : CallB R s args own index y bytes maxL none ws rm mc ms na ∧ y.name = "<init>" ∧ (Cond.instanceMethod y).before args s = true) (hn : As.length = na) (hl : ls.size = nL) (hst : st0 = As.reverse ++ .ref b :: st) (hW : (st.map fun v => v.category).sum ≤ 8) (hf : cells + mc ≤ R.cells ∧ slots + ms ≤ R.slots) (d : decode cc pc = .ok (.invokespecial index, 3))
    (kk : ∀ (v : Option Value) (n1 : Nat) (S1 : Nat → gE) (H1 : Heap) (locs1 : List Loc), Qp v n1 S1 → g_W g n1 S1 s H1 locs1 → W p l e R s m args below meth c H1 locs1 (cells + mc) (slots + ms) Q (F0 m (pc + 3) ls (v.toList ++ st))) : W p l e R s m args below meth c H locs cells slots Q (F0 m pc ls st0) :=
  nn_goS hw (va_runI hc hM cw ⟨ck_blind, fun U hU hW => ⟨rfl, by rw [hU]; exact hw.1, hw.2.1.moved hW, (by show kO (g_A g) qs ts U U.heap; rw [hU]; exact (hk.kept hw.2.2.2.1).moved hW.alike), hR.warm hW⟩⟩ rfl hn hl hst (lv_room hW) d hf) kk
end CKR
