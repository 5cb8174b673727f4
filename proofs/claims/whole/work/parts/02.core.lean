/-! ===== the numbers: Int held in Int32 ===== -/
def iI (z : Int) : Int32 := Int32.ofInt z
theorem iI_toInt {z : Int} (h : -2147483648 ≤ z ∧ z < 2147483648) : (iI z).toInt = z := by
  unfold iI
  rw [Int32.toInt_ofInt]
  show z.bmod (2 ^ 32) = z
  exact Int.bmod_eq_of_le (by omega) (by omega)
theorem iI_of (x : Int32) : x = iI x.toInt := (Int32.ofInt_toInt x).symm
theorem iI_rng (x : Int32) : -2147483648 ≤ x.toInt ∧ x.toInt < 2147483648 := by
  have h1 := Int32.le_toInt x
  have h2 := Int32.toInt_lt x
  omega
theorem iI_add (a b : Int) : iI a + iI b = iI (a + b) := by
  unfold iI; rw [Int32.ofInt_add]
theorem iI_sub (a b : Int) : iI a - iI b = iI (a - b) := by
  unfold iI; rw [Int32.ofInt_sub]
theorem iI_mul (a b : Int) : iI a * iI b = iI (a * b) := by
  unfold iI; rw [Int32.ofInt_mul]
theorem iI_neg (a : Int) : -iI a = iI (-a) := by
  unfold iI; rw [Int32.ofInt_neg]
theorem iI_lt {a b : Int} (ha : -2147483648 ≤ a ∧ a < 2147483648) (hb : -2147483648 ≤ b ∧ b < 2147483648) : iI a < iI b ↔ a < b := by
  rw [Int32.lt_iff_toInt_lt, iI_toInt ha, iI_toInt hb]
theorem iI_le {a b : Int} (ha : -2147483648 ≤ a ∧ a < 2147483648) (hb : -2147483648 ≤ b ∧ b < 2147483648) : iI a ≤ iI b ↔ a ≤ b := by
  rw [Int32.le_iff_toInt_le, iI_toInt ha, iI_toInt hb]
theorem iI_eq {a b : Int} (ha : -2147483648 ≤ a ∧ a < 2147483648) (hb : -2147483648 ≤ b ∧ b < 2147483648) : iI a = iI b ↔ a = b := by
  rw [← Int32.toInt_inj, iI_toInt ha, iI_toInt hb]
theorem iI_0 : iI 0 = 0 := rfl
theorem iI_nat {a : Int} (h : 0 ≤ a ∧ a < 2147483648) : (iI a).toNatClampNeg = a.toNat := by
  show (iI a).toInt.toNat = a.toNat
  rw [iI_toInt (by omega)]
theorem iI_in {a : Int} {N : Nat} (h : 0 ≤ a ∧ a < N) (hN : N < 2147483648) : vp_in (iI a) N := by
  rw [vp_in_iff, iI_toInt (by omega)]
  omega
theorem iI_div {a b : Int} (ha : 0 ≤ a ∧ a < 2147483648) (hb : 0 < b ∧ b < 2147483648) : iI a / iI b = iI (a / b) := by
  have h0 : 0 ≤ a / b := Int.ediv_nonneg ha.1 (by omega)
  have h1 : a / b ≤ a := Int.ediv_le_self _ ha.1
  apply Int32.toInt_inj.mp
  rw [lg_idiv_nonneg (by rw [iI_toInt (by omega)]; omega) (by rw [iI_toInt (by omega)]; omega), iI_toInt (by omega), iI_toInt (by omega), iI_toInt (by omega)]
theorem iI_rem {a b : Int} (ha : 0 ≤ a ∧ a < 2147483648) (hb : 0 < b ∧ b < 2147483648) : iI a - iI a / iI b * iI b = iI (a % b) := by
  rw [iI_div ha hb, iI_mul, iI_sub]
  congr 1
  have h := Int.emod_add_mul_ediv a b
  rw [Int.mul_comm] at h
  omega
/-! ===== the store: what each address from g.2.2 on holds ===== -/
abbrev gG : Type := va_G × (Nat → ClassId) × Nat
abbrev gE : Type := Option va_E
def oI (g : gG) (N : Nat) (f : Nat → Int) : gE := some (.inl (g.2.1 0, N, .inl (fun j => iI (f j))))
def oC (g : gG) (N : Nat) (f : Nat → Int) : gE := some (.inl (g.2.1 1, N, .inl (fun j => iI (f j))))
def oR (g : gG) (t N : Nat) (f : Nat → Option Nat) : gE := some (.inl (g.2.1 t, N, .inr (.inr (.inr (.inr f)))))
def oO (ci : Nat) (fs : List Value) : gE := some (.inr (ci, fs))
abbrev g_T (g : gG) : List (ClassId × FieldType) := [(g.2.1 0, .int), (g.2.1 1, .char), (g.2.1 2, .object "RoofCourses$Course"), (g.2.1 3, .object "RoofCourses$Change")]
def g_nest : List (String × Nat × MethodName) := [(RX0, 17, yX3_init), (RX5, 61, yX8_isWithin), (RX6, 21, yX3_init), (RX6, 68, yX8_isWithin), (RX8, 9, yX7_init), (RX8, 18, yX5_init), (RX8, 53, yX2_init), (RX8, 60, yX3_init)]
def g_K (g : gG) (U : State) : Prop := va_K g.1 vwCl (g_T g) U ∧ (∀ q ∈ g_nest, va_Nw (.methodLinkNest q.1 q.2.1 q.2.2 "RoofCourses") U) ∧ va_AO "RoofCourses$Course" U ∧ va_AO "RoofCourses$Change" U
theorem g_K.moved {g : gG} {u U : State} (hW : u.WarmedH U.vm) (h : g_K g u) : g_K g U := ⟨va_K.moved hW.alike h.1, fun q hq => va_Nw.warmM hW (h.2.1 q hq), h.2.2.1.moved hW.alike, h.2.2.2.moved hW.alike⟩
theorem g_K.same {g : gG} {u U : State} (hv : u.vm = U.vm) (h : g_K g u) : g_K g U := ⟨va_K.moved (hv ▸ Vm.Alike.refl u.vm) h.1, fun q hq => va_Nw.same rfl hv (h.2.1 q hq), h.2.2.1.moved (hv ▸ Vm.Alike.refl u.vm), h.2.2.2.moved (hv ▸ Vm.Alike.refl u.vm)⟩
def g_S (g : gG) (n : Nat) (S : Nat → gE) (H : Heap) : Prop := H.size = n ∧ g.2.2 ≤ n ∧ ∀ (a : Nat) (x : va_E), S a = some x → g.2.2 ≤ a ∧ a < n ∧ va_at g.1 vwCl (a, x) H
abbrev g_A (g : gG) : Nat → Prop := fun q => g.2.2 ≤ q
def g_W (g : gG) (n : Nat) (S : Nat → gE) (s : State) (H : Heap) (locs : List Loc) : Prop := g_S g n S H ∧ g_K g s ∧ va_S (g_A g) s.heap H locs
theorem g_S.set {g : gG} {n : Nat} {S : Nat → gE} {H H1 : Heap} (h : g_S g n S H) {a : Nat} {x0 x : va_E} (hx0 : S a = some x0) (hx : va_at g.1 vwCl (a, x) H1) (hz : H1.size = H.size) (oq : ∀ q, q ≠ a → H1[q]? = H[q]?) : g_S g n (va_up S a (some x)) H1 := by
  refine ⟨hz.trans h.1, h.2.1, fun b y hy => ?_⟩
  by_cases hb : b = a
  · subst hb
    rw [va_up_self] at hy
    cases hy
    obtain ⟨h1, h2, -⟩ := h.2.2 b x0 hx0
    exact ⟨h1, h2, hx⟩
  · rw [va_up_ne _ _ hb] at hy
    obtain ⟨h1, h2, h3⟩ := h.2.2 b y hy
    exact ⟨h1, h2, h3.kept (oq b hb)⟩
theorem g_W.set {g : gG} {n : Nat} {S : Nat → gE} {s : State} {H H1 : Heap} {locs L : List Loc} (h : g_W g n S s H locs) {a : Nat} {x0 x : va_E} (hx0 : S a = some x0) (hx : va_at g.1 vwCl (a, x) H1) (hz : H1.size = H.size) (oq : ∀ q, q ≠ a → H1[q]? = H[q]?) (hL : ∀ q ∈ L, q.base = a) : g_W g n (va_up S a (some x)) s H1 (locs ++ L) := by
  obtain ⟨h1, h2, h3, h4, h5⟩ := h
  have ha := (h1.2.2 a x0 hx0).1
  refine ⟨h1.set hx0 hx hz oq, h2, by omega, fun q g1 g2 => ?_, fun q hq => ?_⟩
  · rw [oq q (fun e => g2 (by rw [e]; exact ha))]
    exact h4 q g1 g2
  · rcases List.mem_append.mp hq with h | h
    · exact h5 q h
    · show g.2.2 ≤ q.base
      rw [hL q h]; exact ha
theorem g_S.push {g : gG} {n : Nat} {S : Nat → gE} {H H1 : Heap} (h : g_S g n S H) {x : va_E} (hx : va_at g.1 vwCl (n, x) H1) (hz : H1.size = n + 1) (oq : ∀ q, q < n → H1[q]? = H[q]?) : g_S g (n + 1) (va_up S n (some x)) H1 := by
  refine ⟨hz, Nat.le_succ_of_le h.2.1, fun b y hy => ?_⟩
  by_cases hb : b = n
  · subst hb
    rw [va_up_self] at hy
    cases hy
    exact ⟨h.2.1, Nat.lt_succ_self _, hx⟩
  · rw [va_up_ne _ _ hb] at hy
    obtain ⟨h1, h2, h3⟩ := h.2.2 b y hy
    exact ⟨h1, Nat.lt_succ_of_lt h2, h3.kept (oq b h2)⟩
theorem g_W.push {g : gG} {n : Nat} {S : Nat → gE} {s : State} {H H1 : Heap} {locs : List Loc} (h : g_W g n S s H locs) {x : va_E} (hx : va_at g.1 vwCl (n, x) H1) (hz : H1.size = n + 1) (oq : ∀ q, q < n → H1[q]? = H[q]?) : g_W g (n + 1) (va_up S n (some x)) s H1 locs := by
  obtain ⟨h1, h2, h3, h4, h5⟩ := h
  have hn := h1.1
  refine ⟨h1.push hx hz oq, h2, by omega, fun q g1 g2 => ?_, h5⟩
  rw [oq q (by omega)]
  exact h4 q g1 g2
theorem g_S.lt {g : gG} {n : Nat} {S : Nat → gE} {H : Heap} (h : g_S g n S H) {a : Nat} {x : va_E} (hx : S a = some x) : g.2.2 ≤ a ∧ a < n := ⟨(h.2.2 a x hx).1, (h.2.2 a x hx).2.1⟩
/-! ===== contracts ===== -/
/-- a method that changes nothing and answers v -/
def g_Cp (l : Launch) (y : MethodName) (ws : List Cond) (rm : Room) (g : gG) (av : List Value) (n : Nat) (S : Nat → gE) (v : Option Value) : Prop :=
  Met l y ws rm (va_Pc av (fun U => g_S g n S U.heap ∧ g_K g U)) (fun _ st oc t => oc = .returned v ∧ t.heap = st.heap) 0 0 (fun _ => False)
/-- a method that goes from the store S to another one -/
def g_Cs (l : Launch) (y : MethodName) (ws : List Cond) (rm : Room) (g : gG) (av : List Value) (n : Nat) (S : Nat → gE) (Qp : Option Value → Nat → (Nat → gE) → Prop) (mc ms : Nat) : Prop :=
  Met l y ws rm (va_Pc av (fun U => g_S g n S U.heap ∧ g_K g U)) (fun _ st oc t => ∃ (v : Option Value) (n1 : Nat) (S1 : Nat → gE), oc = .returned v ∧ Qp v n1 S1 ∧ g_S g n1 S1 t.heap ∧ va_F (g_A g) st t) mc ms (g_A g)
section NNC
variable {l : Launch} {y : MethodName} {ws ws' : List Cond} {rm : Room} {g : gG} {av : List Value} {n : Nat} {S : Nat → gE} {cc : ByteArray} {maxL : Nat}
theorem g_Cp.of {ret : Option FieldType} {v : Option Value} (hy : plainName y.cls = true) (hw : ws = Cond.code y cc maxL ret :: ws') (hlen : (lg_sl av).length ≤ maxL)
    (body : ∀ (p : Program) (e : Env) (s : State) (m : MethodId) (below : List Frame) (meth : Method) (c : Code) (Q : State → Prop) (ls : Array Slot), CallFix p m c cc maxL s av.toArray ws y.cls → meth.name = y.name → g_W g n S s s.heap [] → lv_has ls maxL (lv_args 0 av) →
      (∀ (pc : Nat) (ls : Array Slot), (match v with
        | none => ret = none ∧ decode cc pc = .ok (.return_, 1)
        | some (.int x) => ∃ ty, ret = some ty ∧ narrow ty (.int x) = .int x ∧ decode cc pc = .ok (.ireturn, 1)
        | some w => ∃ C, ret = some (.object C) ∧ (w = .null ∨ ∃ a, w = .ref a) ∧ decode cc pc = .ok (.areturn, 1)) → W p l e rm s m av.toArray below meth c s.heap [] 0 0 Q (F0 m pc ls v.toList)) →
      W p l e rm s m av.toArray below meth c s.heap [] 0 0 Q (F0 m 0 ls [])) : g_Cp l y ws rm g av n S v := by
  refine Met.ofW (cc := cc) (maxL := maxL) (ret := ret) hy hw ?_
  intro p e s m args below meth c s₁ B hml hv
  obtain ⟨rfl, hS, hK⟩ := hv
  have hx := B.exec
  have hb := B.bytes
  have hr := B.returns
  have hts := atoms_spec (ws := ws) B.pre
  have hown : s.vm.findClass y.cls = some m.cls := findClass_of_methodNamed B.named
  have hlocks := B.notSynchronized
  have hin : meth.name = y.name := (name_of_methodNamed B.named B.method).1
  rw [lg_entry_eq]
  refine body p e s m below meth c _ _ ⟨hx, hb, hml, hown, hts⟩ hin ⟨hS, hK, va_S.rf⟩ (lv_entry av hlen) ?_
  intro pc ls hret
  cases v with
  | none =>
    obtain ⟨rfl, hd⟩ := hret
    exact W.vret hx hb hr (fun t ht _ => ⟨rfl, ht⟩) (fun q hq => by cases hq) hd
  | some w =>
    cases w with
    | int x =>
      obtain ⟨ty, rfl, hn, hd⟩ := hret
      exact W.zret hx hb hr hn (fun t ht _ => ⟨rfl, ht⟩) (fun q hq => by cases hq) hd
    | _ =>
      obtain ⟨C, rfl, hn, hd⟩ := hret
      exact W.aret hx hb hr (Or.inl ⟨C, rfl⟩) hn (fun t ht _ => ⟨rfl, ht⟩) (fun q hq => by cases hq) hd
theorem g_Cs.of {ret : Option FieldType} {Qp : Option Value → Nat → (Nat → gE) → Prop} {mc ms : Nat} (hy : plainName y.cls = true) (hw : ws = Cond.code y cc maxL ret :: ws') (hlen : (lg_sl av).length ≤ maxL)
    (body : ∀ (p : Program) (e : Env) (s : State) (m : MethodId) (below : List Frame) (meth : Method) (c : Code) (Q : State → Prop) (H : Heap) (locs : List Loc) (ls : Array Slot), CallFix p m c cc maxL s av.toArray ws y.cls → meth.name = y.name → g_W g n S s H locs → lv_has ls maxL (lv_args 0 av) →
      (∀ (v : Option Value) (n1 : Nat) (S1 : Nat → gE) (H : Heap) (locs : List Loc) (pc : Nat) (ls : Array Slot), g_W g n1 S1 s H locs → Qp v n1 S1 → (match v with
        | none => ret = none ∧ decode cc pc = .ok (.return_, 1)
        | some (.int x) => ∃ ty, ret = some ty ∧ narrow ty (.int x) = .int x ∧ decode cc pc = .ok (.ireturn, 1)
        | some w => ∃ C, ret = some (.object C) ∧ (w = .null ∨ ∃ a, w = .ref a) ∧ decode cc pc = .ok (.areturn, 1)) → W p l e rm s m av.toArray below meth c H locs mc ms Q (F0 m pc ls v.toList)) →
      W p l e rm s m av.toArray below meth c H locs 0 0 Q (F0 m 0 ls [])) : g_Cs l y ws rm g av n S Qp mc ms := by
  refine Met.ofW (cc := cc) (maxL := maxL) (ret := ret) hy hw ?_
  intro p e s m args below meth c s₁ B hml hv
  obtain ⟨rfl, hS, hK⟩ := hv
  have hx := B.exec
  have hb := B.bytes
  have hr := B.returns
  have hts := atoms_spec (ws := ws) B.pre
  have hown : s.vm.findClass y.cls = some m.cls := findClass_of_methodNamed B.named
  have hlocks := B.notSynchronized
  have hin : meth.name = y.name := (name_of_methodNamed B.named B.method).1
  rw [lg_entry_eq]
  refine body p e s m below meth c _ _ _ _ ⟨hx, hb, hml, hown, hts⟩ hin ⟨hS, hK, va_S.rf⟩ (lv_entry av hlen) ?_
  intro v n1 S1 H locs pc ls hw1 hq hret
  have key : ∀ t : State, t.heap = H → ∃ (v' : Option Value) (n1 : Nat) (S1 : Nat → gE), Outcome.returned v = .returned v' ∧ Qp v' n1 S1 ∧ g_S g n1 S1 t.heap ∧ va_F (g_A g) s t := fun t ht => ⟨v, n1, S1, rfl, hq, by rw [ht]; exact hw1.1, hw1.2.2.F ht⟩
  cases v with
  | none =>
    obtain ⟨rfl, hd⟩ := hret
    exact W.vret hx hb hr (fun t ht _ => key t ht) (fun q hq => hw1.2.2.2.2 q hq) hd
  | some w =>
    cases w with
    | int x =>
      obtain ⟨ty, rfl, hn, hd⟩ := hret
      exact W.zret hx hb hr hn (fun t ht _ => key t ht) (fun q hq => hw1.2.2.2.2 q hq) hd
    | _ =>
      obtain ⟨C, rfl, hn, hd⟩ := hret
      exact W.aret hx hb hr (Or.inl ⟨C, rfl⟩) hn (fun t ht _ => key t ht) (fun q hq => hw1.2.2.2.2 q hq) hd
end NNC
