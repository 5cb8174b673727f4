section NNR
variable {p : Program} {l : Launch} {e : Env} {R : Room} {s : State} {m : MethodId} {args : Array Value} {below : List Frame} {meth : Method} {c : Code} {H : Heap} {locs : List Loc} {cells slots : Nat} {Q : State → Prop}
variable {cc : ByteArray} {pc nL : Nat} {ls : Array Slot} {st : List Value} {Ts : List Cond} {own : String} {g : gG} {n : Nat} {S : Nat → gE}
/-! constants, arithmetic -/
theorem nn_iconst (hc : CallFix p m c cc nL s args Ts own) {z : Int} (d : decode cc pc = .ok (.iconst z, 1))
    (k : W p l e R s m args below meth c H locs cells slots Q (F0 m (pc + 1) ls (.int (iI z) :: st))) : W p l e R s m args below meth c H locs cells slots Q (F0 m pc ls st) := lv_iconst hc.1 hc.2.1 d rfl k
theorem nn_bipush (hc : CallFix p m c cc nL s args Ts own) {z : Int} (d : decode cc pc = .ok (.bipush z, 2)) (hz : (Int8.ofInt z).toInt32 = iI z)
    (k : W p l e R s m args below meth c H locs cells slots Q (F0 m (pc + 2) ls (.int (iI z) :: st))) : W p l e R s m args below meth c H locs cells slots Q (F0 m pc ls st) := lv_bipush hc.1 hc.2.1 d hz k
theorem nn_sipush (hc : CallFix p m c cc nL s args Ts own) {z : Int} (d : decode cc pc = .ok (.sipush z, 3)) (hz : (Int16.ofInt z).toInt32 = iI z)
    (k : W p l e R s m args below meth c H locs cells slots Q (F0 m (pc + 3) ls (.int (iI z) :: st))) : W p l e R s m args below meth c H locs cells slots Q (F0 m pc ls st) := lv_sipush hc.1 hc.2.1 d hz k
theorem nn_iadd (hc : CallFix p m c cc nL s args Ts own) {a b : Int} (d : decode cc pc = .ok (.iadd, 1))
    (k : W p l e R s m args below meth c H locs cells slots Q (F0 m (pc + 1) ls (.int (iI (a + b)) :: st))) : W p l e R s m args below meth c H locs cells slots Q (F0 m pc ls (.int (iI b) :: .int (iI a) :: st)) := lv_iadd hc.1 hc.2.1 d (by rw [iI_add]; exact k)
theorem nn_isub (hc : CallFix p m c cc nL s args Ts own) {a b : Int} (d : decode cc pc = .ok (.isub, 1))
    (k : W p l e R s m args below meth c H locs cells slots Q (F0 m (pc + 1) ls (.int (iI (a - b)) :: st))) : W p l e R s m args below meth c H locs cells slots Q (F0 m pc ls (.int (iI b) :: .int (iI a) :: st)) := lv_isub hc.1 hc.2.1 d (by rw [iI_sub]; exact k)
theorem nn_imul (hc : CallFix p m c cc nL s args Ts own) {a b : Int} (d : decode cc pc = .ok (.imul, 1))
    (k : W p l e R s m args below meth c H locs cells slots Q (F0 m (pc + 1) ls (.int (iI (a * b)) :: st))) : W p l e R s m args below meth c H locs cells slots Q (F0 m pc ls (.int (iI b) :: .int (iI a) :: st)) := lv_imul hc.1 hc.2.1 d (by rw [iI_mul]; exact k)
theorem nn_ineg (hc : CallFix p m c cc nL s args Ts own) {a : Int} (d : decode cc pc = .ok (.ineg, 1))
    (k : W p l e R s m args below meth c H locs cells slots Q (F0 m (pc + 1) ls (.int (iI (-a)) :: st))) : W p l e R s m args below meth c H locs cells slots Q (F0 m pc ls (.int (iI a) :: st)) := lv_ineg hc.1 hc.2.1 d (by rw [iI_neg]; exact k)
theorem nn_idiv (hc : CallFix p m c cc nL s args Ts own) {a b : Int} (d : decode cc pc = .ok (.idiv, 1)) (ha : 0 ≤ a ∧ a < 2147483648) (hb : 0 < b ∧ b < 2147483648)
    (k : W p l e R s m args below meth c H locs cells slots Q (F0 m (pc + 1) ls (.int (iI (a / b)) :: st))) : W p l e R s m args below meth c H locs cells slots Q (F0 m pc ls (.int (iI b) :: .int (iI a) :: st)) :=
  lv_idiv hc.1 hc.2.1 d (fun h => by rw [← iI_0, iI_eq (by omega) (by omega)] at h; omega) (by rw [iI_div ha hb]; exact k)
theorem nn_irem (hc : CallFix p m c cc nL s args Ts own) {a b : Int} (d : decode cc pc = .ok (.irem, 1)) (ha : 0 ≤ a ∧ a < 2147483648) (hb : 0 < b ∧ b < 2147483648)
    (k : W p l e R s m args below meth c H locs cells slots Q (F0 m (pc + 1) ls (.int (iI (a % b)) :: st))) : W p l e R s m args below meth c H locs cells slots Q (F0 m pc ls (.int (iI b) :: .int (iI a) :: st)) :=
  lv_irem hc.1 hc.2.1 d (fun h => by rw [← iI_0, iI_eq (by omega) (by omega)] at h; omega) (by rw [iI_rem ha hb]; exact k)
theorem nn_iinc (hc : CallFix p m c cc nL s args Ts own) {i k0 : Nat} {z a : Int} {lv lv' : List (Nat × Value)} (d : decode cc pc = .ok (.iinc i z, 3)) (h : lv_has ls nL lv) (hk : lv[k0]? = some (i, .int (iI a))) (hn : i < nL) (hl : (i, Value.int (iI (a + z))) :: lv.filter (fun q => !(q.1 == i) && !(q.1 + 1 == i && q.2.category == 2)) = lv')
    (kk : ∀ ls' : Array Slot, lv_has ls' nL lv' → W p l e R s m args below meth c H locs cells slots Q (F0 m (pc + 3) ls' st)) : W p l e R s m args below meth c H locs cells slots Q (F0 m pc ls st) :=
  lv_iinc hc.1 hc.2.1 d h hk (by rw [← iI_add]; rfl) hn hl kk
/-! branches -/
theorem nn_if_eq (hc : CallFix p m c cc nL s args Ts own) {a : Int} {off : Int} {tgt : Nat} (d : decode cc pc = .ok (.ifCond .eq off, 3)) (ht : (pc : Int) + off = (tgt : Int)) (ha : -2147483648 ≤ a ∧ a < 2147483648)
    (kt : a = 0 → W p l e R s m args below meth c H locs cells slots Q (F0 m tgt ls st)) (kf : a ≠ 0 → W p l e R s m args below meth c H locs cells slots Q (F0 m (pc + 3) ls st)) : W p l e R s m args below meth c H locs cells slots Q (F0 m pc ls (.int (iI a) :: st)) :=
  lv_if_eq hc.1 hc.2.1 d ht (fun h => kt (by rw [← iI_0, iI_eq ha (by omega)] at h; exact h)) (fun h => kf (fun q => h (by rw [q]; rfl)))
theorem nn_if_ne (hc : CallFix p m c cc nL s args Ts own) {a : Int} {off : Int} {tgt : Nat} (d : decode cc pc = .ok (.ifCond .ne off, 3)) (ht : (pc : Int) + off = (tgt : Int)) (ha : -2147483648 ≤ a ∧ a < 2147483648)
    (kt : a ≠ 0 → W p l e R s m args below meth c H locs cells slots Q (F0 m tgt ls st)) (kf : a = 0 → W p l e R s m args below meth c H locs cells slots Q (F0 m (pc + 3) ls st)) : W p l e R s m args below meth c H locs cells slots Q (F0 m pc ls (.int (iI a) :: st)) :=
  lv_if_ne hc.1 hc.2.1 d ht (fun h => kt (fun q => h (by rw [q]; rfl))) (fun h => kf (by
    have h' : iI a = 0 := h
    rw [← iI_0, iI_eq ha (by omega)] at h'; exact h'))
theorem nn_if_lt (hc : CallFix p m c cc nL s args Ts own) {a : Int} {off : Int} {tgt : Nat} (d : decode cc pc = .ok (.ifCond .lt off, 3)) (ht : (pc : Int) + off = (tgt : Int)) (ha : -2147483648 ≤ a ∧ a < 2147483648)
    (kt : a < 0 → W p l e R s m args below meth c H locs cells slots Q (F0 m tgt ls st)) (kf : 0 ≤ a → W p l e R s m args below meth c H locs cells slots Q (F0 m (pc + 3) ls st)) : W p l e R s m args below meth c H locs cells slots Q (F0 m pc ls (.int (iI a) :: st)) :=
  lv_if_lt hc.1 hc.2.1 d ht (fun h => kt (by rw [← iI_0, iI_lt ha (by omega)] at h; exact h)) (fun h => kf (by rw [← iI_0, iI_lt ha (by omega)] at h; omega))
theorem nn_if_ge (hc : CallFix p m c cc nL s args Ts own) {a : Int} {off : Int} {tgt : Nat} (d : decode cc pc = .ok (.ifCond .ge off, 3)) (ht : (pc : Int) + off = (tgt : Int)) (ha : -2147483648 ≤ a ∧ a < 2147483648)
    (kt : 0 ≤ a → W p l e R s m args below meth c H locs cells slots Q (F0 m tgt ls st)) (kf : a < 0 → W p l e R s m args below meth c H locs cells slots Q (F0 m (pc + 3) ls st)) : W p l e R s m args below meth c H locs cells slots Q (F0 m pc ls (.int (iI a) :: st)) :=
  lv_if_ge hc.1 hc.2.1 d ht (fun h => kt (by rw [← iI_0, iI_le (by omega) ha] at h; exact h)) (fun h => kf (by rw [← iI_0, iI_le (by omega) ha] at h; omega))
theorem nn_if_gt (hc : CallFix p m c cc nL s args Ts own) {a : Int} {off : Int} {tgt : Nat} (d : decode cc pc = .ok (.ifCond .gt off, 3)) (ht : (pc : Int) + off = (tgt : Int)) (ha : -2147483648 ≤ a ∧ a < 2147483648)
    (kt : 0 < a → W p l e R s m args below meth c H locs cells slots Q (F0 m tgt ls st)) (kf : a ≤ 0 → W p l e R s m args below meth c H locs cells slots Q (F0 m (pc + 3) ls st)) : W p l e R s m args below meth c H locs cells slots Q (F0 m pc ls (.int (iI a) :: st)) :=
  lv_if_gt hc.1 hc.2.1 d ht (fun h => kt (by rw [← iI_0, iI_lt (by omega) ha] at h; exact h)) (fun h => kf (by rw [← iI_0, iI_lt (by omega) ha] at h; omega))
theorem nn_if_le (hc : CallFix p m c cc nL s args Ts own) {a : Int} {off : Int} {tgt : Nat} (d : decode cc pc = .ok (.ifCond .le off, 3)) (ht : (pc : Int) + off = (tgt : Int)) (ha : -2147483648 ≤ a ∧ a < 2147483648)
    (kt : a ≤ 0 → W p l e R s m args below meth c H locs cells slots Q (F0 m tgt ls st)) (kf : 0 < a → W p l e R s m args below meth c H locs cells slots Q (F0 m (pc + 3) ls st)) : W p l e R s m args below meth c H locs cells slots Q (F0 m pc ls (.int (iI a) :: st)) :=
  lv_if_le hc.1 hc.2.1 d ht (fun h => kt (by rw [← iI_0, iI_le ha (by omega)] at h; exact h)) (fun h => kf (by rw [← iI_0, iI_le ha (by omega)] at h; omega))
theorem nn_icmp_eq (hc : CallFix p m c cc nL s args Ts own) {a b : Int} {off : Int} {tgt : Nat} (d : decode cc pc = .ok (.if_icmp .eq off, 3)) (ht : (pc : Int) + off = (tgt : Int)) (ha : -2147483648 ≤ a ∧ a < 2147483648) (hb : -2147483648 ≤ b ∧ b < 2147483648)
    (kt : a = b → W p l e R s m args below meth c H locs cells slots Q (F0 m tgt ls st)) (kf : a ≠ b → W p l e R s m args below meth c H locs cells slots Q (F0 m (pc + 3) ls st)) : W p l e R s m args below meth c H locs cells slots Q (F0 m pc ls (.int (iI b) :: .int (iI a) :: st)) :=
  lv_icmp_eq hc.1 hc.2.1 d ht (fun h => kt ((iI_eq ha hb).mp h)) (fun h => kf (fun q => h (by rw [q])))
theorem nn_icmp_ne (hc : CallFix p m c cc nL s args Ts own) {a b : Int} {off : Int} {tgt : Nat} (d : decode cc pc = .ok (.if_icmp .ne off, 3)) (ht : (pc : Int) + off = (tgt : Int)) (ha : -2147483648 ≤ a ∧ a < 2147483648) (hb : -2147483648 ≤ b ∧ b < 2147483648)
    (kt : a ≠ b → W p l e R s m args below meth c H locs cells slots Q (F0 m tgt ls st)) (kf : a = b → W p l e R s m args below meth c H locs cells slots Q (F0 m (pc + 3) ls st)) : W p l e R s m args below meth c H locs cells slots Q (F0 m pc ls (.int (iI b) :: .int (iI a) :: st)) :=
  lv_icmp_ne hc.1 hc.2.1 d ht (fun h => kt (fun q => h (by rw [q]))) (fun h => kf ((iI_eq ha hb).mp h))
theorem nn_icmp_lt (hc : CallFix p m c cc nL s args Ts own) {a b : Int} {off : Int} {tgt : Nat} (d : decode cc pc = .ok (.if_icmp .lt off, 3)) (ht : (pc : Int) + off = (tgt : Int)) (ha : -2147483648 ≤ a ∧ a < 2147483648) (hb : -2147483648 ≤ b ∧ b < 2147483648)
    (kt : a < b → W p l e R s m args below meth c H locs cells slots Q (F0 m tgt ls st)) (kf : b ≤ a → W p l e R s m args below meth c H locs cells slots Q (F0 m (pc + 3) ls st)) : W p l e R s m args below meth c H locs cells slots Q (F0 m pc ls (.int (iI b) :: .int (iI a) :: st)) :=
  lv_icmp_lt hc.1 hc.2.1 d ht (fun h => kt ((iI_lt ha hb).mp h)) (fun h => kf (by rw [iI_lt ha hb] at h; omega))
theorem nn_icmp_ge (hc : CallFix p m c cc nL s args Ts own) {a b : Int} {off : Int} {tgt : Nat} (d : decode cc pc = .ok (.if_icmp .ge off, 3)) (ht : (pc : Int) + off = (tgt : Int)) (ha : -2147483648 ≤ a ∧ a < 2147483648) (hb : -2147483648 ≤ b ∧ b < 2147483648)
    (kt : b ≤ a → W p l e R s m args below meth c H locs cells slots Q (F0 m tgt ls st)) (kf : a < b → W p l e R s m args below meth c H locs cells slots Q (F0 m (pc + 3) ls st)) : W p l e R s m args below meth c H locs cells slots Q (F0 m pc ls (.int (iI b) :: .int (iI a) :: st)) :=
  lv_icmp_ge hc.1 hc.2.1 d ht (fun h => kt ((iI_le hb ha).mp h)) (fun h => kf (by
    have h' : ¬ iI b ≤ iI a := h
    rw [iI_le hb ha] at h'; omega))
theorem nn_icmp_gt (hc : CallFix p m c cc nL s args Ts own) {a b : Int} {off : Int} {tgt : Nat} (d : decode cc pc = .ok (.if_icmp .gt off, 3)) (ht : (pc : Int) + off = (tgt : Int)) (ha : -2147483648 ≤ a ∧ a < 2147483648) (hb : -2147483648 ≤ b ∧ b < 2147483648)
    (kt : b < a → W p l e R s m args below meth c H locs cells slots Q (F0 m tgt ls st)) (kf : a ≤ b → W p l e R s m args below meth c H locs cells slots Q (F0 m (pc + 3) ls st)) : W p l e R s m args below meth c H locs cells slots Q (F0 m pc ls (.int (iI b) :: .int (iI a) :: st)) :=
  lv_icmp_gt hc.1 hc.2.1 d ht (fun h => kt ((iI_lt hb ha).mp h)) (fun h => kf (by
    have h' : ¬ iI b < iI a := h
    rw [iI_lt hb ha] at h'; omega))
theorem nn_icmp_le (hc : CallFix p m c cc nL s args Ts own) {a b : Int} {off : Int} {tgt : Nat} (d : decode cc pc = .ok (.if_icmp .le off, 3)) (ht : (pc : Int) + off = (tgt : Int)) (ha : -2147483648 ≤ a ∧ a < 2147483648) (hb : -2147483648 ≤ b ∧ b < 2147483648)
    (kt : a ≤ b → W p l e R s m args below meth c H locs cells slots Q (F0 m tgt ls st)) (kf : b < a → W p l e R s m args below meth c H locs cells slots Q (F0 m (pc + 3) ls st)) : W p l e R s m args below meth c H locs cells slots Q (F0 m pc ls (.int (iI b) :: .int (iI a) :: st)) :=
  lv_icmp_le hc.1 hc.2.1 d ht (fun h => kt ((iI_le ha hb).mp h)) (fun h => kf (by rw [iI_le ha hb] at h; omega))
/-! fields -/
theorem nn_get (hc : CallFix p m c cc nL s args Ts own) (hw : g_W g n S s H locs) {C : String} {T : u_T} {N ci index : Nat} {a : Nat} {fs : List Value} (hS : S a = oO ci fs) (hin : ∀ w ∈ u_ws C T N, w ∈ Ts) (hci : vwCl[ci]? = some (C, T, N)) (k : Nat) (hk : k < N) {v : Value} (hv : fs[k]? = some v) (hlink : Cond.fieldLink own index (T k).1 (T k).2.1 (T k).2.2.1 ∈ Ts) (d : decode cc pc = .ok (.getfield index, 3))
    (kk : W p l e R s m args below meth c H locs cells slots Q (F0 m (pc + 3) ls (v :: st))) : W p l e R s m args below meth c H locs cells slots Q (F0 m pc ls (.ref a :: st)) := by
  obtain ⟨-, -, hat⟩ := hw.1.2.2 a _ hS
  exact va_get (D := g.1) (ws := [(a, .inr (ci, fs))]) (cl := vwCl) (tys := g_T g) hc.1 hc.2.1 hc.2.2.2.2 hin hc.2.2.2.1 hw.2.1.1 (fun k q hk => by
    have hz : k < 1 := (List.getElem?_eq_some_iff.mp hk).1
    rw [show k = 0 by omega] at hk
    cases hk
    exact hat) 0 rfl hci k hk (hc.2.2.2.2 _ hlink) (fun _ h => h) hv d kk
theorem nn_put (hc : CallFix p m c cc nL s args Ts own) (hw : g_W g n S s H locs) {C : String} {T : u_T} {N ci index : Nat} {a : Nat} {fs : List Value} (hS : S a = oO ci fs) (hin : ∀ w ∈ u_ws C T N, w ∈ Ts) (ty0 : Nat → FieldType) (hty : ∀ k, k < N → parseFieldDescriptor (T k).2.2.1 = some (ty0 k)) (hnm : ∀ a, a < N → ∀ b, b < N → a ≠ b → (T a).2.1 ≠ (T b).2.1) (hci : vwCl[ci]? = some (C, T, N)) (k : Nat) (hk : k < N) (hl : k < fs.length) {v : Value} (hlink : Cond.fieldLink own index (T k).1 (T k).2.1 (T k).2.2.1 ∈ Ts) (hfin : (T k).2.2.2 = false) (hn : narrow (ty0 k) v = v) (hfit : fits (ty0 k) v = true) (d : decode cc pc = .ok (.putfield index, 3))
    (kk : ∀ (S1 : Nat → gE) (H1 : Heap) (locs1 : List Loc), S1 a = oO ci (fs.set k v) → (∀ b, b ≠ a → S1 b = S b) → g_W g n S1 s H1 locs1 → W p l e R s m args below meth c H1 locs1 cells slots Q (F0 m (pc + 3) ls st)) : W p l e R s m args below meth c H locs cells slots Q (F0 m pc ls (v :: .ref a :: st)) := by
  obtain ⟨hexec, hb, -, hown, hts⟩ := hc
  have hK := hw.2.1.1
  obtain ⟨-, -, hat⟩ := hw.1.2.2 a _ hS
  have hap := va_apart (own := own) hts hin ty0 hty hnm hK hci
  obtain ⟨r, h1, cell, q1, q2, q3, q4⟩ := hat
  have hr : r = (C, T, N) := Option.some.inj (h1.symm.trans hci)
  subst hr
  obtain ⟨hSl, hfc, kC, hkC, hkind⟩ := hK.1 ci _ hci
  obtain ⟨cf, kf, fi, f, hi, hsl⟩ := hSl k hk
  have hlay := hts _ (hin _ (u_in_lay hk))
  unfold u_lay at hlay
  rw [if_neg (by rw [hfin]; decide)] at hlay
  have hst := (u_facts hfc hkC (u_lays hts hin hk) hi).1
  have h6 := u_store hfc hkC hkind hlay hi (hty k hk) hn hfit
  refine W.putK hexec hb (f := f) ⟨hown, hts _ hlink, ⟨_, _, _, hi⟩, hst⟩ (by rw [q2]; exact h6) q1 q3 (by rw [hsl]; exact k2_hasslot (q4 k hk)) rfl rfl d fun H' e1 e2 e3 => ?_
  rw [hsl] at e1 ⊢
  exact kk (va_up S a (oO ci (fs.set k v))) H' _ (va_up_self _ _ _) (fun b hb => va_up_ne _ _ hb) (hw.set hS ⟨_, hci, t_OB.to (V := updV (vp_V fs) k v) ⟨_, e1, q2, q3, t_set q4 hap hk v⟩ (fun j _ => vp_updV_set hl v j)⟩ e2 e3 (fun q hq => by rw [List.mem_singleton.mp hq]))
theorem nn_putF (hc : CallFix p m c cc nL s args Ts own) (hin2 : meth.name = "<init>") (hw : g_W g n S s H locs) {C : String} {T : u_T} {N ci index : Nat} {a : Nat} {fs : List Value} (hS : S a = oO ci fs) (hin : ∀ w ∈ u_ws C T N, w ∈ Ts) (ty0 : Nat → FieldType) (hty : ∀ k, k < N → parseFieldDescriptor (T k).2.2.1 = some (ty0 k)) (hnm : ∀ a, a < N → ∀ b, b < N → a ≠ b → (T a).2.1 ≠ (T b).2.1) (hci : vwCl[ci]? = some (C, T, N)) (k : Nat) (hk : k < N) (hl : k < fs.length) {v : Value} (hlink : Cond.fieldLink own index (T k).1 (T k).2.1 (T k).2.2.1 ∈ Ts) (hfin : (T k).2.2.2 = true) (hdecl : (T k).1 = own) (hn : narrow (ty0 k) v = v) (hfit : fits (ty0 k) v = true) (d : decode cc pc = .ok (.putfield index, 3))
    (kk : ∀ (S1 : Nat → gE) (H1 : Heap) (locs1 : List Loc), S1 a = oO ci (fs.set k v) → (∀ b, b ≠ a → S1 b = S b) → g_W g n S1 s H1 locs1 → W p l e R s m args below meth c H1 locs1 cells slots Q (F0 m (pc + 3) ls st)) : W p l e R s m args below meth c H locs cells slots Q (F0 m pc ls (v :: .ref a :: st)) := by
  obtain ⟨hexec, hb, -, hown, hts⟩ := hc
  have hK := hw.2.1.1
  obtain ⟨-, -, hat⟩ := hw.1.2.2 a _ hS
  have hap := va_apart (own := own) hts hin ty0 hty hnm hK hci
  obtain ⟨r, h1, cell, q1, q2, q3, q4⟩ := hat
  have hr : r = (C, T, N) := Option.some.inj (h1.symm.trans hci)
  subst hr
  obtain ⟨hSl, hfc, kC, hkC, hkind⟩ := hK.1 ci _ hci
  obtain ⟨cf, kf, fi, f, hi, hsl⟩ := hSl k hk
  have hlay := hts _ (hin _ (u_in_lay hk))
  unfold u_lay at hlay
  rw [if_pos hfin] at hlay
  have hst := (u_facts hfc hkC (u_lays hts hin hk) hi).1
  have hcf : m.cls = cf := by
    obtain ⟨_, _, c', _, _, _, -, -, hf', -, -, -, hown2, -⟩ := Cond.laysFinal_spec hlay
    have e1 : c' = cf := by have := hi.symm.trans hf'; simp at this; exact this.1.symm
    rw [hdecl] at hown2
    rw [← e1]; exact Option.some.inj (hown.symm.trans hown2)
  have h6 := u_fits hfc hkC hkind (Or.inr hlay) hi (hty k hk) hn hfit
  refine W.putFinK hexec hb hown (hts _ hlink) hi hst hcf hin2 (by rw [q2]; exact h6) q1 q3 (by rw [hsl]; exact k2_hasslot (q4 k hk)) rfl rfl d fun H' e1 e2 e3 => ?_
  rw [hsl] at e1 ⊢
  exact kk (va_up S a (oO ci (fs.set k v))) H' _ (va_up_self _ _ _) (fun b hb => va_up_ne _ _ hb) (hw.set hS ⟨_, hci, t_OB.to (V := updV (vp_V fs) k v) ⟨_, e1, q2, q3, t_set q4 hap hk v⟩ (fun j _ => vp_updV_set hl v j)⟩ e2 e3 (fun q hq => by rw [List.mem_singleton.mp hq]))
/-! arrays -/
theorem nn_iald (hc : CallFix p m c cc nL s args Ts own) (hw : g_W g n S s H locs) {a N : Nat} {f : Nat → Int} (hS : S a = oI g N f) {i : Int} (hi : 0 ≤ i ∧ i < N) (hN : N < 2147483648) (d : decode cc pc = .ok (.iaload, 1))
    (kk : W p l e R s m args below meth c H locs cells slots Q (F0 m (pc + 1) ls (.int (iI (f i.toNat)) :: st))) : W p l e R s m args below meth c H locs cells slots Q (F0 m pc ls (.int (iI i) :: .ref a :: st)) := by
  obtain ⟨-, -, hat⟩ := hw.1.2.2 a _ hS
  refine va_iald (D := g.1) (ws := [(a, .inl (g.2.1 0, N, .inl (fun j => iI (f j))))]) (cl := vwCl) (tys := g_T g) hc.1 hc.2.1 hw.2.1.1 (fun k q hk => by
    have hz : k < 1 := (List.getElem?_eq_some_iff.mp hk).1
    rw [show k = 0 by omega] at hk
    cases hk
    exact hat) 0 0 rfl rfl (iI_in hi hN) d ?_
  rw [iI_nat (by omega)]
  exact kk
theorem nn_cald (hc : CallFix p m c cc nL s args Ts own) (hw : g_W g n S s H locs) {a N : Nat} {f : Nat → Int} (hS : S a = oC g N f) {i : Int} (hi : 0 ≤ i ∧ i < N) (hN : N < 2147483648) (d : decode cc pc = .ok (.caload, 1))
    (kk : W p l e R s m args below meth c H locs cells slots Q (F0 m (pc + 1) ls (.int (iI (f i.toNat)) :: st))) : W p l e R s m args below meth c H locs cells slots Q (F0 m pc ls (.int (iI i) :: .ref a :: st)) := by
  obtain ⟨-, -, hat⟩ := hw.1.2.2 a _ hS
  refine va_cald (D := g.1) (ws := [(a, .inl (g.2.1 1, N, .inl (fun j => iI (f j))))]) (cl := vwCl) (tys := g_T g) hc.1 hc.2.1 hw.2.1.1 (fun k q hk => by
    have hz : k < 1 := (List.getElem?_eq_some_iff.mp hk).1
    rw [show k = 0 by omega] at hk
    cases hk
    exact hat) 0 1 rfl rfl (iI_in hi hN) d ?_
  rw [iI_nat (by omega)]
  exact kk
theorem nn_aald (hc : CallFix p m c cc nL s args Ts own) (hw : g_W g n S s H locs) {a N t : Nat} {f : Nat → Option Nat} (hS : S a = oR g t N f) {C : String} (ht : (g_T g)[t]? = some (g.2.1 t, .object C)) {i : Int} (hi : 0 ≤ i ∧ i < N) (hN : N < 2147483648) {x : Option Nat} (hx : f i.toNat = x) (d : decode cc pc = .ok (.aaload, 1))
    (kk : W p l e R s m args below meth c H locs cells slots Q (F0 m (pc + 1) ls (va_rf x :: st))) : W p l e R s m args below meth c H locs cells slots Q (F0 m pc ls (.int (iI i) :: .ref a :: st)) := by
  obtain ⟨-, -, hat⟩ := hw.1.2.2 a _ hS
  refine va_aldq (D := g.1) (ws := [(a, .inl (g.2.1 t, N, .inr (.inr (.inr (.inr f)))))]) (cl := vwCl) (tys := g_T g) hc.1 hc.2.1 hw.2.1.1 (fun k q hk => by
    have hz : k < 1 := (List.getElem?_eq_some_iff.mp hk).1
    rw [show k = 0 by omega] at hk
    cases hk
    exact hat) 0 t rfl ht (iI_in hi hN) d ?_
  rw [iI_nat (by omega), hx]
  exact kk
theorem nn_iast (hc : CallFix p m c cc nL s args Ts own) (hw : g_W g n S s H locs) {a N : Nat} {f : Nat → Int} (hS : S a = oI g N f) {i x : Int} (hi : 0 ≤ i ∧ i < N) (hN : N < 2147483648) (d : decode cc pc = .ok (.iastore, 1))
    (kk : ∀ (S1 : Nat → gE) (H1 : Heap) (locs1 : List Loc), S1 a = oI g N (va_up f i.toNat x) → (∀ b, b ≠ a → S1 b = S b) → g_W g n S1 s H1 locs1 → W p l e R s m args below meth c H1 locs1 cells slots Q (F0 m (pc + 1) ls st)) : W p l e R s m args below meth c H locs cells slots Q (F0 m pc ls (.int (iI x) :: .int (iI i) :: .ref a :: st)) := by
  obtain ⟨-, -, hat⟩ := hw.1.2.2 a _ hS
  refine W.iast hc.1 hc.2.1 hat ((hw.2.1.1.2 0 _ rfl).1 N (fun j => .int (iI (f j)))) (fun q => by cases q) (by show ¬ (iI i < 0 ∨ (arrV _ _ _).slots.size ≤ _); rw [arrV_size]; exact iI_in hi hN) rfl rfl d fun H1 e1 z oq => ?_
  refine kk (va_up S a (oI g N (va_up f i.toNat x))) H1 _ (va_up_self _ _ _) (fun b hb => va_up_ne _ _ hb) (hw.set hS ?_ z oq (fun q hq => by rw [List.mem_singleton.mp hq]))
  show H1[a]? = some (vp_cell _ _)
  rw [e1, vp_cell_i, vp_cell_i, arrV_store, iI_nat (by omega)]
  congr 2
  funext q
  by_cases hq : q = i.toNat
  · subst hq
    simp [updV, va_up]
  · simp [updV, va_up, hq]
theorem nn_cast (hc : CallFix p m c cc nL s args Ts own) (hw : g_W g n S s H locs) {a N : Nat} {f : Nat → Int} (hS : S a = oC g N f) {i x : Int} (hi : 0 ≤ i ∧ i < N) (hN : N < 2147483648) (hx : vp_nar .char (iI x) = iI x) (d : decode cc pc = .ok (.castore, 1))
    (kk : ∀ (S1 : Nat → gE) (H1 : Heap) (locs1 : List Loc), S1 a = oC g N (va_up f i.toNat x) → (∀ b, b ≠ a → S1 b = S b) → g_W g n S1 s H1 locs1 → W p l e R s m args below meth c H1 locs1 cells slots Q (F0 m (pc + 1) ls st)) : W p l e R s m args below meth c H locs cells slots Q (F0 m pc ls (.int (iI x) :: .int (iI i) :: .ref a :: st)) := by
  obtain ⟨-, -, hat⟩ := hw.1.2.2 a _ hS
  refine W.cast hc.1 hc.2.1 hat ((hw.2.1.1.2 1 _ rfl).1 N (fun j => .int (iI (f j)))) (fun q => by cases q) (by show ¬ (iI i < 0 ∨ (arrV _ _ _).slots.size ≤ _); rw [arrV_size]; exact iI_in hi hN) rfl rfl d fun H1 e1 z oq => ?_
  refine kk (va_up S a (oC g N (va_up f i.toNat x))) H1 _ (va_up_self _ _ _) (fun b hb => va_up_ne _ _ hb) (hw.set hS ?_ z oq (fun q hq => by rw [List.mem_singleton.mp hq]))
  show H1[a]? = some (vp_cell _ _)
  have hx' : narrow .char (.int (iI x)) = .int (iI x) := by
    have h := hx
    unfold vp_nar at h
    simpa [narrow] using h
  rw [e1, vp_cell_i, vp_cell_i, arrV_store, iI_nat (by omega)]
  congr 2
  funext q
  by_cases hq : q = i.toNat
  · subst hq
    simp [updV, va_up, hx']
  · simp [updV, va_up, hq]
theorem nn_aast (hc : CallFix p m c cc nL s args Ts own) (hw : g_W g n S s H locs) {a N t : Nat} {f : Nat → Option Nat} (hS : S a = oR g t N f) {r : vw_C} {v ci : Nat} {vs : List Value} (ht : (g_T g)[t]? = some (g.2.1 t, .object r.1)) (hv : S v = oO ci vs) (hci : vwCl[ci]? = some r) {i : Int} (hi : 0 ≤ i ∧ i < N) (hN : N < 2147483648) (d : decode cc pc = .ok (.aastore, 1))
    (kk : ∀ (S1 : Nat → gE) (H1 : Heap) (locs1 : List Loc), S1 a = oR g t N (va_up f i.toNat (some v)) → (∀ b, b ≠ a → S1 b = S b) → g_W g n S1 s H1 locs1 → W p l e R s m args below meth c H1 locs1 cells slots Q (F0 m (pc + 1) ls st)) : W p l e R s m args below meth c H locs cells slots Q (F0 m pc ls (.ref v :: .int (iI i) :: .ref a :: st)) := by
  obtain ⟨-, -, hat⟩ := hw.1.2.2 a _ hS
  obtain ⟨-, -, hav⟩ := hw.1.2.2 v _ hv
  have hin := iI_in hi hN
  have hlt : (iI i).toNatClampNeg < N := Nat.not_le.mp fun q => hin (Or.inr q)
  have h0 : ¬ iI i < 0 := fun q => hin (Or.inl q)
  have hK := hw.2.1.1
  obtain ⟨r', hr', cellV, g1, g2, g3, -⟩ := hav
  have hcls := (hK.1 ci r hci).2
  obtain ⟨kA, comp, k1, k2, k3, -⟩ := (hK.2 t _ ht).2
  have hcomp : comp = g.1.1 ci := Option.some.inj (k3.symm.trans hcls.1)
  subst hcomp
  obtain ⟨kC, hkC, -⟩ := hcls.2
  refine W.aast hc.1 hc.2.1 hat (fun q h => by cases h) (fun h => by cases h) k1 k2 rfl hkC ⟨h0, by show _ < (arrV _ _ _).slots.size; rw [arrV_size]; exact hlt⟩ g1 (fun q h => by rw [g3] at h; cases h) (by rw [g2]; exact hkC) (by rw [g2]; exact va_assign hcls) rfl rfl d fun H1 e1 z oq => ?_
  refine kk (va_up S a (oR g t N (va_up f i.toNat (some v)))) H1 _ (va_up_self _ _ _) (fun b hb => va_up_ne _ _ hb) (hw.set hS ?_ z oq (fun q hq => by rw [List.mem_singleton.mp hq]))
  show H1[a]? = some (vp_cell _ _)
  rw [e1, vp_cell_q, vp_cell_q, arrV_store, iI_nat (by omega)]
  congr 2
  funext q
  by_cases hq : q = i.toNat
  · subst hq
    simp [updV, va_up, va_rf]
  · simp [updV, va_up, hq]
end NNR
