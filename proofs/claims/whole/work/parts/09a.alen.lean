section ALENR
variable {p : Program} {l : Launch} {e : Env} {R : Room} {s : State} {m : MethodId} {args : Array Value} {below : List Frame} {meth : Method} {c : Code} {H : Heap} {locs : List Loc} {cells slots : Nat} {Q : State → Prop}
variable {cc : ByteArray} {pc nL : Nat} {ls : Array Slot} {st : List Value} {Ts : List Cond} {own : String} {g : gG} {n : Nat} {S : Nat → gE}
theorem nn_alen (hc : CallFix p m c cc nL s args Ts own) (hw : g_W g n S s H locs) {a N : Nat} {f : Nat → Int} (hS : S a = oI g N f) (d : decode cc pc = .ok (.arraylength, 1))
    (kk : W p l e R s m args below meth c H locs cells slots Q (F0 m (pc + 1) ls (.int (iI (N : Int)) :: st))) : W p l e R s m args below meth c H locs cells slots Q (F0 m pc ls (.ref a :: st)) := by
  obtain ⟨-, -, hat⟩ := hw.1.2.2 a _ hS
  exact va_alen (D := g.1) (ws := [(a, .inl (g.2.1 0, N, .inl (fun j => iI (f j))))]) (cl := vwCl) (tys := g_T g) hc.1 hc.2.1 hw.2.1.1 (fun k q hk => by
    have hz : k < 1 := (List.getElem?_eq_some_iff.mp hk).1
    rw [show k = 0 by omega] at hk
    cases hk
    exact hat) 0 0 rfl rfl (v := iI (N : Int)) (by unfold iI; rw [Int32.ofInt_eq_ofNat]) d kk
end ALENR
