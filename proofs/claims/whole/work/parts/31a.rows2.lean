section NNR2
variable {p : Program} {l : Launch} {e : Env} {R : Room} {s : State} {m : MethodId} {args : Array Value} {below : List Frame} {meth : Method} {c : Code} {H : Heap} {locs : List Loc} {cells slots : Nat} {Q : State → Prop}
variable {cc : ByteArray} {pc nL : Nat} {ls : Array Slot} {st : List Value} {Ts : List Cond} {own : String}
theorem i2c_I {a : Int} (ha : 0 ≤ a ∧ a ≤ 65535) : ((iI a).toUInt32 % 65536).toInt32 = iI a := by
  have h := ch_nw ha
  have e : narrow .char (.int (iI a)) = .int (((iI a).toUInt32 % 65536).toInt32) := rfl
  rw [e] at h
  injection h
theorem nn_i2c (hc : CallFix p m c cc nL s args Ts own) {a : Int} (d : decode cc pc = .ok (.i2c, 1)) (ha : 0 ≤ a ∧ a ≤ 65535)
    (k : W p l e R s m args below meth c H locs cells slots Q (F0 m (pc + 1) ls (.int (iI a) :: st))) : W p l e R s m args below meth c H locs cells slots Q (F0 m pc ls (.int (iI a) :: st)) := lv_i2c hc.1 hc.2.1 d (i2c_I ha) k
end NNR2
/-- the changes, one more behind -/
def adK (kp : Nat → Option Nat) (wZ : Int) (q : Nat) : Nat → Option Nat := if wZ = 6 then va_up (shf kp 6) 5 (some q) else va_up kp wZ.toNat (some q)
