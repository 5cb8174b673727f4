theorem g_Cs.mono {l : Launch} {y : MethodName} {ws : List Cond} {rm : Room} {g : gG} {av : List Value} {n : Nat} {S : Nat → gE} {Qp Qp' : Option Value → Nat → (Nat → gE) → Prop} {mc ms : Nat} (h : g_Cs l y ws rm g av n S Qp mc ms) (hm : ∀ v n1 S1, Qp v n1 S1 → Qp' v n1 S1) : g_Cs l y ws rm g av n S Qp' mc ms := by
  unfold g_Cs Met at h ⊢
  exact MetFree.mono h (fun _ _ hp => hp) (fun _ _ _ _ _ hk => hk) (fun a st o t hp hq => by
    obtain ⟨⟨v, n1, S1, h1, h2, h3⟩, h4⟩ := hq
    exact ⟨⟨v, n1, S1, h1, hm v n1 S1 h2, h3⟩, h4⟩)
/-- the model's state with the slates acc in row c: the heaps less, the rows below as they were -/
def mRow (nw kw : Nat → Int) (c : Nat) (l : Int) (acc : sL) : Prop := (∀ i : Nat, i < 8 → kw i = nw i + (-1) * cntH acc i) ∧ (∀ i : Nat, 8 ≤ i → i < 9 + 62 * c → kw i = nw i) ∧ rowIs kw c l acc
theorem mRow_0 {nw : Nat → Int} {c : Nat} {l : Int} {r : Nat} (hr : r = 9 + 62 * c) : mRow nw (va_up (va_up nw r l) (r + 1) 0) c l [] := by
  subst hr
  refine ⟨fun i hi => ?_, fun i h1 h2 => ?_, ?_, ?_, fun i hi => absurd hi (Nat.not_lt_zero i)⟩
  · rw [va_up_ne _ _ (by omega), va_up_ne _ _ (by omega)]; simp [cntH]
  · rw [va_up_ne _ _ (by omega), va_up_ne _ _ (by omega)]
  · rw [va_up_ne _ _ (by omega), va_up_self]
  · rw [va_up_self]; rfl
theorem mRow_step {nw kw : Nat → Int} {c : Nat} {l : Int} {acc : sL} {x : Nat × Int} {r k : Nat} {m : Int} (hr : r = 9 + 62 * c) (hk : k = acc.length) (hx : x.1 < 8) (hm : m = acc.length + 1) (h : mRow nw kw c l acc) :
    mRow nw (va_up (va_up (va_up kw x.1 (kw x.1 - 1)) (r + 2 + k) (64 * (x.1 : Int) + x.2)) (r + 1) m) c l (acc ++ [x]) ∧ ∀ i : Nat, i < 8 → va_up (va_up (va_up kw x.1 (kw x.1 - 1)) (r + 2 + k) (64 * (x.1 : Int) + x.2)) (r + 1) m i = va_up kw x.1 (kw x.1 - 1) i := by
  subst hr
  obtain ⟨h1, h2, h3, h4, h5⟩ := h
  have hcn : ∀ i : Nat, cntH (acc ++ [x]) i = cntH acc i + (if x.1 = i then 1 else 0) := fun i => by rw [cntH_app]; simp [cntH]
  refine ⟨⟨fun i hi => ?_, fun i g1 g2 => ?_, ?_, ?_, fun i hi => ?_⟩, fun i hi => ?_⟩
  · rw [va_up_ne _ _ (by omega), va_up_ne _ _ (by omega), hcn]
    by_cases e : i = x.1
    · rw [e, va_up_self, if_pos rfl, h1 x.1 hx]; omega
    · rw [va_up_ne _ _ e, if_neg (fun q => e q.symm), h1 i hi]; omega
  · rw [va_up_ne _ _ (by omega), va_up_ne _ _ (by omega), va_up_ne _ _ (by omega)]; exact h2 i g1 g2
  · rw [va_up_ne _ _ (by omega), va_up_ne _ _ (by omega), va_up_ne _ _ (by omega)]; exact h3
  · rw [va_up_self, List.length_append, hm]; simp
  · rw [List.length_append] at hi
    simp only [List.length_cons, List.length_nil] at hi
    rw [va_up_ne _ _ (by omega)]
    by_cases e : i = k
    · subst e
      rw [va_up_self, hk]
      have e1 := slH_at acc x.1 x.2
      have e2 := slV_at acc x.1 x.2
      rw [show (x.1, x.2) = x from rfl] at e1 e2
      rw [e1, e2]
    · rw [va_up_ne _ _ (by omega), va_up_ne _ _ (by omega), slH_lt (by omega), slV_lt (by omega)]
      exact h5 i (by omega)
  · rw [va_up_ne _ _ (by omega), va_up_ne _ _ (by omega)]
