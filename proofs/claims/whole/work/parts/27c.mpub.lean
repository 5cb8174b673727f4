theorem mS_bring {nw rs : Nat → Int} {rows : rT} {h : Nat} {v : Int} (hS : mS nw rs rows) (hh : h < 8) : mS (va_up nw h v) (va_up rs h v) rows := by
  obtain ⟨h1, h2, h3⟩ := hS
  refine ⟨fun i hi => ?_, by rw [va_up_ne _ _ (by omega)]; exact h2, fun c hc => ?_⟩
  · unfold va_up; split
    · rfl
    · exact h1 i hi
  · obtain ⟨k1, k2, k3⟩ := h3 c hc
    exact ⟨by rw [va_up_ne _ _ (by omega)]; exact k1, by rw [va_up_ne _ _ (by omega)]; exact k2, fun i hi => by rw [va_up_ne _ _ (by omega)]; exact k3 i hi⟩
def aIts (hi : Int) (G : Int × Int × Int) (what : Int) : Int := if what = 0 then G.1 else if what = 1 then G.2.1 else if hi ≤ G.2.2 then 1 else 0
theorem nxR_r {nH : Nat} {ln br : Nat → Int} {hi lp wi hp bk how : Int} {rs : Nat → Int} {rows : rT} (hln : ∀ i : Nat, i < nH → 20 ≤ ln i ∧ ln i ≤ 60) : nxR nH ln br hi lp wi hp bk how rs rows = -4 ∨ (20 ≤ nxR nH ln br hi lp wi hp bk how rs rows ∧ nxR nH ln br hi lp wi hp bk how rs rows ≤ 60) := by
  by_cases e : nxR nH ln br hi lp wi hp bk how rs rows = -4
  · exact Or.inl e
  · obtain ⟨sl, -, h, -⟩ := nxR_some hln e
    exact Or.inr h
