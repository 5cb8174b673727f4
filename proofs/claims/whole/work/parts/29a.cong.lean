/-! ===== words that look at the heaps below nH alone ===== -/
theorem g_Cs.wide {l : Launch} {y : MethodName} {ws : List Cond} {rm rm' : Room} {g : gG} {av : List Value} {n : Nat} {S : Nat → gE} {Qp : Option Value → Nat → (Nat → gE) → Prop} {mc ms : Nat} (h : g_Cs l y ws rm g av n S Qp mc ms) (hf : rm.frames ≤ rm'.frames) (hl : rm.locals ≤ rm'.locals) (hc : rm.cells ≤ rm'.cells) (hs : rm.slots ≤ rm'.slots) : g_Cs l y ws rm' g av n S Qp mc ms := by
  unfold g_Cs Met at h ⊢
  intro p e ha hcs hk s m args below hfr happ hP hK
  obtain ⟨a1, a2, a3, a4, a5, a6, a7, a8⟩ := (Spec.appliesLoose_iff hfr).mp happ
  refine h p e ha hcs hk s m args below hfr ((Spec.appliesLoose_iff hfr).mpr ⟨a1, a2, a3, a4, a5, a6, ?_, a8⟩) hP hK
  have b7 : s.hasRoom e.platform rm' = true := a7
  show s.hasRoom e.platform rm = true
  simp only [State.hasRoom, Bool.and_eq_true, decide_eq_true_eq] at b7 ⊢
  obtain ⟨⟨⟨⟨y, a, b, c, d, e⟩, f⟩, g⟩, i⟩ := b7
  exact ⟨⟨⟨⟨by omega, by omega, by omega, by omega, by omega, e⟩, by omega⟩, by omega⟩, i⟩
def sam (nH : Nat) (ln br ln' br' : Nat → Int) : Prop := ∀ i : Nat, i < nH → ln i = ln' i ∧ br i = br' i
section LB
variable {nH : Nat} {ln br ln' br' : Nat → Int} {hi lp wi hp bk how : Int}
theorem pj_lb {rs : Nat → Int} {L : Int} {ed : Nat → Int} {J : Nat} {p : Int} (h : sam nH ln br ln' br') : pj nH ln br rs L ed bk J p = pj nH ln' br' rs L ed bk J p := by
  have e1 : fstI (pB ln br rs L ed bk J p) nH = fstI (pB ln' br' rs L ed bk J p) nH := fstI_congr (fun i hi => by simp only [pB, srv, (h i hi).1, (h i hi).2])
  have e2 : fstI (srv ln rs L) nH = fstI (srv ln' rs L) nH := fstI_congr (fun i hi => by simp only [srv, (h i hi).1])
  have r1 := fstI_r (pB ln' br' rs L ed bk J p) nH
  have r2 := fstI_r (srv ln' rs L) nH
  unfold pj
  rw [e1, e2]
  by_cases c1 : fstI (pB ln' br' rs L ed bk J p) nH = -4
  · rw [if_pos c1, if_pos c1]
    by_cases c2 : fstI (srv ln' rs L) nH = -4
    · rw [if_pos c2, if_pos c2]
    · rw [if_neg c2, if_neg c2, (h _ (show (fstI (srv ln' rs L) nH).toNat < nH by omega)).2]
  · rw [if_neg c1, if_neg c1, (h _ (show (fstI (pB ln' br' rs L ed bk J p) nH).toNat < nH by omega)).2]
theorem layG_lb {L R : Int} {ed : Nat → Int} {J : Nat} (h : sam nH ln br ln' br') : ∀ (f : Nat) (rs : Nat → Int) (p : Int), layG nH ln br L R ed bk J f rs p = layG nH ln' br' L R ed bk J f rs p
  | 0, _, _ => rfl
  | f + 1, rs, p => by
    have e1 : lstI (pE ln br rs L R p) nH = lstI (pE ln' br' rs L R p) nH := lstI_congr (fun i hi => by simp only [pE, srv, (h i hi).1, (h i hi).2])
    rw [layG, layG, e1, pj_lb h]
    by_cases h1 : lstI (pE ln' br' rs L R p) nH = -4
    · rw [if_pos h1, if_pos h1]
      cases hp : pj nH ln' br' rs L ed bk J p with
      | none => rfl
      | some x =>
        show Option.map _ _ = Option.map _ _
        rw [layG_lb h f (va_up rs x.1 (rs x.1 - 1)) (p + x.2)]
    · rw [if_neg h1, if_neg h1]
theorem layC_lb {L : Int} {lv : Nat → Int} {hd : Int} {bs : sL} (h : sam nH ln br ln' br') : layC nH ln br wi hp bk L lv hd bs = layC nH ln' br' wi hp bk L lv hd bs := layG_lb h 60 lv 0
theorem wst_lb {L X : Int} (h : sam nH ln br ln' br') : ∀ {sl : sL}, okS nH ln br X sl → wst br L sl = wst br' L sl
  | [], _ => rfl
  | x :: r, ho => by
    rw [wst, wst, wst_lb h (fun z hz => ho z (List.mem_cons_of_mem _ hz)), (h x.1 (ho x List.mem_cons_self).1).2]
theorem cuts_lb {X : Int} (h : sam nH ln br ln' br') : ∀ {sl : sL}, okS nH ln br X sl → cuts br sl = cuts br' sl
  | [], _ => rfl
  | x :: r, ho => by
    rw [cuts, cuts, cuts_lb h (fun z hz => ho z (List.mem_cons_of_mem _ hz)), (h x.1 (ho x List.mem_cons_self).1).2]
theorem okS_lb {X : Int} {sl : sL} (h : sam nH ln br ln' br') (ho : okS nH ln br X sl) : okS nH ln' br' X sl := fun x hx => by
  have h1 := ho x hx
  have h2 := h x.1 h1.1
  rw [← h2.1, ← h2.2]; exact h1
theorem sam.symm (h : sam nH ln br ln' br') : sam nH ln' br' ln br := fun i hi => ⟨(h i hi).1.symm, (h i hi).2.symm⟩
theorem goodR_lb {rs : Nat → Int} {rows : rT} (h : sam nH ln br ln' br') (hg : goodR nH ln br rs rows) : goodR nH ln' br' rs rows := ⟨hg.1, fun c hc => ⟨okS_lb h (hg.2.1 c hc).1, (hg.2.1 c hc).2⟩, hg.2.2⟩
theorem goodH_lb {hist : List sT} (h : sam nH ln br ln' br') (hg : goodH nH ln br hist) : goodH nH ln' br' hist := ⟨hg.1, fun k hk => goodR_lb h (hg.2 k hk)⟩
theorem chG_lb {lv : Nat → Int} {bL hd : Int} {bs : sL} (hbr : ∀ i : Nat, i < nH → 1 ≤ br i) (h : sam nH ln br ln' br') : ∀ n : Nat, n ≤ nH → chG nH ln br lp wi hp bk how lv bL hd bs n = chG nH ln' br' lp wi hp bk how lv bL hd bs n
  | 0, _ => rfl
  | n + 1, hn => by
    have e0 := (h n hn).1
    have e1 : isN ln bL n = isN ln' bL n := by
      unfold isN
      rw [e0]
      by_cases c : n = 0
      · subst c; simp
      · rw [(h (n - 1) (by omega)).1]
    rw [chG, chG, chG_lb hbr h n (by omega), e1, e0]
    by_cases c : isN ln' bL n = true
    · rw [if_pos c, if_pos c]
      have e2 := layC_lb (wi := wi) (hp := hp) (bk := bk) (L := ln' n) (lv := lv) (hd := hd) (bs := bs) h
      cases hz : layC nH ln br wi hp bk (ln' n) lv hd bs with
      | none => rw [← e2, hz]
      | some sl =>
        rw [← e2, hz]
        show (if _ then _ else _) = (if _ then _ else _)
        rw [wst_lb h (layC_good hbr hz).1]
    · rw [if_neg c, if_neg c]
theorem chL_lb {lv : Nat → Int} {bL hd : Int} {bs : sL} (hbr : ∀ i : Nat, i < nH → 1 ≤ br i) (h : sam nH ln br ln' br') : chL nH ln br lp wi hp bk how lv bL hd bs = chL nH ln' br' lp wi hp bk how lv bL hd bs := by
  unfold chL; rw [chG_lb hbr h nH (Nat.le_refl _)]
theorem goG_lb (hbr : ∀ i : Nat, i < nH → 1 ≤ br i) (h : sam nH ln br ln' br') : ∀ (f : Nat) (lv : Nat → Int) (bL hd : Int) (bs : sL), goG nH ln br hi lp wi hp bk how f lv bL hd bs = goG nH ln' br' hi lp wi hp bk how f lv bL hd bs
  | 0, _, _, _, _ => rfl
  | f + 1, lv, bL, hd, bs => by
    rw [goG, goG, chL_lb hbr h]
    by_cases h1 : hi ≤ hd
    · rw [if_pos h1, if_pos h1]
    · rw [if_neg h1, if_neg h1]
      by_cases h2 : chL nH ln' br' lp wi hp bk how lv bL hd bs = -4
      · rw [if_pos h2, if_pos h2]
      · rw [if_neg h2, if_neg h2]
        have e2 := layC_lb (wi := wi) (hp := hp) (bk := bk) (L := chL nH ln' br' lp wi hp bk how lv bL hd bs) (lv := lv) (hd := hd) (bs := bs) h
        cases hz : layC nH ln br wi hp bk (chL nH ln' br' lp wi hp bk how lv bL hd bs) lv hd bs with
        | none => rw [← e2, hz]
        | some sl =>
          rw [← e2, hz]
          have e := goG_lb hbr h f (fun q => lv q + (-1) * cntH sl q) (chL nH ln' br' lp wi hp bk how lv bL hd bs) (hd + (chL nH ln' br' lp wi hp bk how lv bL hd bs - lp) / 2) sl
          simp only [e, wst_lb h (layC_good hbr hz).1]
theorem layR_lb {rs : Nat → Int} {rows : rT} {x : Int} (h : sam nH ln br ln' br') : layR nH ln br hi lp wi hp bk rs rows x = layR nH ln' br' hi lp wi hp bk rs rows x := by
  unfold layR; rw [layC_lb h]
theorem nxR_lb {rs : Nat → Int} {rows : rT} (hbr : ∀ i : Nat, i < nH → 1 ≤ br i) (h : sam nH ln br ln' br') : nxR nH ln br hi lp wi hp bk how rs rows = nxR nH ln' br' hi lp wi hp bk how rs rows := by
  unfold nxR; rw [chL_lb hbr h]
theorem goR_lb {rs : Nat → Int} {rows : rT} (hbr : ∀ i : Nat, i < nH → 1 ≤ br i) (h : sam nH ln br ln' br') : goR nH ln br hi lp wi hp bk how rs rows = goR nH ln' br' hi lp wi hp bk how rs rows := by
  unfold goR; rw [goG_lb hbr h]
theorem wstR_lb {rs : Nat → Int} {rows : rT} (h : sam nH ln br ln' br') (hg : goodR nH ln br rs rows) : wstR br rows = wstR br' rows := sumI_congr (fun c hc => wst_lb h (hg.2.1 c hc).1)
end LB
