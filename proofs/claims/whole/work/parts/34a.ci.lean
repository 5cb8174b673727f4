/-! ===== the class's object ===== -/
abbrev jT : Type := (Nat → Int) × (Nat → Int) × (Nat → Int)
abbrev aT : Type := Nat × (Nat → Int) × pT × (Nat → Int) × rT × List sT
def j0 (J : jT) : pT := (0, J.1, J.2.1, J.2.2, 100, 120, 6, 4, 0)
def bT (g : gG) (S : Nat → gE) (x tz : Nat) (tx : Nat → Int) : Prop := ∃ (ta : Int) (nb : Nat → Int), S (x + 1) = oO 7 [.ref (x + 2), .ref (x + 3), .int (iI (tz : Int)), .int (iI ta)] ∧ S (x + 2) = oC g 200 tx ∧ S (x + 3) = oI g 3 nb ∧ ∀ i : Nat, i < 3 → -1000 ≤ nb i ∧ nb i ≤ 1000
def bP (g : gG) (S : Nat → gE) (x : Nat) (P : pT) : Prop := S (x + 4) = oO 5 [.ref (x + 5), .ref (x + 6), .ref (x + 7), .int (iI P.1), .int (iI P.2.2.2.2.1), .int (iI P.2.2.2.2.2.1), .int (iI P.2.2.2.2.2.2.1), .int (iI P.2.2.2.2.2.2.2.1), .int (iI P.2.2.2.2.2.2.2.2)] ∧ S (x + 5) = oI g 8 P.2.1 ∧ S (x + 6) = oI g 8 P.2.2.1 ∧ S (x + 7) = oI g 8 P.2.2.2.1
def bJ (g : gG) (S : Nat → gE) (x : Nat) (J : jT) : Prop := ∃ (j1 j2 j3 j4 j5 j6 : Int), S (x + 8) = oO 5 [.ref (x + 9), .ref (x + 10), .ref (x + 11), .int (iI j1), .int (iI j2), .int (iI j3), .int (iI j4), .int (iI j5), .int (iI j6)] ∧ S (x + 9) = oI g 8 J.1 ∧ S (x + 10) = oI g 8 J.2.1 ∧ S (x + 11) = oI g 8 J.2.2
def bL (g : gG) (S : Nat → gE) (x : Nat) : Prop := S (x + 12) = oO 4 [.ref (x + 4), .ref (x + 13)] ∧ ∃ f : Nat → Int, S (x + 13) = oI g 8 f
def bR (g : gG) (S : Nat → gE) (x : Nat) (zR : Int) (lv : Nat → Int) (cs : Nat → Option Nat) : Prop := S (x + 14) = oO 6 [.ref (x + 4), .ref (x + 15), .ref (x + 16), .ref (x + 17), .int (iI zR)] ∧ S (x + 15) = oI g 8 lv ∧ S (x + 16) = oR g 2 20 cs
def bA (g : gG) (S : Nat → gE) (x : Nat) : Prop := (∃ a b c : Int, S (x + 20) = oO 0 [.ref (x + 4), .ref (x + 12), .ref (x + 14), .ref (x + 21), .ref (x + 22), .ref (x + 25), .ref (x + 28), .int (iI a), .int (iI b), .int (iI c)]) ∧ (∃ f : Nat → Int, S (x + 21) = oI g 8 f) ∧ gbc g S (x + 22) ∧ gbc g S (x + 25) ∧ gbc g S (x + 28)
def bW (g : gG) (S : Nat → gE) (x : Nat) (wZ : Int) (kp : Nat → Option Nat) : Prop := S (x + 31) = oO 2 [.ref (x + 32), .int (iI wZ)] ∧ S (x + 32) = oR g 3 6 kp
def okC (x n tr q : Nat) : Prop := (q = x + 33 ∨ (x + 47 ≤ q ∧ q + 3 ≤ n)) ∧ (q + 3 ≤ tr ∨ tr + 3 ≤ q)
def okD (x n tr a : Nat) : Prop := (x + 47 ≤ a ∧ a < n) ∧ (a < tr ∨ tr + 3 ≤ a)
def crP (g : gG) (S : Nat → gE) (q : Nat) (P : pT) (L F : Int) (sl : sL) : Prop := crs g S q L F ((L - P.2.2.2.2.2.2.1) / 2) (rmF P.2.2.2.2.2.1 P.2.2.2.2.2.2.2.2 F) P.2.2.1 sl
def CQ (g : gG) (S : Nat → gE) (x n tr : Nat) (P : pT) (rows : rT) (cs : Nat → Option Nat) (ca : Nat → Nat) : Prop := ∀ c : Nat, c < rows.length → cs c = some (ca c) ∧ okC x n tr (ca c) ∧ crP g S (ca c) P (rL rows c) (hdR P.2.2.2.2.2.2.1 rows c) (rS rows c)
def CHk (g : gG) (S : Nat → gE) (x n tr : Nat) (P : pT) (a : Nat) (r : Nat → Int) (w : rT) (r' : Nat → Int) (w' : rT) : Prop :=
  (∃ (co : Nat) (hn sn : Int) (y : Int) (sl : sL), S a = oO 1 [.int (iI 0), .ref co, .int (iI hn), .int (iI sn)] ∧ w' = w ++ [(y, sl)] ∧ ∀ i : Nat, (i : Int) < P.1 → r' i = r i + (-1) * cntH sl i) ∨
  (∃ (q : Nat) (hn sn : Int) (y : Int) (sl : sL), S a = oO 1 [.int (iI 1), .ref q, .int (iI hn), .int (iI sn)] ∧ okC x n tr q ∧ w = w' ++ [(y, sl)] ∧ (∀ i : Nat, (i : Int) < P.1 → r i = r' i + (-1) * cntH sl i) ∧ crP g S q P y (hdR P.2.2.2.2.2.2.1 w' w'.length) sl) ∨
  (∃ (cu h : Nat) (sn : Int), S a = oO 1 [.int (iI 2), .ref cu, .int (iI (h : Int)), .int (iI sn)] ∧ (h : Int) < P.1 ∧ w' = w ∧ ∀ i : Nat, (i : Int) < P.1 → r' i = va_up r h (r h + sn) i)
def CH (g : gG) (S : Nat → gE) (x n tr : Nat) (P : pT) (F : List sT) (kp : Nat → Option Nat) : Prop := ∀ k : Nat, k + 1 < F.length → ∃ a : Nat, kp k = some a ∧ okD x n tr a ∧ CHk g S x n tr P a (hsR F k) (hsW F k) (hsR F (k + 1)) (hsW F (k + 1))
def CI (g : gG) (S : Nat → gE) (n x tz : Nat) (tx : Nat → Int) (P : pT) (J : jT) (rs : Nat → Int) (rows : rT) (hist : List sT) : Prop :=
  ∃ (tr : Nat) (lv : Nat → Int) (cs : Nat → Option Nat) (ca : Nat → Nat) (kp : Nat → Option Nat),
    S x = oO 8 [.ref (x + 1), .ref (x + 4), .ref (x + 8), .ref (x + 12), .ref (x + 14), .ref (x + 20), .ref (x + 31), .ref tr] ∧
    bT g S x tz tx ∧ bP g S x P ∧ bJ g S x J ∧ bL g S x ∧ bR g S x rows.length lv cs ∧ crs g S (x + 17) 60 0 0 0 P.2.2.1 [] ∧ bA g S x ∧ bW g S x hist.length kp ∧ gbc g S tr ∧
    ((tr = x + 33 ∨ x + 47 ≤ tr) ∧ tr + 3 ≤ n ∧ x + 47 ≤ n) ∧ (∀ i : Nat, (i : Int) < P.1 → lv i = rs i) ∧ CQ g S x n tr P rows cs ca ∧ CH g S x n tr P (hist ++ [(rs, rows)]) kp
section CIK
variable {g : gG} {S S1 : Nat → gE} {x n n1 tr tr1 tz : Nat} {tx : Nat → Int} {P : pT} {J : jT} {rs lv : Nat → Int} {rows : rT} {hist F : List sT} {cs kp : Nat → Option Nat} {ca : Nat → Nat}
theorem bT.kept (h : bT g S x tz tx) (e : ∀ bb : Nat, x + 1 ≤ bb → bb < x + 4 → S1 bb = S bb) : bT g S1 x tz tx := by
  obtain ⟨ta, nb, h0, h1, h2, h3⟩ := h
  exact ⟨ta, nb, (e _ (by omega) (by omega)).trans h0, (e _ (by omega) (by omega)).trans h1, (e _ (by omega) (by omega)).trans h2, h3⟩
theorem bP.kept (h : bP g S x P) (e : ∀ bb : Nat, x + 4 ≤ bb → bb < x + 8 → S1 bb = S bb) : bP g S1 x P := by
  obtain ⟨h0, h1, h2, h3⟩ := h
  exact ⟨(e _ (by omega) (by omega)).trans h0, (e _ (by omega) (by omega)).trans h1, (e _ (by omega) (by omega)).trans h2, (e _ (by omega) (by omega)).trans h3⟩
theorem bJ.kept (h : bJ g S x J) (e : ∀ bb : Nat, x + 8 ≤ bb → bb < x + 12 → S1 bb = S bb) : bJ g S1 x J := by
  obtain ⟨j1, j2, j3, j4, j5, j6, h0, h1, h2, h3⟩ := h
  exact ⟨j1, j2, j3, j4, j5, j6, (e _ (by omega) (by omega)).trans h0, (e _ (by omega) (by omega)).trans h1, (e _ (by omega) (by omega)).trans h2, (e _ (by omega) (by omega)).trans h3⟩
theorem bJ_of (h : gbP g S (x + 8)) : ∃ J : jT, bJ g S x J := by
  obtain ⟨i1, i2, i3, i4, i5, i6, f1, f2, f3, h0, h1, h2, h3⟩ := h
  exact ⟨(f1, f2, f3), i1, i2, i3, i4, i5, i6, h0, h1, h2, h3⟩
theorem bL.kept (h : bL g S x) (e : ∀ bb : Nat, x + 12 ≤ bb → bb < x + 14 → S1 bb = S bb) : bL g S1 x := by
  obtain ⟨h0, f, h1⟩ := h
  exact ⟨(e _ (by omega) (by omega)).trans h0, f, (e _ (by omega) (by omega)).trans h1⟩
theorem bR.kept {zR : Int} (h : bR g S x zR lv cs) (e : ∀ bb : Nat, x + 14 ≤ bb → bb < x + 17 → S1 bb = S bb) : bR g S1 x zR lv cs := by
  obtain ⟨h0, h1, h2⟩ := h
  exact ⟨(e _ (by omega) (by omega)).trans h0, (e _ (by omega) (by omega)).trans h1, (e _ (by omega) (by omega)).trans h2⟩
theorem bW.kept {wZ : Int} (h : bW g S x wZ kp) (e : ∀ bb : Nat, x + 31 ≤ bb → bb < x + 33 → S1 bb = S bb) : bW g S1 x wZ kp := by
  obtain ⟨h0, h1⟩ := h
  exact ⟨(e _ (by omega) (by omega)).trans h0, (e _ (by omega) (by omega)).trans h1⟩
theorem bA.kept (h : bA g S x) (e : ∀ bb : Nat, x + 20 ≤ bb → bb < x + 31 → S1 bb = S bb) : bA g S1 x := by
  obtain ⟨⟨a, b, c, h0⟩, ⟨f, h1⟩, h2, h3, h4⟩ := h
  exact ⟨⟨a, b, c, (e _ (by omega) (by omega)).trans h0⟩, ⟨f, (e _ (by omega) (by omega)).trans h1⟩, h2.kept (e _ (by omega) (by omega)) (e _ (by omega) (by omega)) (e _ (by omega) (by omega)), h3.kept (e _ (by omega) (by omega)) (e _ (by omega) (by omega)) (e _ (by omega) (by omega)), h4.kept (e _ (by omega) (by omega)) (e _ (by omega) (by omega)) (e _ (by omega) (by omega))⟩
theorem CQ.kept (h : CQ g S x n tr P rows cs ca) (e : ∀ q : Nat, okC x n tr q → okC x n1 tr1 q ∧ S1 q = S q ∧ S1 (q + 1) = S (q + 1) ∧ S1 (q + 2) = S (q + 2)) : CQ g S1 x n1 tr1 P rows cs ca := by
  intro c hc
  obtain ⟨h0, h1, h2⟩ := h c hc
  obtain ⟨e0, e1, e2, e3⟩ := e _ h1
  exact ⟨h0, e0, crs.kept h2 e1 e2 e3⟩
theorem CHk.kept {a : Nat} {r r' : Nat → Int} {w w' : rT} (h : CHk g S x n tr P a r w r' w') (e : ∀ q : Nat, okC x n tr q → okC x n1 tr1 q ∧ S1 q = S q ∧ S1 (q + 1) = S (q + 1) ∧ S1 (q + 2) = S (q + 2)) (ea : S1 a = S a) : CHk g S1 x n1 tr1 P a r w r' w' := by
  rcases h with ⟨co, hn, sn, y, sl, h0, h1⟩ | ⟨q, hn, sn, y, sl, h0, h1, h2, h3, h4⟩ | ⟨cu, h, sn, h0, h1⟩
  · exact Or.inl ⟨co, hn, sn, y, sl, ea.trans h0, h1⟩
  · obtain ⟨e0, e1, e2, e3⟩ := e _ h1
    exact Or.inr (Or.inl ⟨q, hn, sn, y, sl, ea.trans h0, e0, h2, h3, crs.kept h4 e1 e2 e3⟩)
  · exact Or.inr (Or.inr ⟨cu, h, sn, ea.trans h0, h1⟩)
theorem CH.kept (h : CH g S x n tr P F kp) (e : ∀ q : Nat, okC x n tr q → okC x n1 tr1 q ∧ S1 q = S q ∧ S1 (q + 1) = S (q + 1) ∧ S1 (q + 2) = S (q + 2)) (ea : ∀ a : Nat, okD x n tr a → okD x n1 tr1 a ∧ S1 a = S a) : CH g S1 x n1 tr1 P F kp := by
  intro k hk
  obtain ⟨a, h0, h1, h2⟩ := h k hk
  obtain ⟨e0, e1⟩ := ea a h1
  exact ⟨a, h0, e0, h2.kept e e1⟩
theorem CI.kept (h : CI g S n x tz tx P J rs rows hist) (e : ∀ bb : Nat, x ≤ bb → (bb < x + 36 ∨ x + 47 ≤ bb) → S1 bb = S bb) : CI g S1 n x tz tx P J rs rows hist := by
  obtain ⟨tr, lv, cs, ca, kp, h0, h1, h2, h3, h4, h5, h6, h7, h8, h9, h10, h11, h12, h13⟩ := h
  have eC : ∀ q : Nat, okC x n tr q → okC x n tr q ∧ S1 q = S q ∧ S1 (q + 1) = S (q + 1) ∧ S1 (q + 2) = S (q + 2) := fun q hq => by
    have hq' := hq
    unfold okC at hq'
    exact ⟨hq, e _ (by omega) (by omega), e _ (by omega) (by omega), e _ (by omega) (by omega)⟩
  have eD : ∀ a : Nat, okD x n tr a → okD x n tr a ∧ S1 a = S a := fun a ha => by
    have ha' := ha
    unfold okD at ha'
    exact ⟨ha, e _ (by omega) (by omega)⟩
  exact ⟨tr, lv, cs, ca, kp, (e _ (by omega) (by omega)).trans h0, h1.kept (fun bb a b => e bb (by omega) (by omega)), h2.kept (fun bb a b => e bb (by omega) (by omega)), h3.kept (fun bb a b => e bb (by omega) (by omega)), h4.kept (fun bb a b => e bb (by omega) (by omega)), h5.kept (fun bb a b => e bb (by omega) (by omega)), h6.kept (e _ (by omega) (by omega)) (e _ (by omega) (by omega)) (e _ (by omega) (by omega)), h7.kept (fun bb a b => e bb (by omega) (by omega)), h8.kept (fun bb a b => e bb (by omega) (by omega)), h9.kept (e _ (by omega) (by omega)) (e _ (by omega) (by omega)) (e _ (by omega) (by omega)), h10, h11, h12.kept eC, h13.kept eC eD⟩
/-- the course on top, or the ground -/
theorem CI_last (hR : bR g S x rows.length lv cs) (hG : crs g S (x + 17) 60 0 0 0 P.2.2.1 []) (htr : tr = x + 33 ∨ x + 47 ≤ tr) (hQ : CQ g S x n tr P rows cs ca) : ∃ (q : Nat) (qF qG qR : Int), ((0 < (rows.length : Int) ∧ cs ((rows.length : Int) - 1).toNat = some q) ∨ ((rows.length : Int) = 0 ∧ q = x + 17)) ∧ crs g S q (tpL rows) qF qG qR P.2.2.1 (tpS rows) ∧ qF + qG = hdR P.2.2.2.2.2.2.1 rows rows.length ∧ (q = x + 17 ∨ q = x + 33 ∨ x + 47 ≤ q) ∧ (q + 3 ≤ tr ∨ tr + 3 ≤ q) := by
  by_cases e : rows.length = 0
  · refine ⟨x + 17, 0, 0, 0, Or.inr ⟨by omega, rfl⟩, ?_, ?_, Or.inl rfl, by omega⟩
    · unfold tpL tpS
      rw [if_pos e, if_pos e]; exact hG
    · rw [e]; rfl
  · obtain ⟨h0, h1, h2⟩ := hQ (rows.length - 1) (by omega)
    refine ⟨ca (rows.length - 1), hdR P.2.2.2.2.2.2.1 rows (rows.length - 1), (rL rows (rows.length - 1) - P.2.2.2.2.2.2.1) / 2, rmF P.2.2.2.2.2.1 P.2.2.2.2.2.2.2.2 (hdR P.2.2.2.2.2.2.1 rows (rows.length - 1)), Or.inl ⟨by omega, ?_⟩, ?_, ?_, ?_, h1.2⟩
    · rw [show ((rows.length : Int) - 1).toNat = rows.length - 1 by omega]; exact h0
    · unfold tpL tpS
      rw [if_neg e, if_neg e]; exact h2
    · obtain ⟨k, hk⟩ : ∃ k : Nat, rows.length = k + 1 := ⟨rows.length - 1, by omega⟩
      rw [hk]; rfl
    · unfold okC at h1; omega
end CIK
/-! the history and one change more, or one less -/
section CHL
variable {g : gG} {S : Nat → gE} {x n tr : Nat} {P : pT} {F : List sT} {kp : Nat → Option Nat} {y : sT} {a : Nat}
theorem CH_push (h : CH g S x n tr P F kp) (hF : 0 < F.length) (ha : okD x n tr a) (hn : CHk g S x n tr P a (hsR F (F.length - 1)) (hsW F (F.length - 1)) y.1 y.2) : CH g S x n tr P (F ++ [y]) (va_up kp (F.length - 1) (some a)) := by
  intro k hk
  rw [hlen_sn] at hk
  by_cases e : k + 1 < F.length
  · obtain ⟨b, h0, h1, h2⟩ := h k e
    refine ⟨b, by rw [va_up_ne _ _ (by omega)]; exact h0, h1, ?_⟩
    rw [hsR_lt (by omega), hsW_lt (by omega), hsR_lt e, hsW_lt e]; exact h2
  · have e1 : k = F.length - 1 := by omega
    refine ⟨a, by rw [e1, va_up_self], ha, ?_⟩
    rw [show k + 1 = F.length by omega, hsR_at, hsW_at, hsR_lt (by omega), hsW_lt (by omega), e1]; exact hn
theorem CH_drop (h : CH g S x n tr P F kp) (hF : F.length = 7) : CH g S x n tr P (F.drop 1) (shf kp 6) := by
  intro k hk
  have hd : (F.drop 1).length = 6 := by rw [List.length_drop]; omega
  rw [hd] at hk
  obtain ⟨b, h0, h1, h2⟩ := h (k + 1) (by omega)
  refine ⟨b, ?_, h1, ?_⟩
  · unfold shf; rw [if_pos (by omega)]; exact h0
  · rw [hsR_dr, hsW_dr, hsR_dr, hsW_dr]; exact h2
theorem CH_pop (h : CH g S x n tr P (F ++ [y]) kp) : CH g S x n tr P F kp := by
  intro k hk
  obtain ⟨b, h0, h1, h2⟩ := h k (by rw [hlen_sn]; omega)
  rw [hsR_lt (by omega), hsW_lt (by omega), hsR_lt hk, hsW_lt hk] at h2
  exact ⟨b, h0, h1, h2⟩
theorem CH_add {hist : List sT} {s : sT} (h : CH g S x n tr P (hist ++ [s]) kp) (h6 : hist.length ≤ 6) (ha : okD x n tr a) (hn : CHk g S x n tr P a s.1 s.2 y.1 y.2) : CH g S x n tr P (pushH hist s ++ [y]) (adK kp hist.length a) := by
  unfold pushH adK
  by_cases e : hist.length = 6
  · rw [if_pos e, if_pos (by omega)]
    have hl : (hist ++ [s]).length = 7 := by rw [hlen_sn]; omega
    have h1 := CH_drop h hl
    have hd : (hist ++ [s]).drop 1 = hist.drop 1 ++ [s] := List.drop_append_of_le_length (by omega)
    rw [hd] at h1
    have hl2 : (hist.drop 1 ++ [s]).length = 6 := by rw [hlen_sn, List.length_drop]; omega
    have hl3 : (hist.drop 1).length = 5 := by rw [List.length_drop]; omega
    have h2 := CH_push (y := y) (a := a) h1 (by omega) ha (by rw [hl2, show 6 - 1 = (hist.drop 1).length by omega, hsR_at, hsW_at]; exact hn)
    rw [hl2] at h2
    exact h2
  · rw [if_neg e, if_neg (by omega)]
    have hl2 : (hist ++ [s]).length = hist.length + 1 := hlen_sn
    have h2 := CH_push (y := y) (a := a) h (by omega) ha (by rw [hl2, Nat.add_sub_cancel, hsR_at, hsW_at]; exact hn)
    rw [hl2, Nat.add_sub_cancel] at h2
    rw [Int.toNat_natCast]
    exact h2
theorem CH_0 {s : sT} : CH g S x n tr P ([] ++ [s]) kp := fun k hk => absurd hk (by simp)
end CHL
