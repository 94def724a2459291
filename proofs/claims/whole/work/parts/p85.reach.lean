/-! REACH: class and reference tell the same -/
section RCH
variable {n : Nat} {nx : Nat → Nat} {both : Bool} {t due : Nat} {s0 : Nat → Nat}
theorem best_le12 (hn : n ≤ 8) (h0 : SG n s0) {D F : Nat} (hb : bestS (mlS n nx both) s0 (fun s => due ≤ s t) D F) : D ≤ 12 := by
  have hm8 : ∀ j, j < (mlS n nx both).length → in8 n (mvN (mlS n nx both) j) := fun j hj => (mlS_leg (mvN_mem hj)).1
  obtain ⟨s, s1, -⟩ := hb.1
  have := (s1.tot hn hm8 h0).2
  have := h0.2
  omega
theorem best_pos (hs : s0 t < due) {D F : Nat} (hb : bestS (mlS n nx both) s0 (fun s => due ≤ s t) D F) : ∃ D', D = D' + 1 := by
  cases D with
  | zero =>
    exfalso
    obtain ⟨s, s1, s2⟩ := hb.1
    have s1 : s = s0 := s1
    subst s1
    have s2 : due ≤ s t := s2
    omega
  | succ D' => exact ⟨D', rfl⟩
abbrev T13 := (Nat → Int32) × (Nat → Int32) × Nat × (Nat → Int32) × Nat × (Nat → Int32) × Nat × Int32 × Int32 × Int32 × Int32 × Nat × Nat
theorem limits_ok {below tA tB gv ne wa : Nat → Int32} (hG : GoodG n nx) (hn : n ≤ 8) (ht : t < n) (hd : due ≤ 40) (h0 : SG n s0) (hs : s0 t < due) (hb : RBk below) (hM : MLr (mlS n nx both) tA tB gv (nI (mlS n nx both).length)) (hN : NLr (nlW n nx t (n - 1)) ne wa (nI (nlW n nx t (n - 1)).length))
    {bc bs : Nat} (hbc : 3 ≤ bc) (hbs : 91903 ≤ bs) {nseen nlay : Nat} (z1 : nseen ≤ 3937) (z2 : nlay ≤ 43983) (row seen lay st : Nat → Int32) (found lim0 fm : Int32) :
    ∃ r, lp (Search_fewestMoves_L85 bc bs (cdS s0) below tA tB gv ne wa (nI (mlS n nx both).length) (nI n) (nI (nlW n nx t (n - 1)).length) (nI t) (nI due)) (0, row, seen, nseen, lay, nlay, st, nlay, found, lim0, nI (leftS (nlW n nx t (n - 1)) t due s0), fm, 0, 0) = some r ∧
      ((∃ τ : T13, r = Sum.inr τ ∧ τ.2.2.1 ≤ 3937 ∧ τ.2.2.2.2.1 ≤ 43983 ∧ τ.2.2.2.2.2.2.1 = τ.2.2.2.2.1 ∧ τ.2.2.2.2.2.2.2.2.2.2.2.1 ≤ 3 ∧ τ.2.2.2.2.2.2.2.2.2.2.2.2 ≤ 91903 ∧ ∀ d f s, WaS (mlS n nx both) s0 d f s → ¬ due ≤ s t) ∨
       (∃ (τ : T13) (D F : Nat), r = Sum.inl (nI (D + 1), τ) ∧ τ.2.2.1 ≤ 3937 ∧ τ.2.2.2.2.1 ≤ 43983 ∧ τ.2.2.2.2.2.2.1 = τ.2.2.2.2.1 ∧ τ.2.2.2.2.2.2.2.2.2.2.2.1 ≤ 3 ∧ τ.2.2.2.2.2.2.2.2.2.2.2.2 ≤ 91903 ∧ bestS (mlS n nx both) s0 (fun s => due ≤ s t) (D + 1) F ∧ τ.2.2.2.2.2.2.2.2.2.2.1 = nI (codeM (mvN (mlS n nx both) F)))) := by
  have hnone : (∀ D F, bestS (mlS n nx both) s0 (fun s => due ≤ s t) (D + 1) F → 1000 ≤ D + 1) → ∀ d f s, WaS (mlS n nx both) s0 d f s → ¬ due ≤ s t := fun h => by
    rcases best_or (ml := mlS n nx both) (s0 := s0) (gl := fun s => due ≤ s t) with ⟨D, F, hbest⟩ | hno
    · exfalso
      obtain ⟨D', rfl⟩ := best_pos hs hbest
      have h1 := best_le12 hn h0 hbest
      have := h D' F hbest
      omega
    · exact hno
  refine lp_inv (f := Search_fewestMoves_L85 bc bs (cdS s0) below tA tB gv ne wa (nI (mlS n nx both).length) (nI n) (nI (nlW n nx t (n - 1)).length) (nI t) (nI due))
    (fun k s => s.1 = nI k ∧ ∃ LIM, s.2.2.2.2.2.2.2.2.2.2.1 = nI LIM ∧ k < LIM ∧ (LIM = 1000 ∨ LIM ≤ 11) ∧ (∀ D F, bestS (mlS n nx both) s0 (fun s => due ≤ s t) (D + 1) F → LIM ≤ D + 1) ∧
      s.2.2.2.1 ≤ 3937 ∧ s.2.2.2.2.2.1 ≤ 43983 ∧ s.2.2.2.2.2.2.2.1 = s.2.2.2.2.2.1 ∧ s.2.2.2.2.2.2.2.2.2.2.2.2.1 ≤ 3 ∧ s.2.2.2.2.2.2.2.2.2.2.2.2.2 ≤ 91903 ∧ ((s.2.2.2.2.2.2.2.2.2.2.2.2.1 = 0 ∧ s.2.2.2.2.2.2.2.2.2.2.2.2.2 = 0) ∨ (wordsS n s0 ≤ s.2.2.2.1 ∧ mostS n s0 ≤ s.2.2.2.2.2.1))) 12 _ ?_ ?_ 0 _ (Nat.zero_le _) ⟨rfl, leftS (nlW n nx t (n - 1)) t due s0, rfl, left_pos hs, ?_, ?_, z1, z2, rfl, Nat.zero_le _, Nat.zero_le _, Or.inl ⟨rfl, rfl⟩⟩
  · rintro k ⟨s1, row, seen, nseen, lay, nlay, st, nst, found, lim0, nxt, fm, kc, ks⟩ hk ⟨e1, LIM, e2, e3, e4, e5, e6, e7, e8, e9, e10, e11⟩
    dsimp only at e1 e2 e6 e7 e8 e9 e10 e11
    subst e1; subst e2; subst e8
    by_cases hL : LIM < 1000
    · have hor : (wordsS n s0 ≤ nseen ∧ mostS n s0 ≤ nst) ∨ (3 ≤ bc - kc ∧ 91903 ≤ bs - ks) := by
        rcases e11 with z | z
        · exact Or.inr ⟨by omega, by omega⟩
        · exact Or.inl z
      obtain ⟨x, row', seen', nseen', lay', nlay', st', found', nxt', fm', kc', ks', q1, q2, q3, q4, q5, q6, q7, q8, q9⟩ := within_ok (lim := LIM) hG hn ht hd h0 hs hb hM hN (by omega) hL (bc := bc - kc) (bs := bs - ks) e6 e7 hor row seen lay st found fm
      have hcu : cuOk bc bs kc ks kc' ks' = true := cuOk_yes (by
        rcases e11 with z | z
        · omega
        · have := q6 z; omega) (by
        rcases e11 with z | z
        · omega
        · have := q6 z; omega)
      have hk1 : kc + kc' ≤ 3 := by
        rcases e11 with z | z
        · omega
        · have := q6 z; omega
      have hk2 : ks + ks' ≤ 91903 := by
        rcases e11 with z | z
        · omega
        · have := q6 z; omega
      have hhead : Search_fewestMoves_L85 bc bs (cdS s0) below tA tB gv ne wa (nI (mlS n nx both).length) (nI n) (nI (nlW n nx t (n - 1)).length) (nI t) (nI due) (nI k, row, seen, nseen, lay, nst, st, nst, found, lim0, nI LIM, fm, kc, ks) = if x ≤ 0 then some (.inl (nI k + 1, row', seen', nseen', lay', nlay', st', nlay', found', nI LIM, nxt', fm', kc + kc', ks + ks')) else some (.inr (.inl (x, row', seen', nseen', lay', nlay', st', nlay', found', nI LIM, nxt', fm', kc + kc', ks + ks'))) := by
        unfold Search_fewestMoves_L85
        dsimp only
        rw [if_pos (show nI k < 12 from (nI_ltN (b := 12) (by omega) (by omega)).mpr hk), if_pos (show nI LIM < 1000 from (nI_ltN (b := 1000) (by omega) (by omega)).mpr hL), ob_eq q1, gd_eq hcu]
      rcases q9 with ⟨rfl, NXT, c1, c2, c3, c4⟩ | ⟨D, F, rfl, c1, c2, c3⟩
      · left
        refine ⟨_, hhead.trans (if_pos (by decide)), nI_ad k 1, NXT, c1, by omega, c3, c4, q2, q3, rfl, hk1, hk2, Or.inr ⟨q4, q5⟩⟩
      · right
        refine ⟨_, hhead.trans (if_neg (fun z => by have := (nI_leN (b := 0) (by omega) (by omega)).mp z; omega)), Or.inr ⟨(row', seen', nseen', lay', nlay', st', nlay', found', nI LIM, nxt', fm', kc + kc', ks + ks'), D, F, rfl, q2, q3, rfl, hk1, hk2, c2, c3⟩⟩
    · right
      have hL2 : LIM = 1000 := by omega
      subst hL2
      refine ⟨Sum.inr (row, seen, nseen, lay, nst, st, nst, found, lim0, nI 1000, fm, kc, ks), ?_, Or.inl ⟨(row, seen, nseen, lay, nst, st, nst, found, lim0, nI 1000, fm, kc, ks), rfl, e6, e7, rfl, e9, e10, hnone e5⟩⟩
      unfold Search_fewestMoves_L85
      dsimp only
      rw [if_pos (show nI k < 12 from (nI_ltN (b := 12) (by omega) (by omega)).mpr hk), if_neg (show ¬ nI 1000 < 1000 by decide)]
  · rintro ⟨s1, row, seen, nseen, lay, nlay, st, nst, found, lim0, nxt, fm, kc, ks⟩ ⟨e1, LIM, e2, e3, e4, e5, e6, e7, e8, e9, e10, e11⟩
    dsimp only at e1 e2 e6 e7 e8 e9 e10 e11
    subst e1; subst e2; subst e8
    have hL2 : LIM = 1000 := by omega
    subst hL2
    refine ⟨Sum.inr (row, seen, nseen, lay, nst, st, nst, found, lim0, nI 1000, fm, kc, ks), ?_, Or.inl ⟨(row, seen, nseen, lay, nst, st, nst, found, lim0, nI 1000, fm, kc, ks), rfl, e6, e7, rfl, e9, e10, hnone e5⟩⟩
    unfold Search_fewestMoves_L85
    dsimp only
    rw [if_neg (show ¬ nI 12 < 12 by decide)]
  · rcases left_small (n := n) (nx := nx) hn hs with z | z
    · exact Or.inl z
    · right
      have := h0.2
      omega
  · intro D F hbest
    obtain ⟨s, s1, s2⟩ := hbest.1
    obtain ⟨w1, w2, w3⟩ := Wa_head (gl := fun s => due ≤ s t) (r := 0) s1 s2
    refine left_le (left_way hG ht (r := D + 1) (s := s0) ⟨F, w1, w2, w3⟩ (fun r' hr' z => ?_))
    cases r' with
    | zero =>
      have z : due ≤ s0 t := z
      omega
    | succ r'' =>
      obtain ⟨j, j1, j2, j3⟩ := z
      obtain ⟨s', a, b⟩ := Wa_to (d := 1) (f := j) (s := goS s0 (mvN (mlS n nx both) j)) ⟨s0, j, rfl, j1, j2, rfl, fun _ => rfl⟩ (by omega) j3
      have := hbest.2 _ _ _ a b
      omega
end RCH
abbrev T23 := (Nat → Int32) × (Nat → Int32) × (Nat → Int32) × (Nat → Int32) × (Nat → Int32) × (Nat → Int32) × Int32 × (Nat → Int32) × Nat × (Nat → Int32) × Nat × (Nat → Int32) × Nat × Int32 × Int32 × Int32 × Int32 × Int32 × Int32 × Int32 × Int32 × Nat × Nat
/-- the sizes of what the search keeps, and what it made -/
def SZq (y : T23) : Prop := y.2.2.2.2.2.2.2.2.1 ≤ 3937 ∧ y.2.2.2.2.2.2.2.2.2.2.1 ≤ 43983 ∧ y.2.2.2.2.2.2.2.2.2.2.2.2.1 = y.2.2.2.2.2.2.2.2.2.2.1 ∧ y.2.2.2.2.2.2.2.2.2.2.2.2.2.2.2.2.2.2.2.2.2.1 ≤ 3 ∧ y.2.2.2.2.2.2.2.2.2.2.2.2.2.2.2.2.2.2.2.2.2.2 ≤ 91903
theorem cpy_n {jars row : Nat → Int32} {n w : Nat} (hw : w < n) : va_cpy jars row 0 0 n w = jars w := by
  unfold va_cpy
  rw [if_pos ⟨Nat.zero_le _, by omega⟩, Nat.zero_add, Nat.sub_zero]
theorem fewestMoves_ok {n : Nat} {nx : Nat → Nat} {t due : Nat} {s0 : Nat → Nat} (hG : GoodG n nx) (hn : n ≤ 8) (ht : t < n) (hd : due ≤ 40) (h0 : SG n s0) {next ways jars below : Nat → Int32} (hx : ∀ w, w < 12 → next w = nI (nx w)) (hr : RW n nx ways) (hj : ∀ w, w < 12 → jars w = nI (s0 w)) (hb : RBk below) (both : Bool) {a5 : Int32} (ha5 : a5 = if both then 1 else 0)
    {bc bs : Nat} (hbc : 3 ≤ bc) (hbs : 91903 ≤ bs) {nseen nlay : Nat} (z1 : nseen ≤ 3937) (z2 : nlay ≤ 43983) (tA tB gv ne wa row seen lay st : Nat → Int32) (mv found wq re aim duq lim nxt fm : Int32) :
    ∃ x y, Search_fewestMoves bc bs below tA tB gv ne wa row mv seen nseen lay nlay st nlay found wq re aim duq lim nxt fm (nI n) next ways jars (nI t) (nI due) a5 = some (x, y) ∧ SZq y ∧
      ((due ≤ s0 t ∧ x = 0) ∨ (s0 t < due ∧ (∀ d f s, WaS (mlS n nx both) s0 d f s → ¬ due ≤ s t) ∧ x = -2) ∨ (s0 t < due ∧ ∃ D F, bestS (mlS n nx both) s0 (fun s => due ≤ s t) (D + 1) F ∧ x = nI (D + 1) ∧ y.2.2.2.2.2.2.2.2.2.2.2.2.2.2.2.2.2.2.2.2.1 = nI (codeM (mvN (mlS n nx both) F)))) := by
  have hmin : jmin (nI n) 8 = nI n := (jmin_nI (a := n) (b := 8) (by omega) (by omega)).trans (by rw [Nat.min_eq_left hn])
  have hcp : cpOk 0 0 (nI n) 12 8 = true := by
    unfold cpOk
    rw [nI_clamp (by omega), decide_eq_false (nI_pos (show n < 2 ^ 31 by omega)), show ((0 : Int32).toNatClampNeg) = 0 from rfl, decide_eq_true (show 0 + n ≤ 12 by omega), decide_eq_true (show 0 + n ≤ 8 by omega)]
    rfl
  have hrow : ∀ w, w < n → va_cpy jars row 0 0 n w = nI (s0 w) := fun w hw => by rw [cpy_n hw, hj w (by omega)]
  unfold Search_fewestMoves
  rw [hmin, gd_eq hcp, gd_eq (ixN (show t < 8 by omega) (by omega)), nI_clamp (show n < 2 ^ 31 by omega), nI_clamp (show t < 2 ^ 31 by omega), show ((0 : Int32).toNatClampNeg) = 0 from rfl, hrow t ht]
  have hg16 := h0.dig t (by omega)
  by_cases hs : s0 t < due
  · rw [if_pos ((nI_ltN (by omega) (by omega)).mpr hs)]
    obtain ⟨ne', wa', n1, n2⟩ := sortByWay_ok hG hn ht hr ne wa re
    obtain ⟨tA', tB', gv', m1, m2⟩ := listMoves_ok hG hn hx ha5 tA tB gv mv
    rw [ob_eq n1, ob_eq m1, ob_eq (packed_ok hn h0 hrow)]
    dsimp only
    rw [ob_eq (least_ok hn n2 (Nat.le_trans (nlW_len _) hn) (fun p hp => by have := nlW_mem hp; exact ⟨this.1, this.2.1, by omega⟩) h0 hrow ht hd (by omega))]
    obtain ⟨r, r1, r2⟩ := limits_ok (both := both) hG hn ht hd h0 hs hb m2 n2 hbc hbs z1 z2 (va_cpy jars row 0 0 n) seen lay st found lim fm
    rw [ob_eq r1]
    rcases r2 with ⟨τ, rfl, c1, c2, c3, c4, c5, c6⟩ | ⟨τ, D, F, rfl, c1, c2, c3, c4, c5, c6, c7⟩
    · exact ⟨_, _, rfl, ⟨c1, c2, c3, c4, c5⟩, Or.inr (Or.inl ⟨hs, c6, rfl⟩)⟩
    · exact ⟨_, _, rfl, ⟨c1, c2, c3, c4, c5⟩, Or.inr (Or.inr ⟨hs, D, F, c6, rfl, c7⟩)⟩
  · rw [if_neg (fun z => hs ((nI_ltN (by omega) (by omega)).mp z))]
    exact ⟨_, _, rfl, ⟨z1, z2, rfl, Nat.zero_le _, Nat.zero_le _⟩, Or.inl ⟨by omega, rfl⟩⟩
