/-! FEWEST: the next row, in both -/
section LES
variable {n : Nat} {g : Nat → Nat} {row : Nat → Int32}
theorem start2 (hn : 1 ≤ n) (h7 : n ≤ 7) : nI n - 2 = if 0 + 2 ≤ n then nI (n - 2 - 0) else -1 := by
  by_cases e : 2 ≤ n
  · rw [if_pos (by omega), Nat.sub_zero]
    exact nI_subN (b := 2) e
  · rw [if_neg (by omega), show n = 1 by omega]; decide
theorem down1 {x : Nat} (hx : x + 1 < n) (h7 : n ≤ 7) : nI (n - 2 - x) - 1 = if x + 1 + 2 ≤ n then nI (n - 2 - (x + 1)) else -1 := by
  by_cases e : x + 1 + 2 ≤ n
  · rw [if_pos e, show n - 2 - (x + 1) = n - 2 - x - 1 by omega]
    exact nI_subN (b := 1) (by omega)
  · rw [if_neg e, show n - 2 - x = 0 by omega]; decide
theorem lesser_find (hn : 1 ≤ n) (h7 : n ≤ 7) (hg : SG n g) (hr : rowIs n row g) (v1 v2 : Int32) :
    (∃ i, posS n i g ∧ lp (Fewest_goToLesserRow_L13 v1 v2 row) (nI n - 2) = some (Sum.inl (nI i))) ∨ ((∀ w, w + 1 < n → g w = 0) ∧ lp (Fewest_goToLesserRow_L13 v1 v2 row) (nI n - 2) = some (Sum.inr ())) := by
  obtain ⟨r, r1, r2⟩ := lp_inv (f := Fewest_goToLesserRow_L13 v1 v2 row) (fun x s => s = (if x + 2 ≤ n then nI (n - 2 - x) else -1) ∧ ∀ w, n ≤ w + 1 + x → w + 1 < n → g w = 0) (n - 1) (fun r => (∃ i, posS n i g ∧ r = Sum.inl (nI i)) ∨ ((∀ w, w + 1 < n → g w = 0) ∧ r = Sum.inr ()))
    (by
      rintro x s hx ⟨e1, e2⟩
      have e1' : s = nI (n - 2 - x) := e1.trans (if_pos (by omega))
      clear e1
      subst e1'
      have hgx := hg.dig (n - 2 - x) (by omega)
      have hhead : Fewest_goToLesserRow_L13 v1 v2 row (nI (n - 2 - x)) = if nI (g (n - 2 - x)) ≤ 0 then some (.inl (nI (n - 2 - x) + (-1))) else some (.inr (.inl (nI (n - 2 - x)))) := by
        unfold Fewest_goToLesserRow_L13
        rw [if_neg (nI_pos (show n - 2 - x < 2 ^ 31 by omega)), gd_eq (ixN (show n - 2 - x < 7 by omega) (by omega)), nI_clamp (show n - 2 - x < 2 ^ 31 by omega), hr _ (by omega)]
      by_cases z : 0 < g (n - 2 - x)
      · right
        exact ⟨_, hhead.trans (if_neg (fun y => by have := (nI_leN (b := 0) (by omega) (by omega)).mp y; omega)), Or.inl ⟨n - 2 - x, ⟨by omega, z, fun w h1 h2 => e2 w (by omega) h2⟩, rfl⟩⟩
      · left
        refine ⟨_, hhead.trans (if_pos ((nI_leN (b := 0) (by omega) (by omega)).mpr (by omega))), ?_, fun w h1 h2 => ?_⟩
        · rw [show nI (n - 2 - x) + (-1) = nI (n - 2 - x) - 1 from (Int32.sub_eq_add_neg _ _).symm]
          exact down1 (by omega) h7
        · by_cases y : w = n - 2 - x
          · rw [y]; omega
          · exact e2 w (by omega) h2)
    (by
      rintro s ⟨e1, e2⟩
      have e1' : s = -1 := e1.trans (if_neg (by omega))
      clear e1
      subst e1'
      refine ⟨Sum.inr (), ?_, Or.inr ⟨fun w hw => e2 w (by omega) hw, rfl⟩⟩
      unfold Fewest_goToLesserRow_L13
      exact if_pos (by decide))
    0 (nI n - 2) (Nat.zero_le _) ⟨start2 hn h7, fun w h1 h2 => by omega⟩
  rcases r2 with ⟨i, i1, rfl⟩ | ⟨i1, rfl⟩
  · exact Or.inl ⟨i, i1, r1⟩
  · exact Or.inr ⟨i1, r1⟩
theorem next_find (hn : 1 ≤ n) (h7 : n ≤ 7) (hg : SG n g) (hr : rowIs n row g) :
    (∃ i, posS n i g ∧ lp (Mo_nextRow_L7 row) (nI n - 2) = some (nI i)) ∨ ((∀ w, w + 1 < n → g w = 0) ∧ lp (Mo_nextRow_L7 row) (nI n - 2) = some (-1)) := by
  obtain ⟨r, r1, r2⟩ := lp_inv (f := Mo_nextRow_L7 row) (fun x s => s = (if x + 2 ≤ n then nI (n - 2 - x) else -1) ∧ ∀ w, n ≤ w + 1 + x → w + 1 < n → g w = 0) (n - 1) (fun r => (∃ i, posS n i g ∧ r = nI i) ∨ ((∀ w, w + 1 < n → g w = 0) ∧ r = -1))
    (by
      rintro x s hx ⟨e1, e2⟩
      have e1' : s = nI (n - 2 - x) := e1.trans (if_pos (by omega))
      clear e1
      subst e1'
      have hgx := hg.dig (n - 2 - x) (by omega)
      have hhead : Mo_nextRow_L7 row (nI (n - 2 - x)) = if nI (g (n - 2 - x)) = 0 then some (.inl (nI (n - 2 - x) - 1)) else some (.inr (nI (n - 2 - x))) := by
        unfold Mo_nextRow_L7
        rw [if_neg (nI_pos (show n - 2 - x < 2 ^ 31 by omega)), gd_eq (ixN (show n - 2 - x < 7 by omega) (by omega)), nI_clamp (show n - 2 - x < 2 ^ 31 by omega), hr _ (by omega)]
      by_cases z : 0 < g (n - 2 - x)
      · right
        exact ⟨_, hhead.trans (if_neg (fun y => by have := (nI_inj (b := 0) (by omega) (by omega)).mp y; omega)), Or.inl ⟨n - 2 - x, ⟨by omega, z, fun w h1 h2 => e2 w (by omega) h2⟩, rfl⟩⟩
      · left
        refine ⟨_, hhead.trans (if_pos (by rw [show g (n - 2 - x) = 0 by omega]; rfl)), down1 (by omega) h7, fun w h1 h2 => ?_⟩
        by_cases y : w = n - 2 - x
        · rw [y]; omega
        · exact e2 w (by omega) h2)
    (by
      rintro s ⟨e1, e2⟩
      have e1' : s = -1 := e1.trans (if_neg (by omega))
      clear e1
      subst e1'
      refine ⟨-1, ?_, Or.inr ⟨fun w hw => e2 w (by omega) hw, rfl⟩⟩
      unfold Mo_nextRow_L7
      exact if_pos (by decide))
    0 (nI n - 2) (Nat.zero_le _) ⟨start2 hn h7, fun w h1 h2 => by omega⟩
  rcases r2 with ⟨i, i1, rfl⟩ | ⟨i1, rfl⟩
  · exact Or.inl ⟨i, i1, r1⟩
  · exact Or.inr ⟨i1, r1⟩
theorem lesser_ok (hn : 1 ≤ n) (h7 : n ≤ 7) (hg : SG n g) (hr : rowIs n row g) : (∃ i row', posS n i g ∧ Fewest_goToLesserRow row (nI n) = some row' ∧ rowIs n row' (lesS n i g)) ∨ ((∀ w, w + 1 < n → g w = 0) ∧ Fewest_goToLesserRow row (nI n) = some row) := by
  have e1 : nI n - 1 = nI (n - 1) := nI_subN (b := 1) hn
  have hix : ix (nI (n - 1)) 7 = true := ixN (by omega) (by omega)
  rcases lesser_find hn h7 hg hr (nI n) (row (n - 1)) with ⟨i, i1, i2⟩ | ⟨i1, i2⟩
  · left
    obtain ⟨h1, h2, h3⟩ := id i1
    have hixi : ix (nI i) 7 = true := ixN (by omega) (by omega)
    refine ⟨i, upd (upd (upd row (n - 1) 0) i ((upd row (n - 1) 0) i - 1)) (i + 1) (row (n - 1) + 1), i1, ?_, fun w hw => ?_⟩
    · unfold Fewest_goToLesserRow
      rw [e1, gd_eq hix, nI_clamp (show n - 1 < 2 ^ 31 by omega), ob_eq i2]
      dsimp only [sm]
      rw [gd_eq hix, gd_eq hixi, gd_eq hixi, show nI i + 1 = nI (i + 1) from nI_ad i 1, gd_eq (ixN (show i + 1 < 7 by omega) (by omega)), nI_clamp (show i < 2 ^ 31 by omega), nI_clamp (show i + 1 < 2 ^ 31 by omega)]
    · rw [les_val i1 w]
      by_cases y1 : w = i + 1
      · rw [if_pos y1, y1, upd_at, hr _ (by omega)]; exact nI_ad _ 1
      · rw [if_neg y1, upd_ne y1]
        by_cases y2 : w = i
        · rw [if_pos y2, y2, upd_at, upd_ne (by omega), hr _ (by omega)]; exact nI_subN (b := 1) h2
        · rw [if_neg y2, upd_ne y2]
          by_cases y3 : w = n - 1
          · rw [if_pos y3, y3, upd_at]; rfl
          · rw [if_neg y3, upd_ne y3, hr w hw]
  · right
    refine ⟨i1, ?_⟩
    unfold Fewest_goToLesserRow
    rw [e1, gd_eq hix, nI_clamp (show n - 1 < 2 ^ 31 by omega), ob_eq i2]
    rfl
theorem next_ok (hn : 1 ≤ n) (h7 : n ≤ 7) (hg : SG n g) (hr : rowIs n row g) : (∃ i row', posS n i g ∧ Mo_nextRow (nI n) row = some (1, row') ∧ rowIs n row' (lesS n i g)) ∨ ((∀ w, w + 1 < n → g w = 0) ∧ Mo_nextRow (nI n) row = some (0, row)) := by
  rcases next_find hn h7 hg hr with ⟨i, i1, i2⟩ | ⟨i1, i2⟩
  · left
    obtain ⟨h1, h2, h3⟩ := id i1
    have hg16 := hg.dig
    obtain ⟨⟨tl, ro⟩, q1, q2, q3⟩ := lp_inv (f := Mo_nextRow_L39 (nI i) (nI n)) (fun x s => s.2.1 = nI (i + 1 + x) ∧ s.1 = nI (if i + 1 + x = n then g (n - 1) else 0) ∧ ∀ w, w < n → s.2.2 w = nI (if i < w ∧ w < i + 1 + x then 0 else g w)) (n - (i + 1)) (fun r => r.1 = nI (g (n - 1)) ∧ ∀ w, w < n → r.2 w = nI (if i < w then 0 else g w))
      (by
        rintro x ⟨s1, s2, ro⟩ hx ⟨e1, e2, e3⟩
        have e1 : s2 = nI (i + 1 + x) := e1
        subst e1
        replace e2 : s1 = nI (if i + 1 + x = n then g (n - 1) else 0) := e2
        replace e3 : ∀ w, w < n → ro w = nI (if i < w ∧ w < i + 1 + x then 0 else g w) := e3
        rw [if_neg (by omega)] at e2
        left
        have hix : ix (nI (i + 1 + x)) 7 = true := ixN (by omega) (by omega)
        have hro : ro (i + 1 + x) = nI (g (i + 1 + x)) := by rw [e3 _ (by omega), if_neg (by omega)]
        refine ⟨(s1 + nI (g (i + 1 + x)), nI (i + 1 + x) + 1, upd ro (i + 1 + x) 0), ?_, nI_ad (i + 1 + x) 1, ?_, fun w hw => ?_⟩
        · unfold Mo_nextRow_L39
          show (if nI (i + 1 + x) < nI n then _ else _) = _
          rw [if_pos ((nI_ltN (by omega) (by omega)).mpr (by omega))]
          dsimp only
          rw [gd_eq hix, gd_eq hix, nI_clamp (show i + 1 + x < 2 ^ 31 by omega), hro]
        · show s1 + nI (g (i + 1 + x)) = _
          rw [e2, nI_ad, Nat.zero_add]
          by_cases y : i + 1 + (x + 1) = n
          · rw [if_pos y, show n - 1 = i + 1 + x by omega]
          · rw [if_neg y, h3 (i + 1 + x) (by omega) (by omega)]
        · show upd ro (i + 1 + x) 0 w = _
          by_cases y : w = i + 1 + x
          · rw [y, upd_at, if_pos (by omega)]; rfl
          · rw [upd_ne y, e3 w hw]
            by_cases y2 : i < w ∧ w < i + 1 + x
            · rw [if_pos y2, if_pos (by omega)]
            · rw [if_neg y2, if_neg (by omega)])
      (by
        rintro ⟨s1, s2, ro⟩ ⟨e1, e2, e3⟩
        have e1 : s2 = nI (i + 1 + (n - (i + 1))) := e1
        subst e1
        refine ⟨(s1, ro), ?_, Eq.trans e2 (by rw [if_pos (by omega)]), fun w hw => Eq.trans (e3 w hw) ?_⟩
        · unfold Mo_nextRow_L39
          exact if_neg (fun z => by have := (nI_ltN (by omega) (by omega)).mp z; omega)
        · by_cases y : i < w
          · rw [if_pos (by omega), if_pos y]
          · rw [if_neg (by omega), if_neg y])
      0 (0, nI (i + 1), row) (Nat.zero_le _) ⟨rfl, by show (0 : Int32) = nI _; rw [if_neg (by omega)]; rfl, fun w hw => by
        show row w = _
        rw [hr w hw, if_neg (by omega)]⟩
    replace q2 : tl = nI (g (n - 1)) := q2
    replace q3 : ∀ w, w < n → ro w = nI (if i < w then 0 else g w) := q3
    have hixi : ix (nI i) 7 = true := ixN (by omega) (by omega)
    refine ⟨i, upd (upd ro i (ro i - 1)) (i + 1) (tl + 1), i1, ?_, fun w hw => ?_⟩
    · unfold Mo_nextRow Mo_nextRow_J27
      rw [ob_eq i2, if_neg (nI_pos (show i < 2 ^ 31 by omega)), show nI i + 1 = nI (i + 1) from nI_ad i 1, ob_eq q1]
      dsimp only
      rw [gd_eq hixi, gd_eq hixi, gd_eq (ixN (show i + 1 < 7 by omega) (by omega)), nI_clamp (show i < 2 ^ 31 by omega), nI_clamp (show i + 1 < 2 ^ 31 by omega)]
    · rw [les_val i1 w]
      by_cases y1 : w = i + 1
      · rw [if_pos y1, y1, upd_at, q2]; exact nI_ad _ 1
      · rw [if_neg y1, upd_ne y1]
        by_cases y2 : w = i
        · rw [if_pos y2, y2, upd_at, q3 _ (by omega), if_neg (by omega)]; exact nI_subN (b := 1) h2
        · rw [if_neg y2, upd_ne y2, q3 w hw]
          by_cases y3 : i < w
          · rw [if_pos y3]
            by_cases y4 : w = n - 1
            · rw [if_pos y4]
            · rw [if_neg y4, h3 w y3 (by omega)]
          · rw [if_neg y3, if_neg (by omega)]
  · right
    refine ⟨i1, ?_⟩
    unfold Mo_nextRow Mo_nextRow_J27
    rw [ob_eq i2, if_pos (by decide)]
theorem pos_uniq {i j : Nat} (h : posS n i g) (h' : posS n j g) : i = j := by
  obtain ⟨a1, a2, a3⟩ := h
  obtain ⟨b1, b2, b3⟩ := h'
  by_cases z : i < j
  · have := a3 j z (by omega); omega
  · by_cases y : j < i
    · have := b3 i y (by omega); omega
    · omega
end LES
