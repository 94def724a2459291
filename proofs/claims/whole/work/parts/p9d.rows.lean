/-! FEWEST: the next row -/
def lesS (n i : Nat) (g : Nat → Nat) : Nat → Nat := atS (atS (atS g (n - 1) 0) i (g i - 1)) (i + 1) (g (n - 1) + 1)
/-- the last well but one that has any -/
def posS (n i : Nat) (g : Nat → Nat) : Prop := i + 2 ≤ n ∧ 0 < g i ∧ ∀ w, i < w → w + 1 < n → g w = 0
theorem pos_or (n : Nat) (g : Nat → Nat) : (∃ i, posS n i g) ∨ ∀ w, w + 1 < n → g w = 0 := by
  have key : ∀ k, k + 1 ≤ n → (∀ w, k ≤ w → w + 1 < n → g w = 0) → (∃ i, posS n i g) ∨ ∀ w, w + 1 < n → g w = 0 := by
    intro k
    induction k with
    | zero => intro _ h; exact Or.inr (fun w hw => h w (by omega) hw)
    | succ k ih =>
      intro hk h
      by_cases e : g k = 0
      · refine ih (by omega) (fun w h1 h2 => ?_)
        by_cases y : w = k
        · rw [y]; exact e
        · exact h w (by omega) h2
      · exact Or.inl ⟨k, by omega, by omega, fun w h1 h2 => h w (by omega) h2⟩
  by_cases hn : n = 0
  · exact Or.inr (fun w hw => by omega)
  · exact key (n - 1) (by omega) (fun w h1 h2 => by omega)
def srS (t : Nat) : Nat → Nat
  | 0 => 0
  | m + 1 => srS t m + rbS (m + 1) t
theorem rb_sum (t : Nat) : ∀ m, rbS m (t + 1) = 1 + srS t m := by
  intro m
  induction m with
  | zero => rw [rbS_base]; rfl
  | succ m ih =>
    rw [rbS_succ, ih]
    show _ = 1 + (srS t m + rbS (m + 1) t)
    omega
theorem rk_tail {g : Nat → Nat} {n : Nat} : ∀ {k : Nat}, (∀ j, 1 ≤ j → j < k → g (n - j - 1) = 0) → (1 ≤ k → sxS g n k = g (n - 1)) ∧ rkS g n k = srS (g (n - 1)) k := by
  intro k
  induction k with
  | zero => intro _; exact ⟨fun h => by omega, rfl⟩
  | succ k ih =>
    intro h
    obtain ⟨i1, i2⟩ := ih (fun j h1 h2 => h j h1 (by omega))
    have hs : sxS g n (k + 1) = g (n - 1) := by
      show sxS g n k + g (n - k - 1) = _
      by_cases e : k = 0
      · subst e; show 0 + g (n - 0 - 1) = _; rw [Nat.sub_zero, Nat.zero_add]
      · rw [i1 (by omega), h k (by omega) (by omega)]; omega
    refine ⟨fun _ => hs, ?_⟩
    show rkS g n k + rbS (k + 1) (sxS g n (k + 1)) = srS (g (n - 1)) k + rbS (k + 1) (g (n - 1))
    rw [hs, i2]
theorem rk_zero {g : Nat → Nat} {n : Nat} : ∀ {k : Nat}, (∀ j, j < k → g (n - j - 1) = 0) → sxS g n k = 0 ∧ rkS g n k = 0 := by
  intro k
  induction k with
  | zero => intro _; exact ⟨rfl, rfl⟩
  | succ k ih =>
    intro h
    obtain ⟨i1, i2⟩ := ih (fun j hj => h j (by omega))
    have hs : sxS g n (k + 1) = 0 := by
      show sxS g n k + g (n - k - 1) = _
      rw [i1, h k (by omega)]
    refine ⟨hs, ?_⟩
    show rkS g n k + rbS (k + 1) (sxS g n (k + 1)) = 0
    rw [hs, i2, rbS_zero]
section ROW
variable {n i : Nat} {g : Nat → Nat}
theorem les_val (h : posS n i g) (w : Nat) : lesS n i g w = if w = i + 1 then g (n - 1) + 1 else if w = i then g i - 1 else if w = n - 1 then 0 else g w := by
  unfold lesS
  by_cases e1 : w = i + 1
  · rw [if_pos e1, e1, atS_at]
  · rw [if_neg e1, atS_ne e1]
    by_cases e2 : w = i
    · rw [if_pos e2, e2, atS_at]
    · rw [if_neg e2, atS_ne e2]
      by_cases e3 : w = n - 1
      · rw [if_pos e3, e3, atS_at]
      · rw [if_neg e3, atS_ne e3]
theorem les_rank (h : posS n i g) : rkS (lesS n i g) n n = rkS g n n + 1 ∧ sxS (lesS n i g) n n = sxS g n n := by
  obtain ⟨h1, h2, h3⟩ := id h
  have hv := les_val h
  -- those behind i + 1
  have hold := rk_tail (g := g) (n := n) (k := n - 1 - i) (fun j j1 j2 => h3 _ (by omega) (by omega))
  have hnew := rk_zero (g := lesS n i g) (n := n) (k := n - 2 - i) (fun j hj => by
    rw [hv, if_neg (by omega), if_neg (by omega)]
    by_cases e : n - j - 1 = n - 1
    · rw [if_pos e]
    · rw [if_neg e]; exact h3 _ (by omega) (by omega))
  have e1 : n - 1 - i = (n - 2 - i) + 1 := by omega
  have hs1 : sxS (lesS n i g) n (n - 1 - i) = g (n - 1) + 1 := by
    rw [e1]
    show sxS (lesS n i g) n (n - 2 - i) + lesS n i g (n - (n - 2 - i) - 1) = _
    rw [hnew.1, hv, if_pos (by omega)]
    omega
  have hr1 : rkS (lesS n i g) n (n - 1 - i) = rkS g n (n - 1 - i) + 1 := by
    have : rkS (lesS n i g) n ((n - 2 - i) + 1) = rkS (lesS n i g) n (n - 2 - i) + rbS ((n - 2 - i) + 1) (sxS (lesS n i g) n ((n - 2 - i) + 1)) := rfl
    rw [← e1, hs1, hnew.2, rb_sum] at this
    rw [this, hold.2]
    omega
  have key : ∀ k, k + (n - i) ≤ n → sxS (lesS n i g) n (k + (n - i)) = sxS g n (k + (n - i)) ∧ rkS (lesS n i g) n (k + (n - i)) = rkS g n (k + (n - i)) + 1 := by
    intro k
    induction k with
    | zero =>
      intro _
      rw [Nat.zero_add]
      have e2 : n - i = (n - 1 - i) + 1 := by omega
      have ha : sxS (lesS n i g) n ((n - 1 - i) + 1) = sxS (lesS n i g) n (n - 1 - i) + lesS n i g (n - (n - 1 - i) - 1) := rfl
      have hb : sxS g n ((n - 1 - i) + 1) = sxS g n (n - 1 - i) + g (n - (n - 1 - i) - 1) := rfl
      have hc : rkS (lesS n i g) n ((n - 1 - i) + 1) = rkS (lesS n i g) n (n - 1 - i) + rbS ((n - 1 - i) + 1) (sxS (lesS n i g) n ((n - 1 - i) + 1)) := rfl
      have hd : rkS g n ((n - 1 - i) + 1) = rkS g n (n - 1 - i) + rbS ((n - 1 - i) + 1) (sxS g n ((n - 1 - i) + 1)) := rfl
      have hi : n - (n - 1 - i) - 1 = i := by omega
      rw [hi] at ha hb
      rw [hs1, hv i, if_neg (by omega), if_pos rfl] at ha
      rw [hold.1 (by omega)] at hb
      have hs : sxS (lesS n i g) n ((n - 1 - i) + 1) = sxS g n ((n - 1 - i) + 1) := by omega
      rw [hs, hr1] at hc
      rw [e2]
      exact ⟨hs, by omega⟩
    | succ k ih =>
      intro hk
      obtain ⟨i1, i2⟩ := ih (by omega)
      have e2 : k + 1 + (n - i) = (k + (n - i)) + 1 := by omega
      rw [e2]
      have hs : sxS (lesS n i g) n ((k + (n - i)) + 1) = sxS g n ((k + (n - i)) + 1) := by
        show sxS (lesS n i g) n (k + (n - i)) + lesS n i g (n - (k + (n - i)) - 1) = sxS g n (k + (n - i)) + g (n - (k + (n - i)) - 1)
        rw [i1, hv, if_neg (by omega), if_neg (by omega), if_neg (by omega)]
      refine ⟨hs, ?_⟩
      show rkS (lesS n i g) n (k + (n - i)) + rbS _ (sxS (lesS n i g) n ((k + (n - i)) + 1)) = rkS g n (k + (n - i)) + rbS _ (sxS g n ((k + (n - i)) + 1)) + 1
      rw [hs, i2]
      omega
  have := key i (by omega)
  rw [show i + (n - i) = n by omega] at this
  exact ⟨this.2, this.1⟩
theorem les_SG (hn : n ≤ 8) (hg : SG n g) (h : posS n i g) : SG n (lesS n i g) ∧ totS (lesS n i g) 8 = totS g 8 := by
  have hv := les_val h
  have h1 := h.1
  have hz : ∀ w, n ≤ w → lesS n i g w = 0 := fun w hw => by
    rw [hv, if_neg (by omega), if_neg (by omega)]
    by_cases e : w = n - 1
    · rw [if_pos e]
    · rw [if_neg e]; exact hg.1 w hw
  have hs := (les_rank h).2
  have a1 := sxS_tot (g := lesS n i g) (n := n) (k := n) (Nat.le_refl _)
  have a2 := sxS_tot (g := g) (n := n) (k := n) (Nat.le_refl _)
  rw [Nat.sub_self] at a1 a2
  have a1 : sxS (lesS n i g) n n + 0 = totS (lesS n i g) n := a1
  have a2 : sxS g n n + 0 = totS g n := a2
  have b : ∀ {f : Nat → Nat}, (∀ w, n ≤ w → f w = 0) → totS f 8 = totS f n := fun {f} hf => by
    have : ∀ k, n ≤ k → totS f k = totS f n := by
      intro k
      induction k with
      | zero => intro h; rw [show n = 0 by omega]
      | succ k ih =>
        intro h
        by_cases e : n = k + 1
        · rw [e]
        · show totS f k + f k = _
          rw [ih (by omega), hf k (by omega), Nat.add_zero]
    exact this 8 hn
  have c1 := b hz
  have c2 := b hg.1
  exact ⟨⟨hz, by have := hg.2; omega⟩, by omega⟩
/-- the last row, the first row -/
theorem rk_last (hn : 1 ≤ n) (h : ∀ w, w + 1 < n → g w = 0) : rkS g n n + 1 = rbS n (totS g n + 1) := by
  have h1 := rk_tail (g := g) (n := n) (k := n) (fun j j1 j2 => h _ (by omega))
  have a2 := sxS_tot (g := g) (n := n) (k := n) (Nat.le_refl _)
  rw [Nat.sub_self] at a2
  have a2 : sxS g n n + 0 = totS g n := a2
  rw [h1.1 hn] at a2
  rw [h1.2, rb_sum, show totS g n = g (n - 1) by omega]
  omega
theorem rk_first (hn : 1 ≤ n) (h : ∀ w, 1 ≤ w → w < n → g w = 0) : rkS g n n = rbS n (g 0) := by
  have h1 := rk_zero (g := g) (n := n) (k := n - 1) (fun j hj => h _ (by omega) (by omega))
  have e : rkS g n ((n - 1) + 1) = rkS g n (n - 1) + rbS ((n - 1) + 1) (sxS g n ((n - 1) + 1)) := rfl
  have e2 : sxS g n ((n - 1) + 1) = sxS g n (n - 1) + g (n - (n - 1) - 1) := rfl
  rw [e2, h1.1, h1.2, show n - 1 + 1 = n by omega, show n - (n - 1) - 1 = 0 by omega] at e
  rw [e]
  simp
end ROW
