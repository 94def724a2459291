/-! RANKS of rows -/
def rbS : Nat → Nat → Nat
  | _, 0 => 0
  | 0, _ + 1 => 1
  | k + 1, s + 1 => rbS (k + 1) s + rbS k (s + 1)
theorem rbS_succ (k s : Nat) : rbS (k + 1) (s + 1) = rbS (k + 1) s + rbS k (s + 1) := by
  rw [rbS]
theorem rbS_zero (k : Nat) : rbS k 0 = 0 := by
  rw [rbS]
theorem rbS_base (s : Nat) : rbS 0 (s + 1) = 1 := by
  rw [rbS]
theorem rbS_mono {k s t : Nat} (h : s ≤ t) : rbS k s ≤ rbS k t := by
  induction t with
  | zero => rw [show s = 0 by omega]; exact Nat.le_refl _
  | succ t ih =>
    by_cases e : s = t + 1
    · rw [e]; exact Nat.le_refl _
    · refine Nat.le_trans (ih (by omega)) ?_
      cases k with
      | zero =>
        cases t with
        | zero => rw [rbS_zero]; exact Nat.zero_le _
        | succ t => rw [rbS_base, rbS_base]; exact Nat.le_refl 1
      | succ k => rw [rbS_succ]; exact Nat.le_add_right _ _
theorem rbS_one (s : Nat) : rbS 1 s = s := by
  induction s with
  | zero => rw [rbS_zero]
  | succ s ih => rw [rbS_succ, ih, rbS_base]
/-- the last k of n -/
def sxS (g : Nat → Nat) (n : Nat) : Nat → Nat
  | 0 => 0
  | k + 1 => sxS g n k + g (n - k - 1)
def rkS (g : Nat → Nat) (n : Nat) : Nat → Nat
  | 0 => 0
  | k + 1 => rkS g n k + rbS (k + 1) (sxS g n (k + 1))
theorem rkS_lt (g : Nat → Nat) (n : Nat) : ∀ k, rkS g n k < rbS k (sxS g n k + 1) := by
  intro k
  induction k with
  | zero => show 0 < rbS 0 (0 + 1); rw [rbS_base]; omega
  | succ k ih =>
    show rkS g n k + rbS (k + 1) (sxS g n (k + 1)) < rbS (k + 1) (sxS g n (k + 1) + 1)
    rw [rbS_succ]
    have h1 : rbS k (sxS g n k + 1) ≤ rbS k (sxS g n (k + 1) + 1) := rbS_mono (by show sxS g n k + 1 ≤ sxS g n k + g (n - k - 1) + 1; omega)
    omega
theorem rkS_inj {g g' : Nat → Nat} {n : Nat} : ∀ {k : Nat}, rkS g n k = rkS g' n k → sxS g n k = sxS g' n k ∧ ∀ j, j < k → g (n - j - 1) = g' (n - j - 1) := by
  intro k
  induction k with
  | zero => intro _; exact ⟨rfl, fun j hj => by omega⟩
  | succ k ih =>
    intro h
    have h1 := rkS_lt g n (k + 1)
    have h2 := rkS_lt g' n (k + 1)
    have g1 : rbS (k + 1) (sxS g n (k + 1)) ≤ rkS g n (k + 1) := Nat.le_add_left _ _
    have g2 : rbS (k + 1) (sxS g' n (k + 1)) ≤ rkS g' n (k + 1) := Nat.le_add_left _ _
    have hs : sxS g n (k + 1) = sxS g' n (k + 1) := by
      rcases Nat.lt_trichotomy (sxS g n (k + 1)) (sxS g' n (k + 1)) with e | e | e
      · have := rbS_mono (k := k + 1) (show sxS g n (k + 1) + 1 ≤ sxS g' n (k + 1) by omega)
        omega
      · exact e
      · have := rbS_mono (k := k + 1) (show sxS g' n (k + 1) + 1 ≤ sxS g n (k + 1) by omega)
        omega
    have h3 : rkS g n k + rbS (k + 1) (sxS g n (k + 1)) = rkS g' n k + rbS (k + 1) (sxS g' n (k + 1)) := h
    rw [hs] at h3
    obtain ⟨h4, h5⟩ := ih (by omega)
    refine ⟨hs, fun j hj => ?_⟩
    by_cases e : j < k
    · exact h5 j e
    · have : j = k := by omega
      subst this
      have h6 : sxS g n j + g (n - j - 1) = sxS g' n j + g' (n - j - 1) := hs
      omega
theorem sxS_tot {g : Nat → Nat} {n : Nat} : ∀ {k : Nat}, k ≤ n → sxS g n k + totS g (n - k) = totS g n := by
  intro k
  induction k with
  | zero => intro _; show 0 + totS g n = totS g n; omega
  | succ k ih =>
    intro h
    have h1 := ih (by omega)
    have h2 : totS g (n - k) = totS g (n - (k + 1)) + g (n - k - 1) := by
      rw [show n - k = (n - (k + 1)) + 1 by omega]
      show totS g (n - (k + 1)) + g (n - (k + 1)) = _
      congr 2
    show sxS g n k + g (n - k - 1) + totS g (n - (k + 1)) = totS g n
    omega
/-- the class's table -/
def RBk (below : Nat → Int32) : Prop := ∀ i, i < 8 → ∀ s, s < 14 → below (i * 14 + s) = nI (rbS (i + 1) s)
theorem rowsBelow_ok {below : Nat → Int32} (h : RBk below) {k s : Nat} (h1 : 1 ≤ k) (h2 : k ≤ 8) (hs : s < 14) : Ranks_rowsBelow below (nI k) (nI s) = some (nI (rbS k s)) := by
  unfold Ranks_rowsBelow
  have e : (nI k - 1) * 14 + nI s = nI ((k - 1) * 14 + s) := by
    rw [show nI k - 1 = nI (k - 1) from nI_subN (b := 1) h1, show nI (k - 1) * 14 = nI ((k - 1) * 14) from nI_mulN _ 14, nI_ad]
  rw [if_neg (fun z => by have := (nI_leN (b := 0) (by omega) (by omega)).mp z; omega), if_neg (fun z => by have := (nI_ltN (b := 0) (by omega) (by omega)).mp z; omega), if_pos (show nI s < 14 from (nI_ltN (b := 14) (by omega) (by omega)).mpr hs), e, if_pos (show nI ((k - 1) * 14 + s) < 112 from (nI_ltN (b := 112) (by omega) (by omega)).mpr (by omega)), gd_eq (ixN (by omega) (by omega)), nI_clamp (by omega), h (k - 1) (by omega) s hs, show k - 1 + 1 = k by omega]
theorem rank_ok {below row : Nat → Int32} (h : RBk below) {n nr : Nat} (hn : n ≤ 8) (hnr : n ≤ nr) (hr : nr < 2 ^ 31) {g : Nat → Nat} (hg : ∀ w, w < n → row w = nI (g w)) (ht : totS g n ≤ 12) : Ranks_rank below nr row (nI n) = some (nI (rkS g n n)) := by
  unfold Ranks_rank
  have : lp (Ranks_rank_L10 (nI n) below nr row) ((0 : Int32), (0 : Int32), nI n - 1) = some (nI (rkS g n n)) := by
    refine lp_run (fun k => (nI (rkS g n k), nI (sxS g n k), nI (n - k) - 1)) n ?_ ?_
    · intro k hk
      have e1 : nI (n - k) - 1 = nI (n - k - 1) := nI_subN (b := 1) (by omega)
      have hx := sxS_tot (g := g) (show k + 1 ≤ n by omega)
      have hx2 : sxS g n (k + 1) = sxS g n k + g (n - k - 1) := rfl
      unfold Ranks_rank_L10
      show (if nI (n - k) - 1 < 0 then _ else _) = _
      rw [e1, if_neg (fun z => by have := (nI_ltN (b := 0) (by omega) (by omega)).mp z; omega)]
      show gd (ix (nI (n - k - 1)) nr) (ob (Ranks_rowsBelow below (nI n - nI (n - k - 1)) (nI (sxS g n k) + row (nI (n - k - 1)).toNatClampNeg)) fun x2 => some (Sum.inl (nI (rkS g n k) + x2, nI (sxS g n k) + row (nI (n - k - 1)).toNatClampNeg, nI (n - k - 1) + (-1)))) = _
      rw [gd_eq (ixN (by omega) (by omega)), nI_clamp (by omega), hg _ (by omega), nI_subN (by omega), nI_ad, show n - (n - k - 1) = k + 1 by omega, ← hx2, ob_eq (rowsBelow_ok h (by omega) (by omega) (by omega)), nI_ad, show n - k - 1 = n - (k + 1) by omega, show nI (n - (k + 1)) + (-1) = nI (n - (k + 1)) - 1 from (Int32.sub_eq_add_neg _ _).symm]
      rfl
    · unfold Ranks_rank_L10
      exact if_pos (by show nI (n - n) - 1 < 0; rw [Nat.sub_self]; decide)
  rw [ob_eq this]
theorem ranks_row {i : Nat} (hi : i < 8) {b : Nat → Int32} (h1 : ∀ j, j < i → ∀ s, s < 14 → b (j * 14 + s) = nI (rbS (j + 1) s)) (h2 : ∀ j, i ≤ j → j < 8 → b (j * 14) = 0) :
    ∃ b', lp (Ranks_init_L22 (nI i)) ((1 : Int32), b) = some b' ∧ (∀ j, j < i + 1 → ∀ s, s < 14 → b' (j * 14 + s) = nI (rbS (j + 1) s)) ∧ ∀ j, i + 1 ≤ j → j < 8 → b' (j * 14) = 0 := by
  obtain ⟨r, r1, r2⟩ := lp_inv (f := Ranks_init_L22 (nI i)) (fun k s => s.1 = nI k ∧ 1 ≤ k ∧ (∀ j, j < i → ∀ t, t < 14 → s.2 (j * 14 + t) = nI (rbS (j + 1) t)) ∧ (∀ t, t < k → s.2 (i * 14 + t) = nI (rbS (i + 1) t)) ∧ ∀ j, i + 1 ≤ j → j < 8 → s.2 (j * 14) = 0) 14
    (fun r => (∀ j, j < i + 1 → ∀ t, t < 14 → r (j * 14 + t) = nI (rbS (j + 1) t)) ∧ ∀ j, i + 1 ≤ j → j < 8 → r (j * 14) = 0)
    (by
      rintro k ⟨s1, c⟩ hk ⟨e1, e0, e2, e3, e4⟩
      have e1 : s1 = nI k := e1
      subst e1
      have e2 : ∀ j, j < i → ∀ t, t < 14 → c (j * 14 + t) = nI (rbS (j + 1) t) := e2
      have e3 : ∀ t, t < k → c (i * 14 + t) = nI (rbS (i + 1) t) := e3
      have e4 : ∀ j, i + 1 ≤ j → j < 8 → c (j * 14) = 0 := e4
      left
      refine ⟨(nI (k + 1), upd c (i * 14 + k) (nI (rbS (i + 1) k))), ?_, rfl, by omega, ?_, ?_, ?_⟩
      · have q1 : nI i * 14 + nI k = nI (i * 14 + k) := by rw [show nI i * 14 = nI (i * 14) from nI_mulN _ 14, nI_ad]
        unfold Ranks_init_L22
        show (if nI k < 14 then gd (ix (nI i * 14 + nI k - 1) 112) (if nI i = 0 then _ else _) else _) = _
        dsimp only
        rw [if_pos (show nI k < 14 from (nI_ltN (b := 14) (by omega) (by omega)).mpr hk), q1, show nI (i * 14 + k) - 1 = nI (i * 14 + k - 1) from nI_subN (b := 1) (by omega), gd_eq (ixN (by omega) (by omega))]
        unfold Ranks_init_L22_J75
        by_cases hi0 : i = 0
        · subst hi0
          rw [if_pos (show nI 0 = 0 from rfl), gd_eq (ixN (by omega) (by omega)), nI_clamp (by omega), rbS_one]
          show some (Sum.inl (nI k + 1, _)) = _
          rw [show nI k + 1 = nI (k + 1) from nI_ad k 1]
        · have q2 : (nI i - 1) * 14 + nI k = nI ((i - 1) * 14 + k) := by
            rw [show nI i - 1 = nI (i - 1) from nI_subN (b := 1) (by omega), show nI (i - 1) * 14 = nI ((i - 1) * 14) from nI_mulN _ 14, nI_ad]
          rw [if_neg (nI_ne0 (by omega) (by omega)), q2, gd_eq (ixN (by omega) (by omega)), gd_eq (ixN (by omega) (by omega)), nI_clamp (by omega), nI_clamp (by omega), nI_clamp (by omega)]
          show some (Sum.inl (nI k + 1, upd c (i * 14 + k) (c (i * 14 + k - 1) + c ((i - 1) * 14 + k)))) = _
          rw [show i * 14 + k - 1 = i * 14 + (k - 1) by omega, e3 (k - 1) (by omega), e2 (i - 1) (by omega) k hk, show i - 1 + 1 = i by omega, nI_ad, show nI k + 1 = nI (k + 1) from nI_ad k 1]
          obtain ⟨k', rfl⟩ : ∃ k', k = k' + 1 := ⟨k - 1, by omega⟩
          rw [show k' + 1 - 1 = k' by omega, ← rbS_succ]
      · intro j hj t ht
        show upd c (i * 14 + k) (nI (rbS (i + 1) k)) (j * 14 + t) = _
        rw [upd_ne (by omega)]
        exact e2 j hj t ht
      · intro t ht
        show upd c (i * 14 + k) (nI (rbS (i + 1) k)) (i * 14 + t) = _
        by_cases e : t = k
        · subst e; rw [upd_at]
        · rw [upd_ne (by omega)]; exact e3 t (by omega)
      · intro j hj hj8
        show upd c (i * 14 + k) (nI (rbS (i + 1) k)) (j * 14) = 0
        rw [upd_ne (by omega)]; exact e4 j hj hj8)
    (by
      rintro ⟨s1, c⟩ ⟨e1, e0, e2, e3, e4⟩
      have e1 : s1 = nI 14 := e1
      subst e1
      refine ⟨c, ?_, fun j hj t ht => ?_, e4⟩
      · unfold Ranks_init_L22
        exact if_neg (show ¬ nI 14 < 14 by decide)
      · by_cases e : j < i
        · exact e2 j e t ht
        · rw [show j = i by omega]; exact e3 t ht)
    1 ((1 : Int32), b) (by omega) ⟨rfl, by omega, h1, fun t ht => by
      rw [show t = 0 by omega, rbS_zero]
      exact h2 i (by omega) hi, fun j hj hj8 => h2 j (by omega) hj8⟩
  exact ⟨r, r1, r2⟩
theorem ranks_ok : ∃ b, Ranks_init = some b ∧ RBk b := by
  obtain ⟨r, r1, r2⟩ := lp_inv (f := Ranks_init_L14) (fun k s => s.1 = nI k ∧ (∀ j, j < k → ∀ t, t < 14 → s.2 (j * 14 + t) = nI (rbS (j + 1) t)) ∧ ∀ j, k ≤ j → j < 8 → s.2 (j * 14) = 0) 8 RBk
    (by
      rintro k ⟨s1, c⟩ hk ⟨e1, e2, e3⟩
      have e1 : s1 = nI k := e1
      subst e1
      left
      obtain ⟨b', b1, b2, b3⟩ := ranks_row hk e2 e3
      refine ⟨(nI (k + 1), b'), ?_, rfl, b2, b3⟩
      unfold Ranks_init_L14
      show (if nI k < 8 then ob (lp (Ranks_init_L22 (nI k)) ((1 : Int32), c)) _ else _) = _
      rw [if_pos (show nI k < 8 from (nI_ltN (b := 8) (by omega) (by omega)).mpr hk), ob_eq b1]
      show some (Sum.inl (nI k + 1, b')) = _
      rw [show nI k + 1 = nI (k + 1) from nI_ad k 1])
    (by
      rintro ⟨s1, c⟩ ⟨e1, e2, -⟩
      have e1 : s1 = nI 8 := e1
      subst e1
      refine ⟨c, ?_, e2⟩
      unfold Ranks_init_L14
      exact if_neg (show ¬ nI 8 < 8 by decide))
    0 ((0 : Int32), fun _ => 0) (by omega) ⟨rfl, fun j hj => by omega, fun _ _ _ => rfl⟩
  exact ⟨r, r1, r2⟩
