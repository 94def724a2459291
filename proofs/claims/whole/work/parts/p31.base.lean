/-! NUMBERS OF 32 BITS; LOOPS; WELLS -/
theorem nI_ad (a b : Nat) : nI a + nI b = nI (a + b) := (Int32.ofNat_add a b).symm
theorem nI_subN {a b : Nat} (h : b ≤ a) : nI a - nI b = nI (a - b) := (Int32.ofNat_sub a b h).symm
theorem nI_mulN (a b : Nat) : nI a * nI b = nI (a * b) := (Int32.ofNat_mul a b).symm
theorem nI_ltN {a b : Nat} (ha : a < 2 ^ 31) (hb : b < 2 ^ 31) : nI a < nI b ↔ a < b := Int32.ofNat_lt_iff_lt ha hb
theorem nI_leN {a b : Nat} (ha : a < 2 ^ 31) (hb : b < 2 ^ 31) : nI a ≤ nI b ↔ a ≤ b := Int32.ofNat_le_iff_le ha hb
theorem nI_inj {a b : Nat} (ha : a < 2 ^ 31) (hb : b < 2 ^ 31) : nI a = nI b ↔ a = b := by
  constructor
  · intro h
    have h1 := congrArg Int32.toInt h
    rw [nI_toInt ha, nI_toInt hb] at h1
    omega
  · intro h; rw [h]
theorem nI_nn {x : Int32} (h : ¬ x < 0) : x = nI x.toNatClampNeg ∧ x.toNatClampNeg < 2 ^ 31 := ⟨(Int32.ofNat_toNatClampNeg x (Int32.not_lt.mp h)).symm, Int32.toNatClampNeg_lt x⟩
theorem ixN {c n : Nat} (h : c < n) (hn : n < 2 ^ 31) : ix (nI c) n = true := by
  unfold ix
  have h1 : ¬ nI c < 0 := nI_pos (by omega)
  have h2 : ¬ n ≤ (nI c).toNatClampNeg := by rw [nI_clamp (by omega)]; omega
  rw [decide_eq_false h1]
  have : Nat.ble n (nI c).toNatClampNeg = false := by
    cases h3 : Nat.ble n (nI c).toNatClampNeg with
    | false => rfl
    | true => exact absurd (Nat.le_of_ble_eq_true h3) h2
  rw [this]; rfl
theorem ob_eq {α β : Type} {e : Option α} {a : α} {k : α → Option β} (h : e = some a) : ob e k = k a := by rw [h]; rfl
theorem gd_eq {β : Type} {b : Bool} {k : Option β} (h : b = true) : gd b k = k := by rw [h]; rfl
/-- a loop whose states are known -/
theorem lp_run {σ ρ : Type} {f : σ → Option (σ ⊕ ρ)} (S : Nat → σ) (N : Nat) {r : ρ} (hs : ∀ k, k < N → f (S k) = some (.inl (S (k + 1)))) (he : f (S N) = some (.inr r)) : lp f (S 0) = some r := by
  have key : ∀ k, k ≤ N → lp f (S (N - k)) = some r := by
    intro k
    induction k with
    | zero => intro _; exact lp_inr he
    | succ k ih =>
      intro hk
      have h1 := hs (N - (k + 1)) (by omega)
      rw [show N - (k + 1) + 1 = N - k by omega] at h1
      exact lp_inl h1 (ih (by omega))
  have := key N (Nat.le_refl _)
  rw [Nat.sub_self] at this
  exact this
/-- the same, begun at a number -/
theorem lp_from {σ ρ : Type} {f : σ → Option (σ ⊕ ρ)} (S : Nat → σ) {a N : Nat} (ha : a ≤ N) {r : ρ} (hs : ∀ k, a ≤ k → k < N → f (S k) = some (.inl (S (k + 1)))) (he : f (S N) = some (.inr r)) : lp f (S a) = some r := by
  have := lp_run (f := f) (fun k => S (a + k)) (N - a) (r := r) (fun k hk => by
    have := hs (a + k) (by omega) (by omega)
    rw [show a + (k + 1) = a + k + 1 by omega]; exact this) (by
    show f (S (a + (N - a))) = _
    rw [show a + (N - a) = N by omega]; exact he)
  exact this
/-- a loop by an invariant: what it ends with -/
theorem lp_inv {σ ρ : Type} {f : σ → Option (σ ⊕ ρ)} (I : Nat → σ → Prop) (N : Nat) (P : ρ → Prop) (hs : ∀ k s, k < N → I k s → (∃ s', f s = some (.inl s') ∧ I (k + 1) s') ∨ ∃ r, f s = some (.inr r) ∧ P r) (he : ∀ s, I N s → ∃ r, f s = some (.inr r) ∧ P r) : ∀ k s, k ≤ N → I k s → ∃ r, lp f s = some r ∧ P r := by
  have key : ∀ m k s, k + m = N → I k s → ∃ r, lp f s = some r ∧ P r := by
    intro m
    induction m with
    | zero =>
      intro k s hk hI
      have : k = N := by omega
      subst this
      obtain ⟨r, h1, h2⟩ := he s hI
      exact ⟨r, lp_inr h1, h2⟩
    | succ m ih =>
      intro k s hk hI
      rcases hs k s (by omega) hI with ⟨s', h1, h2⟩ | ⟨r, h1, h2⟩
      · obtain ⟨r, h3, h4⟩ := ih (k + 1) s' (by omega) h2
        exact ⟨r, lp_inl h1 h3, h4⟩
      · exact ⟨r, lp_inr h1, h2⟩
  exact fun k s hk hI => key (N - k) k s (by omega) hI
theorem upd_at (f : Nat → Int32) (k : Nat) (x : Int32) : upd f k x k = x := if_pos rfl
theorem upd_ne {f : Nat → Int32} {k j : Nat} {x : Int32} (h : j ≠ k) : upd f k x j = f j := if_neg h
/-- filled up to k -/
def filled (f : Nat → Int32) (v : Int32) (k : Nat) : Nat → Int32 := fun j => if j < k then v else f j
theorem filled_succ (f : Nat → Int32) (v : Int32) (k : Nat) : upd (filled f v k) k v = filled f v (k + 1) := by
  funext j
  unfold upd filled
  by_cases h : j = k
  · subst h; simp
  · by_cases h2 : j < k
    · simp [h, h2, show j < k + 1 by omega]
    · simp [h, h2, show ¬ j < k + 1 by omega]
theorem filled_zero (f : Nat → Int32) (v : Int32) : filled f v 0 = f := by
  funext j; simp [filled]
theorem Arrays_fill_eq {n : Nat} (hn : n < 2 ^ 31) (f : Nat → Int32) (v : Int32) : Arrays_fill n f v = some (filled f v n) := by
  unfold Arrays_fill
  refine (ob_eq (a := filled f v n) ?_).trans rfl
  have := lp_run (f := Arrays_fill_L5 v (Int32.ofNat n) n) (fun k => (nI k, filled f v k)) n (r := filled f v n) (fun k hk => ?_) ?_
  · rw [filled_zero] at this; exact this
  · show (if nI k < nI n then _ else _) = _
    rw [if_pos ((nI_ltN (by omega) hn).mpr hk), gd_eq (ixN hk hn)]
    show some (Sum.inl (nI k + nI 1, upd (filled f v k) (nI k).toNatClampNeg v)) = _
    rw [nI_clamp (by omega), nI_ad, filled_succ]
  · show (if nI n < nI n then _ else _) = _
    rw [if_neg (fun h => absurd ((nI_ltN hn hn).mp h) (by omega))]
/-- a WELL, or none -/
theorem has_yes {w n : Nat} (hw : w < n) (hn : n ≤ 12) : Land_has (nI n) (nI w) = some 1 := by
  unfold Land_has
  rw [if_neg (nI_pos (by omega)), if_pos ((nI_ltN (by omega) (by omega)).mpr hw)]
theorem isWell_yes {w n : Nat} (hw : w < n) (hn : n ≤ 12) : Mo_isWell (nI n) (nI w) = some 1 := by
  unfold Mo_isWell Mo_in
  have h1 : nI n - 1 = nI (n - 1) := nI_subN (b := 1) (by omega)
  rw [if_neg (nI_pos (by omega)), h1, if_pos ((nI_leN (by omega) (by omega)).mpr (by omega))]
  rfl
theorem has_no {a : Int32} {n : Nat} (hn : n ≤ 12) (h : ∀ w, w < n → ¬ a = nI w) : Land_has (nI n) a = some 0 := by
  unfold Land_has Land_has_J16
  by_cases h0 : a < 0
  · rw [if_pos h0]
  · rw [if_neg h0]
    obtain ⟨e, hl⟩ := nI_nn h0
    rw [e, if_neg]
    intro h1
    exact h _ ((nI_ltN hl (by omega)).mp h1) e
theorem isWell_no {a : Int32} {n : Nat} (hn : n ≤ 12) (h : ∀ w, w < n → ¬ a = nI w) : Mo_isWell (nI n) a = some 0 := by
  unfold Mo_isWell Mo_in Mo_in_J14
  by_cases h0 : a < 0
  · rw [if_pos h0]; rfl
  · rw [if_neg h0]
    obtain ⟨e, hl⟩ := nI_nn h0
    have h2 : ¬ a ≤ nI n - 1 := by
      intro h1
      by_cases hz : n = 0
      · subst hz
        rw [e] at h1
        have h3 := Int32.le_iff_toInt_le.mp h1
        rw [nI_toInt hl] at h3
        have : (nI 0 - 1 : Int32).toInt = -1 := by decide
        omega
      · rw [nI_subN (b := 1) (by omega) |> fun z => (show nI n - 1 = nI (n - 1) from z), e] at h1
        exact h _ (by have := (nI_leN hl (by omega)).mp h1; omega) e
    rw [if_neg h2]; rfl
theorem well_cases (a : Int32) {n : Nat} (hn : n ≤ 12) : (∃ w, w < n ∧ a = nI w ∧ Land_has (nI n) a = some 1 ∧ Mo_isWell (nI n) a = some 1) ∨ (Land_has (nI n) a = some 0 ∧ Mo_isWell (nI n) a = some 0 ∧ ∀ w, w < n → ¬ a = nI w) := by
  by_cases h : ∃ w, w < n ∧ a = nI w
  · obtain ⟨w, h1, h2⟩ := h
    refine Or.inl ⟨w, h1, h2, ?_, ?_⟩
    · rw [h2]; exact has_yes h1 hn
    · rw [h2]; exact isWell_yes h1 hn
  · have h2 : ∀ w, w < n → ¬ a = nI w := fun w h1 h2 => h ⟨w, h1, h2⟩
    exact Or.inr ⟨has_no hn h2, isWell_no hn h2, h2⟩
theorem one_ne0 : ¬ (1 : Int32) = 0 := by decide
/-- two loops side by side -/
theorem lp_sim {σ τ ρ ρ' : Type} {f : σ → Option (σ ⊕ ρ)} {g : τ → Option (τ ⊕ ρ')} (R : Nat → σ → τ → Prop) (N : Nat) (P : ρ → ρ' → Prop)
    (hs : ∀ k s t, k < N → R k s t → (∃ s' t', f s = some (.inl s') ∧ g t = some (.inl t') ∧ R (k + 1) s' t') ∨ ∃ r r', f s = some (.inr r) ∧ g t = some (.inr r') ∧ P r r')
    (he : ∀ s t, R N s t → ∃ r r', f s = some (.inr r) ∧ g t = some (.inr r') ∧ P r r') : ∀ k s t, k ≤ N → R k s t → ∃ r r', lp f s = some r ∧ lp g t = some r' ∧ P r r' := by
  have key : ∀ m k s t, k + m = N → R k s t → ∃ r r', lp f s = some r ∧ lp g t = some r' ∧ P r r' := by
    intro m
    induction m with
    | zero =>
      intro k s t hk hI
      have : k = N := by omega
      subst this
      obtain ⟨r, r', h1, h2, h3⟩ := he s t hI
      exact ⟨r, r', lp_inr h1, lp_inr h2, h3⟩
    | succ m ih =>
      intro k s t hk hI
      rcases hs k s t (by omega) hI with ⟨s', t', h1, h2, h3⟩ | ⟨r, r', h1, h2, h3⟩
      · obtain ⟨r, r', h4, h5, h6⟩ := ih (k + 1) s' t' (by omega) h3
        exact ⟨r, r', lp_inl h1 h4, lp_inl h2 h5, h6⟩
      · exact ⟨r, r', lp_inr h1, lp_inr h2, h3⟩
  exact fun k s t hk hI => key (N - k) k s t (by omega) hI
theorem Mo_in_yes {a l h : Int32} (h1 : ¬ a < l) (h2 : a ≤ h) : Mo_in a l h = some 1 := by
  unfold Mo_in; rw [if_neg h1, if_pos h2]
theorem Mo_in_no1 {a l h : Int32} (h1 : a < l) : Mo_in a l h = some 0 := by
  unfold Mo_in Mo_in_J14; rw [if_pos h1]
theorem Mo_in_no2 {a l h : Int32} (h1 : ¬ a ≤ h) : Mo_in a l h = some 0 := by
  unfold Mo_in Mo_in_J14
  by_cases h2 : a < l
  · rw [if_pos h2]
  · rw [if_neg h2, if_neg h1]
theorem nI_between {a : Int32} {h : Nat} (hh : h < 2 ^ 31) (h1 : ¬ a < 0) (h2 : a ≤ nI h) : ∃ k, k ≤ h ∧ a = nI k := by
  obtain ⟨e, hl⟩ := nI_nn h1
  refine ⟨a.toNatClampNeg, ?_, e⟩
  rw [e] at h2
  exact (nI_leN hl hh).mp h2
