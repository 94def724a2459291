/-! TEXTS: what both read at a place; digits; letters -/
/-- two loops side by side, each ending in its own time -/
theorem lp_sim2 {σ τ ρ ρ' : Type} {f : σ → Option (σ ⊕ ρ)} {g : τ → Option (τ ⊕ ρ')} (R : Nat → σ → τ → Prop) (N : Nat) (P : ρ → ρ' → Prop)
    (hs : ∀ k s t, k < N → R k s t → (∃ s' t', f s = some (.inl s') ∧ g t = some (.inl t') ∧ R (k + 1) s' t') ∨ ∃ r r', lp f s = some r ∧ lp g t = some r' ∧ P r r')
    (he : ∀ s t, R N s t → ∃ r r', lp f s = some r ∧ lp g t = some r' ∧ P r r') : ∀ k s t, k ≤ N → R k s t → ∃ r r', lp f s = some r ∧ lp g t = some r' ∧ P r r' := by
  have key : ∀ m k s t, k + m = N → R k s t → ∃ r r', lp f s = some r ∧ lp g t = some r' ∧ P r r' := by
    intro m
    induction m with
    | zero =>
      intro k s t hk hI
      have : k = N := by omega
      subst this
      exact he s t hI
    | succ m ih =>
      intro k s t hk hI
      rcases hs k s t (by omega) hI with ⟨s', t', h1, h2, h3⟩ | h
      · obtain ⟨r, r', h4, h5, h6⟩ := ih (k + 1) s' t' (by omega) h3
        exact ⟨r, r', lp_inl h1 h4, lp_inl h2 h5, h6⟩
      · exact h
  exact fun k s t hk hI => key (N - k) k s t (by omega) hI
theorem lp_next {σ ρ : Type} {f : σ → Option (σ ⊕ ρ)} {s s' : σ} (h : f s = some (.inl s')) {r : ρ} (h2 : lp f s = some r) : lp f s' = some r := by
  obtain ⟨n, hn⟩ := lp_to h2
  cases n with
  | zero => cases hn
  | succ n => rw [lpn, h] at hn; exact lp_of hn
/-- a tape of which E bytes are read -/
def TX (bytes tape : Nat → Int32) (E : Nat) : Prop := E ≤ 260 ∧ ∀ i, i < E → bytes i = tape i &&& 255
def ch (bytes : Nat → Int32) (E i : Nat) : Int32 := if i < E then bytes i else -1
section TXT
variable {bytes tape : Nat → Int32} {E : Nat}
theorem peek_eq (hE : E ≤ 260) {i : Nat} (hi : i < 2 ^ 31) : Tape_peek bytes (nI E) (nI i) = some (ch bytes E i) := by
  unfold Tape_peek Tape_peek_J35 ch
  by_cases h : i < E
  · rw [if_pos ((nI_ltN hi (by omega)).mpr h), if_pos (show nI i < 260 from (nI_ltN (b := 260) hi (by decide)).mpr (by omega)), gd_eq (ixN (by omega) (by decide)), nI_clamp hi, if_pos h]
  · rw [if_neg (fun z => h ((nI_ltN hi (by omega)).mp z)), if_neg h]
theorem here_eq (hT : TX bytes tape E) {i : Nat} (hi : i < 2 ^ 31) : Mo_here tape (nI i) (nI E) = some (ch bytes E i) := by
  have hE := hT.1
  unfold Mo_here ch
  by_cases h : i < E
  · rw [if_pos ((nI_ltN hi (by omega)).mpr h), gd_eq (ixN (by omega) (by decide)), nI_clamp hi, if_pos h, hT.2 i h]
  · rw [if_neg (fun z => h ((nI_ltN hi (by omega)).mp z)), if_neg h]
theorem peek_dead {i : Nat} (hi : i < 2 ^ 31) : Tape_peek bytes 0 (nI i) = some (-1) := by
  unfold Tape_peek Tape_peek_J35
  rw [if_neg (nI_pos hi)]
/-- what stands at a place: nothing, or a byte -/
theorem ch_cases (hT : TX bytes tape E) (i : Nat) : ch bytes E i = -1 ∨ (i < E ∧ ∃ b, b ≤ 255 ∧ ch bytes E i = nI b) := by
  unfold ch
  by_cases h : i < E
  · rw [if_pos h, hT.2 i h]; exact Or.inr ⟨h, byte_le _⟩
  · rw [if_neg h]; exact Or.inl rfl
def isD (c : Int32) : Bool := decide (¬ c < 48 ∧ c ≤ 57)
theorem isD_of {c : Int32} (h : isD c = true) : ¬ c < 48 ∧ c ≤ 57 := of_decide_eq_true h
theorem isD_to {c : Int32} (h : ¬ c < 48 ∧ c ≤ 57) : isD c = true := decide_eq_true h
theorem isD_lt (hT : TX bytes tape E) {i : Nat} (h : isD (ch bytes E i) = true) : i < E ∧ ∃ d, d ≤ 9 ∧ ch bytes E i = nI (48 + d) := by
  rcases ch_cases hT i with e | ⟨h1, b, hb, e⟩
  · rw [e] at h; exact absurd h (by decide)
  · have h := isD_of h
    rw [e] at h ⊢
    have h2 : 48 ≤ b := by
      rcases Nat.lt_or_ge b 48 with z | z
      · exact absurd ((nI_ltN (b := 48) (show b < 2 ^ 31 by omega) (by decide)).mpr z) h.1
      · exact z
    have h3 : b ≤ 57 := (nI_leN (b := 57) (by omega) (by decide)).mp h.2
    exact ⟨h1, b - 48, by omega, by rw [show 48 + (b - 48) = b by omega]⟩
theorem isDigit_eq (c : Int32) : Tape_isDigit c = some (if isD c then 1 else 0) := by
  unfold Tape_isDigit Tape_isDigit_J16
  by_cases h : c < 48
  · rw [if_pos h, if_neg (fun z => (isD_of z).1 h)]
  · rw [if_neg h]
    by_cases h2 : c ≤ 57
    · rw [if_pos h2, if_pos (isD_to ⟨h, h2⟩)]
    · rw [if_neg h2, if_neg (fun z => h2 (isD_of z).2)]
theorem Mo_isDigit_eq (hT : TX bytes tape E) {i : Nat} (hi : i < 2 ^ 31) : Mo_isDigit tape (nI i) (nI E) = some (if isD (ch bytes E i) then 1 else 0) := by
  unfold Mo_isDigit Mo_isDigit_J22
  rw [ob_eq (here_eq hT hi)]
  by_cases h : ch bytes E i < 48
  · rw [if_pos h, if_neg (fun z => (isD_of z).1 h)]
  · rw [if_neg h, ob_eq (here_eq hT hi)]
    by_cases h2 : ch bytes E i ≤ 57
    · rw [if_pos h2, if_pos (isD_to ⟨h, h2⟩)]
    · rw [if_neg h2, if_neg (fun z => h2 (isD_of z).2)]
/-- so many digits, at most m -/
theorem dig_ex (c : Nat → Int32) (i : Nat) : ∀ m, ∃ D, D ≤ m ∧ (∀ k, k < D → isD (c (i + k)) = true) ∧ (D < m → ¬ isD (c (i + D)) = true) := by
  intro m
  induction m with
  | zero => exact ⟨0, Nat.le_refl _, fun k h => by omega, fun h => by omega⟩
  | succ m ih =>
    obtain ⟨D, h1, h2, h3⟩ := ih
    by_cases e : D < m
    · exact ⟨D, by omega, h2, fun _ => h3 e⟩
    · have : D = m := by omega
      subst this
      by_cases h : isD (c (i + D)) = true
      · refine ⟨D + 1, Nat.le_refl _, fun k hk => ?_, fun h => by omega⟩
        by_cases e2 : k = D
        · subst e2; exact h
        · exact h2 k (by omega)
      · exact ⟨D, by omega, h2, fun _ => h⟩
/-- what the first k digits say -/
def dval (c : Nat → Int32) (i : Nat) : Nat → Nat
  | 0 => 0
  | k + 1 => dval c i k * 10 + ((c (i + k)).toNatClampNeg - 48)
theorem dval_lt {c : Nat → Int32} {i : Nat} : ∀ {D : Nat}, (∀ k, k < D → ∃ d, d ≤ 9 ∧ c (i + k) = nI (48 + d)) → dval c i D + 1 ≤ 10 ^ D := by
  intro D
  induction D with
  | zero => intro _; exact Nat.le_refl _
  | succ D ih =>
    intro h
    have h1 := ih (fun k hk => h k (by omega))
    obtain ⟨d, h2, h3⟩ := h D (by omega)
    unfold dval
    rw [h3, nI_clamp (by omega), Nat.pow_succ]
    omega
theorem dval_step {c : Nat → Int32} {i k d : Nat} (hd : d ≤ 9) (h : c (i + k) = nI (48 + d)) : nI (dval c i k) * 10 + c (i + k) - 48 = nI (dval c i (k + 1)) := by
  have e : dval c i (k + 1) = dval c i k * 10 + ((c (i + k)).toNatClampNeg - 48) := rfl
  rw [e, h, nI_clamp (by omega), show nI (dval c i k) * 10 = nI (dval c i k * 10) from nI_mulN _ 10, nI_ad]
  rw [show nI (dval c i k * 10 + (48 + d)) - 48 = nI (dval c i k * 10 + (48 + d) - 48) from nI_subN (b := 48) (by omega)]
  congr 1; omega
/-- the class reads digits -/
theorem digits_loop (hT : TX bytes tape E) {i m D : Nat} (v3 : Int32) (hm : m ≤ 9) (hi : i < 1000) (h1 : D ≤ m) (h2 : ∀ k, k < D → isD (ch bytes E (i + k)) = true) (h3 : D < m → ¬ isD (ch bytes E (i + D)) = true) :
    lp (Tape_digits_L10 (nI m) v3 bytes (nI E)) (0, 0, nI i) = some (nI (dval (ch bytes E) i D), nI (i + D)) := by
  have hE := hT.1
  refine lp_run (f := Tape_digits_L10 (nI m) v3 bytes (nI E)) (fun k => (nI (dval (ch bytes E) i k), nI k, nI (i + k))) D (fun k hk => ?_) ?_
  · have hd := h2 k hk
    obtain ⟨-, d, hd1, hd2⟩ := isD_lt hT hd
    unfold Tape_digits_L10
    refine (if_pos ((nI_ltN (by omega) (by omega)).mpr (show k < m by omega))).trans ((ob_eq (peek_eq hE (by omega))).trans ((ob_eq (isDigit_eq _)).trans ?_))
    rw [if_pos hd, if_neg one_ne0]
    refine (ob_eq (peek_eq hE (by omega))).trans ?_
    show some (Sum.inl (nI (dval (ch bytes E) i k) * 10 + ch bytes E (i + k) - 48, nI k + nI 1, nI (i + k) + nI 1)) = _
    rw [dval_step hd1 hd2, nI_ad, nI_ad]
    rfl
  · unfold Tape_digits_L10
    by_cases e : D < m
    · refine (if_pos ((nI_ltN (by omega) (by omega)).mpr e)).trans ((ob_eq (peek_eq hE (by omega))).trans ((ob_eq (isDigit_eq _)).trans ?_))
      rw [if_neg (h3 e), if_pos rfl]
    · exact if_neg (fun z => e ((nI_ltN (by omega) (by omega)).mp z))
theorem fail0 (e a b : Int32) : Tape_fail e 0 a b = some (0, ((-1000) * a) - b) := if_pos rfl
theorem failN {e f : Int32} (h : ¬ f = 0) (a b : Int32) : Tape_fail e f a b = some (e, f) := if_neg h
/-- a fault -/
def flt (a i : Nat) : Int32 := (-1000) * nI a - nI i
theorem flt_ne {a i : Nat} (h : 0 < 1000 * a + i) (h2 : 1000 * a + i < 2 ^ 31) : ¬ flt a i = 0 := by
  intro e
  unfold flt at e
  have e2 : (-1000 : Int32) * nI a - nI i = -(nI (1000 * a + i)) := by
    rw [← nI_ad, ← nI_mulN, Int32.neg_add]
    show _ = -(nI 1000 * nI a) - nI i
    rw [← Int32.neg_mul]
    rfl
  rw [e2] at e
  have e3 : nI (1000 * a + i) = nI 0 := by
    have := congrArg (fun x : Int32 => -x) e
    exact (by simpa using this : nI (1000 * a + i) = 0)
  have := (nI_inj h2 (by decide)).mp e3
  omega
theorem digits_eq (hT : TX bytes tape E) {i m D : Nat} (hm : m ≤ 9) (hi : i < 1000) (h1 : D ≤ m) (h2 : ∀ k, k < D → isD (ch bytes E (i + k)) = true) (h3 : D < m → ¬ isD (ch bytes E (i + D)) = true) :
    Tape_digits bytes (nI E) (nI i) 0 (nI m) = some (if D = 0 then (0, 0, nI i, flt 1 i) else if isD (ch bytes E (i + D)) then (nI (dval (ch bytes E) i D), 0, nI (i + D), flt 2 (i + D)) else (nI (dval (ch bytes E) i D), nI E, nI (i + D), 0)) := by
  have hE := hT.1
  unfold Tape_digits Tape_digits_J55
  refine (ob_eq (digits_loop hT (nI i) hm hi h1 h2 h3)).trans ?_
  by_cases e : D = 0
  · subst e
    rw [if_pos rfl]
    exact if_pos rfl
  · rw [if_neg e]
    refine (if_neg (fun z => e (by have := (nI_inj (by omega) (by omega)).mp z; omega))).trans ((ob_eq (peek_eq hE (by omega))).trans ((ob_eq (isDigit_eq _)).trans ?_))
    by_cases h : isD (ch bytes E (i + D)) = true
    · rw [if_pos h, if_neg one_ne0, if_pos h]; rfl
    · rw [if_neg h, if_pos rfl, if_neg h]
theorem digits_dead {i : Nat} (hi : i < 2 ^ 31) {f : Int32} (hf : ¬ f = 0) (m : Int32) : Tape_digits bytes 0 (nI i) f m = some (0, 0, nI i, f) := by
  unfold Tape_digits Tape_digits_J55
  have h1 : lp (Tape_digits_L10 m (nI i) bytes 0) (0, 0, nI i) = some (0, nI i) := by
    refine lp_inr ?_
    unfold Tape_digits_L10
    by_cases h : (0 : Int32) < m
    · exact (if_pos h).trans ((ob_eq (peek_dead hi)).trans ((ob_eq (isDigit_eq _)).trans rfl))
    · exact if_neg h
  refine (ob_eq h1).trans ((if_pos rfl).trans ((ob_eq (failN hf _ _)).trans rfl))
/-- the reference reads a number between a and b -/
theorem within_eq (hT : TX bytes tape E) {i D : Nat} (hi : i < 1000) (h1 : D ≤ 2) (h2 : ∀ k, k < D → isD (ch bytes E (i + k)) = true) (h3 : D < 2 → ¬ isD (ch bytes E (i + D)) = true) (f num a b : Int32) :
    ∃ p n', Mo_readsWithin tape (nI i) (nI E) f num a b = some (if D = 0 then (0, nI i, flt 1 i, num) else if isD (ch bytes E (i + D)) then (0, p, flt 2 (i + D), n') else if ¬ nI (dval (ch bytes E) i D) < a ∧ nI (dval (ch bytes E) i D) ≤ b then (1, nI (i + D), f, nI (dval (ch bytes E) i D)) else (0, p, flt 3 i, n')) := by
  unfold Mo_readsWithin Mo_readsWithin_J107
  rw [ob_eq (Mo_isDigit_eq hT (by omega))]
  by_cases e : D = 0
  · subst e
    refine ⟨0, 0, ?_⟩
    rw [if_neg (show ¬ isD (ch bytes E i) = true from h3 (by omega)), if_pos rfl, if_pos rfl]
    rfl
  · rw [if_pos (show isD (ch bytes E i) = true from h2 0 (by omega)), if_neg one_ne0]
    have hloop : lp (Mo_readsWithin_L27 a b (nI i) tape (nI E)) (nI i, 0) = some (if isD (ch bytes E (i + D)) then .inl (nI (i + D), nI (dval (ch bytes E) i D)) else .inr (nI (i + D), nI (dval (ch bytes E) i D))) := by
      refine lp_run (f := Mo_readsWithin_L27 a b (nI i) tape (nI E)) (fun k => (nI (i + k), nI (dval (ch bytes E) i k))) D (fun k hk => ?_) ?_
      · have hd := h2 k hk
        obtain ⟨-, d, hd1, hd2⟩ := isD_lt hT hd
        unfold Mo_readsWithin_L27
        refine (ob_eq (Mo_isDigit_eq hT (by omega))).trans ?_
        rw [if_pos hd, if_neg one_ne0]
        refine (if_neg (fun z => ?_)).trans ((ob_eq (here_eq hT (by omega))).trans ?_)
        · have z : nI (i + k) = nI (i + 2) := (show nI (i + k) = nI i + 2 from z).trans (nI_ad i 2)
          have := (nI_inj (by omega) (by omega)).mp z
          omega
        · show some (Sum.inl (nI (i + k) + nI 1, 10 * nI (dval (ch bytes E) i k) + ch bytes E (i + k) - 48)) = _
          rw [Int32.mul_comm 10, dval_step hd1 hd2, nI_ad]
          rfl
      · unfold Mo_readsWithin_L27
        refine (ob_eq (Mo_isDigit_eq hT (by omega))).trans ?_
        by_cases h : isD (ch bytes E (i + D)) = true
        · have hD : D = 2 := by
            rcases Nat.lt_or_ge D 2 with h4 | h4
            · exact absurd h (h3 h4)
            · omega
          rw [if_pos h, if_neg one_ne0, if_pos h]
          exact if_pos (by subst hD; exact (nI_ad i 2).symm)
        · rw [if_neg h, if_pos rfl, if_neg h]
    refine ⟨nI (i + D), nI (dval (ch bytes E) i D), ?_⟩
    rw [if_neg e]
    refine (ob_eq hloop).trans ?_
    by_cases h : isD (ch bytes E (i + D)) = true
    · rw [if_pos h, if_pos h]; rfl
    · rw [if_neg h, if_neg h]
      show ob (Mo_in (nI (dval (ch bytes E) i D)) a b) _ = _
      by_cases ha : nI (dval (ch bytes E) i D) < a
      · rw [if_neg (fun z => z.1 ha)]
        exact (ob_eq (Mo_in_no1 ha)).trans rfl
      · by_cases hb : nI (dval (ch bytes E) i D) ≤ b
        · rw [if_pos ⟨ha, hb⟩]
          exact (ob_eq (Mo_in_yes ha hb)).trans rfl
        · rw [if_neg (fun z => hb z.2)]
          exact (ob_eq (Mo_in_no2 hb)).trans rfl
/-- a letter a to l -/
theorem letter_cases (hT : TX bytes tape E) {i : Nat} (hi : i < 1000) :
    (∃ w, w < 12 ∧ i < E ∧ ch bytes E i = nI (97 + w) ∧ (∀ f, Tape_letter bytes (nI E) (nI i) f = some (nI w, nI E, nI (i + 1), f)) ∧ Mo_isLetter tape (nI i) (nI E) = some 1 ∧ ch bytes E i - 97 = nI w) ∨
    ((∀ w, w < 12 → ¬ ch bytes E i = nI (97 + w)) ∧ Tape_letter bytes (nI E) (nI i) 0 = some (-1, 0, nI i, flt 1 i) ∧ Mo_isLetter tape (nI i) (nI E) = some 0) := by
  have hE := hT.1
  by_cases h : ∃ w, w < 12 ∧ ch bytes E i = nI (97 + w)
  · obtain ⟨w, hw, e⟩ := h
    left
    have e2 : ch bytes E i - 97 = nI w := by
      rw [e, show nI (97 + w) - 97 = nI (97 + w - 97) from nI_subN (b := 97) (by omega)]; congr 1; omega
    refine ⟨w, hw, ?_, e, fun f => ?_, ?_, e2⟩
    · rcases ch_cases hT i with h1 | ⟨h1, -⟩
      · rw [h1] at e; exact absurd e.symm (fun z => nI_pos (show 97 + w < 2 ^ 31 by omega) (by rw [z]; decide))
      · exact h1
    · unfold Tape_letter
      rw [ob_eq (peek_eq hE (by omega)), e2, if_neg (nI_pos (by omega)), if_pos (show nI w < 12 from (nI_ltN (b := 12) (by omega) (by decide)).mpr hw)]
      show some (nI w, nI E, nI i + nI 1, f) = _
      rw [nI_ad]
    · unfold Mo_isLetter
      rw [ob_eq (here_eq hT (by omega)), e2, ob_eq (Mo_in_yes (a := nI w) (l := 0) (h := 11) (nI_pos (by omega)) ((nI_leN (b := 11) (by omega) (by decide)).mpr (by omega)))]
      rfl
  · right
    have h' : ∀ w, w < 12 → ¬ ch bytes E i = nI (97 + w) := fun w h1 h2 => h ⟨w, h1, h2⟩
    have key : ch bytes E i - 97 < 0 ∨ (¬ ch bytes E i - 97 < 0 ∧ ¬ ch bytes E i - 97 < 12 ∧ ¬ ch bytes E i - 97 ≤ 11) := by
      rcases ch_cases hT i with h1 | ⟨-, b, hb, h1⟩
      · rw [h1]; left; decide
      · by_cases h2 : b < 97
        · left
          rw [h1]
          have : ∀ b, b < 97 → nI b - 97 < 0 := by decide +kernel
          exact this b h2
        · right
          have h3 : ch bytes E i - 97 = nI (b - 97) := by
            rw [h1]; exact nI_subN (b := 97) (by omega)
          have h4 : ¬ b - 97 < 12 := fun z => h' (b - 97) z (by rw [h1]; congr 1; omega)
          rw [h3]
          exact ⟨nI_pos (by omega), fun z => h4 ((nI_ltN (b := 12) (by omega) (by decide)).mp z), fun z => h4 (by have := (nI_leN (b := 11) (show b - 97 < 2 ^ 31 by omega) (by decide)).mp z; omega)⟩
    refine ⟨h', ?_, ?_⟩
    · unfold Tape_letter Tape_letter_J18
      rw [ob_eq (peek_eq hE (by omega))]
      rcases key with k1 | ⟨k1, k2, -⟩
      · rw [if_pos k1]; rfl
      · rw [if_neg k1, if_neg k2]; rfl
    · unfold Mo_isLetter
      rw [ob_eq (here_eq hT (by omega))]
      rcases key with k1 | ⟨k1, -, k2⟩
      · rw [ob_eq (Mo_in_no1 k1)]; rfl
      · rw [ob_eq (Mo_in_no2 k2)]; rfl
end TXT
