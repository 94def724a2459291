/-! GRAPHS: balls, levels, steps -/
/-- masks of a land of n WELLS -/
def GoodG (n : Nat) (nx : Nat → Nat) : Prop := n ≤ 12 ∧ (∀ p, nx p < 2 ^ n) ∧ (∀ p, n ≤ p → nx p = 0) ∧ (∀ p q, (nx p).testBit q = (nx q).testBit p) ∧ ∀ p, (nx p).testBit p = false
def ball (n : Nat) (nx : Nat → Nat) (p : Nat) : Nat → Nat → Bool
  | 0, q => decide (q = p)
  | k + 1, q => ball n nx p k q || (List.range n).any (fun r => ball n nx p k r && (nx r).testBit q)
def lev (n : Nat) (nx : Nat → Nat) (p : Nat) : Nat → Nat → Bool
  | 0, q => decide (q = p)
  | k + 1, q => ball n nx p (k + 1) q && !(ball n nx p k q)
/-- those nearer than k -/
def near (n : Nat) (nx : Nat → Nat) (p : Nat) : Nat → Nat → Bool
  | 0, _ => false
  | k + 1, q => ball n nx p k q
def dfind (f : Nat → Bool) : Nat → Nat → Option Nat
  | 0, _ => none
  | m + 1, k => match f k with
    | true => some k
    | false => dfind f m (k + 1)
theorem dfind_some {f : Nat → Bool} : ∀ (m k j : Nat), k ≤ j → j < k + m → f j = true → (∀ i, k ≤ i → i < j → f i = false) → dfind f m k = some j := by
  intro m
  induction m with
  | zero => intro k j h1 h2; omega
  | succ m ih =>
    intro k j h1 h2 h3 h4
    unfold dfind
    by_cases e : k = j
    · subst e; rw [h3]
    · rw [h4 k (Nat.le_refl _) (by omega)]
      exact ih (k + 1) j (by omega) (by omega) h3 (fun i h5 h6 => h4 i (by omega) h6)
theorem dfind_none {f : Nat → Bool} : ∀ (m k : Nat), (∀ i, k ≤ i → i < k + m → f i = false) → dfind f m k = none := by
  intro m
  induction m with
  | zero => intro k _; rfl
  | succ m ih =>
    intro k h
    unfold dfind
    rw [h k (Nat.le_refl _) (by omega)]
    exact ih (k + 1) (fun i h5 h6 => h i (by omega) (by omega))
/-- steps, as both tell them -/
def dI (n : Nat) (nx : Nat → Nat) (p q : Nat) : Int32 := match dfind (fun k => ball n nx p k q) 12 0 with
  | some k => nI k
  | none => -2
section GR
variable {n : Nat} {nx : Nat → Nat} {p : Nat}
theorem ball_mono {k q : Nat} (h : ball n nx p k q = true) : ball n nx p (k + 1) q = true := by
  rw [ball, h]; rfl
theorem ball_le {j k q : Nat} (hjk : j ≤ k) (h : ball n nx p j q = true) : ball n nx p k q = true := by
  induction hjk with
  | refl => exact h
  | step _ ih => exact ball_mono ih
theorem ball_step {k r q : Nat} (hr : r < n) (h : ball n nx p k r = true) (hb : (nx r).testBit q = true) : ball n nx p (k + 1) q = true := by
  rw [ball, Bool.or_eq_true]
  exact Or.inr (List.any_eq_true.mpr ⟨r, List.mem_range.mpr hr, by rw [h, hb]; rfl⟩)
theorem ball_inv {k q : Nat} (h : ball n nx p (k + 1) q = true) : ball n nx p k q = true ∨ ∃ r, r < n ∧ ball n nx p k r = true ∧ (nx r).testBit q = true := by
  rw [ball, Bool.or_eq_true] at h
  rcases h with h | h
  · exact Or.inl h
  · obtain ⟨r, h1, h2⟩ := List.any_eq_true.mp h
    rw [Bool.and_eq_true] at h2
    exact Or.inr ⟨r, List.mem_range.mp h1, h2.1, h2.2⟩
theorem lev_ball {k q : Nat} (h : lev n nx p k q = true) : ball n nx p k q = true := by
  cases k with
  | zero => exact h
  | succ k => rw [lev, Bool.and_eq_true] at h; exact h.1
theorem lev_near {k q : Nat} (h : lev n nx p k q = true) : near n nx p k q = false := by
  cases k with
  | zero => rfl
  | succ k => rw [lev, Bool.and_eq_true, Bool.not_eq_true'] at h; exact h.2
theorem lev_of {k q : Nat} (h : ball n nx p k q = true) (h2 : near n nx p k q = false) : lev n nx p k q = true := by
  cases k with
  | zero => exact h
  | succ k =>
    rw [lev, h, show ball n nx p k q = false from h2]; rfl
theorem near_lt {k q : Nat} (h : near n nx p k q = true) : near n nx p (k + 1) q = true := by
  cases k with
  | zero => cases h
  | succ k => exact ball_mono h
theorem near_succ {k q : Nat} : near n nx p (k + 1) q = (near n nx p k q || lev n nx p k q) := by
  cases k with
  | zero => show ball n nx p 0 q = (false || _); rfl
  | succ k =>
    show ball n nx p (k + 1) q = (ball n nx p k q || (ball n nx p (k + 1) q && !(ball n nx p k q)))
    cases h : ball n nx p k q with
    | true => rw [ball_mono h]; rfl
    | false => simp
/-- the next level: next to this one, and not yet seen -/
theorem lev_succ {k q : Nat} : lev n nx p (k + 1) q = ((List.range n).any (fun r => lev n nx p k r && (nx r).testBit q) && !(ball n nx p k q)) := by
  show (ball n nx p (k + 1) q && !(ball n nx p k q)) = _
  cases hb : ball n nx p k q with
  | true => simp
  | false =>
    simp only [Bool.not_false, Bool.and_true]
    cases h1 : (List.range n).any (fun r => lev n nx p k r && (nx r).testBit q) with
    | true =>
      obtain ⟨r, h2, h3⟩ := List.any_eq_true.mp h1
      rw [Bool.and_eq_true] at h3
      exact ball_step (List.mem_range.mp h2) (lev_ball h3.1) h3.2
    | false =>
      cases h4 : ball n nx p (k + 1) q with
      | false => rfl
      | true =>
        exfalso
        rcases ball_inv h4 with h5 | ⟨r, h5, h6, h7⟩
        · rw [hb] at h5; cases h5
        · have h8 : near n nx p k r = false := by
            cases h9 : near n nx p k r with
            | false => rfl
            | true =>
              exfalso
              cases k with
              | zero => cases h9
              | succ k =>
                have := ball_step h5 (show ball n nx p k r = true from h9) h7
                rw [hb] at this; cases this
          have h10 : (List.range n).any (fun r => lev n nx p k r && (nx r).testBit q) = true := List.any_eq_true.mpr ⟨r, List.mem_range.mpr h5, by rw [lev_of h6 h8, h7]; rfl⟩
          rw [h1] at h10; cases h10
theorem countP_lt {f g : Nat → Bool} : ∀ (l : List Nat), (∀ q ∈ l, f q = true → g q = true) → (∃ q ∈ l, g q = true ∧ f q = false) → l.countP f + 1 ≤ l.countP g := by
  intro l
  induction l with
  | nil => rintro _ ⟨q, hq, _⟩; cases hq
  | cons a l ih =>
    intro h1 h2
    have hle : l.countP f ≤ l.countP g := List.countP_mono_left (fun q hq hf => h1 q (List.mem_cons_of_mem _ hq) hf)
    by_cases hx : ∃ q ∈ l, g q = true ∧ f q = false
    · have h3 := ih (fun q hq => h1 q (List.mem_cons_of_mem _ hq)) hx
      rw [List.countP_cons, List.countP_cons]
      by_cases ha : f a = true
      · rw [if_pos ha, if_pos (h1 a List.mem_cons_self ha)]; omega
      · rw [if_neg ha]
        split <;> omega
    · obtain ⟨q, hq, hg, hf⟩ := h2
      rcases List.mem_cons.mp hq with rfl | hq
      · rw [List.countP_cons, List.countP_cons, if_pos hg, if_neg (by rw [hf]; simp)]; omega
      · exact absurd ⟨q, hq, hg, hf⟩ hx
theorem lev_cnt (hp : p < n) (hg : GoodG n nx) : ∀ (k q : Nat), q < n → lev n nx p k q = true → k + 1 ≤ (List.range n).countP (ball n nx p k) := by
  intro k
  induction k with
  | zero =>
    intro q hq h
    have h1 := countP_lt (f := fun _ => false) (g := ball n nx p 0) (List.range n) (fun _ _ h => by cases h) ⟨q, List.mem_range.mpr hq, lev_ball h, rfl⟩
    exact Nat.le_trans (Nat.le_add_left 1 _) h1
  | succ k ih =>
    intro q hq h
    have h1 := h
    rw [lev_succ, Bool.and_eq_true] at h1
    obtain ⟨r, h2, h3⟩ := List.any_eq_true.mp h1.1
    rw [Bool.and_eq_true] at h3
    have h4 := ih r (List.mem_range.mp h2) h3.1
    have h5 := countP_lt (f := ball n nx p k) (g := ball n nx p (k + 1)) (List.range n) (fun _ _ h => ball_mono h) ⟨q, List.mem_range.mpr hq, lev_ball h, by simpa using h1.2⟩
    omega
theorem lev_lt (hp : p < n) (hg : GoodG n nx) {k q : Nat} (hq : q < n) (h : lev n nx p k q = true) : k < n := by
  have h1 := lev_cnt hp hg k q hq h
  have h2 : (List.range n).countP (ball n nx p k) ≤ (List.range n).length := List.countP_le_length
  rw [List.length_range] at h2
  omega
theorem dI_lev {k q : Nat} (hk : k < 12) (h : lev n nx p k q = true) : dI n nx p q = nI k := by
  unfold dI
  rw [dfind_some (f := fun k => ball n nx p k q) 12 0 k (by omega) (by omega) (lev_ball h) (fun i _ hi => ?_)]
  show ball n nx p i q = false
  cases hb : ball n nx p i q with
  | false => rfl
  | true =>
    exfalso
    have h2 := lev_near h
    cases k with
    | zero => omega
    | succ k =>
      have := ball_le (show i ≤ k by omega) hb
      rw [show ball n nx p k q = false from h2] at this; cases this
/-- some level, or none -/
theorem lev_or {q : Nat} : ∀ k, ball n nx p k q = true → ∃ j, j ≤ k ∧ lev n nx p j q = true := by
  intro k
  induction k with
  | zero => exact fun h => ⟨0, by omega, h⟩
  | succ k ih =>
    intro h
    cases h2 : ball n nx p k q with
    | true =>
      obtain ⟨j, h3, h4⟩ := ih h2
      exact ⟨j, by omega, h4⟩
    | false => exact ⟨k + 1, Nat.le_refl _, lev_of h h2⟩
theorem dI_none {q : Nat} (h2 : ∀ k, ball n nx p k q = false) : dI n nx p q = -2 := by
  unfold dI
  rw [dfind_none 12 0 (fun i _ _ => h2 i)]
theorem dI_cases (hp : p < n) (hg : GoodG n nx) {q : Nat} (hq : q < n) : (∃ k, k < n ∧ lev n nx p k q = true ∧ dI n nx p q = nI k) ∨ ((∀ k, ball n nx p k q = false) ∧ dI n nx p q = -2) := by
  by_cases h : ∃ k, ball n nx p k q = true
  · obtain ⟨k, hk⟩ := h
    obtain ⟨j, -, hj⟩ := lev_or k hk
    have := lev_lt hp hg hq hj
    exact Or.inl ⟨j, this, hj, dI_lev (by have := hg.1; omega) hj⟩
  · have h2 : ∀ k, ball n nx p k q = false := fun k => by
      cases hb : ball n nx p k q with
      | false => rfl
      | true => exact absurd ⟨k, hb⟩ h
    exact Or.inr ⟨h2, dI_none h2⟩
end GR
