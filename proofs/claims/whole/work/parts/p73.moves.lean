/-! THE LIST OF MOVES -/
def mlC (t a b : Nat) : Nat → List M3
  | 0 => []
  | c + 1 => mlC t a b c ++ if t.testBit c then [(a, b, c)] else []
def mlI (n : Nat) (nx : Nat → Nat) : Nat → List M3
  | 0 => []
  | a + 1 => mlI n nx a ++ mlC (nx a) a a n
def mlB (n : Nat) (nx : Nat → Nat) (a : Nat) : Nat → List M3
  | 0 => []
  | k + 1 => mlB n nx a k ++ mlC (nx a &&& nx (a + 1 + k)) a (a + 1 + k) n
def mlJ (n : Nat) (nx : Nat → Nat) : Nat → List M3
  | 0 => []
  | a + 1 => mlJ n nx a ++ mlB n nx a (n - (a + 1))
def mlS (n : Nat) (nx : Nat → Nat) (both : Bool) : List M3 := mlI n nx n ++ if both then mlJ n nx n else []
theorem preA {l k m : List M3} (h : k <+: m) : l ++ k <+: l ++ m := by
  obtain ⟨t, rfl⟩ := h
  exact ⟨t, by simp⟩
theorem preB {l k m : List M3} (h : l ++ k <+: m) : l <+: m := by
  obtain ⟨t, rfl⟩ := h
  exact ⟨k ++ t, by simp⟩
theorem mlC_pre {t a b c k : Nat} (h : c ≤ k) : mlC t a b c <+: mlC t a b k := by
  induction k with
  | zero => have : c = 0 := by omega
            subst this; exact List.prefix_refl _
  | succ k ih =>
    by_cases e : c = k + 1
    · subst e; exact List.prefix_refl _
    · exact (ih (by omega)).trans (List.prefix_append _ _)
theorem mlI_pre {n : Nat} {nx : Nat → Nat} {c k : Nat} (h : c ≤ k) : mlI n nx c <+: mlI n nx k := by
  induction k with
  | zero => have : c = 0 := by omega
            subst this; exact List.prefix_refl _
  | succ k ih =>
    by_cases e : c = k + 1
    · subst e; exact List.prefix_refl _
    · exact (ih (by omega)).trans (List.prefix_append _ _)
theorem mlB_pre {n : Nat} {nx : Nat → Nat} {a c k : Nat} (h : c ≤ k) : mlB n nx a c <+: mlB n nx a k := by
  induction k with
  | zero => have : c = 0 := by omega
            subst this; exact List.prefix_refl _
  | succ k ih =>
    by_cases e : c = k + 1
    · subst e; exact List.prefix_refl _
    · exact (ih (by omega)).trans (List.prefix_append _ _)
theorem mlJ_pre {n : Nat} {nx : Nat → Nat} {c k : Nat} (h : c ≤ k) : mlJ n nx c <+: mlJ n nx k := by
  induction k with
  | zero => have : c = 0 := by omega
            subst this; exact List.prefix_refl _
  | succ k ih =>
    by_cases e : c = k + 1
    · subst e; exact List.prefix_refl _
    · exact (ih (by omega)).trans (List.prefix_append _ _)
theorem mlC_mem {t a b : Nat} {m : M3} : ∀ {k : Nat}, m ∈ mlC t a b k → m.1 = a ∧ m.2.1 = b ∧ m.2.2 < k ∧ t.testBit m.2.2 = true := by
  intro k
  induction k with
  | zero => intro h; cases h
  | succ k ih =>
    intro h
    rcases List.mem_append.mp h with z | z
    · have := ih z
      exact ⟨this.1, this.2.1, by omega, this.2.2.2⟩
    · cases hb : t.testBit k with
      | false => rw [hb] at z; cases z
      | true =>
        rw [hb] at z
        have : m = (a, b, k) := by simpa using z
        subst this
        exact ⟨rfl, rfl, Nat.lt_succ_self _, hb⟩
/-- what a move of the list is -/
def legS (n : Nat) (nx : Nat → Nat) (m : M3) : Prop := in8 n m ∧ (nx m.1).testBit m.2.2 = true ∧ (nx m.2.1).testBit m.2.2 = true
theorem mlI_leg {n : Nat} {nx : Nat → Nat} {m : M3} : ∀ {k : Nat}, k ≤ n → m ∈ mlI n nx k → legS n nx m := by
  intro k
  induction k with
  | zero => intro _ h; cases h
  | succ k ih =>
    intro hk h
    rcases List.mem_append.mp h with z | z
    · exact ih (by omega) z
    · obtain ⟨h1, h2, h3, h4⟩ := mlC_mem z
      refine ⟨⟨by omega, by omega, h3⟩, ?_, ?_⟩
      · rw [h1]; exact h4
      · rw [h2]; exact h4
theorem mlB_leg {n : Nat} {nx : Nat → Nat} {m : M3} {a : Nat} : ∀ {k : Nat}, a + 1 + k ≤ n → m ∈ mlB n nx a k → legS n nx m := by
  intro k
  induction k with
  | zero => intro _ h; cases h
  | succ k ih =>
    intro hk h
    rcases List.mem_append.mp h with z | z
    · exact ih (by omega) z
    · obtain ⟨h1, h2, h3, h4⟩ := mlC_mem z
      rw [Nat.testBit_and, Bool.and_eq_true] at h4
      refine ⟨⟨by omega, by omega, h3⟩, ?_, ?_⟩
      · rw [h1]; exact h4.1
      · rw [h2]; exact h4.2
theorem mlJ_leg {n : Nat} {nx : Nat → Nat} {m : M3} : ∀ {k : Nat}, k ≤ n → m ∈ mlJ n nx k → legS n nx m := by
  intro k
  induction k with
  | zero => intro _ h; cases h
  | succ k ih =>
    intro hk h
    rcases List.mem_append.mp h with z | z
    · exact ih (by omega) z
    · exact mlB_leg (by omega) z
theorem mlS_leg {n : Nat} {nx : Nat → Nat} {both : Bool} {m : M3} (h : m ∈ mlS n nx both) : legS n nx m := by
  rcases List.mem_append.mp h with z | z
  · exact mlI_leg (Nat.le_refl _) z
  · cases both with
    | false => cases z
    | true => exact mlJ_leg (Nat.le_refl _) z
theorem mvN_mem {ml : List M3} {j : Nat} (h : j < ml.length) : mvN ml j ∈ ml := by
  unfold mvN
  rw [List.getD_eq_getElem?_getD, List.getElem?_eq_getElem h]
  exact List.getElem_mem h
theorem mvN_pre {ml pre : List M3} {m : M3} (h : pre ++ [m] <+: ml) : pre.length < ml.length ∧ mvN ml pre.length = m := by
  obtain ⟨t, rfl⟩ := h
  constructor
  · simp
  · unfold mvN
    rw [List.getD_eq_getElem?_getD]
    simp
/-- how many there are -/
theorem mlC_len {t a b : Nat} : ∀ k, (mlC t a b k).length ≤ k := by
  intro k
  induction k with
  | zero => exact Nat.le_refl _
  | succ k ih =>
    show (mlC t a b k ++ _).length ≤ _
    rw [List.length_append]
    split
    · simp; exact ih
    · simp; omega
theorem mlC_len1 {t a b x : Nat} (hx : t.testBit x = false) : ∀ {k}, x < k → (mlC t a b k).length + 1 ≤ k := by
  intro k
  induction k with
  | zero => intro h; omega
  | succ k ih =>
    intro hk
    show (mlC t a b k ++ _).length + 1 ≤ _
    rw [List.length_append]
    by_cases e : x = k
    · subst e
      rw [hx]
      have := mlC_len (t := t) (a := a) (b := b) x
      simp; omega
    · have := ih (by omega)
      split
      · simp; omega
      · simp; omega
theorem mlC_len2 {t a b x y : Nat} (hx : t.testBit x = false) (hy : t.testBit y = false) (hxy : x < y) : ∀ {k}, y < k → (mlC t a b k).length + 2 ≤ k := by
  intro k
  induction k with
  | zero => intro h; omega
  | succ k ih =>
    intro hk
    show (mlC t a b k ++ _).length + 2 ≤ _
    rw [List.length_append]
    by_cases e : y = k
    · subst e
      rw [hy]
      have := mlC_len1 (t := t) (a := a) (b := b) hx hxy
      simp; omega
    · have := ih (by omega)
      split
      · simp; omega
      · simp; omega
theorem mlI_len {n : Nat} {nx : Nat → Nat} (hG : GoodG n nx) : ∀ k, k ≤ n → (mlI n nx k).length ≤ k * (n - 1) := by
  intro k
  induction k with
  | zero => intro _; exact Nat.zero_le _
  | succ k ih =>
    intro hk
    show (mlI n nx k ++ _).length ≤ _
    rw [List.length_append, Nat.succ_mul]
    have h1 := ih (by omega)
    have h2 := mlC_len1 (t := nx k) (a := k) (b := k) (x := k) (hG.2.2.2.2 k) (k := n) (by omega)
    omega
theorem mlB_len {n : Nat} {nx : Nat → Nat} (hG : GoodG n nx) {a : Nat} : ∀ k, a + 1 + k ≤ n → (mlB n nx a k).length ≤ k * (n - 2) := by
  intro k
  induction k with
  | zero => intro _; exact Nat.zero_le _
  | succ k ih =>
    intro hk
    show (mlB n nx a k ++ _).length ≤ _
    rw [List.length_append, Nat.succ_mul]
    have h1 := ih (by omega)
    have h2 := mlC_len2 (t := nx a &&& nx (a + 1 + k)) (a := a) (b := a + 1 + k) (x := a) (y := a + 1 + k) (by rw [Nat.testBit_and, hG.2.2.2.2 a]; rfl) (by rw [Nat.testBit_and, hG.2.2.2.2 (a + 1 + k), Bool.and_false]) (by omega) (k := n) (by omega)
    omega
def triS (n : Nat) : Nat → Nat
  | 0 => 0
  | k + 1 => triS n k + (n - (k + 1))
theorem mlJ_len {n : Nat} {nx : Nat → Nat} (hG : GoodG n nx) : ∀ k, k ≤ n → (mlJ n nx k).length ≤ triS n k * (n - 2) := by
  intro k
  induction k with
  | zero => intro _; exact Nat.zero_le _
  | succ k ih =>
    intro hk
    show (mlJ n nx k ++ _).length ≤ (triS n k + (n - (k + 1))) * (n - 2)
    rw [List.length_append, Nat.add_mul]
    have h1 := ih (by omega)
    have h2 := mlB_len hG (a := k) (n - (k + 1)) (by omega)
    omega
theorem tri_all : ∀ n, n < 9 → n * (n - 1) + triS n n * (n - 2) ≤ 224 := by decide
theorem mlS_len {n : Nat} {nx : Nat → Nat} (hG : GoodG n nx) (hn : n ≤ 8) (both : Bool) : (mlS n nx both).length ≤ 224 := by
  unfold mlS
  rw [List.length_append]
  have h1 := mlI_len hG n (Nat.le_refl _)
  have h2 := mlJ_len hG n (Nat.le_refl _)
  have h3 := tri_all n (by omega)
  cases both with
  | false => simp; omega
  | true => simp; omega
