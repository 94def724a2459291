/-! LEDGERS: numbers with a sign, lines, ways -/
def iI (z : Int) : Int32 := Int32.ofInt z
def sm31 (z : Int) : Prop := -1000000 ≤ z ∧ z < 2147483648
theorem iI_nat (k : Nat) : iI (k : Int) = nI k := Int32.ofInt_eq_ofNat
theorem iI_add (a b : Int) : iI a + iI b = iI (a + b) := (Int32.ofInt_add a b).symm
theorem iI_sub (a b : Int) : iI a - iI b = iI (a - b) := (Int32.ofInt_sub a b).symm
theorem iI_mul (a b : Int) : iI a * iI b = iI (a * b) := (Int32.ofInt_mul a b).symm
theorem iI_toInt {a : Int} (h : sm31 a) : (iI a).toInt = a := Int32.toInt_ofInt_of_le (by have := h.1; omega) (by have := h.2; omega)
theorem iI_lt {a b : Int} (ha : sm31 a) (hb : sm31 b) : iI a < iI b ↔ a < b := by rw [Int32.lt_iff_toInt_lt, iI_toInt ha, iI_toInt hb]
theorem iI_le {a b : Int} (ha : sm31 a) (hb : sm31 b) : iI a ≤ iI b ↔ a ≤ b := by rw [Int32.le_iff_toInt_le, iI_toInt ha, iI_toInt hb]
theorem iI_inj {a b : Int} (ha : sm31 a) (hb : sm31 b) : iI a = iI b ↔ a = b := by
  constructor
  · intro h
    have := congrArg Int32.toInt h
    rw [iI_toInt ha, iI_toInt hb] at this
    exact this
  · intro h; rw [h]
theorem iI_min {a b : Int} (ha : sm31 a) (hb : sm31 b) : jmin (iI a) (iI b) = iI (min a b) := by
  unfold jmin
  by_cases h : b < a
  · rw [if_pos ((iI_lt hb ha).mpr h), show min a b = b by omega]
  · rw [if_neg (fun z => h ((iI_lt hb ha).mp z)), show min a b = a by omega]
theorem iI_max {a b : Int} (ha : sm31 a) (hb : sm31 b) : jmax (iI a) (iI b) = iI (max a b) := by
  unfold jmax
  by_cases h : a < b
  · rw [if_pos ((iI_lt ha hb).mpr h), show max a b = b by omega]
  · rw [if_neg (fun z => h ((iI_lt ha hb).mp z)), show max a b = a by omega]
/-- what a move changes -/
def dlt (p : Nat × Nat) (w : Nat) : Int := (if w = p.1 then -2 else 0) + (if w = p.2 then 1 else 0)
def mvI (s : Nat → Int) (p : Nat × Nat) : Nat → Int := fun w => s w + dlt p w
theorem dlt_le (p : Nat × Nat) (w : Nat) : -2 ≤ dlt p w ∧ dlt p w ≤ 1 := by
  unfold dlt
  by_cases h1 : w = p.1
  · rw [if_pos h1]
    by_cases h2 : w = p.2
    · rw [if_pos h2]; omega
    · rw [if_neg h2]; omega
  · rw [if_neg h1]
    by_cases h2 : w = p.2
    · rw [if_pos h2]; omega
    · rw [if_neg h2]; omega
/-- all moves, in order -/
def mvA (nx : Nat → Nat) (a : Nat) : Nat → List (Nat × Nat)
  | 0 => []
  | k + 1 => mvA nx a k ++ (if (nx a).testBit k then [(a, k)] else [])
def mvL (n : Nat) (nx : Nat → Nat) : Nat → List (Nat × Nat)
  | 0 => []
  | k + 1 => mvL n nx k ++ mvA nx k n
theorem mvA_mem {nx : Nat → Nat} {a : Nat} {p : Nat × Nat} : ∀ {k : Nat}, p ∈ mvA nx a k ↔ p.1 = a ∧ p.2 < k ∧ (nx a).testBit p.2 = true := by
  intro k
  induction k with
  | zero => exact ⟨fun h => (by cases h), fun h => (by omega)⟩
  | succ k ih =>
    show p ∈ mvA nx a k ++ (if (nx a).testBit k then [(a, k)] else []) ↔ _
    rw [List.mem_append, ih]
    constructor
    · rintro (⟨h1, h2, h3⟩ | h)
      · exact ⟨h1, by omega, h3⟩
      · cases hb : (nx a).testBit k with
        | false => rw [hb] at h; cases h
        | true =>
          rw [hb, if_pos rfl, List.mem_singleton] at h
          rw [h]; exact ⟨rfl, Nat.lt_succ_self k, hb⟩
    · rintro ⟨h1, h2, h3⟩
      by_cases e : p.2 = k
      · right
        rw [e] at h3
        rw [h3, if_pos rfl, List.mem_singleton, ← h1, ← e]
      · exact Or.inl ⟨h1, by omega, h3⟩
theorem mvL_mem {n : Nat} {nx : Nat → Nat} {p : Nat × Nat} : ∀ {k : Nat}, p ∈ mvL n nx k ↔ p.1 < k ∧ p.2 < n ∧ (nx p.1).testBit p.2 = true := by
  intro k
  induction k with
  | zero => exact ⟨fun h => (by cases h), fun h => (by omega)⟩
  | succ k ih =>
    show p ∈ mvL n nx k ++ mvA nx k n ↔ _
    rw [List.mem_append, ih, mvA_mem]
    constructor
    · rintro (⟨h1, h2⟩ | ⟨h1, h2, h3⟩)
      · exact ⟨by omega, h2⟩
      · rw [h1]; exact ⟨by omega, h2, h3⟩
    · rintro ⟨h1, h2, h3⟩
      by_cases e : p.1 = k
      · right; rw [e] at h3; exact ⟨e, h2, h3⟩
      · exact Or.inl ⟨by omega, h2, h3⟩
theorem mvA_len {nx : Nat → Nat} {a : Nat} (ha : (nx a).testBit a = false) : ∀ {k : Nat}, (mvA nx a k).length + (if a < k then 1 else 0) ≤ k := by
  intro k
  induction k with
  | zero => show 0 + (if a < 0 then 1 else 0) ≤ 0; rw [if_neg (by omega)]; omega
  | succ k ih =>
    show (mvA nx a k ++ (if (nx a).testBit k then [(a, k)] else [])).length + _ ≤ _
    rw [List.length_append]
    by_cases e : a = k
    · rw [← e] at ih ⊢
      rw [ha, if_neg (by decide), if_pos (by omega)]
      rw [if_neg (by omega)] at ih
      show _ + 0 + 1 ≤ _
      omega
    · have h1 : (if (nx a).testBit k then [(a, k)] else []).length ≤ 1 := by
        cases (nx a).testBit k with
        | true => exact Nat.le_refl 1
        | false => exact Nat.zero_le 1
      by_cases h : a < k
      · rw [if_pos h] at ih; rw [if_pos (show a < k + 1 by omega)]; omega
      · rw [if_neg h] at ih; rw [if_neg (show ¬ a < k + 1 by omega)]; omega
theorem mvL_len {n : Nat} {nx : Nat → Nat} (hG : GoodG n nx) : ∀ {k : Nat}, k ≤ n → (mvL n nx k).length ≤ k * (n - 1) := by
  intro k
  induction k with
  | zero => intro _; show 0 ≤ _; exact Nat.zero_le _
  | succ k ih =>
    intro hk
    show (mvL n nx k ++ mvA nx k n).length ≤ _
    have h1 := ih (by omega)
    have h2 := mvA_len (nx := nx) (a := k) (hG.2.2.2.2 k) (k := n)
    rw [if_pos (by omega)] at h2
    rw [List.length_append, Nat.succ_mul]
    omega
theorem mvL_132 {n : Nat} {nx : Nat → Nat} (hG : GoodG n nx) : (mvL n nx n).length ≤ 132 := by
  have h1 := mvL_len hG (Nat.le_refl n)
  have h2 := hG.1
  have h3 : n * (n - 1) ≤ 12 * 11 := Nat.mul_le_mul h2 (by omega)
  omega
/-- lines: a move, or lost -/
abbrev LnF := Nat → Option (Nat × Nat)
def chc (ln : LnF) (ml : List (Nat × Nat)) (i : Nat) : List (Nat × Nat) := match ln i with
  | none => ml
  | some p => [p]
/-- what lies at the well in the end, way by way -/
def ouL (ln : LnF) (ml : List (Nat × Nat)) (thr : Nat) : Nat → Nat → (Nat → Int) → List Int
  | 0, _, s => [s thr]
  | m + 1, i, s => (chc ln ml i).flatMap (fun p => if 2 ≤ s p.1 then ouL ln ml thr m (i + 1) (mvI s p) else [])
def cgL (ln : LnF) (a : Nat) : Nat → Nat → Int
  | 0, _ => 0
  | m + 1, w => cgL ln a m w + (match ln (a + m) with
    | none => 0
    | some p => dlt p w)
def ndL (ln : LnF) (a : Nat) : Nat → Nat → Int
  | 0, _ => 0
  | m + 1, w => match ln (a + m) with
    | none => ndL ln a m w
    | some p => if w = p.1 then max (ndL ln a m w) (2 - cgL ln a m w) else ndL ln a m w
theorem seg_congr {ln ln' : LnF} {a : Nat} : ∀ {m : Nat}, (∀ i, a ≤ i → i < a + m → ln i = ln' i) → cgL ln a m = cgL ln' a m ∧ ndL ln a m = ndL ln' a m := by
  intro m
  induction m with
  | zero => intro _; exact ⟨rfl, rfl⟩
  | succ m ih =>
    intro h
    obtain ⟨h1, h2⟩ := ih (fun i i1 i2 => h i i1 (by omega))
    have h3 := h (a + m) (by omega) (by omega)
    constructor
    · funext w
      show cgL ln a m w + _ = cgL ln' a m w + _
      rw [h1, h3]
    · funext w
      show (match ln (a + m) with | none => ndL ln a m w | some p => if w = p.1 then max (ndL ln a m w) (2 - cgL ln a m w) else ndL ln a m w) = _
      rw [h1, h2, h3]
      rfl
theorem cg_some {ln : LnF} {a m : Nat} {p : Nat × Nat} (h : ln (a + m) = some p) (w : Nat) : cgL ln a (m + 1) w = cgL ln a m w + dlt p w := by
  show cgL ln a m w + _ = _
  rw [h]
theorem nd_some {ln : LnF} {a m : Nat} {p : Nat × Nat} (h : ln (a + m) = some p) (w : Nat) : ndL ln a (m + 1) w = if w = p.1 then max (ndL ln a m w) (2 - cgL ln a m w) else ndL ln a m w := by
  show (match ln (a + m) with | none => ndL ln a m w | some p => if w = p.1 then max (ndL ln a m w) (2 - cgL ln a m w) else ndL ln a m w) = _
  rw [h]
theorem seg_bound {ln : LnF} {a : Nat} (w : Nat) : ∀ m : Nat, -(2 * (m : Int)) ≤ cgL ln a m w ∧ cgL ln a m w ≤ m ∧ 0 ≤ ndL ln a m w ∧ ndL ln a m w ≤ 2 * (m : Int) := by
  intro m
  induction m with
  | zero => exact ⟨by show -(2 * ((0 : Nat) : Int)) ≤ 0; omega, by show (0 : Int) ≤ ((0 : Nat) : Int); omega, by show (0 : Int) ≤ 0; omega, by show (0 : Int) ≤ 2 * ((0 : Nat) : Int); omega⟩
  | succ m ih =>
    obtain ⟨h1, h2, h3, h4⟩ := ih
    cases h : ln (a + m) with
    | none =>
      have e1 : cgL ln a (m + 1) w = cgL ln a m w := by
        show cgL ln a m w + _ = _
        rw [h]; exact Int.add_zero _
      have e2 : ndL ln a (m + 1) w = ndL ln a m w := by
        show (match ln (a + m) with | none => ndL ln a m w | some p => if w = p.1 then max (ndL ln a m w) (2 - cgL ln a m w) else ndL ln a m w) = _
        rw [h]
      rw [e1, e2]
      omega
    | some p =>
      have hd := dlt_le p w
      rw [cg_some h, nd_some h]
      by_cases e : w = p.1
      · rw [if_pos e]; omega
      · rw [if_neg e]; omega
theorem chc_some {ln : LnF} {ml : List (Nat × Nat)} {i : Nat} {p : Nat × Nat} (h : ln i = some p) : chc ln ml i = [p] := by
  unfold chc; rw [h]
theorem chc_none {ln : LnF} {ml : List (Nat × Nat)} {i : Nat} (h : ln i = none) : chc ln ml i = ml := by
  unfold chc; rw [h]
theorem ou_succ (ln : LnF) (ml : List (Nat × Nat)) (thr m i : Nat) (s : Nat → Int) : ouL ln ml thr (m + 1) i s = (chc ln ml i).flatMap (fun p => if 2 ≤ s p.1 then ouL ln ml thr m (i + 1) (mvI s p) else []) := rfl
/-- a stretch without a lost line, gone at once -/
theorem ou_str {ln : LnF} {ml : List (Nat × Nat)} {thr a : Nat} : ∀ {m : Nat}, (∀ i, a ≤ i → i < a + m → ∃ p, ln i = some p ∧ p.1 < 12) → ∀ (r : Nat) (s : Nat → Int), (∀ w, w < 12 → 0 ≤ s w) →
    ((∀ w, w < 12 → ndL ln a m w ≤ s w) → ouL ln ml thr (m + r) a s = ouL ln ml thr r (a + m) (fun w => s w + cgL ln a m w)) ∧ ((¬ ∀ w, w < 12 → ndL ln a m w ≤ s w) → ouL ln ml thr (m + r) a s = []) := by
  intro m
  induction m with
  | zero =>
    intro _ r s hs
    refine ⟨fun _ => ?_, fun h => absurd (fun w hw => hs w hw) h⟩
    rw [Nat.zero_add, Nat.add_zero, show (fun w => s w + cgL ln a 0 w) = s from funext (fun w => Int.add_zero _)]
  | succ m ih =>
    intro hp r s hs
    obtain ⟨p, p1, p2⟩ := hp (a + m) (by omega) (by omega)
    obtain ⟨i1, i2⟩ := ih (fun i h1 h2 => hp i h1 (by omega)) (r + 1) s hs
    rw [show m + (r + 1) = m + 1 + r by omega] at i1 i2
    have hle : ∀ w, ndL ln a m w ≤ ndL ln a (m + 1) w := fun w => by
      rw [nd_some p1]
      by_cases e : w = p.1
      · rw [if_pos e]; omega
      · rw [if_neg e]; omega
    have hone : ouL ln ml thr (r + 1) (a + m) (fun w => s w + cgL ln a m w) = if 2 ≤ s p.1 + cgL ln a m p.1 then ouL ln ml thr r (a + (m + 1)) (fun w => s w + cgL ln a (m + 1) w) else [] := by
      rw [ou_succ, chc_some p1, List.flatMap_singleton]
      show (if 2 ≤ s p.1 + cgL ln a m p.1 then ouL ln ml thr r (a + m + 1) (mvI (fun w => s w + cgL ln a m w) p) else []) = _
      rw [show mvI (fun w => s w + cgL ln a m w) p = fun w => s w + cgL ln a (m + 1) w from funext (fun w => by
        show s w + cgL ln a m w + dlt p w = _
        rw [cg_some p1]; omega)]
      rfl
    by_cases hA : ∀ w, w < 12 → ndL ln a m w ≤ s w
    · rw [i1 hA, hone]
      constructor
      · intro hB
        have h1 := hB p.1 p2
        rw [nd_some p1, if_pos rfl] at h1
        rw [if_pos (by omega)]
      · intro hB
        rw [if_neg (fun z => hB (fun w hw => ?_))]
        have := hA w hw
        rw [nd_some p1]
        by_cases e : w = p.1
        · rw [if_pos e, e]; rw [e] at this; omega
        · rw [if_neg e]; exact this
    · refine ⟨fun hB => absurd (fun w hw => Int.le_trans (hle w) (hB w hw)) hA, fun _ => i2 hA⟩
/-- the least, the most of a list -/
theorem fold_min {xs : List Int} : ∀ {l : Int}, xs.foldl min l ≤ l ∧ (∀ x, x ∈ xs → xs.foldl min l ≤ x) ∧ (xs.foldl min l = l ∨ xs.foldl min l ∈ xs) := by
  induction xs with
  | nil => intro l; exact ⟨Int.le_refl l, fun x h => (by cases h), Or.inl rfl⟩
  | cons a xs ih =>
    intro l
    obtain ⟨h1, h2, h3⟩ := ih (l := min l a)
    show xs.foldl min (min l a) ≤ l ∧ (∀ x, x ∈ a :: xs → xs.foldl min (min l a) ≤ x) ∧ (xs.foldl min (min l a) = l ∨ xs.foldl min (min l a) ∈ a :: xs)
    refine ⟨by omega, fun x hx => ?_, ?_⟩
    · rcases List.mem_cons.mp hx with e | hx
      · rw [e]; omega
      · exact h2 x hx
    · rcases h3 with h3 | h3
      · by_cases e : l ≤ a
        · left; omega
        · right; rw [List.mem_cons]; left; omega
      · right; exact List.mem_cons_of_mem _ h3
theorem fold_max {xs : List Int} : ∀ {l : Int}, l ≤ xs.foldl max l ∧ (∀ x, x ∈ xs → x ≤ xs.foldl max l) ∧ (xs.foldl max l = l ∨ xs.foldl max l ∈ xs) := by
  induction xs with
  | nil => intro l; exact ⟨Int.le_refl l, fun x h => (by cases h), Or.inl rfl⟩
  | cons a xs ih =>
    intro l
    obtain ⟨h1, h2, h3⟩ := ih (l := max l a)
    show l ≤ xs.foldl max (max l a) ∧ (∀ x, x ∈ a :: xs → x ≤ xs.foldl max (max l a)) ∧ (xs.foldl max (max l a) = l ∨ xs.foldl max (max l a) ∈ a :: xs)
    refine ⟨by omega, fun x hx => ?_, ?_⟩
    · rcases List.mem_cons.mp hx with e | hx
      · rw [e]; omega
      · exact h2 x hx
    · rcases h3 with h3 | h3
      · by_cases e : a ≤ l
        · left; omega
        · right; rw [List.mem_cons]; left; omega
      · right; exact List.mem_cons_of_mem _ h3
theorem fold_set {xs ys : List Int} (h : ∀ x, x ∈ xs ↔ x ∈ ys) (l : Int) : xs.foldl min l = ys.foldl min l ∧ xs.foldl max l = ys.foldl max l := by
  obtain ⟨a1, a2, a3⟩ := fold_min (xs := xs) (l := l)
  obtain ⟨b1, b2, b3⟩ := fold_min (xs := ys) (l := l)
  obtain ⟨c1, c2, c3⟩ := fold_max (xs := xs) (l := l)
  obtain ⟨d1, d2, d3⟩ := fold_max (xs := ys) (l := l)
  constructor
  · have h1 : xs.foldl min l ≤ ys.foldl min l := by
      rcases b3 with e | e
      · omega
      · exact a2 _ ((h _).mpr e)
    have h2 : ys.foldl min l ≤ xs.foldl min l := by
      rcases a3 with e | e
      · omega
      · exact b2 _ ((h _).mp e)
    omega
  · have h1 : xs.foldl max l ≤ ys.foldl max l := by
      rcases c3 with e | e
      · omega
      · exact d2 _ ((h _).mp e)
    have h2 : ys.foldl max l ≤ xs.foldl max l := by
      rcases d3 with e | e
      · omega
      · exact c2 _ ((h _).mpr e)
    omega
