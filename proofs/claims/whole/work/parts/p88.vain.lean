/-! IN VAIN -/
def vnS (n : Nat) (nx d : Nat → Nat) (w : Nat) : Nat → (Nat → Nat) → Prop
  | 0, _ => True
  | k + 1, g => ∀ a, a < n → ∀ b, b < n → (nx a).testBit b = true → 2 ≤ g a → ¬ b = w ∧ g b + 1 < 2 ^ d b ∧ vnS n nx d w k (goS g (a, a, b))
def vaS (n : Nat) (nx d : Nat → Nat) (w : Nat) (g : Nat → Nat) : Prop := vnS n nx d w (totS g n) g
section VAI
variable {n : Nat} {nx d : Nat → Nat} {w : Nat}
theorem go_totN {g : Nat → Nat} {m : M3} (hm : in8 n m) (h : okS g m) : totS (goS g m) n + 1 = totS g n := by
  obtain ⟨h1, h2, h3⟩ := hm
  have e1 := (val_at (g := g) (w := m.1) (x := g m.1 - 1) (k := n) h1).2
  have e2 := (val_at (g := lvS g m.1) (w := m.2.1) (x := lvS g m.1 m.2.1 - 1) (k := n) h2).2
  have e3 := (val_at (g := lvS (lvS g m.1) m.2.1) (w := m.2.2) (x := lvS (lvS g m.1) m.2.1 m.2.2 + 1) (k := n) h3).2
  have h4 := h.1
  have h5 := h.2
  have e1 : totS (lvS g m.1) n + g m.1 = totS g n + (g m.1 - 1) := e1
  have e2 : totS (lvS (lvS g m.1) m.2.1) n + lvS g m.1 m.2.1 = totS (lvS g m.1) n + (lvS g m.1 m.2.1 - 1) := e2
  have e3 : totS (goS g m) n + lvS (lvS g m.1) m.2.1 m.2.2 = _ := e3
  omega
theorem va_iff {g : Nat → Nat} : vaS n nx d w g ↔ ∀ a, a < n → ∀ b, b < n → (nx a).testBit b = true → 2 ≤ g a → ¬ b = w ∧ g b + 1 < 2 ^ d b ∧ vaS n nx d w (goS g (a, a, b)) := by
  unfold vaS
  cases ht : totS g n with
  | zero =>
    constructor
    · intro _ a ha b hb hab h2
      have := totS_le (g := g) ha
      omega
    · intro _; trivial
  | succ k =>
    have key : ∀ a, a < n → ∀ b, b < n → 2 ≤ g a → totS (goS g (a, a, b)) n = k := fun a ha b hb h2 => by
      have := go_totN (n := n) (m := (a, a, b)) ⟨ha, ha, hb⟩ (ok_same.mpr h2)
      omega
    constructor
    · intro h a ha b hb hab h2
      rw [key a ha b hb h2]
      exact h a ha b hb hab h2
    · intro h a ha b hb hab h2
      have := h a ha b hb hab h2
      rw [key a ha b hb h2] at this
      exact this
theorem go_self {g : Nat → Nat} {a b : Nat} (h : 2 ≤ g a) (v : Nat) : goS g (a, a, b) v + 2 * eS a v = g v + eS b v := by
  have := go_val (g := g) (m := (a, a, b)) (ok_same.mpr h) v
  have this : goS g (a, a, b) v + eS a v + eS a v = g v + eS b v := this
  omega
/-- fewer are in vain too -/
theorem va_mono : ∀ (k : Nat) {g h : Nat → Nat}, totS g n ≤ k → (∀ v, h v ≤ g v) → vaS n nx d w g → vaS n nx d w h := by
  intro k
  induction k with
  | zero =>
    intro g h hk hle _
    refine va_iff.mpr (fun a ha b hb hab h2 => ?_)
    have := totS_le (g := g) ha
    have := hle a
    omega
  | succ k ih =>
    intro g h hk hle hv
    refine va_iff.mpr (fun a ha b hb hab h2 => ?_)
    have h3 := hle a
    obtain ⟨c1, c2, c3⟩ := va_iff.mp hv a ha b hb hab (by omega)
    have h4 := hle b
    refine ⟨c1, by omega, ih (g := goS g (a, a, b)) ?_ (fun v => ?_) c3⟩
    · have := go_totN (n := n) (m := (a, a, b)) (g := g) ⟨ha, ha, hb⟩ (ok_same.mpr (by omega))
      omega
    · have e1 := go_self (b := b) h2 v
      have e2 := go_self (g := g) (a := a) (b := b) (by omega) v
      have := hle v
      omega
theorem va_zero : vaS n nx d w z0S := va_iff.mpr (fun a _ b _ _ h2 => by have : 2 ≤ 0 := h2; omega)
theorem box_go (hG : GoodG n nx) {g : Nat → Nat} (hb : BxS n d g) {a b : Nat} (ha : a < n) (hbn : b < n) (hab : (nx a).testBit b = true) (h2 : 2 ≤ g a) (hlt : g b + 1 < 2 ^ d b) : BxS n d (goS g (a, a, b)) := by
  have hne : ¬ b = a := fun e => by rw [e, hG.2.2.2.2] at hab; cases hab
  refine ⟨fun v hv => ?_, fun v hv => ?_⟩
  · have e := go_self (b := b) h2 v
    have e1 := e_val b v
    have := hb.1 v hv
    by_cases z : v = b
    · subst z
      rw [if_pos rfl] at e1
      omega
    · rw [if_neg z] at e1
      omega
  · have e := go_self (b := b) h2 v
    have e1 := e_val b v
    rw [if_neg (by omega)] at e1
    have := hb.2 v hv
    omega
/-- how many at each distance -/
def nkS (d : Nat → Nat) (n k : Nat) : Nat := totS (fun v => if d v = k then 1 else 0) n
theorem tot_pick {F : Nat → Nat} {j : Nat} : ∀ {K : Nat}, j < K → totS (fun k => F k * if j = k then 1 else 0) K = F j := by
  have z : ∀ K, K ≤ j → totS (fun k => F k * if j = k then 1 else 0) K = 0 := by
    intro K
    induction K with
    | zero => intro _; rfl
    | succ K ih =>
      intro h
      show totS _ K + F K * (if j = K then 1 else 0) = 0
      rw [ih (by omega), if_neg (by omega), Nat.mul_zero]
  intro K
  induction K with
  | zero => intro h; omega
  | succ K ih =>
    intro h
    show totS _ K + F K * (if j = K then 1 else 0) = F j
    by_cases e : j = K
    · subst e
      rw [z j (Nat.le_refl _), if_pos rfl]; omega
    · rw [ih (by omega), if_neg e]; omega
theorem tot_by {F : Nat → Nat} : ∀ {m : Nat}, (∀ v, v < m → d v < 12) → totS (fun v => F (d v)) m = totS (fun k => F k * nkS d m k) 12 := by
  intro m
  induction m with
  | zero =>
    intro _
    show 0 = totS (fun k => F k * 0) 12
    have : ∀ K, totS (fun k => F k * 0) K = 0 := by
      intro K
      induction K with
      | zero => rfl
      | succ K ih => show totS _ K + F K * 0 = 0; rw [ih, Nat.mul_zero]
    rw [this]
  | succ m ih =>
    intro h
    have e : (fun k => F k * nkS d (m + 1) k) = fun k => F k * nkS d m k + F k * (if d m = k then 1 else 0) := by
      funext k
      show F k * (nkS d m k + _) = _
      rw [Nat.mul_add]
    rw [e, tot_add, tot_pick (h m (by omega)), ← ih (fun v hv => h v (by omega))]
    rfl
theorem nk_pos {v k : Nat} (hv : v < n) (h : d v = k) : 1 ≤ nkS d n k := by
  have := totS_le (g := fun v => if d v = k then 1 else 0) hv
  have this : (if d v = k then 1 else 0) ≤ nkS d n k := this
  rw [if_pos h] at this
  exact this
/-- no laying of the box has as many as 64 jars -/
theorem box_tot (hG : GoodG n nx) (hw : w < n) (hd : ∀ v, v < n → lev n nx w (d v) v = true) (hs : totS d n ≤ 16) {g : Nat → Nat} (hb : BxS n d g) : totS g n < 64 := by
  have n12 := hG.1
  have hd12 : ∀ v, v < n → d v < 12 := fun v hv => by have := lev_lt hw hG hv (hd v hv); omega
  have h1 : totS g n ≤ totS (fun v => 2 ^ d v - 1) n := tot_mono (fun v hv => by have := hb.1 v hv; show g v ≤ 2 ^ d v - 1; omega)
  have h2 := tot_by (F := fun k => 2 ^ k - 1) hd12
  have h3 := tot_by (F := fun k => k) hd12
  have h3 : totS d n = totS (fun k => k * nkS d n k) 12 := h3
  rw [h2] at h1
  rw [h3] at hs
  have hdown : ∀ k e, 1 ≤ nkS d n (k + e) → 1 ≤ nkS d n k := fun k e h => by
    have : ∃ v, v < n ∧ d v = k + e := by
      refine Classical.byContradiction (fun hno => ?_)
      have z : ∀ m, m ≤ n → nkS d m (k + e) = 0 := by
        intro m
        induction m with
        | zero => intro _; rfl
        | succ m ih =>
          intro hm
          show nkS d m (k + e) + (if d m = k + e then 1 else 0) = 0
          rw [ih (by omega), if_neg (fun y => hno ⟨m, by omega, y⟩)]
      rw [z n (Nat.le_refl _)] at h
      omega
    obtain ⟨v, v1, v2⟩ := this
    have hl := hd v v1
    rw [v2] at hl
    obtain ⟨r, r1, r2⟩ := lev_down2 hw hG e v hl
    exact nk_pos r1 (lev_uniq (hd r r1) r2)
  have a5 : 1 ≤ nkS d n 5 → 1 ≤ nkS d n 4 ∧ 1 ≤ nkS d n 3 ∧ 1 ≤ nkS d n 2 ∧ 1 ≤ nkS d n 1 := fun h => ⟨hdown 4 1 h, hdown 3 2 h, hdown 2 3 h, hdown 1 4 h⟩
  have a6 : ∀ e, 1 ≤ nkS d n (6 + e) → 1 ≤ nkS d n 6 ∧ 1 ≤ nkS d n 5 := fun e h => ⟨hdown 6 e h, hdown 5 (1 + e) (by rw [show 5 + (1 + e) = 6 + e by omega]; exact h)⟩
  have b6 := a6 0
  have b7 := a6 1
  have b8 := a6 2
  have b9 := a6 3
  have b10 := a6 4
  have b11 := a6 5
  simp only [totS] at h1 hs
  generalize nkS d n 0 = m0 at *
  generalize nkS d n 1 = m1 at *
  generalize nkS d n 2 = m2 at *
  generalize nkS d n 3 = m3 at *
  generalize nkS d n 4 = m4 at *
  generalize nkS d n 5 = m5 at *
  have c6 : nkS d n 6 = 0 := by
    by_cases z : nkS d n 6 = 0
    · exact z
    · have := b6 (by show 1 ≤ nkS d n 6; omega)
      have := a5 (by omega)
      omega
  have c7 : nkS d n 7 = 0 := by
    by_cases z : nkS d n 7 = 0
    · exact z
    · have := b7 (by show 1 ≤ nkS d n 7; omega)
      omega
  have c8 : nkS d n 8 = 0 := by
    by_cases z : nkS d n 8 = 0
    · exact z
    · have := b8 (by show 1 ≤ nkS d n 8; omega)
      omega
  have c9 : nkS d n 9 = 0 := by
    by_cases z : nkS d n 9 = 0
    · exact z
    · have := b9 (by show 1 ≤ nkS d n 9; omega)
      omega
  have c10 : nkS d n 10 = 0 := by
    by_cases z : nkS d n 10 = 0
    · exact z
    · have := b10 (by show 1 ≤ nkS d n 10; omega)
      omega
  have c11 : nkS d n 11 = 0 := by
    by_cases z : nkS d n 11 = 0
    · exact z
    · have := b11 (by show 1 ≤ nkS d n 11; omega)
      omega
  rw [c6, c7, c8, c9, c10, c11] at h1
  by_cases z : m5 = 0
  · omega
  · have := a5 (by omega)
    omega
end VAI
