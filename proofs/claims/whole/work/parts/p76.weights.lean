/-! WEIGHTS: a jar d steps away is worth 1 / 2 to the d; the fewest jars that are worth enough -/
def wtS : List (Nat × Nat) → (Nat → Nat) → Nat
  | [], _ => 0
  | p :: l, h => h p.1 * 2 ^ (7 - p.2) + wtS l h
def szS : List (Nat × Nat) → (Nat → Nat) → Nat
  | [], _ => 0
  | p :: l, h => h p.1 + szS l h
def eS (c : Nat) : Nat → Nat := atS z0S c 1
def adS (h : Nat → Nat) (c : Nat) : Nat → Nat := atS h c (h c + 1)
theorem wt_at {h : Nat → Nat} {c x : Nat} : ∀ (l : List (Nat × Nat)), wtS l (atS h c x) + h c * wtS l (eS c) = wtS l h + x * wtS l (eS c) := by
  intro l
  induction l with
  | nil => simp [wtS]
  | cons p l ih =>
    show (atS h c x p.1 * 2 ^ (7 - p.2) + wtS l (atS h c x)) + h c * (eS c p.1 * 2 ^ (7 - p.2) + wtS l (eS c)) = (h p.1 * 2 ^ (7 - p.2) + wtS l h) + x * (eS c p.1 * 2 ^ (7 - p.2) + wtS l (eS c))
    unfold eS at ih ⊢
    by_cases e : p.1 = c
    · rw [e, atS_at, atS_at, Nat.mul_add, Nat.mul_add, Nat.one_mul]
      omega
    · rw [atS_ne e, atS_ne e, show z0S p.1 = 0 from rfl, Nat.zero_mul, Nat.zero_add]
      omega
theorem sz_at {h : Nat → Nat} {c x : Nat} : ∀ (l : List (Nat × Nat)), szS l (atS h c x) + h c * szS l (eS c) = szS l h + x * szS l (eS c) := by
  intro l
  induction l with
  | nil => simp [szS]
  | cons p l ih =>
    show (atS h c x p.1 + szS l (atS h c x)) + h c * (eS c p.1 + szS l (eS c)) = (h p.1 + szS l h) + x * (eS c p.1 + szS l (eS c))
    unfold eS at ih ⊢
    by_cases e : p.1 = c
    · rw [e, atS_at, atS_at, Nat.mul_add, Nat.mul_add, Nat.mul_one, Nat.mul_one]
      omega
    · rw [atS_ne e, atS_ne e, show z0S p.1 = 0 from rfl, Nat.zero_add]
      omega
theorem wt_ad {h : Nat → Nat} {c : Nat} (l : List (Nat × Nat)) : wtS l (adS h c) = wtS l h + wtS l (eS c) := by
  have := wt_at (h := h) (c := c) (x := h c + 1) l
  rw [Nat.add_mul, Nat.one_mul] at this
  unfold adS
  omega
theorem sz_ad {h : Nat → Nat} {c : Nat} (l : List (Nat × Nat)) : szS l (adS h c) = szS l h + szS l (eS c) := by
  have := sz_at (h := h) (c := c) (x := h c + 1) l
  rw [Nat.add_mul, Nat.one_mul] at this
  unfold adS
  omega
theorem wt_lv {h : Nat → Nat} {c : Nat} (l : List (Nat × Nat)) (h0 : 0 < h c) : wtS l (lvS h c) + wtS l (eS c) = wtS l h := by
  have := wt_at (h := h) (c := c) (x := h c - 1) l
  obtain ⟨y, hy⟩ : ∃ y, h c = y + 1 := ⟨h c - 1, by omega⟩
  unfold lvS
  rw [hy] at this ⊢
  rw [Nat.add_mul, Nat.one_mul] at this
  have e : y + 1 - 1 = y := by omega
  rw [e] at this ⊢
  omega
theorem sz_lv {h : Nat → Nat} {c : Nat} (l : List (Nat × Nat)) (h0 : 0 < h c) : szS l (lvS h c) + szS l (eS c) = szS l h := by
  have := sz_at (h := h) (c := c) (x := h c - 1) l
  obtain ⟨y, hy⟩ : ∃ y, h c = y + 1 := ⟨h c - 1, by omega⟩
  unfold lvS
  rw [hy] at this ⊢
  rw [Nat.add_mul, Nat.one_mul] at this
  have e : y + 1 - 1 = y := by omega
  rw [e] at this ⊢
  omega
theorem wt_pos {h : Nat → Nat} : ∀ (l : List (Nat × Nat)), 0 < wtS l h → ∃ v, 0 < h v ∧ 0 < szS l (eS v) := by
  intro l
  induction l with
  | nil => intro z; exact absurd z (by simp [wtS])
  | cons p l ih =>
    intro z
    by_cases e : 0 < h p.1
    · refine ⟨p.1, e, ?_⟩
      show 0 < eS p.1 p.1 + _
      unfold eS
      rw [atS_at]; omega
    · have z : 0 < h p.1 * 2 ^ (7 - p.2) + wtS l h := z
      rw [show h p.1 = 0 by omega, Nat.zero_mul, Nat.zero_add] at z
      obtain ⟨v, v1, v2⟩ := ih z
      refine ⟨v, v1, ?_⟩
      show 0 < eS v p.1 + szS l (eS v)
      omega
theorem wt_le {h : Nat → Nat} {P : Nat} : ∀ (l : List (Nat × Nat)), (∀ p ∈ l, 2 ^ (7 - p.2) ≤ P) → wtS l h ≤ P * szS l h := by
  intro l
  induction l with
  | nil => intro _; exact Nat.zero_le _
  | cons p l ih =>
    intro hp
    show h p.1 * 2 ^ (7 - p.2) + wtS l h ≤ P * (h p.1 + szS l h)
    have h1 := ih (fun q hq => hp q (List.mem_cons_of_mem _ hq))
    have h2 := Nat.mul_le_mul_left (h p.1) (hp p (List.mem_cons_self))
    rw [Nat.mul_add, Nat.mul_comm P (h p.1)]
    omega
theorem sz_le {h : Nat → Nat} : ∀ (l : List (Nat × Nat)) {g : Nat → Nat}, (∀ p ∈ l, h p.1 ≤ g p.1) → szS l h ≤ szS l g := by
  intro l g
  induction l with
  | nil => intro _; exact Nat.le_refl _
  | cons p l ih =>
    intro hp
    have h1 := ih (fun q hq => hp q (List.mem_cons_of_mem _ hq))
    have h2 := hp p (List.mem_cons_self)
    show h p.1 + szS l h ≤ g p.1 + szS l g
    omega
/-- the nearest first -/
def grS (row : Nat → Nat) : List (Nat × Nat) → Nat → Nat → Nat × Nat
  | [], nd, us => (nd, us)
  | p :: l, nd, us => if nd = 0 then (0, us) else grS row l (nd - min (row p.1) ((nd + 2 ^ (7 - p.2) - 1) / 2 ^ (7 - p.2)) * 2 ^ (7 - p.2)) (us + min (row p.1) ((nd + 2 ^ (7 - p.2) - 1) / 2 ^ (7 - p.2)))
theorem gr_zero {row : Nat → Nat} (l : List (Nat × Nat)) (us : Nat) : grS row l 0 us = (0, us) := by
  cases l with
  | nil => rfl
  | cons p l => exact if_pos rfl
/-- ways grow -/
def upS : Nat → List (Nat × Nat) → Prop
  | _, [] => True
  | w0, p :: l => w0 ≤ p.2 ∧ upS p.2 l
theorem upS.all {w0 : Nat} : ∀ {l : List (Nat × Nat)}, upS w0 l → ∀ p ∈ l, w0 ≤ p.2 := by
  intro l
  induction l generalizing w0 with
  | nil => intro _ p hp; cases hp
  | cons q l ih =>
    intro h p hp
    rcases List.mem_cons.mp hp with z | z
    · rw [z]; exact h.1
    · have := ih h.2 p z
      have := h.1
      omega
theorem gr_best {row h : Nat → Nat} : ∀ (l : List (Nat × Nat)) {w0 x nd us : Nat}, upS w0 l → (∀ p ∈ l, h p.1 ≤ row p.1) → x * 2 ^ (7 - w0) + nd ≤ wtS l h → (grS row l nd us).1 = 0 ∧ (grS row l nd us).2 + x ≤ us + szS l h := by
  intro l
  induction l with
  | nil =>
    intro w0 x nd us _ _ hx
    have hx : x * 2 ^ (7 - w0) + nd ≤ 0 := hx
    have hp : 0 < 2 ^ (7 - w0) := Nat.pow_pos (by omega)
    have h1 : x * 1 ≤ x * 2 ^ (7 - w0) := Nat.mul_le_mul_left x hp
    refine ⟨show nd = 0 by omega, show us + x ≤ us + 0 by omega⟩
  | cons p l ih =>
    intro w0 x nd us hu hr hx
    have hp0 : 0 < 2 ^ (7 - p.2) := Nat.pow_pos (by omega)
    have hmono : 2 ^ (7 - p.2) ≤ 2 ^ (7 - w0) := Nat.pow_le_pow_right (by omega) (by have := hu.1; omega)
    have hwl : wtS (p :: l) h ≤ 2 ^ (7 - p.2) * szS (p :: l) h := wt_le _ (fun q hq => Nat.pow_le_pow_right (by omega) (by
      rcases List.mem_cons.mp hq with z | z
      · rw [z]; exact Nat.le_refl _
      · have := hu.2.all q z
        omega))
    have hx1 : x * 2 ^ (7 - p.2) + nd ≤ wtS (p :: l) h := by
      have := Nat.mul_le_mul_left x hmono
      omega
    have hszc : szS (p :: l) h = h p.1 + szS l h := rfl
    have hwtc : wtS (p :: l) h = h p.1 * 2 ^ (7 - p.2) + wtS l h := rfl
    have hrp := hr p (List.mem_cons_self)
    generalize hP : 2 ^ (7 - p.2) = P at *
    have hgr : grS row (p :: l) nd us = if nd = 0 then (0, us) else grS row l (nd - min (row p.1) ((nd + P - 1) / P) * P) (us + min (row p.1) ((nd + P - 1) / P)) := by
      rw [← hP]; rfl
    rw [hgr]
    by_cases hz : nd = 0
    · rw [if_pos hz]
      refine ⟨rfl, ?_⟩
      show us + x ≤ us + szS (p :: l) h
      have : x * P ≤ szS (p :: l) h * P := by rw [Nat.mul_comm (szS (p :: l) h) P]; omega
      have := Nat.le_of_mul_le_mul_right this hp0
      omega
    · rw [if_neg hz]
      generalize hT : min (row p.1) ((nd + P - 1) / P) = T
      have hceil1 : nd ≤ (nd + P - 1) / P * P := by
        have e1 := Nat.div_add_mod (nd + P - 1) P
        have e2 := Nat.mod_lt (nd + P - 1) hp0
        generalize hQ : (nd + P - 1) / P = Q at *
        generalize hM : (nd + P - 1) % P = M at *
        rw [Nat.mul_comm] at e1
        generalize Q * P = QP at *
        omega
      by_cases hc : nd ≤ T * P
      · rw [show nd - T * P = 0 by omega, gr_zero]
        refine ⟨rfl, ?_⟩
        show us + T + x ≤ us + szS (p :: l) h
        have hTc : T ≤ (nd + P - 1) / P := by rw [← hT]; exact Nat.min_le_right _ _
        have hTP : T * P ≤ nd + P - 1 := Nat.le_trans (Nat.mul_le_mul_right P hTc) (Nat.div_mul_le_self _ _)
        have h3 : (x + T) * P < (szS (p :: l) h + 1) * P := by
          rw [Nat.add_mul, Nat.add_mul, Nat.one_mul, Nat.mul_comm (szS (p :: l) h) P]
          omega
        have := Nat.lt_of_mul_lt_mul_right h3
        omega
      · have hTr : T = row p.1 := by
          by_cases z : row p.1 ≤ (nd + P - 1) / P
          · rw [← hT]; exact Nat.min_eq_left z
          · rw [Nat.min_eq_right (by omega)] at hT
            rw [hT] at hceil1
            omega
        have hxx : (x + (row p.1 - h p.1)) * 2 ^ (7 - p.2) + (nd - T * P) ≤ wtS l h := by
          rw [hP, Nat.add_mul, Nat.sub_mul, hTr]
          have := Nat.mul_le_mul_right P hrp
          rw [hTr] at hc
          omega
        obtain ⟨a1, a2⟩ := ih (w0 := p.2) (x := x + (row p.1 - h p.1)) (nd := nd - T * P) (us := us + T) hu.2 (fun q hq => hr q (List.mem_cons_of_mem _ hq)) hxx
        refine ⟨a1, ?_⟩
        rw [hszc]
        omega
/-- no fewer than two jars each, and no more than there are -/
theorem gr_many {row : Nat → Nat} : ∀ (l : List (Nat × Nat)) {nd us : Nat}, (∀ p ∈ l, 1 ≤ p.2) → us ≤ (grS row l nd us).2 ∧ (grS row l nd us).2 ≤ us + szS l row ∧ ((grS row l nd us).1 = 0 → nd ≤ 64 * ((grS row l nd us).2 - us)) := by
  intro l
  induction l with
  | nil =>
    intro nd us _
    exact ⟨Nat.le_refl _, Nat.le_refl _, fun z => by have z : nd = 0 := z; omega⟩
  | cons p l ih =>
    intro nd us hl
    have hp64 : 2 ^ (7 - p.2) ≤ 64 := by
      have := hl p (List.mem_cons_self)
      exact Nat.pow_le_pow_right (n := 2) (j := 6) (by omega) (by omega)
    by_cases hz : nd = 0
    · subst hz
      rw [gr_zero]
      exact ⟨Nat.le_refl _, Nat.le_add_right _ _, fun _ => Nat.zero_le _⟩
    · have hgr : grS row (p :: l) nd us = grS row l (nd - min (row p.1) ((nd + 2 ^ (7 - p.2) - 1) / 2 ^ (7 - p.2)) * 2 ^ (7 - p.2)) (us + min (row p.1) ((nd + 2 ^ (7 - p.2) - 1) / 2 ^ (7 - p.2))) := if_neg hz
      rw [hgr]
      have hm : min (row p.1) ((nd + 2 ^ (7 - p.2) - 1) / 2 ^ (7 - p.2)) ≤ row p.1 := Nat.min_le_left _ _
      generalize min (row p.1) ((nd + 2 ^ (7 - p.2) - 1) / 2 ^ (7 - p.2)) = T at *
      obtain ⟨a1, a2, a3⟩ := ih (nd := nd - T * 2 ^ (7 - p.2)) (us := us + T) (fun q hq => hl q (List.mem_cons_of_mem _ hq))
      refine ⟨by omega, ?_, fun z => ?_⟩
      · show _ ≤ us + (row p.1 + szS l row)
        omega
      · have b := a3 z
        have c := Nat.mul_le_mul_left T hp64
        omega
