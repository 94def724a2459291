/-! A STAGE MORE -/
/-- a and b made neighbours -/
def addE (nx : Nat → Nat) (a b : Nat) : Nat → Nat := fun w => if w = b then (if b = a then nx a else nx b ||| 2 ^ a) else if w = a then nx a ||| 2 ^ b else nx w
theorem addE_bit {nx : Nat → Nat} {a b : Nat} (h : a ≠ b) (w v : Nat) : (addE nx a b w).testBit v = ((nx w).testBit v || (decide (w = a ∧ v = b) || decide (w = b ∧ v = a))) := by
  unfold addE
  by_cases hb : w = b
  · subst hb
    rw [if_pos rfl, if_neg (fun z => h z.symm), Nat.testBit_or, Nat.testBit_two_pow]
    by_cases hv : v = a
    · subst hv; simp
    · simp [hv, Ne.symm hv, Ne.symm h]
  · rw [if_neg hb]
    by_cases ha : w = a
    · subst ha
      rw [if_pos rfl, Nat.testBit_or, Nat.testBit_two_pow]
      by_cases hv : v = b
      · subst hv; simp
      · simp [hv, Ne.symm hv, hb]
    · rw [if_neg ha]; simp [ha, hb]
theorem addE_good {n : Nat} {nx : Nat → Nat} (hg : GoodG n nx) {a b : Nat} (ha : a < n) (hb : b < n) (h : a ≠ b) : GoodG n (addE nx a b) := by
  obtain ⟨h1, h2, h3, h4, h5⟩ := hg
  refine ⟨h1, fun p => ?_, fun p hp => ?_, fun p q => ?_, fun p => ?_⟩
  · unfold addE
    by_cases e : p = b
    · rw [if_pos e, if_neg (fun z => h z.symm)]
      exact Nat.or_lt_two_pow (h2 b) (Nat.pow_lt_pow_right (by decide) ha)
    · rw [if_neg e]
      by_cases e2 : p = a
      · rw [if_pos e2]; exact Nat.or_lt_two_pow (h2 a) (Nat.pow_lt_pow_right (by decide) hb)
      · rw [if_neg e2]; exact h2 p
  · unfold addE
    rw [if_neg (by omega), if_neg (by omega)]; exact h3 p hp
  · rw [addE_bit h, addE_bit h, h4 p q]
    congr 1
    rw [Bool.or_comm]
    congr 1
    · exact decide_eq_decide.mpr ⟨fun z => ⟨z.2, z.1⟩, fun z => ⟨z.2, z.1⟩⟩
    · exact decide_eq_decide.mpr ⟨fun z => ⟨z.2, z.1⟩, fun z => ⟨z.2, z.1⟩⟩
  · rw [addE_bit h, h5 p, decide_eq_false (fun z => h (z.1.symm.trans z.2)), decide_eq_false (fun z => h (z.2.symm.trans z.1))]; rfl
theorem join_ok {n : Nat} {nx : Nat → Nat} (hg : GoodG n nx) {next : Nat → Int32} (hx : ∀ w, w < 12 → next w = nI (nx w)) {a b : Nat} (ha : a < n) (hb : b < n) (h : a ≠ b) :
    ∃ next', Land_join (nI n) next (nI a) (nI b) = some next' ∧ (∀ w, w < 12 → next' w = nI (addE nx a b w)) ∧ GoodG n (addE nx a b) := by
  have n12 := hg.1
  have h2n : (2 : Nat) ^ n ≤ 2 ^ 12 := Nat.pow_le_pow_right (by decide) n12
  have hlt : ∀ w, nx w < 2 ^ 32 := fun w => Nat.lt_of_lt_of_le (hg.2.1 w) (Nat.le_trans h2n (by decide))
  have hpw : ∀ w, w < 12 → 2 ^ w < 2 ^ 32 := fun w hw => Nat.pow_lt_pow_right (by decide) (by omega)
  refine ⟨upd (upd next a (nI (nx a ||| 2 ^ b))) b (nI (nx b ||| 2 ^ a)), ?_, fun w hw => ?_, addE_good hg ha hb h⟩
  · unfold Land_join
    rw [ob_eq (has_yes ha n12), if_neg one_ne0, ob_eq (has_yes hb n12), if_neg one_ne0, if_neg (fun z => h ((nI_inj (by omega) (by omega)).mp z)), gd_eq (ixN (by omega) (by decide)), gd_eq (ixN (by omega) (by decide)), gd_eq (ixN (by omega) (by decide)), gd_eq (ixN (by omega) (by decide)), nI_clamp (by omega), nI_clamp (by omega), shl_nI (by omega), shl_nI (by omega), hx a (by omega), upd_ne (Ne.symm h), hx b (by omega), or_nI (hlt a) (hpw b (by omega)), or_nI (hlt b) (hpw a (by omega))]
  · unfold addE
    by_cases e : w = b
    · subst e; rw [upd_at, if_pos rfl, if_neg (fun z => h z.symm)]
    · rw [upd_ne e, if_neg e]
      by_cases e2 : w = a
      · subst e2; rw [upd_at, if_pos rfl]
      · rw [upd_ne e2, if_neg e2]; exact hx w hw
