/-! ROBBERS: at once or never -/
def aoS (n : Nat) (nx : Nat → Nat) (g : Nat → Nat) (w : Nat) : Prop := 0 < g w ∨ ∃ v, v < n ∧ (nx v).testBit w = true ∧ 2 ≤ g v
section ROB
variable {n : Nat} {nx : Nat → Nat} {nextTo next : Nat → Int32}
theorem isAtOnce_ok (hg : GoodG n nx) (hn : n ≤ 8) (hx : ∀ w, w < 12 → nextTo w = nI (nx w)) {g : Nat → Nat} (h : SG n g) {w : Nat} (hw : w < n) :
    (Mo_isAtOnce nextTo (nI n) (cdS g) (nI w) = some 1 ∧ aoS n nx g w) ∨ (Mo_isAtOnce nextTo (nI n) (cdS g) (nI w) = some 0 ∧ ¬ aoS n nx g w) := by
  have hgw := h.dig w (by omega)
  unfold Mo_isAtOnce
  rw [ob_eq (jarsIn_ok h (show w < 8 by omega))]
  by_cases h0 : 0 < g w
  · left
    exact ⟨if_neg (fun z => by have := (nI_leN (b := 0) (by omega) (by omega)).mp z; omega), .inl h0⟩
  · rw [if_pos (show nI (g w) ≤ 0 by rw [show g w = 0 by omega]; decide)]
    obtain ⟨r, r1, r2⟩ := lp_inv (f := Mo_isAtOnce_L12 (cdS g) (nI w) nextTo (nI n)) (fun k s => s = nI k ∧ ∀ v, v < k → ¬ ((nx v).testBit w = true ∧ 2 ≤ g v)) n
      (fun r => (r = Sum.inl () ∧ ∃ v, v < n ∧ (nx v).testBit w = true ∧ 2 ≤ g v) ∨ (r = Sum.inr () ∧ ∀ v, v < n → ¬ ((nx v).testBit w = true ∧ 2 ≤ g v)))
      (by
        rintro k s hk ⟨rfl, e2⟩
        have hb : nx k < 2 ^ 31 := Nat.lt_of_lt_of_le (hg.2.1 k) (Nat.pow_le_pow_right (by omega) (by omega))
        have hgk := h.dig k (by omega)
        have hst : Mo_isAtOnce_L12 (cdS g) (nI w) nextTo (nI n) (nI k) = if (if (nx k).testBit w then (1 : Int32) else 0) = 0 then some (Sum.inl (nI (k + 1))) else if nI (g k) ≤ 1 then some (Sum.inl (nI (k + 1))) else some (Sum.inr (Sum.inl ())) := by
          unfold Mo_isAtOnce_L12
          rw [if_pos ((nI_ltN (by omega) (by omega)).mpr hk), gd_eq (ixN (by omega) (by omega)), nI_clamp (by omega), hx k (by omega), ob_eq (Mo_has_eq hb (by omega)), ob_eq (jarsIn_ok h (show k < 8 by omega))]
          unfold Mo_isAtOnce_L12_J44
          rw [show nI k + 1 = nI (k + 1) from nI_ad k 1]
        rw [hst]
        have hnx : ∀ v, v < k + 1 → ¬ v < k → v = k := fun v h1 h2 => by omega
        cases ht : (nx k).testBit w with
        | false =>
          left
          refine ⟨nI (k + 1), if_pos rfl, rfl, fun v hv => ?_⟩
          by_cases e : v < k
          · exact e2 v e
          · rw [hnx v hv e, ht]; exact fun z => absurd z.1 (by decide)
        | true =>
          rw [if_neg (show ¬ (if true = true then (1 : Int32) else 0) = 0 by decide)]
          by_cases h2 : 2 ≤ g k
          · right
            exact ⟨Sum.inl (), if_neg (fun z => by have := (nI_leN (b := 1) (by omega) (by omega)).mp z; omega), .inl ⟨rfl, k, hk, ht, h2⟩⟩
          · left
            refine ⟨nI (k + 1), if_pos ((nI_leN (b := 1) (by omega) (by omega)).mpr (by omega)), rfl, fun v hv => ?_⟩
            by_cases e : v < k
            · exact e2 v e
            · rw [hnx v hv e]; exact fun z => h2 z.2)
      (by
        rintro s ⟨rfl, e2⟩
        refine ⟨Sum.inr (), ?_, .inr ⟨rfl, e2⟩⟩
        unfold Mo_isAtOnce_L12
        exact if_neg (fun z => by have := (nI_ltN (by omega) (by omega)).mp z; omega))
      0 0 (Nat.zero_le _) ⟨rfl, fun v hv => by omega⟩
    rw [ob_eq r1]
    rcases r2 with ⟨rfl, hv⟩ | ⟨rfl, hv⟩
    · exact .inl ⟨rfl, .inr hv⟩
    · exact .inr ⟨rfl, fun z => by
        rcases z with z | ⟨v, v1, v2, v3⟩
        · exact h0 z
        · exact hv v v1 ⟨v2, v3⟩⟩
/-- the class -/
theorem robbers_class (hg : GoodG n nx) (hn : n ≤ 8) (hx : ∀ w, w < 12 → next w = nI (nx w)) {jars : Nat → Int32} {g : Nat → Nat} (h : SG n g) (hj : ∀ w, w < n → jars w = nI (g w)) (ht : Dj_tooMuchToSearch (nI n) jars = some 0) {w : Nat} (hw : w < n) :
    (Dj_robbers (nI n) next jars (nI w) = some 1 ∧ aoS n nx g w) ∨ (Dj_robbers (nI n) next jars (nI w) = some 0 ∧ ¬ aoS n nx g w) := by
  have hgw := h.dig w (by omega)
  unfold Dj_robbers
  rw [ob_eq (has_yes hw (by omega)), if_neg one_ne0, ob_eq ht, if_pos rfl, gd_eq (ixN (by omega) (by omega)), nI_clamp (by omega), hj w hw]
  by_cases h0 : 0 < g w
  · left
    exact ⟨if_neg (fun z => by have := (nI_leN (b := 0) (by omega) (by omega)).mp z; omega), .inl h0⟩
  · rw [if_pos (show nI (g w) ≤ 0 by rw [show g w = 0 by omega]; decide)]
    obtain ⟨r, r1, r2⟩ := lp_inv (f := Dj_robbers_L39 (nI w) (nI n) next jars) (fun k s => s = nI k ∧ ∀ v, v < k → ¬ ((nx v).testBit w = true ∧ 2 ≤ g v)) n
      (fun r => (r = Sum.inl () ∧ ∃ v, v < n ∧ (nx v).testBit w = true ∧ 2 ≤ g v) ∨ (r = Sum.inr () ∧ ∀ v, v < n → ¬ ((nx v).testBit w = true ∧ 2 ≤ g v)))
      (by
        rintro k s hk ⟨rfl, e2⟩
        have hgk := h.dig k (by omega)
        have hst : Dj_robbers_L39 (nI w) (nI n) next jars (nI k) = if (if (nx k).testBit w then (1 : Int32) else 0) = 0 then some (Sum.inl (nI (k + 1))) else if nI (g k) < 2 then some (Sum.inl (nI (k + 1))) else some (Sum.inr (Sum.inl ())) := by
          unfold Dj_robbers_L39
          rw [if_pos ((nI_ltN (by omega) (by omega)).mpr hk), ob_eq (areNext_in hg hx hk hw), gd_eq (ixN (by omega) (by omega)), nI_clamp (by omega), hj k hk]
          unfold Dj_robbers_L39_J77
          rw [show nI k + 1 = nI (k + 1) from nI_ad k 1]
        rw [hst]
        have hnx : ∀ v, v < k + 1 → ¬ v < k → v = k := fun v h1 h2 => by omega
        cases ht : (nx k).testBit w with
        | false =>
          left
          refine ⟨nI (k + 1), if_pos rfl, rfl, fun v hv => ?_⟩
          by_cases e : v < k
          · exact e2 v e
          · rw [hnx v hv e, ht]; exact fun z => absurd z.1 (by decide)
        | true =>
          rw [if_neg (show ¬ (if true = true then (1 : Int32) else 0) = 0 by decide)]
          by_cases h2 : 2 ≤ g k
          · right
            exact ⟨Sum.inl (), if_neg (fun z => by have := (nI_ltN (b := 2) (by omega) (by omega)).mp z; omega), .inl ⟨rfl, k, hk, ht, h2⟩⟩
          · left
            refine ⟨nI (k + 1), if_pos ((nI_ltN (b := 2) (by omega) (by omega)).mpr (by omega)), rfl, fun v hv => ?_⟩
            by_cases e : v < k
            · exact e2 v e
            · rw [hnx v hv e]; exact fun z => h2 z.2)
      (by
        rintro s ⟨rfl, e2⟩
        refine ⟨Sum.inr (), ?_, .inr ⟨rfl, e2⟩⟩
        unfold Dj_robbers_L39
        exact if_neg (fun z => by have := (nI_ltN (by omega) (by omega)).mp z; omega))
      0 0 (Nat.zero_le _) ⟨rfl, fun v hv => by omega⟩
    rw [ob_eq r1]
    rcases r2 with ⟨rfl, hv⟩ | ⟨rfl, hv⟩
    · exact .inl ⟨rfl, .inr hv⟩
    · exact .inr ⟨rfl, fun z => by
        rcases z with z | ⟨v, v1, v2, v3⟩
        · exact h0 z
        · exact hv v v1 ⟨v2, v3⟩⟩
/-- fewer jars, not more at once -/
theorem ao_mono {g g' : Nat → Nat} (h : ∀ j, g' j ≤ g j) {w : Nat} (ha : aoS n nx g' w) : aoS n nx g w := by
  rcases ha with h1 | ⟨v, v1, v2, v3⟩
  · exact .inl (Nat.lt_of_lt_of_le h1 (h w))
  · exact .inr ⟨v, v1, v2, Nat.le_trans v3 (h v)⟩
theorem lv_below (g : Nat → Nat) (w j : Nat) : lvS g w j ≤ g j := by
  unfold lvS atS
  by_cases e : j = w
  · rw [if_pos e, e]; omega
  · rw [if_neg e]; exact Nat.le_refl _
/-- the robber takes what was brought -/
theorem mv_below {g : Nat → Nat} (v u j : Nat) : lvS (mvS g v u) u j ≤ g j := by
  unfold lvS mvS atS
  by_cases e : j = u
  · rw [if_pos e, if_pos rfl, e]
    by_cases e2 : u = v
    · rw [if_pos e2, e2]; omega
    · rw [if_neg e2]; omega
  · rw [if_neg e, if_neg e]
    by_cases e2 : j = v
    · rw [if_pos e2, e2]; omega
    · rw [if_neg e2]; exact Nat.le_refl _
end ROB
