/-! LEDGERS: the lines as both read them -/
def lnU (ln : LnF) (k : Nat) (v : Option (Nat × Nat)) : LnF := fun i => if i = k then v else ln i
theorem lnU_at {ln : LnF} {k : Nat} {v : Option (Nat × Nat)} : lnU ln k v k = v := if_pos rfl
theorem lnU_ne {ln : LnF} {k i : Nat} {v : Option (Nat × Nat)} (h : ¬ i = k) : lnU ln k v i = ln i := if_neg h
def rlS (n : Nat) (nx : Nat → Nat) (ln : LnF) (k L : Nat) (A : Nat → Nat) (needs changes : Nat → Int32) : Prop :=
  ldS n nx ln k L A ∧ caS ln A L needs changes ∧ (∀ st, L < st → st ≤ 3 → ∀ w, w < 12 → needs (st * 12 + w) = 0 ∧ changes (st * 12 + w) = 0) ∧ lcn ln k 0 = L
section RDL
variable {n : Nat} {nx : Nat → Nat} {ln : LnF} {k L : Nat} {A : Nat → Nat} {needs changes : Nat → Int32}
theorem rl_start (hz : ∀ i, i < 48 → needs i = 0 ∧ changes i = 0) : rlS n nx (fun _ => none) 0 0 (fun i => i) needs changes := by
  refine ⟨⟨by omega, by omega, rfl, rfl, fun i hi => by omega, fun st hst => Nat.lt_succ_self st, fun st hst i h1 h2 => by
    have h1 : st ≤ i := h1
    have h2 : i + 1 < st + 1 := h2
    omega, fun st hst => by omega⟩, fun st hst w hw => ?_, fun st h1 h2 w hw => hz _ (by omega), rfl⟩
  have e : st = 0 := by omega
  subst e
  exact hz _ (by omega)
theorem rl_seg (h : rlS n nx ln k L A needs changes) {st : Nat} (hst : st ≤ L) : A st + (A (st + 1) - 1 - A st) ≤ k := by
  have h1 := h.1.2.2.2.2.2.1 st hst
  have h2 := ld_le h.1 (L - st) (st + 1) (by omega)
  omega
theorem rl_lost (h : rlS n nx ln k L A needs changes) (hk : k < 10) (hL : L < 3) : rlS n nx (lnU ln k none) (k + 1) (L + 1) (atS A (L + 2) (k + 2)) needs changes := by
  obtain ⟨⟨h1, h2, h3, h4, h5, h6, h7, h8⟩, h9, h10, h11⟩ := id h
  have hA : ∀ st, st ≤ L + 1 → atS A (L + 2) (k + 2) st = A st := fun st hst => atS_ne (by omega)
  have hA2 : atS A (L + 2) (k + 2) (L + 2) = k + 2 := atS_at _ _ _
  refine ⟨⟨by omega, by omega, ?_, hA2, fun i hi p hp => ?_, fun st hst => ?_, fun st hst i i1 i2 => ?_, fun st hst => ?_⟩, fun st hst w hw => ?_, fun st i1 i2 => h10 st (by omega) i2, ?_⟩
  · rw [hA 0 (by omega)]; exact h3
  · by_cases e : i = k
    · rw [e, lnU_at] at hp; cases hp
    · rw [lnU_ne e] at hp; exact h5 i (by omega) p hp
  · by_cases e : st = L + 1
    · rw [e, hA (L + 1) (by omega), hA2, h4]; omega
    · rw [hA st (by omega), hA (st + 1) (by omega)]; exact h6 st (by omega)
  · by_cases e : st = L + 1
    · rw [e, hA (L + 1) (by omega), h4] at i1
      rw [e, hA2] at i2
      omega
    · rw [hA st (by omega)] at i1
      rw [hA (st + 1) (by omega)] at i2
      have := ld_le h.1 (L - st) (st + 1) (by omega)
      rw [lnU_ne (by omega)]
      exact h7 st (by omega) i i1 i2
  · rw [hA (st + 1) (by omega)]
    by_cases e : st = L
    · rw [e, h4]; exact lnU_at
    · have := ld_le h.1 (L - st) (st + 1) (by omega)
      have := h6 st (by omega)
      rw [lnU_ne (by omega)]
      exact h8 st (by omega)
  · by_cases e : st = L + 1
    · have := h10 st (by omega) (by omega) w hw
      rw [e, hA (L + 1) (by omega), hA2, h4, show k + 2 - 1 - (k + 1) = 0 by omega]
      rw [e] at this
      exact this
    · rw [hA st (by omega), hA (st + 1) (by omega)]
      have hs := rl_seg h (show st ≤ L by omega)
      obtain ⟨c1, c2⟩ := seg_congr (ln := lnU ln k none) (ln' := ln) (a := A st) (m := A (st + 1) - 1 - A st) (fun i i1 i2 => lnU_ne (by omega))
      rw [c1, c2]
      exact h9 st (by omega) w hw
  · rw [lcn_snoc, Nat.zero_add, lnU_at, lcn_congr (ln' := ln) (fun j j1 j2 => lnU_ne (by omega)), h11]
    rfl
theorem rl_told (hG : GoodG n nx) (h : rlS n nx ln k L A needs changes) (hk : k < 10) {a b : Nat} (ha : a < n) (hb : b < n) (hab : (nx a).testBit b = true) :
    ∃ needs' changes', Ledger_note needs changes (nI L) (nI a) (nI b) = some (needs', changes') ∧ rlS n nx (lnU ln k (some (a, b))) (k + 1) L (atS A (L + 1) (k + 2)) needs' changes' := by
  have n12 := hG.1
  obtain ⟨⟨h1, h2, h3, h4, h5, h6, h7, h8⟩, h9, h10, h11⟩ := id h
  have hne : ¬ a = b := fun e => by rw [e, hG.2.2.2.2] at hab; cases hab
  have hA : ∀ st, st ≤ L → atS A (L + 1) (k + 2) st = A st := fun st hst => atS_ne (by omega)
  have hA2 : atS A (L + 1) (k + 2) (L + 1) = k + 2 := atS_at _ _ _
  have hAL := h6 L (Nat.le_refl _)
  rw [h4] at hAL
  have hm : A (L + 1) - 1 - A L = k - A L := by rw [h4]; omega
  have hbd := fun w => seg_bound (ln := ln) (a := A L) w (k - A L)
  have hcur := h9 L (Nat.le_refl _)
  rw [hm] at hcur
  have hlnk : lnU ln k (some (a, b)) (A L + (k - A L)) = some (a, b) := by rw [show A L + (k - A L) = k by omega]; exact lnU_at
  obtain ⟨s1, s2⟩ := seg_congr (ln := lnU ln k (some (a, b))) (ln' := ln) (a := A L) (m := k - A L) (fun i i1 i2 => lnU_ne (by omega))
  have hixa : ix (nI (L * 12 + a)) 48 = true := ixN (by omega) (by omega)
  have hixb : ix (nI (L * 12 + b)) 48 = true := ixN (by omega) (by omega)
  have hna := hcur a (by omega)
  have hnb := hcur b (by omega)
  have hba := hbd a
  refine ⟨upd needs (L * 12 + a) (iI (max (ndL ln (A L) (k - A L) a) (2 - cgL ln (A L) (k - A L) a))), upd (upd changes (L * 12 + a) (iI (cgL ln (A L) (k - A L) a - 2))) (L * 12 + b) (iI (cgL ln (A L) (k - A L) b + 1)), ?_, ⟨h1, by omega, ?_, hA2, fun i hi p hp => ?_, fun st hst => ?_, fun st hst i i1 i2 => ?_, fun st hst => ?_⟩, fun st hst w hw => ?_, fun st i1 i2 w hw => ?_, ?_⟩
  · unfold Ledger_note
    rw [at48, at48, gd_eq hixa, gd_eq hixa, gd_eq hixa, gd_eq hixa, gd_eq hixa, gd_eq hixb, gd_eq hixb, nI_clamp (show L * 12 + a < 2 ^ 31 by omega), nI_clamp (show L * 12 + b < 2 ^ 31 by omega), hna.1, hna.2, upd_ne (show ¬ L * 12 + b = L * 12 + a by omega), hnb.2, show (2 : Int32) = iI 2 from rfl, iI_sub, iI_sub, iI_max ⟨by omega, by omega⟩ ⟨by omega, by omega⟩, show iI (cgL ln (A L) (k - A L) b) + 1 = iI (cgL ln (A L) (k - A L) b + 1) from iI_add _ 1]
  · rw [hA 0 (by omega)]; exact h3
  · by_cases e : i = k
    · rw [e, lnU_at] at hp
      have hp := Option.some.inj hp
      rw [← hp]; exact ⟨ha, hb, hab⟩
    · rw [lnU_ne e] at hp; exact h5 i (by omega) p hp
  · by_cases e : st = L
    · rw [e, hA L (Nat.le_refl _), hA2]; omega
    · rw [hA st hst, hA (st + 1) (by omega)]; exact h6 st hst
  · by_cases e : st = L
    · rw [e, hA L (Nat.le_refl _)] at i1
      rw [e, hA2] at i2
      by_cases y : i = k
      · exact ⟨(a, b), by rw [y]; exact lnU_at⟩
      · rw [lnU_ne y]
        exact h7 L (Nat.le_refl _) i i1 (by rw [h4]; omega)
    · rw [hA st hst] at i1
      rw [hA (st + 1) (by omega)] at i2
      have := ld_le h.1 (L - st) (st + 1) (by omega)
      rw [lnU_ne (by omega)]
      exact h7 st hst i i1 i2
  · rw [hA (st + 1) (by omega)]
    have := ld_le h.1 (L - st) (st + 1) (by omega)
    have := h6 st (by omega)
    rw [lnU_ne (by omega)]
    exact h8 st hst
  · by_cases e : st = L
    · rw [e, hA L (Nat.le_refl _), hA2, show k + 2 - 1 - A L = (k - A L) + 1 by omega, nd_some hlnk, cg_some hlnk, s1, s2]
      have hc := hcur w hw
      constructor
      · by_cases y : w = a
        · rw [if_pos y, y, upd_at]
        · rw [if_neg y, upd_ne (by omega)]; exact hc.1
      · unfold dlt
        by_cases y : w = b
        · rw [y, upd_at, if_neg (fun q => hne q.symm), if_pos rfl, Int.zero_add]
        · rw [upd_ne (by omega), if_neg y]
          by_cases y2 : w = a
          · rw [y2, upd_at, if_pos rfl]
            congr 1
          · rw [upd_ne (by omega), if_neg y2, hc.2]
            congr 1
            omega
    · rw [hA st hst, hA (st + 1) (by omega), upd_ne (by omega), upd_ne (by omega), upd_ne (by omega)]
      have hs := rl_seg h hst
      have := ld_le h.1 (L - st) (st + 1) (by omega)
      obtain ⟨c1, c2⟩ := seg_congr (ln := lnU ln k (some (a, b))) (ln' := ln) (a := A st) (m := A (st + 1) - 1 - A st) (fun i i1 i2 => lnU_ne (by omega))
      rw [c1, c2]
      exact h9 st hst w hw
  · rw [upd_ne (by omega), upd_ne (by omega), upd_ne (by omega)]
    exact h10 st i1 i2 w hw
  · rw [lcn_snoc, Nat.zero_add, lnU_at, lcn_congr (ln' := ln) (fun j j1 j2 => lnU_ne (by omega)), h11]
    rfl
theorem re_told {gF gT : Nat → Int32} (h : reS n nx ln k gF gT) {a b : Nat} (ha : a < n) (hb : b < n) (hab : (nx a).testBit b = true) : reS n nx (lnU ln k (some (a, b))) (k + 1) (upd (upd gF k (-1)) k (nI a)) (upd gT k (nI b)) := fun i hi => by
  by_cases e : i = k
  · right
    rw [e]
    exact ⟨(a, b), lnU_at, ha, hb, hab, upd_at _ _ _, upd_at _ _ _⟩
  · rw [lnU_ne e, upd_ne e, upd_ne e, upd_ne e]
    exact h i (by omega)
theorem re_lost {gF gT : Nat → Int32} (h : reS n nx ln k gF gT) : reS n nx (lnU ln k none) (k + 1) (upd gF k (-1)) gT := fun i hi => by
  by_cases e : i = k
  · left
    rw [e]
    exact ⟨lnU_at, upd_at _ _ _⟩
  · rw [lnU_ne e, upd_ne e]
    exact h i (by omega)
end RDL
