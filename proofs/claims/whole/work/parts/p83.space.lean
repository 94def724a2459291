/-! THE CLASS'S SEARCH: space -/
theorem rb_row {k : Nat} {t t' : List Nat} (h : ∀ s, s < 14 → rbS k s = t.getD s 0) (h0 : t'.getD 0 0 = 0) (ht : ∀ s, s < 13 → t'.getD (s + 1) 0 = t'.getD s 0 + t.getD (s + 1) 0) : ∀ s, s < 14 → rbS (k + 1) s = t'.getD s 0 := by
  intro s
  induction s with
  | zero => intro _; rw [rbS_zero, h0]
  | succ s ih =>
    intro hs
    rw [rbS_succ, ih (by omega), h (s + 1) hs, ht s (by omega)]
theorem rb_bound : ∀ n, n ≤ 8 → ∀ s, s < 14 → rbS n s ≤ 125970 ∧ (s ≤ 11 → rbS n s ≤ 43758) := by
  have r0 : ∀ s, s < 14 → rbS 0 s = [0, 1, 1, 1, 1, 1, 1, 1, 1, 1, 1, 1, 1, 1].getD s 0 := by
    intro s hs
    cases s with
    | zero => rw [rbS_zero]; rfl
    | succ s =>
      rw [rbS_base]
      have : ∀ s, s < 13 → 1 = [0, 1, 1, 1, 1, 1, 1, 1, 1, 1, 1, 1, 1, 1].getD (s + 1) 0 := by decide
      exact this s (by omega)
  have r1 := rb_row (t' := [0, 1, 2, 3, 4, 5, 6, 7, 8, 9, 10, 11, 12, 13]) r0 rfl (by decide)
  have r2 := rb_row (t' := [0, 1, 3, 6, 10, 15, 21, 28, 36, 45, 55, 66, 78, 91]) r1 rfl (by decide)
  have r3 := rb_row (t' := [0, 1, 4, 10, 20, 35, 56, 84, 120, 165, 220, 286, 364, 455]) r2 rfl (by decide)
  have r4 := rb_row (t' := [0, 1, 5, 15, 35, 70, 126, 210, 330, 495, 715, 1001, 1365, 1820]) r3 rfl (by decide)
  have r5 := rb_row (t' := [0, 1, 6, 21, 56, 126, 252, 462, 792, 1287, 2002, 3003, 4368, 6188]) r4 rfl (by decide)
  have r6 := rb_row (t' := [0, 1, 7, 28, 84, 210, 462, 924, 1716, 3003, 5005, 8008, 12376, 18564]) r5 rfl (by decide)
  have r7 := rb_row (t' := [0, 1, 8, 36, 120, 330, 792, 1716, 3432, 6435, 11440, 19448, 31824, 50388]) r6 rfl (by decide)
  have r8 := rb_row (t' := [0, 1, 9, 45, 165, 495, 1287, 3003, 6435, 12870, 24310, 43758, 75582, 125970]) r7 rfl (by decide)
  intro n hn s hs
  have fin : ∀ t : List Nat, (∀ s, s < 14 → t.getD s 0 ≤ 125970 ∧ (s ≤ 11 → t.getD s 0 ≤ 43758)) → (∀ s, s < 14 → rbS n s = t.getD s 0) → rbS n s ≤ 125970 ∧ (s ≤ 11 → rbS n s ≤ 43758) := fun t h1 h2 => by rw [h2 s hs]; exact h1 s hs
  match n, hn with
  | 0, _ => exact fin _ (by decide) r0
  | 1, _ => exact fin _ (by decide) r1
  | 2, _ => exact fin _ (by decide) r2
  | 3, _ => exact fin _ (by decide) r3
  | 4, _ => exact fin _ (by decide) r4
  | 5, _ => exact fin _ (by decide) r5
  | 6, _ => exact fin _ (by decide) r6
  | 7, _ => exact fin _ (by decide) r7
  | 8, _ => exact fin _ (by decide) r8
theorem fill3_ok {N W : Nat} (hW : W ≤ N) (hN : N < 2 ^ 31) (f : Nat → Int32) (v : Int32) : Arrays_fill3 N f 0 (nI W) v = some (filled f v W) := by
  unfold Arrays_fill3 Arrays_rangeCheck
  rw [if_pos (show (0 : Int32) ≤ nI W from (nI_leN (a := 0) (by omega) (by omega)).mpr (by omega)), if_neg (show ¬ (0 : Int32) < 0 by decide), if_pos (show nI W ≤ Int32.ofNat N from (nI_leN (by omega) hN).mpr hW)]
  show ob (lp (Arrays_fill3_L10 (nI W) v N) (0, f)) _ = _
  refine ob_eq ?_
  have := lp_run (f := Arrays_fill3_L10 (nI W) v N) (fun k => (nI k, filled f v k)) W (r := filled f v W) (fun k hk => ?_) ?_
  · rw [filled_zero] at this; exact this
  · show (if nI k < nI W then _ else _) = _
    rw [if_pos ((nI_ltN (by omega) (by omega)).mpr hk), gd_eq (ixN (by omega) hN)]
    show some (Sum.inl (nI k + nI 1, upd (filled f v k) (nI k).toNatClampNeg v)) = _
    rw [nI_clamp (by omega), nI_ad, filled_succ]
  · show (if nI W < nI W then _ else _) = _
    rw [if_neg (fun h => absurd ((nI_ltN (by omega) (by omega)).mp h) (by omega))]
theorem jmax0 : ∀ s : Nat, s < 13 → jmax 0 (nI s - 1) = nI (s - 1) := by decide +kernel
theorem mkOk_yes {N bc bs kc ks : Nat} (hN : N ≤ 100000) (h1 : kc + 1 ≤ bc) (h2 : ks + N ≤ bs) : mkOk (nI N) bc bs kc ks = true := by
  unfold mkOk
  rw [decide_eq_false (nI_pos (by omega)), nI_clamp (by omega), decide_eq_true hN, decide_eq_true h1, decide_eq_true h2]
  rfl
theorem cuOk_yes {bc bs kc ks kc' ks' : Nat} (h1 : kc + kc' ≤ bc) (h2 : ks + ks' ≤ bs) : cuOk bc bs kc ks kc' ks' = true := by
  unfold cuOk
  rw [decide_eq_true h1, decide_eq_true h2]
  rfl
def wordsS (n : Nat) (s0 : Nat → Nat) : Nat := rbS n (totS s0 8 + 1) / 32 + 1
def mostS (n : Nat) (s0 : Nat → Nat) : Nat := 225 + rbS n (totS s0 8 - 1)
theorem words_le {n : Nat} (hn : n ≤ 8) {s0 : Nat → Nat} (h0 : SG n s0) : wordsS n s0 ≤ 3937 ∧ mostS n s0 ≤ 43983 := by
  have h1 := (rb_bound n hn (totS s0 8 + 1) (by have := h0.2; omega)).1
  have h2 := (rb_bound n hn (totS s0 8 - 1) (by have := h0.2; omega)).2 (by have := h0.2; omega)
  unfold wordsS mostS
  omega
theorem makeSpace_ok {n : Nat} (hn : n ≤ 8) (hn1 : 1 ≤ n) {s0 : Nat → Nat} (h0 : SG n s0) {below : Nat → Int32} (hb : RBk below) (row seen lay st : Nat → Int32) {nseen nlay bc bs : Nat} (z1 : nseen ≤ 3937) (z2 : nlay ≤ 43983)
    (hbc : (wordsS n s0 ≤ nseen ∧ mostS n s0 ≤ nlay) ∨ (3 ≤ bc ∧ 91903 ≤ bs)) :
    ∃ row' seen' nseen' lay' nlay' st' kc ks, Search_makeSpace bc bs below row seen nseen lay nlay st nlay (nI n) (cdS s0) = some (row', seen', nseen', lay', nlay', st', nlay', kc, ks) ∧ nseen' ≤ 3937 ∧ nlay' ≤ 43983 ∧ wordsS n s0 ≤ nseen' ∧ mostS n s0 ≤ nlay' ∧ (∀ r, r < 32 * wordsS n s0 → bitS seen' r = false) ∧
      (wordsS n s0 ≤ nseen ∧ mostS n s0 ≤ nlay → kc = 0 ∧ ks = 0) ∧ kc ≤ 3 ∧ ks ≤ 91903 := by
  obtain ⟨wl, ml⟩ := words_le hn h0
  have ht12 := h0.2
  have htn := tot_n8 hn h0
  obtain ⟨row1, u1, u2⟩ := unpack_ok hn row h0
  have hsum : lp (Search_makeSpace_L9 row1 (nI n)) (0, 0) = some (nI (totS s0 8)) := by
    rw [← htn]
    refine lp_run (fun k => (nI (totS s0 k), nI k)) n ?_ ?_
    · intro k hk
      unfold Search_makeSpace_L9
      show (if nI k < nI n then gd (ix (nI k) 8) (some (Sum.inl (nI (totS s0 k) + row1 (nI k).toNatClampNeg, nI k + nI 1))) else _) = _
      rw [if_pos ((nI_ltN (by omega) (by omega)).mpr hk), gd_eq (ixN (by omega) (by omega)), nI_clamp (by omega), u2 k hk, nI_ad, nI_ad]
      rfl
    · unfold Search_makeSpace_L9
      exact if_neg (fun z => by have := (nI_ltN (by omega) (by omega)).mp z; omega)
  have hrb1 := (rb_bound n hn (totS s0 8 + 1) (by omega)).1
  have hw : nI (rbS n (totS s0 8 + 1)) / 32 + 1 = nI (wordsS n s0) := by
    rw [show (32 : Int32) = nI 32 from rfl, pk_div (by omega) (by omega) (by omega)]
    exact nI_ad _ 1
  have hmst : 225 + nI (rbS n (totS s0 8 - 1)) = nI (mostS n s0) := nI_ad 225 _
  -- the second half
  have half : ∀ (seen1 : Nat → Int32) (nseen1 kc ks : Nat), (mostS n s0 ≤ nlay ∨ (kc + 2 ≤ bc ∧ ks + 2 * mostS n s0 ≤ bs)) →
      ∃ lay' nlay' st' kc' ks', Search_makeSpace_J81 bc bs (nI (totS s0 8)) below row1 seen1 nseen1 lay nlay st nlay (nI n) kc ks = some (row1, seen1, nseen1, lay', nlay', st', nlay', kc', ks') ∧ nlay' ≤ 43983 ∧ mostS n s0 ≤ nlay' ∧ (mostS n s0 ≤ nlay → kc' = kc ∧ ks' = ks) ∧ kc' ≤ kc + 2 ∧ ks' ≤ ks + 2 * mostS n s0 := by
    intro seen1 nseen1 kc ks hbud
    unfold Search_makeSpace_J81
    rw [jmax0 _ (by omega), ob_eq (rowsBelow_ok hb hn1 hn (by omega)), hmst]
    by_cases e : nlay < mostS n s0
    · have hbud : kc + 2 ≤ bc ∧ ks + 2 * mostS n s0 ≤ bs := by
        rcases hbud with z | z
        · omega
        · exact z
      rw [if_pos (show Int32.ofNat nlay < nI (mostS n s0) from (nI_ltN (by omega) (by omega)).mpr e), gd_eq (mkOk_yes (by omega) (by omega) (by omega)), nI_clamp (show mostS n s0 < 2 ^ 31 by omega), gd_eq (mkOk_yes (by omega) (by omega) (by omega))]
      exact ⟨_, _, _, _, _, rfl, by omega, Nat.le_refl _, fun z => by omega, by omega, by omega⟩
    · rw [if_neg (show ¬ Int32.ofNat nlay < nI (mostS n s0) from fun z => e ((nI_ltN (by omega) (by omega)).mp z))]
      exact ⟨_, _, _, _, _, rfl, z2, by omega, fun z => ⟨rfl, rfl⟩, by omega, by omega⟩
  unfold Search_makeSpace
  rw [ob_eq u1, ob_eq hsum, show nI (totS s0 8) + 1 = nI (totS s0 8 + 1) from nI_ad _ 1, ob_eq (rowsBelow_ok hb hn1 hn (by omega)), hw]
  by_cases e : nseen < wordsS n s0
  · have hbud : 3 ≤ bc ∧ 91903 ≤ bs := by
      rcases hbc with z | z
      · omega
      · exact z
    obtain ⟨lay', nlay', st', kc', ks', a1, a2, a3, a4, a5, a6⟩ := half (fun _ => 0) (wordsS n s0) 1 (wordsS n s0) (Or.inr ⟨by omega, by omega⟩)
    rw [if_pos (show Int32.ofNat nseen < nI (wordsS n s0) from (nI_ltN (by omega) (by omega)).mpr e), gd_eq (mkOk_yes (by omega) (by omega) (by omega)), nI_clamp (show wordsS n s0 < 2 ^ 31 by omega), Nat.zero_add, Nat.zero_add, a1]
    refine ⟨_, _, _, _, _, _, _, _, rfl, wl, a2, Nat.le_refl _, a3, fun r _ => ?_, fun z => by omega, by omega, by omega⟩
    unfold bitS
    show (0#32).getLsbD _ = false
    simp
  · rw [if_neg (show ¬ Int32.ofNat nseen < nI (wordsS n s0) from fun z => e ((nI_ltN (by omega) (by omega)).mp z)), ob_eq (fill3_ok (show wordsS n s0 ≤ nseen by omega) (by omega) seen 0)]
    obtain ⟨lay', nlay', st', kc', ks', a1, a2, a3, a4, a5, a6⟩ := half (filled seen 0 (wordsS n s0)) nseen 0 0 (by
      rcases hbc with z | z
      · exact Or.inl z.2
      · exact Or.inr ⟨by omega, by omega⟩)
    rw [a1]
    refine ⟨_, _, _, _, _, _, _, _, rfl, z1, a2, by omega, a3, fun r hr => ?_, fun z => a4 z.2, by omega, by omega⟩
    unfold bitS filled
    show ((if r / 32 < wordsS n s0 then (0 : Int32) else _)).toBitVec.getLsbD _ = false
    rw [if_pos (by omega)]
    show (0#32).getLsbD _ = false
    simp
