/-! STATES: four bits a well -/
def valS (g : Nat → Nat) : Nat → Nat
  | 0 => 0
  | k + 1 => valS g k + g k * 16 ^ k
def totS (g : Nat → Nat) : Nat → Nat
  | 0 => 0
  | k + 1 => totS g k + g k
theorem valS_lt {g : Nat → Nat} : ∀ {k : Nat}, (∀ w, w < k → g w < 16) → valS g k < 16 ^ k := by
  intro k
  induction k with
  | zero => intro _; show 0 < 1; omega
  | succ k ih =>
    intro h
    have h1 := ih (fun w hw => h w (by omega))
    have h2 := h k (by omega)
    show valS g k + g k * 16 ^ k < 16 ^ (k + 1)
    rw [Nat.pow_succ]
    have h3 : g k * 16 ^ k ≤ 15 * 16 ^ k := Nat.mul_le_mul_right _ (by omega)
    omega
theorem valS_dig {g : Nat → Nat} : ∀ {k w : Nat}, (∀ w, w < k → g w < 16) → w < k → valS g k / 16 ^ w % 16 = g w := by
  intro k
  induction k with
  | zero => intro w _ hw; omega
  | succ k ih =>
    intro w h hw
    have h1 := valS_lt (g := g) (k := k) (fun w hw => h w (by omega))
    show (valS g k + g k * 16 ^ k) / 16 ^ w % 16 = g w
    by_cases e : w = k
    · subst e
      rw [Nat.add_mul_div_right _ _ (Nat.pow_pos (by omega)), Nat.div_eq_of_lt h1, Nat.zero_add, Nat.mod_eq_of_lt (h w hw)]
    · have hwk : w < k := by omega
      have h2 : g k * 16 ^ k = (g k * 16 ^ (k - w - 1) * 16) * 16 ^ w := by
        rw [Nat.mul_assoc, Nat.mul_assoc, ← Nat.pow_succ', ← Nat.pow_add]
        congr 2
        omega
      rw [h2, Nat.add_mul_div_right _ _ (Nat.pow_pos (by omega)), Nat.add_mul_mod_self_right]
      exact ih (fun w hw => h w (by omega)) hwk
theorem totS_le {g : Nat → Nat} : ∀ {k w : Nat}, w < k → g w ≤ totS g k := by
  intro k
  induction k with
  | zero => intro w hw; omega
  | succ k ih =>
    intro w hw
    show g w ≤ totS g k + g k
    by_cases e : w = k
    · subst e; omega
    · have := ih (show w < k by omega)
      omega
/-- all of them -/
def allS : Nat → Nat → List Nat
  | 0, _ => [0]
  | k + 1, s => (List.range (s + 1)).flatMap (fun d => (allS k (s - d)).map (fun x => x + d * 16 ^ k))
def cntS : Nat → Nat → Nat
  | 0, _ => 1
  | k + 1, s => ((List.range (s + 1)).map (fun d => cntS k (s - d))).sum
theorem allS_len : ∀ k s, (allS k s).length = cntS k s := by
  intro k
  induction k with
  | zero => intro s; rfl
  | succ k ih =>
    intro s
    show ((List.range (s + 1)).flatMap _).length = ((List.range (s + 1)).map _).sum
    rw [List.length_flatMap]
    congr 1
    apply List.map_congr_left
    intro d _
    rw [List.length_map, ih]
theorem allS_mem {g : Nat → Nat} : ∀ {k s : Nat}, totS g k ≤ s → valS g k ∈ allS k s := by
  intro k
  induction k with
  | zero => intro s _; show (0 : Nat) ∈ [0]; simp
  | succ k ih =>
    intro s h
    have h' : totS g k + g k ≤ s := h
    show valS g k + g k * 16 ^ k ∈ (List.range (s + 1)).flatMap _
    rw [List.mem_flatMap]
    refine ⟨g k, List.mem_range.mpr (by omega), ?_⟩
    rw [List.mem_map]
    exact ⟨valS g k, ih (by omega), rfl⟩
theorem cnt_step {k : Nat} {t t' : List Nat} (h : ∀ s, s < 13 → cntS k s = t.getD s 0) (ht : ∀ s, s < 13 → ((List.range (s + 1)).map (fun d => t.getD (s - d) 0)).sum = t'.getD s 0) : ∀ s, s < 13 → cntS (k + 1) s = t'.getD s 0 := by
  intro s hs
  rw [← ht s hs]
  show ((List.range (s + 1)).map _).sum = _
  congr 1
  apply List.map_congr_left
  intro d _
  exact h (s - d) (by omega)
theorem cnt_all : cntS 8 12 = 125970 := by
  have c0 : ∀ s, s < 13 → cntS 0 s = [1, 1, 1, 1, 1, 1, 1, 1, 1, 1, 1, 1, 1].getD s 0 := by decide +kernel
  have c1 := cnt_step (t' := [1, 2, 3, 4, 5, 6, 7, 8, 9, 10, 11, 12, 13]) c0 (by decide +kernel)
  have c2 := cnt_step (t' := [1, 3, 6, 10, 15, 21, 28, 36, 45, 55, 66, 78, 91]) c1 (by decide +kernel)
  have c3 := cnt_step (t' := [1, 4, 10, 20, 35, 56, 84, 120, 165, 220, 286, 364, 455]) c2 (by decide +kernel)
  have c4 := cnt_step (t' := [1, 5, 15, 35, 70, 126, 210, 330, 495, 715, 1001, 1365, 1820]) c3 (by decide +kernel)
  have c5 := cnt_step (t' := [1, 6, 21, 56, 126, 252, 462, 792, 1287, 2002, 3003, 4368, 6188]) c4 (by decide +kernel)
  have c6 := cnt_step (t' := [1, 7, 28, 84, 210, 462, 924, 1716, 3003, 5005, 8008, 12376, 18564]) c5 (by decide +kernel)
  have c7 := cnt_step (t' := [1, 8, 36, 120, 330, 792, 1716, 3432, 6435, 11440, 19448, 31824, 50388]) c6 (by decide +kernel)
  have c8 := cnt_step (t' := [1, 9, 45, 165, 495, 1287, 3003, 6435, 12870, 24310, 43758, 75582, 125970]) c7 (by decide +kernel)
  exact c8 12 (by omega)
/-- the code of a state -/
def cdS (g : Nat → Nat) : Int32 := nI (valS g 8)
/-- a state of n wells with at most s jars -/
def SG (n : Nat) (g : Nat → Nat) : Prop := (∀ w, n ≤ w → g w = 0) ∧ totS g 8 ≤ 12
theorem SG.dig {n : Nat} {g : Nat → Nat} (h : SG n g) (w : Nat) (hw : w < 8) : g w < 16 := by
  have := totS_le (g := g) hw
  have := h.2
  omega
theorem SG.val {n : Nat} {g : Nat → Nat} (h : SG n g) : valS g 8 < 2 ^ 32 := by
  have := valS_lt (g := g) (k := 8) h.dig
  have e : (16 : Nat) ^ 8 = 2 ^ 32 := by decide
  omega
theorem states_few {L : List Int32} (h1 : L.Nodup) (h2 : ∀ a ∈ L, ∃ g, totS g 8 ≤ 12 ∧ a = cdS g) : L.length ≤ 125970 := by
  have h3 : L ⊆ (allS 8 12).map nI := fun a ha => by
    obtain ⟨g, g1, g2⟩ := h2 a ha
    rw [List.mem_map]
    exact ⟨valS g 8, allS_mem g1, g2.symm⟩
  have h4 := List.Nodup.length_le_of_subset h1 h3
  rw [List.length_map, allS_len, cnt_all] at h4
  exact h4
theorem b15 : ∀ i : Nat, i < 32 → (15 : Int32).toBitVec.getLsbD i = decide (i < 4) := by decide +kernel
theorem jarsIn_nI {N w : Nat} (hN : N < 2 ^ 32) (hw : w < 8) : Mo_jarsIn (nI N) (nI w) = some (nI (N / 16 ^ w % 16)) := by
  unfold Mo_jarsIn
  congr 1
  rw [show (4 : Int32) * nI w = nI (4 * w) from nI_mulN 4 w]
  apply Int32.toBitVec.inj
  apply BitVec.eq_of_getLsbD_eq
  intro i hi
  show (BitVec.sshiftRight (nI N).toBitVec ((nI (4 * w) &&& 31).toBitVec.smod 32).toNat &&& (15 : Int32).toBitVec).getLsbD i = (nI (N / 16 ^ w % 16)).toBitVec.getLsbD i
  rw [sm32 _ (by omega), BitVec.getLsbD_and, BitVec.getLsbD_sshiftRight, b15 i hi]
  have h16 : (16 : Nat) ^ w = 2 ^ (4 * w) := by rw [Nat.pow_mul]
  have hlt : N / 16 ^ w % 16 < 2 ^ 32 := by have : N / 16 ^ w % 16 < 16 := Nat.mod_lt _ (by omega)
                                            omega
  rw [show (nI (N / 16 ^ w % 16)).toBitVec.getLsbD i = (N / 16 ^ w % 16).testBit i by rw [BitVec.getLsbD, pk_tn hlt], show (16 : Nat) = 2 ^ 4 from rfl, Nat.testBit_mod_two_pow, show ((2 : Nat) ^ 4) ^ w = 2 ^ (4 * w) from h16, Nat.testBit_div_two_pow]
  by_cases h4 : i < 4
  · rw [decide_eq_true h4, Bool.and_true, Bool.true_and, decide_eq_false (show ¬ 32 ≤ i by omega), if_pos (show 4 * w + i < 32 by omega), BitVec.getLsbD, pk_tn hN, Nat.add_comm i]
    rfl
  · rw [decide_eq_false h4, Bool.and_false, Bool.false_and]
theorem jarsIn_ok {n : Nat} {g : Nat → Nat} (h : SG n g) {w : Nat} (hw : w < 8) : Mo_jarsIn (cdS g) (nI w) = some (nI (g w)) := by
  unfold cdS
  rw [jarsIn_nI h.val hw, valS_dig h.dig hw]
theorem one_ok : ∀ w : Nat, w < 8 → Mo_one (nI w) = some (nI (16 ^ w)) := fun w hw => by
  unfold Mo_one
  rw [show (4 : Int32) * nI w = nI (4 * w) from nI_mulN 4 w, shl_nI (by omega), Nat.pow_mul]
theorem cdS_inj {n : Nat} (hn : n ≤ 8) {g g' : Nat → Nat} (h : SG n g) (h' : SG n g') (e : cdS g = cdS g') : g = g' := by
  funext w
  by_cases hw : w < 8
  · have h1 := jarsIn_ok h hw
    have h2 := jarsIn_ok h' hw
    rw [e, h2] at h1
    have h3 := h.dig w hw
    have h4 := h'.dig w hw
    exact ((nI_inj (by omega) (by omega)).mp (Option.some.inj h1)).symm
  · rw [h.1 w (by omega), h'.1 w (by omega)]
/-- changes -/
def atS (g : Nat → Nat) (w x : Nat) : Nat → Nat := fun j => if j = w then x else g j
theorem atS_at (g : Nat → Nat) (w x : Nat) : atS g w x w = x := if_pos rfl
theorem atS_ne {g : Nat → Nat} {w x j : Nat} (h : ¬ j = w) : atS g w x j = g j := if_neg h
theorem val_far {g : Nat → Nat} {w x : Nat} : ∀ {k : Nat}, k ≤ w → valS (atS g w x) k = valS g k ∧ totS (atS g w x) k = totS g k := by
  intro k
  induction k with
  | zero => intro _; exact ⟨rfl, rfl⟩
  | succ k ih =>
    intro h
    obtain ⟨h1, h2⟩ := ih (by omega)
    show valS (atS g w x) k + atS g w x k * 16 ^ k = valS g k + g k * 16 ^ k ∧ totS (atS g w x) k + atS g w x k = totS g k + g k
    rw [h1, h2, atS_ne (by omega)]
    exact ⟨rfl, rfl⟩
theorem val_at {g : Nat → Nat} {w x : Nat} : ∀ {k : Nat}, w < k → valS (atS g w x) k + g w * 16 ^ w = valS g k + x * 16 ^ w ∧ totS (atS g w x) k + g w = totS g k + x := by
  intro k
  induction k with
  | zero => intro h; omega
  | succ k ih =>
    intro h
    show valS (atS g w x) k + atS g w x k * 16 ^ k + g w * 16 ^ w = valS g k + g k * 16 ^ k + x * 16 ^ w ∧ totS (atS g w x) k + atS g w x k + g w = totS g k + g k + x
    by_cases e : w = k
    · subst e
      obtain ⟨h1, h2⟩ := val_far (g := g) (x := x) (Nat.le_refl w)
      rw [h1, h2, atS_at]
      omega
    · obtain ⟨h1, h2⟩ := ih (by omega)
      rw [atS_ne (by omega)]
      omega
/-- one taken -/
def lvS (g : Nat → Nat) (w : Nat) : Nat → Nat := atS g w (g w - 1)
/-- two taken, one brought -/
def mvS (g : Nat → Nat) (v u : Nat) : Nat → Nat := atS (atS g v (g v - 2)) u (atS g v (g v - 2) u + 1)
theorem lv_tot {g : Nat → Nat} {w : Nat} (hw : w < 8) (h0 : 0 < g w) : totS (lvS g w) 8 + 1 = totS g 8 := by
  have := (val_at (g := g) (x := g w - 1) hw).2
  unfold lvS
  omega
theorem lv_SG {n : Nat} (hn : n ≤ 8) {g : Nat → Nat} (h : SG n g) {w : Nat} (hw : w < n) (h0 : 0 < g w) : SG n (lvS g w) := by
  refine ⟨fun j hj => ?_, by have := lv_tot (show w < 8 by omega) h0; have := h.2; omega⟩
  unfold lvS
  rw [atS_ne (by omega)]
  exact h.1 j hj
theorem lv_cd {g : Nat → Nat} {w : Nat} (hw : w < 8) (h0 : 0 < g w) : cdS g - nI (16 ^ w) = cdS (lvS g w) := by
  have h1 := (val_at (g := g) (x := g w - 1) hw).1
  have h2 : g w * 16 ^ w = (g w - 1) * 16 ^ w + 16 ^ w := by
    rw [← Nat.succ_mul]
    congr 1
    omega
  unfold cdS lvS
  rw [show valS g 8 = valS (atS g w (g w - 1)) 8 + 16 ^ w by omega, ← nI_ad, Int32.add_sub_cancel]
theorem mv_tot {g : Nat → Nat} {v u : Nat} (hv : v < 8) (hu : u < 8) (h0 : 2 ≤ g v) : totS (mvS g v u) 8 + 1 = totS g 8 := by
  have h1 := (val_at (g := g) (x := g v - 2) hv).2
  have h2 := (val_at (g := atS g v (g v - 2)) (x := atS g v (g v - 2) u + 1) hu).2
  unfold mvS
  omega
theorem mv_SG {n : Nat} (hn : n ≤ 8) {g : Nat → Nat} (h : SG n g) {v u : Nat} (hv : v < n) (hu : u < n) (h0 : 2 ≤ g v) : SG n (mvS g v u) := by
  refine ⟨fun j hj => ?_, by have := mv_tot (show v < 8 by omega) (show u < 8 by omega) h0; have := h.2; omega⟩
  unfold mvS
  rw [atS_ne (by omega), atS_ne (by omega)]
  exact h.1 j hj
theorem mv_cd {g : Nat → Nat} {v u : Nat} (hv : v < 8) (hu : u < 8) (h0 : 2 ≤ g v) : cdS g - 2 * nI (16 ^ v) + nI (16 ^ u) = cdS (mvS g v u) := by
  have h1 := (val_at (g := g) (x := g v - 2) hv).1
  have h2 := (val_at (g := atS g v (g v - 2)) (x := atS g v (g v - 2) u + 1) hu).1
  have h3 : g v * 16 ^ v = (g v - 2) * 16 ^ v + 2 * 16 ^ v := by
    rw [← Nat.add_mul]
    congr 1
    omega
  have h4 : (atS g v (g v - 2) u + 1) * 16 ^ u = atS g v (g v - 2) u * 16 ^ u + 16 ^ u := Nat.succ_mul _ _
  unfold cdS mvS
  rw [show valS g 8 = valS (atS g v (g v - 2)) 8 + 2 * 16 ^ v by omega, ← nI_ad, show (2 : Int32) * nI (16 ^ v) = nI (2 * 16 ^ v) from nI_mulN 2 _, Int32.add_sub_cancel, nI_ad]
  congr 1
  omega
theorem totalIn_ok {n : Nat} {g : Nat → Nat} (h : SG n g) : Mo_totalIn (cdS g) = some (nI (totS g 8)) := by
  unfold Mo_totalIn
  have : lp (Mo_totalIn_L4 (cdS g)) (0, 0) = some (nI (totS g 8)) := by
    refine lp_run (fun k => (nI (totS g k), nI k)) 8 ?_ ?_
    · intro k hk
      have h1 := jarsIn_ok h hk
      unfold Mo_jarsIn at h1
      have h2 := Option.some.inj h1
      unfold Mo_totalIn_L4
      show (if nI k < nI 8 then _ else _) = _
      rw [if_pos ((nI_ltN (by omega) (by omega)).mpr hk)]
      show some (Sum.inl (nI (totS g k) + ((cdS g >>> ((4 * nI k) &&& 31)) &&& 15), nI k + 1)) = some (Sum.inl (nI (totS g k + g k), nI (k + 1)))
      rw [h2, nI_ad, show nI k + 1 = nI (k + 1) from nI_ad k 1]
    · unfold Mo_totalIn_L4
      exact if_neg (fun z => absurd z (show ¬ nI 8 < 8 by decide))
  rw [ob_eq this]
/-- the state that is -/
theorem stateNow_ok {n : Nat} (hn : n ≤ 8) {now : Nat → Int32} {g : Nat → Nat} (h : SG n g) (hj : ∀ w, w < n → now w = nI (g w)) : Mo_stateNow now (nI n) = some (cdS g) := by
  have hz : ∀ k, n ≤ k → valS g k = valS g n := fun k hk => by
    induction k with
    | zero => rw [show n = 0 by omega]
    | succ k ih =>
      by_cases e : n = k + 1
      · rw [e]
      · show valS g k + g k * 16 ^ k = _
        rw [ih (by omega), h.1 k (by omega), Nat.zero_mul, Nat.add_zero]
  unfold Mo_stateNow
  have : lp (Mo_stateNow_L4 now (nI n)) (0, 0) = some (nI (valS g n)) := by
    refine lp_run (fun k => (nI (valS g k), nI k)) n ?_ ?_
    · intro k hk
      have hd : ∀ w, w < k → g w < 16 := fun w hw => h.dig w (by omega)
      have hl := valS_lt hd
      have h16 : (16 : Nat) ^ k = 2 ^ (4 * k) := by rw [Nat.pow_mul]
      have hgk := h.dig k (by omega)
      have h5 : valS g (k + 1) < 2 ^ 32 := by
        have h6 := valS_lt (g := g) (k := k + 1) (fun w hw => h.dig w (by omega))
        have h7 : (16 : Nat) ^ (k + 1) ≤ 16 ^ 8 := Nat.pow_le_pow_right (by omega) (by omega)
        have e : (16 : Nat) ^ 8 = 2 ^ 32 := by decide
        omega
      have h8 : valS g k + g k * 16 ^ k < 2 ^ 32 := h5
      unfold Mo_stateNow_L4
      show (if nI k < nI n then _ else _) = _
      rw [if_pos ((nI_ltN (by omega) (by omega)).mpr hk)]
      show gd (ix (nI 0 + nI k) 27) (some (Sum.inl (nI (valS g k) ||| (now (nI 0 + nI k : Int32).toNatClampNeg <<< ((nI 4 * nI k) &&& 31)), nI k + 1))) = _
      rw [nI_ad, Nat.zero_add, gd_eq (ixN (by omega) (by omega)), nI_clamp (by omega), hj k hk, nI_mulN, pk_shlN (n := g k) (nI (4 * k) &&& 31) (4 * k) (sm32 _ (by omega)) (by rw [← h16]; omega), or_nI (by omega) (by rw [← h16]; omega), show nI k + 1 = nI (k + 1) from nI_ad k 1]
      show some (Sum.inl (nI (valS g k ||| g k * 2 ^ (4 * k)), nI (k + 1))) = some (Sum.inl (nI (valS g k + g k * 16 ^ k), nI (k + 1)))
      rw [Nat.or_comm, Nat.mul_comm (g k) (2 ^ (4 * k)), ← Nat.two_pow_add_eq_or_of_lt (by rw [← h16]; exact hl), Nat.add_comm, h16, Nat.mul_comm (g k)]
    · unfold Mo_stateNow_L4
      exact if_neg (fun z => by have := (nI_ltN (by omega) (by omega)).mp z; omega)
  rw [ob_eq this]
  unfold cdS
  rw [hz 8 hn]
