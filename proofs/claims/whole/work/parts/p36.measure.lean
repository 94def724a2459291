/-! THE CLASS MEASURES A LAND -/
section GR2
variable {n : Nat} {nx : Nat → Nat} {p : Nat}
theorem ball_lt (hp : p < n) (hg : GoodG n nx) : ∀ (k q : Nat), ball n nx p k q = true → q < n := by
  intro k
  induction k with
  | zero => intro q h; rw [ball, decide_eq_true_eq] at h; omega
  | succ k ih =>
    intro q h
    rcases ball_inv h with h | ⟨r, h1, h2, h3⟩
    · exact ih q h
    · exact bit_lt (hg.2.1 r) h3
theorem lev_down {k q : Nat} (h : lev n nx p (k + 1) q = true) : ∃ r, r < n ∧ lev n nx p k r = true := by
  rw [lev_succ, Bool.and_eq_true] at h
  obtain ⟨r, h2, h3⟩ := List.any_eq_true.mp h.1
  rw [Bool.and_eq_true] at h3
  exact ⟨r, List.mem_range.mp h2, h3.1⟩
theorem lev_down2 (hp : p < n) (hg : GoodG n nx) {k : Nat} : ∀ (d q : Nat), lev n nx p (k + d) q = true → ∃ r, r < n ∧ lev n nx p k r = true := by
  intro d
  induction d with
  | zero => intro q h; exact ⟨q, ball_lt hp hg _ q (lev_ball h), h⟩
  | succ d ih =>
    intro q h
    obtain ⟨r, h1, h2⟩ := lev_down (k := k + d) h
    exact ih r h2
/-- where a level is empty all is seen -/
theorem all_near (hp : p < n) (hg : GoodG n nx) {k : Nat} (he : ∀ q, lev n nx p k q = false) {q : Nat} (hq : q < n) : near n nx p k q = true ∨ dI n nx p q = -2 := by
  rcases dI_cases hp hg hq with ⟨j, hj, h1, h2⟩ | ⟨-, h2⟩
  · left
    rcases Nat.lt_or_ge j k with h3 | h3
    · cases k with
      | zero => omega
      | succ k => exact ball_le (show j ≤ k by omega) (lev_ball h1)
    · obtain ⟨r, -, h4⟩ := lev_down2 hp hg (k := k) (j - k) q (by rw [show k + (j - k) = j by omega]; exact h1)
      rw [he r] at h4; cases h4
  · exact Or.inr h2
end GR2
def orUp (E : Nat) (nx : Nat → Nat) : Nat → Nat
  | 0 => 0
  | j + 1 => match E.testBit j with
    | true => orUp E nx j ||| nx j
    | false => orUp E nx j
theorem orUp_lt {E : Nat} {nx : Nat → Nat} {n : Nat} (h : ∀ p, nx p < 2 ^ n) : ∀ j, orUp E nx j < 2 ^ n := by
  intro j
  induction j with
  | zero => exact Nat.two_pow_pos n
  | succ j ih =>
    unfold orUp
    cases E.testBit j with
    | true => exact Nat.or_lt_two_pow ih (h j)
    | false => exact ih
theorem orUp_bit {E : Nat} {nx : Nat → Nat} (i : Nat) : ∀ j, (orUp E nx j).testBit i = (List.range j).any (fun r => E.testBit r && (nx r).testBit i) := by
  intro j
  induction j with
  | zero => simp [orUp]
  | succ j ih =>
    rw [List.range_succ, List.any_append, ← ih]
    cases h : E.testBit j with
    | true =>
      have e : orUp E nx (j + 1) = orUp E nx j ||| nx j := by rw [orUp, h]
      rw [e]; simp [Nat.testBit_or, h]
    | false =>
      have e : orUp E nx (j + 1) = orUp E nx j := by rw [orUp, h]
      rw [e]; simp [h]
def wUp (p E : Nat) (v : Int32) (w0 : Nat → Int32) : Nat → Nat → Int32
  | 0 => w0
  | j + 1 => match E.testBit j with
    | true => upd (wUp p E v w0 j) (12 * p + j) v
    | false => wUp p E v w0 j
theorem wUp_get (p E : Nat) (v : Int32) (w0 : Nat → Int32) : ∀ (j i : Nat), wUp p E v w0 j i = if 12 * p ≤ i ∧ i < 12 * p + j ∧ E.testBit (i - 12 * p) = true then v else w0 i := by
  intro j
  induction j with
  | zero => intro i; rw [if_neg (by omega)]; rfl
  | succ j ih =>
    intro i
    unfold wUp
    by_cases e : i = 12 * p + j
    · subst e
      cases h : E.testBit j with
      | true =>
        rw [show (match true with | true => upd (wUp p E v w0 j) (12 * p + j) v | false => wUp p E v w0 j) = upd (wUp p E v w0 j) (12 * p + j) v from rfl, upd_at, if_pos ⟨by omega, by omega, by rw [show 12 * p + j - 12 * p = j by omega]; exact h⟩]
      | false =>
        show wUp p E v w0 j _ = _
        rw [ih, if_neg (by omega), if_neg]
        rintro ⟨-, -, h3⟩
        rw [show 12 * p + j - 12 * p = j by omega, h] at h3; cases h3
    · have key : (if 12 * p ≤ i ∧ i < 12 * p + j ∧ E.testBit (i - 12 * p) = true then v else w0 i) = if 12 * p ≤ i ∧ i < 12 * p + (j + 1) ∧ E.testBit (i - 12 * p) = true then v else w0 i := by
        by_cases h : 12 * p ≤ i ∧ i < 12 * p + j ∧ E.testBit (i - 12 * p) = true
        · rw [if_pos h, if_pos ⟨h.1, by omega, h.2.2⟩]
        · rw [if_neg h, if_neg (fun z => h ⟨z.1, by omega, z.2.2⟩)]
      cases h : E.testBit j with
      | true => show upd (wUp p E v w0 j) (12 * p + j) v i = _; rw [upd_ne e, ih, key]
      | false => show wUp p E v w0 j i = _; rw [ih, key]
theorem row12 {p q : Nat} (hp : p < 12) (hq : q < 12) : (nI p * 12) + nI q = nI (12 * p + q) := by
  rw [show nI p * 12 = nI (p * 12) from nI_mulN p 12, nI_ad, Nat.mul_comm]
theorem mf_inner {n : Nat} {nx : Nat → Nat} {next : Nat → Int32} {p E k : Nat} (v2 : Int32) (hg : GoodG n nx) (hx : ∀ w, w < 12 → next w = nI (nx w)) (hp : p < n) (hE : E < 2 ^ n) (w0 : Nat → Int32) :
    lp (Land_measureFrom_L28 (nI p) v2 (nI E) (nI k) (nI n) next) (0, 0, w0) = some (nI (orUp E nx n), wUp p E (nI k) w0 n) := by
  have hn := hg.1
  have h2n : (2 : Nat) ^ n ≤ 2 ^ 12 := Nat.pow_le_pow_right (by decide) hn
  refine lp_run (f := Land_measureFrom_L28 (nI p) v2 (nI E) (nI k) (nI n) next) (fun j => (nI (orUp E nx j), nI j, wUp p E (nI k) w0 j)) n (fun j hj => ?_) ?_
  · have h1 : nI j < nI n := (nI_ltN (by omega) (by omega)).mpr hj
    unfold Land_measureFrom_L28 Land_measureFrom_L28_J72
    show (if nI j < nI n then (if ((nI E >>> (nI j &&& 31)) &&& 1) = 0 then _ else _) else _) = _
    rw [if_pos h1, bit_nI (by omega) (by omega)]
    cases hb : E.testBit j with
    | true =>
      rw [if_pos rfl, if_neg one_ne0, row12 (by omega) (by omega), gd_eq (ixN (by omega) (by decide)), gd_eq (ixN (by omega) (by decide)), nI_clamp (by omega), nI_clamp (by omega), hx j (by omega)]
      have e1 : orUp E nx (j + 1) = orUp E nx j ||| nx j := by rw [orUp, hb]
      have e2 : wUp p E (nI k) w0 (j + 1) = upd (wUp p E (nI k) w0 j) (12 * p + j) (nI k) := by rw [wUp, hb]
      rw [e1, e2, ← or_nI (Nat.lt_of_lt_of_le (orUp_lt hg.2.1 j) (Nat.le_trans h2n (by decide))) (Nat.lt_of_lt_of_le (hg.2.1 j) (Nat.le_trans h2n (by decide)))]
      show some (Sum.inl (_, nI j + nI 1, _)) = _
      rw [nI_ad]
    | false =>
      refine (if_pos (show (if false = true then (1 : Int32) else 0) = 0 from rfl)).trans ?_
      have e1 : orUp E nx (j + 1) = orUp E nx j := by rw [orUp, hb]
      have e2 : wUp p E (nI k) w0 (j + 1) = wUp p E (nI k) w0 j := by rw [wUp, hb]
      rw [e1, e2]
      show some (Sum.inl (_, nI j + nI 1, _)) = _
      rw [nI_ad]
  · unfold Land_measureFrom_L28
    show (if nI n < nI n then _ else _) = _
    rw [if_neg (fun h => absurd ((nI_ltN (by omega) (by omega)).mp h) (by omega))]
/-- the class's steps from one WELL -/
theorem measureFrom_ok {n : Nat} {nx : Nat → Nat} {next : Nat → Int32} {p : Nat} (hg : GoodG n nx) (hx : ∀ w, w < 12 → next w = nI (nx w)) (hp : p < n) (w0 : Nat → Int32) (hw0 : ∀ q, q < n → w0 (12 * p + q) = -2) :
    ∃ w', Land_measureFrom (nI n) next w0 (nI p) = some w' ∧ (∀ q, q < n → w' (12 * p + q) = dI n nx p q) ∧ ∀ i, ¬ (12 * p ≤ i ∧ i < 12 * p + n) → w' i = w0 i := by
  have hn := hg.1
  have h2n : (2 : Nat) ^ n ≤ 2 ^ 12 := Nat.pow_le_pow_right (by decide) hn
  unfold Land_measureFrom
  obtain ⟨r, h1, h2⟩ := lp_inv (f := Land_measureFrom_L9 (nI p) (nI n) next)
    (fun k s => ∃ (S E : Nat) (w : Nat → Int32), s = (nI S, nI E, nI k, w) ∧ S < 2 ^ n ∧ E < 2 ^ n ∧ (∀ q, S.testBit q = ball n nx p k q) ∧ (∀ q, E.testBit q = lev n nx p k q) ∧ (∀ q, q < n → w (12 * p + q) = if near n nx p k q = true then dI n nx p q else -2) ∧ ∀ i, ¬ (12 * p ≤ i ∧ i < 12 * p + n) → w i = w0 i) n
    (fun w' => (∀ q, q < n → w' (12 * p + q) = dI n nx p q) ∧ ∀ i, ¬ (12 * p ≤ i ∧ i < 12 * p + n) → w' i = w0 i)
    (by
      rintro k s hk ⟨S, E, w, rfl, hS, hE, bS, bE, hw, ho⟩
      have hkn : nI k < nI n := (nI_ltN (by omega) (by omega)).mpr hk
      by_cases hz : E = 0
      · right
        subst hz
        refine ⟨w, ?_, fun q hq => ?_, ho⟩
        · unfold Land_measureFrom_L9
          show (if nI k < nI n then (if nI 0 = 0 then _ else _) else _) = _
          rw [if_pos hkn]; exact if_pos rfl
        · rw [hw q hq]
          rcases all_near hp hg (k := k) (fun q => by rw [← bE q]; exact Nat.zero_testBit q) hq with h | h
          · rw [if_pos h]
          · rw [h]; split <;> rfl
      · left
        have e1 : ¬ nI E = 0 := nI_ne0 (by omega) (by omega)
        have hB := orUp_lt (E := E) hg.2.1 n
        refine ⟨(nI (S ||| less (orUp E nx n) S), nI (less (orUp E nx n) S), nI (k + 1), wUp p E (nI k) w n), ?_, S ||| less (orUp E nx n) S, less (orUp E nx n) S, wUp p E (nI k) w n, rfl, Nat.or_lt_two_pow hS (less_lt hB), less_lt hB, ?_, ?_, ?_, ?_⟩
        · unfold Land_measureFrom_L9
          show (if nI k < nI n then (if nI E = 0 then _ else (ob (lp (Land_measureFrom_L28 (nI p) (nI S) (nI E) (nI k) (nI n) next) (0, 0, w)) _)) else _) = _
          rw [if_pos hkn, if_neg e1, ob_eq (mf_inner (nI S) hg hx hp hE w)]
          show some (Sum.inl (nI S ||| (nI (orUp E nx n) &&& (nI S ^^^ (-1))), nI (orUp E nx n) &&& (nI S ^^^ (-1)), nI k + nI 1, wUp p E (nI k) w n)) = _
          rw [nand_nI (Nat.lt_of_lt_of_le hB (Nat.le_trans h2n (by decide))) (Nat.lt_of_lt_of_le hS (Nat.le_trans h2n (by decide))), or_nI (Nat.lt_of_lt_of_le hS (Nat.le_trans h2n (by decide))) (Nat.lt_of_lt_of_le (less_lt hB) (Nat.le_trans h2n (by decide))), nI_ad]
        · intro q
          rw [Nat.testBit_or, less_bit, orUp_bit, bS]
          have h3 := lev_succ (n := n) (nx := nx) (p := p) (k := k) (q := q)
          have h4 : (List.range n).any (fun r => E.testBit r && (nx r).testBit q) = (List.range n).any (fun r => lev n nx p k r && (nx r).testBit q) := by
            congr 1; funext r; rw [bE]
          rw [h4, ← h3]
          show (ball n nx p k q || (ball n nx p (k + 1) q && !(ball n nx p k q))) = _
          cases hb : ball n nx p k q with
          | true => rw [ball_mono hb]; rfl
          | false => simp
        · intro q
          rw [less_bit, orUp_bit, bS]
          have h4 : (List.range n).any (fun r => E.testBit r && (nx r).testBit q) = (List.range n).any (fun r => lev n nx p k r && (nx r).testBit q) := by
            congr 1; funext r; rw [bE]
          rw [h4]; exact (lev_succ (n := n) (nx := nx) (p := p) (k := k) (q := q)).symm
        · intro q hq
          rw [wUp_get, near_succ, show 12 * p + q - 12 * p = q by omega, bE]
          cases hl : lev n nx p k q with
          | true =>
            rw [if_pos ⟨by omega, by omega, rfl⟩, dI_lev (by omega) hl]
            simp
          | false =>
            rw [if_neg (by simp), hw q hq]
            simp
        · intro i hi
          rw [wUp_get, if_neg (fun z => hi ⟨z.1, z.2.1⟩)]; exact ho i hi)
    (by
      rintro s ⟨S, E, w, rfl, hS, hE, bS, bE, hw, ho⟩
      refine ⟨w, ?_, fun q hq => ?_, ho⟩
      · unfold Land_measureFrom_L9
        show (if nI n < nI n then _ else _) = _
        rw [if_neg (fun h => absurd ((nI_ltN (by omega) (by omega)).mp h) (by omega))]
      · rw [hw q hq]
        rcases dI_cases hp hg hq with ⟨j, hj, h3, h4⟩ | ⟨-, h4⟩
        · have : near n nx p n q = true := by
            cases n with
            | zero => omega
            | succ m => exact ball_le (show j ≤ m by omega) (lev_ball h3)
          rw [if_pos this]
        · rw [h4]; split <;> rfl) 0 ((1 : Int32) <<< (nI p &&& 31), (1 : Int32) <<< (nI p &&& 31), 0, w0) (by omega)
    ⟨2 ^ p, 2 ^ p, w0, by rw [shl_nI (by omega)]; rfl, Nat.pow_lt_pow_right (by decide) hp, Nat.pow_lt_pow_right (by decide) hp, fun q => by rw [Nat.testBit_two_pow, ball]; by_cases e : p = q <;> simp [e, Ne.symm], fun q => by rw [Nat.testBit_two_pow, lev]; by_cases e : p = q <;> simp [e, Ne.symm], fun q hq => by rw [hw0 q hq]; rfl, fun _ _ => rfl⟩
  exact ⟨r, ob_eq h1, h2.1, h2.2⟩
