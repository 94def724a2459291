/-! SHAPES AND PRODUCTS -/
theorem nI_modN {a d : Nat} (ha : a < 2 ^ 31) (h0 : 0 < d) (hd : d < 2 ^ 31) : nI a % nI d = nI (a % d) := by
  have hlt : a % d < d := Nat.mod_lt _ h0
  apply Int32.toInt.inj
  rw [Int32.toInt_mod, nI_toInt ha, nI_toInt hd, nI_toInt (show a % d < 2 ^ 31 by omega)]
  exact (Int.ofNat_tmod a d).symm
theorem nzN {d : Nat} (h0 : 0 < d) (hd : d < 2 ^ 31) : nz (nI d) = true := by
  have : ¬ nI d = 0 := fun z => by
    have := (nI_inj hd (by decide)).mp (z.trans (show (0 : Int32) = nI 0 from rfl))
    omega
  unfold nz
  rw [decide_eq_false this]; rfl
theorem ne0N {a : Nat} (ha : a < 2 ^ 31) (h : a ≠ 0) : ¬ nI a = 0 := fun z => h ((nI_inj ha (by decide)).mp (z.trans (show (0 : Int32) = nI 0 from rfl)))
theorem neN {a b : Nat} (ha : a < 2 ^ 31) (hb : b < 2 ^ 31) (h : a ≠ b) : ¬ nI a = nI b := fun z => h ((nI_inj ha hb).mp z)
def mk (f : Nat → Bool) : Nat → Nat
  | 0 => 0
  | k + 1 => mk f k ||| (if f k then 2 ^ k else 0)
theorem mk_bit (f : Nat → Bool) (i : Nat) : ∀ k, (mk f k).testBit i = (decide (i < k) && f i) := by
  intro k
  induction k with
  | zero => show Nat.testBit 0 i = _; rw [Nat.zero_testBit]; simp
  | succ k ih =>
    have e : mk f (k + 1) = mk f k ||| (if f k then 2 ^ k else 0) := rfl
    rw [e, Nat.testBit_or, ih]
    by_cases h : i = k
    · subst h
      cases hf : f i with
      | true => rw [if_pos rfl, Nat.testBit_two_pow]; simp
      | false => rw [if_neg (by simp), Nat.zero_testBit]; simp
    · have h2 : (if f k then 2 ^ k else 0 : Nat).testBit i = false := by
        cases f k with
        | true => rw [if_pos rfl, Nat.testBit_two_pow]; exact decide_eq_false (by omega)
        | false => rw [if_neg (by simp), Nat.zero_testBit]
      rw [h2, Bool.or_false]
      congr 1
      exact decide_eq_decide.mpr (by omega)
theorem mk_lt (f : Nat → Bool) : ∀ k, mk f k < 2 ^ k := by
  intro k
  induction k with
  | zero => show 0 < 1; omega
  | succ k ih =>
    have e : mk f (k + 1) = mk f k ||| (if f k then 2 ^ k else 0) := rfl
    rw [e]
    have h1 : (2 : Nat) ^ k < 2 ^ (k + 1) := Nat.pow_lt_pow_right (by decide) (by omega)
    refine Nat.or_lt_two_pow (by omega) ?_
    split <;> omega
theorem mk_congr {f g : Nat → Bool} {k : Nat} (h : ∀ i, i < k → f i = g i) : mk f k = mk g k := by
  apply Nat.eq_of_testBit_eq
  intro i
  rw [mk_bit, mk_bit]
  by_cases hi : i < k
  · rw [h i hi]
  · rw [decide_eq_false hi]; rfl
/-- the masks of a relation -/
def nxOf (n : Nat) (adj : Nat → Nat → Bool) (w : Nat) : Nat := if w < n then mk (adj w) n else 0
theorem nxOf_bit (n : Nat) (adj : Nat → Nat → Bool) (w v : Nat) : (nxOf n adj w).testBit v = (decide (w < n) && (decide (v < n) && adj w v)) := by
  unfold nxOf
  by_cases h : w < n
  · rw [if_pos h, mk_bit, decide_eq_true h]; rfl
  · rw [if_neg h, Nat.zero_testBit, decide_eq_false h]; rfl
theorem nxOf_lt (n : Nat) (adj : Nat → Nat → Bool) (w : Nat) : nxOf n adj w < 2 ^ n := by
  unfold nxOf
  split
  · exact mk_lt _ _
  · exact Nat.two_pow_pos n
theorem nxOf_congr {n : Nat} {adj adj' : Nat → Nat → Bool} (h : ∀ p q, p < n → q < n → adj p q = adj' p q) (w : Nat) : nxOf n adj w = nxOf n adj' w := by
  unfold nxOf
  by_cases hw : w < n
  · rw [if_pos hw, if_pos hw]; exact mk_congr (fun i hi => h w i hw hi)
  · rw [if_neg hw, if_neg hw]
def Sy (adj : Nat → Nat → Bool) : Prop := (∀ p q, adj p q = adj q p) ∧ ∀ p, adj p p = false
theorem nxOf_good {n : Nat} (hn : n ≤ 12) {adj : Nat → Nat → Bool} (hs : Sy adj) : GoodG n (nxOf n adj) := by
  refine ⟨hn, nxOf_lt n adj, fun p hp => if_neg (by omega), fun p q => ?_, fun p => ?_⟩
  · rw [nxOf_bit, nxOf_bit, hs.1 p q]
    cases decide (p < n) <;> cases decide (q < n) <;> rfl
  · rw [nxOf_bit, hs.2 p]
    cases decide (p < n) <;> rfl
/-- the class's masks -/
def CM (n : Nat) (adj : Nat → Nat → Bool) (next : Nat → Int32) : Prop := ∀ w, w < 12 → next w = nI (nxOf n adj w)
theorem cm_congr {n : Nat} {adj adj' : Nat → Nat → Bool} {next : Nat → Int32} (h : ∀ p q, p < n → q < n → adj p q = adj' p q) (hc : CM n adj next) : CM n adj' next := fun w hw => (hc w hw).trans (by rw [nxOf_congr h])
def plus (adj : Nat → Nat → Bool) (a b : Nat) : Nat → Nat → Bool := fun p q => adj p q || (decide (p = a ∧ q = b) || decide (p = b ∧ q = a))
theorem plus_sy {adj : Nat → Nat → Bool} (h : Sy adj) {a b : Nat} (hab : a ≠ b) : Sy (plus adj a b) := by
  refine ⟨fun p q => ?_, fun p => ?_⟩
  · unfold plus
    rw [h.1 p q, Bool.or_comm (decide (p = a ∧ q = b))]
    congr 1
    congr 1
    · exact decide_eq_decide.mpr ⟨fun z => ⟨z.2, z.1⟩, fun z => ⟨z.2, z.1⟩⟩
    · exact decide_eq_decide.mpr ⟨fun z => ⟨z.2, z.1⟩, fun z => ⟨z.2, z.1⟩⟩
  · unfold plus
    rw [h.2 p, decide_eq_false (fun z => hab (z.1.symm.trans z.2)), decide_eq_false (fun z => hab (z.2.symm.trans z.1))]; rfl
theorem cm_join {n : Nat} (hn : n ≤ 12) {adj : Nat → Nat → Bool} {next : Nat → Int32} (hs : Sy adj) (h : CM n adj next) {a b : Nat} (ha : a < n) (hb : b < n) (hab : a ≠ b) :
    ∃ next', Land_join (nI n) next (nI a) (nI b) = some next' ∧ CM n (plus adj a b) next' := by
  obtain ⟨x, h1, h2, -⟩ := join_ok (nxOf_good hn hs) h ha hb hab
  refine ⟨x, h1, fun w hw => ?_⟩
  rw [h2 w hw]
  congr 1
  apply Nat.eq_of_testBit_eq
  intro v
  rw [addE_bit hab, nxOf_bit, nxOf_bit]
  unfold plus
  by_cases hw' : w < n
  · by_cases hv : v < n
    · rw [decide_eq_true hw', decide_eq_true hv]; rfl
    · rw [decide_eq_false hv, decide_eq_false (show ¬ (w = a ∧ v = b) by omega), decide_eq_false (show ¬ (w = b ∧ v = a) by omega)]
      cases decide (w < n) <;> rfl
  · rw [decide_eq_false hw', decide_eq_false (show ¬ (w = a ∧ v = b) by omega), decide_eq_false (show ¬ (w = b ∧ v = a) by omega)]; rfl
/-- masks of a relation told by a proposition -/
def EM (n : Nat) (P : Nat → Nat → Prop) (next : Nat → Int32) : Prop := ∃ adj, Sy adj ∧ CM n adj next ∧ ∀ p q, p < n → q < n → (adj p q = true ↔ P p q)
theorem em_join {n : Nat} (hn : n ≤ 12) {P : Nat → Nat → Prop} {next : Nat → Int32} (h : EM n P next) {a b : Nat} (ha : a < n) (hb : b < n) (hab : a ≠ b) :
    ∃ next', Land_join (nI n) next (nI a) (nI b) = some next' ∧ EM n (fun p q => P p q ∨ (p = a ∧ q = b) ∨ (p = b ∧ q = a)) next' := by
  obtain ⟨adj, h1, h2, h3⟩ := h
  obtain ⟨x, g1, g2⟩ := cm_join hn h1 h2 ha hb hab
  refine ⟨x, g1, plus adj a b, plus_sy h1 hab, g2, fun p q hp hq => ?_⟩
  unfold plus
  rw [Bool.or_eq_true, Bool.or_eq_true, decide_eq_true_eq, decide_eq_true_eq, h3 p q hp hq]
theorem em_congr {n : Nat} {P Q : Nat → Nat → Prop} {next : Nat → Int32} (h : EM n P next) (hpq : ∀ p q, p < n → q < n → (P p q ↔ Q p q)) : EM n Q next := by
  obtain ⟨adj, h1, h2, h3⟩ := h
  exact ⟨adj, h1, h2, fun p q hp hq => (h3 p q hp hq).trans (hpq p q hp hq)⟩
theorem em_cm {n : Nat} {P : Nat → Nat → Prop} {next : Nat → Int32} (h : EM n P next) {adj : Nat → Nat → Bool} (ha : ∀ p q, p < n → q < n → (adj p q = true ↔ P p q)) : CM n adj next := by
  obtain ⟨adj', h1, h2, h3⟩ := h
  refine cm_congr (fun p q hp hq => ?_) h2
  rw [Bool.eq_iff_iff]
  exact (h3 p q hp hq).trans (ha p q hp hq).symm
theorem bare_eq {m : Nat} (hm : m ≤ 12) (w0 : Int32) (next : Nat → Int32) : Land_bare w0 next (nI m) = some (nI m, filled next 0 12) := by
  unfold Land_bare
  rw [ob_eq (Arrays_fill_eq (n := 12) (by decide) next 0)]
  have h1 : jmin (nI m) 12 = nI m := if_neg (fun z => absurd ((nI_ltN (a := 12) (by decide) (by omega)).mp z) (by omega))
  have h2 : jmax 0 (nI m) = nI m := by
    unfold jmax
    by_cases h : (0 : Int32) < nI m
    · exact if_pos h
    · rw [if_neg h]
      have e : m = 0 := by
        rcases Nat.eq_zero_or_pos m with z | z
        · exact z
        · exact absurd ((nI_ltN (a := 0) (b := m) (by decide) (by omega)).mpr z) h
      subst e; rfl
  rw [h1, h2]
theorem em_bare (m : Nat) (next : Nat → Int32) {P : Nat → Nat → Prop} (hP : ∀ p q, p < m → q < m → ¬ P p q) : EM m P (filled next 0 12) := by
  refine ⟨fun _ _ => false, ⟨fun _ _ => rfl, fun _ => rfl⟩, fun w hw => ?_, fun p q hp hq => ⟨fun h => absurd h Bool.false_ne_true, fun h => absurd h (hP p q hp hq)⟩⟩
  have e : nxOf m (fun _ _ => false) w = 0 := zero_of_bits (fun i => by
    rw [nxOf_bit]
    cases decide (w < m) <;> cases decide (i < m) <;> rfl)
  rw [e]
  exact if_pos hw
/-- which are next to each other -/
def shP (a : Int32) (p q : Nat) : Prop := if a = 75 then p ≠ q else if a = 83 then p ≠ q ∧ (p = 0 ∨ q = 0) else q = p + 1 ∨ p = q + 1
def shp (a : Int32) (n p q : Nat) : Bool := if a = 75 then decide (p ≠ q) else if a = 83 then decide (p ≠ q ∧ (p = 0 ∨ q = 0)) else decide ((q = p + 1 ∨ p = q + 1) ∨ (a = 82 ∧ p ≠ q ∧ ((p = 0 ∧ q + 1 = n) ∨ (q = 0 ∧ p + 1 = n))))
theorem shp_sy (a : Int32) (n : Nat) : Sy (shp a n) := by
  refine ⟨fun p q => ?_, fun p => ?_⟩
  · unfold shp
    by_cases h1 : a = 75
    · rw [if_pos h1, if_pos h1]; exact decide_eq_decide.mpr (by omega)
    · rw [if_neg h1, if_neg h1]
      by_cases h2 : a = 83
      · rw [if_pos h2, if_pos h2]; exact decide_eq_decide.mpr (by omega)
      · rw [if_neg h2, if_neg h2]; exact decide_eq_decide.mpr (or_congr (by omega) (and_congr_right (fun _ => by omega)))
  · unfold shp
    by_cases h1 : a = 75
    · rw [if_pos h1]; exact decide_eq_false (by omega)
    · rw [if_neg h1]
      by_cases h2 : a = 83
      · rw [if_pos h2]; exact decide_eq_false (by omega)
      · rw [if_neg h2]; exact decide_eq_false (by omega)
theorem shapeK {a : Int32} (ha : a = 75) {n v : Nat} (hn : n ≤ 12) (hv : v < n) {P : Nat → Nat → Prop} {next : Nat → Int32} (h : EM n P next) :
    ∃ next', lp (Land_becomeShape_L41 a (nI v) (nI n)) (0, next) = some next' ∧ EM n (fun p q => P p q ∨ (p < v ∧ q = v) ∨ (q < v ∧ p = v)) next' := by
  refine lp_inv (f := Land_becomeShape_L41 a (nI v) (nI n)) (fun j s => ∃ nx, s = (nI j, nx) ∧ EM n (fun p q => P p q ∨ (p < j ∧ q = v) ∨ (q < j ∧ p = v)) nx) v _ ?_ ?_ 0 _ (Nat.zero_le _) ⟨next, rfl, em_congr h (fun p q _ _ => ⟨Or.inl, fun z => z.elim id (fun y => by omega)⟩)⟩
  · rintro j s hj ⟨nx, rfl, hE⟩
    obtain ⟨nx', g1, g2⟩ := em_join hn hE (a := j) (b := v) (by omega) hv (by omega)
    refine Or.inl ⟨(nI (j + 1), nx'), ?_, nx', rfl, em_congr g2 (fun p q _ _ => by rw [or_assoc]; exact or_congr Iff.rfl (by omega))⟩
    unfold Land_becomeShape_L41
    refine (if_pos ha).trans ((if_pos ((nI_ltN (by omega) (by omega)).mpr hj)).trans ((ob_eq g1).trans ?_))
    show some (Sum.inl (nI j + nI 1, nx')) = _
    rw [nI_ad]
  · rintro s ⟨nx, rfl, hE⟩
    refine ⟨nx, ?_, hE⟩
    unfold Land_becomeShape_L41
    exact (if_pos ha).trans (if_neg (not_self (by omega)))
theorem shape_loop (a : Int32) {n : Nat} (hn : n ≤ 12) (h1 : 1 ≤ n) {next : Nat → Int32} (h : EM n (fun p q => shP a p q ∧ p ≤ 0 ∧ q ≤ 0) next) :
    ∃ next', lp (Land_becomeShape_L7 a (nI n)) (1, next) = some next' ∧ EM n (shP a) next' := by
  refine lp_inv (f := Land_becomeShape_L7 a (nI n)) (fun k s => ∃ nx, s = (nI (k + 1), nx) ∧ EM n (fun p q => shP a p q ∧ p ≤ k ∧ q ≤ k) nx) (n - 1) _ ?_ ?_ 0 _ (Nat.zero_le _) ⟨next, rfl, h⟩
  · rintro k s hk ⟨nx, rfl, hE⟩
    have hlt : nI (k + 1) < nI n := (nI_ltN (by omega) (by omega)).mpr (by omega)
    have hj38 : ∀ {P : Nat → Nat → Prop} {nx : Nat → Int32}, EM n P nx → (¬ a = 75 → ∀ p q, p < n → q < n → (P p q ↔ shP a p q ∧ p ≤ k + 1 ∧ q ≤ k + 1)) → (a = 75 → ∀ p q, p < n → q < n → (P p q ∨ (p < k + 1 ∧ q = k + 1) ∨ (q < k + 1 ∧ p = k + 1) ↔ shP a p q ∧ p ≤ k + 1 ∧ q ≤ k + 1)) → ∃ nx', Land_becomeShape_L7_J38 a (nI (k + 1)) (nI n) nx = some (.inl (nI (k + 1 + 1), nx')) ∧ EM n (fun p q => shP a p q ∧ p ≤ k + 1 ∧ q ≤ k + 1) nx' := by
      intro P nx hP c1 c2
      by_cases ha : a = 75
      · obtain ⟨nx', g1, g2⟩ := shapeK ha hn (v := k + 1) (by omega) hP
        refine ⟨nx', ?_, em_congr g2 (c2 ha)⟩
        unfold Land_becomeShape_L7_J38 Land_becomeShape_L7_J66
        refine (ob_eq g1).trans ?_
        show some (Sum.inl (nI (k + 1) + nI 1, nx')) = _
        rw [nI_ad]
      · refine ⟨nx, ?_, em_congr hP (c1 ha)⟩
        unfold Land_becomeShape_L7_J38 Land_becomeShape_L7_J66
        refine (ob_eq (a := nx) (lp_inr ?_)).trans ?_
        · unfold Land_becomeShape_L41; exact if_neg ha
        · show some (Sum.inl (nI (k + 1) + nI 1, nx)) = _
          rw [nI_ad]
    by_cases hs : a = 83
    · obtain ⟨nx1, g1, g2⟩ := em_join hn hE (a := 0) (b := k + 1) (by omega) (by omega) (by omega)
      have ne : ¬ a = 75 := by rw [hs]; decide
      obtain ⟨nx2, g3, g4⟩ := hj38 g2 (fun _ p q _ _ => by unfold shP; rw [if_neg ne, if_pos hs]; omega) (fun z => absurd z ne)
      refine Or.inl ⟨_, ?_, nx2, rfl, g4⟩
      unfold Land_becomeShape_L7
      exact (if_pos hlt).trans ((if_pos hs).trans ((ob_eq g1).trans g3))
    · obtain ⟨nx1, g1, g2⟩ := em_join hn hE (a := k) (b := k + 1) (by omega) (by omega) (by omega)
      obtain ⟨nx2, g3, g4⟩ := hj38 g2 (fun ne p q _ _ => by unfold shP; rw [if_neg ne, if_neg hs]; omega) (fun ha p q _ _ => by unfold shP; rw [if_pos ha]; omega)
      refine Or.inl ⟨_, ?_, nx2, rfl, g4⟩
      unfold Land_becomeShape_L7
      refine (if_pos hlt).trans ((if_neg hs).trans ((ob_eq (a := nx1) ?_).trans g3))
      have e : nI (k + 1) - 1 = nI k := nI_subN (b := 1) (by omega)
      show Land_join (nI n) nx (nI (k + 1) - 1) (nI (k + 1)) = _
      rw [e]; exact g1
  · rintro s ⟨nx, rfl, hE⟩
    refine ⟨nx, ?_, em_congr hE (fun p q hp hq => ⟨fun z => z.1, fun z => ⟨z, by omega, by omega⟩⟩)⟩
    unfold Land_becomeShape_L7
    exact if_neg (fun z => absurd ((nI_ltN (by omega) (by omega)).mp z) (by omega))
theorem shape_cls (a : Int32) {n : Nat} (hn : n ≤ 12) (h1 : 1 ≤ n) (h3 : a = 82 → 3 ≤ n) (w0 : Int32) (next : Nat → Int32) :
    ∃ next', Land_becomeShape w0 next a (nI n) = some (nI n, next') ∧ CM n (shp a n) next' := by
  obtain ⟨nx, g1, g2⟩ := shape_loop a hn h1 (em_bare n next (P := fun p q => shP a p q ∧ p ≤ 0 ∧ q ≤ 0) (fun p q _ _ h => by
    have e : p = q := by omega
    subst e
    have h := h.1
    unfold shP at h
    by_cases c1 : a = 75
    · rw [if_pos c1] at h; exact h rfl
    · rw [if_neg c1] at h
      by_cases c2 : a = 83
      · rw [if_pos c2] at h; exact h.1 rfl
      · rw [if_neg c2] at h; omega))
  by_cases ha : a = 82
  · obtain ⟨nx', g3, g4⟩ := em_join hn g2 (a := n - 1) (b := 0) (by omega) (by omega) (by have := h3 ha; omega)
    refine ⟨nx', ?_, em_cm g4 (fun p q hp hq => ?_)⟩
    · unfold Land_becomeShape
      refine (ob_eq (bare_eq hn w0 next)).trans ((ob_eq g1).trans ((if_pos ha).trans ((ob_eq (a := nx') ?_).trans rfl)))
      have e : nI n - 1 = nI (n - 1) := nI_subN (b := 1) (by omega)
      show Land_join (nI n) nx (nI n - 1) 0 = _
      rw [e]; exact g3
    · have n1 : ¬ a = 75 := by rw [ha]; decide
      have n2 : ¬ a = 83 := by rw [ha]; decide
      have := h3 ha
      unfold shp shP
      rw [if_neg n1, if_neg n2, if_neg n1, if_neg n2, decide_eq_true_eq]
      constructor
      · intro h; omega
      · intro h
        rcases h with h | h
        · exact Or.inl h
        · exact Or.inr ⟨ha, by omega, by omega⟩
  · refine ⟨nx, ?_, em_cm g2 (fun p q hp hq => ?_)⟩
    · unfold Land_becomeShape
      exact (ob_eq (bare_eq hn w0 next)).trans ((ob_eq g1).trans (if_neg ha))
    · unfold shp shP
      by_cases c1 : a = 75
      · rw [if_pos c1, if_pos c1, decide_eq_true_eq]
      · rw [if_neg c1, if_neg c1]
        by_cases c2 : a = 83
        · rw [if_pos c2, if_pos c2, decide_eq_true_eq]
        · rw [if_neg c2, if_neg c2, decide_eq_true_eq]
          exact ⟨fun h => h.resolve_right (fun z => ha z.1), fun h => Or.inl h⟩
/-- the reference's row: one bit -/
theorem bit121 (v1 v2 v3 : Int32) {w q m : Nat} (hw : w < 12) (hq : q < 12) (hm : m < 2 ^ 12) (k0 : Int32) (b : Bool) (hb : ((¬ k0 = 0) ∧ w ≠ q) ↔ b = true) :
    Mo_laysPart_L22_J121 v1 v2 v3 (nI w) (nI m) (nI q) k0 = some (.inl (nI (m ||| (if b then 2 ^ q else 0)), nI (q + 1))) := by
  unfold Mo_laysPart_L22_J121 Mo_laysPart_L22_J144
  have e0 : nI q + 1 = nI (q + 1) := nI_ad q 1
  have hp : (2 : Nat) ^ q < 2 ^ 12 := Nat.pow_lt_pow_right (by decide) hq
  rw [e0]
  by_cases h0 : k0 = 0
  · have hbf : ¬ b = true := fun z => (hb.mpr z).1 h0
    rw [if_pos h0, if_neg hbf, Nat.or_zero]
  · rw [if_neg h0]
    by_cases hwq : w = q
    · have hbf : ¬ b = true := fun z => (hb.mpr z).2 hwq
      rw [if_pos (by rw [hwq]), if_neg hbf, Nat.or_zero]
    · rw [if_neg (neN (by omega) (by omega) hwq), if_pos (hb.mp ⟨h0, hwq⟩), shl_nI (by omega), or_nI (by omega) (by omega)]
theorem bit22 (a v3 : Int32) {n w q m : Nat} (hn : n ≤ 12) (hw : w < n) (hq : q < n) (hm : m < 2 ^ 12) :
    Mo_laysPart_L22 a (nI n) v3 (nI w) (nI m, nI q) = some (.inl (nI (m ||| (if shp a n w q then 2 ^ q else 0)), nI (q + 1))) := by
  have e1 : nI w + 1 = nI (w + 1) := nI_ad w 1
  have e2 : nI q + 1 = nI (q + 1) := nI_ad q 1
  have e3 : nI n - 1 = nI (n - 1) := nI_subN (b := 1) (by omega)
  have z0 : (0 : Int32) = nI 0 := rfl
  have j83 : ∀ k0 : Int32, (¬ a = 75 → ¬ a = 83 → (((¬ k0 = 0) ∧ w ≠ q) ↔ shp a n w q = true)) → Mo_laysPart_L22_J83 a (nI n) v3 (nI w) (nI m) (nI q) k0 = some (.inl (nI (m ||| (if shp a n w q then 2 ^ q else 0)), nI (q + 1))) := by
    intro k0 hk
    unfold Mo_laysPart_L22_J83 Mo_laysPart_L22_J111
    by_cases c1 : a = 75
    · rw [if_pos c1]
      refine bit121 _ _ _ (by omega) (by omega) hm 1 _ ?_
      unfold shp
      rw [if_pos c1, decide_eq_true_eq]
      exact ⟨fun h => h.2, fun h => ⟨one_ne0, h⟩⟩
    · rw [if_neg c1]
      by_cases c2 : a = 83
      · rw [if_pos c2]
        have hs : shp a n w q = true ↔ w ≠ q ∧ (w = 0 ∨ q = 0) := by unfold shp; rw [if_neg c1, if_pos c2, decide_eq_true_eq]
        by_cases d1 : w = 0
        · rw [if_pos (by rw [d1]; rfl)]
          exact bit121 _ _ _ (by omega) (by omega) hm 1 _ (Iff.trans ⟨fun h => ⟨h.2, Or.inl d1⟩, fun h => ⟨one_ne0, h.1⟩⟩ hs.symm)
        · rw [if_neg (ne0N (by omega) d1)]
          by_cases d2 : q = 0
          · rw [if_pos (by rw [d2]; rfl)]
            exact bit121 _ _ _ (by omega) (by omega) hm 1 _ (Iff.trans ⟨fun h => ⟨h.2, Or.inr d2⟩, fun h => ⟨one_ne0, h.1⟩⟩ hs.symm)
          · rw [if_neg (ne0N (by omega) d2)]
            exact bit121 _ _ _ (by omega) (by omega) hm 0 _ (Iff.trans ⟨fun h => absurd rfl h.1, fun h => by omega⟩ hs.symm)
      · rw [if_neg c2]
        exact bit121 _ _ _ (by omega) (by omega) hm k0 _ (hk c1 c2)
  have hs : ¬ a = 75 → ¬ a = 83 → (shp a n w q = true ↔ (q = w + 1 ∨ w = q + 1) ∨ (a = 82 ∧ w ≠ q ∧ ((w = 0 ∧ q + 1 = n) ∨ (q = 0 ∧ w + 1 = n)))) := by
    intro c1 c2
    unfold shp; rw [if_neg c1, if_neg c2, decide_eq_true_eq]
  have yes : ((w ≠ q) → (¬ a = 75 → ¬ a = 83 → shp a n w q = true)) → Mo_laysPart_L22_J83 a (nI n) v3 (nI w) (nI m) (nI q) 1 = some (.inl (nI (m ||| (if shp a n w q then 2 ^ q else 0)), nI (q + 1))) := by
    intro h
    refine j83 1 (fun c1 c2 => ⟨fun z => h z.2 c1 c2, fun z => ⟨one_ne0, ?_⟩⟩)
    have := (hs c1 c2).mp z
    omega
  have no : (¬ a = 75 → ¬ a = 83 → ¬ shp a n w q = true) → Mo_laysPart_L22_J83 a (nI n) v3 (nI w) (nI m) (nI q) 0 = some (.inl (nI (m ||| (if shp a n w q then 2 ^ q else 0)), nI (q + 1))) := by
    intro h
    exact j83 0 (fun c1 c2 => ⟨fun z => absurd rfl z.1, fun z => absurd z (h c1 c2)⟩)
  unfold Mo_laysPart_L22
  refine (if_pos ((nI_ltN (by omega) (by omega)).mpr hq)).trans ?_
  show (if nI q = nI w + 1 then (Mo_laysPart_L22_J83 a (nI n) v3 (nI w) (nI m) (nI q) 1) else (if nI w = nI q + 1 then (Mo_laysPart_L22_J83 a (nI n) v3 (nI w) (nI m) (nI q) 1) else (if a = 82 then (if nI w = 0 then (if nI q = (nI n - 1) then (Mo_laysPart_L22_J83 a (nI n) v3 (nI w) (nI m) (nI q) 1) else (Mo_laysPart_L22_J65 a (nI n) v3 (nI w) (nI m) (nI q))) else (Mo_laysPart_L22_J65 a (nI n) v3 (nI w) (nI m) (nI q))) else (Mo_laysPart_L22_J83 a (nI n) v3 (nI w) (nI m) (nI q) 0)))) = _
  rw [e1, e2, e3]
  by_cases d1 : q = w + 1
  · rw [if_pos (by rw [d1])]
    exact yes (fun _ c1 c2 => (hs c1 c2).mpr (Or.inl (Or.inl d1)))
  · rw [if_neg (neN (by omega) (by omega) d1)]
    by_cases d2 : w = q + 1
    · rw [if_pos (by rw [d2])]
      exact yes (fun _ c1 c2 => (hs c1 c2).mpr (Or.inl (Or.inr d2)))
    · rw [if_neg (neN (by omega) (by omega) d2)]
      by_cases d3 : a = 82
      · rw [if_pos d3]
        have j65 : ¬ (w = 0 ∧ q + 1 = n) → Mo_laysPart_L22_J65 a (nI n) v3 (nI w) (nI m) (nI q) = some (.inl (nI (m ||| (if shp a n w q then 2 ^ q else 0)), nI (q + 1))) := by
          intro hz
          show (if nI q = 0 then (if nI w = (nI n - 1) then (Mo_laysPart_L22_J83 a (nI n) v3 (nI w) (nI m) (nI q) 1) else (Mo_laysPart_L22_J83 a (nI n) v3 (nI w) (nI m) (nI q) 0)) else (Mo_laysPart_L22_J83 a (nI n) v3 (nI w) (nI m) (nI q) 0)) = _
          rw [e3]
          by_cases f1 : q = 0
          · rw [if_pos (by rw [f1]; rfl)]
            by_cases f2 : w = n - 1
            · rw [if_pos (by rw [f2])]
              exact yes (fun hne c1 c2 => (hs c1 c2).mpr (Or.inr ⟨d3, hne, Or.inr ⟨f1, by omega⟩⟩))
            · rw [if_neg (neN (by omega) (by omega) f2)]
              exact no (fun c1 c2 z => by have := (hs c1 c2).mp z; omega)
          · rw [if_neg (ne0N (by omega) f1)]
            exact no (fun c1 c2 z => by have := (hs c1 c2).mp z; omega)
        by_cases f1 : w = 0
        · rw [if_pos (by rw [f1]; rfl)]
          by_cases f2 : q = n - 1
          · rw [if_pos (by rw [f2])]
            exact yes (fun hne c1 c2 => (hs c1 c2).mpr (Or.inr ⟨d3, hne, Or.inl ⟨f1, by omega⟩⟩))
          · rw [if_neg (neN (by omega) (by omega) f2)]
            exact j65 (by omega)
        · rw [if_neg (ne0N (by omega) f1)]
          exact j65 (by omega)
      · rw [if_neg d3]
        exact no (fun c1 c2 z => by rcases (hs c1 c2).mp z with h | h; omega; exact d3 h.1)
/-- the reference's row of masks at a depth -/
def RMk (d n : Nat) (adj : Nat → Nat → Bool) (nextAt : Nat → Int32) : Prop := ∀ w, w < n → nextAt (12 * d + w) = nI (nxOf n adj w)
theorem row22 (a v3 : Int32) {n w : Nat} (hn : n ≤ 12) (hw : w < n) : lp (Mo_laysPart_L22 a (nI n) v3 (nI w)) (0, 0) = some (nI (nxOf n (shp a n) w)) := by
  have e : nxOf n (shp a n) w = mk (shp a n w) n := if_pos hw
  rw [e]
  have h12 : ∀ k, k ≤ n → mk (shp a n w) k < 2 ^ 12 := fun k hk => Nat.lt_of_lt_of_le (mk_lt _ k) (Nat.pow_le_pow_right (by decide) (by omega))
  refine lp_run (f := Mo_laysPart_L22 a (nI n) v3 (nI w)) (fun k => (nI (mk (shp a n w) k), nI k)) n (fun k hk => ?_) ?_
  · exact bit22 a v3 hn hw hk (h12 k (by omega))
  · unfold Mo_laysPart_L22
    exact if_neg (not_self (by omega))
theorem shape_ref (a : Int32) {n d : Nat} (hn : n ≤ 12) (hd : d < 4) (manyAt nextAt : Nat → Int32) :
    ∃ next', Mo_laysPart manyAt nextAt a (nI n) (nI d) = some (upd manyAt d (nI n), next') ∧ RMk d n (shp a n) next' ∧ ∀ j, j < 12 * d ∨ 12 * d + n ≤ j → next' j = nextAt j := by
  have hlp : ∃ r, lp (Mo_laysPart_L10 a (nI n) (nI d)) (0, nextAt) = some r ∧ (RMk d n (shp a n) r ∧ ∀ j, j < 12 * d ∨ 12 * d + n ≤ j → r j = nextAt j) := by
    refine lp_inv (f := Mo_laysPart_L10 a (nI n) (nI d)) (fun k s => ∃ nx, s = (nI k, nx) ∧ (∀ w, w < k → nx (12 * d + w) = nI (nxOf n (shp a n) w)) ∧ ∀ j, j < 12 * d ∨ 12 * d + k ≤ j → nx j = nextAt j) n _ ?_ ?_ 0 _ (Nat.zero_le _) ⟨nextAt, rfl, fun w hw => by omega, fun j _ => rfl⟩
    · rintro k s hk ⟨nx, rfl, h1, h2⟩
      have ei : (12 : Int32) * nI d + nI k = nI (12 * d + k) := by
        rw [show (12 : Int32) * nI d = nI (12 * d) from nI_mulN 12 d, nI_ad]
      refine Or.inl ⟨(nI (k + 1), upd nx (12 * d + k) (nI (nxOf n (shp a n) k))), ?_, _, rfl, fun w hw => ?_, fun j hj => ?_⟩
      · unfold Mo_laysPart_L10
        refine (if_pos ((nI_ltN (by omega) (by omega)).mpr hk)).trans ((ob_eq (row22 a (nI d) hn hk)).trans ?_)
        show gd (ix ((12 : Int32) * nI d + nI k) 48) (some (Sum.inl (nI k + nI 1, upd nx ((12 : Int32) * nI d + nI k).toNatClampNeg _))) = _
        rw [ei, gd_eq (ixN (by omega) (by decide)), nI_clamp (by omega), nI_ad]
      · by_cases e : w = k
        · subst e; exact upd_at _ _ _
        · rw [upd_ne (by omega)]; exact h1 w (by omega)
      · rw [upd_ne (by omega)]; exact h2 j (by omega)
    · rintro s ⟨nx, rfl, h1, h2⟩
      refine ⟨nx, ?_, h1, h2⟩
      unfold Mo_laysPart_L10
      exact if_neg (not_self (by omega))
  obtain ⟨r, g1, g2, g3⟩ := hlp
  refine ⟨r, ?_, g2, g3⟩
  unfold Mo_laysPart
  rw [gd_eq (ixN hd (by decide)), ob_eq g1, nI_clamp (by omega)]
