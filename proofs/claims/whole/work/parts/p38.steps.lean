/-! STEPS over all WELLS; stages; the widest way -/
/-- the table of steps -/
def RW (n : Nat) (nx : Nat → Nat) (w : Nat → Int32) : Prop := ∀ p q, p < n → q < n → w (12 * p + q) = dI n nx p q
section ST
variable {n : Nat} {nx : Nat → Nat}
theorem measure_ok (hg : GoodG n nx) {next : Nat → Int32} (hx : ∀ w, w < 12 → next w = nI (nx w)) (w0 : Nat → Int32) : ∃ w', Land_measure (nI n) next w0 = some w' ∧ RW n nx w' := by
  have n12 := hg.1
  unfold Land_measure
  rw [ob_eq (Arrays_fill_eq (n := 144) (by decide) w0 (-2))]
  obtain ⟨r, h1, h2⟩ := lp_inv (f := Land_measure_L11 (nI n) next)
    (fun k s => ∃ w : Nat → Int32, s = (nI k, w) ∧ (∀ p q, p < k → p < n → q < n → w (12 * p + q) = dI n nx p q) ∧ ∀ p q, k ≤ p → p < n → q < n → w (12 * p + q) = -2) n
    (fun w => RW n nx w)
    (by
      rintro k s hk ⟨w, rfl, ha, hb⟩
      left
      obtain ⟨w', e1, e2, e3⟩ := measureFrom_ok hg hx hk w (fun q hq => hb k q (Nat.le_refl _) hk hq)
      refine ⟨(nI (k + 1), w'), ?_, w', rfl, fun p q h1 h2 h3 => ?_, fun p q h1 h2 h3 => ?_⟩
      · unfold Land_measure_L11
        show (if nI k < nI n then (ob (Land_measureFrom (nI n) next w (nI k)) _) else _) = _
        rw [if_pos ((nI_ltN (by omega) (by omega)).mpr hk), ob_eq e1]
        show some (Sum.inl (nI k + nI 1, w')) = _
        rw [nI_ad]
      · by_cases e : p = k
        · subst e; exact e2 q h3
        · rw [e3 _ (by omega)]; exact ha p q (by omega) h2 h3
      · rw [e3 _ (by omega)]; exact hb p q (by omega) h2 h3)
    (by
      rintro s ⟨w, rfl, ha, -⟩
      refine ⟨w, ?_, fun p q h1 h2 => ha p q h1 h1 h2⟩
      unfold Land_measure_L11
      show (if nI n < nI n then _ else _) = _
      rw [if_neg (fun h => absurd ((nI_ltN (by omega) (by omega)).mp h) (by omega))])
    0 (0, filled w0 (-2) 144) (by omega) ⟨_, rfl, fun p q h => by omega, fun p q _ h1 h2 => if_pos (by omega)⟩
  exact ⟨r, (ob_eq h1).trans rfl, h2⟩
theorem laysSteps_ok (hg : GoodG n nx) {nextTo : Nat → Int32} (hx : ∀ w, w < 12 → nextTo w = nI (nx w)) (f0 l0 : Nat → Int32) : ∃ f' l', Mo_laysSteps nextTo (nI n) f0 l0 = some (f', l') ∧ RW n nx f' := by
  have n12 := hg.1
  unfold Mo_laysSteps
  obtain ⟨r, h1, h2⟩ := lp_inv (f := Mo_laysSteps_L2 nextTo (nI n))
    (fun k s => ∃ w l : Nat → Int32, s = (nI k, w, l) ∧ ∀ p q, p < k → p < n → q < n → w (12 * p + q) = dI n nx p q) n
    (fun w => RW n nx w.1)
    (by
      rintro k s hk ⟨w, l, rfl, ha⟩
      left
      obtain ⟨w', l', e1, e2, e3⟩ := laysStepsFrom_ok hk hg hx w l
      refine ⟨(nI (k + 1), w', l'), ?_, w', l', rfl, fun p q h1 h2 h3 => ?_⟩
      · unfold Mo_laysSteps_L2
        show (if nI k < nI n then (ob (Mo_laysStepsFrom nextTo (nI n) w l (nI k)) _) else _) = _
        rw [if_pos ((nI_ltN (by omega) (by omega)).mpr hk), ob_eq e1]
        show some (Sum.inl (nI k + nI 1, w', l')) = _
        rw [nI_ad]
      · by_cases e : p = k
        · subst e; exact e2 q h3
        · rw [e3 _ (by omega)]; exact ha p q (by omega) h2 h3)
    (by
      rintro s ⟨w, l, rfl, ha⟩
      refine ⟨(w, l), ?_, fun p q h1 h2 => ha p q h1 h1 h2⟩
      unfold Mo_laysSteps_L2
      show (if nI n < nI n then _ else _) = _
      rw [if_neg (fun h => absurd ((nI_ltN (by omega) (by omega)).mp h) (by omega))])
    0 (0, f0, l0) (by omega) ⟨_, _, rfl, fun p q h => by omega⟩
  exact ⟨r.1, r.2, (ob_eq h1).trans rfl, h2⟩
theorem way_in {ways : Nat → Int32} (hn : n ≤ 12) {p q : Nat} (hp : p < n) (hq : q < n) : Land_way (nI n) ways (nI p) (nI q) = some (ways (12 * p + q)) := by
  unfold Land_way
  rw [ob_eq (has_yes hp hn), if_neg one_ne0, ob_eq (has_yes hq hn), if_neg one_ne0, row12 (by omega) (by omega), gd_eq (ixN (by omega) (by decide)), nI_clamp (by omega)]
theorem far_in {far : Nat → Int32} {p q : Nat} (hp : p < 12) (hq : q < 12) : Mo_far far (nI p) (nI q) = some (far (12 * p + q)) := by
  unfold Mo_far
  rw [row12', gd_eq (ixN (by omega) (by decide)), nI_clamp (by omega)]
theorem areNext_in {next : Nat → Int32} (hg : GoodG n nx) (hx : ∀ w, w < 12 → next w = nI (nx w)) {p q : Nat} (hp : p < n) (hq : q < n) : Land_areNext (nI n) next (nI p) (nI q) = some (if (nx p).testBit q then 1 else 0) := by
  have n12 := hg.1
  have h2n : (2 : Nat) ^ n ≤ 2 ^ 12 := Nat.pow_le_pow_right (by decide) n12
  unfold Land_areNext Land_areNext_J33
  rw [ob_eq (has_yes hp n12), if_neg one_ne0, ob_eq (has_yes hq n12), if_neg one_ne0, gd_eq (ixN (by omega) (by decide)), nI_clamp (by omega), hx p (by omega), bit_nI (Nat.lt_of_lt_of_le (hg.2.1 p) (Nat.le_trans h2n (by decide))) (by omega)]
  cases (nx p).testBit q <;> rfl
theorem steps_ok (hg : GoodG n nx) {nextTo ways : Nat → Int32} (hx : ∀ w, w < 12 → nextTo w = nI (nx w)) (hw : RW n nx ways) (f0 l0 : Nat → Int32) (a1 a2 : Int32) :
    ∃ r f' l', Dj_steps (nI n) ways a1 a2 = some r ∧ Mo_steps nextTo (nI n) f0 l0 a1 a2 = some (r, f', l') := by
  have n12 := hg.1
  unfold Dj_steps Mo_steps
  rcases well_cases a1 n12 with ⟨p, hp, rfl, e1, e2⟩ | ⟨e1, e2, -⟩
  · rw [ob_eq e1, ob_eq e2, if_neg one_ne0, if_neg one_ne0]
    rcases well_cases a2 n12 with ⟨q, hq, rfl, e3, e4⟩ | ⟨e3, e4, -⟩
    · rw [ob_eq e3, ob_eq e4, if_neg one_ne0, if_neg one_ne0]
      obtain ⟨f', l', e5, e6, -⟩ := laysStepsFrom_ok hp hg hx f0 l0
      rw [ob_eq (way_in n12 hp hq), ob_eq e5]
      refine ⟨ways (12 * p + q), f', l', rfl, ?_⟩
      refine (ob_eq (far_in (far := f') (by omega) (by omega))).trans ?_
      rw [e6 q hq, hw p q hp hq]
    · rw [ob_eq e3, ob_eq e4, if_pos rfl, if_pos rfl]
      exact ⟨_, _, _, rfl, rfl⟩
  · rw [ob_eq e1, ob_eq e2, if_pos rfl, if_pos rfl]
    exact ⟨_, _, _, rfl, rfl⟩
theorem wellIs_ok (hg : GoodG n nx) {nextTo next ways jars space now : Nat → Int32} {throne day draw : Int32} (hx : ∀ w, w < 12 → nextTo w = nI (nx w)) (hx2 : ∀ w, w < 12 → next w = nI (nx w)) (hw : RW n nx ways) (hj : RJ jars space throne day draw now) (ht : ∃ t, throne = nI t ∧ (t < n ∨ t = 0)) (f0 l0 : Nat → Int32) (a1 a2 : Int32) :
    ∃ r f' l', Dj_wellIs (nI n) next ways jars space throne a1 a2 = some r ∧ Mo_wellIs now nextTo (nI n) f0 l0 a1 a2 = some (r, f', l') := by
  have n12 := hg.1
  unfold Dj_wellIs Mo_wellIs
  rcases well_cases a1 n12 with ⟨p, hp, rfl, e1, e2⟩ | ⟨e1, e2, -⟩
  · rw [ob_eq e1, ob_eq e2, if_neg one_ne0, if_neg one_ne0]
    by_cases h0 : a2 = 0
    · rw [if_pos h0, if_pos h0, gd_eq (ixN (by omega) (by decide)), show (0 : Int32) + nI p = nI (0 + p) from nI_ad 0 p, Nat.zero_add, gd_eq (ixN (by omega) (by decide)), nI_clamp (by omega), hj.1 p (by omega)]
      exact ⟨_, _, _, rfl, rfl⟩
    rw [if_neg h0, if_neg h0]
    by_cases h1 : a2 = 1
    · rw [if_pos h1, if_pos h1, gd_eq (ixN (by omega) (by decide)), show (12 : Int32) + nI p = nI (12 + p) from nI_ad 12 p, gd_eq (ixN (by omega) (by decide)), nI_clamp (by omega), nI_clamp (by omega), hj.2.1 p (by omega)]
      exact ⟨_, _, _, rfl, rfl⟩
    rw [if_neg h1, if_neg h1]
    by_cases h2 : a2 = 2
    · rw [if_pos h2, if_pos h2, gd_eq (ixN (by omega) (by decide)), gd_eq (ixN (by omega) (by decide)), nI_clamp (by omega), hx p (by omega), hx2 p (by omega)]
      exact ⟨_, _, _, rfl, rfl⟩
    rw [if_neg h2, if_neg h2]
    by_cases h3 : a2 = 3
    · rw [if_pos h3, if_pos h3, gd_eq (show ix 24 27 = true from rfl)]
      obtain ⟨t, rfl, htn⟩ := ht
      have htn : t < n := by omega
      obtain ⟨r, f', l', e3, e4⟩ := steps_ok hg hx hw f0 l0 (nI p) (nI t)
      have e5 : Land_way (nI n) ways (nI p) (nI t) = some r := by
        unfold Dj_steps at e3
        rw [ob_eq (has_yes hp n12), if_neg one_ne0, ob_eq (has_yes htn n12), if_neg one_ne0] at e3
        rw [way_in n12 hp htn] at e3 ⊢
        exact e3
      rw [ob_eq e5]
      refine ⟨r, f', l', rfl, ?_⟩
      show ob (Mo_steps nextTo (nI n) f0 l0 (nI p) (now 24)) _ = _
      rw [hj.2.2.1, ob_eq e4]
    · rw [if_neg h3, if_neg h3]
      exact ⟨_, _, _, rfl, rfl⟩
  · rw [ob_eq e1, ob_eq e2, if_pos rfl, if_pos rfl]
    exact ⟨_, _, _, rfl, rfl⟩
/-- ways run both ways -/
theorem ball_pre {p r q : Nat} (hr : r < n) (hp : p < n) (h : (nx p).testBit r = true) : ∀ k q, ball n nx r k q = true → ball n nx p (k + 1) q = true := by
  intro k
  induction k with
  | zero =>
    intro q hb
    have : q = r := by simpa [ball] using hb
    subst this
    exact ball_step hp (show ball n nx p 0 p = true by simp [ball]) h
  | succ k ih =>
    intro q hb
    rcases ball_inv hb with hb | ⟨s, h1, h2, h3⟩
    · exact ball_mono (ih q hb)
    · exact ball_step h1 (ih s h2) h3
theorem ball_sym (hg : GoodG n nx) {p : Nat} (hp : p < n) : ∀ k q, q < n → ball n nx p k q = true → ball n nx q k p = true := by
  intro k
  induction k with
  | zero =>
    intro q _ hb
    have : q = p := by simpa [ball] using hb
    subst this; exact hb
  | succ k ih =>
    intro q hq hb
    rcases ball_inv hb with hb | ⟨r, h1, h2, h3⟩
    · exact ball_mono (ih q hq hb)
    · exact ball_pre (q := p) h1 hq (by rw [hg.2.2.2.1]; exact h3) k p (ih r h1 h2)
theorem dI_sym (hg : GoodG n nx) {p q : Nat} (hp : p < n) (hq : q < n) : dI n nx p q = dI n nx q p := by
  unfold dI
  have : (fun k => ball n nx p k q) = fun k => ball n nx q k p := by
    funext k
    cases h : ball n nx p k q with
    | true => exact (ball_sym hg hp k q hq h).symm
    | false =>
      cases h2 : ball n nx q k p with
      | false => rfl
      | true => rw [ball_sym hg hq k p hp h2] at h; cases h
  rw [this]
theorem dI_self {p : Nat} : dI n nx p p = 0 := by
  have : lev n nx p 0 p = true := by simp [lev]
  exact dI_lev (by decide) this
theorem dI_or (hg : GoodG n nx) {p q : Nat} (hp : p < n) (hq : q < n) : (∃ k, k < n ∧ dI n nx p q = nI k) ∨ dI n nx p q = -2 := by
  rcases dI_cases hp hg hq with ⟨k, h1, -, h2⟩ | ⟨-, h2⟩
  · exact Or.inl ⟨k, h1, h2⟩
  · exact Or.inr h2
theorem jmax_nI {a b : Nat} (ha : a < 2 ^ 31) (hb : b < 2 ^ 31) : jmax (nI a) (nI b) = nI (max a b) := by
  unfold jmax
  by_cases h : a < b
  · rw [if_pos ((nI_ltN ha hb).mpr h), Nat.max_eq_right (by omega)]
  · rw [if_neg (fun z => h ((nI_ltN ha hb).mp z)), Nat.max_eq_left (by omega)]
theorem Mo_max_nI {a b : Nat} (ha : a < 2 ^ 31) (hb : b < 2 ^ 31) : Mo_max (nI a) (nI b) = some (nI (max a b)) := by
  unfold Mo_max
  by_cases h : a ≤ b
  · rw [if_pos ((nI_leN ha hb).mpr h), Nat.max_eq_right (by omega)]
  · rw [if_neg (fun z => h ((nI_leN ha hb).mp z)), Nat.max_eq_left (by omega)]
/-- the most among the pairs of S -/
def WI (n : Nat) (nx : Nat → Nat) (S : Nat → Nat → Prop) (m : Nat) : Prop := (∀ p q, p < n → q < n → S p q → ∃ j, j ≤ m ∧ dI n nx p q = nI j) ∧ (m = 0 ∨ ∃ p q, p < n ∧ q < n ∧ dI n nx p q = nI m) ∧ m < 12
/-- the widest way -/
def Wid (n : Nat) (nx : Nat → Nat) (r : Int32) : Prop := (r = -2 ∧ ∃ p q, p < n ∧ q < n ∧ dI n nx p q = -2) ∨ ∃ m, r = nI m ∧ WI n nx (fun _ _ => True) m
theorem Wid_same {r s : Int32} (h1 : Wid n nx r) (h2 : Wid n nx s) : r = s := by
  rcases h1 with ⟨rfl, p, q, hp, hq, e⟩ | ⟨m, rfl, a1, a2, a3⟩
  · rcases h2 with ⟨rfl, -⟩ | ⟨m, -, a1, -, a3⟩
    · rfl
    · obtain ⟨j, j1, j2⟩ := a1 p q hp hq trivial
      rw [e] at j2
      exact absurd j2.symm (nI_ne_m2 (by omega))
  · rcases h2 with ⟨-, p, q, hp, hq, e⟩ | ⟨m', rfl, b1, b2, b3⟩
    · obtain ⟨j, j1, j2⟩ := a1 p q hp hq trivial
      rw [e] at j2
      exact absurd j2.symm (nI_ne_m2 (by omega))
    · have key : ∀ {m m' : Nat}, WI n nx (fun _ _ => True) m → WI n nx (fun _ _ => True) m' → m ≤ m' := by
        rintro m m' ⟨x1, x2, x3⟩ ⟨y1, y2, y3⟩
        rcases x2 with rfl | ⟨p, q, hp, hq, e⟩
        · omega
        · obtain ⟨j, j1, j2⟩ := y1 p q hp hq trivial
          rw [e] at j2
          have := (nI_inj (by omega) (by omega)).mp j2
          omega
      have h3 := key ⟨a1, a2, a3⟩ ⟨b1, b2, b3⟩
      have h4 := key ⟨b1, b2, b3⟩ ⟨a1, a2, a3⟩
      rw [show m = m' by omega]
theorem WI.add {S T : Nat → Nat → Prop} {m p q j : Nat} (h : WI n nx S m) (hp : p < n) (hq : q < n) (hj : j < 12) (e : dI n nx p q = nI j) (hT : ∀ p' q', T p' q' → S p' q' ∨ (p' = p ∧ q' = q)) : WI n nx T (max m j) := by
  obtain ⟨h1, h2, h3⟩ := h
  refine ⟨fun p' q' hp' hq' ht => ?_, ?_, by omega⟩
  · rcases hT p' q' ht with hs | ⟨rfl, rfl⟩
    · obtain ⟨i, i1, i2⟩ := h1 p' q' hp' hq' hs
      exact ⟨i, by omega, i2⟩
    · exact ⟨j, by omega, e⟩
  · by_cases hm : j ≤ m
    · rw [Nat.max_eq_left hm]; exact h2
    · rw [Nat.max_eq_right (by omega)]; exact Or.inr ⟨p, q, hp, hq, e⟩
theorem WI.mono {S T : Nat → Nat → Prop} {m : Nat} (h : WI n nx S m) (hT : ∀ p q, p < n → q < n → T p q → S p q) : WI n nx T m := ⟨fun p q hp hq ht => h.1 p q hp hq (hT p q hp hq ht), h.2⟩
theorem widest_ok (hg : GoodG n nx) {ways : Nat → Int32} (hw : RW n nx ways) : ∃ r, Land_widest (nI n) ways = some r ∧ Wid n nx r := by
  have n12 := hg.1
  unfold Land_widest
  obtain ⟨r, h1, h2⟩ := lp_inv (f := Land_widest_L4 (nI n) ways)
    (fun p s => ∃ m, s = (nI m, nI p) ∧ WI n nx (fun a b => a < p ∧ b < a) m) n
    (fun r => (∃ u, r = .inl u ∧ ∃ p q, p < n ∧ q < n ∧ dI n nx p q = -2) ∨ ∃ m, r = .inr (nI m) ∧ WI n nx (fun a b => a < n ∧ b < a) m)
    (by
      rintro p s hp ⟨m, rfl, hm⟩
      obtain ⟨r, h3, h4⟩ := lp_inv (f := Land_widest_L14 (nI p) (nI n) ways)
        (fun q s => ∃ m, s = (nI m, nI q) ∧ WI n nx (fun a b => (a < p ∧ b < a) ∨ (a = p ∧ b < q)) m) p
        (fun r => (∃ u, r = .inl u ∧ ∃ p q, p < n ∧ q < n ∧ dI n nx p q = -2) ∨ ∃ m, r = .inr (nI m) ∧ WI n nx (fun a b => (a < p ∧ b < a) ∨ (a = p ∧ b < p)) m)
        (by
          rintro q s hq ⟨m, rfl, hm⟩
          have hqp : nI q < nI p := (nI_ltN (by omega) (by omega)).mpr hq
          have hway := way_in (ways := ways) n12 hp (show q < n by omega)
          rw [hw p q hp (by omega)] at hway
          rcases dI_or hg hp (show q < n by omega) with ⟨j, hj, e⟩ | e
          · left
            rw [e] at hway
            refine ⟨(nI (max m j), nI (q + 1)), ?_, max m j, rfl, hm.add hp (by omega) (by omega) e ?_⟩
            · unfold Land_widest_L14
              show (if nI q < nI p then (ob (Land_way (nI n) ways (nI p) (nI q)) _) else _) = _
              rw [if_pos hqp, ob_eq hway, if_neg (nI_pos (by omega)), ob_eq hway]
              show some (Sum.inl (jmax (nI m) (nI j), nI q + nI 1)) = _
              rw [nI_ad, jmax_nI (by have := hm.2.2; omega) (by omega)]
            · intro p' q' h
              rcases h with h | ⟨rfl, h⟩
              · exact Or.inl (Or.inl h)
              · by_cases e2 : q' = q
                · exact Or.inr ⟨rfl, e2⟩
                · exact Or.inl (Or.inr ⟨rfl, by omega⟩)
          · right
            rw [e] at hway
            refine ⟨.inl (), ?_, Or.inl ⟨(), rfl, p, q, hp, by omega, e⟩⟩
            unfold Land_widest_L14
            show (if nI q < nI p then (ob (Land_way (nI n) ways (nI p) (nI q)) _) else _) = _
            rw [if_pos hqp, ob_eq hway, if_pos (by decide)])
        (by
          rintro s ⟨m, rfl, hm⟩
          refine ⟨.inr (nI m), ?_, Or.inr ⟨m, rfl, hm⟩⟩
          unfold Land_widest_L14
          show (if nI p < nI p then _ else _) = _
          rw [if_neg (fun h => absurd ((nI_ltN (by omega) (by omega)).mp h) (by omega))])
        0 (nI m, 0) (by omega) ⟨m, rfl, hm.mono (fun a b _ _ h => h.elim id (fun z => absurd z.2 (Nat.not_lt_zero _)))⟩
      have hpn : nI p < nI n := (nI_ltN (by omega) (by omega)).mpr hp
      rcases h4 with ⟨u, rfl, h5⟩ | ⟨m', rfl, h5⟩
      · right
        refine ⟨.inl (), ?_, Or.inl ⟨(), rfl, h5⟩⟩
        unfold Land_widest_L4
        show (if nI p < nI n then (ob (lp (Land_widest_L14 (nI p) (nI n) ways) (nI m, 0)) _) else _) = _
        rw [if_pos hpn, ob_eq h3]
        rfl
      · left
        refine ⟨(nI m', nI (p + 1)), ?_, m', rfl, h5.mono (fun a b _ _ h => ?_)⟩
        · unfold Land_widest_L4
          show (if nI p < nI n then (ob (lp (Land_widest_L14 (nI p) (nI n) ways) (nI m, 0)) _) else _) = _
          rw [if_pos hpn, ob_eq h3]
          show some (Sum.inl (nI m', nI p + nI 1)) = _
          rw [nI_ad]
        · by_cases e : a = p
          · exact Or.inr ⟨e, by omega⟩
          · exact Or.inl ⟨by omega, h.2⟩)
    (by
      rintro s ⟨m, rfl, hm⟩
      refine ⟨.inr (nI m), ?_, Or.inr ⟨m, rfl, hm⟩⟩
      unfold Land_widest_L4
      show (if nI n < nI n then _ else _) = _
      rw [if_neg (fun h => absurd ((nI_ltN (by omega) (by omega)).mp h) (by omega))])
    0 (0, 0) (by omega) ⟨0, rfl, fun a b _ _ h => by omega, Or.inl rfl, by decide⟩
  rcases h2 with ⟨u, rfl, h3⟩ | ⟨m, rfl, h3⟩
  · exact ⟨-2, (ob_eq h1).trans rfl, Or.inl ⟨rfl, h3⟩⟩
  · refine ⟨nI m, (ob_eq h1).trans rfl, Or.inr ⟨m, rfl, fun p q hp hq _ => ?_, h3.2⟩⟩
    rcases Nat.lt_trichotomy p q with h | h | h
    · rw [dI_sym hg hp hq]; exact h3.1 q p hq hp ⟨hq, h⟩
    · subst h; exact ⟨0, by omega, dI_self⟩
    · exact h3.1 p q hp hq ⟨hp, h⟩
theorem mostSteps_ok (hg : GoodG n nx) {nextTo : Nat → Int32} (hx : ∀ w, w < 12 → nextTo w = nI (nx w)) (f0 l0 : Nat → Int32) : ∃ r f' l', Mo_mostSteps nextTo (nI n) f0 l0 = some (r, f', l') ∧ Wid n nx r ∧ RW n nx f' := by
  have n12 := hg.1
  obtain ⟨f', l', e0, hw⟩ := laysSteps_ok hg hx f0 l0
  unfold Mo_mostSteps
  rw [ob_eq e0]
  obtain ⟨r, h1, h2⟩ := lp_inv (f := Mo_mostSteps_L8 (nI n) f')
    (fun p s => ∃ m, s = (nI m, nI p) ∧ WI n nx (fun a b => a < p) m) n
    (fun r => (∃ u, r = .inl u ∧ ∃ p q, p < n ∧ q < n ∧ dI n nx p q = -2) ∨ ∃ m, r = .inr (nI m) ∧ WI n nx (fun a b => a < n) m)
    (by
      rintro p s hp ⟨m, rfl, hm⟩
      obtain ⟨r, h3, h4⟩ := lp_inv (f := Mo_mostSteps_L18 (nI p) (nI n) f')
        (fun q s => ∃ m, s = (nI m, nI q) ∧ WI n nx (fun a b => a < p ∨ (a = p ∧ b < q)) m) n
        (fun r => (∃ u, r = .inl u ∧ ∃ p q, p < n ∧ q < n ∧ dI n nx p q = -2) ∨ ∃ m, r = .inr (nI m) ∧ WI n nx (fun a b => a < p ∨ (a = p ∧ b < n)) m)
        (by
          rintro q s hq ⟨m, rfl, hm⟩
          have hqp : nI q < nI n := (nI_ltN (by omega) (by omega)).mpr hq
          have hway := far_in (far := f') (show p < 12 by omega) (show q < 12 by omega)
          rw [hw p q hp hq] at hway
          rcases dI_or hg hp hq with ⟨j, hj, e⟩ | e
          · left
            rw [e] at hway
            refine ⟨(nI (max m j), nI (q + 1)), ?_, max m j, rfl, hm.add hp hq (by omega) e ?_⟩
            · unfold Mo_mostSteps_L18
              show (if nI q < nI n then (ob (Mo_far f' (nI p) (nI q)) _) else _) = _
              rw [if_pos hqp, ob_eq hway, if_neg (nI_ne_m2 (by omega)), ob_eq hway, ob_eq (Mo_max_nI (by have := hm.2.2; omega) (by omega))]
              show some (Sum.inl (nI (max m j), nI q + nI 1)) = _
              rw [nI_ad]
            · intro p' q' h
              rcases h with h | ⟨rfl, h⟩
              · exact Or.inl (Or.inl h)
              · by_cases e2 : q' = q
                · exact Or.inr ⟨rfl, e2⟩
                · exact Or.inl (Or.inr ⟨rfl, by omega⟩)
          · right
            rw [e] at hway
            refine ⟨.inl (), ?_, Or.inl ⟨(), rfl, p, q, hp, hq, e⟩⟩
            unfold Mo_mostSteps_L18
            show (if nI q < nI n then (ob (Mo_far f' (nI p) (nI q)) _) else _) = _
            rw [if_pos hqp, ob_eq hway, if_pos rfl])
        (by
          rintro s ⟨m, rfl, hm⟩
          refine ⟨.inr (nI m), ?_, Or.inr ⟨m, rfl, hm⟩⟩
          unfold Mo_mostSteps_L18
          show (if nI n < nI n then _ else _) = _
          rw [if_neg (fun h => absurd ((nI_ltN (by omega) (by omega)).mp h) (by omega))])
        0 (nI m, 0) (by omega) ⟨m, rfl, hm.mono (fun a b _ _ h => h.elim id (fun z => absurd z.2 (Nat.not_lt_zero _)))⟩
      have hpn : nI p < nI n := (nI_ltN (by omega) (by omega)).mpr hp
      rcases h4 with ⟨u, rfl, h5⟩ | ⟨m', rfl, h5⟩
      · right
        refine ⟨.inl (), ?_, Or.inl ⟨(), rfl, h5⟩⟩
        unfold Mo_mostSteps_L8
        show (if nI p < nI n then (ob (lp (Mo_mostSteps_L18 (nI p) (nI n) f') (nI m, 0)) _) else _) = _
        rw [if_pos hpn, ob_eq h3]
        rfl
      · left
        refine ⟨(nI m', nI (p + 1)), ?_, m', rfl, h5.mono (fun a b _ hb h => ?_)⟩
        · unfold Mo_mostSteps_L8
          show (if nI p < nI n then (ob (lp (Mo_mostSteps_L18 (nI p) (nI n) f') (nI m, 0)) _) else _) = _
          rw [if_pos hpn, ob_eq h3]
          show some (Sum.inl (nI m', nI p + nI 1)) = _
          rw [nI_ad]
        · by_cases e : a = p
          · exact Or.inr ⟨e, hb⟩
          · exact Or.inl (by omega))
    (by
      rintro s ⟨m, rfl, hm⟩
      refine ⟨.inr (nI m), ?_, Or.inr ⟨m, rfl, hm⟩⟩
      unfold Mo_mostSteps_L8
      show (if nI n < nI n then _ else _) = _
      rw [if_neg (fun h => absurd ((nI_ltN (by omega) (by omega)).mp h) (by omega))])
    0 (0, 0) (by omega) ⟨0, rfl, fun a b _ _ h => by omega, Or.inl rfl, by decide⟩
  rcases h2 with ⟨u, rfl, h3⟩ | ⟨m, rfl, h3⟩
  · exact ⟨-2, f', l', (ob_eq h1).trans rfl, Or.inl ⟨rfl, h3⟩, hw⟩
  · exact ⟨nI m, f', l', (ob_eq h1).trans rfl, Or.inr ⟨m, rfl, fun p q hp hq _ => h3.1 p q hp hq hp, h3.2⟩, hw⟩
end ST
/-- how many bits -/
def popc (m : Nat) : Nat := (List.range 16).foldl (fun s i => s + (m >>> i) % 2) 0
def popcUp (m : Nat) : Nat → Nat
  | 0 => 0
  | k + 1 => popcUp m k + m / 2 ^ k % 2
theorem popcUp_le (m : Nat) : ∀ k, popcUp m k ≤ k := by
  intro k
  induction k with
  | zero => exact Nat.le_refl _
  | succ k ih =>
    have : m / 2 ^ k % 2 < 2 := Nat.mod_lt _ (by decide)
    unfold popcUp; omega
theorem Mo_bits_eq {m : Nat} (hm : m < 2 ^ 31) : Mo_bits (nI m) = some (nI (popcUp m 16)) := by
  unfold Mo_bits
  have := lp_run (f := Mo_bits_L4 (nI m)) (fun k => (nI (popcUp m k), nI k)) 16 (r := nI (popcUp m 16)) (fun k hk => ?_) ?_
  · exact (ob_eq this).trans rfl
  · unfold Mo_bits_L4
    show (if nI k < nI 16 then _ else _) = _
    rw [if_pos ((nI_ltN (by omega) (by decide)).mpr hk)]
    show some (Sum.inl (nI (popcUp m k) + ((nI m >>> (nI k &&& 31)) &&& 1), nI k + nI 1)) = _
    have e : ((nI m >>> (nI k &&& 31)) &&& 1) = nI (m / 2 ^ k % 2) := by
      rw [pk_shrN hm (nI k &&& 31) k (sm32 k (by omega)), pk_andN (n := m / 2 ^ k) (Nat.lt_of_le_of_lt (Nat.div_le_self _ _) (by omega)) 1 (by decide)]
    rw [e, nI_ad, nI_ad]
    rfl
  · rfl
theorem bitCount_64 : ∀ a : Nat, a < 64 → ∀ b : Nat, b < 64 → (Integer_bitCount (nI (64 * a + b))) = some (nI (popcUp (64 * a + b) 16)) := by
  unfold Integer_bitCount
  decide +kernel
theorem bitCount_all (m : Nat) (h : m < 4096) : (Integer_bitCount (nI m)) = some (nI (popcUp m 16)) := by
  have := bitCount_64 (m / 64) (by omega) (m % 64) (by omega)
  rw [show 64 * (m / 64) + m % 64 = m by omega] at this
  exact this
theorem bits_same {m : Nat} (h : m < 4096) : Integer_bitCount (nI m) = some (nI (popcUp m 16)) ∧ Mo_bits (nI m) = some (nI (popcUp m 16)) := ⟨bitCount_all m h, Mo_bits_eq (by omega)⟩
theorem stages_ok {n : Nat} {nx : Nat → Nat} (hg : GoodG n nx) {next nextTo : Nat → Int32} (hx : ∀ w, w < 12 → nextTo w = nI (nx w)) (hx2 : ∀ w, w < 12 → next w = nI (nx w)) : ∃ r, Land_stages (nI n) next = some r ∧ Mo_stages nextTo (nI n) = some r := by
  have n12 := hg.1
  have h2n : (2 : Nat) ^ n ≤ 2 ^ 12 := Nat.pow_le_pow_right (by decide) n12
  unfold Land_stages Mo_stages
  obtain ⟨r, r', h1, h2, h3⟩ := lp_sim (f := Land_stages_L4 (nI n) next) (g := Mo_stages_L4 nextTo (nI n)) (fun k s t => s = t ∧ s.2 = nI k) n (fun r r' => r = r')
    (by
      rintro k s t hk ⟨rfl, hs⟩
      left
      obtain ⟨s1, s2⟩ := s
      have hs : s2 = nI k := hs
      subst hs
      have hb := bits_same (m := nx k) (Nat.lt_of_lt_of_le (hg.2.1 k) h2n)
      refine ⟨(s1 + nI (popcUp (nx k) 16), nI (k + 1)), _, ?_, ?_, rfl, rfl⟩
      · unfold Land_stages_L4
        show (if nI k < nI n then (gd (ix (nI k) 12) (ob (Integer_bitCount (next (nI k).toNatClampNeg)) _)) else _) = _
        rw [if_pos ((nI_ltN (by omega) (by omega)).mpr hk), gd_eq (ixN (by omega) (by decide)), nI_clamp (by omega), hx2 k (by omega), ob_eq hb.1]
        show some (Sum.inl (_, nI k + nI 1)) = _
        rw [nI_ad]
      · unfold Mo_stages_L4
        show (if nI k < nI n then (gd (ix (nI k) 12) (ob (Mo_bits (nextTo (nI k).toNatClampNeg)) _)) else _) = _
        rw [if_pos ((nI_ltN (by omega) (by omega)).mpr hk), gd_eq (ixN (by omega) (by decide)), nI_clamp (by omega), hx k (by omega), ob_eq hb.2]
        show some (Sum.inl (_, nI k + nI 1)) = _
        rw [nI_ad])
    (by
      rintro ⟨s1, s2⟩ t ⟨rfl, hs⟩
      have hs : s2 = nI n := hs
      subst hs
      have hnn : ¬ nI n < nI n := fun h => absurd ((nI_ltN (by omega) (by omega)).mp h) (by omega)
      exact ⟨s1, s1, if_neg hnn, if_neg hnn, rfl⟩)
    0 (0, 0) (0, 0) (by omega) ⟨rfl, rfl⟩
  subst h3
  exact ⟨_, (ob_eq h1).trans rfl, (ob_eq h2).trans rfl⟩
/-- jars in all -/
def sumUp (f : Nat → Nat) : Nat → Nat
  | 0 => 0
  | k + 1 => sumUp f k + f k
theorem sumUp_le {f : Nat → Nat} {b : Nat} (h : ∀ k, f k ≤ b) : ∀ k, sumUp f k ≤ k * b := by
  intro k
  induction k with
  | zero => exact Nat.zero_le _
  | succ k ih => unfold sumUp; have := h k; rw [Nat.succ_mul]; omega
theorem sumUp_zero {f : Nat → Nat} {n : Nat} (h : ∀ k, n ≤ k → f k = 0) : ∀ d, sumUp f (n + d) = sumUp f n := by
  intro d
  induction d with
  | zero => rfl
  | succ d ih => show sumUp f (n + d) + f (n + d) = _; rw [ih, h _ (by omega)]; rfl
theorem allJars_eq {jars : Nat → Int32} {f : Nat → Nat} (h : ∀ w, w < 12 → jars w = nI (f w)) : Camp_allJars jars = some (nI (sumUp f 12)) := by
  unfold Camp_allJars
  have := lp_run (f := Camp_allJars_L4 jars) (fun k => (nI (sumUp f k), nI k)) 12 (r := nI (sumUp f 12)) (fun k hk => ?_) rfl
  · exact (ob_eq this).trans rfl
  · unfold Camp_allJars_L4
    show (if nI k < nI 12 then (gd (ix (nI k) 12) (some (Sum.inl (nI (sumUp f k) + jars (nI k).toNatClampNeg, nI k + nI 1)))) else _) = _
    rw [if_pos ((nI_ltN (by omega) (by decide)).mpr hk), gd_eq (ixN hk (by decide)), nI_clamp (by omega), h k hk, nI_ad, nI_ad]
    rfl
theorem jarsOfAll_eq {n : Nat} (hn : n ≤ 12) {now : Nat → Int32} {f : Nat → Nat} (h : ∀ w, w < 12 → now w = nI (f w)) : Mo_jarsOfAll now (nI n) = some (nI (sumUp f n)) := by
  unfold Mo_jarsOfAll
  have := lp_run (f := Mo_jarsOfAll_L4 now (nI n)) (fun k => (nI (sumUp f k), nI k)) n (r := nI (sumUp f n)) (fun k hk => ?_) ?_
  · exact (ob_eq this).trans rfl
  · unfold Mo_jarsOfAll_L4
    show (if nI k < nI n then (gd (ix (nI 0 + nI k) 27) (some (Sum.inl (nI (sumUp f k) + now (nI 0 + nI k).toNatClampNeg, nI k + nI 1)))) else _) = _
    rw [if_pos ((nI_ltN (by omega) (by omega)).mpr hk), nI_ad, Nat.zero_add, gd_eq (ixN (by omega) (by decide)), nI_clamp (by omega), h k (by omega), nI_ad, nI_ad]
    rfl
  · unfold Mo_jarsOfAll_L4
    show (if nI n < nI n then _ else _) = _
    rw [if_neg (fun h => absurd ((nI_ltN (by omega) (by omega)).mp h) (by omega))]
/-- the jars as numbers -/
theorem jarsN {jars : Nat → Int32} (h : ∀ w, w < 12 → ∃ j, j ≤ 40 ∧ jars w = nI j) : ∃ f : Nat → Nat, (∀ w, w < 12 → jars w = nI (f w)) ∧ (∀ w, f w ≤ 40) ∧ ∀ w, 12 ≤ w → f w = 0 := by
  refine ⟨fun w => if w < 12 then (jars w).toNatClampNeg else 0, fun w hw => ?_, fun w => ?_, fun w hw => if_neg (by omega)⟩
  · obtain ⟨j, h1, h2⟩ := h w hw
    show jars w = nI (if w < 12 then (jars w).toNatClampNeg else 0)
    rw [if_pos hw, h2, nI_clamp (by omega)]
  · show (if w < 12 then (jars w).toNatClampNeg else 0) ≤ 40
    by_cases hw : w < 12
    · obtain ⟨j, h1, h2⟩ := h w hw
      rw [if_pos hw, h2, nI_clamp (by omega)]; exact h1
    · rw [if_neg hw]; omega
theorem allJars_ok {n : Nat} (hn : n ≤ 12) {jars space now : Nat → Int32} {throne day draw : Int32} (h : RJ jars space throne day draw now) (hb : BJ jars space throne day draw) (hz : ∀ w, w < 12 → n ≤ w → jars w = 0) :
    ∃ m, m ≤ 480 ∧ Camp_allJars jars = some (nI m) ∧ Mo_jarsOfAll now (nI n) = some (nI m) := by
  obtain ⟨f, f1, f2, f3⟩ := jarsN hb.1
  have f4 : ∀ k, n ≤ k → f k = 0 := fun k hk => by
    by_cases h12 : k < 12
    · have := hz k h12 hk
      rw [f1 k h12] at this
      exact (nI_inj (b := 0) (by have := f2 k; omega) (by decide)).mp this
    · exact f3 k (by omega)
  have e : sumUp f 12 = sumUp f n := by
    have := sumUp_zero f4 (12 - n)
    rw [show n + (12 - n) = 12 by omega] at this; exact this
  refine ⟨sumUp f 12, ?_, allJars_eq f1, ?_⟩
  · have := sumUp_le f2 12; omega
  · rw [e]; exact jarsOfAll_eq hn (fun w hw => by rw [h.1 w hw, f1 w hw])
theorem count_ok {n : Nat} {nx : Nat → Nat} (hg : GoodG n nx) {next nextTo ways : Nat → Int32} (hx : ∀ w, w < 12 → nextTo w = nI (nx w)) (hx2 : ∀ w, w < 12 → next w = nI (nx w)) (hw : RW n nx ways) {jars space now : Nat → Int32} {throne day draw : Int32} (h : RJ jars space throne day draw now) (hb : BJ jars space throne day draw) (hz : ∀ w, w < 12 → n ≤ w → jars w = 0)
    (len rules : Int32) (f0 l0 : Nat → Int32) (a1 : Int32) :
    ∃ r f' l', Dj_count len (nI n) next ways rules jars throne day draw a1 = some r ∧ Mo_count now nextTo (nI n) f0 l0 len rules a1 = some (r, f', l') := by
  have n12 := hg.1
  unfold Dj_count Mo_count
  by_cases h0 : a1 = 0
  · rw [if_pos h0, if_pos h0, gd_eq (show ix 25 27 = true from rfl)]
    exact ⟨_, _, _, rfl, by rw [← h.2.2.2.1]; rfl⟩
  rw [if_neg h0, if_neg h0]
  by_cases h1 : a1 = 1
  · rw [if_pos h1, if_pos h1]; exact ⟨_, _, _, rfl, rfl⟩
  rw [if_neg h1, if_neg h1]
  by_cases h2 : a1 = 2
  · obtain ⟨r, e1, e2⟩ := stages_ok hg hx hx2
    rw [if_pos h2, if_pos h2, ob_eq e1, ob_eq e2]; exact ⟨_, _, _, rfl, rfl⟩
  rw [if_neg h2, if_neg h2]
  by_cases h3 : a1 = 3
  · obtain ⟨m, -, e1, e2⟩ := allJars_ok n12 h hb hz
    rw [if_pos h3, if_pos h3, ob_eq e1, ob_eq e2]; exact ⟨_, _, _, rfl, rfl⟩
  rw [if_neg h3, if_neg h3]
  by_cases h4 : a1 = 4
  · rw [if_pos h4, if_pos h4, gd_eq (show ix 24 27 = true from rfl)]
    exact ⟨_, _, _, rfl, by rw [← h.2.2.1]; rfl⟩
  rw [if_neg h4, if_neg h4]
  by_cases h5 : a1 = 5
  · rw [if_pos h5, if_pos h5]; exact ⟨_, _, _, rfl, rfl⟩
  rw [if_neg h5, if_neg h5]
  by_cases h6 : a1 = 6
  · rw [if_pos h6, if_pos h6]; exact ⟨_, _, _, rfl, rfl⟩
  rw [if_neg h6, if_neg h6]
  by_cases h7 : a1 = 7
  · rw [if_pos h7, if_pos h7, gd_eq (show ix 26 27 = true from rfl)]
    exact ⟨_, _, _, rfl, by rw [← h.2.2.2.2]; rfl⟩
  rw [if_neg h7, if_neg h7]
  by_cases h8 : a1 = 8
  · obtain ⟨r, e1, w1⟩ := widest_ok hg hw
    obtain ⟨r', f', l', e2, w2, -⟩ := mostSteps_ok hg hx f0 l0
    have := Wid_same w1 w2
    subst this
    rw [if_pos h8, if_pos h8, ob_eq e1, ob_eq e2]; exact ⟨_, _, _, rfl, rfl⟩
  rw [if_neg h8, if_neg h8]
  exact ⟨_, _, _, rfl, rfl⟩
