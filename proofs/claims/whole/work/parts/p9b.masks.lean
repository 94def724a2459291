/-! FEWEST: which wells are reached, as bits -/
/-- w gets a jar some time -/
def rsS (n : Nat) (nx : Nat → Nat) (g : Nat → Nat) (w : Nat) : Prop := ∃ r, toG (mlS n nx false) (fun s => 0 < s w) r g
theorem mlI_form {n : Nat} {nx : Nat → Nat} {m : M3} : ∀ {k : Nat}, k ≤ n → m ∈ mlI n nx k → ∃ a b, m = (a, a, b) ∧ a < k ∧ b < n ∧ (nx a).testBit b = true := by
  intro k
  induction k with
  | zero => intro _ h; cases h
  | succ k ih =>
    intro hk h
    rcases List.mem_append.mp h with z | z
    · obtain ⟨a, b, h1, h2, h3⟩ := ih (by omega) z
      exact ⟨a, b, h1, by omega, h3⟩
    · obtain ⟨h1, h2, h3, h4⟩ := mlC_mem z
      obtain ⟨x, y, c⟩ := m
      have h1 : x = k := h1
      have h2 : y = k := h2
      subst h1; subst h2
      exact ⟨_, c, rfl, by omega, h3, h4⟩
theorem mlC_has {t a b c : Nat} (h : t.testBit c = true) : ∀ {k : Nat}, c < k → (a, b, c) ∈ mlC t a b k := by
  intro k
  induction k with
  | zero => intro hc; omega
  | succ k ih =>
    intro hc
    by_cases e : c = k
    · subst e
      refine List.mem_append_right _ ?_
      rw [h]; simp
    · exact List.mem_append_left _ (ih (by omega))
theorem mlI_has {n : Nat} {nx : Nat → Nat} {a b : Nat} (hb : b < n) (h : (nx a).testBit b = true) : ∀ {k : Nat}, a < k → (a, a, b) ∈ mlI n nx k := by
  intro k
  induction k with
  | zero => intro hc; omega
  | succ k ih =>
    intro hc
    by_cases e : a = k
    · subst e
      exact List.mem_append_right _ (mlC_has h hb)
    · exact List.mem_append_left _ (ih (by omega))
theorem mlS_false (n : Nat) (nx : Nat → Nat) : mlS n nx false = mlI n nx n := by
  unfold mlS
  simp
theorem rs_iff {n : Nat} {nx g : Nat → Nat} {w : Nat} : rsS n nx g w ↔ 0 < g w ∨ ∃ a b, a < n ∧ b < n ∧ (nx a).testBit b = true ∧ 2 ≤ g a ∧ rsS n nx (goS g (a, a, b)) w := by
  constructor
  · rintro ⟨r, hr⟩
    cases r with
    | zero => exact Or.inl hr
    | succ r =>
      right
      obtain ⟨j, j1, j2, j3⟩ := hr
      have hm := mvN_mem j1
      rw [mlS_false] at hm
      obtain ⟨a, b, e, a1, a2, a3⟩ := mlI_form (Nat.le_refl _) hm
      have e2 : mvN (mlS n nx false) j = (a, a, b) := by
        have := mlS_false n nx
        rw [this]; exact e
      rw [e2] at j2 j3
      exact ⟨a, b, a1, a2, a3, ok_same.mp j2, r, j3⟩
  · rintro (h | ⟨a, b, a1, a2, a3, a4, r, hr⟩)
    · exact ⟨0, h⟩
    · have hm : (a, a, b) ∈ mlS n nx false := by rw [mlS_false]; exact mlI_has a2 a3 a1
      obtain ⟨j, hj, he⟩ := List.getElem_of_mem hm
      have e2 : mvN (mlS n nx false) j = (a, a, b) := by
        unfold mvN
        rw [List.getD_eq_getElem?_getD, List.getElem?_eq_getElem hj]
        exact he
      exact ⟨r + 1, j, hj, by rw [e2]; exact ok_same.mpr a4, by rw [e2]; exact hr⟩
theorem rs_way {n : Nat} {nx g : Nat → Nat} {w : Nat} : rsS n nx g w ↔ ∃ d f s, WaS (mlS n nx false) g d f s ∧ 0 < s w := by
  constructor
  · rintro ⟨r, hr⟩
    cases r with
    | zero => exact ⟨0, 0, g, rfl, hr⟩
    | succ r =>
      obtain ⟨j, j1, j2, j3⟩ := hr
      obtain ⟨s', a, b⟩ := Wa_to (d := 1) (f := j) (s := goS g (mvN (mlS n nx false) j)) ⟨g, j, rfl, j1, j2, rfl, fun _ => rfl⟩ (by omega) j3
      exact ⟨_, _, s', a, b⟩
  · rintro ⟨d, f, s, h1, h2⟩
    cases d with
    | zero =>
      have h1 : s = g := h1
      subst h1
      exact ⟨0, h2⟩
    | succ d =>
      obtain ⟨a, b, c⟩ := Wa_head (gl := fun s => 0 < s w) (r := 0) h1 h2
      exact ⟨d + 1, f, a, b, c⟩
/-- bits of what holds -/
noncomputable def mkP (n : Nat) (P : Nat → Prop) : Nat := mk (fun w => @decide (P w) (Classical.propDecidable _)) n
theorem mkP_bit (n : Nat) (P : Nat → Prop) (i : Nat) : (mkP n P).testBit i = true ↔ i < n ∧ P i := by
  unfold mkP
  rw [mk_bit, Bool.and_eq_true, decide_eq_true_iff, @decide_eq_true_iff (P i) (Classical.propDecidable _)]
theorem mkP_lt (n : Nat) (P : Nat → Prop) : mkP n P < 2 ^ n := mk_lt _ n
theorem bits_eq {x y : Nat} (h : ∀ i, x.testBit i = true ↔ y.testBit i = true) : x = y := by
  apply Nat.eq_of_testBit_eq
  intro i
  have := h i
  cases hx : x.testBit i <;> cases hy : y.testBit i <;> simp [hx, hy] at this <;> rfl
theorem mkP_congr {n : Nat} {P Q : Nat → Prop} (h : ∀ w, w < n → (P w ↔ Q w)) : mkP n P = mkP n Q := bits_eq (fun i => by
  rw [mkP_bit, mkP_bit]
  exact ⟨fun z => ⟨z.1, (h i z.1).mp z.2⟩, fun z => ⟨z.1, (h i z.1).mpr z.2⟩⟩)
theorem mkP_or {n : Nat} (hn : n ≤ 12) {P Q : Nat → Prop} : nI (mkP n P) ||| nI (mkP n Q) = nI (mkP n (fun w => P w ∨ Q w)) := by
  have h12 : 2 ^ n ≤ 2 ^ 12 := Nat.pow_le_pow_right (by omega) hn
  have h1 := mkP_lt n P
  have h2 := mkP_lt n Q
  rw [or_nI (by omega) (by omega)]
  congr 1
  apply bits_eq
  intro i
  rw [Nat.testBit_or, Bool.or_eq_true, mkP_bit, mkP_bit, mkP_bit]
  constructor
  · rintro (z | z)
    · exact ⟨z.1, Or.inl z.2⟩
    · exact ⟨z.1, Or.inr z.2⟩
  · rintro ⟨z1, z2 | z2⟩
    · exact Or.inl ⟨z1, z2⟩
    · exact Or.inr ⟨z1, z2⟩
theorem mkP_one {n a : Nat} (ha : a < n) : 2 ^ a = mkP n (fun w => w = a) := bits_eq (fun i => by
  rw [mkP_bit, Nat.testBit_two_pow, decide_eq_true_iff]
  constructor
  · intro e; rw [← e]; exact ⟨ha, rfl⟩
  · exact fun z => z.2.symm)
theorem mkP_none (n : Nat) : mkP n (fun _ => False) = 0 := bits_eq (fun i => by
  rw [mkP_bit, Nat.zero_testBit]
  constructor
  · exact fun z => z.2.elim
  · intro z; cases z)
theorem mkP_all {n : Nat} {P : Nat → Prop} : mkP n P = 2 ^ n - 1 ↔ ∀ w, w < n → P w := by
  constructor
  · intro h w hw
    have h1 := (mkP_bit n P w).mp (by rw [h, Nat.testBit_two_pow_sub_one]; exact decide_eq_true hw)
    exact h1.2
  · intro h
    apply bits_eq
    intro i
    rw [mkP_bit, Nat.testBit_two_pow_sub_one, decide_eq_true_iff]
    exact ⟨fun z => z.1, fun z => ⟨z, h i z⟩⟩
noncomputable def mskS (n : Nat) (nx g : Nat → Nat) : Nat := mkP n (rsS n nx g)
section RFR
variable {n : Nat} {nx : Nat → Nat} {next below : Nat → Int32}
theorem rank7 {row : Nat → Int32} (hb : RBk below) (hn : n ≤ 7) {g : Nat → Nat} (hg : SG n g) (hr : rowIs n row g) : Ranks_rank below 7 row (nI n) = some (nI (rkS g n n)) :=
  rank_ok hb (by omega) hn (by omega) hr (by have := tot_n8 (by omega) hg; have := hg.2; omega)
theorem reachedFrom_ok (hG : GoodG n nx) (hx : ∀ w, w < 12 → next w = nI (nx w)) (hn : n ≤ 7) (hb : RBk below) {g : Nat → Nat} (hg : SG n g) {reached : Nat → Int32} {nr : Nat} (hnr : nr < 2 ^ 31) (hrd : ∀ h, SG n h → totS h 8 + 1 = totS g 8 → rkS h n n < nr ∧ reached (rkS h n n) = nI (mskS n nx h)) {row : Nat → Int32} (hr : rowIs n row g) :
    ∃ row', Fewest_reachedFrom below row reached nr (nI n) next (nI n) = some (nI (mskS n nx g), row') ∧ rowIs n row' g := by
  have n12 := hG.1
  have h12 : ∀ P, mkP n P < 2 ^ 31 := fun P => Nat.lt_of_lt_of_le (mkP_lt n P) (Nat.pow_le_pow_right (by omega) (by omega))
  have hg16 := hg.dig
  -- the moves from a well
  have inner : ∀ a, a < n → ∀ (P : Nat → Prop) (row : Nat → Int32), rowIs n row g → ∃ row', lp (Fewest_reachedFrom_L35 (nI n) (nI a) below reached nr (nI n) next) (nI (mkP n P), 0, row) = some (nI (mkP n (fun w => P w ∨ ∃ b, b < n ∧ (nx a).testBit b = true ∧ 2 ≤ g a ∧ rsS n nx (goS g (a, a, b)) w)), row') ∧ rowIs n row' g := by
    intro a ha P row hr
    have hga := hg16 a (by omega)
    have hixa : ix (nI a) 7 = true := ixN (by omega) (by omega)
    by_cases h2 : 2 ≤ g a
    · obtain ⟨⟨x, row'⟩, q1, q2, q3⟩ := lp_inv (f := Fewest_reachedFrom_L35 (nI n) (nI a) below reached nr (nI n) next) (fun k s => s.2.1 = nI k ∧ s.1 = nI (mkP n (fun w => P w ∨ ∃ b, b < k ∧ (nx a).testBit b = true ∧ rsS n nx (goS g (a, a, b)) w)) ∧ rowIs n s.2.2 g) n (fun r => r.1 = nI (mkP n (fun w => P w ∨ ∃ b, b < n ∧ (nx a).testBit b = true ∧ rsS n nx (goS g (a, a, b)) w)) ∧ rowIs n r.2 g)
        (by
          rintro k ⟨s1, s2, ro⟩ hk ⟨e1, e2, e3⟩
          have e1 : s2 = nI k := e1
          subst e1
          replace e3 : rowIs n ro g := e3
          replace e2 : s1 = nI (mkP n _) := e2
          left
          have hixk : ix (nI k) 7 = true := ixN (by omega) (by omega)
          have hhead : ∀ Z, (if (if (nx a).testBit k then (1 : Int32) else 0) = 0 then some (.inl (s1, nI k + 1, ro)) else ob (Ranks_rank below 7 (upd (upd ro a (ro a - 2)) k ((upd ro a (ro a - 2)) k + 1)) (nI n)) fun x7 => if x7 < Int32.ofNat nr then gd (ix x7 nr) (some (.inl (s1 ||| reached x7.toNatClampNeg, nI k + 1, upd (upd (upd (upd ro a (ro a - 2)) k ((upd ro a (ro a - 2)) k + 1)) a ((upd (upd ro a (ro a - 2)) k ((upd ro a (ro a - 2)) k + 1)) a + 2)) k ((upd (upd (upd ro a (ro a - 2)) k ((upd ro a (ro a - 2)) k + 1)) a ((upd (upd ro a (ro a - 2)) k ((upd ro a (ro a - 2)) k + 1)) a + 2)) k - 1)))) else some (.inl (s1 ||| 0, nI k + 1, upd (upd (upd (upd ro a (ro a - 2)) k ((upd ro a (ro a - 2)) k + 1)) a ((upd (upd ro a (ro a - 2)) k ((upd ro a (ro a - 2)) k + 1)) a + 2)) k ((upd (upd (upd ro a (ro a - 2)) k ((upd ro a (ro a - 2)) k + 1)) a ((upd (upd ro a (ro a - 2)) k ((upd ro a (ro a - 2)) k + 1)) a + 2)) k - 1)))) = Z → Fewest_reachedFrom_L35 (nI n) (nI a) below reached nr (nI n) next (s1, nI k, ro) = Z := fun Z hZ => by
            rw [← hZ]
            unfold Fewest_reachedFrom_L35 Fewest_reachedFrom_L35_J121 Fewest_reachedFrom_L35_J145
            dsimp only
            rw [gd_eq hixa, nI_clamp (show a < 2 ^ 31 by omega), if_neg (show ¬ ro a < 2 by rw [e3 a ha]; exact fun z => by have := (nI_ltN (b := 2) (by omega) (by omega)).mp z; omega), if_pos ((nI_ltN (by omega) (by omega)).mpr hk), ob_eq (areNext_in hG hx ha hk), nI_clamp (show k < 2 ^ 31 by omega)]
            simp only [gd_eq hixa, gd_eq hixk]
          cases ht : (nx a).testBit k with
          | false =>
            refine ⟨(s1, nI k + 1, ro), hhead _ (by rw [ht]; exact if_pos rfl), nI_ad k 1, ?_, e3⟩
            show s1 = _
            rw [e2]
            congr 1
            refine mkP_congr (fun w _ => ?_)
            constructor
            · rintro (z | ⟨b, b1, b2, b3⟩)
              · exact Or.inl z
              · exact Or.inr ⟨b, by omega, b2, b3⟩
            · rintro (z | ⟨b, b1, b2, b3⟩)
              · exact Or.inl z
              · refine Or.inr ⟨b, ?_, b2, b3⟩
                by_cases y : b = k
                · subst y; rw [ht] at b2; cases b2
                · omega
          | true =>
            have hne : ¬ k = a := fun e => by rw [e, hG.2.2.2.2] at ht; cases ht
            have hro : rowIs n (upd (upd ro a (ro a - 2)) k ((upd ro a (ro a - 2)) k + 1)) (goS g (a, a, k)) := fun w hw => by
              rw [go_mv]
              unfold mvS
              by_cases y : w = k
              · subst y
                rw [upd_at, atS_at, upd_ne hne, atS_ne hne, e3 w hw]
                exact nI_ad _ 1
              · rw [upd_ne y, atS_ne y]
                by_cases y2 : w = a
                · subst y2
                  rw [upd_at, atS_at, e3 w hw]
                  exact nI_subN (b := 2) h2
                · rw [upd_ne y2, atS_ne y2, e3 w hw]
            have hSG : SG n (goS g (a, a, k)) := go_SG (by omega) hg ⟨ha, ha, hk⟩ (ok_same.mpr h2)
            have htot := go_tot (show n ≤ 8 by omega) (g := g) (m := (a, a, k)) ⟨ha, ha, hk⟩ (ok_same.mpr h2)
            obtain ⟨hlt, hval⟩ := hrd _ hSG htot
            refine ⟨_, hhead _ (by
              rw [ht, if_neg (show ¬ (if true = true then (1 : Int32) else 0) = 0 by decide), ob_eq (rank7 hb hn hSG hro), if_pos (show nI (rkS (goS g (a, a, k)) n n) < Int32.ofNat nr from (nI_ltN (by omega) hnr).mpr hlt), gd_eq (ixN hlt hnr), nI_clamp (show rkS (goS g (a, a, k)) n n < 2 ^ 31 by omega), hval]), nI_ad k 1, ?_, fun w hw => ?_⟩
            · show s1 ||| nI (mskS n nx (goS g (a, a, k))) = _
              rw [e2]
              unfold mskS
              rw [mkP_or n12]
              congr 1
              refine mkP_congr (fun w _ => ?_)
              constructor
              · rintro ((z | ⟨b, b1, b2, b3⟩) | z)
                · exact Or.inl z
                · exact Or.inr ⟨b, by omega, b2, b3⟩
                · exact Or.inr ⟨k, by omega, ht, z⟩
              · rintro (z | ⟨b, b1, b2, b3⟩)
                · exact Or.inl (Or.inl z)
                · by_cases y : b = k
                  · subst y; exact Or.inr b3
                  · exact Or.inl (Or.inr ⟨b, by omega, b2, b3⟩)
            · show upd (upd _ a _) k _ w = _
              by_cases y : w = k
              · subst y
                rw [upd_at, upd_ne hne, upd_at, upd_ne hne, e3 w hw, show nI (g w) + 1 = nI (g w + 1) from nI_ad _ 1]
                exact nI_subN (b := 1) (by omega)
              · rw [upd_ne y]
                by_cases y2 : w = a
                · subst y2
                  rw [upd_at, upd_ne y, upd_at, e3 w hw, show nI (g w) - 2 = nI (g w - 2) from nI_subN (b := 2) h2, show (2 : Int32) = nI 2 from rfl, nI_ad]
                  congr 1
                  omega
                · rw [upd_ne y2, upd_ne y, upd_ne y2, e3 w hw])
        (by
          rintro ⟨s1, s2, ro⟩ ⟨e1, e2, e3⟩
          have e1 : s2 = nI n := e1
          subst e1
          replace e3 : rowIs n ro g := e3
          replace e2 : s1 = nI (mkP n _) := e2
          refine ⟨(s1, ro), ?_, e2, e3⟩
          unfold Fewest_reachedFrom_L35
          dsimp only
          rw [gd_eq hixa, nI_clamp (show a < 2 ^ 31 by omega), if_neg (show ¬ ro a < 2 by rw [e3 a ha]; exact fun z => by have := (nI_ltN (b := 2) (by omega) (by omega)).mp z; omega), if_neg (fun z => by have := (nI_ltN (by omega) (by omega)).mp z; omega)])
        0 (nI (mkP n P), 0, row) (Nat.zero_le _) ⟨rfl, by
          show nI (mkP n P) = _
          congr 1
          refine mkP_congr (fun w _ => ?_)
          constructor
          · exact Or.inl
          · rintro (z | ⟨b, b1, -⟩)
            · exact z
            · omega, hr⟩
      have q2 : x = nI (mkP n (fun w => P w ∨ ∃ b, b < n ∧ (nx a).testBit b = true ∧ rsS n nx (goS g (a, a, b)) w)) := q2
      refine ⟨row', ?_, q3⟩
      rw [q1, q2]
      congr 4
      funext w
      apply propext
      constructor
      · rintro (z | ⟨b, b1, b2, b3⟩)
        · exact Or.inl z
        · exact Or.inr ⟨b, b1, b2, h2, b3⟩
      · rintro (z | ⟨b, b1, b2, -, b3⟩)
        · exact Or.inl z
        · exact Or.inr ⟨b, b1, b2, b3⟩
    · refine ⟨row, ?_, hr⟩
      refine (lp_inr (r := (nI (mkP n P), row)) ?_).trans ?_
      · unfold Fewest_reachedFrom_L35
        dsimp only
        rw [gd_eq hixa, nI_clamp (show a < 2 ^ 31 by omega), if_pos (show row a < 2 by rw [hr a ha]; exact (nI_ltN (b := 2) (by omega) (by omega)).mpr (by omega))]
      · congr 4
        funext w
        apply propext
        constructor
        · exact Or.inl
        · rintro (z | ⟨b, -, -, b3, -⟩)
          · exact z
          · exact absurd b3 h2
  obtain ⟨⟨x, row'⟩, q1, q2, q3⟩ := lp_inv (f := Fewest_reachedFrom_L5 (nI n) below reached nr (nI n) next) (fun k s => s.2.1 = nI k ∧ s.1 = nI (mkP n (fun w => (w < k ∧ 0 < g w) ∨ ∃ a b, a < k ∧ b < n ∧ (nx a).testBit b = true ∧ 2 ≤ g a ∧ rsS n nx (goS g (a, a, b)) w)) ∧ rowIs n s.2.2 g) n (fun r => r.1 = nI (mskS n nx g) ∧ rowIs n r.2 g)
    (by
      rintro k ⟨s1, s2, ro⟩ hk ⟨e1, e2, e3⟩
      have e1 : s2 = nI k := e1
      subst e1
      replace e3 : rowIs n ro g := e3
      replace e2 : s1 = nI (mkP n _) := e2
      left
      have hgk := hg16 k (by omega)
      have hixk : ix (nI k) 7 = true := ixN (by omega) (by omega)
      have hX : ∃ Q : Nat → Prop, (∀ w, w < n → (Q w ↔ ((w < k ∧ 0 < g w) ∨ ∃ a b, a < k ∧ b < n ∧ (nx a).testBit b = true ∧ 2 ≤ g a ∧ rsS n nx (goS g (a, a, b)) w) ∨ (w = k ∧ 0 < g k))) ∧ Fewest_reachedFrom_L5 (nI n) below reached nr (nI n) next (s1, nI k, ro) = ob (lp (Fewest_reachedFrom_L35 (nI n) (nI k) below reached nr (nI n) next) (nI (mkP n Q), 0, ro)) fun x1 => some (.inl (x1.1, nI k + 1, x1.2)) := by
        unfold Fewest_reachedFrom_L5 Fewest_reachedFrom_L5_J30 Fewest_reachedFrom_L5_J151
        dsimp only
        rw [if_pos ((nI_ltN (by omega) (by omega)).mpr hk), gd_eq hixk, nI_clamp (show k < 2 ^ 31 by omega)]
        by_cases z : 0 < g k
        · refine ⟨fun w => ((w < k ∧ 0 < g w) ∨ ∃ a b, a < k ∧ b < n ∧ (nx a).testBit b = true ∧ 2 ≤ g a ∧ rsS n nx (goS g (a, a, b)) w) ∨ w = k, fun w hw => ?_, ?_⟩
          rotate_left
          · rw [if_neg (show ¬ ro k ≤ 0 by rw [e3 k hk]; exact fun y => by have := (nI_leN (b := 0) (by omega) (by omega)).mp y; omega), shl_nI (by omega), mkP_one hk, e2, mkP_or n12]
          · constructor
            · rintro (y | y)
              · exact Or.inl y
              · exact Or.inr ⟨y, z⟩
            · rintro (y | y)
              · exact Or.inl y
              · exact Or.inr y.1
        · refine ⟨fun w => ((w < k ∧ 0 < g w) ∨ ∃ a b, a < k ∧ b < n ∧ (nx a).testBit b = true ∧ 2 ≤ g a ∧ rsS n nx (goS g (a, a, b)) w) ∨ False, fun w hw => ?_, ?_⟩
          rotate_left
          · rw [if_pos (show ro k ≤ 0 by rw [e3 k hk]; exact (nI_leN (b := 0) (by omega) (by omega)).mpr (by omega)), show (0 : Int32) = nI (mkP n (fun _ => False)) by rw [mkP_none]; rfl, e2, mkP_or n12, mkP_none]
          · constructor
            · rintro (y | y)
              · exact Or.inl y
              · exact y.elim
            · rintro (y | y)
              · exact Or.inl y
              · exact absurd y.2 z
      obtain ⟨Q, Q1, Q2⟩ := hX
      obtain ⟨ro', f1, f2⟩ := inner k hk Q ro e3
      refine ⟨_, Q2.trans (ob_eq f1), nI_ad k 1, ?_, f2⟩
      show nI (mkP n _) = _
      congr 1
      refine mkP_congr (fun w hw => ?_)
      rw [Q1 w hw]
      constructor
      · rintro (((⟨y1, y2⟩ | ⟨a, b, y1, y2⟩) | ⟨y1, y2⟩) | ⟨b, y2⟩)
        · exact Or.inl ⟨by omega, y2⟩
        · exact Or.inr ⟨a, b, by omega, y2⟩
        · rw [y1]; exact Or.inl ⟨by omega, y2⟩
        · exact Or.inr ⟨k, b, by omega, y2⟩
      · rintro (⟨y1, y2⟩ | ⟨a, b, y1, y2⟩)
        · by_cases e : w = k
          · subst e; exact Or.inl (Or.inr ⟨rfl, y2⟩)
          · exact Or.inl (Or.inl (Or.inl ⟨by omega, y2⟩))
        · by_cases e : a = k
          · subst e; exact Or.inr ⟨b, y2⟩
          · exact Or.inl (Or.inl (Or.inr ⟨a, b, by omega, y2⟩)))
    (by
      rintro ⟨s1, s2, ro⟩ ⟨e1, e2, e3⟩
      have e1 : s2 = nI n := e1
      subst e1
      refine ⟨(s1, ro), ?_, ?_, e3⟩
      · unfold Fewest_reachedFrom_L5
        exact if_neg (fun z => by have := (nI_ltN (by omega) (by omega)).mp z; omega)
      · refine Eq.trans e2 ?_
        unfold mskS
        congr 1
        refine mkP_congr (fun w hw => ?_)
        rw [rs_iff]
        constructor
        · rintro (⟨-, y⟩ | y)
          · exact Or.inl y
          · exact Or.inr y
        · rintro (y | y)
          · exact Or.inl ⟨hw, y⟩
          · exact Or.inr y)
    0 (0, 0, row) (Nat.zero_le _) ⟨rfl, by
      show (0 : Int32) = nI _
      rw [mkP_congr (Q := fun _ => False) (fun w _ => ⟨fun z => by
        rcases z with ⟨z, -⟩ | ⟨a, b, z, -⟩
        · omega
        · omega, False.elim⟩), mkP_none]
      rfl, hr⟩
  have q2 : x = nI (mskS n nx g) := q2
  exact ⟨row', by rw [← q2]; exact ob_eq q1, q3⟩
end RFR
