/-! ALL MOVES FROM A LAYING: the reference's loops follow the list -/
abbrev T6 := (Nat → Int32) × (Nat → Int32) × (Nat → Int32) × (Nat → Int32) × (Nat → Int32) × Int32
def codeM (m : M3) : Nat := 256 * m.1 + 16 * m.2.1 + m.2.2
section MON
variable {n : Nat} {nx : Nat → Nat} {nextTo : Nat → Int32} {ml : List M3} {g : Nat → Nat} {P : List M3 → T6 → Prop} {v1 v2 : Int32}
theorem skipAll (hskip : ∀ pre m σ, P pre σ → pre ++ [m] <+: ml → ¬ okS g m → P (pre ++ [m]) σ) {σ : T6} : ∀ (l pre : List M3), P pre σ → pre ++ l <+: ml → (∀ m ∈ l, ¬ okS g m) → P (pre ++ l) σ := by
  intro l
  induction l with
  | nil => intro pre h _ _; rw [List.append_nil]; exact h
  | cons m l ih =>
    intro pre h hp hn
    have e : pre ++ m :: l = (pre ++ [m]) ++ l := by simp
    rw [e] at hp ⊢
    exact ih (pre ++ [m]) (hskip pre m σ h (preB hp) (hn m (by simp))) hp (fun m' hm' => hn m' (by simp [hm']))
theorem mOn_inner1 (hG : GoodG n nx) (hn : n ≤ 8) (hx : ∀ w, w < 12 → nextTo w = nI (nx w)) (hg : SG n g)
    (hstep : ∀ pre m σ, P pre σ → pre ++ [m] <+: ml → legS n nx m → okS g m → ∃ σ', Mo_reaches σ.1 σ.2.1 σ.2.2.1 σ.2.2.2.1 σ.2.2.2.2.1 σ.2.2.2.2.2 v1 (cdS (goS g m)) (nI (codeM m)) = some σ' ∧ P (pre ++ [m]) σ')
    (hskip : ∀ pre m σ, P pre σ → pre ++ [m] <+: ml → ¬ okS g m → P (pre ++ [m]) σ)
    {a : Nat} (ha : a < n) {pre : List M3} {σ : T6} (h : P pre σ) (hp : pre ++ mlC (nx a) a a n <+: ml) :
    ∃ σ', lp (Mo_movesOn_L22 v1 v2 (cdS g) (nI a) nextTo (nI n)) (0, σ) = some σ' ∧ P (pre ++ mlC (nx a) a a n) σ' := by
  have hga := hg.dig a (by omega)
  by_cases h2 : 2 ≤ g a
  · refine lp_inv (f := Mo_movesOn_L22 v1 v2 (cdS g) (nI a) nextTo (nI n)) (fun k s => s.1 = nI k ∧ P (pre ++ mlC (nx a) a a k) s.2) n (fun r => P (pre ++ mlC (nx a) a a n) r) ?_ ?_ 0 (0, σ) (Nat.zero_le _) ⟨rfl, by show P (pre ++ []) σ; rw [List.append_nil]; exact h⟩
    · rintro k ⟨s1, τ⟩ hk ⟨e1, e2⟩
      have e1 : s1 = nI k := e1
      subst e1
      left
      have hb : nx a < 2 ^ 31 := Nat.lt_of_lt_of_le (hG.2.1 a) (Nat.pow_le_pow_right (by omega) (by omega))
      have hpk : pre ++ mlC (nx a) a a (k + 1) <+: ml := (preA (mlC_pre (by omega))).trans hp
      have hst : Mo_movesOn_L22 v1 v2 (cdS g) (nI a) nextTo (nI n) (nI k, τ) = if (if (nx a).testBit k then (1 : Int32) else 0) = 0 then some (Sum.inl (nI k + 1, τ)) else ob (Mo_reaches τ.1 τ.2.1 τ.2.2.1 τ.2.2.2.1 τ.2.2.2.2.1 τ.2.2.2.2.2 v1 (cdS g - 2 * nI (16 ^ a) + nI (16 ^ k)) (272 * nI a + nI k)) fun x6 => some (Sum.inl (nI k + 1, x6)) := by
        unfold Mo_movesOn_L22
        show (if nI k < nI n then _ else _) = _
        rw [if_pos ((nI_ltN (by omega) (by omega)).mpr hk), ob_eq (jarsIn_ok hg (show a < 8 by omega)), if_neg (fun z => by have := (nI_leN (b := 1) (by omega) (by omega)).mp z; omega), gd_eq (ixN (by omega) (by omega)), nI_clamp (by omega), hx a (by omega), ob_eq (Mo_has_eq hb (by omega)), ob_eq (one_ok a (by omega)), ob_eq (one_ok k (by omega))]
        rfl
      rw [hst]
      cases ht : (nx a).testBit k with
      | false =>
        refine ⟨(nI k + 1, τ), if_pos rfl, nI_ad k 1, ?_⟩
        show P (pre ++ (mlC (nx a) a a k ++ if (nx a).testBit k then _ else _)) τ
        rw [ht]
        simpa using e2
      | true =>
        rw [if_neg (show ¬ (if true = true then (1 : Int32) else 0) = 0 by decide)]
        have em : mlC (nx a) a a (k + 1) = mlC (nx a) a a k ++ [(a, a, k)] := by
          show mlC (nx a) a a k ++ (if (nx a).testBit k then _ else _) = _
          rw [ht]; rfl
        rw [em, ← List.append_assoc] at hpk
        obtain ⟨σ', q1, q2⟩ := hstep _ _ _ e2 hpk ⟨⟨ha, ha, hk⟩, ht, ht⟩ (ok_same.mpr h2)
        have ec : (272 : Int32) * nI a + nI k = nI (codeM (a, a, k)) := by
          rw [show (272 : Int32) = nI 272 from rfl, nI_mulN, nI_ad]
          congr 1
          unfold codeM
          show _ = 256 * a + 16 * a + k
          omega
        rw [mv_cd (by omega) (by omega) h2, ← go_mv, ec, ob_eq q1]
        refine ⟨(nI k + 1, σ'), rfl, nI_ad k 1, ?_⟩
        rw [em, ← List.append_assoc]
        exact q2
    · rintro ⟨s1, τ⟩ ⟨e1, e2⟩
      have e1 : s1 = nI n := e1
      subst e1
      refine ⟨τ, ?_, e2⟩
      unfold Mo_movesOn_L22
      exact if_neg (fun z => by have := (nI_ltN (by omega) (by omega)).mp z; omega)
  · refine ⟨σ, lp_inr ?_, skipAll hskip _ _ h hp (fun m hm => ?_)⟩
    · unfold Mo_movesOn_L22
      show (if (0 : Int32) < nI n then _ else _) = _
      rw [if_pos (show (0 : Int32) < nI n from (nI_ltN (a := 0) (b := n) (by omega) (by omega)).mpr (by omega)), ob_eq (jarsIn_ok hg (show a < 8 by omega)), if_pos (show nI (g a) ≤ 1 from (nI_leN (a := g a) (b := 1) (by omega) (by omega)).mpr (by omega))]
    · obtain ⟨h3, h4, -, -⟩ := mlC_mem hm
      obtain ⟨x, y, z⟩ := m
      have h3 : x = a := h3
      have h4 : y = a := h4
      subst h3; subst h4
      exact fun z => h2 (ok_same.mp z)
theorem mOn_one (hG : GoodG n nx) (hn : n ≤ 8) (hx : ∀ w, w < 12 → nextTo w = nI (nx w)) (hg : SG n g)
    (hstep : ∀ pre m σ, P pre σ → pre ++ [m] <+: ml → legS n nx m → okS g m → ∃ σ', Mo_reaches σ.1 σ.2.1 σ.2.2.1 σ.2.2.2.1 σ.2.2.2.2.1 σ.2.2.2.2.2 v1 (cdS (goS g m)) (nI (codeM m)) = some σ' ∧ P (pre ++ [m]) σ')
    (hskip : ∀ pre m σ, P pre σ → pre ++ [m] <+: ml → ¬ okS g m → P (pre ++ [m]) σ)
    {σ : T6} (h : P [] σ) (hp : mlI n nx n <+: ml) :
    ∃ σ', lp (Mo_movesOn_L10 v1 v2 (cdS g) nextTo (nI n)) (0, σ) = some σ' ∧ P (mlI n nx n) σ' := by
  refine lp_inv (f := Mo_movesOn_L10 v1 v2 (cdS g) nextTo (nI n)) (fun k s => s.1 = nI k ∧ P (mlI n nx k) s.2) n (fun r => P (mlI n nx n) r) ?_ ?_ 0 (0, σ) (Nat.zero_le _) ⟨rfl, h⟩
  · rintro k ⟨s1, τ⟩ hk ⟨e1, e2⟩
    have e1 : s1 = nI k := e1
    subst e1
    left
    obtain ⟨σ', q1, q2⟩ := mOn_inner1 (v2 := v2) hG hn hx hg hstep hskip hk e2 ((mlI_pre (c := k + 1) (by omega)).trans hp)
    refine ⟨(nI k + 1, σ'), ?_, nI_ad k 1, q2⟩
    unfold Mo_movesOn_L10
    show (if nI k < nI n then ob (lp (Mo_movesOn_L22 v1 v2 (cdS g) (nI k) nextTo (nI n)) (0, τ)) _ else _) = _
    rw [if_pos ((nI_ltN (by omega) (by omega)).mpr hk), ob_eq q1]
    rfl
  · rintro ⟨s1, τ⟩ ⟨e1, e2⟩
    have e1 : s1 = nI n := e1
    subst e1
    refine ⟨τ, ?_, e2⟩
    unfold Mo_movesOn_L10
    exact if_neg (fun z => by have := (nI_ltN (by omega) (by omega)).mp z; omega)
theorem mOn_inner2 (hG : GoodG n nx) (hn : n ≤ 8) (hx : ∀ w, w < 12 → nextTo w = nI (nx w)) (hg : SG n g)
    (hstep : ∀ pre m σ, P pre σ → pre ++ [m] <+: ml → legS n nx m → okS g m → ∃ σ', Mo_reaches σ.1 σ.2.1 σ.2.2.1 σ.2.2.2.1 σ.2.2.2.2.1 σ.2.2.2.2.2 v1 (cdS (goS g m)) (nI (codeM m)) = some σ' ∧ P (pre ++ [m]) σ')
    (hskip : ∀ pre m σ, P pre σ → pre ++ [m] <+: ml → ¬ okS g m → P (pre ++ [m]) σ)
    {a b : Nat} (ha : a < b) (hb : b < n) (h1 : 0 < g a) {pre : List M3} {σ : T6} (h : P pre σ) (hp : pre ++ mlC (nx a &&& nx b) a b n <+: ml) :
    ∃ σ', lp (Mo_movesOn_L140 v1 v2 (cdS g) (nI a) (nI b) nextTo (nI n)) (0, σ) = some σ' ∧ P (pre ++ mlC (nx a &&& nx b) a b n) σ' := by
  have hgb := hg.dig b (by omega)
  by_cases h2 : 0 < g b
  · refine lp_inv (f := Mo_movesOn_L140 v1 v2 (cdS g) (nI a) (nI b) nextTo (nI n)) (fun k s => s.1 = nI k ∧ P (pre ++ mlC (nx a &&& nx b) a b k) s.2) n (fun r => P (pre ++ mlC (nx a &&& nx b) a b n) r) ?_ ?_ 0 (0, σ) (Nat.zero_le _) ⟨rfl, by show P (pre ++ []) σ; rw [List.append_nil]; exact h⟩
    · rintro k ⟨s1, τ⟩ hk ⟨e1, e2⟩
      have e1 : s1 = nI k := e1
      subst e1
      left
      have hb1 : nx a < 2 ^ 31 := Nat.lt_of_lt_of_le (hG.2.1 a) (Nat.pow_le_pow_right (by omega) (by omega))
      have hb2 : nx b < 2 ^ 31 := Nat.lt_of_lt_of_le (hG.2.1 b) (Nat.pow_le_pow_right (by omega) (by omega))
      have hb3 : nx a &&& nx b < 2 ^ 31 := Nat.lt_of_le_of_lt Nat.and_le_left hb1
      have hpk : pre ++ mlC (nx a &&& nx b) a b (k + 1) <+: ml := (preA (mlC_pre (by omega))).trans hp
      have hst : Mo_movesOn_L140 v1 v2 (cdS g) (nI a) (nI b) nextTo (nI n) (nI k, τ) = if (if (nx a &&& nx b).testBit k then (1 : Int32) else 0) = 0 then some (Sum.inl (nI k + 1, τ)) else ob (Mo_reaches τ.1 τ.2.1 τ.2.2.1 τ.2.2.2.1 τ.2.2.2.2.1 τ.2.2.2.2.2 v1 (cdS g - nI (16 ^ a) - nI (16 ^ b) + nI (16 ^ k)) (256 * nI a + 16 * nI b + nI k)) fun x6 => some (Sum.inl (nI k + 1, x6)) := by
        unfold Mo_movesOn_L140
        show (if nI k < nI n then _ else _) = _
        rw [if_pos ((nI_ltN (by omega) (by omega)).mpr hk), ob_eq (jarsIn_ok hg (show b < 8 by omega)), if_neg (fun z => by have := (nI_leN (b := 0) (by omega) (by omega)).mp z; omega), gd_eq (ixN (by omega) (by omega)), gd_eq (ixN (by omega) (by omega)), nI_clamp (by omega), nI_clamp (by omega), hx a (by omega), hx b (by omega), and_nI (by omega) (by omega), ob_eq (Mo_has_eq hb3 (by omega)), ob_eq (one_ok a (by omega)), ob_eq (one_ok b (by omega)), ob_eq (one_ok k (by omega))]
        rfl
      rw [hst]
      cases ht : (nx a &&& nx b).testBit k with
      | false =>
        refine ⟨(nI k + 1, τ), if_pos rfl, nI_ad k 1, ?_⟩
        show P (pre ++ (mlC (nx a &&& nx b) a b k ++ if (nx a &&& nx b).testBit k then _ else _)) τ
        rw [ht]
        simpa using e2
      | true =>
        rw [if_neg (show ¬ (if true = true then (1 : Int32) else 0) = 0 by decide)]
        have em : mlC (nx a &&& nx b) a b (k + 1) = mlC (nx a &&& nx b) a b k ++ [(a, b, k)] := by
          show mlC (nx a &&& nx b) a b k ++ (if (nx a &&& nx b).testBit k then _ else _) = _
          rw [ht]; rfl
        rw [em, ← List.append_assoc] at hpk
        have ht2 := ht
        rw [Nat.testBit_and, Bool.and_eq_true] at ht2
        have hok : okS g (a, b, k) := (ok_two (by omega)).mpr ⟨h1, h2⟩
        obtain ⟨σ', q1, q2⟩ := hstep _ _ _ e2 hpk ⟨⟨show a < n by omega, hb, hk⟩, ht2.1, ht2.2⟩ hok
        have ec : (256 : Int32) * nI a + 16 * nI b + nI k = nI (codeM (a, b, k)) := by
          rw [show (256 : Int32) = nI 256 from rfl, show (16 : Int32) = nI 16 from rfl, nI_mulN, nI_mulN, nI_ad, nI_ad]
          rfl
        have ed : cdS g - nI (16 ^ a) - nI (16 ^ b) + nI (16 ^ k) = cdS (goS g (a, b, k)) := go_cd hn (m := (a, b, k)) ⟨show a < n by omega, hb, hk⟩ hok
        rw [ed, ec, ob_eq q1]
        refine ⟨(nI k + 1, σ'), rfl, nI_ad k 1, ?_⟩
        rw [em, ← List.append_assoc]
        exact q2
    · rintro ⟨s1, τ⟩ ⟨e1, e2⟩
      have e1 : s1 = nI n := e1
      subst e1
      refine ⟨τ, ?_, e2⟩
      unfold Mo_movesOn_L140
      exact if_neg (fun z => by have := (nI_ltN (by omega) (by omega)).mp z; omega)
  · refine ⟨σ, lp_inr ?_, skipAll hskip _ _ h hp (fun m hm => ?_)⟩
    · unfold Mo_movesOn_L140
      show (if (0 : Int32) < nI n then _ else _) = _
      rw [if_pos (show (0 : Int32) < nI n from (nI_ltN (a := 0) (b := n) (by omega) (by omega)).mpr (by omega)), ob_eq (jarsIn_ok hg (show b < 8 by omega)), if_pos (show nI (g b) ≤ 0 from (nI_leN (a := g b) (b := 0) (by omega) (by omega)).mpr (by omega))]
    · obtain ⟨h3, h4, -, -⟩ := mlC_mem hm
      obtain ⟨x, y, z⟩ := m
      have h3 : x = a := h3
      have h4 : y = b := h4
      subst h3; subst h4
      exact fun z => h2 ((ok_two (by omega)).mp z).2
theorem mOn_mid (hG : GoodG n nx) (hn : n ≤ 8) (hx : ∀ w, w < 12 → nextTo w = nI (nx w)) (hg : SG n g)
    (hstep : ∀ pre m σ, P pre σ → pre ++ [m] <+: ml → legS n nx m → okS g m → ∃ σ', Mo_reaches σ.1 σ.2.1 σ.2.2.1 σ.2.2.2.1 σ.2.2.2.2.1 σ.2.2.2.2.2 v1 (cdS (goS g m)) (nI (codeM m)) = some σ' ∧ P (pre ++ [m]) σ')
    (hskip : ∀ pre m σ, P pre σ → pre ++ [m] <+: ml → ¬ okS g m → P (pre ++ [m]) σ)
    {a : Nat} (ha : a < n) {pre : List M3} {σ : T6} (h : P pre σ) (hp : pre ++ mlB n nx a (n - (a + 1)) <+: ml) :
    ∃ σ', lp (Mo_movesOn_L119 v1 v2 (cdS g) (nI a) nextTo (nI n)) (nI (a + 1), σ) = some σ' ∧ P (pre ++ mlB n nx a (n - (a + 1))) σ' := by
  have hga := hg.dig a (by omega)
  by_cases h1 : 0 < g a
  · refine lp_inv (f := Mo_movesOn_L119 v1 v2 (cdS g) (nI a) nextTo (nI n)) (fun k s => s.1 = nI (a + 1 + k) ∧ P (pre ++ mlB n nx a k) s.2) (n - (a + 1)) (fun r => P (pre ++ mlB n nx a (n - (a + 1))) r) ?_ ?_ 0 (nI (a + 1), σ) (Nat.zero_le _) ⟨rfl, by show P (pre ++ []) σ; rw [List.append_nil]; exact h⟩
    · rintro k ⟨s1, τ⟩ hk ⟨e1, e2⟩
      have e1 : s1 = nI (a + 1 + k) := e1
      subst e1
      left
      have hp2 : (pre ++ mlB n nx a k) ++ mlC (nx a &&& nx (a + 1 + k)) a (a + 1 + k) n <+: ml := by
        rw [List.append_assoc]
        exact (preA (mlB_pre (c := k + 1) (by omega))).trans hp
      obtain ⟨σ', q1, q2⟩ := mOn_inner2 (v2 := v2) hG hn hx hg hstep hskip (a := a) (b := a + 1 + k) (by omega) (by omega) h1 e2 hp2
      refine ⟨(nI (a + 1 + k) + 1, σ'), ?_, nI_ad (a + 1 + k) 1, ?_⟩
      · unfold Mo_movesOn_L119
        show (if nI (a + 1 + k) < nI n then ob (Mo_jarsIn (cdS g) (nI a)) _ else _) = _
        rw [if_pos ((nI_ltN (by omega) (by omega)).mpr (by omega)), ob_eq (jarsIn_ok hg (show a < 8 by omega)), if_neg (fun z => by have := (nI_leN (b := 0) (by omega) (by omega)).mp z; omega)]
        show ob (lp (Mo_movesOn_L140 v1 v2 (cdS g) (nI a) (nI (a + 1 + k)) nextTo (nI n)) (0, τ)) _ = _
        rw [ob_eq q1]
        rfl
      · rw [List.append_assoc] at q2
        exact q2
    · rintro ⟨s1, τ⟩ ⟨e1, e2⟩
      have e1 : s1 = nI (a + 1 + (n - (a + 1))) := e1
      subst e1
      refine ⟨τ, ?_, e2⟩
      unfold Mo_movesOn_L119
      exact if_neg (fun z => by have := (nI_ltN (by omega) (by omega)).mp z; omega)
  · refine ⟨σ, lp_inr ?_, skipAll hskip _ _ h hp (fun m hm => ?_)⟩
    · unfold Mo_movesOn_L119
      show (if nI (a + 1) < nI n then ob (Mo_jarsIn (cdS g) (nI a)) _ else _) = _
      by_cases e : a + 1 < n
      · rw [if_pos ((nI_ltN (by omega) (by omega)).mpr e), ob_eq (jarsIn_ok hg (show a < 8 by omega)), if_pos (show nI (g a) ≤ 0 from (nI_leN (a := g a) (b := 0) (by omega) (by omega)).mpr (by omega))]
      · rw [if_neg (fun z => e ((nI_ltN (by omega) (by omega)).mp z))]
    · have : ∀ k, m ∈ mlB n nx a k → m.1 = a := by
        intro k
        induction k with
        | zero => intro z; cases z
        | succ k ih =>
          intro z
          rcases List.mem_append.mp z with y | y
          · exact ih y
          · exact (mlC_mem y).1
      have e := this _ hm
      intro z
      have := z.1
      rw [e] at this
      exact h1 this
theorem movesOn_ok (hG : GoodG n nx) (hn : n ≤ 8) (hx : ∀ w, w < 12 → nextTo w = nI (nx w)) (hg : SG n g) {both : Bool} (hv2 : v2 = if both then 1 else 0)
    (hstep : ∀ pre m σ, P pre σ → pre ++ [m] <+: mlS n nx both → legS n nx m → okS g m → ∃ σ', Mo_reaches σ.1 σ.2.1 σ.2.2.1 σ.2.2.2.1 σ.2.2.2.2.1 σ.2.2.2.2.2 v1 (cdS (goS g m)) (nI (codeM m)) = some σ' ∧ P (pre ++ [m]) σ')
    (hskip : ∀ pre m σ, P pre σ → pre ++ [m] <+: mlS n nx both → ¬ okS g m → P (pre ++ [m]) σ)
    {σ : T6} (h : P [] σ) {i : Nat} (hi : i < 131072) (hv1 : v1 = nI i) (hsi : σ.2.1 i = cdS g) :
    ∃ σ', Mo_movesOn nextTo (nI n) σ.1 σ.2.1 σ.2.2.1 σ.2.2.2.1 σ.2.2.2.2.1 σ.2.2.2.2.2 v1 v2 = some σ' ∧ P (mlS n nx both) σ' := by
  obtain ⟨σ1, q1, q2⟩ := mOn_one (v2 := v2) hG hn hx hg hstep hskip h (List.prefix_append _ _)
  have hhead : Mo_movesOn nextTo (nI n) σ.1 σ.2.1 σ.2.2.1 σ.2.2.2.1 σ.2.2.2.2.1 σ.2.2.2.2.2 v1 v2 = ob (lp (Mo_movesOn_L100 v1 v2 (cdS g) nextTo (nI n)) (0, σ1)) fun x3 => some x3 := by
    unfold Mo_movesOn
    rw [hv1, gd_eq (ixN hi (by omega)), nI_clamp (by omega), hsi, ← hv1]
    show ob (lp (Mo_movesOn_L10 v1 v2 (cdS g) nextTo (nI n)) (0, σ)) _ = _
    rw [ob_eq q1]
  rw [hhead]
  cases both with
  | false =>
    have hv2 : v2 = 0 := hv2
    subst hv2
    refine ⟨σ1, ob_eq (lp_inr ?_), ?_⟩
    · unfold Mo_movesOn_L100
      show (if (0 : Int32) < nI n then _ else _) = _
      by_cases e : (0 : Int32) < nI n
      · rw [if_pos e, if_pos rfl]
      · rw [if_neg e]
    · show P (mlI n nx n ++ []) σ1
      rw [List.append_nil]; exact q2
  | true =>
    have hv2 : v2 = 1 := hv2
    subst hv2
    obtain ⟨σ', r1, r2⟩ := lp_inv (f := Mo_movesOn_L100 v1 1 (cdS g) nextTo (nI n)) (fun k s => s.1 = nI k ∧ P (mlI n nx n ++ mlJ n nx k) s.2) n (fun r => P (mlI n nx n ++ mlJ n nx n) r)
      (by
        rintro k ⟨s1, τ⟩ hk ⟨e1, e2⟩
        have e1 : s1 = nI k := e1
        subst e1
        left
        have hp2 : (mlI n nx n ++ mlJ n nx k) ++ mlB n nx k (n - (k + 1)) <+: mlS n nx true := by
          rw [List.append_assoc]
          exact preA (mlJ_pre (c := k + 1) (by omega))
        obtain ⟨σ', q1, q2⟩ := mOn_mid (v2 := 1) hG hn hx hg hstep hskip hk e2 hp2
        refine ⟨(nI k + 1, σ'), ?_, nI_ad k 1, ?_⟩
        · unfold Mo_movesOn_L100
          show (if nI k < nI n then _ else _) = _
          rw [if_pos ((nI_ltN (by omega) (by omega)).mpr hk), if_neg (by decide)]
          show ob (lp (Mo_movesOn_L119 v1 1 (cdS g) (nI k) nextTo (nI n)) (nI k + nI 1, τ)) _ = _
          rw [nI_ad, ob_eq q1]
          rfl
        · rw [List.append_assoc] at q2
          exact q2)
      (by
        rintro ⟨s1, τ⟩ ⟨e1, e2⟩
        have e1 : s1 = nI n := e1
        subst e1
        refine ⟨τ, ?_, e2⟩
        unfold Mo_movesOn_L100
        exact if_neg (fun z => by have := (nI_ltN (by omega) (by omega)).mp z; omega))
      0 (0, σ1) (Nat.zero_le _) ⟨rfl, by show P (mlI n nx n ++ []) σ1; rw [List.append_nil]; exact q2⟩
    exact ⟨σ', ob_eq r1, r2⟩
end MON
