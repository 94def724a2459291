/-! FEWEST: the least number of jars that will do -/
noncomputable def cnS (n : Nat) (nx : Nat → Nat) (T : Nat) : Nat := cfS n nx (rbS n T) (rbS n (T + 1) - rbS n T)
def fwS (n : Nat) (nx : Nat → Nat) (F : Nat) (b : Nat → Nat) : Prop :=
  1 ≤ F ∧ F ≤ n ∧ (∀ T, 1 ≤ T → T < F → cnS n nx T = 0) ∧ 0 < cnS n nx F ∧ SG n b ∧ totS b 8 = F ∧ fuS n nx b ∧ ∀ x, x < rbS n (F + 1) - rbS n F → frS n nx (rbS n F + x) → rkS b n n ≤ rbS n F + x
theorem rk_ge {n : Nat} (hn : n ≤ 8) (hn1 : 1 ≤ n) {g : Nat → Nat} (hg : SG n g) : rbS n (totS g 8) ≤ rkS g n n := by
  have h2 := sxS_tot (g := g) (n := n) (k := n) (Nat.le_refl _)
  have h3 := tot_n8 hn hg
  rw [Nat.sub_self] at h2
  have h2 : sxS g n n + 0 = totS g n := h2
  obtain ⟨m, rfl⟩ : ∃ m, n = m + 1 := ⟨n - 1, by omega⟩
  have g1 : rbS (m + 1) (sxS g (m + 1) (m + 1)) ≤ rkS g (m + 1) (m + 1) := Nat.le_add_left _ _
  rw [show totS g 8 = sxS g (m + 1) (m + 1) by omega]
  exact g1
theorem cf_pos {n : Nat} {nx : Nat → Nat} {r0 x N : Nat} (h : frS n nx (r0 + x)) (hx : x < N) : 0 < cfS n nx r0 N := by
  induction N with
  | zero => omega
  | succ N ih =>
    by_cases e : x = N
    · subst e; rw [(cf_succ n nx r0 x).1 h]; omega
    · have := ih (by omega)
      by_cases e2 : frS n nx (r0 + N)
      · rw [(cf_succ n nx r0 N).1 e2]; omega
      · rw [(cf_succ n nx r0 N).2 e2]; exact this
def onS (n : Nat) : Nat → Nat := fun w => if w < n then 1 else 0
theorem cn_last {n : Nat} {nx : Nat → Nat} (hn : 1 ≤ n) (h7 : n ≤ 7) : 0 < cnS n nx n := by
  have ht : ∀ k, totS (onS n) k = min k n := by
    intro k
    induction k with
    | zero => show 0 = min 0 n; omega
    | succ k ih =>
      show totS (onS n) k + (if k < n then 1 else 0) = _
      rw [ih]
      by_cases e : k < n
      · rw [if_pos e]; omega
      · rw [if_neg e]; omega
  have h8 : totS (onS n) 8 = n := by rw [ht]; omega
  have hS : SG n (onS n) := ⟨fun w hw => if_neg (by omega), by omega⟩
  have hf : fuS n nx (onS n) := fun w hw => rs_iff.mpr (Or.inl (by show 0 < (if w < n then 1 else 0); rw [if_pos hw]; omega))
  have a := rk_ge (by omega) hn hS
  have b := rk_lt (by omega) hS (s := n + 1) (by omega)
  rw [h8] at a
  refine cf_pos (x := rkS (onS n) n n - rbS n n) ?_ (by omega)
  rw [show rbS n n + (rkS (onS n) n n - rbS n n) = rkS (onS n) n n by omega]
  exact (fr_row hS).mpr hf
theorem cn_le {n : Nat} {nx : Nat → Nat} (h7 : n ≤ 7) {T : Nat} (hT : T ≤ n) : cnS n nx T ≤ 125970 := by
  have h1 := (rb_bound n (by omega) (T + 1) (by omega)).1
  have h2 := cf_le n nx (rbS n T) (rbS n (T + 1) - rbS n T)
  unfold cnS
  omega
theorem fw_uniq {n : Nat} {nx : Nat → Nat} {F F' : Nat} {b b' : Nat → Nat} (hn : 1 ≤ n) (h7 : n ≤ 7) (h : fwS n nx F b) (h' : fwS n nx F' b') : F = F' ∧ b = b' := by
  obtain ⟨a1, a2, a3, a4, a5, a6, a7, a8⟩ := h
  obtain ⟨c1, c2, c3, c4, c5, c6, c7, c8⟩ := h'
  have e : F = F' := by
    rcases Nat.lt_trichotomy F F' with z | z | z
    · have := c3 F a1 z; omega
    · exact z
    · have := a3 F' c1 z; omega
  subst e
  refine ⟨rfl, rk_eq a5 c5 ?_⟩
  have l1 := rk_ge (show n ≤ 8 by omega) hn a5
  have l2 := rk_ge (show n ≤ 8 by omega) hn c5
  have u1 := rk_lt (show n ≤ 8 by omega) a5 (s := F + 1) (by omega)
  have u2 := rk_lt (show n ≤ 8 by omega) c5 (s := F + 1) (by omega)
  rw [a6] at l1
  rw [c6] at l2
  have p := a8 (rkS b' n n - rbS n F) (by omega) (by rw [show rbS n F + (rkS b' n n - rbS n F) = rkS b' n n by omega]; exact (fr_row c5).mpr c7)
  have q := c8 (rkS b n n - rbS n F) (by omega) (by rw [show rbS n F + (rkS b n n - rbS n F) = rkS b n n by omega]; exact (fr_row a5).mpr a7)
  omega
def fiS (T : Nat) : Nat → Nat := fun w => if w = 0 then T else 0
section FEW
variable {n : Nat} {nx : Nat → Nat} {next nextTo below : Nat → Int32}
theorem fi_row (hn : 1 ≤ n) (h7 : n ≤ 7) {T : Nat} (hT : T ≤ n) : SG n (fiS T) ∧ totS (fiS T) 8 = T ∧ rkS (fiS T) n n = rbS n T := by
  have ht : ∀ k, totS (fiS T) (k + 1) = T := by
    intro k
    induction k with
    | zero => show 0 + (if 0 = 0 then T else 0) = T; rw [if_pos rfl, Nat.zero_add]
    | succ k ih =>
      show totS (fiS T) (k + 1) + (if k + 1 = 0 then T else 0) = T
      rw [ih, if_neg (by omega), Nat.add_zero]
  have h8 := ht 7
  have h8 : totS (fiS T) 8 = T := h8
  refine ⟨⟨fun w hw => if_neg (by omega), by omega⟩, h8, ?_⟩
  rw [rk_first (g := fiS T) hn (fun w h1 h2 => if_neg (by omega))]
  rfl
theorem round_both (hG : GoodG n nx) (hx : ∀ w, w < 12 → next w = nI (nx w)) (hx2 : ∀ w, w < 12 → nextTo w = nI (nx w)) (hn : 1 ≤ n) (h7 : n ≤ 7) (hb : RBk below) {T : Nat} (hT : T ≤ n) {nr : Nat} (hnr : rbS n (n + 1) ≤ nr) (hnr2 : nr < 2 ^ 31)
    {reached : Nat → Int32} (row best laid laidBest : Nat → Int32) (hrd : ∀ h, SG n h → rkS h n n < rbS n T → reached (rkS h n n) = nI (mskS n nx h)) {L : List Int32} {sf sa so : Nat → Int32} {st : Int32} (hH : HT L sf sa so st) (fa mt : Nat → Int32) :
    ∃ row' best' reached' sf' sa' so' fa' mt' laid' laidBest', Fewest_tryAll below row best reached nr (nI T) 0 (nI n) next (nI n) = some (row', best', reached', nI (cnS n nx T)) ∧ Mo_waysOf nextTo (nI n) sf sa so fa mt st laid laidBest (nI T) = some (nI (cnS n nx T), sf', sa', so', fa', mt', 0, laid', laidBest') ∧ (∀ p, p < 262144 → sf' p = 0) ∧ bsS n nx T (rbS n (T + 1) - rbS n T) best' laidBest' ∧ ∀ h, SG n h → rkS h n n < rbS n (T + 1) → reached' (rkS h n n) = nI (mskS n nx h) := by
  obtain ⟨f1, f2, f3⟩ := fi_row hn h7 hT
  -- the first row of the reference
  obtain ⟨laid1, l1, l2⟩ := lp_inv (f := Mo_waysOf_L4 (nI T) 0 (nI n)) (fun k s => s.1 = nI k ∧ ∀ w, w < k → s.2 w = nI (fiS T w)) n (fun r => ∀ w, w < n → r w = nI (fiS T w))
    (by
      rintro k ⟨s1, la⟩ hk ⟨e1, e2⟩
      have e1 : s1 = nI k := e1
      subst e1
      left
      have hix : ix (nI k) 7 = true := ixN (by omega) (by omega)
      refine ⟨(nI k + 1, upd la k (nI (fiS T k))), ?_, nI_ad k 1, fun w hw => ?_⟩
      · unfold Mo_waysOf_L4 Mo_waysOf_L4_J26
        show (if nI k < nI n then _ else _) = _
        rw [if_pos ((nI_ltN (by omega) (by omega)).mpr hk)]
        dsimp only
        rw [gd_eq hix, gd_eq hix, nI_clamp (show k < 2 ^ 31 by omega)]
        by_cases z : k = 0
        · rw [if_pos (show nI k = 0 by rw [z]; rfl), show fiS T k = T from if_pos z]
        · rw [if_neg (show ¬ nI k = 0 from fun y => z ((nI_inj (a := k) (b := 0) (by omega) (by omega)).mp y)), show fiS T k = 0 from if_neg z]
          rfl
      · show upd la k _ w = _
        by_cases y : w = k
        · rw [y, upd_at]
        · rw [upd_ne y]; exact e2 w (by omega))
    (by
      rintro ⟨s1, la⟩ ⟨e1, e2⟩
      have e1 : s1 = nI n := e1
      subst e1
      refine ⟨la, ?_, e2⟩
      unfold Mo_waysOf_L4
      exact if_neg (fun z => by have := (nI_ltN (by omega) (by omega)).mp z; omega))
    0 (0, laid) (Nat.zero_le _) ⟨rfl, fun w hw => by omega⟩
  have hrow : rowIs n (upd (filled row 0 7) 0 (nI T)) (fiS T) := fun w hw => by
    by_cases z : w = 0
    · rw [z, upd_at]; rfl
    · rw [upd_ne z]
      show (if w < 7 then (0 : Int32) else row w) = nI (if w = 0 then T else 0)
      rw [if_pos (by omega), if_neg z]; rfl
  obtain ⟨row', best', reached', sf', sa', so', fa', mt', st', laid', laidBest', L', q1, q2, q3, q4, q5⟩ := rows_both hG hx hx2 hn h7 hb hT hnr hnr2 (best := best) (laidBest := laidBest) f1 f2 f3 hrow l2 hrd hH fa mt
  obtain ⟨sf2, c1, c2⟩ := clears_ok q3
  refine ⟨row', best', reached', sf2, sa', so', fa', mt', laid', laidBest', ?_, ?_, c2, q4, q5⟩
  · unfold Fewest_tryAll
    rw [ob_eq (Arrays_fill_eq (n := 7) (by omega) row 0), gd_eq (show ix 0 7 = true from rfl), show nI T + 1 = nI (T + 1) from nI_ad T 1, ob_eq (rowsBelow_ok hb hn (by omega) (by omega)), ob_eq (rowsBelow_ok hb hn (by omega) (by omega)), show ((0 : Int32).toNatClampNeg) = 0 from rfl, ob_eq q1]
    rfl
  · unfold Mo_waysOf
    rw [ob_eq l1, ob_eq q2]
    dsimp only
    rw [ob_eq c1]
    rfl
theorem msk_zero : mskS n nx z0S = 0 := by
  unfold mskS
  rw [mkP_congr (Q := fun _ => False) (fun w _ => ⟨fun z => by
    rcases rs_iff.mp z with z | ⟨a, b, -, -, -, z, -⟩
    · have z : 0 < 0 := z
      omega
    · have z : 2 ≤ 0 := z
      omega, False.elim⟩), mkP_none]
theorem z0_row : SG n z0S ∧ rkS z0S n n = 0 := by
  refine ⟨⟨fun _ _ => rfl, by decide⟩, (rk_zero (fun _ _ => rfl)).2⟩
theorem re_zero (hn : 1 ≤ n) (h7 : n ≤ 7) {T : Nat} {reached : Nat → Int32} (h : ∀ h, SG n h → rkS h n n < rbS n (T + 1) → reached (rkS h n n) = nI (mskS n nx h)) : reached 0 = 0 := by
  have h1 := rk_lt (n := n) (g := z0S) (s := T + 1) (by omega) z0_row.1 (by show 0 < T + 1; omega)
  have h2 := h z0S z0_row.1 h1
  rw [z0_row.2, msk_zero] at h2
  exact h2
theorem rb_first : ∀ {k : Nat}, rbS k 1 = 1 := by
  intro k
  induction k with
  | zero => rw [rbS_base]
  | succ k ih => rw [rbS_succ, rbS_zero, ih]
theorem find_both (hG : GoodG n nx) (hx : ∀ w, w < 12 → next w = nI (nx w)) (hx2 : ∀ w, w < 12 → nextTo w = nI (nx w)) (hn : 1 ≤ n) (h7 : n ≤ 7) (hb : RBk below) {nr : Nat} (hnr : rbS n (n + 1) ≤ nr) (hnr2 : nr < 2 ^ 31) :
    ∀ m T, T + m = n → 1 ≤ T → (∀ T', 1 ≤ T' → T' < T → cnS n nx T' = 0) → ∀ (row best reached : Nat → Int32) (jars : Int32) (laid laidBest sf sa so fa mt : Nat → Int32) (st : Int32) (L : List Int32), (∀ h, SG n h → rkS h n n < rbS n T → reached (rkS h n n) = nI (mskS n nx h)) → HT L sf sa so st →
      ∃ F b row' best' reached' sf' sa' so' fa' mt' laid' laidBest', fwS n nx F b ∧ lp (Fewest_find_L49 (nI n) below nr (nI n) next) (nI T, row, best, reached, jars, 0) = some (row', best', reached', nI F, nI (cnS n nx F)) ∧
        (∀ v1, ob (Mo_waysOf nextTo (nI n) sf sa so fa mt st laid laidBest (nI T)) (fun x1 => lp (Mo_fewest_L51 v1 nextTo (nI n)) (nI T, x1.1, x1.2.1, x1.2.2.1, x1.2.2.2.1, x1.2.2.2.2.1, x1.2.2.2.2.2.1, x1.2.2.2.2.2.2.1, x1.2.2.2.2.2.2.2.1, x1.2.2.2.2.2.2.2.2)) = some (nI F, nI (cnS n nx F), sf', sa', so', fa', mt', 0, laid', laidBest')) ∧ (∀ p, p < 262144 → sf' p = 0) ∧ rowIs n best' b ∧ rowIs n laidBest' b ∧ reached' 0 = 0 := by
  intro m
  induction m with
  | zero =>
    intro T hTm hT1 hless row best reached jars laid laidBest sf sa so fa mt st L hrd hH
    have e : T = n := by omega
    subst e
    obtain ⟨row', best', reached', sf', sa', so', fa', mt', laid', laidBest', q1, q2, q3, q4, q5⟩ := round_both hG hx hx2 hn h7 hb (Nat.le_refl _) hnr hnr2 row best laid laidBest hrd hH fa mt
    have hpos := cn_last (nx := nx) hn h7
    have hle := cn_le (nx := nx) h7 (Nat.le_refl T)
    have hne : ¬ nI (cnS T nx T) = 0 := fun z => by
      have := (nI_inj (a := cnS T nx T) (b := 0) (by omega) (by omega)).mp z
      omega
    rcases q4 with z | ⟨b, b1, b2, b3, b4, b5, b6⟩
    · exact absurd z (by unfold cnS at hpos; omega)
    refine ⟨T, b, row', best', reached', sf', sa', so', fa', mt', laid', laidBest', ⟨hT1, Nat.le_refl _, hless, hpos, b1, b2, b3, b6⟩, ?_, fun v1 => ?_, q3, b4, b5, re_zero hn h7 q5⟩
    · refine lp_inl (s' := (nI T + 1, row', best', reached', nI T, nI (cnS T nx T))) ?_ (lp_inr ?_)
      · unfold Fewest_find_L49
        dsimp only
        rw [if_pos ((nI_leN (by omega) (by omega)).mpr (Nat.le_refl _)), if_pos rfl, ob_eq q1]
      · unfold Fewest_find_L49
        dsimp only
        rw [show nI T + 1 = nI (T + 1) from nI_ad T 1, if_neg (fun z => by have := (nI_leN (by omega) (by omega)).mp z; omega)]
    · rw [ob_eq q2]
      refine lp_inr ?_
      unfold Mo_fewest_L51
      dsimp only
      rw [if_neg hne]
  | succ m ih =>
    intro T hTm hT1 hless row best reached jars laid laidBest sf sa so fa mt st L hrd hH
    have hT : T ≤ n := by omega
    obtain ⟨row', best', reached', sf', sa', so', fa', mt', laid', laidBest', q1, q2, q3, q4, q5⟩ := round_both hG hx hx2 hn h7 hb hT hnr hnr2 row best laid laidBest hrd hH fa mt
    have hle := cn_le (nx := nx) h7 hT
    have hstep : Fewest_find_L49 (nI n) below nr (nI n) next (nI T, row, best, reached, jars, 0) = some (.inl (nI T + 1, row', best', reached', nI T, nI (cnS n nx T))) := by
      unfold Fewest_find_L49
      dsimp only
      rw [if_pos ((nI_leN (by omega) (by omega)).mpr hT), if_pos rfl, ob_eq q1]
    by_cases hz : cnS n nx T = 0
    · -- no laying of so many
      rw [hz] at q2 hstep
      rw [show nI T + 1 = nI (T + 1) from nI_ad T 1] at hstep
      obtain ⟨F, b, row2, best2, reached2, sf2, sa2, so2, fa2, mt2, laid2, laidBest2, i1, i2, i3, i4⟩ := ih (T + 1) (by omega) (by omega) (fun T' h1 h2 => by
        by_cases e : T' = T
        · rw [e]; exact hz
        · exact hless T' h1 (by omega)) row' best' reached' (nI T) laid' laidBest' sf' sa' so' fa' mt' 0 [] q5 (HT.none q3)
      refine ⟨F, b, row2, best2, reached2, sf2, sa2, so2, fa2, mt2, laid2, laidBest2, i1, lp_inl hstep i2, fun v1 => ?_, i4⟩
      obtain ⟨x, x1, x2⟩ := ob_some (i3 v1)
      rw [ob_eq q2]
      refine lp_inl ?_ x2
      unfold Mo_fewest_L51
      dsimp only
      rw [if_pos (show nI 0 = 0 from rfl), show nI T + 1 = nI (T + 1) from nI_ad T 1, ob_eq x1]
    · have hne : ¬ nI (cnS n nx T) = 0 := fun z => by
        have := (nI_inj (a := cnS n nx T) (b := 0) (by omega) (by omega)).mp z
        omega
      rcases q4 with z | ⟨b, b1, b2, b3, b4, b5, b6⟩
      · exact absurd z hz
      refine ⟨T, b, row', best', reached', sf', sa', so', fa', mt', laid', laidBest', ⟨hT1, hT, hless, by omega, b1, b2, b3, b6⟩, lp_inl hstep (lp_inr ?_), fun v1 => ?_, q3, b4, b5, re_zero hn h7 q5⟩
      · unfold Fewest_find_L49
        dsimp only
        rw [show nI T + 1 = nI (T + 1) from nI_ad T 1, if_pos ((nI_leN (by omega) (by omega)).mpr (by omega)), if_neg hne]
      · rw [ob_eq q2]
        refine lp_inr ?_
        unfold Mo_fewest_L51
        dsimp only
        rw [if_neg hne]
/-- what is kept of the fewest is right -/
def MFs (n : Nat) (nx : Nat → Nat) (best : Nat → Int32) (jars lay : Int32) : Prop := lay = 0 ∨ ∃ F b, 1 ≤ n ∧ n ≤ 7 ∧ fwS n nx F b ∧ jars = nI F ∧ lay = nI (cnS n nx F) ∧ rowIs n best b
theorem findF_ok (hG : GoodG n nx) (hx : ∀ w, w < 12 → next w = nI (nx w)) (hx2 : ∀ w, w < 12 → nextTo w = nI (nx w)) (hn : 1 ≤ n) (h7 : n ≤ 7) (hb : RBk below) {bc bs : Nat} (hbc : 1 ≤ bc) (hbs : 43758 ≤ bs) {nr : Nat} (hnr : nr ≤ 43758) (row : Nat → Int32) {reached best : Nat → Int32} (hre : reached 0 = 0) {jars lay : Int32} (hM : MFs n nx best jars lay)
    {sf : Nat → Int32} (sa so fa mt laid laidBest : Nat → Int32) (hsf : ∀ p, p < 262144 → sf p = 0) :
    ∃ F b row' best' reached' nr' kc ks sf' sa' so' fa' mt' laid' laidBest', fwS n nx F b ∧ Fewest_find bc bs below row best reached nr jars lay (nI n) next = some (row', best', reached', nr', nI F, nI (cnS n nx F), kc, ks) ∧ rowIs n best' b ∧ nr' ≤ 43758 ∧ reached' 0 = 0 ∧ kc ≤ 1 ∧ ks ≤ 43758 ∧
      (∀ v1, ob (Mo_waysOf nextTo (nI n) sf sa so fa mt 0 laid laidBest 1) (fun x1 => lp (Mo_fewest_L51 v1 nextTo (nI n)) (1, x1.1, x1.2.1, x1.2.2.1, x1.2.2.2.1, x1.2.2.2.2.1, x1.2.2.2.2.2.1, x1.2.2.2.2.2.2.1, x1.2.2.2.2.2.2.2.1, x1.2.2.2.2.2.2.2.2)) = some (nI F, nI (cnS n nx F), sf', sa', so', fa', mt', 0, laid', laidBest')) ∧ (∀ p, p < 262144 → sf' p = 0) ∧ rowIs n laidBest' b := by
  have hrb := (rb_bound n (by omega) (n + 1) (by omega)).2 (by omega)
  have hmin : jmin (nI n) 7 = nI n := by
    unfold jmin
    rw [if_neg (fun z => by have := (nI_ltN (a := 7) (b := n) (by omega) (by omega)).mp z; omega)]
  have hrows : Ranks_rowsBelow below (nI n) (nI n + 1) = some (nI (rbS n (n + 1))) := by
    rw [show nI n + 1 = nI (n + 1) from nI_ad n 1]
    exact rowsBelow_ok hb hn (by omega) (by omega)
  have hF : ∀ (nr2 : Nat) (re : Nat → Int32), re 0 = 0 → rbS n (n + 1) ≤ nr2 → nr2 < 2 ^ 31 → ∃ F b row' best' reached' sf' sa' so' fa' mt' laid' laidBest', fwS n nx F b ∧ lp (Fewest_find_L49 (nI n) below nr2 (nI n) next) (1, row, best, re, jars, 0) = some (row', best', reached', nI F, nI (cnS n nx F)) ∧
        (∀ v1, ob (Mo_waysOf nextTo (nI n) sf sa so fa mt 0 laid laidBest 1) (fun x1 => lp (Mo_fewest_L51 v1 nextTo (nI n)) (1, x1.1, x1.2.1, x1.2.2.1, x1.2.2.2.1, x1.2.2.2.2.1, x1.2.2.2.2.2.1, x1.2.2.2.2.2.2.1, x1.2.2.2.2.2.2.2.1, x1.2.2.2.2.2.2.2.2)) = some (nI F, nI (cnS n nx F), sf', sa', so', fa', mt', 0, laid', laidBest')) ∧ (∀ p, p < 262144 → sf' p = 0) ∧ rowIs n best' b ∧ rowIs n laidBest' b ∧ reached' 0 = 0 := by
    intro nr2 re hr0 h1 h2
    exact find_both hG hx hx2 hn h7 hb h1 h2 (n - 1) 1 (by omega) (Nat.le_refl _) (fun T' h3 h4 => by omega) row best re jars laid laidBest sf sa so fa mt 0 [] (fun h h3 h4 => by
      rw [rb_first] at h4
      have e : h = z0S := rk_eq h3 z0_row.1 (by rw [z0_row.2]; omega)
      rw [e, z0_row.2, msk_zero, hr0]
      rfl) (HT.none hsf)
  rcases hM with rfl | ⟨F, b, -, -, k1, rfl, rfl, k2⟩
  · -- nothing is kept
    by_cases hlt : nr < rbS n (n + 1)
    · obtain ⟨F, b, row', best', reached', sf', sa', so', fa', mt', laid', laidBest', i1, i2, i3, i4, i5, i6, i7⟩ := hF (rbS n (n + 1)) (fun _ => 0) rfl (Nat.le_refl _) (by omega)
      refine ⟨F, b, row', best', reached', rbS n (n + 1), 1, rbS n (n + 1), sf', sa', so', fa', mt', laid', laidBest', i1, ?_, i5, hrb, i7, Nat.le_refl _, hrb, i3, i4, i6⟩
      have hmk : mkOk (nI (rbS n (n + 1))) bc bs 0 0 = true := by
        unfold mkOk
        rw [nI_clamp (by omega), decide_eq_false (nI_pos (by omega)), decide_eq_true (show rbS n (n + 1) ≤ 100000 by omega), decide_eq_true (show 0 + 1 ≤ bc by omega), decide_eq_true (show 0 + rbS n (n + 1) ≤ bs by omega)]
        rfl
      unfold Fewest_find Fewest_find_J46
      rw [if_pos (show (0 : Int32) ≤ 0 by decide), hmin, ob_eq hrows, if_pos (show Int32.ofNat nr < nI (rbS n (n + 1)) from (nI_ltN (by omega) (by omega)).mpr hlt), gd_eq hmk, nI_clamp (show rbS n (n + 1) < 2 ^ 31 by omega), ob_eq i2, Nat.zero_add, Nat.zero_add]
    · obtain ⟨F, b, row', best', reached', sf', sa', so', fa', mt', laid', laidBest', i1, i2, i3, i4, i5, i6, i7⟩ := hF nr reached hre (by omega) (by omega)
      refine ⟨F, b, row', best', reached', nr, 0, 0, sf', sa', so', fa', mt', laid', laidBest', i1, ?_, i5, hnr, i7, by omega, by omega, i3, i4, i6⟩
      unfold Fewest_find Fewest_find_J46
      rw [if_pos (show (0 : Int32) ≤ 0 by decide), hmin, ob_eq hrows, if_neg (show ¬ Int32.ofNat nr < nI (rbS n (n + 1)) from fun z => hlt ((nI_ltN (by omega) (by omega)).mp z)), ob_eq i2]
  · obtain ⟨F', b', row', best', reached', sf', sa', so', fa', mt', laid', laidBest', i1, i2, i3, i4, i5, i6, i7⟩ := hF (rbS n (n + 1)) (fun _ => 0) rfl (Nat.le_refl _) (by omega)
    obtain ⟨rfl, rfl⟩ := fw_uniq hn h7 k1 i1
    refine ⟨F, b, row, best, reached, nr, 0, 0, sf', sa', so', fa', mt', laid', laidBest', i1, ?_, k2, hnr, hre, by omega, by omega, i3, i4, i6⟩
    have hle := cn_le (nx := nx) h7 k1.2.1
    have hpos := k1.2.2.2.1
    unfold Fewest_find
    rw [if_neg (fun z => by have := (nI_leN (a := cnS n nx F) (b := 0) (by omega) (by omega)).mp z; omega)]
theorem ask_ok (n12 : n ≤ 12) (a2 : Int32) : (Dj_asksLaying (nI n) a2 = some 0 ∧ Mo_in a2 100 101 = some 0 ∧ Mo_isWell (nI n) a2 = some 0) ∨ (Dj_asksLaying (nI n) a2 = some 1 ∧ ((Mo_in a2 100 101 = some 1 ∧ (a2 = 100 ∨ (¬ a2 = 100 ∧ a2 = 101))) ∨ (Mo_in a2 100 101 = some 0 ∧ ¬ a2 = 100 ∧ ¬ a2 = 101 ∧ ∃ v, v < n ∧ a2 = nI v ∧ Mo_isWell (nI n) a2 = some 1))) := by
  unfold Dj_asksLaying Dj_asksLaying_J23
  by_cases h1 : a2 = 100
  · rw [if_pos h1]; exact Or.inr ⟨rfl, Or.inl ⟨by rw [h1]; rfl, Or.inl h1⟩⟩
  · rw [if_neg h1]
    by_cases h2 : a2 = 101
    · rw [if_pos h2]; exact Or.inr ⟨rfl, Or.inl ⟨by rw [h2]; rfl, Or.inr ⟨h1, h2⟩⟩⟩
    · rw [if_neg h2]
      have hin : Mo_in a2 100 101 = some 0 := by
        by_cases z1 : a2 < 100
        · exact Mo_in_no1 z1
        · refine Mo_in_no2 (fun z2 => ?_)
          obtain ⟨k, k1, k2⟩ := nI_between (h := 101) (by omega) (fun z => z1 (Int32.lt_trans z (by decide))) z2
          subst k2
          have : ¬ k < 100 := fun z => z1 ((nI_ltN (b := 100) (by omega) (by omega)).mpr z)
          by_cases y : k = 100
          · exact h1 (by rw [y]; rfl)
          · exact h2 (by rw [show k = 101 by omega]; rfl)
      rcases well_cases a2 n12 with ⟨v, hv, ev, f1, f2⟩ | ⟨f1, f2, -⟩
      · rw [ob_eq f1, if_neg one_ne0]
        exact Or.inr ⟨rfl, Or.inr ⟨hin, h1, h2, v, hv, ev, f2⟩⟩
      · rw [ob_eq f1, if_pos rfl]
        exact Or.inl ⟨rfl, hin, f2⟩
theorem fewest_ok (hG : GoodG n nx) (hx : ∀ w, w < 12 → next w = nI (nx w)) (hx2 : ∀ w, w < 12 → nextTo w = nI (nx w)) (hb : RBk below) {bc bs : Nat} (hbc : 1 ≤ bc) (hbs : 43758 ≤ bs) {nr : Nat} (hnr : nr ≤ 43758) (row : Nat → Int32) {reached best : Nat → Int32} (hre : reached 0 = 0) {jars lay : Int32} (hM : MFs n nx best jars lay)
    {sf : Nat → Int32} (sa so fa mt laid laidBest : Nat → Int32) (hsf : ∀ p, p < 262144 → sf p = 0) (a1 : Int32) :
    ∃ r row' best' reached' nr' jars' lay' kc ks sf' sa' so' fa' mt' laid' laidBest', Dj_fewest bc bs (nI n) next below row best reached nr jars lay a1 = some (r, row', best', reached', nr', jars', lay', kc, ks) ∧ Mo_fewest nextTo (nI n) sf sa so fa mt 0 laid laidBest a1 = some (r, sf', sa', so', fa', mt', 0, laid', laidBest') ∧ MFs n nx best' jars' lay' ∧ nr' ≤ 43758 ∧ reached' 0 = 0 ∧ kc ≤ 1 ∧ ks ≤ 43758 ∧ ∀ p, p < 262144 → sf' p = 0 := by
  have n12 := hG.1
  have refuse : ∀ r, Dj_fewest bc bs (nI n) next below row best reached nr jars lay a1 = some (r, row, best, reached, nr, jars, lay, 0, 0) → Mo_fewest nextTo (nI n) sf sa so fa mt 0 laid laidBest a1 = some (r, sf, sa, so, fa, mt, 0, laid, laidBest) → ∃ r row' best' reached' nr' jars' lay' kc ks sf' sa' so' fa' mt' laid' laidBest', Dj_fewest bc bs (nI n) next below row best reached nr jars lay a1 = some (r, row', best', reached', nr', jars', lay', kc, ks) ∧ Mo_fewest nextTo (nI n) sf sa so fa mt 0 laid laidBest a1 = some (r, sf', sa', so', fa', mt', 0, laid', laidBest') ∧ MFs n nx best' jars' lay' ∧ nr' ≤ 43758 ∧ reached' 0 = 0 ∧ kc ≤ 1 ∧ ks ≤ 43758 ∧ ∀ p, p < 262144 → sf' p = 0 :=
    fun r h1 h2 => ⟨r, row, best, reached, nr, jars, lay, 0, 0, sf, sa, so, fa, mt, laid, laidBest, h1, h2, hM, hnr, hre, by omega, by omega, hsf⟩
  rcases ask_ok n12 a1 with ⟨k1, k2, k3⟩ | ⟨k1, k2⟩
  · refine refuse (-1) ?_ ?_
    · unfold Dj_fewest
      rw [ob_eq k1, if_pos rfl]
    · unfold Mo_fewest
      rw [ob_eq k2, if_pos rfl, ob_eq k3, if_pos rfl]
  · have hMo : Mo_fewest nextTo (nI n) sf sa so fa mt 0 laid laidBest a1 = Mo_fewest_J21 a1 nextTo (nI n) sf sa so fa mt 0 laid laidBest := by
      unfold Mo_fewest
      rcases k2 with ⟨z, -⟩ | ⟨z1, -, -, v, -, -, z2⟩
      · rw [ob_eq z, if_neg one_ne0]
      · rw [ob_eq z1, if_pos rfl, ob_eq z2, if_neg one_ne0]
    by_cases hn : n = 0
    · refine refuse (-3) ?_ ?_
      · unfold Dj_fewest
        rw [ob_eq k1, if_neg one_ne0, if_pos (show nI n = 0 by rw [hn]; rfl)]
      · rw [hMo]
        unfold Mo_fewest_J21
        rw [if_pos (show nI n = 0 by rw [hn]; rfl)]
    · have hn0 : ¬ nI n = 0 := fun z => hn ((nI_inj (a := n) (b := 0) (by omega) (by omega)).mp z)
      by_cases h7 : n ≤ 7
      · have h7' : nI n ≤ 7 := (nI_leN (a := n) (b := 7) (by omega) (by omega)).mpr h7
        obtain ⟨F, b, row', best', reached', nr', kc, ks, sf', sa', so', fa', mt', laid', laidBest', i1, i2, i3, i4, i5, i6, i7, i8, i9, i10⟩ := findF_ok hG hx hx2 (by omega) h7 hb hbc hbs hnr row hre hM sa so fa mt laid laidBest hsf
        obtain ⟨x, x1, x2⟩ := ob_some (i8 a1)
        have hcu : cuOk bc bs 0 0 kc ks = true := by
          unfold cuOk
          rw [decide_eq_true (show 0 + kc ≤ bc by omega), decide_eq_true (show 0 + ks ≤ bs by omega)]
          rfl
        have hM' : MFs n nx best' (nI F) (nI (cnS n nx F)) := Or.inr ⟨F, b, by omega, h7, i1, rfl, rfl, i3⟩
        have hDj : Dj_fewest bc bs (nI n) next below row best reached nr jars lay a1 = if a1 = 100 then some (nI F, row', best', reached', nr', nI F, nI (cnS n nx F), kc, ks) else if a1 = 101 then some (nI (cnS n nx F), row', best', reached', nr', nI F, nI (cnS n nx F), kc, ks) else gd (ix a1 7) (some (best' a1.toNatClampNeg, row', best', reached', nr', nI F, nI (cnS n nx F), kc, ks)) := by
          unfold Dj_fewest
          rw [ob_eq k1, if_neg one_ne0, if_neg hn0, if_pos h7', ob_eq (show Fewest_find (bc - 0) (bs - 0) below row best reached nr jars lay (nI n) next = _ from i2)]
          dsimp only
          rw [gd_eq hcu, Nat.zero_add, Nat.zero_add]
        have hRf : Mo_fewest nextTo (nI n) sf sa so fa mt 0 laid laidBest a1 = if a1 = 100 then some (nI F, sf', sa', so', fa', mt', 0, laid', laidBest') else if a1 = 101 then some (nI (cnS n nx F), sf', sa', so', fa', mt', 0, laid', laidBest') else gd (ix a1 7) (some (laidBest' a1.toNatClampNeg, sf', sa', so', fa', mt', 0, laid', laidBest')) := by
          rw [hMo]
          unfold Mo_fewest_J21
          rw [if_neg hn0, if_pos h7', ob_eq x1, ob_eq x2]
        rcases k2 with ⟨-, z | ⟨z1, z2⟩⟩ | ⟨-, z1, z2, v, v1, v2, -⟩
        · rw [if_pos z] at hDj hRf
          exact ⟨_, _, _, _, _, _, _, _, _, _, _, _, _, _, _, _, hDj, hRf, hM', i4, i5, i6, i7, i9⟩
        · rw [if_neg z1, if_pos z2] at hDj hRf
          exact ⟨_, _, _, _, _, _, _, _, _, _, _, _, _, _, _, _, hDj, hRf, hM', i4, i5, i6, i7, i9⟩
        · rw [if_neg z1, if_neg z2, v2, gd_eq (ixN (by omega) (by omega)), nI_clamp (by omega)] at hDj hRf
          rw [i3 v v1] at hDj
          rw [i10 v v1] at hRf
          rw [v2]
          exact ⟨_, _, _, _, _, _, _, _, _, _, _, _, _, _, _, _, hDj, hRf, hM', i4, i5, i6, i7, i9⟩
      · have h7' : ¬ nI n ≤ 7 := fun z => h7 ((nI_leN (a := n) (b := 7) (by omega) (by omega)).mp z)
        refine refuse (-4) ?_ ?_
        · unfold Dj_fewest
          rw [ob_eq k1, if_neg one_ne0, if_neg hn0, if_neg h7']
        · rw [hMo]
          unfold Mo_fewest_J21
          rw [if_neg hn0, if_neg h7']
end FEW
