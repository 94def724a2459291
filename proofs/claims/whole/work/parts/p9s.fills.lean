/-! LEDGERS: both fill alike -/
def lcn (ln : LnF) : Nat → Nat → Nat
  | 0, _ => 0
  | m + 1, i => (if (ln i).isNone then 1 else 0) + lcn ln m (i + 1)
theorem lcn_snoc (ln : LnF) : ∀ m i, lcn ln (m + 1) i = lcn ln m i + (if (ln (i + m)).isNone then 1 else 0) := by
  intro m
  induction m with
  | zero => intro i; show (if (ln i).isNone then 1 else 0) + 0 = 0 + (if (ln (i + 0)).isNone then 1 else 0); rw [Nat.add_zero, Nat.zero_add, Nat.add_zero]
  | succ m ih =>
    intro i
    show (if (ln i).isNone then 1 else 0) + lcn ln (m + 1) (i + 1) = (if (ln i).isNone then 1 else 0) + lcn ln m (i + 1) + _
    rw [ih (i + 1), show i + 1 + m = i + (m + 1) by omega]
    omega
theorem lcn_congr {ln ln' : LnF} : ∀ {m i : Nat}, (∀ j, i ≤ j → j < i + m → ln j = ln' j) → lcn ln m i = lcn ln' m i := by
  intro m
  induction m with
  | zero => intro i _; rfl
  | succ m ih =>
    intro i h
    show (if (ln i).isNone then 1 else 0) + lcn ln m (i + 1) = (if (ln' i).isNone then 1 else 0) + lcn ln' m (i + 1)
    rw [h i (Nat.le_refl _) (by omega), ih (fun j h1 h2 => h j (by omega) (by omega))]
theorem flat_le {α β : Type} {f : α → List β} {K : Nat} : ∀ {l : List α}, (∀ x, x ∈ l → (f x).length ≤ K) → (l.flatMap f).length ≤ l.length * K := by
  intro l
  induction l with
  | nil => intro _; rw [List.flatMap_nil]; exact Nat.zero_le _
  | cons a l ih =>
    intro h
    have h1 := h a List.mem_cons_self
    have h2 := ih (fun x hx => h x (List.mem_cons_of_mem _ hx))
    rw [List.flatMap_cons, List.length_append, List.length_cons, Nat.succ_mul]
    omega
theorem ou_len {ln : LnF} {ml : List (Nat × Nat)} (hml : ml.length ≤ 132) {thr : Nat} : ∀ (m i : Nat) (s : Nat → Int), (ouL ln ml thr m i s).length ≤ 132 ^ lcn ln m i := by
  intro m
  induction m with
  | zero => intro i s; exact Nat.le_refl 1
  | succ m ih =>
    intro i s
    rw [ou_succ]
    have h1 : ((chc ln ml i).flatMap (fun p => if 2 ≤ s p.1 then ouL ln ml thr m (i + 1) (mvI s p) else [])).length ≤ (chc ln ml i).length * 132 ^ lcn ln m (i + 1) := flat_le (fun p _ => by
      by_cases h : 2 ≤ s p.1
      · rw [if_pos h]; exact ih _ _
      · rw [if_neg h]; exact Nat.zero_le _)
    have e : lcn ln (m + 1) i = (if (ln i).isNone then 1 else 0) + lcn ln m (i + 1) := rfl
    rw [e]
    cases h : ln i with
    | none =>
      rw [chc_none h] at h1
      refine Nat.le_trans (show _ ≤ _ from ?_) (show 132 * 132 ^ lcn ln m (i + 1) ≤ _ from ?_)
      · rw [chc_none h]; exact Nat.le_trans h1 (Nat.mul_le_mul_right _ hml)
      · rw [show (if (none : Option (Nat × Nat)).isNone = true then 1 else 0) = 1 from rfl, Nat.pow_add]
        exact Nat.le_refl _
    | some p =>
      rw [chc_some h] at h1 ⊢
      refine Nat.le_trans h1 ?_
      show 1 * 132 ^ lcn ln m (i + 1) ≤ 132 ^ (0 + lcn ln m (i + 1))
      rw [Nat.one_mul, Nat.zero_add]
      exact Nat.le_refl _
section FLS
variable {n : Nat} {nx : Nat → Nat} {next nextTo needs changes : Nat → Int32} {ln : LnF} {N L thr : Nat} {A : Nat → Nat}
theorem listsMoves_ok (hG : GoodG n nx) (hx : ∀ w, w < 12 → nextTo w = nI (nx w)) (mF mT : Nat → Int32) (mm : Int32) : ∃ mF' mT', Mo_listsMoves nextTo (nI n) mF mT mm = some (mF', mT', nI (mvL n nx n).length) ∧ rmS (mvL n nx n) mF' mT' := by
  have n12 := hG.1
  have hlt : ∀ p, nx p < 2 ^ 31 := fun p => Nat.lt_of_lt_of_le (hG.2.1 p) (Nat.pow_le_pow_right (by omega) (by omega))
  have h132 := mvL_132 hG
  -- a list written out
  have hwr : ∀ (l : List (Nat × Nat)) (p : Nat × Nat) (mF mT : Nat → Int32), (∀ c, c < l.length → mF c = nI (l.getD c (0, 0)).1 ∧ mT c = nI (l.getD c (0, 0)).2) → ∀ c, c < (l ++ [p]).length → upd mF l.length (nI p.1) c = nI ((l ++ [p]).getD c (0, 0)).1 ∧ upd mT l.length (nI p.2) c = nI ((l ++ [p]).getD c (0, 0)).2 := fun l p mF mT h c hc => by
    rw [List.length_append] at hc
    have hc : c < l.length + 1 := hc
    rw [List.getD_eq_getElem?_getD]
    by_cases e : c = l.length
    · rw [e, upd_at, upd_at, List.getElem?_append_right (Nat.le_refl _), Nat.sub_self]
      exact ⟨rfl, rfl⟩
    · rw [upd_ne e, upd_ne e, List.getElem?_append_left (by omega), ← List.getD_eq_getElem?_getD]
      exact h c (by omega)
  have hle : ∀ k, k < n → ∀ j, j ≤ n → (mvL n nx k ++ mvA nx k j).length ≤ 132 := fun k hk j hj => by
    have hsub : (mvL n nx k).length + (mvA nx k n).length ≤ (mvL n nx n).length := by
      have key : ∀ d, k + 1 + d ≤ n → (mvL n nx k).length + (mvA nx k n).length ≤ (mvL n nx (k + 1 + d)).length := by
        intro d
        induction d with
        | zero =>
          intro _
          show _ ≤ (mvL n nx k ++ mvA nx k n).length
          rw [List.length_append]
          exact Nat.le_refl _
        | succ d ih =>
          intro hd
          have := ih (by omega)
          show _ ≤ (mvL n nx (k + 1 + d) ++ mvA nx (k + 1 + d) n).length
          rw [List.length_append]
          omega
      have := key (n - (k + 1)) (by omega)
      rw [show k + 1 + (n - (k + 1)) = n by omega] at this
      exact this
    have hA : ∀ d, j + d ≤ n → (mvA nx k j).length ≤ (mvA nx k (j + d)).length := by
      intro d
      induction d with
      | zero => intro _; exact Nat.le_refl _
      | succ d ih =>
        intro hd
        have := ih (by omega)
        show _ ≤ (mvA nx k (j + d) ++ _).length
        rw [List.length_append]
        omega
    have := hA (n - j) (by omega)
    rw [show j + (n - j) = n by omega] at this
    rw [List.length_append]
    omega
  have inner : ∀ k, k < n → ∀ (mF mT : Nat → Int32), (∀ c, c < (mvL n nx k).length → mF c = nI ((mvL n nx k).getD c (0, 0)).1 ∧ mT c = nI ((mvL n nx k).getD c (0, 0)).2) → ∃ mF' mT', lp (Mo_listsMoves_L17 (nI k) nextTo (nI n)) (0, mF, mT, nI (mvL n nx k).length) = some (mF', mT', nI (mvL n nx (k + 1)).length) ∧ ∀ c, c < (mvL n nx (k + 1)).length → mF' c = nI ((mvL n nx (k + 1)).getD c (0, 0)).1 ∧ mT' c = nI ((mvL n nx (k + 1)).getD c (0, 0)).2 := by
    intro k hk mF mT h0
    obtain ⟨⟨mF', mT', mm'⟩, r1, r2, r3⟩ := lp_inv (f := Mo_listsMoves_L17 (nI k) nextTo (nI n)) (fun j u => u.1 = nI j ∧ u.2.2.2 = nI (mvL n nx k ++ mvA nx k j).length ∧ ∀ c, c < (mvL n nx k ++ mvA nx k j).length → u.2.1 c = nI ((mvL n nx k ++ mvA nx k j).getD c (0, 0)).1 ∧ u.2.2.1 c = nI ((mvL n nx k ++ mvA nx k j).getD c (0, 0)).2) n (fun r => r.2.2 = nI (mvL n nx (k + 1)).length ∧ ∀ c, c < (mvL n nx (k + 1)).length → r.1 c = nI ((mvL n nx (k + 1)).getD c (0, 0)).1 ∧ r.2.1 c = nI ((mvL n nx (k + 1)).getD c (0, 0)).2)
      (by
        rintro j ⟨u1, mF, mT, mm⟩ hj ⟨e1, e2, e3⟩
        dsimp only at e1 e2 e3
        subst e1; subst e2
        left
        have hl := hle k hk j (by omega)
        have hl2 := hle k hk (j + 1) (by omega)
        cases hb : (nx k).testBit j with
        | false =>
          have e : mvL n nx k ++ mvA nx k (j + 1) = mvL n nx k ++ mvA nx k j := by
            show mvL n nx k ++ (mvA nx k j ++ (if (nx k).testBit j then [(k, j)] else [])) = _
            rw [hb, if_neg (by decide), List.append_nil]
          refine ⟨(nI j + 1, mF, mT, nI (mvL n nx k ++ mvA nx k j).length), ?_, nI_ad j 1, by rw [e], by rw [e]; exact e3⟩
          unfold Mo_listsMoves_L17 Mo_listsMoves_L17_J71
          dsimp only
          rw [if_pos ((nI_ltN (by omega) (by omega)).mpr hj), gd_eq (ixN (show k < 12 by omega) (by omega)), nI_clamp (show k < 2 ^ 31 by omega), hx k (by omega), ob_eq (Mo_has_eq (hlt k) (show j < 32 by omega)), hb, if_pos (show (if false = true then (1 : Int32) else 0) = 0 from rfl)]
        | true =>
          have e : mvL n nx k ++ mvA nx k (j + 1) = (mvL n nx k ++ mvA nx k j) ++ [(k, j)] := by
            show mvL n nx k ++ (mvA nx k j ++ (if (nx k).testBit j then [(k, j)] else [])) = _
            rw [hb, if_pos rfl, List.append_assoc]
          have hl3 : (mvL n nx k ++ mvA nx k j).length + 1 ≤ 132 := by
            rw [e, List.length_append] at hl2
            exact hl2
          refine ⟨(nI j + 1, upd mF (mvL n nx k ++ mvA nx k j).length (nI k), upd mT (mvL n nx k ++ mvA nx k j).length (nI j), nI (mvL n nx k ++ mvA nx k j).length + 1), ?_, nI_ad j 1, ?_, ?_⟩
          · unfold Mo_listsMoves_L17 Mo_listsMoves_L17_J71
            dsimp only
            rw [if_pos ((nI_ltN (by omega) (by omega)).mpr hj), gd_eq (ixN (show k < 12 by omega) (by omega)), nI_clamp (show k < 2 ^ 31 by omega), hx k (by omega), ob_eq (Mo_has_eq (hlt k) (show j < 32 by omega)), hb, if_neg (show ¬ (if true = true then (1 : Int32) else 0) = 0 by decide), gd_eq (ixN (by omega) (by omega)), gd_eq (ixN (by omega) (by omega)), nI_clamp (by omega)]
          · show nI (mvL n nx k ++ mvA nx k j).length + 1 = _
            rw [e, List.length_append (bs := [(k, j)])]; exact nI_ad _ 1
          · rw [e]; exact hwr _ (k, j) mF mT e3)
      (by
        rintro ⟨u1, mF, mT, mm⟩ ⟨e1, e2, e3⟩
        dsimp only at e1 e2 e3
        subst e1
        refine ⟨(mF, mT, mm), ?_, e2, e3⟩
        unfold Mo_listsMoves_L17
        exact if_neg (fun z => by have := (nI_ltN (by omega) (by omega)).mp z; omega))
      0 (0, mF, mT, nI (mvL n nx k).length) (Nat.zero_le _) ⟨rfl, by
        show nI (mvL n nx k).length = nI (mvL n nx k ++ []).length
        rw [List.append_nil], by
        show ∀ c, c < (mvL n nx k ++ []).length → mF c = nI ((mvL n nx k ++ []).getD c (0, 0)).1 ∧ mT c = nI ((mvL n nx k ++ []).getD c (0, 0)).2
        rw [List.append_nil]; exact h0⟩
    dsimp only at r2
    subst r2
    exact ⟨mF', mT', r1, r3⟩
  obtain ⟨⟨mF', mT', mm'⟩, r1, r2, r3⟩ := lp_inv (f := Mo_listsMoves_L7 nextTo (nI n)) (fun k u => u.1 = nI k ∧ u.2.2.2 = nI (mvL n nx k).length ∧ ∀ c, c < (mvL n nx k).length → u.2.1 c = nI ((mvL n nx k).getD c (0, 0)).1 ∧ u.2.2.1 c = nI ((mvL n nx k).getD c (0, 0)).2) n (fun r => r.2.2 = nI (mvL n nx n).length ∧ ∀ c, c < (mvL n nx n).length → r.1 c = nI ((mvL n nx n).getD c (0, 0)).1 ∧ r.2.1 c = nI ((mvL n nx n).getD c (0, 0)).2)
    (by
      rintro k ⟨u1, mF, mT, mm⟩ hk ⟨e1, e2, e3⟩
      dsimp only at e1 e2 e3
      subst e1; subst e2
      left
      obtain ⟨mF', mT', q1, q2⟩ := inner k hk mF mT e3
      refine ⟨(nI k + 1, mF', mT', nI (mvL n nx (k + 1)).length), ?_, nI_ad k 1, rfl, q2⟩
      unfold Mo_listsMoves_L7
      dsimp only
      rw [if_pos ((nI_ltN (by omega) (by omega)).mpr hk), ob_eq q1])
    (by
      rintro ⟨u1, mF, mT, mm⟩ ⟨e1, e2, e3⟩
      dsimp only at e1 e2 e3
      subst e1
      refine ⟨(mF, mT, mm), ?_, e2, e3⟩
      unfold Mo_listsMoves_L7
      exact if_neg (fun z => by have := (nI_ltN (by omega) (by omega)).mp z; omega))
    0 (0, mF, mT, 0) (Nat.zero_le _) ⟨rfl, rfl, fun c hc => (by cases hc)⟩
  dsimp only at r2
  subst r2
  refine ⟨mF', mT', ?_, h132, r3⟩
  unfold Mo_listsMoves
  rw [ob_eq r1]
theorem fillsR_ok (hG : GoodG n nx) {gF gT mF mT now : Nat → Int32} (hre : reS n nx ln N gF gT) (hrm : rmS (mvL n nx n) mF mT) (hN : N ≤ 10) (hthr : thr < 12) (hnow : now 24 = nI thr) {s : Nat → Int} (hs : stB s 40) (hn : ∀ w, w < 12 → now w = iI (s w)) (tried left tF tT : Nat → Int32) (w l m : Int32) :
    ∃ tried' left' tF' tT' w' l' m', Mo_fillsLedger now gF gT tried left mF mT tF tT (nI N) (nI (mvL n nx n).length) w l m = some (tried', left', tF', tT', w', l', m') ∧ acR (ouL ln (mvL n nx n) thr N 0 s) w' l' m' := by
  obtain ⟨left1, r1, r2⟩ := lp_inv (f := Mo_fillsLedger_L19 now) (fun k u => u.1 = nI k ∧ ∀ w, w < k → u.2 w = iI (s w)) 12 (fun r => rowI r s)
    (by
      rintro k ⟨u1, le⟩ hk ⟨e1, e2⟩
      dsimp only at e1 e2
      subst e1
      left
      refine ⟨(nI k + 1, upd le k (iI (s k))), ?_, nI_ad k 1, fun w hw => ?_⟩
      · unfold Mo_fillsLedger_L19
        dsimp only
        rw [if_pos (show nI k < 12 from (nI_ltN (b := 12) (by omega) (by omega)).mpr hk), Int32.zero_add, gd_eq (ixN (show k < 27 by omega) (by omega)), gd_eq (ixN hk (by omega)), nI_clamp (show k < 2 ^ 31 by omega), hn k hk]
      · show upd le k _ w = _
        by_cases y : w = k
        · rw [y, upd_at]
        · rw [upd_ne y]; exact e2 w (by omega))
    (by
      rintro ⟨u1, le⟩ ⟨e1, e2⟩
      dsimp only at e1 e2
      subst e1
      refine ⟨le, ?_, e2⟩
      unfold Mo_fillsLedger_L19
      exact if_neg (show ¬ nI 12 < 12 by decide))
    0 (0, left) (Nat.zero_le _) ⟨rfl, fun w hw => by omega⟩
  obtain ⟨tried', left', tF', tT', w', l', mo', -, -, d3, d4⟩ := dfs_ok (thr := thr) hG hre hrm hN hthr hnow N 0 (by omega) s (fun w hw => by have := hs w hw; omega) (upd tried 0 0) left1 tF tT [] 0 (-2) (-2) (fun _ => by rw [upd_at]; rfl) r2 ⟨rfl, Or.inl ⟨rfl, rfl⟩, by decide⟩ (fun x hx => by cases hx)
  rw [List.nil_append] at d3
  have h1 := d4 (Sum.inl (tried', left', tF', tT', w', l', mo')) (by
    unfold Mo_fillsLedger_L54_J164
    rw [if_pos (show nI 0 - 1 < 0 by decide)]
    rfl)
  refine ⟨tried', left', tF', tT', w', l', mo', ?_, d3⟩
  unfold Mo_fillsLedger
  rw [ob_eq r1, gd_eq (show ix 0 10 = true from rfl), show ((0 : Int32).toNatClampNeg) = 0 from rfl, ob_eq (show lp (Mo_fillsLedger_L54 now gF gT mF mT (nI N) (nI (mvL n nx n).length)) (0, upd tried 0 0, left1, tF, tT, 0, -2, -2) = _ from h1)]
  rfl
theorem fillC_ok (hG : GoodG n nx) (hx : ∀ w, w < 12 → next w = nI (nx w)) (hthr : thr < 12) (hL : ldS n nx ln N L A) (hca : caS ln A L needs changes) {s : Nat → Int} (hs : stB s 40) {jars : Nat → Int32} (hj : ∀ w, w < 12 → jars w = iI (s w)) (row : Nat → Int32) (t w l m : Int32) :
    ∃ row' w' l' m', Ledger_fill needs changes row (nI L) t w l m (nI n) next jars (nI thr) = some (row', nI thr, w', l', m') ∧ acI (ouL ln (mvL n nx n) thr N 0 s) 0 2147483647 0 w' l' m' := by
  have hA0 := hL.2.2.1
  have hL3 := hL.1
  obtain ⟨row', w', l', m', q1, q2, q3⟩ := go_ok hG hx hthr hL hca 5 0 (Nat.zero_le _) (by omega) s (va_cpy jars row 0 0 12) 0 2147483647 0 (fun w hw => by have := hs w hw; rw [hA0]; omega) (fun w hw => by rw [cpy_n hw]; exact hj w hw) ⟨by omega, by omega, by omega, by omega⟩
  rw [hA0, Nat.sub_zero] at q3
  refine ⟨row', w', l', m', ?_, q3⟩
  unfold Ledger_fill
  rw [gd_eq (show cpOk 0 0 12 12 12 = true from rfl)]
  exact ob_eq q1
end FLS
