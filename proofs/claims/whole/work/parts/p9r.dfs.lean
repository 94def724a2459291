/-! LEDGERS: the reference goes all ways -/
def acR (zs : List Int) (w l m : Int32) : Prop := w = nI zs.length ∧ ((zs = [] ∧ l = -2) ∨ (¬ zs = [] ∧ l = iI (zs.foldl min 2147483647))) ∧ m = iI (zs.foldl max (-2))
noncomputable def stpL {σ ρ : Type} (f : σ → Option (σ ⊕ ρ)) (o : Option (σ ⊕ ρ)) : Option ρ := ob o (fun z => sm z (lp f) some)
theorem stpL_lp {σ ρ : Type} {f : σ → Option (σ ⊕ ρ)} {s : σ} {o : Option (σ ⊕ ρ)} {r : ρ} (h : f s = o) (h2 : stpL f o = some r) : lp f s = some r := by
  unfold stpL at h2
  obtain ⟨z, z1, z2⟩ := ob_some h2
  rw [z1] at h
  cases z with
  | inl s' => exact lp_inl h z2
  | inr r' =>
    have z2 : some r' = some r := z2
    rw [← Option.some.inj z2]
    exact lp_inr h
theorem drop_step {cl : List (Nat × Nat)} {G : Nat × Nat → List Int} : ∀ {d j c : Nat}, j + d = c → c < cl.length → (∀ i, j ≤ i → i < c → G (cl.getD i (0, 0)) = []) → (cl.drop j).flatMap G = G (cl.getD c (0, 0)) ++ (cl.drop (c + 1)).flatMap G := by
  intro d
  induction d with
  | zero =>
    intro j c hd hc _
    have e : j = c := by omega
    subst e
    rw [List.drop_eq_getElem_cons hc, List.flatMap_cons, List.getD_eq_getElem?_getD, List.getElem?_eq_getElem hc]
    rfl
  | succ d ih =>
    intro j c hd hc hG
    have hj : j < cl.length := by omega
    rw [List.drop_eq_getElem_cons hj, List.flatMap_cons]
    have h1 := hG j (Nat.le_refl _) (by omega)
    rw [List.getD_eq_getElem?_getD, List.getElem?_eq_getElem hj] at h1
    have h1 : G cl[j] = [] := h1
    rw [h1, List.nil_append]
    exact ih (by omega) hc (fun i h2 h3 => hG i (by omega) h3)
theorem drop_none {cl : List (Nat × Nat)} {G : Nat × Nat → List Int} {j : Nat} (hG : ∀ i, j ≤ i → i < cl.length → G (cl.getD i (0, 0)) = []) : (cl.drop j).flatMap G = [] := by
  rw [List.eq_nil_iff_forall_not_mem]
  intro x hx
  obtain ⟨p, p1, p2⟩ := List.mem_flatMap.mp hx
  obtain ⟨i, hi, he⟩ := List.getElem_of_mem p1
  rw [List.length_drop] at hi
  rw [List.getElem_drop] at he
  have := hG (j + i) (by omega) (by omega)
  rw [List.getD_eq_getElem?_getD, List.getElem?_eq_getElem (show j + i < cl.length by omega)] at this
  have this : G cl[j + i] = [] := this
  rw [he] at this
  rw [this] at p2
  cases p2
section DFS
variable {n : Nat} {nx : Nat → Nat} {ln : LnF} {N thr : Nat} {now gF gT mF mT : Nat → Int32} {ml : List (Nat × Nat)}
/-- what the reference has read -/
def reS (n : Nat) (nx : Nat → Nat) (ln : LnF) (N : Nat) (gF gT : Nat → Int32) : Prop := ∀ i, i < N → (ln i = none ∧ gF i = -1) ∨ ∃ p, ln i = some p ∧ p.1 < n ∧ p.2 < n ∧ (nx p.1).testBit p.2 = true ∧ gF i = nI p.1 ∧ gT i = nI p.2
def rmS (ml : List (Nat × Nat)) (mF mT : Nat → Int32) : Prop := ml.length ≤ 132 ∧ ∀ c, c < ml.length → mF c = nI (ml.getD c (0, 0)).1 ∧ mT c = nI (ml.getD c (0, 0)).2
theorem chc_mem (hG : GoodG n nx) (hre : reS n nx ln N gF gT) {i : Nat} (hi : i < N) {p : Nat × Nat} (hp : p ∈ chc ln (mvL n nx n) i) : p.1 < n ∧ p.2 < n ∧ (nx p.1).testBit p.2 = true ∧ ¬ p.1 = p.2 := by
  have key : p.1 < n ∧ p.2 < n ∧ (nx p.1).testBit p.2 = true := by
    rcases hre i hi with ⟨h1, -⟩ | ⟨q, h1, h2, h3, h4, -⟩
    · rw [chc_none h1] at hp; exact mvL_mem.mp hp
    · rw [chc_some h1, List.mem_singleton] at hp
      rw [hp]; exact ⟨h2, h3, h4⟩
  exact ⟨key.1, key.2.1, key.2.2, fun e => by have := key.2.2; rw [e, hG.2.2.2.2] at this; cases this⟩
theorem goesLine_ok (hG : GoodG n nx) (hre : reS n nx ln N gF gT) (hrm : rmS (mvL n nx n) mF mT) (hN : N ≤ 10) {i : Nat} (hi : i < N) {s : Nat → Int} (hs : stB s 60) {left : Nat → Int32} (hl : rowI left s) {tried : Nat → Int32} {j : Nat} (hj : j ≤ (chc ln (mvL n nx n) i).length) (htr : tried i = nI j) (tF tT : Nat → Int32) :
    (∃ c tr, j ≤ c ∧ c < (chc ln (mvL n nx n) i).length ∧ 2 ≤ s ((chc ln (mvL n nx n) i).getD c (0, 0)).1 ∧ (∀ c', j ≤ c' → c' < c → s ((chc ln (mvL n nx n) i).getD c' (0, 0)).1 < 2) ∧ tr i = nI (c + 1) ∧ (∀ i', ¬ i' = i → tr i' = tried i') ∧
      Mo_goesLine gF gT tried left mF mT tF tT (nI (mvL n nx n).length) (nI i) = some (1, tr, upd (upd left ((chc ln (mvL n nx n) i).getD c (0, 0)).1 (left ((chc ln (mvL n nx n) i).getD c (0, 0)).1 - 2)) ((chc ln (mvL n nx n) i).getD c (0, 0)).2 ((upd left ((chc ln (mvL n nx n) i).getD c (0, 0)).1 (left ((chc ln (mvL n nx n) i).getD c (0, 0)).1 - 2)) ((chc ln (mvL n nx n) i).getD c (0, 0)).2 + 1), upd tF i (nI ((chc ln (mvL n nx n) i).getD c (0, 0)).1), upd tT i (nI ((chc ln (mvL n nx n) i).getD c (0, 0)).2))) ∨
    (∃ tr, (∀ c', j ≤ c' → c' < (chc ln (mvL n nx n) i).length → s ((chc ln (mvL n nx n) i).getD c' (0, 0)).1 < 2) ∧ (∀ i', ¬ i' = i → tr i' = tried i') ∧ Mo_goesLine gF gT tried left mF mT tF tT (nI (mvL n nx n).length) (nI i) = some (0, tr, left, tF, tT)) := by
  have n12 := hG.1
  have hixi : ix (nI i) 10 = true := ixN (by omega) (by omega)
  obtain ⟨h132, hmm⟩ := hrm
  have hpm : ∀ c, c < (chc ln (mvL n nx n) i).length → ((chc ln (mvL n nx n) i).getD c (0, 0)).1 < n ∧ ((chc ln (mvL n nx n) i).getD c (0, 0)).2 < n := fun c hc => by
    have hm : (chc ln (mvL n nx n) i).getD c (0, 0) ∈ chc ln (mvL n nx n) i := by
      rw [List.getD_eq_getElem?_getD, List.getElem?_eq_getElem hc]
      exact List.getElem_mem hc
    have := chc_mem hG hre hi hm
    exact ⟨this.1, this.2.1⟩
  have hlen : (chc ln (mvL n nx n) i).length ≤ 132 := by
    rcases hre i hi with ⟨h1, -⟩ | ⟨q, h1, -⟩
    · rw [chc_none h1]; exact h132
    · rw [chc_some h1]; show 1 ≤ 132; omega
  -- one try
  have hone : ∀ (tr : Nat → Int32) (c : Nat), c < (chc ln (mvL n nx n) i).length → tr i = nI c → Mo_goesLine_L19 (nI i) (nI (chc ln (mvL n nx n) i).length) gF gT left mF mT tr = Mo_goesLine_L19_J90 (nI i) (nI (chc ln (mvL n nx n) i).length) (nI ((chc ln (mvL n nx n) i).getD c (0, 0)).1) (nI ((chc ln (mvL n nx n) i).getD c (0, 0)).2) gF gT tr left mF mT := fun tr c hc ht => by
    unfold Mo_goesLine_L19 Mo_goesLine_L19_J59
    rw [gd_eq hixi, nI_clamp (show i < 2 ^ 31 by omega), ht, if_pos ((nI_ltN (by omega) (by omega)).mpr hc), gd_eq hixi, gd_eq hixi, gd_eq hixi, nI_clamp (show c < 2 ^ 31 by omega)]
    rcases hre i hi with ⟨h1, h2⟩ | ⟨q, h1, q1, q2, q3, q4, q5⟩
    · rw [chc_none h1] at hc ⊢
      rw [if_pos h2, gd_eq (ixN (show c < 132 by omega) (by omega)), if_pos h2, gd_eq (ixN (show c < 132 by omega) (by omega)), (hmm c hc).1, (hmm c hc).2]
      exact gd_eq hixi
    · have hne : ¬ gF i = -1 := fun z => nI_pos (show q.1 < 2 ^ 31 by omega) (by rw [← q4, z]; decide)
      have hc0 : c = 0 := by
        rw [chc_some h1] at hc
        have hc : c < 1 := hc
        omega
      rw [if_neg hne, if_neg hne, chc_some h1, hc0, q4, q5, gd_eq hixi, gd_eq hixi, gd_eq hixi]
      rfl
  have hJ90 : ∀ (tr : Nat → Int32) (c : Nat), c < (chc ln (mvL n nx n) i).length → tr i = nI c → Mo_goesLine_L19_J90 (nI i) (nI (chc ln (mvL n nx n) i).length) (nI ((chc ln (mvL n nx n) i).getD c (0, 0)).1) (nI ((chc ln (mvL n nx n) i).getD c (0, 0)).2) gF gT tr left mF mT = if iI (s ((chc ln (mvL n nx n) i).getD c (0, 0)).1) < 2 then some (.inl (upd tr i (nI (c + 1)))) else some (.inr (.inl (nI ((chc ln (mvL n nx n) i).getD c (0, 0)).1, nI ((chc ln (mvL n nx n) i).getD c (0, 0)).2, upd tr i (nI (c + 1))))) := fun tr c hc ht => by
    have := hpm c hc
    unfold Mo_goesLine_L19_J90
    rw [gd_eq hixi, gd_eq hixi, gd_eq (ixN (show ((chc ln (mvL n nx n) i).getD c (0, 0)).1 < 12 by omega) (by omega)), nI_clamp (show ((chc ln (mvL n nx n) i).getD c (0, 0)).1 < 2 ^ 31 by omega), nI_clamp (show i < 2 ^ 31 by omega), hl _ (by omega), ht, show nI c + 1 = nI (c + 1) from nI_ad c 1]
  obtain ⟨r, r1, r2⟩ := lp_inv (f := Mo_goesLine_L19 (nI i) (nI (chc ln (mvL n nx n) i).length) gF gT left mF mT) (fun k tr => tr i = nI (j + k) ∧ (∀ i', ¬ i' = i → tr i' = tried i') ∧ ∀ c', j ≤ c' → c' < j + k → s ((chc ln (mvL n nx n) i).getD c' (0, 0)).1 < 2) ((chc ln (mvL n nx n) i).length - j)
    (fun r => (∃ c tr, r = Sum.inl (nI ((chc ln (mvL n nx n) i).getD c (0, 0)).1, nI ((chc ln (mvL n nx n) i).getD c (0, 0)).2, tr) ∧ j ≤ c ∧ c < (chc ln (mvL n nx n) i).length ∧ 2 ≤ s ((chc ln (mvL n nx n) i).getD c (0, 0)).1 ∧ (∀ c', j ≤ c' → c' < c → s ((chc ln (mvL n nx n) i).getD c' (0, 0)).1 < 2) ∧ tr i = nI (c + 1) ∧ ∀ i', ¬ i' = i → tr i' = tried i') ∨
      (∃ tr, r = Sum.inr tr ∧ (∀ c', j ≤ c' → c' < (chc ln (mvL n nx n) i).length → s ((chc ln (mvL n nx n) i).getD c' (0, 0)).1 < 2) ∧ ∀ i', ¬ i' = i → tr i' = tried i'))
    (by
      rintro k tr hk ⟨e1, e2, e3⟩
      have hc : j + k < (chc ln (mvL n nx n) i).length := by omega
      have hp := hpm (j + k) hc
      have hsp := hs ((chc ln (mvL n nx n) i).getD (j + k) (0, 0)).1 (by omega)
      have hhead := (hone tr (j + k) hc e1).trans (hJ90 tr (j + k) hc e1)
      by_cases z : s ((chc ln (mvL n nx n) i).getD (j + k) (0, 0)).1 < 2
      · left
        refine ⟨_, hhead.trans (if_pos ((iI_lt (b := 2) ⟨by omega, by omega⟩ ⟨by omega, by omega⟩).mpr z)), ?_, fun i' h => ?_, fun c' h1 h2 => ?_⟩
        · rw [upd_at]; rfl
        · rw [upd_ne h]; exact e2 i' h
        · by_cases y : c' = j + k
          · rw [y]; exact z
          · exact e3 c' h1 (by omega)
      · right
        refine ⟨_, hhead.trans (if_neg (fun y => z ((iI_lt (b := 2) ⟨by omega, by omega⟩ ⟨by omega, by omega⟩).mp y))), Or.inl ⟨j + k, _, rfl, by omega, hc, by omega, e3, by rw [upd_at], fun i' h => ?_⟩⟩
        rw [upd_ne h]; exact e2 i' h)
    (by
      rintro tr ⟨e1, e2, e3⟩
      rw [show j + ((chc ln (mvL n nx n) i).length - j) = (chc ln (mvL n nx n) i).length by omega] at e1 e3
      refine ⟨Sum.inr tr, ?_, Or.inr ⟨tr, rfl, e3, e2⟩⟩
      unfold Mo_goesLine_L19
      rw [gd_eq hixi, nI_clamp (show i < 2 ^ 31 by omega), e1, if_neg (fun z => by have := (nI_ltN (by omega) (by omega)).mp z; omega)])
    0 tried (Nat.zero_le _) ⟨htr, fun _ _ => rfl, fun c' h1 h2 => by omega⟩
  have hhead : Mo_goesLine gF gT tried left mF mT tF tT (nI (mvL n nx n).length) (nI i) = Mo_goesLine_J18 (nI i) (nI (chc ln (mvL n nx n) i).length) gF gT tried left mF mT tF tT (nI (mvL n nx n).length) := by
    unfold Mo_goesLine
    rw [gd_eq hixi, nI_clamp (show i < 2 ^ 31 by omega)]
    rcases hre i hi with ⟨h1, h2⟩ | ⟨q, h1, q1, q2, q3, q4, q5⟩
    · rw [if_pos h2, chc_none h1]
    · rw [if_neg (show ¬ gF i = -1 from fun z => nI_pos (show q.1 < 2 ^ 31 by omega) (by rw [← q4, z]; decide)), chc_some h1]
      rfl
  rw [hhead]
  unfold Mo_goesLine_J18
  rw [ob_eq r1]
  rcases r2 with ⟨c, tr, rfl, c1, c2, c3, c4, c5, c6⟩ | ⟨tr, rfl, c1, c2⟩
  · left
    obtain ⟨p1, p2⟩ := hpm c c2
    refine ⟨c, tr, c1, c2, c3, c4, c5, c6, ?_⟩
    dsimp only [sm]
    have i1 : ix (nI ((chc ln (mvL n nx n) i).getD c (0, 0)).1) 12 = true := ixN (by omega) (by omega)
    have i2 : ix (nI ((chc ln (mvL n nx n) i).getD c (0, 0)).2) 12 = true := ixN (by omega) (by omega)
    rw [gd_eq i1, gd_eq i1, gd_eq i2, gd_eq i2, gd_eq hixi, gd_eq hixi, nI_clamp (show ((chc ln (mvL n nx n) i).getD c (0, 0)).1 < 2 ^ 31 by omega), nI_clamp (show ((chc ln (mvL n nx n) i).getD c (0, 0)).2 < 2 ^ 31 by omega), nI_clamp (show i < 2 ^ 31 by omega)]
  · right
    exact ⟨tr, c1, c2, rfl⟩
abbrev DfS := Int32 × (Nat → Int32) × (Nat → Int32) × (Nat → Int32) × (Nat → Int32) × Int32 × Int32 × Int32
theorem acR_tell {zs : List Int} {w l m : Int32} (h : acR zs w l m) (hz : oiB zs) {x : Int} (hx : 0 ≤ x ∧ x ≤ 100) : ∃ l', (l = -2 ∧ l' = iI x ∨ ¬ l = -2 ∧ Mo_min l (iI x) = some l') ∧ ∃ m', Mo_max m (iI x) = some m' ∧ acR (zs ++ [x]) (w + 1) l' m' := by
  obtain ⟨h1, h2, h3⟩ := h
  obtain ⟨b1, b2, b3⟩ := fold_max (xs := zs) (l := -2)
  have hmx : zs.foldl max (-2) ≤ 100 := by
    rcases b3 with e | e
    · omega
    · exact (hz _ e).2
  have hw : w + 1 = nI (zs ++ [x]).length := by
    rw [h1, List.length_append]; exact nI_ad _ 1
  have hm : Mo_max m (iI x) = some (iI ((zs ++ [x]).foldl max (-2))) := by
    rw [h3, Mo_max_jmax, iI_max ⟨by omega, by omega⟩ ⟨by omega, by omega⟩, List.foldl_append]
    rfl
  have hne : ¬ zs ++ [x] = [] := fun e => by
    have := congrArg List.length e
    rw [List.length_append] at this
    have this : zs.length + 1 = 0 := this
    omega
  rcases h2 with ⟨z, rfl⟩ | ⟨z, rfl⟩
  · refine ⟨iI x, Or.inl ⟨rfl, rfl⟩, _, hm, hw, Or.inr ⟨hne, ?_⟩, rfl⟩
    rw [z]
    show iI x = iI (min 2147483647 x)
    rw [show min 2147483647 x = x by omega]
  · obtain ⟨c1, c2, c3⟩ := fold_min (xs := zs) (l := 2147483647)
    have hmn : 0 ≤ zs.foldl min 2147483647 := by
      rcases c3 with e | e
      · omega
      · exact (hz _ e).1
    refine ⟨iI ((zs ++ [x]).foldl min 2147483647), Or.inr ⟨fun e => ?_, ?_⟩, _, hm, hw, Or.inr ⟨hne, rfl⟩, rfl⟩
    · have e : iI (zs.foldl min 2147483647) = iI (-2) := e
      have := (iI_inj ⟨by omega, by omega⟩ ⟨by omega, by omega⟩).mp e
      omega
    · rw [Mo_min_jmin, iI_min ⟨by omega, by omega⟩ ⟨by omega, by omega⟩, List.foldl_append]
      rfl
theorem dfs_ok (hG : GoodG n nx) (hre : reS n nx ln N gF gT) (hrm : rmS (mvL n nx n) mF mT) (hN : N ≤ 10) (hthr : thr < 12) (hnow : now 24 = nI thr) : ∀ m i, i + m = N → ∀ s : Nat → Int, stB s (40 + (i : Int)) → ∀ (tried left tF tT : Nat → Int32) (zs : List Int) (w l mo : Int32), (i < N → tried i = nI 0) → rowI left s → acR zs w l mo → oiB zs →
    ∃ tried' left' tF' tT' w' l' mo', (∀ i', i' < i → tried' i' = tried i' ∧ tF' i' = tF i' ∧ tT' i' = tT i') ∧ rowI left' s ∧ acR (zs ++ ouL ln (mvL n nx n) thr m i s) w' l' mo' ∧ ∀ r, stpL (Mo_fillsLedger_L54 now gF gT mF mT (nI N) (nI (mvL n nx n).length)) (Mo_fillsLedger_L54_J164 (nI i) now gF gT tried' left' mF mT tF' tT' (nI N) (nI (mvL n nx n).length) w' l' mo') = some r → lp (Mo_fillsLedger_L54 now gF gT mF mT (nI N) (nI (mvL n nx n).length)) (nI i, tried, left, tF, tT, w, l, mo) = some r := by
  have n12 := hG.1
  intro m
  induction m with
  | zero =>
    intro i him s hs tried left tF tT zs w l mo _ hl hac hz
    have e : i = N := by omega
    subst e
    have ht := hs thr hthr
    obtain ⟨l', hl', m', hm', hac'⟩ := acR_tell hac hz (x := s thr) (by omega)
    refine ⟨tried, left, tF, tT, w + 1, l', m', fun _ _ => ⟨rfl, rfl, rfl⟩, hl, hac', fun r hr => stpL_lp ?_ hr⟩
    unfold Mo_fillsLedger_L54
    dsimp only
    rw [if_neg (nI_pos (show i < 2 ^ 31 by omega)), if_neg (fun z => by have := (nI_ltN (by omega) (by omega)).mp z; omega)]
    unfold Mo_fillsLedger_L54_J96
    rw [if_pos rfl, gd_eq (show ix 24 27 = true from rfl), show ((24 : Int32).toNatClampNeg) = 24 from rfl, hnow, gd_eq (ixN hthr (by omega)), nI_clamp (show thr < 2 ^ 31 by omega), hl thr hthr]
    rcases hl' with ⟨z, rfl⟩ | ⟨z, z2⟩
    · rw [if_pos z]
      unfold Mo_fillsLedger_L54_J149
      rw [ob_eq hm']
    · rw [if_neg z, ob_eq z2]
      unfold Mo_fillsLedger_L54_J149
      rw [ob_eq hm']
  | succ m ih =>
    intro i him s hs
    have hi : i < N := by omega
    have hs60 : stB s 60 := fun w hw => by have := hs w hw; omega
    have inner : ∀ (c j : Nat), (chc ln (mvL n nx n) i).length ≤ j + c → j ≤ (chc ln (mvL n nx n) i).length → ∀ (tried left tF tT : Nat → Int32) (zs : List Int) (w l mo : Int32), tried i = nI j → rowI left s → acR zs w l mo → oiB zs →
        ∃ tried' left' tF' tT' w' l' mo', (∀ i', i' < i → tried' i' = tried i' ∧ tF' i' = tF i' ∧ tT' i' = tT i') ∧ rowI left' s ∧ acR (zs ++ ((chc ln (mvL n nx n) i).drop j).flatMap (fun p => if 2 ≤ s p.1 then ouL ln (mvL n nx n) thr m (i + 1) (mvI s p) else [])) w' l' mo' ∧ ∀ r, stpL (Mo_fillsLedger_L54 now gF gT mF mT (nI N) (nI (mvL n nx n).length)) (Mo_fillsLedger_L54_J164 (nI i) now gF gT tried' left' mF mT tF' tT' (nI N) (nI (mvL n nx n).length) w' l' mo') = some r → lp (Mo_fillsLedger_L54 now gF gT mF mT (nI N) (nI (mvL n nx n).length)) (nI i, tried, left, tF, tT, w, l, mo) = some r := by
      intro c
      induction c with
      | zero =>
        intro j hc hj tried left tF tT zs w l mo htr hl hac hz
        rcases goesLine_ok hG hre hrm hN hi hs60 hl hj htr tF tT with ⟨c, tr, c1, c2, -⟩ | ⟨tr, c1, c2, c3⟩
        · omega
        · rw [drop_none (fun c' h1 h2 => if_neg (by have := c1 c' h1 h2; omega)), List.append_nil]
          refine ⟨tr, left, tF, tT, w, l, mo, fun i' h => ⟨c2 i' (by omega), rfl, rfl⟩, hl, hac, fun r hr => stpL_lp ?_ hr⟩
          unfold Mo_fillsLedger_L54 Mo_fillsLedger_L54_J96
          dsimp only
          rw [if_neg (nI_pos (show i < 2 ^ 31 by omega)), if_pos ((nI_ltN (by omega) (by omega)).mpr hi), ob_eq c3]
          dsimp only
          rw [if_pos rfl, if_neg (fun z => by have := (nI_inj (by omega) (by omega)).mp z; omega)]
      | succ c ihc =>
        intro j hc hj tried left tF tT zs w l mo htr hl hac hz
        rcases goesLine_ok hG hre hrm hN hi hs60 hl hj htr tF tT with ⟨c0, tr, c1, c2, c3, c4, c5, c6, c7⟩ | ⟨tr, c1, c2, c3⟩
        · -- a line is gone
          have hmem : (chc ln (mvL n nx n) i).getD c0 (0, 0) ∈ chc ln (mvL n nx n) i := by
            rw [List.getD_eq_getElem?_getD, List.getElem?_eq_getElem c2]
            exact List.getElem_mem c2
          obtain ⟨p, hp⟩ : ∃ p, p = (chc ln (mvL n nx n) i).getD c0 (0, 0) := ⟨_, rfl⟩
          rw [← hp] at c3 c7 hmem
          obtain ⟨p1, p2, p3, p4⟩ := chc_mem hG hre hi hmem
          have hleft : rowI (upd (upd left p.1 (left p.1 - 2)) p.2 ((upd left p.1 (left p.1 - 2)) p.2 + 1)) (mvI s p) := fun u hu => by
            have := mv_at (s := s) p4 u
            have e : mvI s (p.1, p.2) u = mvI s p u := rfl
            rw [← e, this]
            by_cases y : u = p.2
            · rw [y, upd_at, upd_ne (fun q => p4 q.symm), if_neg (fun q => p4 q.symm), if_pos rfl, hl _ (by omega)]
              exact iI_add _ 1
            · rw [upd_ne y]
              by_cases y2 : u = p.1
              · rw [y2, upd_at, if_pos rfl, hl _ (by omega)]
                exact iI_sub _ 2
              · rw [upd_ne y2, if_neg y2, if_neg y, hl u hu]
          have hs1 := mv_st hs c3
          obtain ⟨tr1, htr1, hstep⟩ : ∃ tr1, ((i + 1 < N → tr1 (i + 1) = nI 0) ∧ ∀ i', i' < i + 1 → tr1 i' = tr i') ∧ Mo_fillsLedger_L54 now gF gT mF mT (nI N) (nI (mvL n nx n).length) (nI i, tried, left, tF, tT, w, l, mo) = some (.inl (nI (i + 1), tr1, upd (upd left p.1 (left p.1 - 2)) p.2 ((upd left p.1 (left p.1 - 2)) p.2 + 1), upd tF i (nI p.1), upd tT i (nI p.2), w, l, mo)) := by
            by_cases y : i + 1 < N
            · refine ⟨upd tr (i + 1) 0, ⟨fun _ => by rw [upd_at]; rfl, fun i' h => upd_ne (by omega)⟩, ?_⟩
              unfold Mo_fillsLedger_L54
              dsimp only
              rw [if_neg (nI_pos (show i < 2 ^ 31 by omega)), if_pos ((nI_ltN (by omega) (by omega)).mpr hi), ob_eq c7]
              dsimp only
              rw [if_neg one_ne0, show nI i + 1 = nI (i + 1) from nI_ad i 1, if_pos ((nI_ltN (by omega) (by omega)).mpr y), gd_eq (ixN (show i + 1 < 10 by omega) (by omega)), nI_clamp (show i + 1 < 2 ^ 31 by omega)]
            · refine ⟨tr, ⟨fun z => absurd z y, fun _ _ => rfl⟩, ?_⟩
              unfold Mo_fillsLedger_L54
              dsimp only
              rw [if_neg (nI_pos (show i < 2 ^ 31 by omega)), if_pos ((nI_ltN (by omega) (by omega)).mpr hi), ob_eq c7]
              dsimp only
              rw [if_neg one_ne0, show nI i + 1 = nI (i + 1) from nI_ad i 1, if_neg (fun z => y ((nI_ltN (by omega) (by omega)).mp z))]
          obtain ⟨tr2, left2, tF2, tT2, w2, l2, mo2, d1, d2, d3, d4⟩ := ih (i + 1) (by omega) (mvI s p) (fun u hu => by have := hs1 u hu; omega) tr1 _ (upd tF i (nI p.1)) (upd tT i (nI p.2)) zs w l mo htr1.1 hleft hac hz
          -- and undone
          have hF2 : tF2 i = nI p.1 := by rw [(d1 i (by omega)).2.1, upd_at]
          have hT2 : tT2 i = nI p.2 := by rw [(d1 i (by omega)).2.2, upd_at]
          have hback : rowI (upd (upd left2 p.1 (left2 p.1 + 2)) p.2 ((upd left2 p.1 (left2 p.1 + 2)) p.2 - 1)) s := fun u hu => by
            have hmv : ∀ u, mvI s p u = if u = p.1 then s u - 2 else if u = p.2 then s u + 1 else s u := fun u => mv_at (s := s) p4 u
            by_cases y : u = p.2
            · rw [y, upd_at, upd_ne (fun q => p4 q.symm), d2 _ (by omega), hmv, if_neg (fun q => p4 q.symm), if_pos rfl, show iI (s p.2 + 1) - 1 = iI (s p.2 + 1 - 1) from iI_sub _ 1, show s p.2 + 1 - 1 = s p.2 by omega]
            · rw [upd_ne y]
              by_cases y2 : u = p.1
              · rw [y2, upd_at, d2 _ (by omega), hmv, if_pos rfl, show iI (s p.1 - 2) + 2 = iI (s p.1 - 2 + 2) from iI_add _ 2, show s p.1 - 2 + 2 = s p.1 by omega]
              · rw [upd_ne y2, d2 u hu, hmv, if_neg y2, if_neg y]
          have hund : Mo_fillsLedger_L54_J164 (nI (i + 1)) now gF gT tr2 left2 mF mT tF2 tT2 (nI N) (nI (mvL n nx n).length) w2 l2 mo2 = some (.inl (nI i, tr2, upd (upd left2 p.1 (left2 p.1 + 2)) p.2 ((upd left2 p.1 (left2 p.1 + 2)) p.2 - 1), tF2, tT2, w2, l2, mo2)) := by
            have i0 : ix (nI i) 10 = true := ixN (by omega) (by omega)
            have i1 : ix (nI p.1) 12 = true := ixN (by omega) (by omega)
            have i2 : ix (nI p.2) 12 = true := ixN (by omega) (by omega)
            unfold Mo_fillsLedger_L54_J164
            rw [show nI (i + 1) - 1 = nI i from nI_subN (a := i + 1) (b := 1) (by omega), if_neg (nI_pos (show i < 2 ^ 31 by omega)), gd_eq i0, gd_eq i0, nI_clamp (show i < 2 ^ 31 by omega), hF2, hT2, gd_eq i1, gd_eq i1, gd_eq i0, gd_eq i0, gd_eq i2, gd_eq i2, nI_clamp (show p.1 < 2 ^ 31 by omega), nI_clamp (show p.2 < 2 ^ 31 by omega)]
          obtain ⟨tr3, left3, tF3, tT3, w3, l3, mo3, f1, f2, f3, f4⟩ := ihc (c0 + 1) (by omega) (by omega) tr2 _ tF2 tT2 (zs ++ ouL ln (mvL n nx n) thr m (i + 1) (mvI s p)) w2 l2 mo2 (by rw [(d1 i (by omega)).1, htr1.2 i (by omega), c5]) hback d3 (oi_app hz (fun x hx => by
            have := ou_bd hthr m (i + 1) _ _ hs1 x hx
            omega))
          rw [List.append_assoc] at f3
          refine ⟨tr3, left3, tF3, tT3, w3, l3, mo3, fun i' h => ?_, f2, ?_, fun r hr => lp_inl hstep (d4 r ?_)⟩
          · obtain ⟨g1, g2, g3⟩ := f1 i' h
            obtain ⟨h1, h2, h3⟩ := d1 i' (by omega)
            refine ⟨g1.trans (h1.trans ((htr1.2 i' (by omega)).trans (c6 i' (by omega)))), g2.trans (h2.trans (upd_ne (by omega))), g3.trans (h3.trans (upd_ne (by omega)))⟩
          · rw [drop_step (d := c0 - j) (by omega) c2 (fun c' h1 h2 => if_neg (by have := c4 c' h1 h2; omega)), ← hp, if_pos c3]
            exact f3
          · rw [hund]
            exact f4 r hr
        · rw [drop_none (fun c' h1 h2 => if_neg (by have := c1 c' h1 h2; omega)), List.append_nil]
          refine ⟨tr, left, tF, tT, w, l, mo, fun i' h => ⟨c2 i' (by omega), rfl, rfl⟩, hl, hac, fun r hr => stpL_lp ?_ hr⟩
          unfold Mo_fillsLedger_L54 Mo_fillsLedger_L54_J96
          dsimp only
          rw [if_neg (nI_pos (show i < 2 ^ 31 by omega)), if_pos ((nI_ltN (by omega) (by omega)).mpr hi), ob_eq c3]
          dsimp only
          rw [if_pos rfl, if_neg (fun z => by have := (nI_inj (by omega) (by omega)).mp z; omega)]
    intro tried left tF tT zs w l mo htr hl hac hz
    exact inner (chc ln (mvL n nx n) i).length 0 (by omega) (Nat.zero_le _) tried left tF tT zs w l mo (htr hi) hl hac hz
end DFS
