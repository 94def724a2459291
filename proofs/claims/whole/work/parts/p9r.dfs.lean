/-! LEDGERS: the reference goes all ways -/
def acR (zs : List Int) (w l m : Int32) : Prop := w = nI zs.length ∧ ((zs = [] ∧ l = -2) ∨ (¬ zs = [] ∧ l = iI (zs.foldl min 2147483647))) ∧ m = iI (zs.foldl max (-2))
def stp {σ ρ : Type} (f : σ → Option (σ ⊕ ρ)) (o : Option (σ ⊕ ρ)) : Option ρ := ob o (fun z => sm z (lp f) some)
theorem stp_lp {σ ρ : Type} {f : σ → Option (σ ⊕ ρ)} {s : σ} {o : Option (σ ⊕ ρ)} {r : ρ} (h : f s = o) (h2 : stp f o = some r) : lp f s = some r := by
  unfold stp at h2
  obtain ⟨z, z1, z2⟩ := ob_some h2
  rw [z1] at h
  cases z with
  | inl s' => exact lp_inl h z2
  | inr r' =>
    have z2 : some r' = some r := z2
    rw [← Option.some.inj z2]
    exact lp_inr h
theorem drop_step {cl : List (Nat × Nat)} {G : Nat × Nat → List Int} : ∀ {d j c : Nat}, j + d = c → c < cl.length → (∀ i, j ≤ i → i < c → G (cl.getD i (0, 0)) = []) → (cl.drop j).flatMap G = G (cl.getD c (0, 0)) ++ (cl.drop (c + 1)).flatMap G := by
  intro d
  induction d with
  | zero =>
    intro j c hd hc _
    have e : j = c := by omega
    subst e
    rw [List.drop_eq_getElem_cons hc, List.flatMap_cons, List.getD_eq_getElem?_getD, List.getElem?_eq_getElem hc]
    rfl
  | succ d ih =>
    intro j c hd hc hG
    have hj : j < cl.length := by omega
    rw [List.drop_eq_getElem_cons hj, List.flatMap_cons]
    have h1 := hG j (Nat.le_refl _) (by omega)
    rw [List.getD_eq_getElem?_getD, List.getElem?_eq_getElem hj] at h1
    have h1 : G cl[j] = [] := h1
    rw [h1, List.nil_append]
    exact ih (by omega) hc (fun i h2 h3 => hG i (by omega) h3)
theorem drop_none {cl : List (Nat × Nat)} {G : Nat × Nat → List Int} {j : Nat} (hG : ∀ i, j ≤ i → i < cl.length → G (cl.getD i (0, 0)) = []) : (cl.drop j).flatMap G = [] := by
  rw [List.eq_nil_iff_forall_not_mem]
  intro x hx
  obtain ⟨p, p1, p2⟩ := List.mem_flatMap.mp hx
  obtain ⟨i, hi, he⟩ := List.getElem_of_mem p1
  rw [List.length_drop] at hi
  rw [List.getElem_drop] at he
  have := hG (j + i) (by omega) (by omega)
  rw [List.getD_eq_getElem?_getD, List.getElem?_eq_getElem (show j + i < cl.length by omega)] at this
  have this : G cl[j + i] = [] := this
  rw [he] at this
  rw [this] at p2
  cases p2
section DFS
variable {n : Nat} {nx : Nat → Nat} {ln : LnF} {N thr : Nat} {now gF gT mF mT : Nat → Int32} {ml : List (Nat × Nat)}
/-- what the reference has read -/
def reS (n : Nat) (nx : Nat → Nat) (ln : LnF) (N : Nat) (gF gT : Nat → Int32) : Prop := ∀ i, i < N → (ln i = none ∧ gF i = -1) ∨ ∃ p, ln i = some p ∧ p.1 < n ∧ p.2 < n ∧ (nx p.1).testBit p.2 = true ∧ gF i = nI p.1 ∧ gT i = nI p.2
def rmS (ml : List (Nat × Nat)) (mF mT : Nat → Int32) : Prop := ml.length ≤ 132 ∧ ∀ c, c < ml.length → mF c = nI (ml.getD c (0, 0)).1 ∧ mT c = nI (ml.getD c (0, 0)).2
theorem chc_mem (hG : GoodG n nx) (hre : reS n nx ln N gF gT) {i : Nat} (hi : i < N) {p : Nat × Nat} (hp : p ∈ chc ln (mvL n nx n) i) : p.1 < n ∧ p.2 < n ∧ (nx p.1).testBit p.2 = true ∧ ¬ p.1 = p.2 := by
  have key : p.1 < n ∧ p.2 < n ∧ (nx p.1).testBit p.2 = true := by
    rcases hre i hi with ⟨h1, -⟩ | ⟨q, h1, h2, h3, h4, -⟩
    · rw [chc_none h1] at hp; exact mvL_mem.mp hp
    · rw [chc_some h1, List.mem_singleton] at hp
      rw [hp]; exact ⟨h2, h3, h4⟩
  exact ⟨key.1, key.2.1, key.2.2, fun e => by have := key.2.2; rw [e, hG.2.2.2.2] at this; cases this⟩
theorem goesLine_ok (hG : GoodG n nx) (hre : reS n nx ln N gF gT) (hrm : rmS (mvL n nx n) mF mT) (hN : N ≤ 10) {i : Nat} (hi : i < N) {s : Nat → Int} (hs : stB s 60) {left : Nat → Int32} (hl : rowI left s) {tried : Nat → Int32} {j : Nat} (hj : j ≤ (chc ln (mvL n nx n) i).length) (htr : tried i = nI j) (tF tT : Nat → Int32) :
    (∃ c tr, j ≤ c ∧ c < (chc ln (mvL n nx n) i).length ∧ 2 ≤ s ((chc ln (mvL n nx n) i).getD c (0, 0)).1 ∧ (∀ c', j ≤ c' → c' < c → s ((chc ln (mvL n nx n) i).getD c' (0, 0)).1 < 2) ∧ tr i = nI (c + 1) ∧ (∀ i', ¬ i' = i → tr i' = tried i') ∧
      Mo_goesLine gF gT tried left mF mT tF tT (nI (mvL n nx n).length) (nI i) = some (1, tr, upd (upd left ((chc ln (mvL n nx n) i).getD c (0, 0)).1 (left ((chc ln (mvL n nx n) i).getD c (0, 0)).1 - 2)) ((chc ln (mvL n nx n) i).getD c (0, 0)).2 ((upd left ((chc ln (mvL n nx n) i).getD c (0, 0)).1 (left ((chc ln (mvL n nx n) i).getD c (0, 0)).1 - 2)) ((chc ln (mvL n nx n) i).getD c (0, 0)).2 + 1), upd tF i (nI ((chc ln (mvL n nx n) i).getD c (0, 0)).1), upd tT i (nI ((chc ln (mvL n nx n) i).getD c (0, 0)).2))) ∨
    (∃ tr, (∀ c', j ≤ c' → c' < (chc ln (mvL n nx n) i).length → s ((chc ln (mvL n nx n) i).getD c' (0, 0)).1 < 2) ∧ (∀ i', ¬ i' = i → tr i' = tried i') ∧ Mo_goesLine gF gT tried left mF mT tF tT (nI (mvL n nx n).length) (nI i) = some (0, tr, left, tF, tT)) := by
  have n12 := hG.1
  have hixi : ix (nI i) 10 = true := ixN (by omega) (by omega)
  obtain ⟨h132, hmm⟩ := hrm
  have hpm : ∀ c, c < (chc ln (mvL n nx n) i).length → ((chc ln (mvL n nx n) i).getD c (0, 0)).1 < n ∧ ((chc ln (mvL n nx n) i).getD c (0, 0)).2 < n := fun c hc => by
    have hm : (chc ln (mvL n nx n) i).getD c (0, 0) ∈ chc ln (mvL n nx n) i := by
      rw [List.getD_eq_getElem?_getD, List.getElem?_eq_getElem hc]
      exact List.getElem_mem hc
    have := chc_mem hG hre hi hm
    exact ⟨this.1, this.2.1⟩
  have hlen : (chc ln (mvL n nx n) i).length ≤ 132 := by
    rcases hre i hi with ⟨h1, -⟩ | ⟨q, h1, -⟩
    · rw [chc_none h1]; exact h132
    · rw [chc_some h1]; show 1 ≤ 132; omega
  -- one try
  have hone : ∀ (tr : Nat → Int32) (c : Nat), c < (chc ln (mvL n nx n) i).length → tr i = nI c → Mo_goesLine_L19 (nI i) (nI (chc ln (mvL n nx n) i).length) gF gT left mF mT tr = Mo_goesLine_L19_J90 (nI i) (nI (chc ln (mvL n nx n) i).length) (nI ((chc ln (mvL n nx n) i).getD c (0, 0)).1) (nI ((chc ln (mvL n nx n) i).getD c (0, 0)).2) gF gT tr left mF mT := fun tr c hc ht => by
    unfold Mo_goesLine_L19 Mo_goesLine_L19_J59
    rw [gd_eq hixi, nI_clamp (show i < 2 ^ 31 by omega), ht, if_pos ((nI_ltN (by omega) (by omega)).mpr hc), gd_eq hixi, gd_eq hixi, gd_eq hixi, nI_clamp (show c < 2 ^ 31 by omega)]
    rcases hre i hi with ⟨h1, h2⟩ | ⟨q, h1, q1, q2, q3, q4, q5⟩
    · rw [chc_none h1] at hc ⊢
      rw [if_pos h2, gd_eq (ixN (show c < 132 by omega) (by omega)), if_pos h2, gd_eq (ixN (show c < 132 by omega) (by omega)), (hmm c hc).1, (hmm c hc).2]
    · have hne : ¬ gF i = -1 := fun z => nI_pos (show q.1 < 2 ^ 31 by omega) (by rw [← q4, z]; decide)
      have hc0 : c = 0 := by
        rw [chc_some h1] at hc
        have hc : c < 1 := hc
        omega
      rw [if_neg hne, if_neg hne, chc_some h1, hc0, q4, q5]
      rfl
  have hJ90 : ∀ (tr : Nat → Int32) (c : Nat), c < (chc ln (mvL n nx n) i).length → tr i = nI c → Mo_goesLine_L19_J90 (nI i) (nI (chc ln (mvL n nx n) i).length) (nI ((chc ln (mvL n nx n) i).getD c (0, 0)).1) (nI ((chc ln (mvL n nx n) i).getD c (0, 0)).2) gF gT tr left mF mT = if iI (s ((chc ln (mvL n nx n) i).getD c (0, 0)).1) < 2 then some (.inl (upd tr i (nI (c + 1)))) else some (.inr (.inl (nI ((chc ln (mvL n nx n) i).getD c (0, 0)).1, nI ((chc ln (mvL n nx n) i).getD c (0, 0)).2, upd tr i (nI (c + 1))))) := fun tr c hc ht => by
    have := hpm c hc
    unfold Mo_goesLine_L19_J90
    rw [gd_eq hixi, gd_eq hixi, gd_eq (ixN (show ((chc ln (mvL n nx n) i).getD c (0, 0)).1 < 12 by omega) (by omega)), nI_clamp (show ((chc ln (mvL n nx n) i).getD c (0, 0)).1 < 2 ^ 31 by omega), nI_clamp (show i < 2 ^ 31 by omega), hl _ (by omega), ht, show nI c + 1 = nI (c + 1) from nI_ad c 1]
  obtain ⟨r, r1, r2⟩ := lp_inv (f := Mo_goesLine_L19 (nI i) (nI (chc ln (mvL n nx n) i).length) gF gT left mF mT) (fun k tr => tr i = nI (j + k) ∧ (∀ i', ¬ i' = i → tr i' = tried i') ∧ ∀ c', j ≤ c' → c' < j + k → s ((chc ln (mvL n nx n) i).getD c' (0, 0)).1 < 2) ((chc ln (mvL n nx n) i).length - j)
    (fun r => (∃ c tr, r = Sum.inl (nI ((chc ln (mvL n nx n) i).getD c (0, 0)).1, nI ((chc ln (mvL n nx n) i).getD c (0, 0)).2, tr) ∧ j ≤ c ∧ c < (chc ln (mvL n nx n) i).length ∧ 2 ≤ s ((chc ln (mvL n nx n) i).getD c (0, 0)).1 ∧ (∀ c', j ≤ c' → c' < c → s ((chc ln (mvL n nx n) i).getD c' (0, 0)).1 < 2) ∧ tr i = nI (c + 1) ∧ ∀ i', ¬ i' = i → tr i' = tried i') ∨
      (∃ tr, r = Sum.inr tr ∧ (∀ c', j ≤ c' → c' < (chc ln (mvL n nx n) i).length → s ((chc ln (mvL n nx n) i).getD c' (0, 0)).1 < 2) ∧ ∀ i', ¬ i' = i → tr i' = tried i'))
    (by
      rintro k tr hk ⟨e1, e2, e3⟩
      have hc : j + k < (chc ln (mvL n nx n) i).length := by omega
      have hp := hpm (j + k) hc
      have hsp := hs ((chc ln (mvL n nx n) i).getD (j + k) (0, 0)).1 (by omega)
      have hhead := (hone tr (j + k) hc e1).trans (hJ90 tr (j + k) hc e1)
      by_cases z : s ((chc ln (mvL n nx n) i).getD (j + k) (0, 0)).1 < 2
      · left
        refine ⟨_, hhead.trans (if_pos ((iI_lt (b := 2) ⟨by omega, by omega⟩ ⟨by omega, by omega⟩).mpr z)), ?_, fun i' h => ?_, fun c' h1 h2 => ?_⟩
        · rw [upd_at]; rfl
        · rw [upd_ne h]; exact e2 i' h
        · by_cases y : c' = j + k
          · rw [y]; exact z
          · exact e3 c' h1 (by omega)
      · right
        refine ⟨_, hhead.trans (if_neg (fun y => z ((iI_lt (b := 2) ⟨by omega, by omega⟩ ⟨by omega, by omega⟩).mp y))), Or.inl ⟨j + k, _, rfl, by omega, hc, by omega, e3, by rw [upd_at], fun i' h => ?_⟩⟩
        rw [upd_ne h]; exact e2 i' h)
    (by
      rintro tr ⟨e1, e2, e3⟩
      rw [show j + ((chc ln (mvL n nx n) i).length - j) = (chc ln (mvL n nx n) i).length by omega] at e1 e3
      refine ⟨Sum.inr tr, ?_, Or.inr ⟨tr, rfl, e3, e2⟩⟩
      unfold Mo_goesLine_L19
      rw [gd_eq hixi, nI_clamp (show i < 2 ^ 31 by omega), e1, if_neg (fun z => by have := (nI_ltN (by omega) (by omega)).mp z; omega)])
    0 tried (Nat.zero_le _) ⟨htr, fun _ _ => rfl, fun c' h1 h2 => by omega⟩
  have hhead : Mo_goesLine gF gT tried left mF mT tF tT (nI (mvL n nx n).length) (nI i) = Mo_goesLine_J18 (nI i) (nI (chc ln (mvL n nx n) i).length) gF gT tried left mF mT tF tT (nI (mvL n nx n).length) := by
    unfold Mo_goesLine
    rw [gd_eq hixi, nI_clamp (show i < 2 ^ 31 by omega)]
    rcases hre i hi with ⟨h1, h2⟩ | ⟨q, h1, q1, q2, q3, q4, q5⟩
    · rw [if_pos h2, chc_none h1]
    · rw [if_neg (show ¬ gF i = -1 from fun z => nI_pos (show q.1 < 2 ^ 31 by omega) (by rw [← q4, z]; decide)), chc_some h1]
      rfl
  rw [hhead]
  unfold Mo_goesLine_J18
  rw [ob_eq r1]
  rcases r2 with ⟨c, tr, rfl, c1, c2, c3, c4, c5, c6⟩ | ⟨tr, rfl, c1, c2⟩
  · left
    obtain ⟨p1, p2⟩ := hpm c c2
    refine ⟨c, tr, c1, c2, c3, c4, c5, c6, ?_⟩
    dsimp only [sm]
    have i1 : ix (nI ((chc ln (mvL n nx n) i).getD c (0, 0)).1) 12 = true := ixN (by omega) (by omega)
    have i2 : ix (nI ((chc ln (mvL n nx n) i).getD c (0, 0)).2) 12 = true := ixN (by omega) (by omega)
    rw [gd_eq i1, gd_eq i1, gd_eq i2, gd_eq i2, gd_eq hixi, gd_eq hixi, nI_clamp (show ((chc ln (mvL n nx n) i).getD c (0, 0)).1 < 2 ^ 31 by omega), nI_clamp (show ((chc ln (mvL n nx n) i).getD c (0, 0)).2 < 2 ^ 31 by omega), nI_clamp (show i < 2 ^ 31 by omega)]
  · right
    exact ⟨tr, c1, c2, rfl⟩
end DFS
