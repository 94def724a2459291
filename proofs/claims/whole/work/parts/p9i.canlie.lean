/-! SYMMETRIES: the reference's search -/
def lieS (nx q : Nat → Nat) (v j : Nat) : Prop := ∀ u, u < v → ¬ q u = j ∧ (nx u).testBit v = (nx (q u)).testBit j
def ctS (stay asked on v j : Nat) : Prop := (v < stay → j = v) ∧ (v = asked → j = on)
def prS (n : Nat) (nx : Nat → Nat) (stay asked on v : Nat) (q : Nat → Nat) : Prop := (∀ i, i < v → q i < n) ∧ (∀ i j, i < v → j < v → q i = q j → i = j) ∧ (∀ i j, i < v → j < v → (nx (q i)).testBit (q j) = (nx i).testBit j) ∧ ∀ i, i < v → ctS stay asked on i (q i)
def exS (n : Nat) (nx : Nat → Nat) (stay asked on v : Nat) (q : Nat → Nat) (j0 : Nat) : Prop := ∃ σ, auS n nx σ ∧ (∀ i, i < v → σ i = q i) ∧ (∀ i, i < stay → σ i = i) ∧ σ asked = on ∧ (v < n → j0 ≤ σ v)
section CBL
variable {n : Nat} {nx : Nat → Nat} {nextTo : Nat → Int32} {stay asked on : Nat}
theorem pr_up (hG : GoodG n nx) {v j : Nat} {q : Nat → Nat} (h : prS n nx stay asked on v q) (hj : j < n) (hc : lieS nx q v j) (ht : ctS stay asked on v j) : prS n nx stay asked on (v + 1) (atS q v j) := by
  have hsy := hG.2.2.2.1
  have hir := hG.2.2.2.2
  obtain ⟨h1, h2, h3, h4⟩ := h
  have hv : ∀ i, i < v + 1 → (i = v ∧ atS q v j i = j) ∨ (i < v ∧ atS q v j i = q i) := fun i hi => by
    by_cases e : i = v
    · exact Or.inl ⟨e, by rw [e, atS_at]⟩
    · exact Or.inr ⟨by omega, atS_ne e⟩
  refine ⟨fun i hi => ?_, fun a b ha hb e => ?_, fun a b ha hb => ?_, fun i hi => ?_⟩
  · rcases hv i hi with ⟨-, e⟩ | ⟨e1, e⟩
    · rw [e]; exact hj
    · rw [e]; exact h1 i e1
  · rcases hv a ha with ⟨a1, a2⟩ | ⟨a1, a2⟩
    · rcases hv b hb with ⟨b1, b2⟩ | ⟨b1, b2⟩
      · omega
      · rw [a2, b2] at e; exact absurd e.symm (hc b b1).1
    · rcases hv b hb with ⟨b1, b2⟩ | ⟨b1, b2⟩
      · rw [a2, b2] at e; exact absurd e (hc a a1).1
      · rw [a2, b2] at e; exact h2 a b a1 b1 e
  · rcases hv a ha with ⟨a1, a2⟩ | ⟨a1, a2⟩
    · rcases hv b hb with ⟨b1, b2⟩ | ⟨b1, b2⟩
      · rw [a2, b2, a1, b1, hir, hir]
      · rw [a2, b2, a1, hsy j (q b), hsy v b]; exact (hc b b1).2.symm
    · rcases hv b hb with ⟨b1, b2⟩ | ⟨b1, b2⟩
      · rw [a2, b2, b1]; exact (hc a a1).2.symm
      · rw [a2, b2]; exact h3 a b a1 b1
  · rcases hv i hi with ⟨e1, e⟩ | ⟨e1, e⟩
    · rw [e, e1]; exact ht
    · rw [e]; exact h4 i e1
theorem canLie_ok (hG : GoodG n nx) (hx : ∀ w, w < 12 → nextTo w = nI (nx w)) {v j : Nat} (hv : v < n) (hj : j < n) {q : Nat → Nat} (hq : ∀ i, i < v → q i < n) {im : Nat → Int32} (him : ∀ u, u < v → im u = nI (q u)) :
    (Mo_canLie nextTo im (nI v) (nI j) = some 1 ∧ lieS nx q v j) ∨ (Mo_canLie nextTo im (nI v) (nI j) = some 0 ∧ ¬ lieS nx q v j) := by
  have n12 := hG.1
  have hlt : ∀ p, nx p < 2 ^ 31 := fun p => Nat.lt_of_lt_of_le (hG.2.1 p) (Nat.pow_le_pow_right (by omega) (by omega))
  obtain ⟨r, r1, r2⟩ := lp_inv (f := Mo_canLie_L2 (nI v) (nI j) nextTo im) (fun k s => s = nI k ∧ ∀ u, u < k → ¬ q u = j ∧ (nx u).testBit v = (nx (q u)).testBit j) v (fun r => (r = Sum.inl () ∧ ¬ lieS nx q v j) ∨ (r = Sum.inr () ∧ lieS nx q v j))
    (by
      rintro k s hk ⟨rfl, e2⟩
      have hqk := hq k hk
      have hhead : Mo_canLie_L2 (nI v) (nI j) nextTo im (nI k) = if nI (q k) = nI j then some (.inr (.inl ())) else if (if (nx k).testBit v then (1 : Int32) else 0) = (if (nx (q k)).testBit j then 1 else 0) then some (.inl (nI k + 1)) else some (.inr (.inl ())) := by
        unfold Mo_canLie_L2
        rw [if_pos ((nI_ltN (by omega) (by omega)).mpr hk), gd_eq (ixN (show k < 12 by omega) (by omega)), nI_clamp (show k < 2 ^ 31 by omega), him k hk, hx k (by omega), ob_eq (Mo_has_eq (hlt k) (show v < 32 by omega)), gd_eq (ixN (show k < 12 by omega) (by omega)), gd_eq (ixN (show k < 12 by omega) (by omega)), gd_eq (ixN (show q k < 12 by omega) (by omega)), nI_clamp (show q k < 2 ^ 31 by omega), hx (q k) (by omega), ob_eq (Mo_has_eq (hlt (q k)) (show j < 32 by omega))]
      by_cases z1 : q k = j
      · right
        exact ⟨_, hhead.trans (if_pos (by rw [z1])), Or.inl ⟨rfl, fun hc => (hc k hk).1 z1⟩⟩
      · rw [if_neg (fun y => z1 ((nI_inj (by omega) (by omega)).mp y))] at hhead
        by_cases z2 : (nx k).testBit v = (nx (q k)).testBit j
        · left
          refine ⟨_, hhead.trans (if_pos (by rw [z2])), nI_ad k 1, fun u hu => ?_⟩
          by_cases y : u = k
          · rw [y]; exact ⟨z1, z2⟩
          · exact e2 u (by omega)
        · right
          refine ⟨_, hhead.trans (if_neg (fun y => z2 ?_)), Or.inl ⟨rfl, fun hc => z2 (hc k hk).2⟩⟩
          cases ha : (nx k).testBit v <;> cases hb : (nx (q k)).testBit j <;> rw [ha, hb] at y <;> first | rfl | (exact absurd y (by decide)))
    (by
      rintro s ⟨rfl, e2⟩
      refine ⟨Sum.inr (), ?_, Or.inr ⟨rfl, e2⟩⟩
      unfold Mo_canLie_L2
      exact if_neg (fun z => by have := (nI_ltN (by omega) (by omega)).mp z; omega))
    0 0 (Nat.zero_le _) ⟨rfl, fun u hu => by omega⟩
  unfold Mo_canLie
  rw [ob_eq r1]
  rcases r2 with ⟨rfl, z⟩ | ⟨rfl, z⟩
  · exact Or.inr ⟨rfl, z⟩
  · exact Or.inl ⟨rfl, z⟩
theorem sub1_add (x : Int32) : x - 1 + 1 = x := Int32.sub_add_cancel x 1
theorem stepR (hG : GoodG n nx) (hx : ∀ w, w < 12 → nextTo w = nI (nx w)) (hst : stay < n) (has : asked < n) (hon : on < n) {v j0 : Nat} (hv : v < n) (hj0 : j0 ≤ n) {q : Nat → Nat} (hq : ∀ i, i < v → q i < n) {im : Nat → Int32} (him : ∀ u, u < v → im u = nI (q u)) (hiv : im v = nI j0 - 1) :
    (∃ j, j0 ≤ j ∧ j < n ∧ lieS nx q v j ∧ ctS stay asked on v j ∧ (∀ i, j0 ≤ i → i < j → ¬ (lieS nx q v i ∧ ctS stay asked on v i)) ∧ Mo_canBeLaid_L10 (nI stay) (nI asked) (nI on) nextTo (nI n) (nI v, im) = some (.inl (nI (v + 1), if v + 1 < n then upd (upd im v (nI j)) (v + 1) (-1) else upd im v (nI j)))) ∨
    ((∀ i, j0 ≤ i → i < n → ¬ (lieS nx q v i ∧ ctS stay asked on v i)) ∧ Mo_canBeLaid_L10 (nI stay) (nI asked) (nI on) nextTo (nI n) (nI v, im) = some (.inl (nI v - 1, im))) := by
  have n12 := hG.1
  -- where it begins
  have hb : ∃ j1, j0 ≤ j1 ∧ (v < stay → v ≤ j1) ∧ (v = asked → on ≤ j1) ∧ j1 ≤ n ∧ (∀ i, j0 ≤ i → ctS stay asked on v i → j1 ≤ i) ∧ Mo_canBeLaid_L10 (nI stay) (nI asked) (nI on) nextTo (nI n) (nI v, im) = Mo_canBeLaid_L10_J64 (nI stay) (nI asked) (nI on) (nI v) (nI j1) nextTo (nI n) im := by
    have h0 : Mo_canBeLaid_L10 (nI stay) (nI asked) (nI on) nextTo (nI n) (nI v, im) = if nI v < nI stay then (ob (Mo_max (nI j0) (nI v)) fun x2 => Mo_canBeLaid_L10_J50 (nI stay) (nI asked) (nI on) (nI v) x2 nextTo (nI n) im) else Mo_canBeLaid_L10_J50 (nI stay) (nI asked) (nI on) (nI v) (nI j0) nextTo (nI n) im := by
      unfold Mo_canBeLaid_L10
      dsimp only
      rw [if_neg (nI_pos (show v < 2 ^ 31 by omega)), if_pos ((nI_ltN (by omega) (by omega)).mpr hv), gd_eq (ixN (show v < 12 by omega) (by omega)), nI_clamp (show v < 2 ^ 31 by omega), hiv, sub1_add]
    have hJ : ∀ a, a < 2 ^ 31 → (v = asked → Mo_canBeLaid_L10_J50 (nI stay) (nI asked) (nI on) (nI v) (nI a) nextTo (nI n) im = Mo_canBeLaid_L10_J64 (nI stay) (nI asked) (nI on) (nI v) (nI (max a on)) nextTo (nI n) im) ∧ (¬ v = asked → Mo_canBeLaid_L10_J50 (nI stay) (nI asked) (nI on) (nI v) (nI a) nextTo (nI n) im = Mo_canBeLaid_L10_J64 (nI stay) (nI asked) (nI on) (nI v) (nI a) nextTo (nI n) im) := by
      intro a ha
      unfold Mo_canBeLaid_L10_J50
      constructor
      · intro e
        rw [if_pos (by rw [e]), ob_eq (Mo_max_nI ha (by omega))]
      · intro e
        rw [if_neg (fun y => e ((nI_inj (by omega) (by omega)).mp y))]
    by_cases z1 : v < stay
    · rw [if_pos ((nI_ltN (by omega) (by omega)).mpr z1), ob_eq (Mo_max_nI (by omega) (by omega))] at h0
      by_cases z2 : v = asked
      · exact ⟨max (max j0 v) on, by omega, fun _ => by omega, fun _ => by omega, by omega, fun i h1 h2 => by have := h2.1 z1; have := h2.2 z2; omega, h0.trans ((hJ _ (by omega)).1 z2)⟩
      · exact ⟨max j0 v, by omega, fun _ => by omega, fun y => absurd y z2, by omega, fun i h1 h2 => by have := h2.1 z1; omega, h0.trans ((hJ _ (by omega)).2 z2)⟩
    · rw [if_neg (fun y => z1 ((nI_ltN (by omega) (by omega)).mp y))] at h0
      by_cases z2 : v = asked
      · exact ⟨max j0 on, by omega, fun y => absurd y z1, fun _ => by omega, by omega, fun i h1 h2 => by have := h2.2 z2; omega, h0.trans ((hJ _ (by omega)).1 z2)⟩
      · exact ⟨j0, by omega, fun y => absurd y z1, fun y => absurd y z2, by omega, fun i h1 h2 => h1, h0.trans ((hJ _ (by omega)).2 z2)⟩
  obtain ⟨j1, b1, b2, b3, b4, b5, b6⟩ := hb
  -- the first that can lie there
  obtain ⟨r, r1, j, rfl, r2, r3, r4, r5⟩ := lp_inv (f := Mo_canBeLaid_L64 (nI stay) (nI asked) (nI on) (nI v) nextTo (nI n) im) (fun k s => s = nI (j1 + k) ∧ ∀ i, j1 ≤ i → i < j1 + k → ¬ lieS nx q v i) (n - j1) (fun r => ∃ j, r = nI j ∧ j1 ≤ j ∧ j ≤ n ∧ (j < n → lieS nx q v j) ∧ ∀ i, j1 ≤ i → i < j → ¬ lieS nx q v i)
    (by
      rintro k s hk ⟨rfl, e2⟩
      have hhead : ∀ b, Mo_canLie nextTo im (nI v) (nI (j1 + k)) = some b → Mo_canBeLaid_L64 (nI stay) (nI asked) (nI on) (nI v) nextTo (nI n) im (nI (j1 + k)) = if b = 0 then some (.inl (nI (j1 + k) + 1)) else some (.inr (nI (j1 + k))) := fun b hb => by
        unfold Mo_canBeLaid_L64
        rw [if_pos ((nI_ltN (by omega) (by omega)).mpr (by omega)), ob_eq hb]
      rcases canLie_ok hG hx hv (show j1 + k < n by omega) hq him with ⟨c1, c2⟩ | ⟨c1, c2⟩
      · right
        exact ⟨_, (hhead _ c1).trans (if_neg one_ne0), j1 + k, rfl, by omega, by omega, fun _ => c2, e2⟩
      · left
        refine ⟨_, (hhead _ c1).trans (if_pos rfl), nI_ad (j1 + k) 1, fun i h1 h2 => ?_⟩
        by_cases y : i = j1 + k
        · rw [y]; exact c2
        · exact e2 i h1 (by omega))
    (by
      rintro s ⟨rfl, e2⟩
      refine ⟨nI (j1 + (n - j1)), ?_, j1 + (n - j1), rfl, by omega, by omega, fun z => by omega, e2⟩
      unfold Mo_canBeLaid_L64
      exact if_neg (fun z => by have := (nI_ltN (by omega) (by omega)).mp z; omega))
    0 (nI j1) (Nat.zero_le _) ⟨rfl, fun i h1 h2 => by omega⟩
  -- is it right
  have h93 : Mo_canBeLaid_L10 (nI stay) (nI asked) (nI on) nextTo (nI n) (nI v, im) = Mo_canBeLaid_L10_J93 (nI stay) (nI asked) (nI on) (nI v) (nI j) nextTo (nI n) im := by
    rw [b6]
    unfold Mo_canBeLaid_L10_J64
    rw [ob_eq r1]
  have hwrong : Mo_canBeLaid_L10_J127 (nI stay) (nI asked) (nI on) (nI v) (nI j) nextTo (nI n) im = some (.inl (nI v - 1, im)) := by
    unfold Mo_canBeLaid_L10_J127 Mo_canBeLaid_L10_J132 Mo_canBeLaid_L10_J180
    rw [if_neg one_ne0]
  have hright : Mo_canBeLaid_L10_J131 (nI stay) (nI asked) (nI on) (nI v) (nI j) nextTo (nI n) im = some (.inl (nI (v + 1), if v + 1 < n then upd (upd im v (nI j)) (v + 1) (-1) else upd im v (nI j))) := by
    unfold Mo_canBeLaid_L10_J131 Mo_canBeLaid_L10_J132 Mo_canBeLaid_L10_J180
    rw [if_pos rfl, gd_eq (ixN (show v < 12 by omega) (by omega)), show nI v + 1 = nI (v + 1) from nI_ad v 1, nI_clamp (show v < 2 ^ 31 by omega), nI_clamp (show v + 1 < 2 ^ 31 by omega)]
    by_cases z : v + 1 < n
    · rw [if_pos ((nI_ltN (by omega) (by omega)).mpr z), gd_eq (ixN (show v + 1 < 12 by omega) (by omega)), if_pos z]
    · rw [if_neg (fun y => z ((nI_ltN (by omega) (by omega)).mp y)), if_neg z]
  have hJ93 : (j < n ∧ (v < stay → j ≤ v) ∧ (v = asked → j ≤ on) → Mo_canBeLaid_L10_J93 (nI stay) (nI asked) (nI on) (nI v) (nI j) nextTo (nI n) im = Mo_canBeLaid_L10_J131 (nI stay) (nI asked) (nI on) (nI v) (nI j) nextTo (nI n) im) ∧ (¬ (j < n ∧ (v < stay → j ≤ v) ∧ (v = asked → j ≤ on)) → Mo_canBeLaid_L10_J93 (nI stay) (nI asked) (nI on) (nI v) (nI j) nextTo (nI n) im = Mo_canBeLaid_L10_J127 (nI stay) (nI asked) (nI on) (nI v) (nI j) nextTo (nI n) im) := by
    have e1 : nI j < nI n ↔ j < n := nI_ltN (by omega) (by omega)
    have e2 : nI v < nI stay ↔ v < stay := nI_ltN (by omega) (by omega)
    have e3 : nI j ≤ nI v ↔ j ≤ v := nI_leN (by omega) (by omega)
    have e4 : nI v = nI asked ↔ v = asked := nI_inj (by omega) (by omega)
    have e5 : nI j ≤ nI on ↔ j ≤ on := nI_leN (by omega) (by omega)
    unfold Mo_canBeLaid_L10_J93 Mo_canBeLaid_L10_J115
    simp only [e1, e2, e3, e4, e5]
    constructor
    · rintro ⟨z1, k1, k2⟩
      rw [if_pos z1]
      by_cases z2 : v < stay
      · rw [if_pos z2, if_pos (k1 z2)]
        by_cases z4 : v = asked
        · rw [if_pos z4, if_pos (k2 z4)]
        · rw [if_neg z4]
      · rw [if_neg z2]
        by_cases z4 : v = asked
        · rw [if_pos z4, if_pos (k2 z4)]
        · rw [if_neg z4]
    · intro hno
      by_cases z1 : j < n
      · rw [if_pos z1]
        by_cases z2 : v < stay
        · rw [if_pos z2]
          by_cases z3 : j ≤ v
          · rw [if_pos z3]
            by_cases z4 : v = asked
            · rw [if_pos z4, if_neg (fun z5 => hno ⟨z1, fun _ => z3, fun _ => z5⟩)]
            · exact absurd ⟨z1, fun _ => z3, fun y => absurd y z4⟩ hno
          · rw [if_neg z3]
        · rw [if_neg z2]
          by_cases z4 : v = asked
          · rw [if_pos z4, if_neg (fun z5 => hno ⟨z1, fun y => absurd y z2, fun _ => z5⟩)]
          · exact absurd ⟨z1, fun y => absurd y z2, fun y => absurd y z4⟩ hno
      · rw [if_neg z1]
  have hmin : ∀ i, j0 ≤ i → lieS nx q v i ∧ ctS stay asked on v i → j ≤ i := fun i h1 h2 => by
    have h3 := b5 i h1 h2.2
    rcases Nat.lt_or_ge i j with y | y
    · exact absurd h2.1 (r5 i h3 y)
    · exact y
  by_cases hok : j < n ∧ (v < stay → j ≤ v) ∧ (v = asked → j ≤ on)
  · left
    refine ⟨j, by omega, hok.1, r4 hok.1, ⟨fun y => by have := hok.2.1 y; have := b2 y; omega, fun y => by have := hok.2.2 y; have := b3 y; omega⟩, fun i h1 h2 h3 => by have := hmin i h1 h3; omega, h93.trans ((hJ93.1 hok).trans hright)⟩
  · right
    refine ⟨fun i h1 h2 h3 => hok ?_, h93.trans ((hJ93.2 hok).trans hwrong)⟩
    have h4 := hmin i h1 h3
    exact ⟨by omega, fun y => by have := h3.2.1 y; omega, fun y => by have := h3.2.2 y; omega⟩
theorem ex_cand {v : Nat} (hv : v < n) {q : Nat → Nat} {σ : Nat → Nat} (h1 : auS n nx σ) (h2 : ∀ i, i < v → σ i = q i) (h3 : ∀ i, i < stay → σ i = i) (h4 : σ asked = on) : lieS nx q v (σ v) ∧ ctS stay asked on v (σ v) := by
  refine ⟨fun u hu => ⟨fun e => ?_, ?_⟩, fun z => h3 v z, fun z => by rw [z]; exact h4⟩
  · rw [← h2 u hu] at e
    have := h1.2.1 u v (by omega) hv e
    omega
  · rw [← h2 u hu]
    exact (h1.2.2 u v (by omega) hv).symm
theorem cbl_go (hG : GoodG n nx) (hx : ∀ w, w < 12 → nextTo w = nI (nx w)) (hst : stay < n) (has : asked < n) (hon : on < n) : ∀ m v, v + m = n → ∀ (q : Nat → Nat), prS n nx stay asked on v q → ∀ (c j0 : Nat), n ≤ j0 + c → j0 ≤ n → ∀ (im : Nat → Int32), (∀ u, u < v → im u = nI (q u)) → (v < n → im v = nI j0 - 1) →
    (exS n nx stay asked on v q j0 → ∃ im', lp (Mo_canBeLaid_L10 (nI stay) (nI asked) (nI on) nextTo (nI n)) (nI v, im) = some (nI n, im')) ∧
    (¬ exS n nx stay asked on v q j0 → ∃ im', (∀ u, u < v → im' u = im u) ∧ ∀ r, lp (Mo_canBeLaid_L10 (nI stay) (nI asked) (nI on) nextTo (nI n)) (nI v - 1, im') = some r → lp (Mo_canBeLaid_L10 (nI stay) (nI asked) (nI on) nextTo (nI n)) (nI v, im) = some r) := by
  have n12 := hG.1
  intro m
  induction m with
  | zero =>
    intro v hvm q hq c j0 hc hj0 im him hiv
    have e : v = n := by omega
    subst e
    obtain ⟨p1, p2, p3, p4⟩ := hq
    refine ⟨fun _ => ⟨im, lp_inr ?_⟩, fun hno => absurd ⟨q, ⟨p1, p2, p3⟩, fun _ _ => rfl, fun i hi => (p4 i (by omega)).1 hi, (p4 asked has).2 rfl, fun z => by omega⟩ hno⟩
    unfold Mo_canBeLaid_L10
    dsimp only
    rw [if_neg (nI_pos (show v < 2 ^ 31 by omega)), if_neg (fun z => by have := (nI_ltN (by omega) (by omega)).mp z; omega)]
  | succ m ih =>
    intro v hvm q hq c
    have hv : v < n := by omega
    induction c with
    | zero =>
      intro j0 hc hj0 im him hiv
      rcases stepR hG hx hst has hon hv hj0 hq.1 him (hiv hv) with ⟨j, a1, a2, -⟩ | ⟨a1, a2⟩
      · omega
      · refine ⟨fun ⟨σ, s1, s2, s3, s4, s5⟩ => ?_, fun _ => ⟨im, fun _ _ => rfl, fun r hr => lp_inl a2 hr⟩⟩
        exact absurd (ex_cand hv s1 s2 s3 s4) (a1 (σ v) (s5 hv) (s1.1 v hv))
    | succ c ihc =>
      intro j0 hc hj0 im him hiv
      rcases stepR hG hx hst has hon hv hj0 hq.1 him (hiv hv) with ⟨j, a1, a2, a3, a4, a5, a6⟩ | ⟨a1, a2⟩
      · -- one is taken
        have hex : ∀ σ, auS n nx σ → (∀ i, i < v → σ i = q i) → (∀ i, i < stay → σ i = i) → σ asked = on → j0 ≤ σ v → j ≤ σ v := fun σ s1 s2 s3 s4 s5 => by
          rcases Nat.lt_or_ge (σ v) j with y | y
          · exact absurd (ex_cand hv s1 s2 s3 s4) (a5 (σ v) s5 y)
          · exact y
        have hpr := pr_up hG hq a2 a3 a4
        have him2 : ∀ u, u < v + 1 → (if v + 1 < n then upd (upd im v (nI j)) (v + 1) (-1) else upd im v (nI j)) u = nI (atS q v j u) := fun u hu => by
          have : (if v + 1 < n then upd (upd im v (nI j)) (v + 1) (-1) else upd im v (nI j)) u = upd im v (nI j) u := by
            by_cases z : v + 1 < n
            · rw [if_pos z, upd_ne (by omega)]
            · rw [if_neg z]
          rw [this]
          by_cases e : u = v
          · rw [e, upd_at, atS_at]
          · rw [upd_ne e, atS_ne e]; exact him u (by omega)
        obtain ⟨i1, i2⟩ := ih (v + 1) (by omega) (atS q v j) hpr n 0 (by omega) (Nat.zero_le _) _ him2 (fun z => by rw [if_pos z, upd_at]; decide)
        by_cases hE : exS n nx stay asked on (v + 1) (atS q v j) 0
        · obtain ⟨im', q1⟩ := i1 hE
          refine ⟨fun _ => ⟨im', lp_inl a6 q1⟩, fun hno => absurd ?_ hno⟩
          obtain ⟨σ, s1, s2, s3, s4, s5⟩ := hE
          refine ⟨σ, s1, fun i hi => by rw [s2 i (by omega), atS_ne (by omega)], s3, s4, fun _ => ?_⟩
          rw [s2 v (by omega), atS_at]; exact a1
        · obtain ⟨im', q1, q2⟩ := i2 hE
          rw [show nI (v + 1) - 1 = nI v from nI_subN (b := 1) (by omega)] at q2
          have hag : ∀ u, u < v → im' u = im u := fun u hu => by rw [q1 u (by omega), him2 u (by omega), atS_ne (by omega), him u hu]
          obtain ⟨c1, c2⟩ := ihc (j + 1) (by omega) (by omega) im' (fun u hu => by rw [hag u hu]; exact him u hu) (fun _ => by
            rw [q1 v (by omega), him2 v (by omega), atS_at]
            exact (nI_subN (a := j + 1) (b := 1) (by omega)).symm)
          refine ⟨fun ⟨σ, s1, s2, s3, s4, s5⟩ => ?_, fun hno => ?_⟩
          · have hge := hex σ s1 s2 s3 s4 (s5 hv)
            have hne : ¬ σ v = j := fun e => hE ⟨σ, s1, fun i hi => by
              by_cases y : i = v
              · rw [y, atS_at]; exact e
              · rw [atS_ne y]; exact s2 i (by omega), s3, s4, fun _ => Nat.zero_le _⟩
            obtain ⟨im2, h2⟩ := c1 ⟨σ, s1, s2, s3, s4, fun _ => by omega⟩
            exact ⟨im2, lp_inl a6 (q2 _ h2)⟩
          · obtain ⟨im2, h2, h3⟩ := c2 (fun ⟨σ, s1, s2, s3, s4, s5⟩ => hno ⟨σ, s1, s2, s3, s4, fun y => by have := s5 y; omega⟩)
            exact ⟨im2, fun u hu => (h2 u hu).trans (hag u hu), fun r hr => lp_inl a6 (q2 _ (h3 r hr))⟩
      · refine ⟨fun ⟨σ, s1, s2, s3, s4, s5⟩ => ?_, fun _ => ⟨im, fun _ _ => rfl, fun r hr => lp_inl a2 hr⟩⟩
        exact absurd (ex_cand hv s1 s2 s3 s4) (a1 (σ v) (s5 hv) (s1.1 v hv))
theorem canBeLaid_ok (hG : GoodG n nx) (hx : ∀ w, w < 12 → nextTo w = nI (nx w)) (hst : stay < n) (has : asked < n) (hon : on < n) (im : Nat → Int32) :
    ∃ b im', Mo_canBeLaid nextTo (nI n) im (nI stay) (nI asked) (nI on) = some (b, im') ∧ ((b = 1 ∧ ∃ σ, auS n nx σ ∧ (∀ i, i < stay → σ i = i) ∧ σ asked = on) ∨ (b = 0 ∧ ¬ ∃ σ, auS n nx σ ∧ (∀ i, i < stay → σ i = i) ∧ σ asked = on)) := by
  have n12 := hG.1
  have hz : prS n nx stay asked on 0 (fun _ => 0) := ⟨fun i hi => by omega, fun i j hi => by omega, fun i j hi => by omega, fun i hi => by omega⟩
  obtain ⟨g1, g2⟩ := cbl_go hG hx hst has hon n 0 (by omega) _ hz n 0 (by omega) (Nat.zero_le _) (upd im 0 (-1)) (fun u hu => by omega) (fun _ => by rw [upd_at]; decide)
  have hex : exS n nx stay asked on 0 (fun _ => 0) 0 ↔ ∃ σ, auS n nx σ ∧ (∀ i, i < stay → σ i = i) ∧ σ asked = on := ⟨fun ⟨σ, s1, _, s3, s4, _⟩ => ⟨σ, s1, s3, s4⟩, fun ⟨σ, s1, s3, s4⟩ => ⟨σ, s1, fun i hi => by omega, s3, s4, fun _ => Nat.zero_le _⟩⟩
  unfold Mo_canBeLaid Mo_canBeLaid_J183
  rw [gd_eq (show ix 0 12 = true from rfl), show ((0 : Int32).toNatClampNeg) = 0 from rfl]
  by_cases hE : exS n nx stay asked on 0 (fun _ => 0) 0
  · obtain ⟨im', h1⟩ := g1 hE
    exact ⟨1, im', (ob_eq h1).trans (if_pos rfl), Or.inl ⟨rfl, hex.mp hE⟩⟩
  · obtain ⟨im', h1, h2⟩ := g2 hE
    have h3 := h2 (-1, im') (lp_inr (by
      unfold Mo_canBeLaid_L10
      exact if_pos (show nI 0 - 1 < 0 by decide)))
    refine ⟨0, im', (ob_eq h3).trans (if_neg (fun z => ?_)), Or.inr ⟨rfl, fun z => hE (hex.mpr z)⟩⟩
    have z : -1 = nI n := z
    have h4 := nI_pos (show n < 2 ^ 31 by omega)
    rw [← z] at h4
    exact h4 (by decide)
end CBL
