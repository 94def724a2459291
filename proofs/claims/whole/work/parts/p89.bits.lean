/-! WHY A NUMBER ISN'T TOLD; the reference's layings as bits -/
def dnS (n : Nat) (nx : Nat → Nat) (w v : Nat) : Nat := (dI n nx v w).toNatClampNeg
section DIS
variable {n : Nat} {nx : Nat → Nat} {w : Nat}
theorem dn_or (hG : GoodG n nx) (hw : w < n) {v : Nat} (hv : v < n) : dI n nx v w = -2 ∨ (lev n nx w (dnS n nx w v) v = true ∧ dI n nx v w = nI (dnS n nx w v) ∧ dnS n nx w v < n) := by
  have n12 := hG.1
  rw [dnS, dI_sym hG hv hw]
  rcases dI_cases hw hG hv with ⟨k, k1, k2, k3⟩ | ⟨k1, k2⟩
  · right
    rw [k3, nI_clamp (by omega)]
    exact ⟨k2, rfl, k1⟩
  · exact Or.inl k2
/-- all is told of the distances -/
def AllD (n : Nat) (nx : Nat → Nat) (w : Nat) : Prop := ∀ v, v < n → lev n nx w (dnS n nx w v) v = true ∧ dI n nx v w = nI (dnS n nx w v) ∧ dnS n nx w v < n
theorem dn_tot (hG : GoodG n nx) {k : Nat} (hk : k ≤ n) (h : ∀ v, v < k → dnS n nx w v < n) : totS (dnS n nx w) k ≤ 144 := by
  have n12 := hG.1
  have : ∀ j, j ≤ k → totS (dnS n nx w) j ≤ j * 12 := by
    intro j
    induction j with
    | zero => intro _; exact Nat.le_refl _
    | succ j ih =>
      intro hj
      have h1 := ih (by omega)
      have h2 := h j (by omega)
      show totS (dnS n nx w) j + dnS n nx w j ≤ (j + 1) * 12
      omega
  have := this k (Nat.le_refl _)
  omega
/-- the three ways in which both begin -/
theorem refuse_ok (hG : GoodG n nx) (hw : w < n) {ways far : Nat → Int32} (hr : RW n nx ways) (hf : RW n nx far) (sh wi : Nat → Int32) (bi : Int32) :
    ∃ why sh' wi' bi', Numbers_refusalAt (nI n) ways (nI w) = some why ∧ Mo_laysBits (nI n) far sh wi bi (nI w) = some (why, sh', wi', bi') ∧
      (why = -2 ∨ why = -4 ∨ (why = 0 ∧ AllD n nx w ∧ totS (dnS n nx w) n ≤ 16 ∧ bi' = nI (totS (dnS n nx w) n) ∧ ∀ v, v < n → sh' v = nI (totS (dnS n nx w) v) ∧ wi' v = nI (dnS n nx w v))) := by
  have n12 := hG.1
  -- both first loops side by side
  obtain ⟨r, r', q1, q2, q3⟩ := lp_sim (f := Numbers_refusalAt_L4 (nI w) (nI n) ways) (g := Mo_laysBits_L9 (nI w) (nI n) far)
    (fun k s u => s = (nI (totS (dnS n nx w) k), nI k) ∧ u = (nI (totS (dnS n nx w) k), nI k) ∧ ∀ v, v < k → lev n nx w (dnS n nx w v) v = true ∧ dI n nx v w = nI (dnS n nx w v) ∧ dnS n nx w v < n) n
    (fun r r' => (r = Sum.inl () ∧ r' = Sum.inl ()) ∨ (r = Sum.inr (nI (totS (dnS n nx w) n)) ∧ r' = Sum.inr (nI (totS (dnS n nx w) n)) ∧ AllD n nx w))
    (by
      rintro k s u hk ⟨rfl, rfl, hall⟩
      have h1 : Numbers_refusalAt_L4 (nI w) (nI n) ways (nI (totS (dnS n nx w) k), nI k) = if dI n nx k w < 0 then some (.inr (.inl ())) else some (.inl (nI (totS (dnS n nx w) k) + dI n nx k w, nI k + 1)) := by
        unfold Numbers_refusalAt_L4
        show (if nI k < nI n then _ else _) = _
        rw [if_pos ((nI_ltN (by omega) (by omega)).mpr hk)]
        dsimp only
        rw [ob_eq (way_in n12 hk hw), hr k w hk hw]
      have h2 : Mo_laysBits_L9 (nI w) (nI n) far (nI (totS (dnS n nx w) k), nI k) = if dI n nx k w = -2 then some (.inr (.inl ())) else some (.inl (nI (totS (dnS n nx w) k) + dI n nx k w, nI k + 1)) := by
        unfold Mo_laysBits_L9
        show (if nI k < nI n then _ else _) = _
        rw [if_pos ((nI_ltN (by omega) (by omega)).mpr hk)]
        dsimp only
        rw [ob_eq (far_in (show k < 12 by omega) (show w < 12 by omega)), hf k w hk hw, ob_eq (far_in (show k < 12 by omega) (show w < 12 by omega)), hf k w hk hw]
      rcases dn_or hG hw hk with z | ⟨z1, z2, z3⟩
      · right
        refine ⟨_, _, h1.trans (if_pos (by rw [z]; decide)), h2.trans (if_pos z), Or.inl ⟨rfl, rfl⟩⟩
      · left
        have hne : ¬ nI (dnS n nx w k) = -2 := fun e => by
          have e1 : (nI (dnS n nx w k)).toInt = (-2 : Int32).toInt := by rw [e]
          rw [nI_toInt (by omega)] at e1
          have e2 : (-2 : Int32).toInt = -2 := by decide
          omega
        refine ⟨_, _, h1.trans (if_neg (by rw [z2]; exact nI_pos (by omega))), h2.trans (if_neg (by rw [z2]; exact hne)), ?_, ?_, fun v hv => ?_⟩
        · rw [z2, nI_ad]; exact congrArg _ (nI_ad k 1)
        · rw [z2, nI_ad]; exact congrArg _ (nI_ad k 1)
        · by_cases e : v = k
          · subst e; exact ⟨z1, z2, z3⟩
          · exact hall v (by omega))
    (by
      rintro s u ⟨rfl, rfl, hall⟩
      refine ⟨_, _, ?_, ?_, Or.inr ⟨rfl, rfl, hall⟩⟩
      · unfold Numbers_refusalAt_L4
        exact if_neg (fun z => by have := (nI_ltN (by omega) (by omega)).mp z; omega)
      · unfold Mo_laysBits_L9
        exact if_neg (fun z => by have := (nI_ltN (by omega) (by omega)).mp z; omega))
    0 (0, 0) (0, 0) (Nat.zero_le _) ⟨rfl, rfl, fun v hv => by omega⟩
  rcases q3 with ⟨rfl, rfl⟩ | ⟨rfl, rfl, hall⟩
  · exact ⟨-2, sh, wi, 0, ob_eq q1, ob_eq q2, Or.inl rfl⟩
  · have h144 := dn_tot (w := w) hG (Nat.le_refl n) (fun v hv => (hall v hv).2.2)
    by_cases h16 : totS (dnS n nx w) n ≤ 16
    · obtain ⟨x, x1, x2, x3⟩ := lp_inv (f := Mo_laysBits_L57 (nI w) (nI n) far) (fun k s => s.1 = nI k ∧ s.2.2.2 = nI (totS (dnS n nx w) k) ∧ ∀ v, v < k → s.2.1 v = nI (totS (dnS n nx w) v) ∧ s.2.2.1 v = nI (dnS n nx w v)) n
        (fun r => r.2.2 = nI (totS (dnS n nx w) n) ∧ ∀ v, v < n → r.1 v = nI (totS (dnS n nx w) v) ∧ r.2.1 v = nI (dnS n nx w v))
        (by
          rintro k ⟨s1, sh1, wi1, bi1⟩ hk ⟨e1, e2, e3⟩
          have e1 : s1 = nI k := e1
          have e2 : bi1 = nI (totS (dnS n nx w) k) := e2
          subst e1; subst e2
          left
          refine ⟨(nI k + 1, upd sh1 k (nI (totS (dnS n nx w) k)), upd wi1 k (nI (dnS n nx w k)), nI (totS (dnS n nx w) k) + nI (dnS n nx w k)), ?_, nI_ad k 1, nI_ad _ _, fun v hv => ?_⟩
          · unfold Mo_laysBits_L57
            show (if nI k < nI n then _ else _) = _
            rw [if_pos ((nI_ltN (by omega) (by omega)).mpr hk)]
            dsimp only
            have hix : ix (nI k) 12 = true := ixN (by omega) (by omega)
            rw [gd_eq hix, ob_eq (far_in (show k < 12 by omega) (show w < 12 by omega)), hf k w hk hw, gd_eq hix, gd_eq hix, nI_clamp (show k < 2 ^ 31 by omega), upd_at, (hall k hk).2.1]
          · show upd sh1 k _ v = _ ∧ upd wi1 k _ v = _
            by_cases e : v = k
            · subst e; rw [upd_at, upd_at]; exact ⟨rfl, rfl⟩
            · rw [upd_ne e, upd_ne e]; exact e3 v (by omega))
        (by
          rintro ⟨s1, sh1, wi1, bi1⟩ ⟨e1, e2, e3⟩
          have e1 : s1 = nI n := e1
          subst e1
          refine ⟨(sh1, wi1, bi1), ?_, e2, e3⟩
          unfold Mo_laysBits_L57
          exact if_neg (fun z => by have := (nI_ltN (by omega) (by omega)).mp z; omega))
        0 (0, sh, wi, 0) (Nat.zero_le _) ⟨rfl, rfl, fun v hv => by omega⟩
      have hle : nI (totS (dnS n nx w) n) ≤ 16 := (nI_leN (b := 16) (by omega) (by omega)).mpr h16
      refine ⟨0, x.1, x.2.1, x.2.2, (ob_eq q1).trans (if_pos hle), (ob_eq q2).trans ((if_pos hle).trans (ob_eq x1)), Or.inr (Or.inr ⟨rfl, hall, h16, x2, x3⟩)⟩
    · have hle : ¬ nI (totS (dnS n nx w) n) ≤ 16 := fun z => h16 ((nI_leN (b := 16) (by omega) (by omega)).mp z)
      exact ⟨-4, sh, wi, 0, (ob_eq q1).trans (if_neg hle), (ob_eq q2).trans (if_neg hle), Or.inr (Or.inl rfl)⟩
end DIS
def BTs (n : Nat) (d : Nat → Nat) (sh wi : Nat → Int32) : Prop := ∀ v, v < n → sh v = nI (totS d v) ∧ wi v = nI (d v)
section RBT
variable {n : Nat} {nx d : Nat → Nat} {w : Nat} {sh wi nextTo : Nat → Int32}
theorem tot_le_of {k v : Nat} (h : v ≤ k) : totS d v ≤ totS d k := by
  induction k with
  | zero => rw [show v = 0 by omega]; exact Nat.le_refl _
  | succ k ih =>
    by_cases e : v = k + 1
    · rw [e]; exact Nat.le_refl _
    · have := ih (by omega)
      show _ ≤ totS d k + d k
      omega
theorem jarsBy_ok (hn : n ≤ 12) (hs : totS d n ≤ 16) (hb : BTs n d sh wi) {c v : Nat} (hc : c < 2 ^ 31) (hv : v < n) : Mo_jarsBy sh wi (nI c) (nI v) = some (nI (deR n d c v)) := by
  have h1 := tot_le_of (d := d) (show v ≤ n by omega)
  have h2 := totS_le (g := d) hv
  have hix : ix (nI v) 12 = true := ixN (by omega) (by omega)
  unfold Mo_jarsBy
  rw [gd_eq hix, gd_eq hix, nI_clamp (show v < 2 ^ 31 by omega), (hb v hv).1, (hb v hv).2, shl_nI (by omega), pk_shrN hc _ _ (sm32 _ (by omega))]
  have hp : 2 ^ d v ≤ 2 ^ 16 := Nat.pow_le_pow_right (by omega) (by omega)
  have hp0 : 0 < 2 ^ d v := Nat.pow_pos (by omega)
  rw [show nI (2 ^ d v) - 1 = nI (2 ^ d v - 1) from nI_subN (b := 1) hp0, and_nI (by have := Nat.div_le_self c (2 ^ totS d v); omega) (by omega), Nat.and_two_pow_sub_one_eq_mod]
  unfold deR
  rw [if_pos hv]
theorem totalBy_ok (hn : n ≤ 12) (hs : totS d n ≤ 16) (hb : BTs n d sh wi) {c : Nat} (hc : c < 2 ^ 31) : Mo_totalBy (nI n) sh wi (nI c) = some (nI (totS (deR n d c) n)) := by
  unfold Mo_totalBy
  refine ob_eq (lp_run (fun k => (nI (totS (deR n d c) k), nI k)) n (fun k hk => ?_) ?_)
  · unfold Mo_totalBy_L4
    show (if nI k < nI n then _ else _) = _
    rw [if_pos ((nI_ltN (by omega) (by omega)).mpr hk)]
    dsimp only
    rw [ob_eq (jarsBy_ok hn hs hb hc hk), nI_ad, show nI k + 1 = nI (k + 1) from nI_ad k 1]
    rfl
  · unfold Mo_totalBy_L4
    exact if_neg (fun z => by have := (nI_ltN (by omega) (by omega)).mp z; omega)
/-- the code behind a move -/
theorem cR_go {g : Nat → Nat} {a b : Nat} (ha : a < n) (hb : b < n) (hne : ¬ b = a) (h2 : 2 ≤ g a) : cRS n d (goS g (a, a, b)) + 2 * 2 ^ totS d a = cRS n d g + 2 ^ totS d b := by
  rw [go_mv]
  unfold mvS
  have e1 := cR_at (n := n) (d := d) (g := g) (v := a) (x := g a - 2) ha
  have e2 := cR_at (n := n) (d := d) (g := atS g a (g a - 2)) (v := b) (x := atS g a (g a - 2) b + 1) hb
  rw [Nat.add_mul, Nat.one_mul] at e2
  have e3 : g a * 2 ^ totS d a = (g a - 2) * 2 ^ totS d a + 2 * 2 ^ totS d a := by rw [← Nat.add_mul, show g a - 2 + 2 = g a by omega]
  omega
theorem isInVain_ok (hG : GoodG n nx) (hx : ∀ w, w < 12 → nextTo w = nI (nx w)) (hw : w < n) (hs : totS d n ≤ 16) (hb : BTs n d sh wi) {g : Nat → Nat} (hbx : BxS n d g) {isV : Nat → Int32}
    (hV : ∀ a b, a < n → b < n → (nx a).testBit b = true → 2 ≤ g a → ¬ b = w → g b + 1 < 2 ^ d b → (isV (cRS n d (goS g (a, a, b))) = 0 ↔ ¬ vaS n nx d w (goS g (a, a, b)))) :
    (Mo_isInVain nextTo (nI n) sh wi isV (nI (cRS n d g)) (nI w) = some 1 ∧ vaS n nx d w g) ∨ (Mo_isInVain nextTo (nI n) sh wi isV (nI (cRS n d g)) (nI w) = some 0 ∧ ¬ vaS n nx d w g) := by
  have n12 := hG.1
  have hc := cR_lt hbx
  have h16 : 2 ^ totS d n ≤ 2 ^ 16 := Nat.pow_le_pow_right (by omega) hs
  have hde := de_cR hbx
  have hJ : ∀ v, v < n → Mo_jarsBy sh wi (nI (cRS n d g)) (nI v) = some (nI (g v)) := fun v hv => by
    rw [jarsBy_ok n12 hs hb (by omega) hv, hde]
  have hg16 : ∀ v, v < n → g v < 2 ^ 16 := fun v hv => by
    have h1 := hbx.1 v hv
    have h2 := totS_le (g := d) hv
    have : 2 ^ d v ≤ 2 ^ 16 := Nat.pow_le_pow_right (by omega) (by omega)
    omega
  -- the inner loop
  have inner : ∀ a, a < n → 2 ≤ g a → ∃ r, lp (Mo_isInVain_L26 (nI (cRS n d g)) (nI w) (nI a) nextTo (nI n) sh wi isV) 0 = some r ∧ ((r = Sum.inr (Sum.inr ()) ∧ ∀ b, b < n → (nx a).testBit b = true → ¬ b = w ∧ g b + 1 < 2 ^ d b ∧ vaS n nx d w (goS g (a, a, b))) ∨ ((r = Sum.inl () ∨ r = Sum.inr (Sum.inl ())) ∧ ¬ vaS n nx d w g)) := by
    intro a ha h2
    refine lp_inv (f := Mo_isInVain_L26 (nI (cRS n d g)) (nI w) (nI a) nextTo (nI n) sh wi isV) (fun k s => s = nI k ∧ ∀ b, b < k → (nx a).testBit b = true → ¬ b = w ∧ g b + 1 < 2 ^ d b ∧ vaS n nx d w (goS g (a, a, b))) n _ ?_ ?_ 0 0 (Nat.zero_le _) ⟨rfl, fun b hb => by omega⟩
    · rintro k s hk ⟨rfl, e2⟩
      have hbx2 : nx a < 2 ^ 31 := Nat.lt_of_lt_of_le (hG.2.1 a) (Nat.pow_le_pow_right (by omega) (by omega))
      have hsa := tot_le_of (d := d) (show a ≤ n by omega)
      have hsk := tot_le_of (d := d) (show k ≤ n by omega)
      have hdk := totS_le (g := d) hk
      have hpk : 2 ^ d k ≤ 2 ^ 16 := Nat.pow_le_pow_right (by omega) (by omega)
      have hpa : 2 ^ totS d a ≤ 2 ^ 16 := Nat.pow_le_pow_right (by omega) (by omega)
      have hix : ∀ v, v < n → ix (nI v) 12 = true := fun v hv => ixN (by omega) (by omega)
      have hhead : Mo_isInVain_L26 (nI (cRS n d g)) (nI w) (nI a) nextTo (nI n) sh wi isV (nI k) = if (if (nx a).testBit k then (1 : Int32) else 0) = 0 then some (.inl (nI k + 1)) else if nI k = nI w then some (.inr (.inl ())) else if nI (g k) + 1 < nI (2 ^ d k) then gd (ix (nI (cRS n d g) - nI (2 * 2 ^ totS d a) + nI (2 ^ totS d k)) 65536) (if isV (nI (cRS n d g) - nI (2 * 2 ^ totS d a) + nI (2 ^ totS d k)).toNatClampNeg = 0 then some (.inr (.inr (.inl ()))) else some (.inl (nI k + 1))) else some (.inr (.inl ())) := by
        unfold Mo_isInVain_L26 Mo_isInVain_L26_J111
        rw [if_pos ((nI_ltN (by omega) (by omega)).mpr hk), gd_eq (hix a ha), nI_clamp (show a < 2 ^ 31 by omega), hx a (by omega), ob_eq (Mo_has_eq hbx2 (by omega)), ob_eq (hJ k hk), gd_eq (hix k hk), gd_eq (hix a ha), gd_eq (hix k hk), nI_clamp (show k < 2 ^ 31 by omega), (hb a ha).1, (hb k hk).1, (hb k hk).2, shl_nI (by omega), shl_nI (by omega), show (2 : Int32) <<< (nI (totS d a) &&& 31) = nI (2 * 2 ^ totS d a) from pk_shlN (n := 2) _ _ (sm32 _ (by omega)) (by omega)]
      cases ht : (nx a).testBit k with
      | false =>
        left
        rw [ht] at hhead
        refine ⟨_, hhead.trans (if_pos rfl), nI_ad k 1, fun b hb hb2 => ?_⟩
        by_cases e : b = k
        · subst e; rw [ht] at hb2; cases hb2
        · exact e2 b (by omega) hb2
      | true =>
        rw [ht, if_neg (show ¬ (if true = true then (1 : Int32) else 0) = 0 by decide)] at hhead
        have hno : ∀ P : Prop, (vaS n nx d w g → (¬ k = w ∧ g k + 1 < 2 ^ d k ∧ vaS n nx d w (goS g (a, a, k)))) := fun _ hv => va_iff.mp hv a ha k hk ht h2
        by_cases hkw : k = w
        · right
          exact ⟨_, hhead.trans (if_pos (by rw [hkw])), Or.inr ⟨Or.inl rfl, fun z => (hno True z).1 hkw⟩⟩
        · rw [if_neg (fun z => hkw ((nI_inj (by omega) (by omega)).mp z)), show nI (g k) + 1 = nI (g k + 1) from nI_ad _ 1] at hhead
          have hgk := hg16 k hk
          by_cases hlt : g k + 1 < 2 ^ d k
          · rw [if_pos ((nI_ltN (by omega) (by omega)).mpr hlt)] at hhead
            have hne : ¬ k = a := fun e => by rw [e, hG.2.2.2.2] at ht; cases ht
            have hcg := cR_go (n := n) (d := d) ha hk hne h2
            have hbg := cR_lt (box_go hG hbx ha hk ht h2 hlt)
            have hidx : nI (cRS n d g) - nI (2 * 2 ^ totS d a) + nI (2 ^ totS d k) = nI (cRS n d (goS g (a, a, k))) := by
              have e1 := cR_at (n := n) (d := d) (g := g) (v := a) (x := g a - 2) ha
              have e3 : g a * 2 ^ totS d a = (g a - 2) * 2 ^ totS d a + 2 * 2 ^ totS d a := by rw [← Nat.add_mul, show g a - 2 + 2 = g a by omega]
              rw [nI_subN (by omega), nI_ad]
              congr 1
              omega
            rw [hidx, gd_eq (ixN (by omega) (by omega)), nI_clamp (show cRS n d (goS g (a, a, k)) < 2 ^ 31 by omega)] at hhead
            have hVk := hV a k ha hk ht h2 hkw hlt
            by_cases hv0 : isV (cRS n d (goS g (a, a, k))) = 0
            · right
              rw [if_pos hv0] at hhead
              exact ⟨_, hhead, Or.inr ⟨Or.inr rfl, fun z => hVk.mp hv0 (hno True z).2.2⟩⟩
            · left
              rw [if_neg hv0] at hhead
              refine ⟨_, hhead, nI_ad k 1, fun b hb hb2 => ?_⟩
              by_cases e : b = k
              · subst e
                exact ⟨hkw, hlt, Classical.byContradiction (fun z => hv0 (hVk.mpr z))⟩
              · exact e2 b (by omega) hb2
          · right
            rw [if_neg (fun z => hlt ((nI_ltN (by omega) (by omega)).mp z))] at hhead
            exact ⟨_, hhead, Or.inr ⟨Or.inl rfl, fun z => hlt (hno True z).2.1⟩⟩
    · rintro s ⟨rfl, e2⟩
      refine ⟨_, ?_, Or.inl ⟨rfl, e2⟩⟩
      unfold Mo_isInVain_L26
      exact if_neg (fun z => by have := (nI_ltN (by omega) (by omega)).mp z; omega)
  obtain ⟨r, r1, r2⟩ := lp_inv (f := Mo_isInVain_L2 (nI (cRS n d g)) (nI w) nextTo (nI n) sh wi isV) (fun k s => s = nI k ∧ ∀ a, a < k → ∀ b, b < n → (nx a).testBit b = true → 2 ≤ g a → ¬ b = w ∧ g b + 1 < 2 ^ d b ∧ vaS n nx d w (goS g (a, a, b))) n
    (fun r => (r = Sum.inr (Sum.inr ()) ∧ vaS n nx d w g) ∨ ((r = Sum.inl () ∨ r = Sum.inr (Sum.inl ())) ∧ ¬ vaS n nx d w g))
    (by
      rintro k s hk ⟨rfl, e2⟩
      have hgk := hg16 k hk
      have hhead : Mo_isInVain_L2 (nI (cRS n d g)) (nI w) nextTo (nI n) sh wi isV (nI k) = if nI (g k) < 2 then some (.inl (nI k + 1)) else ob (lp (Mo_isInVain_L26 (nI (cRS n d g)) (nI w) (nI k) nextTo (nI n) sh wi isV) 0) fun x2 => sm x2 (fun x2 => some (.inr (.inl ()))) (fun x2 => sm x2 (fun x2 => some (.inr (.inr (.inl ())))) (fun x2 => some (.inl (nI k + 1)))) := by
        unfold Mo_isInVain_L2
        rw [if_pos ((nI_ltN (by omega) (by omega)).mpr hk), ob_eq (hJ k hk)]
        rfl
      by_cases h2 : g k < 2
      · left
        refine ⟨_, hhead.trans (if_pos ((nI_ltN (b := 2) (by omega) (by omega)).mpr h2)), nI_ad k 1, fun a ha b hb hab h3 => ?_⟩
        by_cases e : a = k
        · subst e; omega
        · exact e2 a (by omega) b hb hab h3
      · rw [if_neg (show ¬ nI (g k) < 2 from fun z => h2 ((nI_ltN (b := 2) (by omega) (by omega)).mp z))] at hhead
        obtain ⟨y, y1, y2⟩ := inner k hk (by omega)
        rw [ob_eq y1] at hhead
        rcases y2 with ⟨rfl, y3⟩ | ⟨y3, y4⟩
        · left
          refine ⟨_, hhead, nI_ad k 1, fun a ha b hb hab h3 => ?_⟩
          by_cases e : a = k
          · subst e; exact y3 b hb hab
          · exact e2 a (by omega) b hb hab h3
        · right
          rcases y3 with rfl | rfl
          · exact ⟨_, hhead, Or.inr ⟨Or.inl rfl, y4⟩⟩
          · exact ⟨_, hhead, Or.inr ⟨Or.inr rfl, y4⟩⟩)
    (by
      rintro s ⟨rfl, e2⟩
      refine ⟨_, ?_, Or.inl ⟨rfl, va_iff.mpr (fun a ha b hb hab h3 => e2 a ha b hb hab h3)⟩⟩
      unfold Mo_isInVain_L2
      exact if_neg (fun z => by have := (nI_ltN (by omega) (by omega)).mp z; omega))
    0 0 (Nat.zero_le _) ⟨rfl, fun a ha => by omega⟩
  have hfin : Mo_isInVain nextTo (nI n) sh wi isV (nI (cRS n d g)) (nI w) = sm r (fun _ => some 0) (fun x1 => sm x1 (fun _ => some 0) (fun _ => some 1)) := by
    unfold Mo_isInVain
    rw [ob_eq r1]
  rw [hfin]
  rcases r2 with ⟨rfl, hv⟩ | ⟨rfl | rfl, hv⟩
  · exact Or.inl ⟨rfl, hv⟩
  · exact Or.inr ⟨rfl, hv⟩
  · exact Or.inr ⟨rfl, hv⟩
theorem isGreater_ok (hn : n ≤ 12) (hs : totS d n ≤ 16) (hb : BTs n d sh wi) {g h : Nat → Nat} (hg : BxS n d g) (hh : BxS n d h) :
    Mo_isGreater (nI n) sh wi (nI (cRS n d g)) (nI (cRS n d h)) = some (if cCS n d h < cCS n d g then 1 else 0) := by
  have h16 : 2 ^ totS d n ≤ 2 ^ 16 := Nat.pow_le_pow_right (by omega) hs
  have b16 : ∀ {f : Nat → Nat}, BxS n d f → ∀ v, v < n → f v < 2 ^ 16 := fun hf v hv => by
    have h1 := hf.1 v hv
    have h2 := totS_le (g := d) hv
    have : 2 ^ d v ≤ 2 ^ 16 := Nat.pow_le_pow_right (by omega) (by omega)
    omega
  have hJ : ∀ {f : Nat → Nat}, BxS n d f → ∀ v, v < n → Mo_jarsBy sh wi (nI (cRS n d f)) (nI v) = some (nI (f v)) := fun hf v hv => by
    rw [jarsBy_ok hn hs hb (by have := cR_lt hf; omega) hv, de_cR hf]
  obtain ⟨r, r1, r2⟩ := lp_inv (f := Mo_isGreater_L2 (nI (cRS n d g)) (nI (cRS n d h)) (nI n) sh wi) (fun k s => s = nI k ∧ ∀ u, u < k → g u = h u) n
    (fun r => (r = Sum.inr () ∧ g = h) ∨ ∃ v, r = Sum.inl (nI v) ∧ v < n ∧ ¬ g v = h v ∧ ∀ u, u < v → g u = h u)
    (by
      rintro k s hk ⟨rfl, e2⟩
      have h1 := b16 hg k hk
      have h2 := b16 hh k hk
      have hhead : Mo_isGreater_L2 (nI (cRS n d g)) (nI (cRS n d h)) (nI n) sh wi (nI k) = if nI (g k) = nI (h k) then some (.inl (nI k + 1)) else some (.inr (.inl (nI k))) := by
        unfold Mo_isGreater_L2
        rw [if_pos ((nI_ltN (by omega) (by omega)).mpr hk), ob_eq (hJ hg k hk), ob_eq (hJ hh k hk)]
      by_cases e : g k = h k
      · left
        refine ⟨_, hhead.trans (if_pos (by rw [e])), nI_ad k 1, fun u hu => ?_⟩
        by_cases z : u = k
        · rw [z]; exact e
        · exact e2 u (by omega)
      · right
        exact ⟨_, hhead.trans (if_neg (fun z => e ((nI_inj (by omega) (by omega)).mp z))), Or.inr ⟨k, rfl, hk, e, e2⟩⟩)
    (by
      rintro s ⟨rfl, e2⟩
      refine ⟨_, ?_, Or.inl ⟨rfl, ?_⟩⟩
      · unfold Mo_isGreater_L2
        exact if_neg (fun z => by have := (nI_ltN (by omega) (by omega)).mp z; omega)
      · funext u
        by_cases z : u < n
        · exact e2 u z
        · rw [hg.2 u (by omega), hh.2 u (by omega)])
    0 0 (Nat.zero_le _) ⟨rfl, fun u hu => by omega⟩
  unfold Mo_isGreater
  rw [ob_eq r1]
  rcases r2 with ⟨rfl, e⟩ | ⟨v, rfl, v1, v2, v3⟩
  · subst e
    rw [if_neg (Nat.lt_irrefl _)]
    rfl
  · have h1 := b16 hg v v1
    have h2 := b16 hh v v1
    show ob (Mo_jarsBy sh wi (nI (cRS n d g)) (nI v)) _ = _
    rw [ob_eq (hJ hg v v1), ob_eq (hJ hh v v1)]
    by_cases z : g v < h v
    · have := cC_gt (g := h) (h := g) hg v1 (fun u hu => (v3 u hu).symm) z
      rw [if_pos ((nI_leN (by omega) (by omega)).mpr (by omega)), if_neg (by omega)]
    · have := cC_gt hh v1 v3 (show h v < g v by omega)
      rw [if_neg (fun y => by have := (nI_leN (by omega) (by omega)).mp y; omega), if_pos this]
end RBT
