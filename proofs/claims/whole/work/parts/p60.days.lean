/-! A DAY -/
def FV (f : Nat → Int32) (a b c d e t m y r : Int32) : Prop := f 0 = a ∧ f 1 = b ∧ f 2 = c ∧ f 3 = d ∧ f 4 = e ∧ f 5 = t ∧ f 6 = m ∧ f 7 = y ∧ f 8 = r
theorem fv_same {f g : Nat → Int32} {a b c d e t m y r : Int32} (h1 : FV f a b c d e t m y r) (h2 : FV g a b c d e t m y r) : ∀ k, k < 9 → f k = g k := by
  obtain ⟨a0, a1, a2, a3, a4, a5, a6, a7, a8⟩ := h1
  obtain ⟨b0, b1, b2, b3, b4, b5, b6, b7, b8⟩ := h2
  intro k hk
  have hc : k = 0 ∨ k = 1 ∨ k = 2 ∨ k = 3 ∨ k = 4 ∨ k = 5 ∨ k = 6 ∨ k = 7 ∨ k = 8 := by omega
  rcases hc with rfl | rfl | rfl | rfl | rfl | rfl | rfl | rfl | rfl
  · rw [a0, b0]
  · rw [a1, b1]
  · rw [a2, b2]
  · rw [a3, b3]
  · rw [a4, b4]
  · rw [a5, b5]
  · rw [a6, b6]
  · rw [a7, b7]
  · rw [a8, b8]
theorem place_eq (g : Nat → Int32) (a b c d e : Int32) : ∃ g', Law_place g a b c d e = some g' ∧ FV g' a b c d e (g 5) (g 6) (g 7) (g 8) := by
  refine ⟨_, rfl, rfl, rfl, rfl, rfl, rfl, rfl, rfl, rfl, rfl⟩
section DY
variable {n : Nat} {nx : Nat → Nat}
def w99 (n : Nat) (nx : Nat → Nat) (p q : Nat) : Int32 := if dI n nx p q < 0 then 99 else dI n nx p q
theorem way99 (hg : GoodG n nx) {ways : Nat → Int32} (hw : RW n nx ways) {p q : Nat} (hp : p < n) (hq : q < n) : Camp_wayOrFar (nI n) ways (nI p) (nI q) = some (w99 n nx p q) := by
  unfold Camp_wayOrFar w99
  rw [ob_eq (way_in hg.1 hp hq), hw p q hp hq]
  by_cases h : dI n nx p q < 0
  · rw [if_pos h, if_pos h]
  · rw [if_neg h, if_neg h]
theorem far99 (hg : GoodG n nx) {far : Nat → Int32} (hw : RW n nx far) {now : Nat → Int32} {p q : Nat} (hp : p < n) (hq : q < n) (ht : now 24 = nI q) : Mo_stepsOr99 now far (nI p) = some (w99 n nx p q) := by
  have n12 := hg.1
  unfold Mo_stepsOr99
  refine (gd_eq (show ix 24 27 = true from rfl)).trans ?_
  show (ob (Mo_far far (nI p) (now 24)) _) = _
  rw [ht, ob_eq (far_in (by omega) (by omega)), hw p q hp hq]
  unfold w99
  rcases dI_or hg hp hq with ⟨k, hk, e⟩ | e
  · rw [e, if_neg (nI_pos (by omega)), if_neg (fun z => nI_pos (show k < 2 ^ 31 by omega) (by rw [z]; decide))]
  · rw [e]; rfl
/-- what the reference feels -/
theorem feels_eq (hn : n ≤ 12) {jars space now : Nat → Int32} {throne day draw : Int32} (hj : RJ jars space throne day draw now) {m : Nat} (hm : Mo_jarsOfAll now (nI n) = some (nI m)) (facts : Nat → Int32) (r : Int32) :
    ∃ f', Mo_feels now (nI n) facts r = some f' ∧ FV f' 0 0 0 0 0 throne (nI m) (day % 100) r := by
  have hl : lp (Mo_feels_L2 r) (0, facts) = some (filled facts 0 5) := by
    have := lp_run (f := Mo_feels_L2 r) (fun k => (nI k, filled facts 0 k)) 5 (r := filled facts 0 5) (fun k hk => ?_) rfl
    · rw [filled_zero] at this; exact this
    · unfold Mo_feels_L2
      show (if nI k < nI 5 then (gd (ix (nI k) 9) (some (Sum.inl (nI k + nI 1, upd (filled facts 0 k) (nI k).toNatClampNeg 0)))) else _) = _
      rw [if_pos ((nI_ltN (by omega) (by decide)).mpr hk), gd_eq (ixN (by omega) (by decide)), nI_clamp (by omega), nI_ad, filled_succ]
  have e24 : now 24 = throne := hj.2.2.1
  have e25 : now 25 = day := hj.2.2.2.1
  refine ⟨upd (upd (upd (upd (filled facts 0 5) 5 throne) 6 (nI m)) 7 (day % 100)) 8 r, ?_, ?_⟩
  · unfold Mo_feels
    refine (ob_eq hl).trans ((gd_eq (show ix 24 27 = true from rfl)).trans ((gd_eq (show ix 5 9 = true from rfl)).trans ((ob_eq hm).trans ((gd_eq (show ix 6 9 = true from rfl)).trans ((gd_eq (show ix 25 27 = true from rfl)).trans ((gd_eq (show ix 7 9 = true from rfl)).trans ((gd_eq (show ix 8 9 = true from rfl)).trans ?_)))))))
    show some (upd (upd (upd (upd (filled facts 0 5) 5 (now 24)) 6 (nI m)) 7 (now 25 % 100)) 8 r) = _
    rw [e24, e25]
  · exact ⟨rfl, rfl, rfl, rfl, rfl, rfl, rfl, rfl, rfl⟩
theorem feelsStage_eq (hg : GoodG n nx) {jars space now far : Nat → Int32} {throne day draw : Int32} (hj : RJ jars space throne day draw now) (hw : RW n nx far) {m t : Nat} (hm : Mo_jarsOfAll now (nI n) = some (nI m)) (ht : throne = nI t) (htn : t < n) {p q : Nat} (hp : p < n) (hq : q < n) (facts : Nat → Int32) (r : Int32) :
    ∃ f', Mo_feelsStage now (nI n) far facts (nI p) (nI q) r = some f' ∧ FV f' (nI p) (nI q) (jars p) (jars q) (w99 n nx q t) throne (nI m) (day % 100) r := by
  have n12 := hg.1
  obtain ⟨f1, a1, b0, b1, b2, b3, b4, b5, b6, b7, b8⟩ := feels_eq n12 hj hm facts r
  have hfar := far99 hg hw (now := now) hq htn (hj.2.2.1.trans ht)
  have ep : (0 : Int32) + nI p = nI p := (nI_ad 0 p).trans (by rw [Nat.zero_add])
  have eq : (0 : Int32) + nI q = nI q := (nI_ad 0 q).trans (by rw [Nat.zero_add])
  refine ⟨upd (upd (upd (upd (upd f1 0 (nI p)) 1 (nI q)) 2 (jars p)) 3 (jars q)) 4 (w99 n nx q t), ?_, rfl, rfl, rfl, rfl, rfl, b5, b6, b7, b8⟩
  unfold Mo_feelsStage
  rw [ep, eq]
  refine (ob_eq a1).trans ((gd_eq (show ix 0 9 = true from rfl)).trans ((gd_eq (show ix 1 9 = true from rfl)).trans ((gd_eq (ixN (show p < 27 by omega) (by decide))).trans ((gd_eq (show ix 2 9 = true from rfl)).trans ((gd_eq (ixN (show q < 27 by omega) (by decide))).trans ((gd_eq (show ix 3 9 = true from rfl)).trans ((ob_eq hfar).trans ((gd_eq (show ix 4 9 = true from rfl)).trans ?_))))))))
  rw [nI_clamp (by omega), nI_clamp (by omega), hj.1 p (by omega), hj.1 q (by omega)]
  rfl
theorem feelsWell_eq (hg : GoodG n nx) {jars space now far : Nat → Int32} {throne day draw : Int32} (hj : RJ jars space throne day draw now) (hw : RW n nx far) {m t : Nat} (hm : Mo_jarsOfAll now (nI n) = some (nI m)) (ht : throne = nI t) (htn : t < n) {p : Nat} (hp : p < n) (facts : Nat → Int32) (r : Int32) :
    ∃ f', Mo_feelsWell now (nI n) far facts (nI p) r = some f' ∧ FV f' (nI p) 0 (jars p) 0 (w99 n nx p t) throne (nI m) (day % 100) r := by
  have n12 := hg.1
  obtain ⟨f1, a1, b0, b1, b2, b3, b4, b5, b6, b7, b8⟩ := feels_eq n12 hj hm facts r
  have hfar := far99 hg hw (now := now) hp htn (hj.2.2.1.trans ht)
  have ep : (0 : Int32) + nI p = nI p := (nI_ad 0 p).trans (by rw [Nat.zero_add])
  refine ⟨upd (upd (upd f1 0 (nI p)) 2 (jars p)) 4 (w99 n nx p t), ?_, rfl, b1, rfl, b3, rfl, b5, b6, b7, b8⟩
  unfold Mo_feelsWell
  rw [ep]
  refine (ob_eq a1).trans ((gd_eq (show ix 0 9 = true from rfl)).trans ((gd_eq (ixN (show p < 27 by omega) (by decide))).trans ((gd_eq (show ix 2 9 = true from rfl)).trans ((ob_eq hfar).trans ((gd_eq (show ix 4 9 = true from rfl)).trans ?_)))))
  rw [nI_clamp (by omega), hj.1 p (by omega)]
  rfl
end DY
/-- the draws -/
def nd (draw : Int32) : Int32 := (25173 * draw + 13849) % 65536
theorem nd_ok {x : Nat} (hx : x ≤ 65535) : ∃ y, y ≤ 65535 ∧ nd (nI x) = nI y := by
  unfold nd
  refine ⟨(25173 * x + 13849) % 65536, by have := Nat.mod_lt (25173 * x + 13849) (show 0 < 65536 by decide); omega, ?_⟩
  have e1 : (25173 : Int32) * nI x + 13849 = nI (25173 * x + 13849) := by
    rw [show (25173 : Int32) * nI x = nI (25173 * x) from nI_mulN 25173 x]
    exact nI_ad _ 13849
  rw [e1]
  exact nI_modN (d := 65536) (by omega) (by decide) (by decide)
theorem draws_eq {jars space now : Nat → Int32} {throne day draw : Int32} (hj : RJ jars space throne day draw now) : Mo_draws now = some (nd draw % 10, upd now 26 (nd draw)) ∧ RJ jars space throne day (nd draw) (upd now 26 (nd draw)) := by
  have e26 : now 26 = draw := hj.2.2.2.2
  constructor
  · unfold Mo_draws
    refine (gd_eq (show ix 26 27 = true from rfl)).trans ((gd_eq (show ix 26 27 = true from rfl)).trans ((gd_eq (show ix 26 27 = true from rfl)).trans ?_))
    show some ((upd now 26 ((25173 * now 26 + 13849) % 65536)) 26 % 10, upd now 26 ((25173 * now 26 + 13849) % 65536)) = _
    rw [upd_at, e26]; rfl
  · exact ⟨fun w hw => (upd_ne (by omega)).trans (hj.1 w hw), fun w hw => (upd_ne (by omega)).trans (hj.2.1 w hw), (upd_ne (by omega)).trans hj.2.2.1, (upd_ne (by omega)).trans hj.2.2.2.1, upd_at _ _ _⟩
section GO
variable {n : Nat} {nx : Nat → Nat} {jars space now far ways next nextTo : Nat → Int32} {throne day draw : Int32} {ra : Int32} {kinds worths tests code : Nat → Int32} {cl : Int32} {codes clauseOf from_ half to_ : Nat → Int32}
/-- two reckonings of one worth -/
theorem worth_same (hA : RA ra kinds worths tests code cl codes clauseOf from_ half to_) {given facts : Nat → Int32} (hg : ∀ k, k < 9 → given k = facts k) {kd : Int32} (hkd : ¬ kd = 120) {lo hi : Int32} (hlh : lo ≤ hi) {cs rs cs' : Nat → Int32} {v : Int32} (h : Law_worth ra kinds worths tests code given cs kd lo lo hi = some (v, cs')) : ∃ rs', Mo_byLaw cl codes clauseOf from_ half to_ rs facts kd lo hi = some (v, rs') := by
  obtain ⟨v', c', r', h1, h2, -⟩ := worth_both hA hg kd hkd lo hi cs rs hlh
  rw [h] at h1
  cases h1
  exact ⟨r', h2⟩
/-- the stages seen so far: what both have chosen -/
def Best (n : Nat) (jars space : Nat → Int32) (best fr to cost chosen : Int32) : Prop := (best = 0 ∧ chosen = -1) ∨ (0 < best ∧ ∃ p q k, p < n ∧ q < n ∧ p ≠ q ∧ fr = nI p ∧ to = nI q ∧ chosen = nI (12 * p + q) ∧ cost = nI k ∧ 2 ≤ k ∧ k ≤ 9 ∧ (∃ j, k ≤ j ∧ j ≤ 40 ∧ jars p = nI j) ∧ jars q < space q)
theorem stage_one (hg : GoodG n nx) (hx : ∀ w, w < 12 → nextTo w = nI (nx w)) (hx2 : ∀ w, w < 12 → next w = nI (nx w)) (hw : RW n nx ways) (hf : RW n nx far) (hA : RA ra kinds worths tests code cl codes clauseOf from_ half to_) (hj : RJ jars space throne day draw now) (hb : BJ jars space throne day draw) {m t : Nat} (hm : Mo_jarsOfAll now (nI n) = some (nI m)) (ht : throne = nI t) (htn : t < n) {p : Nat} (hp : p < n) (r : Int32) {g0 : Nat → Int32} (h5 : g0 5 = throne) (h6 : g0 6 = nI m) (h7 : g0 7 = day % 100) (h8 : g0 8 = r) {best fr to cost chosen : Int32} (cs rs : Nat → Int32) (facts : Nat → Int32)
    (hC : Best n jars space best fr to cost chosen)
    (hcost : 0 < best → ∀ p q, chosen = nI (12 * p + q) → p < n → q < n → ∀ fc, FV fc (nI p) (nI q) (jars p) (jars q) (w99 n nx q t) throne (nI m) (day % 100) r → ∀ rs, ∃ rs', Mo_byLaw cl codes clauseOf from_ half to_ rs fc 99 2 9 = some (cost, rs')) :
    ∃ best' fr' to' cost' chosen' g' cs' rs' f', lp (Camp_goBestStage_L26 (nI p) jars space throne (nI n) next ways ra kinds worths tests code) (best, fr, to, cost, 0, g0, cs) = some (best', fr', to', cost', g', cs') ∧
      lp (Mo_chosenStage_L19 r (nI p) now nextTo (nI n) far cl codes clauseOf from_ half to_) (chosen, best, 0, rs, facts) = some (chosen', best', rs', f') ∧ g' 5 = throne ∧ g' 6 = nI m ∧ g' 7 = day % 100 ∧ g' 8 = r ∧ Best n jars space best' fr' to' cost' chosen' ∧
      (0 < best' → ∀ p q, chosen' = nI (12 * p + q) → p < n → q < n → ∀ fc, FV fc (nI p) (nI q) (jars p) (jars q) (w99 n nx q t) throne (nI m) (day % 100) r → ∀ rs, ∃ rs', Mo_byLaw cl codes clauseOf from_ half to_ rs fc 99 2 9 = some (cost', rs')) := by
  have n12 := hg.1
  have hsim := lp_sim (f := Camp_goBestStage_L26 (nI p) jars space throne (nI n) next ways ra kinds worths tests code) (g := Mo_chosenStage_L19 r (nI p) now nextTo (nI n) far cl codes clauseOf from_ half to_)
    (fun q s t' => ∃ best fr to cost chosen g cs rs f, s = (best, fr, to, cost, nI q, g, cs) ∧ t' = (chosen, best, nI q, rs, f) ∧ g 5 = throne ∧ g 6 = nI m ∧ g 7 = day % 100 ∧ g 8 = r ∧ Best n jars space best fr to cost chosen ∧ (0 < best → ∀ p q, chosen = nI (12 * p + q) → p < n → q < n → ∀ fc, FV fc (nI p) (nI q) (jars p) (jars q) (w99 n nx q t) throne (nI m) (day % 100) r → ∀ rs, ∃ rs', Mo_byLaw cl codes clauseOf from_ half to_ rs fc 99 2 9 = some (cost, rs'))) n
    (fun x x' => ∃ best' fr' to' cost' chosen' g' cs' rs' f', x = (best', fr', to', cost', g', cs') ∧ x' = (chosen', best', rs', f') ∧ g' 5 = throne ∧ g' 6 = nI m ∧ g' 7 = day % 100 ∧ g' 8 = r ∧ Best n jars space best' fr' to' cost' chosen' ∧ (0 < best' → ∀ p q, chosen' = nI (12 * p + q) → p < n → q < n → ∀ fc, FV fc (nI p) (nI q) (jars p) (jars q) (w99 n nx q t) throne (nI m) (day % 100) r → ∀ rs, ∃ rs', Mo_byLaw cl codes clauseOf from_ half to_ rs fc 99 2 9 = some (cost', rs'))) ?_ ?_ 0 (best, fr, to, cost, 0, g0, cs) (chosen, best, 0, rs, facts) (Nat.zero_le _) ⟨best, fr, to, cost, chosen, g0, cs, rs, facts, rfl, rfl, h5, h6, h7, h8, hC, hcost⟩
  · obtain ⟨x, x', g1, g2, best', fr', to', cost', chosen', g', cs', rs', f', rfl, rfl, k⟩ := hsim
    exact ⟨best', fr', to', cost', chosen', g', cs', rs', f', g1, g2, k⟩
  · rintro q s t' hq ⟨best, fr, to, cost, chosen, g, cs, rs, f, rfl, rfl, e5, e6, e7, e8, hB, hco⟩
    left
    have hqn : nI q < nI n := (nI_ltN (by omega) (by omega)).mpr hq
    have eq1 : nI q + 1 = nI (q + 1) := nI_ad q 1
    have hxp : ix (nI p) 12 = true := ixN (by omega) (by decide)
    have hxq : ix (nI q) 12 = true := ixN (by omega) (by decide)
    have cp : (nI p).toNatClampNeg = p := nI_clamp (by omega)
    have cq : (nI q).toNatClampNeg = q := nI_clamp (by omega)
    obtain ⟨j, hj40, ej⟩ := hb.1 p (by omega)
    have z0 : ∀ w, (0 : Int32) + nI w = nI w := fun w => (nI_ad 0 w).trans (by rw [Nat.zero_add])
    have z12 : ∀ w, (12 : Int32) + nI w = nI (12 + w) := fun w => nI_ad 12 w
    have hnx := areNext_in hg hx2 hp hq
    have hmx : nx p < 2 ^ 31 := Nat.lt_of_lt_of_le (hg.2.1 p) (Nat.le_trans (Nat.pow_le_pow_right (by decide) n12) (by decide))
    have hhas : Mo_has (nextTo (nI p).toNatClampNeg) (nI q) = some (if (nx p).testBit q then 1 else 0) := by
      rw [cp, hx p (by omega)]; exact Mo_has_eq hmx (by omega)
    -- neither goes on here
    have skipC : ∀ {g cs}, Camp_goBestStage_L26_J167 best fr to cost (nI p) (nI q) jars space throne (nI n) next ways ra kinds worths tests code g cs = some (.inl (best, fr, to, cost, nI (q + 1), g, cs)) := by
      intro g cs; unfold Camp_goBestStage_L26_J167; rw [eq1]
    have skipR : ∀ {rs f}, Mo_chosenStage_L19_J134 r chosen best (nI p) (nI q) now nextTo (nI n) far cl codes clauseOf from_ half to_ rs f = some (.inl (chosen, best, nI (q + 1), rs, f)) := by
      intro rs f; unfold Mo_chosenStage_L19_J134; rw [eq1]
    cases hbit : (nx p).testBit q with
    | false =>
      rw [hbit, if_neg Bool.false_ne_true] at hnx hhas
      refine ⟨(best, fr, to, cost, nI (q + 1), g, cs), (chosen, best, nI (q + 1), rs, f), ?_, ?_, best, fr, to, cost, chosen, g, cs, rs, f, rfl, rfl, e5, e6, e7, e8, hB, hco⟩
      · unfold Camp_goBestStage_L26
        refine (if_pos hqn).trans ((gd_eq hxp).trans ?_)
        by_cases h2 : jars (nI p).toNatClampNeg < 2
        · exact (if_pos h2).trans skipC
        · refine (if_neg h2).trans ((gd_eq hxq).trans ((gd_eq hxq).trans ?_))
          by_cases h3 : jars (nI q).toNatClampNeg < space (nI q).toNatClampNeg
          · exact (if_pos h3).trans ((ob_eq hnx).trans ((if_pos rfl).trans skipC))
          · exact (if_neg h3).trans skipC
      · unfold Mo_chosenStage_L19
        exact (if_pos hqn).trans ((gd_eq hxp).trans ((ob_eq hhas).trans ((if_pos rfl).trans skipR)))
    | true =>
      have hpq : p ≠ q := fun e => by
        subst e
        rw [hg.2.2.2.2 p] at hbit; cases hbit
      rw [hbit, if_pos rfl] at hnx hhas
      have hroom : (now ((0 : Int32) + nI q).toNatClampNeg < now ((12 : Int32) + nI q).toNatClampNeg) ↔ jars q < space q := by
        rw [z0, z12, cq, nI_clamp (by omega), hj.1 q (by omega), hj.2.1 q (by omega)]
      have hx27 : ix ((0 : Int32) + nI q) 27 = true := by rw [z0]; exact ixN (by omega) (by decide)
      have hx27' : ix ((12 : Int32) + nI q) 27 = true := by rw [z12]; exact ixN (by omega) (by decide)
      have hx27p : ix ((0 : Int32) + nI p) 27 = true := by rw [z0]; exact ixN (by omega) (by decide)
      by_cases hrm : jars q < space q
      · obtain ⟨f', hfs, hFV⟩ := feelsStage_eq hg hj hf hm ht htn hp hq f r
        obtain ⟨g', hpl, hGV⟩ := place_eq g (nI p) (nI q) (jars p) (jars q) (w99 n nx q t)
        rw [e5, e6, e7, e8] at hGV
        have hfa := fv_same hGV hFV
        -- the reference reckons the cost first
        obtain ⟨c1, csA, rsA, -, hcR, hcl, hch⟩ := worth_both hA hfa 99 (by decide) 2 9 cs rs (by decide)
        have hk1 : ∃ k, 2 ≤ k ∧ k ≤ 9 ∧ c1 = nI k := by
          have hnn : ¬ c1 < 0 := fun z => absurd (Int32.lt_of_le_of_lt hcl z) (by decide)
          obtain ⟨k, hk, rfl⟩ := nI_between (h := 9) (by decide) hnn hch
          exact ⟨k, (nI_leN (a := 2) (by decide) (by omega)).mp hcl, hk, rfl⟩
        obtain ⟨k, hk2, hk9, rfl⟩ := hk1
        have hnowp : now ((0 : Int32) + nI p).toNatClampNeg = jars p := by rw [z0, cp]; exact hj.1 p (by omega)
        have hrefstart : ∀ {y}, (if jars p < nI k then (Mo_chosenStage_L19_J134 r chosen best (nI p) (nI q) now nextTo (nI n) far cl codes clauseOf from_ half to_ rsA f') else (ob (Mo_byLaw cl codes clauseOf from_ half to_ rsA f' 101 0 9999) fun x8 =>
  if x8.1 ≤ best then (Mo_chosenStage_L19_J134 r chosen best (nI p) (nI q) now nextTo (nI n) far cl codes clauseOf from_ half to_ x8.2 f') else (Mo_chosenStage_L19_J134 r ((12 * nI p) + nI q) x8.1 (nI p) (nI q) now nextTo (nI n) far cl codes clauseOf from_ half to_ x8.2 f'))) = some y → Mo_chosenStage_L19 r (nI p) now nextTo (nI n) far cl codes clauseOf from_ half to_ (chosen, best, nI q, rs, f) = some y := by
          intro y hy
          unfold Mo_chosenStage_L19
          refine (if_pos hqn).trans ((gd_eq hxp).trans ((ob_eq hhas).trans ((if_neg one_ne0).trans ((gd_eq hx27).trans ((gd_eq hx27').trans ((if_pos (hroom.mpr hrm)).trans ((ob_eq hfs).trans ((gd_eq hx27p).trans ((ob_eq hcR).trans ?_)))))))))
          show (if now ((0 : Int32) + nI p).toNatClampNeg < nI k then _ else _) = _
          rw [hnowp]
          exact hy
        by_cases hjk : jars p < nI k
        · -- too dear for the reference; the class finds so too, here or there
          have hjk' : j < k := by rw [ej] at hjk; exact (nI_ltN (by omega) (by omega)).mp hjk
          have href := hrefstart ((if_pos hjk).trans skipR)
          by_cases h2 : jars p < 2
          · refine ⟨(best, fr, to, cost, nI (q + 1), g, cs), _, ?_, href, best, fr, to, cost, chosen, g, cs, rsA, f', rfl, rfl, e5, e6, e7, e8, hB, hco⟩
            unfold Camp_goBestStage_L26
            exact (if_pos hqn).trans ((gd_eq hxp).trans ((if_pos (show jars (nI p).toNatClampNeg < 2 by rw [cp]; exact h2)).trans skipC))
          · obtain ⟨v, cs1, rs1, hv1, -, -⟩ := worth_both hA hfa 101 (by decide) 0 9999 cs rs (by decide)
            have hcls : ∀ {y}, (if v ≤ best then (Camp_goBestStage_L26_J167 best fr to cost (nI p) (nI q) jars space throne (nI n) next ways ra kinds worths tests code g' cs1) else (ob (Law_worth ra kinds worths tests code g' cs1 99 2 2 9) fun x10 =>
  gd (ix (nI p) 12) (if (jars (nI p : Int32).toNatClampNeg) < x10.1 then (Camp_goBestStage_L26_J167 best fr to cost (nI p) (nI q) jars space throne (nI n) next ways ra kinds worths tests code g' x10.2) else (Camp_goBestStage_L26_J167 v (nI p) (nI q) x10.1 (nI p) (nI q) jars space throne (nI n) next ways ra kinds worths tests code g' x10.2)))) = some y → Camp_goBestStage_L26 (nI p) jars space throne (nI n) next ways ra kinds worths tests code (best, fr, to, cost, nI q, g, cs) = some y := by
              intro y hy
              unfold Camp_goBestStage_L26
              refine (if_pos hqn).trans ((gd_eq hxp).trans ((if_neg (show ¬ jars (nI p).toNatClampNeg < 2 by rw [cp]; exact h2)).trans ((gd_eq hxq).trans ((gd_eq hxq).trans ((if_pos (show jars (nI q).toNatClampNeg < space (nI q).toNatClampNeg by rw [cq]; exact hrm)).trans ((ob_eq hnx).trans ((if_neg one_ne0).trans ((gd_eq hxp).trans ((gd_eq hxq).trans ?_)))))))))
              show (ob (Camp_wayOrFar (nI n) ways (nI q) throne) fun x7 => ob (Law_place g (nI p) (nI q) (jars (nI p).toNatClampNeg) (jars (nI q).toNatClampNeg) x7) _) = _
              rw [ht, ob_eq (way99 hg hw hq htn), cp, cq, ob_eq hpl, ob_eq hv1, ← ht]
              rw [cp] at hy
              exact hy
            by_cases hvb : v ≤ best
            · exact ⟨_, _, hcls ((if_pos hvb).trans skipC), href, best, fr, to, cost, chosen, g', cs1, rsA, f', rfl, rfl, hGV.2.2.2.2.2.1, hGV.2.2.2.2.2.2.1, hGV.2.2.2.2.2.2.2.1, hGV.2.2.2.2.2.2.2.2, hB, hco⟩
            · obtain ⟨c2, cs2, rs2, hc2, hc2r, -, -⟩ := worth_both hA hfa 99 (by decide) 2 9 cs1 rs (by decide)
              have ec : c2 = nI k := by rw [hcR] at hc2r; cases hc2r; rfl
              subst ec
              exact ⟨_, _, hcls ((if_neg hvb).trans ((ob_eq hc2).trans ((gd_eq hxp).trans ((if_pos (show jars (nI p).toNatClampNeg < nI k by rw [cp]; exact hjk)).trans skipC)))), href, best, fr, to, cost, chosen, g', cs2, rsA, f', rfl, rfl, hGV.2.2.2.2.2.1, hGV.2.2.2.2.2.2.1, hGV.2.2.2.2.2.2.2.1, hGV.2.2.2.2.2.2.2.2, hB, hco⟩
        · have hjk' : k ≤ j := by
            rcases Nat.lt_or_ge j k with z | z
            · exact absurd (by rw [ej]; exact (nI_ltN (by omega) (by omega)).mpr z) hjk
            · exact z
          have h2 : ¬ jars p < 2 := fun z => by
            rw [ej] at z
            have := (nI_ltN (b := 2) (show j < 2 ^ 31 by omega) (by decide)).mp z
            omega
          obtain ⟨v, cs1, rs1, hv1, hv1r, hv0, -⟩ := worth_both hA hfa 101 (by decide) 0 9999 cs rsA (by decide)
          obtain ⟨c2, cs2, rs2, hc2, hc2r, -, -⟩ := worth_both hA hfa 99 (by decide) 2 9 cs1 rs (by decide)
          have ec : c2 = nI k := by rw [hcR] at hc2r; cases hc2r; rfl
          subst ec
          have hcls : ∀ {y}, (if v ≤ best then (Camp_goBestStage_L26_J167 best fr to cost (nI p) (nI q) jars space throne (nI n) next ways ra kinds worths tests code g' cs1) else (Camp_goBestStage_L26_J167 v (nI p) (nI q) (nI k) (nI p) (nI q) jars space throne (nI n) next ways ra kinds worths tests code g' cs2)) = some y → Camp_goBestStage_L26 (nI p) jars space throne (nI n) next ways ra kinds worths tests code (best, fr, to, cost, nI q, g, cs) = some y := by
            intro y hy
            unfold Camp_goBestStage_L26
            refine (if_pos hqn).trans ((gd_eq hxp).trans ((if_neg (show ¬ jars (nI p).toNatClampNeg < 2 by rw [cp]; exact h2)).trans ((gd_eq hxq).trans ((gd_eq hxq).trans ((if_pos (show jars (nI q).toNatClampNeg < space (nI q).toNatClampNeg by rw [cq]; exact hrm)).trans ((ob_eq hnx).trans ((if_neg one_ne0).trans ((gd_eq hxp).trans ((gd_eq hxq).trans ?_)))))))))
            show (ob (Camp_wayOrFar (nI n) ways (nI q) throne) fun x7 => ob (Law_place g (nI p) (nI q) (jars (nI p).toNatClampNeg) (jars (nI q).toNatClampNeg) x7) _) = _
            rw [ht, ob_eq (way99 hg hw hq htn), cp, cq, ob_eq hpl, ob_eq hv1, ← ht]
            by_cases hvb : v ≤ best
            · rw [if_pos hvb] at hy
              exact (if_pos hvb).trans hy
            · rw [if_neg hvb] at hy
              exact (if_neg hvb).trans ((ob_eq hc2).trans ((gd_eq hxp).trans ((if_neg hjk).trans hy)))
          by_cases hvb : v ≤ best
          · exact ⟨_, _, hcls ((if_pos hvb).trans skipC), hrefstart ((if_neg hjk).trans ((ob_eq hv1r).trans ((if_pos hvb).trans skipR))), best, fr, to, cost, chosen, g', cs1, rs1, f', rfl, rfl, hGV.2.2.2.2.2.1, hGV.2.2.2.2.2.2.1, hGV.2.2.2.2.2.2.2.1, hGV.2.2.2.2.2.2.2.2, hB, hco⟩
          · have hch : (12 : Int32) * nI p + nI q = nI (12 * p + q) := by
              rw [show (12 : Int32) * nI p = nI (12 * p) from nI_mulN 12 p, nI_ad]
            have hpos : 0 < v := by
              have hb0 : (0 : Int32) ≤ best := by
                rcases hB with ⟨e, -⟩ | ⟨e, -⟩
                · rw [e]; exact Int32.le_refl _
                · exact Int32.le_of_lt e
              exact Int32.lt_of_le_of_lt hb0 (Int32.not_le.mp hvb)
            refine ⟨(v, nI p, nI q, nI k, nI (q + 1), g', cs2), (nI (12 * p + q), v, nI (q + 1), rs1, f'), hcls ((if_neg hvb).trans ?_), hrefstart ((if_neg hjk).trans ((ob_eq hv1r).trans ((if_neg hvb).trans ?_))), v, nI p, nI q, nI k, nI (12 * p + q), g', cs2, rs1, f', rfl, rfl, hGV.2.2.2.2.2.1, hGV.2.2.2.2.2.2.1, hGV.2.2.2.2.2.2.2.1, hGV.2.2.2.2.2.2.2.2, Or.inr ⟨hpos, p, q, k, hp, hq, hpq, rfl, rfl, rfl, rfl, hk2, hk9, ⟨j, hjk', hj40, ej⟩, hrm⟩, fun _ p' q' e hp' hq' fc hfc rs3 => ?_⟩
            · unfold Camp_goBestStage_L26_J167; rw [eq1]
            · unfold Mo_chosenStage_L19_J134; rw [eq1, hch]
            · have e' := (nI_inj (show 12 * p + q < 2 ^ 31 by omega) (show 12 * p' + q' < 2 ^ 31 by omega)).mp e
              have ep : p' = p := by omega
              have eqq : q' = q := by omega
              subst ep eqq
              exact worth_same hA (fv_same hGV hfc) (by decide) (by decide) hc2
      · refine ⟨(best, fr, to, cost, nI (q + 1), g, cs), (chosen, best, nI (q + 1), rs, f), ?_, ?_, best, fr, to, cost, chosen, g, cs, rs, f, rfl, rfl, e5, e6, e7, e8, hB, hco⟩
        · unfold Camp_goBestStage_L26
          refine (if_pos hqn).trans ((gd_eq hxp).trans ?_)
          by_cases h2 : jars (nI p).toNatClampNeg < 2
          · exact (if_pos h2).trans skipC
          · exact (if_neg h2).trans ((gd_eq hxq).trans ((gd_eq hxq).trans ((if_neg (show ¬ jars (nI q).toNatClampNeg < space (nI q).toNatClampNeg by rw [cq]; exact hrm)).trans skipC)))
        · unfold Mo_chosenStage_L19
          exact (if_pos hqn).trans ((gd_eq hxp).trans ((ob_eq hhas).trans ((if_neg one_ne0).trans ((gd_eq hx27).trans ((gd_eq hx27').trans ((if_neg (fun z => hrm (hroom.mp z))).trans skipR))))))
  · rintro s t' ⟨best, fr, to, cost, chosen, g, cs, rs, f, rfl, rfl, e5, e6, e7, e8, hB, hco⟩
    refine ⟨_, _, ?_, ?_, best, fr, to, cost, chosen, g, cs, rs, f, rfl, rfl, e5, e6, e7, e8, hB, hco⟩
    · unfold Camp_goBestStage_L26; exact if_neg (not_self (by omega))
    · unfold Mo_chosenStage_L19; exact if_neg (not_self (by omega))
end GO
