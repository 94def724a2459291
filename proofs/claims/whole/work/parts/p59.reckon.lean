/-! A PIECE OF CODE, reckoned by both -/
theorem kd_inj {x : Int32} {a b c d : Nat} (h1 : x = nI (a * 1048576 + b)) (h2 : x = nI (c * 1048576 + d)) (ha : a < 20) (hb : b < 1048576) (hc : c < 20) (hd : d < 1048576) : a = c ∧ b = d := by
  have := (nI_inj (show a * 1048576 + b < 2 ^ 31 by omega) (show c * 1048576 + d < 2 ^ 31 by omega)).mp (h1.symm.trans h2)
  omega
theorem base0 {c : Nat} (h : c ≤ 240) : (260 : Int32) * (nI c / 260) = 0 := by
  have e : nI c / nI 260 = nI (c / 260) := pk_div (by omega) (by decide) (by decide)
  rw [show c / 260 = 0 by omega] at e
  rw [show nI c / 260 = nI 0 from e]
  rfl
theorem reckon_both {code given codes facts : Nat → Int32} {p0 c0 c1 s d1 : Nat} {term : Int32} (hp : Piece code codes p0 c0 c1 s term d1) (hs : s ≤ 480) (hc : c1 ≤ 240) (h0 : c0 ≤ c1) (hg : ∀ k, k < 9 → given k = facts k) (ht : (term = 3 ∧ d1 = 1) ∨ (term = 4 ∧ d1 = 100)) (cs0 rs0 : Nat → Int32) :
    ∃ v cs' rs', Law_reckon code given cs0 (nI p0) = some (v, cs') ∧ Mo_reckonsTo codes rs0 facts (nI c0) (nI c1) = some (v, rs') ∧ (term = 4 → v = 0 ∨ v = 1) := by
  obtain ⟨P, hP0, hSeg, hterm, hPs, D, hD0, hD1, hDI⟩ := hp
  have hPlt : ∀ k, c0 ≤ k → k ≤ c1 → P k + 1 < 640 := by
    intro k h1 h2
    have := seg_up hSeg (c1 - k) k h1 (by omega)
    omega
  have hsim := lp_sim2 (f := Law_reckon_L10 code given) (g := Mo_reckonsTo_L16 (nI c1) 0 codes facts)
    (fun n s t => ∃ (k H R : Nat) (T : Int32) (cs rs : Nat → Int32), s = (nI H, T, nI (P k), nI n, cs) ∧ t = (nI R, nI k, rs) ∧ c0 + n ≤ k ∧ k ≤ c1 ∧ ((D k = 100 ∧ H = 0 ∧ R = 1 ∧ T = rs 0 ∧ (T = 0 ∨ T = 1)) ∨ (D k ≤ 20 ∧ H = D k ∧ R = D k ∧ ∀ y, y < D k → cs y = rs y))) 241
    (fun r r' => ∃ cs rs : Nat → Int32, (r = .inr (.inr (.inr (.inl cs))) ∧ r' = .inl rs) ∨ (∃ T, r = .inr (.inl (T, cs)) ∧ r' = .inr rs ∧ T = rs 0 ∧ (T = 0 ∨ T = 1)) ∨ (term = 3 ∧ r = .inr (.inr (.inl (nI 1, 3, cs))) ∧ r' = .inr rs ∧ cs 0 = rs 0)) ?_ ?_ 0 (0, 0, nI p0, 0, cs0) (0, nI c0, rs0) (Nat.zero_le _) ⟨c0, 0, 0, 0, cs0, rs0, by rw [hP0]; rfl, rfl, by omega, h0, Or.inr ⟨by omega, by omega, by omega, fun y hy => by omega⟩⟩
  · obtain ⟨r, r', g1, g2, cs, rs, g3⟩ := hsim
    have hb := base0 (c := c0) (by omega)
    have href : ∀ {v}, (sm r' (fun x1 => some (0, x1)) (fun x1 => gd (ix 0 260) (some (x1 (0 : Int32).toNatClampNeg, x1)))) = some v → Mo_reckonsTo codes rs0 facts (nI c0) (nI c1) = some v := by
      intro v hv
      unfold Mo_reckonsTo
      rw [hb]
      exact (ob_eq g2).trans hv
    rcases g3 with ⟨rfl, rfl⟩ | ⟨T, rfl, rfl, g4, g5⟩ | ⟨g6, rfl, rfl, g7⟩
    · refine ⟨0, cs, rs, ?_, href rfl, fun _ => Or.inl rfl⟩
      unfold Law_reckon
      exact (ob_eq g1).trans rfl
    · refine ⟨T, cs, rs, ?_, href ?_, fun _ => g5⟩
      · unfold Law_reckon
        exact (ob_eq g1).trans rfl
      · rw [g4]; rfl
    · refine ⟨cs 0, cs, rs, ?_, href ?_, fun z => absurd (g6.symm.trans z) (by decide)⟩
      · unfold Law_reckon
        exact (ob_eq g1).trans rfl
      · rw [g7]; rfl
  · rintro n st tt hn ⟨k, H, R, T, cs, rs, rfl, rfl, h1, h2, h3⟩
    have hp1 := hPlt k (by omega) h2
    by_cases hk : k < c1
    · obtain ⟨kd, ar, a1, a2, a3, a4⟩ := hSeg k (by omega) hk
      obtain ⟨kd', ar', b1, b2, b3⟩ := hDI k (by omega) hk
      have hkd12 : kd ≤ 12 := by omega
      have hkd12' : kd' ≤ 12 := by omega
      obtain ⟨rfl, rfl⟩ := kd_inj a2 b2 (by omega) a1 (by omega) b1
      have hpk : ∀ w, wdN kd = w → P (k + 1) = P k + w := fun w hw => by rw [a3, hw]
      rcases a4 with ⟨rfl, q1, q2⟩ | ⟨rfl, q1, q2, q3⟩ | ⟨q1, q2, q3⟩ | ⟨q1, q2, q3, q4, q5⟩
      · -- a number
        left
        have hD : D k + 1 ≤ 20 ∧ D (k + 1) = D k + 1 := by omega
        obtain ⟨-, rfl, rfl, h6⟩ : D k ≤ 20 ∧ H = D k ∧ R = D k ∧ ∀ y, y < D k → cs y = rs y := h3.resolve_left (fun z => by omega)
        refine ⟨_, _, cls_num (by omega) hp1 (by omega) q1, ref_num hk hc (by omega) a1 a2, k + 1, D k + 1, D k + 1, T, _, _, by rw [hpk 2 rfl], rfl, by omega, by omega, Or.inr ⟨by omega, by omega, by omega, fun y hy => ?_⟩⟩
        by_cases e : y = D k
        · subst e; rw [upd_at, upd_at, q2]
        · rw [upd_ne e, upd_ne e]; exact h6 y (by omega)
      · -- a fact
        left
        have hD : D k + 1 ≤ 20 ∧ D (k + 1) = D k + 1 := by omega
        obtain ⟨-, rfl, rfl, h6⟩ : D k ≤ 20 ∧ H = D k ∧ R = D k ∧ ∀ y, y < D k → cs y = rs y := h3.resolve_left (fun z => by omega)
        refine ⟨_, _, cls_fact (by omega) hp1 (by omega) q2 q1 q3, ref_fact hk hc (by omega) q1 a2, k + 1, D k + 1, D k + 1, T, _, _, by rw [hpk 2 rfl], rfl, by omega, by omega, Or.inr ⟨by omega, by omega, by omega, fun y hy => ?_⟩⟩
        by_cases e : y = D k
        · subst e; rw [upd_at, upd_at, hg ar q1]
        · rw [upd_ne e, upd_ne e]; exact h6 y (by omega)
      · by_cases e10 : kd = 10
        · -- not
          left
          subst e10
          have hD : D k = 100 ∧ D (k + 1) = 100 := by omega
          obtain ⟨-, rfl, rfl, h6, h7⟩ : D k = 100 ∧ H = 0 ∧ R = 1 ∧ T = rs 0 ∧ (T = 0 ∨ T = 1) := h3.resolve_right (fun z => by omega)
          refine ⟨_, _, cls_not (by omega) hp1 (by omega) q3, ref_not hk hc a1 a2, k + 1, 0, 1, 1 - T, cs, _, by rw [hpk 1 rfl], rfl, by omega, by omega, Or.inl ⟨hD.2, rfl, rfl, by rw [upd_at, h6], ?_⟩⟩
          rcases h7 with rfl | rfl
          · exact Or.inr rfl
          · exact Or.inl rfl
        · have k9 : kd ≤ 9 := by omega
          have hw1 : wdN kd = 1 := if_neg (by omega)
          have hD2 : 2 ≤ D k ∧ D k ≤ 20 := by omega
          obtain ⟨-, rfl, rfl, h6⟩ : D k ≤ 20 ∧ H = D k ∧ R = D k ∧ ∀ y, y < D k → cs y = rs y := h3.resolve_left (fun z => by omega)
          have hcb := cls_bin (given := given) (T := T) (cs := cs) hD2.1 (show D k < 48 by omega) hp1 (show n < 640 by omega) q1 k9 q3
          have hrb := ref_bin (facts := facts) (b := 0) (rs := rs) hk hc hD2.1 (show D k < 260 by omega) q1 k9 a1 a2
          have e1 := h6 (D k - 1) (by omega)
          have e2 := h6 (D k - 2) (by omega)
          by_cases hz : (kd = 5 ∨ kd = 6) ∧ rs (D k - 1) = 0
          · right
            rw [if_pos hz] at hrb
            rw [if_pos (by rw [e1]; exact hz)] at hcb
            exact ⟨_, _, lp_inr hcb, lp_inr hrb, cs, rs, Or.inl ⟨rfl, rfl⟩⟩
          · left
            rw [if_neg hz] at hrb
            rw [if_neg (by rw [e1]; exact hz)] at hcb
            by_cases k6 : kd ≤ 6
            · rw [if_pos k6] at hcb
              have hD3 : D (k + 1) + 1 = D k := by omega
              refine ⟨_, _, hcb, hrb, k + 1, D k - 1, D k - 1, T, _, _, by rw [hpk 1 hw1], rfl, by omega, by omega, Or.inr ⟨by omega, by omega, by omega, fun y hy => ?_⟩⟩
              by_cases e : y = D k - 2
              · subst e; rw [upd_at, upd_at, e1, e2]
              · rw [upd_ne e, upd_ne e]; exact h6 y (by omega)
            · rw [if_neg k6] at hcb
              have hD3 : D k = 2 ∧ D (k + 1) = 100 := by omega
              refine ⟨_, _, hcb, hrb, k + 1, D k - 2, D k - 1, _, _, _, by rw [hpk 1 hw1], rfl, by omega, by omega, Or.inl ⟨hD3.2, by omega, by omega, ?_, rk_bool (by omega) _ _⟩⟩
              rw [show D k - 2 = 0 by omega] at e2 ⊢
              rw [upd_at, e1, e2]
      · -- a jump
        left
        have hD : D k = 100 ∧ D (k + 1) = 0 ∧ D ar = 100 := by omega
        obtain ⟨-, rfl, rfl, h6, h7⟩ : D k = 100 ∧ H = 0 ∧ R = 1 ∧ T = rs 0 ∧ (T = 0 ∨ T = 1) := h3.resolve_right (fun z => by omega)
        have hw2 : wdN kd = 2 := if_pos (by omega)
        have hr := ref_jmp (facts := facts) (rs := rs) hk hc a1 q1 a2
        rcases q1 with rfl | rfl
        · rw [if_pos rfl] at q2
          rw [if_neg (show ¬ (11 : Nat) = 12 by decide)] at hr
          have hcl := cls_and (given := given) (T := T) (cs := cs) (show 0 < 48 by omega) hp1 (show n < 640 by omega) q2
          rcases h7 with rfl | rfl
          · rw [if_pos rfl, q3] at hcl
            rw [if_pos h6.symm] at hr
            exact ⟨_, _, hcl, hr, ar, 0, 1, 0, cs, rs, rfl, rfl, by omega, q5, Or.inl ⟨hD.2.2, rfl, rfl, h6, Or.inl rfl⟩⟩
          · rw [if_neg one_ne0] at hcl
            rw [if_neg (show ¬ rs 0 = 0 by rw [← h6]; decide)] at hr
            exact ⟨_, _, hcl, hr, k + 1, 0, 0, 1, cs, rs, by rw [hpk 2 hw2], rfl, by omega, by omega, Or.inr ⟨by omega, by omega, by omega, fun y hy => by omega⟩⟩
        · rw [if_neg (by decide)] at q2
          rw [if_pos (show (12 : Nat) = 12 from rfl)] at hr
          have hcl := cls_or (given := given) (T := T) (cs := cs) (show 0 < 48 by omega) hp1 (show n < 640 by omega) q2
          rcases h7 with rfl | rfl
          · rw [if_pos rfl] at hcl
            rw [if_neg (show ¬ rs 0 = 1 by rw [← h6]; decide)] at hr
            exact ⟨_, _, hcl, hr, k + 1, 0, 0, 0, cs, rs, by rw [hpk 2 hw2], rfl, by omega, by omega, Or.inr ⟨by omega, by omega, by omega, fun y hy => by omega⟩⟩
          · rw [if_neg one_ne0, q3] at hcl
            rw [if_pos h6.symm] at hr
            exact ⟨_, _, hcl, hr, ar, 0, 1, 1, cs, rs, rfl, rfl, by omega, q5, Or.inl ⟨hD.2.2, rfl, rfl, h6, Or.inr rfl⟩⟩
    · right
      have ek : k = c1 := by omega
      subst ek
      have hre : Mo_reckonsTo_L16 (nI k) 0 codes facts (nI R, nI k, rs) = some (.inr (.inr rs)) := by
        unfold Mo_reckonsTo_L16
        exact if_neg (not_self (by omega))
      rcases ht with ⟨rfl, rfl⟩ | ⟨rfl, rfl⟩
      · obtain ⟨-, rfl, rfl, h6⟩ : D k ≤ 20 ∧ H = D k ∧ R = D k ∧ ∀ y, y < D k → cs y = rs y := h3.resolve_left (fun z => by omega)
        rw [hD1] at h6 ⊢
        exact ⟨_, _, lp_inr (cls_end3 hp1 (by omega) hterm), lp_inr (hD1 ▸ hre), cs, rs, Or.inr (Or.inr ⟨rfl, rfl, rfl, h6 0 (by omega)⟩)⟩
      · obtain ⟨-, rfl, rfl, h6, h7⟩ : D k = 100 ∧ H = 0 ∧ R = 1 ∧ T = rs 0 ∧ (T = 0 ∨ T = 1) := h3.resolve_right (fun z => by omega)
        exact ⟨_, _, lp_inr (cls_end4 (by omega) hp1 (by omega) hterm), lp_inr hre, cs, rs, Or.inr (Or.inl ⟨T, rfl, rfl, h6, h7⟩)⟩
  · rintro st tt ⟨k, H, R, T, cs, rs, -, -, h1, h2, -⟩
    omega
/-- the worth of the first rule that holds; whether one holds -/
theorem worth_both {r : Int32} {kinds worths tests code : Nat → Int32} {cl : Int32} {codes clauseOf from_ half to_ : Nat → Int32} (hA : RA r kinds worths tests code cl codes clauseOf from_ half to_) {given facts : Nat → Int32} (hg : ∀ k, k < 9 → given k = facts k) (kd : Int32) (hkd : ¬ kd = 120) (lo hi : Int32) (cs0 rs0 : Nat → Int32) (hlh : lo ≤ hi) :
    ∃ v cs' rs', Law_worth r kinds worths tests code given cs0 kd lo lo hi = some (v, cs') ∧ Mo_byLaw cl codes clauseOf from_ half to_ rs0 facts kd lo hi = some (v, rs') ∧ lo ≤ v ∧ v ≤ hi := by
  obtain ⟨n, s, c, rfl, rfl, l1, l2, l3, l4⟩ := hA
  have hsim := lp_sim (f := Law_worth_L3 kd lo lo hi (nI n) kinds tests code given) (g := Mo_byLaw_L3 kd lo hi (nI n) codes clauseOf half to_ facts)
    (fun k s t => ∃ cs rs, s = (nI k, cs) ∧ t = (nI k, rs)) n
    (fun r r' => ∃ cs rs : Nat → Int32, (∃ k, k < n ∧ kinds k = kd ∧ r = .inl (nI k, cs) ∧ r' = .inl (nI k, rs)) ∨ (r = .inr cs ∧ r' = .inr rs)) ?_ ?_ 0 (0, cs0) (0, rs0) (Nat.zero_le _) ⟨cs0, rs0, rfl, rfl⟩
  · obtain ⟨x, x', g1, g2, cs, rs, g3⟩ := hsim
    unfold Law_worth Mo_byLaw
    rw [ob_eq g1, ob_eq g2]
    rcases g3 with ⟨k, hk, hkk, rfl, rfl⟩ | ⟨rfl, rfl⟩
    · obtain ⟨p, q, f, h, e, a1, a2, a3, a4, a5, a6, a7, a8, a9⟩ := l4 k hk
      obtain ⟨d1, d2, d3, d4⟩ := a9 (by rw [hkk]; exact hkd)
      obtain ⟨v, cs', rs', e1, e2, -⟩ := reckon_both d4 l2 (by omega) d3 hg (Or.inl ⟨rfl, rfl⟩) cs rs
      have hx : ix (nI k) 16 = true := ixN (by omega) (by decide)
      have hck : (nI k).toNatClampNeg = k := nI_clamp (by omega)
      have hc1 : (sm (Sum.inl (nI k, cs)) (fun x1 : Int32 × (Nat → Int32) => gd (ix x1.1 16) (ob (Law_reckon code given x1.2 (worths (x1.1 : Int32).toNatClampNeg)) fun x3 => some (jmax lo (jmin hi x3.1), x3.2))) (fun x1 : Nat → Int32 => some (lo, x1))) = some (jmax lo (jmin hi v), cs') := by
        refine (sm_inl _ _ _).trans ((gd_eq hx).trans ?_)
        show (ob (Law_reckon code given cs (worths (nI k).toNatClampNeg)) _) = _
        rw [hck, d1, ob_eq e1]
      have hc2 : (if v < lo then (some (lo, rs')) else (if v ≤ hi then (some (v, rs')) else (some (hi, rs')))) = some (jmax lo (jmin hi v), rs') := by
        unfold jmax jmin
        by_cases c1 : v < lo
        · rw [if_pos c1, if_pos (Int32.lt_of_lt_of_le c1 hlh), if_neg (fun z => Int32.lt_irrefl (Int32.lt_trans z c1))]
        · rw [if_neg c1]
          by_cases c2 : v ≤ hi
          · rw [if_pos c2]
            by_cases c3 : v < hi
            · rw [if_pos c3]
              by_cases c4 : lo < v
              · rw [if_pos c4]
              · rw [if_neg c4, Int32.le_antisymm (Int32.not_lt.mp c4) (Int32.not_lt.mp c1)]
            · rw [if_neg c3]
              have ev : v = hi := Int32.le_antisymm c2 (Int32.not_lt.mp c3)
              by_cases c4 : lo < hi
              · rw [if_pos c4, ev]
              · rw [if_neg c4, ev, Int32.le_antisymm (Int32.not_lt.mp c4) hlh]
          · rw [if_neg c2, if_neg (fun z => c2 (Int32.le_of_lt z))]
            by_cases c4 : lo < hi
            · rw [if_pos c4]
            · rw [if_neg c4, Int32.le_antisymm (Int32.not_lt.mp c4) hlh]
      refine ⟨jmax lo (jmin hi v), cs', rs', hc1, ?_, ?_, ?_⟩
      · refine (sm_inl _ _ _).trans ((gd_eq hx).trans ((gd_eq hx).trans ?_))
        show (ob (Mo_reckonsTo codes rs facts (from_ (nI k).toNatClampNeg) (half (nI k).toNatClampNeg)) _) = _
        rw [hck, d2, a4, ob_eq e2]
        exact hc2
      · unfold jmax
        by_cases c4 : lo < jmin hi v
        · rw [if_pos c4]; exact Int32.le_of_lt c4
        · rw [if_neg c4]; exact Int32.le_refl _
      · unfold jmax jmin
        by_cases c3 : v < hi
        · rw [if_pos c3]
          by_cases c4 : lo < v
          · rw [if_pos c4]; exact Int32.le_of_lt c3
          · rw [if_neg c4]; exact hlh
        · rw [if_neg c3]
          by_cases c4 : lo < hi
          · rw [if_pos c4]; exact Int32.le_refl _
          · rw [if_neg c4]; exact hlh
    · exact ⟨lo, cs, rs, rfl, rfl, Int32.le_refl _, hlh⟩
  · rintro k st tt hk ⟨cs, rs, rfl, rfl⟩
    obtain ⟨p, q, f, h, e, a1, a2, a3, a4, a5, a6, a7, a8, a9⟩ := l4 k hk
    have hx : ix (nI k) 16 = true := ixN (by omega) (by decide)
    have hck : (nI k).toNatClampNeg = k := nI_clamp (by omega)
    have hlt : nI k < nI n := (nI_ltN (by omega) (by omega)).mpr hk
    have ek : nI k + 1 = nI (k + 1) := nI_ad k 1
    by_cases hkk : kinds k = kd
    · obtain ⟨v, cs', rs', e1, e2, e3⟩ := reckon_both a8 l2 (by omega) a6 hg (Or.inr ⟨rfl, rfl⟩) cs rs
      have hc : Law_worth_L3 kd lo lo hi (nI n) kinds tests code given (nI k, cs) = if v = 0 then some (.inl (nI (k + 1), cs')) else some (.inr (.inl (nI k, cs'))) := by
        unfold Law_worth_L3 Law_worth_L3_J58
        refine (if_pos hlt).trans ((gd_eq hx).trans ((if_pos (show kinds (nI k).toNatClampNeg = kd by rw [hck]; exact hkk)).trans ((gd_eq hx).trans ?_)))
        show (ob (Law_reckon code given cs (tests (nI k).toNatClampNeg)) fun x3 => if x3.1 = 0 then (some (Sum.inl (nI k + 1, x3.2))) else (some (Sum.inr (Sum.inl (nI k, x3.2))))) = _
        rw [hck, a3, ek, ob_eq e1]
      have hr : Mo_byLaw_L3 kd lo hi (nI n) codes clauseOf half to_ facts (nI k, rs) = if v = 1 then some (.inr (.inl (nI k, rs'))) else some (.inl (nI (k + 1), rs')) := by
        unfold Mo_byLaw_L3 Mo_byLaw_L3_J91
        refine (if_pos hlt).trans ((gd_eq hx).trans ((if_pos (show clauseOf (nI k).toNatClampNeg = kd by rw [hck, ← a1]; exact hkk)).trans ((gd_eq hx).trans ((gd_eq hx).trans ?_))))
        show (ob (Mo_reckonsTo codes rs facts (half (nI k).toNatClampNeg) (to_ (nI k).toNatClampNeg)) fun x4 => if x4.1 = 1 then (some (Sum.inr (Sum.inl (nI k, x4.2)))) else (some (Sum.inl (nI k + 1, x4.2)))) = _
        rw [hck, a4, a5, ek, ob_eq e2]
      rcases e3 rfl with rfl | rfl
      · exact Or.inl ⟨_, _, hc.trans (if_pos rfl), hr.trans (if_neg (by decide)), cs', rs', rfl, rfl⟩
      · exact Or.inr ⟨_, _, hc.trans (if_neg one_ne0), hr.trans (if_pos rfl), cs', rs', Or.inl ⟨k, hk, hkk, rfl, rfl⟩⟩
    · left
      refine ⟨(nI (k + 1), cs), (nI (k + 1), rs), ?_, ?_, cs, rs, rfl, rfl⟩
      · unfold Law_worth_L3 Law_worth_L3_J58
        refine (if_pos hlt).trans ((gd_eq hx).trans ((if_neg (show ¬ kinds (nI k).toNatClampNeg = kd by rw [hck]; exact hkk)).trans ?_))
        rw [ek]
      · unfold Mo_byLaw_L3 Mo_byLaw_L3_J91
        refine (if_pos hlt).trans ((gd_eq hx).trans ((if_neg (show ¬ clauseOf (nI k).toNatClampNeg = kd by rw [hck, ← a1]; exact hkk)).trans ?_))
        rw [ek]
  · rintro st tt ⟨cs, rs, rfl, rfl⟩
    refine ⟨.inr cs, .inr rs, ?_, ?_, cs, rs, Or.inr ⟨rfl, rfl⟩⟩
    · unfold Law_worth_L3; exact if_neg (not_self (by omega))
    · unfold Mo_byLaw_L3; exact if_neg (not_self (by omega))
theorem holds_both {r : Int32} {kinds worths tests code : Nat → Int32} {cl : Int32} {codes clauseOf from_ half to_ : Nat → Int32} (hA : RA r kinds worths tests code cl codes clauseOf from_ half to_) {given facts : Nat → Int32} (hg : ∀ k, k < 9 → given k = facts k) (kd : Int32) (cs0 rs0 : Nat → Int32) :
    ∃ v cs' rs', Law_anyHolds r kinds tests code given cs0 kd = some (v, cs') ∧ Mo_holdsAny cl codes clauseOf half to_ rs0 facts kd = some (v, rs') ∧ (v = 0 ∨ v = 1) := by
  obtain ⟨n, s, c, rfl, rfl, l1, l2, l3, l4⟩ := hA
  have hsim := lp_sim (f := Law_anyHolds_L2 kd (nI n) kinds tests code given) (g := Mo_holdsAny_L2 kd (nI n) codes clauseOf half to_ facts)
    (fun k s t => ∃ cs rs, s = (nI k, cs) ∧ t = (nI k, rs)) n
    (fun r r' => ∃ cs rs : Nat → Int32, (r = .inl cs ∧ r' = .inl rs) ∨ (r = .inr cs ∧ r' = .inr rs)) ?_ ?_ 0 (0, cs0) (0, rs0) (Nat.zero_le _) ⟨cs0, rs0, rfl, rfl⟩
  · obtain ⟨x, x', g1, g2, cs, rs, g3⟩ := hsim
    unfold Law_anyHolds Mo_holdsAny
    rw [ob_eq g1, ob_eq g2]
    rcases g3 with ⟨rfl, rfl⟩ | ⟨rfl, rfl⟩
    · exact ⟨1, cs, rs, rfl, rfl, Or.inr rfl⟩
    · exact ⟨0, cs, rs, rfl, rfl, Or.inl rfl⟩
  · rintro k st tt hk ⟨cs, rs, rfl, rfl⟩
    obtain ⟨p, q, f, h, e, a1, a2, a3, a4, a5, a6, a7, a8, a9⟩ := l4 k hk
    have hx : ix (nI k) 16 = true := ixN (by omega) (by decide)
    have hck : (nI k).toNatClampNeg = k := nI_clamp (by omega)
    have hlt : nI k < nI n := (nI_ltN (by omega) (by omega)).mpr hk
    have ek : nI k + 1 = nI (k + 1) := nI_ad k 1
    by_cases hkk : kinds k = kd
    · obtain ⟨v, cs', rs', e1, e2, e3⟩ := reckon_both a8 l2 (by omega) a6 hg (Or.inr ⟨rfl, rfl⟩) cs rs
      have hc : Law_anyHolds_L2 kd (nI n) kinds tests code given (nI k, cs) = if v = 0 then some (.inl (nI (k + 1), cs')) else some (.inr (.inl cs')) := by
        unfold Law_anyHolds_L2 Law_anyHolds_L2_J35
        refine (if_pos hlt).trans ((gd_eq hx).trans ((if_pos (show kinds (nI k).toNatClampNeg = kd by rw [hck]; exact hkk)).trans ((gd_eq hx).trans ?_)))
        show (ob (Law_reckon code given cs (tests (nI k).toNatClampNeg)) fun x3 => if x3.1 = 0 then (some (Sum.inl (nI k + 1, x3.2))) else (some (Sum.inr (Sum.inl x3.2)))) = _
        rw [hck, a3, ek, ob_eq e1]
      have hr : Mo_holdsAny_L2 kd (nI n) codes clauseOf half to_ facts (nI k, rs) = if v = 1 then some (.inr (.inl rs')) else some (.inl (nI (k + 1), rs')) := by
        unfold Mo_holdsAny_L2 Mo_holdsAny_L2_J42
        refine (if_pos hlt).trans ((gd_eq hx).trans ((if_pos (show clauseOf (nI k).toNatClampNeg = kd by rw [hck, ← a1]; exact hkk)).trans ((gd_eq hx).trans ((gd_eq hx).trans ?_))))
        show (ob (Mo_reckonsTo codes rs facts (half (nI k).toNatClampNeg) (to_ (nI k).toNatClampNeg)) fun x4 => if x4.1 = 1 then (some (Sum.inr (Sum.inl x4.2))) else (some (Sum.inl (nI k + 1, x4.2)))) = _
        rw [hck, a4, a5, ek, ob_eq e2]
      rcases e3 rfl with rfl | rfl
      · exact Or.inl ⟨_, _, hc.trans (if_pos rfl), hr.trans (if_neg (by decide)), cs', rs', rfl, rfl⟩
      · exact Or.inr ⟨_, _, hc.trans (if_neg one_ne0), hr.trans (if_pos rfl), cs', rs', Or.inl ⟨rfl, rfl⟩⟩
    · left
      refine ⟨(nI (k + 1), cs), (nI (k + 1), rs), ?_, ?_, cs, rs, rfl, rfl⟩
      · unfold Law_anyHolds_L2 Law_anyHolds_L2_J35
        refine (if_pos hlt).trans ((gd_eq hx).trans ((if_neg (show ¬ kinds (nI k).toNatClampNeg = kd by rw [hck]; exact hkk)).trans ?_))
        rw [ek]
      · unfold Mo_holdsAny_L2 Mo_holdsAny_L2_J42
        refine (if_pos hlt).trans ((gd_eq hx).trans ((if_neg (show ¬ clauseOf (nI k).toNatClampNeg = kd by rw [hck, ← a1]; exact hkk)).trans ?_))
        rw [ek]
  · rintro st tt ⟨cs, rs, rfl, rfl⟩
    refine ⟨.inr cs, .inr rs, ?_, ?_, cs, rs, Or.inr ⟨rfl, rfl⟩⟩
    · unfold Law_anyHolds_L2; exact if_neg (not_self (by omega))
    · unfold Mo_holdsAny_L2; exact if_neg (not_self (by omega))
