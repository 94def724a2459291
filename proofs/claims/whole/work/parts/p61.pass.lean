/-! DAYS -/
section PA
variable {n : Nat} {nx : Nat → Nat} {jars space now far ways next nextTo : Nat → Int32} {throne day draw : Int32} {ra : Int32} {kinds worths tests code : Nat → Int32} {cl : Int32} {codes clauseOf from_ half to_ : Nat → Int32}
theorem carry_both (hg : GoodG n nx) (hx : ∀ w, w < 12 → nextTo w = nI (nx w)) (hx2 : ∀ w, w < 12 → next w = nI (nx w)) (hw : RW n nx ways) (hf : RW n nx far) (hA : RA ra kinds worths tests code cl codes clauseOf from_ half to_) (hj : RJ jars space throne day draw now) (hb : BJ jars space throne day draw) (hz : ∀ w, w < 12 → n ≤ w → jars w = 0) {m t : Nat} (hm : Mo_jarsOfAll now (nI n) = some (nI m)) (ht : throne = nI t) (htn : t < n ∨ t = 0) (r : Int32) {g0 : Nat → Int32} (h5 : g0 5 = throne) (h6 : g0 6 = nI m) (h7 : g0 7 = day % 100) (h8 : g0 8 = r) (gone : Int32) (cs rs facts : Nat → Int32) :
    ∃ jars' gone' g' cs' now' rs' f', Camp_goBestStage jars space throne gone (nI n) next ways ra kinds worths tests code g0 cs = some (jars', gone', g', cs') ∧
      (ob (Mo_chosenStage now nextTo (nI n) far cl codes clauseOf from_ half to_ rs facts r) fun x3 =>
  if x3.1 = (-1) then (some (now, x3.2.1, x3.2.2, gone)) else (ob (Mo_feelsStage now (nI n) far x3.2.2 (x3.1 / 12) (x3.1 % 12) r) fun x4 =>
  gd (ix (0 + (x3.1 / 12)) 27) (ob (Mo_byLaw cl codes clauseOf from_ half to_ x3.2.1 x4 99 2 9) fun x6 =>
  gd (ix (0 + (x3.1 / 12)) 27) (gd (ix (0 + (x3.1 % 12)) 27) (gd (ix (0 + (x3.1 % 12)) 27) (some (upd (upd now (0 + (x3.1 / 12) : Int32).toNatClampNeg ((now (0 + (x3.1 / 12) : Int32).toNatClampNeg) - x6.1)) (0 + (x3.1 % 12) : Int32).toNatClampNeg (((upd now (0 + (x3.1 / 12) : Int32).toNatClampNeg ((now (0 + (x3.1 / 12) : Int32).toNatClampNeg) - x6.1)) (0 + (x3.1 % 12) : Int32).toNatClampNeg) + 1), x6.2, x4, gone + 1))))))) = some (now', rs', f', gone') ∧
      g' 5 = throne ∧ g' 7 = day % 100 ∧ g' 8 = r ∧ RJ jars' space throne day draw now' ∧ BJ jars' space throne day draw ∧ ∀ w, w < 12 → n ≤ w → jars' w = 0 := by
  have n12 := hg.1
  have hsim := lp_sim (f := Camp_goBestStage_L14 jars space throne (nI n) next ways ra kinds worths tests code) (g := Mo_chosenStage_L7 r now nextTo (nI n) far cl codes clauseOf from_ half to_)
    (fun p s t' => ∃ best fr to cost chosen g cs rs f, s = (best, fr, to, cost, nI p, g, cs) ∧ t' = (chosen, best, nI p, rs, f) ∧ g 5 = throne ∧ g 6 = nI m ∧ g 7 = day % 100 ∧ g 8 = r ∧ Best n jars space best fr to cost chosen ∧ (0 < best → ∀ p q, chosen = nI (12 * p + q) → p < n → q < n → ∀ fc, FV fc (nI p) (nI q) (jars p) (jars q) (w99 n nx q t) throne (nI m) (day % 100) r → ∀ rs, ∃ rs', Mo_byLaw cl codes clauseOf from_ half to_ rs fc 99 2 9 = some (cost, rs'))) n
    (fun x x' => ∃ best' fr' to' cost' chosen' g' cs' rs' f', x = (best', fr', to', cost', g', cs') ∧ x' = (chosen', rs', f') ∧ g' 5 = throne ∧ g' 6 = nI m ∧ g' 7 = day % 100 ∧ g' 8 = r ∧ Best n jars space best' fr' to' cost' chosen' ∧ (0 < best' → ∀ p q, chosen' = nI (12 * p + q) → p < n → q < n → ∀ fc, FV fc (nI p) (nI q) (jars p) (jars q) (w99 n nx q t) throne (nI m) (day % 100) r → ∀ rs, ∃ rs', Mo_byLaw cl codes clauseOf from_ half to_ rs fc 99 2 9 = some (cost', rs'))) ?_ ?_ 0 (0, 0, 0, 0, 0, g0, cs) (-1, 0, 0, rs, facts) (Nat.zero_le _) ⟨0, 0, 0, 0, -1, g0, cs, rs, facts, rfl, rfl, h5, h6, h7, h8, Or.inl ⟨rfl, rfl⟩, fun z => absurd z (by decide)⟩
  · obtain ⟨x, x', g1, g2, best, fr, to, cost, chosen, g', cs', rs1, f1, rfl, rfl, e5, e6, e7, e8, hB, hco⟩ := hsim
    have hch : Mo_chosenStage now nextTo (nI n) far cl codes clauseOf from_ half to_ rs facts r = some (chosen, rs1, f1) := by
      unfold Mo_chosenStage
      exact (ob_eq g2).trans rfl
    rcases hB with ⟨rfl, rfl⟩ | ⟨hpos, p, q, k, hp, hq, hpq, rfl, rfl, rfl, rfl, hk2, hk9, ⟨j, hkj, hj40, ej⟩, hrm⟩
    · refine ⟨jars, gone, g', cs', now, rs1, f1, ?_, (ob_eq hch).trans (if_pos rfl), e5, e7, e8, hj, hb, hz⟩
      unfold Camp_goBestStage
      exact (ob_eq g1).trans (if_pos (show (0 : Int32) ≤ 0 by decide))
    · have htn' : t < n := by omega
      have d1 : nI (12 * p + q) / 12 = nI p := by
        have e : nI (12 * p + q) / nI 12 = nI ((12 * p + q) / 12) := pk_div (by omega) (by decide) (by decide)
        rw [show (12 * p + q) / 12 = p by omega] at e
        exact e
      have d2 : nI (12 * p + q) % 12 = nI q := by
        have e : nI (12 * p + q) % nI 12 = nI ((12 * p + q) % 12) := nI_modN (by omega) (by decide) (by decide)
        rw [show (12 * p + q) % 12 = q by omega] at e
        exact e
      obtain ⟨f2, hfs, hFV⟩ := feelsStage_eq hg hj hf hm ht htn' hp hq f1 r
      obtain ⟨rs2, hc⟩ := hco hpos p q rfl hp hq f2 hFV rs1
      have z0 : ∀ w, (0 : Int32) + nI w = nI w := fun w => (nI_ad 0 w).trans (by rw [Nat.zero_add])
      obtain ⟨jq, hjq, ejq⟩ := hb.1 q (by omega)
      obtain ⟨sq, hsq, esq⟩ := hb.2.1 q (by omega)
      have hlt : jq < sq := by rw [ejq, esq] at hrm; exact (nI_ltN (by omega) (by omega)).mp hrm
      have e1 : nI j - nI k = nI (j - k) := nI_subN hkj
      have e2 : nI jq + 1 = nI (jq + 1) := nI_ad jq 1
      refine ⟨upd (upd jars p (nI (j - k))) q (nI (jq + 1)), gone + 1, g', cs', upd (upd now p (nI (j - k))) q (nI (jq + 1)), rs2, f2, ?_, ?_, e5, e7, e8, ?_, ?_, ?_⟩
      · unfold Camp_goBestStage
        refine (ob_eq g1).trans ((if_neg (fun z => Int32.lt_irrefl (Int32.lt_of_lt_of_le hpos z))).trans ((gd_eq (ixN (show p < 12 by omega) (by decide))).trans ((gd_eq (ixN (show p < 12 by omega) (by decide))).trans ((gd_eq (ixN (show q < 12 by omega) (by decide))).trans ((gd_eq (ixN (show q < 12 by omega) (by decide))).trans ?_)))))
        show some (upd (upd jars (nI p).toNatClampNeg (jars (nI p).toNatClampNeg - nI k)) (nI q).toNatClampNeg ((upd jars (nI p).toNatClampNeg (jars (nI p).toNatClampNeg - nI k)) (nI q).toNatClampNeg + 1), _) = _
        rw [nI_clamp (by omega), nI_clamp (by omega), ej, upd_ne (Ne.symm hpq), ejq, e1, e2]
      · refine (ob_eq hch).trans ((if_neg (fun z => nI_pos (show 12 * p + q < 2 ^ 31 by omega) (by have z' : nI (12 * p + q) = -1 := z; rw [z']; decide))).trans ?_)
        show (ob (Mo_feelsStage now (nI n) far f1 (nI (12 * p + q) / 12) (nI (12 * p + q) % 12) r) fun x4 =>
  gd (ix (0 + (nI (12 * p + q) / 12)) 27) (ob (Mo_byLaw cl codes clauseOf from_ half to_ rs1 x4 99 2 9) fun x6 =>
  gd (ix (0 + (nI (12 * p + q) / 12)) 27) (gd (ix (0 + (nI (12 * p + q) % 12)) 27) (gd (ix (0 + (nI (12 * p + q) % 12)) 27) (some (upd (upd now (0 + (nI (12 * p + q) / 12) : Int32).toNatClampNeg ((now (0 + (nI (12 * p + q) / 12) : Int32).toNatClampNeg) - x6.1)) (0 + (nI (12 * p + q) % 12) : Int32).toNatClampNeg (((upd now (0 + (nI (12 * p + q) / 12) : Int32).toNatClampNeg ((now (0 + (nI (12 * p + q) / 12) : Int32).toNatClampNeg) - x6.1)) (0 + (nI (12 * p + q) % 12) : Int32).toNatClampNeg) + 1), x6.2, x4, gone + 1)))))) = _
        rw [d1, d2, z0, z0, ob_eq hfs, gd_eq (ixN (show p < 27 by omega) (by decide)), ob_eq hc, gd_eq (ixN (show p < 27 by omega) (by decide)), gd_eq (ixN (show q < 27 by omega) (by decide)), gd_eq (ixN (show q < 27 by omega) (by decide)), nI_clamp (by omega), nI_clamp (by omega), hj.1 p (by omega), ej, upd_ne (Ne.symm hpq), hj.1 q (by omega), ejq, e1, e2]
      · refine ⟨fun w hw => ?_, fun w hw => ?_, ?_, ?_, ?_⟩
        · by_cases c1 : w = q
          · subst c1; rw [upd_at, upd_at]
          · rw [upd_ne c1, upd_ne c1]
            by_cases c2 : w = p
            · subst c2; rw [upd_at, upd_at]
            · rw [upd_ne c2, upd_ne c2]; exact hj.1 w hw
        · rw [upd_ne (by omega), upd_ne (by omega)]; exact hj.2.1 w hw
        · rw [upd_ne (by omega), upd_ne (by omega)]; exact hj.2.2.1
        · rw [upd_ne (by omega), upd_ne (by omega)]; exact hj.2.2.2.1
        · rw [upd_ne (by omega), upd_ne (by omega)]; exact hj.2.2.2.2
      · refine ⟨fun w hw => ?_, hb.2⟩
        by_cases c1 : w = q
        · subst c1; rw [upd_at]; exact ⟨jq + 1, by omega, rfl⟩
        · rw [upd_ne c1]
          by_cases c2 : w = p
          · subst c2; rw [upd_at]; exact ⟨j - k, by omega, rfl⟩
          · rw [upd_ne c2]; exact hb.1 w hw
      · intro w hw hnw
        rw [upd_ne (by omega), upd_ne (by omega)]; exact hz w hw hnw
  · rintro p s t' hp ⟨best, fr, to, cost, chosen, g, cs, rs, f, rfl, rfl, e5, e6, e7, e8, hB, hco⟩
    left
    have htn' : t < n := by omega
    obtain ⟨best', fr', to', cost', chosen', g', cs', rs', f', k1, k2, k3⟩ := stage_one hg hx hx2 hw hf hA hj hb hm ht htn' hp r e5 e6 e7 e8 cs rs f hB hco
    have ep : nI p + 1 = nI (p + 1) := nI_ad p 1
    refine ⟨(best', fr', to', cost', nI (p + 1), g', cs'), (chosen', best', nI (p + 1), rs', f'), ?_, ?_, best', fr', to', cost', chosen', g', cs', rs', f', rfl, rfl, k3⟩
    · unfold Camp_goBestStage_L14
      refine (if_pos ((nI_ltN (by omega) (by omega)).mpr hp)).trans ((ob_eq k1).trans ?_)
      show some (Sum.inl (best', fr', to', cost', nI p + 1, g', cs')) = _
      rw [ep]
    · unfold Mo_chosenStage_L7
      refine (if_pos ((nI_ltN (by omega) (by omega)).mpr hp)).trans ((ob_eq k2).trans ?_)
      show some (Sum.inl (chosen', best', nI p + 1, rs', f')) = _
      rw [ep]
  · rintro s t' ⟨best, fr, to, cost, chosen, g, cs, rs, f, rfl, rfl, e5, e6, e7, e8, hB, hco⟩
    refine ⟨_, _, ?_, ?_, best, fr, to, cost, chosen, g, cs, rs, f, rfl, rfl, e5, e6, e7, e8, hB, hco⟩
    · unfold Camp_goBestStage_L14; exact if_neg (not_self (by omega))
    · unfold Mo_chosenStage_L7; exact if_neg (not_self (by omega))
theorem rob_both (hg : GoodG n nx) (hw : RW n nx ways) (hf : RW n nx far) (hA : RA ra kinds worths tests code cl codes clauseOf from_ half to_) (hj : RJ jars space throne day draw now) (hb : BJ jars space throne day draw) (hz : ∀ w, w < 12 → n ≤ w → jars w = 0) {t : Nat} (ht : throne = nI t) (htn : t < n ∨ t = 0) (r : Int32) {g0 : Nat → Int32} (h5 : g0 5 = throne) (h7 : g0 7 = day % 100) (h8 : g0 8 = r) (robbed : Int32) (cs rs facts : Nat → Int32) :
    ∃ jars' draw' robbed' g' cs' now' rs' f', lp (Camp_passOne_L72 throne (nI n) ways ra kinds worths tests code) (0, jars, draw, robbed, g0, cs) = some (jars', draw', robbed', g', cs') ∧
      lp (Mo_robbersGo_L2 r (nI n) far cl codes clauseOf from_ half to_) (0, now, rs, facts, robbed) = some (now', rs', f', robbed') ∧ RJ jars' space throne day draw' now' ∧ BJ jars' space throne day draw' ∧ ∀ w, w < 12 → n ≤ w → jars' w = 0 := by
  have n12 := hg.1
  have hsim := lp_sim (f := Camp_passOne_L72 throne (nI n) ways ra kinds worths tests code) (g := Mo_robbersGo_L2 r (nI n) far cl codes clauseOf from_ half to_)
    (fun p s t' => ∃ jars draw robbed g cs now rs f, s = (nI p, jars, draw, robbed, g, cs) ∧ t' = (nI p, now, rs, f, robbed) ∧ g 5 = throne ∧ g 7 = day % 100 ∧ g 8 = r ∧ RJ jars space throne day draw now ∧ BJ jars space throne day draw ∧ ∀ w, w < 12 → n ≤ w → jars w = 0) n
    (fun x x' => ∃ jars' draw' robbed' g' cs' now' rs' f', x = (jars', draw', robbed', g', cs') ∧ x' = (now', rs', f', robbed') ∧ RJ jars' space throne day draw' now' ∧ BJ jars' space throne day draw' ∧ ∀ w, w < 12 → n ≤ w → jars' w = 0) ?_ ?_ 0 (0, jars, draw, robbed, g0, cs) (0, now, rs, facts, robbed) (Nat.zero_le _) ⟨jars, draw, robbed, g0, cs, now, rs, facts, rfl, rfl, h5, h7, h8, hj, hb, hz⟩
  · obtain ⟨x, x', g1, g2, jars', draw', robbed', g', cs', now', rs', f', rfl, rfl, k⟩ := hsim
    exact ⟨jars', draw', robbed', g', cs', now', rs', f', g1, g2, k⟩
  · rintro p s t' hp ⟨jars, draw, robbed, g, cs, now, rs, f, rfl, rfl, e5, e7, e8, hj, hb, hz⟩
    left
    have htn' : t < n := by omega
    have hpn : nI p < nI n := (nI_ltN (by omega) (by omega)).mpr hp
    have ep : nI p + 1 = nI (p + 1) := nI_ad p 1
    have hxp : ix (nI p) 12 = true := ixN (by omega) (by decide)
    have cp : (nI p).toNatClampNeg = p := nI_clamp (by omega)
    have z0 : (0 : Int32) + nI p = nI p := (nI_ad 0 p).trans (by rw [Nat.zero_add])
    have hx27 : ix ((0 : Int32) + nI p) 27 = true := by rw [z0]; exact ixN (by omega) (by decide)
    obtain ⟨j, hj40, ej⟩ := hb.1 p (by omega)
    have hnp : now ((0 : Int32) + nI p).toNatClampNeg = nI j := by rw [z0, cp, hj.1 p (by omega), ej]
    by_cases hj0 : j = 0
    · subst hj0
      refine ⟨(nI (p + 1), jars, draw, robbed, g, cs), (nI (p + 1), now, rs, f, robbed), ?_, ?_, jars, draw, robbed, g, cs, now, rs, f, rfl, rfl, e5, e7, e8, hj, hb, hz⟩
      · unfold Camp_passOne_L72 Camp_passOne_L72_J96
        refine (if_pos hpn).trans ((gd_eq hxp).trans ((if_pos (show jars (nI p).toNatClampNeg ≤ 0 by rw [cp, ej]; decide)).trans ?_))
        rw [ep]
      · unfold Mo_robbersGo_L2 Mo_robbersGo_L2_J79
        refine (if_pos hpn).trans ((gd_eq hx27).trans ((if_pos (show now ((0 : Int32) + nI p).toNatClampNeg = 0 from hnp)).trans ?_))
        rw [ep]
    · obtain ⟨m, -, s1, s2⟩ := allJars_ok n12 hj hb hz
      obtain ⟨f', hfw, hFV⟩ := feelsWell_eq hg hj hf s2 ht htn' hp f r
      obtain ⟨g', hpl, hGV⟩ := place_eq (upd g 6 (nI m)) (nI p) 0 (jars p) 0 (w99 n nx p t)
      have hGV' : FV g' (nI p) 0 (jars p) 0 (w99 n nx p t) throne (nI m) (day % 100) r := by
        have u5 : upd g 6 (nI m) 5 = throne := (upd_ne (by omega)).trans e5
        have u7 : upd g 6 (nI m) 7 = day % 100 := (upd_ne (by omega)).trans e7
        have u8 : upd g 6 (nI m) 8 = r := (upd_ne (by omega)).trans e8
        rw [u5, upd_at, u7, u8] at hGV
        exact hGV
      obtain ⟨v, cs', rs', hv1, hv2, -, -⟩ := worth_both hA (fv_same hGV' hFV) 114 (by decide) 0 10 cs rs (by decide)
      obtain ⟨hdr, hRJ2⟩ := draws_eq hj
      obtain ⟨x, hx65, ex⟩ := hb.2.2.2.2
      obtain ⟨y, hy65, ey⟩ := nd_ok hx65
      have hnd : ∃ x, x ≤ 65535 ∧ nd draw = nI x := ⟨y, hy65, by rw [ex]; exact ey⟩
      have hb2 : BJ jars space throne day (nd draw) := ⟨hb.1, hb.2.1, hb.2.2.1, hb.2.2.2.1, hnd⟩
      have hrob : ∀ {y}, (if nd draw % 10 < v then (some (upd jars p (nI (j - 1)), nd draw, robbed + 1, g', cs')) else (some (jars, nd draw, robbed, g', cs'))) = some y → Camp_robAt jars throne draw robbed (nI n) ways ra kinds worths tests code g cs (nI p) = some y := by
        intro y hy
        unfold Camp_robAt
        refine (ob_eq s1).trans ((gd_eq (show ix 6 9 = true from rfl)).trans ((gd_eq hxp).trans ?_))
        show (ob (Camp_wayOrFar (nI n) ways (nI p) throne) fun x4 => ob (Law_place (upd g 6 (nI m)) (nI p) 0 (jars (nI p).toNatClampNeg) 0 x4) _) = _
        rw [ht, ob_eq (way99 hg hw hp htn'), cp, ob_eq hpl, ob_eq hv1]
        refine (ob_eq (show Camp_nextDraw draw = some (nd draw % 10, nd draw) from rfl)).trans ?_
        by_cases hd : nd draw % 10 < v
        · rw [if_pos hd] at hy
          refine (if_pos hd).trans ((gd_eq hxp).trans ((gd_eq hxp).trans ?_))
          show some (upd jars p (jars p - 1), nd draw, robbed + 1, g', cs') = _
          rw [ej, show nI j - 1 = nI (j - 1) from nI_subN (b := 1) (by omega)]
          exact hy
        · rw [if_neg hd] at hy
          exact (if_neg hd).trans hy
      have hpos : ¬ jars (nI p).toNatClampNeg ≤ 0 := fun z => by
        rw [cp, ej] at z
        have := (nI_leN (a := j) (b := 0) (by omega) (by decide)).mp z
        omega
      have hclass : ∀ {y : (Nat → Int32) × Int32 × Int32 × (Nat → Int32) × (Nat → Int32)}, Camp_robAt jars throne draw robbed (nI n) ways ra kinds worths tests code g cs (nI p) = some y → Camp_passOne_L72 throne (nI n) ways ra kinds worths tests code (nI p, jars, draw, robbed, g, cs) = some (.inl (nI (p + 1), y.1, y.2.1, y.2.2.1, y.2.2.2.1, y.2.2.2.2)) := by
        intro y hy
        unfold Camp_passOne_L72 Camp_passOne_L72_J96
        refine (if_pos hpn).trans ((gd_eq hxp).trans ((if_neg hpos).trans ((ob_eq hy).trans ?_)))
        rw [ep]
      have href : ∀ {y}, (if nd draw % 10 < v then (some (Sum.inl (nI (p + 1), upd (upd now 26 (nd draw)) p (nI (j - 1)), rs', f', robbed + 1))) else (some (Sum.inl (nI (p + 1), upd now 26 (nd draw), rs', f', robbed)))) = some y → Mo_robbersGo_L2 r (nI n) far cl codes clauseOf from_ half to_ (nI p, now, rs, f, robbed) = some y := by
        intro y hy
        unfold Mo_robbersGo_L2 Mo_robbersGo_L2_J79
        refine (if_pos hpn).trans ((gd_eq hx27).trans ((if_neg (show ¬ now ((0 : Int32) + nI p).toNatClampNeg = 0 by rw [hnp]; exact ne0N (by omega) hj0)).trans ((ob_eq hfw).trans ((ob_eq hv2).trans ((ob_eq hdr).trans ?_)))))
        by_cases hd : nd draw % 10 < v
        · rw [if_pos hd] at hy
          refine (if_pos hd).trans ((gd_eq hx27).trans ((gd_eq hx27).trans ?_))
          show some (Sum.inl (nI p + 1, upd (upd now 26 (nd draw)) ((0 : Int32) + nI p).toNatClampNeg ((upd now 26 (nd draw)) ((0 : Int32) + nI p).toNatClampNeg - 1), rs', f', robbed + 1)) = _
          rw [z0, cp, ep, upd_ne (show p ≠ 26 by omega), hj.1 p (by omega), ej, show nI j - 1 = nI (j - 1) from nI_subN (b := 1) (by omega)]
          exact hy
        · rw [if_neg hd] at hy
          refine (if_neg hd).trans ?_
          show some (Sum.inl (nI p + 1, upd now 26 (nd draw), rs', f', robbed)) = _
          rw [ep]
          exact hy
      by_cases hd : nd draw % 10 < v
      · refine ⟨_, _, hclass (hrob (if_pos hd)), href (if_pos hd), upd jars p (nI (j - 1)), nd draw, robbed + 1, g', cs', upd (upd now 26 (nd draw)) p (nI (j - 1)), rs', f', rfl, rfl, hGV'.2.2.2.2.2.1, hGV'.2.2.2.2.2.2.2.1, hGV'.2.2.2.2.2.2.2.2, ?_, ?_, fun w hw hnw => (upd_ne (by omega)).trans (hz w hw hnw)⟩
        · refine ⟨fun w hw => ?_, fun w hw => (upd_ne (by omega)).trans (hRJ2.2.1 w hw), (upd_ne (by omega)).trans hRJ2.2.2.1, (upd_ne (by omega)).trans hRJ2.2.2.2.1, (upd_ne (by omega)).trans hRJ2.2.2.2.2⟩
          by_cases c1 : w = p
          · subst c1; rw [upd_at, upd_at]
          · rw [upd_ne c1, upd_ne c1]; exact hRJ2.1 w hw
        · refine ⟨fun w hw => ?_, hb2.2⟩
          by_cases c1 : w = p
          · subst c1; rw [upd_at]; exact ⟨j - 1, by omega, rfl⟩
          · rw [upd_ne c1]; exact hb.1 w hw
      · exact ⟨_, _, hclass (hrob (if_neg hd)), href (if_neg hd), jars, nd draw, robbed, g', cs', upd now 26 (nd draw), rs', f', rfl, rfl, hGV'.2.2.2.2.2.1, hGV'.2.2.2.2.2.2.2.1, hGV'.2.2.2.2.2.2.2.2, hRJ2, hb2, hz⟩
  · rintro s t' ⟨jars, draw, robbed, g, cs, now, rs, f, rfl, rfl, e5, e7, e8, hj, hb, hz⟩
    refine ⟨_, _, ?_, ?_, jars, draw, robbed, g, cs, now, rs, f, rfl, rfl, hj, hb, hz⟩
    · unfold Camp_passOne_L72; exact if_neg (not_self (by omega))
    · unfold Mo_robbersGo_L2; exact if_neg (not_self (by omega))
end PA
