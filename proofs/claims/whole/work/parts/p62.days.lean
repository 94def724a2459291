/-! DAYS, TRIED -/
section PB
variable {n : Nat} {nx : Nat → Nat} {jars space now far ways next nextTo : Nat → Int32} {throne day draw : Int32} {ra : Int32} {kinds worths tests code : Nat → Int32} {cl : Int32} {codes clauseOf from_ half to_ : Nat → Int32}
theorem one_both (hg : GoodG n nx) (hx : ∀ w, w < 12 → nextTo w = nI (nx w)) (hx2 : ∀ w, w < 12 → next w = nI (nx w)) (hw : RW n nx ways) (hf : RW n nx far) (hA : RA ra kinds worths tests code cl codes clauseOf from_ half to_) (hj : RJ jars space throne day draw now) (hb : BJ jars space throne day draw) (hz : ∀ w, w < 12 → n ≤ w → jars w = 0) {t : Nat} (ht : throne = nI t) (htn : t < n ∨ t = 0) {d : Nat} (hd : day = nI d) (hd9 : d < 9999) (gone robbed : Int32) (g0 cs rs facts : Nat → Int32) :
    ∃ jars' draw' gone' robbed' g' cs' now1 rs1 f1 now' rs' f', Camp_passOne jars space throne day draw gone robbed (nI n) next ways ra kinds worths tests code g0 cs = some (jars', nI (d + 1), draw', gone', robbed', g', cs') ∧
      Mo_carriersGo (upd now 26 (nd draw)) nextTo (nI n) far cl codes clauseOf from_ half to_ rs facts gone (nd draw % 10) = some (now1, rs1, f1, gone') ∧
      Mo_robbersGo now1 (nI n) far cl codes clauseOf from_ half to_ rs1 f1 robbed (nd draw % 10) = some (now', rs', f', robbed') ∧ now' 25 = nI d ∧
      RJ jars' space throne (nI (d + 1)) draw' (upd now' 25 (nI (d + 1))) ∧ BJ jars' space throne (nI (d + 1)) draw' ∧ ∀ w, w < 12 → n ≤ w → jars' w = 0 := by
  have n12 := hg.1
  obtain ⟨hdr, hRJ2⟩ := draws_eq hj
  obtain ⟨x, hx65, ex⟩ := hb.2.2.2.2
  obtain ⟨y, hy65, ey⟩ := nd_ok hx65
  have hb2 : BJ jars space throne day (nd draw) := ⟨hb.1, hb.2.1, hb.2.2.1, hb.2.2.2.1, y, hy65, by rw [ex]; exact ey⟩
  obtain ⟨m, -, s1, s2⟩ := allJars_ok n12 hRJ2 hb2 hz
  obtain ⟨f1, hfe, hFV⟩ := feels_eq n12 hRJ2 s2 facts (nd draw % 10)
  obtain ⟨g1, hpl, hGV⟩ := place_eq (upd (upd (upd (upd g0 5 throne) 6 (nI m)) 7 (day % 100)) 8 (nd draw % 10)) 0 0 0 0 0
  have hGV' : FV g1 0 0 0 0 0 throne (nI m) (day % 100) (nd draw % 10) := hGV
  obtain ⟨v, cs1, rs1, hv1, hv2, hv3⟩ := holds_both hA (fv_same hGV' hFV) 120 cs rs
  -- the carriers, or none
  have hcar : ∃ jars1 gone1 g2 cs2 now1 rs2 f2, (∀ {z}, Camp_passOne_J70 jars1 space throne day (nd draw) gone1 robbed (nI n) next ways ra kinds worths tests code g2 cs2 = some z → Camp_passOne jars space throne day draw gone robbed (nI n) next ways ra kinds worths tests code g0 cs = some z) ∧
      Mo_carriersGo (upd now 26 (nd draw)) nextTo (nI n) far cl codes clauseOf from_ half to_ rs facts gone (nd draw % 10) = some (now1, rs2, f2, gone1) ∧ g2 5 = throne ∧ g2 7 = day % 100 ∧ g2 8 = nd draw % 10 ∧ RJ jars1 space throne day (nd draw) now1 ∧ BJ jars1 space throne day (nd draw) ∧ ∀ w, w < 12 → n ≤ w → jars1 w = 0 := by
    have hcls : ∀ {z}, (if v = 0 then (ob (Camp_goBestStage jars space throne gone (nI n) next ways ra kinds worths tests code g1 cs1) fun x9 =>
  Camp_passOne_J70 x9.1 space throne day (nd draw) x9.2.1 robbed (nI n) next ways ra kinds worths tests code x9.2.2.1 x9.2.2.2) else (Camp_passOne_J70 jars space throne day (nd draw) gone robbed (nI n) next ways ra kinds worths tests code g1 cs1)) = some z → Camp_passOne jars space throne day draw gone robbed (nI n) next ways ra kinds worths tests code g0 cs = some z := by
      intro z hzz
      unfold Camp_passOne
      refine (gd_eq (show ix 5 9 = true from rfl)).trans ((ob_eq s1).trans ((gd_eq (show ix 6 9 = true from rfl)).trans ((gd_eq (show ix 7 9 = true from rfl)).trans ((ob_eq (show Camp_nextDraw draw = some (nd draw % 10, nd draw) from rfl)).trans ((gd_eq (show ix 8 9 = true from rfl)).trans ?_)))))
      exact (ob_eq hpl).trans ((ob_eq hv1).trans hzz)
    rcases hv3 with rfl | rfl
    · obtain ⟨jars1, gone1, g2, cs2, now1, rs2, f2, c1, c2, c3, c4, c5, c6, c7, c8⟩ := carry_both hg hx hx2 hw hf hA hRJ2 hb2 hz s2 ht htn (nd draw % 10) hGV'.2.2.2.2.2.1 hGV'.2.2.2.2.2.2.1 hGV'.2.2.2.2.2.2.2.1 hGV'.2.2.2.2.2.2.2.2 gone cs1 rs1 f1
      refine ⟨jars1, gone1, g2, cs2, now1, rs2, f2, fun {z} hzz => hcls ((if_pos rfl).trans ((ob_eq c1).trans hzz)), ?_, c3, c4, c5, c6, c7, c8⟩
      unfold Mo_carriersGo
      exact (ob_eq hfe).trans ((ob_eq hv2).trans ((if_pos rfl).trans c2))
    · refine ⟨jars, gone, g1, cs1, upd now 26 (nd draw), rs1, f1, fun {z} hzz => hcls ((if_neg one_ne0).trans hzz), ?_, hGV'.2.2.2.2.2.1, hGV'.2.2.2.2.2.2.2.1, hGV'.2.2.2.2.2.2.2.2, hRJ2, hb2, hz⟩
      unfold Mo_carriersGo
      exact (ob_eq hfe).trans ((ob_eq hv2).trans (if_neg one_ne0))
  obtain ⟨jars1, gone1, g2, cs2, now1, rs2, f2, c1, c2, c3, c4, c5, c6, c7, c8⟩ := hcar
  obtain ⟨jars', draw', robbed', g', cs', now', rs', f', d1, d2, d3, d4, d5⟩ := rob_both hg hw hf hA c6 c7 c8 ht htn (nd draw % 10) c3 c4 c5 robbed cs2 rs2 f2
  have ed : nI d + 1 = nI (d + 1) := nI_ad d 1
  have e25 : now' 25 = nI d := d3.2.2.2.1.trans hd
  refine ⟨jars', draw', gone1, robbed', g', cs', now1, rs2, f2, now', rs', f', c1 ?_, c2, ?_, e25, ?_, ?_, d5⟩
  · unfold Camp_passOne_J70
    refine (ob_eq d1).trans ?_
    show some (jars', day + 1, draw', gone1, robbed', g', cs') = _
    rw [hd, ed]
  · unfold Mo_robbersGo
    exact (ob_eq d2).trans rfl
  · exact ⟨fun w hw => (upd_ne (by omega)).trans (d3.1 w hw), fun w hw => (upd_ne (by omega)).trans (d3.2.1 w hw), (upd_ne (by omega)).trans d3.2.2.1, upd_at _ _ _, (upd_ne (by omega)).trans d3.2.2.2.2⟩
  · exact ⟨d4.1, d4.2.1, d4.2.2.1, ⟨d + 1, by omega, rfl⟩, d4.2.2.2.2⟩
theorem pass_both (hg : GoodG n nx) (hx : ∀ w, w < 12 → nextTo w = nI (nx w)) (hx2 : ∀ w, w < 12 → next w = nI (nx w)) (hw : RW n nx ways) (hA : RA ra kinds worths tests code cl codes clauseOf from_ half to_) (hj : RJ jars space throne day draw now) (hb : BJ jars space throne day draw) (hz : ∀ w, w < 12 → n ≤ w → jars w = 0) {t : Nat} (ht : throne = nI t) (htn : t < n ∨ t = 0) {a : Nat} (ha : a ≤ 100) (gone robbed : Int32) (g0 cs rs facts far0 line0 : Nat → Int32) (st0 rb0 : Int32) :
    ∃ jars' day' draw' gone' robbed' g' cs' now' far' line' rs' f', Camp_pass jars space throne day draw gone robbed (nI n) next ways ra kinds worths tests code g0 cs (nI a) = some (jars', day', draw', gone', robbed', g', cs') ∧
      Mo_daysGo now nextTo (nI n) far0 line0 cl codes clauseOf from_ half to_ rs facts st0 rb0 (nI a) = some (now', far', line', rs', f', gone', robbed') ∧
      RJ jars' space throne day' draw' now' ∧ BJ jars' space throne day' draw' ∧ ∀ w, w < 12 → n ≤ w → jars' w = 0 := by
  obtain ⟨far, line, l1, hf⟩ := laysSteps_ok hg hx far0 line0
  have hsim := lp_sim (f := Camp_pass_L13 (nI a) space throne (nI n) next ways ra kinds worths tests code) (g := Mo_daysGo_L16 (nI a) nextTo (nI n) far cl codes clauseOf from_ half to_)
    (fun k s t' => ∃ jars day draw gone robbed g cs now rs f, s = (nI k, jars, day, draw, gone, robbed, g, cs) ∧ t' = (nI k, now, rs, f, gone, robbed) ∧ RJ jars space throne day draw now ∧ BJ jars space throne day draw ∧ ∀ w, w < 12 → n ≤ w → jars w = 0) a
    (fun x x' => ∃ jars' day' draw' gone' robbed' g' cs' now' rs' f', x = (jars', day', draw', gone', robbed', g', cs') ∧ x' = (now', rs', f', gone', robbed') ∧ RJ jars' space throne day' draw' now' ∧ BJ jars' space throne day' draw' ∧ ∀ w, w < 12 → n ≤ w → jars' w = 0) ?_ ?_ 0 (0, jars, day, draw, 0, 0, g0, cs) (0, now, rs, facts, 0, 0) (Nat.zero_le _) ⟨jars, day, draw, 0, 0, g0, cs, now, rs, facts, rfl, rfl, hj, hb, hz⟩
  · obtain ⟨x, x', g1, g2, jars', day', draw', gone', robbed', g', cs', now', rs', f', rfl, rfl, k1, k2, k3⟩ := hsim
    refine ⟨jars', day', draw', gone', robbed', g', cs', now', far, line, rs', f', ?_, ?_, k1, k2, k3⟩
    · unfold Camp_pass
      exact (ob_eq g1).trans rfl
    · unfold Mo_daysGo
      exact (ob_eq l1).trans ((ob_eq g2).trans rfl)
  · rintro k s t' hk ⟨jars, day, draw, gone, robbed, g, cs, now, rs, f, rfl, rfl, hj, hb, hz⟩
    have hka : nI k < nI a := (nI_ltN (by omega) (by omega)).mpr hk
    have ek : nI k + 1 = nI (k + 1) := nI_ad k 1
    obtain ⟨d, hd9, hd⟩ := hb.2.2.2.1
    have e25 : now (25 : Int32).toNatClampNeg = nI d := hj.2.2.2.1.trans hd
    by_cases h99 : d < 9999
    · left
      obtain ⟨jars', draw', gone', robbed', g', cs', now1, rs1, f1, now', rs', f', k1, k2, k2', k2'', k3, k4, k5⟩ := one_both hg hx hx2 hw hf hA hj hb hz ht htn hd h99 gone robbed g cs rs f
      have hlt : nI d < 9999 := (nI_ltN (b := 9999) (by omega) (by decide)).mpr h99
      refine ⟨(nI (k + 1), jars', nI (d + 1), draw', gone', robbed', g', cs'), (nI (k + 1), upd now' 25 (nI (d + 1)), rs', f', gone', robbed'), ?_, ?_, jars', nI (d + 1), draw', gone', robbed', g', cs', upd now' 25 (nI (d + 1)), rs', f', rfl, rfl, k3, k4, k5⟩
      · unfold Camp_pass_L13
        refine (if_pos hka).trans ((if_pos (show day < 9999 by rw [hd]; exact hlt)).trans ((ob_eq k1).trans ?_))
        show some (Sum.inl (nI k + 1, _)) = _
        rw [ek]
      · unfold Mo_daysGo_L16
        refine (if_pos hka).trans ((gd_eq (show ix 25 27 = true from rfl)).trans ((if_pos (show now (25 : Int32).toNatClampNeg < 9999 by rw [e25]; exact hlt)).trans ?_))
        refine (ob_eq (draws_eq hj).1).trans ((ob_eq k2).trans ((ob_eq k2').trans ((gd_eq (show ix 25 27 = true from rfl)).trans ((gd_eq (show ix 25 27 = true from rfl)).trans ?_))))
        show some (Sum.inl (nI k + 1, upd now' 25 (now' 25 + 1), rs', f', gone', robbed')) = _
        rw [k2'', ek, show nI d + 1 = nI (d + 1) from nI_ad d 1]
    · right
      have hnlt : ¬ nI d < 9999 := fun z => h99 ((nI_ltN (b := 9999) (by omega) (by decide)).mp z)
      refine ⟨_, _, ?_, ?_, jars, day, draw, gone, robbed, g, cs, now, rs, f, rfl, rfl, hj, hb, hz⟩
      · unfold Camp_pass_L13
        exact (if_pos hka).trans (if_neg (show ¬ day < 9999 by rw [hd]; exact hnlt))
      · unfold Mo_daysGo_L16
        exact (if_pos hka).trans ((gd_eq (show ix 25 27 = true from rfl)).trans (if_neg (show ¬ now (25 : Int32).toNatClampNeg < 9999 by rw [e25]; exact hnlt)))
  · rintro s t' ⟨jars, day, draw, gone, robbed, g, cs, now, rs, f, rfl, rfl, hj, hb, hz⟩
    refine ⟨_, _, ?_, ?_, jars, day, draw, gone, robbed, g, cs, now, rs, f, rfl, rfl, hj, hb, hz⟩
    · unfold Camp_pass_L13; exact if_neg (not_self (by omega))
    · unfold Mo_daysGo_L16; exact if_neg (not_self (by omega))
end PB
theorem days_ok {n : Nat} {nx : Nat → Nat} {jars space now ways next nextTo : Nat → Int32} {throne day draw wells wm : Int32} {ra : Int32} {kinds worths tests code : Nat → Int32} {cl : Int32} {codes clauseOf from_ half to_ : Nat → Int32} (hl : RL n nx wells next ways wm nextTo) (hA : RA ra kinds worths tests code cl codes clauseOf from_ half to_) (hj : RJ jars space throne day draw now) (hb : BJ jars space throne day draw) (hz : ∀ w, w < 12 → n ≤ w → jars w = 0) (ht : ∃ t, throne = nI t ∧ (t < n ∨ t = 0)) (gone robbed : Int32) (g0 cs rs facts far0 line0 : Nat → Int32) (st0 rb0 : Int32) (a1 : Int32) :
    ∃ r g' cs' jars' day' draw' gone' robbed' now' far' line' rs' f' st' rb', Dj_days wells next ways ra kinds worths tests code g0 cs jars space throne day draw gone robbed a1 = some (r, g', cs', jars', day', draw', gone', robbed') ∧
      Mo_days now nextTo wm far0 line0 cl codes clauseOf from_ half to_ rs facts st0 rb0 a1 = some (r, now', far', line', rs', f', st', rb') ∧
      RJ jars' space throne day' draw' now' ∧ BJ jars' space throne day' draw' ∧ ∀ w, w < 12 → n ≤ w → jars' w = 0 := by
  obtain ⟨hg, rfl, rfl, hx2, hx, hw⟩ := hl
  obtain ⟨t, ht1, ht2⟩ := ht
  unfold Dj_days Mo_days
  by_cases h1 : a1 < 1
  · rw [if_pos h1, ob_eq (Mo_in_no1 h1), if_pos rfl]
    exact ⟨_, _, _, _, _, _, _, _, _, _, _, _, _, _, _, rfl, rfl, hj, hb, hz⟩
  by_cases h2 : a1 ≤ 100
  case neg =>
    rw [if_neg h1, if_neg h2, ob_eq (Mo_in_no2 h2), if_pos rfl]
    exact ⟨_, _, _, _, _, _, _, _, _, _, _, _, _, _, _, rfl, rfl, hj, hb, hz⟩
  obtain ⟨a, ha, rfl⟩ := nI_between (h := 100) (by decide) (fun z => h1 (Int32.lt_trans z (by decide))) h2
  obtain ⟨jars', day', draw', gone', robbed', g', cs', now', far', line', rs', f', k1, k2, k3, k4, k5⟩ := pass_both hg hx hx2 hw hA hj hb hz ht1 ht2 ha gone robbed g0 cs rs facts far0 line0 st0 rb0
  rw [if_neg h1, if_pos h2, ob_eq (Mo_in_yes h1 h2), if_neg one_ne0]
  exact ⟨gone', g', cs', jars', day', draw', gone', robbed', now', far', line', rs', f', gone', robbed', (ob_eq k1).trans rfl, (ob_eq k2).trans rfl, k3, k4, k5⟩
theorem copies_eq (f g : Nat → Int32) : Mo_copies f g = some (upTo f g 27) := by
  unfold Mo_copies
  refine (ob_eq (a := upTo f g 27) ?_).trans rfl
  have := lp_run (f := Mo_copies_L2 f) (fun k => (nI k, upTo f g k)) 27 (r := upTo f g 27) (fun k hk => ?_) rfl
  · rw [upTo_zero] at this; exact this
  · unfold Mo_copies_L2
    show (if nI k < nI 27 then (gd (ix (nI k) 27) (gd (ix (nI k) 27) (some (Sum.inl (nI k + nI 1, upd (upTo f g k) (nI k).toNatClampNeg (f (nI k).toNatClampNeg)))))) else _) = _
    rw [if_pos ((nI_ltN (by omega) (by decide)).mpr hk), gd_eq (ixN hk (by decide)), gd_eq (ixN hk (by decide)), nI_clamp (by omega), nI_ad, upTo_succ]
theorem tried_ok {n : Nat} {nx : Nat → Nat} {jars space now ways next nextTo : Nat → Int32} {throne day draw wells wm : Int32} {ra : Int32} {kinds worths tests code : Nat → Int32} {cl : Int32} {codes clauseOf from_ half to_ : Nat → Int32} (hl : RL n nx wells next ways wm nextTo) (hA : RA ra kinds worths tests code cl codes clauseOf from_ half to_) (hj : RJ jars space throne day draw now) (hb : BJ jars space throne day draw) (hz : ∀ w, w < 12 → n ≤ w → jars w = 0) (ht : ∃ t, throne = nI t ∧ (t < n ∨ t = 0)) (jy sy : Nat → Int32) (ty dy wy gone robbed : Int32) (g0 cs rs facts far0 line0 aside : Nat → Int32) (st0 rb0 : Int32) (a1 a2 : Int32) :
    ∃ r g' cs' jy' sy' ty' dy' wy' gone' robbed' now' aside' far' line' rs' f' st' rb', Dj_tried wells next ways ra kinds worths tests code g0 cs jars space throne day draw jy sy ty dy wy gone robbed a1 a2 = some (r, g', cs', jy', sy', ty', dy', wy', gone', robbed') ∧
      Mo_tried now aside nextTo wm far0 line0 cl codes clauseOf from_ half to_ rs facts st0 rb0 a1 a2 = some (r, now', aside', far', line', rs', f', st', rb') ∧ RJ jars space throne day draw now' := by
  obtain ⟨hg, rfl, rfl, hx2, hx, hw⟩ := hl
  have n12 := hg.1
  obtain ⟨t, ht1, ht2⟩ := ht
  unfold Dj_tried Mo_tried
  have hcases := well_cases (a2 - 10) n12
  -- the days that are tried
  have main : ∀ a, a ≤ 100 → ((a2 = 0 ∨ a2 = 1 ∨ a2 = 2) ∨ ∃ w, w < n ∧ a2 - 10 = nI w) → ∃ r g' cs' jy' sy' ty' dy' wy' gone' robbed' now' aside' far' line' rs' f' st' rb', Dj_tried_J38 (nI a) a2 (nI n) next ways ra kinds worths tests code g0 cs jars space throne day draw jy sy ty dy wy gone robbed = some (r, g', cs', jy', sy', ty', dy', wy', gone', robbed') ∧
      Mo_tried_J32 (nI a) a2 now aside nextTo (nI n) far0 line0 cl codes clauseOf from_ half to_ rs facts st0 rb0 = some (r, now', aside', far', line', rs', f', st', rb') ∧ RJ jars space throne day draw now' := by
    intro a ha hq
    have hbc : Camp_become jy sy ty dy wy jars space throne day draw = some (va_cpy jars jy (0 : Int32).toNatClampNeg (0 : Int32).toNatClampNeg (12 : Int32).toNatClampNeg, va_cpy space sy (0 : Int32).toNatClampNeg (0 : Int32).toNatClampNeg (12 : Int32).toNatClampNeg, throne, day, draw) := by
      unfold Camp_become
      exact (gd_eq (show cpOk 0 0 12 12 12 = true from rfl)).trans (gd_eq (show cpOk 0 0 12 12 12 = true from rfl))
    have hcp : ∀ (f g : Nat → Int32) w, w < 12 → va_cpy f g (0 : Int32).toNatClampNeg (0 : Int32).toNatClampNeg (12 : Int32).toNatClampNeg w = f w := by
      intro f g w hw
      show (if 0 ≤ w ∧ w < 0 + 12 then f (0 + (w - 0)) else g w) = f w
      rw [if_pos (by omega)]; congr 1; omega
    have hRJ : RJ (va_cpy jars jy (0 : Int32).toNatClampNeg (0 : Int32).toNatClampNeg (12 : Int32).toNatClampNeg) (va_cpy space sy (0 : Int32).toNatClampNeg (0 : Int32).toNatClampNeg (12 : Int32).toNatClampNeg) throne day draw now := ⟨fun w hw => (hj.1 w hw).trans (hcp _ _ w hw).symm, fun w hw => (hj.2.1 w hw).trans (hcp _ _ w hw).symm, hj.2.2⟩
    have hBJ : BJ (va_cpy jars jy (0 : Int32).toNatClampNeg (0 : Int32).toNatClampNeg (12 : Int32).toNatClampNeg) (va_cpy space sy (0 : Int32).toNatClampNeg (0 : Int32).toNatClampNeg (12 : Int32).toNatClampNeg) throne day draw := ⟨fun w hw => by rw [hcp _ _ w hw]; exact hb.1 w hw, fun w hw => by rw [hcp _ _ w hw]; exact hb.2.1 w hw, hb.2.2⟩
    have hzz : ∀ w, w < 12 → n ≤ w → va_cpy jars jy (0 : Int32).toNatClampNeg (0 : Int32).toNatClampNeg (12 : Int32).toNatClampNeg w = 0 := fun w hw hnw => by rw [hcp _ _ w hw]; exact hz w hw hnw
    generalize va_cpy jars jy (0 : Int32).toNatClampNeg (0 : Int32).toNatClampNeg (12 : Int32).toNatClampNeg = jy1 at hbc hRJ hBJ hzz
    generalize va_cpy space sy (0 : Int32).toNatClampNeg (0 : Int32).toNatClampNeg (12 : Int32).toNatClampNeg = sy1 at hbc hRJ hBJ
    obtain ⟨jars', day', draw', gone', robbed', g', cs', now', far', line', rs', f', k1, k2, k3, k4, k5⟩ := pass_both hg hx hx2 hw hA hRJ hBJ hzz ht1 ht2 ha gone robbed g0 cs rs facts far0 line0 st0 rb0
    obtain ⟨m, -, s1, s2⟩ := allJars_ok n12 k3 k4 k5
    have hend : ∀ v, Mo_tried_J94 v now' (upTo now aside 27) nextTo (nI n) far' line' cl codes clauseOf from_ half to_ rs' f' gone' robbed' = some (v, upTo (upTo now aside 27) now' 27, upTo now aside 27, far', line', rs', f', gone', robbed') := by
      intro v
      unfold Mo_tried_J94
      exact (ob_eq (copies_eq _ _)).trans rfl
    have hback : RJ jars space throne day draw (upTo (upTo now aside 27) now' 27) := by
      have e : ∀ k, k < 27 → upTo (upTo now aside 27) now' 27 k = now k := fun k hk => (if_pos hk).trans (if_pos hk)
      exact ⟨fun w hw => (e w (by omega)).trans (hj.1 w hw), fun w hw => (e (12 + w) (by omega)).trans (hj.2.1 w hw), (e 24 (by omega)).trans hj.2.2.1, (e 25 (by omega)).trans hj.2.2.2.1, (e 26 (by omega)).trans hj.2.2.2.2⟩
    have hc : ∀ {v}, (if a2 = 0 then (some gone') else if a2 = 1 then (some robbed') else if a2 = 2 then (some (nI m)) else (gd (ix (a2 - 10) 12) (some (jars' (a2 - 10 : Int32).toNatClampNeg)))) = some v → Dj_tried_J38 (nI a) a2 (nI n) next ways ra kinds worths tests code g0 cs jars space throne day draw jy sy ty dy wy gone robbed = some (v, g', cs', jars', sy1, throne, day', draw', gone', robbed') := by
      intro v hv
      unfold Dj_tried_J38
      refine (ob_eq hbc).trans ((ob_eq k1).trans ?_)
      by_cases c0 : a2 = 0
      · rw [if_pos c0] at hv; cases hv; exact if_pos c0
      · rw [if_neg c0] at hv
        refine (if_neg c0).trans ?_
        by_cases c1 : a2 = 1
        · rw [if_pos c1] at hv; cases hv; exact if_pos c1
        · rw [if_neg c1] at hv
          refine (if_neg c1).trans ?_
          by_cases c2 : a2 = 2
          · rw [if_pos c2] at hv; cases hv; exact (if_pos c2).trans ((ob_eq s1).trans rfl)
          · rw [if_neg c2] at hv
            refine (if_neg c2).trans ?_
            cases hi : ix (a2 - 10) 12 with
            | false => rw [hi] at hv; cases hv
            | true => rw [hi] at hv; cases hv; exact gd_eq rfl
    have hr : ∀ {v}, (if a2 = 0 then (some gone') else if a2 = 1 then (some robbed') else if a2 = 2 then (some (nI m)) else (gd (ix ((0 + a2) - 10) 27) (some (now' ((0 + a2) - 10 : Int32).toNatClampNeg)))) = some v → Mo_tried_J32 (nI a) a2 now aside nextTo (nI n) far0 line0 cl codes clauseOf from_ half to_ rs facts st0 rb0 = some (v, upTo (upTo now aside 27) now' 27, upTo now aside 27, far', line', rs', f', gone', robbed') := by
      intro v hv
      unfold Mo_tried_J32
      refine (ob_eq (copies_eq _ _)).trans ((ob_eq k2).trans ?_)
      by_cases c0 : a2 = 0
      · rw [if_pos c0] at hv; cases hv; exact (if_pos c0).trans (hend _)
      · rw [if_neg c0] at hv
        refine (if_neg c0).trans ?_
        by_cases c1 : a2 = 1
        · rw [if_pos c1] at hv; cases hv; exact (if_pos c1).trans (hend _)
        · rw [if_neg c1] at hv
          refine (if_neg c1).trans ?_
          by_cases c2 : a2 = 2
          · rw [if_pos c2] at hv; cases hv; exact (if_pos c2).trans ((ob_eq s2).trans (hend _))
          · rw [if_neg c2] at hv
            refine (if_neg c2).trans ?_
            cases hi : ix ((0 + a2) - 10) 27 with
            | false => rw [hi] at hv; cases hv
            | true => rw [hi] at hv; cases hv; exact (gd_eq rfl).trans (hend _)
    have fin : ∀ v, (if a2 = 0 then (some gone') else if a2 = 1 then (some robbed') else if a2 = 2 then (some (nI m)) else (gd (ix (a2 - 10) 12) (some (jars' (a2 - 10 : Int32).toNatClampNeg)))) = some v → (if a2 = 0 then (some gone') else if a2 = 1 then (some robbed') else if a2 = 2 then (some (nI m)) else (gd (ix ((0 + a2) - 10) 27) (some (now' ((0 + a2) - 10 : Int32).toNatClampNeg)))) = some v → ∃ r g' cs' jy' sy' ty' dy' wy' gone' robbed' now' aside' far' line' rs' f' st' rb', Dj_tried_J38 (nI a) a2 (nI n) next ways ra kinds worths tests code g0 cs jars space throne day draw jy sy ty dy wy gone robbed = some (r, g', cs', jy', sy', ty', dy', wy', gone', robbed') ∧
      Mo_tried_J32 (nI a) a2 now aside nextTo (nI n) far0 line0 cl codes clauseOf from_ half to_ rs facts st0 rb0 = some (r, now', aside', far', line', rs', f', st', rb') ∧ RJ jars space throne day draw now' := fun v h1 h2 => ⟨v, g', cs', jars', sy1, throne, day', draw', gone', robbed', _, _, far', line', rs', f', gone', robbed', hc h1, hr h2, hback⟩
    rcases hq with (rfl | rfl | rfl) | ⟨w, hwn, e⟩
    · exact fin gone' rfl rfl
    · exact fin robbed' rfl rfl
    · exact fin (nI m) rfl rfl
    · have ez : (0 + a2) - 10 = a2 - 10 := by rw [Int32.zero_add]
      have c0 : ¬ a2 = 0 := fun z => by rw [z] at e; exact nI_pos (show w < 2 ^ 31 by omega) (by rw [← e]; decide)
      have c1 : ¬ a2 = 1 := fun z => by rw [z] at e; exact nI_pos (show w < 2 ^ 31 by omega) (by rw [← e]; decide)
      have c2 : ¬ a2 = 2 := fun z => by rw [z] at e; exact nI_pos (show w < 2 ^ 31 by omega) (by rw [← e]; decide)
      refine fin (jars' w) ?_ ?_
      · rw [if_neg c0, if_neg c1, if_neg c2, e, gd_eq (ixN (by omega) (by decide)), nI_clamp (by omega)]
      · rw [if_neg c0, if_neg c1, if_neg c2, ez, e, gd_eq (ixN (by omega) (by decide)), nI_clamp (by omega), k3.1 w (by omega)]
  have hno : ∃ r g' cs' jy' sy' ty' dy' wy' gone' robbed' now' aside' far' line' rs' f' st' rb', (some ((-1 : Int32), g0, cs, jy, sy, ty, dy, wy, gone, robbed)) = some (r, g', cs', jy', sy', ty', dy', wy', gone', robbed') ∧ (some ((-1 : Int32), now, aside, far0, line0, rs, facts, st0, rb0)) = some (r, now', aside', far', line', rs', f', st', rb') ∧ RJ jars space throne day draw now' := ⟨_, _, _, _, _, _, _, _, _, _, _, _, _, _, _, _, _, _, rfl, rfl, hj⟩
  have hh : ∃ b, Land_has (nI n) (a2 - 10) = some b := by
    rcases hcases with ⟨w, -, -, e1, -⟩ | ⟨e1, -, -⟩
    · exact ⟨_, e1⟩
    · exact ⟨_, e1⟩
  by_cases h1 : a1 < 1
  · obtain ⟨b, hb1⟩ := hh
    rw [ob_eq hb1, if_pos h1, ob_eq (Mo_in_no1 h1), if_pos rfl]
    exact hno
  by_cases h2 : a1 ≤ 100
  case neg =>
    obtain ⟨b, hb1⟩ := hh
    rw [ob_eq hb1, if_neg h1, if_neg h2, ob_eq (Mo_in_no2 h2), if_pos rfl]
    exact hno
  obtain ⟨a, ha, rfl⟩ := nI_between (h := 100) (by decide) (fun z => h1 (Int32.lt_trans z (by decide))) h2
  rw [ob_eq (Mo_in_yes h1 h2), if_neg one_ne0]
  rcases hcases with ⟨w, hwn, e, e1, e2⟩ | ⟨e1, e2, e3⟩
  · rw [ob_eq e1, if_neg h1, if_pos h2, if_neg one_ne0]
    have c : ¬ (¬ a2 < 0 ∧ a2 ≤ 2) := fun z => by
      obtain ⟨k, hk, rfl⟩ := nI_between (h := 2) (by decide) z.1 z.2
      have hc : k = 0 ∨ k = 1 ∨ k = 2 := by omega
      rcases hc with rfl | rfl | rfl <;> exact nI_pos (show w < 2 ^ 31 by omega) (by rw [← e]; decide)
    have hin : Mo_in a2 0 2 = some 0 := by
      by_cases z : a2 < 0
      · exact Mo_in_no1 z
      · exact Mo_in_no2 (fun y => c ⟨z, y⟩)
    rw [ob_eq hin, if_pos rfl, ob_eq e2, if_neg one_ne0]
    exact main a ha (Or.inr ⟨w, hwn, e⟩)
  · rw [ob_eq e1, if_neg h1, if_pos h2, if_pos rfl]
    by_cases z : a2 < 0
    · rw [if_pos z, ob_eq (Mo_in_no1 z), if_pos rfl, ob_eq e2, if_pos rfl]
      exact hno
    · rw [if_neg z]
      by_cases y : a2 ≤ 2
      · rw [if_pos y, ob_eq (Mo_in_yes z y), if_neg one_ne0]
        obtain ⟨k, hk, rfl⟩ := nI_between (h := 2) (by decide) z y
        have hc : k = 0 ∨ k = 1 ∨ k = 2 := by omega
        exact main a ha (Or.inl (by rcases hc with rfl | rfl | rfl; exact Or.inl rfl; exact Or.inr (Or.inl rfl); exact Or.inr (Or.inr rfl)))
      · rw [if_neg y, ob_eq (Mo_in_no2 y), if_pos rfl, ob_eq e2, if_pos rfl]
        exact hno
