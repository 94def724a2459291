/-! LAW: the method -/
theorem lawR_copy {n : Nat} {kinds worths tests code letter from_ half to_ said letter' from' half' to' said' : Nat → Int32} {s c : Nat} (h : LawR n kinds worths tests code letter from_ half to_ said s c) (h1 : ∀ t, t < n → letter' t = letter t ∧ from' t = from_ t ∧ half' t = half t ∧ to' t = to_ t) (h2 : ∀ k, k < c → said' k = said k) : LawR n kinds worths tests code letter' from' half' to' said' s c := by
  obtain ⟨l1, l2, l3, l4⟩ := h
  refine ⟨l1, l2, l3, fun t ht => ?_⟩
  obtain ⟨p, q, f', h, e, a1, a2, a3, a4, a5, a6, a7, a8, a9⟩ := l4 t ht
  obtain ⟨b1, b2, b3, b4⟩ := h1 t ht
  refine ⟨p, q, f', h, e, by rw [b1]; exact a1, a2, a3, by rw [b3]; exact a4, by rw [b4]; exact a5, a6, a7, piece_keep a8 (Nat.le_refl _) (fun _ _ => rfl) (fun k hk => h2 k (by omega)), fun hx => ?_⟩
  obtain ⟨d1, d2, d3, d4⟩ := a9 hx
  exact ⟨d1, by rw [b2]; exact d2, d3, piece_keep d4 (Nat.le_refl _) (fun _ _ => rfl) (fun k hk => h2 k (by omega))⟩
theorem L95_eq {c : Nat} (hc : c ≤ 240) (said codes : Nat → Int32) : lp (Mo_law_L95 (nI c) said) (0, codes) = some (upTo said codes c) := by
  have := lp_run (f := Mo_law_L95 (nI c) said) (fun k => (nI k, upTo said codes k)) c (r := upTo said codes c) (fun k hk => ?_) ?_
  · rw [upTo_zero] at this; exact this
  · unfold Mo_law_L95
    show (if nI k < nI c then (gd (ix (nI k) 260) (gd (ix (nI k) 260) (some (Sum.inl (nI k + nI 1, upd (upTo said codes k) (nI k).toNatClampNeg (said (nI k).toNatClampNeg)))))) else _) = _
    rw [if_pos ((nI_ltN (by omega) (by omega)).mpr hk), gd_eq (ixN (by omega) (by decide)), gd_eq (ixN (by omega) (by decide)), nI_clamp (by omega), nI_ad, upTo_succ]
  · exact if_neg (not_self (by omega))
theorem L123_eq {n : Nat} (hn : n ≤ 16) (lt fr hf to_ a b c d : Nat → Int32) : lp (Mo_law_L123 (nI n) lt fr hf to_) (0, a, b, c, d) = some (upTo lt a n, upTo fr b n, upTo hf c n, upTo to_ d n) := by
  have := lp_run (f := Mo_law_L123 (nI n) lt fr hf to_) (fun k => (nI k, upTo lt a k, upTo fr b k, upTo hf c k, upTo to_ d k)) n (r := (upTo lt a n, upTo fr b n, upTo hf c n, upTo to_ d n)) (fun k hk => ?_) ?_
  · rw [upTo_zero, upTo_zero, upTo_zero, upTo_zero] at this; exact this
  · unfold Mo_law_L123
    have hx : ix (nI k) 16 = true := ixN (by omega) (by decide)
    refine (if_pos ((nI_ltN (by omega) (by omega)).mpr hk)).trans ((gd_eq hx).trans ((gd_eq hx).trans ((gd_eq hx).trans ((gd_eq hx).trans ((gd_eq hx).trans ((gd_eq hx).trans ((gd_eq hx).trans ((gd_eq hx).trans ?_))))))))
    show some (Sum.inl (nI k + nI 1, upd (upTo lt a k) (nI k).toNatClampNeg (lt (nI k).toNatClampNeg), upd (upTo fr b k) (nI k).toNatClampNeg (fr (nI k).toNatClampNeg), upd (upTo hf c k) (nI k).toNatClampNeg (hf (nI k).toNatClampNeg), upd (upTo to_ d k) (nI k).toNatClampNeg (to_ (nI k).toNatClampNeg))) = _
    rw [nI_clamp (by omega), nI_ad, upTo_succ, upTo_succ, upTo_succ, upTo_succ]
  · exact if_neg (not_self (by omega))
/-- a law in both -/
def RA (rules : Int32) (kinds worths tests code : Nat → Int32) (clauses : Int32) (codes clauseOf from_ half to_ : Nat → Int32) : Prop := ∃ n s c, rules = nI n ∧ clauses = nI n ∧ LawR n kinds worths tests code clauseOf from_ half to_ codes s c
theorem law_ok {bytes tape : Nat → Int32} {len taped : Int32} (h : RT bytes len tape taped) (bc bs : Nat) (en at_ fa ra : Int32) (ka wa ta ca : Nat → Int32) (sa : Int32) (ga sta : Nat → Int32) (rb : Int32) (kb wb tb cb : Nat → Int32) (sb : Int32) (gb stb : Nat → Int32)
    (pl l0 fm num op cm wt sm clauses : Int32) (said waitsAt letter from_ half to_ codes clauseOf cfrom chalf cto : Nat → Int32) (hA : RA ra ka wa ta ca clauses codes clauseOf cfrom chalf cto) (a1 : Int32) :
    ∃ r l' e' p' f' ra' ka' wa' ta' ca' sa' ga' sta' rb' kb' wb' tb' cb' sb' gb' stb' tp' pl' l0' fm' num' op' cm' wt' sm' clauses' said' waits' letter' from' half' to' codes' clauseOf' cfrom' chalf' cto',
      Dj_law bc bs bytes len en at_ fa ra ka wa ta ca sa ga sta rb kb wb tb cb sb gb stb a1 = some (r, l', e', p', f', ra', ka', wa', ta', ca', sa', ga', sta', rb', kb', wb', tb', cb', sb', gb', stb', 0, 0) ∧
      Mo_law tape taped pl l0 fm num op cm wt sm clauses said waitsAt letter from_ half to_ codes clauseOf cfrom chalf cto a1 = some (r, tp', pl', l0', fm', num', op', cm', wt', sm', clauses', said', waits', letter', from', half', to', codes', clauseOf', cfrom', chalf', cto') ∧
      RT bytes l' tape tp' ∧ RA ra' ka' wa' ta' ca' clauses' codes' clauseOf' cfrom' chalf' cto' := by
  obtain ⟨k, hk, rfl, rfl, hbt⟩ := h
  have hR : RT bytes (nI k) tape (nI k) := ⟨k, hk, rfl, rfl, hbt⟩
  unfold Dj_law Mo_law
  by_cases h1 : a1 < 1
  · rw [ob_eq (holds_no1 h1), ob_eq (Mo_in_no1 h1), if_pos rfl, if_pos rfl]
    exact ⟨_, _, _, _, _, _, _, _, _, _, _, _, _, _, _, _, _, _, _, _, _, _, _, _, _, _, _, _, _, _, _, _, _, _, _, _, _, _, _, _, _, _, rfl, rfl, hR, hA⟩
  by_cases h2 : a1 ≤ 240
  case neg =>
    rw [ob_eq (holds_no2 h2), ob_eq (Mo_in_no2 h2), if_pos rfl, if_pos rfl]
    exact ⟨_, _, _, _, _, _, _, _, _, _, _, _, _, _, _, _, _, _, _, _, _, _, _, _, _, _, _, _, _, _, _, _, _, _, _, _, _, _, _, _, _, _, rfl, rfl, hR, hA⟩
  obtain ⟨E, hE, rfl⟩ := nI_between (h := 240) (by decide) (fun z => h1 (Int32.lt_trans z (by decide))) h2
  have hE1 : 1 ≤ E := by
    rcases Nat.eq_zero_or_pos E with rfl | h
    · exact absurd (by decide) h1
    · exact h
  rw [ob_eq (Mo_in_yes h1 h2), if_neg one_ne0]
  by_cases h3 : nI E ≤ nI k
  case neg =>
    rw [ob_eq (holds_no3 h3), if_pos rfl, if_neg h3]
    exact ⟨_, _, _, _, _, _, _, _, _, _, _, _, _, _, _, _, _, _, _, _, _, _, _, _, _, _, _, _, _, _, _, _, _, _, _, _, _, _, _, _, _, _, rfl, rfl, hR, hA⟩
  have h3' : E ≤ k := (nI_leN (by omega) (by omega)).mp h3
  have hT : TX bytes tape E := ⟨by omega, fun i hi => hbt i (by omega)⟩
  rw [ob_eq (holds_yes h1 h2 h3), if_neg one_ne0, if_pos h3, ob_eq (show Tape_begin (nI k) en at_ fa (nI E) = some (0, nI E, 0, 0) from rfl), ob_eq (show Mo_beginsText pl l0 cm sm (nI E) = some (0, nI E, 0, 0) from rfl)]
  obtain ⟨r, g1, g2⟩ := law_loop_both hT hE hE1 kb wb tb cb said waitsAt letter from_ half to_ fm num op wt
  rcases g2 with ⟨q, F, r', ⟨tk, tw, tt, tc, ts⟩, k1, hF, x, ⟨y, y1, -, y2⟩, k4, k5⟩ | ⟨j, n, kd', wd', td', cd', s, c, num', op', w', said', waits', letter', from', half', to', rfl, ⟨y, y1, -, y2⟩, hL⟩
  · have hrd : Law_read bytes (nI E) 0 0 rb kb wb tb cb sb = some (0, nI q, F, r', tk, tw, tt, tc, ts) := by
      unfold Law_read
      refine (ob_eq g1).trans ?_
      rcases k1 with rfl | rfl <;> rfl
    obtain ⟨x1, x2, x3, x4, x5, x6, x7, x8, x9, x10, x11, x12, x13, x14⟩ := x
    have k4 : x1 = 0 := k4
    have k5 : x3 = F := k5
    subst k4 k5
    refine ⟨x3, 0, 0, nI q, x3, ra, ka, wa, ta, ca, sa, ga, sta, r', tk, tw, tt, tc, ts, gb, stb, 0, x2, nI E, x3, x4, x5, x6, x7, x8, clauses, x9, x10, x11, x12, x13, x14, codes, clauseOf, cfrom, chalf, cto, ?_, ?_, RT_zero _ _, hA⟩
    · exact (ob_eq hrd).trans (if_neg hF)
    · exact (ob_eq y1).trans ((ob_eq y2).trans (if_pos rfl))
  · have hrd : Law_read bytes (nI E) 0 0 rb kb wb tb cb sb = some (nI E, nI j, 0, nI n, kd', wd', td', cd', nI s) := by
      unfold Law_read
      exact (ob_eq g1).trans rfl
    have hn := hL.1
    have hc := hL.2.2.1
    refine ⟨nI n, 0, nI E, nI j, 0, nI n, kd', wd', td', cd', nI s, gb, stb, ra, ka, wa, ta, ca, sa, ga, sta, 0, nI j, nI E, fm, num', op', nI c, w', nI n, nI n, said', waits', letter', from', half', to', upTo said' codes c, upTo letter' clauseOf n, upTo from' cfrom n, upTo half' chalf n, upTo to' cto n, ?_, ?_, RT_zero _ _, n, s, c, rfl, rfl, lawR_copy hL (fun t ht => ⟨if_pos ht, if_pos ht, if_pos ht, if_pos ht⟩) (fun k hk => if_pos hk)⟩
    · exact (ob_eq hrd).trans (if_pos rfl)
    · refine (ob_eq y1).trans ((ob_eq y2).trans ((if_neg one_ne0).trans ?_))
      exact (ob_eq (L95_eq hc said' codes)).trans ((ob_eq (L123_eq hn letter' from' half' to' clauseOf cfrom chalf cto)).trans rfl)
