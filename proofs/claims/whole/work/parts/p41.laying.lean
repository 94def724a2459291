/-! LAYING -/
section LAY
variable {bytes tape : Nat → Int32} {E n : Nat}
theorem lay_dead {i : Nat} (hi : i < 1000) {F : Int32} (hF : ¬ F = 0) (v1 v2 v3 v4 : Int32) (jf : Nat → Int32) : Dj_readLaying_L15_J97 v1 v2 v3 v4 bytes 0 (nI i) F (nI n) jf = some (.inr (.inl (0, nI i, F, jf))) := by
  unfold Dj_readLaying_L15_J97 Dj_readLaying_L15_J125
  exact (ob_eq (digits_dead (by omega) hF 2)).trans ((if_pos (show (0 : Int32) ≤ 40 by decide)).trans (if_neg hF))
/-- what has been read up to i -/
def LY (n E : Nat) (k i mask : Nat) (jf nj : Nat → Int32) : Prop := i ≤ E ∧ 2 * k ≤ i ∧ mask < 2 ^ 12 ∧ (∀ w, w < 12 → mask.testBit w = true → w < n ∧ ∃ j, j ≤ 40 ∧ nj w = nI j ∧ jf w = nI j) ∧ ∀ w, w < 12 → mask.testBit w = false → nj w = -1 ∧ jf w = 0
theorem m1_lt (hn : n ≤ 12) : (-1 : Int32) < nI n := Int32.lt_of_lt_of_le (by decide) (Int32.not_lt.mp (nI_pos (by omega)))
/-- one WELL's jars, read by both -/
theorem lay_item (hT : TX bytes tape E) (hE : E ≤ 60) (hn : n ≤ 12) {k i mask : Nat} {jf nj : Nat → Int32} (h : LY n E k i mask jf nj) (hk : k < 60) (hi : i < E) (f num : Int32) :
    (∃ i' mask' jf' nj' num', Dj_readLaying_L15 bytes (nI n) (nI mask, nI k, nI E, nI i, 0, jf) = some (.inl (nI mask', nI (k + 1), nI E, nI i', 0, jf')) ∧ Mo_readsJars (nI n) tape (nI i) (nI E) f num nj = some (1, nI i', f, num', nj') ∧ LY n E (k + 1) i' mask' jf' nj') ∨
    ∃ e p F p' num' nj' jf', Dj_readLaying_L15 bytes (nI n) (nI mask, nI k, nI E, nI i, 0, jf) = some (.inr (.inl (e, p, F, jf'))) ∧ Mo_readsJars (nI n) tape (nI i) (nI E) f num nj = some (0, p', F, num', nj') ∧ ¬ F = 0 := by
  obtain ⟨h1, h2, h3, h4, h5⟩ := h
  have a1 : Tape_atEnd (nI E) (nI i) = some 0 := if_pos ((nI_ltN (by omega) (by omega)).mpr hi)
  have hk60 : nI k < 60 := (nI_ltN (b := 60) (by omega) (by decide)).mpr hk
  have start : ∀ r, (ob (Tape_letter bytes (nI E) (nI i) 0) fun x2 =>
      if x2.1 < nI n then (if x2.1 < 0 then (Dj_readLaying_L15_J97 (nI mask) (nI k) (nI i) x2.1 bytes x2.2.1 x2.2.2.1 x2.2.2.2 (nI n) jf) else (if ((nI mask >>> (x2.1 &&& 31)) &&& 1) = 0 then (Dj_readLaying_L15_J97 (nI mask) (nI k) (nI i) x2.1 bytes x2.2.1 x2.2.2.1 x2.2.2.2 (nI n) jf) else (ob (Tape_fail x2.2.1 x2.2.2.2 6 (nI i)) fun x3 =>
      Dj_readLaying_L15_J97 (nI mask) (nI k) (nI i) x2.1 bytes x3.1 x2.2.2.1 x3.2 (nI n) jf))) else (ob (Tape_fail x2.2.1 x2.2.2.2 7 (nI i)) fun x6 =>
      Dj_readLaying_L15_J97 (nI mask) (nI k) (nI i) x2.1 bytes x6.1 x2.2.2.1 x6.2 (nI n) jf)) = some r → Dj_readLaying_L15 bytes (nI n) (nI mask, nI k, nI E, nI i, 0, jf) = some r := by
    intro r hr
    unfold Dj_readLaying_L15
    refine (if_pos hk60).trans ((ob_eq a1).trans ((if_pos rfl).trans hr))
  rcases letter_cases hT (show i < 1000 by omega) with ⟨w, hw, -, hc, l1, l2, l3⟩ | ⟨hc, l1, l2⟩
  · have hR : ∀ r, (if nI w < nI n then (gd (ix (nI w) 12) (if nj w = (-1) then (ob (Mo_readsWithin tape (nI i + 1) (nI E) f num 0 40) fun x6 =>
        if x6.1 = 0 then (some (0, x6.2.1, x6.2.2.1, x6.2.2.2, nj)) else (gd (ix (nI w) 12) (some (1, x6.2.1, x6.2.2.1, x6.2.2.2, upd nj w x6.2.2.2)))) else (ob (Mo_wrongAt f 6 (nI i)) fun x9 =>
        gd (isB x9.1) (some (x9.1, nI i, x9.2, num, nj))))) else (ob (Mo_wrongAt f 7 (nI i)) fun x12 =>
        gd (isB x12.1) (some (x12.1, nI i, x12.2, num, nj)))) = some r → Mo_readsJars (nI n) tape (nI i) (nI E) f num nj = some r := by
      intro r hr
      unfold Mo_readsJars
      rw [ob_eq l2, if_neg one_ne0, ob_eq (here_eq hT (by omega)), l3, nI_clamp (by omega)]
      exact hr
    by_cases hwn : w < n
    · have hwn' : nI w < nI n := (nI_ltN (by omega) (by omega)).mpr hwn
      cases hb : mask.testBit w with
      | true =>
        right
        obtain ⟨-, j, hj, e1, e2⟩ := h4 w hw hb
        refine ⟨0, nI (i + 1), flt 6 i, nI i, num, nj, jf, start _ ?_, hR _ ?_, flt_ne (by omega) (by omega)⟩
        · refine (ob_eq (l1 0)).trans ((if_pos hwn').trans ((if_neg (nI_pos (by omega))).trans ?_))
          show (if ((nI mask >>> (nI w &&& 31)) &&& 1) = 0 then _ else _) = _
          rw [bit_nI (by omega) (by omega), hb, if_pos rfl, if_neg one_ne0]
          exact (ob_eq (fail0 _ _ _)).trans (lay_dead (by omega) (flt_ne (a := 6) (by omega) (by omega)) _ _ _ _ _)
        · rw [if_pos hwn', gd_eq (ixN hw (by decide)), if_neg (by rw [e1]; exact fun z => nI_pos (show j < 2 ^ 31 by omega) (by rw [z]; decide))]
          rfl
      | false =>
        obtain ⟨e1, e2⟩ := h5 w hw hb
        obtain ⟨D, d1, d2, d3⟩ := dig_ex (ch bytes E) (i + 1) 2
        obtain ⟨p, n', hin⟩ := within_eq hT (i := i + 1) (by omega) d1 d2 d3 f num 0 40
        have hdg := digits_eq hT (i := i + 1) (m := 2) (by omega) (by omega) d1 d2 d3
        have hdec : ∀ q, q < D → ∃ d, d ≤ 9 ∧ ch bytes E (i + 1 + q) = nI (48 + d) := fun q hq => (isD_lt hT (d2 q hq)).2
        have hv := dval_lt hdec
        have hv2 : dval (ch bytes E) (i + 1) D < 100 := by
          have : (10 : Nat) ^ D ≤ 10 ^ 2 := Nat.pow_le_pow_right (by decide) d1
          omega
        have hcl : ∀ r, Dj_readLaying_L15_J97 (nI mask) (nI k) (nI i) (nI w) bytes (nI E) (nI (i + 1)) 0 (nI n) jf = some r → Dj_readLaying_L15 bytes (nI n) (nI mask, nI k, nI E, nI i, 0, jf) = some r := by
          intro r hr
          refine start _ ((ob_eq (l1 0)).trans ((if_pos hwn').trans ((if_neg (nI_pos (by omega))).trans ?_)))
          show (if ((nI mask >>> (nI w &&& 31)) &&& 1) = 0 then _ else _) = _
          rw [bit_nI (by omega) (by omega), hb]
          exact (if_pos rfl).trans hr
        have hrf : ∀ r, (ob (Mo_readsWithin tape (nI (i + 1)) (nI E) f num 0 40) fun x6 =>
            if x6.1 = 0 then (some (0, x6.2.1, x6.2.2.1, x6.2.2.2, nj)) else (gd (ix (nI w) 12) (some (1, x6.2.1, x6.2.2.1, x6.2.2.2, upd nj w x6.2.2.2)))) = some r → Mo_readsJars (nI n) tape (nI i) (nI E) f num nj = some r := by
          intro r hr
          refine hR r ?_
          rw [if_pos hwn', gd_eq (ixN hw (by decide)), if_pos e1, show nI i + 1 = nI (i + 1) from nI_ad i 1]
          exact hr
        have hflt : ∀ (v e p F : Int32), ¬ F = 0 → Tape_digits bytes (nI E) (nI (i + 1)) 0 2 = some (v, e, p, F) → Dj_readLaying_L15_J97 (nI mask) (nI k) (nI i) (nI w) bytes (nI E) (nI (i + 1)) 0 (nI n) jf = some (.inr (.inl (e, p, F, jf))) := by
          intro v e p F hF hd
          unfold Dj_readLaying_L15_J97 Dj_readLaying_L15_J125
          refine (ob_eq hd).trans ?_
          by_cases hv : v ≤ 40
          · exact (if_pos hv).trans (if_neg hF)
          · exact (if_neg hv).trans ((ob_eq (failN hF _ _)).trans (if_neg hF))
        by_cases c0 : D = 0
        · right
          rw [if_pos c0] at hin hdg
          exact ⟨_, _, flt 1 (i + 1), _, _, _, _, hcl _ (hflt _ _ _ _ (flt_ne (by omega) (by omega)) hdg), hrf _ ((ob_eq hin).trans rfl), flt_ne (by omega) (by omega)⟩
        rw [if_neg c0] at hin hdg
        by_cases c1 : isD (ch bytes E (i + 1 + D)) = true
        · right
          rw [if_pos c1] at hin hdg
          exact ⟨_, _, flt 2 (i + 1 + D), _, _, _, _, hcl _ (hflt _ _ _ _ (flt_ne (by omega) (by omega)) hdg), hrf _ ((ob_eq hin).trans rfl), flt_ne (by omega) (by omega)⟩
        rw [if_neg c1] at hin hdg
        have hiD : i + 1 + D ≤ E := by
          have := (isD_lt hT (d2 (D - 1) (by omega))).1
          omega
        by_cases c2 : dval (ch bytes E) (i + 1) D ≤ 40
        · left
          have c2' : nI (dval (ch bytes E) (i + 1) D) ≤ 40 := (nI_leN (b := 40) (by omega) (by decide)).mpr c2
          rw [if_pos ⟨nI_pos (by omega), c2'⟩] at hin
          have hpw : mask ||| 2 ^ w < 2 ^ 12 := Nat.or_lt_two_pow h3 (Nat.pow_lt_pow_right (by decide) hw)
          refine ⟨i + 1 + D, mask ||| 2 ^ w, upd jf w (nI (dval (ch bytes E) (i + 1) D)), upd nj w (nI (dval (ch bytes E) (i + 1) D)), _, hcl _ ?_, hrf _ ((ob_eq hin).trans ((if_neg one_ne0).trans (gd_eq (ixN hw (by decide))))), hiD, by omega, hpw, fun v hv hbv => ?_, fun v hv hbv => ?_⟩
          · unfold Dj_readLaying_L15_J97 Dj_readLaying_L15_J125
            refine (ob_eq hdg).trans ((if_pos c2').trans ((if_pos rfl).trans ((gd_eq (ixN hw (by decide))).trans ?_)))
            rw [shl_nI (by omega), or_nI (by omega) (Nat.pow_lt_pow_right (by decide) (by omega)), nI_clamp (by omega)]
            show some (Sum.inl (_, nI k + nI 1, _)) = _
            rw [nI_ad]
          · by_cases ev : v = w
            · subst ev; exact ⟨hwn, _, c2, upd_at _ _ _, upd_at _ _ _⟩
            · rw [upd_ne ev, upd_ne ev]
              refine h4 v hv ?_
              rw [Nat.testBit_or, Nat.testBit_two_pow] at hbv
              simpa [Ne.symm ev] using hbv
          · have ev : v ≠ w := by
              intro ev
              subst ev
              rw [Nat.testBit_or, Nat.testBit_two_pow] at hbv
              simp at hbv
            rw [upd_ne ev, upd_ne ev]
            refine h5 v hv ?_
            rw [Nat.testBit_or, Bool.or_eq_false_iff] at hbv
            exact hbv.1
        · right
          have c2' : ¬ nI (dval (ch bytes E) (i + 1) D) ≤ 40 := fun z => c2 ((nI_leN (b := 40) (by omega) (by decide)).mp z)
          rw [if_neg (fun z => c2' z.2)] at hin
          refine ⟨0, nI (i + 1 + D), flt 3 (i + 1), _, _, _, jf, hcl _ ?_, hrf _ ((ob_eq hin).trans rfl), flt_ne (by omega) (by omega)⟩
          unfold Dj_readLaying_L15_J97 Dj_readLaying_L15_J125
          refine (ob_eq hdg).trans ((if_neg c2').trans ((ob_eq (fail0 _ _ _)).trans ?_))
          have e9 : ((-1000) * 3 - (nI i + 1) : Int32) = flt 3 (i + 1) := by
            rw [show nI i + 1 = nI (i + 1) from nI_ad i 1]; rfl
          rw [e9]
          exact if_neg (flt_ne (by omega) (by omega))
    · right
      have hwn' : ¬ nI w < nI n := fun z => hwn ((nI_ltN (by omega) (by omega)).mp z)
      refine ⟨0, nI (i + 1), flt 7 i, nI i, num, nj, jf, start _ ?_, hR _ ?_, flt_ne (by omega) (by omega)⟩
      · exact (ob_eq (l1 0)).trans ((if_neg hwn').trans ((ob_eq (fail0 _ _ _)).trans (lay_dead (by omega) (flt_ne (a := 7) (by omega) (by omega)) _ _ _ _ _)))
      · exact (if_neg hwn').trans rfl
  · right
    refine ⟨0, nI i, flt 1 i, nI i, num, nj, jf, start _ ?_, ?_, flt_ne (by omega) (by omega)⟩
    · exact (ob_eq l1).trans ((if_pos (m1_lt hn)).trans ((if_pos (show (-1 : Int32) < 0 by decide)).trans (lay_dead (by omega) (flt_ne (by omega) (by omega)) _ _ _ _ _)))
    · unfold Mo_readsJars
      exact (ob_eq l2).trans rfl
theorem lay_ref_end (p F num : Int32) (nj : Nat → Int32) : Mo_laying_L51 (nI n) tape (nI E) (0, p, F, num, nj) = some (.inr (0, p, F, num, nj)) := if_pos rfl
theorem lay_loop (hT : TX bytes tape E) (hE : E ≤ 60) (hn : n ≤ 12) (f num : Int32) {jf nj : Nat → Int32} (h : LY n E 0 0 0 jf nj) :
    ∃ r r', lp (Dj_readLaying_L15 bytes (nI n)) (0, 0, nI E, 0, 0, jf) = some r ∧ lp (Mo_laying_L51 (nI n) tape (nI E)) (1, 0, f, num, nj) = some r' ∧
      ((∃ i mask k jf' nj' num', r = .inr (nI E, nI i, 0, jf') ∧ r' = (1, nI i, f, num', nj') ∧ LY n E k i mask jf' nj') ∨ ∃ e p F p' num' nj' jf', r = .inl (e, p, F, jf') ∧ r' = (0, p', F, num', nj') ∧ ¬ F = 0) := by
  obtain ⟨r, r', h1, h2, h3⟩ := lp_sim2 (f := Dj_readLaying_L15 bytes (nI n)) (g := Mo_laying_L51 (nI n) tape (nI E))
    (fun k s t => ∃ i mask jf nj num, s = (nI mask, nI k, nI E, nI i, 0, jf) ∧ t = (1, nI i, f, num, nj) ∧ LY n E k i mask jf nj) 60
    (fun r r' => (∃ i mask k jf' nj' num', r = .inr (nI E, nI i, 0, jf') ∧ r' = (1, nI i, f, num', nj') ∧ LY n E k i mask jf' nj') ∨ ∃ e p F p' num' nj' jf', r = .inl (e, p, F, jf') ∧ r' = (0, p', F, num', nj') ∧ ¬ F = 0)
    (by
      rintro k s t hk ⟨i, mask, jf, nj, num, rfl, rfl, hL⟩
      by_cases hi : i < E
      · have hstep : ∀ x, Mo_readsJars (nI n) tape (nI i) (nI E) f num nj = some x → Mo_laying_L51 (nI n) tape (nI E) (1, nI i, f, num, nj) = some (.inl x) := by
          intro x hx
          unfold Mo_laying_L51
          exact (if_neg one_ne0).trans ((if_pos ((nI_ltN (by omega) (by omega)).mpr hi)).trans ((ob_eq hx).trans rfl))
        rcases lay_item hT hE hn hL hk hi f num with ⟨i', mask', jf', nj', num', g1, g2, g3⟩ | ⟨e, p, F, p', num', nj', jf', g1, g2, g3⟩
        · exact Or.inl ⟨_, _, g1, hstep _ g2, i', mask', jf', nj', num', rfl, rfl, g3⟩
        · exact Or.inr ⟨_, _, lp_inr g1, lp_inl (hstep _ g2) (lp_inr (lay_ref_end _ _ _ _)), Or.inr ⟨e, p, F, p', num', nj', jf', rfl, rfl, g3⟩⟩
      · right
        have hi' : ¬ nI i < nI E := fun z => hi ((nI_ltN (by have := hL.1; omega) (by omega)).mp z)
        refine ⟨_, _, lp_inr ?_, lp_inr ?_, Or.inl ⟨i, mask, k, jf, nj, num, rfl, rfl, hL⟩⟩
        · unfold Dj_readLaying_L15
          exact (if_pos ((nI_ltN (b := 60) (by omega) (by decide)).mpr hk)).trans ((ob_eq (show Tape_atEnd (nI E) (nI i) = some 1 from if_neg hi')).trans (if_neg one_ne0))
        · unfold Mo_laying_L51
          exact (if_neg one_ne0).trans (if_neg hi'))
    (by
      rintro s t ⟨i, mask, jf, nj, num, -, -, hL⟩
      have h1 := hL.1
      have h2 := hL.2.1
      omega)
    0 (0, 0, nI E, 0, 0, jf) (1, 0, f, num, nj) (by omega) ⟨0, 0, jf, nj, num, rfl, rfl, h⟩
  exact ⟨r, r', h1, h2, h3⟩
end LAY
theorem L27_eq (f : Nat → Int32) : lp Mo_laying_L27 (0, f) = some (filled f (-1) 12) := by
  have := lp_run (f := Mo_laying_L27) (fun k => (nI k, filled f (-1) k)) 12 (r := filled f (-1) 12) (fun k hk => ?_) rfl
  · rw [filled_zero] at this; exact this
  · unfold Mo_laying_L27
    show (if nI k < nI 12 then (gd (ix (nI k) 12) (some (Sum.inl (nI k + nI 1, upd (filled f (-1) k) (nI k).toNatClampNeg (-1))))) else _) = _
    rw [if_pos ((nI_ltN (by omega) (by decide)).mpr hk), gd_eq (ixN hk (by decide)), nI_clamp (by omega), nI_ad, filled_succ]
theorem L90_eq {n : Nat} (hn : n ≤ 12) {nj jf now : Nat → Int32} (h : ∀ w, w < n → Mo_max 0 (nj w) = some (jf w)) : lp (Mo_laying_L90 (nI n) nj) (0, now) = some (upTo jf now n) := by
  have := lp_run (f := Mo_laying_L90 (nI n) nj) (fun k => (nI k, upTo jf now k)) n (r := upTo jf now n) (fun k hk => ?_) ?_
  · rw [upTo_zero] at this; exact this
  · unfold Mo_laying_L90
    show (if nI k < nI n then (gd (ix (nI k) 12) (ob (Mo_max 0 (nj (nI k).toNatClampNeg)) fun x2 => gd (ix (nI 0 + nI k) 27) (some (Sum.inl (nI k + nI 1, upd (upTo jf now k) (nI 0 + nI k).toNatClampNeg x2))))) else _) = _
    rw [if_pos ((nI_ltN (by omega) (by omega)).mpr hk), gd_eq (ixN (by omega) (by decide)), nI_clamp (by omega), ob_eq (h k hk), nI_ad, Nat.zero_add, gd_eq (ixN (by omega) (by decide)), nI_ad, nI_clamp (by omega), upTo_succ]
  · exact if_neg (not_self (by omega))
theorem laying_ok {n : Nat} (hn : n ≤ 12) {bytes tape jars jy space now : Nat → Int32} {len taped throne day draw : Int32} (en at_ fa : Int32) (h : RT bytes len tape taped) (hj : RJ jars space throne day draw now) (hb : BJ jars space throne day draw) (hz : ∀ w, w < 12 → n ≤ w → jars w = 0) (pl l0 fm num cm sm : Int32) (nj : Nat → Int32) (a1 : Int32) :
    ∃ r l' e' p' f' jars' jy' now' m' q1 q2 q3 q4 q5 q6 q7, Dj_laying bytes len en at_ fa (nI n) jars jy a1 = some (r, l', e', p', f', jars', jy') ∧ Mo_laying now (nI n) tape taped pl l0 fm num cm sm nj a1 = some (r, now', m', q1, q2, q3, q4, q5, q6, q7) ∧ RT bytes l' tape m' ∧ RJ jars' space throne day draw now' ∧ BJ jars' space throne day draw ∧ ∀ w, w < 12 → n ≤ w → jars' w = 0 := by
  obtain ⟨k, hk, rfl, rfl, hbt⟩ := h
  have hR : RT bytes (nI k) tape (nI k) := ⟨k, hk, rfl, rfl, hbt⟩
  unfold Dj_laying Mo_laying
  by_cases h1 : a1 < 1
  · rw [ob_eq (holds_no1 h1), ob_eq (Mo_in_no1 h1), if_pos rfl, if_pos rfl]
    exact ⟨_, _, _, _, _, _, _, _, _, _, _, _, _, _, _, _, rfl, rfl, hR, hj, hb, hz⟩
  by_cases h2 : a1 ≤ 60
  case neg =>
    rw [ob_eq (holds_no2 h2), ob_eq (Mo_in_no2 h2), if_pos rfl, if_pos rfl]
    exact ⟨_, _, _, _, _, _, _, _, _, _, _, _, _, _, _, _, rfl, rfl, hR, hj, hb, hz⟩
  obtain ⟨E, hE, rfl⟩ := nI_between (h := 60) (by decide) (fun z => h1 (Int32.lt_trans z (by decide))) h2
  have hE1 : 1 ≤ E := by
    rcases Nat.eq_zero_or_pos E with rfl | h
    · exact absurd (by decide) h1
    · exact h
  rw [ob_eq (Mo_in_yes h1 h2), if_neg one_ne0]
  by_cases h3 : nI E ≤ nI k
  case neg =>
    rw [ob_eq (holds_no3 h3), if_pos rfl, if_neg h3]
    exact ⟨_, _, _, _, _, _, _, _, _, _, _, _, _, _, _, _, rfl, rfl, hR, hj, hb, hz⟩
  have h3' : E ≤ k := (nI_leN (by omega) (by omega)).mp h3
  have hT : TX bytes tape E := ⟨by omega, fun i hi => hbt i (by omega)⟩
  rw [ob_eq (holds_yes h1 h2 h3), if_neg one_ne0, if_pos h3, ob_eq (show Tape_begin (nI k) en at_ fa (nI E) = some (0, nI E, 0, 0) from rfl), ob_eq (show Mo_beginsText pl l0 cm sm (nI E) = some (0, nI E, 0, 0) from rfl)]
  have hL0 : LY n E 0 0 0 (filled jy 0 12) (filled nj (-1) 12) := ⟨by omega, by omega, by decide, (fun w _ hb => by rw [Nat.zero_testBit] at hb; cases hb), fun w hw _ => ⟨if_pos hw, if_pos hw⟩⟩
  obtain ⟨r, r', g1, g2, g3⟩ := lay_loop hT hE hn fm num hL0
  -- the reference reads one WELL ahead of its loop
  have hrd : ∃ x, Mo_readsJars (nI n) tape 0 (nI E) fm num (filled nj (-1) 12) = some x ∧ lp (Mo_laying_L51 (nI n) tape (nI E)) x = some r' := by
    rcases lay_item hT hE hn hL0 (by omega) (show 0 < E by omega) fm num with ⟨i', mask', jf', nj', num', c1, c2, c3⟩ | ⟨e, p, F, p', num', nj', jf', c1, c2, c3⟩
    · refine ⟨_, c2, lp_next ?_ g2⟩
      unfold Mo_laying_L51
      exact (if_neg one_ne0).trans ((if_pos ((nI_ltN (a := 0) (by omega) (by omega)).mpr (by omega))).trans ((ob_eq c2).trans rfl))
    · refine ⟨_, c2, lp_next ?_ g2⟩
      unfold Mo_laying_L51
      exact (if_neg one_ne0).trans ((if_pos ((nI_ltN (a := 0) (by omega) (by omega)).mpr (by omega))).trans ((ob_eq c2).trans rfl))
  obtain ⟨x, x1, x2⟩ := hrd
  rcases g3 with ⟨i, mask, q, jf', nj', num', rfl, rfl, hL⟩ | ⟨e, p, F, p', num', nj', jf', rfl, rfl, hF⟩
  · obtain ⟨b1, b2, b3, b4, b5⟩ := hL
    have hjf : ∀ w, w < 12 → (∃ j, j ≤ 40 ∧ jf' w = nI j) ∧ (n ≤ w → jf' w = 0) ∧ Mo_max 0 (nj' w) = some (jf' w) := by
      intro w hw
      cases hbw : mask.testBit w with
      | true =>
        obtain ⟨hwn, j, hj', e1, e2⟩ := b4 w hw hbw
        refine ⟨⟨j, hj', e2⟩, fun z => by omega, ?_⟩
        rw [e1, e2]
        exact (Mo_max_nI (a := 0) (by omega) (by omega)).trans (by rw [Nat.max_eq_right (Nat.zero_le _)])
      | false =>
        obtain ⟨e1, e2⟩ := b5 w hw hbw
        refine ⟨⟨0, by omega, e2⟩, fun _ => e2, ?_⟩
        rw [e1, e2]; rfl
    have hcp : ∀ w, w < 12 → va_cpy jf' jars (0 : Int32).toNatClampNeg (0 : Int32).toNatClampNeg (12 : Int32).toNatClampNeg w = jf' w := by
      intro w hw
      show (if 0 ≤ w ∧ w < 0 + 12 then jf' (0 + (w - 0)) else jars w) = jf' w
      rw [if_pos (by omega)]; congr 1; omega
    have hRJ : RJ (va_cpy jf' jars (0 : Int32).toNatClampNeg (0 : Int32).toNatClampNeg (12 : Int32).toNatClampNeg) space throne day draw (upTo jf' now n) := by
      refine ⟨fun w hw => ?_, fun w hw => ?_, ?_, ?_, ?_⟩
      · rw [hcp w hw]
        by_cases hwn : w < n
        · exact if_pos hwn
        · rw [(hjf w hw).2.1 (by omega)]
          exact (if_neg hwn).trans ((hj.1 w hw).trans (hz w hw (by omega)))
      · exact (if_neg (by omega)).trans (hj.2.1 w hw)
      · exact (if_neg (by omega)).trans hj.2.2.1
      · exact (if_neg (by omega)).trans hj.2.2.2.1
      · exact (if_neg (by omega)).trans hj.2.2.2.2
    have hBJ : BJ (va_cpy jf' jars (0 : Int32).toNatClampNeg (0 : Int32).toNatClampNeg (12 : Int32).toNatClampNeg) space throne day draw := ⟨fun w hw => by rw [hcp w hw]; exact (hjf w hw).1, hb.2⟩
    have hzz : ∀ w, w < 12 → n ≤ w → va_cpy jf' jars (0 : Int32).toNatClampNeg (0 : Int32).toNatClampNeg (12 : Int32).toNatClampNeg w = 0 := fun w hw hnw => by rw [hcp w hw]; exact (hjf w hw).2.1 hnw
    obtain ⟨m, -, s1, s2⟩ := allJars_ok hn hRJ hBJ hzz
    have hrl : Dj_readLaying bytes (nI E) 0 0 (nI n) jy = some (nI E, nI i, 0, jf') := by
      unfold Dj_readLaying
      rw [ob_eq (Arrays_fill_eq (n := 12) (by decide) jy 0)]
      exact (ob_eq g1).trans rfl
    refine ⟨nI m, 0, nI E, nI i, 0, va_cpy jf' jars (0 : Int32).toNatClampNeg (0 : Int32).toNatClampNeg (12 : Int32).toNatClampNeg, jf', upTo jf' now n, 0, nI i, nI E, fm, num', 0, 0, nj', ?_, ?_, RT_zero _ _, hRJ, hBJ, hzz⟩
    · exact (ob_eq hrl).trans ((if_pos rfl).trans ((gd_eq (show cpOk 0 0 12 12 12 = true from rfl)).trans ((ob_eq s1).trans rfl)))
    · refine (ob_eq (L27_eq nj)).trans ((ob_eq x1).trans ((ob_eq x2).trans ?_))
      unfold Mo_laying_J74
      exact (if_neg one_ne0).trans ((ob_eq (L90_eq hn (fun w hw => (hjf w (by omega)).2.2))).trans ((ob_eq s2).trans rfl))
  · have hrl : Dj_readLaying bytes (nI E) 0 0 (nI n) jy = some (e, p, F, jf') := by
      unfold Dj_readLaying
      rw [ob_eq (Arrays_fill_eq (n := 12) (by decide) jy 0)]
      exact (ob_eq g1).trans rfl
    refine ⟨F, 0, e, p, F, jars, jf', now, 0, p', nI E, F, num', 0, 0, nj', ?_, ?_, RT_zero _ _, hj, hb, hz⟩
    · exact (ob_eq hrl).trans (if_neg hF)
    · refine (ob_eq (L27_eq nj)).trans ((ob_eq x1).trans ((ob_eq x2).trans ?_))
      unfold Mo_laying_J74
      exact if_pos rfl
