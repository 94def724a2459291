/-! ROBBERS: both -/
theorem totS_sum (f : Nat → Nat) : ∀ k, totS f k = sumUp f k := by
  intro k
  induction k with
  | zero => rfl
  | succ k ih => show totS f k + f k = sumUp f k + f k; rw [ih]
/-- what is not too much to search -/
theorem search_ok {n : Nat} (n12 : n ≤ 12) {jars space now : Nat → Int32} {throne day draw : Int32} (h : RJ jars space throne day draw now) (hb : BJ jars space throne day draw) (hz : ∀ w, w < 12 → n ≤ w → jars w = 0) :
    (Dj_tooMuchToSearch (nI n) jars = some 1 ∧ (¬ nI n ≤ 8 ∨ ∃ x, Mo_jarsOfAll now (nI n) = some x ∧ ¬ x ≤ 12)) ∨
    (Dj_tooMuchToSearch (nI n) jars = some 0 ∧ n ≤ 8 ∧ nI n ≤ 8 ∧ (∃ x, Mo_jarsOfAll now (nI n) = some x ∧ x ≤ 12) ∧ ∃ g, SG n g ∧ (∀ w, w < 12 → jars w = nI (g w)) ∧ ∀ w, w < 12 → now w = nI (g w)) := by
  unfold Dj_tooMuchToSearch
  by_cases h8 : n ≤ 8
  · have h8' : nI n ≤ 8 := (nI_leN (b := 8) (by omega) (by omega)).mpr h8
    rw [if_pos h8']
    obtain ⟨f, f1, f2, f3⟩ := jarsN hb.1
    have f4 : ∀ k, n ≤ k → f k = 0 := fun k hk => by
      by_cases h12 : k < 12
      · have := hz k h12 hk
        rw [f1 k h12] at this
        exact (nI_inj (b := 0) (by have := f2 k; omega) (by decide)).mp this
      · exact f3 k (by omega)
    have e1 : sumUp f 12 = sumUp f n := by
      have := sumUp_zero f4 (12 - n)
      rw [show n + (12 - n) = 12 by omega] at this; exact this
    have e2 : sumUp f 8 = sumUp f n := by
      have := sumUp_zero f4 (8 - n)
      rw [show n + (8 - n) = 8 by omega] at this; exact this
    have hle : sumUp f n ≤ 480 := by have := sumUp_le f2 12; omega
    have hM := jarsOfAll_eq n12 (now := now) (f := f) (fun w hw => by rw [h.1 w hw, f1 w hw])
    rw [ob_eq (allJars_eq f1), e1]
    by_cases hs : sumUp f n ≤ 12
    · right
      have hs' : nI (sumUp f n) ≤ 12 := (nI_leN (b := 12) (by omega) (by omega)).mpr hs
      rw [if_pos hs']
      exact ⟨rfl, h8, h8', ⟨_, hM, hs'⟩, f, ⟨f4, by rw [totS_sum, e2]; exact hs⟩, f1, fun w hw => by rw [h.1 w hw, f1 w hw]⟩
    · left
      have hs' : ¬ nI (sumUp f n) ≤ 12 := fun z => hs ((nI_leN (b := 12) (by omega) (by omega)).mp z)
      rw [if_neg hs']
      exact ⟨rfl, .inr ⟨_, hM, hs'⟩⟩
  · left
    have h8' : ¬ nI n ≤ 8 := fun z => h8 ((nI_leN (b := 8) (by omega) (by omega)).mp z)
    rw [if_neg h8']
    exact ⟨rfl, .inl h8'⟩
theorem robbers_ok {n : Nat} {nx : Nat → Nat} (hG : GoodG n nx) {next nextTo : Nat → Int32} (hx : ∀ w, w < 12 → nextTo w = nI (nx w)) (hx2 : ∀ w, w < 12 → next w = nI (nx w)) {jars space now : Nat → Int32} {throne day draw : Int32} (h : RJ jars space throne day draw now) (hb : BJ jars space throne day draw) (hz : ∀ w, w < 12 → n ≤ w → jars w = 0)
    {sf sa so co ca cw : Nat → Int32} (hsf : ∀ p, p < 262144 → sf p = 0) (a1 : Int32) :
    ∃ r sf' sa' so' co' ca' cw', Dj_robbers (nI n) next jars a1 = some r ∧ Mo_robbers now nextTo (nI n) sf sa so 0 co ca cw a1 = some (r, sf', sa', so', 0, co', ca', cw') ∧ ∀ p, p < 262144 → sf' p = 0 := by
  have n12 := hG.1
  rcases well_cases a1 n12 with ⟨w, hw, rfl, e1, e2⟩ | ⟨e1, e2, -⟩
  · rcases search_ok n12 h hb hz with ⟨t1, t2⟩ | ⟨t1, hn, h8, ⟨x, x1, x2⟩, g, hg, hj, hnow⟩
    · refine ⟨-4, sf, sa, so, co, ca, cw, ?_, ?_, hsf⟩
      · unfold Dj_robbers
        rw [ob_eq e1, if_neg one_ne0, ob_eq t1, if_neg one_ne0]
      · unfold Mo_robbers
        rw [ob_eq e2, if_neg one_ne0]
        rcases t2 with t2 | ⟨x, x1, x2⟩
        · rw [if_neg t2]; rfl
        · by_cases h8 : nI n ≤ 8
          · rw [if_pos h8, ob_eq x1, if_neg x2]; rfl
          · rw [if_neg h8]; rfl
    · have hcl := robbers_class hG hn hx2 hg (fun w hw => hj w (by omega)) t1 hw
      obtain ⟨sf1, s1, s2⟩ := clears_ok (HT.none (sa := sa) (so := so) hsf)
      have hL : lp (Mo_robbers_L37 (nI w)) ((0 : Int32), ca) = some (filled ca (-1) 13) := by
        rw [show ((0 : Int32), ca) = (nI 0, filled ca (-1) 0) by rw [filled_zero]; rfl]
        refine lp_run (fun k => (nI k, filled ca (-1) k)) 13 ?_ ?_
        · intro k hk
          unfold Mo_robbers_L37
          show (if nI k < nI 13 then gd (ix (nI k) 13) (some (Sum.inl (nI k + 1, upd (filled ca (-1) k) (nI k).toNatClampNeg (-1)))) else _) = _
          rw [if_pos ((nI_ltN (by omega) (by omega)).mpr hk), gd_eq (ixN hk (by omega)), nI_clamp (by omega), filled_succ, show nI k + 1 = nI (k + 1) from nI_ad k 1]
        · unfold Mo_robbers_L37
          exact if_neg (show ¬ nI 13 < 13 by decide)
      have h0 : RG n [] (fun _ => []) (sf1, sa, so, 0, co, filled ca (-1) 13, cw) := by
        refine ⟨HT.none s2, fun g hg => by simp at hg, fun t ht => ?_, fun i hi => by simp at hi, fun t i _ hi => by simp at hi⟩
        show filled ca (-1) 13 t = -1
        unfold filled
        rw [if_pos ht]
      obtain ⟨G1, C1, τ1, c1, c2, -, c4, c5⟩ := comes_ok hn h0 hg (s := 13) (by have := hg.2; omega)
      have hG1 : G1 = [g] := by
        rcases c5 with rfl | rfl
        · simp at c4
        · rfl
      subst hG1
      obtain ⟨G2, C2, τ2, d1, d2, ⟨K, d3⟩, d4⟩ := all_go hG hn hx c2 hw
      obtain ⟨cw3, f1, f2⟩ := all_win hG hn hx d2 hw d4
      obtain ⟨sf4, g1, g2⟩ := clears_ok d2.1
      have h20 : 0 < G2.length := by rw [d3]; simp
      have hgz : G2.getD 0 z0S = g := by rw [d3]; rfl
      have f3 := f2 0 h20
      rw [hgz] at f3
      have hM : Mo_robbers now nextTo (nI n) sf sa so 0 co ca cw (nI w) = if cw3 0 = 0 then some (0, sf4, τ2.2.1, τ2.2.2.1, 0, τ2.2.2.2.2.1, τ2.2.2.2.2.2.1, cw3) else some (1, sf4, τ2.2.1, τ2.2.2.1, 0, τ2.2.2.2.2.1, τ2.2.2.2.2.2.1, cw3) := by
        unfold Mo_robbers
        rw [ob_eq e2, if_neg one_ne0, if_pos h8, ob_eq x1, if_pos x2, ob_eq s1, ob_eq hL, ob_eq (stateNow_ok hn hg (fun w hw => hnow w (by omega)))]
        show ob (Mo_comes sf1 sa so 0 co (filled ca (-1) 13) cw (cdS g)) _ = _
        rw [ob_eq c1]
        show ob (lp (Mo_robbers_L67 (nI w) nextTo (nI n)) ((12 : Int32), τ1)) _ = _
        rw [ob_eq d1, ob_eq f1, gd_eq (show ix 0 131072 = true from rfl), ob_eq g1]
        rfl
      rcases hcl with ⟨q1, q2⟩ | ⟨q1, q2⟩
      · refine ⟨1, sf4, τ2.2.1, τ2.2.2.1, τ2.2.2.2.2.1, τ2.2.2.2.2.2.1, cw3, q1, ?_, g2⟩
        rw [hM, if_neg (fun z => f3.mp z q2)]
      · refine ⟨0, sf4, τ2.2.1, τ2.2.2.1, τ2.2.2.2.2.1, τ2.2.2.2.2.2.1, cw3, q1, ?_, g2⟩
        rw [hM, if_pos (f3.mpr q2)]
  · refine ⟨-1, sf, sa, so, co, ca, cw, ?_, ?_, hsf⟩
    · unfold Dj_robbers
      rw [ob_eq e1, if_pos rfl]
    · unfold Mo_robbers
      rw [ob_eq e2, if_pos rfl]
