/-! REACH: the call -/
theorem reach_ok {n : Nat} {nx : Nat → Nat} (hG : GoodG n nx) {next ways nextTo : Nat → Int32} (hx : ∀ w, w < 12 → nextTo w = nI (nx w)) (hx2 : ∀ w, w < 12 → next w = nI (nx w)) (hrw : RW n nx ways) {jars space now : Nat → Int32} {throne day draw : Int32} (h : RJ jars space throne day draw now) (hb : BJ jars space throne day draw) (hz : ∀ w, w < 12 → n ≤ w → jars w = 0)
    {below : Nat → Int32} (hbel : RBk below) {bc bs : Nat} (hbc : 3 ≤ bc) (hbs : 91903 ≤ bs) {nseen nlay : Nat} (z1 : nseen ≤ 3937) (z2 : nlay ≤ 43983) (tA tB gv ne wa row seen lay st : Nat → Int32) (mv found wq re aim duq lim nxt fm : Int32)
    {sf sa so fa mt : Nat → Int32} (hsf : ∀ p, p < 262144 → sf p = 0) (a1 a2 : Int32) {a3 : Int32} (ha3 : a3 = 0 ∨ a3 = 1) (a4 : Int32) :
    ∃ r y sf' sa' so' fa' mt', Dj_reach bc bs (nI n) next ways jars below tA tB gv ne wa row mv seen nseen lay nlay st nlay found wq re aim duq lim nxt fm a1 a2 a3 a4 = some (r, y) ∧ SZq y ∧ Mo_reach now nextTo (nI n) sf sa so fa mt 0 a1 a2 a3 a4 = some (r, sf', sa', so', fa', mt', 0) ∧ ∀ p, p < 262144 → sf' p = 0 := by
  have n12 := hG.1
  -- a refusal
  have refuse : ∀ r, Dj_reach bc bs (nI n) next ways jars below tA tB gv ne wa row mv seen nseen lay nlay st nlay found wq re aim duq lim nxt fm a1 a2 a3 a4 = some (r, tA, tB, gv, ne, wa, row, mv, seen, nseen, lay, nlay, st, nlay, found, wq, re, aim, duq, lim, nxt, fm, 0, 0) → Mo_reach now nextTo (nI n) sf sa so fa mt 0 a1 a2 a3 a4 = some (r, sf, sa, so, fa, mt, 0) → ∃ r y sf' sa' so' fa' mt', Dj_reach bc bs (nI n) next ways jars below tA tB gv ne wa row mv seen nseen lay nlay st nlay found wq re aim duq lim nxt fm a1 a2 a3 a4 = some (r, y) ∧ SZq y ∧ Mo_reach now nextTo (nI n) sf sa so fa mt 0 a1 a2 a3 a4 = some (r, sf', sa', so', fa', mt', 0) ∧ ∀ p, p < 262144 → sf' p = 0 :=
    fun r h1 h2 => ⟨r, _, sf, sa, so, fa, mt, h1, ⟨z1, z2, rfl, Nat.zero_le _, Nat.zero_le _⟩, h2, hsf⟩
  rcases well_cases a1 n12 with ⟨w, hw, rfl, e1, e2⟩ | ⟨e1, e2, -⟩
  · by_cases k1 : a2 < 1
    · refine refuse (-1) ?_ ?_
      · unfold Dj_reach
        rw [ob_eq e1, if_neg one_ne0, if_pos k1]
      · unfold Mo_reach
        rw [ob_eq e2, if_neg one_ne0, ob_eq (Mo_in_no1 k1), if_pos rfl]
    · by_cases k2 : a2 ≤ 40
      · by_cases k3 : a4 < 0
        · refine refuse (-1) ?_ ?_
          · unfold Dj_reach
            rw [ob_eq e1, if_neg one_ne0, if_neg k1, if_pos k2, if_pos k3]
          · unfold Mo_reach
            rw [ob_eq e2, if_neg one_ne0, ob_eq (Mo_in_yes k1 k2), if_neg one_ne0, ob_eq (Mo_in_no1 k3), if_pos rfl]
        · by_cases k4 : a4 ≤ 1
          · rcases search_ok n12 h hb hz with ⟨t1, t2⟩ | ⟨t1, hn, h8, ⟨x, x1, x2⟩, g, hg, hj, hnow⟩
            · refine refuse (-4) ?_ ?_
              · unfold Dj_reach
                rw [ob_eq e1, if_neg one_ne0, if_neg k1, if_pos k2, if_neg k3, if_pos k4, ob_eq t1, if_neg one_ne0]
              · unfold Mo_reach
                rw [ob_eq e2, if_neg one_ne0, ob_eq (Mo_in_yes k1 k2), if_neg one_ne0, ob_eq (Mo_in_yes k3 k4), if_neg one_ne0]
                rcases t2 with t2 | ⟨x, x1, x2⟩
                · rw [if_neg t2]; rfl
                · by_cases h8 : nI n ≤ 8
                  · rw [if_pos h8, ob_eq x1, if_neg x2]; rfl
                  · rw [if_neg h8]; rfl
            · obtain ⟨k, hk, rfl⟩ := nI_between (a := a2) (h := 40) (by omega) (fun z => k1 (Int32.lt_trans z (by decide))) k2
              obtain ⟨both, hbo⟩ : ∃ both : Bool, a3 = if both then 1 else 0 := by
                rcases ha3 with z | z
                · exact ⟨false, z⟩
                · exact ⟨true, z⟩
              -- the class
              obtain ⟨xc, y, c1, c2, c3⟩ := fewestMoves_ok hG hn hw hk hg hx2 hrw hj hbel both hbo hbc hbs z1 z2 tA tB gv ne wa row seen lay st mv found wq re aim duq lim nxt fm
              have hcu : cuOk bc bs 0 0 y.2.2.2.2.2.2.2.2.2.2.2.2.2.2.2.2.2.2.2.2.2.1 y.2.2.2.2.2.2.2.2.2.2.2.2.2.2.2.2.2.2.2.2.2.2 = true := cuOk_yes (by have := c2.2.2.2.1; omega) (by have := c2.2.2.2.2; omega)
              obtain ⟨q1, q2, q3, q4, q5, q6, q7, q8, q9, q10, q11, q12, q13, q14, q15, q16, q17, q18, q19, q20, q21, q22, q23⟩ := y
              dsimp only at hcu c3
              have hD : Dj_reach bc bs (nI n) next ways jars below tA tB gv ne wa row mv seen nseen lay nlay st nlay found wq re aim duq lim nxt fm (nI w) (nI k) a3 a4 = some ((if xc < 0 then xc else if a4 = 0 then xc else if xc = 0 then -3 else q21), q1, q2, q3, q4, q5, q6, q7, q8, q9, q10, q11, q12, q13, q14, q15, q16, q17, q18, q19, q20, q21, q22, q23) := by
                unfold Dj_reach
                rw [ob_eq e1, if_neg one_ne0, if_neg k1, if_pos k2, if_neg k3, if_pos k4, ob_eq t1, if_pos rfl, Nat.sub_zero, Nat.sub_zero, ob_eq c1]
                dsimp only
                rw [gd_eq hcu, Nat.zero_add, Nat.zero_add]
                by_cases u1 : xc < 0
                · rw [if_pos u1, if_pos u1]
                · rw [if_neg u1, if_neg u1]
                  by_cases u2 : a4 = 0
                  · rw [if_pos u2, if_pos u2]
                  · rw [if_neg u2, if_neg u2]
                    by_cases u3 : xc = 0
                    · rw [if_pos u3, if_pos u3]
                    · rw [if_neg u3, if_neg u3]
              -- the reference
              obtain ⟨sf1, s1, s2⟩ := clears_ok (sf := sf) (sa := sa) (so := so) (HT.none hsf)
              obtain ⟨sf2, sa2, so2, p1, p2, -⟩ := placeOf_new (HT.none (sa := sa) (so := so) s2) (a := cdS g) (by simp) (show 0 < 131072 by omega)
              have p1 : Mo_placeOf sf1 sa so 0 (cdS g) = some (nI 0, sf2, sa2, so2, nI 1) := p1
              have hRQ : RQ (mlS n nx both) g [g] (fun _ => 0) 0 0 (sf2, sa2, so2, upd fa 0 (-3), upd mt 0 (vp_nar .byte 0), nI 1) := by
                refine ⟨QI.start, p2, fun j hj => ?_, fun j hj => ?_⟩
                · have hj : j < 1 := hj
                  rw [show j = 0 by omega]
                  show upd mt 0 (vp_nar .byte 0) 0 = nI (lvl g g)
                  rw [upd_at, show lvl g g = 0 by unfold lvl; omega]
                  decide
                · have hj : j < 1 := hj
                  rw [show j = 0 by omega]
                  show upd fa 0 (-3) 0 = _
                  rw [upd_at, if_pos rfl]
              obtain ⟨told, τ', L, d1, d2, d3⟩ := queue_ok hG hn hx hbo hg hw (show k < 2 ^ 31 by omega) a4 hRQ
              obtain ⟨sf3, f1, f2⟩ := clears_ok d2
              have hM : Mo_reach now nextTo (nI n) sf sa so fa mt 0 (nI w) (nI k) a3 a4 = some (told, sf3, τ'.2.1, τ'.2.2.1, τ'.2.2.2.1, τ'.2.2.2.2.1, 0) := by
                unfold Mo_reach
                rw [ob_eq e2, if_neg one_ne0, ob_eq (Mo_in_yes k1 k2), if_neg one_ne0, ob_eq (Mo_in_yes k3 k4), if_neg one_ne0, if_pos h8, ob_eq x1, if_pos x2, ob_eq s1, ob_eq (stateNow_ok hn hg (fun w hw => hnow w (by omega)))]
                dsimp only
                rw [ob_eq p1]
                dsimp only
                rw [gd_eq (show ix 0 131072 = true from rfl), gd_eq (show ix 0 131072 = true from rfl), show ((0 : Int32).toNatClampNeg) = 0 from rfl, ob_eq d1]
                unfold Mo_reach_J157
                rw [ob_eq f1]
              have hans : (if xc < 0 then xc else if a4 = 0 then xc else if xc = 0 then -3 else q21) = told := by
                rcases c3 with ⟨b1, b2⟩ | ⟨b1, b2, b3⟩ | ⟨b1, D, F, b2, b3, b4⟩
                · rcases d3 with ⟨g1, g2⟩ | ⟨g1, g2⟩ | ⟨g1, g2⟩
                  · rw [b2, g2, if_neg (show ¬ (0 : Int32) < 0 by decide), if_pos (show (0 : Int32) = 0 from rfl)]
                  · omega
                  · omega
                · rcases d3 with ⟨g1, g2⟩ | ⟨g1, g2, g3⟩ | ⟨g1, D, F, ⟨⟨s, g2, g3⟩, -⟩, -⟩
                  · omega
                  · rw [b3, g3, if_pos (show (-2 : Int32) < 0 by decide)]
                  · exact absurd g3 (b2 _ _ _ g2)
                · rcases d3 with ⟨g1, g2⟩ | ⟨g1, g2, g3⟩ | ⟨g1, D', F', g2, g3⟩
                  · omega
                  · obtain ⟨s, s1, s2⟩ := b2.1
                    exact absurd s2 (g2 _ _ _ s1)
                  · obtain ⟨u1, u2⟩ := best_uniq b2 g2
                    have := best_le12 hn hg b2
                    subst u1; subst u2
                    rw [b3, g3, b4, if_neg (nI_pos (by omega)), if_neg (show ¬ nI (D + 1) = 0 from fun z => by have := (nI_inj (b := 0) (by omega) (by omega)).mp z; omega)]
              rw [hans] at hD
              exact ⟨told, _, sf3, _, _, _, _, hD, c2, hM, f2⟩
          · refine refuse (-1) ?_ ?_
            · unfold Dj_reach
              rw [ob_eq e1, if_neg one_ne0, if_neg k1, if_pos k2, if_neg k3, if_neg k4]
            · unfold Mo_reach
              rw [ob_eq e2, if_neg one_ne0, ob_eq (Mo_in_yes k1 k2), if_neg one_ne0, ob_eq (Mo_in_no2 k4), if_pos rfl]
      · refine refuse (-1) ?_ ?_
        · unfold Dj_reach
          rw [ob_eq e1, if_neg one_ne0, if_neg k1, if_neg k2]
        · unfold Mo_reach
          rw [ob_eq e2, if_neg one_ne0, ob_eq (Mo_in_no2 k2), if_pos rfl]
  · refine refuse (-1) ?_ ?_
    · unfold Dj_reach
      rw [ob_eq e1, if_pos rfl]
    · unfold Mo_reach
      rw [ob_eq e2, if_pos rfl]
