/-! THE NUMBERS OF OTHER LANDS; a land becomes another -/
abbrev T15o := (Nat → Int32) × Nat × (Nat → Int32) × Nat × (Nat → Int32) × (Nat → Int32) × (Nat → Int32) × (Nat → Int32) × (Nat → Int32) × Int32 × Int32 × Int32 × Int32 × Nat × Nat
def SZo (nf : Nat) (y : T15o) : Prop := SZ2 y.2.1 y.2.2.2.1 ∧ nf ≤ y.2.1 ∧ y.2.2.2.2.2.2.2.2.2.2.2.2.2.1 ≤ 24 ∧ y.2.2.2.2.2.2.2.2.2.2.2.2.2.2 + 3 * nf ≤ 3 * y.2.1
theorem other_ok {n : Nat} {nx : Nat → Nat} (hG : GoodG n nx) {next nextTo ways : Nat → Int32} (hx : ∀ w, w < 12 → next w = nI (nx w)) (hx2 : ∀ w, w < 12 → nextTo w = nI (nx w)) (hr : RW n nx ways) {bc bs : Nat} (hbc : 26 ≤ bc) {nf nm : Nat} (hbs : 196608 ≤ bs + 3 * nf) (hz : SZ2 nf nm) (hall : ∀ u, u < n → Numbers_refusalAt (nI n) ways (nI u) = some 0)
    (fo ma sh0 fi0 two full change : Nat → Int32) (mv wn sz ls : Int32) (far line : Nat → Int32) (μ : T10m) :
    ∃ (M : Nat) (y : T15o) (x : (Nat → Int32) × (Nat → Int32) × T10m), Numbers_ofOtherLand bc bs fo nf ma nm sh0 fi0 two full change mv wn sz ls (nI n) next ways = some (nI M, y) ∧ SZo nf y ∧ M < 65 ∧
      Mo_numberOfLand nextTo (nI n) far line μ.1 μ.2.1 μ.2.2.1 μ.2.2.2.1 μ.2.2.2.2.1 μ.2.2.2.2.2.1 μ.2.2.2.2.2.2.1 μ.2.2.2.2.2.2.2.1 μ.2.2.2.2.2.2.2.2.1 μ.2.2.2.2.2.2.2.2.2 = some (nI M, x) := by
  have n12 := hG.1
  obtain ⟨far', line', l1, hf⟩ := laysSteps_ok hG hx2 far line
  obtain ⟨r, r', q1, q2, M, y, μ', rfl, q3, q4, rfl⟩ := lp_sim (f := Numbers_ofOtherLand_L4 bc bs (nI n) next ways) (g := Mo_numberOfLand_L8 nextTo (nI n) far')
    (fun k s u => s.2.1 = nI k ∧ u.2.1 = nI k ∧ ∃ M, s.1 = nI M ∧ u.1 = nI M ∧ M < 65 ∧ SZ2 s.2.2.2.1 s.2.2.2.2.2.1 ∧ nf ≤ s.2.2.2.1 ∧ s.2.2.2.2.2.2.2.2.2.2.2.2.2.2.2.1 ≤ 2 * k ∧ s.2.2.2.2.2.2.2.2.2.2.2.2.2.2.2.2 + 3 * nf ≤ 3 * s.2.2.2.1) n
    (fun r r' => ∃ (M : Nat) (y : T15o) (μ' : T10m), r = (nI M, y) ∧ SZo nf y ∧ M < 65 ∧ r' = Sum.inr (nI M, μ'))
    (by
      rintro k ⟨s1, s2, fo, nf1, ma, nm1, sh0, fi0, two, full, change, mv, wn, sz, ls, kc, ks⟩ ⟨u1, u2, shm, wim, nim, hem, ivm, bim, vm, vy, vg, lb⟩ hk ⟨e1, e2, M, e3, e4, e5, e9, e10, e11, e12⟩
      dsimp only at e1 e2 e3 e4 e9 e10 e11 e12
      subst e1; subst e2; subst e3; subst e4
      left
      have hnf1 : nf1 ≤ 65536 := by rcases e9.1 with z | z <;> omega
      obtain ⟨why, sh, ni, he, iv, wi, bi, vm', vy', vg', f1, f2, f3⟩ := laysVain_ok hG hx2 hk hr hf shm wim nim hem ivm bim vm vy vg
      rw [hall k hk] at f1
      cases f1
      rcases f3 with z | z | ⟨-, hAll, hs, hbt, T, LV, G, hVR, hT, g1, g2, g3⟩
      · exact absurd z (by decide)
      · exact absurd z (by decide)
      · have h16 : 2 ^ totS (dnS n nx k) n ≤ 2 ^ 16 := Nat.pow_le_pow_right (by omega) hs
        obtain ⟨L, a, T', fo', nf', ma', nm', sh', fi', two', full', change', mv', kc', ks', a1, a2, a3, a4, a5, a6, a7, a8, a9, a10, a11⟩ := mostInVain_ok hG hx hr hk hAll hs (bc := bc - kc) (bs := bs - ks) (by omega) (nf := nf1) (nm := nm1) (fun hlt => by have := e9.grow hlt; omega) e9.1 fo ma sh0 fi0 two full change mv wn sz ls
        obtain ⟨b1, -⟩ := hVR.same a4.2.2.2.1 a4.2.2.2.2 a5 a6
        subst b1
        have hnf2 : nf' ≤ 65536 := by rcases a2 with z | z <;> omega
        have hks : ks' + 3 * nf1 ≤ 3 * nf' := by
          rcases a11 with z | z
          · omega
          · have := e9.grow (S := totS (dnS n nx k) n) (by omega)
            rcases a2 with y | y
            · omega
            · rw [← z.2] at this; omega
        have hsz2 : SZ2 nf' nm' := ⟨a2, by
          rcases a11 with z | z
          · rw [z.1]; exact e9.2
          · exact Or.inr ⟨_, z.2⟩⟩
        have hcu : cuOk bc bs kc ks kc' ks' = true := cuOk_yes (by omega) (by omega)
        subst g1
        have hC : Numbers_ofOtherLand_L4 bc bs (nI n) next ways (nI M, nI k, fo, nf1, ma, nm1, sh0, fi0, two, full, change, mv, wn, sz, ls, kc, ks) = some (.inl (nI (max M (T + 1)), nI k + 1, fo', nf', ma', nm', sh', fi', two', full', change', mv', nI n, nI L.length, nI a, kc + kc', ks + ks')) := by
          unfold Numbers_ofOtherLand_L4
          dsimp only
          rw [if_pos ((nI_ltN (by omega) (by omega)).mpr hk), ob_eq a1]
          dsimp only
          rw [gd_eq hcu, show nI T + 1 = nI (T + 1) from nI_ad T 1, jmax_nI (by omega) (by omega)]
        have hR : Mo_numberOfLand_L8 nextTo (nI n) far' (nI M, nI k, shm, wim, nim, hem, ivm, bim, vm, vy, vg, lb) = if nI (T + 1) ≤ nI M then some (.inl (nI M, nI k + 1, sh, wi, ni, he, iv, bi, nI T, vy', vg', lb)) else some (.inl (nI (T + 1), nI k + 1, sh, wi, ni, he, iv, bi, nI T, vy', vg', nI k)) := by
          unfold Mo_numberOfLand_L8
          dsimp only
          rw [if_pos ((nI_ltN (by omega) (by omega)).mpr hk), ob_eq f2]
          dsimp only
          rw [if_pos rfl, show nI T + 1 = nI (T + 1) from nI_ad T 1]
          rfl
        by_cases hle : T + 1 ≤ M
        · refine ⟨_, _, hC, hR.trans (if_pos ((nI_leN (by omega) (by omega)).mpr hle)), nI_ad k 1, nI_ad k 1, M, by show nI (max M (T + 1)) = _; rw [Nat.max_eq_left hle], rfl, e5, hsz2, by show nf ≤ nf'; omega, by show kc + kc' ≤ _; omega, by show ks + ks' + 3 * nf ≤ 3 * nf'; omega⟩
        · refine ⟨_, _, hC, hR.trans (if_neg (fun z => hle ((nI_leN (by omega) (by omega)).mp z))), nI_ad k 1, nI_ad k 1, T + 1, by show nI (max M (T + 1)) = _; rw [Nat.max_eq_right (by omega)], rfl, by omega, hsz2, by show nf ≤ nf'; omega, by show kc + kc' ≤ _; omega, by show ks + ks' + 3 * nf ≤ 3 * nf'; omega⟩)
    (by
      rintro ⟨s1, s2, fo, nf1, ma, nm1, sh0, fi0, two, full, change, mv, wn, sz, ls, kc, ks⟩ ⟨u1, u2, μ⟩ ⟨e1, e2, M, e3, e4, e5, e9, e10, e11, e12⟩
      dsimp only at e1 e2 e3 e4 e9 e10 e11 e12
      subst e1; subst e2; subst e3; subst e4
      refine ⟨_, _, ?_, ?_, M, (fo, nf1, ma, nm1, sh0, fi0, two, full, change, mv, wn, sz, ls, kc, ks), μ, rfl, ⟨e9, e10, by show kc ≤ 24; omega, e12⟩, e5, rfl⟩
      · unfold Numbers_ofOtherLand_L4
        exact if_neg (fun z => by have := (nI_ltN (by omega) (by omega)).mp z; omega)
      · unfold Mo_numberOfLand_L8
        exact if_neg (fun z => by have := (nI_ltN (by omega) (by omega)).mp z; omega))
    0 (0, 0, fo, nf, ma, nm, sh0, fi0, two, full, change, mv, wn, sz, ls, 0, 0) (0, 0, μ) (Nat.zero_le _) ⟨rfl, rfl, 0, rfl, rfl, by omega, hz, Nat.le_refl _, Nat.zero_le _, by show 0 + 3 * nf ≤ 3 * nf; omega⟩
  refine ⟨M, y, (far', line', μ'), ob_eq q1, q3, q4, ?_⟩
  unfold Mo_numberOfLand
  rw [ob_eq l1]
  show ob (lp (Mo_numberOfLand_L8 nextTo (nI n) far') (0, 0, μ)) _ = _
  rw [ob_eq q2]
  rfl
/-- the reference alone: it tells a number, or why not -/
theorem landRef_ok {n : Nat} {nx : Nat → Nat} (hG : GoodG n nx) {nextTo ways : Nat → Int32} (hx2 : ∀ w, w < 12 → nextTo w = nI (nx w)) (hr : RW n nx ways) (far line : Nat → Int32) (μ : T10m) :
    ∃ (v : Int32) (x : (Nat → Int32) × (Nat → Int32) × T10m), Mo_numberOfLand nextTo (nI n) far line μ.1 μ.2.1 μ.2.2.1 μ.2.2.2.1 μ.2.2.2.2.1 μ.2.2.2.2.2.1 μ.2.2.2.2.2.2.1 μ.2.2.2.2.2.2.2.1 μ.2.2.2.2.2.2.2.2.1 μ.2.2.2.2.2.2.2.2.2 = some (v, x) ∧
      ((Numbers_refusal (nI n) ways = some 0 ∧ ¬ v < 0 ∧ ∀ u, u < n → Numbers_refusalAt (nI n) ways (nI u) = some 0) ∨ ∃ why, ¬ why = 0 ∧ Numbers_refusal (nI n) ways = some why ∧ v < 0) := by
  rcases refusal_ok hG hr with ⟨w, why, w1, w2, w3, w4, w5⟩ | ⟨w2, w5⟩
  · obtain ⟨far', line', l1, l2⟩ := laysSteps_ok hG hx2 far line
    have hneg : why < 0 := by
      obtain ⟨why', sh, wi, bi, q1, -, q3⟩ := refuse_ok hG w1 hr hr (fun _ => 0) (fun _ => 0) 0
      rw [w4] at q1
      cases q1
      rcases q3 with e | e | ⟨e, -⟩
      · rw [e]; decide
      · rw [e]; decide
      · exact absurd e w3
    obtain ⟨μ', m1⟩ := ofLand_ref hG hx2 hr l2 w1 w3 w4 w5 μ
    refine ⟨why, (far', line', μ'), ?_, Or.inr ⟨why, w3, w2, hneg⟩⟩
    unfold Mo_numberOfLand
    rw [ob_eq l1]
    show ob (lp (Mo_numberOfLand_L8 nextTo (nI n) far') (0, 0, μ)) _ = _
    rw [ob_eq m1]
    rfl
  · obtain ⟨M, y, x, a1, a2, a3, a4⟩ := other_ok (next := nextTo) hG hx2 hx2 hr (bc := 100) (bs := 200000) (by omega) (nf := 0) (nm := 0) (by omega) ⟨Or.inl ⟨rfl, rfl⟩, Or.inl rfl⟩ w5 (fun _ => 0) (fun _ => 0) (fun _ => 0) (fun _ => 0) (fun _ => 0) (fun _ => 0) (fun _ => 0) 0 0 0 0 far line μ
    exact ⟨nI M, x, a4, Or.inl ⟨w2, nI_pos (by omega), w5⟩⟩
theorem becomes_firstNext_ok {n : Nat} (hn : n ≤ 12) {src : Nat → Int32} {nx : Nat → Nat} (h : ∀ w, w < n → src w = nI (nx w)) (h0 : ∀ w, n ≤ w → nx w = 0) (nextTo : Nat → Int32) (we : Int32) :
    ∃ nt, Mo_becomes_firstNext nextTo we src (nI n) = some (nt, nI n) ∧ ∀ w, w < 12 → nt w = nI (nx w) := by
  obtain ⟨nt, r1, r2⟩ := lp_inv (f := Mo_becomes_firstNext_L7 (nI n) src) (fun k s => s.1 = nI k ∧ ∀ w, w < k → s.2 w = nI (nx w)) 12 (fun r => ∀ w, w < 12 → r w = nI (nx w))
    (by
      rintro k ⟨s1, nt⟩ hk ⟨e1, e2⟩
      have e1 : s1 = nI k := e1
      subst e1
      left
      refine ⟨(nI k + 1, upd nt k (nI (nx k))), ?_, nI_ad k 1, fun w hw => ?_⟩
      · unfold Mo_becomes_firstNext_L7 Mo_becomes_firstNext_L7_J30
        show (if nI k < 12 then _ else _) = _
        rw [if_pos (show nI k < 12 from (nI_ltN (b := 12) (by omega) (by omega)).mpr hk)]
        dsimp only
        have hix : ix (nI k) 12 = true := ixN (by omega) (by omega)
        rw [nI_clamp (show k < 2 ^ 31 by omega)]
        by_cases z : k < n
        · rw [if_pos ((nI_ltN (by omega) (by omega)).mpr z), gd_eq (ixN (by omega) (by omega)), gd_eq hix, h k z]
        · rw [if_neg (fun y => z ((nI_ltN (by omega) (by omega)).mp y)), gd_eq hix, h0 k (by omega)]
          rfl
      · show upd nt k _ w = _
        by_cases e : w = k
        · rw [e, upd_at]
        · rw [upd_ne e]; exact e2 w (by omega))
    (by
      rintro ⟨s1, nt⟩ ⟨e1, e2⟩
      have e1 : s1 = nI 12 := e1
      subst e1
      refine ⟨nt, ?_, e2⟩
      unfold Mo_becomes_firstNext_L7
      show (if nI 12 < 12 then _ else _) = _
      rw [if_neg (by decide)])
    0 (0, nextTo) (Nat.zero_le _) ⟨rfl, fun w hw => by omega⟩
  exact ⟨nt, ob_eq r1, r2⟩
theorem becomes_secondNext_ok {n : Nat} (hn : n ≤ 12) {src : Nat → Int32} {nx : Nat → Nat} (h : ∀ w, w < n → src w = nI (nx w)) (h0 : ∀ w, n ≤ w → nx w = 0) (nextTo : Nat → Int32) (we : Int32) :
    ∃ nt, Mo_becomes_secondNext nextTo we src (nI n) = some (nt, nI n) ∧ ∀ w, w < 12 → nt w = nI (nx w) := by
  obtain ⟨nt, r1, r2⟩ := lp_inv (f := Mo_becomes_secondNext_L7 (nI n) src) (fun k s => s.1 = nI k ∧ ∀ w, w < k → s.2 w = nI (nx w)) 12 (fun r => ∀ w, w < 12 → r w = nI (nx w))
    (by
      rintro k ⟨s1, nt⟩ hk ⟨e1, e2⟩
      have e1 : s1 = nI k := e1
      subst e1
      left
      refine ⟨(nI k + 1, upd nt k (nI (nx k))), ?_, nI_ad k 1, fun w hw => ?_⟩
      · unfold Mo_becomes_secondNext_L7 Mo_becomes_secondNext_L7_J30
        show (if nI k < 12 then _ else _) = _
        rw [if_pos (show nI k < 12 from (nI_ltN (b := 12) (by omega) (by omega)).mpr hk)]
        dsimp only
        have hix : ix (nI k) 12 = true := ixN (by omega) (by omega)
        rw [nI_clamp (show k < 2 ^ 31 by omega)]
        by_cases z : k < n
        · rw [if_pos ((nI_ltN (by omega) (by omega)).mpr z), gd_eq (ixN (by omega) (by omega)), gd_eq hix, h k z]
        · rw [if_neg (fun y => z ((nI_ltN (by omega) (by omega)).mp y)), gd_eq hix, h0 k (by omega)]
          rfl
      · show upd nt k _ w = _
        by_cases e : w = k
        · rw [e, upd_at]
        · rw [upd_ne e]; exact e2 w (by omega))
    (by
      rintro ⟨s1, nt⟩ ⟨e1, e2⟩
      have e1 : s1 = nI 12 := e1
      subst e1
      refine ⟨nt, ?_, e2⟩
      unfold Mo_becomes_secondNext_L7
      show (if nI 12 < 12 then _ else _) = _
      rw [if_neg (by decide)])
    0 (0, nextTo) (Nat.zero_le _) ⟨rfl, fun w hw => by omega⟩
  exact ⟨nt, ob_eq r1, r2⟩
theorem becomes_nextAt_ok {n : Nat} (hn : n ≤ 12) {src : Nat → Int32} {nx : Nat → Nat} (h : ∀ w, w < n → src w = nI (nx w)) (h0 : ∀ w, n ≤ w → nx w = 0) (nextTo : Nat → Int32) (we : Int32) :
    ∃ nt, Mo_becomes_nextAt nextTo we src (nI n) = some (nt, nI n) ∧ ∀ w, w < 12 → nt w = nI (nx w) := by
  obtain ⟨nt, r1, r2⟩ := lp_inv (f := Mo_becomes_nextAt_L7 (nI n) src) (fun k s => s.1 = nI k ∧ ∀ w, w < k → s.2 w = nI (nx w)) 12 (fun r => ∀ w, w < 12 → r w = nI (nx w))
    (by
      rintro k ⟨s1, nt⟩ hk ⟨e1, e2⟩
      have e1 : s1 = nI k := e1
      subst e1
      left
      refine ⟨(nI k + 1, upd nt k (nI (nx k))), ?_, nI_ad k 1, fun w hw => ?_⟩
      · unfold Mo_becomes_nextAt_L7 Mo_becomes_nextAt_L7_J30
        show (if nI k < 12 then _ else _) = _
        rw [if_pos (show nI k < 12 from (nI_ltN (b := 12) (by omega) (by omega)).mpr hk)]
        dsimp only
        have hix : ix (nI k) 12 = true := ixN (by omega) (by omega)
        rw [nI_clamp (show k < 2 ^ 31 by omega)]
        by_cases z : k < n
        · rw [if_pos ((nI_ltN (by omega) (by omega)).mpr z), gd_eq (ixN (by omega) (by omega)), gd_eq hix, h k z]
        · rw [if_neg (fun y => z ((nI_ltN (by omega) (by omega)).mp y)), gd_eq hix, h0 k (by omega)]
          rfl
      · show upd nt k _ w = _
        by_cases e : w = k
        · rw [e, upd_at]
        · rw [upd_ne e]; exact e2 w (by omega))
    (by
      rintro ⟨s1, nt⟩ ⟨e1, e2⟩
      have e1 : s1 = nI 12 := e1
      subst e1
      refine ⟨nt, ?_, e2⟩
      unfold Mo_becomes_nextAt_L7
      show (if nI 12 < 12 then _ else _) = _
      rw [if_neg (by decide)])
    0 (0, nextTo) (Nat.zero_le _) ⟨rfl, fun w hw => by omega⟩
  exact ⟨nt, ob_eq r1, r2⟩
theorem becomes_wasNext_ok {n : Nat} (hn : n ≤ 12) {src : Nat → Int32} {nx : Nat → Nat} (h : ∀ w, w < n → src w = nI (nx w)) (h0 : ∀ w, n ≤ w → nx w = 0) (nextTo : Nat → Int32) (we : Int32) :
    ∃ nt, Mo_becomes_wasNext nextTo src we (nI n) = some (nt, nI n) ∧ ∀ w, w < 12 → nt w = nI (nx w) := by
  obtain ⟨nt, r1, r2⟩ := lp_inv (f := Mo_becomes_wasNext_L7 (nI n) src) (fun k s => s.1 = nI k ∧ ∀ w, w < k → s.2 w = nI (nx w)) 12 (fun r => ∀ w, w < 12 → r w = nI (nx w))
    (by
      rintro k ⟨s1, nt⟩ hk ⟨e1, e2⟩
      have e1 : s1 = nI k := e1
      subst e1
      left
      refine ⟨(nI k + 1, upd nt k (nI (nx k))), ?_, nI_ad k 1, fun w hw => ?_⟩
      · unfold Mo_becomes_wasNext_L7 Mo_becomes_wasNext_L7_J30
        show (if nI k < 12 then _ else _) = _
        rw [if_pos (show nI k < 12 from (nI_ltN (b := 12) (by omega) (by omega)).mpr hk)]
        dsimp only
        have hix : ix (nI k) 12 = true := ixN (by omega) (by omega)
        rw [nI_clamp (show k < 2 ^ 31 by omega)]
        by_cases z : k < n
        · rw [if_pos ((nI_ltN (by omega) (by omega)).mpr z), gd_eq (ixN (by omega) (by omega)), gd_eq hix, h k z]
        · rw [if_neg (fun y => z ((nI_ltN (by omega) (by omega)).mp y)), gd_eq hix, h0 k (by omega)]
          rfl
      · show upd nt k _ w = _
        by_cases e : w = k
        · rw [e, upd_at]
        · rw [upd_ne e]; exact e2 w (by omega))
    (by
      rintro ⟨s1, nt⟩ ⟨e1, e2⟩
      have e1 : s1 = nI 12 := e1
      subst e1
      refine ⟨nt, ?_, e2⟩
      unfold Mo_becomes_wasNext_L7
      show (if nI 12 < 12 then _ else _) = _
      rw [if_neg (by decide)])
    0 (0, nextTo) (Nat.zero_le _) ⟨rfl, fun w hw => by omega⟩
  exact ⟨nt, ob_eq r1, r2⟩
