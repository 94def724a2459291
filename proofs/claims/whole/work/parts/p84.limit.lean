/-! THE CLASS'S SEARCH: level by level, limit by limit -/
section LIM
variable {n : Nat} {nx : Nat → Nat} {both : Bool} {t due : Nat} {s0 : Nat → Nat} {lim nw nseen nlay : Nat}
variable {below tA tB gv ne wa : Nat → Int32}
/-- what is found: it is the best way -/
theorem CQ.found (hG : GoodG n nx) (hn : n ≤ 8) (ht : t < n) (h0 : SG n s0) (hs : s0 t < due) {G : List (Nat → Nat)} {f : Nat → Nat} {i m NXT : Nat} {σ : T5c} (h : CQ n nx both t due s0 lim nw G f i m NXT σ) (hi : i < G.length) (hm : m < (mlS n nx both).length) (hok : okS (G.getD i z0S) (mvN (mlS n nx both) m)) (hgo : due ≤ goS (G.getD i z0S) (mvN (mlS n nx both) m) t) (hl : lvl s0 (G.getD i z0S) + 1 ≤ lim) :
    bestS (mlS n nx both) s0 (fun s => due ≤ s t) (lvl s0 (G.getD i z0S) + 1) (if i = 0 then m else f i) := by
  have hm8 : ∀ j, j < (mlS n nx both).length → in8 n (mvN (mlS n nx both) j) := fun j hj => (mlS_leg (mvN_mem hj)).1
  obtain ⟨d, hd, hd0, hd1⟩ := h.1.psAt hi
  have hlv := hd.lv hn hm8 h0
  have hw : ∃ fi, WaS (mlS n nx both) s0 (d + 1) fi (goS (G.getD i z0S) (mvN (mlS n nx both) m)) := by
    by_cases z : d = 0
    · subst z
      exact ⟨m, _, m, hd, hm, hok, rfl, fun _ => rfl⟩
    · exact ⟨f i, _, m, hd, hm, hok, rfl, fun y => absurd y z⟩
  obtain ⟨fi, hw⟩ := hw
  rcases best_or (ml := mlS n nx both) (s0 := s0) (gl := fun s => due ≤ s t) with ⟨D, F, hb⟩ | hno
  · have h1 := hb.2 _ _ _ hw hgo
    obtain ⟨D', rfl⟩ : ∃ D', D = D' + 1 := by
      cases D with
      | zero =>
        exfalso
        obtain ⟨s, s1, s2⟩ := hb.1
        have s1 : s = s0 := s1
        subst s1
        have s2 : due ≤ s t := s2
        omega
      | succ D' => exact ⟨D', rfl⟩
    obtain ⟨e1, e2⟩ := h.1.found hn hm8 h0 (gl := fun s => due ≤ s t) (fun s z y => by have z := z.1; have y : due ≤ s t := y; omega) hi hm hok hgo hb (fun s x a b c d => best_keep hG hn ht h0 hb (by omega) s x a b c d)
    rw [e1, e2]
    exact hb
  · exact absurd hgo (hno _ _ _ hw)
/-- a level -/
theorem level_ok (hG : GoodG n nx) (hn : n ≤ 8) (ht : t < n) (hd : due ≤ 40) (h0 : SG n s0) (hb : RBk below) (hM : MLr (mlS n nx both) tA tB gv (nI (mlS n nx both).length)) (hN : NLr (nlW n nx t (n - 1)) ne wa (nI (nlW n nx t (n - 1)).length))
    (hlim : lim < 1000) (hnw : nw ≤ nseen) (hs1 : rbS n (totS s0 8 + 1) ≤ 32 * nw) (hs2 : nseen < 2 ^ 26) (hl1 : 225 + rbS n (totS s0 8 - 1) ≤ nlay) (hl2 : nlay < 2 ^ 31)
    {G : List (Nat → Nat)} {f : Nat → Nat} {a k NXT : Nat} {row : Nat → Int32} {σ : T5c} (h : CQ n nx both t due s0 lim nw G f a 0 NXT σ) (ha : a ≤ G.length) (hlv : ∀ j, a ≤ j → j < G.length → lvl s0 (G.getD j z0S) = k) :
    ∃ r, lp (Search_goWithinLimit_L38 (nI (k + 1)) (nI G.length) below tA tB gv ne wa (nI (mlS n nx both).length) nseen nlay nlay (nI n) (nI (nlW n nx t (n - 1)).length) (nI t) (nI due) (nI lim)) (nI a, row, σ) = some r ∧ ∃ G' f' NXT' σ' row', (∃ H, G' = G ++ H ∧ ∀ s ∈ H, lvl s0 s = k + 1) ∧ ((r = Sum.inr (row', σ') ∧ CQ n nx both t due s0 lim nw G' f' G.length 0 NXT' σ') ∨
      (∃ i m, r = Sum.inl (nI i, nI m, row', σ') ∧ i < G.length ∧ lvl s0 (G.getD i z0S) = k ∧ m < (mlS n nx both).length ∧ CQ n nx both t due s0 lim nw G' f' i m NXT' σ' ∧ okS (G.getD i z0S) (mvN (mlS n nx both) m) ∧ due ≤ goS (G.getD i z0S) (mvN (mlS n nx both) m) t)) := by
  have hm8 : ∀ j, j < (mlS n nx both).length → in8 n (mvN (mlS n nx both) j) := fun j hj => (mlS_leg (mvN_mem hj)).1
  have hml := mlS_len hG hn both
  have hfit : G.length ≤ nlay := Nat.le_trans (h.1.fits hn hm8 hml h0 h.2.1) hl1
  refine lp_inv (f := Search_goWithinLimit_L38 (nI (k + 1)) (nI G.length) below tA tB gv ne wa (nI (mlS n nx both).length) nseen nlay nlay (nI n) (nI (nlW n nx t (n - 1)).length) (nI t) (nI due) (nI lim))
    (fun x s => s.1 = nI (a + x) ∧ ∃ G' f' NXT', CQ n nx both t due s0 lim nw G' f' (a + x) 0 NXT' s.2.2 ∧ ∃ H, G' = G ++ H ∧ ∀ s ∈ H, lvl s0 s = k + 1) (G.length - a) _ ?_ ?_ 0 (nI a, row, σ) (Nat.zero_le _) ⟨rfl, G, f, NXT, h, [], by simp, by simp⟩
  · rintro x ⟨s1, row1, σ1⟩ hx ⟨e1, G1, f1, N1, e2, H, rfl, e3⟩
    have e1 : s1 = nI (a + x) := e1
    subst e1
    have hil : a + x < (G ++ H).length := by rw [List.length_append]; omega
    have hgi : (G ++ H).getD (a + x) z0S = G.getD (a + x) z0S := gF_app (by omega)
    have hk := hlv (a + x) (by omega) (by omega)
    obtain ⟨y, G2, f2, N2, σ2, row2, q1, ⟨H2, rfl, q2⟩, q3⟩ := goFrom_ok (row := row1) hG hn ht hd h0 hb hM hN hlim hnw hs1 hs2 hl1 hl2 e2 hil
    rw [hgi, hk] at q1 q2
    rw [hgi] at q3
    have hH : ∃ H3, (G ++ H) ++ H2 = G ++ H3 ∧ ∀ s ∈ H3, lvl s0 s = k + 1 := ⟨H ++ H2, by simp, fun s hs => by
      rcases List.mem_append.mp hs with z | z
      · exact e3 s z
      · exact q2 s z⟩
    have hhead : Search_goWithinLimit_L38 (nI (k + 1)) (nI G.length) below tA tB gv ne wa (nI (mlS n nx both).length) nseen nlay nlay (nI n) (nI (nlW n nx t (n - 1)).length) (nI t) (nI due) (nI lim) (nI (a + x), row1, σ1) = if y < 0 then some (.inl (nI (a + x) + 1, row2, σ2)) else some (.inr (.inl (nI (a + x), y, row2, σ2))) := by
      unfold Search_goWithinLimit_L38
      show (if nI (a + x) < nI G.length then _ else _) = _
      rw [if_pos ((nI_ltN (by omega) (by omega)).mpr (by omega)), ob_eq q1]
    rcases q3 with ⟨rfl, q4⟩ | ⟨m, rfl, q4, q5, q6, q7⟩
    · left
      refine ⟨(nI (a + x) + 1, row2, σ2), ?_, nI_ad (a + x) 1, _, f2, N2, q4, hH⟩
      rw [hhead, if_pos (by decide)]
    · right
      refine ⟨Sum.inl (nI (a + x), nI m, row2, σ2), ?_, _, f2, N2, σ2, row2, hH, Or.inr ⟨a + x, m, rfl, by omega, hk, q4, q5, q6, q7⟩⟩
      rw [hhead, if_neg (nI_pos (by omega))]
  · rintro ⟨s1, row1, σ1⟩ ⟨e1, G1, f1, N1, e2, H, rfl, e3⟩
    have e1 : s1 = nI (a + (G.length - a)) := e1
    have ea : a + (G.length - a) = G.length := by omega
    rw [ea] at e1 e2
    subst e1
    refine ⟨Sum.inr (row1, σ1), ?_, _, f1, N1, σ1, row1, ⟨H, rfl, e3⟩, Or.inl ⟨rfl, e2⟩⟩
    unfold Search_goWithinLimit_L38
    exact if_neg (fun z => by have := (nI_ltN (by omega) (by omega)).mp z; omega)
/-- all levels within the limit -/
theorem levels_ok (hG : GoodG n nx) (hn : n ≤ 8) (ht : t < n) (hd : due ≤ 40) (h0 : SG n s0) (hs : s0 t < due) (hb : RBk below) (hM : MLr (mlS n nx both) tA tB gv (nI (mlS n nx both).length)) (hN : NLr (nlW n nx t (n - 1)) ne wa (nI (nlW n nx t (n - 1)).length))
    (hlim1 : 1 ≤ lim) (hlim : lim < 1000) (hnw : nw ≤ nseen) (hs1 : rbS n (totS s0 8 + 1) ≤ 32 * nw) (hs2 : nseen < 2 ^ 26) (hl1 : 225 + rbS n (totS s0 8 - 1) ≤ nlay) (hl2 : nlay < 2 ^ 31)
    {f : Nat → Nat} {row : Nat → Int32} {σ : T5c} (h : CQ n nx both t due s0 lim nw [s0] f 0 0 1000 σ) :
    ∃ r, lp (Search_goWithinLimit_L21 below tA tB gv ne wa (nI (mlS n nx both).length) nseen nlay nlay (nI n) (nI (nlW n nx t (n - 1)).length) (nI t) (nI due) (nI lim)) (0, 1, row, σ) = some r ∧
      ((∃ row' σ' NXT, r = Sum.inr (row', σ') ∧ σ'.2.2.2.2 = nI NXT ∧ lim < NXT ∧ (NXT = 1000 ∨ NXT ≤ 11) ∧ ∀ D F, bestS (mlS n nx both) s0 (fun s => due ≤ s t) (D + 1) F → NXT ≤ D + 1) ∨
       (∃ D F i m row' σ', r = Sum.inl (nI (D + 1), nI i, nI m, row', σ') ∧ D + 1 ≤ lim ∧ bestS (mlS n nx both) s0 (fun s => due ≤ s t) (D + 1) F ∧ m < 224 ∧ i < nlay ∧ (D = 0 → F = m) ∧ (¬ D = 0 → σ'.2.2.1 i = jB (nI F)))) := by
  have hm8 : ∀ j, j < (mlS n nx both).length → in8 n (mvN (mlS n nx both) j) := fun j hj => (mlS_leg (mvN_mem hj)).1
  have hml := mlS_len hG hn both
  refine lp_inv (f := Search_goWithinLimit_L21 below tA tB gv ne wa (nI (mlS n nx both).length) nseen nlay nlay (nI n) (nI (nlW n nx t (n - 1)).length) (nI t) (nI due) (nI lim))
    (fun k s => s.2.1 = nI (k + 1) ∧ ∃ G f NXT a, s.1 = nI a ∧ CQ n nx both t due s0 lim nw G f a 0 NXT s.2.2.2 ∧ a ≤ G.length ∧ (∀ j, j < a → lvl s0 (G.getD j z0S) < k) ∧ ∀ j, a ≤ j → j < G.length → lvl s0 (G.getD j z0S) = k) lim _ ?_ ?_ 0 (0, 1, row, σ) (Nat.zero_le _) ⟨rfl, [s0], f, 1000, 0, rfl, h, Nat.zero_le _, fun j hj => by omega, fun j _ hj => ?_⟩
  · rintro k ⟨s1, s2, row1, σ1⟩ hk ⟨e1, G, f1, N1, a, e2, e3, e4, e5, e6⟩
    have e1 : s2 = nI (k + 1) := e1
    have e2 : s1 = nI a := e2
    subst e1; subst e2
    have hfound : σ1.2.2.2.1 = nI G.length := e3.2.2.2.2.2.2.1
    have hfit : G.length ≤ nlay := Nat.le_trans (e3.1.fits hn hm8 hml h0 e3.2.1) hl1
    obtain ⟨r, q1, G', f', N', σ', row', ⟨H, rfl, q2⟩, q3⟩ := level_ok (row := row1) hG hn ht hd h0 hb hM hN hlim hnw hs1 hs2 hl1 hl2 e3 e4 e6
    have hhead : Search_goWithinLimit_L21 below tA tB gv ne wa (nI (mlS n nx both).length) nseen nlay nlay (nI n) (nI (nlW n nx t (n - 1)).length) (nI t) (nI due) (nI lim) (nI a, nI (k + 1), row1, σ1) = sm r (fun x1 => some (.inr (.inl (nI (k + 1), x1)))) (fun x1 => some (.inl (nI G.length, nI (k + 1) + 1, x1))) := by
      unfold Search_goWithinLimit_L21
      dsimp only
      rw [if_pos ((nI_leN (by omega) (by omega)).mpr (by omega)), hfound]
      have q1' : lp (Search_goWithinLimit_L38 (nI (k + 1)) (nI G.length) below tA tB gv ne wa (nI (mlS n nx both).length) nseen nlay nlay (nI n) (nI (nlW n nx t (n - 1)).length) (nI t) (nI due) (nI lim)) (nI a, row1, σ1.1, σ1.2.1, σ1.2.2.1, nI G.length, σ1.2.2.2.2) = some r := by
        rw [← hfound]; rw [← hfound] at q1; exact q1
      rw [ob_eq q1']
    rw [hhead]
    rcases q3 with ⟨rfl, q4⟩ | ⟨i, m, rfl, q4, q5, q6, q7, q8, q9⟩
    · left
      refine ⟨(nI G.length, nI (k + 1) + 1, row', σ'), rfl, nI_ad (k + 1) 1, G ++ H, f', N', G.length, rfl, q4, by rw [List.length_append]; omega, fun j hj => ?_, fun j hj1 hj2 => ?_⟩
      · rw [gF_app hj]
        by_cases z : j < a
        · have := e5 j z; omega
        · have := e6 j (by omega) hj; omega
      · obtain ⟨x, x1, x2⟩ : ∃ s ∈ H, (G ++ H).getD j z0S = s := by
          rw [List.length_append] at hj2
          refine ⟨H.getD (j - G.length) z0S, gF_mem (by omega), ?_⟩
          rw [List.getD_eq_getElem?_getD, List.getElem?_append_right hj1, ← List.getD_eq_getElem?_getD]
        rw [x2]
        exact q2 x x1
    · right
      have hil : i < (G ++ H).length := by rw [List.length_append]; omega
      have hgi : (G ++ H).getD i z0S = G.getD i z0S := gF_app q4
      have hbest := q7.found hG hn ht h0 hs hil q6 (by rw [hgi]; exact q8) (by rw [hgi]; exact q9) (by rw [hgi, q5]; omega)
      rw [hgi, q5] at hbest
      have hz := q7.1.lvz hn hm8 h0 hil
      rw [hgi, q5] at hz
      refine ⟨_, rfl, Or.inr ⟨k, _, i, m, row', σ', rfl, by omega, hbest, by omega, by omega, fun z => by rw [if_pos (hz.mp z)], fun z => ?_⟩⟩
      have z2 : ¬ i = 0 := fun y => z (hz.mpr y)
      rw [if_neg z2]
      exact (q7.2.2.2.2.1 i (by omega) hil).2
  · rintro ⟨s1, s2, row1, σ1⟩ ⟨e1, G, f1, N1, a, e2, e3, e4, e5, e6⟩
    have e1 : s2 = nI (lim + 1) := e1
    subst e1
    refine ⟨Sum.inr (row1, σ1), ?_, Or.inl ⟨row1, σ1, N1, rfl, e3.2.2.2.2.2.2.2.1, e3.2.2.2.2.2.2.2.2.1, e3.2.2.2.2.2.2.2.2.2, fun D F hbs => ?_⟩⟩
    · unfold Search_goWithinLimit_L21
      exact if_neg (fun z => by have := (nI_leN (by omega) (by omega)).mp z; omega)
    · exact QI.next (R := fun _ => True) hG hn ht h0 hlim1 e3.1 (fun j hj hl => by
        by_cases z : j < a
        · exact z
        · have := e6 j (by omega) hj; omega) hbs
  · have hj : j < 1 := hj
    rw [show j = 0 by omega]
    show lvl s0 s0 = 0
    unfold lvl; omega
theorem within_ok (hG : GoodG n nx) (hn : n ≤ 8) (ht : t < n) (hd : due ≤ 40) (h0 : SG n s0) (hs : s0 t < due) (hb : RBk below) (hM : MLr (mlS n nx both) tA tB gv (nI (mlS n nx both).length)) (hN : NLr (nlW n nx t (n - 1)) ne wa (nI (nlW n nx t (n - 1)).length))
    (hlim1 : 1 ≤ lim) (hlim : lim < 1000) {bc bs : Nat} (z1 : nseen ≤ 3937) (z2 : nlay ≤ 43983) (hbc : (wordsS n s0 ≤ nseen ∧ mostS n s0 ≤ nlay) ∨ (3 ≤ bc ∧ 91903 ≤ bs)) (row seen lay st : Nat → Int32) (found fm : Int32) :
    ∃ x row' seen' nseen' lay' nlay' st' found' nxt' fm' kc ks, Search_goWithinLimit bc bs below tA tB gv ne wa row (nI (mlS n nx both).length) seen nseen lay nlay st nlay found (nI n) (nI (nlW n nx t (n - 1)).length) (nI t) (nI due) (nI lim) 1000 fm (cdS s0) = some (x, row', seen', nseen', lay', nlay', st', nlay', found', nxt', fm', kc, ks) ∧
      nseen' ≤ 3937 ∧ nlay' ≤ 43983 ∧ wordsS n s0 ≤ nseen' ∧ mostS n s0 ≤ nlay' ∧ (wordsS n s0 ≤ nseen ∧ mostS n s0 ≤ nlay → kc = 0 ∧ ks = 0) ∧ kc ≤ 3 ∧ ks ≤ 91903 ∧
      ((x = 0 ∧ ∃ NXT, nxt' = nI NXT ∧ lim < NXT ∧ (NXT = 1000 ∨ NXT ≤ 11) ∧ ∀ D F, bestS (mlS n nx both) s0 (fun s => due ≤ s t) (D + 1) F → NXT ≤ D + 1) ∨
       (∃ D F, x = nI (D + 1) ∧ D + 1 ≤ lim ∧ bestS (mlS n nx both) s0 (fun s => due ≤ s t) (D + 1) F ∧ fm' = nI (codeM (mvN (mlS n nx both) F)))) := by
  have hm8 : ∀ j, j < (mlS n nx both).length → in8 n (mvN (mlS n nx both) j) := fun j hj => (mlS_leg (mvN_mem hj)).1
  obtain ⟨row1, seen1, nseen1, lay1, nlay1, st1, kc, ks, a1, a2, a3, a4, a5, a6, a7, a8, a9⟩ := makeSpace_ok hn (by omega) h0 hb row seen lay st (bc := bc) (bs := bs) z1 z2 hbc
  have hcq : CQ n nx both t due s0 lim (wordsS n s0) [s0] (fun _ => 0) 0 0 1000 (seen1, upd lay1 0 (cdS s0), st1, 1, 1000) := by
    refine ⟨QI.start, fun j j' h1 h2 => ?_, fun j hj => ?_, fun j hj => ?_, fun j h1 h2 => ?_, fun r hr => ?_, rfl, rfl, hlim, Or.inl rfl⟩
    · have h2 : j' < 1 := h2
      omega
    · have hj : j < 1 := hj
      rw [show j = 0 by omega]; exact hs
    · have hj : j < 1 := hj
      rw [show j = 0 by omega]
      show upd lay1 0 (cdS s0) 0 = cdS s0
      exact upd_at _ _ _
    · have h2 : j < 1 := h2
      omega
    · constructor
      · intro z
        have z : bitS seen1 r = true := z
        rw [a6 r hr] at z
        cases z
      · rintro ⟨j, j1, j2, -⟩
        have j2 : j < 1 := j2
        omega
  obtain ⟨r, r1, r2⟩ := levels_ok (row := row1) (nseen := nseen1) (nlay := nlay1) hG hn ht hd h0 hs hb hM hN hlim1 hlim a4 (by unfold wordsS; omega) (by omega) a5 (by omega) hcq
  unfold Search_goWithinLimit
  rw [Nat.sub_zero, Nat.sub_zero, ob_eq a1]
  have hcu : cuOk bc bs 0 0 kc ks = true := cuOk_yes (by
    rcases hbc with z | z
    · have := a7 z; omega
    · omega) (by
    rcases hbc with z | z
    · have := a7 z; omega
    · omega)
  have hmost : 0 < nlay1 := by unfold mostS at a5; omega
  dsimp only
  rw [gd_eq hcu, gd_eq (show ix 0 nlay1 = true from ixN (c := 0) hmost (by omega)), show ((0 : Int32).toNatClampNeg) = 0 from rfl, ob_eq r1]
  rcases r2 with ⟨row', σ', NXT, rfl, c1, c2, c3, c4⟩ | ⟨D, F, i, m, row', σ', rfl, c1, c2, c3, c4, c5, c6⟩
  · obtain ⟨seen', lay', st', found', nxt'⟩ := σ'
    have c1 : nxt' = nI NXT := c1
    refine ⟨0, row', seen', nseen1, lay', nlay1, st', found', nxt', fm, kc, ks, ?_, a2, a3, a4, a5, a7, a8, a9, Or.inl ⟨rfl, NXT, c1, c2, c3, c4⟩⟩
    show some (0, row', seen', nseen1, lay', nlay1, st', nlay1, found', nxt', fm, 0 + kc, 0 + ks) = _
    rw [Nat.zero_add, Nat.zero_add]
  · obtain ⟨seen', lay', st', found', nxt'⟩ := σ'
    have hFl : F < (mlS n nx both).length := by
      obtain ⟨s, s1, s2⟩ := c2.1
      exact (Wa_head (gl := fun _ => True) (r := 0) s1 trivial).1
    have hml := mlS_len hG hn both
    have hcode : (256 * tA F) + (16 * tB F) + gv F = nI (codeM (mvN (mlS n nx both) F)) := by
      obtain ⟨m1, m2, m3⟩ := hM.2 F hFl
      rw [m1, m2, m3, show (256 : Int32) = nI 256 from rfl, show (16 : Int32) = nI 16 from rfl, nI_mulN, nI_mulN, nI_ad, nI_ad]
      rfl
    have hJ : ∀ (K0 : Int32), K0 = nI F → Search_goWithinLimit_J80 bc bs (nI (D + 1)) K0 below tA tB gv ne wa row' (nI (mlS n nx both).length) seen' nseen1 lay' nlay1 st' nlay1 found' (nI n) (nI (nlW n nx t (n - 1)).length) (nI t) (nI due) (nI lim) nxt' fm (0 + kc) (0 + ks) = some (nI (D + 1), row', seen', nseen1, lay', nlay1, st', nlay1, found', nxt', nI (codeM (mvN (mlS n nx both) F)), kc, ks) := by
      intro K0 hK0
      subst hK0
      unfold Search_goWithinLimit_J80
      have hix : ix (nI F) 224 = true := ixN (by omega) (by omega)
      rw [gd_eq hix, gd_eq hix, gd_eq hix, nI_clamp (show F < 2 ^ 31 by omega), hcode, Nat.zero_add, Nat.zero_add]
    refine ⟨nI (D + 1), row', seen', nseen1, lay', nlay1, st', found', nxt', nI (codeM (mvN (mlS n nx both) F)), kc, ks, ?_, a2, a3, a4, a5, a7, a8, a9, Or.inr ⟨D, F, rfl, c1, c2, rfl⟩⟩
    show (if nI (D + 1) = 1 then Search_goWithinLimit_J80 bc bs (nI (D + 1)) (nI m) below tA tB gv ne wa row' (nI (mlS n nx both).length) seen' nseen1 lay' nlay1 st' nlay1 found' (nI n) (nI (nlW n nx t (n - 1)).length) (nI t) (nI due) (nI lim) nxt' fm (0 + kc) (0 + ks) else gd (ix (nI i) nlay1) (Search_goWithinLimit_J80 bc bs (nI (D + 1)) (st' (nI i).toNatClampNeg &&& 255) below tA tB gv ne wa row' (nI (mlS n nx both).length) seen' nseen1 lay' nlay1 st' nlay1 found' (nI n) (nI (nlW n nx t (n - 1)).length) (nI t) (nI due) (nI lim) nxt' fm (0 + kc) (0 + ks))) = _
    by_cases z : D = 0
    · have := c5 z
      rw [if_pos (by rw [z]; rfl), hJ _ (by rw [this])]
    · have h1 : st' i = jB (nI F) := c6 z
      rw [if_neg (fun y => by have := (nI_inj (b := 1) (by omega) (by omega)).mp y; omega), gd_eq (ixN c4 (by omega)), nI_clamp (show i < 2 ^ 31 by omega), hJ _ (by rw [h1, jB_255 _ (by omega)])]
end LIM
