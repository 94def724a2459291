/-! rounds -/
set_option maxHeartbeats 4000000 in
set_option maxRecDepth 20000 in
theorem st_13 {t c s : Nat} {X : XS} {M : MS} (h : Rel t X M c s) (xs : Nat → Int32) (i : Int32) : ∃ X2 M2 kc ks, St_13 xs i X M X2 M2 kc ks ∧ kc ≤ 100 ∧ ks ≤ 200000 ∧ Rel (t + 1) X2 M2 (c + kc) (s + ks) := by
  obtain ⟨bytes_xt, length_xt, end_xt, at_xt, fault_xt, wells_xr0, next_xr0, ways_xr0, wells_xr1, next_xr1, ways_xr1, wells_xr2, next_xr2, ways_xr2, wells_xrp, next_xrp, ways_xrp, wells_xrx, next_xrx, ways_xrx, wells_xh, next_xh, ways_xh, wells_xf, next_xf, ways_xf, wells_xs, next_xs, ways_xs, wells_xx, next_xx, ways_xx, rules_xa, kinds_xa, worths_xa, tests_xa, code_xa, size_xa, given_xa, stack_xa, rules_xb, kinds_xb, worths_xb, tests_xb, code_xb, size_xb, given_xb, stack_xb, jars_xc, space_xc, throne_xc, day_xc, draw_xc, gone_xc, robbed_xc, jars_xy, space_xy, throne_xy, day_xy, draw_xy, gone_xy, robbed_xy, jars_xz, space_xz, throne_xz, day_xz, draw_xz, gone_xz, robbed_xz, anyKept_x, told_xn, layings_xn, rows_xn, greatestWell_xn, found_xn, nfound_xn, marks_xn, nmarks_xn, shifts_xn, fields_xn, two_xn, full_xn, change_xn, moves_xn, wells_xn, size_xn, levelStart_xn, below_xqk, takenA_xq, takenB_xq, given_xq, nearest_xq, ways_xq, row_xq, moves_xq, seen_xq, nseen_xq, layings_xq, nlayings_xq, starts_xq, nstarts_xq, found_xq, wells_xq, reachable_xq, aim_xq, due_xq, limit_xq, nextLimit_xq, firstMove_xq, below_xwk, row_xw, best_xw, reached_xw, nreached_xw, jars_xw, layings_xw, needs_xo, changes_xo, row_xo, lost_xo, throne_xo, ways_xo, least_xo, most_xo, order_xg, images_xg, looks_xg, twins_xg, land_xg⟩ := X
  obtain ⟨now_m, aside_m, kept_m, nextTo_m, wasNext_m, wells_m, wasWells_m, farOf_m, line_m, tape_m, taped_m, place0_m, length0_m, fault_m, number0_m, open_m, codeMany_m, waiting_m, saidMany_m, clauses_m, said_m, waitsAt_m, saidLetter_m, saidFrom_m, saidHalf_m, saidTo_m, codes_m, clauseOf_m, codeFrom_m, codeHalf_m, codeTo_m, stack_m, facts_m, manyAt_m, nextAt_m, partAt_m, newNext_m, depth_m, newLines_m, newJars_m, stagesNow_m, robbedNow_m, slotFor_m, stateAt_m, slotOf_m, firstAt_m, movesTo_m, states_m, shiftOf_m, widthOf_m, nextIn_m, headOf_m, isVain_m, bitsInAll_m, vainMost_m, vainMany_m, vainGreatest_m, lowestBest_m, laidNow_m, laidBest_m, firstNext_m, secondNext_m, firstMany_m, secondMany_m, chainOf_m, chainAt_m, canWin_m, goneFrom_m, goneTo_m, triedAt_m, leftNow_m, moveFrom_m, moveTo_m, takenFrom_m, takenTo_m, goneMany_m, lostMany_m, moveMany_m, waysNow_m, leastNow_m, mostNow_m, imageOf_m, isKept_m⟩ := M
  obtain ⟨n, nx, hL, hT, hJ, hB, hz, ht, hA, hk1, hk2, hkJ, hkB, hMN, hSZ, hb1, hb2, z1, z2, z3, hMF, z4, z5, hst, hsf, hlg, hc, hs⟩ := h
  replace hL : RL n nx wells_xh next_xh ways_xh wells_m nextTo_m := hL
  replace hT : RT bytes_xt length_xt tape_m taped_m := hT
  replace hJ : RJ jars_xc space_xc throne_xc day_xc draw_xc now_m := hJ
  replace hB : BJ jars_xc space_xc throne_xc day_xc draw_xc := hB
  replace hz : (∀ w, w < 12 → n ≤ w → jars_xc w = 0) := hz
  replace ht : (∃ t, throne_xc = nI t ∧ (t < n ∨ t = 0)) := ht
  replace hA : RA rules_xa kinds_xa worths_xa tests_xa code_xa clauses_m codes_m clauseOf_m codeFrom_m codeHalf_m codeTo_m := hA
  replace hk1 : anyKept_x = isKept_m := hk1
  replace hk2 : (isKept_m = 0 ∨ isKept_m = 1) := hk2
  replace hkJ : (isKept_m = 1 → RJ jars_xz space_xz throne_xz day_xz draw_xz kept_m) := hkJ
  replace hkB : (isKept_m = 1 → BJ jars_xz space_xz throne_xz day_xz draw_xz) := hkB
  replace hMN : MNs n nx told_xn layings_xn rows_xn := hMN
  replace hSZ : SZ2 nfound_xn nmarks_xn := hSZ
  replace hb1 : RBk below_xqk := hb1
  replace hb2 : RBk below_xwk := hb2
  replace z1 : nseen_xq ≤ 3937 := z1
  replace z2 : nlayings_xq ≤ 43983 := z2
  replace z3 : nstarts_xq = nlayings_xq := z3
  replace hMF : MFs n nx best_xw jars_xw layings_xw := hMF
  replace z4 : nreached_xw ≤ 43758 := z4
  replace z5 : reached_xw 0 = 0 := z5
  replace hst : states_m = 0 := hst
  replace hsf : (∀ p, p < 262144 → slotFor_m p = 0) := hsf
  replace hlg : (land_xg = .null ∨ land_xg = .ref 20) := hlg
  replace hs : s ≤ 1187040 + 91903 * t + 3 * nfound_xn := hs
  obtain ⟨hG, en1, en2, hx, hx2, hw⟩ := id hL
  subst en1; subst en2; subst hst; subst z3
  have n12 := hG.1
  obtain ⟨r, row', best', re', nr', ja', la', kc, ks, sf', sa', so', fa', mt', ld', lb', h1, h2, hM2, w1, w2, w3, w4, hsf2⟩ := fewest_ok (next := next_xh) (below := below_xwk) (row := row_xw) (best := best_xw) (reached := reached_xw) (nr := nreached_xw) (jars := jars_xw) (lay := layings_xw) (a1 := (xs (i + 1 : Int32).toNatClampNeg)) (nextTo := nextTo_m) (sf := slotFor_m) (sa := stateAt_m) (so := slotOf_m) (fa := firstAt_m) (mt := movesTo_m) (laid := laidNow_m) (laidBest := laidBest_m) hG hx hx2 hb2 (bc := 100) (bs := 200000) (by omega) (by omega) z4 z5 hMF hsf
  refine ⟨_, _, _, _, Exists.intro (r, row', best', re', nr', ja', la', kc, ks) (Exists.intro (r, sf', sa', so', fa', mt', 0, ld', lb') ⟨h1, h2, rfl, rfl, rfl, rfl, rfl⟩), Nat.le_trans w3 (by omega), Nat.le_trans (Nat.le_trans w4 (show 43758 ≤ 91903 by omega)) (by omega), ?_⟩
  exact Exists.intro n (Exists.intro nx ⟨⟨hG, rfl, rfl, hx, hx2, hw⟩, hT, hJ, hB, hz, ht, hA, hk1, hk2, hkJ, hkB, hMN, hSZ, hb1, hb2, z1, z2, rfl, hM2, w1, w2, rfl, hsf2, hlg, cell_step hc (Nat.le_trans w3 (by omega)), slot_step hs (Nat.le_trans w4 (show 43758 ≤ 91903 by omega))⟩)
set_option maxHeartbeats 4000000 in
set_option maxRecDepth 20000 in
theorem st_14 {t c s : Nat} {X : XS} {M : MS} (h : Rel t X M c s) (xs : Nat → Int32) (i : Int32) : ∃ X2 M2 kc ks, St_14 xs i X M X2 M2 kc ks ∧ kc ≤ 100 ∧ ks ≤ 200000 ∧ Rel (t + 1) X2 M2 (c + kc) (s + ks) := by
  obtain ⟨bytes_xt, length_xt, end_xt, at_xt, fault_xt, wells_xr0, next_xr0, ways_xr0, wells_xr1, next_xr1, ways_xr1, wells_xr2, next_xr2, ways_xr2, wells_xrp, next_xrp, ways_xrp, wells_xrx, next_xrx, ways_xrx, wells_xh, next_xh, ways_xh, wells_xf, next_xf, ways_xf, wells_xs, next_xs, ways_xs, wells_xx, next_xx, ways_xx, rules_xa, kinds_xa, worths_xa, tests_xa, code_xa, size_xa, given_xa, stack_xa, rules_xb, kinds_xb, worths_xb, tests_xb, code_xb, size_xb, given_xb, stack_xb, jars_xc, space_xc, throne_xc, day_xc, draw_xc, gone_xc, robbed_xc, jars_xy, space_xy, throne_xy, day_xy, draw_xy, gone_xy, robbed_xy, jars_xz, space_xz, throne_xz, day_xz, draw_xz, gone_xz, robbed_xz, anyKept_x, told_xn, layings_xn, rows_xn, greatestWell_xn, found_xn, nfound_xn, marks_xn, nmarks_xn, shifts_xn, fields_xn, two_xn, full_xn, change_xn, moves_xn, wells_xn, size_xn, levelStart_xn, below_xqk, takenA_xq, takenB_xq, given_xq, nearest_xq, ways_xq, row_xq, moves_xq, seen_xq, nseen_xq, layings_xq, nlayings_xq, starts_xq, nstarts_xq, found_xq, wells_xq, reachable_xq, aim_xq, due_xq, limit_xq, nextLimit_xq, firstMove_xq, below_xwk, row_xw, best_xw, reached_xw, nreached_xw, jars_xw, layings_xw, needs_xo, changes_xo, row_xo, lost_xo, throne_xo, ways_xo, least_xo, most_xo, order_xg, images_xg, looks_xg, twins_xg, land_xg⟩ := X
  obtain ⟨now_m, aside_m, kept_m, nextTo_m, wasNext_m, wells_m, wasWells_m, farOf_m, line_m, tape_m, taped_m, place0_m, length0_m, fault_m, number0_m, open_m, codeMany_m, waiting_m, saidMany_m, clauses_m, said_m, waitsAt_m, saidLetter_m, saidFrom_m, saidHalf_m, saidTo_m, codes_m, clauseOf_m, codeFrom_m, codeHalf_m, codeTo_m, stack_m, facts_m, manyAt_m, nextAt_m, partAt_m, newNext_m, depth_m, newLines_m, newJars_m, stagesNow_m, robbedNow_m, slotFor_m, stateAt_m, slotOf_m, firstAt_m, movesTo_m, states_m, shiftOf_m, widthOf_m, nextIn_m, headOf_m, isVain_m, bitsInAll_m, vainMost_m, vainMany_m, vainGreatest_m, lowestBest_m, laidNow_m, laidBest_m, firstNext_m, secondNext_m, firstMany_m, secondMany_m, chainOf_m, chainAt_m, canWin_m, goneFrom_m, goneTo_m, triedAt_m, leftNow_m, moveFrom_m, moveTo_m, takenFrom_m, takenTo_m, goneMany_m, lostMany_m, moveMany_m, waysNow_m, leastNow_m, mostNow_m, imageOf_m, isKept_m⟩ := M
  obtain ⟨n, nx, hL, hT, hJ, hB, hz, ht, hA, hk1, hk2, hkJ, hkB, hMN, hSZ, hb1, hb2, z1, z2, z3, hMF, z4, z5, hst, hsf, hlg, hc, hs⟩ := h
  replace hL : RL n nx wells_xh next_xh ways_xh wells_m nextTo_m := hL
  replace hT : RT bytes_xt length_xt tape_m taped_m := hT
  replace hJ : RJ jars_xc space_xc throne_xc day_xc draw_xc now_m := hJ
  replace hB : BJ jars_xc space_xc throne_xc day_xc draw_xc := hB
  replace hz : (∀ w, w < 12 → n ≤ w → jars_xc w = 0) := hz
  replace ht : (∃ t, throne_xc = nI t ∧ (t < n ∨ t = 0)) := ht
  replace hA : RA rules_xa kinds_xa worths_xa tests_xa code_xa clauses_m codes_m clauseOf_m codeFrom_m codeHalf_m codeTo_m := hA
  replace hk1 : anyKept_x = isKept_m := hk1
  replace hk2 : (isKept_m = 0 ∨ isKept_m = 1) := hk2
  replace hkJ : (isKept_m = 1 → RJ jars_xz space_xz throne_xz day_xz draw_xz kept_m) := hkJ
  replace hkB : (isKept_m = 1 → BJ jars_xz space_xz throne_xz day_xz draw_xz) := hkB
  replace hMN : MNs n nx told_xn layings_xn rows_xn := hMN
  replace hSZ : SZ2 nfound_xn nmarks_xn := hSZ
  replace hb1 : RBk below_xqk := hb1
  replace hb2 : RBk below_xwk := hb2
  replace z1 : nseen_xq ≤ 3937 := z1
  replace z2 : nlayings_xq ≤ 43983 := z2
  replace z3 : nstarts_xq = nlayings_xq := z3
  replace hMF : MFs n nx best_xw jars_xw layings_xw := hMF
  replace z4 : nreached_xw ≤ 43758 := z4
  replace z5 : reached_xw 0 = 0 := z5
  replace hst : states_m = 0 := hst
  replace hsf : (∀ p, p < 262144 → slotFor_m p = 0) := hsf
  replace hlg : (land_xg = .null ∨ land_xg = .ref 20) := hlg
  replace hs : s ≤ 1187040 + 91903 * t + 3 * nfound_xn := hs
  obtain ⟨hG, en1, en2, hx, hx2, hw⟩ := id hL
  subst en1; subst en2; subst hst; subst z3
  have n12 := hG.1
  obtain ⟨r, f', l', h1, h2⟩ := atOnce_ok (ways := ways_xh) (nextTo := nextTo_m) (f0 := farOf_m) (l0 := line_m) hG hx2 hw
  refine ⟨_, _, _, _, Exists.intro r (Exists.intro (r, f', l') ⟨h1, h2, rfl, rfl, rfl, rfl, rfl⟩), Nat.zero_le _, Nat.zero_le _, ?_⟩
  exact Exists.intro n (Exists.intro nx ⟨⟨hG, rfl, rfl, hx, hx2, hw⟩, hT, hJ, hB, hz, ht, hA, hk1, hk2, hkJ, hkB, hMN, hSZ, hb1, hb2, z1, z2, rfl, hMF, z4, z5, rfl, hsf, hlg, cell_step hc (Nat.zero_le _), slot_step hs (Nat.zero_le _)⟩)
set_option maxHeartbeats 4000000 in
set_option maxRecDepth 20000 in
theorem st_15 {t c s : Nat} {X : XS} {M : MS} (h : Rel t X M c s) (xs : Nat → Int32) (i : Int32) : ∃ X2 M2 kc ks, St_15 xs i X M X2 M2 kc ks ∧ kc ≤ 100 ∧ ks ≤ 200000 ∧ Rel (t + 1) X2 M2 (c + kc) (s + ks) := by
  obtain ⟨bytes_xt, length_xt, end_xt, at_xt, fault_xt, wells_xr0, next_xr0, ways_xr0, wells_xr1, next_xr1, ways_xr1, wells_xr2, next_xr2, ways_xr2, wells_xrp, next_xrp, ways_xrp, wells_xrx, next_xrx, ways_xrx, wells_xh, next_xh, ways_xh, wells_xf, next_xf, ways_xf, wells_xs, next_xs, ways_xs, wells_xx, next_xx, ways_xx, rules_xa, kinds_xa, worths_xa, tests_xa, code_xa, size_xa, given_xa, stack_xa, rules_xb, kinds_xb, worths_xb, tests_xb, code_xb, size_xb, given_xb, stack_xb, jars_xc, space_xc, throne_xc, day_xc, draw_xc, gone_xc, robbed_xc, jars_xy, space_xy, throne_xy, day_xy, draw_xy, gone_xy, robbed_xy, jars_xz, space_xz, throne_xz, day_xz, draw_xz, gone_xz, robbed_xz, anyKept_x, told_xn, layings_xn, rows_xn, greatestWell_xn, found_xn, nfound_xn, marks_xn, nmarks_xn, shifts_xn, fields_xn, two_xn, full_xn, change_xn, moves_xn, wells_xn, size_xn, levelStart_xn, below_xqk, takenA_xq, takenB_xq, given_xq, nearest_xq, ways_xq, row_xq, moves_xq, seen_xq, nseen_xq, layings_xq, nlayings_xq, starts_xq, nstarts_xq, found_xq, wells_xq, reachable_xq, aim_xq, due_xq, limit_xq, nextLimit_xq, firstMove_xq, below_xwk, row_xw, best_xw, reached_xw, nreached_xw, jars_xw, layings_xw, needs_xo, changes_xo, row_xo, lost_xo, throne_xo, ways_xo, least_xo, most_xo, order_xg, images_xg, looks_xg, twins_xg, land_xg⟩ := X
  obtain ⟨now_m, aside_m, kept_m, nextTo_m, wasNext_m, wells_m, wasWells_m, farOf_m, line_m, tape_m, taped_m, place0_m, length0_m, fault_m, number0_m, open_m, codeMany_m, waiting_m, saidMany_m, clauses_m, said_m, waitsAt_m, saidLetter_m, saidFrom_m, saidHalf_m, saidTo_m, codes_m, clauseOf_m, codeFrom_m, codeHalf_m, codeTo_m, stack_m, facts_m, manyAt_m, nextAt_m, partAt_m, newNext_m, depth_m, newLines_m, newJars_m, stagesNow_m, robbedNow_m, slotFor_m, stateAt_m, slotOf_m, firstAt_m, movesTo_m, states_m, shiftOf_m, widthOf_m, nextIn_m, headOf_m, isVain_m, bitsInAll_m, vainMost_m, vainMany_m, vainGreatest_m, lowestBest_m, laidNow_m, laidBest_m, firstNext_m, secondNext_m, firstMany_m, secondMany_m, chainOf_m, chainAt_m, canWin_m, goneFrom_m, goneTo_m, triedAt_m, leftNow_m, moveFrom_m, moveTo_m, takenFrom_m, takenTo_m, goneMany_m, lostMany_m, moveMany_m, waysNow_m, leastNow_m, mostNow_m, imageOf_m, isKept_m⟩ := M
  obtain ⟨n, nx, hL, hT, hJ, hB, hz, ht, hA, hk1, hk2, hkJ, hkB, hMN, hSZ, hb1, hb2, z1, z2, z3, hMF, z4, z5, hst, hsf, hlg, hc, hs⟩ := h
  replace hL : RL n nx wells_xh next_xh ways_xh wells_m nextTo_m := hL
  replace hT : RT bytes_xt length_xt tape_m taped_m := hT
  replace hJ : RJ jars_xc space_xc throne_xc day_xc draw_xc now_m := hJ
  replace hB : BJ jars_xc space_xc throne_xc day_xc draw_xc := hB
  replace hz : (∀ w, w < 12 → n ≤ w → jars_xc w = 0) := hz
  replace ht : (∃ t, throne_xc = nI t ∧ (t < n ∨ t = 0)) := ht
  replace hA : RA rules_xa kinds_xa worths_xa tests_xa code_xa clauses_m codes_m clauseOf_m codeFrom_m codeHalf_m codeTo_m := hA
  replace hk1 : anyKept_x = isKept_m := hk1
  replace hk2 : (isKept_m = 0 ∨ isKept_m = 1) := hk2
  replace hkJ : (isKept_m = 1 → RJ jars_xz space_xz throne_xz day_xz draw_xz kept_m) := hkJ
  replace hkB : (isKept_m = 1 → BJ jars_xz space_xz throne_xz day_xz draw_xz) := hkB
  replace hMN : MNs n nx told_xn layings_xn rows_xn := hMN
  replace hSZ : SZ2 nfound_xn nmarks_xn := hSZ
  replace hb1 : RBk below_xqk := hb1
  replace hb2 : RBk below_xwk := hb2
  replace z1 : nseen_xq ≤ 3937 := z1
  replace z2 : nlayings_xq ≤ 43983 := z2
  replace z3 : nstarts_xq = nlayings_xq := z3
  replace hMF : MFs n nx best_xw jars_xw layings_xw := hMF
  replace z4 : nreached_xw ≤ 43758 := z4
  replace z5 : reached_xw 0 = 0 := z5
  replace hst : states_m = 0 := hst
  replace hsf : (∀ p, p < 262144 → slotFor_m p = 0) := hsf
  replace hlg : (land_xg = .null ∨ land_xg = .ref 20) := hlg
  replace hs : s ≤ 1187040 + 91903 * t + 3 * nfound_xn := hs
  obtain ⟨hG, en1, en2, hx, hx2, hw⟩ := id hL
  subst en1; subst en2; subst hst; subst z3
  have n12 := hG.1
  obtain ⟨r, l', e', p', f', m', h1, h2, hT2⟩ := paper_ok (bytes := bytes_xt) (len := length_xt) (en := end_xt) (at_ := at_xt) (fa := fault_xt) (next := next_xh) (a1 := (xs (i + 1 : Int32).toNatClampNeg)) (nextTo := nextTo_m) (tape := tape_m) (taped := taped_m) hG hx2 hx hT
  refine ⟨_, _, _, _, Exists.intro (r, l', e', p', f') (Exists.intro (r, m') ⟨h1, h2, rfl, rfl, rfl, rfl, rfl⟩), Nat.zero_le _, Nat.zero_le _, ?_⟩
  exact Exists.intro n (Exists.intro nx ⟨⟨hG, rfl, rfl, hx, hx2, hw⟩, hT2, hJ, hB, hz, ht, hA, hk1, hk2, hkJ, hkB, hMN, hSZ, hb1, hb2, z1, z2, rfl, hMF, z4, z5, rfl, hsf, hlg, cell_step hc (Nat.zero_le _), slot_step hs (Nat.zero_le _)⟩)
set_option maxHeartbeats 4000000 in
set_option maxRecDepth 20000 in
theorem st_16 {t c s : Nat} {X : XS} {M : MS} (h : Rel t X M c s) (xs : Nat → Int32) (i : Int32) : ∃ X2 M2 kc ks, St_16 xs i X M X2 M2 kc ks ∧ kc ≤ 100 ∧ ks ≤ 200000 ∧ Rel (t + 1) X2 M2 (c + kc) (s + ks) := by
  obtain ⟨bytes_xt, length_xt, end_xt, at_xt, fault_xt, wells_xr0, next_xr0, ways_xr0, wells_xr1, next_xr1, ways_xr1, wells_xr2, next_xr2, ways_xr2, wells_xrp, next_xrp, ways_xrp, wells_xrx, next_xrx, ways_xrx, wells_xh, next_xh, ways_xh, wells_xf, next_xf, ways_xf, wells_xs, next_xs, ways_xs, wells_xx, next_xx, ways_xx, rules_xa, kinds_xa, worths_xa, tests_xa, code_xa, size_xa, given_xa, stack_xa, rules_xb, kinds_xb, worths_xb, tests_xb, code_xb, size_xb, given_xb, stack_xb, jars_xc, space_xc, throne_xc, day_xc, draw_xc, gone_xc, robbed_xc, jars_xy, space_xy, throne_xy, day_xy, draw_xy, gone_xy, robbed_xy, jars_xz, space_xz, throne_xz, day_xz, draw_xz, gone_xz, robbed_xz, anyKept_x, told_xn, layings_xn, rows_xn, greatestWell_xn, found_xn, nfound_xn, marks_xn, nmarks_xn, shifts_xn, fields_xn, two_xn, full_xn, change_xn, moves_xn, wells_xn, size_xn, levelStart_xn, below_xqk, takenA_xq, takenB_xq, given_xq, nearest_xq, ways_xq, row_xq, moves_xq, seen_xq, nseen_xq, layings_xq, nlayings_xq, starts_xq, nstarts_xq, found_xq, wells_xq, reachable_xq, aim_xq, due_xq, limit_xq, nextLimit_xq, firstMove_xq, below_xwk, row_xw, best_xw, reached_xw, nreached_xw, jars_xw, layings_xw, needs_xo, changes_xo, row_xo, lost_xo, throne_xo, ways_xo, least_xo, most_xo, order_xg, images_xg, looks_xg, twins_xg, land_xg⟩ := X
  obtain ⟨now_m, aside_m, kept_m, nextTo_m, wasNext_m, wells_m, wasWells_m, farOf_m, line_m, tape_m, taped_m, place0_m, length0_m, fault_m, number0_m, open_m, codeMany_m, waiting_m, saidMany_m, clauses_m, said_m, waitsAt_m, saidLetter_m, saidFrom_m, saidHalf_m, saidTo_m, codes_m, clauseOf_m, codeFrom_m, codeHalf_m, codeTo_m, stack_m, facts_m, manyAt_m, nextAt_m, partAt_m, newNext_m, depth_m, newLines_m, newJars_m, stagesNow_m, robbedNow_m, slotFor_m, stateAt_m, slotOf_m, firstAt_m, movesTo_m, states_m, shiftOf_m, widthOf_m, nextIn_m, headOf_m, isVain_m, bitsInAll_m, vainMost_m, vainMany_m, vainGreatest_m, lowestBest_m, laidNow_m, laidBest_m, firstNext_m, secondNext_m, firstMany_m, secondMany_m, chainOf_m, chainAt_m, canWin_m, goneFrom_m, goneTo_m, triedAt_m, leftNow_m, moveFrom_m, moveTo_m, takenFrom_m, takenTo_m, goneMany_m, lostMany_m, moveMany_m, waysNow_m, leastNow_m, mostNow_m, imageOf_m, isKept_m⟩ := M
  obtain ⟨n, nx, hL, hT, hJ, hB, hz, ht, hA, hk1, hk2, hkJ, hkB, hMN, hSZ, hb1, hb2, z1, z2, z3, hMF, z4, z5, hst, hsf, hlg, hc, hs⟩ := h
  replace hL : RL n nx wells_xh next_xh ways_xh wells_m nextTo_m := hL
  replace hT : RT bytes_xt length_xt tape_m taped_m := hT
  replace hJ : RJ jars_xc space_xc throne_xc day_xc draw_xc now_m := hJ
  replace hB : BJ jars_xc space_xc throne_xc day_xc draw_xc := hB
  replace hz : (∀ w, w < 12 → n ≤ w → jars_xc w = 0) := hz
  replace ht : (∃ t, throne_xc = nI t ∧ (t < n ∨ t = 0)) := ht
  replace hA : RA rules_xa kinds_xa worths_xa tests_xa code_xa clauses_m codes_m clauseOf_m codeFrom_m codeHalf_m codeTo_m := hA
  replace hk1 : anyKept_x = isKept_m := hk1
  replace hk2 : (isKept_m = 0 ∨ isKept_m = 1) := hk2
  replace hkJ : (isKept_m = 1 → RJ jars_xz space_xz throne_xz day_xz draw_xz kept_m) := hkJ
  replace hkB : (isKept_m = 1 → BJ jars_xz space_xz throne_xz day_xz draw_xz) := hkB
  replace hMN : MNs n nx told_xn layings_xn rows_xn := hMN
  replace hSZ : SZ2 nfound_xn nmarks_xn := hSZ
  replace hb1 : RBk below_xqk := hb1
  replace hb2 : RBk below_xwk := hb2
  replace z1 : nseen_xq ≤ 3937 := z1
  replace z2 : nlayings_xq ≤ 43983 := z2
  replace z3 : nstarts_xq = nlayings_xq := z3
  replace hMF : MFs n nx best_xw jars_xw layings_xw := hMF
  replace z4 : nreached_xw ≤ 43758 := z4
  replace z5 : reached_xw 0 = 0 := z5
  replace hst : states_m = 0 := hst
  replace hsf : (∀ p, p < 262144 → slotFor_m p = 0) := hsf
  replace hlg : (land_xg = .null ∨ land_xg = .ref 20) := hlg
  replace hs : s ≤ 1187040 + 91903 * t + 3 * nfound_xn := hs
  obtain ⟨hG, en1, en2, hx, hx2, hw⟩ := id hL
  subst en1; subst en2; subst hst; subst z3
  have n12 := hG.1
  obtain ⟨r, l', e', p', f', m', h1, h2, hT2⟩ := joined_ok (bytes := bytes_xt) (len := length_xt) (en := end_xt) (at_ := at_xt) (fa := fault_xt) (next := next_xh) (a1 := (xs (i + 1 : Int32).toNatClampNeg)) (a2 := (xs (i + 2 : Int32).toNatClampNeg)) (nextTo := nextTo_m) (tape := tape_m) (taped := taped_m) hG hx2 hx hT
  refine ⟨_, _, _, _, Exists.intro (r, l', e', p', f') (Exists.intro (r, m') ⟨h1, h2, rfl, rfl, rfl, rfl, rfl⟩), Nat.zero_le _, Nat.zero_le _, ?_⟩
  exact Exists.intro n (Exists.intro nx ⟨⟨hG, rfl, rfl, hx, hx2, hw⟩, hT2, hJ, hB, hz, ht, hA, hk1, hk2, hkJ, hkB, hMN, hSZ, hb1, hb2, z1, z2, rfl, hMF, z4, z5, rfl, hsf, hlg, cell_step hc (Nat.zero_le _), slot_step hs (Nat.zero_le _)⟩)
set_option maxHeartbeats 4000000 in
set_option maxRecDepth 20000 in
theorem st_17 {t c s : Nat} {X : XS} {M : MS} (h : Rel t X M c s) (xs : Nat → Int32) (i : Int32) : ∃ X2 M2 kc ks, St_17 xs i X M X2 M2 kc ks ∧ kc ≤ 100 ∧ ks ≤ 200000 ∧ Rel (t + 1) X2 M2 (c + kc) (s + ks) := by
  obtain ⟨bytes_xt, length_xt, end_xt, at_xt, fault_xt, wells_xr0, next_xr0, ways_xr0, wells_xr1, next_xr1, ways_xr1, wells_xr2, next_xr2, ways_xr2, wells_xrp, next_xrp, ways_xrp, wells_xrx, next_xrx, ways_xrx, wells_xh, next_xh, ways_xh, wells_xf, next_xf, ways_xf, wells_xs, next_xs, ways_xs, wells_xx, next_xx, ways_xx, rules_xa, kinds_xa, worths_xa, tests_xa, code_xa, size_xa, given_xa, stack_xa, rules_xb, kinds_xb, worths_xb, tests_xb, code_xb, size_xb, given_xb, stack_xb, jars_xc, space_xc, throne_xc, day_xc, draw_xc, gone_xc, robbed_xc, jars_xy, space_xy, throne_xy, day_xy, draw_xy, gone_xy, robbed_xy, jars_xz, space_xz, throne_xz, day_xz, draw_xz, gone_xz, robbed_xz, anyKept_x, told_xn, layings_xn, rows_xn, greatestWell_xn, found_xn, nfound_xn, marks_xn, nmarks_xn, shifts_xn, fields_xn, two_xn, full_xn, change_xn, moves_xn, wells_xn, size_xn, levelStart_xn, below_xqk, takenA_xq, takenB_xq, given_xq, nearest_xq, ways_xq, row_xq, moves_xq, seen_xq, nseen_xq, layings_xq, nlayings_xq, starts_xq, nstarts_xq, found_xq, wells_xq, reachable_xq, aim_xq, due_xq, limit_xq, nextLimit_xq, firstMove_xq, below_xwk, row_xw, best_xw, reached_xw, nreached_xw, jars_xw, layings_xw, needs_xo, changes_xo, row_xo, lost_xo, throne_xo, ways_xo, least_xo, most_xo, order_xg, images_xg, looks_xg, twins_xg, land_xg⟩ := X
  obtain ⟨now_m, aside_m, kept_m, nextTo_m, wasNext_m, wells_m, wasWells_m, farOf_m, line_m, tape_m, taped_m, place0_m, length0_m, fault_m, number0_m, open_m, codeMany_m, waiting_m, saidMany_m, clauses_m, said_m, waitsAt_m, saidLetter_m, saidFrom_m, saidHalf_m, saidTo_m, codes_m, clauseOf_m, codeFrom_m, codeHalf_m, codeTo_m, stack_m, facts_m, manyAt_m, nextAt_m, partAt_m, newNext_m, depth_m, newLines_m, newJars_m, stagesNow_m, robbedNow_m, slotFor_m, stateAt_m, slotOf_m, firstAt_m, movesTo_m, states_m, shiftOf_m, widthOf_m, nextIn_m, headOf_m, isVain_m, bitsInAll_m, vainMost_m, vainMany_m, vainGreatest_m, lowestBest_m, laidNow_m, laidBest_m, firstNext_m, secondNext_m, firstMany_m, secondMany_m, chainOf_m, chainAt_m, canWin_m, goneFrom_m, goneTo_m, triedAt_m, leftNow_m, moveFrom_m, moveTo_m, takenFrom_m, takenTo_m, goneMany_m, lostMany_m, moveMany_m, waysNow_m, leastNow_m, mostNow_m, imageOf_m, isKept_m⟩ := M
  obtain ⟨n, nx, hL, hT, hJ, hB, hz, ht, hA, hk1, hk2, hkJ, hkB, hMN, hSZ, hb1, hb2, z1, z2, z3, hMF, z4, z5, hst, hsf, hlg, hc, hs⟩ := h
  replace hL : RL n nx wells_xh next_xh ways_xh wells_m nextTo_m := hL
  replace hT : RT bytes_xt length_xt tape_m taped_m := hT
  replace hJ : RJ jars_xc space_xc throne_xc day_xc draw_xc now_m := hJ
  replace hB : BJ jars_xc space_xc throne_xc day_xc draw_xc := hB
  replace hz : (∀ w, w < 12 → n ≤ w → jars_xc w = 0) := hz
  replace ht : (∃ t, throne_xc = nI t ∧ (t < n ∨ t = 0)) := ht
  replace hA : RA rules_xa kinds_xa worths_xa tests_xa code_xa clauses_m codes_m clauseOf_m codeFrom_m codeHalf_m codeTo_m := hA
  replace hk1 : anyKept_x = isKept_m := hk1
  replace hk2 : (isKept_m = 0 ∨ isKept_m = 1) := hk2
  replace hkJ : (isKept_m = 1 → RJ jars_xz space_xz throne_xz day_xz draw_xz kept_m) := hkJ
  replace hkB : (isKept_m = 1 → BJ jars_xz space_xz throne_xz day_xz draw_xz) := hkB
  replace hMN : MNs n nx told_xn layings_xn rows_xn := hMN
  replace hSZ : SZ2 nfound_xn nmarks_xn := hSZ
  replace hb1 : RBk below_xqk := hb1
  replace hb2 : RBk below_xwk := hb2
  replace z1 : nseen_xq ≤ 3937 := z1
  replace z2 : nlayings_xq ≤ 43983 := z2
  replace z3 : nstarts_xq = nlayings_xq := z3
  replace hMF : MFs n nx best_xw jars_xw layings_xw := hMF
  replace z4 : nreached_xw ≤ 43758 := z4
  replace z5 : reached_xw 0 = 0 := z5
  replace hst : states_m = 0 := hst
  replace hsf : (∀ p, p < 262144 → slotFor_m p = 0) := hsf
  replace hlg : (land_xg = .null ∨ land_xg = .ref 20) := hlg
  replace hs : s ≤ 1187040 + 91903 * t + 3 * nfound_xn := hs
  obtain ⟨hG, en1, en2, hx, hx2, hw⟩ := id hL
  subst en1; subst en2; subst hst; subst z3
  have n12 := hG.1
  obtain ⟨r, len', yn, nt', tp', ⟨c0, c1, c2, c3, c4, c5, c6, c7, c8, c9, c10, c11, c12, c13, c14, c15, c16, c17, c18, c19, c20, c21, h1⟩, hS, ⟨wa, wW, fa, li, ym, h2⟩, hT2, hx3⟩ := product_ok (bytes := bytes_xt) (len := length_xt) (en := end_xt) (at_ := at_xt) (fa := fault_xt) (w0 := wells_xr0) (n0 := next_xr0) (w1 := wells_xr1) (n1 := next_xr1) (w2 := wells_xr2) (n2 := next_xr2) (wp := wells_xrp) (np := next_xrp) (wx := wells_xrx) (xx := next_xrx) (wf := wells_xf) (nff := next_xf) (yf := ways_xf) (ws := wells_xs) (ns := next_xs) (ys := ways_xs) (wq := wells_xx) (nq := next_xx) (yq := ways_xx) (fo := found_xn) (nf := nfound_xn) (ma := marks_xn) (nm := nmarks_xn) (sh0 := shifts_xn) (fi0 := fields_xn) (two := two_xn) (full := full_xn) (change := change_xn) (mv := moves_xn) (wn := wells_xn) (sz := size_xn) (ls := levelStart_xn) (a1 := (xs (i + 1 : Int32).toNatClampNeg)) (nextTo := nextTo_m) (was := wasNext_m) (wasW := wasWells_m) (far := farOf_m) (line := line_m) (tape := tape_m) (taped := taped_m) (pl := place0_m) (l0 := length0_m) (fm := fault_m) (num := number0_m) (cm := codeMany_m) (sm := saidMany_m) (many := manyAt_m) (nextAt := nextAt_m) (part := partAt_m) (new := newNext_m) (dep := depth_m) (fN := firstNext_m) (sN := secondNext_m) (fM := firstMany_m) (sM := secondMany_m) (μ := (shiftOf_m, widthOf_m, nextIn_m, headOf_m, isVain_m, bitsInAll_m, vainMost_m, vainMany_m, vainGreatest_m, lowestBest_m)) hG hx2 hT (bc := 100) (bs := 200000) (by omega) (by omega) hSZ
  refine ⟨_, _, _, _, Exists.intro (r, len', c0, c1, c2, c3, c4, c5, c6, c7, c8, c9, c10, c11, c12, c13, c14, c15, c16, c17, c18, c19, c20, c21, yn) (Exists.intro (r, nt', wa, nI n, wW, fa, li, tp', ym) ⟨h1, h2, rfl, rfl, rfl, rfl, rfl⟩), Nat.le_trans hS.2.2.1 (by omega), num_le (hS.1) (hS.2.2.2), ?_⟩
  exact Exists.intro n (Exists.intro nx ⟨⟨hG, rfl, rfl, hx, hx3, hw⟩, hT2, hJ, hB, hz, ht, hA, hk1, hk2, hkJ, hkB, hMN, hS.1, hb1, hb2, z1, z2, rfl, hMF, z4, z5, rfl, hsf, hlg, cell_step hc (Nat.le_trans hS.2.2.1 (by omega)), slot_num hs (hS.2.2.2)⟩)
set_option maxHeartbeats 4000000 in
set_option maxRecDepth 20000 in
theorem st_18 {t c s : Nat} {X : XS} {M : MS} (h : Rel t X M c s) (xs : Nat → Int32) (i : Int32) : ∃ X2 M2 kc ks, St_18 xs i X M X2 M2 kc ks ∧ kc ≤ 100 ∧ ks ≤ 200000 ∧ Rel (t + 1) X2 M2 (c + kc) (s + ks) := by
  obtain ⟨bytes_xt, length_xt, end_xt, at_xt, fault_xt, wells_xr0, next_xr0, ways_xr0, wells_xr1, next_xr1, ways_xr1, wells_xr2, next_xr2, ways_xr2, wells_xrp, next_xrp, ways_xrp, wells_xrx, next_xrx, ways_xrx, wells_xh, next_xh, ways_xh, wells_xf, next_xf, ways_xf, wells_xs, next_xs, ways_xs, wells_xx, next_xx, ways_xx, rules_xa, kinds_xa, worths_xa, tests_xa, code_xa, size_xa, given_xa, stack_xa, rules_xb, kinds_xb, worths_xb, tests_xb, code_xb, size_xb, given_xb, stack_xb, jars_xc, space_xc, throne_xc, day_xc, draw_xc, gone_xc, robbed_xc, jars_xy, space_xy, throne_xy, day_xy, draw_xy, gone_xy, robbed_xy, jars_xz, space_xz, throne_xz, day_xz, draw_xz, gone_xz, robbed_xz, anyKept_x, told_xn, layings_xn, rows_xn, greatestWell_xn, found_xn, nfound_xn, marks_xn, nmarks_xn, shifts_xn, fields_xn, two_xn, full_xn, change_xn, moves_xn, wells_xn, size_xn, levelStart_xn, below_xqk, takenA_xq, takenB_xq, given_xq, nearest_xq, ways_xq, row_xq, moves_xq, seen_xq, nseen_xq, layings_xq, nlayings_xq, starts_xq, nstarts_xq, found_xq, wells_xq, reachable_xq, aim_xq, due_xq, limit_xq, nextLimit_xq, firstMove_xq, below_xwk, row_xw, best_xw, reached_xw, nreached_xw, jars_xw, layings_xw, needs_xo, changes_xo, row_xo, lost_xo, throne_xo, ways_xo, least_xo, most_xo, order_xg, images_xg, looks_xg, twins_xg, land_xg⟩ := X
  obtain ⟨now_m, aside_m, kept_m, nextTo_m, wasNext_m, wells_m, wasWells_m, farOf_m, line_m, tape_m, taped_m, place0_m, length0_m, fault_m, number0_m, open_m, codeMany_m, waiting_m, saidMany_m, clauses_m, said_m, waitsAt_m, saidLetter_m, saidFrom_m, saidHalf_m, saidTo_m, codes_m, clauseOf_m, codeFrom_m, codeHalf_m, codeTo_m, stack_m, facts_m, manyAt_m, nextAt_m, partAt_m, newNext_m, depth_m, newLines_m, newJars_m, stagesNow_m, robbedNow_m, slotFor_m, stateAt_m, slotOf_m, firstAt_m, movesTo_m, states_m, shiftOf_m, widthOf_m, nextIn_m, headOf_m, isVain_m, bitsInAll_m, vainMost_m, vainMany_m, vainGreatest_m, lowestBest_m, laidNow_m, laidBest_m, firstNext_m, secondNext_m, firstMany_m, secondMany_m, chainOf_m, chainAt_m, canWin_m, goneFrom_m, goneTo_m, triedAt_m, leftNow_m, moveFrom_m, moveTo_m, takenFrom_m, takenTo_m, goneMany_m, lostMany_m, moveMany_m, waysNow_m, leastNow_m, mostNow_m, imageOf_m, isKept_m⟩ := M
  obtain ⟨n, nx, hL, hT, hJ, hB, hz, ht, hA, hk1, hk2, hkJ, hkB, hMN, hSZ, hb1, hb2, z1, z2, z3, hMF, z4, z5, hst, hsf, hlg, hc, hs⟩ := h
  replace hL : RL n nx wells_xh next_xh ways_xh wells_m nextTo_m := hL
  replace hT : RT bytes_xt length_xt tape_m taped_m := hT
  replace hJ : RJ jars_xc space_xc throne_xc day_xc draw_xc now_m := hJ
  replace hB : BJ jars_xc space_xc throne_xc day_xc draw_xc := hB
  replace hz : (∀ w, w < 12 → n ≤ w → jars_xc w = 0) := hz
  replace ht : (∃ t, throne_xc = nI t ∧ (t < n ∨ t = 0)) := ht
  replace hA : RA rules_xa kinds_xa worths_xa tests_xa code_xa clauses_m codes_m clauseOf_m codeFrom_m codeHalf_m codeTo_m := hA
  replace hk1 : anyKept_x = isKept_m := hk1
  replace hk2 : (isKept_m = 0 ∨ isKept_m = 1) := hk2
  replace hkJ : (isKept_m = 1 → RJ jars_xz space_xz throne_xz day_xz draw_xz kept_m) := hkJ
  replace hkB : (isKept_m = 1 → BJ jars_xz space_xz throne_xz day_xz draw_xz) := hkB
  replace hMN : MNs n nx told_xn layings_xn rows_xn := hMN
  replace hSZ : SZ2 nfound_xn nmarks_xn := hSZ
  replace hb1 : RBk below_xqk := hb1
  replace hb2 : RBk below_xwk := hb2
  replace z1 : nseen_xq ≤ 3937 := z1
  replace z2 : nlayings_xq ≤ 43983 := z2
  replace z3 : nstarts_xq = nlayings_xq := z3
  replace hMF : MFs n nx best_xw jars_xw layings_xw := hMF
  replace z4 : nreached_xw ≤ 43758 := z4
  replace z5 : reached_xw 0 = 0 := z5
  replace hst : states_m = 0 := hst
  replace hsf : (∀ p, p < 262144 → slotFor_m p = 0) := hsf
  replace hlg : (land_xg = .null ∨ land_xg = .ref 20) := hlg
  replace hs : s ≤ 1187040 + 91903 * t + 3 * nfound_xn := hs
  obtain ⟨hG, en1, en2, hx, hx2, hw⟩ := id hL
  subst en1; subst en2; subst hst; subst z3
  have n12 := hG.1
  obtain ⟨r, sf', sa', so', co', ca', cw', h1, h2, hsf2⟩ := robbers_ok (next := next_xh) (jars := jars_xc) (a1 := (xs (i + 1 : Int32).toNatClampNeg)) (now := now_m) (nextTo := nextTo_m) (sf := slotFor_m) (sa := stateAt_m) (so := slotOf_m) (co := chainOf_m) (ca := chainAt_m) (cw := canWin_m) hG hx2 hx hJ hB hz hsf
  refine ⟨_, _, _, _, Exists.intro r (Exists.intro (r, sf', sa', so', 0, co', ca', cw') ⟨h1, h2, rfl, rfl, rfl, rfl, rfl⟩), Nat.zero_le _, Nat.zero_le _, ?_⟩
  exact Exists.intro n (Exists.intro nx ⟨⟨hG, rfl, rfl, hx, hx2, hw⟩, hT, hJ, hB, hz, ht, hA, hk1, hk2, hkJ, hkB, hMN, hSZ, hb1, hb2, z1, z2, rfl, hMF, z4, z5, rfl, hsf2, hlg, cell_step hc (Nat.zero_le _), slot_step hs (Nat.zero_le _)⟩)
set_option maxHeartbeats 4000000 in
set_option maxRecDepth 20000 in
theorem st_19 {t c s : Nat} {X : XS} {M : MS} (h : Rel t X M c s) (xs : Nat → Int32) (i : Int32) : ∃ X2 M2 kc ks, St_19 xs i X M X2 M2 kc ks ∧ kc ≤ 100 ∧ ks ≤ 200000 ∧ Rel (t + 1) X2 M2 (c + kc) (s + ks) := by
  obtain ⟨bytes_xt, length_xt, end_xt, at_xt, fault_xt, wells_xr0, next_xr0, ways_xr0, wells_xr1, next_xr1, ways_xr1, wells_xr2, next_xr2, ways_xr2, wells_xrp, next_xrp, ways_xrp, wells_xrx, next_xrx, ways_xrx, wells_xh, next_xh, ways_xh, wells_xf, next_xf, ways_xf, wells_xs, next_xs, ways_xs, wells_xx, next_xx, ways_xx, rules_xa, kinds_xa, worths_xa, tests_xa, code_xa, size_xa, given_xa, stack_xa, rules_xb, kinds_xb, worths_xb, tests_xb, code_xb, size_xb, given_xb, stack_xb, jars_xc, space_xc, throne_xc, day_xc, draw_xc, gone_xc, robbed_xc, jars_xy, space_xy, throne_xy, day_xy, draw_xy, gone_xy, robbed_xy, jars_xz, space_xz, throne_xz, day_xz, draw_xz, gone_xz, robbed_xz, anyKept_x, told_xn, layings_xn, rows_xn, greatestWell_xn, found_xn, nfound_xn, marks_xn, nmarks_xn, shifts_xn, fields_xn, two_xn, full_xn, change_xn, moves_xn, wells_xn, size_xn, levelStart_xn, below_xqk, takenA_xq, takenB_xq, given_xq, nearest_xq, ways_xq, row_xq, moves_xq, seen_xq, nseen_xq, layings_xq, nlayings_xq, starts_xq, nstarts_xq, found_xq, wells_xq, reachable_xq, aim_xq, due_xq, limit_xq, nextLimit_xq, firstMove_xq, below_xwk, row_xw, best_xw, reached_xw, nreached_xw, jars_xw, layings_xw, needs_xo, changes_xo, row_xo, lost_xo, throne_xo, ways_xo, least_xo, most_xo, order_xg, images_xg, looks_xg, twins_xg, land_xg⟩ := X
  obtain ⟨now_m, aside_m, kept_m, nextTo_m, wasNext_m, wells_m, wasWells_m, farOf_m, line_m, tape_m, taped_m, place0_m, length0_m, fault_m, number0_m, open_m, codeMany_m, waiting_m, saidMany_m, clauses_m, said_m, waitsAt_m, saidLetter_m, saidFrom_m, saidHalf_m, saidTo_m, codes_m, clauseOf_m, codeFrom_m, codeHalf_m, codeTo_m, stack_m, facts_m, manyAt_m, nextAt_m, partAt_m, newNext_m, depth_m, newLines_m, newJars_m, stagesNow_m, robbedNow_m, slotFor_m, stateAt_m, slotOf_m, firstAt_m, movesTo_m, states_m, shiftOf_m, widthOf_m, nextIn_m, headOf_m, isVain_m, bitsInAll_m, vainMost_m, vainMany_m, vainGreatest_m, lowestBest_m, laidNow_m, laidBest_m, firstNext_m, secondNext_m, firstMany_m, secondMany_m, chainOf_m, chainAt_m, canWin_m, goneFrom_m, goneTo_m, triedAt_m, leftNow_m, moveFrom_m, moveTo_m, takenFrom_m, takenTo_m, goneMany_m, lostMany_m, moveMany_m, waysNow_m, leastNow_m, mostNow_m, imageOf_m, isKept_m⟩ := M
  obtain ⟨n, nx, hL, hT, hJ, hB, hz, ht, hA, hk1, hk2, hkJ, hkB, hMN, hSZ, hb1, hb2, z1, z2, z3, hMF, z4, z5, hst, hsf, hlg, hc, hs⟩ := h
  replace hL : RL n nx wells_xh next_xh ways_xh wells_m nextTo_m := hL
  replace hT : RT bytes_xt length_xt tape_m taped_m := hT
  replace hJ : RJ jars_xc space_xc throne_xc day_xc draw_xc now_m := hJ
  replace hB : BJ jars_xc space_xc throne_xc day_xc draw_xc := hB
  replace hz : (∀ w, w < 12 → n ≤ w → jars_xc w = 0) := hz
  replace ht : (∃ t, throne_xc = nI t ∧ (t < n ∨ t = 0)) := ht
  replace hA : RA rules_xa kinds_xa worths_xa tests_xa code_xa clauses_m codes_m clauseOf_m codeFrom_m codeHalf_m codeTo_m := hA
  replace hk1 : anyKept_x = isKept_m := hk1
  replace hk2 : (isKept_m = 0 ∨ isKept_m = 1) := hk2
  replace hkJ : (isKept_m = 1 → RJ jars_xz space_xz throne_xz day_xz draw_xz kept_m) := hkJ
  replace hkB : (isKept_m = 1 → BJ jars_xz space_xz throne_xz day_xz draw_xz) := hkB
  replace hMN : MNs n nx told_xn layings_xn rows_xn := hMN
  replace hSZ : SZ2 nfound_xn nmarks_xn := hSZ
  replace hb1 : RBk below_xqk := hb1
  replace hb2 : RBk below_xwk := hb2
  replace z1 : nseen_xq ≤ 3937 := z1
  replace z2 : nlayings_xq ≤ 43983 := z2
  replace z3 : nstarts_xq = nlayings_xq := z3
  replace hMF : MFs n nx best_xw jars_xw layings_xw := hMF
  replace z4 : nreached_xw ≤ 43758 := z4
  replace z5 : reached_xw 0 = 0 := z5
  replace hst : states_m = 0 := hst
  replace hsf : (∀ p, p < 262144 → slotFor_m p = 0) := hsf
  replace hlg : (land_xg = .null ∨ land_xg = .ref 20) := hlg
  replace hs : s ≤ 1187040 + 91903 * t + 3 * nfound_xn := hs
  obtain ⟨hG, en1, en2, hx, hx2, hw⟩ := id hL
  subst en1; subst en2; subst hst; subst z3
  have n12 := hG.1
  obtain ⟨r, l', y, m', z, h1, h2, hT2⟩ := ledger_ok (bytes := bytes_xt) (len := length_xt) (en := end_xt) (at_ := at_xt) (fa := fault_xt) (next := next_xh) (jars := jars_xc) (throne := throne_xc) (needs := needs_xo) (changes := changes_xo) (row := row_xo) (lost := lost_xo) (thr0 := throne_xo) (ways := ways_xo) (least := least_xo) (most := most_xo) (a1 := (xs (i + 1 : Int32).toNatClampNeg)) (a2 := (xs (i + 2 : Int32).toNatClampNeg)) (now := now_m) (nextTo := nextTo_m) (tape := tape_m) (taped := taped_m) (pl := place0_m) (l0 := length0_m) (fm := fault_m) (cm := codeMany_m) (sm_ := saidMany_m) (gF := goneFrom_m) (gT := goneTo_m) (tried := triedAt_m) (left := leftNow_m) (mF := moveFrom_m) (mT := moveTo_m) (tF := takenFrom_m) (tT := takenTo_m) (gm := goneMany_m) (lm := lostMany_m) (mm := moveMany_m) (wn := waysNow_m) (le := leastNow_m) (mo := mostNow_m) hG hx hx2 hT hJ hB
  refine ⟨_, _, _, _, Exists.intro (r, l', y) (Exists.intro (r, m', z) ⟨h1, h2, rfl, rfl, rfl, rfl, rfl⟩), Nat.zero_le _, Nat.zero_le _, ?_⟩
  exact Exists.intro n (Exists.intro nx ⟨⟨hG, rfl, rfl, hx, hx2, hw⟩, hT2, hJ, hB, hz, ht, hA, hk1, hk2, hkJ, hkB, hMN, hSZ, hb1, hb2, z1, z2, rfl, hMF, z4, z5, rfl, hsf, hlg, cell_step hc (Nat.zero_le _), slot_step hs (Nat.zero_le _)⟩)
set_option maxHeartbeats 4000000 in
set_option maxRecDepth 20000 in
theorem st_21 {t c s : Nat} {X : XS} {M : MS} (h : Rel t X M c s) (xs : Nat → Int32) (i : Int32) : ∃ X2 M2 kc ks, St_21 xs i X M X2 M2 kc ks ∧ kc ≤ 100 ∧ ks ≤ 200000 ∧ Rel (t + 1) X2 M2 (c + kc) (s + ks) := by
  obtain ⟨bytes_xt, length_xt, end_xt, at_xt, fault_xt, wells_xr0, next_xr0, ways_xr0, wells_xr1, next_xr1, ways_xr1, wells_xr2, next_xr2, ways_xr2, wells_xrp, next_xrp, ways_xrp, wells_xrx, next_xrx, ways_xrx, wells_xh, next_xh, ways_xh, wells_xf, next_xf, ways_xf, wells_xs, next_xs, ways_xs, wells_xx, next_xx, ways_xx, rules_xa, kinds_xa, worths_xa, tests_xa, code_xa, size_xa, given_xa, stack_xa, rules_xb, kinds_xb, worths_xb, tests_xb, code_xb, size_xb, given_xb, stack_xb, jars_xc, space_xc, throne_xc, day_xc, draw_xc, gone_xc, robbed_xc, jars_xy, space_xy, throne_xy, day_xy, draw_xy, gone_xy, robbed_xy, jars_xz, space_xz, throne_xz, day_xz, draw_xz, gone_xz, robbed_xz, anyKept_x, told_xn, layings_xn, rows_xn, greatestWell_xn, found_xn, nfound_xn, marks_xn, nmarks_xn, shifts_xn, fields_xn, two_xn, full_xn, change_xn, moves_xn, wells_xn, size_xn, levelStart_xn, below_xqk, takenA_xq, takenB_xq, given_xq, nearest_xq, ways_xq, row_xq, moves_xq, seen_xq, nseen_xq, layings_xq, nlayings_xq, starts_xq, nstarts_xq, found_xq, wells_xq, reachable_xq, aim_xq, due_xq, limit_xq, nextLimit_xq, firstMove_xq, below_xwk, row_xw, best_xw, reached_xw, nreached_xw, jars_xw, layings_xw, needs_xo, changes_xo, row_xo, lost_xo, throne_xo, ways_xo, least_xo, most_xo, order_xg, images_xg, looks_xg, twins_xg, land_xg⟩ := X
  obtain ⟨now_m, aside_m, kept_m, nextTo_m, wasNext_m, wells_m, wasWells_m, farOf_m, line_m, tape_m, taped_m, place0_m, length0_m, fault_m, number0_m, open_m, codeMany_m, waiting_m, saidMany_m, clauses_m, said_m, waitsAt_m, saidLetter_m, saidFrom_m, saidHalf_m, saidTo_m, codes_m, clauseOf_m, codeFrom_m, codeHalf_m, codeTo_m, stack_m, facts_m, manyAt_m, nextAt_m, partAt_m, newNext_m, depth_m, newLines_m, newJars_m, stagesNow_m, robbedNow_m, slotFor_m, stateAt_m, slotOf_m, firstAt_m, movesTo_m, states_m, shiftOf_m, widthOf_m, nextIn_m, headOf_m, isVain_m, bitsInAll_m, vainMost_m, vainMany_m, vainGreatest_m, lowestBest_m, laidNow_m, laidBest_m, firstNext_m, secondNext_m, firstMany_m, secondMany_m, chainOf_m, chainAt_m, canWin_m, goneFrom_m, goneTo_m, triedAt_m, leftNow_m, moveFrom_m, moveTo_m, takenFrom_m, takenTo_m, goneMany_m, lostMany_m, moveMany_m, waysNow_m, leastNow_m, mostNow_m, imageOf_m, isKept_m⟩ := M
  obtain ⟨n, nx, hL, hT, hJ, hB, hz, ht, hA, hk1, hk2, hkJ, hkB, hMN, hSZ, hb1, hb2, z1, z2, z3, hMF, z4, z5, hst, hsf, hlg, hc, hs⟩ := h
  replace hL : RL n nx wells_xh next_xh ways_xh wells_m nextTo_m := hL
  replace hT : RT bytes_xt length_xt tape_m taped_m := hT
  replace hJ : RJ jars_xc space_xc throne_xc day_xc draw_xc now_m := hJ
  replace hB : BJ jars_xc space_xc throne_xc day_xc draw_xc := hB
  replace hz : (∀ w, w < 12 → n ≤ w → jars_xc w = 0) := hz
  replace ht : (∃ t, throne_xc = nI t ∧ (t < n ∨ t = 0)) := ht
  replace hA : RA rules_xa kinds_xa worths_xa tests_xa code_xa clauses_m codes_m clauseOf_m codeFrom_m codeHalf_m codeTo_m := hA
  replace hk1 : anyKept_x = isKept_m := hk1
  replace hk2 : (isKept_m = 0 ∨ isKept_m = 1) := hk2
  replace hkJ : (isKept_m = 1 → RJ jars_xz space_xz throne_xz day_xz draw_xz kept_m) := hkJ
  replace hkB : (isKept_m = 1 → BJ jars_xz space_xz throne_xz day_xz draw_xz) := hkB
  replace hMN : MNs n nx told_xn layings_xn rows_xn := hMN
  replace hSZ : SZ2 nfound_xn nmarks_xn := hSZ
  replace hb1 : RBk below_xqk := hb1
  replace hb2 : RBk below_xwk := hb2
  replace z1 : nseen_xq ≤ 3937 := z1
  replace z2 : nlayings_xq ≤ 43983 := z2
  replace z3 : nstarts_xq = nlayings_xq := z3
  replace hMF : MFs n nx best_xw jars_xw layings_xw := hMF
  replace z4 : nreached_xw ≤ 43758 := z4
  replace z5 : reached_xw 0 = 0 := z5
  replace hst : states_m = 0 := hst
  replace hsf : (∀ p, p < 262144 → slotFor_m p = 0) := hsf
  replace hlg : (land_xg = .null ∨ land_xg = .ref 20) := hlg
  replace hs : s ≤ 1187040 + 91903 * t + 3 * nfound_xn := hs
  obtain ⟨hG, en1, en2, hx, hx2, hw⟩ := id hL
  subst en1; subst en2; subst hst; subst z3
  have n12 := hG.1
  obtain ⟨r, dw, nw, h1, h2, hJ2, hB2⟩ := seed_ok (draw := draw_xc) (a1 := (xs (i + 1 : Int32).toNatClampNeg)) (now := now_m) hJ hB
  refine ⟨_, _, _, _, Exists.intro (r, dw) (Exists.intro (r, nw) ⟨h1, h2, rfl, rfl, rfl, rfl, rfl⟩), Nat.zero_le _, Nat.zero_le _, ?_⟩
  exact Exists.intro n (Exists.intro nx ⟨⟨hG, rfl, rfl, hx, hx2, hw⟩, hT, hJ2, hB2, hz, ht, hA, hk1, hk2, hkJ, hkB, hMN, hSZ, hb1, hb2, z1, z2, rfl, hMF, z4, z5, rfl, hsf, hlg, cell_step hc (Nat.zero_le _), slot_step hs (Nat.zero_le _)⟩)
set_option maxHeartbeats 4000000 in
set_option maxRecDepth 20000 in
theorem st_22 {t c s : Nat} {X : XS} {M : MS} (h : Rel t X M c s) (xs : Nat → Int32) (i : Int32) : ∃ X2 M2 kc ks, St_22 xs i X M X2 M2 kc ks ∧ kc ≤ 100 ∧ ks ≤ 200000 ∧ Rel (t + 1) X2 M2 (c + kc) (s + ks) := by
  obtain ⟨bytes_xt, length_xt, end_xt, at_xt, fault_xt, wells_xr0, next_xr0, ways_xr0, wells_xr1, next_xr1, ways_xr1, wells_xr2, next_xr2, ways_xr2, wells_xrp, next_xrp, ways_xrp, wells_xrx, next_xrx, ways_xrx, wells_xh, next_xh, ways_xh, wells_xf, next_xf, ways_xf, wells_xs, next_xs, ways_xs, wells_xx, next_xx, ways_xx, rules_xa, kinds_xa, worths_xa, tests_xa, code_xa, size_xa, given_xa, stack_xa, rules_xb, kinds_xb, worths_xb, tests_xb, code_xb, size_xb, given_xb, stack_xb, jars_xc, space_xc, throne_xc, day_xc, draw_xc, gone_xc, robbed_xc, jars_xy, space_xy, throne_xy, day_xy, draw_xy, gone_xy, robbed_xy, jars_xz, space_xz, throne_xz, day_xz, draw_xz, gone_xz, robbed_xz, anyKept_x, told_xn, layings_xn, rows_xn, greatestWell_xn, found_xn, nfound_xn, marks_xn, nmarks_xn, shifts_xn, fields_xn, two_xn, full_xn, change_xn, moves_xn, wells_xn, size_xn, levelStart_xn, below_xqk, takenA_xq, takenB_xq, given_xq, nearest_xq, ways_xq, row_xq, moves_xq, seen_xq, nseen_xq, layings_xq, nlayings_xq, starts_xq, nstarts_xq, found_xq, wells_xq, reachable_xq, aim_xq, due_xq, limit_xq, nextLimit_xq, firstMove_xq, below_xwk, row_xw, best_xw, reached_xw, nreached_xw, jars_xw, layings_xw, needs_xo, changes_xo, row_xo, lost_xo, throne_xo, ways_xo, least_xo, most_xo, order_xg, images_xg, looks_xg, twins_xg, land_xg⟩ := X
  obtain ⟨now_m, aside_m, kept_m, nextTo_m, wasNext_m, wells_m, wasWells_m, farOf_m, line_m, tape_m, taped_m, place0_m, length0_m, fault_m, number0_m, open_m, codeMany_m, waiting_m, saidMany_m, clauses_m, said_m, waitsAt_m, saidLetter_m, saidFrom_m, saidHalf_m, saidTo_m, codes_m, clauseOf_m, codeFrom_m, codeHalf_m, codeTo_m, stack_m, facts_m, manyAt_m, nextAt_m, partAt_m, newNext_m, depth_m, newLines_m, newJars_m, stagesNow_m, robbedNow_m, slotFor_m, stateAt_m, slotOf_m, firstAt_m, movesTo_m, states_m, shiftOf_m, widthOf_m, nextIn_m, headOf_m, isVain_m, bitsInAll_m, vainMost_m, vainMany_m, vainGreatest_m, lowestBest_m, laidNow_m, laidBest_m, firstNext_m, secondNext_m, firstMany_m, secondMany_m, chainOf_m, chainAt_m, canWin_m, goneFrom_m, goneTo_m, triedAt_m, leftNow_m, moveFrom_m, moveTo_m, takenFrom_m, takenTo_m, goneMany_m, lostMany_m, moveMany_m, waysNow_m, leastNow_m, mostNow_m, imageOf_m, isKept_m⟩ := M
  obtain ⟨n, nx, hL, hT, hJ, hB, hz, ht, hA, hk1, hk2, hkJ, hkB, hMN, hSZ, hb1, hb2, z1, z2, z3, hMF, z4, z5, hst, hsf, hlg, hc, hs⟩ := h
  replace hL : RL n nx wells_xh next_xh ways_xh wells_m nextTo_m := hL
  replace hT : RT bytes_xt length_xt tape_m taped_m := hT
  replace hJ : RJ jars_xc space_xc throne_xc day_xc draw_xc now_m := hJ
  replace hB : BJ jars_xc space_xc throne_xc day_xc draw_xc := hB
  replace hz : (∀ w, w < 12 → n ≤ w → jars_xc w = 0) := hz
  replace ht : (∃ t, throne_xc = nI t ∧ (t < n ∨ t = 0)) := ht
  replace hA : RA rules_xa kinds_xa worths_xa tests_xa code_xa clauses_m codes_m clauseOf_m codeFrom_m codeHalf_m codeTo_m := hA
  replace hk1 : anyKept_x = isKept_m := hk1
  replace hk2 : (isKept_m = 0 ∨ isKept_m = 1) := hk2
  replace hkJ : (isKept_m = 1 → RJ jars_xz space_xz throne_xz day_xz draw_xz kept_m) := hkJ
  replace hkB : (isKept_m = 1 → BJ jars_xz space_xz throne_xz day_xz draw_xz) := hkB
  replace hMN : MNs n nx told_xn layings_xn rows_xn := hMN
  replace hSZ : SZ2 nfound_xn nmarks_xn := hSZ
  replace hb1 : RBk below_xqk := hb1
  replace hb2 : RBk below_xwk := hb2
  replace z1 : nseen_xq ≤ 3937 := z1
  replace z2 : nlayings_xq ≤ 43983 := z2
  replace z3 : nstarts_xq = nlayings_xq := z3
  replace hMF : MFs n nx best_xw jars_xw layings_xw := hMF
  replace z4 : nreached_xw ≤ 43758 := z4
  replace z5 : reached_xw 0 = 0 := z5
  replace hst : states_m = 0 := hst
  replace hsf : (∀ p, p < 262144 → slotFor_m p = 0) := hsf
  replace hlg : (land_xg = .null ∨ land_xg = .ref 20) := hlg
  replace hs : s ≤ 1187040 + 91903 * t + 3 * nfound_xn := hs
  obtain ⟨hG, en1, en2, hx, hx2, hw⟩ := id hL
  subst en1; subst en2; subst hst; subst z3
  have n12 := hG.1
  obtain ⟨r, jz', sz', kp', h1, h2, hJ2, hB2⟩ := keep_ok (jars := jars_xc) (space := space_xc) (throne := throne_xc) (day := day_xc) (draw := draw_xc) (jz := jars_xz) (sz := space_xz) (tz := throne_xz) (dz := day_xz) (wz := draw_xz) (an := anyKept_x) (now := now_m) (kept := kept_m) (ik := isKept_m) hJ hB
  refine ⟨_, _, _, _, Exists.intro (r, jz', sz', throne_xc, day_xc, draw_xc, 1) (Exists.intro (r, kp', 1) ⟨h1, h2, rfl, rfl, rfl, rfl, rfl⟩), Nat.zero_le _, Nat.zero_le _, ?_⟩
  exact Exists.intro n (Exists.intro nx ⟨⟨hG, rfl, rfl, hx, hx2, hw⟩, hT, hJ, hB, hz, ht, hA, rfl, Or.inr rfl, fun _ => hJ2, fun _ => hB2, hMN, hSZ, hb1, hb2, z1, z2, rfl, hMF, z4, z5, rfl, hsf, hlg, cell_step hc (Nat.zero_le _), slot_step hs (Nat.zero_le _)⟩)
set_option maxHeartbeats 4000000 in
set_option maxRecDepth 20000 in
theorem st_23 {t c s : Nat} {X : XS} {M : MS} (h : Rel t X M c s) (xs : Nat → Int32) (i : Int32) : ∃ X2 M2 kc ks, St_23 xs i X M X2 M2 kc ks ∧ kc ≤ 100 ∧ ks ≤ 200000 ∧ Rel (t + 1) X2 M2 (c + kc) (s + ks) := by
  obtain ⟨bytes_xt, length_xt, end_xt, at_xt, fault_xt, wells_xr0, next_xr0, ways_xr0, wells_xr1, next_xr1, ways_xr1, wells_xr2, next_xr2, ways_xr2, wells_xrp, next_xrp, ways_xrp, wells_xrx, next_xrx, ways_xrx, wells_xh, next_xh, ways_xh, wells_xf, next_xf, ways_xf, wells_xs, next_xs, ways_xs, wells_xx, next_xx, ways_xx, rules_xa, kinds_xa, worths_xa, tests_xa, code_xa, size_xa, given_xa, stack_xa, rules_xb, kinds_xb, worths_xb, tests_xb, code_xb, size_xb, given_xb, stack_xb, jars_xc, space_xc, throne_xc, day_xc, draw_xc, gone_xc, robbed_xc, jars_xy, space_xy, throne_xy, day_xy, draw_xy, gone_xy, robbed_xy, jars_xz, space_xz, throne_xz, day_xz, draw_xz, gone_xz, robbed_xz, anyKept_x, told_xn, layings_xn, rows_xn, greatestWell_xn, found_xn, nfound_xn, marks_xn, nmarks_xn, shifts_xn, fields_xn, two_xn, full_xn, change_xn, moves_xn, wells_xn, size_xn, levelStart_xn, below_xqk, takenA_xq, takenB_xq, given_xq, nearest_xq, ways_xq, row_xq, moves_xq, seen_xq, nseen_xq, layings_xq, nlayings_xq, starts_xq, nstarts_xq, found_xq, wells_xq, reachable_xq, aim_xq, due_xq, limit_xq, nextLimit_xq, firstMove_xq, below_xwk, row_xw, best_xw, reached_xw, nreached_xw, jars_xw, layings_xw, needs_xo, changes_xo, row_xo, lost_xo, throne_xo, ways_xo, least_xo, most_xo, order_xg, images_xg, looks_xg, twins_xg, land_xg⟩ := X
  obtain ⟨now_m, aside_m, kept_m, nextTo_m, wasNext_m, wells_m, wasWells_m, farOf_m, line_m, tape_m, taped_m, place0_m, length0_m, fault_m, number0_m, open_m, codeMany_m, waiting_m, saidMany_m, clauses_m, said_m, waitsAt_m, saidLetter_m, saidFrom_m, saidHalf_m, saidTo_m, codes_m, clauseOf_m, codeFrom_m, codeHalf_m, codeTo_m, stack_m, facts_m, manyAt_m, nextAt_m, partAt_m, newNext_m, depth_m, newLines_m, newJars_m, stagesNow_m, robbedNow_m, slotFor_m, stateAt_m, slotOf_m, firstAt_m, movesTo_m, states_m, shiftOf_m, widthOf_m, nextIn_m, headOf_m, isVain_m, bitsInAll_m, vainMost_m, vainMany_m, vainGreatest_m, lowestBest_m, laidNow_m, laidBest_m, firstNext_m, secondNext_m, firstMany_m, secondMany_m, chainOf_m, chainAt_m, canWin_m, goneFrom_m, goneTo_m, triedAt_m, leftNow_m, moveFrom_m, moveTo_m, takenFrom_m, takenTo_m, goneMany_m, lostMany_m, moveMany_m, waysNow_m, leastNow_m, mostNow_m, imageOf_m, isKept_m⟩ := M
  obtain ⟨n, nx, hL, hT, hJ, hB, hz, ht, hA, hk1, hk2, hkJ, hkB, hMN, hSZ, hb1, hb2, z1, z2, z3, hMF, z4, z5, hst, hsf, hlg, hc, hs⟩ := h
  replace hL : RL n nx wells_xh next_xh ways_xh wells_m nextTo_m := hL
  replace hT : RT bytes_xt length_xt tape_m taped_m := hT
  replace hJ : RJ jars_xc space_xc throne_xc day_xc draw_xc now_m := hJ
  replace hB : BJ jars_xc space_xc throne_xc day_xc draw_xc := hB
  replace hz : (∀ w, w < 12 → n ≤ w → jars_xc w = 0) := hz
  replace ht : (∃ t, throne_xc = nI t ∧ (t < n ∨ t = 0)) := ht
  replace hA : RA rules_xa kinds_xa worths_xa tests_xa code_xa clauses_m codes_m clauseOf_m codeFrom_m codeHalf_m codeTo_m := hA
  replace hk1 : anyKept_x = isKept_m := hk1
  replace hk2 : (isKept_m = 0 ∨ isKept_m = 1) := hk2
  replace hkJ : (isKept_m = 1 → RJ jars_xz space_xz throne_xz day_xz draw_xz kept_m) := hkJ
  replace hkB : (isKept_m = 1 → BJ jars_xz space_xz throne_xz day_xz draw_xz) := hkB
  replace hMN : MNs n nx told_xn layings_xn rows_xn := hMN
  replace hSZ : SZ2 nfound_xn nmarks_xn := hSZ
  replace hb1 : RBk below_xqk := hb1
  replace hb2 : RBk below_xwk := hb2
  replace z1 : nseen_xq ≤ 3937 := z1
  replace z2 : nlayings_xq ≤ 43983 := z2
  replace z3 : nstarts_xq = nlayings_xq := z3
  replace hMF : MFs n nx best_xw jars_xw layings_xw := hMF
  replace z4 : nreached_xw ≤ 43758 := z4
  replace z5 : reached_xw 0 = 0 := z5
  replace hst : states_m = 0 := hst
  replace hsf : (∀ p, p < 262144 → slotFor_m p = 0) := hsf
  replace hlg : (land_xg = .null ∨ land_xg = .ref 20) := hlg
  replace hs : s ≤ 1187040 + 91903 * t + 3 * nfound_xn := hs
  obtain ⟨hG, en1, en2, hx, hx2, hw⟩ := id hL
  subst en1; subst en2; subst hst; subst z3
  have n12 := hG.1
  obtain ⟨r, j', s', th', d', w', nw, h1, h2, hJ2, hB2, hz2, ht2⟩ := undo_ok2 (jars := jars_xc) (space := space_xc) (throne := throne_xc) (day := day_xc) (draw := draw_xc) (jz := jars_xz) (sz := space_xz) (tz := throne_xz) (dz := day_xz) (wz := draw_xz) (an := anyKept_x) (now := now_m) (kept := kept_m) (ik := isKept_m) n12 hJ hB hz ht hkJ hkB hk1 hk2
  refine ⟨_, _, _, _, Exists.intro (r, j', s', th', d', w') (Exists.intro (r, nw) ⟨h1, h2, rfl, rfl, rfl, rfl, rfl⟩), Nat.zero_le _, Nat.zero_le _, ?_⟩
  exact Exists.intro n (Exists.intro nx ⟨⟨hG, rfl, rfl, hx, hx2, hw⟩, hT, hJ2, hB2, hz2, ht2, hA, hk1, hk2, hkJ, hkB, hMN, hSZ, hb1, hb2, z1, z2, rfl, hMF, z4, z5, rfl, hsf, hlg, cell_step hc (Nat.zero_le _), slot_step hs (Nat.zero_le _)⟩)
set_option maxHeartbeats 4000000 in
set_option maxRecDepth 20000 in
theorem st_24 {t c s : Nat} {X : XS} {M : MS} (h : Rel t X M c s) (xs : Nat → Int32) (i : Int32) : ∃ X2 M2 kc ks, St_24 xs i X M X2 M2 kc ks ∧ kc ≤ 100 ∧ ks ≤ 200000 ∧ Rel (t + 1) X2 M2 (c + kc) (s + ks) := by
  obtain ⟨bytes_xt, length_xt, end_xt, at_xt, fault_xt, wells_xr0, next_xr0, ways_xr0, wells_xr1, next_xr1, ways_xr1, wells_xr2, next_xr2, ways_xr2, wells_xrp, next_xrp, ways_xrp, wells_xrx, next_xrx, ways_xrx, wells_xh, next_xh, ways_xh, wells_xf, next_xf, ways_xf, wells_xs, next_xs, ways_xs, wells_xx, next_xx, ways_xx, rules_xa, kinds_xa, worths_xa, tests_xa, code_xa, size_xa, given_xa, stack_xa, rules_xb, kinds_xb, worths_xb, tests_xb, code_xb, size_xb, given_xb, stack_xb, jars_xc, space_xc, throne_xc, day_xc, draw_xc, gone_xc, robbed_xc, jars_xy, space_xy, throne_xy, day_xy, draw_xy, gone_xy, robbed_xy, jars_xz, space_xz, throne_xz, day_xz, draw_xz, gone_xz, robbed_xz, anyKept_x, told_xn, layings_xn, rows_xn, greatestWell_xn, found_xn, nfound_xn, marks_xn, nmarks_xn, shifts_xn, fields_xn, two_xn, full_xn, change_xn, moves_xn, wells_xn, size_xn, levelStart_xn, below_xqk, takenA_xq, takenB_xq, given_xq, nearest_xq, ways_xq, row_xq, moves_xq, seen_xq, nseen_xq, layings_xq, nlayings_xq, starts_xq, nstarts_xq, found_xq, wells_xq, reachable_xq, aim_xq, due_xq, limit_xq, nextLimit_xq, firstMove_xq, below_xwk, row_xw, best_xw, reached_xw, nreached_xw, jars_xw, layings_xw, needs_xo, changes_xo, row_xo, lost_xo, throne_xo, ways_xo, least_xo, most_xo, order_xg, images_xg, looks_xg, twins_xg, land_xg⟩ := X
  obtain ⟨now_m, aside_m, kept_m, nextTo_m, wasNext_m, wells_m, wasWells_m, farOf_m, line_m, tape_m, taped_m, place0_m, length0_m, fault_m, number0_m, open_m, codeMany_m, waiting_m, saidMany_m, clauses_m, said_m, waitsAt_m, saidLetter_m, saidFrom_m, saidHalf_m, saidTo_m, codes_m, clauseOf_m, codeFrom_m, codeHalf_m, codeTo_m, stack_m, facts_m, manyAt_m, nextAt_m, partAt_m, newNext_m, depth_m, newLines_m, newJars_m, stagesNow_m, robbedNow_m, slotFor_m, stateAt_m, slotOf_m, firstAt_m, movesTo_m, states_m, shiftOf_m, widthOf_m, nextIn_m, headOf_m, isVain_m, bitsInAll_m, vainMost_m, vainMany_m, vainGreatest_m, lowestBest_m, laidNow_m, laidBest_m, firstNext_m, secondNext_m, firstMany_m, secondMany_m, chainOf_m, chainAt_m, canWin_m, goneFrom_m, goneTo_m, triedAt_m, leftNow_m, moveFrom_m, moveTo_m, takenFrom_m, takenTo_m, goneMany_m, lostMany_m, moveMany_m, waysNow_m, leastNow_m, mostNow_m, imageOf_m, isKept_m⟩ := M
  obtain ⟨n, nx, hL, hT, hJ, hB, hz, ht, hA, hk1, hk2, hkJ, hkB, hMN, hSZ, hb1, hb2, z1, z2, z3, hMF, z4, z5, hst, hsf, hlg, hc, hs⟩ := h
  replace hL : RL n nx wells_xh next_xh ways_xh wells_m nextTo_m := hL
  replace hT : RT bytes_xt length_xt tape_m taped_m := hT
  replace hJ : RJ jars_xc space_xc throne_xc day_xc draw_xc now_m := hJ
  replace hB : BJ jars_xc space_xc throne_xc day_xc draw_xc := hB
  replace hz : (∀ w, w < 12 → n ≤ w → jars_xc w = 0) := hz
  replace ht : (∃ t, throne_xc = nI t ∧ (t < n ∨ t = 0)) := ht
  replace hA : RA rules_xa kinds_xa worths_xa tests_xa code_xa clauses_m codes_m clauseOf_m codeFrom_m codeHalf_m codeTo_m := hA
  replace hk1 : anyKept_x = isKept_m := hk1
  replace hk2 : (isKept_m = 0 ∨ isKept_m = 1) := hk2
  replace hkJ : (isKept_m = 1 → RJ jars_xz space_xz throne_xz day_xz draw_xz kept_m) := hkJ
  replace hkB : (isKept_m = 1 → BJ jars_xz space_xz throne_xz day_xz draw_xz) := hkB
  replace hMN : MNs n nx told_xn layings_xn rows_xn := hMN
  replace hSZ : SZ2 nfound_xn nmarks_xn := hSZ
  replace hb1 : RBk below_xqk := hb1
  replace hb2 : RBk below_xwk := hb2
  replace z1 : nseen_xq ≤ 3937 := z1
  replace z2 : nlayings_xq ≤ 43983 := z2
  replace z3 : nstarts_xq = nlayings_xq := z3
  replace hMF : MFs n nx best_xw jars_xw layings_xw := hMF
  replace z4 : nreached_xw ≤ 43758 := z4
  replace z5 : reached_xw 0 = 0 := z5
  replace hst : states_m = 0 := hst
  replace hsf : (∀ p, p < 262144 → slotFor_m p = 0) := hsf
  replace hlg : (land_xg = .null ∨ land_xg = .ref 20) := hlg
  replace hs : s ≤ 1187040 + 91903 * t + 3 * nfound_xn := hs
  obtain ⟨hG, en1, en2, hx, hx2, hw⟩ := id hL
  subst en1; subst en2; subst hst; subst z3
  have n12 := hG.1
  obtain ⟨r, l', e', p', f', m', h1, h2, hT2⟩ := check_ok (bytes := bytes_xt) (len := length_xt) (en := end_xt) (at_ := at_xt) (fa := fault_xt) (jars := jars_xc) (a1 := (xs (i + 1 : Int32).toNatClampNeg)) (now := now_m) (tape := tape_m) (taped := taped_m) n12 hT hJ
  refine ⟨_, _, _, _, Exists.intro (r, l', e', p', f') (Exists.intro (r, m') ⟨h1, h2, rfl, rfl, rfl, rfl, rfl⟩), Nat.zero_le _, Nat.zero_le _, ?_⟩
  exact Exists.intro n (Exists.intro nx ⟨⟨hG, rfl, rfl, hx, hx2, hw⟩, hT2, hJ, hB, hz, ht, hA, hk1, hk2, hkJ, hkB, hMN, hSZ, hb1, hb2, z1, z2, rfl, hMF, z4, z5, rfl, hsf, hlg, cell_step hc (Nat.zero_le _), slot_step hs (Nat.zero_le _)⟩)
set_option maxHeartbeats 4000000 in
set_option maxRecDepth 20000 in
theorem st_25 {t c s : Nat} {X : XS} {M : MS} (h : Rel t X M c s) (xs : Nat → Int32) (i : Int32) : ∃ X2 M2 kc ks, St_25 xs i X M X2 M2 kc ks ∧ kc ≤ 100 ∧ ks ≤ 200000 ∧ Rel (t + 1) X2 M2 (c + kc) (s + ks) := by
  obtain ⟨bytes_xt, length_xt, end_xt, at_xt, fault_xt, wells_xr0, next_xr0, ways_xr0, wells_xr1, next_xr1, ways_xr1, wells_xr2, next_xr2, ways_xr2, wells_xrp, next_xrp, ways_xrp, wells_xrx, next_xrx, ways_xrx, wells_xh, next_xh, ways_xh, wells_xf, next_xf, ways_xf, wells_xs, next_xs, ways_xs, wells_xx, next_xx, ways_xx, rules_xa, kinds_xa, worths_xa, tests_xa, code_xa, size_xa, given_xa, stack_xa, rules_xb, kinds_xb, worths_xb, tests_xb, code_xb, size_xb, given_xb, stack_xb, jars_xc, space_xc, throne_xc, day_xc, draw_xc, gone_xc, robbed_xc, jars_xy, space_xy, throne_xy, day_xy, draw_xy, gone_xy, robbed_xy, jars_xz, space_xz, throne_xz, day_xz, draw_xz, gone_xz, robbed_xz, anyKept_x, told_xn, layings_xn, rows_xn, greatestWell_xn, found_xn, nfound_xn, marks_xn, nmarks_xn, shifts_xn, fields_xn, two_xn, full_xn, change_xn, moves_xn, wells_xn, size_xn, levelStart_xn, below_xqk, takenA_xq, takenB_xq, given_xq, nearest_xq, ways_xq, row_xq, moves_xq, seen_xq, nseen_xq, layings_xq, nlayings_xq, starts_xq, nstarts_xq, found_xq, wells_xq, reachable_xq, aim_xq, due_xq, limit_xq, nextLimit_xq, firstMove_xq, below_xwk, row_xw, best_xw, reached_xw, nreached_xw, jars_xw, layings_xw, needs_xo, changes_xo, row_xo, lost_xo, throne_xo, ways_xo, least_xo, most_xo, order_xg, images_xg, looks_xg, twins_xg, land_xg⟩ := X
  obtain ⟨now_m, aside_m, kept_m, nextTo_m, wasNext_m, wells_m, wasWells_m, farOf_m, line_m, tape_m, taped_m, place0_m, length0_m, fault_m, number0_m, open_m, codeMany_m, waiting_m, saidMany_m, clauses_m, said_m, waitsAt_m, saidLetter_m, saidFrom_m, saidHalf_m, saidTo_m, codes_m, clauseOf_m, codeFrom_m, codeHalf_m, codeTo_m, stack_m, facts_m, manyAt_m, nextAt_m, partAt_m, newNext_m, depth_m, newLines_m, newJars_m, stagesNow_m, robbedNow_m, slotFor_m, stateAt_m, slotOf_m, firstAt_m, movesTo_m, states_m, shiftOf_m, widthOf_m, nextIn_m, headOf_m, isVain_m, bitsInAll_m, vainMost_m, vainMany_m, vainGreatest_m, lowestBest_m, laidNow_m, laidBest_m, firstNext_m, secondNext_m, firstMany_m, secondMany_m, chainOf_m, chainAt_m, canWin_m, goneFrom_m, goneTo_m, triedAt_m, leftNow_m, moveFrom_m, moveTo_m, takenFrom_m, takenTo_m, goneMany_m, lostMany_m, moveMany_m, waysNow_m, leastNow_m, mostNow_m, imageOf_m, isKept_m⟩ := M
  obtain ⟨n, nx, hL, hT, hJ, hB, hz, ht, hA, hk1, hk2, hkJ, hkB, hMN, hSZ, hb1, hb2, z1, z2, z3, hMF, z4, z5, hst, hsf, hlg, hc, hs⟩ := h
  replace hL : RL n nx wells_xh next_xh ways_xh wells_m nextTo_m := hL
  replace hT : RT bytes_xt length_xt tape_m taped_m := hT
  replace hJ : RJ jars_xc space_xc throne_xc day_xc draw_xc now_m := hJ
  replace hB : BJ jars_xc space_xc throne_xc day_xc draw_xc := hB
  replace hz : (∀ w, w < 12 → n ≤ w → jars_xc w = 0) := hz
  replace ht : (∃ t, throne_xc = nI t ∧ (t < n ∨ t = 0)) := ht
  replace hA : RA rules_xa kinds_xa worths_xa tests_xa code_xa clauses_m codes_m clauseOf_m codeFrom_m codeHalf_m codeTo_m := hA
  replace hk1 : anyKept_x = isKept_m := hk1
  replace hk2 : (isKept_m = 0 ∨ isKept_m = 1) := hk2
  replace hkJ : (isKept_m = 1 → RJ jars_xz space_xz throne_xz day_xz draw_xz kept_m) := hkJ
  replace hkB : (isKept_m = 1 → BJ jars_xz space_xz throne_xz day_xz draw_xz) := hkB
  replace hMN : MNs n nx told_xn layings_xn rows_xn := hMN
  replace hSZ : SZ2 nfound_xn nmarks_xn := hSZ
  replace hb1 : RBk below_xqk := hb1
  replace hb2 : RBk below_xwk := hb2
  replace z1 : nseen_xq ≤ 3937 := z1
  replace z2 : nlayings_xq ≤ 43983 := z2
  replace z3 : nstarts_xq = nlayings_xq := z3
  replace hMF : MFs n nx best_xw jars_xw layings_xw := hMF
  replace z4 : nreached_xw ≤ 43758 := z4
  replace z5 : reached_xw 0 = 0 := z5
  replace hst : states_m = 0 := hst
  replace hsf : (∀ p, p < 262144 → slotFor_m p = 0) := hsf
  replace hlg : (land_xg = .null ∨ land_xg = .ref 20) := hlg
  replace hs : s ≤ 1187040 + 91903 * t + 3 * nfound_xn := hs
  obtain ⟨hG, en1, en2, hx, hx2, hw⟩ := id hL
  subst en1; subst en2; subst hst; subst z3
  have n12 := hG.1
  obtain ⟨r, f', l', h1, h2⟩ := count_ok (len := length_xt) (next := next_xh) (ways := ways_xh) (rules := rules_xa) (jars := jars_xc) (throne := throne_xc) (day := day_xc) (draw := draw_xc) (a1 := (xs (i + 1 : Int32).toNatClampNeg)) (now := now_m) (nextTo := nextTo_m) (f0 := farOf_m) (l0 := line_m) hG hx2 hx hw hJ hB hz
  rw [rt_eq hT, ra_eq hA] at h2
  refine ⟨_, _, _, _, Exists.intro r (Exists.intro (r, f', l') ⟨h1, h2, rfl, rfl, rfl, rfl, rfl⟩), Nat.zero_le _, Nat.zero_le _, ?_⟩
  exact Exists.intro n (Exists.intro nx ⟨⟨hG, rfl, rfl, hx, hx2, hw⟩, hT, hJ, hB, hz, ht, hA, hk1, hk2, hkJ, hkB, hMN, hSZ, hb1, hb2, z1, z2, rfl, hMF, z4, z5, rfl, hsf, hlg, cell_step hc (Nat.zero_le _), slot_step hs (Nat.zero_le _)⟩)
set_option maxHeartbeats 4000000 in
set_option maxRecDepth 20000 in
theorem st_20 {t c s : Nat} {X : XS} {M : MS} (h : Rel t X M c s) (xs : Nat → Int32) (i : Int32) : ∃ X2 M2 kc ks, St_20 xs i X M X2 M2 kc ks ∧ kc ≤ 100 ∧ ks ≤ 200000 ∧ Rel (t + 1) X2 M2 (c + kc) (s + ks) := by
  obtain ⟨bytes_xt, length_xt, end_xt, at_xt, fault_xt, wells_xr0, next_xr0, ways_xr0, wells_xr1, next_xr1, ways_xr1, wells_xr2, next_xr2, ways_xr2, wells_xrp, next_xrp, ways_xrp, wells_xrx, next_xrx, ways_xrx, wells_xh, next_xh, ways_xh, wells_xf, next_xf, ways_xf, wells_xs, next_xs, ways_xs, wells_xx, next_xx, ways_xx, rules_xa, kinds_xa, worths_xa, tests_xa, code_xa, size_xa, given_xa, stack_xa, rules_xb, kinds_xb, worths_xb, tests_xb, code_xb, size_xb, given_xb, stack_xb, jars_xc, space_xc, throne_xc, day_xc, draw_xc, gone_xc, robbed_xc, jars_xy, space_xy, throne_xy, day_xy, draw_xy, gone_xy, robbed_xy, jars_xz, space_xz, throne_xz, day_xz, draw_xz, gone_xz, robbed_xz, anyKept_x, told_xn, layings_xn, rows_xn, greatestWell_xn, found_xn, nfound_xn, marks_xn, nmarks_xn, shifts_xn, fields_xn, two_xn, full_xn, change_xn, moves_xn, wells_xn, size_xn, levelStart_xn, below_xqk, takenA_xq, takenB_xq, given_xq, nearest_xq, ways_xq, row_xq, moves_xq, seen_xq, nseen_xq, layings_xq, nlayings_xq, starts_xq, nstarts_xq, found_xq, wells_xq, reachable_xq, aim_xq, due_xq, limit_xq, nextLimit_xq, firstMove_xq, below_xwk, row_xw, best_xw, reached_xw, nreached_xw, jars_xw, layings_xw, needs_xo, changes_xo, row_xo, lost_xo, throne_xo, ways_xo, least_xo, most_xo, order_xg, images_xg, looks_xg, twins_xg, land_xg⟩ := X
  obtain ⟨now_m, aside_m, kept_m, nextTo_m, wasNext_m, wells_m, wasWells_m, farOf_m, line_m, tape_m, taped_m, place0_m, length0_m, fault_m, number0_m, open_m, codeMany_m, waiting_m, saidMany_m, clauses_m, said_m, waitsAt_m, saidLetter_m, saidFrom_m, saidHalf_m, saidTo_m, codes_m, clauseOf_m, codeFrom_m, codeHalf_m, codeTo_m, stack_m, facts_m, manyAt_m, nextAt_m, partAt_m, newNext_m, depth_m, newLines_m, newJars_m, stagesNow_m, robbedNow_m, slotFor_m, stateAt_m, slotOf_m, firstAt_m, movesTo_m, states_m, shiftOf_m, widthOf_m, nextIn_m, headOf_m, isVain_m, bitsInAll_m, vainMost_m, vainMany_m, vainGreatest_m, lowestBest_m, laidNow_m, laidBest_m, firstNext_m, secondNext_m, firstMany_m, secondMany_m, chainOf_m, chainAt_m, canWin_m, goneFrom_m, goneTo_m, triedAt_m, leftNow_m, moveFrom_m, moveTo_m, takenFrom_m, takenTo_m, goneMany_m, lostMany_m, moveMany_m, waysNow_m, leastNow_m, mostNow_m, imageOf_m, isKept_m⟩ := M
  obtain ⟨n, nx, hL, hT, hJ, hB, hz, ht, hA, hk1, hk2, hkJ, hkB, hMN, hSZ, hb1, hb2, z1, z2, z3, hMF, z4, z5, hst, hsf, hlg, hc, hs⟩ := h
  replace hL : RL n nx wells_xh next_xh ways_xh wells_m nextTo_m := hL
  replace hT : RT bytes_xt length_xt tape_m taped_m := hT
  replace hJ : RJ jars_xc space_xc throne_xc day_xc draw_xc now_m := hJ
  replace hB : BJ jars_xc space_xc throne_xc day_xc draw_xc := hB
  replace hz : (∀ w, w < 12 → n ≤ w → jars_xc w = 0) := hz
  replace ht : (∃ t, throne_xc = nI t ∧ (t < n ∨ t = 0)) := ht
  replace hA : RA rules_xa kinds_xa worths_xa tests_xa code_xa clauses_m codes_m clauseOf_m codeFrom_m codeHalf_m codeTo_m := hA
  replace hk1 : anyKept_x = isKept_m := hk1
  replace hk2 : (isKept_m = 0 ∨ isKept_m = 1) := hk2
  replace hkJ : (isKept_m = 1 → RJ jars_xz space_xz throne_xz day_xz draw_xz kept_m) := hkJ
  replace hkB : (isKept_m = 1 → BJ jars_xz space_xz throne_xz day_xz draw_xz) := hkB
  replace hMN : MNs n nx told_xn layings_xn rows_xn := hMN
  replace hSZ : SZ2 nfound_xn nmarks_xn := hSZ
  replace hb1 : RBk below_xqk := hb1
  replace hb2 : RBk below_xwk := hb2
  replace z1 : nseen_xq ≤ 3937 := z1
  replace z2 : nlayings_xq ≤ 43983 := z2
  replace z3 : nstarts_xq = nlayings_xq := z3
  replace hMF : MFs n nx best_xw jars_xw layings_xw := hMF
  replace z4 : nreached_xw ≤ 43758 := z4
  replace z5 : reached_xw 0 = 0 := z5
  replace hst : states_m = 0 := hst
  replace hsf : (∀ p, p < 262144 → slotFor_m p = 0) := hsf
  replace hlg : (land_xg = .null ∨ land_xg = .ref 20) := hlg
  replace hs : s ≤ 1187040 + 91903 * t + 3 * nfound_xn := hs
  obtain ⟨hG, en1, en2, hx, hx2, hw⟩ := id hL
  subst en1; subst en2; subst hst; subst z3
  have n12 := hG.1
  rcases symmetries_ok hG hx hx2 hw order_xg images_xg looks_xg twins_xg imageOf_m (xs (i + 1 : Int32).toNatClampNeg) with ⟨r, y, im, h1, h2, h3⟩ | ⟨h1, h2, h3⟩
  · rcases hlg with e | e
    · refine ⟨_, _, _, _, Or.inr (Or.inl ⟨e, Exists.intro (r, y) (Exists.intro (r, im) ⟨h2, h3, rfl, rfl, rfl, rfl, rfl⟩)⟩), Nat.zero_le _, Nat.zero_le _, ?_⟩
      exact Exists.intro n (Exists.intro nx ⟨⟨hG, rfl, rfl, hx, hx2, hw⟩, hT, hJ, hB, hz, ht, hA, hk1, hk2, hkJ, hkB, hMN, hSZ, hb1, hb2, z1, z2, rfl, hMF, z4, z5, rfl, hsf, Or.inr rfl, cell_step hc (Nat.zero_le _), slot_step hs (Nat.zero_le _)⟩)
    · refine ⟨_, _, _, _, Or.inl ⟨e, Exists.intro (r, y) (Exists.intro (r, im) ⟨h1, h3, rfl, rfl, rfl, rfl, rfl⟩)⟩, Nat.zero_le _, Nat.zero_le _, ?_⟩
      exact Exists.intro n (Exists.intro nx ⟨⟨hG, rfl, rfl, hx, hx2, hw⟩, hT, hJ, hB, hz, ht, hA, hk1, hk2, hkJ, hkB, hMN, hSZ, hb1, hb2, z1, z2, rfl, hMF, z4, z5, rfl, hsf, Or.inr rfl, cell_step hc (Nat.zero_le _), slot_step hs (Nat.zero_le _)⟩)
  · rcases hlg with e | e
    · refine ⟨_, _, _, _, Or.inr (Or.inr ⟨e, Exists.intro (-1, order_xg, images_xg, looks_xg, twins_xg) (Exists.intro (-1, imageOf_m) ⟨h2, h3, rfl, rfl, rfl, rfl, rfl⟩)⟩), Nat.zero_le _, Nat.zero_le _, ?_⟩
      exact Exists.intro n (Exists.intro nx ⟨⟨hG, rfl, rfl, hx, hx2, hw⟩, hT, hJ, hB, hz, ht, hA, hk1, hk2, hkJ, hkB, hMN, hSZ, hb1, hb2, z1, z2, rfl, hMF, z4, z5, rfl, hsf, Or.inl rfl, cell_step hc (Nat.zero_le _), slot_step hs (Nat.zero_le _)⟩)
    · refine ⟨_, _, _, _, Or.inl ⟨e, Exists.intro (-1, order_xg, images_xg, looks_xg, twins_xg) (Exists.intro (-1, imageOf_m) ⟨h1, h3, rfl, rfl, rfl, rfl, rfl⟩)⟩, Nat.zero_le _, Nat.zero_le _, ?_⟩
      exact Exists.intro n (Exists.intro nx ⟨⟨hG, rfl, rfl, hx, hx2, hw⟩, hT, hJ, hB, hz, ht, hA, hk1, hk2, hkJ, hkB, hMN, hSZ, hb1, hb2, z1, z2, rfl, hMF, z4, z5, rfl, hsf, Or.inr rfl, cell_step hc (Nat.zero_le _), slot_step hs (Nat.zero_le _)⟩)
