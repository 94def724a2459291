/-! rounds -/
set_option maxHeartbeats 4000000 in
set_option maxRecDepth 20000 in
theorem st_0 {t c s : Nat} {X : XS} {M : MS} (h : Rel t X M c s) (xs : Nat → Int32) (i : Int32) : ∃ X2 M2 kc ks, St_0 xs i X M X2 M2 kc ks ∧ kc ≤ 100 ∧ ks ≤ 200000 ∧ Rel (t + 1) X2 M2 (c + kc) (s + ks) := by
  obtain ⟨bytes_xt, length_xt, end_xt, at_xt, fault_xt, wells_xr0, next_xr0, ways_xr0, wells_xr1, next_xr1, ways_xr1, wells_xr2, next_xr2, ways_xr2, wells_xrp, next_xrp, ways_xrp, wells_xrx, next_xrx, ways_xrx, wells_xh, next_xh, ways_xh, wells_xf, next_xf, ways_xf, wells_xs, next_xs, ways_xs, wells_xx, next_xx, ways_xx, rules_xa, kinds_xa, worths_xa, tests_xa, code_xa, size_xa, given_xa, stack_xa, rules_xb, kinds_xb, worths_xb, tests_xb, code_xb, size_xb, given_xb, stack_xb, jars_xc, space_xc, throne_xc, day_xc, draw_xc, gone_xc, robbed_xc, jars_xy, space_xy, throne_xy, day_xy, draw_xy, gone_xy, robbed_xy, jars_xz, space_xz, throne_xz, day_xz, draw_xz, gone_xz, robbed_xz, anyKept_x, told_xn, layings_xn, rows_xn, greatestWell_xn, found_xn, nfound_xn, marks_xn, nmarks_xn, shifts_xn, fields_xn, two_xn, full_xn, change_xn, moves_xn, wells_xn, size_xn, levelStart_xn, below_xqk, takenA_xq, takenB_xq, given_xq, nearest_xq, ways_xq, row_xq, moves_xq, seen_xq, nseen_xq, layings_xq, nlayings_xq, starts_xq, nstarts_xq, found_xq, wells_xq, reachable_xq, aim_xq, due_xq, limit_xq, nextLimit_xq, firstMove_xq, below_xwk, row_xw, best_xw, reached_xw, nreached_xw, jars_xw, layings_xw, needs_xo, changes_xo, row_xo, lost_xo, throne_xo, ways_xo, least_xo, most_xo, order_xg, images_xg, looks_xg, twins_xg, land_xg⟩ := X
  obtain ⟨now_m, aside_m, kept_m, nextTo_m, wasNext_m, wells_m, wasWells_m, farOf_m, line_m, tape_m, taped_m, place0_m, length0_m, fault_m, number0_m, open_m, codeMany_m, waiting_m, saidMany_m, clauses_m, said_m, waitsAt_m, saidLetter_m, saidFrom_m, saidHalf_m, saidTo_m, codes_m, clauseOf_m, codeFrom_m, codeHalf_m, codeTo_m, stack_m, facts_m, manyAt_m, nextAt_m, partAt_m, newNext_m, depth_m, newLines_m, newJars_m, stagesNow_m, robbedNow_m, slotFor_m, stateAt_m, slotOf_m, firstAt_m, movesTo_m, states_m, shiftOf_m, widthOf_m, nextIn_m, headOf_m, isVain_m, bitsInAll_m, vainMost_m, vainMany_m, vainGreatest_m, lowestBest_m, laidNow_m, laidBest_m, firstNext_m, secondNext_m, firstMany_m, secondMany_m, chainOf_m, chainAt_m, canWin_m, goneFrom_m, goneTo_m, triedAt_m, leftNow_m, moveFrom_m, moveTo_m, takenFrom_m, takenTo_m, goneMany_m, lostMany_m, moveMany_m, waysNow_m, leastNow_m, mostNow_m, imageOf_m, isKept_m⟩ := M
  obtain ⟨n, nx, hL, hT, hJ, hB, hz, ht, hA, hk1, hk2, hkJ, hkB, hMN, hSZ, hb1, hb2, z1, z2, z3, hMF, z4, z5, hst, hsf, hlg, hc, hs⟩ := h
  replace hL : RL n nx wells_xh next_xh ways_xh wells_m nextTo_m := hL
  replace hT : RT bytes_xt length_xt tape_m taped_m := hT
  replace hJ : RJ jars_xc space_xc throne_xc day_xc draw_xc now_m := hJ
  replace hB : BJ jars_xc space_xc throne_xc day_xc draw_xc := hB
  replace hz : (∀ w, w < 12 → n ≤ w → jars_xc w = 0) := hz
  replace ht : (∃ t, throne_xc = nI t ∧ (t < n ∨ t = 0)) := ht
  replace hA : RA rules_xa kinds_xa worths_xa tests_xa code_xa clauses_m codes_m clauseOf_m codeFrom_m codeHalf_m codeTo_m := hA
  replace hk1 : anyKept_x = isKept_m := hk1
  replace hk2 : (isKept_m = 0 ∨ isKept_m = 1) := hk2
  replace hkJ : (isKept_m = 1 → RJ jars_xz space_xz throne_xz day_xz draw_xz kept_m) := hkJ
  replace hkB : (isKept_m = 1 → BJ jars_xz space_xz throne_xz day_xz draw_xz) := hkB
  replace hMN : MNs n nx told_xn layings_xn rows_xn := hMN
  replace hSZ : SZ2 nfound_xn nmarks_xn := hSZ
  replace hb1 : RBk below_xqk := hb1
  replace hb2 : RBk below_xwk := hb2
  replace z1 : nseen_xq ≤ 3937 := z1
  replace z2 : nlayings_xq ≤ 43983 := z2
  replace z3 : nstarts_xq = nlayings_xq := z3
  replace hMF : MFs n nx best_xw jars_xw layings_xw := hMF
  replace z4 : nreached_xw ≤ 43758 := z4
  replace z5 : reached_xw 0 = 0 := z5
  replace hst : states_m = 0 := hst
  replace hsf : (∀ p, p < 262144 → slotFor_m p = 0) := hsf
  replace hlg : (land_xg = .null ∨ land_xg = .ref 20) := hlg
  replace hs : s ≤ 1187040 + 91903 * t + 3 * nfound_xn := hs
  obtain ⟨hG, en1, en2, hx, hx2, hw⟩ := id hL
  subst en1; subst en2; subst hst; subst z3
  have n12 := hG.1
  obtain ⟨r, sp, nw, h1, h2, hJ2, hB2⟩ := room_ok (space := space_xc) (a1 := (xs (i + 1 : Int32).toNatClampNeg)) (a2 := (xs (i + 2 : Int32).toNatClampNeg)) (now := now_m) n12 hJ hB
  refine ⟨_, _, _, _, Exists.intro (r, sp) (Exists.intro (r, nw) ⟨h1, h2, rfl, rfl, rfl, rfl, rfl⟩), Nat.zero_le _, Nat.zero_le _, ?_⟩
  exact Exists.intro n (Exists.intro nx ⟨⟨hG, rfl, rfl, hx, hx2, hw⟩, hT, hJ2, hB2, hz, ht, hA, hk1, hk2, hkJ, hkB, hMN, hSZ, hb1, hb2, z1, z2, rfl, hMF, z4, z5, rfl, hsf, hlg, cell_step hc (Nat.zero_le _), slot_step hs (Nat.zero_le _)⟩)
set_option maxHeartbeats 4000000 in
set_option maxRecDepth 20000 in
theorem st_1 {t c s : Nat} {X : XS} {M : MS} (h : Rel t X M c s) (xs : Nat → Int32) (i : Int32) : ∃ X2 M2 kc ks, St_1 xs i X M X2 M2 kc ks ∧ kc ≤ 100 ∧ ks ≤ 200000 ∧ Rel (t + 1) X2 M2 (c + kc) (s + ks) := by
  obtain ⟨bytes_xt, length_xt, end_xt, at_xt, fault_xt, wells_xr0, next_xr0, ways_xr0, wells_xr1, next_xr1, ways_xr1, wells_xr2, next_xr2, ways_xr2, wells_xrp, next_xrp, ways_xrp, wells_xrx, next_xrx, ways_xrx, wells_xh, next_xh, ways_xh, wells_xf, next_xf, ways_xf, wells_xs, next_xs, ways_xs, wells_xx, next_xx, ways_xx, rules_xa, kinds_xa, worths_xa, tests_xa, code_xa, size_xa, given_xa, stack_xa, rules_xb, kinds_xb, worths_xb, tests_xb, code_xb, size_xb, given_xb, stack_xb, jars_xc, space_xc, throne_xc, day_xc, draw_xc, gone_xc, robbed_xc, jars_xy, space_xy, throne_xy, day_xy, draw_xy, gone_xy, robbed_xy, jars_xz, space_xz, throne_xz, day_xz, draw_xz, gone_xz, robbed_xz, anyKept_x, told_xn, layings_xn, rows_xn, greatestWell_xn, found_xn, nfound_xn, marks_xn, nmarks_xn, shifts_xn, fields_xn, two_xn, full_xn, change_xn, moves_xn, wells_xn, size_xn, levelStart_xn, below_xqk, takenA_xq, takenB_xq, given_xq, nearest_xq, ways_xq, row_xq, moves_xq, seen_xq, nseen_xq, layings_xq, nlayings_xq, starts_xq, nstarts_xq, found_xq, wells_xq, reachable_xq, aim_xq, due_xq, limit_xq, nextLimit_xq, firstMove_xq, below_xwk, row_xw, best_xw, reached_xw, nreached_xw, jars_xw, layings_xw, needs_xo, changes_xo, row_xo, lost_xo, throne_xo, ways_xo, least_xo, most_xo, order_xg, images_xg, looks_xg, twins_xg, land_xg⟩ := X
  obtain ⟨now_m, aside_m, kept_m, nextTo_m, wasNext_m, wells_m, wasWells_m, farOf_m, line_m, tape_m, taped_m, place0_m, length0_m, fault_m, number0_m, open_m, codeMany_m, waiting_m, saidMany_m, clauses_m, said_m, waitsAt_m, saidLetter_m, saidFrom_m, saidHalf_m, saidTo_m, codes_m, clauseOf_m, codeFrom_m, codeHalf_m, codeTo_m, stack_m, facts_m, manyAt_m, nextAt_m, partAt_m, newNext_m, depth_m, newLines_m, newJars_m, stagesNow_m, robbedNow_m, slotFor_m, stateAt_m, slotOf_m, firstAt_m, movesTo_m, states_m, shiftOf_m, widthOf_m, nextIn_m, headOf_m, isVain_m, bitsInAll_m, vainMost_m, vainMany_m, vainGreatest_m, lowestBest_m, laidNow_m, laidBest_m, firstNext_m, secondNext_m, firstMany_m, secondMany_m, chainOf_m, chainAt_m, canWin_m, goneFrom_m, goneTo_m, triedAt_m, leftNow_m, moveFrom_m, moveTo_m, takenFrom_m, takenTo_m, goneMany_m, lostMany_m, moveMany_m, waysNow_m, leastNow_m, mostNow_m, imageOf_m, isKept_m⟩ := M
  obtain ⟨n, nx, hL, hT, hJ, hB, hz, ht, hA, hk1, hk2, hkJ, hkB, hMN, hSZ, hb1, hb2, z1, z2, z3, hMF, z4, z5, hst, hsf, hlg, hc, hs⟩ := h
  replace hL : RL n nx wells_xh next_xh ways_xh wells_m nextTo_m := hL
  replace hT : RT bytes_xt length_xt tape_m taped_m := hT
  replace hJ : RJ jars_xc space_xc throne_xc day_xc draw_xc now_m := hJ
  replace hB : BJ jars_xc space_xc throne_xc day_xc draw_xc := hB
  replace hz : (∀ w, w < 12 → n ≤ w → jars_xc w = 0) := hz
  replace ht : (∃ t, throne_xc = nI t ∧ (t < n ∨ t = 0)) := ht
  replace hA : RA rules_xa kinds_xa worths_xa tests_xa code_xa clauses_m codes_m clauseOf_m codeFrom_m codeHalf_m codeTo_m := hA
  replace hk1 : anyKept_x = isKept_m := hk1
  replace hk2 : (isKept_m = 0 ∨ isKept_m = 1) := hk2
  replace hkJ : (isKept_m = 1 → RJ jars_xz space_xz throne_xz day_xz draw_xz kept_m) := hkJ
  replace hkB : (isKept_m = 1 → BJ jars_xz space_xz throne_xz day_xz draw_xz) := hkB
  replace hMN : MNs n nx told_xn layings_xn rows_xn := hMN
  replace hSZ : SZ2 nfound_xn nmarks_xn := hSZ
  replace hb1 : RBk below_xqk := hb1
  replace hb2 : RBk below_xwk := hb2
  replace z1 : nseen_xq ≤ 3937 := z1
  replace z2 : nlayings_xq ≤ 43983 := z2
  replace z3 : nstarts_xq = nlayings_xq := z3
  replace hMF : MFs n nx best_xw jars_xw layings_xw := hMF
  replace z4 : nreached_xw ≤ 43758 := z4
  replace z5 : reached_xw 0 = 0 := z5
  replace hst : states_m = 0 := hst
  replace hsf : (∀ p, p < 262144 → slotFor_m p = 0) := hsf
  replace hlg : (land_xg = .null ∨ land_xg = .ref 20) := hlg
  replace hs : s ≤ 1187040 + 91903 * t + 3 * nfound_xn := hs
  obtain ⟨hG, en1, en2, hx, hx2, hw⟩ := id hL
  subst en1; subst en2; subst hst; subst z3
  have n12 := hG.1
  obtain ⟨r, th, nw, h1, h2, hJ2, hB2, ht2⟩ := queen_ok (throne := throne_xc) (a1 := (xs (i + 1 : Int32).toNatClampNeg)) (now := now_m) n12 hJ hB ht
  refine ⟨_, _, _, _, Exists.intro (r, th) (Exists.intro (r, nw) ⟨h1, h2, rfl, rfl, rfl, rfl, rfl⟩), Nat.zero_le _, Nat.zero_le _, ?_⟩
  exact Exists.intro n (Exists.intro nx ⟨⟨hG, rfl, rfl, hx, hx2, hw⟩, hT, hJ2, hB2, hz, ht2, hA, hk1, hk2, hkJ, hkB, hMN, hSZ, hb1, hb2, z1, z2, rfl, hMF, z4, z5, rfl, hsf, hlg, cell_step hc (Nat.zero_le _), slot_step hs (Nat.zero_le _)⟩)
set_option maxHeartbeats 4000000 in
set_option maxRecDepth 20000 in
theorem st_2 {t c s : Nat} {X : XS} {M : MS} (h : Rel t X M c s) (xs : Nat → Int32) (i : Int32) : ∃ X2 M2 kc ks, St_2 xs i X M X2 M2 kc ks ∧ kc ≤ 100 ∧ ks ≤ 200000 ∧ Rel (t + 1) X2 M2 (c + kc) (s + ks) := by
  obtain ⟨bytes_xt, length_xt, end_xt, at_xt, fault_xt, wells_xr0, next_xr0, ways_xr0, wells_xr1, next_xr1, ways_xr1, wells_xr2, next_xr2, ways_xr2, wells_xrp, next_xrp, ways_xrp, wells_xrx, next_xrx, ways_xrx, wells_xh, next_xh, ways_xh, wells_xf, next_xf, ways_xf, wells_xs, next_xs, ways_xs, wells_xx, next_xx, ways_xx, rules_xa, kinds_xa, worths_xa, tests_xa, code_xa, size_xa, given_xa, stack_xa, rules_xb, kinds_xb, worths_xb, tests_xb, code_xb, size_xb, given_xb, stack_xb, jars_xc, space_xc, throne_xc, day_xc, draw_xc, gone_xc, robbed_xc, jars_xy, space_xy, throne_xy, day_xy, draw_xy, gone_xy, robbed_xy, jars_xz, space_xz, throne_xz, day_xz, draw_xz, gone_xz, robbed_xz, anyKept_x, told_xn, layings_xn, rows_xn, greatestWell_xn, found_xn, nfound_xn, marks_xn, nmarks_xn, shifts_xn, fields_xn, two_xn, full_xn, change_xn, moves_xn, wells_xn, size_xn, levelStart_xn, below_xqk, takenA_xq, takenB_xq, given_xq, nearest_xq, ways_xq, row_xq, moves_xq, seen_xq, nseen_xq, layings_xq, nlayings_xq, starts_xq, nstarts_xq, found_xq, wells_xq, reachable_xq, aim_xq, due_xq, limit_xq, nextLimit_xq, firstMove_xq, below_xwk, row_xw, best_xw, reached_xw, nreached_xw, jars_xw, layings_xw, needs_xo, changes_xo, row_xo, lost_xo, throne_xo, ways_xo, least_xo, most_xo, order_xg, images_xg, looks_xg, twins_xg, land_xg⟩ := X
  obtain ⟨now_m, aside_m, kept_m, nextTo_m, wasNext_m, wells_m, wasWells_m, farOf_m, line_m, tape_m, taped_m, place0_m, length0_m, fault_m, number0_m, open_m, codeMany_m, waiting_m, saidMany_m, clauses_m, said_m, waitsAt_m, saidLetter_m, saidFrom_m, saidHalf_m, saidTo_m, codes_m, clauseOf_m, codeFrom_m, codeHalf_m, codeTo_m, stack_m, facts_m, manyAt_m, nextAt_m, partAt_m, newNext_m, depth_m, newLines_m, newJars_m, stagesNow_m, robbedNow_m, slotFor_m, stateAt_m, slotOf_m, firstAt_m, movesTo_m, states_m, shiftOf_m, widthOf_m, nextIn_m, headOf_m, isVain_m, bitsInAll_m, vainMost_m, vainMany_m, vainGreatest_m, lowestBest_m, laidNow_m, laidBest_m, firstNext_m, secondNext_m, firstMany_m, secondMany_m, chainOf_m, chainAt_m, canWin_m, goneFrom_m, goneTo_m, triedAt_m, leftNow_m, moveFrom_m, moveTo_m, takenFrom_m, takenTo_m, goneMany_m, lostMany_m, moveMany_m, waysNow_m, leastNow_m, mostNow_m, imageOf_m, isKept_m⟩ := M
  obtain ⟨n, nx, hL, hT, hJ, hB, hz, ht, hA, hk1, hk2, hkJ, hkB, hMN, hSZ, hb1, hb2, z1, z2, z3, hMF, z4, z5, hst, hsf, hlg, hc, hs⟩ := h
  replace hL : RL n nx wells_xh next_xh ways_xh wells_m nextTo_m := hL
  replace hT : RT bytes_xt length_xt tape_m taped_m := hT
  replace hJ : RJ jars_xc space_xc throne_xc day_xc draw_xc now_m := hJ
  replace hB : BJ jars_xc space_xc throne_xc day_xc draw_xc := hB
  replace hz : (∀ w, w < 12 → n ≤ w → jars_xc w = 0) := hz
  replace ht : (∃ t, throne_xc = nI t ∧ (t < n ∨ t = 0)) := ht
  replace hA : RA rules_xa kinds_xa worths_xa tests_xa code_xa clauses_m codes_m clauseOf_m codeFrom_m codeHalf_m codeTo_m := hA
  replace hk1 : anyKept_x = isKept_m := hk1
  replace hk2 : (isKept_m = 0 ∨ isKept_m = 1) := hk2
  replace hkJ : (isKept_m = 1 → RJ jars_xz space_xz throne_xz day_xz draw_xz kept_m) := hkJ
  replace hkB : (isKept_m = 1 → BJ jars_xz space_xz throne_xz day_xz draw_xz) := hkB
  replace hMN : MNs n nx told_xn layings_xn rows_xn := hMN
  replace hSZ : SZ2 nfound_xn nmarks_xn := hSZ
  replace hb1 : RBk below_xqk := hb1
  replace hb2 : RBk below_xwk := hb2
  replace z1 : nseen_xq ≤ 3937 := z1
  replace z2 : nlayings_xq ≤ 43983 := z2
  replace z3 : nstarts_xq = nlayings_xq := z3
  replace hMF : MFs n nx best_xw jars_xw layings_xw := hMF
  replace z4 : nreached_xw ≤ 43758 := z4
  replace z5 : reached_xw 0 = 0 := z5
  replace hst : states_m = 0 := hst
  replace hsf : (∀ p, p < 262144 → slotFor_m p = 0) := hsf
  replace hlg : (land_xg = .null ∨ land_xg = .ref 20) := hlg
  replace hs : s ≤ 1187040 + 91903 * t + 3 * nfound_xn := hs
  obtain ⟨hG, en1, en2, hx, hx2, hw⟩ := id hL
  subst en1; subst en2; subst hst; subst z3
  have n12 := hG.1
  obtain ⟨r, b', l', t', m', h1, h2, hT2⟩ := feed_ok (bytes := bytes_xt) (len := length_xt) (a := (xs (i + 1 : Int32).toNatClampNeg)) (b := (xs (i + 2 : Int32).toNatClampNeg)) (c := (xs (i + 3 : Int32).toNatClampNeg)) (d := (xs (i + 4 : Int32).toNatClampNeg)) (e := (xs (i + 5 : Int32).toNatClampNeg)) (tape := tape_m) (taped := taped_m) hT
  refine ⟨_, _, _, _, Exists.intro (r, b', l') (Exists.intro (r, t', m') ⟨h1, h2, rfl, rfl, rfl, rfl, rfl⟩), Nat.zero_le _, Nat.zero_le _, ?_⟩
  exact Exists.intro n (Exists.intro nx ⟨⟨hG, rfl, rfl, hx, hx2, hw⟩, hT2, hJ, hB, hz, ht, hA, hk1, hk2, hkJ, hkB, hMN, hSZ, hb1, hb2, z1, z2, rfl, hMF, z4, z5, rfl, hsf, hlg, cell_step hc (Nat.zero_le _), slot_step hs (Nat.zero_le _)⟩)
set_option maxHeartbeats 4000000 in
set_option maxRecDepth 20000 in
theorem st_3 {t c s : Nat} {X : XS} {M : MS} (h : Rel t X M c s) (xs : Nat → Int32) (i : Int32) : ∃ X2 M2 kc ks, St_3 xs i X M X2 M2 kc ks ∧ kc ≤ 100 ∧ ks ≤ 200000 ∧ Rel (t + 1) X2 M2 (c + kc) (s + ks) := by
  obtain ⟨bytes_xt, length_xt, end_xt, at_xt, fault_xt, wells_xr0, next_xr0, ways_xr0, wells_xr1, next_xr1, ways_xr1, wells_xr2, next_xr2, ways_xr2, wells_xrp, next_xrp, ways_xrp, wells_xrx, next_xrx, ways_xrx, wells_xh, next_xh, ways_xh, wells_xf, next_xf, ways_xf, wells_xs, next_xs, ways_xs, wells_xx, next_xx, ways_xx, rules_xa, kinds_xa, worths_xa, tests_xa, code_xa, size_xa, given_xa, stack_xa, rules_xb, kinds_xb, worths_xb, tests_xb, code_xb, size_xb, given_xb, stack_xb, jars_xc, space_xc, throne_xc, day_xc, draw_xc, gone_xc, robbed_xc, jars_xy, space_xy, throne_xy, day_xy, draw_xy, gone_xy, robbed_xy, jars_xz, space_xz, throne_xz, day_xz, draw_xz, gone_xz, robbed_xz, anyKept_x, told_xn, layings_xn, rows_xn, greatestWell_xn, found_xn, nfound_xn, marks_xn, nmarks_xn, shifts_xn, fields_xn, two_xn, full_xn, change_xn, moves_xn, wells_xn, size_xn, levelStart_xn, below_xqk, takenA_xq, takenB_xq, given_xq, nearest_xq, ways_xq, row_xq, moves_xq, seen_xq, nseen_xq, layings_xq, nlayings_xq, starts_xq, nstarts_xq, found_xq, wells_xq, reachable_xq, aim_xq, due_xq, limit_xq, nextLimit_xq, firstMove_xq, below_xwk, row_xw, best_xw, reached_xw, nreached_xw, jars_xw, layings_xw, needs_xo, changes_xo, row_xo, lost_xo, throne_xo, ways_xo, least_xo, most_xo, order_xg, images_xg, looks_xg, twins_xg, land_xg⟩ := X
  obtain ⟨now_m, aside_m, kept_m, nextTo_m, wasNext_m, wells_m, wasWells_m, farOf_m, line_m, tape_m, taped_m, place0_m, length0_m, fault_m, number0_m, open_m, codeMany_m, waiting_m, saidMany_m, clauses_m, said_m, waitsAt_m, saidLetter_m, saidFrom_m, saidHalf_m, saidTo_m, codes_m, clauseOf_m, codeFrom_m, codeHalf_m, codeTo_m, stack_m, facts_m, manyAt_m, nextAt_m, partAt_m, newNext_m, depth_m, newLines_m, newJars_m, stagesNow_m, robbedNow_m, slotFor_m, stateAt_m, slotOf_m, firstAt_m, movesTo_m, states_m, shiftOf_m, widthOf_m, nextIn_m, headOf_m, isVain_m, bitsInAll_m, vainMost_m, vainMany_m, vainGreatest_m, lowestBest_m, laidNow_m, laidBest_m, firstNext_m, secondNext_m, firstMany_m, secondMany_m, chainOf_m, chainAt_m, canWin_m, goneFrom_m, goneTo_m, triedAt_m, leftNow_m, moveFrom_m, moveTo_m, takenFrom_m, takenTo_m, goneMany_m, lostMany_m, moveMany_m, waysNow_m, leastNow_m, mostNow_m, imageOf_m, isKept_m⟩ := M
  obtain ⟨n, nx, hL, hT, hJ, hB, hz, ht, hA, hk1, hk2, hkJ, hkB, hMN, hSZ, hb1, hb2, z1, z2, z3, hMF, z4, z5, hst, hsf, hlg, hc, hs⟩ := h
  replace hL : RL n nx wells_xh next_xh ways_xh wells_m nextTo_m := hL
  replace hT : RT bytes_xt length_xt tape_m taped_m := hT
  replace hJ : RJ jars_xc space_xc throne_xc day_xc draw_xc now_m := hJ
  replace hB : BJ jars_xc space_xc throne_xc day_xc draw_xc := hB
  replace hz : (∀ w, w < 12 → n ≤ w → jars_xc w = 0) := hz
  replace ht : (∃ t, throne_xc = nI t ∧ (t < n ∨ t = 0)) := ht
  replace hA : RA rules_xa kinds_xa worths_xa tests_xa code_xa clauses_m codes_m clauseOf_m codeFrom_m codeHalf_m codeTo_m := hA
  replace hk1 : anyKept_x = isKept_m := hk1
  replace hk2 : (isKept_m = 0 ∨ isKept_m = 1) := hk2
  replace hkJ : (isKept_m = 1 → RJ jars_xz space_xz throne_xz day_xz draw_xz kept_m) := hkJ
  replace hkB : (isKept_m = 1 → BJ jars_xz space_xz throne_xz day_xz draw_xz) := hkB
  replace hMN : MNs n nx told_xn layings_xn rows_xn := hMN
  replace hSZ : SZ2 nfound_xn nmarks_xn := hSZ
  replace hb1 : RBk below_xqk := hb1
  replace hb2 : RBk below_xwk := hb2
  replace z1 : nseen_xq ≤ 3937 := z1
  replace z2 : nlayings_xq ≤ 43983 := z2
  replace z3 : nstarts_xq = nlayings_xq := z3
  replace hMF : MFs n nx best_xw jars_xw layings_xw := hMF
  replace z4 : nreached_xw ≤ 43758 := z4
  replace z5 : reached_xw 0 = 0 := z5
  replace hst : states_m = 0 := hst
  replace hsf : (∀ p, p < 262144 → slotFor_m p = 0) := hsf
  replace hlg : (land_xg = .null ∨ land_xg = .ref 20) := hlg
  replace hs : s ≤ 1187040 + 91903 * t + 3 * nfound_xn := hs
  obtain ⟨hG, en1, en2, hx, hx2, hw⟩ := id hL
  subst en1; subst en2; subst hst; subst z3
  have n12 := hG.1
  obtain ⟨r, l', e', p', f', ra', ka', wa', ta', ca', sa', ga', sta', rb', kb', wb', tb', cb', sb', gb', stb', tp', pl', l0', fm', num', op', cm', wt', sm', clauses', said', waits', letter', from', half', to', codes', clauseOf', cfrom', chalf', cto', h1, h2, hT2, hA2⟩ := law_ok (bytes := bytes_xt) (len := length_xt) (en := end_xt) (at_ := at_xt) (fa := fault_xt) (ra := rules_xa) (ka := kinds_xa) (wa := worths_xa) (ta := tests_xa) (ca := code_xa) (sa := size_xa) (ga := given_xa) (sta := stack_xa) (rb := rules_xb) (kb := kinds_xb) (wb := worths_xb) (tb := tests_xb) (cb := code_xb) (sb := size_xb) (gb := given_xb) (stb := stack_xb) (a1 := (xs (i + 1 : Int32).toNatClampNeg)) (tape := tape_m) (taped := taped_m) (pl := place0_m) (l0 := length0_m) (fm := fault_m) (num := number0_m) (op := open_m) (cm := codeMany_m) (wt := waiting_m) (sm := saidMany_m) (clauses := clauses_m) (said := said_m) (waitsAt := waitsAt_m) (letter := saidLetter_m) (from_ := saidFrom_m) (half := saidHalf_m) (to_ := saidTo_m) (codes := codes_m) (clauseOf := clauseOf_m) (cfrom := codeFrom_m) (chalf := codeHalf_m) (cto := codeTo_m) hT 100 200000 hA
  refine ⟨_, _, _, _, Exists.intro (r, l', e', p', f', ra', ka', wa', ta', ca', sa', ga', sta', rb', kb', wb', tb', cb', sb', gb', stb', 0, 0) (Exists.intro (r, tp', pl', l0', fm', num', op', cm', wt', sm', clauses', said', waits', letter', from', half', to', codes', clauseOf', cfrom', chalf', cto') ⟨h1, h2, rfl, rfl, rfl, rfl, rfl⟩), Nat.zero_le _, Nat.zero_le _, ?_⟩
  exact Exists.intro n (Exists.intro nx ⟨⟨hG, rfl, rfl, hx, hx2, hw⟩, hT2, hJ, hB, hz, ht, hA2, hk1, hk2, hkJ, hkB, hMN, hSZ, hb1, hb2, z1, z2, rfl, hMF, z4, z5, rfl, hsf, hlg, cell_step hc (Nat.zero_le _), slot_step hs (Nat.zero_le _)⟩)
set_option maxHeartbeats 4000000 in
set_option maxRecDepth 20000 in
theorem st_4 {t c s : Nat} {X : XS} {M : MS} (h : Rel t X M c s) (xs : Nat → Int32) (i : Int32) : ∃ X2 M2 kc ks, St_4 xs i X M X2 M2 kc ks ∧ kc ≤ 100 ∧ ks ≤ 200000 ∧ Rel (t + 1) X2 M2 (c + kc) (s + ks) := by
  obtain ⟨bytes_xt, length_xt, end_xt, at_xt, fault_xt, wells_xr0, next_xr0, ways_xr0, wells_xr1, next_xr1, ways_xr1, wells_xr2, next_xr2, ways_xr2, wells_xrp, next_xrp, ways_xrp, wells_xrx, next_xrx, ways_xrx, wells_xh, next_xh, ways_xh, wells_xf, next_xf, ways_xf, wells_xs, next_xs, ways_xs, wells_xx, next_xx, ways_xx, rules_xa, kinds_xa, worths_xa, tests_xa, code_xa, size_xa, given_xa, stack_xa, rules_xb, kinds_xb, worths_xb, tests_xb, code_xb, size_xb, given_xb, stack_xb, jars_xc, space_xc, throne_xc, day_xc, draw_xc, gone_xc, robbed_xc, jars_xy, space_xy, throne_xy, day_xy, draw_xy, gone_xy, robbed_xy, jars_xz, space_xz, throne_xz, day_xz, draw_xz, gone_xz, robbed_xz, anyKept_x, told_xn, layings_xn, rows_xn, greatestWell_xn, found_xn, nfound_xn, marks_xn, nmarks_xn, shifts_xn, fields_xn, two_xn, full_xn, change_xn, moves_xn, wells_xn, size_xn, levelStart_xn, below_xqk, takenA_xq, takenB_xq, given_xq, nearest_xq, ways_xq, row_xq, moves_xq, seen_xq, nseen_xq, layings_xq, nlayings_xq, starts_xq, nstarts_xq, found_xq, wells_xq, reachable_xq, aim_xq, due_xq, limit_xq, nextLimit_xq, firstMove_xq, below_xwk, row_xw, best_xw, reached_xw, nreached_xw, jars_xw, layings_xw, needs_xo, changes_xo, row_xo, lost_xo, throne_xo, ways_xo, least_xo, most_xo, order_xg, images_xg, looks_xg, twins_xg, land_xg⟩ := X
  obtain ⟨now_m, aside_m, kept_m, nextTo_m, wasNext_m, wells_m, wasWells_m, farOf_m, line_m, tape_m, taped_m, place0_m, length0_m, fault_m, number0_m, open_m, codeMany_m, waiting_m, saidMany_m, clauses_m, said_m, waitsAt_m, saidLetter_m, saidFrom_m, saidHalf_m, saidTo_m, codes_m, clauseOf_m, codeFrom_m, codeHalf_m, codeTo_m, stack_m, facts_m, manyAt_m, nextAt_m, partAt_m, newNext_m, depth_m, newLines_m, newJars_m, stagesNow_m, robbedNow_m, slotFor_m, stateAt_m, slotOf_m, firstAt_m, movesTo_m, states_m, shiftOf_m, widthOf_m, nextIn_m, headOf_m, isVain_m, bitsInAll_m, vainMost_m, vainMany_m, vainGreatest_m, lowestBest_m, laidNow_m, laidBest_m, firstNext_m, secondNext_m, firstMany_m, secondMany_m, chainOf_m, chainAt_m, canWin_m, goneFrom_m, goneTo_m, triedAt_m, leftNow_m, moveFrom_m, moveTo_m, takenFrom_m, takenTo_m, goneMany_m, lostMany_m, moveMany_m, waysNow_m, leastNow_m, mostNow_m, imageOf_m, isKept_m⟩ := M
  obtain ⟨n, nx, hL, hT, hJ, hB, hz, ht, hA, hk1, hk2, hkJ, hkB, hMN, hSZ, hb1, hb2, z1, z2, z3, hMF, z4, z5, hst, hsf, hlg, hc, hs⟩ := h
  replace hL : RL n nx wells_xh next_xh ways_xh wells_m nextTo_m := hL
  replace hT : RT bytes_xt length_xt tape_m taped_m := hT
  replace hJ : RJ jars_xc space_xc throne_xc day_xc draw_xc now_m := hJ
  replace hB : BJ jars_xc space_xc throne_xc day_xc draw_xc := hB
  replace hz : (∀ w, w < 12 → n ≤ w → jars_xc w = 0) := hz
  replace ht : (∃ t, throne_xc = nI t ∧ (t < n ∨ t = 0)) := ht
  replace hA : RA rules_xa kinds_xa worths_xa tests_xa code_xa clauses_m codes_m clauseOf_m codeFrom_m codeHalf_m codeTo_m := hA
  replace hk1 : anyKept_x = isKept_m := hk1
  replace hk2 : (isKept_m = 0 ∨ isKept_m = 1) := hk2
  replace hkJ : (isKept_m = 1 → RJ jars_xz space_xz throne_xz day_xz draw_xz kept_m) := hkJ
  replace hkB : (isKept_m = 1 → BJ jars_xz space_xz throne_xz day_xz draw_xz) := hkB
  replace hMN : MNs n nx told_xn layings_xn rows_xn := hMN
  replace hSZ : SZ2 nfound_xn nmarks_xn := hSZ
  replace hb1 : RBk below_xqk := hb1
  replace hb2 : RBk below_xwk := hb2
  replace z1 : nseen_xq ≤ 3937 := z1
  replace z2 : nlayings_xq ≤ 43983 := z2
  replace z3 : nstarts_xq = nlayings_xq := z3
  replace hMF : MFs n nx best_xw jars_xw layings_xw := hMF
  replace z4 : nreached_xw ≤ 43758 := z4
  replace z5 : reached_xw 0 = 0 := z5
  replace hst : states_m = 0 := hst
  replace hsf : (∀ p, p < 262144 → slotFor_m p = 0) := hsf
  replace hlg : (land_xg = .null ∨ land_xg = .ref 20) := hlg
  replace hs : s ≤ 1187040 + 91903 * t + 3 * nfound_xn := hs
  obtain ⟨hG, en1, en2, hx, hx2, hw⟩ := id hL
  subst en1; subst en2; subst hst; subst z3
  have n12 := hG.1
  obtain ⟨r, l', e', p', f', w0', n0', w1', n1', w2', n2', wp', np', wx', xx', wells', next', ways', jars', space', throne', told', lay', now', nextTo', wm', tp', pl', l0', fm', num', cm', sm', many', nextAt', part', new', dep', nl', h1, h2, hT2, hJ2, hB2, n', nx', hL2, hz2, ht2, hM⟩ := land_ok (bytes := bytes_xt) (len := length_xt) (en := end_xt) (at_ := at_xt) (fa := fault_xt) (w0 := wells_xr0) (n0 := next_xr0) (w1 := wells_xr1) (n1 := next_xr1) (w2 := wells_xr2) (n2 := next_xr2) (wp := wells_xrp) (np := next_xrp) (wx := wells_xrx) (xx := next_xrx) (wells := (nI n)) (next := next_xh) (ways := ways_xh) (jars := jars_xc) (space := space_xc) (throne := throne_xc) (told := told_xn) (lay := layings_xw) (a1 := (xs (i + 1 : Int32).toNatClampNeg)) (now := now_m) (nextTo := nextTo_m) (wm := (nI n)) (tape := tape_m) (taped := taped_m) (pl := place0_m) (l0 := length0_m) (fm := fault_m) (num := number0_m) (cm := codeMany_m) (sm := saidMany_m) (many := manyAt_m) (nextAt := nextAt_m) (part := partAt_m) (new := newNext_m) (dep := depth_m) (nl := newLines_m) hL hT hJ hB hz ht
  have hMN2 : MNs n' nx' told' layings_xn rows_xn := by
    rcases hM with ⟨e1, e2, e3, e4⟩ | ⟨e1, e2, e3⟩
    · rw [e1, e2, e3]; exact hMN
    · exact fun w hw => Or.inl (e2 w (by have := hL2.1.1; omega))
  have hMF2 : MFs n' nx' best_xw jars_xw lay' := by
    rcases hM with ⟨e1, e2, e3, e4⟩ | ⟨e1, e2, e3⟩
    · rw [e1, e2, e4]; exact hMF
    · exact Or.inl e3
  refine ⟨_, _, _, _, Exists.intro (r, l', e', p', f', w0', n0', w1', n1', w2', n2', wp', np', wx', xx', wells', next', ways', jars', space', throne', told', lay') (Exists.intro (r, now', nextTo', wm', tp', pl', l0', fm', num', cm', sm', many', nextAt', part', new', dep', nl') ⟨h1, h2, rfl, rfl, rfl, rfl, rfl⟩), Nat.zero_le _, Nat.zero_le _, ?_⟩
  exact Exists.intro n' (Exists.intro nx' ⟨hL2, hT2, hJ2, hB2, hz2, ht2, hA, hk1, hk2, hkJ, hkB, hMN2, hSZ, hb1, hb2, z1, z2, rfl, hMF2, z4, z5, rfl, hsf, hlg, cell_step hc (Nat.zero_le _), slot_step hs (Nat.zero_le _)⟩)
set_option maxHeartbeats 4000000 in
set_option maxRecDepth 20000 in
theorem st_5 {t c s : Nat} {X : XS} {M : MS} (h : Rel t X M c s) (xs : Nat → Int32) (i : Int32) : ∃ X2 M2 kc ks, St_5 xs i X M X2 M2 kc ks ∧ kc ≤ 100 ∧ ks ≤ 200000 ∧ Rel (t + 1) X2 M2 (c + kc) (s + ks) := by
  obtain ⟨bytes_xt, length_xt, end_xt, at_xt, fault_xt, wells_xr0, next_xr0, ways_xr0, wells_xr1, next_xr1, ways_xr1, wells_xr2, next_xr2, ways_xr2, wells_xrp, next_xrp, ways_xrp, wells_xrx, next_xrx, ways_xrx, wells_xh, next_xh, ways_xh, wells_xf, next_xf, ways_xf, wells_xs, next_xs, ways_xs, wells_xx, next_xx, ways_xx, rules_xa, kinds_xa, worths_xa, tests_xa, code_xa, size_xa, given_xa, stack_xa, rules_xb, kinds_xb, worths_xb, tests_xb, code_xb, size_xb, given_xb, stack_xb, jars_xc, space_xc, throne_xc, day_xc, draw_xc, gone_xc, robbed_xc, jars_xy, space_xy, throne_xy, day_xy, draw_xy, gone_xy, robbed_xy, jars_xz, space_xz, throne_xz, day_xz, draw_xz, gone_xz, robbed_xz, anyKept_x, told_xn, layings_xn, rows_xn, greatestWell_xn, found_xn, nfound_xn, marks_xn, nmarks_xn, shifts_xn, fields_xn, two_xn, full_xn, change_xn, moves_xn, wells_xn, size_xn, levelStart_xn, below_xqk, takenA_xq, takenB_xq, given_xq, nearest_xq, ways_xq, row_xq, moves_xq, seen_xq, nseen_xq, layings_xq, nlayings_xq, starts_xq, nstarts_xq, found_xq, wells_xq, reachable_xq, aim_xq, due_xq, limit_xq, nextLimit_xq, firstMove_xq, below_xwk, row_xw, best_xw, reached_xw, nreached_xw, jars_xw, layings_xw, needs_xo, changes_xo, row_xo, lost_xo, throne_xo, ways_xo, least_xo, most_xo, order_xg, images_xg, looks_xg, twins_xg, land_xg⟩ := X
  obtain ⟨now_m, aside_m, kept_m, nextTo_m, wasNext_m, wells_m, wasWells_m, farOf_m, line_m, tape_m, taped_m, place0_m, length0_m, fault_m, number0_m, open_m, codeMany_m, waiting_m, saidMany_m, clauses_m, said_m, waitsAt_m, saidLetter_m, saidFrom_m, saidHalf_m, saidTo_m, codes_m, clauseOf_m, codeFrom_m, codeHalf_m, codeTo_m, stack_m, facts_m, manyAt_m, nextAt_m, partAt_m, newNext_m, depth_m, newLines_m, newJars_m, stagesNow_m, robbedNow_m, slotFor_m, stateAt_m, slotOf_m, firstAt_m, movesTo_m, states_m, shiftOf_m, widthOf_m, nextIn_m, headOf_m, isVain_m, bitsInAll_m, vainMost_m, vainMany_m, vainGreatest_m, lowestBest_m, laidNow_m, laidBest_m, firstNext_m, secondNext_m, firstMany_m, secondMany_m, chainOf_m, chainAt_m, canWin_m, goneFrom_m, goneTo_m, triedAt_m, leftNow_m, moveFrom_m, moveTo_m, takenFrom_m, takenTo_m, goneMany_m, lostMany_m, moveMany_m, waysNow_m, leastNow_m, mostNow_m, imageOf_m, isKept_m⟩ := M
  obtain ⟨n, nx, hL, hT, hJ, hB, hz, ht, hA, hk1, hk2, hkJ, hkB, hMN, hSZ, hb1, hb2, z1, z2, z3, hMF, z4, z5, hst, hsf, hlg, hc, hs⟩ := h
  replace hL : RL n nx wells_xh next_xh ways_xh wells_m nextTo_m := hL
  replace hT : RT bytes_xt length_xt tape_m taped_m := hT
  replace hJ : RJ jars_xc space_xc throne_xc day_xc draw_xc now_m := hJ
  replace hB : BJ jars_xc space_xc throne_xc day_xc draw_xc := hB
  replace hz : (∀ w, w < 12 → n ≤ w → jars_xc w = 0) := hz
  replace ht : (∃ t, throne_xc = nI t ∧ (t < n ∨ t = 0)) := ht
  replace hA : RA rules_xa kinds_xa worths_xa tests_xa code_xa clauses_m codes_m clauseOf_m codeFrom_m codeHalf_m codeTo_m := hA
  replace hk1 : anyKept_x = isKept_m := hk1
  replace hk2 : (isKept_m = 0 ∨ isKept_m = 1) := hk2
  replace hkJ : (isKept_m = 1 → RJ jars_xz space_xz throne_xz day_xz draw_xz kept_m) := hkJ
  replace hkB : (isKept_m = 1 → BJ jars_xz space_xz throne_xz day_xz draw_xz) := hkB
  replace hMN : MNs n nx told_xn layings_xn rows_xn := hMN
  replace hSZ : SZ2 nfound_xn nmarks_xn := hSZ
  replace hb1 : RBk below_xqk := hb1
  replace hb2 : RBk below_xwk := hb2
  replace z1 : nseen_xq ≤ 3937 := z1
  replace z2 : nlayings_xq ≤ 43983 := z2
  replace z3 : nstarts_xq = nlayings_xq := z3
  replace hMF : MFs n nx best_xw jars_xw layings_xw := hMF
  replace z4 : nreached_xw ≤ 43758 := z4
  replace z5 : reached_xw 0 = 0 := z5
  replace hst : states_m = 0 := hst
  replace hsf : (∀ p, p < 262144 → slotFor_m p = 0) := hsf
  replace hlg : (land_xg = .null ∨ land_xg = .ref 20) := hlg
  replace hs : s ≤ 1187040 + 91903 * t + 3 * nfound_xn := hs
  obtain ⟨hG, en1, en2, hx, hx2, hw⟩ := id hL
  subst en1; subst en2; subst hst; subst z3
  have n12 := hG.1
  obtain ⟨r, l', e', p', f', jars', jy', now', m', q1, q2, q3, q4, q5, q6, q7, h1, h2, hT2, hJ2, hB2, hz2⟩ := laying_ok (bytes := bytes_xt) (len := length_xt) (en := end_xt) (at_ := at_xt) (fa := fault_xt) (jars := jars_xc) (jy := jars_xy) (a1 := (xs (i + 1 : Int32).toNatClampNeg)) (now := now_m) (tape := tape_m) (taped := taped_m) (pl := place0_m) (l0 := length0_m) (fm := fault_m) (num := number0_m) (cm := codeMany_m) (sm := saidMany_m) (nj := newJars_m) n12 hT hJ hB hz
  refine ⟨_, _, _, _, Exists.intro (r, l', e', p', f', jars', jy') (Exists.intro (r, now', m', q1, q2, q3, q4, q5, q6, q7) ⟨h1, h2, rfl, rfl, rfl, rfl, rfl⟩), Nat.zero_le _, Nat.zero_le _, ?_⟩
  exact Exists.intro n (Exists.intro nx ⟨⟨hG, rfl, rfl, hx, hx2, hw⟩, hT2, hJ2, hB2, hz2, ht, hA, hk1, hk2, hkJ, hkB, hMN, hSZ, hb1, hb2, z1, z2, rfl, hMF, z4, z5, rfl, hsf, hlg, cell_step hc (Nat.zero_le _), slot_step hs (Nat.zero_le _)⟩)
set_option maxHeartbeats 4000000 in
set_option maxRecDepth 20000 in
theorem st_6 {t c s : Nat} {X : XS} {M : MS} (h : Rel t X M c s) (xs : Nat → Int32) (i : Int32) : ∃ X2 M2 kc ks, St_6 xs i X M X2 M2 kc ks ∧ kc ≤ 100 ∧ ks ≤ 200000 ∧ Rel (t + 1) X2 M2 (c + kc) (s + ks) := by
  obtain ⟨bytes_xt, length_xt, end_xt, at_xt, fault_xt, wells_xr0, next_xr0, ways_xr0, wells_xr1, next_xr1, ways_xr1, wells_xr2, next_xr2, ways_xr2, wells_xrp, next_xrp, ways_xrp, wells_xrx, next_xrx, ways_xrx, wells_xh, next_xh, ways_xh, wells_xf, next_xf, ways_xf, wells_xs, next_xs, ways_xs, wells_xx, next_xx, ways_xx, rules_xa, kinds_xa, worths_xa, tests_xa, code_xa, size_xa, given_xa, stack_xa, rules_xb, kinds_xb, worths_xb, tests_xb, code_xb, size_xb, given_xb, stack_xb, jars_xc, space_xc, throne_xc, day_xc, draw_xc, gone_xc, robbed_xc, jars_xy, space_xy, throne_xy, day_xy, draw_xy, gone_xy, robbed_xy, jars_xz, space_xz, throne_xz, day_xz, draw_xz, gone_xz, robbed_xz, anyKept_x, told_xn, layings_xn, rows_xn, greatestWell_xn, found_xn, nfound_xn, marks_xn, nmarks_xn, shifts_xn, fields_xn, two_xn, full_xn, change_xn, moves_xn, wells_xn, size_xn, levelStart_xn, below_xqk, takenA_xq, takenB_xq, given_xq, nearest_xq, ways_xq, row_xq, moves_xq, seen_xq, nseen_xq, layings_xq, nlayings_xq, starts_xq, nstarts_xq, found_xq, wells_xq, reachable_xq, aim_xq, due_xq, limit_xq, nextLimit_xq, firstMove_xq, below_xwk, row_xw, best_xw, reached_xw, nreached_xw, jars_xw, layings_xw, needs_xo, changes_xo, row_xo, lost_xo, throne_xo, ways_xo, least_xo, most_xo, order_xg, images_xg, looks_xg, twins_xg, land_xg⟩ := X
  obtain ⟨now_m, aside_m, kept_m, nextTo_m, wasNext_m, wells_m, wasWells_m, farOf_m, line_m, tape_m, taped_m, place0_m, length0_m, fault_m, number0_m, open_m, codeMany_m, waiting_m, saidMany_m, clauses_m, said_m, waitsAt_m, saidLetter_m, saidFrom_m, saidHalf_m, saidTo_m, codes_m, clauseOf_m, codeFrom_m, codeHalf_m, codeTo_m, stack_m, facts_m, manyAt_m, nextAt_m, partAt_m, newNext_m, depth_m, newLines_m, newJars_m, stagesNow_m, robbedNow_m, slotFor_m, stateAt_m, slotOf_m, firstAt_m, movesTo_m, states_m, shiftOf_m, widthOf_m, nextIn_m, headOf_m, isVain_m, bitsInAll_m, vainMost_m, vainMany_m, vainGreatest_m, lowestBest_m, laidNow_m, laidBest_m, firstNext_m, secondNext_m, firstMany_m, secondMany_m, chainOf_m, chainAt_m, canWin_m, goneFrom_m, goneTo_m, triedAt_m, leftNow_m, moveFrom_m, moveTo_m, takenFrom_m, takenTo_m, goneMany_m, lostMany_m, moveMany_m, waysNow_m, leastNow_m, mostNow_m, imageOf_m, isKept_m⟩ := M
  obtain ⟨n, nx, hL, hT, hJ, hB, hz, ht, hA, hk1, hk2, hkJ, hkB, hMN, hSZ, hb1, hb2, z1, z2, z3, hMF, z4, z5, hst, hsf, hlg, hc, hs⟩ := h
  replace hL : RL n nx wells_xh next_xh ways_xh wells_m nextTo_m := hL
  replace hT : RT bytes_xt length_xt tape_m taped_m := hT
  replace hJ : RJ jars_xc space_xc throne_xc day_xc draw_xc now_m := hJ
  replace hB : BJ jars_xc space_xc throne_xc day_xc draw_xc := hB
  replace hz : (∀ w, w < 12 → n ≤ w → jars_xc w = 0) := hz
  replace ht : (∃ t, throne_xc = nI t ∧ (t < n ∨ t = 0)) := ht
  replace hA : RA rules_xa kinds_xa worths_xa tests_xa code_xa clauses_m codes_m clauseOf_m codeFrom_m codeHalf_m codeTo_m := hA
  replace hk1 : anyKept_x = isKept_m := hk1
  replace hk2 : (isKept_m = 0 ∨ isKept_m = 1) := hk2
  replace hkJ : (isKept_m = 1 → RJ jars_xz space_xz throne_xz day_xz draw_xz kept_m) := hkJ
  replace hkB : (isKept_m = 1 → BJ jars_xz space_xz throne_xz day_xz draw_xz) := hkB
  replace hMN : MNs n nx told_xn layings_xn rows_xn := hMN
  replace hSZ : SZ2 nfound_xn nmarks_xn := hSZ
  replace hb1 : RBk below_xqk := hb1
  replace hb2 : RBk below_xwk := hb2
  replace z1 : nseen_xq ≤ 3937 := z1
  replace z2 : nlayings_xq ≤ 43983 := z2
  replace z3 : nstarts_xq = nlayings_xq := z3
  replace hMF : MFs n nx best_xw jars_xw layings_xw := hMF
  replace z4 : nreached_xw ≤ 43758 := z4
  replace z5 : reached_xw 0 = 0 := z5
  replace hst : states_m = 0 := hst
  replace hsf : (∀ p, p < 262144 → slotFor_m p = 0) := hsf
  replace hlg : (land_xg = .null ∨ land_xg = .ref 20) := hlg
  replace hs : s ≤ 1187040 + 91903 * t + 3 * nfound_xn := hs
  obtain ⟨hG, en1, en2, hx, hx2, hw⟩ := id hL
  subst en1; subst en2; subst hst; subst z3
  have n12 := hG.1
  obtain ⟨r, g', cs', jars', day', draw', gone', robbed', now', far', line', rs', f', st', rb', h1, h2, hJ2, hB2, hz2⟩ := days_ok (wells := (nI n)) (next := next_xh) (ways := ways_xh) (ra := rules_xa) (kinds := kinds_xa) (worths := worths_xa) (tests := tests_xa) (code := code_xa) (g0 := given_xa) (cs := stack_xa) (jars := jars_xc) (space := space_xc) (throne := throne_xc) (day := day_xc) (draw := draw_xc) (gone := gone_xc) (robbed := robbed_xc) (a1 := (xs (i + 1 : Int32).toNatClampNeg)) (now := now_m) (nextTo := nextTo_m) (wm := (nI n)) (far0 := farOf_m) (line0 := line_m) (cl := clauses_m) (codes := codes_m) (clauseOf := clauseOf_m) (from_ := codeFrom_m) (half := codeHalf_m) (to_ := codeTo_m) (rs := stack_m) (facts := facts_m) (st0 := stagesNow_m) (rb0 := robbedNow_m) hL hA hJ hB hz ht
  refine ⟨_, _, _, _, Exists.intro (r, g', cs', jars', day', draw', gone', robbed') (Exists.intro (r, now', far', line', rs', f', st', rb') ⟨h1, h2, rfl, rfl, rfl, rfl, rfl⟩), Nat.zero_le _, Nat.zero_le _, ?_⟩
  exact Exists.intro n (Exists.intro nx ⟨⟨hG, rfl, rfl, hx, hx2, hw⟩, hT, hJ2, hB2, hz2, ht, hA, hk1, hk2, hkJ, hkB, hMN, hSZ, hb1, hb2, z1, z2, rfl, hMF, z4, z5, rfl, hsf, hlg, cell_step hc (Nat.zero_le _), slot_step hs (Nat.zero_le _)⟩)
set_option maxHeartbeats 4000000 in
set_option maxRecDepth 20000 in
theorem st_7 {t c s : Nat} {X : XS} {M : MS} (h : Rel t X M c s) (xs : Nat → Int32) (i : Int32) : ∃ X2 M2 kc ks, St_7 xs i X M X2 M2 kc ks ∧ kc ≤ 100 ∧ ks ≤ 200000 ∧ Rel (t + 1) X2 M2 (c + kc) (s + ks) := by
  obtain ⟨bytes_xt, length_xt, end_xt, at_xt, fault_xt, wells_xr0, next_xr0, ways_xr0, wells_xr1, next_xr1, ways_xr1, wells_xr2, next_xr2, ways_xr2, wells_xrp, next_xrp, ways_xrp, wells_xrx, next_xrx, ways_xrx, wells_xh, next_xh, ways_xh, wells_xf, next_xf, ways_xf, wells_xs, next_xs, ways_xs, wells_xx, next_xx, ways_xx, rules_xa, kinds_xa, worths_xa, tests_xa, code_xa, size_xa, given_xa, stack_xa, rules_xb, kinds_xb, worths_xb, tests_xb, code_xb, size_xb, given_xb, stack_xb, jars_xc, space_xc, throne_xc, day_xc, draw_xc, gone_xc, robbed_xc, jars_xy, space_xy, throne_xy, day_xy, draw_xy, gone_xy, robbed_xy, jars_xz, space_xz, throne_xz, day_xz, draw_xz, gone_xz, robbed_xz, anyKept_x, told_xn, layings_xn, rows_xn, greatestWell_xn, found_xn, nfound_xn, marks_xn, nmarks_xn, shifts_xn, fields_xn, two_xn, full_xn, change_xn, moves_xn, wells_xn, size_xn, levelStart_xn, below_xqk, takenA_xq, takenB_xq, given_xq, nearest_xq, ways_xq, row_xq, moves_xq, seen_xq, nseen_xq, layings_xq, nlayings_xq, starts_xq, nstarts_xq, found_xq, wells_xq, reachable_xq, aim_xq, due_xq, limit_xq, nextLimit_xq, firstMove_xq, below_xwk, row_xw, best_xw, reached_xw, nreached_xw, jars_xw, layings_xw, needs_xo, changes_xo, row_xo, lost_xo, throne_xo, ways_xo, least_xo, most_xo, order_xg, images_xg, looks_xg, twins_xg, land_xg⟩ := X
  obtain ⟨now_m, aside_m, kept_m, nextTo_m, wasNext_m, wells_m, wasWells_m, farOf_m, line_m, tape_m, taped_m, place0_m, length0_m, fault_m, number0_m, open_m, codeMany_m, waiting_m, saidMany_m, clauses_m, said_m, waitsAt_m, saidLetter_m, saidFrom_m, saidHalf_m, saidTo_m, codes_m, clauseOf_m, codeFrom_m, codeHalf_m, codeTo_m, stack_m, facts_m, manyAt_m, nextAt_m, partAt_m, newNext_m, depth_m, newLines_m, newJars_m, stagesNow_m, robbedNow_m, slotFor_m, stateAt_m, slotOf_m, firstAt_m, movesTo_m, states_m, shiftOf_m, widthOf_m, nextIn_m, headOf_m, isVain_m, bitsInAll_m, vainMost_m, vainMany_m, vainGreatest_m, lowestBest_m, laidNow_m, laidBest_m, firstNext_m, secondNext_m, firstMany_m, secondMany_m, chainOf_m, chainAt_m, canWin_m, goneFrom_m, goneTo_m, triedAt_m, leftNow_m, moveFrom_m, moveTo_m, takenFrom_m, takenTo_m, goneMany_m, lostMany_m, moveMany_m, waysNow_m, leastNow_m, mostNow_m, imageOf_m, isKept_m⟩ := M
  obtain ⟨n, nx, hL, hT, hJ, hB, hz, ht, hA, hk1, hk2, hkJ, hkB, hMN, hSZ, hb1, hb2, z1, z2, z3, hMF, z4, z5, hst, hsf, hlg, hc, hs⟩ := h
  replace hL : RL n nx wells_xh next_xh ways_xh wells_m nextTo_m := hL
  replace hT : RT bytes_xt length_xt tape_m taped_m := hT
  replace hJ : RJ jars_xc space_xc throne_xc day_xc draw_xc now_m := hJ
  replace hB : BJ jars_xc space_xc throne_xc day_xc draw_xc := hB
  replace hz : (∀ w, w < 12 → n ≤ w → jars_xc w = 0) := hz
  replace ht : (∃ t, throne_xc = nI t ∧ (t < n ∨ t = 0)) := ht
  replace hA : RA rules_xa kinds_xa worths_xa tests_xa code_xa clauses_m codes_m clauseOf_m codeFrom_m codeHalf_m codeTo_m := hA
  replace hk1 : anyKept_x = isKept_m := hk1
  replace hk2 : (isKept_m = 0 ∨ isKept_m = 1) := hk2
  replace hkJ : (isKept_m = 1 → RJ jars_xz space_xz throne_xz day_xz draw_xz kept_m) := hkJ
  replace hkB : (isKept_m = 1 → BJ jars_xz space_xz throne_xz day_xz draw_xz) := hkB
  replace hMN : MNs n nx told_xn layings_xn rows_xn := hMN
  replace hSZ : SZ2 nfound_xn nmarks_xn := hSZ
  replace hb1 : RBk below_xqk := hb1
  replace hb2 : RBk below_xwk := hb2
  replace z1 : nseen_xq ≤ 3937 := z1
  replace z2 : nlayings_xq ≤ 43983 := z2
  replace z3 : nstarts_xq = nlayings_xq := z3
  replace hMF : MFs n nx best_xw jars_xw layings_xw := hMF
  replace z4 : nreached_xw ≤ 43758 := z4
  replace z5 : reached_xw 0 = 0 := z5
  replace hst : states_m = 0 := hst
  replace hsf : (∀ p, p < 262144 → slotFor_m p = 0) := hsf
  replace hlg : (land_xg = .null ∨ land_xg = .ref 20) := hlg
  replace hs : s ≤ 1187040 + 91903 * t + 3 * nfound_xn := hs
  obtain ⟨hG, en1, en2, hx, hx2, hw⟩ := id hL
  subst en1; subst en2; subst hst; subst z3
  have n12 := hG.1
  obtain ⟨r, g', cs', jy', sy', ty', dy', wy', gone', robbed', now', aside', far', line', rs', f', st', rb', h1, h2, hJ2⟩ := tried_ok (wells := (nI n)) (next := next_xh) (ways := ways_xh) (ra := rules_xa) (kinds := kinds_xa) (worths := worths_xa) (tests := tests_xa) (code := code_xa) (g0 := given_xa) (cs := stack_xa) (jars := jars_xc) (space := space_xc) (throne := throne_xc) (day := day_xc) (draw := draw_xc) (jy := jars_xy) (sy := space_xy) (ty := throne_xy) (dy := day_xy) (wy := draw_xy) (gone := gone_xy) (robbed := robbed_xy) (a1 := (xs (i + 1 : Int32).toNatClampNeg)) (a2 := (xs (i + 2 : Int32).toNatClampNeg)) (now := now_m) (aside := aside_m) (nextTo := nextTo_m) (wm := (nI n)) (far0 := farOf_m) (line0 := line_m) (cl := clauses_m) (codes := codes_m) (clauseOf := clauseOf_m) (from_ := codeFrom_m) (half := codeHalf_m) (to_ := codeTo_m) (rs := stack_m) (facts := facts_m) (st0 := stagesNow_m) (rb0 := robbedNow_m) hL hA hJ hB hz ht
  refine ⟨_, _, _, _, Exists.intro (r, g', cs', jy', sy', ty', dy', wy', gone', robbed') (Exists.intro (r, now', aside', far', line', rs', f', st', rb') ⟨h1, h2, rfl, rfl, rfl, rfl, rfl⟩), Nat.zero_le _, Nat.zero_le _, ?_⟩
  exact Exists.intro n (Exists.intro nx ⟨⟨hG, rfl, rfl, hx, hx2, hw⟩, hT, hJ2, hB, hz, ht, hA, hk1, hk2, hkJ, hkB, hMN, hSZ, hb1, hb2, z1, z2, rfl, hMF, z4, z5, rfl, hsf, hlg, cell_step hc (Nat.zero_le _), slot_step hs (Nat.zero_le _)⟩)
set_option maxHeartbeats 4000000 in
set_option maxRecDepth 20000 in
theorem st_8 {t c s : Nat} {X : XS} {M : MS} (h : Rel t X M c s) (xs : Nat → Int32) (i : Int32) : ∃ X2 M2 kc ks, St_8 xs i X M X2 M2 kc ks ∧ kc ≤ 100 ∧ ks ≤ 200000 ∧ Rel (t + 1) X2 M2 (c + kc) (s + ks) := by
  obtain ⟨bytes_xt, length_xt, end_xt, at_xt, fault_xt, wells_xr0, next_xr0, ways_xr0, wells_xr1, next_xr1, ways_xr1, wells_xr2, next_xr2, ways_xr2, wells_xrp, next_xrp, ways_xrp, wells_xrx, next_xrx, ways_xrx, wells_xh, next_xh, ways_xh, wells_xf, next_xf, ways_xf, wells_xs, next_xs, ways_xs, wells_xx, next_xx, ways_xx, rules_xa, kinds_xa, worths_xa, tests_xa, code_xa, size_xa, given_xa, stack_xa, rules_xb, kinds_xb, worths_xb, tests_xb, code_xb, size_xb, given_xb, stack_xb, jars_xc, space_xc, throne_xc, day_xc, draw_xc, gone_xc, robbed_xc, jars_xy, space_xy, throne_xy, day_xy, draw_xy, gone_xy, robbed_xy, jars_xz, space_xz, throne_xz, day_xz, draw_xz, gone_xz, robbed_xz, anyKept_x, told_xn, layings_xn, rows_xn, greatestWell_xn, found_xn, nfound_xn, marks_xn, nmarks_xn, shifts_xn, fields_xn, two_xn, full_xn, change_xn, moves_xn, wells_xn, size_xn, levelStart_xn, below_xqk, takenA_xq, takenB_xq, given_xq, nearest_xq, ways_xq, row_xq, moves_xq, seen_xq, nseen_xq, layings_xq, nlayings_xq, starts_xq, nstarts_xq, found_xq, wells_xq, reachable_xq, aim_xq, due_xq, limit_xq, nextLimit_xq, firstMove_xq, below_xwk, row_xw, best_xw, reached_xw, nreached_xw, jars_xw, layings_xw, needs_xo, changes_xo, row_xo, lost_xo, throne_xo, ways_xo, least_xo, most_xo, order_xg, images_xg, looks_xg, twins_xg, land_xg⟩ := X
  obtain ⟨now_m, aside_m, kept_m, nextTo_m, wasNext_m, wells_m, wasWells_m, farOf_m, line_m, tape_m, taped_m, place0_m, length0_m, fault_m, number0_m, open_m, codeMany_m, waiting_m, saidMany_m, clauses_m, said_m, waitsAt_m, saidLetter_m, saidFrom_m, saidHalf_m, saidTo_m, codes_m, clauseOf_m, codeFrom_m, codeHalf_m, codeTo_m, stack_m, facts_m, manyAt_m, nextAt_m, partAt_m, newNext_m, depth_m, newLines_m, newJars_m, stagesNow_m, robbedNow_m, slotFor_m, stateAt_m, slotOf_m, firstAt_m, movesTo_m, states_m, shiftOf_m, widthOf_m, nextIn_m, headOf_m, isVain_m, bitsInAll_m, vainMost_m, vainMany_m, vainGreatest_m, lowestBest_m, laidNow_m, laidBest_m, firstNext_m, secondNext_m, firstMany_m, secondMany_m, chainOf_m, chainAt_m, canWin_m, goneFrom_m, goneTo_m, triedAt_m, leftNow_m, moveFrom_m, moveTo_m, takenFrom_m, takenTo_m, goneMany_m, lostMany_m, moveMany_m, waysNow_m, leastNow_m, mostNow_m, imageOf_m, isKept_m⟩ := M
  obtain ⟨n, nx, hL, hT, hJ, hB, hz, ht, hA, hk1, hk2, hkJ, hkB, hMN, hSZ, hb1, hb2, z1, z2, z3, hMF, z4, z5, hst, hsf, hlg, hc, hs⟩ := h
  replace hL : RL n nx wells_xh next_xh ways_xh wells_m nextTo_m := hL
  replace hT : RT bytes_xt length_xt tape_m taped_m := hT
  replace hJ : RJ jars_xc space_xc throne_xc day_xc draw_xc now_m := hJ
  replace hB : BJ jars_xc space_xc throne_xc day_xc draw_xc := hB
  replace hz : (∀ w, w < 12 → n ≤ w → jars_xc w = 0) := hz
  replace ht : (∃ t, throne_xc = nI t ∧ (t < n ∨ t = 0)) := ht
  replace hA : RA rules_xa kinds_xa worths_xa tests_xa code_xa clauses_m codes_m clauseOf_m codeFrom_m codeHalf_m codeTo_m := hA
  replace hk1 : anyKept_x = isKept_m := hk1
  replace hk2 : (isKept_m = 0 ∨ isKept_m = 1) := hk2
  replace hkJ : (isKept_m = 1 → RJ jars_xz space_xz throne_xz day_xz draw_xz kept_m) := hkJ
  replace hkB : (isKept_m = 1 → BJ jars_xz space_xz throne_xz day_xz draw_xz) := hkB
  replace hMN : MNs n nx told_xn layings_xn rows_xn := hMN
  replace hSZ : SZ2 nfound_xn nmarks_xn := hSZ
  replace hb1 : RBk below_xqk := hb1
  replace hb2 : RBk below_xwk := hb2
  replace z1 : nseen_xq ≤ 3937 := z1
  replace z2 : nlayings_xq ≤ 43983 := z2
  replace z3 : nstarts_xq = nlayings_xq := z3
  replace hMF : MFs n nx best_xw jars_xw layings_xw := hMF
  replace z4 : nreached_xw ≤ 43758 := z4
  replace z5 : reached_xw 0 = 0 := z5
  replace hst : states_m = 0 := hst
  replace hsf : (∀ p, p < 262144 → slotFor_m p = 0) := hsf
  replace hlg : (land_xg = .null ∨ land_xg = .ref 20) := hlg
  replace hs : s ≤ 1187040 + 91903 * t + 3 * nfound_xn := hs
  obtain ⟨hG, en1, en2, hx, hx2, hw⟩ := id hL
  subst en1; subst en2; subst hst; subst z3
  have n12 := hG.1
  obtain ⟨r, f', l', h1, h2⟩ := wellIs_ok (next := next_xh) (ways := ways_xh) (jars := jars_xc) (space := space_xc) (throne := throne_xc) (a1 := (xs (i + 1 : Int32).toNatClampNeg)) (a2 := (xs (i + 2 : Int32).toNatClampNeg)) (now := now_m) (nextTo := nextTo_m) (f0 := farOf_m) (l0 := line_m) hG hx2 hx hw hJ ht
  refine ⟨_, _, _, _, Exists.intro r (Exists.intro (r, f', l') ⟨h1, h2, rfl, rfl, rfl, rfl, rfl⟩), Nat.zero_le _, Nat.zero_le _, ?_⟩
  exact Exists.intro n (Exists.intro nx ⟨⟨hG, rfl, rfl, hx, hx2, hw⟩, hT, hJ, hB, hz, ht, hA, hk1, hk2, hkJ, hkB, hMN, hSZ, hb1, hb2, z1, z2, rfl, hMF, z4, z5, rfl, hsf, hlg, cell_step hc (Nat.zero_le _), slot_step hs (Nat.zero_le _)⟩)
set_option maxHeartbeats 4000000 in
set_option maxRecDepth 20000 in
theorem st_9 {t c s : Nat} {X : XS} {M : MS} (h : Rel t X M c s) (xs : Nat → Int32) (i : Int32) : ∃ X2 M2 kc ks, St_9 xs i X M X2 M2 kc ks ∧ kc ≤ 100 ∧ ks ≤ 200000 ∧ Rel (t + 1) X2 M2 (c + kc) (s + ks) := by
  obtain ⟨bytes_xt, length_xt, end_xt, at_xt, fault_xt, wells_xr0, next_xr0, ways_xr0, wells_xr1, next_xr1, ways_xr1, wells_xr2, next_xr2, ways_xr2, wells_xrp, next_xrp, ways_xrp, wells_xrx, next_xrx, ways_xrx, wells_xh, next_xh, ways_xh, wells_xf, next_xf, ways_xf, wells_xs, next_xs, ways_xs, wells_xx, next_xx, ways_xx, rules_xa, kinds_xa, worths_xa, tests_xa, code_xa, size_xa, given_xa, stack_xa, rules_xb, kinds_xb, worths_xb, tests_xb, code_xb, size_xb, given_xb, stack_xb, jars_xc, space_xc, throne_xc, day_xc, draw_xc, gone_xc, robbed_xc, jars_xy, space_xy, throne_xy, day_xy, draw_xy, gone_xy, robbed_xy, jars_xz, space_xz, throne_xz, day_xz, draw_xz, gone_xz, robbed_xz, anyKept_x, told_xn, layings_xn, rows_xn, greatestWell_xn, found_xn, nfound_xn, marks_xn, nmarks_xn, shifts_xn, fields_xn, two_xn, full_xn, change_xn, moves_xn, wells_xn, size_xn, levelStart_xn, below_xqk, takenA_xq, takenB_xq, given_xq, nearest_xq, ways_xq, row_xq, moves_xq, seen_xq, nseen_xq, layings_xq, nlayings_xq, starts_xq, nstarts_xq, found_xq, wells_xq, reachable_xq, aim_xq, due_xq, limit_xq, nextLimit_xq, firstMove_xq, below_xwk, row_xw, best_xw, reached_xw, nreached_xw, jars_xw, layings_xw, needs_xo, changes_xo, row_xo, lost_xo, throne_xo, ways_xo, least_xo, most_xo, order_xg, images_xg, looks_xg, twins_xg, land_xg⟩ := X
  obtain ⟨now_m, aside_m, kept_m, nextTo_m, wasNext_m, wells_m, wasWells_m, farOf_m, line_m, tape_m, taped_m, place0_m, length0_m, fault_m, number0_m, open_m, codeMany_m, waiting_m, saidMany_m, clauses_m, said_m, waitsAt_m, saidLetter_m, saidFrom_m, saidHalf_m, saidTo_m, codes_m, clauseOf_m, codeFrom_m, codeHalf_m, codeTo_m, stack_m, facts_m, manyAt_m, nextAt_m, partAt_m, newNext_m, depth_m, newLines_m, newJars_m, stagesNow_m, robbedNow_m, slotFor_m, stateAt_m, slotOf_m, firstAt_m, movesTo_m, states_m, shiftOf_m, widthOf_m, nextIn_m, headOf_m, isVain_m, bitsInAll_m, vainMost_m, vainMany_m, vainGreatest_m, lowestBest_m, laidNow_m, laidBest_m, firstNext_m, secondNext_m, firstMany_m, secondMany_m, chainOf_m, chainAt_m, canWin_m, goneFrom_m, goneTo_m, triedAt_m, leftNow_m, moveFrom_m, moveTo_m, takenFrom_m, takenTo_m, goneMany_m, lostMany_m, moveMany_m, waysNow_m, leastNow_m, mostNow_m, imageOf_m, isKept_m⟩ := M
  obtain ⟨n, nx, hL, hT, hJ, hB, hz, ht, hA, hk1, hk2, hkJ, hkB, hMN, hSZ, hb1, hb2, z1, z2, z3, hMF, z4, z5, hst, hsf, hlg, hc, hs⟩ := h
  replace hL : RL n nx wells_xh next_xh ways_xh wells_m nextTo_m := hL
  replace hT : RT bytes_xt length_xt tape_m taped_m := hT
  replace hJ : RJ jars_xc space_xc throne_xc day_xc draw_xc now_m := hJ
  replace hB : BJ jars_xc space_xc throne_xc day_xc draw_xc := hB
  replace hz : (∀ w, w < 12 → n ≤ w → jars_xc w = 0) := hz
  replace ht : (∃ t, throne_xc = nI t ∧ (t < n ∨ t = 0)) := ht
  replace hA : RA rules_xa kinds_xa worths_xa tests_xa code_xa clauses_m codes_m clauseOf_m codeFrom_m codeHalf_m codeTo_m := hA
  replace hk1 : anyKept_x = isKept_m := hk1
  replace hk2 : (isKept_m = 0 ∨ isKept_m = 1) := hk2
  replace hkJ : (isKept_m = 1 → RJ jars_xz space_xz throne_xz day_xz draw_xz kept_m) := hkJ
  replace hkB : (isKept_m = 1 → BJ jars_xz space_xz throne_xz day_xz draw_xz) := hkB
  replace hMN : MNs n nx told_xn layings_xn rows_xn := hMN
  replace hSZ : SZ2 nfound_xn nmarks_xn := hSZ
  replace hb1 : RBk below_xqk := hb1
  replace hb2 : RBk below_xwk := hb2
  replace z1 : nseen_xq ≤ 3937 := z1
  replace z2 : nlayings_xq ≤ 43983 := z2
  replace z3 : nstarts_xq = nlayings_xq := z3
  replace hMF : MFs n nx best_xw jars_xw layings_xw := hMF
  replace z4 : nreached_xw ≤ 43758 := z4
  replace z5 : reached_xw 0 = 0 := z5
  replace hst : states_m = 0 := hst
  replace hsf : (∀ p, p < 262144 → slotFor_m p = 0) := hsf
  replace hlg : (land_xg = .null ∨ land_xg = .ref 20) := hlg
  replace hs : s ≤ 1187040 + 91903 * t + 3 * nfound_xn := hs
  obtain ⟨hG, en1, en2, hx, hx2, hw⟩ := id hL
  subst en1; subst en2; subst hst; subst z3
  have n12 := hG.1
  obtain ⟨r, f', l', h1, h2⟩ := steps_ok (ways := ways_xh) (a1 := (xs (i + 1 : Int32).toNatClampNeg)) (a2 := (xs (i + 2 : Int32).toNatClampNeg)) (nextTo := nextTo_m) (f0 := farOf_m) (l0 := line_m) hG hx2 hw
  refine ⟨_, _, _, _, Exists.intro r (Exists.intro (r, f', l') ⟨h1, h2, rfl, rfl, rfl, rfl, rfl⟩), Nat.zero_le _, Nat.zero_le _, ?_⟩
  exact Exists.intro n (Exists.intro nx ⟨⟨hG, rfl, rfl, hx, hx2, hw⟩, hT, hJ, hB, hz, ht, hA, hk1, hk2, hkJ, hkB, hMN, hSZ, hb1, hb2, z1, z2, rfl, hMF, z4, z5, rfl, hsf, hlg, cell_step hc (Nat.zero_le _), slot_step hs (Nat.zero_le _)⟩)
set_option maxHeartbeats 4000000 in
set_option maxRecDepth 20000 in
theorem st_10 {t c s : Nat} {X : XS} {M : MS} (h : Rel t X M c s) (xs : Nat → Int32) (i : Int32) : ∃ X2 M2 kc ks, St_10 xs i X M X2 M2 kc ks ∧ kc ≤ 100 ∧ ks ≤ 200000 ∧ Rel (t + 1) X2 M2 (c + kc) (s + ks) := by
  obtain ⟨bytes_xt, length_xt, end_xt, at_xt, fault_xt, wells_xr0, next_xr0, ways_xr0, wells_xr1, next_xr1, ways_xr1, wells_xr2, next_xr2, ways_xr2, wells_xrp, next_xrp, ways_xrp, wells_xrx, next_xrx, ways_xrx, wells_xh, next_xh, ways_xh, wells_xf, next_xf, ways_xf, wells_xs, next_xs, ways_xs, wells_xx, next_xx, ways_xx, rules_xa, kinds_xa, worths_xa, tests_xa, code_xa, size_xa, given_xa, stack_xa, rules_xb, kinds_xb, worths_xb, tests_xb, code_xb, size_xb, given_xb, stack_xb, jars_xc, space_xc, throne_xc, day_xc, draw_xc, gone_xc, robbed_xc, jars_xy, space_xy, throne_xy, day_xy, draw_xy, gone_xy, robbed_xy, jars_xz, space_xz, throne_xz, day_xz, draw_xz, gone_xz, robbed_xz, anyKept_x, told_xn, layings_xn, rows_xn, greatestWell_xn, found_xn, nfound_xn, marks_xn, nmarks_xn, shifts_xn, fields_xn, two_xn, full_xn, change_xn, moves_xn, wells_xn, size_xn, levelStart_xn, below_xqk, takenA_xq, takenB_xq, given_xq, nearest_xq, ways_xq, row_xq, moves_xq, seen_xq, nseen_xq, layings_xq, nlayings_xq, starts_xq, nstarts_xq, found_xq, wells_xq, reachable_xq, aim_xq, due_xq, limit_xq, nextLimit_xq, firstMove_xq, below_xwk, row_xw, best_xw, reached_xw, nreached_xw, jars_xw, layings_xw, needs_xo, changes_xo, row_xo, lost_xo, throne_xo, ways_xo, least_xo, most_xo, order_xg, images_xg, looks_xg, twins_xg, land_xg⟩ := X
  obtain ⟨now_m, aside_m, kept_m, nextTo_m, wasNext_m, wells_m, wasWells_m, farOf_m, line_m, tape_m, taped_m, place0_m, length0_m, fault_m, number0_m, open_m, codeMany_m, waiting_m, saidMany_m, clauses_m, said_m, waitsAt_m, saidLetter_m, saidFrom_m, saidHalf_m, saidTo_m, codes_m, clauseOf_m, codeFrom_m, codeHalf_m, codeTo_m, stack_m, facts_m, manyAt_m, nextAt_m, partAt_m, newNext_m, depth_m, newLines_m, newJars_m, stagesNow_m, robbedNow_m, slotFor_m, stateAt_m, slotOf_m, firstAt_m, movesTo_m, states_m, shiftOf_m, widthOf_m, nextIn_m, headOf_m, isVain_m, bitsInAll_m, vainMost_m, vainMany_m, vainGreatest_m, lowestBest_m, laidNow_m, laidBest_m, firstNext_m, secondNext_m, firstMany_m, secondMany_m, chainOf_m, chainAt_m, canWin_m, goneFrom_m, goneTo_m, triedAt_m, leftNow_m, moveFrom_m, moveTo_m, takenFrom_m, takenTo_m, goneMany_m, lostMany_m, moveMany_m, waysNow_m, leastNow_m, mostNow_m, imageOf_m, isKept_m⟩ := M
  obtain ⟨n, nx, hL, hT, hJ, hB, hz, ht, hA, hk1, hk2, hkJ, hkB, hMN, hSZ, hb1, hb2, z1, z2, z3, hMF, z4, z5, hst, hsf, hlg, hc, hs⟩ := h
  replace hL : RL n nx wells_xh next_xh ways_xh wells_m nextTo_m := hL
  replace hT : RT bytes_xt length_xt tape_m taped_m := hT
  replace hJ : RJ jars_xc space_xc throne_xc day_xc draw_xc now_m := hJ
  replace hB : BJ jars_xc space_xc throne_xc day_xc draw_xc := hB
  replace hz : (∀ w, w < 12 → n ≤ w → jars_xc w = 0) := hz
  replace ht : (∃ t, throne_xc = nI t ∧ (t < n ∨ t = 0)) := ht
  replace hA : RA rules_xa kinds_xa worths_xa tests_xa code_xa clauses_m codes_m clauseOf_m codeFrom_m codeHalf_m codeTo_m := hA
  replace hk1 : anyKept_x = isKept_m := hk1
  replace hk2 : (isKept_m = 0 ∨ isKept_m = 1) := hk2
  replace hkJ : (isKept_m = 1 → RJ jars_xz space_xz throne_xz day_xz draw_xz kept_m) := hkJ
  replace hkB : (isKept_m = 1 → BJ jars_xz space_xz throne_xz day_xz draw_xz) := hkB
  replace hMN : MNs n nx told_xn layings_xn rows_xn := hMN
  replace hSZ : SZ2 nfound_xn nmarks_xn := hSZ
  replace hb1 : RBk below_xqk := hb1
  replace hb2 : RBk below_xwk := hb2
  replace z1 : nseen_xq ≤ 3937 := z1
  replace z2 : nlayings_xq ≤ 43983 := z2
  replace z3 : nstarts_xq = nlayings_xq := z3
  replace hMF : MFs n nx best_xw jars_xw layings_xw := hMF
  replace z4 : nreached_xw ≤ 43758 := z4
  replace z5 : reached_xw 0 = 0 := z5
  replace hst : states_m = 0 := hst
  replace hsf : (∀ p, p < 262144 → slotFor_m p = 0) := hsf
  replace hlg : (land_xg = .null ∨ land_xg = .ref 20) := hlg
  replace hs : s ≤ 1187040 + 91903 * t + 3 * nfound_xn := hs
  obtain ⟨hG, en1, en2, hx, hx2, hw⟩ := id hL
  subst en1; subst en2; subst hst; subst z3
  have n12 := hG.1
  obtain ⟨r, y, sf', sa', so', fa', mt', h1, hS, h2, hsf2⟩ := reach_ok (next := next_xh) (ways := ways_xh) (jars := jars_xc) (below := below_xqk) (tA := takenA_xq) (tB := takenB_xq) (gv := given_xq) (ne := nearest_xq) (wa := ways_xq) (row := row_xq) (mv := moves_xq) (seen := seen_xq) (nseen := nseen_xq) (lay := layings_xq) (nlay := nstarts_xq) (st := starts_xq) (found := found_xq) (wq := wells_xq) (re := reachable_xq) (aim := aim_xq) (duq := due_xq) (lim := limit_xq) (nxt := nextLimit_xq) (fm := firstMove_xq) (a1 := (xs (i + 1 : Int32).toNatClampNeg)) (a2 := (xs (i + 2 : Int32).toNatClampNeg)) (a3 := (bz (xs (i + 3 : Int32).toNatClampNeg))) (a4 := (xs (i + 4 : Int32).toNatClampNeg)) (now := now_m) (nextTo := nextTo_m) (sf := slotFor_m) (sa := stateAt_m) (so := slotOf_m) (fa := firstAt_m) (mt := movesTo_m) hG hx2 hx hw hJ hB hz hb1 (bc := 100) (bs := 200000) (by omega) (by omega) z1 z2 hsf (bz_cases _)
  refine ⟨_, _, _, _, Exists.intro (r, y) (Exists.intro (r, sf', sa', so', fa', mt', 0) ⟨h1, h2, rfl, rfl, rfl, rfl, rfl⟩), Nat.le_trans hS.2.2.2.1 (by omega), Nat.le_trans (hS.2.2.2.2) (by omega), ?_⟩
  exact Exists.intro n (Exists.intro nx ⟨⟨hG, rfl, rfl, hx, hx2, hw⟩, hT, hJ, hB, hz, ht, hA, hk1, hk2, hkJ, hkB, hMN, hSZ, hb1, hb2, hS.1, hS.2.1, hS.2.2.1, hMF, z4, z5, rfl, hsf2, hlg, cell_step hc (Nat.le_trans hS.2.2.2.1 (by omega)), slot_step hs (hS.2.2.2.2)⟩)
set_option maxHeartbeats 4000000 in
set_option maxRecDepth 20000 in
theorem st_11 {t c s : Nat} {X : XS} {M : MS} (h : Rel t X M c s) (xs : Nat → Int32) (i : Int32) : ∃ X2 M2 kc ks, St_11 xs i X M X2 M2 kc ks ∧ kc ≤ 100 ∧ ks ≤ 200000 ∧ Rel (t + 1) X2 M2 (c + kc) (s + ks) := by
  obtain ⟨bytes_xt, length_xt, end_xt, at_xt, fault_xt, wells_xr0, next_xr0, ways_xr0, wells_xr1, next_xr1, ways_xr1, wells_xr2, next_xr2, ways_xr2, wells_xrp, next_xrp, ways_xrp, wells_xrx, next_xrx, ways_xrx, wells_xh, next_xh, ways_xh, wells_xf, next_xf, ways_xf, wells_xs, next_xs, ways_xs, wells_xx, next_xx, ways_xx, rules_xa, kinds_xa, worths_xa, tests_xa, code_xa, size_xa, given_xa, stack_xa, rules_xb, kinds_xb, worths_xb, tests_xb, code_xb, size_xb, given_xb, stack_xb, jars_xc, space_xc, throne_xc, day_xc, draw_xc, gone_xc, robbed_xc, jars_xy, space_xy, throne_xy, day_xy, draw_xy, gone_xy, robbed_xy, jars_xz, space_xz, throne_xz, day_xz, draw_xz, gone_xz, robbed_xz, anyKept_x, told_xn, layings_xn, rows_xn, greatestWell_xn, found_xn, nfound_xn, marks_xn, nmarks_xn, shifts_xn, fields_xn, two_xn, full_xn, change_xn, moves_xn, wells_xn, size_xn, levelStart_xn, below_xqk, takenA_xq, takenB_xq, given_xq, nearest_xq, ways_xq, row_xq, moves_xq, seen_xq, nseen_xq, layings_xq, nlayings_xq, starts_xq, nstarts_xq, found_xq, wells_xq, reachable_xq, aim_xq, due_xq, limit_xq, nextLimit_xq, firstMove_xq, below_xwk, row_xw, best_xw, reached_xw, nreached_xw, jars_xw, layings_xw, needs_xo, changes_xo, row_xo, lost_xo, throne_xo, ways_xo, least_xo, most_xo, order_xg, images_xg, looks_xg, twins_xg, land_xg⟩ := X
  obtain ⟨now_m, aside_m, kept_m, nextTo_m, wasNext_m, wells_m, wasWells_m, farOf_m, line_m, tape_m, taped_m, place0_m, length0_m, fault_m, number0_m, open_m, codeMany_m, waiting_m, saidMany_m, clauses_m, said_m, waitsAt_m, saidLetter_m, saidFrom_m, saidHalf_m, saidTo_m, codes_m, clauseOf_m, codeFrom_m, codeHalf_m, codeTo_m, stack_m, facts_m, manyAt_m, nextAt_m, partAt_m, newNext_m, depth_m, newLines_m, newJars_m, stagesNow_m, robbedNow_m, slotFor_m, stateAt_m, slotOf_m, firstAt_m, movesTo_m, states_m, shiftOf_m, widthOf_m, nextIn_m, headOf_m, isVain_m, bitsInAll_m, vainMost_m, vainMany_m, vainGreatest_m, lowestBest_m, laidNow_m, laidBest_m, firstNext_m, secondNext_m, firstMany_m, secondMany_m, chainOf_m, chainAt_m, canWin_m, goneFrom_m, goneTo_m, triedAt_m, leftNow_m, moveFrom_m, moveTo_m, takenFrom_m, takenTo_m, goneMany_m, lostMany_m, moveMany_m, waysNow_m, leastNow_m, mostNow_m, imageOf_m, isKept_m⟩ := M
  obtain ⟨n, nx, hL, hT, hJ, hB, hz, ht, hA, hk1, hk2, hkJ, hkB, hMN, hSZ, hb1, hb2, z1, z2, z3, hMF, z4, z5, hst, hsf, hlg, hc, hs⟩ := h
  replace hL : RL n nx wells_xh next_xh ways_xh wells_m nextTo_m := hL
  replace hT : RT bytes_xt length_xt tape_m taped_m := hT
  replace hJ : RJ jars_xc space_xc throne_xc day_xc draw_xc now_m := hJ
  replace hB : BJ jars_xc space_xc throne_xc day_xc draw_xc := hB
  replace hz : (∀ w, w < 12 → n ≤ w → jars_xc w = 0) := hz
  replace ht : (∃ t, throne_xc = nI t ∧ (t < n ∨ t = 0)) := ht
  replace hA : RA rules_xa kinds_xa worths_xa tests_xa code_xa clauses_m codes_m clauseOf_m codeFrom_m codeHalf_m codeTo_m := hA
  replace hk1 : anyKept_x = isKept_m := hk1
  replace hk2 : (isKept_m = 0 ∨ isKept_m = 1) := hk2
  replace hkJ : (isKept_m = 1 → RJ jars_xz space_xz throne_xz day_xz draw_xz kept_m) := hkJ
  replace hkB : (isKept_m = 1 → BJ jars_xz space_xz throne_xz day_xz draw_xz) := hkB
  replace hMN : MNs n nx told_xn layings_xn rows_xn := hMN
  replace hSZ : SZ2 nfound_xn nmarks_xn := hSZ
  replace hb1 : RBk below_xqk := hb1
  replace hb2 : RBk below_xwk := hb2
  replace z1 : nseen_xq ≤ 3937 := z1
  replace z2 : nlayings_xq ≤ 43983 := z2
  replace z3 : nstarts_xq = nlayings_xq := z3
  replace hMF : MFs n nx best_xw jars_xw layings_xw := hMF
  replace z4 : nreached_xw ≤ 43758 := z4
  replace z5 : reached_xw 0 = 0 := z5
  replace hst : states_m = 0 := hst
  replace hsf : (∀ p, p < 262144 → slotFor_m p = 0) := hsf
  replace hlg : (land_xg = .null ∨ land_xg = .ref 20) := hlg
  replace hs : s ≤ 1187040 + 91903 * t + 3 * nfound_xn := hs
  obtain ⟨hG, en1, en2, hx, hx2, hw⟩ := id hL
  subst en1; subst en2; subst hst; subst z3
  have n12 := hG.1
  obtain ⟨r, y, x, h1, hS, h2⟩ := number_ok (next := next_xh) (ways := ways_xh) (told := told_xn) (lay := layings_xn) (rows := rows_xn) (fo := found_xn) (nf := nfound_xn) (ma := marks_xn) (nm := nmarks_xn) (sh0 := shifts_xn) (fi0 := fields_xn) (two := two_xn) (full := full_xn) (change := change_xn) (mv := moves_xn) (wn := wells_xn) (sz := size_xn) (ls := levelStart_xn) (a1 := (xs (i + 1 : Int32).toNatClampNeg)) (a2 := (xs (i + 2 : Int32).toNatClampNeg)) (nextTo := nextTo_m) (far := farOf_m) (line := line_m) (shm := shiftOf_m) (wim := widthOf_m) (nim := nextIn_m) (hem := headOf_m) (ivm := isVain_m) (bim := bitsInAll_m) (vm := vainMost_m) (vy := vainMany_m) (vg := vainGreatest_m) hG hx hx2 hw (bc := 100) (bs := 200000) (by omega) (by omega) hSZ hMN
  refine ⟨_, _, _, _, Exists.intro (r, y) (Exists.intro (r, x) ⟨h1, h2, rfl, rfl, rfl, rfl, rfl⟩), Nat.le_trans hS.2.2.2.1 (by omega), num_le (hS.2.1) (hS.2.2.2.2), ?_⟩
  exact Exists.intro n (Exists.intro nx ⟨⟨hG, rfl, rfl, hx, hx2, hw⟩, hT, hJ, hB, hz, ht, hA, hk1, hk2, hkJ, hkB, hS.1, hS.2.1, hb1, hb2, z1, z2, rfl, hMF, z4, z5, rfl, hsf, hlg, cell_step hc (Nat.le_trans hS.2.2.2.1 (by omega)), slot_num hs (hS.2.2.2.2)⟩)
set_option maxHeartbeats 4000000 in
set_option maxRecDepth 20000 in
theorem st_12 {t c s : Nat} {X : XS} {M : MS} (h : Rel t X M c s) (xs : Nat → Int32) (i : Int32) : ∃ X2 M2 kc ks, St_12 xs i X M X2 M2 kc ks ∧ kc ≤ 100 ∧ ks ≤ 200000 ∧ Rel (t + 1) X2 M2 (c + kc) (s + ks) := by
  obtain ⟨bytes_xt, length_xt, end_xt, at_xt, fault_xt, wells_xr0, next_xr0, ways_xr0, wells_xr1, next_xr1, ways_xr1, wells_xr2, next_xr2, ways_xr2, wells_xrp, next_xrp, ways_xrp, wells_xrx, next_xrx, ways_xrx, wells_xh, next_xh, ways_xh, wells_xf, next_xf, ways_xf, wells_xs, next_xs, ways_xs, wells_xx, next_xx, ways_xx, rules_xa, kinds_xa, worths_xa, tests_xa, code_xa, size_xa, given_xa, stack_xa, rules_xb, kinds_xb, worths_xb, tests_xb, code_xb, size_xb, given_xb, stack_xb, jars_xc, space_xc, throne_xc, day_xc, draw_xc, gone_xc, robbed_xc, jars_xy, space_xy, throne_xy, day_xy, draw_xy, gone_xy, robbed_xy, jars_xz, space_xz, throne_xz, day_xz, draw_xz, gone_xz, robbed_xz, anyKept_x, told_xn, layings_xn, rows_xn, greatestWell_xn, found_xn, nfound_xn, marks_xn, nmarks_xn, shifts_xn, fields_xn, two_xn, full_xn, change_xn, moves_xn, wells_xn, size_xn, levelStart_xn, below_xqk, takenA_xq, takenB_xq, given_xq, nearest_xq, ways_xq, row_xq, moves_xq, seen_xq, nseen_xq, layings_xq, nlayings_xq, starts_xq, nstarts_xq, found_xq, wells_xq, reachable_xq, aim_xq, due_xq, limit_xq, nextLimit_xq, firstMove_xq, below_xwk, row_xw, best_xw, reached_xw, nreached_xw, jars_xw, layings_xw, needs_xo, changes_xo, row_xo, lost_xo, throne_xo, ways_xo, least_xo, most_xo, order_xg, images_xg, looks_xg, twins_xg, land_xg⟩ := X
  obtain ⟨now_m, aside_m, kept_m, nextTo_m, wasNext_m, wells_m, wasWells_m, farOf_m, line_m, tape_m, taped_m, place0_m, length0_m, fault_m, number0_m, open_m, codeMany_m, waiting_m, saidMany_m, clauses_m, said_m, waitsAt_m, saidLetter_m, saidFrom_m, saidHalf_m, saidTo_m, codes_m, clauseOf_m, codeFrom_m, codeHalf_m, codeTo_m, stack_m, facts_m, manyAt_m, nextAt_m, partAt_m, newNext_m, depth_m, newLines_m, newJars_m, stagesNow_m, robbedNow_m, slotFor_m, stateAt_m, slotOf_m, firstAt_m, movesTo_m, states_m, shiftOf_m, widthOf_m, nextIn_m, headOf_m, isVain_m, bitsInAll_m, vainMost_m, vainMany_m, vainGreatest_m, lowestBest_m, laidNow_m, laidBest_m, firstNext_m, secondNext_m, firstMany_m, secondMany_m, chainOf_m, chainAt_m, canWin_m, goneFrom_m, goneTo_m, triedAt_m, leftNow_m, moveFrom_m, moveTo_m, takenFrom_m, takenTo_m, goneMany_m, lostMany_m, moveMany_m, waysNow_m, leastNow_m, mostNow_m, imageOf_m, isKept_m⟩ := M
  obtain ⟨n, nx, hL, hT, hJ, hB, hz, ht, hA, hk1, hk2, hkJ, hkB, hMN, hSZ, hb1, hb2, z1, z2, z3, hMF, z4, z5, hst, hsf, hlg, hc, hs⟩ := h
  replace hL : RL n nx wells_xh next_xh ways_xh wells_m nextTo_m := hL
  replace hT : RT bytes_xt length_xt tape_m taped_m := hT
  replace hJ : RJ jars_xc space_xc throne_xc day_xc draw_xc now_m := hJ
  replace hB : BJ jars_xc space_xc throne_xc day_xc draw_xc := hB
  replace hz : (∀ w, w < 12 → n ≤ w → jars_xc w = 0) := hz
  replace ht : (∃ t, throne_xc = nI t ∧ (t < n ∨ t = 0)) := ht
  replace hA : RA rules_xa kinds_xa worths_xa tests_xa code_xa clauses_m codes_m clauseOf_m codeFrom_m codeHalf_m codeTo_m := hA
  replace hk1 : anyKept_x = isKept_m := hk1
  replace hk2 : (isKept_m = 0 ∨ isKept_m = 1) := hk2
  replace hkJ : (isKept_m = 1 → RJ jars_xz space_xz throne_xz day_xz draw_xz kept_m) := hkJ
  replace hkB : (isKept_m = 1 → BJ jars_xz space_xz throne_xz day_xz draw_xz) := hkB
  replace hMN : MNs n nx told_xn layings_xn rows_xn := hMN
  replace hSZ : SZ2 nfound_xn nmarks_xn := hSZ
  replace hb1 : RBk below_xqk := hb1
  replace hb2 : RBk below_xwk := hb2
  replace z1 : nseen_xq ≤ 3937 := z1
  replace z2 : nlayings_xq ≤ 43983 := z2
  replace z3 : nstarts_xq = nlayings_xq := z3
  replace hMF : MFs n nx best_xw jars_xw layings_xw := hMF
  replace z4 : nreached_xw ≤ 43758 := z4
  replace z5 : reached_xw 0 = 0 := z5
  replace hst : states_m = 0 := hst
  replace hsf : (∀ p, p < 262144 → slotFor_m p = 0) := hsf
  replace hlg : (land_xg = .null ∨ land_xg = .ref 20) := hlg
  replace hs : s ≤ 1187040 + 91903 * t + 3 * nfound_xn := hs
  obtain ⟨hG, en1, en2, hx, hx2, hw⟩ := id hL
  subst en1; subst en2; subst hst; subst z3
  have n12 := hG.1
  obtain ⟨r, y, x, h1, hS, h2⟩ := landNumber_ok (next := next_xh) (ways := ways_xh) (told := told_xn) (lay := layings_xn) (rows := rows_xn) (gw := greatestWell_xn) (fo := found_xn) (nf := nfound_xn) (ma := marks_xn) (nm := nmarks_xn) (sh0 := shifts_xn) (fi0 := fields_xn) (two := two_xn) (full := full_xn) (change := change_xn) (mv := moves_xn) (wn := wells_xn) (sz := size_xn) (ls := levelStart_xn) (a1 := (xs (i + 1 : Int32).toNatClampNeg)) (nextTo := nextTo_m) (far := farOf_m) (line := line_m) (μ := (shiftOf_m, widthOf_m, nextIn_m, headOf_m, isVain_m, bitsInAll_m, vainMost_m, vainMany_m, vainGreatest_m, lowestBest_m)) hG hx hx2 hw (bc := 100) (bs := 200000) (by omega) (by omega) hSZ hMN
  refine ⟨_, _, _, _, Exists.intro (r, y) (Exists.intro (r, x) ⟨h1, h2, rfl, rfl, rfl, rfl, rfl⟩), Nat.le_trans hS.2.2.2.1 (by omega), num_le (hS.2.1) (hS.2.2.2.2), ?_⟩
  exact Exists.intro n (Exists.intro nx ⟨⟨hG, rfl, rfl, hx, hx2, hw⟩, hT, hJ, hB, hz, ht, hA, hk1, hk2, hkJ, hkB, hS.1, hS.2.1, hb1, hb2, z1, z2, rfl, hMF, z4, z5, rfl, hsf, hlg, cell_step hc (Nat.le_trans hS.2.2.2.1 (by omega)), slot_num hs (hS.2.2.2.2)⟩)
