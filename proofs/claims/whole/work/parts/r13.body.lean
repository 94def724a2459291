/-! the law's cases, over the states -/
def wXS (X : XS) : List ce := (wDj (X_bytes_xt X) (X_length_xt X) (X_end_xt X) (X_at_xt X) (X_fault_xt X) (X_wells_xr0 X) (X_next_xr0 X) (X_ways_xr0 X) (X_wells_xr1 X) (X_next_xr1 X) (X_ways_xr1 X) (X_wells_xr2 X) (X_next_xr2 X) (X_ways_xr2 X) (X_wells_xrp X) (X_next_xrp X) (X_ways_xrp X) (X_wells_xrx X) (X_next_xrx X) (X_ways_xrx X) (X_wells_xh X) (X_next_xh X) (X_ways_xh X) (X_wells_xf X) (X_next_xf X) (X_ways_xf X) (X_wells_xs X) (X_next_xs X) (X_ways_xs X) (X_wells_xx X) (X_next_xx X) (X_ways_xx X) (X_rules_xa X) (X_kinds_xa X) (X_worths_xa X) (X_tests_xa X) (X_code_xa X) (X_size_xa X) (X_given_xa X) (X_stack_xa X) (X_rules_xb X) (X_kinds_xb X) (X_worths_xb X) (X_tests_xb X) (X_code_xb X) (X_size_xb X) (X_given_xb X) (X_stack_xb X) (X_jars_xc X) (X_space_xc X) (X_throne_xc X) (X_day_xc X) (X_draw_xc X) (X_gone_xc X) (X_robbed_xc X) (X_jars_xy X) (X_space_xy X) (X_throne_xy X) (X_day_xy X) (X_draw_xy X) (X_gone_xy X) (X_robbed_xy X) (X_jars_xz X) (X_space_xz X) (X_throne_xz X) (X_day_xz X) (X_draw_xz X) (X_gone_xz X) (X_robbed_xz X) (X_anyKept_x X) (X_told_xn X) (X_layings_xn X) (X_rows_xn X) (X_greatestWell_xn X) (X_found_xn X) (X_nfound_xn X) (X_marks_xn X) (X_nmarks_xn X) (X_shifts_xn X) (X_fields_xn X) (X_two_xn X) (X_full_xn X) (X_change_xn X) (X_moves_xn X) (X_wells_xn X) (X_size_xn X) (X_levelStart_xn X) (X_below_xqk X) (X_takenA_xq X) (X_takenB_xq X) (X_given_xq X) (X_nearest_xq X) (X_ways_xq X) (X_row_xq X) (X_moves_xq X) (X_seen_xq X) (X_nseen_xq X) (X_layings_xq X) (X_nlayings_xq X) (X_starts_xq X) (X_nstarts_xq X) (X_found_xq X) (X_wells_xq X) (X_reachable_xq X) (X_aim_xq X) (X_due_xq X) (X_limit_xq X) (X_nextLimit_xq X) (X_firstMove_xq X) (X_below_xwk X) (X_row_xw X) (X_best_xw X) (X_reached_xw X) (X_nreached_xw X) (X_jars_xw X) (X_layings_xw X) (X_needs_xo X) (X_changes_xo X) (X_row_xo X) (X_lost_xo X) (X_throne_xo X) (X_ways_xo X) (X_least_xo X) (X_most_xo X) (X_order_xg X) (X_images_xg X) (X_looks_xg X) (X_twins_xg X) (X_land_xg X))
def wMS (M : MS) : List ce := wMoR (wMo (M_now_m M) (M_aside_m M) (M_kept_m M) (M_nextTo_m M) (M_wasNext_m M) (M_wells_m M) (M_wasWells_m M) (M_farOf_m M) (M_line_m M) (M_tape_m M) (M_taped_m M) (M_place0_m M) (M_length0_m M) (M_fault_m M) (M_number0_m M) (M_open_m M) (M_codeMany_m M) (M_waiting_m M) (M_saidMany_m M) (M_clauses_m M) (M_said_m M) (M_waitsAt_m M) (M_saidLetter_m M) (M_saidFrom_m M) (M_saidHalf_m M) (M_saidTo_m M) (M_codes_m M) (M_clauseOf_m M) (M_codeFrom_m M) (M_codeHalf_m M) (M_codeTo_m M) (M_stack_m M) (M_facts_m M) (M_manyAt_m M) (M_nextAt_m M) (M_partAt_m M) (M_newNext_m M) (M_depth_m M) (M_newLines_m M) (M_newJars_m M) (M_stagesNow_m M) (M_robbedNow_m M) (M_slotFor_m M) (M_stateAt_m M) (M_slotOf_m M) (M_firstAt_m M) (M_movesTo_m M) (M_states_m M) (M_shiftOf_m M) (M_widthOf_m M) (M_nextIn_m M) (M_headOf_m M) (M_isVain_m M) (M_bitsInAll_m M) (M_vainMost_m M) (M_vainMany_m M) (M_vainGreatest_m M) (M_lowestBest_m M) (M_laidNow_m M) (M_laidBest_m M) (M_firstNext_m M) (M_secondNext_m M) (M_firstMany_m M) (M_secondMany_m M) (M_chainOf_m M) (M_chainAt_m M) (M_canWin_m M) (M_goneFrom_m M) (M_goneTo_m M) (M_triedAt_m M) (M_leftNow_m M) (M_moveFrom_m M) (M_moveTo_m M) (M_takenFrom_m M) (M_takenTo_m M) (M_goneMany_m M) (M_lostMany_m M) (M_moveMany_m M) (M_waysNow_m M) (M_leastNow_m M) (M_mostNow_m M) (M_imageOf_m M) (M_isKept_m M))
theorem wX_n {X : XS} (h : X_land_xg X = .null) : wXS X = (wDj (X_bytes_xt X) (X_length_xt X) (X_end_xt X) (X_at_xt X) (X_fault_xt X) (X_wells_xr0 X) (X_next_xr0 X) (X_ways_xr0 X) (X_wells_xr1 X) (X_next_xr1 X) (X_ways_xr1 X) (X_wells_xr2 X) (X_next_xr2 X) (X_ways_xr2 X) (X_wells_xrp X) (X_next_xrp X) (X_ways_xrp X) (X_wells_xrx X) (X_next_xrx X) (X_ways_xrx X) (X_wells_xh X) (X_next_xh X) (X_ways_xh X) (X_wells_xf X) (X_next_xf X) (X_ways_xf X) (X_wells_xs X) (X_next_xs X) (X_ways_xs X) (X_wells_xx X) (X_next_xx X) (X_ways_xx X) (X_rules_xa X) (X_kinds_xa X) (X_worths_xa X) (X_tests_xa X) (X_code_xa X) (X_size_xa X) (X_given_xa X) (X_stack_xa X) (X_rules_xb X) (X_kinds_xb X) (X_worths_xb X) (X_tests_xb X) (X_code_xb X) (X_size_xb X) (X_given_xb X) (X_stack_xb X) (X_jars_xc X) (X_space_xc X) (X_throne_xc X) (X_day_xc X) (X_draw_xc X) (X_gone_xc X) (X_robbed_xc X) (X_jars_xy X) (X_space_xy X) (X_throne_xy X) (X_day_xy X) (X_draw_xy X) (X_gone_xy X) (X_robbed_xy X) (X_jars_xz X) (X_space_xz X) (X_throne_xz X) (X_day_xz X) (X_draw_xz X) (X_gone_xz X) (X_robbed_xz X) (X_anyKept_x X) (X_told_xn X) (X_layings_xn X) (X_rows_xn X) (X_greatestWell_xn X) (X_found_xn X) (X_nfound_xn X) (X_marks_xn X) (X_nmarks_xn X) (X_shifts_xn X) (X_fields_xn X) (X_two_xn X) (X_full_xn X) (X_change_xn X) (X_moves_xn X) (X_wells_xn X) (X_size_xn X) (X_levelStart_xn X) (X_below_xqk X) (X_takenA_xq X) (X_takenB_xq X) (X_given_xq X) (X_nearest_xq X) (X_ways_xq X) (X_row_xq X) (X_moves_xq X) (X_seen_xq X) (X_nseen_xq X) (X_layings_xq X) (X_nlayings_xq X) (X_starts_xq X) (X_nstarts_xq X) (X_found_xq X) (X_wells_xq X) (X_reachable_xq X) (X_aim_xq X) (X_due_xq X) (X_limit_xq X) (X_nextLimit_xq X) (X_firstMove_xq X) (X_below_xwk X) (X_row_xw X) (X_best_xw X) (X_reached_xw X) (X_nreached_xw X) (X_jars_xw X) (X_layings_xw X) (X_needs_xo X) (X_changes_xo X) (X_row_xo X) (X_lost_xo X) (X_throne_xo X) (X_ways_xo X) (X_least_xo X) (X_most_xo X) (X_order_xg X) (X_images_xg X) (X_looks_xg X) (X_twins_xg X) .null) := by unfold wXS; rw [h]
theorem wX_r {X : XS} (h : X_land_xg X = .ref 20) : wXS X = (wDj (X_bytes_xt X) (X_length_xt X) (X_end_xt X) (X_at_xt X) (X_fault_xt X) (X_wells_xr0 X) (X_next_xr0 X) (X_ways_xr0 X) (X_wells_xr1 X) (X_next_xr1 X) (X_ways_xr1 X) (X_wells_xr2 X) (X_next_xr2 X) (X_ways_xr2 X) (X_wells_xrp X) (X_next_xrp X) (X_ways_xrp X) (X_wells_xrx X) (X_next_xrx X) (X_ways_xrx X) (X_wells_xh X) (X_next_xh X) (X_ways_xh X) (X_wells_xf X) (X_next_xf X) (X_ways_xf X) (X_wells_xs X) (X_next_xs X) (X_ways_xs X) (X_wells_xx X) (X_next_xx X) (X_ways_xx X) (X_rules_xa X) (X_kinds_xa X) (X_worths_xa X) (X_tests_xa X) (X_code_xa X) (X_size_xa X) (X_given_xa X) (X_stack_xa X) (X_rules_xb X) (X_kinds_xb X) (X_worths_xb X) (X_tests_xb X) (X_code_xb X) (X_size_xb X) (X_given_xb X) (X_stack_xb X) (X_jars_xc X) (X_space_xc X) (X_throne_xc X) (X_day_xc X) (X_draw_xc X) (X_gone_xc X) (X_robbed_xc X) (X_jars_xy X) (X_space_xy X) (X_throne_xy X) (X_day_xy X) (X_draw_xy X) (X_gone_xy X) (X_robbed_xy X) (X_jars_xz X) (X_space_xz X) (X_throne_xz X) (X_day_xz X) (X_draw_xz X) (X_gone_xz X) (X_robbed_xz X) (X_anyKept_x X) (X_told_xn X) (X_layings_xn X) (X_rows_xn X) (X_greatestWell_xn X) (X_found_xn X) (X_nfound_xn X) (X_marks_xn X) (X_nmarks_xn X) (X_shifts_xn X) (X_fields_xn X) (X_two_xn X) (X_full_xn X) (X_change_xn X) (X_moves_xn X) (X_wells_xn X) (X_size_xn X) (X_levelStart_xn X) (X_below_xqk X) (X_takenA_xq X) (X_takenB_xq X) (X_given_xq X) (X_nearest_xq X) (X_ways_xq X) (X_row_xq X) (X_moves_xq X) (X_seen_xq X) (X_nseen_xq X) (X_layings_xq X) (X_nlayings_xq X) (X_starts_xq X) (X_nstarts_xq X) (X_found_xq X) (X_wells_xq X) (X_reachable_xq X) (X_aim_xq X) (X_due_xq X) (X_limit_xq X) (X_nextLimit_xq X) (X_firstMove_xq X) (X_below_xwk X) (X_row_xw X) (X_best_xw X) (X_reached_xw X) (X_nreached_xw X) (X_jars_xw X) (X_layings_xw X) (X_needs_xo X) (X_changes_xo X) (X_row_xo X) (X_lost_xo X) (X_throne_xo X) (X_ways_xo X) (X_least_xo X) (X_most_xo X) (X_order_xg X) (X_images_xg X) (X_looks_xg X) (X_twins_xg X) (.ref 20)) := by unfold wXS; rw [h]
set_option maxHeartbeats 4000000 in
set_option maxRecDepth 20000 in
theorem body_0 {b L : Nat} {xs : Nat → Int32} {i : Int32} {c0 s0 kc ks : Nat} {X X2 : XS} {M M2 : MS} (hc : c0 ≤ 522958) (hs : s0 ≤ 7533376) (hc1 : c0 + 100 ≤ 522958) (hs1 : s0 + 200000 ≤ 7533376) (hk : kc ≤ 100) (hk2 : ks ≤ 200000) (g1 : ix (i + 1) L = true) (g2 : ix (i + 2) L = true) (g3 : ix (i + 3) L = true) (g4 : ix (i + 4) L = true) (g5 : ix (i + 5) L = true) (h : St_0 xs i X M X2 M2 kc ks)
    (kk : V (mLaw b L xs) ZL (c0 + kc) (s0 + ks) 876 [some (.ref 1000), some (.ref 0), some (.ref 93), some (.int i)] [] (wXS X2 ++ wMS M2)) : V (mLaw b L xs) ZL c0 s0 152 [some (.ref 1000), some (.ref 0), some (.ref 93), some (.int i)] [] (wXS X ++ wMS M) := by
  obtain ⟨y1, y2, h1, h2, he, rfl, rfl, rfl, rfl⟩ := h
  exact law_0 hc hs g1 g2 h1 h2 he kk

set_option maxHeartbeats 4000000 in
set_option maxRecDepth 20000 in
theorem body_1 {b L : Nat} {xs : Nat → Int32} {i : Int32} {c0 s0 kc ks : Nat} {X X2 : XS} {M M2 : MS} (hc : c0 ≤ 522958) (hs : s0 ≤ 7533376) (hc1 : c0 + 100 ≤ 522958) (hs1 : s0 + 200000 ≤ 7533376) (hk : kc ≤ 100) (hk2 : ks ≤ 200000) (g1 : ix (i + 1) L = true) (g2 : ix (i + 2) L = true) (g3 : ix (i + 3) L = true) (g4 : ix (i + 4) L = true) (g5 : ix (i + 5) L = true) (h : St_1 xs i X M X2 M2 kc ks)
    (kk : V (mLaw b L xs) ZL (c0 + kc) (s0 + ks) 876 [some (.ref 1000), some (.ref 0), some (.ref 93), some (.int i)] [] (wXS X2 ++ wMS M2)) : V (mLaw b L xs) ZL c0 s0 185 [some (.ref 1000), some (.ref 0), some (.ref 93), some (.int i)] [] (wXS X ++ wMS M) := by
  obtain ⟨y1, y2, h1, h2, he, rfl, rfl, rfl, rfl⟩ := h
  exact law_1 hc hs g1 h1 h2 he kk

set_option maxHeartbeats 4000000 in
set_option maxRecDepth 20000 in
theorem body_2 {b L : Nat} {xs : Nat → Int32} {i : Int32} {c0 s0 kc ks : Nat} {X X2 : XS} {M M2 : MS} (hc : c0 ≤ 522958) (hs : s0 ≤ 7533376) (hc1 : c0 + 100 ≤ 522958) (hs1 : s0 + 200000 ≤ 7533376) (hk : kc ≤ 100) (hk2 : ks ≤ 200000) (g1 : ix (i + 1) L = true) (g2 : ix (i + 2) L = true) (g3 : ix (i + 3) L = true) (g4 : ix (i + 4) L = true) (g5 : ix (i + 5) L = true) (h : St_2 xs i X M X2 M2 kc ks)
    (kk : V (mLaw b L xs) ZL (c0 + kc) (s0 + ks) 876 [some (.ref 1000), some (.ref 0), some (.ref 93), some (.int i)] [] (wXS X2 ++ wMS M2)) : V (mLaw b L xs) ZL c0 s0 208 [some (.ref 1000), some (.ref 0), some (.ref 93), some (.int i)] [] (wXS X ++ wMS M) := by
  obtain ⟨y1, y2, h1, h2, he, rfl, rfl, rfl, rfl⟩ := h
  exact law_2 hc hs g1 g2 g3 g4 g5 h1 h2 he kk

set_option maxHeartbeats 4000000 in
set_option maxRecDepth 20000 in
theorem body_3 {b L : Nat} {xs : Nat → Int32} {i : Int32} {c0 s0 kc ks : Nat} {X X2 : XS} {M M2 : MS} (hlg : X_land_xg X = .null ∨ X_land_xg X = .ref 20) (hc : c0 ≤ 522958) (hs : s0 ≤ 7533376) (hc1 : c0 + 100 ≤ 522958) (hs1 : s0 + 200000 ≤ 7533376) (hk : kc ≤ 100) (hk2 : ks ≤ 200000) (g1 : ix (i + 1) L = true) (g2 : ix (i + 2) L = true) (g3 : ix (i + 3) L = true) (g4 : ix (i + 4) L = true) (g5 : ix (i + 5) L = true) (h : St_3 xs i X M X2 M2 kc ks)
    (kk : V (mLaw b L xs) ZL (c0 + kc) (s0 + ks) 876 [some (.ref 1000), some (.ref 0), some (.ref 93), some (.int i)] [] (wXS X2 ++ wMS M2)) : V (mLaw b L xs) ZL c0 s0 271 [some (.ref 1000), some (.ref 0), some (.ref 93), some (.int i)] [] (wXS X ++ wMS M) := by
  obtain ⟨y1, y2, h1, h2, he, rfl, rfl, rfl, rfl⟩ := h
  exact law_3 (bc := 100) (bs := 200000) hlg hc hs g1 h1 (by omega) (by omega) (by omega) (by omega) h2 he kk

set_option maxHeartbeats 4000000 in
set_option maxRecDepth 20000 in
theorem body_4 {b L : Nat} {xs : Nat → Int32} {i : Int32} {c0 s0 kc ks : Nat} {X X2 : XS} {M M2 : MS} (hc : c0 ≤ 522958) (hs : s0 ≤ 7533376) (hc1 : c0 + 100 ≤ 522958) (hs1 : s0 + 200000 ≤ 7533376) (hk : kc ≤ 100) (hk2 : ks ≤ 200000) (g1 : ix (i + 1) L = true) (g2 : ix (i + 2) L = true) (g3 : ix (i + 3) L = true) (g4 : ix (i + 4) L = true) (g5 : ix (i + 5) L = true) (h : St_4 xs i X M X2 M2 kc ks)
    (kk : V (mLaw b L xs) ZL (c0 + kc) (s0 + ks) 876 [some (.ref 1000), some (.ref 0), some (.ref 93), some (.int i)] [] (wXS X2 ++ wMS M2)) : V (mLaw b L xs) ZL c0 s0 294 [some (.ref 1000), some (.ref 0), some (.ref 93), some (.int i)] [] (wXS X ++ wMS M) := by
  obtain ⟨y1, y2, h1, h2, he, rfl, rfl, rfl, rfl⟩ := h
  exact law_4 hc hs g1 h1 h2 he kk

set_option maxHeartbeats 4000000 in
set_option maxRecDepth 20000 in
theorem body_5 {b L : Nat} {xs : Nat → Int32} {i : Int32} {c0 s0 kc ks : Nat} {X X2 : XS} {M M2 : MS} (hc : c0 ≤ 522958) (hs : s0 ≤ 7533376) (hc1 : c0 + 100 ≤ 522958) (hs1 : s0 + 200000 ≤ 7533376) (hk : kc ≤ 100) (hk2 : ks ≤ 200000) (g1 : ix (i + 1) L = true) (g2 : ix (i + 2) L = true) (g3 : ix (i + 3) L = true) (g4 : ix (i + 4) L = true) (g5 : ix (i + 5) L = true) (h : St_5 xs i X M X2 M2 kc ks)
    (kk : V (mLaw b L xs) ZL (c0 + kc) (s0 + ks) 876 [some (.ref 1000), some (.ref 0), some (.ref 93), some (.int i)] [] (wXS X2 ++ wMS M2)) : V (mLaw b L xs) ZL c0 s0 317 [some (.ref 1000), some (.ref 0), some (.ref 93), some (.int i)] [] (wXS X ++ wMS M) := by
  obtain ⟨y1, y2, h1, h2, he, rfl, rfl, rfl, rfl⟩ := h
  exact law_5 hc hs g1 h1 h2 he kk

set_option maxHeartbeats 4000000 in
set_option maxRecDepth 20000 in
theorem body_6 {b L : Nat} {xs : Nat → Int32} {i : Int32} {c0 s0 kc ks : Nat} {X X2 : XS} {M M2 : MS} (hc : c0 ≤ 522958) (hs : s0 ≤ 7533376) (hc1 : c0 + 100 ≤ 522958) (hs1 : s0 + 200000 ≤ 7533376) (hk : kc ≤ 100) (hk2 : ks ≤ 200000) (g1 : ix (i + 1) L = true) (g2 : ix (i + 2) L = true) (g3 : ix (i + 3) L = true) (g4 : ix (i + 4) L = true) (g5 : ix (i + 5) L = true) (h : St_6 xs i X M X2 M2 kc ks)
    (kk : V (mLaw b L xs) ZL (c0 + kc) (s0 + ks) 876 [some (.ref 1000), some (.ref 0), some (.ref 93), some (.int i)] [] (wXS X2 ++ wMS M2)) : V (mLaw b L xs) ZL c0 s0 340 [some (.ref 1000), some (.ref 0), some (.ref 93), some (.int i)] [] (wXS X ++ wMS M) := by
  obtain ⟨y1, y2, h1, h2, he, rfl, rfl, rfl, rfl⟩ := h
  exact law_6 hc hs g1 h1 h2 he kk

set_option maxHeartbeats 4000000 in
set_option maxRecDepth 20000 in
theorem body_7 {b L : Nat} {xs : Nat → Int32} {i : Int32} {c0 s0 kc ks : Nat} {X X2 : XS} {M M2 : MS} (hc : c0 ≤ 522958) (hs : s0 ≤ 7533376) (hc1 : c0 + 100 ≤ 522958) (hs1 : s0 + 200000 ≤ 7533376) (hk : kc ≤ 100) (hk2 : ks ≤ 200000) (g1 : ix (i + 1) L = true) (g2 : ix (i + 2) L = true) (g3 : ix (i + 3) L = true) (g4 : ix (i + 4) L = true) (g5 : ix (i + 5) L = true) (h : St_7 xs i X M X2 M2 kc ks)
    (kk : V (mLaw b L xs) ZL (c0 + kc) (s0 + ks) 876 [some (.ref 1000), some (.ref 0), some (.ref 93), some (.int i)] [] (wXS X2 ++ wMS M2)) : V (mLaw b L xs) ZL c0 s0 363 [some (.ref 1000), some (.ref 0), some (.ref 93), some (.int i)] [] (wXS X ++ wMS M) := by
  obtain ⟨y1, y2, h1, h2, he, rfl, rfl, rfl, rfl⟩ := h
  exact law_7 hc hs g1 g2 h1 h2 he kk

set_option maxHeartbeats 4000000 in
set_option maxRecDepth 20000 in
theorem body_8 {b L : Nat} {xs : Nat → Int32} {i : Int32} {c0 s0 kc ks : Nat} {X X2 : XS} {M M2 : MS} (hc : c0 ≤ 522958) (hs : s0 ≤ 7533376) (hc1 : c0 + 100 ≤ 522958) (hs1 : s0 + 200000 ≤ 7533376) (hk : kc ≤ 100) (hk2 : ks ≤ 200000) (g1 : ix (i + 1) L = true) (g2 : ix (i + 2) L = true) (g3 : ix (i + 3) L = true) (g4 : ix (i + 4) L = true) (g5 : ix (i + 5) L = true) (h : St_8 xs i X M X2 M2 kc ks)
    (kk : V (mLaw b L xs) ZL (c0 + kc) (s0 + ks) 876 [some (.ref 1000), some (.ref 0), some (.ref 93), some (.int i)] [] (wXS X2 ++ wMS M2)) : V (mLaw b L xs) ZL c0 s0 396 [some (.ref 1000), some (.ref 0), some (.ref 93), some (.int i)] [] (wXS X ++ wMS M) := by
  obtain ⟨y1, y2, h1, h2, he, rfl, rfl, rfl, rfl⟩ := h
  exact law_8 hc hs g1 g2 h1 h2 he kk

set_option maxHeartbeats 4000000 in
set_option maxRecDepth 20000 in
theorem body_9 {b L : Nat} {xs : Nat → Int32} {i : Int32} {c0 s0 kc ks : Nat} {X X2 : XS} {M M2 : MS} (hc : c0 ≤ 522958) (hs : s0 ≤ 7533376) (hc1 : c0 + 100 ≤ 522958) (hs1 : s0 + 200000 ≤ 7533376) (hk : kc ≤ 100) (hk2 : ks ≤ 200000) (g1 : ix (i + 1) L = true) (g2 : ix (i + 2) L = true) (g3 : ix (i + 3) L = true) (g4 : ix (i + 4) L = true) (g5 : ix (i + 5) L = true) (h : St_9 xs i X M X2 M2 kc ks)
    (kk : V (mLaw b L xs) ZL (c0 + kc) (s0 + ks) 876 [some (.ref 1000), some (.ref 0), some (.ref 93), some (.int i)] [] (wXS X2 ++ wMS M2)) : V (mLaw b L xs) ZL c0 s0 429 [some (.ref 1000), some (.ref 0), some (.ref 93), some (.int i)] [] (wXS X ++ wMS M) := by
  obtain ⟨y1, y2, h1, h2, he, rfl, rfl, rfl, rfl⟩ := h
  exact law_9 hc hs g1 g2 h1 h2 he kk

set_option maxHeartbeats 4000000 in
set_option maxRecDepth 20000 in
theorem body_10 {b L : Nat} {xs : Nat → Int32} {i : Int32} {c0 s0 kc ks : Nat} {X X2 : XS} {M M2 : MS} (hlg : X_land_xg X = .null ∨ X_land_xg X = .ref 20) (hc : c0 ≤ 522958) (hs : s0 ≤ 7533376) (hc1 : c0 + 100 ≤ 522958) (hs1 : s0 + 200000 ≤ 7533376) (hk : kc ≤ 100) (hk2 : ks ≤ 200000) (g1 : ix (i + 1) L = true) (g2 : ix (i + 2) L = true) (g3 : ix (i + 3) L = true) (g4 : ix (i + 4) L = true) (g5 : ix (i + 5) L = true) (h : St_10 xs i X M X2 M2 kc ks)
    (kk : V (mLaw b L xs) ZL (c0 + kc) (s0 + ks) 876 [some (.ref 1000), some (.ref 0), some (.ref 93), some (.int i)] [] (wXS X2 ++ wMS M2)) : V (mLaw b L xs) ZL c0 s0 462 [some (.ref 1000), some (.ref 0), some (.ref 93), some (.int i)] [] (wXS X ++ wMS M) := by
  obtain ⟨y1, y2, h1, h2, he, rfl, rfl, rfl, rfl⟩ := h
  exact law_10 (bc := 100) (bs := 200000) hlg hc hs g1 g2 g3 g4 h1 (by omega) (by omega) (by omega) (by omega) h2 he kk

set_option maxHeartbeats 4000000 in
set_option maxRecDepth 20000 in
theorem body_11 {b L : Nat} {xs : Nat → Int32} {i : Int32} {c0 s0 kc ks : Nat} {X X2 : XS} {M M2 : MS} (hlg : X_land_xg X = .null ∨ X_land_xg X = .ref 20) (hc : c0 ≤ 522958) (hs : s0 ≤ 7533376) (hc1 : c0 + 100 ≤ 522958) (hs1 : s0 + 200000 ≤ 7533376) (hk : kc ≤ 100) (hk2 : ks ≤ 200000) (g1 : ix (i + 1) L = true) (g2 : ix (i + 2) L = true) (g3 : ix (i + 3) L = true) (g4 : ix (i + 4) L = true) (g5 : ix (i + 5) L = true) (h : St_11 xs i X M X2 M2 kc ks)
    (kk : V (mLaw b L xs) ZL (c0 + kc) (s0 + ks) 876 [some (.ref 1000), some (.ref 0), some (.ref 93), some (.int i)] [] (wXS X2 ++ wMS M2)) : V (mLaw b L xs) ZL c0 s0 531 [some (.ref 1000), some (.ref 0), some (.ref 93), some (.int i)] [] (wXS X ++ wMS M) := by
  obtain ⟨y1, y2, h1, h2, he, rfl, rfl, rfl, rfl⟩ := h
  exact law_11 (bc := 100) (bs := 200000) hlg hc hs g1 g2 h1 (by omega) (by omega) (by omega) (by omega) h2 he kk

set_option maxHeartbeats 4000000 in
set_option maxRecDepth 20000 in
theorem body_12 {b L : Nat} {xs : Nat → Int32} {i : Int32} {c0 s0 kc ks : Nat} {X X2 : XS} {M M2 : MS} (hlg : X_land_xg X = .null ∨ X_land_xg X = .ref 20) (hc : c0 ≤ 522958) (hs : s0 ≤ 7533376) (hc1 : c0 + 100 ≤ 522958) (hs1 : s0 + 200000 ≤ 7533376) (hk : kc ≤ 100) (hk2 : ks ≤ 200000) (g1 : ix (i + 1) L = true) (g2 : ix (i + 2) L = true) (g3 : ix (i + 3) L = true) (g4 : ix (i + 4) L = true) (g5 : ix (i + 5) L = true) (h : St_12 xs i X M X2 M2 kc ks)
    (kk : V (mLaw b L xs) ZL (c0 + kc) (s0 + ks) 876 [some (.ref 1000), some (.ref 0), some (.ref 93), some (.int i)] [] (wXS X2 ++ wMS M2)) : V (mLaw b L xs) ZL c0 s0 564 [some (.ref 1000), some (.ref 0), some (.ref 93), some (.int i)] [] (wXS X ++ wMS M) := by
  obtain ⟨y1, y2, h1, h2, he, rfl, rfl, rfl, rfl⟩ := h
  exact law_12 (bc := 100) (bs := 200000) hlg hc hs g1 h1 (by omega) (by omega) (by omega) (by omega) h2 he kk

set_option maxHeartbeats 4000000 in
set_option maxRecDepth 20000 in
theorem body_13 {b L : Nat} {xs : Nat → Int32} {i : Int32} {c0 s0 kc ks : Nat} {X X2 : XS} {M M2 : MS} (hlg : X_land_xg X = .null ∨ X_land_xg X = .ref 20) (hc : c0 ≤ 522958) (hs : s0 ≤ 7533376) (hc1 : c0 + 100 ≤ 522958) (hs1 : s0 + 200000 ≤ 7533376) (hk : kc ≤ 100) (hk2 : ks ≤ 200000) (g1 : ix (i + 1) L = true) (g2 : ix (i + 2) L = true) (g3 : ix (i + 3) L = true) (g4 : ix (i + 4) L = true) (g5 : ix (i + 5) L = true) (h : St_13 xs i X M X2 M2 kc ks)
    (kk : V (mLaw b L xs) ZL (c0 + kc) (s0 + ks) 876 [some (.ref 1000), some (.ref 0), some (.ref 93), some (.int i)] [] (wXS X2 ++ wMS M2)) : V (mLaw b L xs) ZL c0 s0 587 [some (.ref 1000), some (.ref 0), some (.ref 93), some (.int i)] [] (wXS X ++ wMS M) := by
  obtain ⟨y1, y2, h1, h2, he, rfl, rfl, rfl, rfl⟩ := h
  exact law_13 (bc := 100) (bs := 200000) hlg hc hs g1 h1 (by omega) (by omega) (by omega) (by omega) h2 he kk

set_option maxHeartbeats 4000000 in
set_option maxRecDepth 20000 in
theorem body_14 {b L : Nat} {xs : Nat → Int32} {i : Int32} {c0 s0 kc ks : Nat} {X X2 : XS} {M M2 : MS} (hc : c0 ≤ 522958) (hs : s0 ≤ 7533376) (hc1 : c0 + 100 ≤ 522958) (hs1 : s0 + 200000 ≤ 7533376) (hk : kc ≤ 100) (hk2 : ks ≤ 200000) (g1 : ix (i + 1) L = true) (g2 : ix (i + 2) L = true) (g3 : ix (i + 3) L = true) (g4 : ix (i + 4) L = true) (g5 : ix (i + 5) L = true) (h : St_14 xs i X M X2 M2 kc ks)
    (kk : V (mLaw b L xs) ZL (c0 + kc) (s0 + ks) 876 [some (.ref 1000), some (.ref 0), some (.ref 93), some (.int i)] [] (wXS X2 ++ wMS M2)) : V (mLaw b L xs) ZL c0 s0 610 [some (.ref 1000), some (.ref 0), some (.ref 93), some (.int i)] [] (wXS X ++ wMS M) := by
  obtain ⟨y1, y2, h1, h2, he, rfl, rfl, rfl, rfl⟩ := h
  exact law_14 hc hs  h1 h2 he kk

set_option maxHeartbeats 4000000 in
set_option maxRecDepth 20000 in
theorem body_15 {b L : Nat} {xs : Nat → Int32} {i : Int32} {c0 s0 kc ks : Nat} {X X2 : XS} {M M2 : MS} (hc : c0 ≤ 522958) (hs : s0 ≤ 7533376) (hc1 : c0 + 100 ≤ 522958) (hs1 : s0 + 200000 ≤ 7533376) (hk : kc ≤ 100) (hk2 : ks ≤ 200000) (g1 : ix (i + 1) L = true) (g2 : ix (i + 2) L = true) (g3 : ix (i + 3) L = true) (g4 : ix (i + 4) L = true) (g5 : ix (i + 5) L = true) (h : St_15 xs i X M X2 M2 kc ks)
    (kk : V (mLaw b L xs) ZL (c0 + kc) (s0 + ks) 876 [some (.ref 1000), some (.ref 0), some (.ref 93), some (.int i)] [] (wXS X2 ++ wMS M2)) : V (mLaw b L xs) ZL c0 s0 623 [some (.ref 1000), some (.ref 0), some (.ref 93), some (.int i)] [] (wXS X ++ wMS M) := by
  obtain ⟨y1, y2, h1, h2, he, rfl, rfl, rfl, rfl⟩ := h
  exact law_15 hc hs g1 h1 h2 he kk

set_option maxHeartbeats 4000000 in
set_option maxRecDepth 20000 in
theorem body_16 {b L : Nat} {xs : Nat → Int32} {i : Int32} {c0 s0 kc ks : Nat} {X X2 : XS} {M M2 : MS} (hc : c0 ≤ 522958) (hs : s0 ≤ 7533376) (hc1 : c0 + 100 ≤ 522958) (hs1 : s0 + 200000 ≤ 7533376) (hk : kc ≤ 100) (hk2 : ks ≤ 200000) (g1 : ix (i + 1) L = true) (g2 : ix (i + 2) L = true) (g3 : ix (i + 3) L = true) (g4 : ix (i + 4) L = true) (g5 : ix (i + 5) L = true) (h : St_16 xs i X M X2 M2 kc ks)
    (kk : V (mLaw b L xs) ZL (c0 + kc) (s0 + ks) 876 [some (.ref 1000), some (.ref 0), some (.ref 93), some (.int i)] [] (wXS X2 ++ wMS M2)) : V (mLaw b L xs) ZL c0 s0 646 [some (.ref 1000), some (.ref 0), some (.ref 93), some (.int i)] [] (wXS X ++ wMS M) := by
  obtain ⟨y1, y2, h1, h2, he, rfl, rfl, rfl, rfl⟩ := h
  exact law_16 hc hs g1 g2 h1 h2 he kk

set_option maxHeartbeats 4000000 in
set_option maxRecDepth 20000 in
theorem body_17 {b L : Nat} {xs : Nat → Int32} {i : Int32} {c0 s0 kc ks : Nat} {X X2 : XS} {M M2 : MS} (hlg : X_land_xg X = .null ∨ X_land_xg X = .ref 20) (hc : c0 ≤ 522958) (hs : s0 ≤ 7533376) (hc1 : c0 + 100 ≤ 522958) (hs1 : s0 + 200000 ≤ 7533376) (hk : kc ≤ 100) (hk2 : ks ≤ 200000) (g1 : ix (i + 1) L = true) (g2 : ix (i + 2) L = true) (g3 : ix (i + 3) L = true) (g4 : ix (i + 4) L = true) (g5 : ix (i + 5) L = true) (h : St_17 xs i X M X2 M2 kc ks)
    (kk : V (mLaw b L xs) ZL (c0 + kc) (s0 + ks) 876 [some (.ref 1000), some (.ref 0), some (.ref 93), some (.int i)] [] (wXS X2 ++ wMS M2)) : V (mLaw b L xs) ZL c0 s0 679 [some (.ref 1000), some (.ref 0), some (.ref 93), some (.int i)] [] (wXS X ++ wMS M) := by
  obtain ⟨y1, y2, h1, h2, he, rfl, rfl, rfl, rfl⟩ := h
  exact law_17 (bc := 100) (bs := 200000) hlg hc hs g1 h1 (by omega) (by omega) (by omega) (by omega) h2 he kk

set_option maxHeartbeats 4000000 in
set_option maxRecDepth 20000 in
theorem body_18 {b L : Nat} {xs : Nat → Int32} {i : Int32} {c0 s0 kc ks : Nat} {X X2 : XS} {M M2 : MS} (hc : c0 ≤ 522958) (hs : s0 ≤ 7533376) (hc1 : c0 + 100 ≤ 522958) (hs1 : s0 + 200000 ≤ 7533376) (hk : kc ≤ 100) (hk2 : ks ≤ 200000) (g1 : ix (i + 1) L = true) (g2 : ix (i + 2) L = true) (g3 : ix (i + 3) L = true) (g4 : ix (i + 4) L = true) (g5 : ix (i + 5) L = true) (h : St_18 xs i X M X2 M2 kc ks)
    (kk : V (mLaw b L xs) ZL (c0 + kc) (s0 + ks) 876 [some (.ref 1000), some (.ref 0), some (.ref 93), some (.int i)] [] (wXS X2 ++ wMS M2)) : V (mLaw b L xs) ZL c0 s0 702 [some (.ref 1000), some (.ref 0), some (.ref 93), some (.int i)] [] (wXS X ++ wMS M) := by
  obtain ⟨y1, y2, h1, h2, he, rfl, rfl, rfl, rfl⟩ := h
  exact law_18 hc hs g1 h1 h2 he kk

set_option maxHeartbeats 4000000 in
set_option maxRecDepth 20000 in
theorem body_19 {b L : Nat} {xs : Nat → Int32} {i : Int32} {c0 s0 kc ks : Nat} {X X2 : XS} {M M2 : MS} (hc : c0 ≤ 522958) (hs : s0 ≤ 7533376) (hc1 : c0 + 100 ≤ 522958) (hs1 : s0 + 200000 ≤ 7533376) (hk : kc ≤ 100) (hk2 : ks ≤ 200000) (g1 : ix (i + 1) L = true) (g2 : ix (i + 2) L = true) (g3 : ix (i + 3) L = true) (g4 : ix (i + 4) L = true) (g5 : ix (i + 5) L = true) (h : St_19 xs i X M X2 M2 kc ks)
    (kk : V (mLaw b L xs) ZL (c0 + kc) (s0 + ks) 876 [some (.ref 1000), some (.ref 0), some (.ref 93), some (.int i)] [] (wXS X2 ++ wMS M2)) : V (mLaw b L xs) ZL c0 s0 725 [some (.ref 1000), some (.ref 0), some (.ref 93), some (.int i)] [] (wXS X ++ wMS M) := by
  obtain ⟨y1, y2, h1, h2, he, rfl, rfl, rfl, rfl⟩ := h
  exact law_19 hc hs g1 g2 h1 h2 he kk

set_option maxHeartbeats 4000000 in
set_option maxRecDepth 20000 in
theorem body_20 {b L : Nat} {xs : Nat → Int32} {i : Int32} {c0 s0 kc ks : Nat} {X X2 : XS} {M M2 : MS} (hc : c0 ≤ 522958) (hs : s0 ≤ 7533376) (hc1 : c0 + 100 ≤ 522958) (hs1 : s0 + 200000 ≤ 7533376) (hk : kc ≤ 100) (hk2 : ks ≤ 200000) (g1 : ix (i + 1) L = true) (g2 : ix (i + 2) L = true) (g3 : ix (i + 3) L = true) (g4 : ix (i + 4) L = true) (g5 : ix (i + 5) L = true) (h : St_20 xs i X M X2 M2 kc ks)
    (kk : V (mLaw b L xs) ZL (c0 + kc) (s0 + ks) 876 [some (.ref 1000), some (.ref 0), some (.ref 93), some (.int i)] [] (wXS X2 ++ wMS M2)) : V (mLaw b L xs) ZL c0 s0 758 [some (.ref 1000), some (.ref 0), some (.ref 93), some (.int i)] [] (wXS X ++ wMS M) := by
  rcases h with h | h | h
  · obtain ⟨hl, y1, y2, h1, h2, he, rfl, rfl, rfl, rfl⟩ := h
    rw [wX_r hl]
    exact law_20 hc hs g1 h1 h2 he kk
  · obtain ⟨hl, y1, y2, h1, h2, he, rfl, rfl, rfl, rfl⟩ := h
    rw [wX_n hl]
    exact law_20N hc hs g1 h1 h2 he kk
  · obtain ⟨hl, y1, y2, h1, h2, he, rfl, rfl, rfl, rfl⟩ := h
    rw [wX_n hl]
    exact law_20O hc hs g1 h1 h2 he kk

set_option maxHeartbeats 4000000 in
set_option maxRecDepth 20000 in
theorem body_21 {b L : Nat} {xs : Nat → Int32} {i : Int32} {c0 s0 kc ks : Nat} {X X2 : XS} {M M2 : MS} (hc : c0 ≤ 522958) (hs : s0 ≤ 7533376) (hc1 : c0 + 100 ≤ 522958) (hs1 : s0 + 200000 ≤ 7533376) (hk : kc ≤ 100) (hk2 : ks ≤ 200000) (g1 : ix (i + 1) L = true) (g2 : ix (i + 2) L = true) (g3 : ix (i + 3) L = true) (g4 : ix (i + 4) L = true) (g5 : ix (i + 5) L = true) (h : St_21 xs i X M X2 M2 kc ks)
    (kk : V (mLaw b L xs) ZL (c0 + kc) (s0 + ks) 876 [some (.ref 1000), some (.ref 0), some (.ref 93), some (.int i)] [] (wXS X2 ++ wMS M2)) : V (mLaw b L xs) ZL c0 s0 781 [some (.ref 1000), some (.ref 0), some (.ref 93), some (.int i)] [] (wXS X ++ wMS M) := by
  obtain ⟨y1, y2, h1, h2, he, rfl, rfl, rfl, rfl⟩ := h
  exact law_21 hc hs g1 h1 h2 he kk

set_option maxHeartbeats 4000000 in
set_option maxRecDepth 20000 in
theorem body_22 {b L : Nat} {xs : Nat → Int32} {i : Int32} {c0 s0 kc ks : Nat} {X X2 : XS} {M M2 : MS} (hc : c0 ≤ 522958) (hs : s0 ≤ 7533376) (hc1 : c0 + 100 ≤ 522958) (hs1 : s0 + 200000 ≤ 7533376) (hk : kc ≤ 100) (hk2 : ks ≤ 200000) (g1 : ix (i + 1) L = true) (g2 : ix (i + 2) L = true) (g3 : ix (i + 3) L = true) (g4 : ix (i + 4) L = true) (g5 : ix (i + 5) L = true) (h : St_22 xs i X M X2 M2 kc ks)
    (kk : V (mLaw b L xs) ZL (c0 + kc) (s0 + ks) 876 [some (.ref 1000), some (.ref 0), some (.ref 93), some (.int i)] [] (wXS X2 ++ wMS M2)) : V (mLaw b L xs) ZL c0 s0 804 [some (.ref 1000), some (.ref 0), some (.ref 93), some (.int i)] [] (wXS X ++ wMS M) := by
  obtain ⟨y1, y2, h1, h2, he, rfl, rfl, rfl, rfl⟩ := h
  exact law_22 hc hs  h1 h2 he kk

set_option maxHeartbeats 4000000 in
set_option maxRecDepth 20000 in
theorem body_23 {b L : Nat} {xs : Nat → Int32} {i : Int32} {c0 s0 kc ks : Nat} {X X2 : XS} {M M2 : MS} (hc : c0 ≤ 522958) (hs : s0 ≤ 7533376) (hc1 : c0 + 100 ≤ 522958) (hs1 : s0 + 200000 ≤ 7533376) (hk : kc ≤ 100) (hk2 : ks ≤ 200000) (g1 : ix (i + 1) L = true) (g2 : ix (i + 2) L = true) (g3 : ix (i + 3) L = true) (g4 : ix (i + 4) L = true) (g5 : ix (i + 5) L = true) (h : St_23 xs i X M X2 M2 kc ks)
    (kk : V (mLaw b L xs) ZL (c0 + kc) (s0 + ks) 876 [some (.ref 1000), some (.ref 0), some (.ref 93), some (.int i)] [] (wXS X2 ++ wMS M2)) : V (mLaw b L xs) ZL c0 s0 817 [some (.ref 1000), some (.ref 0), some (.ref 93), some (.int i)] [] (wXS X ++ wMS M) := by
  obtain ⟨y1, y2, h1, h2, he, rfl, rfl, rfl, rfl⟩ := h
  exact law_23 hc hs  h1 h2 he kk

set_option maxHeartbeats 4000000 in
set_option maxRecDepth 20000 in
theorem body_24 {b L : Nat} {xs : Nat → Int32} {i : Int32} {c0 s0 kc ks : Nat} {X X2 : XS} {M M2 : MS} (hc : c0 ≤ 522958) (hs : s0 ≤ 7533376) (hc1 : c0 + 100 ≤ 522958) (hs1 : s0 + 200000 ≤ 7533376) (hk : kc ≤ 100) (hk2 : ks ≤ 200000) (g1 : ix (i + 1) L = true) (g2 : ix (i + 2) L = true) (g3 : ix (i + 3) L = true) (g4 : ix (i + 4) L = true) (g5 : ix (i + 5) L = true) (h : St_24 xs i X M X2 M2 kc ks)
    (kk : V (mLaw b L xs) ZL (c0 + kc) (s0 + ks) 876 [some (.ref 1000), some (.ref 0), some (.ref 93), some (.int i)] [] (wXS X2 ++ wMS M2)) : V (mLaw b L xs) ZL c0 s0 830 [some (.ref 1000), some (.ref 0), some (.ref 93), some (.int i)] [] (wXS X ++ wMS M) := by
  obtain ⟨y1, y2, h1, h2, he, rfl, rfl, rfl, rfl⟩ := h
  exact law_24 hc hs g1 h1 h2 he kk

set_option maxHeartbeats 4000000 in
set_option maxRecDepth 20000 in
theorem body_25 {b L : Nat} {xs : Nat → Int32} {i : Int32} {c0 s0 kc ks : Nat} {X X2 : XS} {M M2 : MS} (hc : c0 ≤ 522958) (hs : s0 ≤ 7533376) (hc1 : c0 + 100 ≤ 522958) (hs1 : s0 + 200000 ≤ 7533376) (hk : kc ≤ 100) (hk2 : ks ≤ 200000) (g1 : ix (i + 1) L = true) (g2 : ix (i + 2) L = true) (g3 : ix (i + 3) L = true) (g4 : ix (i + 4) L = true) (g5 : ix (i + 5) L = true) (h : St_25 xs i X M X2 M2 kc ks)
    (kk : V (mLaw b L xs) ZL (c0 + kc) (s0 + ks) 876 [some (.ref 1000), some (.ref 0), some (.ref 93), some (.int i)] [] (wXS X2 ++ wMS M2)) : V (mLaw b L xs) ZL c0 s0 853 [some (.ref 1000), some (.ref 0), some (.ref 93), some (.int i)] [] (wXS X ++ wMS M) := by
  obtain ⟨y1, y2, h1, h2, he, rfl, rfl, rfl, rfl⟩ := h
  exact law_25 hc hs g1 h1 h2 he kk

