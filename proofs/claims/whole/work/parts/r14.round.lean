/-! a round of the law -/
set_option maxHeartbeats 4000000 in
theorem law_round {b L : Nat} {xs : Nat → Int32} {i : Int32} {c0 s0 kc ks : Nat} {X X2 : XS} {M M2 : MS} (hlg : X_land_xg X = .null ∨ X_land_xg X = .ref 20) (hc1 : c0 + 100 ≤ 522958) (hs1 : s0 + 200000 ≤ 7533376) (hk : kc ≤ 100) (hk2 : ks ≤ 200000) (g0 : ix i L = true) (g1 : ix (i + 1) L = true) (g2 : ix (i + 2) L = true) (g3 : ix (i + 3) L = true) (g4 : ix (i + 4) L = true) (g5 : ix (i + 5) L = true) (h : LStep xs i X M X2 M2 kc ks)
    (kk : V (mLaw b L xs) ZL (c0 + kc) (s0 + ks) 876 [some (.ref 1000), some (.ref 0), some (.ref 93), some (.int i)] [] (wXS X2 ++ wMS M2)) : V (mLaw b L xs) ZL c0 s0 27 [some (.ref 1000), some (.ref 0), some (.ref 93), some (.int i)] [] (wXS X ++ wMS M) := by
  have hc : c0 ≤ 522958 := by omega
  have hs : s0 ≤ 7533376 := by omega
  refine V.blk [(.aload_n 0, 0, 0, 0, 0), (.iload_n 3, 0, 0, 0, 0)] (okB_law (by decide +kernel)) (pc' := 29) (l' := [some (.ref 1000), some (.ref 0), some (.ref 93), some (.int i)]) (st' := [.int i, .ref 1000]) (hs' := wXS X ++ wMS M) rfl trivial rfl ?_
  refine V.sld g0 (by decide +kernel) ?_
  refine V.blk [(.bipush 31, 0, 0, 0, 31), (.iand, 0, 0, 0, 0)] (okB_law (by decide +kernel)) (pc' := 33) (l' := [some (.ref 1000), some (.ref 0), some (.ref 93), some (.int i)]) (st' := [.int (xs i.toNatClampNeg &&& 31)]) (hs' := wXS X ++ wMS M) rfl trivial rfl ?_
  unfold LStep at h
  obtain ⟨h0, h1, h2, h3, h4, h5, h6, h7, h8, h9, h10, h11, h12, h13, h14, h15, h16, h17, h18, h19, h20, h21, h22, h23, h24, h25, hd⟩ := h
  by_cases q0 : xs i.toNatClampNeg &&& 31 = 0
  · refine V.tab (tgt := 152) 843 0 25 #[119, 152, 175, 238, 261, 284, 307, 330, 363, 396, 429, 498, 531, 554, 577, 590, 613, 646, 669, 692, 725, 748, 771, 784, 797, 820] 119 119 (dec_law (by decide +kernel)) (by rw [q0]; decide) (by rw [q0]; decide) (by rw [q0]; decide) (by decide +kernel) ?_
    exact body_0 hc hs hc1 hs1 hk hk2 g1 g2 g3 g4 g5 (h0 q0) kk
  by_cases q1 : xs i.toNatClampNeg &&& 31 = 1
  · refine V.tab (tgt := 185) 843 0 25 #[119, 152, 175, 238, 261, 284, 307, 330, 363, 396, 429, 498, 531, 554, 577, 590, 613, 646, 669, 692, 725, 748, 771, 784, 797, 820] 119 152 (dec_law (by decide +kernel)) (by rw [q1]; decide) (by rw [q1]; decide) (by rw [q1]; decide) (by decide +kernel) ?_
    exact body_1 hc hs hc1 hs1 hk hk2 g1 g2 g3 g4 g5 (h1 q1) kk
  by_cases q2 : xs i.toNatClampNeg &&& 31 = 2
  · refine V.tab (tgt := 208) 843 0 25 #[119, 152, 175, 238, 261, 284, 307, 330, 363, 396, 429, 498, 531, 554, 577, 590, 613, 646, 669, 692, 725, 748, 771, 784, 797, 820] 119 175 (dec_law (by decide +kernel)) (by rw [q2]; decide) (by rw [q2]; decide) (by rw [q2]; decide) (by decide +kernel) ?_
    exact body_2 hc hs hc1 hs1 hk hk2 g1 g2 g3 g4 g5 (h2 q2) kk
  by_cases q3 : xs i.toNatClampNeg &&& 31 = 3
  · refine V.tab (tgt := 271) 843 0 25 #[119, 152, 175, 238, 261, 284, 307, 330, 363, 396, 429, 498, 531, 554, 577, 590, 613, 646, 669, 692, 725, 748, 771, 784, 797, 820] 119 238 (dec_law (by decide +kernel)) (by rw [q3]; decide) (by rw [q3]; decide) (by rw [q3]; decide) (by decide +kernel) ?_
    exact body_3 hlg hc hs hc1 hs1 hk hk2 g1 g2 g3 g4 g5 (h3 q3) kk
  by_cases q4 : xs i.toNatClampNeg &&& 31 = 4
  · refine V.tab (tgt := 294) 843 0 25 #[119, 152, 175, 238, 261, 284, 307, 330, 363, 396, 429, 498, 531, 554, 577, 590, 613, 646, 669, 692, 725, 748, 771, 784, 797, 820] 119 261 (dec_law (by decide +kernel)) (by rw [q4]; decide) (by rw [q4]; decide) (by rw [q4]; decide) (by decide +kernel) ?_
    exact body_4 hc hs hc1 hs1 hk hk2 g1 g2 g3 g4 g5 (h4 q4) kk
  by_cases q5 : xs i.toNatClampNeg &&& 31 = 5
  · refine V.tab (tgt := 317) 843 0 25 #[119, 152, 175, 238, 261, 284, 307, 330, 363, 396, 429, 498, 531, 554, 577, 590, 613, 646, 669, 692, 725, 748, 771, 784, 797, 820] 119 284 (dec_law (by decide +kernel)) (by rw [q5]; decide) (by rw [q5]; decide) (by rw [q5]; decide) (by decide +kernel) ?_
    exact body_5 hc hs hc1 hs1 hk hk2 g1 g2 g3 g4 g5 (h5 q5) kk
  by_cases q6 : xs i.toNatClampNeg &&& 31 = 6
  · refine V.tab (tgt := 340) 843 0 25 #[119, 152, 175, 238, 261, 284, 307, 330, 363, 396, 429, 498, 531, 554, 577, 590, 613, 646, 669, 692, 725, 748, 771, 784, 797, 820] 119 307 (dec_law (by decide +kernel)) (by rw [q6]; decide) (by rw [q6]; decide) (by rw [q6]; decide) (by decide +kernel) ?_
    exact body_6 hc hs hc1 hs1 hk hk2 g1 g2 g3 g4 g5 (h6 q6) kk
  by_cases q7 : xs i.toNatClampNeg &&& 31 = 7
  · refine V.tab (tgt := 363) 843 0 25 #[119, 152, 175, 238, 261, 284, 307, 330, 363, 396, 429, 498, 531, 554, 577, 590, 613, 646, 669, 692, 725, 748, 771, 784, 797, 820] 119 330 (dec_law (by decide +kernel)) (by rw [q7]; decide) (by rw [q7]; decide) (by rw [q7]; decide) (by decide +kernel) ?_
    exact body_7 hc hs hc1 hs1 hk hk2 g1 g2 g3 g4 g5 (h7 q7) kk
  by_cases q8 : xs i.toNatClampNeg &&& 31 = 8
  · refine V.tab (tgt := 396) 843 0 25 #[119, 152, 175, 238, 261, 284, 307, 330, 363, 396, 429, 498, 531, 554, 577, 590, 613, 646, 669, 692, 725, 748, 771, 784, 797, 820] 119 363 (dec_law (by decide +kernel)) (by rw [q8]; decide) (by rw [q8]; decide) (by rw [q8]; decide) (by decide +kernel) ?_
    exact body_8 hc hs hc1 hs1 hk hk2 g1 g2 g3 g4 g5 (h8 q8) kk
  by_cases q9 : xs i.toNatClampNeg &&& 31 = 9
  · refine V.tab (tgt := 429) 843 0 25 #[119, 152, 175, 238, 261, 284, 307, 330, 363, 396, 429, 498, 531, 554, 577, 590, 613, 646, 669, 692, 725, 748, 771, 784, 797, 820] 119 396 (dec_law (by decide +kernel)) (by rw [q9]; decide) (by rw [q9]; decide) (by rw [q9]; decide) (by decide +kernel) ?_
    exact body_9 hc hs hc1 hs1 hk hk2 g1 g2 g3 g4 g5 (h9 q9) kk
  by_cases q10 : xs i.toNatClampNeg &&& 31 = 10
  · refine V.tab (tgt := 462) 843 0 25 #[119, 152, 175, 238, 261, 284, 307, 330, 363, 396, 429, 498, 531, 554, 577, 590, 613, 646, 669, 692, 725, 748, 771, 784, 797, 820] 119 429 (dec_law (by decide +kernel)) (by rw [q10]; decide) (by rw [q10]; decide) (by rw [q10]; decide) (by decide +kernel) ?_
    exact body_10 hlg hc hs hc1 hs1 hk hk2 g1 g2 g3 g4 g5 (h10 q10) kk
  by_cases q11 : xs i.toNatClampNeg &&& 31 = 11
  · refine V.tab (tgt := 531) 843 0 25 #[119, 152, 175, 238, 261, 284, 307, 330, 363, 396, 429, 498, 531, 554, 577, 590, 613, 646, 669, 692, 725, 748, 771, 784, 797, 820] 119 498 (dec_law (by decide +kernel)) (by rw [q11]; decide) (by rw [q11]; decide) (by rw [q11]; decide) (by decide +kernel) ?_
    exact body_11 hlg hc hs hc1 hs1 hk hk2 g1 g2 g3 g4 g5 (h11 q11) kk
  by_cases q12 : xs i.toNatClampNeg &&& 31 = 12
  · refine V.tab (tgt := 564) 843 0 25 #[119, 152, 175, 238, 261, 284, 307, 330, 363, 396, 429, 498, 531, 554, 577, 590, 613, 646, 669, 692, 725, 748, 771, 784, 797, 820] 119 531 (dec_law (by decide +kernel)) (by rw [q12]; decide) (by rw [q12]; decide) (by rw [q12]; decide) (by decide +kernel) ?_
    exact body_12 hlg hc hs hc1 hs1 hk hk2 g1 g2 g3 g4 g5 (h12 q12) kk
  by_cases q13 : xs i.toNatClampNeg &&& 31 = 13
  · refine V.tab (tgt := 587) 843 0 25 #[119, 152, 175, 238, 261, 284, 307, 330, 363, 396, 429, 498, 531, 554, 577, 590, 613, 646, 669, 692, 725, 748, 771, 784, 797, 820] 119 554 (dec_law (by decide +kernel)) (by rw [q13]; decide) (by rw [q13]; decide) (by rw [q13]; decide) (by decide +kernel) ?_
    exact body_13 hlg hc hs hc1 hs1 hk hk2 g1 g2 g3 g4 g5 (h13 q13) kk
  by_cases q14 : xs i.toNatClampNeg &&& 31 = 14
  · refine V.tab (tgt := 610) 843 0 25 #[119, 152, 175, 238, 261, 284, 307, 330, 363, 396, 429, 498, 531, 554, 577, 590, 613, 646, 669, 692, 725, 748, 771, 784, 797, 820] 119 577 (dec_law (by decide +kernel)) (by rw [q14]; decide) (by rw [q14]; decide) (by rw [q14]; decide) (by decide +kernel) ?_
    exact body_14 hc hs hc1 hs1 hk hk2 g1 g2 g3 g4 g5 (h14 q14) kk
  by_cases q15 : xs i.toNatClampNeg &&& 31 = 15
  · refine V.tab (tgt := 623) 843 0 25 #[119, 152, 175, 238, 261, 284, 307, 330, 363, 396, 429, 498, 531, 554, 577, 590, 613, 646, 669, 692, 725, 748, 771, 784, 797, 820] 119 590 (dec_law (by decide +kernel)) (by rw [q15]; decide) (by rw [q15]; decide) (by rw [q15]; decide) (by decide +kernel) ?_
    exact body_15 hc hs hc1 hs1 hk hk2 g1 g2 g3 g4 g5 (h15 q15) kk
  by_cases q16 : xs i.toNatClampNeg &&& 31 = 16
  · refine V.tab (tgt := 646) 843 0 25 #[119, 152, 175, 238, 261, 284, 307, 330, 363, 396, 429, 498, 531, 554, 577, 590, 613, 646, 669, 692, 725, 748, 771, 784, 797, 820] 119 613 (dec_law (by decide +kernel)) (by rw [q16]; decide) (by rw [q16]; decide) (by rw [q16]; decide) (by decide +kernel) ?_
    exact body_16 hc hs hc1 hs1 hk hk2 g1 g2 g3 g4 g5 (h16 q16) kk
  by_cases q17 : xs i.toNatClampNeg &&& 31 = 17
  · refine V.tab (tgt := 679) 843 0 25 #[119, 152, 175, 238, 261, 284, 307, 330, 363, 396, 429, 498, 531, 554, 577, 590, 613, 646, 669, 692, 725, 748, 771, 784, 797, 820] 119 646 (dec_law (by decide +kernel)) (by rw [q17]; decide) (by rw [q17]; decide) (by rw [q17]; decide) (by decide +kernel) ?_
    exact body_17 hlg hc hs hc1 hs1 hk hk2 g1 g2 g3 g4 g5 (h17 q17) kk
  by_cases q18 : xs i.toNatClampNeg &&& 31 = 18
  · refine V.tab (tgt := 702) 843 0 25 #[119, 152, 175, 238, 261, 284, 307, 330, 363, 396, 429, 498, 531, 554, 577, 590, 613, 646, 669, 692, 725, 748, 771, 784, 797, 820] 119 669 (dec_law (by decide +kernel)) (by rw [q18]; decide) (by rw [q18]; decide) (by rw [q18]; decide) (by decide +kernel) ?_
    exact body_18 hc hs hc1 hs1 hk hk2 g1 g2 g3 g4 g5 (h18 q18) kk
  by_cases q19 : xs i.toNatClampNeg &&& 31 = 19
  · refine V.tab (tgt := 725) 843 0 25 #[119, 152, 175, 238, 261, 284, 307, 330, 363, 396, 429, 498, 531, 554, 577, 590, 613, 646, 669, 692, 725, 748, 771, 784, 797, 820] 119 692 (dec_law (by decide +kernel)) (by rw [q19]; decide) (by rw [q19]; decide) (by rw [q19]; decide) (by decide +kernel) ?_
    exact body_19 hc hs hc1 hs1 hk hk2 g1 g2 g3 g4 g5 (h19 q19) kk
  by_cases q20 : xs i.toNatClampNeg &&& 31 = 20
  · refine V.tab (tgt := 758) 843 0 25 #[119, 152, 175, 238, 261, 284, 307, 330, 363, 396, 429, 498, 531, 554, 577, 590, 613, 646, 669, 692, 725, 748, 771, 784, 797, 820] 119 725 (dec_law (by decide +kernel)) (by rw [q20]; decide) (by rw [q20]; decide) (by rw [q20]; decide) (by decide +kernel) ?_
    exact body_20 hc hs hc1 hs1 hk hk2 g1 g2 g3 g4 g5 (h20 q20) kk
  by_cases q21 : xs i.toNatClampNeg &&& 31 = 21
  · refine V.tab (tgt := 781) 843 0 25 #[119, 152, 175, 238, 261, 284, 307, 330, 363, 396, 429, 498, 531, 554, 577, 590, 613, 646, 669, 692, 725, 748, 771, 784, 797, 820] 119 748 (dec_law (by decide +kernel)) (by rw [q21]; decide) (by rw [q21]; decide) (by rw [q21]; decide) (by decide +kernel) ?_
    exact body_21 hc hs hc1 hs1 hk hk2 g1 g2 g3 g4 g5 (h21 q21) kk
  by_cases q22 : xs i.toNatClampNeg &&& 31 = 22
  · refine V.tab (tgt := 804) 843 0 25 #[119, 152, 175, 238, 261, 284, 307, 330, 363, 396, 429, 498, 531, 554, 577, 590, 613, 646, 669, 692, 725, 748, 771, 784, 797, 820] 119 771 (dec_law (by decide +kernel)) (by rw [q22]; decide) (by rw [q22]; decide) (by rw [q22]; decide) (by decide +kernel) ?_
    exact body_22 hc hs hc1 hs1 hk hk2 g1 g2 g3 g4 g5 (h22 q22) kk
  by_cases q23 : xs i.toNatClampNeg &&& 31 = 23
  · refine V.tab (tgt := 817) 843 0 25 #[119, 152, 175, 238, 261, 284, 307, 330, 363, 396, 429, 498, 531, 554, 577, 590, 613, 646, 669, 692, 725, 748, 771, 784, 797, 820] 119 784 (dec_law (by decide +kernel)) (by rw [q23]; decide) (by rw [q23]; decide) (by rw [q23]; decide) (by decide +kernel) ?_
    exact body_23 hc hs hc1 hs1 hk hk2 g1 g2 g3 g4 g5 (h23 q23) kk
  by_cases q24 : xs i.toNatClampNeg &&& 31 = 24
  · refine V.tab (tgt := 830) 843 0 25 #[119, 152, 175, 238, 261, 284, 307, 330, 363, 396, 429, 498, 531, 554, 577, 590, 613, 646, 669, 692, 725, 748, 771, 784, 797, 820] 119 797 (dec_law (by decide +kernel)) (by rw [q24]; decide) (by rw [q24]; decide) (by rw [q24]; decide) (by decide +kernel) ?_
    exact body_24 hc hs hc1 hs1 hk hk2 g1 g2 g3 g4 g5 (h24 q24) kk
  by_cases q25 : xs i.toNatClampNeg &&& 31 = 25
  · refine V.tab (tgt := 853) 843 0 25 #[119, 152, 175, 238, 261, 284, 307, 330, 363, 396, 429, 498, 531, 554, 577, 590, 613, 646, 669, 692, 725, 748, 771, 784, 797, 820] 119 820 (dec_law (by decide +kernel)) (by rw [q25]; decide) (by rw [q25]; decide) (by rw [q25]; decide) (by decide +kernel) ?_
    exact body_25 hc hs hc1 hs1 hk hk2 g1 g2 g3 g4 g5 (h25 q25) kk
  refine V.tabOut (tgt := 876) 843 0 25 #[119, 152, 175, 238, 261, 284, 307, 330, 363, 396, 429, 498, 531, 554, 577, 590, 613, 646, 669, 692, 725, 748, 771, 784, 797, 820] 119 (dec_law (by decide +kernel)) (sw_out (n := 26) [0, 1, 2, 3, 4, 5, 6, 7, 8, 9, 10, 11, 12, 13, 14, 15, 16, 17, 18, 19, 20, 21, 22, 23, 24, 25] (by decide) (by decide) ⟨q0, q1, q2, q3, q4, q5, q6, q7, q8, q9, q10, q11, q12, q13, q14, q15, q16, q17, q18, q19, q20, q21, q22, q23, q24, q25, trivial⟩) (by decide +kernel) ?_
  obtain ⟨rfl, rfl, rfl, rfl⟩ := hd (fun k hk => by
    have hq : k = 0 ∨ k = 1 ∨ k = 2 ∨ k = 3 ∨ k = 4 ∨ k = 5 ∨ k = 6 ∨ k = 7 ∨ k = 8 ∨ k = 9 ∨ k = 10 ∨ k = 11 ∨ k = 12 ∨ k = 13 ∨ k = 14 ∨ k = 15 ∨ k = 16 ∨ k = 17 ∨ k = 18 ∨ k = 19 ∨ k = 20 ∨ k = 21 ∨ k = 22 ∨ k = 23 ∨ k = 24 ∨ k = 25 := by omega
    rcases hq with rfl | rfl | rfl | rfl | rfl | rfl | rfl | rfl | rfl | rfl | rfl | rfl | rfl | rfl | rfl | rfl | rfl | rfl | rfl | rfl | rfl | rfl | rfl | rfl | rfl | rfl
    · exact q0
    · exact q1
    · exact q2
    · exact q3
    · exact q4
    · exact q5
    · exact q6
    · exact q7
    · exact q8
    · exact q9
    · exact q10
    · exact q11
    · exact q12
    · exact q13
    · exact q14
    · exact q15
    · exact q16
    · exact q17
    · exact q18
    · exact q19
    · exact q20
    · exact q21
    · exact q22
    · exact q23
    · exact q24
    · exact q25)
  exact kk

