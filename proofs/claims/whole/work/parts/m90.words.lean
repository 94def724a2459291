/-! constructors: the tables' words -/
def mTape_init : MD := (10, ⟨"DesertJars$Tape", "<init>", "()V"⟩, prog_12_method_1_code, 1, none, pT)
theorem ok_mTape_init : okMI mTape_init 0 := ⟨⟨in_tbl (List.mem_of_getElem? (i := 35) (by decide +kernel)) rfl, in_tbl (List.mem_of_getElem? (i := 2) (by decide +kernel)) rfl, ⟨by decide, by decide, by decide +kernel⟩, by decide⟩, in_tbl (List.mem_of_getElem? (i := 34) (by decide +kernel)) rfl, rfl⟩
def mLand_init : MD := (2, ⟨"DesertJars$Land", "<init>", "()V"⟩, prog_4_method_1_code, 1, none, pT)
theorem ok_mLand_init : okMI mLand_init 0 := ⟨⟨in_tbl (List.mem_of_getElem? (i := 74) (by decide +kernel)) rfl, in_tbl (List.mem_of_getElem? (i := 4) (by decide +kernel)) rfl, ⟨by decide, by decide, by decide +kernel⟩, by decide⟩, in_tbl (List.mem_of_getElem? (i := 73) (by decide +kernel)) rfl, rfl⟩
def mLandReader_init : MD := (3, ⟨"DesertJars$LandReader", "<init>", "(LDesertJars$Tape;)V"⟩, prog_5_method_1_code, 3, none, pT)
theorem ok_mLandReader_init : okMI mLandReader_init 1 := ⟨⟨in_tbl (List.mem_of_getElem? (i := 67) (by decide +kernel)) rfl, in_tbl (List.mem_of_getElem? (i := 3) (by decide +kernel)) rfl, ⟨by decide, by decide, by decide +kernel⟩, by decide⟩, in_tbl (List.mem_of_getElem? (i := 66) (by decide +kernel)) rfl, rfl⟩
def mLaw_init : MD := (4, ⟨"DesertJars$Law", "<init>", "(LDesertJars$Tape;)V"⟩, prog_6_method_1_code, 2, none, pT)
theorem ok_mLaw_init : okMI mLaw_init 1 := ⟨⟨in_tbl (List.mem_of_getElem? (i := 117) (by decide +kernel)) rfl, in_tbl (List.mem_of_getElem? (i := 5) (by decide +kernel)) rfl, ⟨by decide, by decide, by decide +kernel⟩, by decide⟩, in_tbl (List.mem_of_getElem? (i := 116) (by decide +kernel)) rfl, rfl⟩
def mCamp_init : MD := (0, ⟨"DesertJars$Camp", "<init>", "()V"⟩, prog_2_method_1_code, 1, none, pT)
theorem ok_mCamp_init : okMI mCamp_init 0 := ⟨⟨in_tbl (List.mem_of_getElem? (i := 153) (by decide +kernel)) rfl, in_tbl (List.mem_of_getElem? (i := 6) (by decide +kernel)) rfl, ⟨by decide, by decide, by decide +kernel⟩, by decide⟩, in_tbl (List.mem_of_getElem? (i := 152) (by decide +kernel)) rfl, rfl⟩
def mRanks_init : MD := (7, ⟨"DesertJars$Ranks", "<init>", "()V"⟩, prog_9_method_1_code, 4, none, pT)
theorem ok_mRanks_init : okMI mRanks_init 0 := ⟨⟨in_tbl (List.mem_of_getElem? (i := 250) (by decide +kernel)) rfl, in_tbl (List.mem_of_getElem? (i := 9) (by decide +kernel)) rfl, ⟨by decide, by decide, by decide +kernel⟩, by decide⟩, in_tbl (List.mem_of_getElem? (i := 249) (by decide +kernel)) rfl, rfl⟩
def mSearch_init : MD := (8, ⟨"DesertJars$Search", "<init>", "()V"⟩, prog_10_method_1_code, 1, none, pT)
theorem ok_mSearch_init : okMI mSearch_init 0 := ⟨⟨in_tbl (List.mem_of_getElem? (i := 244) (by decide +kernel)) rfl, in_tbl (List.mem_of_getElem? (i := 8) (by decide +kernel)) rfl, ⟨by decide, by decide, by decide +kernel⟩, by decide⟩, in_tbl (List.mem_of_getElem? (i := 243) (by decide +kernel)) rfl, rfl⟩
def mFewest_init : MD := (1, ⟨"DesertJars$Fewest", "<init>", "()V"⟩, prog_3_method_1_code, 1, none, pT)
theorem ok_mFewest_init : okMI mFewest_init 0 := ⟨⟨in_tbl (List.mem_of_getElem? (i := 320) (by decide +kernel)) rfl, in_tbl (List.mem_of_getElem? (i := 10) (by decide +kernel)) rfl, ⟨by decide, by decide, by decide +kernel⟩, by decide⟩, in_tbl (List.mem_of_getElem? (i := 319) (by decide +kernel)) rfl, rfl⟩
def mNumbers_init : MD := (6, ⟨"DesertJars$Numbers", "<init>", "()V"⟩, prog_8_method_1_code, 1, none, pT)
theorem ok_mNumbers_init : okMI mNumbers_init 0 := ⟨⟨in_tbl (List.mem_of_getElem? (i := 190) (by decide +kernel)) rfl, in_tbl (List.mem_of_getElem? (i := 7) (by decide +kernel)) rfl, ⟨by decide, by decide, by decide +kernel⟩, by decide⟩, in_tbl (List.mem_of_getElem? (i := 189) (by decide +kernel)) rfl, rfl⟩
def mLedger_init : MD := (5, ⟨"DesertJars$Ledger", "<init>", "()V"⟩, prog_7_method_1_code, 1, none, pT)
theorem ok_mLedger_init : okMI mLedger_init 0 := ⟨⟨in_tbl (List.mem_of_getElem? (i := 350) (by decide +kernel)) rfl, in_tbl (List.mem_of_getElem? (i := 11) (by decide +kernel)) rfl, ⟨by decide, by decide, by decide +kernel⟩, by decide⟩, in_tbl (List.mem_of_getElem? (i := 349) (by decide +kernel)) rfl, rfl⟩
def mSymmetry_init : MD := (9, ⟨"DesertJars$Symmetry", "<init>", "()V"⟩, prog_11_method_1_code, 1, none, pT)
theorem ok_mSymmetry_init : okMI mSymmetry_init 0 := ⟨⟨in_tbl (List.mem_of_getElem? (i := 384) (by decide +kernel)) rfl, in_tbl (List.mem_of_getElem? (i := 12) (by decide +kernel)) rfl, ⟨by decide, by decide, by decide +kernel⟩, by decide⟩, in_tbl (List.mem_of_getElem? (i := 383) (by decide +kernel)) rfl, rfl⟩
def mDj_init : MD := (11, ⟨"DesertJars", "<init>", "()V"⟩, prog_1_method_1_code, 1, none, pT)
theorem ok_mDj_init : okMI mDj_init 0 := ⟨⟨in_tbl (List.mem_of_getElem? (i := 27) (by decide +kernel)) rfl, in_tbl (List.mem_of_getElem? (i := 1) (by decide +kernel)) rfl, ⟨by decide, by decide, by decide +kernel⟩, by decide⟩, in_tbl (List.mem_of_getElem? (i := 26) (by decide +kernel)) rfl, rfl⟩
def mMo_init : MD := (12, ⟨"DesertJarsModel", "<init>", "()V"⟩, prog_14_method_1_code, 2, none, pT)
theorem ok_mMo_init : okMI mMo_init 0 := ⟨⟨in_tbl (List.mem_of_getElem? (i := 1199) (by decide +kernel)) rfl, in_tbl (List.mem_of_getElem? (i := 14) (by decide +kernel)) rfl, ⟨by decide, by decide, by decide +kernel⟩, by decide⟩, in_tbl (List.mem_of_getElem? (i := 1198) (by decide +kernel)) rfl, rfl⟩
theorem cl1_9 : Cond.classLink "DesertJars$Fewest" 9 "DesertJars$Ranks" ∈ tbl := in_tbl (List.mem_of_getElem? (i := 322) (by decide +kernel)) rfl
theorem cl3_11 : Cond.classLink "DesertJars$LandReader" 11 "DesertJars$Land" ∈ tbl := in_tbl (List.mem_of_getElem? (i := 69) (by decide +kernel)) rfl
theorem cl8_9 : Cond.classLink "DesertJars$Search" 9 "DesertJars$Ranks" ∈ tbl := in_tbl (List.mem_of_getElem? (i := 246) (by decide +kernel)) rfl
theorem cl11_7 : Cond.classLink "DesertJars" 7 "DesertJars$Tape" ∈ tbl := in_tbl (List.mem_of_getElem? (i := 31) (by decide +kernel)) rfl
theorem cl11_16 : Cond.classLink "DesertJars" 16 "DesertJars$LandReader" ∈ tbl := in_tbl (List.mem_of_getElem? (i := 63) (by decide +kernel)) rfl
theorem cl11_25 : Cond.classLink "DesertJars" 25 "DesertJars$Land" ∈ tbl := in_tbl (List.mem_of_getElem? (i := 111) (by decide +kernel)) rfl
theorem cl11_41 : Cond.classLink "DesertJars" 41 "DesertJars$Law" ∈ tbl := in_tbl (List.mem_of_getElem? (i := 113) (by decide +kernel)) rfl
theorem cl11_51 : Cond.classLink "DesertJars" 51 "DesertJars$Camp" ∈ tbl := in_tbl (List.mem_of_getElem? (i := 149) (by decide +kernel)) rfl
theorem cl11_64 : Cond.classLink "DesertJars" 64 "DesertJars$Numbers" ∈ tbl := in_tbl (List.mem_of_getElem? (i := 186) (by decide +kernel)) rfl
theorem cl11_71 : Cond.classLink "DesertJars" 71 "DesertJars$Search" ∈ tbl := in_tbl (List.mem_of_getElem? (i := 240) (by decide +kernel)) rfl
theorem cl11_78 : Cond.classLink "DesertJars" 78 "DesertJars$Fewest" ∈ tbl := in_tbl (List.mem_of_getElem? (i := 316) (by decide +kernel)) rfl
theorem cl11_85 : Cond.classLink "DesertJars" 85 "DesertJars$Ledger" ∈ tbl := in_tbl (List.mem_of_getElem? (i := 346) (by decide +kernel)) rfl
theorem cl11_92 : Cond.classLink "DesertJars" 92 "DesertJars$Symmetry" ∈ tbl := in_tbl (List.mem_of_getElem? (i := 380) (by decide +kernel)) rfl
theorem iz0 : Cond.instantiable "DesertJars$Camp" 7 ∈ tbl ∧ Cond.initialized "DesertJars$Camp" ∈ tbl := ⟨in_tbl (List.mem_of_getElem? (i := 150) (by decide +kernel)) rfl, in_tbl (List.mem_of_getElem? (i := 6) (by decide +kernel)) rfl⟩
theorem iz1 : Cond.instantiable "DesertJars$Fewest" 6 ∈ tbl ∧ Cond.initialized "DesertJars$Fewest" ∈ tbl := ⟨in_tbl (List.mem_of_getElem? (i := 317) (by decide +kernel)) rfl, in_tbl (List.mem_of_getElem? (i := 10) (by decide +kernel)) rfl⟩
theorem iz2 : Cond.instantiable "DesertJars$Land" 3 ∈ tbl ∧ Cond.initialized "DesertJars$Land" ∈ tbl := ⟨in_tbl (List.mem_of_getElem? (i := 71) (by decide +kernel)) rfl, in_tbl (List.mem_of_getElem? (i := 4) (by decide +kernel)) rfl⟩
theorem iz3 : Cond.instantiable "DesertJars$LandReader" 4 ∈ tbl ∧ Cond.initialized "DesertJars$LandReader" ∈ tbl := ⟨in_tbl (List.mem_of_getElem? (i := 64) (by decide +kernel)) rfl, in_tbl (List.mem_of_getElem? (i := 3) (by decide +kernel)) rfl⟩
theorem iz4 : Cond.instantiable "DesertJars$Law" 9 ∈ tbl ∧ Cond.initialized "DesertJars$Law" ∈ tbl := ⟨in_tbl (List.mem_of_getElem? (i := 114) (by decide +kernel)) rfl, in_tbl (List.mem_of_getElem? (i := 5) (by decide +kernel)) rfl⟩
theorem iz5 : Cond.instantiable "DesertJars$Ledger" 8 ∈ tbl ∧ Cond.initialized "DesertJars$Ledger" ∈ tbl := ⟨in_tbl (List.mem_of_getElem? (i := 347) (by decide +kernel)) rfl, in_tbl (List.mem_of_getElem? (i := 11) (by decide +kernel)) rfl⟩
theorem iz6 : Cond.instantiable "DesertJars$Numbers" 15 ∈ tbl ∧ Cond.initialized "DesertJars$Numbers" ∈ tbl := ⟨in_tbl (List.mem_of_getElem? (i := 187) (by decide +kernel)) rfl, in_tbl (List.mem_of_getElem? (i := 7) (by decide +kernel)) rfl⟩
theorem iz7 : Cond.instantiable "DesertJars$Ranks" 1 ∈ tbl ∧ Cond.initialized "DesertJars$Ranks" ∈ tbl := ⟨in_tbl (List.mem_of_getElem? (i := 247) (by decide +kernel)) rfl, in_tbl (List.mem_of_getElem? (i := 9) (by decide +kernel)) rfl⟩
theorem iz8 : Cond.instantiable "DesertJars$Search" 19 ∈ tbl ∧ Cond.initialized "DesertJars$Search" ∈ tbl := ⟨in_tbl (List.mem_of_getElem? (i := 241) (by decide +kernel)) rfl, in_tbl (List.mem_of_getElem? (i := 8) (by decide +kernel)) rfl⟩
theorem iz9 : Cond.instantiable "DesertJars$Symmetry" 5 ∈ tbl ∧ Cond.initialized "DesertJars$Symmetry" ∈ tbl := ⟨in_tbl (List.mem_of_getElem? (i := 381) (by decide +kernel)) rfl, in_tbl (List.mem_of_getElem? (i := 12) (by decide +kernel)) rfl⟩
theorem iz10 : Cond.instantiable "DesertJars$Tape" 5 ∈ tbl ∧ Cond.initialized "DesertJars$Tape" ∈ tbl := ⟨in_tbl (List.mem_of_getElem? (i := 32) (by decide +kernel)) rfl, in_tbl (List.mem_of_getElem? (i := 2) (by decide +kernel)) rfl⟩
theorem oi0_3 : Cond.methodLink "DesertJars$Camp" 3 Lib.objectInit ∈ tbl := in_tbl (List.mem_of_getElem? (i := 154) (by decide +kernel)) rfl
theorem oi1_3 : Cond.methodLink "DesertJars$Fewest" 3 Lib.objectInit ∈ tbl := in_tbl (List.mem_of_getElem? (i := 321) (by decide +kernel)) rfl
theorem oi2_3 : Cond.methodLink "DesertJars$Land" 3 Lib.objectInit ∈ tbl := in_tbl (List.mem_of_getElem? (i := 75) (by decide +kernel)) rfl
theorem oi3_3 : Cond.methodLink "DesertJars$LandReader" 3 Lib.objectInit ∈ tbl := in_tbl (List.mem_of_getElem? (i := 68) (by decide +kernel)) rfl
theorem oi4_3 : Cond.methodLink "DesertJars$Law" 3 Lib.objectInit ∈ tbl := in_tbl (List.mem_of_getElem? (i := 118) (by decide +kernel)) rfl
theorem oi5_3 : Cond.methodLink "DesertJars$Ledger" 3 Lib.objectInit ∈ tbl := in_tbl (List.mem_of_getElem? (i := 351) (by decide +kernel)) rfl
theorem oi6_3 : Cond.methodLink "DesertJars$Numbers" 3 Lib.objectInit ∈ tbl := in_tbl (List.mem_of_getElem? (i := 191) (by decide +kernel)) rfl
theorem oi7_3 : Cond.methodLink "DesertJars$Ranks" 3 Lib.objectInit ∈ tbl := in_tbl (List.mem_of_getElem? (i := 251) (by decide +kernel)) rfl
theorem oi8_3 : Cond.methodLink "DesertJars$Search" 3 Lib.objectInit ∈ tbl := in_tbl (List.mem_of_getElem? (i := 245) (by decide +kernel)) rfl
theorem oi9_3 : Cond.methodLink "DesertJars$Symmetry" 3 Lib.objectInit ∈ tbl := in_tbl (List.mem_of_getElem? (i := 385) (by decide +kernel)) rfl
theorem oi10_3 : Cond.methodLink "DesertJars$Tape" 3 Lib.objectInit ∈ tbl := in_tbl (List.mem_of_getElem? (i := 36) (by decide +kernel)) rfl
theorem oi11_1 : Cond.methodLink "DesertJars" 1 Lib.objectInit ∈ tbl := in_tbl (List.mem_of_getElem? (i := 28) (by decide +kernel)) rfl
theorem oi12_1 : Cond.methodLink "DesertJarsModel" 1 Lib.objectInit ∈ tbl := in_tbl (List.mem_of_getElem? (i := 1200) (by decide +kernel)) rfl
theorem nk3_17 : Cond.methodLinkNest "DesertJars$LandReader" 17 ⟨"DesertJars$Land", "<init>", "()V"⟩ "DesertJars" ∈ nestW := List.mem_filter.mpr ⟨List.mem_of_getElem? (i := 72) (by decide +kernel), rfl⟩
theorem nk11_9 : Cond.methodLinkNest "DesertJars" 9 ⟨"DesertJars$Tape", "<init>", "()V"⟩ "DesertJars" ∈ nestW := List.mem_filter.mpr ⟨List.mem_of_getElem? (i := 33) (by decide +kernel), rfl⟩
theorem nk11_27 : Cond.methodLinkNest "DesertJars" 27 ⟨"DesertJars$Land", "<init>", "()V"⟩ "DesertJars" ∈ nestW := List.mem_filter.mpr ⟨List.mem_of_getElem? (i := 112) (by decide +kernel), rfl⟩
theorem nk11_53 : Cond.methodLinkNest "DesertJars" 53 ⟨"DesertJars$Camp", "<init>", "()V"⟩ "DesertJars" ∈ nestW := List.mem_filter.mpr ⟨List.mem_of_getElem? (i := 151) (by decide +kernel), rfl⟩
theorem nk11_66 : Cond.methodLinkNest "DesertJars" 66 ⟨"DesertJars$Numbers", "<init>", "()V"⟩ "DesertJars" ∈ nestW := List.mem_filter.mpr ⟨List.mem_of_getElem? (i := 188) (by decide +kernel), rfl⟩
theorem nk11_73 : Cond.methodLinkNest "DesertJars" 73 ⟨"DesertJars$Search", "<init>", "()V"⟩ "DesertJars" ∈ nestW := List.mem_filter.mpr ⟨List.mem_of_getElem? (i := 242) (by decide +kernel), rfl⟩
theorem nk11_80 : Cond.methodLinkNest "DesertJars" 80 ⟨"DesertJars$Fewest", "<init>", "()V"⟩ "DesertJars" ∈ nestW := List.mem_filter.mpr ⟨List.mem_of_getElem? (i := 318) (by decide +kernel), rfl⟩
theorem nk11_87 : Cond.methodLinkNest "DesertJars" 87 ⟨"DesertJars$Ledger", "<init>", "()V"⟩ "DesertJars" ∈ nestW := List.mem_filter.mpr ⟨List.mem_of_getElem? (i := 348) (by decide +kernel), rfl⟩
theorem nk11_94 : Cond.methodLinkNest "DesertJars" 94 ⟨"DesertJars$Symmetry", "<init>", "()V"⟩ "DesertJars" ∈ nestW := List.mem_filter.mpr ⟨List.mem_of_getElem? (i := 382) (by decide +kernel), rfl⟩
theorem lk11_18 : Cond.methodLink "DesertJars" 18 ⟨"DesertJars$LandReader", "<init>", "(LDesertJars$Tape;)V"⟩ ∈ tbl := in_tbl (List.mem_of_getElem? (i := 65) (by decide +kernel)) rfl
theorem lk11_43 : Cond.methodLink "DesertJars" 43 ⟨"DesertJars$Law", "<init>", "(LDesertJars$Tape;)V"⟩ ∈ tbl := in_tbl (List.mem_of_getElem? (i := 115) (by decide +kernel)) rfl
theorem lk1_11 : Cond.methodLink "DesertJars$Fewest" 11 ⟨"DesertJars$Ranks", "<init>", "()V"⟩ ∈ tbl := in_tbl (List.mem_of_getElem? (i := 323) (by decide +kernel)) rfl
theorem lk8_11 : Cond.methodLink "DesertJars$Search" 11 ⟨"DesertJars$Ranks", "<init>", "()V"⟩ ∈ tbl := in_tbl (List.mem_of_getElem? (i := 248) (by decide +kernel)) rfl
abbrev wDj (bytes_xt : Nat → Int32) (length_xt : Int32) (end_xt : Int32) (at_xt : Int32) (fault_xt : Int32) (wells_xr0 : Int32) (next_xr0 : Nat → Int32) (ways_xr0 : Nat → Int32) (wells_xr1 : Int32) (next_xr1 : Nat → Int32) (ways_xr1 : Nat → Int32) (wells_xr2 : Int32) (next_xr2 : Nat → Int32) (ways_xr2 : Nat → Int32) (wells_xrp : Int32) (next_xrp : Nat → Int32) (ways_xrp : Nat → Int32) (wells_xrx : Int32) (next_xrx : Nat → Int32) (ways_xrx : Nat → Int32) (wells_xh : Int32) (next_xh : Nat → Int32) (ways_xh : Nat → Int32) (wells_xf : Int32) (next_xf : Nat → Int32) (ways_xf : Nat → Int32) (wells_xs : Int32) (next_xs : Nat → Int32) (ways_xs : Nat → Int32) (wells_xx : Int32) (next_xx : Nat → Int32) (ways_xx : Nat → Int32) (rules_xa : Int32) (kinds_xa : Nat → Int32) (worths_xa : Nat → Int32) (tests_xa : Nat → Int32) (code_xa : Nat → Int32) (size_xa : Int32) (given_xa : Nat → Int32) (stack_xa : Nat → Int32) (rules_xb : Int32) (kinds_xb : Nat → Int32) (worths_xb : Nat → Int32) (tests_xb : Nat → Int32) (code_xb : Nat → Int32) (size_xb : Int32) (given_xb : Nat → Int32) (stack_xb : Nat → Int32) (jars_xc : Nat → Int32) (space_xc : Nat → Int32) (throne_xc : Int32) (day_xc : Int32) (draw_xc : Int32) (gone_xc : Int32) (robbed_xc : Int32) (jars_xy : Nat → Int32) (space_xy : Nat → Int32) (throne_xy : Int32) (day_xy : Int32) (draw_xy : Int32) (gone_xy : Int32) (robbed_xy : Int32) (jars_xz : Nat → Int32) (space_xz : Nat → Int32) (throne_xz : Int32) (day_xz : Int32) (draw_xz : Int32) (gone_xz : Int32) (robbed_xz : Int32) (anyKept_x : Int32) (told_xn : Nat → Int32) (layings_xn : Nat → Int32) (rows_xn : Nat → Int32) (greatestWell_xn : Int32) (found_xn : Nat → Int32) (nfound_xn : Nat) (marks_xn : Nat → Int32) (nmarks_xn : Nat) (shifts_xn : Nat → Int32) (fields_xn : Nat → Int32) (two_xn : Nat → Int32) (full_xn : Nat → Int32) (change_xn : Nat → Int32) (moves_xn : Int32) (wells_xn : Int32) (size_xn : Int32) (levelStart_xn : Int32) (below_xqk : Nat → Int32) (takenA_xq : Nat → Int32) (takenB_xq : Nat → Int32) (given_xq : Nat → Int32) (nearest_xq : Nat → Int32) (ways_xq : Nat → Int32) (row_xq : Nat → Int32) (moves_xq : Int32) (seen_xq : Nat → Int32) (nseen_xq : Nat) (layings_xq : Nat → Int32) (nlayings_xq : Nat) (starts_xq : Nat → Int32) (nstarts_xq : Nat) (found_xq : Int32) (wells_xq : Int32) (reachable_xq : Int32) (aim_xq : Int32) (due_xq : Int32) (limit_xq : Int32) (nextLimit_xq : Int32) (firstMove_xq : Int32) (below_xwk : Nat → Int32) (row_xw : Nat → Int32) (best_xw : Nat → Int32) (reached_xw : Nat → Int32) (nreached_xw : Nat) (jars_xw : Int32) (layings_xw : Int32) (needs_xo : Nat → Int32) (changes_xo : Nat → Int32) (row_xo : Nat → Int32) (lost_xo : Int32) (throne_xo : Int32) (ways_xo : Int32) (least_xo : Int32) (most_xo : Int32) (order_xg : Nat → Int32) (images_xg : Nat → Int32) (looks_xg : Nat → Int64) (twins_xg : Nat → Int32) (land_xg : Value) : List ce := [.inr (11, [.ref 1, .ref 3, .ref 20, .ref 23, .ref 26, .ref 29, .ref 32, .ref 39, .ref 46, .ref 49, .ref 52, .int anyKept_x, .ref 55, .ref 66, .ref 78, .ref 84, .ref 88]),
  .inr (10, [.ref 2, .int length_xt, .int end_xt, .int at_xt, .int fault_xt]),
  .inl (0, 260, .inl bytes_xt),
  .inr (3, [.ref 1, .ref 4, .ref 14, .ref 17]),
  .inr (13, [.ref 5, .ref 8, .ref 11]),
  .inr (2, [.int wells_xr0, .ref 6, .ref 7]),
  .inl (0, 12, .inl next_xr0),
  .inl (0, 144, .inl ways_xr0),
  .inr (2, [.int wells_xr1, .ref 9, .ref 10]),
  .inl (0, 12, .inl next_xr1),
  .inl (0, 144, .inl ways_xr1),
  .inr (2, [.int wells_xr2, .ref 12, .ref 13]),
  .inl (0, 12, .inl next_xr2),
  .inl (0, 144, .inl ways_xr2),
  .inr (2, [.int wells_xrp, .ref 15, .ref 16]),
  .inl (0, 12, .inl next_xrp),
  .inl (0, 144, .inl ways_xrp),
  .inr (2, [.int wells_xrx, .ref 18, .ref 19]),
  .inl (0, 12, .inl next_xrx),
  .inl (0, 144, .inl ways_xrx),
  .inr (2, [.int wells_xh, .ref 21, .ref 22]),
  .inl (0, 12, .inl next_xh),
  .inl (0, 144, .inl ways_xh),
  .inr (2, [.int wells_xf, .ref 24, .ref 25]),
  .inl (0, 12, .inl next_xf),
  .inl (0, 144, .inl ways_xf),
  .inr (2, [.int wells_xs, .ref 27, .ref 28]),
  .inl (0, 12, .inl next_xs),
  .inl (0, 144, .inl ways_xs),
  .inr (2, [.int wells_xx, .ref 30, .ref 31]),
  .inl (0, 12, .inl next_xx),
  .inl (0, 144, .inl ways_xx),
  .inr (4, [.ref 1, .int rules_xa, .ref 33, .ref 34, .ref 35, .ref 36, .int size_xa, .ref 37, .ref 38]),
  .inl (0, 16, .inl kinds_xa),
  .inl (0, 16, .inl worths_xa),
  .inl (0, 16, .inl tests_xa),
  .inl (0, 640, .inl code_xa),
  .inl (0, 9, .inl given_xa),
  .inl (0, 48, .inl stack_xa),
  .inr (4, [.ref 1, .int rules_xb, .ref 40, .ref 41, .ref 42, .ref 43, .int size_xb, .ref 44, .ref 45]),
  .inl (0, 16, .inl kinds_xb),
  .inl (0, 16, .inl worths_xb),
  .inl (0, 16, .inl tests_xb),
  .inl (0, 640, .inl code_xb),
  .inl (0, 9, .inl given_xb),
  .inl (0, 48, .inl stack_xb),
  .inr (0, [.ref 47, .ref 48, .int throne_xc, .int day_xc, .int draw_xc, .int gone_xc, .int robbed_xc]),
  .inl (0, 12, .inl jars_xc),
  .inl (0, 12, .inl space_xc),
  .inr (0, [.ref 50, .ref 51, .int throne_xy, .int day_xy, .int draw_xy, .int gone_xy, .int robbed_xy]),
  .inl (0, 12, .inl jars_xy),
  .inl (0, 12, .inl space_xy),
  .inr (0, [.ref 53, .ref 54, .int throne_xz, .int day_xz, .int draw_xz, .int gone_xz, .int robbed_xz]),
  .inl (0, 12, .inl jars_xz),
  .inl (0, 12, .inl space_xz),
  .inr (6, [.ref 56, .ref 57, .ref 58, .int greatestWell_xn, .ref 59, .ref 60, .ref 61, .ref 62, .ref 63, .ref 64, .ref 65, .int moves_xn, .int wells_xn, .int size_xn, .int levelStart_xn]),
  .inl (0, 12, .inl told_xn),
  .inl (0, 12, .inl layings_xn),
  .inl (0, 144, .inl rows_xn),
  .inl (0, nfound_xn, .inl found_xn),
  .inl (0, nmarks_xn, .inl marks_xn),
  .inl (0, 12, .inl shifts_xn),
  .inl (0, 12, .inl fields_xn),
  .inl (0, 132, .inl two_xn),
  .inl (0, 132, .inl full_xn),
  .inl (0, 132, .inl change_xn),
  .inr (8, [.ref 67, .ref 69, .ref 70, .ref 71, .ref 72, .ref 73, .ref 74, .int moves_xq, .ref 75, .ref 76, .ref 77, .int found_xq, .int wells_xq, .int reachable_xq, .int aim_xq, .int due_xq, .int limit_xq, .int nextLimit_xq, .int firstMove_xq]),
  .inr (7, [.ref 68]),
  .inl (0, 112, .inl below_xqk),
  .inl (0, 224, .inl takenA_xq),
  .inl (0, 224, .inl takenB_xq),
  .inl (0, 224, .inl given_xq),
  .inl (0, 8, .inl nearest_xq),
  .inl (0, 8, .inl ways_xq),
  .inl (0, 8, .inl row_xq),
  .inl (0, nseen_xq, .inl seen_xq),
  .inl (0, nlayings_xq, .inl layings_xq),
  .inl (1, nstarts_xq, .inl starts_xq),
  .inr (1, [.ref 79, .ref 81, .ref 82, .ref 83, .int jars_xw, .int layings_xw]),
  .inr (7, [.ref 80]),
  .inl (0, 112, .inl below_xwk),
  .inl (0, 7, .inl row_xw),
  .inl (0, 7, .inl best_xw),
  .inl (0, nreached_xw, .inl reached_xw),
  .inr (5, [.ref 85, .ref 86, .ref 87, .int lost_xo, .int throne_xo, .int ways_xo, .int least_xo, .int most_xo]),
  .inl (0, 48, .inl needs_xo),
  .inl (0, 48, .inl changes_xo),
  .inl (0, 12, .inl row_xo),
  .inr (9, [.ref 89, .ref 90, .ref 91, .ref 92, land_xg]),
  .inl (0, 12, .inl order_xg),
  .inl (0, 12, .inl images_xg),
  .inl (3, 12, .inr (.inl looks_xg)),
  .inl (0, 12, .inl twins_xg)]
