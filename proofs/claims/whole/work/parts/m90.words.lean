/-! constructors: the tables' words -/
def mTape_init : MD := (10, ⟨"DesertJars$Tape", "<init>", "()V"⟩, prog_12_method_1_code, 1, none, pT)
theorem ok_mTape_init : okMI mTape_init 0 := ⟨⟨in_tbl (List.mem_of_getElem? (i := 35) (by decide +kernel)) rfl, in_tbl (List.mem_of_getElem? (i := 2) (by decide +kernel)) rfl, ⟨by decide, by decide, by decide +kernel⟩, by decide⟩, in_tbl (List.mem_of_getElem? (i := 34) (by decide +kernel)) rfl, rfl⟩
def mLand_init : MD := (2, ⟨"DesertJars$Land", "<init>", "()V"⟩, prog_4_method_1_code, 1, none, pT)
theorem ok_mLand_init : okMI mLand_init 0 := ⟨⟨in_tbl (List.mem_of_getElem? (i := 74) (by decide +kernel)) rfl, in_tbl (List.mem_of_getElem? (i := 4) (by decide +kernel)) rfl, ⟨by decide, by decide, by decide +kernel⟩, by decide⟩, in_tbl (List.mem_of_getElem? (i := 73) (by decide +kernel)) rfl, rfl⟩
def mLandReader_init : MD := (3, ⟨"DesertJars$LandReader", "<init>", "(LDesertJars$Tape;)V"⟩, prog_5_method_1_code, 3, none, pT)
theorem ok_mLandReader_init : okMI mLandReader_init 1 := ⟨⟨in_tbl (List.mem_of_getElem? (i := 67) (by decide +kernel)) rfl, in_tbl (List.mem_of_getElem? (i := 3) (by decide +kernel)) rfl, ⟨by decide, by decide, by decide +kernel⟩, by decide⟩, in_tbl (List.mem_of_getElem? (i := 66) (by decide +kernel)) rfl, rfl⟩
def mLaw_init : MD := (4, ⟨"DesertJars$Law", "<init>", "(LDesertJars$Tape;)V"⟩, prog_6_method_1_code, 2, none, pT)
theorem ok_mLaw_init : okMI mLaw_init 1 := ⟨⟨in_tbl (List.mem_of_getElem? (i := 117) (by decide +kernel)) rfl, in_tbl (List.mem_of_getElem? (i := 5) (by decide +kernel)) rfl, ⟨by decide, by decide, by decide +kernel⟩, by decide⟩, in_tbl (List.mem_of_getElem? (i := 116) (by decide +kernel)) rfl, rfl⟩
def mCamp_init : MD := (0, ⟨"DesertJars$Camp", "<init>", "()V"⟩, prog_2_method_1_code, 1, none, pT)
theorem ok_mCamp_init : okMI mCamp_init 0 := ⟨⟨in_tbl (List.mem_of_getElem? (i := 153) (by decide +kernel)) rfl, in_tbl (List.mem_of_getElem? (i := 6) (by decide +kernel)) rfl, ⟨by decide, by decide, by decide +kernel⟩, by decide⟩, in_tbl (List.mem_of_getElem? (i := 152) (by decide +kernel)) rfl, rfl⟩
def mRanks_init : MD := (7, ⟨"DesertJars$Ranks", "<init>", "()V"⟩, prog_9_method_1_code, 4, none, pT)
theorem ok_mRanks_init : okMI mRanks_init 0 := ⟨⟨in_tbl (List.mem_of_getElem? (i := 250) (by decide +kernel)) rfl, in_tbl (List.mem_of_getElem? (i := 9) (by decide +kernel)) rfl, ⟨by decide, by decide, by decide +kernel⟩, by decide⟩, in_tbl (List.mem_of_getElem? (i := 249) (by decide +kernel)) rfl, rfl⟩
def mSearch_init : MD := (8, ⟨"DesertJars$Search", "<init>", "()V"⟩, prog_10_method_1_code, 1, none, pT)
theorem ok_mSearch_init : okMI mSearch_init 0 := ⟨⟨in_tbl (List.mem_of_getElem? (i := 244) (by decide +kernel)) rfl, in_tbl (List.mem_of_getElem? (i := 8) (by decide +kernel)) rfl, ⟨by decide, by decide, by decide +kernel⟩, by decide⟩, in_tbl (List.mem_of_getElem? (i := 243) (by decide +kernel)) rfl, rfl⟩
def mFewest_init : MD := (1, ⟨"DesertJars$Fewest", "<init>", "()V"⟩, prog_3_method_1_code, 1, none, pT)
theorem ok_mFewest_init : okMI mFewest_init 0 := ⟨⟨in_tbl (List.mem_of_getElem? (i := 320) (by decide +kernel)) rfl, in_tbl (List.mem_of_getElem? (i := 10) (by decide +kernel)) rfl, ⟨by decide, by decide, by decide +kernel⟩, by decide⟩, in_tbl (List.mem_of_getElem? (i := 319) (by decide +kernel)) rfl, rfl⟩
def mNumbers_init : MD := (6, ⟨"DesertJars$Numbers", "<init>", "()V"⟩, prog_8_method_1_code, 1, none, pT)
theorem ok_mNumbers_init : okMI mNumbers_init 0 := ⟨⟨in_tbl (List.mem_of_getElem? (i := 190) (by decide +kernel)) rfl, in_tbl (List.mem_of_getElem? (i := 7) (by decide +kernel)) rfl, ⟨by decide, by decide, by decide +kernel⟩, by decide⟩, in_tbl (List.mem_of_getElem? (i := 189) (by decide +kernel)) rfl, rfl⟩
def mLedger_init : MD := (5, ⟨"DesertJars$Ledger", "<init>", "()V"⟩, prog_7_method_1_code, 1, none, pT)
theorem ok_mLedger_init : okMI mLedger_init 0 := ⟨⟨in_tbl (List.mem_of_getElem? (i := 350) (by decide +kernel)) rfl, in_tbl (List.mem_of_getElem? (i := 11) (by decide +kernel)) rfl, ⟨by decide, by decide, by decide +kernel⟩, by decide⟩, in_tbl (List.mem_of_getElem? (i := 349) (by decide +kernel)) rfl, rfl⟩
def mSymmetry_init : MD := (9, ⟨"DesertJars$Symmetry", "<init>", "()V"⟩, prog_11_method_1_code, 1, none, pT)
theorem ok_mSymmetry_init : okMI mSymmetry_init 0 := ⟨⟨in_tbl (List.mem_of_getElem? (i := 384) (by decide +kernel)) rfl, in_tbl (List.mem_of_getElem? (i := 12) (by decide +kernel)) rfl, ⟨by decide, by decide, by decide +kernel⟩, by decide⟩, in_tbl (List.mem_of_getElem? (i := 383) (by decide +kernel)) rfl, rfl⟩
def mDj_init : MD := (11, ⟨"DesertJars", "<init>", "()V"⟩, prog_1_method_1_code, 1, none, pT)
theorem ok_mDj_init : okMI mDj_init 0 := ⟨⟨in_tbl (List.mem_of_getElem? (i := 27) (by decide +kernel)) rfl, in_tbl (List.mem_of_getElem? (i := 1) (by decide +kernel)) rfl, ⟨by decide, by decide, by decide +kernel⟩, by decide⟩, in_tbl (List.mem_of_getElem? (i := 26) (by decide +kernel)) rfl, rfl⟩
def mMo_init : MD := (12, ⟨"DesertJarsModel", "<init>", "()V"⟩, prog_14_method_1_code, 2, none, pT)
theorem ok_mMo_init : okMI mMo_init 0 := ⟨⟨in_tbl (List.mem_of_getElem? (i := 1199) (by decide +kernel)) rfl, in_tbl (List.mem_of_getElem? (i := 14) (by decide +kernel)) rfl, ⟨by decide, by decide, by decide +kernel⟩, by decide⟩, in_tbl (List.mem_of_getElem? (i := 1198) (by decide +kernel)) rfl, rfl⟩
theorem cl1_9 : Cond.classLink "DesertJars$Fewest" 9 "DesertJars$Ranks" ∈ tbl := in_tbl (List.mem_of_getElem? (i := 322) (by decide +kernel)) rfl
theorem cl3_11 : Cond.classLink "DesertJars$LandReader" 11 "DesertJars$Land" ∈ tbl := in_tbl (List.mem_of_getElem? (i := 69) (by decide +kernel)) rfl
theorem cl8_9 : Cond.classLink "DesertJars$Search" 9 "DesertJars$Ranks" ∈ tbl := in_tbl (List.mem_of_getElem? (i := 246) (by decide +kernel)) rfl
theorem cl11_7 : Cond.classLink "DesertJars" 7 "DesertJars$Tape" ∈ tbl := in_tbl (List.mem_of_getElem? (i := 31) (by decide +kernel)) rfl
theorem cl11_16 : Cond.classLink "DesertJars" 16 "DesertJars$LandReader" ∈ tbl := in_tbl (List.mem_of_getElem? (i := 63) (by decide +kernel)) rfl
theorem cl11_25 : Cond.classLink "DesertJars" 25 "DesertJars$Land" ∈ tbl := in_tbl (List.mem_of_getElem? (i := 111) (by decide +kernel)) rfl
theorem cl11_41 : Cond.classLink "DesertJars" 41 "DesertJars$Law" ∈ tbl := in_tbl (List.mem_of_getElem? (i := 113) (by decide +kernel)) rfl
theorem cl11_51 : Cond.classLink "DesertJars" 51 "DesertJars$Camp" ∈ tbl := in_tbl (List.mem_of_getElem? (i := 149) (by decide +kernel)) rfl
theorem cl11_64 : Cond.classLink "DesertJars" 64 "DesertJars$Numbers" ∈ tbl := in_tbl (List.mem_of_getElem? (i := 186) (by decide +kernel)) rfl
theorem cl11_71 : Cond.classLink "DesertJars" 71 "DesertJars$Search" ∈ tbl := in_tbl (List.mem_of_getElem? (i := 240) (by decide +kernel)) rfl
theorem cl11_78 : Cond.classLink "DesertJars" 78 "DesertJars$Fewest" ∈ tbl := in_tbl (List.mem_of_getElem? (i := 316) (by decide +kernel)) rfl
theorem cl11_85 : Cond.classLink "DesertJars" 85 "DesertJars$Ledger" ∈ tbl := in_tbl (List.mem_of_getElem? (i := 346) (by decide +kernel)) rfl
theorem cl11_92 : Cond.classLink "DesertJars" 92 "DesertJars$Symmetry" ∈ tbl := in_tbl (List.mem_of_getElem? (i := 380) (by decide +kernel)) rfl
theorem iz0 : Cond.instantiable "DesertJars$Camp" 7 ∈ tbl ∧ Cond.initialized "DesertJars$Camp" ∈ tbl := ⟨in_tbl (List.mem_of_getElem? (i := 150) (by decide +kernel)) rfl, in_tbl (List.mem_of_getElem? (i := 6) (by decide +kernel)) rfl⟩
theorem iz1 : Cond.instantiable "DesertJars$Fewest" 6 ∈ tbl ∧ Cond.initialized "DesertJars$Fewest" ∈ tbl := ⟨in_tbl (List.mem_of_getElem? (i := 317) (by decide +kernel)) rfl, in_tbl (List.mem_of_getElem? (i := 10) (by decide +kernel)) rfl⟩
theorem iz2 : Cond.instantiable "DesertJars$Land" 3 ∈ tbl ∧ Cond.initialized "DesertJars$Land" ∈ tbl := ⟨in_tbl (List.mem_of_getElem? (i := 71) (by decide +kernel)) rfl, in_tbl (List.mem_of_getElem? (i := 4) (by decide +kernel)) rfl⟩
theorem iz3 : Cond.instantiable "DesertJars$LandReader" 4 ∈ tbl ∧ Cond.initialized "DesertJars$LandReader" ∈ tbl := ⟨in_tbl (List.mem_of_getElem? (i := 64) (by decide +kernel)) rfl, in_tbl (List.mem_of_getElem? (i := 3) (by decide +kernel)) rfl⟩
theorem iz4 : Cond.instantiable "DesertJars$Law" 9 ∈ tbl ∧ Cond.initialized "DesertJars$Law" ∈ tbl := ⟨in_tbl (List.mem_of_getElem? (i := 114) (by decide +kernel)) rfl, in_tbl (List.mem_of_getElem? (i := 5) (by decide +kernel)) rfl⟩
theorem iz5 : Cond.instantiable "DesertJars$Ledger" 8 ∈ tbl ∧ Cond.initialized "DesertJars$Ledger" ∈ tbl := ⟨in_tbl (List.mem_of_getElem? (i := 347) (by decide +kernel)) rfl, in_tbl (List.mem_of_getElem? (i := 11) (by decide +kernel)) rfl⟩
theorem iz6 : Cond.instantiable "DesertJars$Numbers" 15 ∈ tbl ∧ Cond.initialized "DesertJars$Numbers" ∈ tbl := ⟨in_tbl (List.mem_of_getElem? (i := 187) (by decide +kernel)) rfl, in_tbl (List.mem_of_getElem? (i := 7) (by decide +kernel)) rfl⟩
theorem iz7 : Cond.instantiable "DesertJars$Ranks" 1 ∈ tbl ∧ Cond.initialized "DesertJars$Ranks" ∈ tbl := ⟨in_tbl (List.mem_of_getElem? (i := 247) (by decide +kernel)) rfl, in_tbl (List.mem_of_getElem? (i := 9) (by decide +kernel)) rfl⟩
theorem iz8 : Cond.instantiable "DesertJars$Search" 19 ∈ tbl ∧ Cond.initialized "DesertJars$Search" ∈ tbl := ⟨in_tbl (List.mem_of_getElem? (i := 241) (by decide +kernel)) rfl, in_tbl (List.mem_of_getElem? (i := 8) (by decide +kernel)) rfl⟩
theorem iz9 : Cond.instantiable "DesertJars$Symmetry" 5 ∈ tbl ∧ Cond.initialized "DesertJars$Symmetry" ∈ tbl := ⟨in_tbl (List.mem_of_getElem? (i := 381) (by decide +kernel)) rfl, in_tbl (List.mem_of_getElem? (i := 12) (by decide +kernel)) rfl⟩
theorem iz10 : Cond.instantiable "DesertJars$Tape" 5 ∈ tbl ∧ Cond.initialized "DesertJars$Tape" ∈ tbl := ⟨in_tbl (List.mem_of_getElem? (i := 32) (by decide +kernel)) rfl, in_tbl (List.mem_of_getElem? (i := 2) (by decide +kernel)) rfl⟩
theorem oi0_3 : Cond.methodLink "DesertJars$Camp" 3 Lib.objectInit ∈ tbl := in_tbl (List.mem_of_getElem? (i := 154) (by decide +kernel)) rfl
theorem oi1_3 : Cond.methodLink "DesertJars$Fewest" 3 Lib.objectInit ∈ tbl := in_tbl (List.mem_of_getElem? (i := 321) (by decide +kernel)) rfl
theorem oi2_3 : Cond.methodLink "DesertJars$Land" 3 Lib.objectInit ∈ tbl := in_tbl (List.mem_of_getElem? (i := 75) (by decide +kernel)) rfl
theorem oi3_3 : Cond.methodLink "DesertJars$LandReader" 3 Lib.objectInit ∈ tbl := in_tbl (List.mem_of_getElem? (i := 68) (by decide +kernel)) rfl
theorem oi4_3 : Cond.methodLink "DesertJars$Law" 3 Lib.objectInit ∈ tbl := in_tbl (List.mem_of_getElem? (i := 118) (by decide +kernel)) rfl
theorem oi5_3 : Cond.methodLink "DesertJars$Ledger" 3 Lib.objectInit ∈ tbl := in_tbl (List.mem_of_getElem? (i := 351) (by decide +kernel)) rfl
theorem oi6_3 : Cond.methodLink "DesertJars$Numbers" 3 Lib.objectInit ∈ tbl := in_tbl (List.mem_of_getElem? (i := 191) (by decide +kernel)) rfl
theorem oi7_3 : Cond.methodLink "DesertJars$Ranks" 3 Lib.objectInit ∈ tbl := in_tbl (List.mem_of_getElem? (i := 251) (by decide +kernel)) rfl
theorem oi8_3 : Cond.methodLink "DesertJars$Search" 3 Lib.objectInit ∈ tbl := in_tbl (List.mem_of_getElem? (i := 245) (by decide +kernel)) rfl
theorem oi9_3 : Cond.methodLink "DesertJars$Symmetry" 3 Lib.objectInit ∈ tbl := in_tbl (List.mem_of_getElem? (i := 385) (by decide +kernel)) rfl
theorem oi10_3 : Cond.methodLink "DesertJars$Tape" 3 Lib.objectInit ∈ tbl := in_tbl (List.mem_of_getElem? (i := 36) (by decide +kernel)) rfl
theorem oi11_1 : Cond.methodLink "DesertJars" 1 Lib.objectInit ∈ tbl := in_tbl (List.mem_of_getElem? (i := 28) (by decide +kernel)) rfl
theorem oi12_1 : Cond.methodLink "DesertJarsModel" 1 Lib.objectInit ∈ tbl := in_tbl (List.mem_of_getElem? (i := 1200) (by decide +kernel)) rfl
theorem nk3_17 : Cond.methodLinkNest "DesertJars$LandReader" 17 ⟨"DesertJars$Land", "<init>", "()V"⟩ "DesertJars" ∈ nestW := List.mem_filter.mpr ⟨List.mem_of_getElem? (i := 72) (by decide +kernel), rfl⟩
theorem nk11_9 : Cond.methodLinkNest "DesertJars" 9 ⟨"DesertJars$Tape", "<init>", "()V"⟩ "DesertJars" ∈ nestW := List.mem_filter.mpr ⟨List.mem_of_getElem? (i := 33) (by decide +kernel), rfl⟩
theorem nk11_27 : Cond.methodLinkNest "DesertJars" 27 ⟨"DesertJars$Land", "<init>", "()V"⟩ "DesertJars" ∈ nestW := List.mem_filter.mpr ⟨List.mem_of_getElem? (i := 112) (by decide +kernel), rfl⟩
theorem nk11_53 : Cond.methodLinkNest "DesertJars" 53 ⟨"DesertJars$Camp", "<init>", "()V"⟩ "DesertJars" ∈ nestW := List.mem_filter.mpr ⟨List.mem_of_getElem? (i := 151) (by decide +kernel), rfl⟩
theorem nk11_66 : Cond.methodLinkNest "DesertJars" 66 ⟨"DesertJars$Numbers", "<init>", "()V"⟩ "DesertJars" ∈ nestW := List.mem_filter.mpr ⟨List.mem_of_getElem? (i := 188) (by decide +kernel), rfl⟩
theorem nk11_73 : Cond.methodLinkNest "DesertJars" 73 ⟨"DesertJars$Search", "<init>", "()V"⟩ "DesertJars" ∈ nestW := List.mem_filter.mpr ⟨List.mem_of_getElem? (i := 242) (by decide +kernel), rfl⟩
theorem nk11_80 : Cond.methodLinkNest "DesertJars" 80 ⟨"DesertJars$Fewest", "<init>", "()V"⟩ "DesertJars" ∈ nestW := List.mem_filter.mpr ⟨List.mem_of_getElem? (i := 318) (by decide +kernel), rfl⟩
theorem nk11_87 : Cond.methodLinkNest "DesertJars" 87 ⟨"DesertJars$Ledger", "<init>", "()V"⟩ "DesertJars" ∈ nestW := List.mem_filter.mpr ⟨List.mem_of_getElem? (i := 348) (by decide +kernel), rfl⟩
theorem nk11_94 : Cond.methodLinkNest "DesertJars" 94 ⟨"DesertJars$Symmetry", "<init>", "()V"⟩ "DesertJars" ∈ nestW := List.mem_filter.mpr ⟨List.mem_of_getElem? (i := 382) (by decide +kernel), rfl⟩
theorem lk11_18 : Cond.methodLink "DesertJars" 18 ⟨"DesertJars$LandReader", "<init>", "(LDesertJars$Tape;)V"⟩ ∈ tbl := in_tbl (List.mem_of_getElem? (i := 65) (by decide +kernel)) rfl
theorem lk11_43 : Cond.methodLink "DesertJars" 43 ⟨"DesertJars$Law", "<init>", "(LDesertJars$Tape;)V"⟩ ∈ tbl := in_tbl (List.mem_of_getElem? (i := 115) (by decide +kernel)) rfl
theorem lk1_11 : Cond.methodLink "DesertJars$Fewest" 11 ⟨"DesertJars$Ranks", "<init>", "()V"⟩ ∈ tbl := in_tbl (List.mem_of_getElem? (i := 323) (by decide +kernel)) rfl
theorem lk8_11 : Cond.methodLink "DesertJars$Search" 11 ⟨"DesertJars$Ranks", "<init>", "()V"⟩ ∈ tbl := in_tbl (List.mem_of_getElem? (i := 248) (by decide +kernel)) rfl
