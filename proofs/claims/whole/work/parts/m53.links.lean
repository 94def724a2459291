/-! the links of the calls -/
theorem lk5_92 : Cond.methodLink "DesertJars$Ledger" 92 ⟨"java/lang/System", "arraycopy", "(Ljava/lang/Object;ILjava/lang/Object;II)V"⟩ ∈ tbl := in_tbl (List.mem_of_getElem? (i := 1094) (by decide +kernel)) rfl
theorem lk5_114 : Cond.methodLink "DesertJars$Ledger" 114 ⟨"DesertJars$Ledger", "go", "(LDesertJars$Land;I)V"⟩ ∈ tbl := in_tbl (List.mem_of_getElem? (i := 1096) (by decide +kernel)) rfl
theorem lk5_122 : Cond.methodLink "DesertJars$Ledger" 122 ⟨"DesertJars$Ledger", "change", "(II)V"⟩ ∈ tbl := in_tbl (List.mem_of_getElem? (i := 1104) (by decide +kernel)) rfl
theorem lk5_129 : Cond.methodLink "DesertJars$Ledger" 129 ⟨"DesertJars$Ledger", "fillLast", "(LDesertJars$Land;I)V"⟩ ∈ tbl := in_tbl (List.mem_of_getElem? (i := 1113) (by decide +kernel)) rfl
theorem lk5_132 : Cond.methodLink "DesertJars$Ledger" 132 ⟨"DesertJars$Ledger", "fillOne", "(LDesertJars$Land;I)V"⟩ ∈ tbl := in_tbl (List.mem_of_getElem? (i := 1123) (by decide +kernel)) rfl
theorem lk9_25 : Cond.methodLink "DesertJars$Symmetry" 25 ⟨"DesertJars$Symmetry", "begin", "(LDesertJars$Land;I)V"⟩ ∈ tbl := in_tbl (List.mem_of_getElem? (i := 1135) (by decide +kernel)) rfl
theorem lk9_39 : Cond.methodLink "DesertJars$Symmetry" 39 ⟨"DesertJars$Symmetry", "places", "(I)I"⟩ ∈ tbl := in_tbl (List.mem_of_getElem? (i := 1151) (by decide +kernel)) rfl
theorem lk9_43 : Cond.methodLink "DesertJars$Symmetry" 43 ⟨"java/lang/Integer", "bitCount", "(I)I"⟩ ∈ tbl := in_tbl (List.mem_of_getElem? (i := 1164) (by decide +kernel)) rfl
theorem lk9_48 : Cond.methodLink "DesertJars$Symmetry" 48 ⟨"DesertJars$Symmetry", "lowest", "(I)I"⟩ ∈ tbl := in_tbl (List.mem_of_getElem? (i := 1139) (by decide +kernel)) rfl
theorem lk9_54 : Cond.methodLink "DesertJars$Symmetry" 54 ⟨"DesertJars$Symmetry", "look", "(I)J"⟩ ∈ tbl := in_tbl (List.mem_of_getElem? (i := 1142) (by decide +kernel)) rfl
theorem lk9_58 : Cond.methodLink "DesertJars$Symmetry" 58 ⟨"DesertJars$Symmetry", "twinsOf", "(I)I"⟩ ∈ tbl := in_tbl (List.mem_of_getElem? (i := 1147) (by decide +kernel)) rfl
theorem lk9_61 : Cond.methodLink "DesertJars$Symmetry" 61 ⟨"DesertJars$Land", "way", "(II)I"⟩ ∈ tbl := in_tbl (List.mem_of_getElem? (i := 1146) (by decide +kernel)) rfl
theorem lk9_65 : Cond.methodLink "DesertJars$Symmetry" 65 ⟨"DesertJars$Symmetry", "fitting", "(II)I"⟩ ∈ tbl := in_tbl (List.mem_of_getElem? (i := 1155) (by decide +kernel)) rfl
theorem lk9_68 : Cond.methodLink "DesertJars$Symmetry" 68 ⟨"DesertJars$Symmetry", "canGoOn", "(II)Z"⟩ ∈ tbl := in_tbl (List.mem_of_getElem? (i := 1160) (by decide +kernel)) rfl
theorem lk9_72 : Cond.methodLink "DesertJars$Symmetry" 72 ⟨"DesertJars$Land", "areNext", "(II)Z"⟩ ∈ tbl := in_tbl (List.mem_of_getElem? (i := 1159) (by decide +kernel)) rfl
