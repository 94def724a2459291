/-! the links of the calls -/
theorem lk2_22 : Cond.methodLink "DesertJars$Land" 22 ⟨"DesertJars$Land", "has", "(I)Z"⟩ ∈ tbl := in_tbl (List.mem_of_getElem? (i := 690) (by decide +kernel)) rfl
theorem lk2_26 : Cond.methodLink "DesertJars$Land" 26 ⟨"java/lang/Math", "min", "(II)I"⟩ ∈ tbl := in_tbl (List.mem_of_getElem? (i := 683) (by decide +kernel)) rfl
theorem lk2_32 : Cond.methodLink "DesertJars$Land" 32 ⟨"java/lang/Math", "max", "(II)I"⟩ ∈ tbl := in_tbl (List.mem_of_getElem? (i := 684) (by decide +kernel)) rfl
theorem lk2_35 : Cond.methodLink "DesertJars$Land" 35 ⟨"java/util/Arrays", "fill", "([II)V"⟩ ∈ tbl := in_tbl (List.mem_of_getElem? (i := 685) (by decide +kernel)) rfl
theorem lk2_41 : Cond.methodLink "DesertJars$Land" 41 ⟨"java/lang/System", "arraycopy", "(Ljava/lang/Object;ILjava/lang/Object;II)V"⟩ ∈ tbl := in_tbl (List.mem_of_getElem? (i := 696) (by decide +kernel)) rfl
theorem lk2_47 : Cond.methodLink "DesertJars$Land" 47 ⟨"DesertJars$Land", "bare", "(I)V"⟩ ∈ tbl := in_tbl (List.mem_of_getElem? (i := 679) (by decide +kernel)) rfl
theorem lk2_51 : Cond.methodLink "DesertJars$Land" 51 ⟨"DesertJars$Land", "join", "(II)V"⟩ ∈ tbl := in_tbl (List.mem_of_getElem? (i := 686) (by decide +kernel)) rfl
theorem lk2_55 : Cond.methodLink "DesertJars$Land" 55 ⟨"DesertJars$Land", "joinInProduct", "(LDesertJars$Land;LDesertJars$Land;II)V"⟩ ∈ tbl := in_tbl (List.mem_of_getElem? (i := 703) (by decide +kernel)) rfl
theorem lk2_59 : Cond.methodLink "DesertJars$Land" 59 ⟨"DesertJars$Land", "areNext", "(II)Z"⟩ ∈ tbl := in_tbl (List.mem_of_getElem? (i := 707) (by decide +kernel)) rfl
theorem lk2_63 : Cond.methodLink "DesertJars$Land" 63 ⟨"DesertJars$Land", "measureFrom", "(I)V"⟩ ∈ tbl := in_tbl (List.mem_of_getElem? (i := 734) (by decide +kernel)) rfl
theorem lk2_66 : Cond.methodLink "DesertJars$Land" 66 ⟨"java/lang/Integer", "bitCount", "(I)I"⟩ ∈ tbl := in_tbl (List.mem_of_getElem? (i := 1194) (by decide +kernel)) rfl
theorem lk2_72 : Cond.methodLink "DesertJars$Land" 72 ⟨"DesertJars$Land", "way", "(II)I"⟩ ∈ tbl := in_tbl (List.mem_of_getElem? (i := 1010) (by decide +kernel)) rfl
theorem lk10_28 : Cond.methodLink "DesertJars$Tape" 28 ⟨"DesertJars$Tape", "peek", "()I"⟩ ∈ tbl := in_tbl (List.mem_of_getElem? (i := 530) (by decide +kernel)) rfl
theorem lk10_32 : Cond.methodLink "DesertJars$Tape" 32 ⟨"DesertJars$Tape", "fail", "(II)V"⟩ ∈ tbl := in_tbl (List.mem_of_getElem? (i := 531) (by decide +kernel)) rfl
theorem lk10_36 : Cond.methodLink "DesertJars$Tape" 36 ⟨"DesertJars$Tape", "isDigit", "(I)Z"⟩ ∈ tbl := in_tbl (List.mem_of_getElem? (i := 543) (by decide +kernel)) rfl
theorem lk14_13 : Cond.methodLink "java/util/Arrays" 13 ⟨"java/util/Arrays", "rangeCheck", "(III)V"⟩ ∈ tbl := in_tbl (List.mem_of_getElem? (i := 895) (by decide +kernel)) rfl
