/-! the links of the calls, the worlds -/
theorem lk2_22 : Cond.methodLink "DesertJars$Land" 22 ⟨"DesertJars$Land", "has", "(I)Z"⟩ ∈ tbl := in_tbl (List.mem_of_getElem? (i := 690) (by decide +kernel)) rfl
theorem lk2_26 : Cond.methodLink "DesertJars$Land" 26 ⟨"java/lang/Math", "min", "(II)I"⟩ ∈ tbl := in_tbl (List.mem_of_getElem? (i := 683) (by decide +kernel)) rfl
theorem lk2_32 : Cond.methodLink "DesertJars$Land" 32 ⟨"java/lang/Math", "max", "(II)I"⟩ ∈ tbl := in_tbl (List.mem_of_getElem? (i := 684) (by decide +kernel)) rfl
theorem lk2_35 : Cond.methodLink "DesertJars$Land" 35 ⟨"java/util/Arrays", "fill", "([II)V"⟩ ∈ tbl := in_tbl (List.mem_of_getElem? (i := 685) (by decide +kernel)) rfl
theorem lk2_41 : Cond.methodLink "DesertJars$Land" 41 ⟨"java/lang/System", "arraycopy", "(Ljava/lang/Object;ILjava/lang/Object;II)V"⟩ ∈ tbl := in_tbl (List.mem_of_getElem? (i := 696) (by decide +kernel)) rfl
theorem lk2_47 : Cond.methodLink "DesertJars$Land" 47 ⟨"DesertJars$Land", "bare", "(I)V"⟩ ∈ tbl := in_tbl (List.mem_of_getElem? (i := 679) (by decide +kernel)) rfl
theorem lk2_51 : Cond.methodLink "DesertJars$Land" 51 ⟨"DesertJars$Land", "join", "(II)V"⟩ ∈ tbl := in_tbl (List.mem_of_getElem? (i := 686) (by decide +kernel)) rfl
theorem lk2_55 : Cond.methodLink "DesertJars$Land" 55 ⟨"DesertJars$Land", "joinInProduct", "(LDesertJars$Land;LDesertJars$Land;II)V"⟩ ∈ tbl := in_tbl (List.mem_of_getElem? (i := 703) (by decide +kernel)) rfl
theorem lk2_59 : Cond.methodLink "DesertJars$Land" 59 ⟨"DesertJars$Land", "areNext", "(II)Z"⟩ ∈ tbl := in_tbl (List.mem_of_getElem? (i := 707) (by decide +kernel)) rfl
theorem lk2_63 : Cond.methodLink "DesertJars$Land" 63 ⟨"DesertJars$Land", "measureFrom", "(I)V"⟩ ∈ tbl := in_tbl (List.mem_of_getElem? (i := 734) (by decide +kernel)) rfl
theorem lk2_66 : Cond.methodLink "DesertJars$Land" 66 ⟨"java/lang/Integer", "bitCount", "(I)I"⟩ ∈ tbl := in_tbl (List.mem_of_getElem? (i := 1194) (by decide +kernel)) rfl
theorem lk2_72 : Cond.methodLink "DesertJars$Land" 72 ⟨"DesertJars$Land", "way", "(II)I"⟩ ∈ tbl := in_tbl (List.mem_of_getElem? (i := 1010) (by decide +kernel)) rfl
theorem lk10_28 : Cond.methodLink "DesertJars$Tape" 28 ⟨"DesertJars$Tape", "peek", "()I"⟩ ∈ tbl := in_tbl (List.mem_of_getElem? (i := 530) (by decide +kernel)) rfl
theorem lk10_32 : Cond.methodLink "DesertJars$Tape" 32 ⟨"DesertJars$Tape", "fail", "(II)V"⟩ ∈ tbl := in_tbl (List.mem_of_getElem? (i := 531) (by decide +kernel)) rfl
theorem lk10_36 : Cond.methodLink "DesertJars$Tape" 36 ⟨"DesertJars$Tape", "isDigit", "(I)Z"⟩ ∈ tbl := in_tbl (List.mem_of_getElem? (i := 543) (by decide +kernel)) rfl
theorem lk12_175 : Cond.methodLink "DesertJarsModel" 175 ⟨"DesertJarsModel", "in", "(III)Z"⟩ ∈ tbl := in_tbl (List.mem_of_getElem? (i := 1463) (by decide +kernel)) rfl
theorem lk12_179 : Cond.methodLink "DesertJarsModel" 179 ⟨"DesertJarsModel", "isWell", "(I)Z"⟩ ∈ tbl := in_tbl (List.mem_of_getElem? (i := 1459) (by decide +kernel)) rfl
theorem lk12_183 : Cond.methodLink "DesertJarsModel" 183 ⟨"DesertJarsModel", "has", "(II)Z"⟩ ∈ tbl := in_tbl (List.mem_of_getElem? (i := 1478) (by decide +kernel)) rfl
theorem lk12_187 : Cond.methodLink "DesertJarsModel" 187 ⟨"DesertJarsModel", "laysStepsFrom", "(I)V"⟩ ∈ tbl := in_tbl (List.mem_of_getElem? (i := 1474) (by decide +kernel)) rfl
theorem lk12_191 : Cond.methodLink "DesertJarsModel" 191 ⟨"DesertJarsModel", "far", "(II)I"⟩ ∈ tbl := in_tbl (List.mem_of_getElem? (i := 1481) (by decide +kernel)) rfl
theorem lk12_195 : Cond.methodLink "DesertJarsModel" 195 ⟨"DesertJarsModel", "laysSteps", "()V"⟩ ∈ tbl := in_tbl (List.mem_of_getElem? (i := 1635) (by decide +kernel)) rfl
theorem lk12_198 : Cond.methodLink "DesertJarsModel" 198 ⟨"DesertJarsModel", "max", "(II)I"⟩ ∈ tbl := in_tbl (List.mem_of_getElem? (i := 1620) (by decide +kernel)) rfl
theorem lk12_204 : Cond.methodLink "DesertJarsModel" 204 ⟨"DesertJarsModel", "types", "(I)V"⟩ ∈ tbl := in_tbl (List.mem_of_getElem? (i := 1489) (by decide +kernel)) rfl
theorem lk12_213 : Cond.methodLink "DesertJarsModel" 213 ⟨"DesertJarsModel", "here", "()I"⟩ ∈ tbl := in_tbl (List.mem_of_getElem? (i := 1505) (by decide +kernel)) rfl
theorem lk12_220 : Cond.methodLink "DesertJarsModel" 220 ⟨"DesertJarsModel", "wrongAt", "(II)Z"⟩ ∈ tbl := in_tbl (List.mem_of_getElem? (i := 1509) (by decide +kernel)) rfl
theorem lk12_226 : Cond.methodLink "DesertJarsModel" 226 ⟨"DesertJarsModel", "isDigit", "()Z"⟩ ∈ tbl := in_tbl (List.mem_of_getElem? (i := 1526) (by decide +kernel)) rfl
theorem lk12_240 : Cond.methodLink "DesertJarsModel" 240 ⟨"DesertJarsModel", "waitTop", "()I"⟩ ∈ tbl := in_tbl (List.mem_of_getElem? (i := 1548) (by decide +kernel)) rfl
theorem lk12_243 : Cond.methodLink "DesertJarsModel" 243 ⟨"DesertJarsModel", "notes", "(II)V"⟩ ∈ tbl := in_tbl (List.mem_of_getElem? (i := 1534) (by decide +kernel)) rfl
theorem lk12_247 : Cond.methodLink "DesertJarsModel" 247 ⟨"DesertJarsModel", "opens", "(I)Z"⟩ ∈ tbl := in_tbl (List.mem_of_getElem? (i := 1521) (by decide +kernel)) rfl
theorem lk12_250 : Cond.methodLink "DesertJarsModel" 250 ⟨"DesertJarsModel", "readsNumber", "()Z"⟩ ∈ tbl := in_tbl (List.mem_of_getElem? (i := 1530) (by decide +kernel)) rfl
theorem lk12_253 : Cond.methodLink "DesertJarsModel" 253 ⟨"DesertJarsModel", "factOf", "(I)I"⟩ ∈ tbl := in_tbl (List.mem_of_getElem? (i := 1538) (by decide +kernel)) rfl
theorem lk12_257 : Cond.methodLink "DesertJarsModel" 257 ⟨"DesertJarsModel", "readsFactor", "()Z"⟩ ∈ tbl := in_tbl (List.mem_of_getElem? (i := 1517) (by decide +kernel)) rfl
theorem lk12_260 : Cond.methodLink "DesertJarsModel" 260 ⟨"DesertJarsModel", "sumSign", "(I)I"⟩ ∈ tbl := in_tbl (List.mem_of_getElem? (i := 1541) (by decide +kernel)) rfl
theorem lk12_263 : Cond.methodLink "DesertJarsModel" 263 ⟨"DesertJarsModel", "closesSums", "(Z)V"⟩ ∈ tbl := in_tbl (List.mem_of_getElem? (i := 1544) (by decide +kernel)) rfl
theorem lk12_267 : Cond.methodLink "DesertJarsModel" 267 ⟨"DesertJarsModel", "hasOpenSum", "(I)Z"⟩ ∈ tbl := in_tbl (List.mem_of_getElem? (i := 1552) (by decide +kernel)) rfl
theorem lk12_270 : Cond.methodLink "DesertJarsModel" 270 ⟨"DesertJarsModel", "readsSum", "()Z"⟩ ∈ tbl := in_tbl (List.mem_of_getElem? (i := 1513) (by decide +kernel)) rfl
theorem lk12_273 : Cond.methodLink "DesertJarsModel" 273 ⟨"DesertJarsModel", "endsPiece", "()V"⟩ ∈ tbl := in_tbl (List.mem_of_getElem? (i := 1564) (by decide +kernel)) rfl
theorem lk12_276 : Cond.methodLink "DesertJarsModel" 276 ⟨"DesertJarsModel", "readsCompared", "()Z"⟩ ∈ tbl := in_tbl (List.mem_of_getElem? (i := 1560) (by decide +kernel)) rfl
theorem lk12_279 : Cond.methodLink "DesertJarsModel" 279 ⟨"DesertJarsModel", "lands", "(Z)V"⟩ ∈ tbl := in_tbl (List.mem_of_getElem? (i := 1568) (by decide +kernel)) rfl
theorem lk12_282 : Cond.methodLink "DesertJarsModel" 282 ⟨"DesertJarsModel", "jumps", "(I)V"⟩ ∈ tbl := in_tbl (List.mem_of_getElem? (i := 1572) (by decide +kernel)) rfl
theorem lk12_288 : Cond.methodLink "DesertJarsModel" 288 ⟨"DesertJarsModel", "readsCondition", "()Z"⟩ ∈ tbl := in_tbl (List.mem_of_getElem? (i := 1556) (by decide +kernel)) rfl
theorem lk12_291 : Cond.methodLink "DesertJarsModel" 291 ⟨"DesertJarsModel", "beginsText", "(I)V"⟩ ∈ tbl := in_tbl (List.mem_of_getElem? (i := 1497) (by decide +kernel)) rfl
theorem lk12_294 : Cond.methodLink "DesertJarsModel" 294 ⟨"DesertJarsModel", "readsRule", "()Z"⟩ ∈ tbl := in_tbl (List.mem_of_getElem? (i := 1501) (by decide +kernel)) rfl
theorem lk12_297 : Cond.methodLink "DesertJarsModel" 297 ⟨"DesertJarsModel", "takes", "(I)Z"⟩ ∈ tbl := in_tbl (List.mem_of_getElem? (i := 1576) (by decide +kernel)) rfl
theorem lk12_303 : Cond.methodLink "DesertJarsModel" 303 ⟨"DesertJarsModel", "reckon", "(III)I"⟩ ∈ tbl := in_tbl (List.mem_of_getElem? (i := 1659) (by decide +kernel)) rfl
theorem lk12_307 : Cond.methodLink "DesertJarsModel" 307 ⟨"DesertJarsModel", "reckonsTo", "(II)I"⟩ ∈ tbl := in_tbl (List.mem_of_getElem? (i := 1655) (by decide +kernel)) rfl
theorem lk12_310 : Cond.methodLink "DesertJarsModel" 310 ⟨"DesertJarsModel", "readsWithin", "(II)Z"⟩ ∈ tbl := in_tbl (List.mem_of_getElem? (i := 1592) (by decide +kernel)) rfl
theorem lk12_316 : Cond.methodLink "DesertJarsModel" 316 ⟨"DesertJarsModel", "laysPart", "(III)V"⟩ ∈ tbl := in_tbl (List.mem_of_getElem? (i := 1596) (by decide +kernel)) rfl
theorem lk12_320 : Cond.methodLink "DesertJarsModel" 320 ⟨"DesertJarsModel", "joins", "(I)Z"⟩ ∈ tbl := in_tbl (List.mem_of_getElem? (i := 1600) (by decide +kernel)) rfl
theorem lk12_323 : Cond.methodLink "DesertJarsModel" 323 ⟨"DesertJarsModel", "readsPlain", "()Z"⟩ ∈ tbl := in_tbl (List.mem_of_getElem? (i := 1588) (by decide +kernel)) rfl
theorem lk12_326 : Cond.methodLink "DesertJarsModel" 326 ⟨"DesertJarsModel", "isLetter", "()Z"⟩ ∈ tbl := in_tbl (List.mem_of_getElem? (i := 1608) (by decide +kernel)) rfl
theorem lk12_332 : Cond.methodLink "DesertJarsModel" 332 ⟨"DesertJarsModel", "readsWhole", "()Z"⟩ ∈ tbl := in_tbl (List.mem_of_getElem? (i := 1584) (by decide +kernel)) rfl
theorem lk12_335 : Cond.methodLink "DesertJarsModel" 335 ⟨"DesertJarsModel", "readsLine", "()Z"⟩ ∈ tbl := in_tbl (List.mem_of_getElem? (i := 1604) (by decide +kernel)) rfl
theorem lk12_338 : Cond.methodLink "DesertJarsModel" 338 ⟨"DesertJarsModel", "readsJars", "()Z"⟩ ∈ tbl := in_tbl (List.mem_of_getElem? (i := 1616) (by decide +kernel)) rfl
theorem lk12_341 : Cond.methodLink "DesertJarsModel" 341 ⟨"DesertJarsModel", "jarsOfAll", "()I"⟩ ∈ tbl := in_tbl (List.mem_of_getElem? (i := 1623) (by decide +kernel)) rfl
theorem lk12_344 : Cond.methodLink "DesertJarsModel" 344 ⟨"DesertJarsModel", "feels", "(I)V"⟩ ∈ tbl := in_tbl (List.mem_of_getElem? (i := 1647) (by decide +kernel)) rfl
theorem lk12_347 : Cond.methodLink "DesertJarsModel" 347 ⟨"DesertJarsModel", "stepsOr99", "(I)I"⟩ ∈ tbl := in_tbl (List.mem_of_getElem? (i := 1670) (by decide +kernel)) rfl
theorem lk12_350 : Cond.methodLink "DesertJarsModel" 350 ⟨"DesertJarsModel", "feelsStage", "(III)V"⟩ ∈ tbl := in_tbl (List.mem_of_getElem? (i := 1666) (by decide +kernel)) rfl
theorem lk12_353 : Cond.methodLink "DesertJarsModel" 353 ⟨"DesertJarsModel", "byLaw", "(III)I"⟩ ∈ tbl := in_tbl (List.mem_of_getElem? (i := 1674) (by decide +kernel)) rfl
theorem lk12_356 : Cond.methodLink "DesertJarsModel" 356 ⟨"DesertJarsModel", "holdsAny", "(I)Z"⟩ ∈ tbl := in_tbl (List.mem_of_getElem? (i := 1651) (by decide +kernel)) rfl
theorem lk12_359 : Cond.methodLink "DesertJarsModel" 359 ⟨"DesertJarsModel", "chosenStage", "(I)I"⟩ ∈ tbl := in_tbl (List.mem_of_getElem? (i := 1662) (by decide +kernel)) rfl
theorem lk12_365 : Cond.methodLink "DesertJarsModel" 365 ⟨"DesertJarsModel", "feelsWell", "(II)V"⟩ ∈ tbl := in_tbl (List.mem_of_getElem? (i := 1682) (by decide +kernel)) rfl
theorem lk12_368 : Cond.methodLink "DesertJarsModel" 368 ⟨"DesertJarsModel", "draws", "()I"⟩ ∈ tbl := in_tbl (List.mem_of_getElem? (i := 1639) (by decide +kernel)) rfl
theorem lk12_374 : Cond.methodLink "DesertJarsModel" 374 ⟨"DesertJarsModel", "carriersGo", "(I)V"⟩ ∈ tbl := in_tbl (List.mem_of_getElem? (i := 1643) (by decide +kernel)) rfl
theorem lk12_377 : Cond.methodLink "DesertJarsModel" 377 ⟨"DesertJarsModel", "robbersGo", "(I)V"⟩ ∈ tbl := in_tbl (List.mem_of_getElem? (i := 1678) (by decide +kernel)) rfl
theorem lk12_380 : Cond.methodLink "DesertJarsModel" 380 ⟨"DesertJarsModel", "daysGo", "(I)V"⟩ ∈ tbl := in_tbl (List.mem_of_getElem? (i := 1631) (by decide +kernel)) rfl
theorem lk12_383 : Cond.methodLink "DesertJarsModel" 383 ⟨"DesertJarsModel", "copies", "([I[I)V"⟩ ∈ tbl := in_tbl (List.mem_of_getElem? (i := 1690) (by decide +kernel)) rfl
theorem lk12_387 : Cond.methodLink "DesertJarsModel" 387 ⟨"DesertJarsModel", "steps", "(II)I"⟩ ∈ tbl := in_tbl (List.mem_of_getElem? (i := 1697) (by decide +kernel)) rfl
theorem lk12_394 : Cond.methodLink "DesertJarsModel" 394 ⟨"DesertJarsModel", "placeOf", "(I)I"⟩ ∈ tbl := in_tbl (List.mem_of_getElem? (i := 1710) (by decide +kernel)) rfl
theorem lk12_397 : Cond.methodLink "DesertJarsModel" 397 ⟨"DesertJarsModel", "jarsIn", "(II)I"⟩ ∈ tbl := in_tbl (List.mem_of_getElem? (i := 1715) (by decide +kernel)) rfl
theorem lk12_400 : Cond.methodLink "DesertJarsModel" 400 ⟨"DesertJarsModel", "one", "(I)I"⟩ ∈ tbl := in_tbl (List.mem_of_getElem? (i := 1722) (by decide +kernel)) rfl
theorem lk12_403 : Cond.methodLink "DesertJarsModel" 403 ⟨"DesertJarsModel", "reaches", "(III)V"⟩ ∈ tbl := in_tbl (List.mem_of_getElem? (i := 1725) (by decide +kernel)) rfl
theorem lk12_406 : Cond.methodLink "DesertJarsModel" 406 ⟨"DesertJarsModel", "clearsStates", "()V"⟩ ∈ tbl := in_tbl (List.mem_of_getElem? (i := 1702) (by decide +kernel)) rfl
theorem lk12_409 : Cond.methodLink "DesertJarsModel" 409 ⟨"DesertJarsModel", "stateNow", "()I"⟩ ∈ tbl := in_tbl (List.mem_of_getElem? (i := 1706) (by decide +kernel)) rfl
theorem lk12_412 : Cond.methodLink "DesertJarsModel" 412 ⟨"DesertJarsModel", "movesOn", "(IZ)V"⟩ ∈ tbl := in_tbl (List.mem_of_getElem? (i := 1718) (by decide +kernel)) rfl
theorem lk12_416 : Cond.methodLink "DesertJarsModel" 416 ⟨"DesertJarsModel", "jarsBy", "(II)I"⟩ ∈ tbl := in_tbl (List.mem_of_getElem? (i := 1745) (by decide +kernel)) rfl
theorem lk12_431 : Cond.methodLink "DesertJarsModel" 431 ⟨"DesertJarsModel", "isGreater", "(II)Z"⟩ ∈ tbl := in_tbl (List.mem_of_getElem? (i := 1757) (by decide +kernel)) rfl
theorem lk12_434 : Cond.methodLink "DesertJarsModel" 434 ⟨"DesertJarsModel", "laysBits", "(I)I"⟩ ∈ tbl := in_tbl (List.mem_of_getElem? (i := 1737) (by decide +kernel)) rfl
theorem lk12_437 : Cond.methodLink "DesertJarsModel" 437 ⟨"DesertJarsModel", "totalBy", "(I)I"⟩ ∈ tbl := in_tbl (List.mem_of_getElem? (i := 1741) (by decide +kernel)) rfl
theorem lk12_440 : Cond.methodLink "DesertJarsModel" 440 ⟨"DesertJarsModel", "isInVain", "(II)Z"⟩ ∈ tbl := in_tbl (List.mem_of_getElem? (i := 1749) (by decide +kernel)) rfl
theorem lk12_443 : Cond.methodLink "DesertJarsModel" 443 ⟨"DesertJarsModel", "countsVain", "(II)V"⟩ ∈ tbl := in_tbl (List.mem_of_getElem? (i := 1753) (by decide +kernel)) rfl
theorem lk12_446 : Cond.methodLink "DesertJarsModel" 446 ⟨"DesertJarsModel", "laysVain", "(I)I"⟩ ∈ tbl := in_tbl (List.mem_of_getElem? (i := 1733) (by decide +kernel)) rfl
theorem lk12_452 : Cond.methodLink "DesertJarsModel" 452 ⟨"DesertJarsModel", "numberOfLand", "()I"⟩ ∈ tbl := in_tbl (List.mem_of_getElem? (i := 1765) (by decide +kernel)) rfl
theorem lk12_455 : Cond.methodLink "DesertJarsModel" 455 ⟨"DesertJarsModel", "reachesAll", "()Z"⟩ ∈ tbl := in_tbl (List.mem_of_getElem? (i := 1777) (by decide +kernel)) rfl
theorem lk12_458 : Cond.methodLink "DesertJarsModel" 458 ⟨"DesertJarsModel", "nextRow", "()Z"⟩ ∈ tbl := in_tbl (List.mem_of_getElem? (i := 1781) (by decide +kernel)) rfl
theorem lk12_461 : Cond.methodLink "DesertJarsModel" 461 ⟨"DesertJarsModel", "waysOf", "(I)I"⟩ ∈ tbl := in_tbl (List.mem_of_getElem? (i := 1773) (by decide +kernel)) rfl
theorem lk12_464 : Cond.methodLink "DesertJarsModel" 464 ⟨"DesertJarsModel", "mostSteps", "()I"⟩ ∈ tbl := in_tbl (List.mem_of_getElem? (i := 1789) (by decide +kernel)) rfl
theorem lk12_467 : Cond.methodLink "DesertJarsModel" 467 ⟨"DesertJarsModel", "octet", "(I)I"⟩ ∈ tbl := in_tbl (List.mem_of_getElem? (i := 1805) (by decide +kernel)) rfl
theorem lk12_470 : Cond.methodLink "DesertJarsModel" 470 ⟨"DesertJarsModel", "weightIn", "(II)I"⟩ ∈ tbl := in_tbl (List.mem_of_getElem? (i := 1801) (by decide +kernel)) rfl
theorem lk12_473 : Cond.methodLink "DesertJarsModel" 473 ⟨"DesertJarsModel", "wrongIn", "(II)I"⟩ ∈ tbl := in_tbl (List.mem_of_getElem? (i := 1797) (by decide +kernel)) rfl
theorem lk12_477 : Cond.methodLink "DesertJarsModel" 477 ⟨"DesertJarsModel", "min", "(II)I"⟩ ∈ tbl := in_tbl (List.mem_of_getElem? (i := 1814) (by decide +kernel)) rfl
theorem lk12_486 : Cond.methodLink "DesertJarsModel" 486 ⟨"DesertJarsModel", "readsTwo", "()Z"⟩ ∈ tbl := in_tbl (List.mem_of_getElem? (i := 1821) (by decide +kernel)) rfl
theorem lk12_492 : Cond.methodLink "DesertJarsModel" 492 ⟨"DesertJarsModel", "becomes", "([II)V"⟩ ∈ tbl := in_tbl (List.mem_of_getElem? (i := 1825) (by decide +kernel)) rfl
theorem lk12_496 : Cond.methodLink "DesertJarsModel" 496 ⟨"DesertJarsModel", "laysProduct", "()V"⟩ ∈ tbl := in_tbl (List.mem_of_getElem? (i := 1829) (by decide +kernel)) rfl
theorem lk12_499 : Cond.methodLink "DesertJarsModel" 499 ⟨"DesertJarsModel", "totalIn", "(I)I"⟩ ∈ tbl := in_tbl (List.mem_of_getElem? (i := 1841) (by decide +kernel)) rfl
theorem lk12_502 : Cond.methodLink "DesertJarsModel" 502 ⟨"DesertJarsModel", "comes", "(I)V"⟩ ∈ tbl := in_tbl (List.mem_of_getElem? (i := 1837) (by decide +kernel)) rfl
theorem lk12_505 : Cond.methodLink "DesertJarsModel" 505 ⟨"DesertJarsModel", "isAtOnce", "(II)Z"⟩ ∈ tbl := in_tbl (List.mem_of_getElem? (i := 1848) (by decide +kernel)) rfl
theorem lk12_508 : Cond.methodLink "DesertJarsModel" 508 ⟨"DesertJarsModel", "robberLeaves", "(I)V"⟩ ∈ tbl := in_tbl (List.mem_of_getElem? (i := 1852) (by decide +kernel)) rfl
theorem lk12_511 : Cond.methodLink "DesertJarsModel" 511 ⟨"DesertJarsModel", "winsAll", "(I)Z"⟩ ∈ tbl := in_tbl (List.mem_of_getElem? (i := 1860) (by decide +kernel)) rfl
theorem lk12_514 : Cond.methodLink "DesertJarsModel" 514 ⟨"DesertJarsModel", "goesOn", "(II)V"⟩ ∈ tbl := in_tbl (List.mem_of_getElem? (i := 1844) (by decide +kernel)) rfl
theorem lk12_517 : Cond.methodLink "DesertJarsModel" 517 ⟨"DesertJarsModel", "wins", "(II)Z"⟩ ∈ tbl := in_tbl (List.mem_of_getElem? (i := 1856) (by decide +kernel)) rfl
theorem lk12_538 : Cond.methodLink "DesertJarsModel" 538 ⟨"DesertJarsModel", "goesLine", "(I)Z"⟩ ∈ tbl := in_tbl (List.mem_of_getElem? (i := 1880) (by decide +kernel)) rfl
theorem lk12_541 : Cond.methodLink "DesertJarsModel" 541 ⟨"DesertJarsModel", "readsMove", "()Z"⟩ ∈ tbl := in_tbl (List.mem_of_getElem? (i := 1868) (by decide +kernel)) rfl
theorem lk12_544 : Cond.methodLink "DesertJarsModel" 544 ⟨"DesertJarsModel", "listsMoves", "()V"⟩ ∈ tbl := in_tbl (List.mem_of_getElem? (i := 1872) (by decide +kernel)) rfl
theorem lk12_547 : Cond.methodLink "DesertJarsModel" 547 ⟨"DesertJarsModel", "fillsLedger", "()V"⟩ ∈ tbl := in_tbl (List.mem_of_getElem? (i := 1876) (by decide +kernel)) rfl
theorem lk12_550 : Cond.methodLink "DesertJarsModel" 550 ⟨"DesertJarsModel", "canLie", "(II)Z"⟩ ∈ tbl := in_tbl (List.mem_of_getElem? (i := 1892) (by decide +kernel)) rfl
theorem lk12_553 : Cond.methodLink "DesertJarsModel" 553 ⟨"DesertJarsModel", "canBeLaid", "(III)Z"⟩ ∈ tbl := in_tbl (List.mem_of_getElem? (i := 1888) (by decide +kernel)) rfl
theorem lk12_561 : Cond.methodLink "DesertJarsModel" 561 ⟨"DesertJarsModel", "bits", "(I)I"⟩ ∈ tbl := in_tbl (List.mem_of_getElem? (i := 1921) (by decide +kernel)) rfl
theorem lk12_564 : Cond.methodLink "DesertJarsModel" 564 ⟨"DesertJarsModel", "stages", "()I"⟩ ∈ tbl := in_tbl (List.mem_of_getElem? (i := 1917) (by decide +kernel)) rfl
theorem lk14_13 : Cond.methodLink "java/util/Arrays" 13 ⟨"java/util/Arrays", "rangeCheck", "(III)V"⟩ ∈ tbl := in_tbl (List.mem_of_getElem? (i := 895) (by decide +kernel)) rfl
abbrev wTape (bytes_t : Nat → Int32) (length_t : Int32) (end_t : Int32) (at_t : Int32) (fault_t : Int32) : List ce := [.inr (10, [.ref 1, .int length_t, .int end_t, .int at_t, .int fault_t]),
  .inl (0, 260, .inl bytes_t)]
abbrev wNone  : List ce := []
abbrev wArr (n_a : Nat) (f_a : Nat → Int32) : List ce := [.inl (0, n_a, .inl f_a)]
abbrev wLand (wells_l : Int32) (next_l : Nat → Int32) (ways_l : Nat → Int32) : List ce := [.inr (2, [.int wells_l, .ref 1, .ref 2]),
  .inl (0, 12, .inl next_l),
  .inl (0, 144, .inl ways_l)]
abbrev wLand2 (wells_l : Int32) (next_l : Nat → Int32) (ways_l : Nat → Int32) (wells_o : Int32) (next_o : Nat → Int32) (ways_o : Nat → Int32) : List ce := [.inr (2, [.int wells_l, .ref 1, .ref 2]),
  .inl (0, 12, .inl next_l),
  .inl (0, 144, .inl ways_l),
  .inr (2, [.int wells_o, .ref 4, .ref 5]),
  .inl (0, 12, .inl next_o),
  .inl (0, 144, .inl ways_o)]
abbrev wLand3 (wells_l : Int32) (next_l : Nat → Int32) (ways_l : Nat → Int32) (wells_a : Int32) (next_a : Nat → Int32) (ways_a : Nat → Int32) (wells_b : Int32) (next_b : Nat → Int32) (ways_b : Nat → Int32) : List ce := [.inr (2, [.int wells_l, .ref 1, .ref 2]),
  .inl (0, 12, .inl next_l),
  .inl (0, 144, .inl ways_l),
  .inr (2, [.int wells_a, .ref 4, .ref 5]),
  .inl (0, 12, .inl next_a),
  .inl (0, 144, .inl ways_a),
  .inr (2, [.int wells_b, .ref 7, .ref 8]),
  .inl (0, 12, .inl next_b),
  .inl (0, 144, .inl ways_b)]
abbrev wMo (now_m : Nat → Int32) (aside_m : Nat → Int32) (kept_m : Nat → Int32) (nextTo_m : Nat → Int32) (wasNext_m : Nat → Int32) (wells_m : Int32) (wasWells_m : Int32) (farOf_m : Nat → Int32) (line_m : Nat → Int32) (tape_m : Nat → Int32) (taped_m : Int32) (place0_m : Int32) (length0_m : Int32) (fault_m : Int32) (number0_m : Int32) (open_m : Int32) (codeMany_m : Int32) (waiting_m : Int32) (saidMany_m : Int32) (clauses_m : Int32) (said_m : Nat → Int32) (waitsAt_m : Nat → Int32) (saidLetter_m : Nat → Int32) (saidFrom_m : Nat → Int32) (saidHalf_m : Nat → Int32) (saidTo_m : Nat → Int32) (codes_m : Nat → Int32) (clauseOf_m : Nat → Int32) (codeFrom_m : Nat → Int32) (codeHalf_m : Nat → Int32) (codeTo_m : Nat → Int32) (stack_m : Nat → Int32) (facts_m : Nat → Int32) (manyAt_m : Nat → Int32) (nextAt_m : Nat → Int32) (partAt_m : Nat → Int32) (newNext_m : Nat → Int32) (depth_m : Int32) (newLines_m : Int32) (newJars_m : Nat → Int32) (stagesNow_m : Int32) (robbedNow_m : Int32) (slotFor_m : Nat → Int32) (stateAt_m : Nat → Int32) (slotOf_m : Nat → Int32) (firstAt_m : Nat → Int32) (movesTo_m : Nat → Int32) (states_m : Int32) (shiftOf_m : Nat → Int32) (widthOf_m : Nat → Int32) (nextIn_m : Nat → Int32) (headOf_m : Nat → Int32) (isVain_m : Nat → Int32) (bitsInAll_m : Int32) (vainMost_m : Int32) (vainMany_m : Int32) (vainGreatest_m : Int32) (lowestBest_m : Int32) (laidNow_m : Nat → Int32) (laidBest_m : Nat → Int32) (firstNext_m : Nat → Int32) (secondNext_m : Nat → Int32) (firstMany_m : Int32) (secondMany_m : Int32) (chainOf_m : Nat → Int32) (chainAt_m : Nat → Int32) (canWin_m : Nat → Int32) (goneFrom_m : Nat → Int32) (goneTo_m : Nat → Int32) (triedAt_m : Nat → Int32) (leftNow_m : Nat → Int32) (moveFrom_m : Nat → Int32) (moveTo_m : Nat → Int32) (takenFrom_m : Nat → Int32) (takenTo_m : Nat → Int32) (goneMany_m : Int32) (lostMany_m : Int32) (moveMany_m : Int32) (waysNow_m : Int32) (leastNow_m : Int32) (mostNow_m : Int32) (imageOf_m : Nat → Int32) (isKept_m : Int32) : List ce := [.inr (12, [.ref 1, .ref 2, .ref 3, .ref 4, .ref 5, .int wells_m, .int wasWells_m, .ref 6, .ref 7, .ref 8, .int taped_m, .int place0_m, .int length0_m, .int fault_m, .int number0_m, .int open_m, .int codeMany_m, .int waiting_m, .int saidMany_m, .int clauses_m, .ref 9, .ref 10, .ref 11, .ref 12, .ref 13, .ref 14, .ref 15, .ref 16, .ref 17, .ref 18, .ref 19, .ref 20, .ref 21, .ref 22, .ref 23, .ref 24, .ref 25, .int depth_m, .int newLines_m, .ref 26, .int stagesNow_m, .int robbedNow_m, .ref 27, .ref 28, .ref 29, .ref 30, .ref 31, .int states_m, .ref 32, .ref 33, .ref 34, .ref 35, .ref 36, .int bitsInAll_m, .int vainMost_m, .int vainMany_m, .int vainGreatest_m, .int lowestBest_m, .ref 37, .ref 38, .ref 39, .ref 40, .int firstMany_m, .int secondMany_m, .ref 41, .ref 42, .ref 43, .ref 44, .ref 45, .ref 46, .ref 47, .ref 48, .ref 49, .ref 50, .ref 51, .int goneMany_m, .int lostMany_m, .int moveMany_m, .int waysNow_m, .int leastNow_m, .int mostNow_m, .ref 52, .int isKept_m]),
  .inl (0, 27, .inl now_m),
  .inl (0, 27, .inl aside_m),
  .inl (0, 27, .inl kept_m),
  .inl (0, 12, .inl nextTo_m),
  .inl (0, 12, .inl wasNext_m),
  .inl (0, 144, .inl farOf_m),
  .inl (0, 12, .inl line_m),
  .inl (1, 260, .inl tape_m),
  .inl (0, 260, .inl said_m),
  .inl (0, 260, .inl waitsAt_m),
  .inl (0, 16, .inl saidLetter_m),
  .inl (0, 16, .inl saidFrom_m),
  .inl (0, 16, .inl saidHalf_m),
  .inl (0, 16, .inl saidTo_m),
  .inl (0, 260, .inl codes_m),
  .inl (0, 16, .inl clauseOf_m),
  .inl (0, 16, .inl codeFrom_m),
  .inl (0, 16, .inl codeHalf_m),
  .inl (0, 16, .inl codeTo_m),
  .inl (0, 260, .inl stack_m),
  .inl (0, 9, .inl facts_m),
  .inl (0, 4, .inl manyAt_m),
  .inl (0, 48, .inl nextAt_m),
  .inl (0, 4, .inl partAt_m),
  .inl (0, 12, .inl newNext_m),
  .inl (0, 12, .inl newJars_m),
  .inl (0, 262144, .inl slotFor_m),
  .inl (0, 131072, .inl stateAt_m),
  .inl (0, 131072, .inl slotOf_m),
  .inl (0, 131072, .inl firstAt_m),
  .inl (1, 131072, .inl movesTo_m),
  .inl (0, 12, .inl shiftOf_m),
  .inl (0, 12, .inl widthOf_m),
  .inl (0, 65536, .inl nextIn_m),
  .inl (0, 64, .inl headOf_m),
  .inl (2, 65536, .inl isVain_m),
  .inl (0, 7, .inl laidNow_m),
  .inl (0, 7, .inl laidBest_m),
  .inl (0, 12, .inl firstNext_m),
  .inl (0, 12, .inl secondNext_m),
  .inl (0, 131072, .inl chainOf_m),
  .inl (0, 13, .inl chainAt_m),
  .inl (2, 131072, .inl canWin_m),
  .inl (0, 10, .inl goneFrom_m),
  .inl (0, 10, .inl goneTo_m),
  .inl (0, 10, .inl triedAt_m),
  .inl (0, 12, .inl leftNow_m),
  .inl (0, 132, .inl moveFrom_m),
  .inl (0, 132, .inl moveTo_m),
  .inl (0, 10, .inl takenFrom_m),
  .inl (0, 10, .inl takenTo_m),
  .inl (0, 12, .inl imageOf_m)]
abbrev wArr2 (f_a : Nat → Int32) (g_a : Nat → Int32) : List ce := [.inl (0, 27, .inl f_a),
  .inl (0, 27, .inl g_a)]
