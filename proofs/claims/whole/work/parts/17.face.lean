/-! ===== YearBaskets: printed by wip/whole/drive.py out of the bytecode ===== -/
theorem q_413 : (Jvm.Cond.instanceMethod ({ cls := "YearBaskets", name := "price", desc := "(III)I" } : Jvm.MethodName)) ∈ zG := zt_2 (List.mem_of_getElem? (i := 2) rfl) rfl
theorem q_414 : (Jvm.Cond.selects "YearBaskets" ({ cls := "YearBaskets", name := "price", desc := "(III)I" } : Jvm.MethodName) ({ cls := "YearBaskets", name := "price", desc := "(III)I" } : Jvm.MethodName)) ∈ zG := zt_2 (List.mem_of_getElem? (i := 3) rfl) rfl
theorem q_415 : (Jvm.Cond.code ({ cls := "YearBaskets", name := "price", desc := "(III)I" } : Jvm.MethodName) prog_1_method_2_code (5 : Nat) (Option.some Jvm.ClassFile.FieldType.int)) ∈ zG := zt_2 (List.mem_of_getElem? (i := 4) rfl) rfl
theorem q_416 : (Jvm.Cond.methodLink "YearBaskets" (90 : Nat) ({ cls := "YearBaskets$Laws", name := "forget", desc := "()V" } : Jvm.MethodName)) ∈ zG := zt_2 (List.mem_of_getElem? (i := 19) rfl) rfl
theorem q_417 : (Jvm.Cond.fieldLink "YearBaskets" (45 : Nat) "YearBaskets" "laws" "LYearBaskets$Laws;") ∈ zG := zt_1 (List.mem_of_getElem? (i := 212) rfl) rfl
theorem q_418 : (Jvm.Cond.methodLink "YearBaskets" (86 : Nat) ({ cls := "YearBaskets$Books", name := "setPrice", desc := "(III)V" } : Jvm.MethodName)) ∈ zG := zt_2 (List.mem_of_getElem? (i := 15) rfl) rfl
theorem q_419 : (Jvm.Cond.fieldLink "YearBaskets" (10 : Nat) "YearBaskets" "books" "LYearBaskets$Books;") ∈ zG := zt_1 (List.mem_of_getElem? (i := 207) rfl) rfl
theorem q_420 : (Jvm.Cond.methodLink "YearBaskets" (82 : Nat) ({ cls := "YearBaskets$Books", name := "priceOf", desc := "(II)I" } : Jvm.MethodName)) ∈ zG := zt_2 (List.mem_of_getElem? (i := 11) rfl) rfl
theorem q_421 : (Jvm.Cond.methodLink "YearBaskets" (79 : Nat) ({ cls := "YearBaskets", name := "isNoGood", desc := "(I)Z" } : Jvm.MethodName)) ∈ zG := zt_2 (List.mem_of_getElem? (i := 8) rfl) rfl
theorem q_422 : (Jvm.Cond.methodLink "YearBaskets" (75 : Nat) ({ cls := "YearBaskets", name := "isNoYear", desc := "(I)Z" } : Jvm.MethodName)) ∈ zG := zt_2 (List.mem_of_getElem? (i := 5) rfl) rfl
theorem q_423 : (Jvm.Cond.instanceMethod ({ cls := "YearBaskets", name := "bought", desc := "(IIII)I" } : Jvm.MethodName)) ∈ zG := zt_2 (List.mem_of_getElem? (i := 24) rfl) rfl
theorem q_424 : (Jvm.Cond.selects "YearBaskets" ({ cls := "YearBaskets", name := "bought", desc := "(IIII)I" } : Jvm.MethodName) ({ cls := "YearBaskets", name := "bought", desc := "(IIII)I" } : Jvm.MethodName)) ∈ zG := zt_2 (List.mem_of_getElem? (i := 25) rfl) rfl
theorem q_425 : (Jvm.Cond.code ({ cls := "YearBaskets", name := "bought", desc := "(IIII)I" } : Jvm.MethodName) prog_1_method_3_code (6 : Nat) (Option.some Jvm.ClassFile.FieldType.int)) ∈ zG := zt_2 (List.mem_of_getElem? (i := 26) rfl) rfl
theorem q_426 : (Jvm.Cond.methodLink "YearBaskets" (100 : Nat) ({ cls := "YearBaskets$Books", name := "setAmount", desc := "(IIII)V" } : Jvm.MethodName)) ∈ zG := zt_2 (List.mem_of_getElem? (i := 34) rfl) rfl
theorem q_427 : (Jvm.Cond.methodLink "YearBaskets" (96 : Nat) ({ cls := "YearBaskets$Books", name := "amountOf", desc := "(III)I" } : Jvm.MethodName)) ∈ zG := zt_2 (List.mem_of_getElem? (i := 30) rfl) rfl
theorem q_428 : (Jvm.Cond.methodLink "YearBaskets" (93 : Nat) ({ cls := "YearBaskets", name := "isNoPerson", desc := "(I)Z" } : Jvm.MethodName)) ∈ zG := zt_2 (List.mem_of_getElem? (i := 27) rfl) rfl
theorem q_429 : (Jvm.Cond.instanceMethod ({ cls := "YearBaskets", name := "cost", desc := "(III)I" } : Jvm.MethodName)) ∈ zG := zt_2 (List.mem_of_getElem? (i := 39) rfl) rfl
theorem q_430 : (Jvm.Cond.selects "YearBaskets" ({ cls := "YearBaskets", name := "cost", desc := "(III)I" } : Jvm.MethodName) ({ cls := "YearBaskets", name := "cost", desc := "(III)I" } : Jvm.MethodName)) ∈ zG := zt_2 (List.mem_of_getElem? (i := 40) rfl) rfl
theorem q_431 : (Jvm.Cond.code ({ cls := "YearBaskets", name := "cost", desc := "(III)I" } : Jvm.MethodName) prog_1_method_4_code (5 : Nat) (Option.some Jvm.ClassFile.FieldType.int)) ∈ zG := zt_2 (List.mem_of_getElem? (i := 41) rfl) rfl
theorem q_432 : (Jvm.Cond.methodLink "YearBaskets" (107 : Nat) ({ cls := "YearBaskets$Books", name := "costOver", desc := "(IIII)I" } : Jvm.MethodName)) ∈ zG := zt_2 (List.mem_of_getElem? (i := 45) rfl) rfl
theorem q_433 : (Jvm.Cond.methodLink "YearBaskets" (104 : Nat) ({ cls := "YearBaskets", name := "isNoWho", desc := "(I)Z" } : Jvm.MethodName)) ∈ zG := zt_2 (List.mem_of_getElem? (i := 42) rfl) rfl
theorem q_434 : (Jvm.Cond.instanceMethod ({ cls := "YearBaskets", name := "goods", desc := "(III)I" } : Jvm.MethodName)) ∈ zG := zt_2 (List.mem_of_getElem? (i := 52) rfl) rfl
theorem q_435 : (Jvm.Cond.selects "YearBaskets" ({ cls := "YearBaskets", name := "goods", desc := "(III)I" } : Jvm.MethodName) ({ cls := "YearBaskets", name := "goods", desc := "(III)I" } : Jvm.MethodName)) ∈ zG := zt_2 (List.mem_of_getElem? (i := 53) rfl) rfl
theorem q_436 : (Jvm.Cond.code ({ cls := "YearBaskets", name := "goods", desc := "(III)I" } : Jvm.MethodName) prog_1_method_5_code (6 : Nat) (Option.some Jvm.ClassFile.FieldType.int)) ∈ zG := zt_2 (List.mem_of_getElem? (i := 54) rfl) rfl
theorem q_437 : (Jvm.Cond.methodLink "YearBaskets" (115 : Nat) ({ cls := "YearBaskets$Books", name := "goodsPricedIn", desc := "(I)I" } : Jvm.MethodName)) ∈ zG := zt_2 (List.mem_of_getElem? (i := 63) rfl) rfl
theorem q_438 : (Jvm.Cond.methodLink "YearBaskets" (111 : Nat) ({ cls := "YearBaskets$Books", name := "goodsThere", desc := "()I" } : Jvm.MethodName)) ∈ zG := zt_2 (List.mem_of_getElem? (i := 55) rfl) rfl
theorem q_439 : (Jvm.Cond.instanceMethod ({ cls := "YearBaskets", name := "count", desc := "(I)I" } : Jvm.MethodName)) ∈ zG := zt_2 (List.mem_of_getElem? (i := 65) rfl) rfl
theorem q_440 : (Jvm.Cond.selects "YearBaskets" ({ cls := "YearBaskets", name := "count", desc := "(I)I" } : Jvm.MethodName) ({ cls := "YearBaskets", name := "count", desc := "(I)I" } : Jvm.MethodName)) ∈ zG := zt_2 (List.mem_of_getElem? (i := 66) rfl) rfl
theorem q_441 : (Jvm.Cond.code ({ cls := "YearBaskets", name := "count", desc := "(I)I" } : Jvm.MethodName) prog_1_method_6_code (2 : Nat) (Option.some Jvm.ClassFile.FieldType.int)) ∈ zG := zt_2 (List.mem_of_getElem? (i := 67) rfl) rfl
theorem q_442 : (Jvm.Cond.fieldLink "YearBaskets" (68 : Nat) "YearBaskets" "made" "I") ∈ zG := zt_1 (List.mem_of_getElem? (i := 216) rfl) rfl
theorem q_443 : (Jvm.Cond.fieldLinkNest "YearBaskets" (119 : Nat) "YearBaskets$Reader" "length" "I" "YearBaskets") ∈ zNw := List.mem_of_getElem? (i := 4) rfl
theorem q_444 : (Jvm.Cond.fieldLink "YearBaskets" (29 : Nat) "YearBaskets" "reader" "LYearBaskets$Reader;") ∈ zG := zt_1 (List.mem_of_getElem? (i := 210) rfl) rfl
theorem q_445 : (Jvm.Cond.methodLink "YearBaskets" (122 : Nat) ({ cls := "YearBaskets$Books", name := "pricesThere", desc := "()I" } : Jvm.MethodName)) ∈ zG := zt_2 (List.mem_of_getElem? (i := 68) rfl) rfl
theorem q_446 : (Jvm.Cond.methodLink "YearBaskets" (125 : Nat) ({ cls := "java/lang/Integer", name := "bitCount", desc := "(I)I" } : Jvm.MethodName)) ∈ zG := zt_2 (List.mem_of_getElem? (i := 78) rfl) rfl
theorem q_447 : (Jvm.Cond.methodLink "YearBaskets" (130 : Nat) ({ cls := "YearBaskets$Books", name := "yearsPriced", desc := "()I" } : Jvm.MethodName)) ∈ zG := zt_2 (List.mem_of_getElem? (i := 79) rfl) rfl
theorem q_448 : (Jvm.Cond.instanceMethod ({ cls := "YearBaskets", name := "feed", desc := "(IJ)I" } : Jvm.MethodName)) ∈ zG := zt_2 (List.mem_of_getElem? (i := 84) rfl) rfl
theorem q_449 : (Jvm.Cond.selects "YearBaskets" ({ cls := "YearBaskets", name := "feed", desc := "(IJ)I" } : Jvm.MethodName) ({ cls := "YearBaskets", name := "feed", desc := "(IJ)I" } : Jvm.MethodName)) ∈ zG := zt_2 (List.mem_of_getElem? (i := 85) rfl) rfl
theorem q_450 : (Jvm.Cond.code ({ cls := "YearBaskets", name := "feed", desc := "(IJ)I" } : Jvm.MethodName) prog_1_method_7_code (5 : Nat) (Option.some Jvm.ClassFile.FieldType.int)) ∈ zG := zt_2 (List.mem_of_getElem? (i := 86) rfl) rfl
theorem q_451 : (Jvm.Cond.methodLink "YearBaskets" (133 : Nat) ({ cls := "YearBaskets$Reader", name := "append", desc := "(I)V" } : Jvm.MethodName)) ∈ zG := zt_2 (List.mem_of_getElem? (i := 87) rfl) rfl
theorem q_452 : (Jvm.Cond.instanceMethod ({ cls := "YearBaskets", name := "number", desc := "()I" } : Jvm.MethodName)) ∈ zG := zt_2 (List.mem_of_getElem? (i := 92) rfl) rfl
theorem q_453 : (Jvm.Cond.selects "YearBaskets" ({ cls := "YearBaskets", name := "number", desc := "()I" } : Jvm.MethodName) ({ cls := "YearBaskets", name := "number", desc := "()I" } : Jvm.MethodName)) ∈ zG := zt_2 (List.mem_of_getElem? (i := 93) rfl) rfl
theorem q_454 : (Jvm.Cond.code ({ cls := "YearBaskets", name := "number", desc := "()I" } : Jvm.MethodName) prog_1_method_8_code (2 : Nat) (Option.some Jvm.ClassFile.FieldType.int)) ∈ zG := zt_2 (List.mem_of_getElem? (i := 94) rfl) rfl
theorem q_455 : (Jvm.Cond.fieldLink "YearBaskets" (72 : Nat) "YearBaskets" "latestFault" "I") ∈ zG := zt_1 (List.mem_of_getElem? (i := 217) rfl) rfl
theorem q_456 : (Jvm.Cond.fieldLinkNest "YearBaskets" (141 : Nat) "YearBaskets$Reader" "faultKind" "I" "YearBaskets") ∈ zNw := List.mem_of_getElem? (i := 5) rfl
theorem q_457 : (Jvm.Cond.fieldLinkNest "YearBaskets" (144 : Nat) "YearBaskets$Reader" "faultPlace" "I" "YearBaskets") ∈ zNw := List.mem_of_getElem? (i := 6) rfl
theorem q_458 : (Jvm.Cond.methodLink "YearBaskets" (137 : Nat) ({ cls := "YearBaskets$Reader", name := "read", desc := "(LYearBaskets$Plan;)V" } : Jvm.MethodName)) ∈ zG := zt_2 (List.mem_of_getElem? (i := 95) rfl) rfl
theorem q_459 : (Jvm.Cond.fieldLink "YearBaskets" (21 : Nat) "YearBaskets" "plans" "[LYearBaskets$Plan;") ∈ zG := zt_1 (List.mem_of_getElem? (i := 209) rfl) rfl
theorem q_460 : (Jvm.Cond.instanceMethod ({ cls := "YearBaskets", name := "fault", desc := "()I" } : Jvm.MethodName)) ∈ zG := zt_2 (List.mem_of_getElem? (i := 214) rfl) rfl
theorem q_461 : (Jvm.Cond.selects "YearBaskets" ({ cls := "YearBaskets", name := "fault", desc := "()I" } : Jvm.MethodName) ({ cls := "YearBaskets", name := "fault", desc := "()I" } : Jvm.MethodName)) ∈ zG := zt_2 (List.mem_of_getElem? (i := 215) rfl) rfl
theorem q_462 : (Jvm.Cond.code ({ cls := "YearBaskets", name := "fault", desc := "()I" } : Jvm.MethodName) prog_1_method_9_code (1 : Nat) (Option.some Jvm.ClassFile.FieldType.int)) ∈ zG := zt_2 (List.mem_of_getElem? (i := 216) rfl) rfl
theorem q_463 : (Jvm.Cond.instanceMethod ({ cls := "YearBaskets", name := "isNoNumber", desc := "(I)Z" } : Jvm.MethodName)) ∈ zG := zt_2 (List.mem_of_getElem? (i := 223) rfl) rfl
theorem q_464 : (Jvm.Cond.selects "YearBaskets" ({ cls := "YearBaskets", name := "isNoNumber", desc := "(I)Z" } : Jvm.MethodName) ({ cls := "YearBaskets", name := "isNoNumber", desc := "(I)Z" } : Jvm.MethodName)) ∈ zG := zG_s (List.mem_of_getElem? (i := 10) rfl) rfl
theorem q_465 : (Jvm.Cond.code ({ cls := "YearBaskets", name := "isNoNumber", desc := "(I)Z" } : Jvm.MethodName) prog_1_method_28_code (2 : Nat) (Option.some Jvm.ClassFile.FieldType.boolean)) ∈ zG := zt_2 (List.mem_of_getElem? (i := 224) rfl) rfl
theorem q_466 : (Jvm.Cond.instanceMethod ({ cls := "YearBaskets", name := "planOf", desc := "(I)LYearBaskets$Plan;" } : Jvm.MethodName)) ∈ zG := zt_2 (List.mem_of_getElem? (i := 229) rfl) rfl
theorem q_467 : (Jvm.Cond.selects "YearBaskets" ({ cls := "YearBaskets", name := "planOf", desc := "(I)LYearBaskets$Plan;" } : Jvm.MethodName) ({ cls := "YearBaskets", name := "planOf", desc := "(I)LYearBaskets$Plan;" } : Jvm.MethodName)) ∈ zG := zG_s (List.mem_of_getElem? (i := 11) rfl) rfl
theorem q_468 : (Jvm.Cond.code ({ cls := "YearBaskets", name := "planOf", desc := "(I)LYearBaskets$Plan;" } : Jvm.MethodName) prog_1_method_29_code (2 : Nat) (Option.some (Jvm.ClassFile.FieldType.object "YearBaskets$Plan"))) ∈ zG := zt_2 (List.mem_of_getElem? (i := 230) rfl) rfl
theorem q_469 : (Jvm.Cond.instanceMethod ({ cls := "YearBaskets", name := "worth", desc := "(IIIII)J" } : Jvm.MethodName)) ∈ zG := zt_2 (List.mem_of_getElem? (i := 218) rfl) rfl
theorem q_470 : (Jvm.Cond.selects "YearBaskets" ({ cls := "YearBaskets", name := "worth", desc := "(IIIII)J" } : Jvm.MethodName) ({ cls := "YearBaskets", name := "worth", desc := "(IIIII)J" } : Jvm.MethodName)) ∈ zG := zt_2 (List.mem_of_getElem? (i := 219) rfl) rfl
theorem q_471 : (Jvm.Cond.code ({ cls := "YearBaskets", name := "worth", desc := "(IIIII)J" } : Jvm.MethodName) prog_1_method_10_code (6 : Nat) (Option.some Jvm.ClassFile.FieldType.long)) ∈ zG := zt_2 (List.mem_of_getElem? (i := 220) rfl) rfl
theorem q_472 : (Jvm.Cond.constantLong "YearBaskets" (150 : Nat) (-1001 : Int64)) ∈ zG := zt_2 (List.mem_of_getElem? (i := 225) rfl) rfl
theorem q_473 : (Jvm.Cond.constantLong "YearBaskets" (152 : Nat) (-1002 : Int64)) ∈ zG := zt_2 (List.mem_of_getElem? (i := 226) rfl) rfl
theorem q_474 : (Jvm.Cond.fieldLinkNest "YearBaskets" (173 : Nat) "YearBaskets$Fraction" "lower" "J" "YearBaskets") ∈ zNw := List.mem_of_getElem? (i := 13) rfl
theorem q_475 : (Jvm.Cond.fieldLink "YearBaskets" (61 : Nat) "YearBaskets" "first" "LYearBaskets$Fraction;") ∈ zG := zt_1 (List.mem_of_getElem? (i := 214) rfl) rfl
theorem q_476 : (Jvm.Cond.fieldLinkNest "YearBaskets" (169 : Nat) "YearBaskets$Fraction" "upper" "J" "YearBaskets") ∈ zNw := List.mem_of_getElem? (i := 10) rfl
theorem q_477 : (Jvm.Cond.fieldLinkNest "YearBaskets" (165 : Nat) "YearBaskets$Fraction" "root" "Z" "YearBaskets") ∈ zNw := List.mem_of_getElem? (i := 16) rfl
theorem q_478 : (Jvm.Cond.fieldLinkNest "YearBaskets" (162 : Nat) "YearBaskets$Fraction" "refusal" "I" "YearBaskets") ∈ zNw := List.mem_of_getElem? (i := 19) rfl
theorem q_479 : (Jvm.Cond.methodLink "YearBaskets" (158 : Nat) ({ cls := "YearBaskets$Teller", name := "tell", desc := "(LYearBaskets$Plan;LYearBaskets$Books;IIILYearBaskets$Fraction;)V" } : Jvm.MethodName)) ∈ zG := zt_2 (List.mem_of_getElem? (i := 231) rfl) rfl
theorem q_480 : (Jvm.Cond.methodLink "YearBaskets" (154 : Nat) ({ cls := "YearBaskets", name := "planOf", desc := "(I)LYearBaskets$Plan;" } : Jvm.MethodName)) ∈ zG := zt_2 (List.mem_of_getElem? (i := 227) rfl) rfl
theorem q_481 : (Jvm.Cond.fieldLink "YearBaskets" (36 : Nat) "YearBaskets" "teller" "LYearBaskets$Teller;") ∈ zG := zt_1 (List.mem_of_getElem? (i := 211) rfl) rfl
theorem q_482 : (Jvm.Cond.methodLink "YearBaskets" (147 : Nat) ({ cls := "YearBaskets", name := "isNoNumber", desc := "(I)Z" } : Jvm.MethodName)) ∈ zG := zt_2 (List.mem_of_getElem? (i := 221) rfl) rfl
theorem q_483 : (Jvm.Cond.instanceMethod ({ cls := "YearBaskets", name := "order", desc := "(IIIII)I" } : Jvm.MethodName)) ∈ zG := zt_3 (List.mem_of_getElem? (i := 84) rfl) rfl
theorem q_484 : (Jvm.Cond.selects "YearBaskets" ({ cls := "YearBaskets", name := "order", desc := "(IIIII)I" } : Jvm.MethodName) ({ cls := "YearBaskets", name := "order", desc := "(IIIII)I" } : Jvm.MethodName)) ∈ zG := zt_3 (List.mem_of_getElem? (i := 85) rfl) rfl
theorem q_485 : (Jvm.Cond.code ({ cls := "YearBaskets", name := "order", desc := "(IIIII)I" } : Jvm.MethodName) prog_1_method_11_code (6 : Nat) (Option.some Jvm.ClassFile.FieldType.int)) ∈ zG := zt_3 (List.mem_of_getElem? (i := 86) rfl) rfl
theorem q_486 : (Jvm.Cond.methodLink "YearBaskets" (176 : Nat) ({ cls := "YearBaskets$Fraction", name := "orderOf", desc := "(LYearBaskets$Fraction;LYearBaskets$Fraction;)I" } : Jvm.MethodName)) ∈ zG := zt_3 (List.mem_of_getElem? (i := 87) rfl) rfl
theorem q_487 : (Jvm.Cond.fieldLink "YearBaskets" (65 : Nat) "YearBaskets" "second" "LYearBaskets$Fraction;") ∈ zG := zt_1 (List.mem_of_getElem? (i := 215) rfl) rfl
theorem q_488 : (Jvm.Cond.instanceMethod ({ cls := "YearBaskets", name := "keeps", desc := "(III)I" } : Jvm.MethodName)) ∈ zG := zt_3 (List.mem_of_getElem? (i := 89) rfl) rfl
theorem q_489 : (Jvm.Cond.selects "YearBaskets" ({ cls := "YearBaskets", name := "keeps", desc := "(III)I" } : Jvm.MethodName) ({ cls := "YearBaskets", name := "keeps", desc := "(III)I" } : Jvm.MethodName)) ∈ zG := zt_3 (List.mem_of_getElem? (i := 90) rfl) rfl
theorem q_490 : (Jvm.Cond.code ({ cls := "YearBaskets", name := "keeps", desc := "(III)I" } : Jvm.MethodName) prog_1_method_12_code (4 : Nat) (Option.some Jvm.ClassFile.FieldType.int)) ∈ zG := zt_3 (List.mem_of_getElem? (i := 91) rfl) rfl
theorem q_491 : (Jvm.Cond.methodLink "YearBaskets" (183 : Nat) ({ cls := "YearBaskets$Laws", name := "breachOf", desc := "(ILYearBaskets$Plan;II)I" } : Jvm.MethodName)) ∈ zG := zt_3 (List.mem_of_getElem? (i := 95) rfl) rfl
theorem q_492 : (Jvm.Cond.methodLink "YearBaskets" (180 : Nat) ({ cls := "YearBaskets", name := "isNoLaw", desc := "(I)Z" } : Jvm.MethodName)) ∈ zG := zt_3 (List.mem_of_getElem? (i := 92) rfl) rfl
theorem q_493 : (Jvm.Cond.instanceMethod ({ cls := "YearBaskets", name := "breach", desc := "(IIII)I" } : Jvm.MethodName)) ∈ zG := zt_3 (List.mem_of_getElem? (i := 162) rfl) rfl
theorem q_494 : (Jvm.Cond.selects "YearBaskets" ({ cls := "YearBaskets", name := "breach", desc := "(IIII)I" } : Jvm.MethodName) ({ cls := "YearBaskets", name := "breach", desc := "(IIII)I" } : Jvm.MethodName)) ∈ zG := zt_3 (List.mem_of_getElem? (i := 163) rfl) rfl
theorem q_495 : (Jvm.Cond.code ({ cls := "YearBaskets", name := "breach", desc := "(IIII)I" } : Jvm.MethodName) prog_1_method_13_code (6 : Nat) (Option.some Jvm.ClassFile.FieldType.int)) ∈ zG := zt_3 (List.mem_of_getElem? (i := 164) rfl) rfl
theorem q_496 : (Jvm.Cond.methodLink "YearBaskets" (187 : Nat) ({ cls := "YearBaskets$Laws", name := "partOfBreach", desc := "(II)I" } : Jvm.MethodName)) ∈ zG := zt_3 (List.mem_of_getElem? (i := 165) rfl) rfl
theorem q_497 : (Jvm.Cond.instanceMethod ({ cls := "YearBaskets", name := "clash", desc := "(I)I" } : Jvm.MethodName)) ∈ zG := zt_3 (List.mem_of_getElem? (i := 169) rfl) rfl
theorem q_498 : (Jvm.Cond.selects "YearBaskets" ({ cls := "YearBaskets", name := "clash", desc := "(I)I" } : Jvm.MethodName) ({ cls := "YearBaskets", name := "clash", desc := "(I)I" } : Jvm.MethodName)) ∈ zG := zt_3 (List.mem_of_getElem? (i := 170) rfl) rfl
theorem q_499 : (Jvm.Cond.code ({ cls := "YearBaskets", name := "clash", desc := "(I)I" } : Jvm.MethodName) prog_1_method_14_code (5 : Nat) (Option.some Jvm.ClassFile.FieldType.int)) ∈ zG := zt_3 (List.mem_of_getElem? (i := 171) rfl) rfl
theorem q_500 : (Jvm.Cond.methodLink "YearBaskets" (190 : Nat) ({ cls := "YearBaskets$Laws", name := "setKept", desc := "(II)V" } : Jvm.MethodName)) ∈ zG := zt_3 (List.mem_of_getElem? (i := 172) rfl) rfl
theorem q_501 : (Jvm.Cond.methodLink "YearBaskets" (194 : Nat) ({ cls := "YearBaskets$Laws", name := "leastKeptByNone", desc := "(I)I" } : Jvm.MethodName)) ∈ zG := zt_3 (List.mem_of_getElem? (i := 176) rfl) rfl
theorem q_502 : (Jvm.Cond.instanceMethod ({ cls := "YearBaskets", name := "drift", desc := "(IIIII)J" } : Jvm.MethodName)) ∈ zG := zt_3 (List.mem_of_getElem? (i := 186) rfl) rfl
theorem q_503 : (Jvm.Cond.selects "YearBaskets" ({ cls := "YearBaskets", name := "drift", desc := "(IIIII)J" } : Jvm.MethodName) ({ cls := "YearBaskets", name := "drift", desc := "(IIIII)J" } : Jvm.MethodName)) ∈ zG := zt_3 (List.mem_of_getElem? (i := 187) rfl) rfl
theorem q_504 : (Jvm.Cond.code ({ cls := "YearBaskets", name := "drift", desc := "(IIIII)J" } : Jvm.MethodName) prog_1_method_15_code (6 : Nat) (Option.some Jvm.ClassFile.FieldType.long)) ∈ zG := zt_3 (List.mem_of_getElem? (i := 188) rfl) rfl
theorem q_505 : (Jvm.Cond.constantLong "YearBaskets" (200 : Nat) (-1003 : Int64)) ∈ zG := zt_3 (List.mem_of_getElem? (i := 193) rfl) rfl
theorem q_506 : (Jvm.Cond.methodLink "YearBaskets" (205 : Nat) ({ cls := "YearBaskets$Fraction", name := "multiply", desc := "(LYearBaskets$Fraction;)V" } : Jvm.MethodName)) ∈ zG := zt_3 (List.mem_of_getElem? (i := 195) rfl) rfl
theorem q_507 : (Jvm.Cond.methodLink "YearBaskets" (202 : Nat) ({ cls := "YearBaskets$Fraction", name := "turnOver", desc := "()V" } : Jvm.MethodName)) ∈ zG := zt_3 (List.mem_of_getElem? (i := 194) rfl) rfl
theorem q_508 : (Jvm.Cond.methodLink "YearBaskets" (197 : Nat) ({ cls := "YearBaskets$Teller", name := "tellLinked", desc := "(LYearBaskets$Plan;LYearBaskets$Books;IIILYearBaskets$Fraction;)V" } : Jvm.MethodName)) ∈ zG := zt_3 (List.mem_of_getElem? (i := 189) rfl) rfl
theorem q_509 : (Jvm.Cond.instanceMethod ({ cls := "YearBaskets", name := "chosen", desc := "(III)I" } : Jvm.MethodName)) ∈ zG := zt_3 (List.mem_of_getElem? (i := 197) rfl) rfl
theorem q_510 : (Jvm.Cond.selects "YearBaskets" ({ cls := "YearBaskets", name := "chosen", desc := "(III)I" } : Jvm.MethodName) ({ cls := "YearBaskets", name := "chosen", desc := "(III)I" } : Jvm.MethodName)) ∈ zG := zt_3 (List.mem_of_getElem? (i := 198) rfl) rfl
theorem q_511 : (Jvm.Cond.code ({ cls := "YearBaskets", name := "chosen", desc := "(III)I" } : Jvm.MethodName) prog_1_method_16_code (4 : Nat) (Option.some Jvm.ClassFile.FieldType.int)) ∈ zG := zt_3 (List.mem_of_getElem? (i := 199) rfl) rfl
theorem q_512 : (Jvm.Cond.methodLink "YearBaskets" (209 : Nat) ({ cls := "YearBaskets$Likes", name := "choice", desc := "(III)I" } : Jvm.MethodName)) ∈ zG := zt_3 (List.mem_of_getElem? (i := 200) rfl) rfl
theorem q_513 : (Jvm.Cond.fieldLink "YearBaskets" (54 : Nat) "YearBaskets" "likes" "LYearBaskets$Likes;") ∈ zG := zt_1 (List.mem_of_getElem? (i := 213) rfl) rfl
theorem q_514 : (Jvm.Cond.instanceMethod ({ cls := "YearBaskets", name := "ring", desc := "(II)I" } : Jvm.MethodName)) ∈ zG := zt_3 (List.mem_of_getElem? (i := 206) rfl) rfl
theorem q_515 : (Jvm.Cond.selects "YearBaskets" ({ cls := "YearBaskets", name := "ring", desc := "(II)I" } : Jvm.MethodName) ({ cls := "YearBaskets", name := "ring", desc := "(II)I" } : Jvm.MethodName)) ∈ zG := zt_3 (List.mem_of_getElem? (i := 207) rfl) rfl
theorem q_516 : (Jvm.Cond.code ({ cls := "YearBaskets", name := "ring", desc := "(II)I" } : Jvm.MethodName) prog_1_method_17_code (4 : Nat) (Option.some Jvm.ClassFile.FieldType.int)) ∈ zG := zt_3 (List.mem_of_getElem? (i := 208) rfl) rfl
theorem q_517 : (Jvm.Cond.methodLink "YearBaskets" (215 : Nat) ({ cls := "YearBaskets$Likes", name := "yearInRing", desc := "(I)I" } : Jvm.MethodName)) ∈ zG := zt_4 (List.mem_of_getElem? (i := 3) rfl) rfl
theorem q_518 : (Jvm.Cond.methodLink "YearBaskets" (212 : Nat) ({ cls := "YearBaskets$Likes", name := "findRing", desc := "(I)I" } : Jvm.MethodName)) ∈ zG := zt_3 (List.mem_of_getElem? (i := 209) rfl) rfl
theorem q_519 : (Jvm.Cond.instanceMethod ({ cls := "YearBaskets", name := "need", desc := "(IIII)I" } : Jvm.MethodName)) ∈ zG := zt_4 (List.mem_of_getElem? (i := 5) rfl) rfl
theorem q_520 : (Jvm.Cond.selects "YearBaskets" ({ cls := "YearBaskets", name := "need", desc := "(IIII)I" } : Jvm.MethodName) ({ cls := "YearBaskets", name := "need", desc := "(IIII)I" } : Jvm.MethodName)) ∈ zG := zt_4 (List.mem_of_getElem? (i := 6) rfl) rfl
theorem q_521 : (Jvm.Cond.code ({ cls := "YearBaskets", name := "need", desc := "(IIII)I" } : Jvm.MethodName) prog_1_method_18_code (7 : Nat) (Option.some Jvm.ClassFile.FieldType.int)) ∈ zG := zt_4 (List.mem_of_getElem? (i := 7) rfl) rfl
theorem q_522 : (Jvm.Cond.methodLink "YearBaskets" (221 : Nat) ({ cls := "YearBaskets", name := "inLeastTerms", desc := "(III)I" } : Jvm.MethodName)) ∈ zG := zt_4 (List.mem_of_getElem? (i := 12) rfl) rfl
theorem q_523 : (Jvm.Cond.methodLink "YearBaskets" (218 : Nat) ({ cls := "YearBaskets$Likes", name := "cheapestAsGood", desc := "(III)I" } : Jvm.MethodName)) ∈ zG := zt_4 (List.mem_of_getElem? (i := 8) rfl) rfl
theorem q_524 : (Jvm.Cond.instanceMethod ({ cls := "YearBaskets", name := "part", desc := "(IIIII)I" } : Jvm.MethodName)) ∈ zG := zt_4 (List.mem_of_getElem? (i := 18) rfl) rfl
theorem q_525 : (Jvm.Cond.selects "YearBaskets" ({ cls := "YearBaskets", name := "part", desc := "(IIIII)I" } : Jvm.MethodName) ({ cls := "YearBaskets", name := "part", desc := "(IIIII)I" } : Jvm.MethodName)) ∈ zG := zt_4 (List.mem_of_getElem? (i := 19) rfl) rfl
theorem q_526 : (Jvm.Cond.code ({ cls := "YearBaskets", name := "part", desc := "(IIIII)I" } : Jvm.MethodName) prog_1_method_19_code (10 : Nat) (Option.some Jvm.ClassFile.FieldType.int)) ∈ zG := zt_4 (List.mem_of_getElem? (i := 20) rfl) rfl
theorem q_527 : (Jvm.Cond.instanceMethod ({ cls := "YearBaskets", name := "wage", desc := "(IIIII)J" } : Jvm.MethodName)) ∈ zG := zt_4 (List.mem_of_getElem? (i := 22) rfl) rfl
theorem q_528 : (Jvm.Cond.selects "YearBaskets" ({ cls := "YearBaskets", name := "wage", desc := "(IIIII)J" } : Jvm.MethodName) ({ cls := "YearBaskets", name := "wage", desc := "(IIIII)J" } : Jvm.MethodName)) ∈ zG := zt_4 (List.mem_of_getElem? (i := 23) rfl) rfl
theorem q_529 : (Jvm.Cond.code ({ cls := "YearBaskets", name := "wage", desc := "(IIIII)J" } : Jvm.MethodName) prog_1_method_20_code (10 : Nat) (Option.some Jvm.ClassFile.FieldType.long)) ∈ zG := zt_4 (List.mem_of_getElem? (i := 24) rfl) rfl
theorem q_530 : (Jvm.Cond.constantLong "YearBaskets" (225 : Nat) (1000000000000000000 : Int64)) ∈ zG := zt_4 (List.mem_of_getElem? (i := 26) rfl) rfl
theorem q_531 : (Jvm.Cond.methodLink "YearBaskets" (233 : Nat) ({ cls := "YearBaskets", name := "wholeRoot", desc := "(J)J" } : Jvm.MethodName)) ∈ zG := zt_4 (List.mem_of_getElem? (i := 29) rfl) rfl
theorem q_532 : (Jvm.Cond.constantLong "YearBaskets" (231 : Nat) (-1005 : Int64)) ∈ zG := zt_4 (List.mem_of_getElem? (i := 28) rfl) rfl
theorem q_533 : (Jvm.Cond.methodLink "YearBaskets" (227 : Nat) ({ cls := "YearBaskets$Fraction", name := "exceeds", desc := "(JJJ)Z" } : Jvm.MethodName)) ∈ zG := zt_4 (List.mem_of_getElem? (i := 27) rfl) rfl
theorem q_534 : (Jvm.Cond.constant "YearBaskets" (224 : Nat) (99999 : Int32)) ∈ zG := zt_4 (List.mem_of_getElem? (i := 25) rfl) rfl
theorem q_535 : (Jvm.Cond.instanceMethod ({ cls := "YearBaskets", name := "dearest", desc := "(III)I" } : Jvm.MethodName)) ∈ zG := zt_4 (List.mem_of_getElem? (i := 33) rfl) rfl
theorem q_536 : (Jvm.Cond.selects "YearBaskets" ({ cls := "YearBaskets", name := "dearest", desc := "(III)I" } : Jvm.MethodName) ({ cls := "YearBaskets", name := "dearest", desc := "(III)I" } : Jvm.MethodName)) ∈ zG := zt_4 (List.mem_of_getElem? (i := 34) rfl) rfl
theorem q_537 : (Jvm.Cond.code ({ cls := "YearBaskets", name := "dearest", desc := "(III)I" } : Jvm.MethodName) prog_1_method_21_code (6 : Nat) (Option.some Jvm.ClassFile.FieldType.int)) ∈ zG := zt_4 (List.mem_of_getElem? (i := 35) rfl) rfl
theorem q_538 : (Jvm.Cond.methodLink "YearBaskets" (237 : Nat) ({ cls := "YearBaskets$Fraction", name := "take", desc := "(LYearBaskets$Fraction;)V" } : Jvm.MethodName)) ∈ zG := zt_4 (List.mem_of_getElem? (i := 36) rfl) rfl
theorem q_539 : (Jvm.Cond.instanceMethod ({ cls := "YearBaskets", name := "turn", desc := "(IIIIIIII)I" } : Jvm.MethodName)) ∈ zG := zt_4 (List.mem_of_getElem? (i := 38) rfl) rfl
theorem q_540 : (Jvm.Cond.selects "YearBaskets" ({ cls := "YearBaskets", name := "turn", desc := "(IIIIIIII)I" } : Jvm.MethodName) ({ cls := "YearBaskets", name := "turn", desc := "(IIIIIIII)I" } : Jvm.MethodName)) ∈ zG := zt_4 (List.mem_of_getElem? (i := 39) rfl) rfl
theorem q_541 : (Jvm.Cond.code ({ cls := "YearBaskets", name := "turn", desc := "(IIIIIIII)I" } : Jvm.MethodName) prog_1_method_22_code (11 : Nat) (Option.some Jvm.ClassFile.FieldType.int)) ∈ zG := zt_4 (List.mem_of_getElem? (i := 40) rfl) rfl
theorem q_542 : (Jvm.Cond.fieldLink "YearBaskets" (16 : Nat) "YearBaskets" "tried" "LYearBaskets$Books;") ∈ zG := zt_1 (List.mem_of_getElem? (i := 208) rfl) rfl
theorem q_543 : (Jvm.Cond.methodLink "YearBaskets" (244 : Nat) ({ cls := "YearBaskets$Books", name := "copyFrom", desc := "(LYearBaskets$Books;)V" } : Jvm.MethodName)) ∈ zG := zt_4 (List.mem_of_getElem? (i := 42) rfl) rfl
theorem q_544 : (Jvm.Cond.methodLink "YearBaskets" (240 : Nat) ({ cls := "YearBaskets$Fraction", name := "put", desc := "(JJ)V" } : Jvm.MethodName)) ∈ zG := zt_4 (List.mem_of_getElem? (i := 41) rfl) rfl
abbrev b_Y_price : ByteArray := prog_1_method_2_code
abbrev y_Y_price : MethodName := ⟨"YearBaskets", "price", "(III)I"⟩
abbrev b_Y_bought : ByteArray := prog_1_method_3_code
abbrev y_Y_bought : MethodName := ⟨"YearBaskets", "bought", "(IIII)I"⟩
abbrev b_Y_cost : ByteArray := prog_1_method_4_code
abbrev y_Y_cost : MethodName := ⟨"YearBaskets", "cost", "(III)I"⟩
abbrev b_Y_goods : ByteArray := prog_1_method_5_code
abbrev y_Y_goods : MethodName := ⟨"YearBaskets", "goods", "(III)I"⟩
abbrev b_Y_count : ByteArray := prog_1_method_6_code
abbrev y_Y_count : MethodName := ⟨"YearBaskets", "count", "(I)I"⟩
abbrev b_Y_feed : ByteArray := prog_1_method_7_code
abbrev y_Y_feed : MethodName := ⟨"YearBaskets", "feed", "(IJ)I"⟩
abbrev b_Y_number : ByteArray := prog_1_method_8_code
abbrev y_Y_number : MethodName := ⟨"YearBaskets", "number", "()I"⟩
abbrev b_Y_fault : ByteArray := prog_1_method_9_code
abbrev y_Y_fault : MethodName := ⟨"YearBaskets", "fault", "()I"⟩
abbrev b_Y_isNoNumber : ByteArray := prog_1_method_28_code
abbrev y_Y_isNoNumber : MethodName := ⟨"YearBaskets", "isNoNumber", "(I)Z"⟩
abbrev b_Y_planOf : ByteArray := prog_1_method_29_code
abbrev y_Y_planOf : MethodName := ⟨"YearBaskets", "planOf", "(I)LYearBaskets$Plan;"⟩
abbrev b_Y_worth : ByteArray := prog_1_method_10_code
abbrev y_Y_worth : MethodName := ⟨"YearBaskets", "worth", "(IIIII)J"⟩
abbrev b_Y_order : ByteArray := prog_1_method_11_code
abbrev y_Y_order : MethodName := ⟨"YearBaskets", "order", "(IIIII)I"⟩
abbrev b_Y_keeps : ByteArray := prog_1_method_12_code
abbrev y_Y_keeps : MethodName := ⟨"YearBaskets", "keeps", "(III)I"⟩
abbrev b_Y_breach : ByteArray := prog_1_method_13_code
abbrev y_Y_breach : MethodName := ⟨"YearBaskets", "breach", "(IIII)I"⟩
abbrev b_Y_clash : ByteArray := prog_1_method_14_code
abbrev y_Y_clash : MethodName := ⟨"YearBaskets", "clash", "(I)I"⟩
abbrev b_Y_drift : ByteArray := prog_1_method_15_code
abbrev y_Y_drift : MethodName := ⟨"YearBaskets", "drift", "(IIIII)J"⟩
abbrev b_Y_chosen : ByteArray := prog_1_method_16_code
abbrev y_Y_chosen : MethodName := ⟨"YearBaskets", "chosen", "(III)I"⟩
abbrev b_Y_ring : ByteArray := prog_1_method_17_code
abbrev y_Y_ring : MethodName := ⟨"YearBaskets", "ring", "(II)I"⟩
abbrev b_Y_need : ByteArray := prog_1_method_18_code
abbrev y_Y_need : MethodName := ⟨"YearBaskets", "need", "(IIII)I"⟩
abbrev b_Y_part : ByteArray := prog_1_method_19_code
abbrev y_Y_part : MethodName := ⟨"YearBaskets", "part", "(IIIII)I"⟩
abbrev b_Y_wage : ByteArray := prog_1_method_20_code
abbrev y_Y_wage : MethodName := ⟨"YearBaskets", "wage", "(IIIII)J"⟩
abbrev b_Y_dearest : ByteArray := prog_1_method_21_code
abbrev y_Y_dearest : MethodName := ⟨"YearBaskets", "dearest", "(III)I"⟩
abbrev b_Y_turn : ByteArray := prog_1_method_22_code
abbrev y_Y_turn : MethodName := ⟨"YearBaskets", "turn", "(IIIIIIII)I"⟩
theorem w_Y_price : Cond.code y_Y_price b_Y_price 5 (some .int) ∈ zG ∧ (Cond.instanceMethod y_Y_price ∈ zG ∧ Cond.selects y_Y_price.cls y_Y_price y_Y_price ∈ zG) ∧ Cond.initialized y_Y_price.cls ∈ zG ∧ zY y_Y_price 3 := ⟨q_415, ⟨q_413, q_414⟩, q_151, by decide +kernel⟩
theorem w_Y_bought : Cond.code y_Y_bought b_Y_bought 6 (some .int) ∈ zG ∧ (Cond.instanceMethod y_Y_bought ∈ zG ∧ Cond.selects y_Y_bought.cls y_Y_bought y_Y_bought ∈ zG) ∧ Cond.initialized y_Y_bought.cls ∈ zG ∧ zY y_Y_bought 4 := ⟨q_425, ⟨q_423, q_424⟩, q_151, by decide +kernel⟩
theorem w_Y_cost : Cond.code y_Y_cost b_Y_cost 5 (some .int) ∈ zG ∧ (Cond.instanceMethod y_Y_cost ∈ zG ∧ Cond.selects y_Y_cost.cls y_Y_cost y_Y_cost ∈ zG) ∧ Cond.initialized y_Y_cost.cls ∈ zG ∧ zY y_Y_cost 3 := ⟨q_431, ⟨q_429, q_430⟩, q_151, by decide +kernel⟩
theorem w_Y_goods : Cond.code y_Y_goods b_Y_goods 6 (some .int) ∈ zG ∧ (Cond.instanceMethod y_Y_goods ∈ zG ∧ Cond.selects y_Y_goods.cls y_Y_goods y_Y_goods ∈ zG) ∧ Cond.initialized y_Y_goods.cls ∈ zG ∧ zY y_Y_goods 3 := ⟨q_436, ⟨q_434, q_435⟩, q_151, by decide +kernel⟩
theorem w_Y_count : Cond.code y_Y_count b_Y_count 2 (some .int) ∈ zG ∧ (Cond.instanceMethod y_Y_count ∈ zG ∧ Cond.selects y_Y_count.cls y_Y_count y_Y_count ∈ zG) ∧ Cond.initialized y_Y_count.cls ∈ zG ∧ zY y_Y_count 1 := ⟨q_441, ⟨q_439, q_440⟩, q_151, by decide +kernel⟩
theorem w_Y_feed : Cond.code y_Y_feed b_Y_feed 5 (some .int) ∈ zG ∧ (Cond.instanceMethod y_Y_feed ∈ zG ∧ Cond.selects y_Y_feed.cls y_Y_feed y_Y_feed ∈ zG) ∧ Cond.initialized y_Y_feed.cls ∈ zG ∧ zY y_Y_feed 2 := ⟨q_450, ⟨q_448, q_449⟩, q_151, by decide +kernel⟩
theorem w_Y_number : Cond.code y_Y_number b_Y_number 2 (some .int) ∈ zG ∧ (Cond.instanceMethod y_Y_number ∈ zG ∧ Cond.selects y_Y_number.cls y_Y_number y_Y_number ∈ zG) ∧ Cond.initialized y_Y_number.cls ∈ zG ∧ zY y_Y_number 0 := ⟨q_454, ⟨q_452, q_453⟩, q_151, by decide +kernel⟩
theorem w_Y_fault : Cond.code y_Y_fault b_Y_fault 1 (some .int) ∈ zG ∧ (Cond.instanceMethod y_Y_fault ∈ zG ∧ Cond.selects y_Y_fault.cls y_Y_fault y_Y_fault ∈ zG) ∧ Cond.initialized y_Y_fault.cls ∈ zG ∧ zY y_Y_fault 0 := ⟨q_462, ⟨q_460, q_461⟩, q_151, by decide +kernel⟩
theorem w_Y_isNoNumber : Cond.code y_Y_isNoNumber b_Y_isNoNumber 2 (some .boolean) ∈ zG ∧ (Cond.instanceMethod y_Y_isNoNumber ∈ zG ∧ Cond.selects y_Y_isNoNumber.cls y_Y_isNoNumber y_Y_isNoNumber ∈ zG) ∧ Cond.initialized y_Y_isNoNumber.cls ∈ zG ∧ zY y_Y_isNoNumber 1 := ⟨q_465, ⟨q_463, q_464⟩, q_151, by decide +kernel⟩
theorem w_Y_planOf : Cond.code y_Y_planOf b_Y_planOf 2 (some (.object "YearBaskets$Plan")) ∈ zG ∧ (Cond.instanceMethod y_Y_planOf ∈ zG ∧ Cond.selects y_Y_planOf.cls y_Y_planOf y_Y_planOf ∈ zG) ∧ Cond.initialized y_Y_planOf.cls ∈ zG ∧ zY y_Y_planOf 1 := ⟨q_468, ⟨q_466, q_467⟩, q_151, by decide +kernel⟩
theorem w_Y_worth : Cond.code y_Y_worth b_Y_worth 6 (some .long) ∈ zG ∧ (Cond.instanceMethod y_Y_worth ∈ zG ∧ Cond.selects y_Y_worth.cls y_Y_worth y_Y_worth ∈ zG) ∧ Cond.initialized y_Y_worth.cls ∈ zG ∧ zY y_Y_worth 5 := ⟨q_471, ⟨q_469, q_470⟩, q_151, by decide +kernel⟩
theorem w_Y_order : Cond.code y_Y_order b_Y_order 6 (some .int) ∈ zG ∧ (Cond.instanceMethod y_Y_order ∈ zG ∧ Cond.selects y_Y_order.cls y_Y_order y_Y_order ∈ zG) ∧ Cond.initialized y_Y_order.cls ∈ zG ∧ zY y_Y_order 5 := ⟨q_485, ⟨q_483, q_484⟩, q_151, by decide +kernel⟩
theorem w_Y_keeps : Cond.code y_Y_keeps b_Y_keeps 4 (some .int) ∈ zG ∧ (Cond.instanceMethod y_Y_keeps ∈ zG ∧ Cond.selects y_Y_keeps.cls y_Y_keeps y_Y_keeps ∈ zG) ∧ Cond.initialized y_Y_keeps.cls ∈ zG ∧ zY y_Y_keeps 3 := ⟨q_490, ⟨q_488, q_489⟩, q_151, by decide +kernel⟩
theorem w_Y_breach : Cond.code y_Y_breach b_Y_breach 6 (some .int) ∈ zG ∧ (Cond.instanceMethod y_Y_breach ∈ zG ∧ Cond.selects y_Y_breach.cls y_Y_breach y_Y_breach ∈ zG) ∧ Cond.initialized y_Y_breach.cls ∈ zG ∧ zY y_Y_breach 4 := ⟨q_495, ⟨q_493, q_494⟩, q_151, by decide +kernel⟩
theorem w_Y_clash : Cond.code y_Y_clash b_Y_clash 5 (some .int) ∈ zG ∧ (Cond.instanceMethod y_Y_clash ∈ zG ∧ Cond.selects y_Y_clash.cls y_Y_clash y_Y_clash ∈ zG) ∧ Cond.initialized y_Y_clash.cls ∈ zG ∧ zY y_Y_clash 1 := ⟨q_499, ⟨q_497, q_498⟩, q_151, by decide +kernel⟩
theorem w_Y_drift : Cond.code y_Y_drift b_Y_drift 6 (some .long) ∈ zG ∧ (Cond.instanceMethod y_Y_drift ∈ zG ∧ Cond.selects y_Y_drift.cls y_Y_drift y_Y_drift ∈ zG) ∧ Cond.initialized y_Y_drift.cls ∈ zG ∧ zY y_Y_drift 5 := ⟨q_504, ⟨q_502, q_503⟩, q_151, by decide +kernel⟩
theorem w_Y_chosen : Cond.code y_Y_chosen b_Y_chosen 4 (some .int) ∈ zG ∧ (Cond.instanceMethod y_Y_chosen ∈ zG ∧ Cond.selects y_Y_chosen.cls y_Y_chosen y_Y_chosen ∈ zG) ∧ Cond.initialized y_Y_chosen.cls ∈ zG ∧ zY y_Y_chosen 3 := ⟨q_511, ⟨q_509, q_510⟩, q_151, by decide +kernel⟩
theorem w_Y_ring : Cond.code y_Y_ring b_Y_ring 4 (some .int) ∈ zG ∧ (Cond.instanceMethod y_Y_ring ∈ zG ∧ Cond.selects y_Y_ring.cls y_Y_ring y_Y_ring ∈ zG) ∧ Cond.initialized y_Y_ring.cls ∈ zG ∧ zY y_Y_ring 2 := ⟨q_516, ⟨q_514, q_515⟩, q_151, by decide +kernel⟩
theorem w_Y_need : Cond.code y_Y_need b_Y_need 7 (some .int) ∈ zG ∧ (Cond.instanceMethod y_Y_need ∈ zG ∧ Cond.selects y_Y_need.cls y_Y_need y_Y_need ∈ zG) ∧ Cond.initialized y_Y_need.cls ∈ zG ∧ zY y_Y_need 4 := ⟨q_521, ⟨q_519, q_520⟩, q_151, by decide +kernel⟩
theorem w_Y_part : Cond.code y_Y_part b_Y_part 10 (some .int) ∈ zG ∧ (Cond.instanceMethod y_Y_part ∈ zG ∧ Cond.selects y_Y_part.cls y_Y_part y_Y_part ∈ zG) ∧ Cond.initialized y_Y_part.cls ∈ zG ∧ zY y_Y_part 5 := ⟨q_526, ⟨q_524, q_525⟩, q_151, by decide +kernel⟩
theorem w_Y_wage : Cond.code y_Y_wage b_Y_wage 10 (some .long) ∈ zG ∧ (Cond.instanceMethod y_Y_wage ∈ zG ∧ Cond.selects y_Y_wage.cls y_Y_wage y_Y_wage ∈ zG) ∧ Cond.initialized y_Y_wage.cls ∈ zG ∧ zY y_Y_wage 5 := ⟨q_529, ⟨q_527, q_528⟩, q_151, by decide +kernel⟩
theorem w_Y_dearest : Cond.code y_Y_dearest b_Y_dearest 6 (some .int) ∈ zG ∧ (Cond.instanceMethod y_Y_dearest ∈ zG ∧ Cond.selects y_Y_dearest.cls y_Y_dearest y_Y_dearest ∈ zG) ∧ Cond.initialized y_Y_dearest.cls ∈ zG ∧ zY y_Y_dearest 3 := ⟨q_537, ⟨q_535, q_536⟩, q_151, by decide +kernel⟩
theorem w_Y_turn : Cond.code y_Y_turn b_Y_turn 11 (some .int) ∈ zG ∧ (Cond.instanceMethod y_Y_turn ∈ zG ∧ Cond.selects y_Y_turn.cls y_Y_turn y_Y_turn ∈ zG) ∧ Cond.initialized y_Y_turn.cls ∈ zG ∧ zY y_Y_turn 8 := ⟨q_541, ⟨q_539, q_540⟩, q_151, by decide +kernel⟩
theorem d_Y_price_0 : decode b_Y_price 0 = .ok (.iload_n 1, 1) := by decide +kernel
theorem d_Y_price_1 : decode b_Y_price 1 = .ok (.invokestatic 75, 3) := by decide +kernel
theorem d_Y_price_4 : decode b_Y_price 4 = .ok (.ifCond .ne 10, 3) := by decide +kernel
theorem d_Y_price_7 : decode b_Y_price 7 = .ok (.iload_n 2, 1) := by decide +kernel
theorem d_Y_price_8 : decode b_Y_price 8 = .ok (.invokestatic 79, 3) := by decide +kernel
theorem d_Y_price_11 : decode b_Y_price 11 = .ok (.ifCond .eq 7, 3) := by decide +kernel
theorem d_Y_price_14 : decode b_Y_price 14 = .ok (.sipush (-1001), 3) := by decide +kernel
theorem d_Y_price_17 : decode b_Y_price 17 = .ok (.ireturn, 1) := by decide +kernel
theorem d_Y_price_18 : decode b_Y_price 18 = .ok (.iload_n 3, 1) := by decide +kernel
theorem d_Y_price_19 : decode b_Y_price 19 = .ok (.ifCond .lt 9, 3) := by decide +kernel
theorem d_Y_price_22 : decode b_Y_price 22 = .ok (.iload_n 3, 1) := by decide +kernel
theorem d_Y_price_23 : decode b_Y_price 23 = .ok (.bipush 99, 2) := by decide +kernel
theorem d_Y_price_25 : decode b_Y_price 25 = .ok (.if_icmp .le 7, 3) := by decide +kernel
theorem d_Y_price_28 : decode b_Y_price 28 = .ok (.sipush (-1002), 3) := by decide +kernel
theorem d_Y_price_31 : decode b_Y_price 31 = .ok (.ireturn, 1) := by decide +kernel
theorem d_Y_price_32 : decode b_Y_price 32 = .ok (.aload_n 0, 1) := by decide +kernel
theorem d_Y_price_33 : decode b_Y_price 33 = .ok (.getfield 10, 3) := by decide +kernel
theorem d_Y_price_36 : decode b_Y_price 36 = .ok (.iload_n 1, 1) := by decide +kernel
theorem d_Y_price_37 : decode b_Y_price 37 = .ok (.iload_n 2, 1) := by decide +kernel
theorem d_Y_price_38 : decode b_Y_price 38 = .ok (.invokevirtual 82, 3) := by decide +kernel
theorem d_Y_price_41 : decode b_Y_price 41 = .ok (.istore 4, 2) := by decide +kernel
theorem d_Y_price_43 : decode b_Y_price 43 = .ok (.aload_n 0, 1) := by decide +kernel
theorem d_Y_price_44 : decode b_Y_price 44 = .ok (.getfield 10, 3) := by decide +kernel
theorem d_Y_price_47 : decode b_Y_price 47 = .ok (.iload_n 1, 1) := by decide +kernel
theorem d_Y_price_48 : decode b_Y_price 48 = .ok (.iload_n 2, 1) := by decide +kernel
theorem d_Y_price_49 : decode b_Y_price 49 = .ok (.iload_n 3, 1) := by decide +kernel
theorem d_Y_price_50 : decode b_Y_price 50 = .ok (.invokevirtual 86, 3) := by decide +kernel
theorem d_Y_price_53 : decode b_Y_price 53 = .ok (.aload_n 0, 1) := by decide +kernel
theorem d_Y_price_54 : decode b_Y_price 54 = .ok (.getfield 45, 3) := by decide +kernel
theorem d_Y_price_57 : decode b_Y_price 57 = .ok (.invokevirtual 90, 3) := by decide +kernel
theorem d_Y_price_60 : decode b_Y_price 60 = .ok (.iload 4, 2) := by decide +kernel
theorem d_Y_price_62 : decode b_Y_price 62 = .ok (.ireturn, 1) := by decide +kernel
theorem d_Y_bought_0 : decode b_Y_bought 0 = .ok (.iload_n 1, 1) := by decide +kernel
theorem d_Y_bought_1 : decode b_Y_bought 1 = .ok (.invokestatic 93, 3) := by decide +kernel
theorem d_Y_bought_4 : decode b_Y_bought 4 = .ok (.ifCond .ne 17, 3) := by decide +kernel
theorem d_Y_bought_7 : decode b_Y_bought 7 = .ok (.iload_n 2, 1) := by decide +kernel
theorem d_Y_bought_8 : decode b_Y_bought 8 = .ok (.invokestatic 75, 3) := by decide +kernel
theorem d_Y_bought_11 : decode b_Y_bought 11 = .ok (.ifCond .ne 10, 3) := by decide +kernel
theorem d_Y_bought_14 : decode b_Y_bought 14 = .ok (.iload_n 3, 1) := by decide +kernel
theorem d_Y_bought_15 : decode b_Y_bought 15 = .ok (.invokestatic 79, 3) := by decide +kernel
theorem d_Y_bought_18 : decode b_Y_bought 18 = .ok (.ifCond .eq 7, 3) := by decide +kernel
theorem d_Y_bought_21 : decode b_Y_bought 21 = .ok (.sipush (-1001), 3) := by decide +kernel
theorem d_Y_bought_24 : decode b_Y_bought 24 = .ok (.ireturn, 1) := by decide +kernel
theorem d_Y_bought_25 : decode b_Y_bought 25 = .ok (.iload 4, 2) := by decide +kernel
theorem d_Y_bought_27 : decode b_Y_bought 27 = .ok (.ifCond .lt 10, 3) := by decide +kernel
theorem d_Y_bought_30 : decode b_Y_bought 30 = .ok (.iload 4, 2) := by decide +kernel
theorem d_Y_bought_32 : decode b_Y_bought 32 = .ok (.bipush 9, 2) := by decide +kernel
theorem d_Y_bought_34 : decode b_Y_bought 34 = .ok (.if_icmp .le 7, 3) := by decide +kernel
theorem d_Y_bought_37 : decode b_Y_bought 37 = .ok (.sipush (-1002), 3) := by decide +kernel
theorem d_Y_bought_40 : decode b_Y_bought 40 = .ok (.ireturn, 1) := by decide +kernel
theorem d_Y_bought_41 : decode b_Y_bought 41 = .ok (.aload_n 0, 1) := by decide +kernel
theorem d_Y_bought_42 : decode b_Y_bought 42 = .ok (.getfield 10, 3) := by decide +kernel
theorem d_Y_bought_45 : decode b_Y_bought 45 = .ok (.iload_n 1, 1) := by decide +kernel
theorem d_Y_bought_46 : decode b_Y_bought 46 = .ok (.iload_n 2, 1) := by decide +kernel
theorem d_Y_bought_47 : decode b_Y_bought 47 = .ok (.iload_n 3, 1) := by decide +kernel
theorem d_Y_bought_48 : decode b_Y_bought 48 = .ok (.invokevirtual 96, 3) := by decide +kernel
theorem d_Y_bought_51 : decode b_Y_bought 51 = .ok (.istore 5, 2) := by decide +kernel
theorem d_Y_bought_53 : decode b_Y_bought 53 = .ok (.aload_n 0, 1) := by decide +kernel
theorem d_Y_bought_54 : decode b_Y_bought 54 = .ok (.getfield 10, 3) := by decide +kernel
theorem d_Y_bought_57 : decode b_Y_bought 57 = .ok (.iload_n 1, 1) := by decide +kernel
theorem d_Y_bought_58 : decode b_Y_bought 58 = .ok (.iload_n 2, 1) := by decide +kernel
theorem d_Y_bought_59 : decode b_Y_bought 59 = .ok (.iload_n 3, 1) := by decide +kernel
theorem d_Y_bought_60 : decode b_Y_bought 60 = .ok (.iload 4, 2) := by decide +kernel
theorem d_Y_bought_62 : decode b_Y_bought 62 = .ok (.invokevirtual 100, 3) := by decide +kernel
theorem d_Y_bought_65 : decode b_Y_bought 65 = .ok (.aload_n 0, 1) := by decide +kernel
theorem d_Y_bought_66 : decode b_Y_bought 66 = .ok (.getfield 10, 3) := by decide +kernel
theorem d_Y_bought_69 : decode b_Y_bought 69 = .ok (.iconst 3, 1) := by decide +kernel
theorem d_Y_bought_70 : decode b_Y_bought 70 = .ok (.iload_n 2, 1) := by decide +kernel
theorem d_Y_bought_71 : decode b_Y_bought 71 = .ok (.iload_n 3, 1) := by decide +kernel
theorem d_Y_bought_72 : decode b_Y_bought 72 = .ok (.aload_n 0, 1) := by decide +kernel
theorem d_Y_bought_73 : decode b_Y_bought 73 = .ok (.getfield 10, 3) := by decide +kernel
theorem d_Y_bought_76 : decode b_Y_bought 76 = .ok (.iconst 3, 1) := by decide +kernel
theorem d_Y_bought_77 : decode b_Y_bought 77 = .ok (.iload_n 2, 1) := by decide +kernel
theorem d_Y_bought_78 : decode b_Y_bought 78 = .ok (.iload_n 3, 1) := by decide +kernel
theorem d_Y_bought_79 : decode b_Y_bought 79 = .ok (.invokevirtual 96, 3) := by decide +kernel
theorem d_Y_bought_82 : decode b_Y_bought 82 = .ok (.iload 5, 2) := by decide +kernel
theorem d_Y_bought_84 : decode b_Y_bought 84 = .ok (.isub, 1) := by decide +kernel
theorem d_Y_bought_85 : decode b_Y_bought 85 = .ok (.iload 4, 2) := by decide +kernel
theorem d_Y_bought_87 : decode b_Y_bought 87 = .ok (.iadd, 1) := by decide +kernel
theorem d_Y_bought_88 : decode b_Y_bought 88 = .ok (.invokevirtual 100, 3) := by decide +kernel
theorem d_Y_bought_91 : decode b_Y_bought 91 = .ok (.aload_n 0, 1) := by decide +kernel
theorem d_Y_bought_92 : decode b_Y_bought 92 = .ok (.getfield 45, 3) := by decide +kernel
theorem d_Y_bought_95 : decode b_Y_bought 95 = .ok (.invokevirtual 90, 3) := by decide +kernel
theorem d_Y_bought_98 : decode b_Y_bought 98 = .ok (.iload 5, 2) := by decide +kernel
theorem d_Y_bought_100 : decode b_Y_bought 100 = .ok (.ireturn, 1) := by decide +kernel
theorem d_Y_cost_0 : decode b_Y_cost 0 = .ok (.iload_n 1, 1) := by decide +kernel
theorem d_Y_cost_1 : decode b_Y_cost 1 = .ok (.invokestatic 104, 3) := by decide +kernel
theorem d_Y_cost_4 : decode b_Y_cost 4 = .ok (.ifCond .ne 17, 3) := by decide +kernel
theorem d_Y_cost_7 : decode b_Y_cost 7 = .ok (.iload_n 2, 1) := by decide +kernel
theorem d_Y_cost_8 : decode b_Y_cost 8 = .ok (.invokestatic 75, 3) := by decide +kernel
theorem d_Y_cost_11 : decode b_Y_cost 11 = .ok (.ifCond .ne 10, 3) := by decide +kernel
theorem d_Y_cost_14 : decode b_Y_cost 14 = .ok (.iload_n 3, 1) := by decide +kernel
theorem d_Y_cost_15 : decode b_Y_cost 15 = .ok (.invokestatic 75, 3) := by decide +kernel
theorem d_Y_cost_18 : decode b_Y_cost 18 = .ok (.ifCond .eq 7, 3) := by decide +kernel
theorem d_Y_cost_21 : decode b_Y_cost 21 = .ok (.sipush (-1001), 3) := by decide +kernel
theorem d_Y_cost_24 : decode b_Y_cost 24 = .ok (.ireturn, 1) := by decide +kernel
theorem d_Y_cost_25 : decode b_Y_cost 25 = .ok (.aload_n 0, 1) := by decide +kernel
theorem d_Y_cost_26 : decode b_Y_cost 26 = .ok (.getfield 10, 3) := by decide +kernel
theorem d_Y_cost_29 : decode b_Y_cost 29 = .ok (.bipush 31, 2) := by decide +kernel
theorem d_Y_cost_31 : decode b_Y_cost 31 = .ok (.iload_n 1, 1) := by decide +kernel
theorem d_Y_cost_32 : decode b_Y_cost 32 = .ok (.iload_n 2, 1) := by decide +kernel
theorem d_Y_cost_33 : decode b_Y_cost 33 = .ok (.iload_n 3, 1) := by decide +kernel
theorem d_Y_cost_34 : decode b_Y_cost 34 = .ok (.invokevirtual 107, 3) := by decide +kernel
theorem d_Y_cost_37 : decode b_Y_cost 37 = .ok (.istore 4, 2) := by decide +kernel
theorem d_Y_cost_39 : decode b_Y_cost 39 = .ok (.iload 4, 2) := by decide +kernel
theorem d_Y_cost_41 : decode b_Y_cost 41 = .ok (.iconst (-1), 1) := by decide +kernel
theorem d_Y_cost_42 : decode b_Y_cost 42 = .ok (.if_icmp .ne 9, 3) := by decide +kernel
theorem d_Y_cost_45 : decode b_Y_cost 45 = .ok (.sipush (-1003), 3) := by decide +kernel
theorem d_Y_cost_48 : decode b_Y_cost 48 = .ok (.goto 5, 3) := by decide +kernel
theorem d_Y_cost_51 : decode b_Y_cost 51 = .ok (.iload 4, 2) := by decide +kernel
theorem d_Y_cost_53 : decode b_Y_cost 53 = .ok (.ireturn, 1) := by decide +kernel
theorem d_Y_goods_0 : decode b_Y_goods 0 = .ok (.iload_n 1, 1) := by decide +kernel
theorem d_Y_goods_1 : decode b_Y_goods 1 = .ok (.invokestatic 75, 3) := by decide +kernel
theorem d_Y_goods_4 : decode b_Y_goods 4 = .ok (.ifCond .ne 10, 3) := by decide +kernel
theorem d_Y_goods_7 : decode b_Y_goods 7 = .ok (.iload_n 2, 1) := by decide +kernel
theorem d_Y_goods_8 : decode b_Y_goods 8 = .ok (.invokestatic 75, 3) := by decide +kernel
theorem d_Y_goods_11 : decode b_Y_goods 11 = .ok (.ifCond .eq 7, 3) := by decide +kernel
theorem d_Y_goods_14 : decode b_Y_goods 14 = .ok (.sipush (-1001), 3) := by decide +kernel
theorem d_Y_goods_17 : decode b_Y_goods 17 = .ok (.ireturn, 1) := by decide +kernel
theorem d_Y_goods_18 : decode b_Y_goods 18 = .ok (.iload_n 3, 1) := by decide +kernel
theorem d_Y_goods_19 : decode b_Y_goods 19 = .ok (.ifCond .lt 8, 3) := by decide +kernel
theorem d_Y_goods_22 : decode b_Y_goods 22 = .ok (.iload_n 3, 1) := by decide +kernel
theorem d_Y_goods_23 : decode b_Y_goods 23 = .ok (.iconst 2, 1) := by decide +kernel
theorem d_Y_goods_24 : decode b_Y_goods 24 = .ok (.if_icmp .le 7, 3) := by decide +kernel
theorem d_Y_goods_27 : decode b_Y_goods 27 = .ok (.sipush (-1002), 3) := by decide +kernel
theorem d_Y_goods_30 : decode b_Y_goods 30 = .ok (.ireturn, 1) := by decide +kernel
theorem d_Y_goods_31 : decode b_Y_goods 31 = .ok (.iload_n 3, 1) := by decide +kernel
theorem d_Y_goods_32 : decode b_Y_goods 32 = .ok (.iconst 2, 1) := by decide +kernel
theorem d_Y_goods_33 : decode b_Y_goods 33 = .ok (.if_icmp .ne 11, 3) := by decide +kernel
theorem d_Y_goods_36 : decode b_Y_goods 36 = .ok (.aload_n 0, 1) := by decide +kernel
theorem d_Y_goods_37 : decode b_Y_goods 37 = .ok (.getfield 10, 3) := by decide +kernel
theorem d_Y_goods_40 : decode b_Y_goods 40 = .ok (.invokevirtual 111, 3) := by decide +kernel
theorem d_Y_goods_43 : decode b_Y_goods 43 = .ok (.ireturn, 1) := by decide +kernel
theorem d_Y_goods_44 : decode b_Y_goods 44 = .ok (.aload_n 0, 1) := by decide +kernel
theorem d_Y_goods_45 : decode b_Y_goods 45 = .ok (.getfield 10, 3) := by decide +kernel
theorem d_Y_goods_48 : decode b_Y_goods 48 = .ok (.iload_n 1, 1) := by decide +kernel
theorem d_Y_goods_49 : decode b_Y_goods 49 = .ok (.invokevirtual 115, 3) := by decide +kernel
theorem d_Y_goods_52 : decode b_Y_goods 52 = .ok (.istore 4, 2) := by decide +kernel
theorem d_Y_goods_54 : decode b_Y_goods 54 = .ok (.aload_n 0, 1) := by decide +kernel
theorem d_Y_goods_55 : decode b_Y_goods 55 = .ok (.getfield 10, 3) := by decide +kernel
theorem d_Y_goods_58 : decode b_Y_goods 58 = .ok (.iload_n 2, 1) := by decide +kernel
theorem d_Y_goods_59 : decode b_Y_goods 59 = .ok (.invokevirtual 115, 3) := by decide +kernel
theorem d_Y_goods_62 : decode b_Y_goods 62 = .ok (.istore 5, 2) := by decide +kernel
theorem d_Y_goods_64 : decode b_Y_goods 64 = .ok (.iload_n 3, 1) := by decide +kernel
theorem d_Y_goods_65 : decode b_Y_goods 65 = .ok (.ifCond .ne 13, 3) := by decide +kernel
theorem d_Y_goods_68 : decode b_Y_goods 68 = .ok (.iload 5, 2) := by decide +kernel
theorem d_Y_goods_70 : decode b_Y_goods 70 = .ok (.iload 4, 2) := by decide +kernel
theorem d_Y_goods_72 : decode b_Y_goods 72 = .ok (.iconst (-1), 1) := by decide +kernel
theorem d_Y_goods_73 : decode b_Y_goods 73 = .ok (.ixor, 1) := by decide +kernel
theorem d_Y_goods_74 : decode b_Y_goods 74 = .ok (.iand, 1) := by decide +kernel
theorem d_Y_goods_75 : decode b_Y_goods 75 = .ok (.goto 10, 3) := by decide +kernel
theorem d_Y_goods_78 : decode b_Y_goods 78 = .ok (.iload 4, 2) := by decide +kernel
theorem d_Y_goods_80 : decode b_Y_goods 80 = .ok (.iload 5, 2) := by decide +kernel
theorem d_Y_goods_82 : decode b_Y_goods 82 = .ok (.iconst (-1), 1) := by decide +kernel
theorem d_Y_goods_83 : decode b_Y_goods 83 = .ok (.ixor, 1) := by decide +kernel
theorem d_Y_goods_84 : decode b_Y_goods 84 = .ok (.iand, 1) := by decide +kernel
theorem d_Y_goods_85 : decode b_Y_goods 85 = .ok (.ireturn, 1) := by decide +kernel
theorem d_Y_count_0 : decode b_Y_count 0 = .ok (.iload_n 1, 1) := by decide +kernel
theorem d_Y_count_1 : decode b_Y_count 1 = .ok (.tableswitch 75 0 4 #[35, 40, 48, 56, 67], 35) := by decide +kernel
theorem d_Y_count_36 : decode b_Y_count 36 = .ok (.aload_n 0, 1) := by decide +kernel
theorem d_Y_count_37 : decode b_Y_count 37 = .ok (.getfield 68, 3) := by decide +kernel
theorem d_Y_count_40 : decode b_Y_count 40 = .ok (.ireturn, 1) := by decide +kernel
theorem d_Y_count_41 : decode b_Y_count 41 = .ok (.aload_n 0, 1) := by decide +kernel
theorem d_Y_count_42 : decode b_Y_count 42 = .ok (.getfield 29, 3) := by decide +kernel
theorem d_Y_count_45 : decode b_Y_count 45 = .ok (.getfield 119, 3) := by decide +kernel
theorem d_Y_count_48 : decode b_Y_count 48 = .ok (.ireturn, 1) := by decide +kernel
theorem d_Y_count_49 : decode b_Y_count 49 = .ok (.aload_n 0, 1) := by decide +kernel
theorem d_Y_count_50 : decode b_Y_count 50 = .ok (.getfield 10, 3) := by decide +kernel
theorem d_Y_count_53 : decode b_Y_count 53 = .ok (.invokevirtual 122, 3) := by decide +kernel
theorem d_Y_count_56 : decode b_Y_count 56 = .ok (.ireturn, 1) := by decide +kernel
theorem d_Y_count_57 : decode b_Y_count 57 = .ok (.aload_n 0, 1) := by decide +kernel
theorem d_Y_count_58 : decode b_Y_count 58 = .ok (.getfield 10, 3) := by decide +kernel
theorem d_Y_count_61 : decode b_Y_count 61 = .ok (.invokevirtual 111, 3) := by decide +kernel
theorem d_Y_count_64 : decode b_Y_count 64 = .ok (.invokestatic 125, 3) := by decide +kernel
theorem d_Y_count_67 : decode b_Y_count 67 = .ok (.ireturn, 1) := by decide +kernel
theorem d_Y_count_68 : decode b_Y_count 68 = .ok (.aload_n 0, 1) := by decide +kernel
theorem d_Y_count_69 : decode b_Y_count 69 = .ok (.getfield 10, 3) := by decide +kernel
theorem d_Y_count_72 : decode b_Y_count 72 = .ok (.invokevirtual 130, 3) := by decide +kernel
theorem d_Y_count_75 : decode b_Y_count 75 = .ok (.ireturn, 1) := by decide +kernel
theorem d_Y_count_76 : decode b_Y_count 76 = .ok (.sipush (-1002), 3) := by decide +kernel
theorem d_Y_count_79 : decode b_Y_count 79 = .ok (.ireturn, 1) := by decide +kernel
theorem d_Y_feed_0 : decode b_Y_feed 0 = .ok (.iload_n 1, 1) := by decide +kernel
theorem d_Y_feed_1 : decode b_Y_feed 1 = .ok (.iconst 1, 1) := by decide +kernel
theorem d_Y_feed_2 : decode b_Y_feed 2 = .ok (.if_icmp .lt 9, 3) := by decide +kernel
theorem d_Y_feed_5 : decode b_Y_feed 5 = .ok (.iload_n 1, 1) := by decide +kernel
theorem d_Y_feed_6 : decode b_Y_feed 6 = .ok (.bipush 8, 2) := by decide +kernel
theorem d_Y_feed_8 : decode b_Y_feed 8 = .ok (.if_icmp .le 7, 3) := by decide +kernel
theorem d_Y_feed_11 : decode b_Y_feed 11 = .ok (.sipush (-1002), 3) := by decide +kernel
theorem d_Y_feed_14 : decode b_Y_feed 14 = .ok (.ireturn, 1) := by decide +kernel
theorem d_Y_feed_15 : decode b_Y_feed 15 = .ok (.aload_n 0, 1) := by decide +kernel
theorem d_Y_feed_16 : decode b_Y_feed 16 = .ok (.getfield 29, 3) := by decide +kernel
theorem d_Y_feed_19 : decode b_Y_feed 19 = .ok (.getfield 119, 3) := by decide +kernel
theorem d_Y_feed_22 : decode b_Y_feed 22 = .ok (.iload_n 1, 1) := by decide +kernel
theorem d_Y_feed_23 : decode b_Y_feed 23 = .ok (.iadd, 1) := by decide +kernel
theorem d_Y_feed_24 : decode b_Y_feed 24 = .ok (.bipush 60, 2) := by decide +kernel
theorem d_Y_feed_26 : decode b_Y_feed 26 = .ok (.if_icmp .le 7, 3) := by decide +kernel
theorem d_Y_feed_29 : decode b_Y_feed 29 = .ok (.sipush (-1004), 3) := by decide +kernel
theorem d_Y_feed_32 : decode b_Y_feed 32 = .ok (.ireturn, 1) := by decide +kernel
theorem d_Y_feed_33 : decode b_Y_feed 33 = .ok (.iload_n 1, 1) := by decide +kernel
theorem d_Y_feed_34 : decode b_Y_feed 34 = .ok (.iconst 1, 1) := by decide +kernel
theorem d_Y_feed_35 : decode b_Y_feed 35 = .ok (.isub, 1) := by decide +kernel
theorem d_Y_feed_36 : decode b_Y_feed 36 = .ok (.istore 4, 2) := by decide +kernel
theorem d_Y_feed_38 : decode b_Y_feed 38 = .ok (.iload 4, 2) := by decide +kernel
theorem d_Y_feed_40 : decode b_Y_feed 40 = .ok (.ifCond .lt 28, 3) := by decide +kernel
theorem d_Y_feed_43 : decode b_Y_feed 43 = .ok (.aload_n 0, 1) := by decide +kernel
theorem d_Y_feed_44 : decode b_Y_feed 44 = .ok (.getfield 29, 3) := by decide +kernel
theorem d_Y_feed_47 : decode b_Y_feed 47 = .ok (.lload_n 2, 1) := by decide +kernel
theorem d_Y_feed_48 : decode b_Y_feed 48 = .ok (.bipush 8, 2) := by decide +kernel
theorem d_Y_feed_50 : decode b_Y_feed 50 = .ok (.iload 4, 2) := by decide +kernel
theorem d_Y_feed_52 : decode b_Y_feed 52 = .ok (.imul, 1) := by decide +kernel
theorem d_Y_feed_53 : decode b_Y_feed 53 = .ok (.lushr, 1) := by decide +kernel
theorem d_Y_feed_54 : decode b_Y_feed 54 = .ok (.l2i, 1) := by decide +kernel
theorem d_Y_feed_55 : decode b_Y_feed 55 = .ok (.sipush 255, 3) := by decide +kernel
theorem d_Y_feed_58 : decode b_Y_feed 58 = .ok (.iand, 1) := by decide +kernel
theorem d_Y_feed_59 : decode b_Y_feed 59 = .ok (.invokevirtual 133, 3) := by decide +kernel
theorem d_Y_feed_62 : decode b_Y_feed 62 = .ok (.iinc 4 (-1), 3) := by decide +kernel
theorem d_Y_feed_65 : decode b_Y_feed 65 = .ok (.goto (-27), 3) := by decide +kernel
theorem d_Y_feed_68 : decode b_Y_feed 68 = .ok (.aload_n 0, 1) := by decide +kernel
theorem d_Y_feed_69 : decode b_Y_feed 69 = .ok (.getfield 29, 3) := by decide +kernel
theorem d_Y_feed_72 : decode b_Y_feed 72 = .ok (.getfield 119, 3) := by decide +kernel
theorem d_Y_feed_75 : decode b_Y_feed 75 = .ok (.ireturn, 1) := by decide +kernel
theorem d_Y_number_0 : decode b_Y_number 0 = .ok (.aload_n 0, 1) := by decide +kernel
theorem d_Y_number_1 : decode b_Y_number 1 = .ok (.getfield 68, 3) := by decide +kernel
theorem d_Y_number_4 : decode b_Y_number 4 = .ok (.bipush 8, 2) := by decide +kernel
theorem d_Y_number_6 : decode b_Y_number 6 = .ok (.if_icmp .ge 15, 3) := by decide +kernel
theorem d_Y_number_9 : decode b_Y_number 9 = .ok (.aload_n 0, 1) := by decide +kernel
theorem d_Y_number_10 : decode b_Y_number 10 = .ok (.getfield 21, 3) := by decide +kernel
theorem d_Y_number_13 : decode b_Y_number 13 = .ok (.aload_n 0, 1) := by decide +kernel
theorem d_Y_number_14 : decode b_Y_number 14 = .ok (.getfield 68, 3) := by decide +kernel
theorem d_Y_number_17 : decode b_Y_number 17 = .ok (.aaload, 1) := by decide +kernel
theorem d_Y_number_18 : decode b_Y_number 18 = .ok (.goto 4, 3) := by decide +kernel
theorem d_Y_number_21 : decode b_Y_number 21 = .ok (.aconst_null, 1) := by decide +kernel
theorem d_Y_number_22 : decode b_Y_number 22 = .ok (.astore_n 1, 1) := by decide +kernel
theorem d_Y_number_23 : decode b_Y_number 23 = .ok (.aload_n 1, 1) := by decide +kernel
theorem d_Y_number_24 : decode b_Y_number 24 = .ok (.ifnonnull 7, 3) := by decide +kernel
theorem d_Y_number_27 : decode b_Y_number 27 = .ok (.sipush (-1004), 3) := by decide +kernel
theorem d_Y_number_30 : decode b_Y_number 30 = .ok (.ireturn, 1) := by decide +kernel
theorem d_Y_number_31 : decode b_Y_number 31 = .ok (.aload_n 0, 1) := by decide +kernel
theorem d_Y_number_32 : decode b_Y_number 32 = .ok (.getfield 29, 3) := by decide +kernel
theorem d_Y_number_35 : decode b_Y_number 35 = .ok (.aload_n 1, 1) := by decide +kernel
theorem d_Y_number_36 : decode b_Y_number 36 = .ok (.invokevirtual 137, 3) := by decide +kernel
theorem d_Y_number_39 : decode b_Y_number 39 = .ok (.aload_n 0, 1) := by decide +kernel
theorem d_Y_number_40 : decode b_Y_number 40 = .ok (.getfield 29, 3) := by decide +kernel
theorem d_Y_number_43 : decode b_Y_number 43 = .ok (.iconst 0, 1) := by decide +kernel
theorem d_Y_number_44 : decode b_Y_number 44 = .ok (.putfield 119, 3) := by decide +kernel
theorem d_Y_number_47 : decode b_Y_number 47 = .ok (.aload_n 0, 1) := by decide +kernel
theorem d_Y_number_48 : decode b_Y_number 48 = .ok (.getfield 29, 3) := by decide +kernel
theorem d_Y_number_51 : decode b_Y_number 51 = .ok (.getfield 141, 3) := by decide +kernel
theorem d_Y_number_54 : decode b_Y_number 54 = .ok (.ifCond .eq 25, 3) := by decide +kernel
theorem d_Y_number_57 : decode b_Y_number 57 = .ok (.aload_n 0, 1) := by decide +kernel
theorem d_Y_number_58 : decode b_Y_number 58 = .ok (.aload_n 0, 1) := by decide +kernel
theorem d_Y_number_59 : decode b_Y_number 59 = .ok (.getfield 29, 3) := by decide +kernel
theorem d_Y_number_62 : decode b_Y_number 62 = .ok (.getfield 144, 3) := by decide +kernel
theorem d_Y_number_65 : decode b_Y_number 65 = .ok (.putfield 72, 3) := by decide +kernel
theorem d_Y_number_68 : decode b_Y_number 68 = .ok (.bipush (-10), 2) := by decide +kernel
theorem d_Y_number_70 : decode b_Y_number 70 = .ok (.aload_n 0, 1) := by decide +kernel
theorem d_Y_number_71 : decode b_Y_number 71 = .ok (.getfield 29, 3) := by decide +kernel
theorem d_Y_number_74 : decode b_Y_number 74 = .ok (.getfield 141, 3) := by decide +kernel
theorem d_Y_number_77 : decode b_Y_number 77 = .ok (.isub, 1) := by decide +kernel
theorem d_Y_number_78 : decode b_Y_number 78 = .ok (.ireturn, 1) := by decide +kernel
theorem d_Y_number_79 : decode b_Y_number 79 = .ok (.aload_n 0, 1) := by decide +kernel
theorem d_Y_number_80 : decode b_Y_number 80 = .ok (.iconst (-1), 1) := by decide +kernel
theorem d_Y_number_81 : decode b_Y_number 81 = .ok (.putfield 72, 3) := by decide +kernel
theorem d_Y_number_84 : decode b_Y_number 84 = .ok (.aload_n 0, 1) := by decide +kernel
theorem d_Y_number_85 : decode b_Y_number 85 = .ok (.dup, 1) := by decide +kernel
theorem d_Y_number_86 : decode b_Y_number 86 = .ok (.getfield 68, 3) := by decide +kernel
theorem d_Y_number_89 : decode b_Y_number 89 = .ok (.iconst 1, 1) := by decide +kernel
theorem d_Y_number_90 : decode b_Y_number 90 = .ok (.iadd, 1) := by decide +kernel
theorem d_Y_number_91 : decode b_Y_number 91 = .ok (.putfield 68, 3) := by decide +kernel
theorem d_Y_number_94 : decode b_Y_number 94 = .ok (.aload_n 0, 1) := by decide +kernel
theorem d_Y_number_95 : decode b_Y_number 95 = .ok (.getfield 68, 3) := by decide +kernel
theorem d_Y_number_98 : decode b_Y_number 98 = .ok (.iconst 1, 1) := by decide +kernel
theorem d_Y_number_99 : decode b_Y_number 99 = .ok (.isub, 1) := by decide +kernel
theorem d_Y_number_100 : decode b_Y_number 100 = .ok (.ireturn, 1) := by decide +kernel
theorem d_Y_fault_0 : decode b_Y_fault 0 = .ok (.aload_n 0, 1) := by decide +kernel
theorem d_Y_fault_1 : decode b_Y_fault 1 = .ok (.getfield 72, 3) := by decide +kernel
theorem d_Y_fault_4 : decode b_Y_fault 4 = .ok (.ireturn, 1) := by decide +kernel
theorem d_Y_isNoNumber_0 : decode b_Y_isNoNumber 0 = .ok (.iload_n 1, 1) := by decide +kernel
theorem d_Y_isNoNumber_1 : decode b_Y_isNoNumber 1 = .ok (.ifCond .lt 11, 3) := by decide +kernel
theorem d_Y_isNoNumber_4 : decode b_Y_isNoNumber 4 = .ok (.iload_n 1, 1) := by decide +kernel
theorem d_Y_isNoNumber_5 : decode b_Y_isNoNumber 5 = .ok (.aload_n 0, 1) := by decide +kernel
theorem d_Y_isNoNumber_6 : decode b_Y_isNoNumber 6 = .ok (.getfield 68, 3) := by decide +kernel
theorem d_Y_isNoNumber_9 : decode b_Y_isNoNumber 9 = .ok (.if_icmp .lt 7, 3) := by decide +kernel
theorem d_Y_isNoNumber_12 : decode b_Y_isNoNumber 12 = .ok (.iconst 1, 1) := by decide +kernel
theorem d_Y_isNoNumber_13 : decode b_Y_isNoNumber 13 = .ok (.goto 4, 3) := by decide +kernel
theorem d_Y_isNoNumber_16 : decode b_Y_isNoNumber 16 = .ok (.iconst 0, 1) := by decide +kernel
theorem d_Y_isNoNumber_17 : decode b_Y_isNoNumber 17 = .ok (.ireturn, 1) := by decide +kernel
theorem d_Y_planOf_0 : decode b_Y_planOf 0 = .ok (.iload_n 1, 1) := by decide +kernel
theorem d_Y_planOf_1 : decode b_Y_planOf 1 = .ok (.ifCond .lt 17, 3) := by decide +kernel
theorem d_Y_planOf_4 : decode b_Y_planOf 4 = .ok (.iload_n 1, 1) := by decide +kernel
theorem d_Y_planOf_5 : decode b_Y_planOf 5 = .ok (.aload_n 0, 1) := by decide +kernel
theorem d_Y_planOf_6 : decode b_Y_planOf 6 = .ok (.getfield 68, 3) := by decide +kernel
theorem d_Y_planOf_9 : decode b_Y_planOf 9 = .ok (.if_icmp .ge 9, 3) := by decide +kernel
theorem d_Y_planOf_12 : decode b_Y_planOf 12 = .ok (.iload_n 1, 1) := by decide +kernel
theorem d_Y_planOf_13 : decode b_Y_planOf 13 = .ok (.bipush 8, 2) := by decide +kernel
theorem d_Y_planOf_15 : decode b_Y_planOf 15 = .ok (.if_icmp .lt 7, 3) := by decide +kernel
theorem d_Y_planOf_18 : decode b_Y_planOf 18 = .ok (.aconst_null, 1) := by decide +kernel
theorem d_Y_planOf_19 : decode b_Y_planOf 19 = .ok (.goto 9, 3) := by decide +kernel
theorem d_Y_planOf_22 : decode b_Y_planOf 22 = .ok (.aload_n 0, 1) := by decide +kernel
theorem d_Y_planOf_23 : decode b_Y_planOf 23 = .ok (.getfield 21, 3) := by decide +kernel
theorem d_Y_planOf_26 : decode b_Y_planOf 26 = .ok (.iload_n 1, 1) := by decide +kernel
theorem d_Y_planOf_27 : decode b_Y_planOf 27 = .ok (.aaload, 1) := by decide +kernel
theorem d_Y_planOf_28 : decode b_Y_planOf 28 = .ok (.areturn, 1) := by decide +kernel
theorem d_Y_worth_0 : decode b_Y_worth 0 = .ok (.aload_n 0, 1) := by decide +kernel
theorem d_Y_worth_1 : decode b_Y_worth 1 = .ok (.iload_n 1, 1) := by decide +kernel
theorem d_Y_worth_2 : decode b_Y_worth 2 = .ok (.invokevirtual 147, 3) := by decide +kernel
theorem d_Y_worth_5 : decode b_Y_worth 5 = .ok (.ifCond .ne 25, 3) := by decide +kernel
theorem d_Y_worth_8 : decode b_Y_worth 8 = .ok (.iload_n 2, 1) := by decide +kernel
theorem d_Y_worth_9 : decode b_Y_worth 9 = .ok (.invokestatic 104, 3) := by decide +kernel
theorem d_Y_worth_12 : decode b_Y_worth 12 = .ok (.ifCond .ne 18, 3) := by decide +kernel
theorem d_Y_worth_15 : decode b_Y_worth 15 = .ok (.iload_n 3, 1) := by decide +kernel
theorem d_Y_worth_16 : decode b_Y_worth 16 = .ok (.invokestatic 75, 3) := by decide +kernel
theorem d_Y_worth_19 : decode b_Y_worth 19 = .ok (.ifCond .ne 11, 3) := by decide +kernel
theorem d_Y_worth_22 : decode b_Y_worth 22 = .ok (.iload 4, 2) := by decide +kernel
theorem d_Y_worth_24 : decode b_Y_worth 24 = .ok (.invokestatic 75, 3) := by decide +kernel
theorem d_Y_worth_27 : decode b_Y_worth 27 = .ok (.ifCond .eq 7, 3) := by decide +kernel
theorem d_Y_worth_30 : decode b_Y_worth 30 = .ok (.ldc2_w 150, 3) := by decide +kernel
theorem d_Y_worth_33 : decode b_Y_worth 33 = .ok (.lreturn, 1) := by decide +kernel
theorem d_Y_worth_34 : decode b_Y_worth 34 = .ok (.iload 5, 2) := by decide +kernel
theorem d_Y_worth_36 : decode b_Y_worth 36 = .ok (.ifCond .lt 9, 3) := by decide +kernel
theorem d_Y_worth_39 : decode b_Y_worth 39 = .ok (.iload 5, 2) := by decide +kernel
theorem d_Y_worth_41 : decode b_Y_worth 41 = .ok (.iconst 2, 1) := by decide +kernel
theorem d_Y_worth_42 : decode b_Y_worth 42 = .ok (.if_icmp .le 7, 3) := by decide +kernel
theorem d_Y_worth_45 : decode b_Y_worth 45 = .ok (.ldc2_w 152, 3) := by decide +kernel
theorem d_Y_worth_48 : decode b_Y_worth 48 = .ok (.lreturn, 1) := by decide +kernel
theorem d_Y_worth_49 : decode b_Y_worth 49 = .ok (.aload_n 0, 1) := by decide +kernel
theorem d_Y_worth_50 : decode b_Y_worth 50 = .ok (.getfield 36, 3) := by decide +kernel
theorem d_Y_worth_53 : decode b_Y_worth 53 = .ok (.aload_n 0, 1) := by decide +kernel
theorem d_Y_worth_54 : decode b_Y_worth 54 = .ok (.iload_n 1, 1) := by decide +kernel
theorem d_Y_worth_55 : decode b_Y_worth 55 = .ok (.invokevirtual 154, 3) := by decide +kernel
theorem d_Y_worth_58 : decode b_Y_worth 58 = .ok (.aload_n 0, 1) := by decide +kernel
theorem d_Y_worth_59 : decode b_Y_worth 59 = .ok (.getfield 10, 3) := by decide +kernel
theorem d_Y_worth_62 : decode b_Y_worth 62 = .ok (.iload_n 2, 1) := by decide +kernel
theorem d_Y_worth_63 : decode b_Y_worth 63 = .ok (.iload_n 3, 1) := by decide +kernel
theorem d_Y_worth_64 : decode b_Y_worth 64 = .ok (.iload 4, 2) := by decide +kernel
theorem d_Y_worth_66 : decode b_Y_worth 66 = .ok (.aload_n 0, 1) := by decide +kernel
theorem d_Y_worth_67 : decode b_Y_worth 67 = .ok (.getfield 61, 3) := by decide +kernel
theorem d_Y_worth_70 : decode b_Y_worth 70 = .ok (.invokevirtual 158, 3) := by decide +kernel
theorem d_Y_worth_73 : decode b_Y_worth 73 = .ok (.aload_n 0, 1) := by decide +kernel
theorem d_Y_worth_74 : decode b_Y_worth 74 = .ok (.getfield 61, 3) := by decide +kernel
theorem d_Y_worth_77 : decode b_Y_worth 77 = .ok (.getfield 162, 3) := by decide +kernel
theorem d_Y_worth_80 : decode b_Y_worth 80 = .ok (.ifCond .eq 12, 3) := by decide +kernel
theorem d_Y_worth_83 : decode b_Y_worth 83 = .ok (.aload_n 0, 1) := by decide +kernel
theorem d_Y_worth_84 : decode b_Y_worth 84 = .ok (.getfield 61, 3) := by decide +kernel
theorem d_Y_worth_87 : decode b_Y_worth 87 = .ok (.getfield 162, 3) := by decide +kernel
theorem d_Y_worth_90 : decode b_Y_worth 90 = .ok (.i2l, 1) := by decide +kernel
theorem d_Y_worth_91 : decode b_Y_worth 91 = .ok (.lreturn, 1) := by decide +kernel
theorem d_Y_worth_92 : decode b_Y_worth 92 = .ok (.iload 5, 2) := by decide +kernel
theorem d_Y_worth_94 : decode b_Y_worth 94 = .ok (.iconst 2, 1) := by decide +kernel
theorem d_Y_worth_95 : decode b_Y_worth 95 = .ok (.if_icmp .ne 19, 3) := by decide +kernel
theorem d_Y_worth_98 : decode b_Y_worth 98 = .ok (.aload_n 0, 1) := by decide +kernel
theorem d_Y_worth_99 : decode b_Y_worth 99 = .ok (.getfield 61, 3) := by decide +kernel
theorem d_Y_worth_102 : decode b_Y_worth 102 = .ok (.getfield 165, 3) := by decide +kernel
theorem d_Y_worth_105 : decode b_Y_worth 105 = .ok (.ifCond .eq 7, 3) := by decide +kernel
theorem d_Y_worth_108 : decode b_Y_worth 108 = .ok (.lconst 1, 1) := by decide +kernel
theorem d_Y_worth_109 : decode b_Y_worth 109 = .ok (.goto 4, 3) := by decide +kernel
theorem d_Y_worth_112 : decode b_Y_worth 112 = .ok (.lconst 0, 1) := by decide +kernel
theorem d_Y_worth_113 : decode b_Y_worth 113 = .ok (.lreturn, 1) := by decide +kernel
theorem d_Y_worth_114 : decode b_Y_worth 114 = .ok (.iload 5, 2) := by decide +kernel
theorem d_Y_worth_116 : decode b_Y_worth 116 = .ok (.ifCond .ne 13, 3) := by decide +kernel
theorem d_Y_worth_119 : decode b_Y_worth 119 = .ok (.aload_n 0, 1) := by decide +kernel
theorem d_Y_worth_120 : decode b_Y_worth 120 = .ok (.getfield 61, 3) := by decide +kernel
theorem d_Y_worth_123 : decode b_Y_worth 123 = .ok (.getfield 169, 3) := by decide +kernel
theorem d_Y_worth_126 : decode b_Y_worth 126 = .ok (.goto 10, 3) := by decide +kernel
theorem d_Y_worth_129 : decode b_Y_worth 129 = .ok (.aload_n 0, 1) := by decide +kernel
theorem d_Y_worth_130 : decode b_Y_worth 130 = .ok (.getfield 61, 3) := by decide +kernel
theorem d_Y_worth_133 : decode b_Y_worth 133 = .ok (.getfield 173, 3) := by decide +kernel
theorem d_Y_worth_136 : decode b_Y_worth 136 = .ok (.lreturn, 1) := by decide +kernel
theorem d_Y_order_0 : decode b_Y_order 0 = .ok (.aload_n 0, 1) := by decide +kernel
theorem d_Y_order_1 : decode b_Y_order 1 = .ok (.iload_n 1, 1) := by decide +kernel
theorem d_Y_order_2 : decode b_Y_order 2 = .ok (.invokevirtual 147, 3) := by decide +kernel
theorem d_Y_order_5 : decode b_Y_order 5 = .ok (.ifCond .ne 34, 3) := by decide +kernel
theorem d_Y_order_8 : decode b_Y_order 8 = .ok (.aload_n 0, 1) := by decide +kernel
theorem d_Y_order_9 : decode b_Y_order 9 = .ok (.iload_n 2, 1) := by decide +kernel
theorem d_Y_order_10 : decode b_Y_order 10 = .ok (.invokevirtual 147, 3) := by decide +kernel
theorem d_Y_order_13 : decode b_Y_order 13 = .ok (.ifCond .ne 26, 3) := by decide +kernel
theorem d_Y_order_16 : decode b_Y_order 16 = .ok (.iload_n 3, 1) := by decide +kernel
theorem d_Y_order_17 : decode b_Y_order 17 = .ok (.invokestatic 104, 3) := by decide +kernel
theorem d_Y_order_20 : decode b_Y_order 20 = .ok (.ifCond .ne 19, 3) := by decide +kernel
theorem d_Y_order_23 : decode b_Y_order 23 = .ok (.iload 4, 2) := by decide +kernel
theorem d_Y_order_25 : decode b_Y_order 25 = .ok (.invokestatic 75, 3) := by decide +kernel
theorem d_Y_order_28 : decode b_Y_order 28 = .ok (.ifCond .ne 11, 3) := by decide +kernel
theorem d_Y_order_31 : decode b_Y_order 31 = .ok (.iload 5, 2) := by decide +kernel
theorem d_Y_order_33 : decode b_Y_order 33 = .ok (.invokestatic 75, 3) := by decide +kernel
theorem d_Y_order_36 : decode b_Y_order 36 = .ok (.ifCond .eq 7, 3) := by decide +kernel
theorem d_Y_order_39 : decode b_Y_order 39 = .ok (.sipush (-1001), 3) := by decide +kernel
theorem d_Y_order_42 : decode b_Y_order 42 = .ok (.ireturn, 1) := by decide +kernel
theorem d_Y_order_43 : decode b_Y_order 43 = .ok (.aload_n 0, 1) := by decide +kernel
theorem d_Y_order_44 : decode b_Y_order 44 = .ok (.getfield 36, 3) := by decide +kernel
theorem d_Y_order_47 : decode b_Y_order 47 = .ok (.aload_n 0, 1) := by decide +kernel
theorem d_Y_order_48 : decode b_Y_order 48 = .ok (.iload_n 1, 1) := by decide +kernel
theorem d_Y_order_49 : decode b_Y_order 49 = .ok (.invokevirtual 154, 3) := by decide +kernel
theorem d_Y_order_52 : decode b_Y_order 52 = .ok (.aload_n 0, 1) := by decide +kernel
theorem d_Y_order_53 : decode b_Y_order 53 = .ok (.getfield 10, 3) := by decide +kernel
theorem d_Y_order_56 : decode b_Y_order 56 = .ok (.iload_n 3, 1) := by decide +kernel
theorem d_Y_order_57 : decode b_Y_order 57 = .ok (.iload 4, 2) := by decide +kernel
theorem d_Y_order_59 : decode b_Y_order 59 = .ok (.iload 5, 2) := by decide +kernel
theorem d_Y_order_61 : decode b_Y_order 61 = .ok (.aload_n 0, 1) := by decide +kernel
theorem d_Y_order_62 : decode b_Y_order 62 = .ok (.getfield 61, 3) := by decide +kernel
theorem d_Y_order_65 : decode b_Y_order 65 = .ok (.invokevirtual 158, 3) := by decide +kernel
theorem d_Y_order_68 : decode b_Y_order 68 = .ok (.aload_n 0, 1) := by decide +kernel
theorem d_Y_order_69 : decode b_Y_order 69 = .ok (.getfield 61, 3) := by decide +kernel
theorem d_Y_order_72 : decode b_Y_order 72 = .ok (.getfield 162, 3) := by decide +kernel
theorem d_Y_order_75 : decode b_Y_order 75 = .ok (.ifCond .eq 11, 3) := by decide +kernel
theorem d_Y_order_78 : decode b_Y_order 78 = .ok (.aload_n 0, 1) := by decide +kernel
theorem d_Y_order_79 : decode b_Y_order 79 = .ok (.getfield 61, 3) := by decide +kernel
theorem d_Y_order_82 : decode b_Y_order 82 = .ok (.getfield 162, 3) := by decide +kernel
theorem d_Y_order_85 : decode b_Y_order 85 = .ok (.ireturn, 1) := by decide +kernel
theorem d_Y_order_86 : decode b_Y_order 86 = .ok (.aload_n 0, 1) := by decide +kernel
theorem d_Y_order_87 : decode b_Y_order 87 = .ok (.getfield 36, 3) := by decide +kernel
theorem d_Y_order_90 : decode b_Y_order 90 = .ok (.aload_n 0, 1) := by decide +kernel
theorem d_Y_order_91 : decode b_Y_order 91 = .ok (.iload_n 2, 1) := by decide +kernel
theorem d_Y_order_92 : decode b_Y_order 92 = .ok (.invokevirtual 154, 3) := by decide +kernel
theorem d_Y_order_95 : decode b_Y_order 95 = .ok (.aload_n 0, 1) := by decide +kernel
theorem d_Y_order_96 : decode b_Y_order 96 = .ok (.getfield 10, 3) := by decide +kernel
theorem d_Y_order_99 : decode b_Y_order 99 = .ok (.iload_n 3, 1) := by decide +kernel
theorem d_Y_order_100 : decode b_Y_order 100 = .ok (.iload 4, 2) := by decide +kernel
theorem d_Y_order_102 : decode b_Y_order 102 = .ok (.iload 5, 2) := by decide +kernel
theorem d_Y_order_104 : decode b_Y_order 104 = .ok (.aload_n 0, 1) := by decide +kernel
theorem d_Y_order_105 : decode b_Y_order 105 = .ok (.getfield 65, 3) := by decide +kernel
theorem d_Y_order_108 : decode b_Y_order 108 = .ok (.invokevirtual 158, 3) := by decide +kernel
theorem d_Y_order_111 : decode b_Y_order 111 = .ok (.aload_n 0, 1) := by decide +kernel
theorem d_Y_order_112 : decode b_Y_order 112 = .ok (.getfield 65, 3) := by decide +kernel
theorem d_Y_order_115 : decode b_Y_order 115 = .ok (.getfield 162, 3) := by decide +kernel
theorem d_Y_order_118 : decode b_Y_order 118 = .ok (.ifCond .eq 11, 3) := by decide +kernel
theorem d_Y_order_121 : decode b_Y_order 121 = .ok (.aload_n 0, 1) := by decide +kernel
theorem d_Y_order_122 : decode b_Y_order 122 = .ok (.getfield 65, 3) := by decide +kernel
theorem d_Y_order_125 : decode b_Y_order 125 = .ok (.getfield 162, 3) := by decide +kernel
theorem d_Y_order_128 : decode b_Y_order 128 = .ok (.ireturn, 1) := by decide +kernel
theorem d_Y_order_129 : decode b_Y_order 129 = .ok (.aload_n 0, 1) := by decide +kernel
theorem d_Y_order_130 : decode b_Y_order 130 = .ok (.getfield 61, 3) := by decide +kernel
theorem d_Y_order_133 : decode b_Y_order 133 = .ok (.aload_n 0, 1) := by decide +kernel
theorem d_Y_order_134 : decode b_Y_order 134 = .ok (.getfield 65, 3) := by decide +kernel
theorem d_Y_order_137 : decode b_Y_order 137 = .ok (.invokestatic 176, 3) := by decide +kernel
theorem d_Y_order_140 : decode b_Y_order 140 = .ok (.ireturn, 1) := by decide +kernel
theorem d_Y_keeps_0 : decode b_Y_keeps 0 = .ok (.aload_n 0, 1) := by decide +kernel
theorem d_Y_keeps_1 : decode b_Y_keeps 1 = .ok (.iload_n 1, 1) := by decide +kernel
theorem d_Y_keeps_2 : decode b_Y_keeps 2 = .ok (.invokevirtual 147, 3) := by decide +kernel
theorem d_Y_keeps_5 : decode b_Y_keeps 5 = .ok (.ifCond .ne 17, 3) := by decide +kernel
theorem d_Y_keeps_8 : decode b_Y_keeps 8 = .ok (.iload_n 2, 1) := by decide +kernel
theorem d_Y_keeps_9 : decode b_Y_keeps 9 = .ok (.invokestatic 104, 3) := by decide +kernel
theorem d_Y_keeps_12 : decode b_Y_keeps 12 = .ok (.ifCond .ne 10, 3) := by decide +kernel
theorem d_Y_keeps_15 : decode b_Y_keeps 15 = .ok (.iload_n 3, 1) := by decide +kernel
theorem d_Y_keeps_16 : decode b_Y_keeps 16 = .ok (.invokestatic 180, 3) := by decide +kernel
theorem d_Y_keeps_19 : decode b_Y_keeps 19 = .ok (.ifCond .eq 7, 3) := by decide +kernel
theorem d_Y_keeps_22 : decode b_Y_keeps 22 = .ok (.sipush (-1001), 3) := by decide +kernel
theorem d_Y_keeps_25 : decode b_Y_keeps 25 = .ok (.ireturn, 1) := by decide +kernel
theorem d_Y_keeps_26 : decode b_Y_keeps 26 = .ok (.aload_n 0, 1) := by decide +kernel
theorem d_Y_keeps_27 : decode b_Y_keeps 27 = .ok (.getfield 45, 3) := by decide +kernel
theorem d_Y_keeps_30 : decode b_Y_keeps 30 = .ok (.iload_n 1, 1) := by decide +kernel
theorem d_Y_keeps_31 : decode b_Y_keeps 31 = .ok (.aload_n 0, 1) := by decide +kernel
theorem d_Y_keeps_32 : decode b_Y_keeps 32 = .ok (.iload_n 1, 1) := by decide +kernel
theorem d_Y_keeps_33 : decode b_Y_keeps 33 = .ok (.invokevirtual 154, 3) := by decide +kernel
theorem d_Y_keeps_36 : decode b_Y_keeps 36 = .ok (.iload_n 2, 1) := by decide +kernel
theorem d_Y_keeps_37 : decode b_Y_keeps 37 = .ok (.iload_n 3, 1) := by decide +kernel
theorem d_Y_keeps_38 : decode b_Y_keeps 38 = .ok (.invokevirtual 183, 3) := by decide +kernel
theorem d_Y_keeps_41 : decode b_Y_keeps 41 = .ok (.iconst 1, 1) := by decide +kernel
theorem d_Y_keeps_42 : decode b_Y_keeps 42 = .ok (.if_icmp .ne 7, 3) := by decide +kernel
theorem d_Y_keeps_45 : decode b_Y_keeps 45 = .ok (.iconst 1, 1) := by decide +kernel
theorem d_Y_keeps_46 : decode b_Y_keeps 46 = .ok (.goto 4, 3) := by decide +kernel
theorem d_Y_keeps_49 : decode b_Y_keeps 49 = .ok (.iconst 0, 1) := by decide +kernel
theorem d_Y_keeps_50 : decode b_Y_keeps 50 = .ok (.ireturn, 1) := by decide +kernel
theorem d_Y_breach_0 : decode b_Y_breach 0 = .ok (.aload_n 0, 1) := by decide +kernel
theorem d_Y_breach_1 : decode b_Y_breach 1 = .ok (.iload_n 1, 1) := by decide +kernel
theorem d_Y_breach_2 : decode b_Y_breach 2 = .ok (.invokevirtual 147, 3) := by decide +kernel
theorem d_Y_breach_5 : decode b_Y_breach 5 = .ok (.ifCond .ne 17, 3) := by decide +kernel
theorem d_Y_breach_8 : decode b_Y_breach 8 = .ok (.iload_n 2, 1) := by decide +kernel
theorem d_Y_breach_9 : decode b_Y_breach 9 = .ok (.invokestatic 104, 3) := by decide +kernel
theorem d_Y_breach_12 : decode b_Y_breach 12 = .ok (.ifCond .ne 10, 3) := by decide +kernel
theorem d_Y_breach_15 : decode b_Y_breach 15 = .ok (.iload_n 3, 1) := by decide +kernel
theorem d_Y_breach_16 : decode b_Y_breach 16 = .ok (.invokestatic 180, 3) := by decide +kernel
theorem d_Y_breach_19 : decode b_Y_breach 19 = .ok (.ifCond .eq 7, 3) := by decide +kernel
theorem d_Y_breach_22 : decode b_Y_breach 22 = .ok (.sipush (-1001), 3) := by decide +kernel
theorem d_Y_breach_25 : decode b_Y_breach 25 = .ok (.ireturn, 1) := by decide +kernel
theorem d_Y_breach_26 : decode b_Y_breach 26 = .ok (.iload 4, 2) := by decide +kernel
theorem d_Y_breach_28 : decode b_Y_breach 28 = .ok (.ifCond .lt 9, 3) := by decide +kernel
theorem d_Y_breach_31 : decode b_Y_breach 31 = .ok (.iload 4, 2) := by decide +kernel
theorem d_Y_breach_33 : decode b_Y_breach 33 = .ok (.iconst 2, 1) := by decide +kernel
theorem d_Y_breach_34 : decode b_Y_breach 34 = .ok (.if_icmp .le 7, 3) := by decide +kernel
theorem d_Y_breach_37 : decode b_Y_breach 37 = .ok (.sipush (-1002), 3) := by decide +kernel
theorem d_Y_breach_40 : decode b_Y_breach 40 = .ok (.ireturn, 1) := by decide +kernel
theorem d_Y_breach_41 : decode b_Y_breach 41 = .ok (.aload_n 0, 1) := by decide +kernel
theorem d_Y_breach_42 : decode b_Y_breach 42 = .ok (.getfield 45, 3) := by decide +kernel
theorem d_Y_breach_45 : decode b_Y_breach 45 = .ok (.iload_n 1, 1) := by decide +kernel
theorem d_Y_breach_46 : decode b_Y_breach 46 = .ok (.aload_n 0, 1) := by decide +kernel
theorem d_Y_breach_47 : decode b_Y_breach 47 = .ok (.iload_n 1, 1) := by decide +kernel
theorem d_Y_breach_48 : decode b_Y_breach 48 = .ok (.invokevirtual 154, 3) := by decide +kernel
theorem d_Y_breach_51 : decode b_Y_breach 51 = .ok (.iload_n 2, 1) := by decide +kernel
theorem d_Y_breach_52 : decode b_Y_breach 52 = .ok (.iload_n 3, 1) := by decide +kernel
theorem d_Y_breach_53 : decode b_Y_breach 53 = .ok (.invokevirtual 183, 3) := by decide +kernel
theorem d_Y_breach_56 : decode b_Y_breach 56 = .ok (.istore 5, 2) := by decide +kernel
theorem d_Y_breach_58 : decode b_Y_breach 58 = .ok (.iload 5, 2) := by decide +kernel
theorem d_Y_breach_60 : decode b_Y_breach 60 = .ok (.iconst 1, 1) := by decide +kernel
theorem d_Y_breach_61 : decode b_Y_breach 61 = .ok (.if_icmp .ne 7, 3) := by decide +kernel
theorem d_Y_breach_64 : decode b_Y_breach 64 = .ok (.iconst (-1), 1) := by decide +kernel
theorem d_Y_breach_65 : decode b_Y_breach 65 = .ok (.goto 10, 3) := by decide +kernel
theorem d_Y_breach_68 : decode b_Y_breach 68 = .ok (.iload 5, 2) := by decide +kernel
theorem d_Y_breach_70 : decode b_Y_breach 70 = .ok (.iload 4, 2) := by decide +kernel
theorem d_Y_breach_72 : decode b_Y_breach 72 = .ok (.invokestatic 187, 3) := by decide +kernel
theorem d_Y_breach_75 : decode b_Y_breach 75 = .ok (.ireturn, 1) := by decide +kernel
theorem d_Y_clash_0 : decode b_Y_clash 0 = .ok (.iload_n 1, 1) := by decide +kernel
theorem d_Y_clash_1 : decode b_Y_clash 1 = .ok (.invokestatic 104, 3) := by decide +kernel
theorem d_Y_clash_4 : decode b_Y_clash 4 = .ok (.ifCond .eq 7, 3) := by decide +kernel
theorem d_Y_clash_7 : decode b_Y_clash 7 = .ok (.sipush (-1001), 3) := by decide +kernel
theorem d_Y_clash_10 : decode b_Y_clash 10 = .ok (.ireturn, 1) := by decide +kernel
theorem d_Y_clash_11 : decode b_Y_clash 11 = .ok (.iconst 0, 1) := by decide +kernel
theorem d_Y_clash_12 : decode b_Y_clash 12 = .ok (.istore_n 2, 1) := by decide +kernel
theorem d_Y_clash_13 : decode b_Y_clash 13 = .ok (.iload_n 2, 1) := by decide +kernel
theorem d_Y_clash_14 : decode b_Y_clash 14 = .ok (.aload_n 0, 1) := by decide +kernel
theorem d_Y_clash_15 : decode b_Y_clash 15 = .ok (.getfield 68, 3) := by decide +kernel
theorem d_Y_clash_18 : decode b_Y_clash 18 = .ok (.if_icmp .ge 63, 3) := by decide +kernel
theorem d_Y_clash_21 : decode b_Y_clash 21 = .ok (.iconst 0, 1) := by decide +kernel
theorem d_Y_clash_22 : decode b_Y_clash 22 = .ok (.istore_n 3, 1) := by decide +kernel
theorem d_Y_clash_23 : decode b_Y_clash 23 = .ok (.iconst 0, 1) := by decide +kernel
theorem d_Y_clash_24 : decode b_Y_clash 24 = .ok (.istore 4, 2) := by decide +kernel
theorem d_Y_clash_26 : decode b_Y_clash 26 = .ok (.iload 4, 2) := by decide +kernel
theorem d_Y_clash_28 : decode b_Y_clash 28 = .ok (.bipush 7, 2) := by decide +kernel
theorem d_Y_clash_30 : decode b_Y_clash 30 = .ok (.if_icmp .ge 36, 3) := by decide +kernel
theorem d_Y_clash_33 : decode b_Y_clash 33 = .ok (.aload_n 0, 1) := by decide +kernel
theorem d_Y_clash_34 : decode b_Y_clash 34 = .ok (.getfield 45, 3) := by decide +kernel
theorem d_Y_clash_37 : decode b_Y_clash 37 = .ok (.iload_n 2, 1) := by decide +kernel
theorem d_Y_clash_38 : decode b_Y_clash 38 = .ok (.aload_n 0, 1) := by decide +kernel
theorem d_Y_clash_39 : decode b_Y_clash 39 = .ok (.iload_n 2, 1) := by decide +kernel
theorem d_Y_clash_40 : decode b_Y_clash 40 = .ok (.invokevirtual 154, 3) := by decide +kernel
theorem d_Y_clash_43 : decode b_Y_clash 43 = .ok (.iload_n 1, 1) := by decide +kernel
theorem d_Y_clash_44 : decode b_Y_clash 44 = .ok (.iload 4, 2) := by decide +kernel
theorem d_Y_clash_46 : decode b_Y_clash 46 = .ok (.invokevirtual 183, 3) := by decide +kernel
theorem d_Y_clash_49 : decode b_Y_clash 49 = .ok (.iconst 1, 1) := by decide +kernel
theorem d_Y_clash_50 : decode b_Y_clash 50 = .ok (.if_icmp .ne 10, 3) := by decide +kernel
theorem d_Y_clash_53 : decode b_Y_clash 53 = .ok (.iload_n 3, 1) := by decide +kernel
theorem d_Y_clash_54 : decode b_Y_clash 54 = .ok (.iconst 1, 1) := by decide +kernel
theorem d_Y_clash_55 : decode b_Y_clash 55 = .ok (.iload 4, 2) := by decide +kernel
theorem d_Y_clash_57 : decode b_Y_clash 57 = .ok (.ishl, 1) := by decide +kernel
theorem d_Y_clash_58 : decode b_Y_clash 58 = .ok (.ior, 1) := by decide +kernel
theorem d_Y_clash_59 : decode b_Y_clash 59 = .ok (.istore_n 3, 1) := by decide +kernel
theorem d_Y_clash_60 : decode b_Y_clash 60 = .ok (.iinc 4 1, 3) := by decide +kernel
theorem d_Y_clash_63 : decode b_Y_clash 63 = .ok (.goto (-37), 3) := by decide +kernel
theorem d_Y_clash_66 : decode b_Y_clash 66 = .ok (.aload_n 0, 1) := by decide +kernel
theorem d_Y_clash_67 : decode b_Y_clash 67 = .ok (.getfield 45, 3) := by decide +kernel
theorem d_Y_clash_70 : decode b_Y_clash 70 = .ok (.iload_n 2, 1) := by decide +kernel
theorem d_Y_clash_71 : decode b_Y_clash 71 = .ok (.iload_n 3, 1) := by decide +kernel
theorem d_Y_clash_72 : decode b_Y_clash 72 = .ok (.invokevirtual 190, 3) := by decide +kernel
theorem d_Y_clash_75 : decode b_Y_clash 75 = .ok (.iinc 2 1, 3) := by decide +kernel
theorem d_Y_clash_78 : decode b_Y_clash 78 = .ok (.goto (-65), 3) := by decide +kernel
theorem d_Y_clash_81 : decode b_Y_clash 81 = .ok (.aload_n 0, 1) := by decide +kernel
theorem d_Y_clash_82 : decode b_Y_clash 82 = .ok (.getfield 45, 3) := by decide +kernel
theorem d_Y_clash_85 : decode b_Y_clash 85 = .ok (.aload_n 0, 1) := by decide +kernel
theorem d_Y_clash_86 : decode b_Y_clash 86 = .ok (.getfield 68, 3) := by decide +kernel
theorem d_Y_clash_89 : decode b_Y_clash 89 = .ok (.invokevirtual 194, 3) := by decide +kernel
theorem d_Y_clash_92 : decode b_Y_clash 92 = .ok (.ireturn, 1) := by decide +kernel
theorem d_Y_drift_0 : decode b_Y_drift 0 = .ok (.aload_n 0, 1) := by decide +kernel
theorem d_Y_drift_1 : decode b_Y_drift 1 = .ok (.iload_n 1, 1) := by decide +kernel
theorem d_Y_drift_2 : decode b_Y_drift 2 = .ok (.invokevirtual 147, 3) := by decide +kernel
theorem d_Y_drift_5 : decode b_Y_drift 5 = .ok (.ifCond .ne 25, 3) := by decide +kernel
theorem d_Y_drift_8 : decode b_Y_drift 8 = .ok (.iload_n 2, 1) := by decide +kernel
theorem d_Y_drift_9 : decode b_Y_drift 9 = .ok (.invokestatic 104, 3) := by decide +kernel
theorem d_Y_drift_12 : decode b_Y_drift 12 = .ok (.ifCond .ne 18, 3) := by decide +kernel
theorem d_Y_drift_15 : decode b_Y_drift 15 = .ok (.iload_n 3, 1) := by decide +kernel
theorem d_Y_drift_16 : decode b_Y_drift 16 = .ok (.invokestatic 75, 3) := by decide +kernel
theorem d_Y_drift_19 : decode b_Y_drift 19 = .ok (.ifCond .ne 11, 3) := by decide +kernel
theorem d_Y_drift_22 : decode b_Y_drift 22 = .ok (.iload 4, 2) := by decide +kernel
theorem d_Y_drift_24 : decode b_Y_drift 24 = .ok (.invokestatic 75, 3) := by decide +kernel
theorem d_Y_drift_27 : decode b_Y_drift 27 = .ok (.ifCond .eq 7, 3) := by decide +kernel
theorem d_Y_drift_30 : decode b_Y_drift 30 = .ok (.ldc2_w 150, 3) := by decide +kernel
theorem d_Y_drift_33 : decode b_Y_drift 33 = .ok (.lreturn, 1) := by decide +kernel
theorem d_Y_drift_34 : decode b_Y_drift 34 = .ok (.iload 5, 2) := by decide +kernel
theorem d_Y_drift_36 : decode b_Y_drift 36 = .ok (.ifCond .lt 9, 3) := by decide +kernel
theorem d_Y_drift_39 : decode b_Y_drift 39 = .ok (.iload 5, 2) := by decide +kernel
theorem d_Y_drift_41 : decode b_Y_drift 41 = .ok (.iconst 1, 1) := by decide +kernel
theorem d_Y_drift_42 : decode b_Y_drift 42 = .ok (.if_icmp .le 7, 3) := by decide +kernel
theorem d_Y_drift_45 : decode b_Y_drift 45 = .ok (.ldc2_w 152, 3) := by decide +kernel
theorem d_Y_drift_48 : decode b_Y_drift 48 = .ok (.lreturn, 1) := by decide +kernel
theorem d_Y_drift_49 : decode b_Y_drift 49 = .ok (.aload_n 0, 1) := by decide +kernel
theorem d_Y_drift_50 : decode b_Y_drift 50 = .ok (.getfield 36, 3) := by decide +kernel
theorem d_Y_drift_53 : decode b_Y_drift 53 = .ok (.aload_n 0, 1) := by decide +kernel
theorem d_Y_drift_54 : decode b_Y_drift 54 = .ok (.iload_n 1, 1) := by decide +kernel
theorem d_Y_drift_55 : decode b_Y_drift 55 = .ok (.invokevirtual 154, 3) := by decide +kernel
theorem d_Y_drift_58 : decode b_Y_drift 58 = .ok (.aload_n 0, 1) := by decide +kernel
theorem d_Y_drift_59 : decode b_Y_drift 59 = .ok (.getfield 10, 3) := by decide +kernel
theorem d_Y_drift_62 : decode b_Y_drift 62 = .ok (.iload_n 2, 1) := by decide +kernel
theorem d_Y_drift_63 : decode b_Y_drift 63 = .ok (.iload_n 3, 1) := by decide +kernel
theorem d_Y_drift_64 : decode b_Y_drift 64 = .ok (.iload 4, 2) := by decide +kernel
theorem d_Y_drift_66 : decode b_Y_drift 66 = .ok (.aload_n 0, 1) := by decide +kernel
theorem d_Y_drift_67 : decode b_Y_drift 67 = .ok (.getfield 61, 3) := by decide +kernel
theorem d_Y_drift_70 : decode b_Y_drift 70 = .ok (.invokevirtual 197, 3) := by decide +kernel
theorem d_Y_drift_73 : decode b_Y_drift 73 = .ok (.aload_n 0, 1) := by decide +kernel
theorem d_Y_drift_74 : decode b_Y_drift 74 = .ok (.getfield 61, 3) := by decide +kernel
theorem d_Y_drift_77 : decode b_Y_drift 77 = .ok (.getfield 162, 3) := by decide +kernel
theorem d_Y_drift_80 : decode b_Y_drift 80 = .ok (.ifCond .eq 12, 3) := by decide +kernel
theorem d_Y_drift_83 : decode b_Y_drift 83 = .ok (.aload_n 0, 1) := by decide +kernel
theorem d_Y_drift_84 : decode b_Y_drift 84 = .ok (.getfield 61, 3) := by decide +kernel
theorem d_Y_drift_87 : decode b_Y_drift 87 = .ok (.getfield 162, 3) := by decide +kernel
theorem d_Y_drift_90 : decode b_Y_drift 90 = .ok (.i2l, 1) := by decide +kernel
theorem d_Y_drift_91 : decode b_Y_drift 91 = .ok (.lreturn, 1) := by decide +kernel
theorem d_Y_drift_92 : decode b_Y_drift 92 = .ok (.aload_n 0, 1) := by decide +kernel
theorem d_Y_drift_93 : decode b_Y_drift 93 = .ok (.getfield 36, 3) := by decide +kernel
theorem d_Y_drift_96 : decode b_Y_drift 96 = .ok (.aload_n 0, 1) := by decide +kernel
theorem d_Y_drift_97 : decode b_Y_drift 97 = .ok (.iload_n 1, 1) := by decide +kernel
theorem d_Y_drift_98 : decode b_Y_drift 98 = .ok (.invokevirtual 154, 3) := by decide +kernel
theorem d_Y_drift_101 : decode b_Y_drift 101 = .ok (.aload_n 0, 1) := by decide +kernel
theorem d_Y_drift_102 : decode b_Y_drift 102 = .ok (.getfield 10, 3) := by decide +kernel
theorem d_Y_drift_105 : decode b_Y_drift 105 = .ok (.iload_n 2, 1) := by decide +kernel
theorem d_Y_drift_106 : decode b_Y_drift 106 = .ok (.iload_n 3, 1) := by decide +kernel
theorem d_Y_drift_107 : decode b_Y_drift 107 = .ok (.iload 4, 2) := by decide +kernel
theorem d_Y_drift_109 : decode b_Y_drift 109 = .ok (.aload_n 0, 1) := by decide +kernel
theorem d_Y_drift_110 : decode b_Y_drift 110 = .ok (.getfield 65, 3) := by decide +kernel
theorem d_Y_drift_113 : decode b_Y_drift 113 = .ok (.invokevirtual 158, 3) := by decide +kernel
theorem d_Y_drift_116 : decode b_Y_drift 116 = .ok (.aload_n 0, 1) := by decide +kernel
theorem d_Y_drift_117 : decode b_Y_drift 117 = .ok (.getfield 65, 3) := by decide +kernel
theorem d_Y_drift_120 : decode b_Y_drift 120 = .ok (.getfield 162, 3) := by decide +kernel
theorem d_Y_drift_123 : decode b_Y_drift 123 = .ok (.ifCond .eq 12, 3) := by decide +kernel
theorem d_Y_drift_126 : decode b_Y_drift 126 = .ok (.aload_n 0, 1) := by decide +kernel
theorem d_Y_drift_127 : decode b_Y_drift 127 = .ok (.getfield 65, 3) := by decide +kernel
theorem d_Y_drift_130 : decode b_Y_drift 130 = .ok (.getfield 162, 3) := by decide +kernel
theorem d_Y_drift_133 : decode b_Y_drift 133 = .ok (.i2l, 1) := by decide +kernel
theorem d_Y_drift_134 : decode b_Y_drift 134 = .ok (.lreturn, 1) := by decide +kernel
theorem d_Y_drift_135 : decode b_Y_drift 135 = .ok (.aload_n 0, 1) := by decide +kernel
theorem d_Y_drift_136 : decode b_Y_drift 136 = .ok (.getfield 61, 3) := by decide +kernel
theorem d_Y_drift_139 : decode b_Y_drift 139 = .ok (.getfield 165, 3) := by decide +kernel
theorem d_Y_drift_142 : decode b_Y_drift 142 = .ok (.ifCond .ne 13, 3) := by decide +kernel
theorem d_Y_drift_145 : decode b_Y_drift 145 = .ok (.aload_n 0, 1) := by decide +kernel
theorem d_Y_drift_146 : decode b_Y_drift 146 = .ok (.getfield 65, 3) := by decide +kernel
theorem d_Y_drift_149 : decode b_Y_drift 149 = .ok (.getfield 165, 3) := by decide +kernel
theorem d_Y_drift_152 : decode b_Y_drift 152 = .ok (.ifCond .eq 7, 3) := by decide +kernel
theorem d_Y_drift_155 : decode b_Y_drift 155 = .ok (.ldc2_w 200, 3) := by decide +kernel
theorem d_Y_drift_158 : decode b_Y_drift 158 = .ok (.lreturn, 1) := by decide +kernel
theorem d_Y_drift_159 : decode b_Y_drift 159 = .ok (.aload_n 0, 1) := by decide +kernel
theorem d_Y_drift_160 : decode b_Y_drift 160 = .ok (.getfield 65, 3) := by decide +kernel
theorem d_Y_drift_163 : decode b_Y_drift 163 = .ok (.invokevirtual 202, 3) := by decide +kernel
theorem d_Y_drift_166 : decode b_Y_drift 166 = .ok (.aload_n 0, 1) := by decide +kernel
theorem d_Y_drift_167 : decode b_Y_drift 167 = .ok (.getfield 61, 3) := by decide +kernel
theorem d_Y_drift_170 : decode b_Y_drift 170 = .ok (.aload_n 0, 1) := by decide +kernel
theorem d_Y_drift_171 : decode b_Y_drift 171 = .ok (.getfield 65, 3) := by decide +kernel
theorem d_Y_drift_174 : decode b_Y_drift 174 = .ok (.invokevirtual 205, 3) := by decide +kernel
theorem d_Y_drift_177 : decode b_Y_drift 177 = .ok (.aload_n 0, 1) := by decide +kernel
theorem d_Y_drift_178 : decode b_Y_drift 178 = .ok (.getfield 61, 3) := by decide +kernel
theorem d_Y_drift_181 : decode b_Y_drift 181 = .ok (.getfield 162, 3) := by decide +kernel
theorem d_Y_drift_184 : decode b_Y_drift 184 = .ok (.ifCond .eq 12, 3) := by decide +kernel
theorem d_Y_drift_187 : decode b_Y_drift 187 = .ok (.aload_n 0, 1) := by decide +kernel
theorem d_Y_drift_188 : decode b_Y_drift 188 = .ok (.getfield 61, 3) := by decide +kernel
theorem d_Y_drift_191 : decode b_Y_drift 191 = .ok (.getfield 162, 3) := by decide +kernel
theorem d_Y_drift_194 : decode b_Y_drift 194 = .ok (.i2l, 1) := by decide +kernel
theorem d_Y_drift_195 : decode b_Y_drift 195 = .ok (.lreturn, 1) := by decide +kernel
theorem d_Y_drift_196 : decode b_Y_drift 196 = .ok (.iload 5, 2) := by decide +kernel
theorem d_Y_drift_198 : decode b_Y_drift 198 = .ok (.ifCond .ne 13, 3) := by decide +kernel
theorem d_Y_drift_201 : decode b_Y_drift 201 = .ok (.aload_n 0, 1) := by decide +kernel
theorem d_Y_drift_202 : decode b_Y_drift 202 = .ok (.getfield 61, 3) := by decide +kernel
theorem d_Y_drift_205 : decode b_Y_drift 205 = .ok (.getfield 169, 3) := by decide +kernel
theorem d_Y_drift_208 : decode b_Y_drift 208 = .ok (.goto 10, 3) := by decide +kernel
theorem d_Y_drift_211 : decode b_Y_drift 211 = .ok (.aload_n 0, 1) := by decide +kernel
theorem d_Y_drift_212 : decode b_Y_drift 212 = .ok (.getfield 61, 3) := by decide +kernel
theorem d_Y_drift_215 : decode b_Y_drift 215 = .ok (.getfield 173, 3) := by decide +kernel
theorem d_Y_drift_218 : decode b_Y_drift 218 = .ok (.lreturn, 1) := by decide +kernel
theorem d_Y_chosen_0 : decode b_Y_chosen 0 = .ok (.iload_n 1, 1) := by decide +kernel
theorem d_Y_chosen_1 : decode b_Y_chosen 1 = .ok (.invokestatic 104, 3) := by decide +kernel
theorem d_Y_chosen_4 : decode b_Y_chosen 4 = .ok (.ifCond .ne 17, 3) := by decide +kernel
theorem d_Y_chosen_7 : decode b_Y_chosen 7 = .ok (.iload_n 2, 1) := by decide +kernel
theorem d_Y_chosen_8 : decode b_Y_chosen 8 = .ok (.invokestatic 75, 3) := by decide +kernel
theorem d_Y_chosen_11 : decode b_Y_chosen 11 = .ok (.ifCond .ne 10, 3) := by decide +kernel
theorem d_Y_chosen_14 : decode b_Y_chosen 14 = .ok (.iload_n 3, 1) := by decide +kernel
theorem d_Y_chosen_15 : decode b_Y_chosen 15 = .ok (.invokestatic 75, 3) := by decide +kernel
theorem d_Y_chosen_18 : decode b_Y_chosen 18 = .ok (.ifCond .eq 7, 3) := by decide +kernel
theorem d_Y_chosen_21 : decode b_Y_chosen 21 = .ok (.sipush (-1001), 3) := by decide +kernel
theorem d_Y_chosen_24 : decode b_Y_chosen 24 = .ok (.ireturn, 1) := by decide +kernel
theorem d_Y_chosen_25 : decode b_Y_chosen 25 = .ok (.aload_n 0, 1) := by decide +kernel
theorem d_Y_chosen_26 : decode b_Y_chosen 26 = .ok (.getfield 54, 3) := by decide +kernel
theorem d_Y_chosen_29 : decode b_Y_chosen 29 = .ok (.iload_n 1, 1) := by decide +kernel
theorem d_Y_chosen_30 : decode b_Y_chosen 30 = .ok (.iload_n 2, 1) := by decide +kernel
theorem d_Y_chosen_31 : decode b_Y_chosen 31 = .ok (.iload_n 3, 1) := by decide +kernel
theorem d_Y_chosen_32 : decode b_Y_chosen 32 = .ok (.invokevirtual 209, 3) := by decide +kernel
theorem d_Y_chosen_35 : decode b_Y_chosen 35 = .ok (.ireturn, 1) := by decide +kernel
theorem d_Y_ring_0 : decode b_Y_ring 0 = .ok (.iload_n 1, 1) := by decide +kernel
theorem d_Y_ring_1 : decode b_Y_ring 1 = .ok (.invokestatic 104, 3) := by decide +kernel
theorem d_Y_ring_4 : decode b_Y_ring 4 = .ok (.ifCond .eq 7, 3) := by decide +kernel
theorem d_Y_ring_7 : decode b_Y_ring 7 = .ok (.sipush (-1001), 3) := by decide +kernel
theorem d_Y_ring_10 : decode b_Y_ring 10 = .ok (.ireturn, 1) := by decide +kernel
theorem d_Y_ring_11 : decode b_Y_ring 11 = .ok (.aload_n 0, 1) := by decide +kernel
theorem d_Y_ring_12 : decode b_Y_ring 12 = .ok (.getfield 54, 3) := by decide +kernel
theorem d_Y_ring_15 : decode b_Y_ring 15 = .ok (.iload_n 1, 1) := by decide +kernel
theorem d_Y_ring_16 : decode b_Y_ring 16 = .ok (.invokevirtual 212, 3) := by decide +kernel
theorem d_Y_ring_19 : decode b_Y_ring 19 = .ok (.istore_n 3, 1) := by decide +kernel
theorem d_Y_ring_20 : decode b_Y_ring 20 = .ok (.iload_n 2, 1) := by decide +kernel
theorem d_Y_ring_21 : decode b_Y_ring 21 = .ok (.iconst (-1), 1) := by decide +kernel
theorem d_Y_ring_22 : decode b_Y_ring 22 = .ok (.if_icmp .ne 5, 3) := by decide +kernel
theorem d_Y_ring_25 : decode b_Y_ring 25 = .ok (.iload_n 3, 1) := by decide +kernel
theorem d_Y_ring_26 : decode b_Y_ring 26 = .ok (.ireturn, 1) := by decide +kernel
theorem d_Y_ring_27 : decode b_Y_ring 27 = .ok (.iload_n 2, 1) := by decide +kernel
theorem d_Y_ring_28 : decode b_Y_ring 28 = .ok (.ifCond .lt 8, 3) := by decide +kernel
theorem d_Y_ring_31 : decode b_Y_ring 31 = .ok (.iload_n 2, 1) := by decide +kernel
theorem d_Y_ring_32 : decode b_Y_ring 32 = .ok (.iload_n 3, 1) := by decide +kernel
theorem d_Y_ring_33 : decode b_Y_ring 33 = .ok (.if_icmp .lt 7, 3) := by decide +kernel
theorem d_Y_ring_36 : decode b_Y_ring 36 = .ok (.iconst (-1), 1) := by decide +kernel
theorem d_Y_ring_37 : decode b_Y_ring 37 = .ok (.goto 11, 3) := by decide +kernel
theorem d_Y_ring_40 : decode b_Y_ring 40 = .ok (.aload_n 0, 1) := by decide +kernel
theorem d_Y_ring_41 : decode b_Y_ring 41 = .ok (.getfield 54, 3) := by decide +kernel
theorem d_Y_ring_44 : decode b_Y_ring 44 = .ok (.iload_n 2, 1) := by decide +kernel
theorem d_Y_ring_45 : decode b_Y_ring 45 = .ok (.invokevirtual 215, 3) := by decide +kernel
theorem d_Y_ring_48 : decode b_Y_ring 48 = .ok (.ireturn, 1) := by decide +kernel
theorem d_Y_need_0 : decode b_Y_need 0 = .ok (.iload_n 1, 1) := by decide +kernel
theorem d_Y_need_1 : decode b_Y_need 1 = .ok (.invokestatic 104, 3) := by decide +kernel
theorem d_Y_need_4 : decode b_Y_need 4 = .ok (.ifCond .ne 17, 3) := by decide +kernel
theorem d_Y_need_7 : decode b_Y_need 7 = .ok (.iload_n 2, 1) := by decide +kernel
theorem d_Y_need_8 : decode b_Y_need 8 = .ok (.invokestatic 75, 3) := by decide +kernel
theorem d_Y_need_11 : decode b_Y_need 11 = .ok (.ifCond .ne 10, 3) := by decide +kernel
theorem d_Y_need_14 : decode b_Y_need 14 = .ok (.iload_n 3, 1) := by decide +kernel
theorem d_Y_need_15 : decode b_Y_need 15 = .ok (.invokestatic 75, 3) := by decide +kernel
theorem d_Y_need_18 : decode b_Y_need 18 = .ok (.ifCond .eq 7, 3) := by decide +kernel
theorem d_Y_need_21 : decode b_Y_need 21 = .ok (.sipush (-1001), 3) := by decide +kernel
theorem d_Y_need_24 : decode b_Y_need 24 = .ok (.ireturn, 1) := by decide +kernel
theorem d_Y_need_25 : decode b_Y_need 25 = .ok (.iload 4, 2) := by decide +kernel
theorem d_Y_need_27 : decode b_Y_need 27 = .ok (.ifCond .lt 9, 3) := by decide +kernel
theorem d_Y_need_30 : decode b_Y_need 30 = .ok (.iload 4, 2) := by decide +kernel
theorem d_Y_need_32 : decode b_Y_need 32 = .ok (.iconst 2, 1) := by decide +kernel
theorem d_Y_need_33 : decode b_Y_need 33 = .ok (.if_icmp .le 7, 3) := by decide +kernel
theorem d_Y_need_36 : decode b_Y_need 36 = .ok (.sipush (-1002), 3) := by decide +kernel
theorem d_Y_need_39 : decode b_Y_need 39 = .ok (.ireturn, 1) := by decide +kernel
theorem d_Y_need_40 : decode b_Y_need 40 = .ok (.aload_n 0, 1) := by decide +kernel
theorem d_Y_need_41 : decode b_Y_need 41 = .ok (.getfield 10, 3) := by decide +kernel
theorem d_Y_need_44 : decode b_Y_need 44 = .ok (.bipush 31, 2) := by decide +kernel
theorem d_Y_need_46 : decode b_Y_need 46 = .ok (.iload_n 1, 1) := by decide +kernel
theorem d_Y_need_47 : decode b_Y_need 47 = .ok (.iload_n 2, 1) := by decide +kernel
theorem d_Y_need_48 : decode b_Y_need 48 = .ok (.iload_n 2, 1) := by decide +kernel
theorem d_Y_need_49 : decode b_Y_need 49 = .ok (.invokevirtual 107, 3) := by decide +kernel
theorem d_Y_need_52 : decode b_Y_need 52 = .ok (.istore 5, 2) := by decide +kernel
theorem d_Y_need_54 : decode b_Y_need 54 = .ok (.iload 5, 2) := by decide +kernel
theorem d_Y_need_56 : decode b_Y_need 56 = .ok (.ifCond .gt 7, 3) := by decide +kernel
theorem d_Y_need_59 : decode b_Y_need 59 = .ok (.sipush (-1003), 3) := by decide +kernel
theorem d_Y_need_62 : decode b_Y_need 62 = .ok (.ireturn, 1) := by decide +kernel
theorem d_Y_need_63 : decode b_Y_need 63 = .ok (.aload_n 0, 1) := by decide +kernel
theorem d_Y_need_64 : decode b_Y_need 64 = .ok (.getfield 54, 3) := by decide +kernel
theorem d_Y_need_67 : decode b_Y_need 67 = .ok (.iload_n 1, 1) := by decide +kernel
theorem d_Y_need_68 : decode b_Y_need 68 = .ok (.iload_n 2, 1) := by decide +kernel
theorem d_Y_need_69 : decode b_Y_need 69 = .ok (.iload_n 3, 1) := by decide +kernel
theorem d_Y_need_70 : decode b_Y_need 70 = .ok (.invokevirtual 218, 3) := by decide +kernel
theorem d_Y_need_73 : decode b_Y_need 73 = .ok (.istore 6, 2) := by decide +kernel
theorem d_Y_need_75 : decode b_Y_need 75 = .ok (.iload 6, 2) := by decide +kernel
theorem d_Y_need_77 : decode b_Y_need 77 = .ok (.iconst (-1), 1) := by decide +kernel
theorem d_Y_need_78 : decode b_Y_need 78 = .ok (.if_icmp .ne 7, 3) := by decide +kernel
theorem d_Y_need_81 : decode b_Y_need 81 = .ok (.sipush (-1003), 3) := by decide +kernel
theorem d_Y_need_84 : decode b_Y_need 84 = .ok (.ireturn, 1) := by decide +kernel
theorem d_Y_need_85 : decode b_Y_need 85 = .ok (.iload 4, 2) := by decide +kernel
theorem d_Y_need_87 : decode b_Y_need 87 = .ok (.iconst 2, 1) := by decide +kernel
theorem d_Y_need_88 : decode b_Y_need 88 = .ok (.if_icmp .ne 6, 3) := by decide +kernel
theorem d_Y_need_91 : decode b_Y_need 91 = .ok (.iload 6, 2) := by decide +kernel
theorem d_Y_need_93 : decode b_Y_need 93 = .ok (.ireturn, 1) := by decide +kernel
theorem d_Y_need_94 : decode b_Y_need 94 = .ok (.aload_n 0, 1) := by decide +kernel
theorem d_Y_need_95 : decode b_Y_need 95 = .ok (.getfield 10, 3) := by decide +kernel
theorem d_Y_need_98 : decode b_Y_need 98 = .ok (.bipush 31, 2) := by decide +kernel
theorem d_Y_need_100 : decode b_Y_need 100 = .ok (.iload_n 1, 1) := by decide +kernel
theorem d_Y_need_101 : decode b_Y_need 101 = .ok (.iload_n 3, 1) := by decide +kernel
theorem d_Y_need_102 : decode b_Y_need 102 = .ok (.iload 6, 2) := by decide +kernel
theorem d_Y_need_104 : decode b_Y_need 104 = .ok (.invokevirtual 107, 3) := by decide +kernel
theorem d_Y_need_107 : decode b_Y_need 107 = .ok (.iload 5, 2) := by decide +kernel
theorem d_Y_need_109 : decode b_Y_need 109 = .ok (.iload 4, 2) := by decide +kernel
theorem d_Y_need_111 : decode b_Y_need 111 = .ok (.invokestatic 221, 3) := by decide +kernel
theorem d_Y_need_114 : decode b_Y_need 114 = .ok (.ireturn, 1) := by decide +kernel
theorem d_Y_part_0 : decode b_Y_part 0 = .ok (.iload_n 1, 1) := by decide +kernel
theorem d_Y_part_1 : decode b_Y_part 1 = .ok (.invokestatic 104, 3) := by decide +kernel
theorem d_Y_part_4 : decode b_Y_part 4 = .ok (.ifCond .ne 25, 3) := by decide +kernel
theorem d_Y_part_7 : decode b_Y_part 7 = .ok (.iload_n 2, 1) := by decide +kernel
theorem d_Y_part_8 : decode b_Y_part 8 = .ok (.invokestatic 79, 3) := by decide +kernel
theorem d_Y_part_11 : decode b_Y_part 11 = .ok (.ifCond .ne 18, 3) := by decide +kernel
theorem d_Y_part_14 : decode b_Y_part 14 = .ok (.iload_n 3, 1) := by decide +kernel
theorem d_Y_part_15 : decode b_Y_part 15 = .ok (.invokestatic 75, 3) := by decide +kernel
theorem d_Y_part_18 : decode b_Y_part 18 = .ok (.ifCond .ne 11, 3) := by decide +kernel
theorem d_Y_part_21 : decode b_Y_part 21 = .ok (.iload 4, 2) := by decide +kernel
theorem d_Y_part_23 : decode b_Y_part 23 = .ok (.invokestatic 75, 3) := by decide +kernel
theorem d_Y_part_26 : decode b_Y_part 26 = .ok (.ifCond .eq 7, 3) := by decide +kernel
theorem d_Y_part_29 : decode b_Y_part 29 = .ok (.sipush (-1001), 3) := by decide +kernel
theorem d_Y_part_32 : decode b_Y_part 32 = .ok (.ireturn, 1) := by decide +kernel
theorem d_Y_part_33 : decode b_Y_part 33 = .ok (.iload 5, 2) := by decide +kernel
theorem d_Y_part_35 : decode b_Y_part 35 = .ok (.ifCond .lt 9, 3) := by decide +kernel
theorem d_Y_part_38 : decode b_Y_part 38 = .ok (.iload 5, 2) := by decide +kernel
theorem d_Y_part_40 : decode b_Y_part 40 = .ok (.iconst 1, 1) := by decide +kernel
theorem d_Y_part_41 : decode b_Y_part 41 = .ok (.if_icmp .le 7, 3) := by decide +kernel
theorem d_Y_part_44 : decode b_Y_part 44 = .ok (.sipush (-1002), 3) := by decide +kernel
theorem d_Y_part_47 : decode b_Y_part 47 = .ok (.ireturn, 1) := by decide +kernel
theorem d_Y_part_48 : decode b_Y_part 48 = .ok (.aload_n 0, 1) := by decide +kernel
theorem d_Y_part_49 : decode b_Y_part 49 = .ok (.getfield 10, 3) := by decide +kernel
theorem d_Y_part_52 : decode b_Y_part 52 = .ok (.bipush 31, 2) := by decide +kernel
theorem d_Y_part_54 : decode b_Y_part 54 = .ok (.iload_n 1, 1) := by decide +kernel
theorem d_Y_part_55 : decode b_Y_part 55 = .ok (.iload_n 3, 1) := by decide +kernel
theorem d_Y_part_56 : decode b_Y_part 56 = .ok (.iload_n 3, 1) := by decide +kernel
theorem d_Y_part_57 : decode b_Y_part 57 = .ok (.invokevirtual 107, 3) := by decide +kernel
theorem d_Y_part_60 : decode b_Y_part 60 = .ok (.istore 6, 2) := by decide +kernel
theorem d_Y_part_62 : decode b_Y_part 62 = .ok (.iload 6, 2) := by decide +kernel
theorem d_Y_part_64 : decode b_Y_part 64 = .ok (.ifCond .gt 7, 3) := by decide +kernel
theorem d_Y_part_67 : decode b_Y_part 67 = .ok (.sipush (-1003), 3) := by decide +kernel
theorem d_Y_part_70 : decode b_Y_part 70 = .ok (.ireturn, 1) := by decide +kernel
theorem d_Y_part_71 : decode b_Y_part 71 = .ok (.aload_n 0, 1) := by decide +kernel
theorem d_Y_part_72 : decode b_Y_part 72 = .ok (.getfield 10, 3) := by decide +kernel
theorem d_Y_part_75 : decode b_Y_part 75 = .ok (.iload_n 1, 1) := by decide +kernel
theorem d_Y_part_76 : decode b_Y_part 76 = .ok (.iload_n 3, 1) := by decide +kernel
theorem d_Y_part_77 : decode b_Y_part 77 = .ok (.iload_n 2, 1) := by decide +kernel
theorem d_Y_part_78 : decode b_Y_part 78 = .ok (.invokevirtual 96, 3) := by decide +kernel
theorem d_Y_part_81 : decode b_Y_part 81 = .ok (.istore 7, 2) := by decide +kernel
theorem d_Y_part_83 : decode b_Y_part 83 = .ok (.iload 7, 2) := by decide +kernel
theorem d_Y_part_85 : decode b_Y_part 85 = .ok (.ifCond .ne 6, 3) := by decide +kernel
theorem d_Y_part_88 : decode b_Y_part 88 = .ok (.iload 5, 2) := by decide +kernel
theorem d_Y_part_90 : decode b_Y_part 90 = .ok (.ireturn, 1) := by decide +kernel
theorem d_Y_part_91 : decode b_Y_part 91 = .ok (.aload_n 0, 1) := by decide +kernel
theorem d_Y_part_92 : decode b_Y_part 92 = .ok (.getfield 10, 3) := by decide +kernel
theorem d_Y_part_95 : decode b_Y_part 95 = .ok (.iload_n 3, 1) := by decide +kernel
theorem d_Y_part_96 : decode b_Y_part 96 = .ok (.iload_n 2, 1) := by decide +kernel
theorem d_Y_part_97 : decode b_Y_part 97 = .ok (.invokevirtual 82, 3) := by decide +kernel
theorem d_Y_part_100 : decode b_Y_part 100 = .ok (.istore 8, 2) := by decide +kernel
theorem d_Y_part_102 : decode b_Y_part 102 = .ok (.aload_n 0, 1) := by decide +kernel
theorem d_Y_part_103 : decode b_Y_part 103 = .ok (.getfield 10, 3) := by decide +kernel
theorem d_Y_part_106 : decode b_Y_part 106 = .ok (.iload 4, 2) := by decide +kernel
theorem d_Y_part_108 : decode b_Y_part 108 = .ok (.iload_n 2, 1) := by decide +kernel
theorem d_Y_part_109 : decode b_Y_part 109 = .ok (.invokevirtual 82, 3) := by decide +kernel
theorem d_Y_part_112 : decode b_Y_part 112 = .ok (.istore 9, 2) := by decide +kernel
theorem d_Y_part_114 : decode b_Y_part 114 = .ok (.iload 8, 2) := by decide +kernel
theorem d_Y_part_116 : decode b_Y_part 116 = .ok (.ifCond .eq 8, 3) := by decide +kernel
theorem d_Y_part_119 : decode b_Y_part 119 = .ok (.iload 9, 2) := by decide +kernel
theorem d_Y_part_121 : decode b_Y_part 121 = .ok (.ifCond .ne 7, 3) := by decide +kernel
theorem d_Y_part_124 : decode b_Y_part 124 = .ok (.sipush (-1003), 3) := by decide +kernel
theorem d_Y_part_127 : decode b_Y_part 127 = .ok (.ireturn, 1) := by decide +kernel
theorem d_Y_part_128 : decode b_Y_part 128 = .ok (.iload 9, 2) := by decide +kernel
theorem d_Y_part_130 : decode b_Y_part 130 = .ok (.iload 8, 2) := by decide +kernel
theorem d_Y_part_132 : decode b_Y_part 132 = .ok (.isub, 1) := by decide +kernel
theorem d_Y_part_133 : decode b_Y_part 133 = .ok (.iload 7, 2) := by decide +kernel
theorem d_Y_part_135 : decode b_Y_part 135 = .ok (.imul, 1) := by decide +kernel
theorem d_Y_part_136 : decode b_Y_part 136 = .ok (.iload 6, 2) := by decide +kernel
theorem d_Y_part_138 : decode b_Y_part 138 = .ok (.iload 5, 2) := by decide +kernel
theorem d_Y_part_140 : decode b_Y_part 140 = .ok (.invokestatic 221, 3) := by decide +kernel
theorem d_Y_part_143 : decode b_Y_part 143 = .ok (.ireturn, 1) := by decide +kernel
theorem d_Y_wage_0 : decode b_Y_wage 0 = .ok (.aload_n 0, 1) := by decide +kernel
theorem d_Y_wage_1 : decode b_Y_wage 1 = .ok (.iload_n 1, 1) := by decide +kernel
theorem d_Y_wage_2 : decode b_Y_wage 2 = .ok (.invokevirtual 147, 3) := by decide +kernel
theorem d_Y_wage_5 : decode b_Y_wage 5 = .ok (.ifCond .ne 26, 3) := by decide +kernel
theorem d_Y_wage_8 : decode b_Y_wage 8 = .ok (.iload_n 2, 1) := by decide +kernel
theorem d_Y_wage_9 : decode b_Y_wage 9 = .ok (.invokestatic 104, 3) := by decide +kernel
theorem d_Y_wage_12 : decode b_Y_wage 12 = .ok (.ifCond .ne 19, 3) := by decide +kernel
theorem d_Y_wage_15 : decode b_Y_wage 15 = .ok (.iload 4, 2) := by decide +kernel
theorem d_Y_wage_17 : decode b_Y_wage 17 = .ok (.invokestatic 75, 3) := by decide +kernel
theorem d_Y_wage_20 : decode b_Y_wage 20 = .ok (.ifCond .ne 11, 3) := by decide +kernel
theorem d_Y_wage_23 : decode b_Y_wage 23 = .ok (.iload 5, 2) := by decide +kernel
theorem d_Y_wage_25 : decode b_Y_wage 25 = .ok (.invokestatic 75, 3) := by decide +kernel
theorem d_Y_wage_28 : decode b_Y_wage 28 = .ok (.ifCond .eq 7, 3) := by decide +kernel
theorem d_Y_wage_31 : decode b_Y_wage 31 = .ok (.ldc2_w 150, 3) := by decide +kernel
theorem d_Y_wage_34 : decode b_Y_wage 34 = .ok (.lreturn, 1) := by decide +kernel
theorem d_Y_wage_35 : decode b_Y_wage 35 = .ok (.iload_n 3, 1) := by decide +kernel
theorem d_Y_wage_36 : decode b_Y_wage 36 = .ok (.iconst 1, 1) := by decide +kernel
theorem d_Y_wage_37 : decode b_Y_wage 37 = .ok (.if_icmp .lt 9, 3) := by decide +kernel
theorem d_Y_wage_40 : decode b_Y_wage 40 = .ok (.iload_n 3, 1) := by decide +kernel
theorem d_Y_wage_41 : decode b_Y_wage 41 = .ok (.ldc 224, 2) := by decide +kernel
theorem d_Y_wage_43 : decode b_Y_wage 43 = .ok (.if_icmp .le 7, 3) := by decide +kernel
theorem d_Y_wage_46 : decode b_Y_wage 46 = .ok (.ldc2_w 152, 3) := by decide +kernel
theorem d_Y_wage_49 : decode b_Y_wage 49 = .ok (.lreturn, 1) := by decide +kernel
theorem d_Y_wage_50 : decode b_Y_wage 50 = .ok (.aload_n 0, 1) := by decide +kernel
theorem d_Y_wage_51 : decode b_Y_wage 51 = .ok (.getfield 36, 3) := by decide +kernel
theorem d_Y_wage_54 : decode b_Y_wage 54 = .ok (.aload_n 0, 1) := by decide +kernel
theorem d_Y_wage_55 : decode b_Y_wage 55 = .ok (.iload_n 1, 1) := by decide +kernel
theorem d_Y_wage_56 : decode b_Y_wage 56 = .ok (.invokevirtual 154, 3) := by decide +kernel
theorem d_Y_wage_59 : decode b_Y_wage 59 = .ok (.aload_n 0, 1) := by decide +kernel
theorem d_Y_wage_60 : decode b_Y_wage 60 = .ok (.getfield 10, 3) := by decide +kernel
theorem d_Y_wage_63 : decode b_Y_wage 63 = .ok (.iload_n 2, 1) := by decide +kernel
theorem d_Y_wage_64 : decode b_Y_wage 64 = .ok (.iload 4, 2) := by decide +kernel
theorem d_Y_wage_66 : decode b_Y_wage 66 = .ok (.iload 5, 2) := by decide +kernel
theorem d_Y_wage_68 : decode b_Y_wage 68 = .ok (.aload_n 0, 1) := by decide +kernel
theorem d_Y_wage_69 : decode b_Y_wage 69 = .ok (.getfield 61, 3) := by decide +kernel
theorem d_Y_wage_72 : decode b_Y_wage 72 = .ok (.invokevirtual 158, 3) := by decide +kernel
theorem d_Y_wage_75 : decode b_Y_wage 75 = .ok (.aload_n 0, 1) := by decide +kernel
theorem d_Y_wage_76 : decode b_Y_wage 76 = .ok (.getfield 61, 3) := by decide +kernel
theorem d_Y_wage_79 : decode b_Y_wage 79 = .ok (.getfield 162, 3) := by decide +kernel
theorem d_Y_wage_82 : decode b_Y_wage 82 = .ok (.ifCond .eq 12, 3) := by decide +kernel
theorem d_Y_wage_85 : decode b_Y_wage 85 = .ok (.aload_n 0, 1) := by decide +kernel
theorem d_Y_wage_86 : decode b_Y_wage 86 = .ok (.getfield 61, 3) := by decide +kernel
theorem d_Y_wage_89 : decode b_Y_wage 89 = .ok (.getfield 162, 3) := by decide +kernel
theorem d_Y_wage_92 : decode b_Y_wage 92 = .ok (.i2l, 1) := by decide +kernel
theorem d_Y_wage_93 : decode b_Y_wage 93 = .ok (.lreturn, 1) := by decide +kernel
theorem d_Y_wage_94 : decode b_Y_wage 94 = .ok (.aload_n 0, 1) := by decide +kernel
theorem d_Y_wage_95 : decode b_Y_wage 95 = .ok (.getfield 61, 3) := by decide +kernel
theorem d_Y_wage_98 : decode b_Y_wage 98 = .ok (.getfield 165, 3) := by decide +kernel
theorem d_Y_wage_101 : decode b_Y_wage 101 = .ok (.ifCond .eq 11, 3) := by decide +kernel
theorem d_Y_wage_104 : decode b_Y_wage 104 = .ok (.iload_n 3, 1) := by decide +kernel
theorem d_Y_wage_105 : decode b_Y_wage 105 = .ok (.i2l, 1) := by decide +kernel
theorem d_Y_wage_106 : decode b_Y_wage 106 = .ok (.iload_n 3, 1) := by decide +kernel
theorem d_Y_wage_107 : decode b_Y_wage 107 = .ok (.i2l, 1) := by decide +kernel
theorem d_Y_wage_108 : decode b_Y_wage 108 = .ok (.lmul, 1) := by decide +kernel
theorem d_Y_wage_109 : decode b_Y_wage 109 = .ok (.goto 5, 3) := by decide +kernel
theorem d_Y_wage_112 : decode b_Y_wage 112 = .ok (.iload_n 3, 1) := by decide +kernel
theorem d_Y_wage_113 : decode b_Y_wage 113 = .ok (.i2l, 1) := by decide +kernel
theorem d_Y_wage_114 : decode b_Y_wage 114 = .ok (.lstore 6, 2) := by decide +kernel
theorem d_Y_wage_116 : decode b_Y_wage 116 = .ok (.lload 6, 2) := by decide +kernel
theorem d_Y_wage_118 : decode b_Y_wage 118 = .ok (.aload_n 0, 1) := by decide +kernel
theorem d_Y_wage_119 : decode b_Y_wage 119 = .ok (.getfield 61, 3) := by decide +kernel
theorem d_Y_wage_122 : decode b_Y_wage 122 = .ok (.getfield 169, 3) := by decide +kernel
theorem d_Y_wage_125 : decode b_Y_wage 125 = .ok (.ldc2_w 225, 3) := by decide +kernel
theorem d_Y_wage_128 : decode b_Y_wage 128 = .ok (.invokestatic 227, 3) := by decide +kernel
theorem d_Y_wage_131 : decode b_Y_wage 131 = .ok (.ifCond .eq 7, 3) := by decide +kernel
theorem d_Y_wage_134 : decode b_Y_wage 134 = .ok (.ldc2_w 231, 3) := by decide +kernel
theorem d_Y_wage_137 : decode b_Y_wage 137 = .ok (.lreturn, 1) := by decide +kernel
theorem d_Y_wage_138 : decode b_Y_wage 138 = .ok (.aload_n 0, 1) := by decide +kernel
theorem d_Y_wage_139 : decode b_Y_wage 139 = .ok (.getfield 61, 3) := by decide +kernel
theorem d_Y_wage_142 : decode b_Y_wage 142 = .ok (.getfield 173, 3) := by decide +kernel
theorem d_Y_wage_145 : decode b_Y_wage 145 = .ok (.lconst 1, 1) := by decide +kernel
theorem d_Y_wage_146 : decode b_Y_wage 146 = .ok (.lcmp, 1) := by decide +kernel
theorem d_Y_wage_147 : decode b_Y_wage 147 = .ok (.ifCond .ge 7, 3) := by decide +kernel
theorem d_Y_wage_150 : decode b_Y_wage 150 = .ok (.ldc2_w 200, 3) := by decide +kernel
theorem d_Y_wage_153 : decode b_Y_wage 153 = .ok (.lreturn, 1) := by decide +kernel
theorem d_Y_wage_154 : decode b_Y_wage 154 = .ok (.lload 6, 2) := by decide +kernel
theorem d_Y_wage_156 : decode b_Y_wage 156 = .ok (.aload_n 0, 1) := by decide +kernel
theorem d_Y_wage_157 : decode b_Y_wage 157 = .ok (.getfield 61, 3) := by decide +kernel
theorem d_Y_wage_160 : decode b_Y_wage 160 = .ok (.getfield 169, 3) := by decide +kernel
theorem d_Y_wage_163 : decode b_Y_wage 163 = .ok (.lmul, 1) := by decide +kernel
theorem d_Y_wage_164 : decode b_Y_wage 164 = .ok (.aload_n 0, 1) := by decide +kernel
theorem d_Y_wage_165 : decode b_Y_wage 165 = .ok (.getfield 61, 3) := by decide +kernel
theorem d_Y_wage_168 : decode b_Y_wage 168 = .ok (.getfield 173, 3) := by decide +kernel
theorem d_Y_wage_171 : decode b_Y_wage 171 = .ok (.ldiv, 1) := by decide +kernel
theorem d_Y_wage_172 : decode b_Y_wage 172 = .ok (.lstore 8, 2) := by decide +kernel
theorem d_Y_wage_174 : decode b_Y_wage 174 = .ok (.aload_n 0, 1) := by decide +kernel
theorem d_Y_wage_175 : decode b_Y_wage 175 = .ok (.getfield 61, 3) := by decide +kernel
theorem d_Y_wage_178 : decode b_Y_wage 178 = .ok (.getfield 165, 3) := by decide +kernel
theorem d_Y_wage_181 : decode b_Y_wage 181 = .ok (.ifCond .eq 11, 3) := by decide +kernel
theorem d_Y_wage_184 : decode b_Y_wage 184 = .ok (.lload 8, 2) := by decide +kernel
theorem d_Y_wage_186 : decode b_Y_wage 186 = .ok (.invokestatic 233, 3) := by decide +kernel
theorem d_Y_wage_189 : decode b_Y_wage 189 = .ok (.goto 5, 3) := by decide +kernel
theorem d_Y_wage_192 : decode b_Y_wage 192 = .ok (.lload 8, 2) := by decide +kernel
theorem d_Y_wage_194 : decode b_Y_wage 194 = .ok (.lreturn, 1) := by decide +kernel
theorem d_Y_dearest_0 : decode b_Y_dearest 0 = .ok (.aload_n 0, 1) := by decide +kernel
theorem d_Y_dearest_1 : decode b_Y_dearest 1 = .ok (.iload_n 1, 1) := by decide +kernel
theorem d_Y_dearest_2 : decode b_Y_dearest 2 = .ok (.invokevirtual 147, 3) := by decide +kernel
theorem d_Y_dearest_5 : decode b_Y_dearest 5 = .ok (.ifCond .ne 17, 3) := by decide +kernel
theorem d_Y_dearest_8 : decode b_Y_dearest 8 = .ok (.iload_n 2, 1) := by decide +kernel
theorem d_Y_dearest_9 : decode b_Y_dearest 9 = .ok (.invokestatic 75, 3) := by decide +kernel
theorem d_Y_dearest_12 : decode b_Y_dearest 12 = .ok (.ifCond .ne 10, 3) := by decide +kernel
theorem d_Y_dearest_15 : decode b_Y_dearest 15 = .ok (.iload_n 3, 1) := by decide +kernel
theorem d_Y_dearest_16 : decode b_Y_dearest 16 = .ok (.invokestatic 75, 3) := by decide +kernel
theorem d_Y_dearest_19 : decode b_Y_dearest 19 = .ok (.ifCond .eq 7, 3) := by decide +kernel
theorem d_Y_dearest_22 : decode b_Y_dearest 22 = .ok (.sipush (-1001), 3) := by decide +kernel
theorem d_Y_dearest_25 : decode b_Y_dearest 25 = .ok (.ireturn, 1) := by decide +kernel
theorem d_Y_dearest_26 : decode b_Y_dearest 26 = .ok (.iconst (-1), 1) := by decide +kernel
theorem d_Y_dearest_27 : decode b_Y_dearest 27 = .ok (.istore 4, 2) := by decide +kernel
theorem d_Y_dearest_29 : decode b_Y_dearest 29 = .ok (.iconst 0, 1) := by decide +kernel
theorem d_Y_dearest_30 : decode b_Y_dearest 30 = .ok (.istore 5, 2) := by decide +kernel
theorem d_Y_dearest_32 : decode b_Y_dearest 32 = .ok (.iload 5, 2) := by decide +kernel
theorem d_Y_dearest_34 : decode b_Y_dearest 34 = .ok (.iconst 3, 1) := by decide +kernel
theorem d_Y_dearest_35 : decode b_Y_dearest 35 = .ok (.if_icmp .ge 82, 3) := by decide +kernel
theorem d_Y_dearest_38 : decode b_Y_dearest 38 = .ok (.aload_n 0, 1) := by decide +kernel
theorem d_Y_dearest_39 : decode b_Y_dearest 39 = .ok (.getfield 36, 3) := by decide +kernel
theorem d_Y_dearest_42 : decode b_Y_dearest 42 = .ok (.aload_n 0, 1) := by decide +kernel
theorem d_Y_dearest_43 : decode b_Y_dearest 43 = .ok (.iload_n 1, 1) := by decide +kernel
theorem d_Y_dearest_44 : decode b_Y_dearest 44 = .ok (.invokevirtual 154, 3) := by decide +kernel
theorem d_Y_dearest_47 : decode b_Y_dearest 47 = .ok (.aload_n 0, 1) := by decide +kernel
theorem d_Y_dearest_48 : decode b_Y_dearest 48 = .ok (.getfield 10, 3) := by decide +kernel
theorem d_Y_dearest_51 : decode b_Y_dearest 51 = .ok (.iload 5, 2) := by decide +kernel
theorem d_Y_dearest_53 : decode b_Y_dearest 53 = .ok (.iload_n 2, 1) := by decide +kernel
theorem d_Y_dearest_54 : decode b_Y_dearest 54 = .ok (.iload_n 3, 1) := by decide +kernel
theorem d_Y_dearest_55 : decode b_Y_dearest 55 = .ok (.aload_n 0, 1) := by decide +kernel
theorem d_Y_dearest_56 : decode b_Y_dearest 56 = .ok (.getfield 65, 3) := by decide +kernel
theorem d_Y_dearest_59 : decode b_Y_dearest 59 = .ok (.invokevirtual 158, 3) := by decide +kernel
theorem d_Y_dearest_62 : decode b_Y_dearest 62 = .ok (.aload_n 0, 1) := by decide +kernel
theorem d_Y_dearest_63 : decode b_Y_dearest 63 = .ok (.getfield 65, 3) := by decide +kernel
theorem d_Y_dearest_66 : decode b_Y_dearest 66 = .ok (.getfield 162, 3) := by decide +kernel
theorem d_Y_dearest_69 : decode b_Y_dearest 69 = .ok (.ifCond .eq 6, 3) := by decide +kernel
theorem d_Y_dearest_72 : decode b_Y_dearest 72 = .ok (.goto 39, 3) := by decide +kernel
theorem d_Y_dearest_75 : decode b_Y_dearest 75 = .ok (.iload 4, 2) := by decide +kernel
theorem d_Y_dearest_77 : decode b_Y_dearest 77 = .ok (.iconst (-1), 1) := by decide +kernel
theorem d_Y_dearest_78 : decode b_Y_dearest 78 = .ok (.if_icmp .eq 18, 3) := by decide +kernel
theorem d_Y_dearest_81 : decode b_Y_dearest 81 = .ok (.aload_n 0, 1) := by decide +kernel
theorem d_Y_dearest_82 : decode b_Y_dearest 82 = .ok (.getfield 65, 3) := by decide +kernel
theorem d_Y_dearest_85 : decode b_Y_dearest 85 = .ok (.aload_n 0, 1) := by decide +kernel
theorem d_Y_dearest_86 : decode b_Y_dearest 86 = .ok (.getfield 61, 3) := by decide +kernel
theorem d_Y_dearest_89 : decode b_Y_dearest 89 = .ok (.invokestatic 176, 3) := by decide +kernel
theorem d_Y_dearest_92 : decode b_Y_dearest 92 = .ok (.iconst 1, 1) := by decide +kernel
theorem d_Y_dearest_93 : decode b_Y_dearest 93 = .ok (.if_icmp .ne 18, 3) := by decide +kernel
theorem d_Y_dearest_96 : decode b_Y_dearest 96 = .ok (.aload_n 0, 1) := by decide +kernel
theorem d_Y_dearest_97 : decode b_Y_dearest 97 = .ok (.getfield 61, 3) := by decide +kernel
theorem d_Y_dearest_100 : decode b_Y_dearest 100 = .ok (.aload_n 0, 1) := by decide +kernel
theorem d_Y_dearest_101 : decode b_Y_dearest 101 = .ok (.getfield 65, 3) := by decide +kernel
theorem d_Y_dearest_104 : decode b_Y_dearest 104 = .ok (.invokevirtual 237, 3) := by decide +kernel
theorem d_Y_dearest_107 : decode b_Y_dearest 107 = .ok (.iload 5, 2) := by decide +kernel
theorem d_Y_dearest_109 : decode b_Y_dearest 109 = .ok (.istore 4, 2) := by decide +kernel
theorem d_Y_dearest_111 : decode b_Y_dearest 111 = .ok (.iinc 5 1, 3) := by decide +kernel
theorem d_Y_dearest_114 : decode b_Y_dearest 114 = .ok (.goto (-82), 3) := by decide +kernel
theorem d_Y_dearest_117 : decode b_Y_dearest 117 = .ok (.iload 4, 2) := by decide +kernel
theorem d_Y_dearest_119 : decode b_Y_dearest 119 = .ok (.ireturn, 1) := by decide +kernel
theorem d_Y_turn_0 : decode b_Y_turn 0 = .ok (.aload_n 0, 1) := by decide +kernel
theorem d_Y_turn_1 : decode b_Y_turn 1 = .ok (.iload_n 1, 1) := by decide +kernel
theorem d_Y_turn_2 : decode b_Y_turn 2 = .ok (.invokevirtual 147, 3) := by decide +kernel
theorem d_Y_turn_5 : decode b_Y_turn 5 = .ok (.ifCond .ne 41, 3) := by decide +kernel
theorem d_Y_turn_8 : decode b_Y_turn 8 = .ok (.iload_n 2, 1) := by decide +kernel
theorem d_Y_turn_9 : decode b_Y_turn 9 = .ok (.invokestatic 104, 3) := by decide +kernel
theorem d_Y_turn_12 : decode b_Y_turn 12 = .ok (.ifCond .ne 34, 3) := by decide +kernel
theorem d_Y_turn_15 : decode b_Y_turn 15 = .ok (.iload_n 3, 1) := by decide +kernel
theorem d_Y_turn_16 : decode b_Y_turn 16 = .ok (.invokestatic 75, 3) := by decide +kernel
theorem d_Y_turn_19 : decode b_Y_turn 19 = .ok (.ifCond .ne 27, 3) := by decide +kernel
theorem d_Y_turn_22 : decode b_Y_turn 22 = .ok (.iload 4, 2) := by decide +kernel
theorem d_Y_turn_24 : decode b_Y_turn 24 = .ok (.invokestatic 75, 3) := by decide +kernel
theorem d_Y_turn_27 : decode b_Y_turn 27 = .ok (.ifCond .ne 19, 3) := by decide +kernel
theorem d_Y_turn_30 : decode b_Y_turn 30 = .ok (.iload 5, 2) := by decide +kernel
theorem d_Y_turn_32 : decode b_Y_turn 32 = .ok (.invokestatic 75, 3) := by decide +kernel
theorem d_Y_turn_35 : decode b_Y_turn 35 = .ok (.ifCond .ne 11, 3) := by decide +kernel
theorem d_Y_turn_38 : decode b_Y_turn 38 = .ok (.iload 6, 2) := by decide +kernel
theorem d_Y_turn_40 : decode b_Y_turn 40 = .ok (.invokestatic 79, 3) := by decide +kernel
theorem d_Y_turn_43 : decode b_Y_turn 43 = .ok (.ifCond .eq 7, 3) := by decide +kernel
theorem d_Y_turn_46 : decode b_Y_turn 46 = .ok (.sipush (-1001), 3) := by decide +kernel
theorem d_Y_turn_49 : decode b_Y_turn 49 = .ok (.ireturn, 1) := by decide +kernel
theorem d_Y_turn_50 : decode b_Y_turn 50 = .ok (.iload 7, 2) := by decide +kernel
theorem d_Y_turn_52 : decode b_Y_turn 52 = .ok (.iconst 1, 1) := by decide +kernel
theorem d_Y_turn_53 : decode b_Y_turn 53 = .ok (.if_icmp .lt 25, 3) := by decide +kernel
theorem d_Y_turn_56 : decode b_Y_turn 56 = .ok (.iload 7, 2) := by decide +kernel
theorem d_Y_turn_58 : decode b_Y_turn 58 = .ok (.sipush 9999, 3) := by decide +kernel
theorem d_Y_turn_61 : decode b_Y_turn 61 = .ok (.if_icmp .gt 17, 3) := by decide +kernel
theorem d_Y_turn_64 : decode b_Y_turn 64 = .ok (.iload 8, 2) := by decide +kernel
theorem d_Y_turn_66 : decode b_Y_turn 66 = .ok (.iconst 1, 1) := by decide +kernel
theorem d_Y_turn_67 : decode b_Y_turn 67 = .ok (.if_icmp .lt 11, 3) := by decide +kernel
theorem d_Y_turn_70 : decode b_Y_turn 70 = .ok (.iload 8, 2) := by decide +kernel
theorem d_Y_turn_72 : decode b_Y_turn 72 = .ok (.sipush 9999, 3) := by decide +kernel
theorem d_Y_turn_75 : decode b_Y_turn 75 = .ok (.if_icmp .le 7, 3) := by decide +kernel
theorem d_Y_turn_78 : decode b_Y_turn 78 = .ok (.sipush (-1002), 3) := by decide +kernel
theorem d_Y_turn_81 : decode b_Y_turn 81 = .ok (.ireturn, 1) := by decide +kernel
theorem d_Y_turn_82 : decode b_Y_turn 82 = .ok (.aload_n 0, 1) := by decide +kernel
theorem d_Y_turn_83 : decode b_Y_turn 83 = .ok (.getfield 65, 3) := by decide +kernel
theorem d_Y_turn_86 : decode b_Y_turn 86 = .ok (.iload 7, 2) := by decide +kernel
theorem d_Y_turn_88 : decode b_Y_turn 88 = .ok (.i2l, 1) := by decide +kernel
theorem d_Y_turn_89 : decode b_Y_turn 89 = .ok (.iload 8, 2) := by decide +kernel
theorem d_Y_turn_91 : decode b_Y_turn 91 = .ok (.i2l, 1) := by decide +kernel
theorem d_Y_turn_92 : decode b_Y_turn 92 = .ok (.invokevirtual 240, 3) := by decide +kernel
theorem d_Y_turn_95 : decode b_Y_turn 95 = .ok (.aload_n 0, 1) := by decide +kernel
theorem d_Y_turn_96 : decode b_Y_turn 96 = .ok (.getfield 16, 3) := by decide +kernel
theorem d_Y_turn_99 : decode b_Y_turn 99 = .ok (.aload_n 0, 1) := by decide +kernel
theorem d_Y_turn_100 : decode b_Y_turn 100 = .ok (.getfield 10, 3) := by decide +kernel
theorem d_Y_turn_103 : decode b_Y_turn 103 = .ok (.invokevirtual 244, 3) := by decide +kernel
theorem d_Y_turn_106 : decode b_Y_turn 106 = .ok (.iconst 1, 1) := by decide +kernel
theorem d_Y_turn_107 : decode b_Y_turn 107 = .ok (.istore 9, 2) := by decide +kernel
theorem d_Y_turn_109 : decode b_Y_turn 109 = .ok (.iload 9, 2) := by decide +kernel
theorem d_Y_turn_111 : decode b_Y_turn 111 = .ok (.bipush 99, 2) := by decide +kernel
theorem d_Y_turn_113 : decode b_Y_turn 113 = .ok (.if_icmp .gt 86, 3) := by decide +kernel
theorem d_Y_turn_116 : decode b_Y_turn 116 = .ok (.aload_n 0, 1) := by decide +kernel
theorem d_Y_turn_117 : decode b_Y_turn 117 = .ok (.getfield 16, 3) := by decide +kernel
theorem d_Y_turn_120 : decode b_Y_turn 120 = .ok (.iload 5, 2) := by decide +kernel
theorem d_Y_turn_122 : decode b_Y_turn 122 = .ok (.iload 6, 2) := by decide +kernel
theorem d_Y_turn_124 : decode b_Y_turn 124 = .ok (.iload 9, 2) := by decide +kernel
theorem d_Y_turn_126 : decode b_Y_turn 126 = .ok (.invokevirtual 86, 3) := by decide +kernel
theorem d_Y_turn_129 : decode b_Y_turn 129 = .ok (.aload_n 0, 1) := by decide +kernel
theorem d_Y_turn_130 : decode b_Y_turn 130 = .ok (.getfield 36, 3) := by decide +kernel
theorem d_Y_turn_133 : decode b_Y_turn 133 = .ok (.aload_n 0, 1) := by decide +kernel
theorem d_Y_turn_134 : decode b_Y_turn 134 = .ok (.iload_n 1, 1) := by decide +kernel
theorem d_Y_turn_135 : decode b_Y_turn 135 = .ok (.invokevirtual 154, 3) := by decide +kernel
theorem d_Y_turn_138 : decode b_Y_turn 138 = .ok (.aload_n 0, 1) := by decide +kernel
theorem d_Y_turn_139 : decode b_Y_turn 139 = .ok (.getfield 16, 3) := by decide +kernel
theorem d_Y_turn_142 : decode b_Y_turn 142 = .ok (.iload_n 2, 1) := by decide +kernel
theorem d_Y_turn_143 : decode b_Y_turn 143 = .ok (.iload_n 3, 1) := by decide +kernel
theorem d_Y_turn_144 : decode b_Y_turn 144 = .ok (.iload 4, 2) := by decide +kernel
theorem d_Y_turn_146 : decode b_Y_turn 146 = .ok (.aload_n 0, 1) := by decide +kernel
theorem d_Y_turn_147 : decode b_Y_turn 147 = .ok (.getfield 61, 3) := by decide +kernel
theorem d_Y_turn_150 : decode b_Y_turn 150 = .ok (.invokevirtual 158, 3) := by decide +kernel
theorem d_Y_turn_153 : decode b_Y_turn 153 = .ok (.aload_n 0, 1) := by decide +kernel
theorem d_Y_turn_154 : decode b_Y_turn 154 = .ok (.getfield 61, 3) := by decide +kernel
theorem d_Y_turn_157 : decode b_Y_turn 157 = .ok (.getfield 162, 3) := by decide +kernel
theorem d_Y_turn_160 : decode b_Y_turn 160 = .ok (.ifCond .eq 6, 3) := by decide +kernel
theorem d_Y_turn_163 : decode b_Y_turn 163 = .ok (.goto 30, 3) := by decide +kernel
theorem d_Y_turn_166 : decode b_Y_turn 166 = .ok (.aload_n 0, 1) := by decide +kernel
theorem d_Y_turn_167 : decode b_Y_turn 167 = .ok (.getfield 61, 3) := by decide +kernel
theorem d_Y_turn_170 : decode b_Y_turn 170 = .ok (.aload_n 0, 1) := by decide +kernel
theorem d_Y_turn_171 : decode b_Y_turn 171 = .ok (.getfield 65, 3) := by decide +kernel
theorem d_Y_turn_174 : decode b_Y_turn 174 = .ok (.invokestatic 176, 3) := by decide +kernel
theorem d_Y_turn_177 : decode b_Y_turn 177 = .ok (.istore 10, 2) := by decide +kernel
theorem d_Y_turn_179 : decode b_Y_turn 179 = .ok (.iload 10, 2) := by decide +kernel
theorem d_Y_turn_181 : decode b_Y_turn 181 = .ok (.ifCond .eq 9, 3) := by decide +kernel
theorem d_Y_turn_184 : decode b_Y_turn 184 = .ok (.iload 10, 2) := by decide +kernel
theorem d_Y_turn_186 : decode b_Y_turn 186 = .ok (.iconst 1, 1) := by decide +kernel
theorem d_Y_turn_187 : decode b_Y_turn 187 = .ok (.if_icmp .ne 6, 3) := by decide +kernel
theorem d_Y_turn_190 : decode b_Y_turn 190 = .ok (.iload 9, 2) := by decide +kernel
theorem d_Y_turn_192 : decode b_Y_turn 192 = .ok (.ireturn, 1) := by decide +kernel
theorem d_Y_turn_193 : decode b_Y_turn 193 = .ok (.iinc 9 1, 3) := by decide +kernel
theorem d_Y_turn_196 : decode b_Y_turn 196 = .ok (.goto (-87), 3) := by decide +kernel
theorem d_Y_turn_199 : decode b_Y_turn 199 = .ok (.iconst (-1), 1) := by decide +kernel
theorem d_Y_turn_200 : decode b_Y_turn 200 = .ok (.ireturn, 1) := by decide +kernel
def f_Y_price (this : Nat) (x1 : Int32) (x2 : Int32) (x3 : Int32) (h : Hp) : Option ((Int32 × Hp)) :=
  if isO h this 7 = true then
  (f_Y_isNoYear x1).bind fun i2 =>
  if i2 = 0 then
    (f_Y_isNoGood x2).bind fun i4 =>
    if i4 = 0 then
      if x3 < 0 then
        some ((-1002 : Int32), h)
      else
      if x3 ≤ (99 : Int32) then
        (gA h this 7 0).bind fun r5 =>
        (r5).bind fun a7 =>
        (f_B_priceOf a7 h x1 x2).bind fun i10 =>
        (gA h this 7 0).bind fun r11 =>
        (r11).bind fun a13 =>
        (f_B_setPrice a13 x1 x2 x3 h).bind fun h16 =>
        (gA h16 this 7 5).bind fun r17 =>
        (r17).bind fun a19 =>
        (f_L_forget a19 h16).bind fun h22 =>
        some (i10, h22)
      else
      some ((-1002 : Int32), h)
    else
    some ((-1001 : Int32), h)
  else
  some ((-1001 : Int32), h)
  else none
theorem o_Y_price {this : Nat} {x1 : Int32} {x2 : Int32} {x3 : Int32} {h : Hp} {r0 : Int32} {h0 : Hp} (hf : f_Y_price this x1 x2 x3 h = some (r0, h0)) : isO h this 7 = true := by
  unfold f_Y_price at hf
  exact (z_gd hf).1
set_option maxRecDepth 100000 in
set_option maxHeartbeats 4000000 in
theorem c_Y_price {l : Launch} {N0 : Nat} {D : va_G} {cs : Nat → ClassId} {this : Nat} {x1 : Int32} {x2 : Int32} {x3 : Int32} {h : Hp} {r0 : Int32} {h0 : Hp} (hf : f_Y_price this x1 x2 x3 h = some (r0, h0)) : Fn l N0 D cs y_Y_price b_Y_price 5 (some .int) 2 0 0 [.ref this, .int x1, .int x2, .int x3] h (some (.int r0)) h0 := by
  refine z_start (by decide) (Nat.le_of_ble_eq_true rfl) ?_
  intro p e s m args below meth c M hH hS ls hl
  unfold f_Y_price at hf
  obtain ⟨hO, hf⟩ := z_gd hf
  have hl : lv_has ls 5 [(0, .ref this), (1, .int x1), (2, .int x2), (3, .int x3)] := hl
  obtain ⟨H, hHe⟩ : ∃ H, H = s.heap := ⟨_, rfl⟩
  obtain ⟨locs, hLe⟩ : ∃ locs : List Loc, locs = [] := ⟨_, rfl⟩
  have hS : va_S (zA N0) s.heap H locs := by rw [hHe, hLe]; exact hS
  have hH : HH N0 D cs h H := by rw [hHe]; exact hH
  suffices hg : W p l e (zrm 2 0 0) s m args below meth c H locs 0 0 (MQ below (zQ N0 D cs (some (.int r0)) h0) args s 0 0 (zA N0)) (F0 m 0 ls []) by rw [hHe, hLe] at hg; exact hg
  clear hHe hLe
  refine lv_iload_n M.x M.b d_Y_price_0 rfl (lv_at hl 1 rfl) ?_
  replace hf := z_bind hf; obtain ⟨i2, e1, hf⟩ := hf
  refine zk_S (st1 := [.int i2]) M hH hS (c_Y_isNoYear e1) w_Y_isNoYear q_422 [] rfl ⟨Nat.le_of_ble_eq_true rfl, Nat.le_of_ble_eq_true rfl⟩ hl.1 rfl rfl (Nat.le_of_ble_eq_true rfl) d_Y_price_1 (fun H locs hH hS => ?_)
  refine lv_if_ne (tgt := 14) M.x M.b d_Y_price_4 (by decide) (fun c26 => ?_) (fun c26 => ?_)
  · replace hf := z_f c26 hf
    refine lv_sipush (v := (-1001 : Int32)) M.x M.b d_Y_price_14 rfl ?_
    obtain ⟨rfl, rfl⟩ := z_r2 hf
    exact z_iret M hH hS d_Y_price_17
  · replace hf := z_t c26 hf
    refine lv_iload_n M.x M.b d_Y_price_7 rfl (lv_at hl 2 rfl) ?_
    replace hf := z_bind hf; obtain ⟨i4, e3, hf⟩ := hf
    refine zk_S (st1 := [.int i4]) M hH hS (c_Y_isNoGood e3) w_Y_isNoGood q_421 [] rfl ⟨Nat.le_of_ble_eq_true rfl, Nat.le_of_ble_eq_true rfl⟩ hl.1 rfl rfl (Nat.le_of_ble_eq_true rfl) d_Y_price_8 (fun H locs hH hS => ?_)
    refine lv_if_eq (tgt := 18) M.x M.b d_Y_price_11 (by decide) (fun c25 => ?_) (fun c25 => ?_)
    · replace hf := z_t c25 hf
      refine lv_iload_n M.x M.b d_Y_price_18 rfl (lv_at hl 3 rfl) ?_
      refine lv_if_lt (tgt := 28) M.x M.b d_Y_price_19 (by decide) (fun c24 => ?_) (fun c24 => ?_)
      · replace hf := z_t c24 hf
        refine lv_sipush (v := (-1002 : Int32)) M.x M.b d_Y_price_28 rfl ?_
        obtain ⟨rfl, rfl⟩ := z_r2 hf
        exact z_iret M hH hS d_Y_price_31
      · replace hf := z_f c24 hf
        refine lv_iload_n M.x M.b d_Y_price_22 rfl (lv_at hl 3 rfl) ?_
        refine lv_bipush (v := (99 : Int32)) M.x M.b d_Y_price_23 rfl ?_
        refine lv_icmp_le (tgt := 32) M.x M.b d_Y_price_25 (by decide) (fun c23 => ?_) (fun c23 => ?_)
        · replace hf := z_t c23 hf
          refine lv_aload_n M.x M.b d_Y_price_32 rfl (lv_at hl 0 rfl) ?_
          replace hf := z_bind hf; obtain ⟨r5, e6, hf⟩ := hf
          refine z_get (ci := 7) (k := 0) M hH rfl (by decide) zinY q_419 (gA_spec e6) d_Y_price_33 ?_
          refine lv_iload_n M.x M.b d_Y_price_36 rfl (lv_at hl 1 rfl) ?_
          refine lv_iload_n M.x M.b d_Y_price_37 rfl (lv_at hl 2 rfl) ?_
          rcases r5 with _ | a7
          · exact absurd hf z_nb0
          replace hf := z_sb hf
          replace hf := z_bind hf; obtain ⟨i10, e9, hf⟩ := hf
          refine zk_V (ci := 0) (st1 := [.int i10]) M hH hS (c_B_priceOf e9) rfl (o_B_priceOf e9) w_B_priceOf q_420 [] rfl ⟨Nat.le_of_ble_eq_true rfl, Nat.le_of_ble_eq_true rfl⟩ hl.1 rfl rfl (Nat.le_of_ble_eq_true rfl) d_Y_price_38 (fun H locs hH hS => ?_)
          refine lv_istore (lv' := [(4, .int i10), (0, .ref this), (1, .int x1), (2, .int x2), (3, .int x3)]) M.x M.b d_Y_price_41 hl (by decide) rfl (fun ls hl => ?_)
          refine lv_aload_n M.x M.b d_Y_price_43 rfl (lv_at hl 1 rfl) ?_
          replace hf := z_bind hf; obtain ⟨r11, e12, hf⟩ := hf
          refine z_get (ci := 7) (k := 0) M hH rfl (by decide) zinY q_419 (gA_spec e12) d_Y_price_44 ?_
          refine lv_iload_n M.x M.b d_Y_price_47 rfl (lv_at hl 2 rfl) ?_
          refine lv_iload_n M.x M.b d_Y_price_48 rfl (lv_at hl 3 rfl) ?_
          refine lv_iload_n M.x M.b d_Y_price_49 rfl (lv_at hl 4 rfl) ?_
          rcases r11 with _ | a13
          · exact absurd hf z_nb0
          replace hf := z_sb hf
          replace hf := z_bind hf; obtain ⟨h16, e15, hf⟩ := hf
          refine zk_V (ci := 0) (st1 := []) M hH hS (c_B_setPrice e15) rfl (o_B_setPrice e15) w_B_setPrice q_418 [] rfl ⟨Nat.le_of_ble_eq_true rfl, Nat.le_of_ble_eq_true rfl⟩ hl.1 rfl rfl (Nat.le_of_ble_eq_true rfl) d_Y_price_50 (fun H locs hH hS => ?_)
          refine lv_aload_n M.x M.b d_Y_price_53 rfl (lv_at hl 1 rfl) ?_
          replace hf := z_bind hf; obtain ⟨r17, e18, hf⟩ := hf
          refine z_get (ci := 7) (k := 5) M hH rfl (by decide) zinY q_417 (gA_spec e18) d_Y_price_54 ?_
          rcases r17 with _ | a19
          · exact absurd hf z_nb0
          replace hf := z_sb hf
          replace hf := z_bind hf; obtain ⟨h22, e21, hf⟩ := hf
          refine zk_V (ci := 2) (st1 := []) M hH hS (c_L_forget e21) rfl (o_L_forget e21) w_L_forget q_416 [] rfl ⟨Nat.le_of_ble_eq_true rfl, Nat.le_of_ble_eq_true rfl⟩ hl.1 rfl rfl (Nat.le_of_ble_eq_true rfl) d_Y_price_57 (fun H locs hH hS => ?_)
          refine lv_iload M.x M.b d_Y_price_60 (lv_at hl 0 rfl) ?_
          obtain ⟨rfl, rfl⟩ := z_r2 hf
          exact z_iret M hH hS d_Y_price_62
        · replace hf := z_f c23 hf
          refine lv_sipush (v := (-1002 : Int32)) M.x M.b d_Y_price_28 rfl ?_
          obtain ⟨rfl, rfl⟩ := z_r2 hf
          exact z_iret M hH hS d_Y_price_31
    · replace hf := z_f c25 hf
      refine lv_sipush (v := (-1001 : Int32)) M.x M.b d_Y_price_14 rfl ?_
      obtain ⟨rfl, rfl⟩ := z_r2 hf
      exact z_iret M hH hS d_Y_price_17
def f_Y_bought (this : Nat) (x1 : Int32) (x2 : Int32) (x3 : Int32) (x4 : Int32) (h : Hp) : Option ((Int32 × Hp)) :=
  if isO h this 7 = true then
  (f_Y_isNoPerson x1).bind fun i2 =>
  if i2 = 0 then
    (f_Y_isNoYear x2).bind fun i4 =>
    if i4 = 0 then
      (f_Y_isNoGood x3).bind fun i6 =>
      if i6 = 0 then
        if x4 < 0 then
          some ((-1002 : Int32), h)
        else
        if x4 ≤ (9 : Int32) then
          (gA h this 7 0).bind fun r7 =>
          (r7).bind fun a9 =>
          (f_B_amountOf a9 h x1 x2 x3).bind fun i12 =>
          (gA h this 7 0).bind fun r13 =>
          (r13).bind fun a15 =>
          (f_B_setAmount a15 x1 x2 x3 x4 h).bind fun h18 =>
          (gA h18 this 7 0).bind fun r19 =>
          (gA h18 this 7 0).bind fun r21 =>
          (r21).bind fun a23 =>
          (r19).bind fun a25 =>
          (f_B_amountOf a23 h18 (3 : Int32) x2 x3).bind fun i28 =>
          (f_B_setAmount a25 (3 : Int32) x2 x3 ((i28 - i12) + x4) h18).bind fun h30 =>
          (gA h30 this 7 5).bind fun r31 =>
          (r31).bind fun a33 =>
          (f_L_forget a33 h30).bind fun h36 =>
          some (i12, h36)
        else
        some ((-1002 : Int32), h)
      else
      some ((-1001 : Int32), h)
    else
    some ((-1001 : Int32), h)
  else
  some ((-1001 : Int32), h)
  else none
theorem o_Y_bought {this : Nat} {x1 : Int32} {x2 : Int32} {x3 : Int32} {x4 : Int32} {h : Hp} {r0 : Int32} {h0 : Hp} (hf : f_Y_bought this x1 x2 x3 x4 h = some (r0, h0)) : isO h this 7 = true := by
  unfold f_Y_bought at hf
  exact (z_gd hf).1
set_option maxRecDepth 100000 in
set_option maxHeartbeats 4000000 in
theorem c_Y_bought {l : Launch} {N0 : Nat} {D : va_G} {cs : Nat → ClassId} {this : Nat} {x1 : Int32} {x2 : Int32} {x3 : Int32} {x4 : Int32} {h : Hp} {r0 : Int32} {h0 : Hp} (hf : f_Y_bought this x1 x2 x3 x4 h = some (r0, h0)) : Fn l N0 D cs y_Y_bought b_Y_bought 6 (some .int) 2 0 0 [.ref this, .int x1, .int x2, .int x3, .int x4] h (some (.int r0)) h0 := by
  refine z_start (by decide) (Nat.le_of_ble_eq_true rfl) ?_
  intro p e s m args below meth c M hH hS ls hl
  unfold f_Y_bought at hf
  obtain ⟨hO, hf⟩ := z_gd hf
  have hl : lv_has ls 6 [(0, .ref this), (1, .int x1), (2, .int x2), (3, .int x3), (4, .int x4)] := hl
  obtain ⟨H, hHe⟩ : ∃ H, H = s.heap := ⟨_, rfl⟩
  obtain ⟨locs, hLe⟩ : ∃ locs : List Loc, locs = [] := ⟨_, rfl⟩
  have hS : va_S (zA N0) s.heap H locs := by rw [hHe, hLe]; exact hS
  have hH : HH N0 D cs h H := by rw [hHe]; exact hH
  suffices hg : W p l e (zrm 2 0 0) s m args below meth c H locs 0 0 (MQ below (zQ N0 D cs (some (.int r0)) h0) args s 0 0 (zA N0)) (F0 m 0 ls []) by rw [hHe, hLe] at hg; exact hg
  clear hHe hLe
  refine lv_iload_n M.x M.b d_Y_bought_0 rfl (lv_at hl 1 rfl) ?_
  replace hf := z_bind hf; obtain ⟨i2, e1, hf⟩ := hf
  refine zk_S (st1 := [.int i2]) M hH hS (c_Y_isNoPerson e1) w_Y_isNoPerson q_428 [] rfl ⟨Nat.le_of_ble_eq_true rfl, Nat.le_of_ble_eq_true rfl⟩ hl.1 rfl rfl (Nat.le_of_ble_eq_true rfl) d_Y_bought_1 (fun H locs hH hS => ?_)
  refine lv_if_ne (tgt := 21) M.x M.b d_Y_bought_4 (by decide) (fun c41 => ?_) (fun c41 => ?_)
  · replace hf := z_f c41 hf
    refine lv_sipush (v := (-1001 : Int32)) M.x M.b d_Y_bought_21 rfl ?_
    obtain ⟨rfl, rfl⟩ := z_r2 hf
    exact z_iret M hH hS d_Y_bought_24
  · replace hf := z_t c41 hf
    refine lv_iload_n M.x M.b d_Y_bought_7 rfl (lv_at hl 2 rfl) ?_
    replace hf := z_bind hf; obtain ⟨i4, e3, hf⟩ := hf
    refine zk_S (st1 := [.int i4]) M hH hS (c_Y_isNoYear e3) w_Y_isNoYear q_422 [] rfl ⟨Nat.le_of_ble_eq_true rfl, Nat.le_of_ble_eq_true rfl⟩ hl.1 rfl rfl (Nat.le_of_ble_eq_true rfl) d_Y_bought_8 (fun H locs hH hS => ?_)
    refine lv_if_ne (tgt := 21) M.x M.b d_Y_bought_11 (by decide) (fun c40 => ?_) (fun c40 => ?_)
    · replace hf := z_f c40 hf
      refine lv_sipush (v := (-1001 : Int32)) M.x M.b d_Y_bought_21 rfl ?_
      obtain ⟨rfl, rfl⟩ := z_r2 hf
      exact z_iret M hH hS d_Y_bought_24
    · replace hf := z_t c40 hf
      refine lv_iload_n M.x M.b d_Y_bought_14 rfl (lv_at hl 3 rfl) ?_
      replace hf := z_bind hf; obtain ⟨i6, e5, hf⟩ := hf
      refine zk_S (st1 := [.int i6]) M hH hS (c_Y_isNoGood e5) w_Y_isNoGood q_421 [] rfl ⟨Nat.le_of_ble_eq_true rfl, Nat.le_of_ble_eq_true rfl⟩ hl.1 rfl rfl (Nat.le_of_ble_eq_true rfl) d_Y_bought_15 (fun H locs hH hS => ?_)
      refine lv_if_eq (tgt := 25) M.x M.b d_Y_bought_18 (by decide) (fun c39 => ?_) (fun c39 => ?_)
      · replace hf := z_t c39 hf
        refine lv_iload M.x M.b d_Y_bought_25 (lv_at hl 4 rfl) ?_
        refine lv_if_lt (tgt := 37) M.x M.b d_Y_bought_27 (by decide) (fun c38 => ?_) (fun c38 => ?_)
        · replace hf := z_t c38 hf
          refine lv_sipush (v := (-1002 : Int32)) M.x M.b d_Y_bought_37 rfl ?_
          obtain ⟨rfl, rfl⟩ := z_r2 hf
          exact z_iret M hH hS d_Y_bought_40
        · replace hf := z_f c38 hf
          refine lv_iload M.x M.b d_Y_bought_30 (lv_at hl 4 rfl) ?_
          refine lv_bipush (v := (9 : Int32)) M.x M.b d_Y_bought_32 rfl ?_
          refine lv_icmp_le (tgt := 41) M.x M.b d_Y_bought_34 (by decide) (fun c37 => ?_) (fun c37 => ?_)
          · replace hf := z_t c37 hf
            refine lv_aload_n M.x M.b d_Y_bought_41 rfl (lv_at hl 0 rfl) ?_
            replace hf := z_bind hf; obtain ⟨r7, e8, hf⟩ := hf
            refine z_get (ci := 7) (k := 0) M hH rfl (by decide) zinY q_419 (gA_spec e8) d_Y_bought_42 ?_
            refine lv_iload_n M.x M.b d_Y_bought_45 rfl (lv_at hl 1 rfl) ?_
            refine lv_iload_n M.x M.b d_Y_bought_46 rfl (lv_at hl 2 rfl) ?_
            refine lv_iload_n M.x M.b d_Y_bought_47 rfl (lv_at hl 3 rfl) ?_
            rcases r7 with _ | a9
            · exact absurd hf z_nb0
            replace hf := z_sb hf
            replace hf := z_bind hf; obtain ⟨i12, e11, hf⟩ := hf
            refine zk_V (ci := 0) (st1 := [.int i12]) M hH hS (c_B_amountOf e11) rfl (o_B_amountOf e11) w_B_amountOf q_427 [] rfl ⟨Nat.le_of_ble_eq_true rfl, Nat.le_of_ble_eq_true rfl⟩ hl.1 rfl rfl (Nat.le_of_ble_eq_true rfl) d_Y_bought_48 (fun H locs hH hS => ?_)
            refine lv_istore (lv' := [(5, .int i12), (0, .ref this), (1, .int x1), (2, .int x2), (3, .int x3), (4, .int x4)]) M.x M.b d_Y_bought_51 hl (by decide) rfl (fun ls hl => ?_)
            refine lv_aload_n M.x M.b d_Y_bought_53 rfl (lv_at hl 1 rfl) ?_
            replace hf := z_bind hf; obtain ⟨r13, e14, hf⟩ := hf
            refine z_get (ci := 7) (k := 0) M hH rfl (by decide) zinY q_419 (gA_spec e14) d_Y_bought_54 ?_
            refine lv_iload_n M.x M.b d_Y_bought_57 rfl (lv_at hl 2 rfl) ?_
            refine lv_iload_n M.x M.b d_Y_bought_58 rfl (lv_at hl 3 rfl) ?_
            refine lv_iload_n M.x M.b d_Y_bought_59 rfl (lv_at hl 4 rfl) ?_
            refine lv_iload M.x M.b d_Y_bought_60 (lv_at hl 5 rfl) ?_
            rcases r13 with _ | a15
            · exact absurd hf z_nb0
            replace hf := z_sb hf
            replace hf := z_bind hf; obtain ⟨h18, e17, hf⟩ := hf
            refine zk_V (ci := 0) (st1 := []) M hH hS (c_B_setAmount e17) rfl (o_B_setAmount e17) w_B_setAmount q_426 [] rfl ⟨Nat.le_of_ble_eq_true rfl, Nat.le_of_ble_eq_true rfl⟩ hl.1 rfl rfl (Nat.le_of_ble_eq_true rfl) d_Y_bought_62 (fun H locs hH hS => ?_)
            refine lv_aload_n M.x M.b d_Y_bought_65 rfl (lv_at hl 1 rfl) ?_
            replace hf := z_bind hf; obtain ⟨r19, e20, hf⟩ := hf
            refine z_get (ci := 7) (k := 0) M hH rfl (by decide) zinY q_419 (gA_spec e20) d_Y_bought_66 ?_
            refine lv_iconst (v := (3 : Int32)) M.x M.b d_Y_bought_69 rfl ?_
            refine lv_iload_n M.x M.b d_Y_bought_70 rfl (lv_at hl 3 rfl) ?_
            refine lv_iload_n M.x M.b d_Y_bought_71 rfl (lv_at hl 4 rfl) ?_
            refine lv_aload_n M.x M.b d_Y_bought_72 rfl (lv_at hl 1 rfl) ?_
            replace hf := z_bind hf; obtain ⟨r21, e22, hf⟩ := hf
            refine z_get (ci := 7) (k := 0) M hH rfl (by decide) zinY q_419 (gA_spec e22) d_Y_bought_73 ?_
            refine lv_iconst (v := (3 : Int32)) M.x M.b d_Y_bought_76 rfl ?_
            refine lv_iload_n M.x M.b d_Y_bought_77 rfl (lv_at hl 3 rfl) ?_
            refine lv_iload_n M.x M.b d_Y_bought_78 rfl (lv_at hl 4 rfl) ?_
            rcases r21 with _ | a23
            · exact absurd hf z_nb0
            replace hf := z_sb hf
            rcases r19 with _ | a25
            · exact absurd hf z_nb0
            replace hf := z_sb hf
            replace hf := z_bind hf; obtain ⟨i28, e27, hf⟩ := hf
            refine zk_V (ci := 0) (st1 := [.int i28, .int x3, .int x2, .int (3 : Int32), .ref a25]) M hH hS (c_B_amountOf e27) rfl (o_B_amountOf e27) w_B_amountOf q_427 [.int x3, .int x2, .int (3 : Int32), .ref a25] rfl ⟨Nat.le_of_ble_eq_true rfl, Nat.le_of_ble_eq_true rfl⟩ hl.1 rfl rfl (Nat.le_of_ble_eq_true rfl) d_Y_bought_79 (fun H locs hH hS => ?_)
            refine lv_iload M.x M.b d_Y_bought_82 (lv_at hl 0 rfl) ?_
            refine lv_isub M.x M.b d_Y_bought_84 ?_
            refine lv_iload M.x M.b d_Y_bought_85 (lv_at hl 5 rfl) ?_
            refine lv_iadd M.x M.b d_Y_bought_87 ?_
            replace hf := z_bind hf; obtain ⟨h30, e29, hf⟩ := hf
            refine zk_V (ci := 0) (st1 := []) M hH hS (c_B_setAmount e29) rfl (o_B_setAmount e29) w_B_setAmount q_426 [] rfl ⟨Nat.le_of_ble_eq_true rfl, Nat.le_of_ble_eq_true rfl⟩ hl.1 rfl rfl (Nat.le_of_ble_eq_true rfl) d_Y_bought_88 (fun H locs hH hS => ?_)
            refine lv_aload_n M.x M.b d_Y_bought_91 rfl (lv_at hl 1 rfl) ?_
            replace hf := z_bind hf; obtain ⟨r31, e32, hf⟩ := hf
            refine z_get (ci := 7) (k := 5) M hH rfl (by decide) zinY q_417 (gA_spec e32) d_Y_bought_92 ?_
            rcases r31 with _ | a33
            · exact absurd hf z_nb0
            replace hf := z_sb hf
            replace hf := z_bind hf; obtain ⟨h36, e35, hf⟩ := hf
            refine zk_V (ci := 2) (st1 := []) M hH hS (c_L_forget e35) rfl (o_L_forget e35) w_L_forget q_416 [] rfl ⟨Nat.le_of_ble_eq_true rfl, Nat.le_of_ble_eq_true rfl⟩ hl.1 rfl rfl (Nat.le_of_ble_eq_true rfl) d_Y_bought_95 (fun H locs hH hS => ?_)
            refine lv_iload M.x M.b d_Y_bought_98 (lv_at hl 0 rfl) ?_
            obtain ⟨rfl, rfl⟩ := z_r2 hf
            exact z_iret M hH hS d_Y_bought_100
          · replace hf := z_f c37 hf
            refine lv_sipush (v := (-1002 : Int32)) M.x M.b d_Y_bought_37 rfl ?_
            obtain ⟨rfl, rfl⟩ := z_r2 hf
            exact z_iret M hH hS d_Y_bought_40
      · replace hf := z_f c39 hf
        refine lv_sipush (v := (-1001 : Int32)) M.x M.b d_Y_bought_21 rfl ?_
        obtain ⟨rfl, rfl⟩ := z_r2 hf
        exact z_iret M hH hS d_Y_bought_24
def f_Y_cost (this : Nat) (h : Hp) (x1 : Int32) (x2 : Int32) (x3 : Int32) : Option (Int32) :=
  if isO h this 7 = true then
  (f_Y_isNoWho x1).bind fun i2 =>
  if i2 = 0 then
    (f_Y_isNoYear x2).bind fun i4 =>
    if i4 = 0 then
      (f_Y_isNoYear x3).bind fun i6 =>
      if i6 = 0 then
        (gA h this 7 0).bind fun r7 =>
        (r7).bind fun a9 =>
        (f_B_costOver a9 h (31 : Int32) x1 x2 x3).bind fun i12 =>
        if i12 = (-1 : Int32) then
          some (-1003 : Int32)
        else
        some i12
      else
      some (-1001 : Int32)
    else
    some (-1001 : Int32)
  else
  some (-1001 : Int32)
  else none
theorem o_Y_cost {this : Nat} {h : Hp} {x1 : Int32} {x2 : Int32} {x3 : Int32} {r0 : Int32} (hf : f_Y_cost this h x1 x2 x3 = some r0) : isO h this 7 = true := by
  unfold f_Y_cost at hf
  exact (z_gd hf).1
set_option maxRecDepth 100000 in
set_option maxHeartbeats 4000000 in
theorem c_Y_cost {l : Launch} {N0 : Nat} {D : va_G} {cs : Nat → ClassId} {this : Nat} {h : Hp} {x1 : Int32} {x2 : Int32} {x3 : Int32} {r0 : Int32} (hf : f_Y_cost this h x1 x2 x3 = some r0) : Fn l N0 D cs y_Y_cost b_Y_cost 5 (some .int) 3 0 0 [.ref this, .int x1, .int x2, .int x3] h (some (.int r0)) h := by
  refine z_start (by decide) (Nat.le_of_ble_eq_true rfl) ?_
  intro p e s m args below meth c M hH hS ls hl
  unfold f_Y_cost at hf
  obtain ⟨hO, hf⟩ := z_gd hf
  have hl : lv_has ls 5 [(0, .ref this), (1, .int x1), (2, .int x2), (3, .int x3)] := hl
  obtain ⟨H, hHe⟩ : ∃ H, H = s.heap := ⟨_, rfl⟩
  obtain ⟨locs, hLe⟩ : ∃ locs : List Loc, locs = [] := ⟨_, rfl⟩
  have hS : va_S (zA N0) s.heap H locs := by rw [hHe, hLe]; exact hS
  have hH : HH N0 D cs h H := by rw [hHe]; exact hH
  suffices hg : W p l e (zrm 3 0 0) s m args below meth c H locs 0 0 (MQ below (zQ N0 D cs (some (.int r0)) h) args s 0 0 (zA N0)) (F0 m 0 ls []) by rw [hHe, hLe] at hg; exact hg
  clear hHe hLe
  refine lv_iload_n M.x M.b d_Y_cost_0 rfl (lv_at hl 1 rfl) ?_
  replace hf := z_bind hf; obtain ⟨i2, e1, hf⟩ := hf
  refine zk_S (st1 := [.int i2]) M hH hS (c_Y_isNoWho e1) w_Y_isNoWho q_433 [] rfl ⟨Nat.le_of_ble_eq_true rfl, Nat.le_of_ble_eq_true rfl⟩ hl.1 rfl rfl (Nat.le_of_ble_eq_true rfl) d_Y_cost_1 (fun H locs hH hS => ?_)
  refine lv_if_ne (tgt := 21) M.x M.b d_Y_cost_4 (by decide) (fun c16 => ?_) (fun c16 => ?_)
  · replace hf := z_f c16 hf
    refine lv_sipush (v := (-1001 : Int32)) M.x M.b d_Y_cost_21 rfl ?_
    obtain rfl := z_r1 hf
    exact z_iret M hH hS d_Y_cost_24
  · replace hf := z_t c16 hf
    refine lv_iload_n M.x M.b d_Y_cost_7 rfl (lv_at hl 2 rfl) ?_
    replace hf := z_bind hf; obtain ⟨i4, e3, hf⟩ := hf
    refine zk_S (st1 := [.int i4]) M hH hS (c_Y_isNoYear e3) w_Y_isNoYear q_422 [] rfl ⟨Nat.le_of_ble_eq_true rfl, Nat.le_of_ble_eq_true rfl⟩ hl.1 rfl rfl (Nat.le_of_ble_eq_true rfl) d_Y_cost_8 (fun H locs hH hS => ?_)
    refine lv_if_ne (tgt := 21) M.x M.b d_Y_cost_11 (by decide) (fun c15 => ?_) (fun c15 => ?_)
    · replace hf := z_f c15 hf
      refine lv_sipush (v := (-1001 : Int32)) M.x M.b d_Y_cost_21 rfl ?_
      obtain rfl := z_r1 hf
      exact z_iret M hH hS d_Y_cost_24
    · replace hf := z_t c15 hf
      refine lv_iload_n M.x M.b d_Y_cost_14 rfl (lv_at hl 3 rfl) ?_
      replace hf := z_bind hf; obtain ⟨i6, e5, hf⟩ := hf
      refine zk_S (st1 := [.int i6]) M hH hS (c_Y_isNoYear e5) w_Y_isNoYear q_422 [] rfl ⟨Nat.le_of_ble_eq_true rfl, Nat.le_of_ble_eq_true rfl⟩ hl.1 rfl rfl (Nat.le_of_ble_eq_true rfl) d_Y_cost_15 (fun H locs hH hS => ?_)
      refine lv_if_eq (tgt := 25) M.x M.b d_Y_cost_18 (by decide) (fun c14 => ?_) (fun c14 => ?_)
      · replace hf := z_t c14 hf
        refine lv_aload_n M.x M.b d_Y_cost_25 rfl (lv_at hl 0 rfl) ?_
        replace hf := z_bind hf; obtain ⟨r7, e8, hf⟩ := hf
        refine z_get (ci := 7) (k := 0) M hH rfl (by decide) zinY q_419 (gA_spec e8) d_Y_cost_26 ?_
        refine lv_bipush (v := (31 : Int32)) M.x M.b d_Y_cost_29 rfl ?_
        refine lv_iload_n M.x M.b d_Y_cost_31 rfl (lv_at hl 1 rfl) ?_
        refine lv_iload_n M.x M.b d_Y_cost_32 rfl (lv_at hl 2 rfl) ?_
        refine lv_iload_n M.x M.b d_Y_cost_33 rfl (lv_at hl 3 rfl) ?_
        rcases r7 with _ | a9
        · exact absurd hf z_nb0
        replace hf := z_sb hf
        replace hf := z_bind hf; obtain ⟨i12, e11, hf⟩ := hf
        refine zk_V (ci := 0) (st1 := [.int i12]) M hH hS (c_B_costOver e11) rfl (o_B_costOver e11) w_B_costOver q_432 [] rfl ⟨Nat.le_of_ble_eq_true rfl, Nat.le_of_ble_eq_true rfl⟩ hl.1 rfl rfl (Nat.le_of_ble_eq_true rfl) d_Y_cost_34 (fun H locs hH hS => ?_)
        refine lv_istore (lv' := [(4, .int i12), (0, .ref this), (1, .int x1), (2, .int x2), (3, .int x3)]) M.x M.b d_Y_cost_37 hl (by decide) rfl (fun ls hl => ?_)
        refine lv_iload M.x M.b d_Y_cost_39 (lv_at hl 0 rfl) ?_
        refine lv_iconst (v := (-1 : Int32)) M.x M.b d_Y_cost_41 rfl ?_
        refine lv_icmp_ne (tgt := 51) M.x M.b d_Y_cost_42 (by decide) (fun c13 => ?_) (fun c13 => ?_)
        · replace hf := z_f c13 hf
          refine lv_iload M.x M.b d_Y_cost_51 (lv_at hl 0 rfl) ?_
          obtain rfl := z_r1 hf
          exact z_iret M hH hS d_Y_cost_53
        · replace hf := z_t c13 hf
          refine lv_sipush (v := (-1003 : Int32)) M.x M.b d_Y_cost_45 rfl ?_
          refine lv_goto (tgt := 53) M.x M.b d_Y_cost_48 (by decide) ?_
          obtain rfl := z_r1 hf
          exact z_iret M hH hS d_Y_cost_53
      · replace hf := z_f c14 hf
        refine lv_sipush (v := (-1001 : Int32)) M.x M.b d_Y_cost_21 rfl ?_
        obtain rfl := z_r1 hf
        exact z_iret M hH hS d_Y_cost_24
def f_Y_goods (this : Nat) (h : Hp) (x1 : Int32) (x2 : Int32) (x3 : Int32) : Option (Int32) :=
  if isO h this 7 = true then
  (f_Y_isNoYear x1).bind fun i2 =>
  if i2 = 0 then
    (f_Y_isNoYear x2).bind fun i4 =>
    if i4 = 0 then
      if x3 < 0 then
        some (-1002 : Int32)
      else
      if x3 ≤ (2 : Int32) then
        if x3 = (2 : Int32) then
          (gA h this 7 0).bind fun r18 =>
          (r18).bind fun a20 =>
          (f_B_goodsThere a20 h).bind fun i23 =>
          some i23
        else
        (gA h this 7 0).bind fun r5 =>
        (r5).bind fun a7 =>
        (f_B_goodsPricedIn a7 h x1).bind fun i10 =>
        (gA h this 7 0).bind fun r11 =>
        (r11).bind fun a13 =>
        (f_B_goodsPricedIn a13 h x2).bind fun i16 =>
        if x3 = 0 then
          some (i16 &&& (i10 ^^^ (-1 : Int32)))
        else
        some (i10 &&& (i16 ^^^ (-1 : Int32)))
      else
      some (-1002 : Int32)
    else
    some (-1001 : Int32)
  else
  some (-1001 : Int32)
  else none
theorem o_Y_goods {this : Nat} {h : Hp} {x1 : Int32} {x2 : Int32} {x3 : Int32} {r0 : Int32} (hf : f_Y_goods this h x1 x2 x3 = some r0) : isO h this 7 = true := by
  unfold f_Y_goods at hf
  exact (z_gd hf).1
set_option maxRecDepth 100000 in
set_option maxHeartbeats 4000000 in
theorem c_Y_goods {l : Launch} {N0 : Nat} {D : va_G} {cs : Nat → ClassId} {this : Nat} {h : Hp} {x1 : Int32} {x2 : Int32} {x3 : Int32} {r0 : Int32} (hf : f_Y_goods this h x1 x2 x3 = some r0) : Fn l N0 D cs y_Y_goods b_Y_goods 6 (some .int) 4 0 0 [.ref this, .int x1, .int x2, .int x3] h (some (.int r0)) h := by
  refine z_start (by decide) (Nat.le_of_ble_eq_true rfl) ?_
  intro p e s m args below meth c M hH hS ls hl
  unfold f_Y_goods at hf
  obtain ⟨hO, hf⟩ := z_gd hf
  have hl : lv_has ls 6 [(0, .ref this), (1, .int x1), (2, .int x2), (3, .int x3)] := hl
  obtain ⟨H, hHe⟩ : ∃ H, H = s.heap := ⟨_, rfl⟩
  obtain ⟨locs, hLe⟩ : ∃ locs : List Loc, locs = [] := ⟨_, rfl⟩
  have hS : va_S (zA N0) s.heap H locs := by rw [hHe, hLe]; exact hS
  have hH : HH N0 D cs h H := by rw [hHe]; exact hH
  suffices hg : W p l e (zrm 4 0 0) s m args below meth c H locs 0 0 (MQ below (zQ N0 D cs (some (.int r0)) h) args s 0 0 (zA N0)) (F0 m 0 ls []) by rw [hHe, hLe] at hg; exact hg
  clear hHe hLe
  refine lv_iload_n M.x M.b d_Y_goods_0 rfl (lv_at hl 1 rfl) ?_
  replace hf := z_bind hf; obtain ⟨i2, e1, hf⟩ := hf
  refine zk_S (st1 := [.int i2]) M hH hS (c_Y_isNoYear e1) w_Y_isNoYear q_422 [] rfl ⟨Nat.le_of_ble_eq_true rfl, Nat.le_of_ble_eq_true rfl⟩ hl.1 rfl rfl (Nat.le_of_ble_eq_true rfl) d_Y_goods_1 (fun H locs hH hS => ?_)
  refine lv_if_ne (tgt := 14) M.x M.b d_Y_goods_4 (by decide) (fun c28 => ?_) (fun c28 => ?_)
  · replace hf := z_f c28 hf
    refine lv_sipush (v := (-1001 : Int32)) M.x M.b d_Y_goods_14 rfl ?_
    obtain rfl := z_r1 hf
    exact z_iret M hH hS d_Y_goods_17
  · replace hf := z_t c28 hf
    refine lv_iload_n M.x M.b d_Y_goods_7 rfl (lv_at hl 2 rfl) ?_
    replace hf := z_bind hf; obtain ⟨i4, e3, hf⟩ := hf
    refine zk_S (st1 := [.int i4]) M hH hS (c_Y_isNoYear e3) w_Y_isNoYear q_422 [] rfl ⟨Nat.le_of_ble_eq_true rfl, Nat.le_of_ble_eq_true rfl⟩ hl.1 rfl rfl (Nat.le_of_ble_eq_true rfl) d_Y_goods_8 (fun H locs hH hS => ?_)
    refine lv_if_eq (tgt := 18) M.x M.b d_Y_goods_11 (by decide) (fun c27 => ?_) (fun c27 => ?_)
    · replace hf := z_t c27 hf
      refine lv_iload_n M.x M.b d_Y_goods_18 rfl (lv_at hl 3 rfl) ?_
      refine lv_if_lt (tgt := 27) M.x M.b d_Y_goods_19 (by decide) (fun c26 => ?_) (fun c26 => ?_)
      · replace hf := z_t c26 hf
        refine lv_sipush (v := (-1002 : Int32)) M.x M.b d_Y_goods_27 rfl ?_
        obtain rfl := z_r1 hf
        exact z_iret M hH hS d_Y_goods_30
      · replace hf := z_f c26 hf
        refine lv_iload_n M.x M.b d_Y_goods_22 rfl (lv_at hl 3 rfl) ?_
        refine lv_iconst (v := (2 : Int32)) M.x M.b d_Y_goods_23 rfl ?_
        refine lv_icmp_le (tgt := 31) M.x M.b d_Y_goods_24 (by decide) (fun c25 => ?_) (fun c25 => ?_)
        · replace hf := z_t c25 hf
          refine lv_iload_n M.x M.b d_Y_goods_31 rfl (lv_at hl 3 rfl) ?_
          refine lv_iconst (v := (2 : Int32)) M.x M.b d_Y_goods_32 rfl ?_
          refine lv_icmp_ne (tgt := 44) M.x M.b d_Y_goods_33 (by decide) (fun c24 => ?_) (fun c24 => ?_)
          · replace hf := z_f c24 hf
            refine lv_aload_n M.x M.b d_Y_goods_44 rfl (lv_at hl 0 rfl) ?_
            replace hf := z_bind hf; obtain ⟨r5, e6, hf⟩ := hf
            refine z_get (ci := 7) (k := 0) M hH rfl (by decide) zinY q_419 (gA_spec e6) d_Y_goods_45 ?_
            refine lv_iload_n M.x M.b d_Y_goods_48 rfl (lv_at hl 1 rfl) ?_
            rcases r5 with _ | a7
            · exact absurd hf z_nb0
            replace hf := z_sb hf
            replace hf := z_bind hf; obtain ⟨i10, e9, hf⟩ := hf
            refine zk_V (ci := 0) (st1 := [.int i10]) M hH hS (c_B_goodsPricedIn e9) rfl (o_B_goodsPricedIn e9) w_B_goodsPricedIn q_437 [] rfl ⟨Nat.le_of_ble_eq_true rfl, Nat.le_of_ble_eq_true rfl⟩ hl.1 rfl rfl (Nat.le_of_ble_eq_true rfl) d_Y_goods_49 (fun H locs hH hS => ?_)
            refine lv_istore (lv' := [(4, .int i10), (0, .ref this), (1, .int x1), (2, .int x2), (3, .int x3)]) M.x M.b d_Y_goods_52 hl (by decide) rfl (fun ls hl => ?_)
            refine lv_aload_n M.x M.b d_Y_goods_54 rfl (lv_at hl 1 rfl) ?_
            replace hf := z_bind hf; obtain ⟨r11, e12, hf⟩ := hf
            refine z_get (ci := 7) (k := 0) M hH rfl (by decide) zinY q_419 (gA_spec e12) d_Y_goods_55 ?_
            refine lv_iload_n M.x M.b d_Y_goods_58 rfl (lv_at hl 3 rfl) ?_
            rcases r11 with _ | a13
            · exact absurd hf z_nb0
            replace hf := z_sb hf
            replace hf := z_bind hf; obtain ⟨i16, e15, hf⟩ := hf
            refine zk_V (ci := 0) (st1 := [.int i16]) M hH hS (c_B_goodsPricedIn e15) rfl (o_B_goodsPricedIn e15) w_B_goodsPricedIn q_437 [] rfl ⟨Nat.le_of_ble_eq_true rfl, Nat.le_of_ble_eq_true rfl⟩ hl.1 rfl rfl (Nat.le_of_ble_eq_true rfl) d_Y_goods_59 (fun H locs hH hS => ?_)
            refine lv_istore (lv' := [(5, .int i16), (4, .int i10), (0, .ref this), (1, .int x1), (2, .int x2), (3, .int x3)]) M.x M.b d_Y_goods_62 hl (by decide) rfl (fun ls hl => ?_)
            refine lv_iload_n M.x M.b d_Y_goods_64 rfl (lv_at hl 5 rfl) ?_
            refine lv_if_ne (tgt := 78) M.x M.b d_Y_goods_65 (by decide) (fun c17 => ?_) (fun c17 => ?_)
            · replace hf := z_f c17 hf
              refine lv_iload M.x M.b d_Y_goods_78 (lv_at hl 1 rfl) ?_
              refine lv_iload M.x M.b d_Y_goods_80 (lv_at hl 0 rfl) ?_
              refine lv_iconst (v := (-1 : Int32)) M.x M.b d_Y_goods_82 rfl ?_
              refine lv_ixor M.x M.b d_Y_goods_83 ?_
              refine lv_iand M.x M.b d_Y_goods_84 ?_
              obtain rfl := z_r1 hf
              exact z_iret M hH hS d_Y_goods_85
            · replace hf := z_t c17 hf
              refine lv_iload M.x M.b d_Y_goods_68 (lv_at hl 0 rfl) ?_
              refine lv_iload M.x M.b d_Y_goods_70 (lv_at hl 1 rfl) ?_
              refine lv_iconst (v := (-1 : Int32)) M.x M.b d_Y_goods_72 rfl ?_
              refine lv_ixor M.x M.b d_Y_goods_73 ?_
              refine lv_iand M.x M.b d_Y_goods_74 ?_
              refine lv_goto (tgt := 85) M.x M.b d_Y_goods_75 (by decide) ?_
              obtain rfl := z_r1 hf
              exact z_iret M hH hS d_Y_goods_85
          · replace hf := z_t c24 hf
            refine lv_aload_n M.x M.b d_Y_goods_36 rfl (lv_at hl 0 rfl) ?_
            replace hf := z_bind hf; obtain ⟨r18, e19, hf⟩ := hf
            refine z_get (ci := 7) (k := 0) M hH rfl (by decide) zinY q_419 (gA_spec e19) d_Y_goods_37 ?_
            rcases r18 with _ | a20
            · exact absurd hf z_nb0
            replace hf := z_sb hf
            replace hf := z_bind hf; obtain ⟨i23, e22, hf⟩ := hf
            refine zk_V (ci := 0) (st1 := [.int i23]) M hH hS (c_B_goodsThere e22) rfl (o_B_goodsThere e22) w_B_goodsThere q_438 [] rfl ⟨Nat.le_of_ble_eq_true rfl, Nat.le_of_ble_eq_true rfl⟩ hl.1 rfl rfl (Nat.le_of_ble_eq_true rfl) d_Y_goods_40 (fun H locs hH hS => ?_)
            obtain rfl := z_r1 hf
            exact z_iret M hH hS d_Y_goods_43
        · replace hf := z_f c25 hf
          refine lv_sipush (v := (-1002 : Int32)) M.x M.b d_Y_goods_27 rfl ?_
          obtain rfl := z_r1 hf
          exact z_iret M hH hS d_Y_goods_30
    · replace hf := z_f c27 hf
      refine lv_sipush (v := (-1001 : Int32)) M.x M.b d_Y_goods_14 rfl ?_
      obtain rfl := z_r1 hf
      exact z_iret M hH hS d_Y_goods_17
def f_Y_count (this : Nat) (h : Hp) (x1 : Int32) : Option (Int32) :=
  if isO h this 7 = true then
  if x1 = (0 : Int32) then
    (gI h this 7 9).bind fun i2 =>
    some i2
  else
  if x1 = (1 : Int32) then
    (gA h this 7 3).bind fun r5 =>
    (r5).bind fun a7 =>
    (gI h a7 5 1).bind fun i9 =>
    some i9
  else
  if x1 = (2 : Int32) then
    (gA h this 7 0).bind fun r12 =>
    (r12).bind fun a14 =>
    (f_B_pricesThere a14 h).bind fun i17 =>
    some i17
  else
  if x1 = (3 : Int32) then
    (gA h this 7 0).bind fun r19 =>
    (r19).bind fun a21 =>
    (f_B_goodsThere a21 h).bind fun i24 =>
    (f_JI_bitCount i24).bind fun i26 =>
    some i26
  else
  if x1 = (4 : Int32) then
    (gA h this 7 0).bind fun r28 =>
    (r28).bind fun a30 =>
    (f_B_yearsPriced a30 h).bind fun i33 =>
    some i33
  else
  some (-1002 : Int32)
  else none
theorem o_Y_count {this : Nat} {h : Hp} {x1 : Int32} {r0 : Int32} (hf : f_Y_count this h x1 = some r0) : isO h this 7 = true := by
  unfold f_Y_count at hf
  exact (z_gd hf).1
set_option maxRecDepth 100000 in
set_option maxHeartbeats 4000000 in
theorem c_Y_count {l : Launch} {N0 : Nat} {D : va_G} {cs : Nat → ClassId} {this : Nat} {h : Hp} {x1 : Int32} {r0 : Int32} (hf : f_Y_count this h x1 = some r0) : Fn l N0 D cs y_Y_count b_Y_count 2 (some .int) 4 0 0 [.ref this, .int x1] h (some (.int r0)) h := by
  refine z_start (by decide) (Nat.le_of_ble_eq_true rfl) ?_
  intro p e s m args below meth c M hH hS ls hl
  unfold f_Y_count at hf
  obtain ⟨hO, hf⟩ := z_gd hf
  have hl : lv_has ls 2 [(0, .ref this), (1, .int x1)] := hl
  obtain ⟨H, hHe⟩ : ∃ H, H = s.heap := ⟨_, rfl⟩
  obtain ⟨locs, hLe⟩ : ∃ locs : List Loc, locs = [] := ⟨_, rfl⟩
  have hS : va_S (zA N0) s.heap H locs := by rw [hHe, hLe]; exact hS
  have hH : HH N0 D cs h H := by rw [hHe]; exact hH
  suffices hg : W p l e (zrm 4 0 0) s m args below meth c H locs 0 0 (MQ below (zQ N0 D cs (some (.int r0)) h) args s 0 0 (zA N0)) (F0 m 0 ls []) by rw [hHe, hLe] at hg; exact hg
  clear hHe hLe
  refine lv_iload_n M.x M.b d_Y_count_0 rfl (lv_at hl 1 rfl) ?_
  by_cases c1 : x1 = (0 : Int32)
  · replace hf := z_t c1 hf
    refine lv_tableIn (tgt := 36) (off := 35) M.x M.b d_Y_count_1 (by rw [c1]; decide) (by rw [c1]; decide) (by rw [c1]; rfl) (by decide) ?_
    refine lv_aload_n M.x M.b d_Y_count_36 rfl (lv_at hl 0 rfl) ?_
    replace hf := z_bind hf; obtain ⟨i2, e3, hf⟩ := hf
    refine z_get (ci := 7) (k := 9) M hH rfl (by decide) zinY q_442 (gI_spec e3) d_Y_count_37 ?_
    obtain rfl := z_r1 hf
    exact z_iret M hH hS d_Y_count_40
  replace hf := z_f c1 hf
  by_cases c4 : x1 = (1 : Int32)
  · replace hf := z_t c4 hf
    refine lv_tableIn (tgt := 41) (off := 40) M.x M.b d_Y_count_1 (by rw [c4]; decide) (by rw [c4]; decide) (by rw [c4]; rfl) (by decide) ?_
    refine lv_aload_n M.x M.b d_Y_count_41 rfl (lv_at hl 0 rfl) ?_
    replace hf := z_bind hf; obtain ⟨r5, e6, hf⟩ := hf
    refine z_get (ci := 7) (k := 3) M hH rfl (by decide) zinY q_444 (gA_spec e6) d_Y_count_42 ?_
    rcases r5 with _ | a7
    · exact absurd hf z_nb0
    replace hf := z_sb hf
    replace hf := z_bind hf; obtain ⟨i9, e10, hf⟩ := hf
    refine z_getN (ci := 5) (k := 1) M hH rfl (by decide) zinR q_443 (gI_spec e10) d_Y_count_45 ?_
    obtain rfl := z_r1 hf
    exact z_iret M hH hS d_Y_count_48
  replace hf := z_f c4 hf
  by_cases c11 : x1 = (2 : Int32)
  · replace hf := z_t c11 hf
    refine lv_tableIn (tgt := 49) (off := 48) M.x M.b d_Y_count_1 (by rw [c11]; decide) (by rw [c11]; decide) (by rw [c11]; rfl) (by decide) ?_
    refine lv_aload_n M.x M.b d_Y_count_49 rfl (lv_at hl 0 rfl) ?_
    replace hf := z_bind hf; obtain ⟨r12, e13, hf⟩ := hf
    refine z_get (ci := 7) (k := 0) M hH rfl (by decide) zinY q_419 (gA_spec e13) d_Y_count_50 ?_
    rcases r12 with _ | a14
    · exact absurd hf z_nb0
    replace hf := z_sb hf
    replace hf := z_bind hf; obtain ⟨i17, e16, hf⟩ := hf
    refine zk_V (ci := 0) (st1 := [.int i17]) M hH hS (c_B_pricesThere e16) rfl (o_B_pricesThere e16) w_B_pricesThere q_445 [] rfl ⟨Nat.le_of_ble_eq_true rfl, Nat.le_of_ble_eq_true rfl⟩ hl.1 rfl rfl (Nat.le_of_ble_eq_true rfl) d_Y_count_53 (fun H locs hH hS => ?_)
    obtain rfl := z_r1 hf
    exact z_iret M hH hS d_Y_count_56
  replace hf := z_f c11 hf
  by_cases c18 : x1 = (3 : Int32)
  · replace hf := z_t c18 hf
    refine lv_tableIn (tgt := 57) (off := 56) M.x M.b d_Y_count_1 (by rw [c18]; decide) (by rw [c18]; decide) (by rw [c18]; rfl) (by decide) ?_
    refine lv_aload_n M.x M.b d_Y_count_57 rfl (lv_at hl 0 rfl) ?_
    replace hf := z_bind hf; obtain ⟨r19, e20, hf⟩ := hf
    refine z_get (ci := 7) (k := 0) M hH rfl (by decide) zinY q_419 (gA_spec e20) d_Y_count_58 ?_
    rcases r19 with _ | a21
    · exact absurd hf z_nb0
    replace hf := z_sb hf
    replace hf := z_bind hf; obtain ⟨i24, e23, hf⟩ := hf
    refine zk_V (ci := 0) (st1 := [.int i24]) M hH hS (c_B_goodsThere e23) rfl (o_B_goodsThere e23) w_B_goodsThere q_438 [] rfl ⟨Nat.le_of_ble_eq_true rfl, Nat.le_of_ble_eq_true rfl⟩ hl.1 rfl rfl (Nat.le_of_ble_eq_true rfl) d_Y_count_61 (fun H locs hH hS => ?_)
    replace hf := z_bind hf; obtain ⟨i26, e25, hf⟩ := hf
    refine zk_S (st1 := [.int i26]) M hH hS (c_JI_bitCount e25) w_JI_bitCount q_446 [] rfl ⟨Nat.le_of_ble_eq_true rfl, Nat.le_of_ble_eq_true rfl⟩ hl.1 rfl rfl (Nat.le_of_ble_eq_true rfl) d_Y_count_64 (fun H locs hH hS => ?_)
    obtain rfl := z_r1 hf
    exact z_iret M hH hS d_Y_count_67
  replace hf := z_f c18 hf
  by_cases c27 : x1 = (4 : Int32)
  · replace hf := z_t c27 hf
    refine lv_tableIn (tgt := 68) (off := 67) M.x M.b d_Y_count_1 (by rw [c27]; decide) (by rw [c27]; decide) (by rw [c27]; rfl) (by decide) ?_
    refine lv_aload_n M.x M.b d_Y_count_68 rfl (lv_at hl 0 rfl) ?_
    replace hf := z_bind hf; obtain ⟨r28, e29, hf⟩ := hf
    refine z_get (ci := 7) (k := 0) M hH rfl (by decide) zinY q_419 (gA_spec e29) d_Y_count_69 ?_
    rcases r28 with _ | a30
    · exact absurd hf z_nb0
    replace hf := z_sb hf
    replace hf := z_bind hf; obtain ⟨i33, e32, hf⟩ := hf
    refine zk_V (ci := 0) (st1 := [.int i33]) M hH hS (c_B_yearsPriced e32) rfl (o_B_yearsPriced e32) w_B_yearsPriced q_447 [] rfl ⟨Nat.le_of_ble_eq_true rfl, Nat.le_of_ble_eq_true rfl⟩ hl.1 rfl rfl (Nat.le_of_ble_eq_true rfl) d_Y_count_72 (fun H locs hH hS => ?_)
    obtain rfl := z_r1 hf
    exact z_iret M hH hS d_Y_count_75
  replace hf := z_f c27 hf
  refine lv_tableOut (tgt := 76) M.x M.b d_Y_count_1 (by have tc1 := lv_neT (a := 0) c1 (by decide); have tc4 := lv_neT (a := 1) c4 (by decide); have tc11 := lv_neT (a := 2) c11 (by decide); have tc18 := lv_neT (a := 3) c18 (by decide); have tc27 := lv_neT (a := 4) c27 (by decide); omega) (by decide) ?_
  refine lv_sipush (v := (-1002 : Int32)) M.x M.b d_Y_count_76 rfl ?_
  obtain rfl := z_r1 hf
  exact z_iret M hH hS d_Y_count_79
def t_Y_feed_38 (this : Nat) (k38 : Int64 → Int32 → Hp → Option ((Int32 × Hp))) (x2 : Int64) (x4 : Int32) (h : Hp) : Option ((Int32 × Hp)) :=
  if x4 < 0 then
    (gA h this 7 3).bind fun r1 =>
    (r1).bind fun a3 =>
    (gI h a3 5 1).bind fun i5 =>
    some (i5, h)
  else
  (gA h this 7 3).bind fun r7 =>
  (r7).bind fun a9 =>
  (f_R_append a9 ((((x2).toUInt64 >>> ((((8 : Int32) * x4)).toInt64.toUInt64 &&& Int64.toUInt64 63)).toInt64).toInt32 &&& (255 : Int32)) h).bind fun h12 =>
  k38 x2 (x4 + (-1 : Int32)) h12
set_option maxRecDepth 100000 in
set_option maxHeartbeats 4000000 in
theorem v_Y_feed_38 {p : Program} {l : Launch} {e : Env} {s : State} {m : MethodId} {args : Array Value} {below : List Frame} {meth : Method} {c : Code} {N0 : Nat} {D : va_G} {cs : Nat → ClassId} (M : ZC p s m args meth c "YearBaskets" "feed" b_Y_feed 5 (some .int) N0 D cs) (this : Nat) (k38 : Int64 → Int32 → Hp → Option ((Int32 × Hp))) {r0 : Int32} {h0 : Hp} (hk38 : ∀ (x2 : Int64) (x4 : Int32) (h : Hp), k38 x2 x4 h = some (r0, h0) → ZG p l e (zrm 2 0 0) s m args below meth c N0 D cs (some (.int r0)) h0 h 5 [(0, .ref this), (2, .long x2), (4, .int x4)] 38 []) (x2 : Int64) (x4 : Int32) (h : Hp) (hf : t_Y_feed_38 this k38 x2 x4 h = some (r0, h0)) : ZG p l e (zrm 2 0 0) s m args below meth c N0 D cs (some (.int r0)) h0 h 5 [(0, .ref this), (2, .long x2), (4, .int x4)] 38 [] := by
  intro H locs ls hH hS hl
  unfold t_Y_feed_38 at hf
  refine lv_iload M.x M.b d_Y_feed_38 (lv_at hl 2 rfl) ?_
  refine lv_if_lt (tgt := 68) M.x M.b d_Y_feed_40 (by decide) (fun c13 => ?_) (fun c13 => ?_)
  · replace hf := z_t c13 hf
    refine lv_aload_n M.x M.b d_Y_feed_68 rfl (lv_at hl 0 rfl) ?_
    replace hf := z_bind hf; obtain ⟨r1, e2, hf⟩ := hf
    refine z_get (ci := 7) (k := 3) M hH rfl (by decide) zinY q_444 (gA_spec e2) d_Y_feed_69 ?_
    rcases r1 with _ | a3
    · exact absurd hf z_nb0
    replace hf := z_sb hf
    replace hf := z_bind hf; obtain ⟨i5, e6, hf⟩ := hf
    refine z_getN (ci := 5) (k := 1) M hH rfl (by decide) zinR q_443 (gI_spec e6) d_Y_feed_72 ?_
    obtain ⟨rfl, rfl⟩ := z_r2 hf
    exact z_iret M hH hS d_Y_feed_75
  · replace hf := z_f c13 hf
    refine lv_aload_n M.x M.b d_Y_feed_43 rfl (lv_at hl 0 rfl) ?_
    replace hf := z_bind hf; obtain ⟨r7, e8, hf⟩ := hf
    refine z_get (ci := 7) (k := 3) M hH rfl (by decide) zinY q_444 (gA_spec e8) d_Y_feed_44 ?_
    refine lv_lload_n M.x M.b d_Y_feed_47 rfl (lv_at hl 1 rfl) ?_
    refine lv_bipush (v := (8 : Int32)) M.x M.b d_Y_feed_48 rfl ?_
    refine lv_iload M.x M.b d_Y_feed_50 (lv_at hl 2 rfl) ?_
    refine lv_imul M.x M.b d_Y_feed_52 ?_
    refine lv_lushr M.x M.b d_Y_feed_53 rfl ?_
    refine lv_l2i M.x M.b d_Y_feed_54 rfl ?_
    refine lv_sipush (v := (255 : Int32)) M.x M.b d_Y_feed_55 rfl ?_
    refine lv_iand M.x M.b d_Y_feed_58 ?_
    rcases r7 with _ | a9
    · exact absurd hf z_nb0
    replace hf := z_sb hf
    replace hf := z_bind hf; obtain ⟨h12, e11, hf⟩ := hf
    refine zk_V (ci := 5) (st1 := []) M hH hS (c_R_append e11) rfl (o_R_append e11) w_R_append q_451 [] rfl ⟨Nat.le_of_ble_eq_true rfl, Nat.le_of_ble_eq_true rfl⟩ hl.1 rfl rfl (Nat.le_of_ble_eq_true rfl) d_Y_feed_59 (fun H locs hH hS => ?_)
    refine lv_iinc (v := (x4 + (-1 : Int32))) (lv' := [(4, .int (x4 + (-1 : Int32))), (0, .ref this), (2, .long x2)]) M.x M.b d_Y_feed_62 hl (k := 2) rfl rfl (by decide) rfl (fun ls hl => ?_)
    refine lv_goto (tgt := 38) M.x M.b d_Y_feed_65 (by decide) ?_
    exact hk38 _ _ _ hf H locs ls hH hS (lv_sub hl [1, 2, 0] rfl)
def f_Y_feed_38 (this : Nat) : Nat → Int64 → Int32 → Hp → Option ((Int32 × Hp))
  | 0, _, _, _ => none
  | n + 1, x2, x4, h => t_Y_feed_38 this (f_Y_feed_38 this n) x2 x4 h
theorem w_Y_feed_38 {p : Program} {l : Launch} {e : Env} {s : State} {m : MethodId} {args : Array Value} {below : List Frame} {meth : Method} {c : Code} {N0 : Nat} {D : va_G} {cs : Nat → ClassId} (M : ZC p s m args meth c "YearBaskets" "feed" b_Y_feed 5 (some .int) N0 D cs) (this : Nat)  {r0 : Int32} {h0 : Hp}  : ∀ (n : Nat) (x2 : Int64) (x4 : Int32) (h : Hp), f_Y_feed_38 this n x2 x4 h = some (r0, h0) → ZG p l e (zrm 2 0 0) s m args below meth c N0 D cs (some (.int r0)) h0 h 5 [(0, .ref this), (2, .long x2), (4, .int x4)] 38 [] := by
  intro n
  induction n with
  | zero => intro x2 x4 h hf; exact absurd (show none = some _ from hf) (fun q => by cases q)
  | succ n ih => intro x2 x4 h hf; exact v_Y_feed_38 M this (f_Y_feed_38 this n)  ih _ _ _ hf
def f_Y_feed (this : Nat) (x1 : Int32) (x2 : Int64) (h : Hp) : Option ((Int32 × Hp)) :=
  if isO h this 7 = true then
  if x1 < (1 : Int32) then
    some ((-1002 : Int32), h)
  else
  if x1 ≤ (8 : Int32) then
    (gA h this 7 3).bind fun r14 =>
    (r14).bind fun a16 =>
    (gI h a16 5 1).bind fun i18 =>
    if (i18 + x1) ≤ (60 : Int32) then
      f_Y_feed_38 this FU x2 (x1 - (1 : Int32)) h
    else
    some ((-1004 : Int32), h)
  else
  some ((-1002 : Int32), h)
  else none
theorem o_Y_feed {this : Nat} {x1 : Int32} {x2 : Int64} {h : Hp} {r0 : Int32} {h0 : Hp} (hf : f_Y_feed this x1 x2 h = some (r0, h0)) : isO h this 7 = true := by
  unfold f_Y_feed at hf
  exact (z_gd hf).1
set_option maxRecDepth 100000 in
set_option maxHeartbeats 4000000 in
theorem c_Y_feed {l : Launch} {N0 : Nat} {D : va_G} {cs : Nat → ClassId} {this : Nat} {x1 : Int32} {x2 : Int64} {h : Hp} {r0 : Int32} {h0 : Hp} (hf : f_Y_feed this x1 x2 h = some (r0, h0)) : Fn l N0 D cs y_Y_feed b_Y_feed 5 (some .int) 2 0 0 [.ref this, .int x1, .long x2] h (some (.int r0)) h0 := by
  refine z_start (by decide) (Nat.le_of_ble_eq_true rfl) ?_
  intro p e s m args below meth c M hH hS ls hl
  unfold f_Y_feed at hf
  obtain ⟨hO, hf⟩ := z_gd hf
  have hl : lv_has ls 5 [(0, .ref this), (1, .int x1), (2, .long x2)] := hl
  obtain ⟨H, hHe⟩ : ∃ H, H = s.heap := ⟨_, rfl⟩
  obtain ⟨locs, hLe⟩ : ∃ locs : List Loc, locs = [] := ⟨_, rfl⟩
  have hS : va_S (zA N0) s.heap H locs := by rw [hHe, hLe]; exact hS
  have hH : HH N0 D cs h H := by rw [hHe]; exact hH
  suffices hg : W p l e (zrm 2 0 0) s m args below meth c H locs 0 0 (MQ below (zQ N0 D cs (some (.int r0)) h0) args s 0 0 (zA N0)) (F0 m 0 ls []) by rw [hHe, hLe] at hg; exact hg
  clear hHe hLe
  refine lv_iload_n M.x M.b d_Y_feed_0 rfl (lv_at hl 1 rfl) ?_
  refine lv_iconst (v := (1 : Int32)) M.x M.b d_Y_feed_1 rfl ?_
  refine lv_icmp_lt (tgt := 11) M.x M.b d_Y_feed_2 (by decide) (fun c22 => ?_) (fun c22 => ?_)
  · replace hf := z_t c22 hf
    refine lv_sipush (v := (-1002 : Int32)) M.x M.b d_Y_feed_11 rfl ?_
    obtain ⟨rfl, rfl⟩ := z_r2 hf
    exact z_iret M hH hS d_Y_feed_14
  · replace hf := z_f c22 hf
    refine lv_iload_n M.x M.b d_Y_feed_5 rfl (lv_at hl 1 rfl) ?_
    refine lv_bipush (v := (8 : Int32)) M.x M.b d_Y_feed_6 rfl ?_
    refine lv_icmp_le (tgt := 15) M.x M.b d_Y_feed_8 (by decide) (fun c21 => ?_) (fun c21 => ?_)
    · replace hf := z_t c21 hf
      refine lv_aload_n M.x M.b d_Y_feed_15 rfl (lv_at hl 0 rfl) ?_
      replace hf := z_bind hf; obtain ⟨r14, e15, hf⟩ := hf
      refine z_get (ci := 7) (k := 3) M hH rfl (by decide) zinY q_444 (gA_spec e15) d_Y_feed_16 ?_
      rcases r14 with _ | a16
      · exact absurd hf z_nb0
      replace hf := z_sb hf
      replace hf := z_bind hf; obtain ⟨i18, e19, hf⟩ := hf
      refine z_getN (ci := 5) (k := 1) M hH rfl (by decide) zinR q_443 (gI_spec e19) d_Y_feed_19 ?_
      refine lv_iload_n M.x M.b d_Y_feed_22 rfl (lv_at hl 1 rfl) ?_
      refine lv_iadd M.x M.b d_Y_feed_23 ?_
      refine lv_bipush (v := (60 : Int32)) M.x M.b d_Y_feed_24 rfl ?_
      refine lv_icmp_le (tgt := 33) M.x M.b d_Y_feed_26 (by decide) (fun c20 => ?_) (fun c20 => ?_)
      · replace hf := z_t c20 hf
        refine lv_iload_n M.x M.b d_Y_feed_33 rfl (lv_at hl 1 rfl) ?_
        refine lv_iconst (v := (1 : Int32)) M.x M.b d_Y_feed_34 rfl ?_
        refine lv_isub M.x M.b d_Y_feed_35 ?_
        refine lv_istore (lv' := [(4, .int (x1 - (1 : Int32))), (0, .ref this), (1, .int x1), (2, .long x2)]) M.x M.b d_Y_feed_36 hl (by decide) rfl (fun ls hl => ?_)
        exact w_Y_feed_38 M this FU _ _ _ hf H locs ls hH hS (lv_sub hl [1, 3, 0] rfl)
      · replace hf := z_f c20 hf
        refine lv_sipush (v := (-1004 : Int32)) M.x M.b d_Y_feed_29 rfl ?_
        obtain ⟨rfl, rfl⟩ := z_r2 hf
        exact z_iret M hH hS d_Y_feed_32
    · replace hf := z_f c21 hf
      refine lv_sipush (v := (-1002 : Int32)) M.x M.b d_Y_feed_11 rfl ?_
      obtain ⟨rfl, rfl⟩ := z_r2 hf
      exact z_iret M hH hS d_Y_feed_14
def f_Y_number_22 (this : Nat) (s0 : Option Nat) (h : Hp) : Option ((Int32 × Hp)) :=
  zm s0 (
    some ((-1004 : Int32), h)
  ) fun a1 =>
  (gA h this 7 3).bind fun r2 =>
  (r2).bind fun a4 =>
  (f_R_read a4 a1 h).bind fun h7 =>
  (gA h7 this 7 3).bind fun r8 =>
  (r8).bind fun a10 =>
  (pV h7 a10 5 1 (.int (0 : Int32))).bind fun h12 =>
  (gA h12 this 7 3).bind fun r14 =>
  (r14).bind fun a16 =>
  (gI h12 a16 5 3).bind fun i18 =>
  if i18 = 0 then
    (pV h12 this 7 10 (.int (-1 : Int32))).bind fun h20 =>
    (gI h20 this 7 9).bind fun i22 =>
    (pV h20 this 7 9 (.int (i22 + (1 : Int32)))).bind fun h24 =>
    (gI h24 this 7 9).bind fun i26 =>
    some ((i26 - (1 : Int32)), h24)
  else
  (gA h12 this 7 3).bind fun r28 =>
  (r28).bind fun a30 =>
  (gI h12 a30 5 4).bind fun i32 =>
  (pV h12 this 7 10 (.int i32)).bind fun h34 =>
  (gA h34 this 7 3).bind fun r36 =>
  (r36).bind fun a38 =>
  (gI h34 a38 5 3).bind fun i40 =>
  some (((-10 : Int32) - i40), h34)
set_option maxRecDepth 100000 in
set_option maxHeartbeats 4000000 in
theorem w_Y_number_22 {p : Program} {l : Launch} {e : Env} {s : State} {m : MethodId} {args : Array Value} {below : List Frame} {meth : Method} {c : Code} {N0 : Nat} {D : va_G} {cs : Nat → ClassId} (M : ZC p s m args meth c "YearBaskets" "number" b_Y_number 2 (some .int) N0 D cs) (this : Nat)  {r0 : Int32} {h0 : Hp}  (s0 : Option Nat) (h : Hp) (hf : f_Y_number_22 this s0 h = some (r0, h0)) : ZG p l e (zrm 34 0 0) s m args below meth c N0 D cs (some (.int r0)) h0 h 2 [(0, .ref this)] 22 [va_rf s0] := by
  intro H locs ls hH hS hl
  unfold f_Y_number_22 at hf
  rcases s0 with _ | a1
  · replace hf := zm_n hf
    refine lv_astore_nN (lv' := [(1, .null), (0, .ref this)]) M.x M.b d_Y_number_22 rfl hl (by decide) rfl (fun ls hl => ?_)
    refine lv_aload_nN M.x M.b d_Y_number_23 rfl (lv_at hl 0 rfl) ?_
    refine lv_ifnonnullN M.x M.b d_Y_number_24 ?_
    refine lv_sipush (v := (-1004 : Int32)) M.x M.b d_Y_number_27 rfl ?_
    obtain ⟨rfl, rfl⟩ := z_r2 hf
    exact z_iret M hH hS d_Y_number_30
  · replace hf := zm_s hf
    refine lv_astore_n (lv' := [(1, .ref a1), (0, .ref this)]) M.x M.b d_Y_number_22 rfl hl (by decide) rfl (fun ls hl => ?_)
    refine lv_aload_n M.x M.b d_Y_number_23 rfl (lv_at hl 0 rfl) ?_
    refine lv_ifnonnull (tgt := 31) M.x M.b d_Y_number_24 (by decide) ?_
    refine lv_aload_n M.x M.b d_Y_number_31 rfl (lv_at hl 1 rfl) ?_
    replace hf := z_bind hf; obtain ⟨r2, e3, hf⟩ := hf
    refine z_get (ci := 7) (k := 3) M hH rfl (by decide) zinY q_444 (gA_spec e3) d_Y_number_32 ?_
    refine lv_aload_n M.x M.b d_Y_number_35 rfl (lv_at hl 0 rfl) ?_
    rcases r2 with _ | a4
    · exact absurd hf z_nb0
    replace hf := z_sb hf
    replace hf := z_bind hf; obtain ⟨h7, e6, hf⟩ := hf
    refine zk_V (ci := 5) (st1 := []) M hH hS (c_R_read e6) rfl (o_R_read e6) w_R_read q_458 [] rfl ⟨Nat.le_of_ble_eq_true rfl, Nat.le_of_ble_eq_true rfl⟩ hl.1 rfl rfl (Nat.le_of_ble_eq_true rfl) d_Y_number_36 (fun H locs hH hS => ?_)
    refine lv_aload_n M.x M.b d_Y_number_39 rfl (lv_at hl 1 rfl) ?_
    replace hf := z_bind hf; obtain ⟨r8, e9, hf⟩ := hf
    refine z_get (ci := 7) (k := 3) M hH rfl (by decide) zinY q_444 (gA_spec e9) d_Y_number_40 ?_
    refine lv_iconst (v := (0 : Int32)) M.x M.b d_Y_number_43 rfl ?_
    rcases r8 with _ | a10
    · exact absurd hf z_nb0
    replace hf := z_sb hf
    replace hf := z_bind hf; obtain ⟨h12, e13, hf⟩ := hf
    refine z_putN (ci := 5) (k := 1) M hH hS rfl (by decide) zinR zYR zYR_ok zNR_ok rfl q_443 rfl rfl rfl e13 d_Y_number_44 (fun H locs hH hS => ?_)
    refine lv_aload_n M.x M.b d_Y_number_47 rfl (lv_at hl 1 rfl) ?_
    replace hf := z_bind hf; obtain ⟨r14, e15, hf⟩ := hf
    refine z_get (ci := 7) (k := 3) M hH rfl (by decide) zinY q_444 (gA_spec e15) d_Y_number_48 ?_
    rcases r14 with _ | a16
    · exact absurd hf z_nb0
    replace hf := z_sb hf
    replace hf := z_bind hf; obtain ⟨i18, e19, hf⟩ := hf
    refine z_getN (ci := 5) (k := 3) M hH rfl (by decide) zinR q_456 (gI_spec e19) d_Y_number_51 ?_
    refine lv_if_eq (tgt := 79) M.x M.b d_Y_number_54 (by decide) (fun c42 => ?_) (fun c42 => ?_)
    · replace hf := z_t c42 hf
      refine lv_aload_n M.x M.b d_Y_number_79 rfl (lv_at hl 1 rfl) ?_
      refine lv_iconst (v := (-1 : Int32)) M.x M.b d_Y_number_80 rfl ?_
      replace hf := z_bind hf; obtain ⟨h20, e21, hf⟩ := hf
      refine z_put (ci := 7) (k := 10) M hH hS rfl (by decide) zinY zYY zYY_ok zNY_ok rfl q_455 rfl rfl rfl e21 d_Y_number_81 (fun H locs hH hS => ?_)
      refine lv_aload_n M.x M.b d_Y_number_84 rfl (lv_at hl 1 rfl) ?_
      refine lv_dup M.x M.b d_Y_number_85 rfl ?_
      replace hf := z_bind hf; obtain ⟨i22, e23, hf⟩ := hf
      refine z_get (ci := 7) (k := 9) M hH rfl (by decide) zinY q_442 (gI_spec e23) d_Y_number_86 ?_
      refine lv_iconst (v := (1 : Int32)) M.x M.b d_Y_number_89 rfl ?_
      refine lv_iadd M.x M.b d_Y_number_90 ?_
      replace hf := z_bind hf; obtain ⟨h24, e25, hf⟩ := hf
      refine z_put (ci := 7) (k := 9) M hH hS rfl (by decide) zinY zYY zYY_ok zNY_ok rfl q_442 rfl rfl rfl e25 d_Y_number_91 (fun H locs hH hS => ?_)
      refine lv_aload_n M.x M.b d_Y_number_94 rfl (lv_at hl 1 rfl) ?_
      replace hf := z_bind hf; obtain ⟨i26, e27, hf⟩ := hf
      refine z_get (ci := 7) (k := 9) M hH rfl (by decide) zinY q_442 (gI_spec e27) d_Y_number_95 ?_
      refine lv_iconst (v := (1 : Int32)) M.x M.b d_Y_number_98 rfl ?_
      refine lv_isub M.x M.b d_Y_number_99 ?_
      obtain ⟨rfl, rfl⟩ := z_r2 hf
      exact z_iret M hH hS d_Y_number_100
    · replace hf := z_f c42 hf
      refine lv_aload_n M.x M.b d_Y_number_57 rfl (lv_at hl 1 rfl) ?_
      refine lv_aload_n M.x M.b d_Y_number_58 rfl (lv_at hl 1 rfl) ?_
      replace hf := z_bind hf; obtain ⟨r28, e29, hf⟩ := hf
      refine z_get (ci := 7) (k := 3) M hH rfl (by decide) zinY q_444 (gA_spec e29) d_Y_number_59 ?_
      rcases r28 with _ | a30
      · exact absurd hf z_nb0
      replace hf := z_sb hf
      replace hf := z_bind hf; obtain ⟨i32, e33, hf⟩ := hf
      refine z_getN (ci := 5) (k := 4) M hH rfl (by decide) zinR q_457 (gI_spec e33) d_Y_number_62 ?_
      replace hf := z_bind hf; obtain ⟨h34, e35, hf⟩ := hf
      refine z_put (ci := 7) (k := 10) M hH hS rfl (by decide) zinY zYY zYY_ok zNY_ok rfl q_455 rfl rfl rfl e35 d_Y_number_65 (fun H locs hH hS => ?_)
      refine lv_bipush (v := (-10 : Int32)) M.x M.b d_Y_number_68 rfl ?_
      refine lv_aload_n M.x M.b d_Y_number_70 rfl (lv_at hl 1 rfl) ?_
      replace hf := z_bind hf; obtain ⟨r36, e37, hf⟩ := hf
      refine z_get (ci := 7) (k := 3) M hH rfl (by decide) zinY q_444 (gA_spec e37) d_Y_number_71 ?_
      rcases r36 with _ | a38
      · exact absurd hf z_nb0
      replace hf := z_sb hf
      replace hf := z_bind hf; obtain ⟨i40, e41, hf⟩ := hf
      refine z_getN (ci := 5) (k := 3) M hH rfl (by decide) zinR q_456 (gI_spec e41) d_Y_number_74 ?_
      refine lv_isub M.x M.b d_Y_number_77 ?_
      obtain ⟨rfl, rfl⟩ := z_r2 hf
      exact z_iret M hH hS d_Y_number_78
def f_Y_number (this : Nat) (h : Hp) : Option ((Int32 × Hp)) :=
  if isO h this 7 = true then
  (gI h this 7 9).bind fun i43 =>
  if (8 : Int32) ≤ i43 then
    f_Y_number_22 this none h
  else
  (gA h this 7 2).bind fun r45 =>
  (gI h this 7 9).bind fun i47 =>
  (r45).bind fun a49 =>
  (aA h 4 a49 i47).bind fun r52 =>
  f_Y_number_22 this r52 h
  else none
theorem o_Y_number {this : Nat} {h : Hp} {r0 : Int32} {h0 : Hp} (hf : f_Y_number this h = some (r0, h0)) : isO h this 7 = true := by
  unfold f_Y_number at hf
  exact (z_gd hf).1
set_option maxRecDepth 100000 in
set_option maxHeartbeats 4000000 in
theorem c_Y_number {l : Launch} {N0 : Nat} {D : va_G} {cs : Nat → ClassId} {this : Nat} {h : Hp} {r0 : Int32} {h0 : Hp} (hf : f_Y_number this h = some (r0, h0)) : Fn l N0 D cs y_Y_number b_Y_number 2 (some .int) 34 0 0 [.ref this] h (some (.int r0)) h0 := by
  refine z_start (by decide) (Nat.le_of_ble_eq_true rfl) ?_
  intro p e s m args below meth c M hH hS ls hl
  unfold f_Y_number at hf
  obtain ⟨hO, hf⟩ := z_gd hf
  have hl : lv_has ls 2 [(0, .ref this)] := hl
  obtain ⟨H, hHe⟩ : ∃ H, H = s.heap := ⟨_, rfl⟩
  obtain ⟨locs, hLe⟩ : ∃ locs : List Loc, locs = [] := ⟨_, rfl⟩
  have hS : va_S (zA N0) s.heap H locs := by rw [hHe, hLe]; exact hS
  have hH : HH N0 D cs h H := by rw [hHe]; exact hH
  suffices hg : W p l e (zrm 34 0 0) s m args below meth c H locs 0 0 (MQ below (zQ N0 D cs (some (.int r0)) h0) args s 0 0 (zA N0)) (F0 m 0 ls []) by rw [hHe, hLe] at hg; exact hg
  clear hHe hLe
  refine lv_aload_n M.x M.b d_Y_number_0 rfl (lv_at hl 0 rfl) ?_
  replace hf := z_bind hf; obtain ⟨i43, e44, hf⟩ := hf
  refine z_get (ci := 7) (k := 9) M hH rfl (by decide) zinY q_442 (gI_spec e44) d_Y_number_1 ?_
  refine lv_bipush (v := (8 : Int32)) M.x M.b d_Y_number_4 rfl ?_
  refine lv_icmp_ge (tgt := 21) M.x M.b d_Y_number_6 (by decide) (fun c53 => ?_) (fun c53 => ?_)
  · replace hf := z_t c53 hf
    refine lv_null M.x M.b d_Y_number_21 ?_
    exact w_Y_number_22 M this _ _ hf H locs ls hH hS (lv_sub hl [0] rfl)
  · replace hf := z_f c53 hf
    refine lv_aload_n M.x M.b d_Y_number_9 rfl (lv_at hl 0 rfl) ?_
    replace hf := z_bind hf; obtain ⟨r45, e46, hf⟩ := hf
    refine z_get (ci := 7) (k := 2) M hH rfl (by decide) zinY q_459 (gA_spec e46) d_Y_number_10 ?_
    refine lv_aload_n M.x M.b d_Y_number_13 rfl (lv_at hl 0 rfl) ?_
    replace hf := z_bind hf; obtain ⟨i47, e48, hf⟩ := hf
    refine z_get (ci := 7) (k := 9) M hH rfl (by decide) zinY q_442 (gI_spec e48) d_Y_number_14 ?_
    rcases r45 with _ | a49
    · exact absurd hf z_nb0
    replace hf := z_sb hf
    replace hf := z_bind hf; obtain ⟨r52, e51, hf⟩ := hf
    refine z_aald (t := 4) M hH rfl e51 d_Y_number_17 ?_
    refine lv_goto (tgt := 22) M.x M.b d_Y_number_18 (by decide) ?_
    exact w_Y_number_22 M this _ _ hf H locs ls hH hS (lv_sub hl [0] rfl)
def f_Y_fault (this : Nat) (h : Hp) : Option (Int32) :=
  if isO h this 7 = true then
  (gI h this 7 10).bind fun i1 =>
  some i1
  else none
theorem o_Y_fault {this : Nat} {h : Hp} {r0 : Int32} (hf : f_Y_fault this h = some r0) : isO h this 7 = true := by
  unfold f_Y_fault at hf
  exact (z_gd hf).1
set_option maxRecDepth 100000 in
set_option maxHeartbeats 4000000 in
theorem c_Y_fault {l : Launch} {N0 : Nat} {D : va_G} {cs : Nat → ClassId} {this : Nat} {h : Hp} {r0 : Int32} (hf : f_Y_fault this h = some r0) : Fn l N0 D cs y_Y_fault b_Y_fault 1 (some .int) 1 0 0 [.ref this] h (some (.int r0)) h := by
  refine z_start (by decide) (Nat.le_of_ble_eq_true rfl) ?_
  intro p e s m args below meth c M hH hS ls hl
  unfold f_Y_fault at hf
  obtain ⟨hO, hf⟩ := z_gd hf
  have hl : lv_has ls 1 [(0, .ref this)] := hl
  obtain ⟨H, hHe⟩ : ∃ H, H = s.heap := ⟨_, rfl⟩
  obtain ⟨locs, hLe⟩ : ∃ locs : List Loc, locs = [] := ⟨_, rfl⟩
  have hS : va_S (zA N0) s.heap H locs := by rw [hHe, hLe]; exact hS
  have hH : HH N0 D cs h H := by rw [hHe]; exact hH
  suffices hg : W p l e (zrm 1 0 0) s m args below meth c H locs 0 0 (MQ below (zQ N0 D cs (some (.int r0)) h) args s 0 0 (zA N0)) (F0 m 0 ls []) by rw [hHe, hLe] at hg; exact hg
  clear hHe hLe
  refine lv_aload_n M.x M.b d_Y_fault_0 rfl (lv_at hl 0 rfl) ?_
  replace hf := z_bind hf; obtain ⟨i1, e2, hf⟩ := hf
  refine z_get (ci := 7) (k := 10) M hH rfl (by decide) zinY q_455 (gI_spec e2) d_Y_fault_1 ?_
  obtain rfl := z_r1 hf
  exact z_iret M hH hS d_Y_fault_4
def f_Y_isNoNumber (this : Nat) (h : Hp) (x1 : Int32) : Option (Int32) :=
  if isO h this 7 = true then
  if x1 < 0 then
    some (1 : Int32)
  else
  (gI h this 7 9).bind fun i1 =>
  if x1 < i1 then
    some (0 : Int32)
  else
  some (1 : Int32)
  else none
theorem o_Y_isNoNumber {this : Nat} {h : Hp} {x1 : Int32} {r0 : Int32} (hf : f_Y_isNoNumber this h x1 = some r0) : isO h this 7 = true := by
  unfold f_Y_isNoNumber at hf
  exact (z_gd hf).1
set_option maxRecDepth 100000 in
set_option maxHeartbeats 4000000 in
theorem c_Y_isNoNumber {l : Launch} {N0 : Nat} {D : va_G} {cs : Nat → ClassId} {this : Nat} {h : Hp} {x1 : Int32} {r0 : Int32} (hf : f_Y_isNoNumber this h x1 = some r0) : Fn l N0 D cs y_Y_isNoNumber b_Y_isNoNumber 2 (some .boolean) 1 0 0 [.ref this, .int x1] h (some (.int r0)) h := by
  refine z_start (by decide) (Nat.le_of_ble_eq_true rfl) ?_
  intro p e s m args below meth c M hH hS ls hl
  unfold f_Y_isNoNumber at hf
  obtain ⟨hO, hf⟩ := z_gd hf
  have hl : lv_has ls 2 [(0, .ref this), (1, .int x1)] := hl
  obtain ⟨H, hHe⟩ : ∃ H, H = s.heap := ⟨_, rfl⟩
  obtain ⟨locs, hLe⟩ : ∃ locs : List Loc, locs = [] := ⟨_, rfl⟩
  have hS : va_S (zA N0) s.heap H locs := by rw [hHe, hLe]; exact hS
  have hH : HH N0 D cs h H := by rw [hHe]; exact hH
  suffices hg : W p l e (zrm 1 0 0) s m args below meth c H locs 0 0 (MQ below (zQ N0 D cs (some (.int r0)) h) args s 0 0 (zA N0)) (F0 m 0 ls []) by rw [hHe, hLe] at hg; exact hg
  clear hHe hLe
  refine lv_iload_n M.x M.b d_Y_isNoNumber_0 rfl (lv_at hl 1 rfl) ?_
  refine lv_if_lt (tgt := 12) M.x M.b d_Y_isNoNumber_1 (by decide) (fun c4 => ?_) (fun c4 => ?_)
  · replace hf := z_t c4 hf
    refine lv_iconst (v := (1 : Int32)) M.x M.b d_Y_isNoNumber_12 rfl ?_
    refine lv_goto (tgt := 17) M.x M.b d_Y_isNoNumber_13 (by decide) ?_
    obtain rfl := z_r1 hf
    exact z_zret M hH hS (by decide) d_Y_isNoNumber_17
  · replace hf := z_f c4 hf
    refine lv_iload_n M.x M.b d_Y_isNoNumber_4 rfl (lv_at hl 1 rfl) ?_
    refine lv_aload_n M.x M.b d_Y_isNoNumber_5 rfl (lv_at hl 0 rfl) ?_
    replace hf := z_bind hf; obtain ⟨i1, e2, hf⟩ := hf
    refine z_get (ci := 7) (k := 9) M hH rfl (by decide) zinY q_442 (gI_spec e2) d_Y_isNoNumber_6 ?_
    refine lv_icmp_lt (tgt := 16) M.x M.b d_Y_isNoNumber_9 (by decide) (fun c3 => ?_) (fun c3 => ?_)
    · replace hf := z_t c3 hf
      refine lv_iconst (v := (0 : Int32)) M.x M.b d_Y_isNoNumber_16 rfl ?_
      obtain rfl := z_r1 hf
      exact z_zret M hH hS (by decide) d_Y_isNoNumber_17
    · replace hf := z_f c3 hf
      refine lv_iconst (v := (1 : Int32)) M.x M.b d_Y_isNoNumber_12 rfl ?_
      refine lv_goto (tgt := 17) M.x M.b d_Y_isNoNumber_13 (by decide) ?_
      obtain rfl := z_r1 hf
      exact z_zret M hH hS (by decide) d_Y_isNoNumber_17
def f_Y_planOf (this : Nat) (h : Hp) (x1 : Int32) : Option (Option Nat) :=
  if isO h this 7 = true then
  if x1 < 0 then
    some none
  else
  (gI h this 7 9).bind fun i1 =>
  if i1 ≤ x1 then
    some none
  else
  if x1 < (8 : Int32) then
    (gA h this 7 2).bind fun r3 =>
    (r3).bind fun a5 =>
    (aA h 4 a5 x1).bind fun r8 =>
    some r8
  else
  some none
  else none
theorem o_Y_planOf {this : Nat} {h : Hp} {x1 : Int32} {r0 : Option Nat} (hf : f_Y_planOf this h x1 = some r0) : isO h this 7 = true := by
  unfold f_Y_planOf at hf
  exact (z_gd hf).1
set_option maxRecDepth 100000 in
set_option maxHeartbeats 4000000 in
theorem c_Y_planOf {l : Launch} {N0 : Nat} {D : va_G} {cs : Nat → ClassId} {this : Nat} {h : Hp} {x1 : Int32} {r0 : Option Nat} (hf : f_Y_planOf this h x1 = some r0) : Fn l N0 D cs y_Y_planOf b_Y_planOf 2 (some (.object "YearBaskets$Plan")) 1 0 0 [.ref this, .int x1] h (some (va_rf r0)) h := by
  refine z_start (by decide) (Nat.le_of_ble_eq_true rfl) ?_
  intro p e s m args below meth c M hH hS ls hl
  unfold f_Y_planOf at hf
  obtain ⟨hO, hf⟩ := z_gd hf
  have hl : lv_has ls 2 [(0, .ref this), (1, .int x1)] := hl
  obtain ⟨H, hHe⟩ : ∃ H, H = s.heap := ⟨_, rfl⟩
  obtain ⟨locs, hLe⟩ : ∃ locs : List Loc, locs = [] := ⟨_, rfl⟩
  have hS : va_S (zA N0) s.heap H locs := by rw [hHe, hLe]; exact hS
  have hH : HH N0 D cs h H := by rw [hHe]; exact hH
  suffices hg : W p l e (zrm 1 0 0) s m args below meth c H locs 0 0 (MQ below (zQ N0 D cs (some (va_rf r0)) h) args s 0 0 (zA N0)) (F0 m 0 ls []) by rw [hHe, hLe] at hg; exact hg
  clear hHe hLe
  refine lv_iload_n M.x M.b d_Y_planOf_0 rfl (lv_at hl 1 rfl) ?_
  refine lv_if_lt (tgt := 18) M.x M.b d_Y_planOf_1 (by decide) (fun c11 => ?_) (fun c11 => ?_)
  · replace hf := z_t c11 hf
    refine lv_null M.x M.b d_Y_planOf_18 ?_
    refine lv_goto (tgt := 28) M.x M.b d_Y_planOf_19 (by decide) ?_
    obtain rfl := z_r1 hf
    exact z_aret (v := none) M hH hS d_Y_planOf_28
  · replace hf := z_f c11 hf
    refine lv_iload_n M.x M.b d_Y_planOf_4 rfl (lv_at hl 1 rfl) ?_
    refine lv_aload_n M.x M.b d_Y_planOf_5 rfl (lv_at hl 0 rfl) ?_
    replace hf := z_bind hf; obtain ⟨i1, e2, hf⟩ := hf
    refine z_get (ci := 7) (k := 9) M hH rfl (by decide) zinY q_442 (gI_spec e2) d_Y_planOf_6 ?_
    refine lv_icmp_ge (tgt := 18) M.x M.b d_Y_planOf_9 (by decide) (fun c10 => ?_) (fun c10 => ?_)
    · replace hf := z_t c10 hf
      refine lv_null M.x M.b d_Y_planOf_18 ?_
      refine lv_goto (tgt := 28) M.x M.b d_Y_planOf_19 (by decide) ?_
      obtain rfl := z_r1 hf
      exact z_aret (v := none) M hH hS d_Y_planOf_28
    · replace hf := z_f c10 hf
      refine lv_iload_n M.x M.b d_Y_planOf_12 rfl (lv_at hl 1 rfl) ?_
      refine lv_bipush (v := (8 : Int32)) M.x M.b d_Y_planOf_13 rfl ?_
      refine lv_icmp_lt (tgt := 22) M.x M.b d_Y_planOf_15 (by decide) (fun c9 => ?_) (fun c9 => ?_)
      · replace hf := z_t c9 hf
        refine lv_aload_n M.x M.b d_Y_planOf_22 rfl (lv_at hl 0 rfl) ?_
        replace hf := z_bind hf; obtain ⟨r3, e4, hf⟩ := hf
        refine z_get (ci := 7) (k := 2) M hH rfl (by decide) zinY q_459 (gA_spec e4) d_Y_planOf_23 ?_
        refine lv_iload_n M.x M.b d_Y_planOf_26 rfl (lv_at hl 1 rfl) ?_
        rcases r3 with _ | a5
        · exact absurd hf z_nb0
        replace hf := z_sb hf
        replace hf := z_bind hf; obtain ⟨r8, e7, hf⟩ := hf
        refine z_aald (t := 4) M hH rfl e7 d_Y_planOf_27 ?_
        obtain rfl := z_r1 hf
        exact z_aret (v := r8) M hH hS d_Y_planOf_28
      · replace hf := z_f c9 hf
        refine lv_null M.x M.b d_Y_planOf_18 ?_
        refine lv_goto (tgt := 28) M.x M.b d_Y_planOf_19 (by decide) ?_
        obtain rfl := z_r1 hf
        exact z_aret (v := none) M hH hS d_Y_planOf_28
def f_Y_worth (this : Nat) (x1 : Int32) (x2 : Int32) (x3 : Int32) (x4 : Int32) (x5 : Int32) (h : Hp) : Option ((Int64 × Hp)) :=
  if isO h this 7 = true then
  (f_Y_isNoNumber this h x1).bind fun i2 =>
  if i2 = 0 then
    (f_Y_isNoWho x2).bind fun i4 =>
    if i4 = 0 then
      (f_Y_isNoYear x3).bind fun i6 =>
      if i6 = 0 then
        (f_Y_isNoYear x4).bind fun i8 =>
        if i8 = 0 then
          if x5 < 0 then
            some ((-1002 : Int64), h)
          else
          if x5 ≤ (2 : Int32) then
            (gA h this 7 4).bind fun r9 =>
            (r9).bind fun a11 =>
            (f_Y_planOf this h x1).bind fun r14 =>
            (gA h this 7 0).bind fun r15 =>
            (gA h this 7 7).bind fun r17 =>
            (r14).bind fun a19 =>
            (r15).bind fun a21 =>
            (r17).bind fun a23 =>
            (f_T_tell a11 a19 a21 x2 x3 x4 a23 h).bind fun h26 =>
            (gA h26 this 7 7).bind fun r27 =>
            (r27).bind fun a29 =>
            (gI h26 a29 1 3).bind fun i31 =>
            if i31 = 0 then
              if x5 = (2 : Int32) then
                (gA h26 this 7 7).bind fun r46 =>
                (r46).bind fun a48 =>
                (gI h26 a48 1 2).bind fun i50 =>
                if i50 = 0 then
                  some ((0 : Int64), h26)
                else
                some ((1 : Int64), h26)
              else
              if x5 = 0 then
                (gA h26 this 7 7).bind fun r39 =>
                (r39).bind fun a41 =>
                (gL h26 a41 1 0).bind fun l43 =>
                some (l43, h26)
              else
              (gA h26 this 7 7).bind fun r33 =>
              (r33).bind fun a35 =>
              (gL h26 a35 1 1).bind fun l37 =>
              some (l37, h26)
            else
            (gA h26 this 7 7).bind fun r54 =>
            (r54).bind fun a56 =>
            (gI h26 a56 1 3).bind fun i58 =>
            some ((i58).toInt64, h26)
          else
          some ((-1002 : Int64), h)
        else
        some ((-1001 : Int64), h)
      else
      some ((-1001 : Int64), h)
    else
    some ((-1001 : Int64), h)
  else
  some ((-1001 : Int64), h)
  else none
theorem o_Y_worth {this : Nat} {x1 : Int32} {x2 : Int32} {x3 : Int32} {x4 : Int32} {x5 : Int32} {h : Hp} {r0 : Int64} {h0 : Hp} (hf : f_Y_worth this x1 x2 x3 x4 x5 h = some (r0, h0)) : isO h this 7 = true := by
  unfold f_Y_worth at hf
  exact (z_gd hf).1
set_option maxRecDepth 100000 in
set_option maxHeartbeats 4000000 in
theorem c_Y_worth {l : Launch} {N0 : Nat} {D : va_G} {cs : Nat → ClassId} {this : Nat} {x1 : Int32} {x2 : Int32} {x3 : Int32} {x4 : Int32} {x5 : Int32} {h : Hp} {r0 : Int64} {h0 : Hp} (hf : f_Y_worth this x1 x2 x3 x4 x5 h = some (r0, h0)) : Fn l N0 D cs y_Y_worth b_Y_worth 6 (some .long) 34 0 0 [.ref this, .int x1, .int x2, .int x3, .int x4, .int x5] h (some (.long r0)) h0 := by
  refine z_start (by decide) (Nat.le_of_ble_eq_true rfl) ?_
  intro p e s m args below meth c M hH hS ls hl
  unfold f_Y_worth at hf
  obtain ⟨hO, hf⟩ := z_gd hf
  have hl : lv_has ls 6 [(0, .ref this), (1, .int x1), (2, .int x2), (3, .int x3), (4, .int x4), (5, .int x5)] := hl
  obtain ⟨H, hHe⟩ : ∃ H, H = s.heap := ⟨_, rfl⟩
  obtain ⟨locs, hLe⟩ : ∃ locs : List Loc, locs = [] := ⟨_, rfl⟩
  have hS : va_S (zA N0) s.heap H locs := by rw [hHe, hLe]; exact hS
  have hH : HH N0 D cs h H := by rw [hHe]; exact hH
  suffices hg : W p l e (zrm 34 0 0) s m args below meth c H locs 0 0 (MQ below (zQ N0 D cs (some (.long r0)) h0) args s 0 0 (zA N0)) (F0 m 0 ls []) by rw [hHe, hLe] at hg; exact hg
  clear hHe hLe
  refine lv_aload_n M.x M.b d_Y_worth_0 rfl (lv_at hl 0 rfl) ?_
  refine lv_iload_n M.x M.b d_Y_worth_1 rfl (lv_at hl 1 rfl) ?_
  replace hf := z_bind hf; obtain ⟨i2, e1, hf⟩ := hf
  refine zk_V (ci := 7) (st1 := [.int i2]) M hH hS (c_Y_isNoNumber e1) rfl (o_Y_isNoNumber e1) w_Y_isNoNumber q_482 [] rfl ⟨Nat.le_of_ble_eq_true rfl, Nat.le_of_ble_eq_true rfl⟩ hl.1 rfl rfl (Nat.le_of_ble_eq_true rfl) d_Y_worth_2 (fun H locs hH hS => ?_)
  refine lv_if_ne (tgt := 30) M.x M.b d_Y_worth_5 (by decide) (fun c66 => ?_) (fun c66 => ?_)
  · replace hf := z_f c66 hf
    refine z_ldc2 (v := (-1001 : Int64)) M q_472 d_Y_worth_30 ?_
    obtain ⟨rfl, rfl⟩ := z_r2 hf
    exact z_lret M hH hS d_Y_worth_33
  · replace hf := z_t c66 hf
    refine lv_iload_n M.x M.b d_Y_worth_8 rfl (lv_at hl 2 rfl) ?_
    replace hf := z_bind hf; obtain ⟨i4, e3, hf⟩ := hf
    refine zk_S (st1 := [.int i4]) M hH hS (c_Y_isNoWho e3) w_Y_isNoWho q_433 [] rfl ⟨Nat.le_of_ble_eq_true rfl, Nat.le_of_ble_eq_true rfl⟩ hl.1 rfl rfl (Nat.le_of_ble_eq_true rfl) d_Y_worth_9 (fun H locs hH hS => ?_)
    refine lv_if_ne (tgt := 30) M.x M.b d_Y_worth_12 (by decide) (fun c65 => ?_) (fun c65 => ?_)
    · replace hf := z_f c65 hf
      refine z_ldc2 (v := (-1001 : Int64)) M q_472 d_Y_worth_30 ?_
      obtain ⟨rfl, rfl⟩ := z_r2 hf
      exact z_lret M hH hS d_Y_worth_33
    · replace hf := z_t c65 hf
      refine lv_iload_n M.x M.b d_Y_worth_15 rfl (lv_at hl 3 rfl) ?_
      replace hf := z_bind hf; obtain ⟨i6, e5, hf⟩ := hf
      refine zk_S (st1 := [.int i6]) M hH hS (c_Y_isNoYear e5) w_Y_isNoYear q_422 [] rfl ⟨Nat.le_of_ble_eq_true rfl, Nat.le_of_ble_eq_true rfl⟩ hl.1 rfl rfl (Nat.le_of_ble_eq_true rfl) d_Y_worth_16 (fun H locs hH hS => ?_)
      refine lv_if_ne (tgt := 30) M.x M.b d_Y_worth_19 (by decide) (fun c64 => ?_) (fun c64 => ?_)
      · replace hf := z_f c64 hf
        refine z_ldc2 (v := (-1001 : Int64)) M q_472 d_Y_worth_30 ?_
        obtain ⟨rfl, rfl⟩ := z_r2 hf
        exact z_lret M hH hS d_Y_worth_33
      · replace hf := z_t c64 hf
        refine lv_iload M.x M.b d_Y_worth_22 (lv_at hl 4 rfl) ?_
        replace hf := z_bind hf; obtain ⟨i8, e7, hf⟩ := hf
        refine zk_S (st1 := [.int i8]) M hH hS (c_Y_isNoYear e7) w_Y_isNoYear q_422 [] rfl ⟨Nat.le_of_ble_eq_true rfl, Nat.le_of_ble_eq_true rfl⟩ hl.1 rfl rfl (Nat.le_of_ble_eq_true rfl) d_Y_worth_24 (fun H locs hH hS => ?_)
        refine lv_if_eq (tgt := 34) M.x M.b d_Y_worth_27 (by decide) (fun c63 => ?_) (fun c63 => ?_)
        · replace hf := z_t c63 hf
          refine lv_iload M.x M.b d_Y_worth_34 (lv_at hl 5 rfl) ?_
          refine lv_if_lt (tgt := 45) M.x M.b d_Y_worth_36 (by decide) (fun c62 => ?_) (fun c62 => ?_)
          · replace hf := z_t c62 hf
            refine z_ldc2 (v := (-1002 : Int64)) M q_473 d_Y_worth_45 ?_
            obtain ⟨rfl, rfl⟩ := z_r2 hf
            exact z_lret M hH hS d_Y_worth_48
          · replace hf := z_f c62 hf
            refine lv_iload M.x M.b d_Y_worth_39 (lv_at hl 5 rfl) ?_
            refine lv_iconst (v := (2 : Int32)) M.x M.b d_Y_worth_41 rfl ?_
            refine lv_icmp_le (tgt := 49) M.x M.b d_Y_worth_42 (by decide) (fun c61 => ?_) (fun c61 => ?_)
            · replace hf := z_t c61 hf
              refine lv_aload_n M.x M.b d_Y_worth_49 rfl (lv_at hl 0 rfl) ?_
              replace hf := z_bind hf; obtain ⟨r9, e10, hf⟩ := hf
              refine z_get (ci := 7) (k := 4) M hH rfl (by decide) zinY q_481 (gA_spec e10) d_Y_worth_50 ?_
              refine lv_aload_n M.x M.b d_Y_worth_53 rfl (lv_at hl 0 rfl) ?_
              refine lv_iload_n M.x M.b d_Y_worth_54 rfl (lv_at hl 1 rfl) ?_
              rcases r9 with _ | a11
              · exact absurd hf z_nb0
              replace hf := z_sb hf
              replace hf := z_bind hf; obtain ⟨r14, e13, hf⟩ := hf
              refine zk_V (ci := 7) (st1 := [va_rf r14, .ref a11]) M hH hS (c_Y_planOf e13) rfl (o_Y_planOf e13) w_Y_planOf q_480 [.ref a11] rfl ⟨Nat.le_of_ble_eq_true rfl, Nat.le_of_ble_eq_true rfl⟩ hl.1 rfl rfl (Nat.le_of_ble_eq_true rfl) d_Y_worth_55 (fun H locs hH hS => ?_)
              refine lv_aload_n M.x M.b d_Y_worth_58 rfl (lv_at hl 0 rfl) ?_
              replace hf := z_bind hf; obtain ⟨r15, e16, hf⟩ := hf
              refine z_get (ci := 7) (k := 0) M hH rfl (by decide) zinY q_419 (gA_spec e16) d_Y_worth_59 ?_
              refine lv_iload_n M.x M.b d_Y_worth_62 rfl (lv_at hl 2 rfl) ?_
              refine lv_iload_n M.x M.b d_Y_worth_63 rfl (lv_at hl 3 rfl) ?_
              refine lv_iload M.x M.b d_Y_worth_64 (lv_at hl 4 rfl) ?_
              refine lv_aload_n M.x M.b d_Y_worth_66 rfl (lv_at hl 0 rfl) ?_
              replace hf := z_bind hf; obtain ⟨r17, e18, hf⟩ := hf
              refine z_get (ci := 7) (k := 7) M hH rfl (by decide) zinY q_475 (gA_spec e18) d_Y_worth_67 ?_
              rcases r14 with _ | a19
              · exact absurd hf z_nb0
              replace hf := z_sb hf
              rcases r15 with _ | a21
              · exact absurd hf z_nb0
              replace hf := z_sb hf
              rcases r17 with _ | a23
              · exact absurd hf z_nb0
              replace hf := z_sb hf
              replace hf := z_bind hf; obtain ⟨h26, e25, hf⟩ := hf
              refine zk_V (ci := 6) (st1 := []) M hH hS (c_T_tell e25) rfl (o_T_tell e25) w_T_tell q_479 [] rfl ⟨Nat.le_of_ble_eq_true rfl, Nat.le_of_ble_eq_true rfl⟩ hl.1 rfl rfl (Nat.le_of_ble_eq_true rfl) d_Y_worth_70 (fun H locs hH hS => ?_)
              refine lv_aload_n M.x M.b d_Y_worth_73 rfl (lv_at hl 0 rfl) ?_
              replace hf := z_bind hf; obtain ⟨r27, e28, hf⟩ := hf
              refine z_get (ci := 7) (k := 7) M hH rfl (by decide) zinY q_475 (gA_spec e28) d_Y_worth_74 ?_
              rcases r27 with _ | a29
              · exact absurd hf z_nb0
              replace hf := z_sb hf
              replace hf := z_bind hf; obtain ⟨i31, e32, hf⟩ := hf
              refine z_getN (ci := 1) (k := 3) M hH rfl (by decide) zinF q_478 (gI_spec e32) d_Y_worth_77 ?_
              refine lv_if_eq (tgt := 92) M.x M.b d_Y_worth_80 (by decide) (fun c60 => ?_) (fun c60 => ?_)
              · replace hf := z_t c60 hf
                refine lv_iload M.x M.b d_Y_worth_92 (lv_at hl 5 rfl) ?_
                refine lv_iconst (v := (2 : Int32)) M.x M.b d_Y_worth_94 rfl ?_
                refine lv_icmp_ne (tgt := 114) M.x M.b d_Y_worth_95 (by decide) (fun c53 => ?_) (fun c53 => ?_)
                · replace hf := z_f c53 hf
                  refine lv_iload M.x M.b d_Y_worth_114 (lv_at hl 5 rfl) ?_
                  refine lv_if_ne (tgt := 129) M.x M.b d_Y_worth_116 (by decide) (fun c45 => ?_) (fun c45 => ?_)
                  · replace hf := z_f c45 hf
                    refine lv_aload_n M.x M.b d_Y_worth_129 rfl (lv_at hl 0 rfl) ?_
                    replace hf := z_bind hf; obtain ⟨r33, e34, hf⟩ := hf
                    refine z_get (ci := 7) (k := 7) M hH rfl (by decide) zinY q_475 (gA_spec e34) d_Y_worth_130 ?_
                    rcases r33 with _ | a35
                    · exact absurd hf z_nb0
                    replace hf := z_sb hf
                    replace hf := z_bind hf; obtain ⟨l37, e38, hf⟩ := hf
                    refine z_getN (ci := 1) (k := 1) M hH rfl (by decide) zinF q_474 (gL_spec e38) d_Y_worth_133 ?_
                    obtain ⟨rfl, rfl⟩ := z_r2 hf
                    exact z_lret M hH hS d_Y_worth_136
                  · replace hf := z_t c45 hf
                    refine lv_aload_n M.x M.b d_Y_worth_119 rfl (lv_at hl 0 rfl) ?_
                    replace hf := z_bind hf; obtain ⟨r39, e40, hf⟩ := hf
                    refine z_get (ci := 7) (k := 7) M hH rfl (by decide) zinY q_475 (gA_spec e40) d_Y_worth_120 ?_
                    rcases r39 with _ | a41
                    · exact absurd hf z_nb0
                    replace hf := z_sb hf
                    replace hf := z_bind hf; obtain ⟨l43, e44, hf⟩ := hf
                    refine z_getN (ci := 1) (k := 0) M hH rfl (by decide) zinF q_476 (gL_spec e44) d_Y_worth_123 ?_
                    refine lv_goto (tgt := 136) M.x M.b d_Y_worth_126 (by decide) ?_
                    obtain ⟨rfl, rfl⟩ := z_r2 hf
                    exact z_lret M hH hS d_Y_worth_136
                · replace hf := z_t c53 hf
                  refine lv_aload_n M.x M.b d_Y_worth_98 rfl (lv_at hl 0 rfl) ?_
                  replace hf := z_bind hf; obtain ⟨r46, e47, hf⟩ := hf
                  refine z_get (ci := 7) (k := 7) M hH rfl (by decide) zinY q_475 (gA_spec e47) d_Y_worth_99 ?_
                  rcases r46 with _ | a48
                  · exact absurd hf z_nb0
                  replace hf := z_sb hf
                  replace hf := z_bind hf; obtain ⟨i50, e51, hf⟩ := hf
                  refine z_getN (ci := 1) (k := 2) M hH rfl (by decide) zinF q_477 (gI_spec e51) d_Y_worth_102 ?_
                  refine lv_if_eq (tgt := 112) M.x M.b d_Y_worth_105 (by decide) (fun c52 => ?_) (fun c52 => ?_)
                  · replace hf := z_t c52 hf
                    refine lv_lconst (v := (0 : Int64)) M.x M.b d_Y_worth_112 rfl ?_
                    obtain ⟨rfl, rfl⟩ := z_r2 hf
                    exact z_lret M hH hS d_Y_worth_113
                  · replace hf := z_f c52 hf
                    refine lv_lconst (v := (1 : Int64)) M.x M.b d_Y_worth_108 rfl ?_
                    refine lv_goto (tgt := 113) M.x M.b d_Y_worth_109 (by decide) ?_
                    obtain ⟨rfl, rfl⟩ := z_r2 hf
                    exact z_lret M hH hS d_Y_worth_113
              · replace hf := z_f c60 hf
                refine lv_aload_n M.x M.b d_Y_worth_83 rfl (lv_at hl 0 rfl) ?_
                replace hf := z_bind hf; obtain ⟨r54, e55, hf⟩ := hf
                refine z_get (ci := 7) (k := 7) M hH rfl (by decide) zinY q_475 (gA_spec e55) d_Y_worth_84 ?_
                rcases r54 with _ | a56
                · exact absurd hf z_nb0
                replace hf := z_sb hf
                replace hf := z_bind hf; obtain ⟨i58, e59, hf⟩ := hf
                refine z_getN (ci := 1) (k := 3) M hH rfl (by decide) zinF q_478 (gI_spec e59) d_Y_worth_87 ?_
                refine lv_i2l M.x M.b d_Y_worth_90 rfl ?_
                obtain ⟨rfl, rfl⟩ := z_r2 hf
                exact z_lret M hH hS d_Y_worth_91
            · replace hf := z_f c61 hf
              refine z_ldc2 (v := (-1002 : Int64)) M q_473 d_Y_worth_45 ?_
              obtain ⟨rfl, rfl⟩ := z_r2 hf
              exact z_lret M hH hS d_Y_worth_48
        · replace hf := z_f c63 hf
          refine z_ldc2 (v := (-1001 : Int64)) M q_472 d_Y_worth_30 ?_
          obtain ⟨rfl, rfl⟩ := z_r2 hf
          exact z_lret M hH hS d_Y_worth_33
def f_Y_order (this : Nat) (x1 : Int32) (x2 : Int32) (x3 : Int32) (x4 : Int32) (x5 : Int32) (h : Hp) : Option ((Int32 × Hp)) :=
  if isO h this 7 = true then
  (f_Y_isNoNumber this h x1).bind fun i2 =>
  if i2 = 0 then
    (f_Y_isNoNumber this h x2).bind fun i4 =>
    if i4 = 0 then
      (f_Y_isNoWho x3).bind fun i6 =>
      if i6 = 0 then
        (f_Y_isNoYear x4).bind fun i8 =>
        if i8 = 0 then
          (f_Y_isNoYear x5).bind fun i10 =>
          if i10 = 0 then
            (gA h this 7 4).bind fun r11 =>
            (r11).bind fun a13 =>
            (f_Y_planOf this h x1).bind fun r16 =>
            (gA h this 7 0).bind fun r17 =>
            (gA h this 7 7).bind fun r19 =>
            (r16).bind fun a21 =>
            (r17).bind fun a23 =>
            (r19).bind fun a25 =>
            (f_T_tell a13 a21 a23 x3 x4 x5 a25 h).bind fun h28 =>
            (gA h28 this 7 7).bind fun r29 =>
            (r29).bind fun a31 =>
            (gI h28 a31 1 3).bind fun i33 =>
            if i33 = 0 then
              (gA h28 this 7 4).bind fun r35 =>
              (r35).bind fun a37 =>
              (f_Y_planOf this h28 x2).bind fun r40 =>
              (gA h28 this 7 0).bind fun r41 =>
              (gA h28 this 7 8).bind fun r43 =>
              (r40).bind fun a45 =>
              (r41).bind fun a47 =>
              (r43).bind fun a49 =>
              (f_T_tell a37 a45 a47 x3 x4 x5 a49 h28).bind fun h52 =>
              (gA h52 this 7 8).bind fun r53 =>
              (r53).bind fun a55 =>
              (gI h52 a55 1 3).bind fun i57 =>
              if i57 = 0 then
                (gA h52 this 7 7).bind fun r59 =>
                (gA h52 this 7 8).bind fun r61 =>
                (r59).bind fun a63 =>
                (r61).bind fun a65 =>
                (f_F_orderOf h52 a63 a65).bind fun i68 =>
                some (i68, h52)
              else
              (gA h52 this 7 8).bind fun r69 =>
              (r69).bind fun a71 =>
              (gI h52 a71 1 3).bind fun i73 =>
              some (i73, h52)
            else
            (gA h28 this 7 7).bind fun r76 =>
            (r76).bind fun a78 =>
            (gI h28 a78 1 3).bind fun i80 =>
            some (i80, h28)
          else
          some ((-1001 : Int32), h)
        else
        some ((-1001 : Int32), h)
      else
      some ((-1001 : Int32), h)
    else
    some ((-1001 : Int32), h)
  else
  some ((-1001 : Int32), h)
  else none
theorem o_Y_order {this : Nat} {x1 : Int32} {x2 : Int32} {x3 : Int32} {x4 : Int32} {x5 : Int32} {h : Hp} {r0 : Int32} {h0 : Hp} (hf : f_Y_order this x1 x2 x3 x4 x5 h = some (r0, h0)) : isO h this 7 = true := by
  unfold f_Y_order at hf
  exact (z_gd hf).1
set_option maxRecDepth 100000 in
set_option maxHeartbeats 4000000 in
theorem c_Y_order {l : Launch} {N0 : Nat} {D : va_G} {cs : Nat → ClassId} {this : Nat} {x1 : Int32} {x2 : Int32} {x3 : Int32} {x4 : Int32} {x5 : Int32} {h : Hp} {r0 : Int32} {h0 : Hp} (hf : f_Y_order this x1 x2 x3 x4 x5 h = some (r0, h0)) : Fn l N0 D cs y_Y_order b_Y_order 6 (some .int) 34 0 0 [.ref this, .int x1, .int x2, .int x3, .int x4, .int x5] h (some (.int r0)) h0 := by
  refine z_start (by decide) (Nat.le_of_ble_eq_true rfl) ?_
  intro p e s m args below meth c M hH hS ls hl
  unfold f_Y_order at hf
  obtain ⟨hO, hf⟩ := z_gd hf
  have hl : lv_has ls 6 [(0, .ref this), (1, .int x1), (2, .int x2), (3, .int x3), (4, .int x4), (5, .int x5)] := hl
  obtain ⟨H, hHe⟩ : ∃ H, H = s.heap := ⟨_, rfl⟩
  obtain ⟨locs, hLe⟩ : ∃ locs : List Loc, locs = [] := ⟨_, rfl⟩
  have hS : va_S (zA N0) s.heap H locs := by rw [hHe, hLe]; exact hS
  have hH : HH N0 D cs h H := by rw [hHe]; exact hH
  suffices hg : W p l e (zrm 34 0 0) s m args below meth c H locs 0 0 (MQ below (zQ N0 D cs (some (.int r0)) h0) args s 0 0 (zA N0)) (F0 m 0 ls []) by rw [hHe, hLe] at hg; exact hg
  clear hHe hLe
  refine lv_aload_n M.x M.b d_Y_order_0 rfl (lv_at hl 0 rfl) ?_
  refine lv_iload_n M.x M.b d_Y_order_1 rfl (lv_at hl 1 rfl) ?_
  replace hf := z_bind hf; obtain ⟨i2, e1, hf⟩ := hf
  refine zk_V (ci := 7) (st1 := [.int i2]) M hH hS (c_Y_isNoNumber e1) rfl (o_Y_isNoNumber e1) w_Y_isNoNumber q_482 [] rfl ⟨Nat.le_of_ble_eq_true rfl, Nat.le_of_ble_eq_true rfl⟩ hl.1 rfl rfl (Nat.le_of_ble_eq_true rfl) d_Y_order_2 (fun H locs hH hS => ?_)
  refine lv_if_ne (tgt := 39) M.x M.b d_Y_order_5 (by decide) (fun c87 => ?_) (fun c87 => ?_)
  · replace hf := z_f c87 hf
    refine lv_sipush (v := (-1001 : Int32)) M.x M.b d_Y_order_39 rfl ?_
    obtain ⟨rfl, rfl⟩ := z_r2 hf
    exact z_iret M hH hS d_Y_order_42
  · replace hf := z_t c87 hf
    refine lv_aload_n M.x M.b d_Y_order_8 rfl (lv_at hl 0 rfl) ?_
    refine lv_iload_n M.x M.b d_Y_order_9 rfl (lv_at hl 2 rfl) ?_
    replace hf := z_bind hf; obtain ⟨i4, e3, hf⟩ := hf
    refine zk_V (ci := 7) (st1 := [.int i4]) M hH hS (c_Y_isNoNumber e3) rfl (o_Y_isNoNumber e3) w_Y_isNoNumber q_482 [] rfl ⟨Nat.le_of_ble_eq_true rfl, Nat.le_of_ble_eq_true rfl⟩ hl.1 rfl rfl (Nat.le_of_ble_eq_true rfl) d_Y_order_10 (fun H locs hH hS => ?_)
    refine lv_if_ne (tgt := 39) M.x M.b d_Y_order_13 (by decide) (fun c86 => ?_) (fun c86 => ?_)
    · replace hf := z_f c86 hf
      refine lv_sipush (v := (-1001 : Int32)) M.x M.b d_Y_order_39 rfl ?_
      obtain ⟨rfl, rfl⟩ := z_r2 hf
      exact z_iret M hH hS d_Y_order_42
    · replace hf := z_t c86 hf
      refine lv_iload_n M.x M.b d_Y_order_16 rfl (lv_at hl 3 rfl) ?_
      replace hf := z_bind hf; obtain ⟨i6, e5, hf⟩ := hf
      refine zk_S (st1 := [.int i6]) M hH hS (c_Y_isNoWho e5) w_Y_isNoWho q_433 [] rfl ⟨Nat.le_of_ble_eq_true rfl, Nat.le_of_ble_eq_true rfl⟩ hl.1 rfl rfl (Nat.le_of_ble_eq_true rfl) d_Y_order_17 (fun H locs hH hS => ?_)
      refine lv_if_ne (tgt := 39) M.x M.b d_Y_order_20 (by decide) (fun c85 => ?_) (fun c85 => ?_)
      · replace hf := z_f c85 hf
        refine lv_sipush (v := (-1001 : Int32)) M.x M.b d_Y_order_39 rfl ?_
        obtain ⟨rfl, rfl⟩ := z_r2 hf
        exact z_iret M hH hS d_Y_order_42
      · replace hf := z_t c85 hf
        refine lv_iload M.x M.b d_Y_order_23 (lv_at hl 4 rfl) ?_
        replace hf := z_bind hf; obtain ⟨i8, e7, hf⟩ := hf
        refine zk_S (st1 := [.int i8]) M hH hS (c_Y_isNoYear e7) w_Y_isNoYear q_422 [] rfl ⟨Nat.le_of_ble_eq_true rfl, Nat.le_of_ble_eq_true rfl⟩ hl.1 rfl rfl (Nat.le_of_ble_eq_true rfl) d_Y_order_25 (fun H locs hH hS => ?_)
        refine lv_if_ne (tgt := 39) M.x M.b d_Y_order_28 (by decide) (fun c84 => ?_) (fun c84 => ?_)
        · replace hf := z_f c84 hf
          refine lv_sipush (v := (-1001 : Int32)) M.x M.b d_Y_order_39 rfl ?_
          obtain ⟨rfl, rfl⟩ := z_r2 hf
          exact z_iret M hH hS d_Y_order_42
        · replace hf := z_t c84 hf
          refine lv_iload M.x M.b d_Y_order_31 (lv_at hl 5 rfl) ?_
          replace hf := z_bind hf; obtain ⟨i10, e9, hf⟩ := hf
          refine zk_S (st1 := [.int i10]) M hH hS (c_Y_isNoYear e9) w_Y_isNoYear q_422 [] rfl ⟨Nat.le_of_ble_eq_true rfl, Nat.le_of_ble_eq_true rfl⟩ hl.1 rfl rfl (Nat.le_of_ble_eq_true rfl) d_Y_order_33 (fun H locs hH hS => ?_)
          refine lv_if_eq (tgt := 43) M.x M.b d_Y_order_36 (by decide) (fun c83 => ?_) (fun c83 => ?_)
          · replace hf := z_t c83 hf
            refine lv_aload_n M.x M.b d_Y_order_43 rfl (lv_at hl 0 rfl) ?_
            replace hf := z_bind hf; obtain ⟨r11, e12, hf⟩ := hf
            refine z_get (ci := 7) (k := 4) M hH rfl (by decide) zinY q_481 (gA_spec e12) d_Y_order_44 ?_
            refine lv_aload_n M.x M.b d_Y_order_47 rfl (lv_at hl 0 rfl) ?_
            refine lv_iload_n M.x M.b d_Y_order_48 rfl (lv_at hl 1 rfl) ?_
            rcases r11 with _ | a13
            · exact absurd hf z_nb0
            replace hf := z_sb hf
            replace hf := z_bind hf; obtain ⟨r16, e15, hf⟩ := hf
            refine zk_V (ci := 7) (st1 := [va_rf r16, .ref a13]) M hH hS (c_Y_planOf e15) rfl (o_Y_planOf e15) w_Y_planOf q_480 [.ref a13] rfl ⟨Nat.le_of_ble_eq_true rfl, Nat.le_of_ble_eq_true rfl⟩ hl.1 rfl rfl (Nat.le_of_ble_eq_true rfl) d_Y_order_49 (fun H locs hH hS => ?_)
            refine lv_aload_n M.x M.b d_Y_order_52 rfl (lv_at hl 0 rfl) ?_
            replace hf := z_bind hf; obtain ⟨r17, e18, hf⟩ := hf
            refine z_get (ci := 7) (k := 0) M hH rfl (by decide) zinY q_419 (gA_spec e18) d_Y_order_53 ?_
            refine lv_iload_n M.x M.b d_Y_order_56 rfl (lv_at hl 3 rfl) ?_
            refine lv_iload M.x M.b d_Y_order_57 (lv_at hl 4 rfl) ?_
            refine lv_iload M.x M.b d_Y_order_59 (lv_at hl 5 rfl) ?_
            refine lv_aload_n M.x M.b d_Y_order_61 rfl (lv_at hl 0 rfl) ?_
            replace hf := z_bind hf; obtain ⟨r19, e20, hf⟩ := hf
            refine z_get (ci := 7) (k := 7) M hH rfl (by decide) zinY q_475 (gA_spec e20) d_Y_order_62 ?_
            rcases r16 with _ | a21
            · exact absurd hf z_nb0
            replace hf := z_sb hf
            rcases r17 with _ | a23
            · exact absurd hf z_nb0
            replace hf := z_sb hf
            rcases r19 with _ | a25
            · exact absurd hf z_nb0
            replace hf := z_sb hf
            replace hf := z_bind hf; obtain ⟨h28, e27, hf⟩ := hf
            refine zk_V (ci := 6) (st1 := []) M hH hS (c_T_tell e27) rfl (o_T_tell e27) w_T_tell q_479 [] rfl ⟨Nat.le_of_ble_eq_true rfl, Nat.le_of_ble_eq_true rfl⟩ hl.1 rfl rfl (Nat.le_of_ble_eq_true rfl) d_Y_order_65 (fun H locs hH hS => ?_)
            refine lv_aload_n M.x M.b d_Y_order_68 rfl (lv_at hl 0 rfl) ?_
            replace hf := z_bind hf; obtain ⟨r29, e30, hf⟩ := hf
            refine z_get (ci := 7) (k := 7) M hH rfl (by decide) zinY q_475 (gA_spec e30) d_Y_order_69 ?_
            rcases r29 with _ | a31
            · exact absurd hf z_nb0
            replace hf := z_sb hf
            replace hf := z_bind hf; obtain ⟨i33, e34, hf⟩ := hf
            refine z_getN (ci := 1) (k := 3) M hH rfl (by decide) zinF q_478 (gI_spec e34) d_Y_order_72 ?_
            refine lv_if_eq (tgt := 86) M.x M.b d_Y_order_75 (by decide) (fun c82 => ?_) (fun c82 => ?_)
            · replace hf := z_t c82 hf
              refine lv_aload_n M.x M.b d_Y_order_86 rfl (lv_at hl 0 rfl) ?_
              replace hf := z_bind hf; obtain ⟨r35, e36, hf⟩ := hf
              refine z_get (ci := 7) (k := 4) M hH rfl (by decide) zinY q_481 (gA_spec e36) d_Y_order_87 ?_
              refine lv_aload_n M.x M.b d_Y_order_90 rfl (lv_at hl 0 rfl) ?_
              refine lv_iload_n M.x M.b d_Y_order_91 rfl (lv_at hl 2 rfl) ?_
              rcases r35 with _ | a37
              · exact absurd hf z_nb0
              replace hf := z_sb hf
              replace hf := z_bind hf; obtain ⟨r40, e39, hf⟩ := hf
              refine zk_V (ci := 7) (st1 := [va_rf r40, .ref a37]) M hH hS (c_Y_planOf e39) rfl (o_Y_planOf e39) w_Y_planOf q_480 [.ref a37] rfl ⟨Nat.le_of_ble_eq_true rfl, Nat.le_of_ble_eq_true rfl⟩ hl.1 rfl rfl (Nat.le_of_ble_eq_true rfl) d_Y_order_92 (fun H locs hH hS => ?_)
              refine lv_aload_n M.x M.b d_Y_order_95 rfl (lv_at hl 0 rfl) ?_
              replace hf := z_bind hf; obtain ⟨r41, e42, hf⟩ := hf
              refine z_get (ci := 7) (k := 0) M hH rfl (by decide) zinY q_419 (gA_spec e42) d_Y_order_96 ?_
              refine lv_iload_n M.x M.b d_Y_order_99 rfl (lv_at hl 3 rfl) ?_
              refine lv_iload M.x M.b d_Y_order_100 (lv_at hl 4 rfl) ?_
              refine lv_iload M.x M.b d_Y_order_102 (lv_at hl 5 rfl) ?_
              refine lv_aload_n M.x M.b d_Y_order_104 rfl (lv_at hl 0 rfl) ?_
              replace hf := z_bind hf; obtain ⟨r43, e44, hf⟩ := hf
              refine z_get (ci := 7) (k := 8) M hH rfl (by decide) zinY q_487 (gA_spec e44) d_Y_order_105 ?_
              rcases r40 with _ | a45
              · exact absurd hf z_nb0
              replace hf := z_sb hf
              rcases r41 with _ | a47
              · exact absurd hf z_nb0
              replace hf := z_sb hf
              rcases r43 with _ | a49
              · exact absurd hf z_nb0
              replace hf := z_sb hf
              replace hf := z_bind hf; obtain ⟨h52, e51, hf⟩ := hf
              refine zk_V (ci := 6) (st1 := []) M hH hS (c_T_tell e51) rfl (o_T_tell e51) w_T_tell q_479 [] rfl ⟨Nat.le_of_ble_eq_true rfl, Nat.le_of_ble_eq_true rfl⟩ hl.1 rfl rfl (Nat.le_of_ble_eq_true rfl) d_Y_order_108 (fun H locs hH hS => ?_)
              refine lv_aload_n M.x M.b d_Y_order_111 rfl (lv_at hl 0 rfl) ?_
              replace hf := z_bind hf; obtain ⟨r53, e54, hf⟩ := hf
              refine z_get (ci := 7) (k := 8) M hH rfl (by decide) zinY q_487 (gA_spec e54) d_Y_order_112 ?_
              rcases r53 with _ | a55
              · exact absurd hf z_nb0
              replace hf := z_sb hf
              replace hf := z_bind hf; obtain ⟨i57, e58, hf⟩ := hf
              refine z_getN (ci := 1) (k := 3) M hH rfl (by decide) zinF q_478 (gI_spec e58) d_Y_order_115 ?_
              refine lv_if_eq (tgt := 129) M.x M.b d_Y_order_118 (by decide) (fun c75 => ?_) (fun c75 => ?_)
              · replace hf := z_t c75 hf
                refine lv_aload_n M.x M.b d_Y_order_129 rfl (lv_at hl 0 rfl) ?_
                replace hf := z_bind hf; obtain ⟨r59, e60, hf⟩ := hf
                refine z_get (ci := 7) (k := 7) M hH rfl (by decide) zinY q_475 (gA_spec e60) d_Y_order_130 ?_
                refine lv_aload_n M.x M.b d_Y_order_133 rfl (lv_at hl 0 rfl) ?_
                replace hf := z_bind hf; obtain ⟨r61, e62, hf⟩ := hf
                refine z_get (ci := 7) (k := 8) M hH rfl (by decide) zinY q_487 (gA_spec e62) d_Y_order_134 ?_
                rcases r59 with _ | a63
                · exact absurd hf z_nb0
                replace hf := z_sb hf
                rcases r61 with _ | a65
                · exact absurd hf z_nb0
                replace hf := z_sb hf
                replace hf := z_bind hf; obtain ⟨i68, e67, hf⟩ := hf
                refine zk_S (st1 := [.int i68]) M hH hS (c_F_orderOf e67) w_F_orderOf q_486 [] rfl ⟨Nat.le_of_ble_eq_true rfl, Nat.le_of_ble_eq_true rfl⟩ hl.1 rfl rfl (Nat.le_of_ble_eq_true rfl) d_Y_order_137 (fun H locs hH hS => ?_)
                obtain ⟨rfl, rfl⟩ := z_r2 hf
                exact z_iret M hH hS d_Y_order_140
              · replace hf := z_f c75 hf
                refine lv_aload_n M.x M.b d_Y_order_121 rfl (lv_at hl 0 rfl) ?_
                replace hf := z_bind hf; obtain ⟨r69, e70, hf⟩ := hf
                refine z_get (ci := 7) (k := 8) M hH rfl (by decide) zinY q_487 (gA_spec e70) d_Y_order_122 ?_
                rcases r69 with _ | a71
                · exact absurd hf z_nb0
                replace hf := z_sb hf
                replace hf := z_bind hf; obtain ⟨i73, e74, hf⟩ := hf
                refine z_getN (ci := 1) (k := 3) M hH rfl (by decide) zinF q_478 (gI_spec e74) d_Y_order_125 ?_
                obtain ⟨rfl, rfl⟩ := z_r2 hf
                exact z_iret M hH hS d_Y_order_128
            · replace hf := z_f c82 hf
              refine lv_aload_n M.x M.b d_Y_order_78 rfl (lv_at hl 0 rfl) ?_
              replace hf := z_bind hf; obtain ⟨r76, e77, hf⟩ := hf
              refine z_get (ci := 7) (k := 7) M hH rfl (by decide) zinY q_475 (gA_spec e77) d_Y_order_79 ?_
              rcases r76 with _ | a78
              · exact absurd hf z_nb0
              replace hf := z_sb hf
              replace hf := z_bind hf; obtain ⟨i80, e81, hf⟩ := hf
              refine z_getN (ci := 1) (k := 3) M hH rfl (by decide) zinF q_478 (gI_spec e81) d_Y_order_82 ?_
              obtain ⟨rfl, rfl⟩ := z_r2 hf
              exact z_iret M hH hS d_Y_order_85
          · replace hf := z_f c83 hf
            refine lv_sipush (v := (-1001 : Int32)) M.x M.b d_Y_order_39 rfl ?_
            obtain ⟨rfl, rfl⟩ := z_r2 hf
            exact z_iret M hH hS d_Y_order_42
def f_Y_keeps (this : Nat) (x1 : Int32) (x2 : Int32) (x3 : Int32) (h : Hp) : Option ((Int32 × Hp)) :=
  if isO h this 7 = true then
  (f_Y_isNoNumber this h x1).bind fun i2 =>
  if i2 = 0 then
    (f_Y_isNoWho x2).bind fun i4 =>
    if i4 = 0 then
      (f_Y_isNoLaw x3).bind fun i6 =>
      if i6 = 0 then
        (gA h this 7 5).bind fun r7 =>
        (r7).bind fun a9 =>
        (f_Y_planOf this h x1).bind fun r12 =>
        (r12).bind fun a13 =>
        zb2 (f_L_breachOf a9 x1 a13 x2 x3 h) fun i16 h17 =>
        if i16 = (1 : Int32) then
          some ((1 : Int32), h17)
        else
        some ((0 : Int32), h17)
      else
      some ((-1001 : Int32), h)
    else
    some ((-1001 : Int32), h)
  else
  some ((-1001 : Int32), h)
  else none
theorem o_Y_keeps {this : Nat} {x1 : Int32} {x2 : Int32} {x3 : Int32} {h : Hp} {r0 : Int32} {h0 : Hp} (hf : f_Y_keeps this x1 x2 x3 h = some (r0, h0)) : isO h this 7 = true := by
  unfold f_Y_keeps at hf
  exact (z_gd hf).1
set_option maxRecDepth 100000 in
set_option maxHeartbeats 4000000 in
theorem c_Y_keeps {l : Launch} {N0 : Nat} {D : va_G} {cs : Nat → ClassId} {this : Nat} {x1 : Int32} {x2 : Int32} {x3 : Int32} {h : Hp} {r0 : Int32} {h0 : Hp} (hf : f_Y_keeps this x1 x2 x3 h = some (r0, h0)) : Fn l N0 D cs y_Y_keeps b_Y_keeps 4 (some .int) 36 0 0 [.ref this, .int x1, .int x2, .int x3] h (some (.int r0)) h0 := by
  refine z_start (by decide) (Nat.le_of_ble_eq_true rfl) ?_
  intro p e s m args below meth c M hH hS ls hl
  unfold f_Y_keeps at hf
  obtain ⟨hO, hf⟩ := z_gd hf
  have hl : lv_has ls 4 [(0, .ref this), (1, .int x1), (2, .int x2), (3, .int x3)] := hl
  obtain ⟨H, hHe⟩ : ∃ H, H = s.heap := ⟨_, rfl⟩
  obtain ⟨locs, hLe⟩ : ∃ locs : List Loc, locs = [] := ⟨_, rfl⟩
  have hS : va_S (zA N0) s.heap H locs := by rw [hHe, hLe]; exact hS
  have hH : HH N0 D cs h H := by rw [hHe]; exact hH
  suffices hg : W p l e (zrm 36 0 0) s m args below meth c H locs 0 0 (MQ below (zQ N0 D cs (some (.int r0)) h0) args s 0 0 (zA N0)) (F0 m 0 ls []) by rw [hHe, hLe] at hg; exact hg
  clear hHe hLe
  refine lv_aload_n M.x M.b d_Y_keeps_0 rfl (lv_at hl 0 rfl) ?_
  refine lv_iload_n M.x M.b d_Y_keeps_1 rfl (lv_at hl 1 rfl) ?_
  replace hf := z_bind hf; obtain ⟨i2, e1, hf⟩ := hf
  refine zk_V (ci := 7) (st1 := [.int i2]) M hH hS (c_Y_isNoNumber e1) rfl (o_Y_isNoNumber e1) w_Y_isNoNumber q_482 [] rfl ⟨Nat.le_of_ble_eq_true rfl, Nat.le_of_ble_eq_true rfl⟩ hl.1 rfl rfl (Nat.le_of_ble_eq_true rfl) d_Y_keeps_2 (fun H locs hH hS => ?_)
  refine lv_if_ne (tgt := 22) M.x M.b d_Y_keeps_5 (by decide) (fun c21 => ?_) (fun c21 => ?_)
  · replace hf := z_f c21 hf
    refine lv_sipush (v := (-1001 : Int32)) M.x M.b d_Y_keeps_22 rfl ?_
    obtain ⟨rfl, rfl⟩ := z_r2 hf
    exact z_iret M hH hS d_Y_keeps_25
  · replace hf := z_t c21 hf
    refine lv_iload_n M.x M.b d_Y_keeps_8 rfl (lv_at hl 2 rfl) ?_
    replace hf := z_bind hf; obtain ⟨i4, e3, hf⟩ := hf
    refine zk_S (st1 := [.int i4]) M hH hS (c_Y_isNoWho e3) w_Y_isNoWho q_433 [] rfl ⟨Nat.le_of_ble_eq_true rfl, Nat.le_of_ble_eq_true rfl⟩ hl.1 rfl rfl (Nat.le_of_ble_eq_true rfl) d_Y_keeps_9 (fun H locs hH hS => ?_)
    refine lv_if_ne (tgt := 22) M.x M.b d_Y_keeps_12 (by decide) (fun c20 => ?_) (fun c20 => ?_)
    · replace hf := z_f c20 hf
      refine lv_sipush (v := (-1001 : Int32)) M.x M.b d_Y_keeps_22 rfl ?_
      obtain ⟨rfl, rfl⟩ := z_r2 hf
      exact z_iret M hH hS d_Y_keeps_25
    · replace hf := z_t c20 hf
      refine lv_iload_n M.x M.b d_Y_keeps_15 rfl (lv_at hl 3 rfl) ?_
      replace hf := z_bind hf; obtain ⟨i6, e5, hf⟩ := hf
      refine zk_S (st1 := [.int i6]) M hH hS (c_Y_isNoLaw e5) w_Y_isNoLaw q_492 [] rfl ⟨Nat.le_of_ble_eq_true rfl, Nat.le_of_ble_eq_true rfl⟩ hl.1 rfl rfl (Nat.le_of_ble_eq_true rfl) d_Y_keeps_16 (fun H locs hH hS => ?_)
      refine lv_if_eq (tgt := 26) M.x M.b d_Y_keeps_19 (by decide) (fun c19 => ?_) (fun c19 => ?_)
      · replace hf := z_t c19 hf
        refine lv_aload_n M.x M.b d_Y_keeps_26 rfl (lv_at hl 0 rfl) ?_
        replace hf := z_bind hf; obtain ⟨r7, e8, hf⟩ := hf
        refine z_get (ci := 7) (k := 5) M hH rfl (by decide) zinY q_417 (gA_spec e8) d_Y_keeps_27 ?_
        refine lv_iload_n M.x M.b d_Y_keeps_30 rfl (lv_at hl 1 rfl) ?_
        refine lv_aload_n M.x M.b d_Y_keeps_31 rfl (lv_at hl 0 rfl) ?_
        refine lv_iload_n M.x M.b d_Y_keeps_32 rfl (lv_at hl 1 rfl) ?_
        rcases r7 with _ | a9
        · exact absurd hf z_nb0
        replace hf := z_sb hf
        replace hf := z_bind hf; obtain ⟨r12, e11, hf⟩ := hf
        refine zk_V (ci := 7) (st1 := [va_rf r12, .int x1, .ref a9]) M hH hS (c_Y_planOf e11) rfl (o_Y_planOf e11) w_Y_planOf q_480 [.int x1, .ref a9] rfl ⟨Nat.le_of_ble_eq_true rfl, Nat.le_of_ble_eq_true rfl⟩ hl.1 rfl rfl (Nat.le_of_ble_eq_true rfl) d_Y_keeps_33 (fun H locs hH hS => ?_)
        refine lv_iload_n M.x M.b d_Y_keeps_36 rfl (lv_at hl 2 rfl) ?_
        refine lv_iload_n M.x M.b d_Y_keeps_37 rfl (lv_at hl 3 rfl) ?_
        rcases r12 with _ | a13
        · exact absurd hf z_nb0
        replace hf := z_sb hf
        replace hf := z_bind2 hf; obtain ⟨i16, h17, e15, hf⟩ := hf
        refine zk_V (ci := 2) (st1 := [.int i16]) M hH hS (c_L_breachOf e15) rfl (o_L_breachOf e15) w_L_breachOf q_491 [] rfl ⟨Nat.le_of_ble_eq_true rfl, Nat.le_of_ble_eq_true rfl⟩ hl.1 rfl rfl (Nat.le_of_ble_eq_true rfl) d_Y_keeps_38 (fun H locs hH hS => ?_)
        refine lv_iconst (v := (1 : Int32)) M.x M.b d_Y_keeps_41 rfl ?_
        refine lv_icmp_ne (tgt := 49) M.x M.b d_Y_keeps_42 (by decide) (fun c18 => ?_) (fun c18 => ?_)
        · replace hf := z_f c18 hf
          refine lv_iconst (v := (0 : Int32)) M.x M.b d_Y_keeps_49 rfl ?_
          obtain ⟨rfl, rfl⟩ := z_r2 hf
          exact z_iret M hH hS d_Y_keeps_50
        · replace hf := z_t c18 hf
          refine lv_iconst (v := (1 : Int32)) M.x M.b d_Y_keeps_45 rfl ?_
          refine lv_goto (tgt := 50) M.x M.b d_Y_keeps_46 (by decide) ?_
          obtain ⟨rfl, rfl⟩ := z_r2 hf
          exact z_iret M hH hS d_Y_keeps_50
      · replace hf := z_f c19 hf
        refine lv_sipush (v := (-1001 : Int32)) M.x M.b d_Y_keeps_22 rfl ?_
        obtain ⟨rfl, rfl⟩ := z_r2 hf
        exact z_iret M hH hS d_Y_keeps_25
def f_Y_breach (this : Nat) (x1 : Int32) (x2 : Int32) (x3 : Int32) (x4 : Int32) (h : Hp) : Option ((Int32 × Hp)) :=
  if isO h this 7 = true then
  (f_Y_isNoNumber this h x1).bind fun i2 =>
  if i2 = 0 then
    (f_Y_isNoWho x2).bind fun i4 =>
    if i4 = 0 then
      (f_Y_isNoLaw x3).bind fun i6 =>
      if i6 = 0 then
        if x4 < 0 then
          some ((-1002 : Int32), h)
        else
        if x4 ≤ (2 : Int32) then
          (gA h this 7 5).bind fun r7 =>
          (r7).bind fun a9 =>
          (f_Y_planOf this h x1).bind fun r12 =>
          (r12).bind fun a13 =>
          zb2 (f_L_breachOf a9 x1 a13 x2 x3 h) fun i16 h17 =>
          if i16 = (1 : Int32) then
            some ((-1 : Int32), h17)
          else
          (f_L_partOfBreach i16 x4).bind fun i19 =>
          some (i19, h17)
        else
        some ((-1002 : Int32), h)
      else
      some ((-1001 : Int32), h)
    else
    some ((-1001 : Int32), h)
  else
  some ((-1001 : Int32), h)
  else none
theorem o_Y_breach {this : Nat} {x1 : Int32} {x2 : Int32} {x3 : Int32} {x4 : Int32} {h : Hp} {r0 : Int32} {h0 : Hp} (hf : f_Y_breach this x1 x2 x3 x4 h = some (r0, h0)) : isO h this 7 = true := by
  unfold f_Y_breach at hf
  exact (z_gd hf).1
set_option maxRecDepth 100000 in
set_option maxHeartbeats 4000000 in
theorem c_Y_breach {l : Launch} {N0 : Nat} {D : va_G} {cs : Nat → ClassId} {this : Nat} {x1 : Int32} {x2 : Int32} {x3 : Int32} {x4 : Int32} {h : Hp} {r0 : Int32} {h0 : Hp} (hf : f_Y_breach this x1 x2 x3 x4 h = some (r0, h0)) : Fn l N0 D cs y_Y_breach b_Y_breach 6 (some .int) 36 0 0 [.ref this, .int x1, .int x2, .int x3, .int x4] h (some (.int r0)) h0 := by
  refine z_start (by decide) (Nat.le_of_ble_eq_true rfl) ?_
  intro p e s m args below meth c M hH hS ls hl
  unfold f_Y_breach at hf
  obtain ⟨hO, hf⟩ := z_gd hf
  have hl : lv_has ls 6 [(0, .ref this), (1, .int x1), (2, .int x2), (3, .int x3), (4, .int x4)] := hl
  obtain ⟨H, hHe⟩ : ∃ H, H = s.heap := ⟨_, rfl⟩
  obtain ⟨locs, hLe⟩ : ∃ locs : List Loc, locs = [] := ⟨_, rfl⟩
  have hS : va_S (zA N0) s.heap H locs := by rw [hHe, hLe]; exact hS
  have hH : HH N0 D cs h H := by rw [hHe]; exact hH
  suffices hg : W p l e (zrm 36 0 0) s m args below meth c H locs 0 0 (MQ below (zQ N0 D cs (some (.int r0)) h0) args s 0 0 (zA N0)) (F0 m 0 ls []) by rw [hHe, hLe] at hg; exact hg
  clear hHe hLe
  refine lv_aload_n M.x M.b d_Y_breach_0 rfl (lv_at hl 0 rfl) ?_
  refine lv_iload_n M.x M.b d_Y_breach_1 rfl (lv_at hl 1 rfl) ?_
  replace hf := z_bind hf; obtain ⟨i2, e1, hf⟩ := hf
  refine zk_V (ci := 7) (st1 := [.int i2]) M hH hS (c_Y_isNoNumber e1) rfl (o_Y_isNoNumber e1) w_Y_isNoNumber q_482 [] rfl ⟨Nat.le_of_ble_eq_true rfl, Nat.le_of_ble_eq_true rfl⟩ hl.1 rfl rfl (Nat.le_of_ble_eq_true rfl) d_Y_breach_2 (fun H locs hH hS => ?_)
  refine lv_if_ne (tgt := 22) M.x M.b d_Y_breach_5 (by decide) (fun c25 => ?_) (fun c25 => ?_)
  · replace hf := z_f c25 hf
    refine lv_sipush (v := (-1001 : Int32)) M.x M.b d_Y_breach_22 rfl ?_
    obtain ⟨rfl, rfl⟩ := z_r2 hf
    exact z_iret M hH hS d_Y_breach_25
  · replace hf := z_t c25 hf
    refine lv_iload_n M.x M.b d_Y_breach_8 rfl (lv_at hl 2 rfl) ?_
    replace hf := z_bind hf; obtain ⟨i4, e3, hf⟩ := hf
    refine zk_S (st1 := [.int i4]) M hH hS (c_Y_isNoWho e3) w_Y_isNoWho q_433 [] rfl ⟨Nat.le_of_ble_eq_true rfl, Nat.le_of_ble_eq_true rfl⟩ hl.1 rfl rfl (Nat.le_of_ble_eq_true rfl) d_Y_breach_9 (fun H locs hH hS => ?_)
    refine lv_if_ne (tgt := 22) M.x M.b d_Y_breach_12 (by decide) (fun c24 => ?_) (fun c24 => ?_)
    · replace hf := z_f c24 hf
      refine lv_sipush (v := (-1001 : Int32)) M.x M.b d_Y_breach_22 rfl ?_
      obtain ⟨rfl, rfl⟩ := z_r2 hf
      exact z_iret M hH hS d_Y_breach_25
    · replace hf := z_t c24 hf
      refine lv_iload_n M.x M.b d_Y_breach_15 rfl (lv_at hl 3 rfl) ?_
      replace hf := z_bind hf; obtain ⟨i6, e5, hf⟩ := hf
      refine zk_S (st1 := [.int i6]) M hH hS (c_Y_isNoLaw e5) w_Y_isNoLaw q_492 [] rfl ⟨Nat.le_of_ble_eq_true rfl, Nat.le_of_ble_eq_true rfl⟩ hl.1 rfl rfl (Nat.le_of_ble_eq_true rfl) d_Y_breach_16 (fun H locs hH hS => ?_)
      refine lv_if_eq (tgt := 26) M.x M.b d_Y_breach_19 (by decide) (fun c23 => ?_) (fun c23 => ?_)
      · replace hf := z_t c23 hf
        refine lv_iload M.x M.b d_Y_breach_26 (lv_at hl 4 rfl) ?_
        refine lv_if_lt (tgt := 37) M.x M.b d_Y_breach_28 (by decide) (fun c22 => ?_) (fun c22 => ?_)
        · replace hf := z_t c22 hf
          refine lv_sipush (v := (-1002 : Int32)) M.x M.b d_Y_breach_37 rfl ?_
          obtain ⟨rfl, rfl⟩ := z_r2 hf
          exact z_iret M hH hS d_Y_breach_40
        · replace hf := z_f c22 hf
          refine lv_iload M.x M.b d_Y_breach_31 (lv_at hl 4 rfl) ?_
          refine lv_iconst (v := (2 : Int32)) M.x M.b d_Y_breach_33 rfl ?_
          refine lv_icmp_le (tgt := 41) M.x M.b d_Y_breach_34 (by decide) (fun c21 => ?_) (fun c21 => ?_)
          · replace hf := z_t c21 hf
            refine lv_aload_n M.x M.b d_Y_breach_41 rfl (lv_at hl 0 rfl) ?_
            replace hf := z_bind hf; obtain ⟨r7, e8, hf⟩ := hf
            refine z_get (ci := 7) (k := 5) M hH rfl (by decide) zinY q_417 (gA_spec e8) d_Y_breach_42 ?_
            refine lv_iload_n M.x M.b d_Y_breach_45 rfl (lv_at hl 1 rfl) ?_
            refine lv_aload_n M.x M.b d_Y_breach_46 rfl (lv_at hl 0 rfl) ?_
            refine lv_iload_n M.x M.b d_Y_breach_47 rfl (lv_at hl 1 rfl) ?_
            rcases r7 with _ | a9
            · exact absurd hf z_nb0
            replace hf := z_sb hf
            replace hf := z_bind hf; obtain ⟨r12, e11, hf⟩ := hf
            refine zk_V (ci := 7) (st1 := [va_rf r12, .int x1, .ref a9]) M hH hS (c_Y_planOf e11) rfl (o_Y_planOf e11) w_Y_planOf q_480 [.int x1, .ref a9] rfl ⟨Nat.le_of_ble_eq_true rfl, Nat.le_of_ble_eq_true rfl⟩ hl.1 rfl rfl (Nat.le_of_ble_eq_true rfl) d_Y_breach_48 (fun H locs hH hS => ?_)
            refine lv_iload_n M.x M.b d_Y_breach_51 rfl (lv_at hl 2 rfl) ?_
            refine lv_iload_n M.x M.b d_Y_breach_52 rfl (lv_at hl 3 rfl) ?_
            rcases r12 with _ | a13
            · exact absurd hf z_nb0
            replace hf := z_sb hf
            replace hf := z_bind2 hf; obtain ⟨i16, h17, e15, hf⟩ := hf
            refine zk_V (ci := 2) (st1 := [.int i16]) M hH hS (c_L_breachOf e15) rfl (o_L_breachOf e15) w_L_breachOf q_491 [] rfl ⟨Nat.le_of_ble_eq_true rfl, Nat.le_of_ble_eq_true rfl⟩ hl.1 rfl rfl (Nat.le_of_ble_eq_true rfl) d_Y_breach_53 (fun H locs hH hS => ?_)
            refine lv_istore (lv' := [(5, .int i16), (0, .ref this), (1, .int x1), (2, .int x2), (3, .int x3), (4, .int x4)]) M.x M.b d_Y_breach_56 hl (by decide) rfl (fun ls hl => ?_)
            refine lv_iload M.x M.b d_Y_breach_58 (lv_at hl 0 rfl) ?_
            refine lv_iconst (v := (1 : Int32)) M.x M.b d_Y_breach_60 rfl ?_
            refine lv_icmp_ne (tgt := 68) M.x M.b d_Y_breach_61 (by decide) (fun c20 => ?_) (fun c20 => ?_)
            · replace hf := z_f c20 hf
              refine lv_iload M.x M.b d_Y_breach_68 (lv_at hl 0 rfl) ?_
              refine lv_iload M.x M.b d_Y_breach_70 (lv_at hl 5 rfl) ?_
              replace hf := z_bind hf; obtain ⟨i19, e18, hf⟩ := hf
              refine zk_S (st1 := [.int i19]) M hH hS (c_L_partOfBreach e18) w_L_partOfBreach q_496 [] rfl ⟨Nat.le_of_ble_eq_true rfl, Nat.le_of_ble_eq_true rfl⟩ hl.1 rfl rfl (Nat.le_of_ble_eq_true rfl) d_Y_breach_72 (fun H locs hH hS => ?_)
              obtain ⟨rfl, rfl⟩ := z_r2 hf
              exact z_iret M hH hS d_Y_breach_75
            · replace hf := z_t c20 hf
              refine lv_iconst (v := (-1 : Int32)) M.x M.b d_Y_breach_64 rfl ?_
              refine lv_goto (tgt := 75) M.x M.b d_Y_breach_65 (by decide) ?_
              obtain ⟨rfl, rfl⟩ := z_r2 hf
              exact z_iret M hH hS d_Y_breach_75
          · replace hf := z_f c21 hf
            refine lv_sipush (v := (-1002 : Int32)) M.x M.b d_Y_breach_37 rfl ?_
            obtain ⟨rfl, rfl⟩ := z_r2 hf
            exact z_iret M hH hS d_Y_breach_40
      · replace hf := z_f c23 hf
        refine lv_sipush (v := (-1001 : Int32)) M.x M.b d_Y_breach_22 rfl ?_
        obtain ⟨rfl, rfl⟩ := z_r2 hf
        exact z_iret M hH hS d_Y_breach_25
def f_Y_clash_60 (this : Nat) (k13 : Int32 → Int32 → Hp → Option ((Int32 × Hp))) (k26 : Int32 → Int32 → Int32 → Int32 → Hp → Option ((Int32 × Hp))) (x1 : Int32) (x2 : Int32) (x3 : Int32) (x4 : Int32) (h : Hp) : Option ((Int32 × Hp)) :=
  k26 x1 x2 x3 (x4 + (1 : Int32)) h
set_option maxRecDepth 100000 in
set_option maxHeartbeats 4000000 in
theorem w_Y_clash_60 {p : Program} {l : Launch} {e : Env} {s : State} {m : MethodId} {args : Array Value} {below : List Frame} {meth : Method} {c : Code} {N0 : Nat} {D : va_G} {cs : Nat → ClassId} (M : ZC p s m args meth c "YearBaskets" "clash" b_Y_clash 5 (some .int) N0 D cs) (this : Nat) (k13 : Int32 → Int32 → Hp → Option ((Int32 × Hp))) (k26 : Int32 → Int32 → Int32 → Int32 → Hp → Option ((Int32 × Hp))) {r0 : Int32} {h0 : Hp} (hk13 : ∀ (x1 : Int32) (x2 : Int32) (h : Hp), k13 x1 x2 h = some (r0, h0) → ZG p l e (zrm 36 0 0) s m args below meth c N0 D cs (some (.int r0)) h0 h 5 [(0, .ref this), (1, .int x1), (2, .int x2)] 13 []) (hk26 : ∀ (x1 : Int32) (x2 : Int32) (x3 : Int32) (x4 : Int32) (h : Hp), k26 x1 x2 x3 x4 h = some (r0, h0) → ZG p l e (zrm 36 0 0) s m args below meth c N0 D cs (some (.int r0)) h0 h 5 [(0, .ref this), (1, .int x1), (2, .int x2), (3, .int x3), (4, .int x4)] 26 []) (x1 : Int32) (x2 : Int32) (x3 : Int32) (x4 : Int32) (h : Hp) (hf : f_Y_clash_60 this k13 k26 x1 x2 x3 x4 h = some (r0, h0)) : ZG p l e (zrm 36 0 0) s m args below meth c N0 D cs (some (.int r0)) h0 h 5 [(0, .ref this), (1, .int x1), (2, .int x2), (3, .int x3), (4, .int x4)] 60 [] := by
  intro H locs ls hH hS hl
  unfold f_Y_clash_60 at hf
  refine lv_iinc (v := (x4 + (1 : Int32))) (lv' := [(4, .int (x4 + (1 : Int32))), (0, .ref this), (1, .int x1), (2, .int x2), (3, .int x3)]) M.x M.b d_Y_clash_60 hl (k := 4) rfl rfl (by decide) rfl (fun ls hl => ?_)
  refine lv_goto (tgt := 26) M.x M.b d_Y_clash_63 (by decide) ?_
  exact hk26 _ _ _ _ _ hf H locs ls hH hS (lv_sub hl [1, 2, 3, 4, 0] rfl)
def t_Y_clash_26 (this : Nat) (k13 : Int32 → Int32 → Hp → Option ((Int32 × Hp))) (k26 : Int32 → Int32 → Int32 → Int32 → Hp → Option ((Int32 × Hp))) (x1 : Int32) (x2 : Int32) (x3 : Int32) (x4 : Int32) (h : Hp) : Option ((Int32 × Hp)) :=
  if (7 : Int32) ≤ x4 then
    (gA h this 7 5).bind fun r1 =>
    (r1).bind fun a3 =>
    (f_L_setKept a3 x2 x3 h).bind fun h6 =>
    k13 x1 (x2 + (1 : Int32)) h6
  else
  (gA h this 7 5).bind fun r7 =>
  (r7).bind fun a9 =>
  (f_Y_planOf this h x2).bind fun r12 =>
  (r12).bind fun a13 =>
  zb2 (f_L_breachOf a9 x2 a13 x1 x4 h) fun i16 h17 =>
  if i16 = (1 : Int32) then
    f_Y_clash_60 this k13 k26 x1 x2 (x3 ||| ((1 : Int32) <<< (x4 &&& 31))) x4 h17
  else
  f_Y_clash_60 this k13 k26 x1 x2 x3 x4 h17
set_option maxRecDepth 100000 in
set_option maxHeartbeats 4000000 in
theorem v_Y_clash_26 {p : Program} {l : Launch} {e : Env} {s : State} {m : MethodId} {args : Array Value} {below : List Frame} {meth : Method} {c : Code} {N0 : Nat} {D : va_G} {cs : Nat → ClassId} (M : ZC p s m args meth c "YearBaskets" "clash" b_Y_clash 5 (some .int) N0 D cs) (this : Nat) (k13 : Int32 → Int32 → Hp → Option ((Int32 × Hp))) (k26 : Int32 → Int32 → Int32 → Int32 → Hp → Option ((Int32 × Hp))) {r0 : Int32} {h0 : Hp} (hk13 : ∀ (x1 : Int32) (x2 : Int32) (h : Hp), k13 x1 x2 h = some (r0, h0) → ZG p l e (zrm 36 0 0) s m args below meth c N0 D cs (some (.int r0)) h0 h 5 [(0, .ref this), (1, .int x1), (2, .int x2)] 13 []) (hk26 : ∀ (x1 : Int32) (x2 : Int32) (x3 : Int32) (x4 : Int32) (h : Hp), k26 x1 x2 x3 x4 h = some (r0, h0) → ZG p l e (zrm 36 0 0) s m args below meth c N0 D cs (some (.int r0)) h0 h 5 [(0, .ref this), (1, .int x1), (2, .int x2), (3, .int x3), (4, .int x4)] 26 []) (x1 : Int32) (x2 : Int32) (x3 : Int32) (x4 : Int32) (h : Hp) (hf : t_Y_clash_26 this k13 k26 x1 x2 x3 x4 h = some (r0, h0)) : ZG p l e (zrm 36 0 0) s m args below meth c N0 D cs (some (.int r0)) h0 h 5 [(0, .ref this), (1, .int x1), (2, .int x2), (3, .int x3), (4, .int x4)] 26 [] := by
  intro H locs ls hH hS hl
  unfold t_Y_clash_26 at hf
  refine lv_iload M.x M.b d_Y_clash_26 (lv_at hl 4 rfl) ?_
  refine lv_bipush (v := (7 : Int32)) M.x M.b d_Y_clash_28 rfl ?_
  refine lv_icmp_ge (tgt := 66) M.x M.b d_Y_clash_30 (by decide) (fun c19 => ?_) (fun c19 => ?_)
  · replace hf := z_t c19 hf
    refine lv_aload_n M.x M.b d_Y_clash_66 rfl (lv_at hl 0 rfl) ?_
    replace hf := z_bind hf; obtain ⟨r1, e2, hf⟩ := hf
    refine z_get (ci := 7) (k := 5) M hH rfl (by decide) zinY q_417 (gA_spec e2) d_Y_clash_67 ?_
    refine lv_iload_n M.x M.b d_Y_clash_70 rfl (lv_at hl 2 rfl) ?_
    refine lv_iload_n M.x M.b d_Y_clash_71 rfl (lv_at hl 3 rfl) ?_
    rcases r1 with _ | a3
    · exact absurd hf z_nb0
    replace hf := z_sb hf
    replace hf := z_bind hf; obtain ⟨h6, e5, hf⟩ := hf
    refine zk_V (ci := 2) (st1 := []) M hH hS (c_L_setKept e5) rfl (o_L_setKept e5) w_L_setKept q_500 [] rfl ⟨Nat.le_of_ble_eq_true rfl, Nat.le_of_ble_eq_true rfl⟩ hl.1 rfl rfl (Nat.le_of_ble_eq_true rfl) d_Y_clash_72 (fun H locs hH hS => ?_)
    refine lv_iinc (v := (x2 + (1 : Int32))) (lv' := [(2, .int (x2 + (1 : Int32))), (0, .ref this), (1, .int x1), (3, .int x3), (4, .int x4)]) M.x M.b d_Y_clash_75 hl (k := 2) rfl rfl (by decide) rfl (fun ls hl => ?_)
    refine lv_goto (tgt := 13) M.x M.b d_Y_clash_78 (by decide) ?_
    exact hk13 _ _ _ hf H locs ls hH hS (lv_sub hl [1, 2, 0] rfl)
  · replace hf := z_f c19 hf
    refine lv_aload_n M.x M.b d_Y_clash_33 rfl (lv_at hl 0 rfl) ?_
    replace hf := z_bind hf; obtain ⟨r7, e8, hf⟩ := hf
    refine z_get (ci := 7) (k := 5) M hH rfl (by decide) zinY q_417 (gA_spec e8) d_Y_clash_34 ?_
    refine lv_iload_n M.x M.b d_Y_clash_37 rfl (lv_at hl 2 rfl) ?_
    refine lv_aload_n M.x M.b d_Y_clash_38 rfl (lv_at hl 0 rfl) ?_
    refine lv_iload_n M.x M.b d_Y_clash_39 rfl (lv_at hl 2 rfl) ?_
    rcases r7 with _ | a9
    · exact absurd hf z_nb0
    replace hf := z_sb hf
    replace hf := z_bind hf; obtain ⟨r12, e11, hf⟩ := hf
    refine zk_V (ci := 7) (st1 := [va_rf r12, .int x2, .ref a9]) M hH hS (c_Y_planOf e11) rfl (o_Y_planOf e11) w_Y_planOf q_480 [.int x2, .ref a9] rfl ⟨Nat.le_of_ble_eq_true rfl, Nat.le_of_ble_eq_true rfl⟩ hl.1 rfl rfl (Nat.le_of_ble_eq_true rfl) d_Y_clash_40 (fun H locs hH hS => ?_)
    refine lv_iload_n M.x M.b d_Y_clash_43 rfl (lv_at hl 1 rfl) ?_
    refine lv_iload M.x M.b d_Y_clash_44 (lv_at hl 4 rfl) ?_
    rcases r12 with _ | a13
    · exact absurd hf z_nb0
    replace hf := z_sb hf
    replace hf := z_bind2 hf; obtain ⟨i16, h17, e15, hf⟩ := hf
    refine zk_V (ci := 2) (st1 := [.int i16]) M hH hS (c_L_breachOf e15) rfl (o_L_breachOf e15) w_L_breachOf q_491 [] rfl ⟨Nat.le_of_ble_eq_true rfl, Nat.le_of_ble_eq_true rfl⟩ hl.1 rfl rfl (Nat.le_of_ble_eq_true rfl) d_Y_clash_46 (fun H locs hH hS => ?_)
    refine lv_iconst (v := (1 : Int32)) M.x M.b d_Y_clash_49 rfl ?_
    refine lv_icmp_ne (tgt := 60) M.x M.b d_Y_clash_50 (by decide) (fun c18 => ?_) (fun c18 => ?_)
    · replace hf := z_f c18 hf
      exact w_Y_clash_60 M this k13 k26 hk13 hk26 _ _ _ _ _ hf H locs ls hH hS (lv_sub hl [0, 1, 2, 3, 4] rfl)
    · replace hf := z_t c18 hf
      refine lv_iload_n M.x M.b d_Y_clash_53 rfl (lv_at hl 3 rfl) ?_
      refine lv_iconst (v := (1 : Int32)) M.x M.b d_Y_clash_54 rfl ?_
      refine lv_iload M.x M.b d_Y_clash_55 (lv_at hl 4 rfl) ?_
      refine lv_ishl M.x M.b d_Y_clash_57 ?_
      refine lv_ior M.x M.b d_Y_clash_58 ?_
      refine lv_istore_n (lv' := [(3, .int (x3 ||| ((1 : Int32) <<< (x4 &&& 31)))), (0, .ref this), (1, .int x1), (2, .int x2), (4, .int x4)]) M.x M.b d_Y_clash_59 rfl hl (by decide) rfl (fun ls hl => ?_)
      exact w_Y_clash_60 M this k13 k26 hk13 hk26 _ _ _ _ _ hf H locs ls hH hS (lv_sub hl [1, 2, 3, 0, 4] rfl)
def f_Y_clash_26 (this : Nat) (k13 : Int32 → Int32 → Hp → Option ((Int32 × Hp))) : Nat → Int32 → Int32 → Int32 → Int32 → Hp → Option ((Int32 × Hp))
  | 0, _, _, _, _, _ => none
  | n + 1, x1, x2, x3, x4, h => t_Y_clash_26 this k13 (f_Y_clash_26 this k13 n) x1 x2 x3 x4 h
theorem w_Y_clash_26 {p : Program} {l : Launch} {e : Env} {s : State} {m : MethodId} {args : Array Value} {below : List Frame} {meth : Method} {c : Code} {N0 : Nat} {D : va_G} {cs : Nat → ClassId} (M : ZC p s m args meth c "YearBaskets" "clash" b_Y_clash 5 (some .int) N0 D cs) (this : Nat) (k13 : Int32 → Int32 → Hp → Option ((Int32 × Hp))) {r0 : Int32} {h0 : Hp} (hk13 : ∀ (x1 : Int32) (x2 : Int32) (h : Hp), k13 x1 x2 h = some (r0, h0) → ZG p l e (zrm 36 0 0) s m args below meth c N0 D cs (some (.int r0)) h0 h 5 [(0, .ref this), (1, .int x1), (2, .int x2)] 13 []) : ∀ (n : Nat) (x1 : Int32) (x2 : Int32) (x3 : Int32) (x4 : Int32) (h : Hp), f_Y_clash_26 this k13 n x1 x2 x3 x4 h = some (r0, h0) → ZG p l e (zrm 36 0 0) s m args below meth c N0 D cs (some (.int r0)) h0 h 5 [(0, .ref this), (1, .int x1), (2, .int x2), (3, .int x3), (4, .int x4)] 26 [] := by
  intro n
  induction n with
  | zero => intro x1 x2 x3 x4 h hf; exact absurd (show none = some _ from hf) (fun q => by cases q)
  | succ n ih => intro x1 x2 x3 x4 h hf; exact v_Y_clash_26 M this k13 (f_Y_clash_26 this k13 n) hk13 ih _ _ _ _ _ hf
def t_Y_clash_13 (this : Nat) (k13 : Int32 → Int32 → Hp → Option ((Int32 × Hp))) (x1 : Int32) (x2 : Int32) (h : Hp) : Option ((Int32 × Hp)) :=
  (gI h this 7 9).bind fun i20 =>
  if i20 ≤ x2 then
    (gA h this 7 5).bind fun r22 =>
    (gI h this 7 9).bind fun i24 =>
    (r22).bind fun a26 =>
    (f_L_leastKeptByNone a26 h i24).bind fun i29 =>
    some (i29, h)
  else
  f_Y_clash_26 this k13 FU x1 x2 (0 : Int32) (0 : Int32) h
set_option maxRecDepth 100000 in
set_option maxHeartbeats 4000000 in
theorem v_Y_clash_13 {p : Program} {l : Launch} {e : Env} {s : State} {m : MethodId} {args : Array Value} {below : List Frame} {meth : Method} {c : Code} {N0 : Nat} {D : va_G} {cs : Nat → ClassId} (M : ZC p s m args meth c "YearBaskets" "clash" b_Y_clash 5 (some .int) N0 D cs) (this : Nat) (k13 : Int32 → Int32 → Hp → Option ((Int32 × Hp))) {r0 : Int32} {h0 : Hp} (hk13 : ∀ (x1 : Int32) (x2 : Int32) (h : Hp), k13 x1 x2 h = some (r0, h0) → ZG p l e (zrm 36 0 0) s m args below meth c N0 D cs (some (.int r0)) h0 h 5 [(0, .ref this), (1, .int x1), (2, .int x2)] 13 []) (x1 : Int32) (x2 : Int32) (h : Hp) (hf : t_Y_clash_13 this k13 x1 x2 h = some (r0, h0)) : ZG p l e (zrm 36 0 0) s m args below meth c N0 D cs (some (.int r0)) h0 h 5 [(0, .ref this), (1, .int x1), (2, .int x2)] 13 [] := by
  intro H locs ls hH hS hl
  unfold t_Y_clash_13 at hf
  refine lv_iload_n M.x M.b d_Y_clash_13 rfl (lv_at hl 2 rfl) ?_
  refine lv_aload_n M.x M.b d_Y_clash_14 rfl (lv_at hl 0 rfl) ?_
  replace hf := z_bind hf; obtain ⟨i20, e21, hf⟩ := hf
  refine z_get (ci := 7) (k := 9) M hH rfl (by decide) zinY q_442 (gI_spec e21) d_Y_clash_15 ?_
  refine lv_icmp_ge (tgt := 81) M.x M.b d_Y_clash_18 (by decide) (fun c30 => ?_) (fun c30 => ?_)
  · replace hf := z_t c30 hf
    refine lv_aload_n M.x M.b d_Y_clash_81 rfl (lv_at hl 0 rfl) ?_
    replace hf := z_bind hf; obtain ⟨r22, e23, hf⟩ := hf
    refine z_get (ci := 7) (k := 5) M hH rfl (by decide) zinY q_417 (gA_spec e23) d_Y_clash_82 ?_
    refine lv_aload_n M.x M.b d_Y_clash_85 rfl (lv_at hl 0 rfl) ?_
    replace hf := z_bind hf; obtain ⟨i24, e25, hf⟩ := hf
    refine z_get (ci := 7) (k := 9) M hH rfl (by decide) zinY q_442 (gI_spec e25) d_Y_clash_86 ?_
    rcases r22 with _ | a26
    · exact absurd hf z_nb0
    replace hf := z_sb hf
    replace hf := z_bind hf; obtain ⟨i29, e28, hf⟩ := hf
    refine zk_V (ci := 2) (st1 := [.int i29]) M hH hS (c_L_leastKeptByNone e28) rfl (o_L_leastKeptByNone e28) w_L_leastKeptByNone q_501 [] rfl ⟨Nat.le_of_ble_eq_true rfl, Nat.le_of_ble_eq_true rfl⟩ hl.1 rfl rfl (Nat.le_of_ble_eq_true rfl) d_Y_clash_89 (fun H locs hH hS => ?_)
    obtain ⟨rfl, rfl⟩ := z_r2 hf
    exact z_iret M hH hS d_Y_clash_92
  · replace hf := z_f c30 hf
    refine lv_iconst (v := (0 : Int32)) M.x M.b d_Y_clash_21 rfl ?_
    refine lv_istore_n (lv' := [(3, .int (0 : Int32)), (0, .ref this), (1, .int x1), (2, .int x2)]) M.x M.b d_Y_clash_22 rfl hl (by decide) rfl (fun ls hl => ?_)
    refine lv_iconst (v := (0 : Int32)) M.x M.b d_Y_clash_23 rfl ?_
    refine lv_istore (lv' := [(4, .int (0 : Int32)), (3, .int (0 : Int32)), (0, .ref this), (1, .int x1), (2, .int x2)]) M.x M.b d_Y_clash_24 hl (by decide) rfl (fun ls hl => ?_)
    exact w_Y_clash_26 M this k13 hk13 FU _ _ _ _ _ hf H locs ls hH hS (lv_sub hl [2, 3, 4, 1, 0] rfl)
def f_Y_clash_13 (this : Nat) : Nat → Int32 → Int32 → Hp → Option ((Int32 × Hp))
  | 0, _, _, _ => none
  | n + 1, x1, x2, h => t_Y_clash_13 this (f_Y_clash_13 this n) x1 x2 h
theorem w_Y_clash_13 {p : Program} {l : Launch} {e : Env} {s : State} {m : MethodId} {args : Array Value} {below : List Frame} {meth : Method} {c : Code} {N0 : Nat} {D : va_G} {cs : Nat → ClassId} (M : ZC p s m args meth c "YearBaskets" "clash" b_Y_clash 5 (some .int) N0 D cs) (this : Nat)  {r0 : Int32} {h0 : Hp}  : ∀ (n : Nat) (x1 : Int32) (x2 : Int32) (h : Hp), f_Y_clash_13 this n x1 x2 h = some (r0, h0) → ZG p l e (zrm 36 0 0) s m args below meth c N0 D cs (some (.int r0)) h0 h 5 [(0, .ref this), (1, .int x1), (2, .int x2)] 13 [] := by
  intro n
  induction n with
  | zero => intro x1 x2 h hf; exact absurd (show none = some _ from hf) (fun q => by cases q)
  | succ n ih => intro x1 x2 h hf; exact v_Y_clash_13 M this (f_Y_clash_13 this n)  ih _ _ _ hf
def f_Y_clash (this : Nat) (x1 : Int32) (h : Hp) : Option ((Int32 × Hp)) :=
  if isO h this 7 = true then
  (f_Y_isNoWho x1).bind fun i32 =>
  if i32 = 0 then
    f_Y_clash_13 this FU x1 (0 : Int32) h
  else
  some ((-1001 : Int32), h)
  else none
theorem o_Y_clash {this : Nat} {x1 : Int32} {h : Hp} {r0 : Int32} {h0 : Hp} (hf : f_Y_clash this x1 h = some (r0, h0)) : isO h this 7 = true := by
  unfold f_Y_clash at hf
  exact (z_gd hf).1
set_option maxRecDepth 100000 in
set_option maxHeartbeats 4000000 in
theorem c_Y_clash {l : Launch} {N0 : Nat} {D : va_G} {cs : Nat → ClassId} {this : Nat} {x1 : Int32} {h : Hp} {r0 : Int32} {h0 : Hp} (hf : f_Y_clash this x1 h = some (r0, h0)) : Fn l N0 D cs y_Y_clash b_Y_clash 5 (some .int) 36 0 0 [.ref this, .int x1] h (some (.int r0)) h0 := by
  refine z_start (by decide) (Nat.le_of_ble_eq_true rfl) ?_
  intro p e s m args below meth c M hH hS ls hl
  unfold f_Y_clash at hf
  obtain ⟨hO, hf⟩ := z_gd hf
  have hl : lv_has ls 5 [(0, .ref this), (1, .int x1)] := hl
  obtain ⟨H, hHe⟩ : ∃ H, H = s.heap := ⟨_, rfl⟩
  obtain ⟨locs, hLe⟩ : ∃ locs : List Loc, locs = [] := ⟨_, rfl⟩
  have hS : va_S (zA N0) s.heap H locs := by rw [hHe, hLe]; exact hS
  have hH : HH N0 D cs h H := by rw [hHe]; exact hH
  suffices hg : W p l e (zrm 36 0 0) s m args below meth c H locs 0 0 (MQ below (zQ N0 D cs (some (.int r0)) h0) args s 0 0 (zA N0)) (F0 m 0 ls []) by rw [hHe, hLe] at hg; exact hg
  clear hHe hLe
  refine lv_iload_n M.x M.b d_Y_clash_0 rfl (lv_at hl 1 rfl) ?_
  replace hf := z_bind hf; obtain ⟨i32, e31, hf⟩ := hf
  refine zk_S (st1 := [.int i32]) M hH hS (c_Y_isNoWho e31) w_Y_isNoWho q_433 [] rfl ⟨Nat.le_of_ble_eq_true rfl, Nat.le_of_ble_eq_true rfl⟩ hl.1 rfl rfl (Nat.le_of_ble_eq_true rfl) d_Y_clash_1 (fun H locs hH hS => ?_)
  refine lv_if_eq (tgt := 11) M.x M.b d_Y_clash_4 (by decide) (fun c33 => ?_) (fun c33 => ?_)
  · replace hf := z_t c33 hf
    refine lv_iconst (v := (0 : Int32)) M.x M.b d_Y_clash_11 rfl ?_
    refine lv_istore_n (lv' := [(2, .int (0 : Int32)), (0, .ref this), (1, .int x1)]) M.x M.b d_Y_clash_12 rfl hl (by decide) rfl (fun ls hl => ?_)
    exact w_Y_clash_13 M this FU _ _ _ hf H locs ls hH hS (lv_sub hl [1, 2, 0] rfl)
  · replace hf := z_f c33 hf
    refine lv_sipush (v := (-1001 : Int32)) M.x M.b d_Y_clash_7 rfl ?_
    obtain ⟨rfl, rfl⟩ := z_r2 hf
    exact z_iret M hH hS d_Y_clash_10
def f_Y_drift (this : Nat) (x1 : Int32) (x2 : Int32) (x3 : Int32) (x4 : Int32) (x5 : Int32) (h : Hp) : Option ((Int64 × Hp)) :=
  if isO h this 7 = true then
  (f_Y_isNoNumber this h x1).bind fun i2 =>
  if i2 = 0 then
    (f_Y_isNoWho x2).bind fun i4 =>
    if i4 = 0 then
      (f_Y_isNoYear x3).bind fun i6 =>
      if i6 = 0 then
        (f_Y_isNoYear x4).bind fun i8 =>
        if i8 = 0 then
          if x5 < 0 then
            some ((-1002 : Int64), h)
          else
          if x5 ≤ (1 : Int32) then
            (gA h this 7 4).bind fun r9 =>
            (r9).bind fun a11 =>
            (f_Y_planOf this h x1).bind fun r14 =>
            (gA h this 7 0).bind fun r15 =>
            (gA h this 7 7).bind fun r17 =>
            (r14).bind fun a19 =>
            (r15).bind fun a21 =>
            (r17).bind fun a23 =>
            (f_T_tellLinked a11 a19 a21 x2 x3 x4 a23 h).bind fun h26 =>
            (gA h26 this 7 7).bind fun r27 =>
            (r27).bind fun a29 =>
            (gI h26 a29 1 3).bind fun i31 =>
            if i31 = 0 then
              (gA h26 this 7 4).bind fun r33 =>
              (r33).bind fun a35 =>
              (f_Y_planOf this h26 x1).bind fun r38 =>
              (gA h26 this 7 0).bind fun r39 =>
              (gA h26 this 7 8).bind fun r41 =>
              (r38).bind fun a43 =>
              (r39).bind fun a45 =>
              (r41).bind fun a47 =>
              (f_T_tell a35 a43 a45 x2 x3 x4 a47 h26).bind fun h50 =>
              (gA h50 this 7 8).bind fun r51 =>
              (r51).bind fun a53 =>
              (gI h50 a53 1 3).bind fun i55 =>
              if i55 = 0 then
                (gA h50 this 7 7).bind fun r57 =>
                (r57).bind fun a59 =>
                (gI h50 a59 1 2).bind fun i61 =>
                if i61 = 0 then
                  (gA h50 this 7 8).bind fun r63 =>
                  (r63).bind fun a65 =>
                  (gI h50 a65 1 2).bind fun i67 =>
                  if i67 = 0 then
                    (gA h50 this 7 8).bind fun r69 =>
                    (r69).bind fun a71 =>
                    (f_F_turnOver a71 h50).bind fun h74 =>
                    (gA h74 this 7 7).bind fun r75 =>
                    (gA h74 this 7 8).bind fun r77 =>
                    (r77).bind fun a79 =>
                    (r75).bind fun a81 =>
                    (f_F_multiply a81 a79 h74).bind fun h84 =>
                    (gA h84 this 7 7).bind fun r85 =>
                    (r85).bind fun a87 =>
                    (gI h84 a87 1 3).bind fun i89 =>
                    if i89 = 0 then
                      if x5 = 0 then
                        (gA h84 this 7 7).bind fun r97 =>
                        (r97).bind fun a99 =>
                        (gL h84 a99 1 0).bind fun l101 =>
                        some (l101, h84)
                      else
                      (gA h84 this 7 7).bind fun r91 =>
                      (r91).bind fun a93 =>
                      (gL h84 a93 1 1).bind fun l95 =>
                      some (l95, h84)
                    else
                    (gA h84 this 7 7).bind fun r104 =>
                    (r104).bind fun a106 =>
                    (gI h84 a106 1 3).bind fun i108 =>
                    some ((i108).toInt64, h84)
                  else
                  some ((-1003 : Int64), h50)
                else
                some ((-1003 : Int64), h50)
              else
              (gA h50 this 7 8).bind fun r113 =>
              (r113).bind fun a115 =>
              (gI h50 a115 1 3).bind fun i117 =>
              some ((i117).toInt64, h50)
            else
            (gA h26 this 7 7).bind fun r120 =>
            (r120).bind fun a122 =>
            (gI h26 a122 1 3).bind fun i124 =>
            some ((i124).toInt64, h26)
          else
          some ((-1002 : Int64), h)
        else
        some ((-1001 : Int64), h)
      else
      some ((-1001 : Int64), h)
    else
    some ((-1001 : Int64), h)
  else
  some ((-1001 : Int64), h)
  else none
theorem o_Y_drift {this : Nat} {x1 : Int32} {x2 : Int32} {x3 : Int32} {x4 : Int32} {x5 : Int32} {h : Hp} {r0 : Int64} {h0 : Hp} (hf : f_Y_drift this x1 x2 x3 x4 x5 h = some (r0, h0)) : isO h this 7 = true := by
  unfold f_Y_drift at hf
  exact (z_gd hf).1
set_option maxRecDepth 100000 in
set_option maxHeartbeats 4000000 in
theorem c_Y_drift {l : Launch} {N0 : Nat} {D : va_G} {cs : Nat → ClassId} {this : Nat} {x1 : Int32} {x2 : Int32} {x3 : Int32} {x4 : Int32} {x5 : Int32} {h : Hp} {r0 : Int64} {h0 : Hp} (hf : f_Y_drift this x1 x2 x3 x4 x5 h = some (r0, h0)) : Fn l N0 D cs y_Y_drift b_Y_drift 6 (some .long) 35 0 0 [.ref this, .int x1, .int x2, .int x3, .int x4, .int x5] h (some (.long r0)) h0 := by
  refine z_start (by decide) (Nat.le_of_ble_eq_true rfl) ?_
  intro p e s m args below meth c M hH hS ls hl
  unfold f_Y_drift at hf
  obtain ⟨hO, hf⟩ := z_gd hf
  have hl : lv_has ls 6 [(0, .ref this), (1, .int x1), (2, .int x2), (3, .int x3), (4, .int x4), (5, .int x5)] := hl
  obtain ⟨H, hHe⟩ : ∃ H, H = s.heap := ⟨_, rfl⟩
  obtain ⟨locs, hLe⟩ : ∃ locs : List Loc, locs = [] := ⟨_, rfl⟩
  have hS : va_S (zA N0) s.heap H locs := by rw [hHe, hLe]; exact hS
  have hH : HH N0 D cs h H := by rw [hHe]; exact hH
  suffices hg : W p l e (zrm 35 0 0) s m args below meth c H locs 0 0 (MQ below (zQ N0 D cs (some (.long r0)) h0) args s 0 0 (zA N0)) (F0 m 0 ls []) by rw [hHe, hLe] at hg; exact hg
  clear hHe hLe
  refine lv_aload_n M.x M.b d_Y_drift_0 rfl (lv_at hl 0 rfl) ?_
  refine lv_iload_n M.x M.b d_Y_drift_1 rfl (lv_at hl 1 rfl) ?_
  replace hf := z_bind hf; obtain ⟨i2, e1, hf⟩ := hf
  refine zk_V (ci := 7) (st1 := [.int i2]) M hH hS (c_Y_isNoNumber e1) rfl (o_Y_isNoNumber e1) w_Y_isNoNumber q_482 [] rfl ⟨Nat.le_of_ble_eq_true rfl, Nat.le_of_ble_eq_true rfl⟩ hl.1 rfl rfl (Nat.le_of_ble_eq_true rfl) d_Y_drift_2 (fun H locs hH hS => ?_)
  refine lv_if_ne (tgt := 30) M.x M.b d_Y_drift_5 (by decide) (fun c132 => ?_) (fun c132 => ?_)
  · replace hf := z_f c132 hf
    refine z_ldc2 (v := (-1001 : Int64)) M q_472 d_Y_drift_30 ?_
    obtain ⟨rfl, rfl⟩ := z_r2 hf
    exact z_lret M hH hS d_Y_drift_33
  · replace hf := z_t c132 hf
    refine lv_iload_n M.x M.b d_Y_drift_8 rfl (lv_at hl 2 rfl) ?_
    replace hf := z_bind hf; obtain ⟨i4, e3, hf⟩ := hf
    refine zk_S (st1 := [.int i4]) M hH hS (c_Y_isNoWho e3) w_Y_isNoWho q_433 [] rfl ⟨Nat.le_of_ble_eq_true rfl, Nat.le_of_ble_eq_true rfl⟩ hl.1 rfl rfl (Nat.le_of_ble_eq_true rfl) d_Y_drift_9 (fun H locs hH hS => ?_)
    refine lv_if_ne (tgt := 30) M.x M.b d_Y_drift_12 (by decide) (fun c131 => ?_) (fun c131 => ?_)
    · replace hf := z_f c131 hf
      refine z_ldc2 (v := (-1001 : Int64)) M q_472 d_Y_drift_30 ?_
      obtain ⟨rfl, rfl⟩ := z_r2 hf
      exact z_lret M hH hS d_Y_drift_33
    · replace hf := z_t c131 hf
      refine lv_iload_n M.x M.b d_Y_drift_15 rfl (lv_at hl 3 rfl) ?_
      replace hf := z_bind hf; obtain ⟨i6, e5, hf⟩ := hf
      refine zk_S (st1 := [.int i6]) M hH hS (c_Y_isNoYear e5) w_Y_isNoYear q_422 [] rfl ⟨Nat.le_of_ble_eq_true rfl, Nat.le_of_ble_eq_true rfl⟩ hl.1 rfl rfl (Nat.le_of_ble_eq_true rfl) d_Y_drift_16 (fun H locs hH hS => ?_)
      refine lv_if_ne (tgt := 30) M.x M.b d_Y_drift_19 (by decide) (fun c130 => ?_) (fun c130 => ?_)
      · replace hf := z_f c130 hf
        refine z_ldc2 (v := (-1001 : Int64)) M q_472 d_Y_drift_30 ?_
        obtain ⟨rfl, rfl⟩ := z_r2 hf
        exact z_lret M hH hS d_Y_drift_33
      · replace hf := z_t c130 hf
        refine lv_iload M.x M.b d_Y_drift_22 (lv_at hl 4 rfl) ?_
        replace hf := z_bind hf; obtain ⟨i8, e7, hf⟩ := hf
        refine zk_S (st1 := [.int i8]) M hH hS (c_Y_isNoYear e7) w_Y_isNoYear q_422 [] rfl ⟨Nat.le_of_ble_eq_true rfl, Nat.le_of_ble_eq_true rfl⟩ hl.1 rfl rfl (Nat.le_of_ble_eq_true rfl) d_Y_drift_24 (fun H locs hH hS => ?_)
        refine lv_if_eq (tgt := 34) M.x M.b d_Y_drift_27 (by decide) (fun c129 => ?_) (fun c129 => ?_)
        · replace hf := z_t c129 hf
          refine lv_iload M.x M.b d_Y_drift_34 (lv_at hl 5 rfl) ?_
          refine lv_if_lt (tgt := 45) M.x M.b d_Y_drift_36 (by decide) (fun c128 => ?_) (fun c128 => ?_)
          · replace hf := z_t c128 hf
            refine z_ldc2 (v := (-1002 : Int64)) M q_473 d_Y_drift_45 ?_
            obtain ⟨rfl, rfl⟩ := z_r2 hf
            exact z_lret M hH hS d_Y_drift_48
          · replace hf := z_f c128 hf
            refine lv_iload M.x M.b d_Y_drift_39 (lv_at hl 5 rfl) ?_
            refine lv_iconst (v := (1 : Int32)) M.x M.b d_Y_drift_41 rfl ?_
            refine lv_icmp_le (tgt := 49) M.x M.b d_Y_drift_42 (by decide) (fun c127 => ?_) (fun c127 => ?_)
            · replace hf := z_t c127 hf
              refine lv_aload_n M.x M.b d_Y_drift_49 rfl (lv_at hl 0 rfl) ?_
              replace hf := z_bind hf; obtain ⟨r9, e10, hf⟩ := hf
              refine z_get (ci := 7) (k := 4) M hH rfl (by decide) zinY q_481 (gA_spec e10) d_Y_drift_50 ?_
              refine lv_aload_n M.x M.b d_Y_drift_53 rfl (lv_at hl 0 rfl) ?_
              refine lv_iload_n M.x M.b d_Y_drift_54 rfl (lv_at hl 1 rfl) ?_
              rcases r9 with _ | a11
              · exact absurd hf z_nb0
              replace hf := z_sb hf
              replace hf := z_bind hf; obtain ⟨r14, e13, hf⟩ := hf
              refine zk_V (ci := 7) (st1 := [va_rf r14, .ref a11]) M hH hS (c_Y_planOf e13) rfl (o_Y_planOf e13) w_Y_planOf q_480 [.ref a11] rfl ⟨Nat.le_of_ble_eq_true rfl, Nat.le_of_ble_eq_true rfl⟩ hl.1 rfl rfl (Nat.le_of_ble_eq_true rfl) d_Y_drift_55 (fun H locs hH hS => ?_)
              refine lv_aload_n M.x M.b d_Y_drift_58 rfl (lv_at hl 0 rfl) ?_
              replace hf := z_bind hf; obtain ⟨r15, e16, hf⟩ := hf
              refine z_get (ci := 7) (k := 0) M hH rfl (by decide) zinY q_419 (gA_spec e16) d_Y_drift_59 ?_
              refine lv_iload_n M.x M.b d_Y_drift_62 rfl (lv_at hl 2 rfl) ?_
              refine lv_iload_n M.x M.b d_Y_drift_63 rfl (lv_at hl 3 rfl) ?_
              refine lv_iload M.x M.b d_Y_drift_64 (lv_at hl 4 rfl) ?_
              refine lv_aload_n M.x M.b d_Y_drift_66 rfl (lv_at hl 0 rfl) ?_
              replace hf := z_bind hf; obtain ⟨r17, e18, hf⟩ := hf
              refine z_get (ci := 7) (k := 7) M hH rfl (by decide) zinY q_475 (gA_spec e18) d_Y_drift_67 ?_
              rcases r14 with _ | a19
              · exact absurd hf z_nb0
              replace hf := z_sb hf
              rcases r15 with _ | a21
              · exact absurd hf z_nb0
              replace hf := z_sb hf
              rcases r17 with _ | a23
              · exact absurd hf z_nb0
              replace hf := z_sb hf
              replace hf := z_bind hf; obtain ⟨h26, e25, hf⟩ := hf
              refine zk_V (ci := 6) (st1 := []) M hH hS (c_T_tellLinked e25) rfl (o_T_tellLinked e25) w_T_tellLinked q_508 [] rfl ⟨Nat.le_of_ble_eq_true rfl, Nat.le_of_ble_eq_true rfl⟩ hl.1 rfl rfl (Nat.le_of_ble_eq_true rfl) d_Y_drift_70 (fun H locs hH hS => ?_)
              refine lv_aload_n M.x M.b d_Y_drift_73 rfl (lv_at hl 0 rfl) ?_
              replace hf := z_bind hf; obtain ⟨r27, e28, hf⟩ := hf
              refine z_get (ci := 7) (k := 7) M hH rfl (by decide) zinY q_475 (gA_spec e28) d_Y_drift_74 ?_
              rcases r27 with _ | a29
              · exact absurd hf z_nb0
              replace hf := z_sb hf
              replace hf := z_bind hf; obtain ⟨i31, e32, hf⟩ := hf
              refine z_getN (ci := 1) (k := 3) M hH rfl (by decide) zinF q_478 (gI_spec e32) d_Y_drift_77 ?_
              refine lv_if_eq (tgt := 92) M.x M.b d_Y_drift_80 (by decide) (fun c126 => ?_) (fun c126 => ?_)
              · replace hf := z_t c126 hf
                refine lv_aload_n M.x M.b d_Y_drift_92 rfl (lv_at hl 0 rfl) ?_
                replace hf := z_bind hf; obtain ⟨r33, e34, hf⟩ := hf
                refine z_get (ci := 7) (k := 4) M hH rfl (by decide) zinY q_481 (gA_spec e34) d_Y_drift_93 ?_
                refine lv_aload_n M.x M.b d_Y_drift_96 rfl (lv_at hl 0 rfl) ?_
                refine lv_iload_n M.x M.b d_Y_drift_97 rfl (lv_at hl 1 rfl) ?_
                rcases r33 with _ | a35
                · exact absurd hf z_nb0
                replace hf := z_sb hf
                replace hf := z_bind hf; obtain ⟨r38, e37, hf⟩ := hf
                refine zk_V (ci := 7) (st1 := [va_rf r38, .ref a35]) M hH hS (c_Y_planOf e37) rfl (o_Y_planOf e37) w_Y_planOf q_480 [.ref a35] rfl ⟨Nat.le_of_ble_eq_true rfl, Nat.le_of_ble_eq_true rfl⟩ hl.1 rfl rfl (Nat.le_of_ble_eq_true rfl) d_Y_drift_98 (fun H locs hH hS => ?_)
                refine lv_aload_n M.x M.b d_Y_drift_101 rfl (lv_at hl 0 rfl) ?_
                replace hf := z_bind hf; obtain ⟨r39, e40, hf⟩ := hf
                refine z_get (ci := 7) (k := 0) M hH rfl (by decide) zinY q_419 (gA_spec e40) d_Y_drift_102 ?_
                refine lv_iload_n M.x M.b d_Y_drift_105 rfl (lv_at hl 2 rfl) ?_
                refine lv_iload_n M.x M.b d_Y_drift_106 rfl (lv_at hl 3 rfl) ?_
                refine lv_iload M.x M.b d_Y_drift_107 (lv_at hl 4 rfl) ?_
                refine lv_aload_n M.x M.b d_Y_drift_109 rfl (lv_at hl 0 rfl) ?_
                replace hf := z_bind hf; obtain ⟨r41, e42, hf⟩ := hf
                refine z_get (ci := 7) (k := 8) M hH rfl (by decide) zinY q_487 (gA_spec e42) d_Y_drift_110 ?_
                rcases r38 with _ | a43
                · exact absurd hf z_nb0
                replace hf := z_sb hf
                rcases r39 with _ | a45
                · exact absurd hf z_nb0
                replace hf := z_sb hf
                rcases r41 with _ | a47
                · exact absurd hf z_nb0
                replace hf := z_sb hf
                replace hf := z_bind hf; obtain ⟨h50, e49, hf⟩ := hf
                refine zk_V (ci := 6) (st1 := []) M hH hS (c_T_tell e49) rfl (o_T_tell e49) w_T_tell q_479 [] rfl ⟨Nat.le_of_ble_eq_true rfl, Nat.le_of_ble_eq_true rfl⟩ hl.1 rfl rfl (Nat.le_of_ble_eq_true rfl) d_Y_drift_113 (fun H locs hH hS => ?_)
                refine lv_aload_n M.x M.b d_Y_drift_116 rfl (lv_at hl 0 rfl) ?_
                replace hf := z_bind hf; obtain ⟨r51, e52, hf⟩ := hf
                refine z_get (ci := 7) (k := 8) M hH rfl (by decide) zinY q_487 (gA_spec e52) d_Y_drift_117 ?_
                rcases r51 with _ | a53
                · exact absurd hf z_nb0
                replace hf := z_sb hf
                replace hf := z_bind hf; obtain ⟨i55, e56, hf⟩ := hf
                refine z_getN (ci := 1) (k := 3) M hH rfl (by decide) zinF q_478 (gI_spec e56) d_Y_drift_120 ?_
                refine lv_if_eq (tgt := 135) M.x M.b d_Y_drift_123 (by decide) (fun c119 => ?_) (fun c119 => ?_)
                · replace hf := z_t c119 hf
                  refine lv_aload_n M.x M.b d_Y_drift_135 rfl (lv_at hl 0 rfl) ?_
                  replace hf := z_bind hf; obtain ⟨r57, e58, hf⟩ := hf
                  refine z_get (ci := 7) (k := 7) M hH rfl (by decide) zinY q_475 (gA_spec e58) d_Y_drift_136 ?_
                  rcases r57 with _ | a59
                  · exact absurd hf z_nb0
                  replace hf := z_sb hf
                  replace hf := z_bind hf; obtain ⟨i61, e62, hf⟩ := hf
                  refine z_getN (ci := 1) (k := 2) M hH rfl (by decide) zinF q_477 (gI_spec e62) d_Y_drift_139 ?_
                  refine lv_if_ne (tgt := 155) M.x M.b d_Y_drift_142 (by decide) (fun c112 => ?_) (fun c112 => ?_)
                  · replace hf := z_f c112 hf
                    refine z_ldc2 (v := (-1003 : Int64)) M q_505 d_Y_drift_155 ?_
                    obtain ⟨rfl, rfl⟩ := z_r2 hf
                    exact z_lret M hH hS d_Y_drift_158
                  · replace hf := z_t c112 hf
                    refine lv_aload_n M.x M.b d_Y_drift_145 rfl (lv_at hl 0 rfl) ?_
                    replace hf := z_bind hf; obtain ⟨r63, e64, hf⟩ := hf
                    refine z_get (ci := 7) (k := 8) M hH rfl (by decide) zinY q_487 (gA_spec e64) d_Y_drift_146 ?_
                    rcases r63 with _ | a65
                    · exact absurd hf z_nb0
                    replace hf := z_sb hf
                    replace hf := z_bind hf; obtain ⟨i67, e68, hf⟩ := hf
                    refine z_getN (ci := 1) (k := 2) M hH rfl (by decide) zinF q_477 (gI_spec e68) d_Y_drift_149 ?_
                    refine lv_if_eq (tgt := 159) M.x M.b d_Y_drift_152 (by decide) (fun c111 => ?_) (fun c111 => ?_)
                    · replace hf := z_t c111 hf
                      refine lv_aload_n M.x M.b d_Y_drift_159 rfl (lv_at hl 0 rfl) ?_
                      replace hf := z_bind hf; obtain ⟨r69, e70, hf⟩ := hf
                      refine z_get (ci := 7) (k := 8) M hH rfl (by decide) zinY q_487 (gA_spec e70) d_Y_drift_160 ?_
                      rcases r69 with _ | a71
                      · exact absurd hf z_nb0
                      replace hf := z_sb hf
                      replace hf := z_bind hf; obtain ⟨h74, e73, hf⟩ := hf
                      refine zk_V (ci := 1) (st1 := []) M hH hS (c_F_turnOver e73) rfl (o_F_turnOver e73) w_F_turnOver q_507 [] rfl ⟨Nat.le_of_ble_eq_true rfl, Nat.le_of_ble_eq_true rfl⟩ hl.1 rfl rfl (Nat.le_of_ble_eq_true rfl) d_Y_drift_163 (fun H locs hH hS => ?_)
                      refine lv_aload_n M.x M.b d_Y_drift_166 rfl (lv_at hl 0 rfl) ?_
                      replace hf := z_bind hf; obtain ⟨r75, e76, hf⟩ := hf
                      refine z_get (ci := 7) (k := 7) M hH rfl (by decide) zinY q_475 (gA_spec e76) d_Y_drift_167 ?_
                      refine lv_aload_n M.x M.b d_Y_drift_170 rfl (lv_at hl 0 rfl) ?_
                      replace hf := z_bind hf; obtain ⟨r77, e78, hf⟩ := hf
                      refine z_get (ci := 7) (k := 8) M hH rfl (by decide) zinY q_487 (gA_spec e78) d_Y_drift_171 ?_
                      rcases r77 with _ | a79
                      · exact absurd hf z_nb0
                      replace hf := z_sb hf
                      rcases r75 with _ | a81
                      · exact absurd hf z_nb0
                      replace hf := z_sb hf
                      replace hf := z_bind hf; obtain ⟨h84, e83, hf⟩ := hf
                      refine zk_V (ci := 1) (st1 := []) M hH hS (c_F_multiply e83) rfl (o_F_multiply e83) w_F_multiply q_506 [] rfl ⟨Nat.le_of_ble_eq_true rfl, Nat.le_of_ble_eq_true rfl⟩ hl.1 rfl rfl (Nat.le_of_ble_eq_true rfl) d_Y_drift_174 (fun H locs hH hS => ?_)
                      refine lv_aload_n M.x M.b d_Y_drift_177 rfl (lv_at hl 0 rfl) ?_
                      replace hf := z_bind hf; obtain ⟨r85, e86, hf⟩ := hf
                      refine z_get (ci := 7) (k := 7) M hH rfl (by decide) zinY q_475 (gA_spec e86) d_Y_drift_178 ?_
                      rcases r85 with _ | a87
                      · exact absurd hf z_nb0
                      replace hf := z_sb hf
                      replace hf := z_bind hf; obtain ⟨i89, e90, hf⟩ := hf
                      refine z_getN (ci := 1) (k := 3) M hH rfl (by decide) zinF q_478 (gI_spec e90) d_Y_drift_181 ?_
                      refine lv_if_eq (tgt := 196) M.x M.b d_Y_drift_184 (by decide) (fun c110 => ?_) (fun c110 => ?_)
                      · replace hf := z_t c110 hf
                        refine lv_iload M.x M.b d_Y_drift_196 (lv_at hl 5 rfl) ?_
                        refine lv_if_ne (tgt := 211) M.x M.b d_Y_drift_198 (by decide) (fun c103 => ?_) (fun c103 => ?_)
                        · replace hf := z_f c103 hf
                          refine lv_aload_n M.x M.b d_Y_drift_211 rfl (lv_at hl 0 rfl) ?_
                          replace hf := z_bind hf; obtain ⟨r91, e92, hf⟩ := hf
                          refine z_get (ci := 7) (k := 7) M hH rfl (by decide) zinY q_475 (gA_spec e92) d_Y_drift_212 ?_
                          rcases r91 with _ | a93
                          · exact absurd hf z_nb0
                          replace hf := z_sb hf
                          replace hf := z_bind hf; obtain ⟨l95, e96, hf⟩ := hf
                          refine z_getN (ci := 1) (k := 1) M hH rfl (by decide) zinF q_474 (gL_spec e96) d_Y_drift_215 ?_
                          obtain ⟨rfl, rfl⟩ := z_r2 hf
                          exact z_lret M hH hS d_Y_drift_218
                        · replace hf := z_t c103 hf
                          refine lv_aload_n M.x M.b d_Y_drift_201 rfl (lv_at hl 0 rfl) ?_
                          replace hf := z_bind hf; obtain ⟨r97, e98, hf⟩ := hf
                          refine z_get (ci := 7) (k := 7) M hH rfl (by decide) zinY q_475 (gA_spec e98) d_Y_drift_202 ?_
                          rcases r97 with _ | a99
                          · exact absurd hf z_nb0
                          replace hf := z_sb hf
                          replace hf := z_bind hf; obtain ⟨l101, e102, hf⟩ := hf
                          refine z_getN (ci := 1) (k := 0) M hH rfl (by decide) zinF q_476 (gL_spec e102) d_Y_drift_205 ?_
                          refine lv_goto (tgt := 218) M.x M.b d_Y_drift_208 (by decide) ?_
                          obtain ⟨rfl, rfl⟩ := z_r2 hf
                          exact z_lret M hH hS d_Y_drift_218
                      · replace hf := z_f c110 hf
                        refine lv_aload_n M.x M.b d_Y_drift_187 rfl (lv_at hl 0 rfl) ?_
                        replace hf := z_bind hf; obtain ⟨r104, e105, hf⟩ := hf
                        refine z_get (ci := 7) (k := 7) M hH rfl (by decide) zinY q_475 (gA_spec e105) d_Y_drift_188 ?_
                        rcases r104 with _ | a106
                        · exact absurd hf z_nb0
                        replace hf := z_sb hf
                        replace hf := z_bind hf; obtain ⟨i108, e109, hf⟩ := hf
                        refine z_getN (ci := 1) (k := 3) M hH rfl (by decide) zinF q_478 (gI_spec e109) d_Y_drift_191 ?_
                        refine lv_i2l M.x M.b d_Y_drift_194 rfl ?_
                        obtain ⟨rfl, rfl⟩ := z_r2 hf
                        exact z_lret M hH hS d_Y_drift_195
                    · replace hf := z_f c111 hf
                      refine z_ldc2 (v := (-1003 : Int64)) M q_505 d_Y_drift_155 ?_
                      obtain ⟨rfl, rfl⟩ := z_r2 hf
                      exact z_lret M hH hS d_Y_drift_158
                · replace hf := z_f c119 hf
                  refine lv_aload_n M.x M.b d_Y_drift_126 rfl (lv_at hl 0 rfl) ?_
                  replace hf := z_bind hf; obtain ⟨r113, e114, hf⟩ := hf
                  refine z_get (ci := 7) (k := 8) M hH rfl (by decide) zinY q_487 (gA_spec e114) d_Y_drift_127 ?_
                  rcases r113 with _ | a115
                  · exact absurd hf z_nb0
                  replace hf := z_sb hf
                  replace hf := z_bind hf; obtain ⟨i117, e118, hf⟩ := hf
                  refine z_getN (ci := 1) (k := 3) M hH rfl (by decide) zinF q_478 (gI_spec e118) d_Y_drift_130 ?_
                  refine lv_i2l M.x M.b d_Y_drift_133 rfl ?_
                  obtain ⟨rfl, rfl⟩ := z_r2 hf
                  exact z_lret M hH hS d_Y_drift_134
              · replace hf := z_f c126 hf
                refine lv_aload_n M.x M.b d_Y_drift_83 rfl (lv_at hl 0 rfl) ?_
                replace hf := z_bind hf; obtain ⟨r120, e121, hf⟩ := hf
                refine z_get (ci := 7) (k := 7) M hH rfl (by decide) zinY q_475 (gA_spec e121) d_Y_drift_84 ?_
                rcases r120 with _ | a122
                · exact absurd hf z_nb0
                replace hf := z_sb hf
                replace hf := z_bind hf; obtain ⟨i124, e125, hf⟩ := hf
                refine z_getN (ci := 1) (k := 3) M hH rfl (by decide) zinF q_478 (gI_spec e125) d_Y_drift_87 ?_
                refine lv_i2l M.x M.b d_Y_drift_90 rfl ?_
                obtain ⟨rfl, rfl⟩ := z_r2 hf
                exact z_lret M hH hS d_Y_drift_91
            · replace hf := z_f c127 hf
              refine z_ldc2 (v := (-1002 : Int64)) M q_473 d_Y_drift_45 ?_
              obtain ⟨rfl, rfl⟩ := z_r2 hf
              exact z_lret M hH hS d_Y_drift_48
        · replace hf := z_f c129 hf
          refine z_ldc2 (v := (-1001 : Int64)) M q_472 d_Y_drift_30 ?_
          obtain ⟨rfl, rfl⟩ := z_r2 hf
          exact z_lret M hH hS d_Y_drift_33
def f_Y_chosen (this : Nat) (h : Hp) (x1 : Int32) (x2 : Int32) (x3 : Int32) : Option (Int32) :=
  if isO h this 7 = true then
  (f_Y_isNoWho x1).bind fun i2 =>
  if i2 = 0 then
    (f_Y_isNoYear x2).bind fun i4 =>
    if i4 = 0 then
      (f_Y_isNoYear x3).bind fun i6 =>
      if i6 = 0 then
        (gA h this 7 6).bind fun r7 =>
        (r7).bind fun a9 =>
        (f_K_choice a9 h x1 x2 x3).bind fun i12 =>
        some i12
      else
      some (-1001 : Int32)
    else
    some (-1001 : Int32)
  else
  some (-1001 : Int32)
  else none
theorem o_Y_chosen {this : Nat} {h : Hp} {x1 : Int32} {x2 : Int32} {x3 : Int32} {r0 : Int32} (hf : f_Y_chosen this h x1 x2 x3 = some r0) : isO h this 7 = true := by
  unfold f_Y_chosen at hf
  exact (z_gd hf).1
set_option maxRecDepth 100000 in
set_option maxHeartbeats 4000000 in
theorem c_Y_chosen {l : Launch} {N0 : Nat} {D : va_G} {cs : Nat → ClassId} {this : Nat} {h : Hp} {x1 : Int32} {x2 : Int32} {x3 : Int32} {r0 : Int32} (hf : f_Y_chosen this h x1 x2 x3 = some r0) : Fn l N0 D cs y_Y_chosen b_Y_chosen 4 (some .int) 4 0 0 [.ref this, .int x1, .int x2, .int x3] h (some (.int r0)) h := by
  refine z_start (by decide) (Nat.le_of_ble_eq_true rfl) ?_
  intro p e s m args below meth c M hH hS ls hl
  unfold f_Y_chosen at hf
  obtain ⟨hO, hf⟩ := z_gd hf
  have hl : lv_has ls 4 [(0, .ref this), (1, .int x1), (2, .int x2), (3, .int x3)] := hl
  obtain ⟨H, hHe⟩ : ∃ H, H = s.heap := ⟨_, rfl⟩
  obtain ⟨locs, hLe⟩ : ∃ locs : List Loc, locs = [] := ⟨_, rfl⟩
  have hS : va_S (zA N0) s.heap H locs := by rw [hHe, hLe]; exact hS
  have hH : HH N0 D cs h H := by rw [hHe]; exact hH
  suffices hg : W p l e (zrm 4 0 0) s m args below meth c H locs 0 0 (MQ below (zQ N0 D cs (some (.int r0)) h) args s 0 0 (zA N0)) (F0 m 0 ls []) by rw [hHe, hLe] at hg; exact hg
  clear hHe hLe
  refine lv_iload_n M.x M.b d_Y_chosen_0 rfl (lv_at hl 1 rfl) ?_
  replace hf := z_bind hf; obtain ⟨i2, e1, hf⟩ := hf
  refine zk_S (st1 := [.int i2]) M hH hS (c_Y_isNoWho e1) w_Y_isNoWho q_433 [] rfl ⟨Nat.le_of_ble_eq_true rfl, Nat.le_of_ble_eq_true rfl⟩ hl.1 rfl rfl (Nat.le_of_ble_eq_true rfl) d_Y_chosen_1 (fun H locs hH hS => ?_)
  refine lv_if_ne (tgt := 21) M.x M.b d_Y_chosen_4 (by decide) (fun c15 => ?_) (fun c15 => ?_)
  · replace hf := z_f c15 hf
    refine lv_sipush (v := (-1001 : Int32)) M.x M.b d_Y_chosen_21 rfl ?_
    obtain rfl := z_r1 hf
    exact z_iret M hH hS d_Y_chosen_24
  · replace hf := z_t c15 hf
    refine lv_iload_n M.x M.b d_Y_chosen_7 rfl (lv_at hl 2 rfl) ?_
    replace hf := z_bind hf; obtain ⟨i4, e3, hf⟩ := hf
    refine zk_S (st1 := [.int i4]) M hH hS (c_Y_isNoYear e3) w_Y_isNoYear q_422 [] rfl ⟨Nat.le_of_ble_eq_true rfl, Nat.le_of_ble_eq_true rfl⟩ hl.1 rfl rfl (Nat.le_of_ble_eq_true rfl) d_Y_chosen_8 (fun H locs hH hS => ?_)
    refine lv_if_ne (tgt := 21) M.x M.b d_Y_chosen_11 (by decide) (fun c14 => ?_) (fun c14 => ?_)
    · replace hf := z_f c14 hf
      refine lv_sipush (v := (-1001 : Int32)) M.x M.b d_Y_chosen_21 rfl ?_
      obtain rfl := z_r1 hf
      exact z_iret M hH hS d_Y_chosen_24
    · replace hf := z_t c14 hf
      refine lv_iload_n M.x M.b d_Y_chosen_14 rfl (lv_at hl 3 rfl) ?_
      replace hf := z_bind hf; obtain ⟨i6, e5, hf⟩ := hf
      refine zk_S (st1 := [.int i6]) M hH hS (c_Y_isNoYear e5) w_Y_isNoYear q_422 [] rfl ⟨Nat.le_of_ble_eq_true rfl, Nat.le_of_ble_eq_true rfl⟩ hl.1 rfl rfl (Nat.le_of_ble_eq_true rfl) d_Y_chosen_15 (fun H locs hH hS => ?_)
      refine lv_if_eq (tgt := 25) M.x M.b d_Y_chosen_18 (by decide) (fun c13 => ?_) (fun c13 => ?_)
      · replace hf := z_t c13 hf
        refine lv_aload_n M.x M.b d_Y_chosen_25 rfl (lv_at hl 0 rfl) ?_
        replace hf := z_bind hf; obtain ⟨r7, e8, hf⟩ := hf
        refine z_get (ci := 7) (k := 6) M hH rfl (by decide) zinY q_513 (gA_spec e8) d_Y_chosen_26 ?_
        refine lv_iload_n M.x M.b d_Y_chosen_29 rfl (lv_at hl 1 rfl) ?_
        refine lv_iload_n M.x M.b d_Y_chosen_30 rfl (lv_at hl 2 rfl) ?_
        refine lv_iload_n M.x M.b d_Y_chosen_31 rfl (lv_at hl 3 rfl) ?_
        rcases r7 with _ | a9
        · exact absurd hf z_nb0
        replace hf := z_sb hf
        replace hf := z_bind hf; obtain ⟨i12, e11, hf⟩ := hf
        refine zk_V (ci := 3) (st1 := [.int i12]) M hH hS (c_K_choice e11) rfl (o_K_choice e11) w_K_choice q_512 [] rfl ⟨Nat.le_of_ble_eq_true rfl, Nat.le_of_ble_eq_true rfl⟩ hl.1 rfl rfl (Nat.le_of_ble_eq_true rfl) d_Y_chosen_32 (fun H locs hH hS => ?_)
        obtain rfl := z_r1 hf
        exact z_iret M hH hS d_Y_chosen_35
      · replace hf := z_f c13 hf
        refine lv_sipush (v := (-1001 : Int32)) M.x M.b d_Y_chosen_21 rfl ?_
        obtain rfl := z_r1 hf
        exact z_iret M hH hS d_Y_chosen_24
def f_Y_ring (this : Nat) (x1 : Int32) (x2 : Int32) (h : Hp) : Option ((Int32 × Hp)) :=
  if isO h this 7 = true then
  (f_Y_isNoWho x1).bind fun i2 =>
  if i2 = 0 then
    (gA h this 7 6).bind fun r3 =>
    (r3).bind fun a5 =>
    zb2 (f_K_findRing a5 x1 h) fun i8 h9 =>
    if x2 = (-1 : Int32) then
      some (i8, h9)
    else
    if x2 < 0 then
      some ((-1 : Int32), h9)
    else
    if x2 < i8 then
      (gA h9 this 7 6).bind fun r10 =>
      (r10).bind fun a12 =>
      (f_K_yearInRing a12 h9 x2).bind fun i15 =>
      some (i15, h9)
    else
    some ((-1 : Int32), h9)
  else
  some ((-1001 : Int32), h)
  else none
theorem o_Y_ring {this : Nat} {x1 : Int32} {x2 : Int32} {h : Hp} {r0 : Int32} {h0 : Hp} (hf : f_Y_ring this x1 x2 h = some (r0, h0)) : isO h this 7 = true := by
  unfold f_Y_ring at hf
  exact (z_gd hf).1
set_option maxRecDepth 100000 in
set_option maxHeartbeats 4000000 in
theorem c_Y_ring {l : Launch} {N0 : Nat} {D : va_G} {cs : Nat → ClassId} {this : Nat} {x1 : Int32} {x2 : Int32} {h : Hp} {r0 : Int32} {h0 : Hp} (hf : f_Y_ring this x1 x2 h = some (r0, h0)) : Fn l N0 D cs y_Y_ring b_Y_ring 4 (some .int) 22 0 0 [.ref this, .int x1, .int x2] h (some (.int r0)) h0 := by
  refine z_start (by decide) (Nat.le_of_ble_eq_true rfl) ?_
  intro p e s m args below meth c M hH hS ls hl
  unfold f_Y_ring at hf
  obtain ⟨hO, hf⟩ := z_gd hf
  have hl : lv_has ls 4 [(0, .ref this), (1, .int x1), (2, .int x2)] := hl
  obtain ⟨H, hHe⟩ : ∃ H, H = s.heap := ⟨_, rfl⟩
  obtain ⟨locs, hLe⟩ : ∃ locs : List Loc, locs = [] := ⟨_, rfl⟩
  have hS : va_S (zA N0) s.heap H locs := by rw [hHe, hLe]; exact hS
  have hH : HH N0 D cs h H := by rw [hHe]; exact hH
  suffices hg : W p l e (zrm 22 0 0) s m args below meth c H locs 0 0 (MQ below (zQ N0 D cs (some (.int r0)) h0) args s 0 0 (zA N0)) (F0 m 0 ls []) by rw [hHe, hLe] at hg; exact hg
  clear hHe hLe
  refine lv_iload_n M.x M.b d_Y_ring_0 rfl (lv_at hl 1 rfl) ?_
  replace hf := z_bind hf; obtain ⟨i2, e1, hf⟩ := hf
  refine zk_S (st1 := [.int i2]) M hH hS (c_Y_isNoWho e1) w_Y_isNoWho q_433 [] rfl ⟨Nat.le_of_ble_eq_true rfl, Nat.le_of_ble_eq_true rfl⟩ hl.1 rfl rfl (Nat.le_of_ble_eq_true rfl) d_Y_ring_1 (fun H locs hH hS => ?_)
  refine lv_if_eq (tgt := 11) M.x M.b d_Y_ring_4 (by decide) (fun c19 => ?_) (fun c19 => ?_)
  · replace hf := z_t c19 hf
    refine lv_aload_n M.x M.b d_Y_ring_11 rfl (lv_at hl 0 rfl) ?_
    replace hf := z_bind hf; obtain ⟨r3, e4, hf⟩ := hf
    refine z_get (ci := 7) (k := 6) M hH rfl (by decide) zinY q_513 (gA_spec e4) d_Y_ring_12 ?_
    refine lv_iload_n M.x M.b d_Y_ring_15 rfl (lv_at hl 1 rfl) ?_
    rcases r3 with _ | a5
    · exact absurd hf z_nb0
    replace hf := z_sb hf
    replace hf := z_bind2 hf; obtain ⟨i8, h9, e7, hf⟩ := hf
    refine zk_V (ci := 3) (st1 := [.int i8]) M hH hS (c_K_findRing e7) rfl (o_K_findRing e7) w_K_findRing q_518 [] rfl ⟨Nat.le_of_ble_eq_true rfl, Nat.le_of_ble_eq_true rfl⟩ hl.1 rfl rfl (Nat.le_of_ble_eq_true rfl) d_Y_ring_16 (fun H locs hH hS => ?_)
    refine lv_istore_n (lv' := [(3, .int i8), (0, .ref this), (1, .int x1), (2, .int x2)]) M.x M.b d_Y_ring_19 rfl hl (by decide) rfl (fun ls hl => ?_)
    refine lv_iload_n M.x M.b d_Y_ring_20 rfl (lv_at hl 3 rfl) ?_
    refine lv_iconst (v := (-1 : Int32)) M.x M.b d_Y_ring_21 rfl ?_
    refine lv_icmp_ne (tgt := 27) M.x M.b d_Y_ring_22 (by decide) (fun c18 => ?_) (fun c18 => ?_)
    · replace hf := z_f c18 hf
      refine lv_iload_n M.x M.b d_Y_ring_27 rfl (lv_at hl 3 rfl) ?_
      refine lv_if_lt (tgt := 36) M.x M.b d_Y_ring_28 (by decide) (fun c17 => ?_) (fun c17 => ?_)
      · replace hf := z_t c17 hf
        refine lv_iconst (v := (-1 : Int32)) M.x M.b d_Y_ring_36 rfl ?_
        refine lv_goto (tgt := 48) M.x M.b d_Y_ring_37 (by decide) ?_
        obtain ⟨rfl, rfl⟩ := z_r2 hf
        exact z_iret M hH hS d_Y_ring_48
      · replace hf := z_f c17 hf
        refine lv_iload_n M.x M.b d_Y_ring_31 rfl (lv_at hl 3 rfl) ?_
        refine lv_iload_n M.x M.b d_Y_ring_32 rfl (lv_at hl 0 rfl) ?_
        refine lv_icmp_lt (tgt := 40) M.x M.b d_Y_ring_33 (by decide) (fun c16 => ?_) (fun c16 => ?_)
        · replace hf := z_t c16 hf
          refine lv_aload_n M.x M.b d_Y_ring_40 rfl (lv_at hl 1 rfl) ?_
          replace hf := z_bind hf; obtain ⟨r10, e11, hf⟩ := hf
          refine z_get (ci := 7) (k := 6) M hH rfl (by decide) zinY q_513 (gA_spec e11) d_Y_ring_41 ?_
          refine lv_iload_n M.x M.b d_Y_ring_44 rfl (lv_at hl 3 rfl) ?_
          rcases r10 with _ | a12
          · exact absurd hf z_nb0
          replace hf := z_sb hf
          replace hf := z_bind hf; obtain ⟨i15, e14, hf⟩ := hf
          refine zk_V (ci := 3) (st1 := [.int i15]) M hH hS (c_K_yearInRing e14) rfl (o_K_yearInRing e14) w_K_yearInRing q_517 [] rfl ⟨Nat.le_of_ble_eq_true rfl, Nat.le_of_ble_eq_true rfl⟩ hl.1 rfl rfl (Nat.le_of_ble_eq_true rfl) d_Y_ring_45 (fun H locs hH hS => ?_)
          obtain ⟨rfl, rfl⟩ := z_r2 hf
          exact z_iret M hH hS d_Y_ring_48
        · replace hf := z_f c16 hf
          refine lv_iconst (v := (-1 : Int32)) M.x M.b d_Y_ring_36 rfl ?_
          refine lv_goto (tgt := 48) M.x M.b d_Y_ring_37 (by decide) ?_
          obtain ⟨rfl, rfl⟩ := z_r2 hf
          exact z_iret M hH hS d_Y_ring_48
    · replace hf := z_t c18 hf
      refine lv_iload_n M.x M.b d_Y_ring_25 rfl (lv_at hl 0 rfl) ?_
      obtain ⟨rfl, rfl⟩ := z_r2 hf
      exact z_iret M hH hS d_Y_ring_26
  · replace hf := z_f c19 hf
    refine lv_sipush (v := (-1001 : Int32)) M.x M.b d_Y_ring_7 rfl ?_
    obtain ⟨rfl, rfl⟩ := z_r2 hf
    exact z_iret M hH hS d_Y_ring_10
def f_Y_need (this : Nat) (x1 : Int32) (x2 : Int32) (x3 : Int32) (x4 : Int32) (h : Hp) : Option ((Int32 × Hp)) :=
  if isO h this 7 = true then
  (f_Y_isNoWho x1).bind fun i2 =>
  if i2 = 0 then
    (f_Y_isNoYear x2).bind fun i4 =>
    if i4 = 0 then
      (f_Y_isNoYear x3).bind fun i6 =>
      if i6 = 0 then
        if x4 < 0 then
          some ((-1002 : Int32), h)
        else
        if x4 ≤ (2 : Int32) then
          (gA h this 7 0).bind fun r7 =>
          (r7).bind fun a9 =>
          (f_B_costOver a9 h (31 : Int32) x1 x2 x2).bind fun i12 =>
          if 0 < i12 then
            (gA h this 7 6).bind fun r13 =>
            (r13).bind fun a15 =>
            zb2 (f_K_cheapestAsGood a15 x1 x2 x3 h) fun i18 h19 =>
            if i18 = (-1 : Int32) then
              some ((-1003 : Int32), h19)
            else
            if x4 = (2 : Int32) then
              some (i18, h19)
            else
            (gA h19 this 7 0).bind fun r20 =>
            (r20).bind fun a22 =>
            (f_B_costOver a22 h19 (31 : Int32) x1 x3 i18).bind fun i25 =>
            (f_Y_inLeastTerms i25 i12 x4).bind fun i27 =>
            some (i27, h19)
          else
          some ((-1003 : Int32), h)
        else
        some ((-1002 : Int32), h)
      else
      some ((-1001 : Int32), h)
    else
    some ((-1001 : Int32), h)
  else
  some ((-1001 : Int32), h)
  else none
theorem o_Y_need {this : Nat} {x1 : Int32} {x2 : Int32} {x3 : Int32} {x4 : Int32} {h : Hp} {r0 : Int32} {h0 : Hp} (hf : f_Y_need this x1 x2 x3 x4 h = some (r0, h0)) : isO h this 7 = true := by
  unfold f_Y_need at hf
  exact (z_gd hf).1
set_option maxRecDepth 100000 in
set_option maxHeartbeats 4000000 in
theorem c_Y_need {l : Launch} {N0 : Nat} {D : va_G} {cs : Nat → ClassId} {this : Nat} {x1 : Int32} {x2 : Int32} {x3 : Int32} {x4 : Int32} {h : Hp} {r0 : Int32} {h0 : Hp} (hf : f_Y_need this x1 x2 x3 x4 h = some (r0, h0)) : Fn l N0 D cs y_Y_need b_Y_need 7 (some .int) 6 0 0 [.ref this, .int x1, .int x2, .int x3, .int x4] h (some (.int r0)) h0 := by
  refine z_start (by decide) (Nat.le_of_ble_eq_true rfl) ?_
  intro p e s m args below meth c M hH hS ls hl
  unfold f_Y_need at hf
  obtain ⟨hO, hf⟩ := z_gd hf
  have hl : lv_has ls 7 [(0, .ref this), (1, .int x1), (2, .int x2), (3, .int x3), (4, .int x4)] := hl
  obtain ⟨H, hHe⟩ : ∃ H, H = s.heap := ⟨_, rfl⟩
  obtain ⟨locs, hLe⟩ : ∃ locs : List Loc, locs = [] := ⟨_, rfl⟩
  have hS : va_S (zA N0) s.heap H locs := by rw [hHe, hLe]; exact hS
  have hH : HH N0 D cs h H := by rw [hHe]; exact hH
  suffices hg : W p l e (zrm 6 0 0) s m args below meth c H locs 0 0 (MQ below (zQ N0 D cs (some (.int r0)) h0) args s 0 0 (zA N0)) (F0 m 0 ls []) by rw [hHe, hLe] at hg; exact hg
  clear hHe hLe
  refine lv_iload_n M.x M.b d_Y_need_0 rfl (lv_at hl 1 rfl) ?_
  replace hf := z_bind hf; obtain ⟨i2, e1, hf⟩ := hf
  refine zk_S (st1 := [.int i2]) M hH hS (c_Y_isNoWho e1) w_Y_isNoWho q_433 [] rfl ⟨Nat.le_of_ble_eq_true rfl, Nat.le_of_ble_eq_true rfl⟩ hl.1 rfl rfl (Nat.le_of_ble_eq_true rfl) d_Y_need_1 (fun H locs hH hS => ?_)
  refine lv_if_ne (tgt := 21) M.x M.b d_Y_need_4 (by decide) (fun c35 => ?_) (fun c35 => ?_)
  · replace hf := z_f c35 hf
    refine lv_sipush (v := (-1001 : Int32)) M.x M.b d_Y_need_21 rfl ?_
    obtain ⟨rfl, rfl⟩ := z_r2 hf
    exact z_iret M hH hS d_Y_need_24
  · replace hf := z_t c35 hf
    refine lv_iload_n M.x M.b d_Y_need_7 rfl (lv_at hl 2 rfl) ?_
    replace hf := z_bind hf; obtain ⟨i4, e3, hf⟩ := hf
    refine zk_S (st1 := [.int i4]) M hH hS (c_Y_isNoYear e3) w_Y_isNoYear q_422 [] rfl ⟨Nat.le_of_ble_eq_true rfl, Nat.le_of_ble_eq_true rfl⟩ hl.1 rfl rfl (Nat.le_of_ble_eq_true rfl) d_Y_need_8 (fun H locs hH hS => ?_)
    refine lv_if_ne (tgt := 21) M.x M.b d_Y_need_11 (by decide) (fun c34 => ?_) (fun c34 => ?_)
    · replace hf := z_f c34 hf
      refine lv_sipush (v := (-1001 : Int32)) M.x M.b d_Y_need_21 rfl ?_
      obtain ⟨rfl, rfl⟩ := z_r2 hf
      exact z_iret M hH hS d_Y_need_24
    · replace hf := z_t c34 hf
      refine lv_iload_n M.x M.b d_Y_need_14 rfl (lv_at hl 3 rfl) ?_
      replace hf := z_bind hf; obtain ⟨i6, e5, hf⟩ := hf
      refine zk_S (st1 := [.int i6]) M hH hS (c_Y_isNoYear e5) w_Y_isNoYear q_422 [] rfl ⟨Nat.le_of_ble_eq_true rfl, Nat.le_of_ble_eq_true rfl⟩ hl.1 rfl rfl (Nat.le_of_ble_eq_true rfl) d_Y_need_15 (fun H locs hH hS => ?_)
      refine lv_if_eq (tgt := 25) M.x M.b d_Y_need_18 (by decide) (fun c33 => ?_) (fun c33 => ?_)
      · replace hf := z_t c33 hf
        refine lv_iload M.x M.b d_Y_need_25 (lv_at hl 4 rfl) ?_
        refine lv_if_lt (tgt := 36) M.x M.b d_Y_need_27 (by decide) (fun c32 => ?_) (fun c32 => ?_)
        · replace hf := z_t c32 hf
          refine lv_sipush (v := (-1002 : Int32)) M.x M.b d_Y_need_36 rfl ?_
          obtain ⟨rfl, rfl⟩ := z_r2 hf
          exact z_iret M hH hS d_Y_need_39
        · replace hf := z_f c32 hf
          refine lv_iload M.x M.b d_Y_need_30 (lv_at hl 4 rfl) ?_
          refine lv_iconst (v := (2 : Int32)) M.x M.b d_Y_need_32 rfl ?_
          refine lv_icmp_le (tgt := 40) M.x M.b d_Y_need_33 (by decide) (fun c31 => ?_) (fun c31 => ?_)
          · replace hf := z_t c31 hf
            refine lv_aload_n M.x M.b d_Y_need_40 rfl (lv_at hl 0 rfl) ?_
            replace hf := z_bind hf; obtain ⟨r7, e8, hf⟩ := hf
            refine z_get (ci := 7) (k := 0) M hH rfl (by decide) zinY q_419 (gA_spec e8) d_Y_need_41 ?_
            refine lv_bipush (v := (31 : Int32)) M.x M.b d_Y_need_44 rfl ?_
            refine lv_iload_n M.x M.b d_Y_need_46 rfl (lv_at hl 1 rfl) ?_
            refine lv_iload_n M.x M.b d_Y_need_47 rfl (lv_at hl 2 rfl) ?_
            refine lv_iload_n M.x M.b d_Y_need_48 rfl (lv_at hl 2 rfl) ?_
            rcases r7 with _ | a9
            · exact absurd hf z_nb0
            replace hf := z_sb hf
            replace hf := z_bind hf; obtain ⟨i12, e11, hf⟩ := hf
            refine zk_V (ci := 0) (st1 := [.int i12]) M hH hS (c_B_costOver e11) rfl (o_B_costOver e11) w_B_costOver q_432 [] rfl ⟨Nat.le_of_ble_eq_true rfl, Nat.le_of_ble_eq_true rfl⟩ hl.1 rfl rfl (Nat.le_of_ble_eq_true rfl) d_Y_need_49 (fun H locs hH hS => ?_)
            refine lv_istore (lv' := [(5, .int i12), (0, .ref this), (1, .int x1), (2, .int x2), (3, .int x3), (4, .int x4)]) M.x M.b d_Y_need_52 hl (by decide) rfl (fun ls hl => ?_)
            refine lv_iload M.x M.b d_Y_need_54 (lv_at hl 0 rfl) ?_
            refine lv_if_gt (tgt := 63) M.x M.b d_Y_need_56 (by decide) (fun c30 => ?_) (fun c30 => ?_)
            · replace hf := z_t c30 hf
              refine lv_aload_n M.x M.b d_Y_need_63 rfl (lv_at hl 1 rfl) ?_
              replace hf := z_bind hf; obtain ⟨r13, e14, hf⟩ := hf
              refine z_get (ci := 7) (k := 6) M hH rfl (by decide) zinY q_513 (gA_spec e14) d_Y_need_64 ?_
              refine lv_iload_n M.x M.b d_Y_need_67 rfl (lv_at hl 2 rfl) ?_
              refine lv_iload_n M.x M.b d_Y_need_68 rfl (lv_at hl 3 rfl) ?_
              refine lv_iload_n M.x M.b d_Y_need_69 rfl (lv_at hl 4 rfl) ?_
              rcases r13 with _ | a15
              · exact absurd hf z_nb0
              replace hf := z_sb hf
              replace hf := z_bind2 hf; obtain ⟨i18, h19, e17, hf⟩ := hf
              refine zk_V (ci := 3) (st1 := [.int i18]) M hH hS (c_K_cheapestAsGood e17) rfl (o_K_cheapestAsGood e17) w_K_cheapestAsGood q_523 [] rfl ⟨Nat.le_of_ble_eq_true rfl, Nat.le_of_ble_eq_true rfl⟩ hl.1 rfl rfl (Nat.le_of_ble_eq_true rfl) d_Y_need_70 (fun H locs hH hS => ?_)
              refine lv_istore (lv' := [(6, .int i18), (5, .int i12), (0, .ref this), (1, .int x1), (2, .int x2), (3, .int x3), (4, .int x4)]) M.x M.b d_Y_need_73 hl (by decide) rfl (fun ls hl => ?_)
              refine lv_iload M.x M.b d_Y_need_75 (lv_at hl 0 rfl) ?_
              refine lv_iconst (v := (-1 : Int32)) M.x M.b d_Y_need_77 rfl ?_
              refine lv_icmp_ne (tgt := 85) M.x M.b d_Y_need_78 (by decide) (fun c29 => ?_) (fun c29 => ?_)
              · replace hf := z_f c29 hf
                refine lv_iload M.x M.b d_Y_need_85 (lv_at hl 6 rfl) ?_
                refine lv_iconst (v := (2 : Int32)) M.x M.b d_Y_need_87 rfl ?_
                refine lv_icmp_ne (tgt := 94) M.x M.b d_Y_need_88 (by decide) (fun c28 => ?_) (fun c28 => ?_)
                · replace hf := z_f c28 hf
                  refine lv_aload_n M.x M.b d_Y_need_94 rfl (lv_at hl 2 rfl) ?_
                  replace hf := z_bind hf; obtain ⟨r20, e21, hf⟩ := hf
                  refine z_get (ci := 7) (k := 0) M hH rfl (by decide) zinY q_419 (gA_spec e21) d_Y_need_95 ?_
                  refine lv_bipush (v := (31 : Int32)) M.x M.b d_Y_need_98 rfl ?_
                  refine lv_iload_n M.x M.b d_Y_need_100 rfl (lv_at hl 3 rfl) ?_
                  refine lv_iload_n M.x M.b d_Y_need_101 rfl (lv_at hl 5 rfl) ?_
                  refine lv_iload M.x M.b d_Y_need_102 (lv_at hl 0 rfl) ?_
                  rcases r20 with _ | a22
                  · exact absurd hf z_nb0
                  replace hf := z_sb hf
                  replace hf := z_bind hf; obtain ⟨i25, e24, hf⟩ := hf
                  refine zk_V (ci := 0) (st1 := [.int i25]) M hH hS (c_B_costOver e24) rfl (o_B_costOver e24) w_B_costOver q_432 [] rfl ⟨Nat.le_of_ble_eq_true rfl, Nat.le_of_ble_eq_true rfl⟩ hl.1 rfl rfl (Nat.le_of_ble_eq_true rfl) d_Y_need_104 (fun H locs hH hS => ?_)
                  refine lv_iload M.x M.b d_Y_need_107 (lv_at hl 1 rfl) ?_
                  refine lv_iload M.x M.b d_Y_need_109 (lv_at hl 6 rfl) ?_
                  replace hf := z_bind hf; obtain ⟨i27, e26, hf⟩ := hf
                  refine zk_S (st1 := [.int i27]) M hH hS (c_Y_inLeastTerms e26) w_Y_inLeastTerms q_522 [] rfl ⟨Nat.le_of_ble_eq_true rfl, Nat.le_of_ble_eq_true rfl⟩ hl.1 rfl rfl (Nat.le_of_ble_eq_true rfl) d_Y_need_111 (fun H locs hH hS => ?_)
                  obtain ⟨rfl, rfl⟩ := z_r2 hf
                  exact z_iret M hH hS d_Y_need_114
                · replace hf := z_t c28 hf
                  refine lv_iload M.x M.b d_Y_need_91 (lv_at hl 0 rfl) ?_
                  obtain ⟨rfl, rfl⟩ := z_r2 hf
                  exact z_iret M hH hS d_Y_need_93
              · replace hf := z_t c29 hf
                refine lv_sipush (v := (-1003 : Int32)) M.x M.b d_Y_need_81 rfl ?_
                obtain ⟨rfl, rfl⟩ := z_r2 hf
                exact z_iret M hH hS d_Y_need_84
            · replace hf := z_f c30 hf
              refine lv_sipush (v := (-1003 : Int32)) M.x M.b d_Y_need_59 rfl ?_
              obtain ⟨rfl, rfl⟩ := z_r2 hf
              exact z_iret M hH hS d_Y_need_62
          · replace hf := z_f c31 hf
            refine lv_sipush (v := (-1002 : Int32)) M.x M.b d_Y_need_36 rfl ?_
            obtain ⟨rfl, rfl⟩ := z_r2 hf
            exact z_iret M hH hS d_Y_need_39
      · replace hf := z_f c33 hf
        refine lv_sipush (v := (-1001 : Int32)) M.x M.b d_Y_need_21 rfl ?_
        obtain ⟨rfl, rfl⟩ := z_r2 hf
        exact z_iret M hH hS d_Y_need_24
def f_Y_part (this : Nat) (h : Hp) (x1 : Int32) (x2 : Int32) (x3 : Int32) (x4 : Int32) (x5 : Int32) : Option (Int32) :=
  if isO h this 7 = true then
  (f_Y_isNoWho x1).bind fun i2 =>
  if i2 = 0 then
    (f_Y_isNoGood x2).bind fun i4 =>
    if i4 = 0 then
      (f_Y_isNoYear x3).bind fun i6 =>
      if i6 = 0 then
        (f_Y_isNoYear x4).bind fun i8 =>
        if i8 = 0 then
          if x5 < 0 then
            some (-1002 : Int32)
          else
          if x5 ≤ (1 : Int32) then
            (gA h this 7 0).bind fun r9 =>
            (r9).bind fun a11 =>
            (f_B_costOver a11 h (31 : Int32) x1 x3 x3).bind fun i14 =>
            if 0 < i14 then
              (gA h this 7 0).bind fun r15 =>
              (r15).bind fun a17 =>
              (f_B_amountOf a17 h x1 x3 x2).bind fun i20 =>
              if i20 = 0 then
                some x5
              else
              (gA h this 7 0).bind fun r21 =>
              (r21).bind fun a23 =>
              (f_B_priceOf a23 h x3 x2).bind fun i26 =>
              (gA h this 7 0).bind fun r27 =>
              (r27).bind fun a29 =>
              (f_B_priceOf a29 h x4 x2).bind fun i32 =>
              if i26 = 0 then
                some (-1003 : Int32)
              else
              if i32 = 0 then
                some (-1003 : Int32)
              else
              (f_Y_inLeastTerms ((i32 - i26) * i20) i14 x5).bind fun i34 =>
              some i34
            else
            some (-1003 : Int32)
          else
          some (-1002 : Int32)
        else
        some (-1001 : Int32)
      else
      some (-1001 : Int32)
    else
    some (-1001 : Int32)
  else
  some (-1001 : Int32)
  else none
theorem o_Y_part {this : Nat} {h : Hp} {x1 : Int32} {x2 : Int32} {x3 : Int32} {x4 : Int32} {x5 : Int32} {r0 : Int32} (hf : f_Y_part this h x1 x2 x3 x4 x5 = some r0) : isO h this 7 = true := by
  unfold f_Y_part at hf
  exact (z_gd hf).1
set_option maxRecDepth 100000 in
set_option maxHeartbeats 4000000 in
theorem c_Y_part {l : Launch} {N0 : Nat} {D : va_G} {cs : Nat → ClassId} {this : Nat} {h : Hp} {x1 : Int32} {x2 : Int32} {x3 : Int32} {x4 : Int32} {x5 : Int32} {r0 : Int32} (hf : f_Y_part this h x1 x2 x3 x4 x5 = some r0) : Fn l N0 D cs y_Y_part b_Y_part 10 (some .int) 3 0 0 [.ref this, .int x1, .int x2, .int x3, .int x4, .int x5] h (some (.int r0)) h := by
  refine z_start (by decide) (Nat.le_of_ble_eq_true rfl) ?_
  intro p e s m args below meth c M hH hS ls hl
  unfold f_Y_part at hf
  obtain ⟨hO, hf⟩ := z_gd hf
  have hl : lv_has ls 10 [(0, .ref this), (1, .int x1), (2, .int x2), (3, .int x3), (4, .int x4), (5, .int x5)] := hl
  obtain ⟨H, hHe⟩ : ∃ H, H = s.heap := ⟨_, rfl⟩
  obtain ⟨locs, hLe⟩ : ∃ locs : List Loc, locs = [] := ⟨_, rfl⟩
  have hS : va_S (zA N0) s.heap H locs := by rw [hHe, hLe]; exact hS
  have hH : HH N0 D cs h H := by rw [hHe]; exact hH
  suffices hg : W p l e (zrm 3 0 0) s m args below meth c H locs 0 0 (MQ below (zQ N0 D cs (some (.int r0)) h) args s 0 0 (zA N0)) (F0 m 0 ls []) by rw [hHe, hLe] at hg; exact hg
  clear hHe hLe
  refine lv_iload_n M.x M.b d_Y_part_0 rfl (lv_at hl 1 rfl) ?_
  replace hf := z_bind hf; obtain ⟨i2, e1, hf⟩ := hf
  refine zk_S (st1 := [.int i2]) M hH hS (c_Y_isNoWho e1) w_Y_isNoWho q_433 [] rfl ⟨Nat.le_of_ble_eq_true rfl, Nat.le_of_ble_eq_true rfl⟩ hl.1 rfl rfl (Nat.le_of_ble_eq_true rfl) d_Y_part_1 (fun H locs hH hS => ?_)
  refine lv_if_ne (tgt := 29) M.x M.b d_Y_part_4 (by decide) (fun c44 => ?_) (fun c44 => ?_)
  · replace hf := z_f c44 hf
    refine lv_sipush (v := (-1001 : Int32)) M.x M.b d_Y_part_29 rfl ?_
    obtain rfl := z_r1 hf
    exact z_iret M hH hS d_Y_part_32
  · replace hf := z_t c44 hf
    refine lv_iload_n M.x M.b d_Y_part_7 rfl (lv_at hl 2 rfl) ?_
    replace hf := z_bind hf; obtain ⟨i4, e3, hf⟩ := hf
    refine zk_S (st1 := [.int i4]) M hH hS (c_Y_isNoGood e3) w_Y_isNoGood q_421 [] rfl ⟨Nat.le_of_ble_eq_true rfl, Nat.le_of_ble_eq_true rfl⟩ hl.1 rfl rfl (Nat.le_of_ble_eq_true rfl) d_Y_part_8 (fun H locs hH hS => ?_)
    refine lv_if_ne (tgt := 29) M.x M.b d_Y_part_11 (by decide) (fun c43 => ?_) (fun c43 => ?_)
    · replace hf := z_f c43 hf
      refine lv_sipush (v := (-1001 : Int32)) M.x M.b d_Y_part_29 rfl ?_
      obtain rfl := z_r1 hf
      exact z_iret M hH hS d_Y_part_32
    · replace hf := z_t c43 hf
      refine lv_iload_n M.x M.b d_Y_part_14 rfl (lv_at hl 3 rfl) ?_
      replace hf := z_bind hf; obtain ⟨i6, e5, hf⟩ := hf
      refine zk_S (st1 := [.int i6]) M hH hS (c_Y_isNoYear e5) w_Y_isNoYear q_422 [] rfl ⟨Nat.le_of_ble_eq_true rfl, Nat.le_of_ble_eq_true rfl⟩ hl.1 rfl rfl (Nat.le_of_ble_eq_true rfl) d_Y_part_15 (fun H locs hH hS => ?_)
      refine lv_if_ne (tgt := 29) M.x M.b d_Y_part_18 (by decide) (fun c42 => ?_) (fun c42 => ?_)
      · replace hf := z_f c42 hf
        refine lv_sipush (v := (-1001 : Int32)) M.x M.b d_Y_part_29 rfl ?_
        obtain rfl := z_r1 hf
        exact z_iret M hH hS d_Y_part_32
      · replace hf := z_t c42 hf
        refine lv_iload M.x M.b d_Y_part_21 (lv_at hl 4 rfl) ?_
        replace hf := z_bind hf; obtain ⟨i8, e7, hf⟩ := hf
        refine zk_S (st1 := [.int i8]) M hH hS (c_Y_isNoYear e7) w_Y_isNoYear q_422 [] rfl ⟨Nat.le_of_ble_eq_true rfl, Nat.le_of_ble_eq_true rfl⟩ hl.1 rfl rfl (Nat.le_of_ble_eq_true rfl) d_Y_part_23 (fun H locs hH hS => ?_)
        refine lv_if_eq (tgt := 33) M.x M.b d_Y_part_26 (by decide) (fun c41 => ?_) (fun c41 => ?_)
        · replace hf := z_t c41 hf
          refine lv_iload M.x M.b d_Y_part_33 (lv_at hl 5 rfl) ?_
          refine lv_if_lt (tgt := 44) M.x M.b d_Y_part_35 (by decide) (fun c40 => ?_) (fun c40 => ?_)
          · replace hf := z_t c40 hf
            refine lv_sipush (v := (-1002 : Int32)) M.x M.b d_Y_part_44 rfl ?_
            obtain rfl := z_r1 hf
            exact z_iret M hH hS d_Y_part_47
          · replace hf := z_f c40 hf
            refine lv_iload M.x M.b d_Y_part_38 (lv_at hl 5 rfl) ?_
            refine lv_iconst (v := (1 : Int32)) M.x M.b d_Y_part_40 rfl ?_
            refine lv_icmp_le (tgt := 48) M.x M.b d_Y_part_41 (by decide) (fun c39 => ?_) (fun c39 => ?_)
            · replace hf := z_t c39 hf
              refine lv_aload_n M.x M.b d_Y_part_48 rfl (lv_at hl 0 rfl) ?_
              replace hf := z_bind hf; obtain ⟨r9, e10, hf⟩ := hf
              refine z_get (ci := 7) (k := 0) M hH rfl (by decide) zinY q_419 (gA_spec e10) d_Y_part_49 ?_
              refine lv_bipush (v := (31 : Int32)) M.x M.b d_Y_part_52 rfl ?_
              refine lv_iload_n M.x M.b d_Y_part_54 rfl (lv_at hl 1 rfl) ?_
              refine lv_iload_n M.x M.b d_Y_part_55 rfl (lv_at hl 3 rfl) ?_
              refine lv_iload_n M.x M.b d_Y_part_56 rfl (lv_at hl 3 rfl) ?_
              rcases r9 with _ | a11
              · exact absurd hf z_nb0
              replace hf := z_sb hf
              replace hf := z_bind hf; obtain ⟨i14, e13, hf⟩ := hf
              refine zk_V (ci := 0) (st1 := [.int i14]) M hH hS (c_B_costOver e13) rfl (o_B_costOver e13) w_B_costOver q_432 [] rfl ⟨Nat.le_of_ble_eq_true rfl, Nat.le_of_ble_eq_true rfl⟩ hl.1 rfl rfl (Nat.le_of_ble_eq_true rfl) d_Y_part_57 (fun H locs hH hS => ?_)
              refine lv_istore (lv' := [(6, .int i14), (0, .ref this), (1, .int x1), (2, .int x2), (3, .int x3), (4, .int x4), (5, .int x5)]) M.x M.b d_Y_part_60 hl (by decide) rfl (fun ls hl => ?_)
              refine lv_iload M.x M.b d_Y_part_62 (lv_at hl 0 rfl) ?_
              refine lv_if_gt (tgt := 71) M.x M.b d_Y_part_64 (by decide) (fun c38 => ?_) (fun c38 => ?_)
              · replace hf := z_t c38 hf
                refine lv_aload_n M.x M.b d_Y_part_71 rfl (lv_at hl 1 rfl) ?_
                replace hf := z_bind hf; obtain ⟨r15, e16, hf⟩ := hf
                refine z_get (ci := 7) (k := 0) M hH rfl (by decide) zinY q_419 (gA_spec e16) d_Y_part_72 ?_
                refine lv_iload_n M.x M.b d_Y_part_75 rfl (lv_at hl 2 rfl) ?_
                refine lv_iload_n M.x M.b d_Y_part_76 rfl (lv_at hl 4 rfl) ?_
                refine lv_iload_n M.x M.b d_Y_part_77 rfl (lv_at hl 3 rfl) ?_
                rcases r15 with _ | a17
                · exact absurd hf z_nb0
                replace hf := z_sb hf
                replace hf := z_bind hf; obtain ⟨i20, e19, hf⟩ := hf
                refine zk_V (ci := 0) (st1 := [.int i20]) M hH hS (c_B_amountOf e19) rfl (o_B_amountOf e19) w_B_amountOf q_427 [] rfl ⟨Nat.le_of_ble_eq_true rfl, Nat.le_of_ble_eq_true rfl⟩ hl.1 rfl rfl (Nat.le_of_ble_eq_true rfl) d_Y_part_78 (fun H locs hH hS => ?_)
                refine lv_istore (lv' := [(7, .int i20), (6, .int i14), (0, .ref this), (1, .int x1), (2, .int x2), (3, .int x3), (4, .int x4), (5, .int x5)]) M.x M.b d_Y_part_81 hl (by decide) rfl (fun ls hl => ?_)
                refine lv_iload M.x M.b d_Y_part_83 (lv_at hl 0 rfl) ?_
                refine lv_if_ne (tgt := 91) M.x M.b d_Y_part_85 (by decide) (fun c37 => ?_) (fun c37 => ?_)
                · replace hf := z_f c37 hf
                  refine lv_aload_n M.x M.b d_Y_part_91 rfl (lv_at hl 2 rfl) ?_
                  replace hf := z_bind hf; obtain ⟨r21, e22, hf⟩ := hf
                  refine z_get (ci := 7) (k := 0) M hH rfl (by decide) zinY q_419 (gA_spec e22) d_Y_part_92 ?_
                  refine lv_iload_n M.x M.b d_Y_part_95 rfl (lv_at hl 5 rfl) ?_
                  refine lv_iload_n M.x M.b d_Y_part_96 rfl (lv_at hl 4 rfl) ?_
                  rcases r21 with _ | a23
                  · exact absurd hf z_nb0
                  replace hf := z_sb hf
                  replace hf := z_bind hf; obtain ⟨i26, e25, hf⟩ := hf
                  refine zk_V (ci := 0) (st1 := [.int i26]) M hH hS (c_B_priceOf e25) rfl (o_B_priceOf e25) w_B_priceOf q_420 [] rfl ⟨Nat.le_of_ble_eq_true rfl, Nat.le_of_ble_eq_true rfl⟩ hl.1 rfl rfl (Nat.le_of_ble_eq_true rfl) d_Y_part_97 (fun H locs hH hS => ?_)
                  refine lv_istore (lv' := [(8, .int i26), (7, .int i20), (6, .int i14), (0, .ref this), (1, .int x1), (2, .int x2), (3, .int x3), (4, .int x4), (5, .int x5)]) M.x M.b d_Y_part_100 hl (by decide) rfl (fun ls hl => ?_)
                  refine lv_aload_n M.x M.b d_Y_part_102 rfl (lv_at hl 3 rfl) ?_
                  replace hf := z_bind hf; obtain ⟨r27, e28, hf⟩ := hf
                  refine z_get (ci := 7) (k := 0) M hH rfl (by decide) zinY q_419 (gA_spec e28) d_Y_part_103 ?_
                  refine lv_iload M.x M.b d_Y_part_106 (lv_at hl 7 rfl) ?_
                  refine lv_iload_n M.x M.b d_Y_part_108 rfl (lv_at hl 5 rfl) ?_
                  rcases r27 with _ | a29
                  · exact absurd hf z_nb0
                  replace hf := z_sb hf
                  replace hf := z_bind hf; obtain ⟨i32, e31, hf⟩ := hf
                  refine zk_V (ci := 0) (st1 := [.int i32]) M hH hS (c_B_priceOf e31) rfl (o_B_priceOf e31) w_B_priceOf q_420 [] rfl ⟨Nat.le_of_ble_eq_true rfl, Nat.le_of_ble_eq_true rfl⟩ hl.1 rfl rfl (Nat.le_of_ble_eq_true rfl) d_Y_part_109 (fun H locs hH hS => ?_)
                  refine lv_istore (lv' := [(9, .int i32), (8, .int i26), (7, .int i20), (6, .int i14), (0, .ref this), (1, .int x1), (2, .int x2), (3, .int x3), (4, .int x4), (5, .int x5)]) M.x M.b d_Y_part_112 hl (by decide) rfl (fun ls hl => ?_)
                  refine lv_iload M.x M.b d_Y_part_114 (lv_at hl 1 rfl) ?_
                  refine lv_if_eq (tgt := 124) M.x M.b d_Y_part_116 (by decide) (fun c36 => ?_) (fun c36 => ?_)
                  · replace hf := z_t c36 hf
                    refine lv_sipush (v := (-1003 : Int32)) M.x M.b d_Y_part_124 rfl ?_
                    obtain rfl := z_r1 hf
                    exact z_iret M hH hS d_Y_part_127
                  · replace hf := z_f c36 hf
                    refine lv_iload M.x M.b d_Y_part_119 (lv_at hl 0 rfl) ?_
                    refine lv_if_ne (tgt := 128) M.x M.b d_Y_part_121 (by decide) (fun c35 => ?_) (fun c35 => ?_)
                    · replace hf := z_f c35 hf
                      refine lv_iload M.x M.b d_Y_part_128 (lv_at hl 0 rfl) ?_
                      refine lv_iload M.x M.b d_Y_part_130 (lv_at hl 1 rfl) ?_
                      refine lv_isub M.x M.b d_Y_part_132 ?_
                      refine lv_iload M.x M.b d_Y_part_133 (lv_at hl 2 rfl) ?_
                      refine lv_imul M.x M.b d_Y_part_135 ?_
                      refine lv_iload M.x M.b d_Y_part_136 (lv_at hl 3 rfl) ?_
                      refine lv_iload M.x M.b d_Y_part_138 (lv_at hl 9 rfl) ?_
                      replace hf := z_bind hf; obtain ⟨i34, e33, hf⟩ := hf
                      refine zk_S (st1 := [.int i34]) M hH hS (c_Y_inLeastTerms e33) w_Y_inLeastTerms q_522 [] rfl ⟨Nat.le_of_ble_eq_true rfl, Nat.le_of_ble_eq_true rfl⟩ hl.1 rfl rfl (Nat.le_of_ble_eq_true rfl) d_Y_part_140 (fun H locs hH hS => ?_)
                      obtain rfl := z_r1 hf
                      exact z_iret M hH hS d_Y_part_143
                    · replace hf := z_t c35 hf
                      refine lv_sipush (v := (-1003 : Int32)) M.x M.b d_Y_part_124 rfl ?_
                      obtain rfl := z_r1 hf
                      exact z_iret M hH hS d_Y_part_127
                · replace hf := z_t c37 hf
                  refine lv_iload M.x M.b d_Y_part_88 (lv_at hl 7 rfl) ?_
                  obtain rfl := z_r1 hf
                  exact z_iret M hH hS d_Y_part_90
              · replace hf := z_f c38 hf
                refine lv_sipush (v := (-1003 : Int32)) M.x M.b d_Y_part_67 rfl ?_
                obtain rfl := z_r1 hf
                exact z_iret M hH hS d_Y_part_70
            · replace hf := z_f c39 hf
              refine lv_sipush (v := (-1002 : Int32)) M.x M.b d_Y_part_44 rfl ?_
              obtain rfl := z_r1 hf
              exact z_iret M hH hS d_Y_part_47
        · replace hf := z_f c41 hf
          refine lv_sipush (v := (-1001 : Int32)) M.x M.b d_Y_part_29 rfl ?_
          obtain rfl := z_r1 hf
          exact z_iret M hH hS d_Y_part_32
def f_Y_wage_114 (this : Nat) (s0 : Int64) (h : Hp) : Option ((Int64 × Hp)) :=
  (gA h this 7 7).bind fun r1 =>
  (r1).bind fun a3 =>
  (gL h a3 1 0).bind fun l5 =>
  (f_F_exceeds s0 l5 (1000000000000000000 : Int64)).bind fun i8 =>
  if i8 = 0 then
    (gA h this 7 7).bind fun r9 =>
    (r9).bind fun a11 =>
    (gL h a11 1 1).bind fun l13 =>
    if (1 : Int64) ≤ l13 then
      (gA h this 7 7).bind fun r15 =>
      (r15).bind fun a17 =>
      (gL h a17 1 0).bind fun l19 =>
      (gA h this 7 7).bind fun r21 =>
      (r21).bind fun a23 =>
      (gL h a23 1 1).bind fun l25 =>
      if l25 = 0 then none else
      (gA h this 7 7).bind fun r27 =>
      (r27).bind fun a29 =>
      (gI h a29 1 2).bind fun i31 =>
      if i31 = 0 then
        some (((s0 * l19) / l25), h)
      else
      (f_Y_wholeRoot ((s0 * l19) / l25)).bind fun l34 =>
      some (l34, h)
    else
    some ((-1003 : Int64), h)
  else
  some ((-1005 : Int64), h)
set_option maxRecDepth 100000 in
set_option maxHeartbeats 4000000 in
theorem w_Y_wage_114 {p : Program} {l : Launch} {e : Env} {s : State} {m : MethodId} {args : Array Value} {below : List Frame} {meth : Method} {c : Code} {N0 : Nat} {D : va_G} {cs : Nat → ClassId} (M : ZC p s m args meth c "YearBaskets" "wage" b_Y_wage 10 (some .long) N0 D cs) (this : Nat)  {r0 : Int64} {h0 : Hp}  (s0 : Int64) (h : Hp) (hf : f_Y_wage_114 this s0 h = some (r0, h0)) : ZG p l e (zrm 34 0 0) s m args below meth c N0 D cs (some (.long r0)) h0 h 10 [(0, .ref this)] 114 [.long s0] := by
  intro H locs ls hH hS hl
  unfold f_Y_wage_114 at hf
  refine lv_lstore (lv' := [(6, .long s0), (0, .ref this)]) M.x M.b d_Y_wage_114 hl (by decide) rfl (fun ls hl => ?_)
  refine lv_lload M.x M.b d_Y_wage_116 (lv_at hl 0 rfl) ?_
  refine lv_aload_n M.x M.b d_Y_wage_118 rfl (lv_at hl 1 rfl) ?_
  replace hf := z_bind hf; obtain ⟨r1, e2, hf⟩ := hf
  refine z_get (ci := 7) (k := 7) M hH rfl (by decide) zinY q_475 (gA_spec e2) d_Y_wage_119 ?_
  rcases r1 with _ | a3
  · exact absurd hf z_nb0
  replace hf := z_sb hf
  replace hf := z_bind hf; obtain ⟨l5, e6, hf⟩ := hf
  refine z_getN (ci := 1) (k := 0) M hH rfl (by decide) zinF q_476 (gL_spec e6) d_Y_wage_122 ?_
  refine z_ldc2 (v := (1000000000000000000 : Int64)) M q_530 d_Y_wage_125 ?_
  replace hf := z_bind hf; obtain ⟨i8, e7, hf⟩ := hf
  refine zk_S (st1 := [.int i8]) M hH hS (c_F_exceeds e7) w_F_exceeds q_533 [] rfl ⟨Nat.le_of_ble_eq_true rfl, Nat.le_of_ble_eq_true rfl⟩ hl.1 rfl rfl (Nat.le_of_ble_eq_true rfl) d_Y_wage_128 (fun H locs hH hS => ?_)
  refine lv_if_eq (tgt := 138) M.x M.b d_Y_wage_131 (by decide) (fun c38 => ?_) (fun c38 => ?_)
  · replace hf := z_t c38 hf
    refine lv_aload_n M.x M.b d_Y_wage_138 rfl (lv_at hl 1 rfl) ?_
    replace hf := z_bind hf; obtain ⟨r9, e10, hf⟩ := hf
    refine z_get (ci := 7) (k := 7) M hH rfl (by decide) zinY q_475 (gA_spec e10) d_Y_wage_139 ?_
    rcases r9 with _ | a11
    · exact absurd hf z_nb0
    replace hf := z_sb hf
    replace hf := z_bind hf; obtain ⟨l13, e14, hf⟩ := hf
    refine z_getN (ci := 1) (k := 1) M hH rfl (by decide) zinF q_474 (gL_spec e14) d_Y_wage_142 ?_
    refine lv_lconst (v := (1 : Int64)) M.x M.b d_Y_wage_145 rfl ?_
    refine z_lcmp_ge (tgt := 154) M d_Y_wage_146 d_Y_wage_147 (by decide) (fun c37 => ?_) (fun c37 => ?_)
    · replace hf := z_t c37 hf
      refine lv_lload M.x M.b d_Y_wage_154 (lv_at hl 0 rfl) ?_
      refine lv_aload_n M.x M.b d_Y_wage_156 rfl (lv_at hl 1 rfl) ?_
      replace hf := z_bind hf; obtain ⟨r15, e16, hf⟩ := hf
      refine z_get (ci := 7) (k := 7) M hH rfl (by decide) zinY q_475 (gA_spec e16) d_Y_wage_157 ?_
      rcases r15 with _ | a17
      · exact absurd hf z_nb0
      replace hf := z_sb hf
      replace hf := z_bind hf; obtain ⟨l19, e20, hf⟩ := hf
      refine z_getN (ci := 1) (k := 0) M hH rfl (by decide) zinF q_476 (gL_spec e20) d_Y_wage_160 ?_
      refine lv_lmul M.x M.b d_Y_wage_163 ?_
      refine lv_aload_n M.x M.b d_Y_wage_164 rfl (lv_at hl 1 rfl) ?_
      replace hf := z_bind hf; obtain ⟨r21, e22, hf⟩ := hf
      refine z_get (ci := 7) (k := 7) M hH rfl (by decide) zinY q_475 (gA_spec e22) d_Y_wage_165 ?_
      rcases r21 with _ | a23
      · exact absurd hf z_nb0
      replace hf := z_sb hf
      replace hf := z_bind hf; obtain ⟨l25, e26, hf⟩ := hf
      refine z_getN (ci := 1) (k := 1) M hH rfl (by decide) zinF q_474 (gL_spec e26) d_Y_wage_168 ?_
      replace hf := z_gn hf; obtain ⟨c36, hf⟩ := hf
      refine lv_ldiv M.x M.b d_Y_wage_171 c36 ?_
      refine lv_lstore (lv' := [(8, .long ((s0 * l19) / l25)), (6, .long s0), (0, .ref this)]) M.x M.b d_Y_wage_172 hl (by decide) rfl (fun ls hl => ?_)
      refine lv_aload_n M.x M.b d_Y_wage_174 rfl (lv_at hl 2 rfl) ?_
      replace hf := z_bind hf; obtain ⟨r27, e28, hf⟩ := hf
      refine z_get (ci := 7) (k := 7) M hH rfl (by decide) zinY q_475 (gA_spec e28) d_Y_wage_175 ?_
      rcases r27 with _ | a29
      · exact absurd hf z_nb0
      replace hf := z_sb hf
      replace hf := z_bind hf; obtain ⟨i31, e32, hf⟩ := hf
      refine z_getN (ci := 1) (k := 2) M hH rfl (by decide) zinF q_477 (gI_spec e32) d_Y_wage_178 ?_
      refine lv_if_eq (tgt := 192) M.x M.b d_Y_wage_181 (by decide) (fun c35 => ?_) (fun c35 => ?_)
      · replace hf := z_t c35 hf
        refine lv_lload M.x M.b d_Y_wage_192 (lv_at hl 0 rfl) ?_
        obtain ⟨rfl, rfl⟩ := z_r2 hf
        exact z_lret M hH hS d_Y_wage_194
      · replace hf := z_f c35 hf
        refine lv_lload M.x M.b d_Y_wage_184 (lv_at hl 0 rfl) ?_
        replace hf := z_bind hf; obtain ⟨l34, e33, hf⟩ := hf
        refine zk_S (st1 := [.long l34]) M hH hS (c_Y_wholeRoot e33) w_Y_wholeRoot q_531 [] rfl ⟨Nat.le_of_ble_eq_true rfl, Nat.le_of_ble_eq_true rfl⟩ hl.1 rfl rfl (Nat.le_of_ble_eq_true rfl) d_Y_wage_186 (fun H locs hH hS => ?_)
        refine lv_goto (tgt := 194) M.x M.b d_Y_wage_189 (by decide) ?_
        obtain ⟨rfl, rfl⟩ := z_r2 hf
        exact z_lret M hH hS d_Y_wage_194
    · replace hf := z_f c37 hf
      refine z_ldc2 (v := (-1003 : Int64)) M q_505 d_Y_wage_150 ?_
      obtain ⟨rfl, rfl⟩ := z_r2 hf
      exact z_lret M hH hS d_Y_wage_153
  · replace hf := z_f c38 hf
    refine z_ldc2 (v := (-1005 : Int64)) M q_532 d_Y_wage_134 ?_
    obtain ⟨rfl, rfl⟩ := z_r2 hf
    exact z_lret M hH hS d_Y_wage_137
def f_Y_wage (this : Nat) (x1 : Int32) (x2 : Int32) (x3 : Int32) (x4 : Int32) (x5 : Int32) (h : Hp) : Option ((Int64 × Hp)) :=
  if isO h this 7 = true then
  (f_Y_isNoNumber this h x1).bind fun i40 =>
  if i40 = 0 then
    (f_Y_isNoWho x2).bind fun i42 =>
    if i42 = 0 then
      (f_Y_isNoYear x4).bind fun i44 =>
      if i44 = 0 then
        (f_Y_isNoYear x5).bind fun i46 =>
        if i46 = 0 then
          if x3 < (1 : Int32) then
            some ((-1002 : Int64), h)
          else
          if x3 ≤ (99999 : Int32) then
            (gA h this 7 4).bind fun r47 =>
            (r47).bind fun a49 =>
            (f_Y_planOf this h x1).bind fun r52 =>
            (gA h this 7 0).bind fun r53 =>
            (gA h this 7 7).bind fun r55 =>
            (r52).bind fun a57 =>
            (r53).bind fun a59 =>
            (r55).bind fun a61 =>
            (f_T_tell a49 a57 a59 x2 x4 x5 a61 h).bind fun h64 =>
            (gA h64 this 7 7).bind fun r65 =>
            (r65).bind fun a67 =>
            (gI h64 a67 1 3).bind fun i69 =>
            if i69 = 0 then
              (gA h64 this 7 7).bind fun r71 =>
              (r71).bind fun a73 =>
              (gI h64 a73 1 2).bind fun i75 =>
              if i75 = 0 then
                f_Y_wage_114 this (x3).toInt64 h64
              else
              f_Y_wage_114 this ((x3).toInt64 * (x3).toInt64) h64
            else
            (gA h64 this 7 7).bind fun r78 =>
            (r78).bind fun a80 =>
            (gI h64 a80 1 3).bind fun i82 =>
            some ((i82).toInt64, h64)
          else
          some ((-1002 : Int64), h)
        else
        some ((-1001 : Int64), h)
      else
      some ((-1001 : Int64), h)
    else
    some ((-1001 : Int64), h)
  else
  some ((-1001 : Int64), h)
  else none
theorem o_Y_wage {this : Nat} {x1 : Int32} {x2 : Int32} {x3 : Int32} {x4 : Int32} {x5 : Int32} {h : Hp} {r0 : Int64} {h0 : Hp} (hf : f_Y_wage this x1 x2 x3 x4 x5 h = some (r0, h0)) : isO h this 7 = true := by
  unfold f_Y_wage at hf
  exact (z_gd hf).1
set_option maxRecDepth 100000 in
set_option maxHeartbeats 4000000 in
theorem c_Y_wage {l : Launch} {N0 : Nat} {D : va_G} {cs : Nat → ClassId} {this : Nat} {x1 : Int32} {x2 : Int32} {x3 : Int32} {x4 : Int32} {x5 : Int32} {h : Hp} {r0 : Int64} {h0 : Hp} (hf : f_Y_wage this x1 x2 x3 x4 x5 h = some (r0, h0)) : Fn l N0 D cs y_Y_wage b_Y_wage 10 (some .long) 34 0 0 [.ref this, .int x1, .int x2, .int x3, .int x4, .int x5] h (some (.long r0)) h0 := by
  refine z_start (by decide) (Nat.le_of_ble_eq_true rfl) ?_
  intro p e s m args below meth c M hH hS ls hl
  unfold f_Y_wage at hf
  obtain ⟨hO, hf⟩ := z_gd hf
  have hl : lv_has ls 10 [(0, .ref this), (1, .int x1), (2, .int x2), (3, .int x3), (4, .int x4), (5, .int x5)] := hl
  obtain ⟨H, hHe⟩ : ∃ H, H = s.heap := ⟨_, rfl⟩
  obtain ⟨locs, hLe⟩ : ∃ locs : List Loc, locs = [] := ⟨_, rfl⟩
  have hS : va_S (zA N0) s.heap H locs := by rw [hHe, hLe]; exact hS
  have hH : HH N0 D cs h H := by rw [hHe]; exact hH
  suffices hg : W p l e (zrm 34 0 0) s m args below meth c H locs 0 0 (MQ below (zQ N0 D cs (some (.long r0)) h0) args s 0 0 (zA N0)) (F0 m 0 ls []) by rw [hHe, hLe] at hg; exact hg
  clear hHe hLe
  refine lv_aload_n M.x M.b d_Y_wage_0 rfl (lv_at hl 0 rfl) ?_
  refine lv_iload_n M.x M.b d_Y_wage_1 rfl (lv_at hl 1 rfl) ?_
  replace hf := z_bind hf; obtain ⟨i40, e39, hf⟩ := hf
  refine zk_V (ci := 7) (st1 := [.int i40]) M hH hS (c_Y_isNoNumber e39) rfl (o_Y_isNoNumber e39) w_Y_isNoNumber q_482 [] rfl ⟨Nat.le_of_ble_eq_true rfl, Nat.le_of_ble_eq_true rfl⟩ hl.1 rfl rfl (Nat.le_of_ble_eq_true rfl) d_Y_wage_2 (fun H locs hH hS => ?_)
  refine lv_if_ne (tgt := 31) M.x M.b d_Y_wage_5 (by decide) (fun c90 => ?_) (fun c90 => ?_)
  · replace hf := z_f c90 hf
    refine z_ldc2 (v := (-1001 : Int64)) M q_472 d_Y_wage_31 ?_
    obtain ⟨rfl, rfl⟩ := z_r2 hf
    exact z_lret M hH hS d_Y_wage_34
  · replace hf := z_t c90 hf
    refine lv_iload_n M.x M.b d_Y_wage_8 rfl (lv_at hl 2 rfl) ?_
    replace hf := z_bind hf; obtain ⟨i42, e41, hf⟩ := hf
    refine zk_S (st1 := [.int i42]) M hH hS (c_Y_isNoWho e41) w_Y_isNoWho q_433 [] rfl ⟨Nat.le_of_ble_eq_true rfl, Nat.le_of_ble_eq_true rfl⟩ hl.1 rfl rfl (Nat.le_of_ble_eq_true rfl) d_Y_wage_9 (fun H locs hH hS => ?_)
    refine lv_if_ne (tgt := 31) M.x M.b d_Y_wage_12 (by decide) (fun c89 => ?_) (fun c89 => ?_)
    · replace hf := z_f c89 hf
      refine z_ldc2 (v := (-1001 : Int64)) M q_472 d_Y_wage_31 ?_
      obtain ⟨rfl, rfl⟩ := z_r2 hf
      exact z_lret M hH hS d_Y_wage_34
    · replace hf := z_t c89 hf
      refine lv_iload M.x M.b d_Y_wage_15 (lv_at hl 4 rfl) ?_
      replace hf := z_bind hf; obtain ⟨i44, e43, hf⟩ := hf
      refine zk_S (st1 := [.int i44]) M hH hS (c_Y_isNoYear e43) w_Y_isNoYear q_422 [] rfl ⟨Nat.le_of_ble_eq_true rfl, Nat.le_of_ble_eq_true rfl⟩ hl.1 rfl rfl (Nat.le_of_ble_eq_true rfl) d_Y_wage_17 (fun H locs hH hS => ?_)
      refine lv_if_ne (tgt := 31) M.x M.b d_Y_wage_20 (by decide) (fun c88 => ?_) (fun c88 => ?_)
      · replace hf := z_f c88 hf
        refine z_ldc2 (v := (-1001 : Int64)) M q_472 d_Y_wage_31 ?_
        obtain ⟨rfl, rfl⟩ := z_r2 hf
        exact z_lret M hH hS d_Y_wage_34
      · replace hf := z_t c88 hf
        refine lv_iload M.x M.b d_Y_wage_23 (lv_at hl 5 rfl) ?_
        replace hf := z_bind hf; obtain ⟨i46, e45, hf⟩ := hf
        refine zk_S (st1 := [.int i46]) M hH hS (c_Y_isNoYear e45) w_Y_isNoYear q_422 [] rfl ⟨Nat.le_of_ble_eq_true rfl, Nat.le_of_ble_eq_true rfl⟩ hl.1 rfl rfl (Nat.le_of_ble_eq_true rfl) d_Y_wage_25 (fun H locs hH hS => ?_)
        refine lv_if_eq (tgt := 35) M.x M.b d_Y_wage_28 (by decide) (fun c87 => ?_) (fun c87 => ?_)
        · replace hf := z_t c87 hf
          refine lv_iload_n M.x M.b d_Y_wage_35 rfl (lv_at hl 3 rfl) ?_
          refine lv_iconst (v := (1 : Int32)) M.x M.b d_Y_wage_36 rfl ?_
          refine lv_icmp_lt (tgt := 46) M.x M.b d_Y_wage_37 (by decide) (fun c86 => ?_) (fun c86 => ?_)
          · replace hf := z_t c86 hf
            refine z_ldc2 (v := (-1002 : Int64)) M q_473 d_Y_wage_46 ?_
            obtain ⟨rfl, rfl⟩ := z_r2 hf
            exact z_lret M hH hS d_Y_wage_49
          · replace hf := z_f c86 hf
            refine lv_iload_n M.x M.b d_Y_wage_40 rfl (lv_at hl 3 rfl) ?_
            refine z_ldc (v := (99999 : Int32)) M q_534 d_Y_wage_41 ?_
            refine lv_icmp_le (tgt := 50) M.x M.b d_Y_wage_43 (by decide) (fun c85 => ?_) (fun c85 => ?_)
            · replace hf := z_t c85 hf
              refine lv_aload_n M.x M.b d_Y_wage_50 rfl (lv_at hl 0 rfl) ?_
              replace hf := z_bind hf; obtain ⟨r47, e48, hf⟩ := hf
              refine z_get (ci := 7) (k := 4) M hH rfl (by decide) zinY q_481 (gA_spec e48) d_Y_wage_51 ?_
              refine lv_aload_n M.x M.b d_Y_wage_54 rfl (lv_at hl 0 rfl) ?_
              refine lv_iload_n M.x M.b d_Y_wage_55 rfl (lv_at hl 1 rfl) ?_
              rcases r47 with _ | a49
              · exact absurd hf z_nb0
              replace hf := z_sb hf
              replace hf := z_bind hf; obtain ⟨r52, e51, hf⟩ := hf
              refine zk_V (ci := 7) (st1 := [va_rf r52, .ref a49]) M hH hS (c_Y_planOf e51) rfl (o_Y_planOf e51) w_Y_planOf q_480 [.ref a49] rfl ⟨Nat.le_of_ble_eq_true rfl, Nat.le_of_ble_eq_true rfl⟩ hl.1 rfl rfl (Nat.le_of_ble_eq_true rfl) d_Y_wage_56 (fun H locs hH hS => ?_)
              refine lv_aload_n M.x M.b d_Y_wage_59 rfl (lv_at hl 0 rfl) ?_
              replace hf := z_bind hf; obtain ⟨r53, e54, hf⟩ := hf
              refine z_get (ci := 7) (k := 0) M hH rfl (by decide) zinY q_419 (gA_spec e54) d_Y_wage_60 ?_
              refine lv_iload_n M.x M.b d_Y_wage_63 rfl (lv_at hl 2 rfl) ?_
              refine lv_iload M.x M.b d_Y_wage_64 (lv_at hl 4 rfl) ?_
              refine lv_iload M.x M.b d_Y_wage_66 (lv_at hl 5 rfl) ?_
              refine lv_aload_n M.x M.b d_Y_wage_68 rfl (lv_at hl 0 rfl) ?_
              replace hf := z_bind hf; obtain ⟨r55, e56, hf⟩ := hf
              refine z_get (ci := 7) (k := 7) M hH rfl (by decide) zinY q_475 (gA_spec e56) d_Y_wage_69 ?_
              rcases r52 with _ | a57
              · exact absurd hf z_nb0
              replace hf := z_sb hf
              rcases r53 with _ | a59
              · exact absurd hf z_nb0
              replace hf := z_sb hf
              rcases r55 with _ | a61
              · exact absurd hf z_nb0
              replace hf := z_sb hf
              replace hf := z_bind hf; obtain ⟨h64, e63, hf⟩ := hf
              refine zk_V (ci := 6) (st1 := []) M hH hS (c_T_tell e63) rfl (o_T_tell e63) w_T_tell q_479 [] rfl ⟨Nat.le_of_ble_eq_true rfl, Nat.le_of_ble_eq_true rfl⟩ hl.1 rfl rfl (Nat.le_of_ble_eq_true rfl) d_Y_wage_72 (fun H locs hH hS => ?_)
              refine lv_aload_n M.x M.b d_Y_wage_75 rfl (lv_at hl 0 rfl) ?_
              replace hf := z_bind hf; obtain ⟨r65, e66, hf⟩ := hf
              refine z_get (ci := 7) (k := 7) M hH rfl (by decide) zinY q_475 (gA_spec e66) d_Y_wage_76 ?_
              rcases r65 with _ | a67
              · exact absurd hf z_nb0
              replace hf := z_sb hf
              replace hf := z_bind hf; obtain ⟨i69, e70, hf⟩ := hf
              refine z_getN (ci := 1) (k := 3) M hH rfl (by decide) zinF q_478 (gI_spec e70) d_Y_wage_79 ?_
              refine lv_if_eq (tgt := 94) M.x M.b d_Y_wage_82 (by decide) (fun c84 => ?_) (fun c84 => ?_)
              · replace hf := z_t c84 hf
                refine lv_aload_n M.x M.b d_Y_wage_94 rfl (lv_at hl 0 rfl) ?_
                replace hf := z_bind hf; obtain ⟨r71, e72, hf⟩ := hf
                refine z_get (ci := 7) (k := 7) M hH rfl (by decide) zinY q_475 (gA_spec e72) d_Y_wage_95 ?_
                rcases r71 with _ | a73
                · exact absurd hf z_nb0
                replace hf := z_sb hf
                replace hf := z_bind hf; obtain ⟨i75, e76, hf⟩ := hf
                refine z_getN (ci := 1) (k := 2) M hH rfl (by decide) zinF q_477 (gI_spec e76) d_Y_wage_98 ?_
                refine lv_if_eq (tgt := 112) M.x M.b d_Y_wage_101 (by decide) (fun c77 => ?_) (fun c77 => ?_)
                · replace hf := z_t c77 hf
                  refine lv_iload_n M.x M.b d_Y_wage_112 rfl (lv_at hl 3 rfl) ?_
                  refine lv_i2l M.x M.b d_Y_wage_113 rfl ?_
                  exact w_Y_wage_114 M this _ _ hf H locs ls hH hS (lv_sub hl [0] rfl)
                · replace hf := z_f c77 hf
                  refine lv_iload_n M.x M.b d_Y_wage_104 rfl (lv_at hl 3 rfl) ?_
                  refine lv_i2l M.x M.b d_Y_wage_105 rfl ?_
                  refine lv_iload_n M.x M.b d_Y_wage_106 rfl (lv_at hl 3 rfl) ?_
                  refine lv_i2l M.x M.b d_Y_wage_107 rfl ?_
                  refine lv_lmul M.x M.b d_Y_wage_108 ?_
                  refine lv_goto (tgt := 114) M.x M.b d_Y_wage_109 (by decide) ?_
                  exact w_Y_wage_114 M this _ _ hf H locs ls hH hS (lv_sub hl [0] rfl)
              · replace hf := z_f c84 hf
                refine lv_aload_n M.x M.b d_Y_wage_85 rfl (lv_at hl 0 rfl) ?_
                replace hf := z_bind hf; obtain ⟨r78, e79, hf⟩ := hf
                refine z_get (ci := 7) (k := 7) M hH rfl (by decide) zinY q_475 (gA_spec e79) d_Y_wage_86 ?_
                rcases r78 with _ | a80
                · exact absurd hf z_nb0
                replace hf := z_sb hf
                replace hf := z_bind hf; obtain ⟨i82, e83, hf⟩ := hf
                refine z_getN (ci := 1) (k := 3) M hH rfl (by decide) zinF q_478 (gI_spec e83) d_Y_wage_89 ?_
                refine lv_i2l M.x M.b d_Y_wage_92 rfl ?_
                obtain ⟨rfl, rfl⟩ := z_r2 hf
                exact z_lret M hH hS d_Y_wage_93
            · replace hf := z_f c85 hf
              refine z_ldc2 (v := (-1002 : Int64)) M q_473 d_Y_wage_46 ?_
              obtain ⟨rfl, rfl⟩ := z_r2 hf
              exact z_lret M hH hS d_Y_wage_49
        · replace hf := z_f c87 hf
          refine z_ldc2 (v := (-1001 : Int64)) M q_472 d_Y_wage_31 ?_
          obtain ⟨rfl, rfl⟩ := z_r2 hf
          exact z_lret M hH hS d_Y_wage_34
def f_Y_dearest_111 (this : Nat) (k32 : Int32 → Int32 → Int32 → Int32 → Int32 → Hp → Option ((Int32 × Hp))) (x1 : Int32) (x2 : Int32) (x3 : Int32) (x4 : Int32) (x5 : Int32) (h : Hp) : Option ((Int32 × Hp)) :=
  k32 x1 x2 x3 x4 (x5 + (1 : Int32)) h
set_option maxRecDepth 100000 in
set_option maxHeartbeats 4000000 in
theorem w_Y_dearest_111 {p : Program} {l : Launch} {e : Env} {s : State} {m : MethodId} {args : Array Value} {below : List Frame} {meth : Method} {c : Code} {N0 : Nat} {D : va_G} {cs : Nat → ClassId} (M : ZC p s m args meth c "YearBaskets" "dearest" b_Y_dearest 6 (some .int) N0 D cs) (this : Nat) (k32 : Int32 → Int32 → Int32 → Int32 → Int32 → Hp → Option ((Int32 × Hp))) {r0 : Int32} {h0 : Hp} (hk32 : ∀ (x1 : Int32) (x2 : Int32) (x3 : Int32) (x4 : Int32) (x5 : Int32) (h : Hp), k32 x1 x2 x3 x4 x5 h = some (r0, h0) → ZG p l e (zrm 34 0 0) s m args below meth c N0 D cs (some (.int r0)) h0 h 6 [(0, .ref this), (1, .int x1), (2, .int x2), (3, .int x3), (4, .int x4), (5, .int x5)] 32 []) (x1 : Int32) (x2 : Int32) (x3 : Int32) (x4 : Int32) (x5 : Int32) (h : Hp) (hf : f_Y_dearest_111 this k32 x1 x2 x3 x4 x5 h = some (r0, h0)) : ZG p l e (zrm 34 0 0) s m args below meth c N0 D cs (some (.int r0)) h0 h 6 [(0, .ref this), (1, .int x1), (2, .int x2), (3, .int x3), (4, .int x4), (5, .int x5)] 111 [] := by
  intro H locs ls hH hS hl
  unfold f_Y_dearest_111 at hf
  refine lv_iinc (v := (x5 + (1 : Int32))) (lv' := [(5, .int (x5 + (1 : Int32))), (0, .ref this), (1, .int x1), (2, .int x2), (3, .int x3), (4, .int x4)]) M.x M.b d_Y_dearest_111 hl (k := 5) rfl rfl (by decide) rfl (fun ls hl => ?_)
  refine lv_goto (tgt := 32) M.x M.b d_Y_dearest_114 (by decide) ?_
  exact hk32 _ _ _ _ _ _ hf H locs ls hH hS (lv_sub hl [1, 2, 3, 4, 5, 0] rfl)
def f_Y_dearest_96 (this : Nat) (k32 : Int32 → Int32 → Int32 → Int32 → Int32 → Hp → Option ((Int32 × Hp))) (x1 : Int32) (x2 : Int32) (x3 : Int32) (x5 : Int32) (h : Hp) : Option ((Int32 × Hp)) :=
  (gA h this 7 7).bind fun r1 =>
  (gA h this 7 8).bind fun r3 =>
  (r3).bind fun a5 =>
  (r1).bind fun a7 =>
  (f_F_take a7 a5 h).bind fun h10 =>
  f_Y_dearest_111 this k32 x1 x2 x3 x5 x5 h10
set_option maxRecDepth 100000 in
set_option maxHeartbeats 4000000 in
theorem w_Y_dearest_96 {p : Program} {l : Launch} {e : Env} {s : State} {m : MethodId} {args : Array Value} {below : List Frame} {meth : Method} {c : Code} {N0 : Nat} {D : va_G} {cs : Nat → ClassId} (M : ZC p s m args meth c "YearBaskets" "dearest" b_Y_dearest 6 (some .int) N0 D cs) (this : Nat) (k32 : Int32 → Int32 → Int32 → Int32 → Int32 → Hp → Option ((Int32 × Hp))) {r0 : Int32} {h0 : Hp} (hk32 : ∀ (x1 : Int32) (x2 : Int32) (x3 : Int32) (x4 : Int32) (x5 : Int32) (h : Hp), k32 x1 x2 x3 x4 x5 h = some (r0, h0) → ZG p l e (zrm 34 0 0) s m args below meth c N0 D cs (some (.int r0)) h0 h 6 [(0, .ref this), (1, .int x1), (2, .int x2), (3, .int x3), (4, .int x4), (5, .int x5)] 32 []) (x1 : Int32) (x2 : Int32) (x3 : Int32) (x5 : Int32) (h : Hp) (hf : f_Y_dearest_96 this k32 x1 x2 x3 x5 h = some (r0, h0)) : ZG p l e (zrm 34 0 0) s m args below meth c N0 D cs (some (.int r0)) h0 h 6 [(0, .ref this), (1, .int x1), (2, .int x2), (3, .int x3), (5, .int x5)] 96 [] := by
  intro H locs ls hH hS hl
  unfold f_Y_dearest_96 at hf
  refine lv_aload_n M.x M.b d_Y_dearest_96 rfl (lv_at hl 0 rfl) ?_
  replace hf := z_bind hf; obtain ⟨r1, e2, hf⟩ := hf
  refine z_get (ci := 7) (k := 7) M hH rfl (by decide) zinY q_475 (gA_spec e2) d_Y_dearest_97 ?_
  refine lv_aload_n M.x M.b d_Y_dearest_100 rfl (lv_at hl 0 rfl) ?_
  replace hf := z_bind hf; obtain ⟨r3, e4, hf⟩ := hf
  refine z_get (ci := 7) (k := 8) M hH rfl (by decide) zinY q_487 (gA_spec e4) d_Y_dearest_101 ?_
  rcases r3 with _ | a5
  · exact absurd hf z_nb0
  replace hf := z_sb hf
  rcases r1 with _ | a7
  · exact absurd hf z_nb0
  replace hf := z_sb hf
  replace hf := z_bind hf; obtain ⟨h10, e9, hf⟩ := hf
  refine zk_V (ci := 1) (st1 := []) M hH hS (c_F_take e9) rfl (o_F_take e9) w_F_take q_538 [] rfl ⟨Nat.le_of_ble_eq_true rfl, Nat.le_of_ble_eq_true rfl⟩ hl.1 rfl rfl (Nat.le_of_ble_eq_true rfl) d_Y_dearest_104 (fun H locs hH hS => ?_)
  refine lv_iload M.x M.b d_Y_dearest_107 (lv_at hl 4 rfl) ?_
  refine lv_istore (lv' := [(4, .int x5), (0, .ref this), (1, .int x1), (2, .int x2), (3, .int x3), (5, .int x5)]) M.x M.b d_Y_dearest_109 hl (by decide) rfl (fun ls hl => ?_)
  exact w_Y_dearest_111 M this k32 hk32 _ _ _ _ _ _ hf H locs ls hH hS (lv_sub hl [1, 2, 3, 4, 0, 5] rfl)
def t_Y_dearest_32 (this : Nat) (k32 : Int32 → Int32 → Int32 → Int32 → Int32 → Hp → Option ((Int32 × Hp))) (x1 : Int32) (x2 : Int32) (x3 : Int32) (x4 : Int32) (x5 : Int32) (h : Hp) : Option ((Int32 × Hp)) :=
  if (3 : Int32) ≤ x5 then
    some (x4, h)
  else
  (gA h this 7 4).bind fun r11 =>
  (r11).bind fun a13 =>
  (f_Y_planOf this h x1).bind fun r16 =>
  (gA h this 7 0).bind fun r17 =>
  (gA h this 7 8).bind fun r19 =>
  (r16).bind fun a21 =>
  (r17).bind fun a23 =>
  (r19).bind fun a25 =>
  (f_T_tell a13 a21 a23 x5 x2 x3 a25 h).bind fun h28 =>
  (gA h28 this 7 8).bind fun r29 =>
  (r29).bind fun a31 =>
  (gI h28 a31 1 3).bind fun i33 =>
  if i33 = 0 then
    if x4 = (-1 : Int32) then
      f_Y_dearest_96 this k32 x1 x2 x3 x5 h28
    else
    (gA h28 this 7 8).bind fun r35 =>
    (gA h28 this 7 7).bind fun r37 =>
    (r35).bind fun a39 =>
    (r37).bind fun a41 =>
    (f_F_orderOf h28 a39 a41).bind fun i44 =>
    if i44 = (1 : Int32) then
      f_Y_dearest_96 this k32 x1 x2 x3 x5 h28
    else
    f_Y_dearest_111 this k32 x1 x2 x3 x4 x5 h28
  else
  f_Y_dearest_111 this k32 x1 x2 x3 x4 x5 h28
set_option maxRecDepth 100000 in
set_option maxHeartbeats 4000000 in
theorem v_Y_dearest_32 {p : Program} {l : Launch} {e : Env} {s : State} {m : MethodId} {args : Array Value} {below : List Frame} {meth : Method} {c : Code} {N0 : Nat} {D : va_G} {cs : Nat → ClassId} (M : ZC p s m args meth c "YearBaskets" "dearest" b_Y_dearest 6 (some .int) N0 D cs) (this : Nat) (k32 : Int32 → Int32 → Int32 → Int32 → Int32 → Hp → Option ((Int32 × Hp))) {r0 : Int32} {h0 : Hp} (hk32 : ∀ (x1 : Int32) (x2 : Int32) (x3 : Int32) (x4 : Int32) (x5 : Int32) (h : Hp), k32 x1 x2 x3 x4 x5 h = some (r0, h0) → ZG p l e (zrm 34 0 0) s m args below meth c N0 D cs (some (.int r0)) h0 h 6 [(0, .ref this), (1, .int x1), (2, .int x2), (3, .int x3), (4, .int x4), (5, .int x5)] 32 []) (x1 : Int32) (x2 : Int32) (x3 : Int32) (x4 : Int32) (x5 : Int32) (h : Hp) (hf : t_Y_dearest_32 this k32 x1 x2 x3 x4 x5 h = some (r0, h0)) : ZG p l e (zrm 34 0 0) s m args below meth c N0 D cs (some (.int r0)) h0 h 6 [(0, .ref this), (1, .int x1), (2, .int x2), (3, .int x3), (4, .int x4), (5, .int x5)] 32 [] := by
  intro H locs ls hH hS hl
  unfold t_Y_dearest_32 at hf
  refine lv_iload M.x M.b d_Y_dearest_32 (lv_at hl 5 rfl) ?_
  refine lv_iconst (v := (3 : Int32)) M.x M.b d_Y_dearest_34 rfl ?_
  refine lv_icmp_ge (tgt := 117) M.x M.b d_Y_dearest_35 (by decide) (fun c48 => ?_) (fun c48 => ?_)
  · replace hf := z_t c48 hf
    refine lv_iload M.x M.b d_Y_dearest_117 (lv_at hl 4 rfl) ?_
    obtain ⟨rfl, rfl⟩ := z_r2 hf
    exact z_iret M hH hS d_Y_dearest_119
  · replace hf := z_f c48 hf
    refine lv_aload_n M.x M.b d_Y_dearest_38 rfl (lv_at hl 0 rfl) ?_
    replace hf := z_bind hf; obtain ⟨r11, e12, hf⟩ := hf
    refine z_get (ci := 7) (k := 4) M hH rfl (by decide) zinY q_481 (gA_spec e12) d_Y_dearest_39 ?_
    refine lv_aload_n M.x M.b d_Y_dearest_42 rfl (lv_at hl 0 rfl) ?_
    refine lv_iload_n M.x M.b d_Y_dearest_43 rfl (lv_at hl 1 rfl) ?_
    rcases r11 with _ | a13
    · exact absurd hf z_nb0
    replace hf := z_sb hf
    replace hf := z_bind hf; obtain ⟨r16, e15, hf⟩ := hf
    refine zk_V (ci := 7) (st1 := [va_rf r16, .ref a13]) M hH hS (c_Y_planOf e15) rfl (o_Y_planOf e15) w_Y_planOf q_480 [.ref a13] rfl ⟨Nat.le_of_ble_eq_true rfl, Nat.le_of_ble_eq_true rfl⟩ hl.1 rfl rfl (Nat.le_of_ble_eq_true rfl) d_Y_dearest_44 (fun H locs hH hS => ?_)
    refine lv_aload_n M.x M.b d_Y_dearest_47 rfl (lv_at hl 0 rfl) ?_
    replace hf := z_bind hf; obtain ⟨r17, e18, hf⟩ := hf
    refine z_get (ci := 7) (k := 0) M hH rfl (by decide) zinY q_419 (gA_spec e18) d_Y_dearest_48 ?_
    refine lv_iload M.x M.b d_Y_dearest_51 (lv_at hl 5 rfl) ?_
    refine lv_iload_n M.x M.b d_Y_dearest_53 rfl (lv_at hl 2 rfl) ?_
    refine lv_iload_n M.x M.b d_Y_dearest_54 rfl (lv_at hl 3 rfl) ?_
    refine lv_aload_n M.x M.b d_Y_dearest_55 rfl (lv_at hl 0 rfl) ?_
    replace hf := z_bind hf; obtain ⟨r19, e20, hf⟩ := hf
    refine z_get (ci := 7) (k := 8) M hH rfl (by decide) zinY q_487 (gA_spec e20) d_Y_dearest_56 ?_
    rcases r16 with _ | a21
    · exact absurd hf z_nb0
    replace hf := z_sb hf
    rcases r17 with _ | a23
    · exact absurd hf z_nb0
    replace hf := z_sb hf
    rcases r19 with _ | a25
    · exact absurd hf z_nb0
    replace hf := z_sb hf
    replace hf := z_bind hf; obtain ⟨h28, e27, hf⟩ := hf
    refine zk_V (ci := 6) (st1 := []) M hH hS (c_T_tell e27) rfl (o_T_tell e27) w_T_tell q_479 [] rfl ⟨Nat.le_of_ble_eq_true rfl, Nat.le_of_ble_eq_true rfl⟩ hl.1 rfl rfl (Nat.le_of_ble_eq_true rfl) d_Y_dearest_59 (fun H locs hH hS => ?_)
    refine lv_aload_n M.x M.b d_Y_dearest_62 rfl (lv_at hl 0 rfl) ?_
    replace hf := z_bind hf; obtain ⟨r29, e30, hf⟩ := hf
    refine z_get (ci := 7) (k := 8) M hH rfl (by decide) zinY q_487 (gA_spec e30) d_Y_dearest_63 ?_
    rcases r29 with _ | a31
    · exact absurd hf z_nb0
    replace hf := z_sb hf
    replace hf := z_bind hf; obtain ⟨i33, e34, hf⟩ := hf
    refine z_getN (ci := 1) (k := 3) M hH rfl (by decide) zinF q_478 (gI_spec e34) d_Y_dearest_66 ?_
    refine lv_if_eq (tgt := 75) M.x M.b d_Y_dearest_69 (by decide) (fun c47 => ?_) (fun c47 => ?_)
    · replace hf := z_t c47 hf
      refine lv_iload M.x M.b d_Y_dearest_75 (lv_at hl 4 rfl) ?_
      refine lv_iconst (v := (-1 : Int32)) M.x M.b d_Y_dearest_77 rfl ?_
      refine lv_icmp_eq (tgt := 96) M.x M.b d_Y_dearest_78 (by decide) (fun c46 => ?_) (fun c46 => ?_)
      · replace hf := z_t c46 hf
        exact w_Y_dearest_96 M this k32 hk32 _ _ _ _ _ hf H locs ls hH hS (lv_sub hl [0, 1, 2, 3, 5] rfl)
      · replace hf := z_f c46 hf
        refine lv_aload_n M.x M.b d_Y_dearest_81 rfl (lv_at hl 0 rfl) ?_
        replace hf := z_bind hf; obtain ⟨r35, e36, hf⟩ := hf
        refine z_get (ci := 7) (k := 8) M hH rfl (by decide) zinY q_487 (gA_spec e36) d_Y_dearest_82 ?_
        refine lv_aload_n M.x M.b d_Y_dearest_85 rfl (lv_at hl 0 rfl) ?_
        replace hf := z_bind hf; obtain ⟨r37, e38, hf⟩ := hf
        refine z_get (ci := 7) (k := 7) M hH rfl (by decide) zinY q_475 (gA_spec e38) d_Y_dearest_86 ?_
        rcases r35 with _ | a39
        · exact absurd hf z_nb0
        replace hf := z_sb hf
        rcases r37 with _ | a41
        · exact absurd hf z_nb0
        replace hf := z_sb hf
        replace hf := z_bind hf; obtain ⟨i44, e43, hf⟩ := hf
        refine zk_S (st1 := [.int i44]) M hH hS (c_F_orderOf e43) w_F_orderOf q_486 [] rfl ⟨Nat.le_of_ble_eq_true rfl, Nat.le_of_ble_eq_true rfl⟩ hl.1 rfl rfl (Nat.le_of_ble_eq_true rfl) d_Y_dearest_89 (fun H locs hH hS => ?_)
        refine lv_iconst (v := (1 : Int32)) M.x M.b d_Y_dearest_92 rfl ?_
        refine lv_icmp_ne (tgt := 111) M.x M.b d_Y_dearest_93 (by decide) (fun c45 => ?_) (fun c45 => ?_)
        · replace hf := z_f c45 hf
          exact w_Y_dearest_111 M this k32 hk32 _ _ _ _ _ _ hf H locs ls hH hS (lv_sub hl [0, 1, 2, 3, 4, 5] rfl)
        · replace hf := z_t c45 hf
          exact w_Y_dearest_96 M this k32 hk32 _ _ _ _ _ hf H locs ls hH hS (lv_sub hl [0, 1, 2, 3, 5] rfl)
    · replace hf := z_f c47 hf
      refine lv_goto (tgt := 111) M.x M.b d_Y_dearest_72 (by decide) ?_
      exact w_Y_dearest_111 M this k32 hk32 _ _ _ _ _ _ hf H locs ls hH hS (lv_sub hl [0, 1, 2, 3, 4, 5] rfl)
def f_Y_dearest_32 (this : Nat) : Nat → Int32 → Int32 → Int32 → Int32 → Int32 → Hp → Option ((Int32 × Hp))
  | 0, _, _, _, _, _, _ => none
  | n + 1, x1, x2, x3, x4, x5, h => t_Y_dearest_32 this (f_Y_dearest_32 this n) x1 x2 x3 x4 x5 h
theorem w_Y_dearest_32 {p : Program} {l : Launch} {e : Env} {s : State} {m : MethodId} {args : Array Value} {below : List Frame} {meth : Method} {c : Code} {N0 : Nat} {D : va_G} {cs : Nat → ClassId} (M : ZC p s m args meth c "YearBaskets" "dearest" b_Y_dearest 6 (some .int) N0 D cs) (this : Nat)  {r0 : Int32} {h0 : Hp}  : ∀ (n : Nat) (x1 : Int32) (x2 : Int32) (x3 : Int32) (x4 : Int32) (x5 : Int32) (h : Hp), f_Y_dearest_32 this n x1 x2 x3 x4 x5 h = some (r0, h0) → ZG p l e (zrm 34 0 0) s m args below meth c N0 D cs (some (.int r0)) h0 h 6 [(0, .ref this), (1, .int x1), (2, .int x2), (3, .int x3), (4, .int x4), (5, .int x5)] 32 [] := by
  intro n
  induction n with
  | zero => intro x1 x2 x3 x4 x5 h hf; exact absurd (show none = some _ from hf) (fun q => by cases q)
  | succ n ih => intro x1 x2 x3 x4 x5 h hf; exact v_Y_dearest_32 M this (f_Y_dearest_32 this n)  ih _ _ _ _ _ _ hf
def f_Y_dearest (this : Nat) (x1 : Int32) (x2 : Int32) (x3 : Int32) (h : Hp) : Option ((Int32 × Hp)) :=
  if isO h this 7 = true then
  (f_Y_isNoNumber this h x1).bind fun i50 =>
  if i50 = 0 then
    (f_Y_isNoYear x2).bind fun i52 =>
    if i52 = 0 then
      (f_Y_isNoYear x3).bind fun i54 =>
      if i54 = 0 then
        f_Y_dearest_32 this FU x1 x2 x3 (-1 : Int32) (0 : Int32) h
      else
      some ((-1001 : Int32), h)
    else
    some ((-1001 : Int32), h)
  else
  some ((-1001 : Int32), h)
  else none
theorem o_Y_dearest {this : Nat} {x1 : Int32} {x2 : Int32} {x3 : Int32} {h : Hp} {r0 : Int32} {h0 : Hp} (hf : f_Y_dearest this x1 x2 x3 h = some (r0, h0)) : isO h this 7 = true := by
  unfold f_Y_dearest at hf
  exact (z_gd hf).1
set_option maxRecDepth 100000 in
set_option maxHeartbeats 4000000 in
theorem c_Y_dearest {l : Launch} {N0 : Nat} {D : va_G} {cs : Nat → ClassId} {this : Nat} {x1 : Int32} {x2 : Int32} {x3 : Int32} {h : Hp} {r0 : Int32} {h0 : Hp} (hf : f_Y_dearest this x1 x2 x3 h = some (r0, h0)) : Fn l N0 D cs y_Y_dearest b_Y_dearest 6 (some .int) 34 0 0 [.ref this, .int x1, .int x2, .int x3] h (some (.int r0)) h0 := by
  refine z_start (by decide) (Nat.le_of_ble_eq_true rfl) ?_
  intro p e s m args below meth c M hH hS ls hl
  unfold f_Y_dearest at hf
  obtain ⟨hO, hf⟩ := z_gd hf
  have hl : lv_has ls 6 [(0, .ref this), (1, .int x1), (2, .int x2), (3, .int x3)] := hl
  obtain ⟨H, hHe⟩ : ∃ H, H = s.heap := ⟨_, rfl⟩
  obtain ⟨locs, hLe⟩ : ∃ locs : List Loc, locs = [] := ⟨_, rfl⟩
  have hS : va_S (zA N0) s.heap H locs := by rw [hHe, hLe]; exact hS
  have hH : HH N0 D cs h H := by rw [hHe]; exact hH
  suffices hg : W p l e (zrm 34 0 0) s m args below meth c H locs 0 0 (MQ below (zQ N0 D cs (some (.int r0)) h0) args s 0 0 (zA N0)) (F0 m 0 ls []) by rw [hHe, hLe] at hg; exact hg
  clear hHe hLe
  refine lv_aload_n M.x M.b d_Y_dearest_0 rfl (lv_at hl 0 rfl) ?_
  refine lv_iload_n M.x M.b d_Y_dearest_1 rfl (lv_at hl 1 rfl) ?_
  replace hf := z_bind hf; obtain ⟨i50, e49, hf⟩ := hf
  refine zk_V (ci := 7) (st1 := [.int i50]) M hH hS (c_Y_isNoNumber e49) rfl (o_Y_isNoNumber e49) w_Y_isNoNumber q_482 [] rfl ⟨Nat.le_of_ble_eq_true rfl, Nat.le_of_ble_eq_true rfl⟩ hl.1 rfl rfl (Nat.le_of_ble_eq_true rfl) d_Y_dearest_2 (fun H locs hH hS => ?_)
  refine lv_if_ne (tgt := 22) M.x M.b d_Y_dearest_5 (by decide) (fun c57 => ?_) (fun c57 => ?_)
  · replace hf := z_f c57 hf
    refine lv_sipush (v := (-1001 : Int32)) M.x M.b d_Y_dearest_22 rfl ?_
    obtain ⟨rfl, rfl⟩ := z_r2 hf
    exact z_iret M hH hS d_Y_dearest_25
  · replace hf := z_t c57 hf
    refine lv_iload_n M.x M.b d_Y_dearest_8 rfl (lv_at hl 2 rfl) ?_
    replace hf := z_bind hf; obtain ⟨i52, e51, hf⟩ := hf
    refine zk_S (st1 := [.int i52]) M hH hS (c_Y_isNoYear e51) w_Y_isNoYear q_422 [] rfl ⟨Nat.le_of_ble_eq_true rfl, Nat.le_of_ble_eq_true rfl⟩ hl.1 rfl rfl (Nat.le_of_ble_eq_true rfl) d_Y_dearest_9 (fun H locs hH hS => ?_)
    refine lv_if_ne (tgt := 22) M.x M.b d_Y_dearest_12 (by decide) (fun c56 => ?_) (fun c56 => ?_)
    · replace hf := z_f c56 hf
      refine lv_sipush (v := (-1001 : Int32)) M.x M.b d_Y_dearest_22 rfl ?_
      obtain ⟨rfl, rfl⟩ := z_r2 hf
      exact z_iret M hH hS d_Y_dearest_25
    · replace hf := z_t c56 hf
      refine lv_iload_n M.x M.b d_Y_dearest_15 rfl (lv_at hl 3 rfl) ?_
      replace hf := z_bind hf; obtain ⟨i54, e53, hf⟩ := hf
      refine zk_S (st1 := [.int i54]) M hH hS (c_Y_isNoYear e53) w_Y_isNoYear q_422 [] rfl ⟨Nat.le_of_ble_eq_true rfl, Nat.le_of_ble_eq_true rfl⟩ hl.1 rfl rfl (Nat.le_of_ble_eq_true rfl) d_Y_dearest_16 (fun H locs hH hS => ?_)
      refine lv_if_eq (tgt := 26) M.x M.b d_Y_dearest_19 (by decide) (fun c55 => ?_) (fun c55 => ?_)
      · replace hf := z_t c55 hf
        refine lv_iconst (v := (-1 : Int32)) M.x M.b d_Y_dearest_26 rfl ?_
        refine lv_istore (lv' := [(4, .int (-1 : Int32)), (0, .ref this), (1, .int x1), (2, .int x2), (3, .int x3)]) M.x M.b d_Y_dearest_27 hl (by decide) rfl (fun ls hl => ?_)
        refine lv_iconst (v := (0 : Int32)) M.x M.b d_Y_dearest_29 rfl ?_
        refine lv_istore (lv' := [(5, .int (0 : Int32)), (4, .int (-1 : Int32)), (0, .ref this), (1, .int x1), (2, .int x2), (3, .int x3)]) M.x M.b d_Y_dearest_30 hl (by decide) rfl (fun ls hl => ?_)
        exact w_Y_dearest_32 M this FU _ _ _ _ _ _ hf H locs ls hH hS (lv_sub hl [2, 3, 4, 5, 1, 0] rfl)
      · replace hf := z_f c55 hf
        refine lv_sipush (v := (-1001 : Int32)) M.x M.b d_Y_dearest_22 rfl ?_
        obtain ⟨rfl, rfl⟩ := z_r2 hf
        exact z_iret M hH hS d_Y_dearest_25
def f_Y_turn_193 (this : Nat) (k109 : Int32 → Int32 → Int32 → Int32 → Int32 → Int32 → Int32 → Hp → Option ((Int32 × Hp))) (x1 : Int32) (x2 : Int32) (x3 : Int32) (x4 : Int32) (x5 : Int32) (x6 : Int32) (x9 : Int32) (h : Hp) : Option ((Int32 × Hp)) :=
  k109 x1 x2 x3 x4 x5 x6 (x9 + (1 : Int32)) h
set_option maxRecDepth 100000 in
set_option maxHeartbeats 4000000 in
theorem w_Y_turn_193 {p : Program} {l : Launch} {e : Env} {s : State} {m : MethodId} {args : Array Value} {below : List Frame} {meth : Method} {c : Code} {N0 : Nat} {D : va_G} {cs : Nat → ClassId} (M : ZC p s m args meth c "YearBaskets" "turn" b_Y_turn 11 (some .int) N0 D cs) (this : Nat) (k109 : Int32 → Int32 → Int32 → Int32 → Int32 → Int32 → Int32 → Hp → Option ((Int32 × Hp))) {r0 : Int32} {h0 : Hp} (hk109 : ∀ (x1 : Int32) (x2 : Int32) (x3 : Int32) (x4 : Int32) (x5 : Int32) (x6 : Int32) (x9 : Int32) (h : Hp), k109 x1 x2 x3 x4 x5 x6 x9 h = some (r0, h0) → ZG p l e (zrm 34 0 0) s m args below meth c N0 D cs (some (.int r0)) h0 h 11 [(0, .ref this), (1, .int x1), (2, .int x2), (3, .int x3), (4, .int x4), (5, .int x5), (6, .int x6), (9, .int x9)] 109 []) (x1 : Int32) (x2 : Int32) (x3 : Int32) (x4 : Int32) (x5 : Int32) (x6 : Int32) (x9 : Int32) (h : Hp) (hf : f_Y_turn_193 this k109 x1 x2 x3 x4 x5 x6 x9 h = some (r0, h0)) : ZG p l e (zrm 34 0 0) s m args below meth c N0 D cs (some (.int r0)) h0 h 11 [(0, .ref this), (1, .int x1), (2, .int x2), (3, .int x3), (4, .int x4), (5, .int x5), (6, .int x6), (9, .int x9)] 193 [] := by
  intro H locs ls hH hS hl
  unfold f_Y_turn_193 at hf
  refine lv_iinc (v := (x9 + (1 : Int32))) (lv' := [(9, .int (x9 + (1 : Int32))), (0, .ref this), (1, .int x1), (2, .int x2), (3, .int x3), (4, .int x4), (5, .int x5), (6, .int x6)]) M.x M.b d_Y_turn_193 hl (k := 7) rfl rfl (by decide) rfl (fun ls hl => ?_)
  refine lv_goto (tgt := 109) M.x M.b d_Y_turn_196 (by decide) ?_
  exact hk109 _ _ _ _ _ _ _ _ hf H locs ls hH hS (lv_sub hl [1, 2, 3, 4, 5, 6, 7, 0] rfl)
def t_Y_turn_109 (this : Nat) (k109 : Int32 → Int32 → Int32 → Int32 → Int32 → Int32 → Int32 → Hp → Option ((Int32 × Hp))) (x1 : Int32) (x2 : Int32) (x3 : Int32) (x4 : Int32) (x5 : Int32) (x6 : Int32) (x9 : Int32) (h : Hp) : Option ((Int32 × Hp)) :=
  if (99 : Int32) < x9 then
    some ((-1 : Int32), h)
  else
  (gA h this 7 1).bind fun r1 =>
  (r1).bind fun a3 =>
  (f_B_setPrice a3 x5 x6 x9 h).bind fun h6 =>
  (gA h6 this 7 4).bind fun r7 =>
  (r7).bind fun a9 =>
  (f_Y_planOf this h6 x1).bind fun r12 =>
  (gA h6 this 7 1).bind fun r13 =>
  (gA h6 this 7 7).bind fun r15 =>
  (r12).bind fun a17 =>
  (r13).bind fun a19 =>
  (r15).bind fun a21 =>
  (f_T_tell a9 a17 a19 x2 x3 x4 a21 h6).bind fun h24 =>
  (gA h24 this 7 7).bind fun r25 =>
  (r25).bind fun a27 =>
  (gI h24 a27 1 3).bind fun i29 =>
  if i29 = 0 then
    (gA h24 this 7 7).bind fun r31 =>
    (gA h24 this 7 8).bind fun r33 =>
    (r31).bind fun a35 =>
    (r33).bind fun a37 =>
    (f_F_orderOf h24 a35 a37).bind fun i40 =>
    if i40 = 0 then
      some (x9, h24)
    else
    if i40 = (1 : Int32) then
      some (x9, h24)
    else
    f_Y_turn_193 this k109 x1 x2 x3 x4 x5 x6 x9 h24
  else
  f_Y_turn_193 this k109 x1 x2 x3 x4 x5 x6 x9 h24
set_option maxRecDepth 100000 in
set_option maxHeartbeats 4000000 in
theorem v_Y_turn_109 {p : Program} {l : Launch} {e : Env} {s : State} {m : MethodId} {args : Array Value} {below : List Frame} {meth : Method} {c : Code} {N0 : Nat} {D : va_G} {cs : Nat → ClassId} (M : ZC p s m args meth c "YearBaskets" "turn" b_Y_turn 11 (some .int) N0 D cs) (this : Nat) (k109 : Int32 → Int32 → Int32 → Int32 → Int32 → Int32 → Int32 → Hp → Option ((Int32 × Hp))) {r0 : Int32} {h0 : Hp} (hk109 : ∀ (x1 : Int32) (x2 : Int32) (x3 : Int32) (x4 : Int32) (x5 : Int32) (x6 : Int32) (x9 : Int32) (h : Hp), k109 x1 x2 x3 x4 x5 x6 x9 h = some (r0, h0) → ZG p l e (zrm 34 0 0) s m args below meth c N0 D cs (some (.int r0)) h0 h 11 [(0, .ref this), (1, .int x1), (2, .int x2), (3, .int x3), (4, .int x4), (5, .int x5), (6, .int x6), (9, .int x9)] 109 []) (x1 : Int32) (x2 : Int32) (x3 : Int32) (x4 : Int32) (x5 : Int32) (x6 : Int32) (x9 : Int32) (h : Hp) (hf : t_Y_turn_109 this k109 x1 x2 x3 x4 x5 x6 x9 h = some (r0, h0)) : ZG p l e (zrm 34 0 0) s m args below meth c N0 D cs (some (.int r0)) h0 h 11 [(0, .ref this), (1, .int x1), (2, .int x2), (3, .int x3), (4, .int x4), (5, .int x5), (6, .int x6), (9, .int x9)] 109 [] := by
  intro H locs ls hH hS hl
  unfold t_Y_turn_109 at hf
  refine lv_iload M.x M.b d_Y_turn_109 (lv_at hl 7 rfl) ?_
  refine lv_bipush (v := (99 : Int32)) M.x M.b d_Y_turn_111 rfl ?_
  refine lv_icmp_gt (tgt := 199) M.x M.b d_Y_turn_113 (by decide) (fun c44 => ?_) (fun c44 => ?_)
  · replace hf := z_t c44 hf
    refine lv_iconst (v := (-1 : Int32)) M.x M.b d_Y_turn_199 rfl ?_
    obtain ⟨rfl, rfl⟩ := z_r2 hf
    exact z_iret M hH hS d_Y_turn_200
  · replace hf := z_f c44 hf
    refine lv_aload_n M.x M.b d_Y_turn_116 rfl (lv_at hl 0 rfl) ?_
    replace hf := z_bind hf; obtain ⟨r1, e2, hf⟩ := hf
    refine z_get (ci := 7) (k := 1) M hH rfl (by decide) zinY q_542 (gA_spec e2) d_Y_turn_117 ?_
    refine lv_iload M.x M.b d_Y_turn_120 (lv_at hl 5 rfl) ?_
    refine lv_iload M.x M.b d_Y_turn_122 (lv_at hl 6 rfl) ?_
    refine lv_iload M.x M.b d_Y_turn_124 (lv_at hl 7 rfl) ?_
    rcases r1 with _ | a3
    · exact absurd hf z_nb0
    replace hf := z_sb hf
    replace hf := z_bind hf; obtain ⟨h6, e5, hf⟩ := hf
    refine zk_V (ci := 0) (st1 := []) M hH hS (c_B_setPrice e5) rfl (o_B_setPrice e5) w_B_setPrice q_418 [] rfl ⟨Nat.le_of_ble_eq_true rfl, Nat.le_of_ble_eq_true rfl⟩ hl.1 rfl rfl (Nat.le_of_ble_eq_true rfl) d_Y_turn_126 (fun H locs hH hS => ?_)
    refine lv_aload_n M.x M.b d_Y_turn_129 rfl (lv_at hl 0 rfl) ?_
    replace hf := z_bind hf; obtain ⟨r7, e8, hf⟩ := hf
    refine z_get (ci := 7) (k := 4) M hH rfl (by decide) zinY q_481 (gA_spec e8) d_Y_turn_130 ?_
    refine lv_aload_n M.x M.b d_Y_turn_133 rfl (lv_at hl 0 rfl) ?_
    refine lv_iload_n M.x M.b d_Y_turn_134 rfl (lv_at hl 1 rfl) ?_
    rcases r7 with _ | a9
    · exact absurd hf z_nb0
    replace hf := z_sb hf
    replace hf := z_bind hf; obtain ⟨r12, e11, hf⟩ := hf
    refine zk_V (ci := 7) (st1 := [va_rf r12, .ref a9]) M hH hS (c_Y_planOf e11) rfl (o_Y_planOf e11) w_Y_planOf q_480 [.ref a9] rfl ⟨Nat.le_of_ble_eq_true rfl, Nat.le_of_ble_eq_true rfl⟩ hl.1 rfl rfl (Nat.le_of_ble_eq_true rfl) d_Y_turn_135 (fun H locs hH hS => ?_)
    refine lv_aload_n M.x M.b d_Y_turn_138 rfl (lv_at hl 0 rfl) ?_
    replace hf := z_bind hf; obtain ⟨r13, e14, hf⟩ := hf
    refine z_get (ci := 7) (k := 1) M hH rfl (by decide) zinY q_542 (gA_spec e14) d_Y_turn_139 ?_
    refine lv_iload_n M.x M.b d_Y_turn_142 rfl (lv_at hl 2 rfl) ?_
    refine lv_iload_n M.x M.b d_Y_turn_143 rfl (lv_at hl 3 rfl) ?_
    refine lv_iload M.x M.b d_Y_turn_144 (lv_at hl 4 rfl) ?_
    refine lv_aload_n M.x M.b d_Y_turn_146 rfl (lv_at hl 0 rfl) ?_
    replace hf := z_bind hf; obtain ⟨r15, e16, hf⟩ := hf
    refine z_get (ci := 7) (k := 7) M hH rfl (by decide) zinY q_475 (gA_spec e16) d_Y_turn_147 ?_
    rcases r12 with _ | a17
    · exact absurd hf z_nb0
    replace hf := z_sb hf
    rcases r13 with _ | a19
    · exact absurd hf z_nb0
    replace hf := z_sb hf
    rcases r15 with _ | a21
    · exact absurd hf z_nb0
    replace hf := z_sb hf
    replace hf := z_bind hf; obtain ⟨h24, e23, hf⟩ := hf
    refine zk_V (ci := 6) (st1 := []) M hH hS (c_T_tell e23) rfl (o_T_tell e23) w_T_tell q_479 [] rfl ⟨Nat.le_of_ble_eq_true rfl, Nat.le_of_ble_eq_true rfl⟩ hl.1 rfl rfl (Nat.le_of_ble_eq_true rfl) d_Y_turn_150 (fun H locs hH hS => ?_)
    refine lv_aload_n M.x M.b d_Y_turn_153 rfl (lv_at hl 0 rfl) ?_
    replace hf := z_bind hf; obtain ⟨r25, e26, hf⟩ := hf
    refine z_get (ci := 7) (k := 7) M hH rfl (by decide) zinY q_475 (gA_spec e26) d_Y_turn_154 ?_
    rcases r25 with _ | a27
    · exact absurd hf z_nb0
    replace hf := z_sb hf
    replace hf := z_bind hf; obtain ⟨i29, e30, hf⟩ := hf
    refine z_getN (ci := 1) (k := 3) M hH rfl (by decide) zinF q_478 (gI_spec e30) d_Y_turn_157 ?_
    refine lv_if_eq (tgt := 166) M.x M.b d_Y_turn_160 (by decide) (fun c43 => ?_) (fun c43 => ?_)
    · replace hf := z_t c43 hf
      refine lv_aload_n M.x M.b d_Y_turn_166 rfl (lv_at hl 0 rfl) ?_
      replace hf := z_bind hf; obtain ⟨r31, e32, hf⟩ := hf
      refine z_get (ci := 7) (k := 7) M hH rfl (by decide) zinY q_475 (gA_spec e32) d_Y_turn_167 ?_
      refine lv_aload_n M.x M.b d_Y_turn_170 rfl (lv_at hl 0 rfl) ?_
      replace hf := z_bind hf; obtain ⟨r33, e34, hf⟩ := hf
      refine z_get (ci := 7) (k := 8) M hH rfl (by decide) zinY q_487 (gA_spec e34) d_Y_turn_171 ?_
      rcases r31 with _ | a35
      · exact absurd hf z_nb0
      replace hf := z_sb hf
      rcases r33 with _ | a37
      · exact absurd hf z_nb0
      replace hf := z_sb hf
      replace hf := z_bind hf; obtain ⟨i40, e39, hf⟩ := hf
      refine zk_S (st1 := [.int i40]) M hH hS (c_F_orderOf e39) w_F_orderOf q_486 [] rfl ⟨Nat.le_of_ble_eq_true rfl, Nat.le_of_ble_eq_true rfl⟩ hl.1 rfl rfl (Nat.le_of_ble_eq_true rfl) d_Y_turn_174 (fun H locs hH hS => ?_)
      refine lv_istore (lv' := [(10, .int i40), (0, .ref this), (1, .int x1), (2, .int x2), (3, .int x3), (4, .int x4), (5, .int x5), (6, .int x6), (9, .int x9)]) M.x M.b d_Y_turn_177 hl (by decide) rfl (fun ls hl => ?_)
      refine lv_iload M.x M.b d_Y_turn_179 (lv_at hl 0 rfl) ?_
      refine lv_if_eq (tgt := 190) M.x M.b d_Y_turn_181 (by decide) (fun c42 => ?_) (fun c42 => ?_)
      · replace hf := z_t c42 hf
        refine lv_iload M.x M.b d_Y_turn_190 (lv_at hl 8 rfl) ?_
        obtain ⟨rfl, rfl⟩ := z_r2 hf
        exact z_iret M hH hS d_Y_turn_192
      · replace hf := z_f c42 hf
        refine lv_iload M.x M.b d_Y_turn_184 (lv_at hl 0 rfl) ?_
        refine lv_iconst (v := (1 : Int32)) M.x M.b d_Y_turn_186 rfl ?_
        refine lv_icmp_ne (tgt := 193) M.x M.b d_Y_turn_187 (by decide) (fun c41 => ?_) (fun c41 => ?_)
        · replace hf := z_f c41 hf
          exact w_Y_turn_193 M this k109 hk109 _ _ _ _ _ _ _ _ hf H locs ls hH hS (lv_sub hl [1, 2, 3, 4, 5, 6, 7, 8] rfl)
        · replace hf := z_t c41 hf
          refine lv_iload M.x M.b d_Y_turn_190 (lv_at hl 8 rfl) ?_
          obtain ⟨rfl, rfl⟩ := z_r2 hf
          exact z_iret M hH hS d_Y_turn_192
    · replace hf := z_f c43 hf
      refine lv_goto (tgt := 193) M.x M.b d_Y_turn_163 (by decide) ?_
      exact w_Y_turn_193 M this k109 hk109 _ _ _ _ _ _ _ _ hf H locs ls hH hS (lv_sub hl [0, 1, 2, 3, 4, 5, 6, 7] rfl)
def f_Y_turn_109 (this : Nat) : Nat → Int32 → Int32 → Int32 → Int32 → Int32 → Int32 → Int32 → Hp → Option ((Int32 × Hp))
  | 0, _, _, _, _, _, _, _, _ => none
  | n + 1, x1, x2, x3, x4, x5, x6, x9, h => t_Y_turn_109 this (f_Y_turn_109 this n) x1 x2 x3 x4 x5 x6 x9 h
theorem w_Y_turn_109 {p : Program} {l : Launch} {e : Env} {s : State} {m : MethodId} {args : Array Value} {below : List Frame} {meth : Method} {c : Code} {N0 : Nat} {D : va_G} {cs : Nat → ClassId} (M : ZC p s m args meth c "YearBaskets" "turn" b_Y_turn 11 (some .int) N0 D cs) (this : Nat)  {r0 : Int32} {h0 : Hp}  : ∀ (n : Nat) (x1 : Int32) (x2 : Int32) (x3 : Int32) (x4 : Int32) (x5 : Int32) (x6 : Int32) (x9 : Int32) (h : Hp), f_Y_turn_109 this n x1 x2 x3 x4 x5 x6 x9 h = some (r0, h0) → ZG p l e (zrm 34 0 0) s m args below meth c N0 D cs (some (.int r0)) h0 h 11 [(0, .ref this), (1, .int x1), (2, .int x2), (3, .int x3), (4, .int x4), (5, .int x5), (6, .int x6), (9, .int x9)] 109 [] := by
  intro n
  induction n with
  | zero => intro x1 x2 x3 x4 x5 x6 x9 h hf; exact absurd (show none = some _ from hf) (fun q => by cases q)
  | succ n ih => intro x1 x2 x3 x4 x5 x6 x9 h hf; exact v_Y_turn_109 M this (f_Y_turn_109 this n)  ih _ _ _ _ _ _ _ _ hf
def f_Y_turn (this : Nat) (x1 : Int32) (x2 : Int32) (x3 : Int32) (x4 : Int32) (x5 : Int32) (x6 : Int32) (x7 : Int32) (x8 : Int32) (h : Hp) : Option ((Int32 × Hp)) :=
  if isO h this 7 = true then
  (f_Y_isNoNumber this h x1).bind fun i46 =>
  if i46 = 0 then
    (f_Y_isNoWho x2).bind fun i48 =>
    if i48 = 0 then
      (f_Y_isNoYear x3).bind fun i50 =>
      if i50 = 0 then
        (f_Y_isNoYear x4).bind fun i52 =>
        if i52 = 0 then
          (f_Y_isNoYear x5).bind fun i54 =>
          if i54 = 0 then
            (f_Y_isNoGood x6).bind fun i56 =>
            if i56 = 0 then
              if x7 < (1 : Int32) then
                some ((-1002 : Int32), h)
              else
              if (9999 : Int32) < x7 then
                some ((-1002 : Int32), h)
              else
              if x8 < (1 : Int32) then
                some ((-1002 : Int32), h)
              else
              if x8 ≤ (9999 : Int32) then
                (gA h this 7 8).bind fun r57 =>
                (r57).bind fun a59 =>
                (f_F_put a59 (x7).toInt64 (x8).toInt64 h).bind fun h62 =>
                (gA h62 this 7 1).bind fun r63 =>
                (gA h62 this 7 0).bind fun r65 =>
                (r65).bind fun a67 =>
                (r63).bind fun a69 =>
                (f_B_copyFrom a69 a67 h62).bind fun h72 =>
                f_Y_turn_109 this FU x1 x2 x3 x4 x5 x6 (1 : Int32) h72
              else
              some ((-1002 : Int32), h)
            else
            some ((-1001 : Int32), h)
          else
          some ((-1001 : Int32), h)
        else
        some ((-1001 : Int32), h)
      else
      some ((-1001 : Int32), h)
    else
    some ((-1001 : Int32), h)
  else
  some ((-1001 : Int32), h)
  else none
theorem o_Y_turn {this : Nat} {x1 : Int32} {x2 : Int32} {x3 : Int32} {x4 : Int32} {x5 : Int32} {x6 : Int32} {x7 : Int32} {x8 : Int32} {h : Hp} {r0 : Int32} {h0 : Hp} (hf : f_Y_turn this x1 x2 x3 x4 x5 x6 x7 x8 h = some (r0, h0)) : isO h this 7 = true := by
  unfold f_Y_turn at hf
  exact (z_gd hf).1
set_option maxRecDepth 100000 in
set_option maxHeartbeats 4000000 in
theorem c_Y_turn {l : Launch} {N0 : Nat} {D : va_G} {cs : Nat → ClassId} {this : Nat} {x1 : Int32} {x2 : Int32} {x3 : Int32} {x4 : Int32} {x5 : Int32} {x6 : Int32} {x7 : Int32} {x8 : Int32} {h : Hp} {r0 : Int32} {h0 : Hp} (hf : f_Y_turn this x1 x2 x3 x4 x5 x6 x7 x8 h = some (r0, h0)) : Fn l N0 D cs y_Y_turn b_Y_turn 11 (some .int) 34 0 0 [.ref this, .int x1, .int x2, .int x3, .int x4, .int x5, .int x6, .int x7, .int x8] h (some (.int r0)) h0 := by
  refine z_start (by decide) (Nat.le_of_ble_eq_true rfl) ?_
  intro p e s m args below meth c M hH hS ls hl
  unfold f_Y_turn at hf
  obtain ⟨hO, hf⟩ := z_gd hf
  have hl : lv_has ls 11 [(0, .ref this), (1, .int x1), (2, .int x2), (3, .int x3), (4, .int x4), (5, .int x5), (6, .int x6), (7, .int x7), (8, .int x8)] := hl
  obtain ⟨H, hHe⟩ : ∃ H, H = s.heap := ⟨_, rfl⟩
  obtain ⟨locs, hLe⟩ : ∃ locs : List Loc, locs = [] := ⟨_, rfl⟩
  have hS : va_S (zA N0) s.heap H locs := by rw [hHe, hLe]; exact hS
  have hH : HH N0 D cs h H := by rw [hHe]; exact hH
  suffices hg : W p l e (zrm 34 0 0) s m args below meth c H locs 0 0 (MQ below (zQ N0 D cs (some (.int r0)) h0) args s 0 0 (zA N0)) (F0 m 0 ls []) by rw [hHe, hLe] at hg; exact hg
  clear hHe hLe
  refine lv_aload_n M.x M.b d_Y_turn_0 rfl (lv_at hl 0 rfl) ?_
  refine lv_iload_n M.x M.b d_Y_turn_1 rfl (lv_at hl 1 rfl) ?_
  replace hf := z_bind hf; obtain ⟨i46, e45, hf⟩ := hf
  refine zk_V (ci := 7) (st1 := [.int i46]) M hH hS (c_Y_isNoNumber e45) rfl (o_Y_isNoNumber e45) w_Y_isNoNumber q_482 [] rfl ⟨Nat.le_of_ble_eq_true rfl, Nat.le_of_ble_eq_true rfl⟩ hl.1 rfl rfl (Nat.le_of_ble_eq_true rfl) d_Y_turn_2 (fun H locs hH hS => ?_)
  refine lv_if_ne (tgt := 46) M.x M.b d_Y_turn_5 (by decide) (fun c82 => ?_) (fun c82 => ?_)
  · replace hf := z_f c82 hf
    refine lv_sipush (v := (-1001 : Int32)) M.x M.b d_Y_turn_46 rfl ?_
    obtain ⟨rfl, rfl⟩ := z_r2 hf
    exact z_iret M hH hS d_Y_turn_49
  · replace hf := z_t c82 hf
    refine lv_iload_n M.x M.b d_Y_turn_8 rfl (lv_at hl 2 rfl) ?_
    replace hf := z_bind hf; obtain ⟨i48, e47, hf⟩ := hf
    refine zk_S (st1 := [.int i48]) M hH hS (c_Y_isNoWho e47) w_Y_isNoWho q_433 [] rfl ⟨Nat.le_of_ble_eq_true rfl, Nat.le_of_ble_eq_true rfl⟩ hl.1 rfl rfl (Nat.le_of_ble_eq_true rfl) d_Y_turn_9 (fun H locs hH hS => ?_)
    refine lv_if_ne (tgt := 46) M.x M.b d_Y_turn_12 (by decide) (fun c81 => ?_) (fun c81 => ?_)
    · replace hf := z_f c81 hf
      refine lv_sipush (v := (-1001 : Int32)) M.x M.b d_Y_turn_46 rfl ?_
      obtain ⟨rfl, rfl⟩ := z_r2 hf
      exact z_iret M hH hS d_Y_turn_49
    · replace hf := z_t c81 hf
      refine lv_iload_n M.x M.b d_Y_turn_15 rfl (lv_at hl 3 rfl) ?_
      replace hf := z_bind hf; obtain ⟨i50, e49, hf⟩ := hf
      refine zk_S (st1 := [.int i50]) M hH hS (c_Y_isNoYear e49) w_Y_isNoYear q_422 [] rfl ⟨Nat.le_of_ble_eq_true rfl, Nat.le_of_ble_eq_true rfl⟩ hl.1 rfl rfl (Nat.le_of_ble_eq_true rfl) d_Y_turn_16 (fun H locs hH hS => ?_)
      refine lv_if_ne (tgt := 46) M.x M.b d_Y_turn_19 (by decide) (fun c80 => ?_) (fun c80 => ?_)
      · replace hf := z_f c80 hf
        refine lv_sipush (v := (-1001 : Int32)) M.x M.b d_Y_turn_46 rfl ?_
        obtain ⟨rfl, rfl⟩ := z_r2 hf
        exact z_iret M hH hS d_Y_turn_49
      · replace hf := z_t c80 hf
        refine lv_iload M.x M.b d_Y_turn_22 (lv_at hl 4 rfl) ?_
        replace hf := z_bind hf; obtain ⟨i52, e51, hf⟩ := hf
        refine zk_S (st1 := [.int i52]) M hH hS (c_Y_isNoYear e51) w_Y_isNoYear q_422 [] rfl ⟨Nat.le_of_ble_eq_true rfl, Nat.le_of_ble_eq_true rfl⟩ hl.1 rfl rfl (Nat.le_of_ble_eq_true rfl) d_Y_turn_24 (fun H locs hH hS => ?_)
        refine lv_if_ne (tgt := 46) M.x M.b d_Y_turn_27 (by decide) (fun c79 => ?_) (fun c79 => ?_)
        · replace hf := z_f c79 hf
          refine lv_sipush (v := (-1001 : Int32)) M.x M.b d_Y_turn_46 rfl ?_
          obtain ⟨rfl, rfl⟩ := z_r2 hf
          exact z_iret M hH hS d_Y_turn_49
        · replace hf := z_t c79 hf
          refine lv_iload M.x M.b d_Y_turn_30 (lv_at hl 5 rfl) ?_
          replace hf := z_bind hf; obtain ⟨i54, e53, hf⟩ := hf
          refine zk_S (st1 := [.int i54]) M hH hS (c_Y_isNoYear e53) w_Y_isNoYear q_422 [] rfl ⟨Nat.le_of_ble_eq_true rfl, Nat.le_of_ble_eq_true rfl⟩ hl.1 rfl rfl (Nat.le_of_ble_eq_true rfl) d_Y_turn_32 (fun H locs hH hS => ?_)
          refine lv_if_ne (tgt := 46) M.x M.b d_Y_turn_35 (by decide) (fun c78 => ?_) (fun c78 => ?_)
          · replace hf := z_f c78 hf
            refine lv_sipush (v := (-1001 : Int32)) M.x M.b d_Y_turn_46 rfl ?_
            obtain ⟨rfl, rfl⟩ := z_r2 hf
            exact z_iret M hH hS d_Y_turn_49
          · replace hf := z_t c78 hf
            refine lv_iload M.x M.b d_Y_turn_38 (lv_at hl 6 rfl) ?_
            replace hf := z_bind hf; obtain ⟨i56, e55, hf⟩ := hf
            refine zk_S (st1 := [.int i56]) M hH hS (c_Y_isNoGood e55) w_Y_isNoGood q_421 [] rfl ⟨Nat.le_of_ble_eq_true rfl, Nat.le_of_ble_eq_true rfl⟩ hl.1 rfl rfl (Nat.le_of_ble_eq_true rfl) d_Y_turn_40 (fun H locs hH hS => ?_)
            refine lv_if_eq (tgt := 50) M.x M.b d_Y_turn_43 (by decide) (fun c77 => ?_) (fun c77 => ?_)
            · replace hf := z_t c77 hf
              refine lv_iload M.x M.b d_Y_turn_50 (lv_at hl 7 rfl) ?_
              refine lv_iconst (v := (1 : Int32)) M.x M.b d_Y_turn_52 rfl ?_
              refine lv_icmp_lt (tgt := 78) M.x M.b d_Y_turn_53 (by decide) (fun c76 => ?_) (fun c76 => ?_)
              · replace hf := z_t c76 hf
                refine lv_sipush (v := (-1002 : Int32)) M.x M.b d_Y_turn_78 rfl ?_
                obtain ⟨rfl, rfl⟩ := z_r2 hf
                exact z_iret M hH hS d_Y_turn_81
              · replace hf := z_f c76 hf
                refine lv_iload M.x M.b d_Y_turn_56 (lv_at hl 7 rfl) ?_
                refine lv_sipush (v := (9999 : Int32)) M.x M.b d_Y_turn_58 rfl ?_
                refine lv_icmp_gt (tgt := 78) M.x M.b d_Y_turn_61 (by decide) (fun c75 => ?_) (fun c75 => ?_)
                · replace hf := z_t c75 hf
                  refine lv_sipush (v := (-1002 : Int32)) M.x M.b d_Y_turn_78 rfl ?_
                  obtain ⟨rfl, rfl⟩ := z_r2 hf
                  exact z_iret M hH hS d_Y_turn_81
                · replace hf := z_f c75 hf
                  refine lv_iload M.x M.b d_Y_turn_64 (lv_at hl 8 rfl) ?_
                  refine lv_iconst (v := (1 : Int32)) M.x M.b d_Y_turn_66 rfl ?_
                  refine lv_icmp_lt (tgt := 78) M.x M.b d_Y_turn_67 (by decide) (fun c74 => ?_) (fun c74 => ?_)
                  · replace hf := z_t c74 hf
                    refine lv_sipush (v := (-1002 : Int32)) M.x M.b d_Y_turn_78 rfl ?_
                    obtain ⟨rfl, rfl⟩ := z_r2 hf
                    exact z_iret M hH hS d_Y_turn_81
                  · replace hf := z_f c74 hf
                    refine lv_iload M.x M.b d_Y_turn_70 (lv_at hl 8 rfl) ?_
                    refine lv_sipush (v := (9999 : Int32)) M.x M.b d_Y_turn_72 rfl ?_
                    refine lv_icmp_le (tgt := 82) M.x M.b d_Y_turn_75 (by decide) (fun c73 => ?_) (fun c73 => ?_)
                    · replace hf := z_t c73 hf
                      refine lv_aload_n M.x M.b d_Y_turn_82 rfl (lv_at hl 0 rfl) ?_
                      replace hf := z_bind hf; obtain ⟨r57, e58, hf⟩ := hf
                      refine z_get (ci := 7) (k := 8) M hH rfl (by decide) zinY q_487 (gA_spec e58) d_Y_turn_83 ?_
                      refine lv_iload M.x M.b d_Y_turn_86 (lv_at hl 7 rfl) ?_
                      refine lv_i2l M.x M.b d_Y_turn_88 rfl ?_
                      refine lv_iload M.x M.b d_Y_turn_89 (lv_at hl 8 rfl) ?_
                      refine lv_i2l M.x M.b d_Y_turn_91 rfl ?_
                      rcases r57 with _ | a59
                      · exact absurd hf z_nb0
                      replace hf := z_sb hf
                      replace hf := z_bind hf; obtain ⟨h62, e61, hf⟩ := hf
                      refine zk_V (ci := 1) (st1 := []) M hH hS (c_F_put e61) rfl (o_F_put e61) w_F_put q_544 [] rfl ⟨Nat.le_of_ble_eq_true rfl, Nat.le_of_ble_eq_true rfl⟩ hl.1 rfl rfl (Nat.le_of_ble_eq_true rfl) d_Y_turn_92 (fun H locs hH hS => ?_)
                      refine lv_aload_n M.x M.b d_Y_turn_95 rfl (lv_at hl 0 rfl) ?_
                      replace hf := z_bind hf; obtain ⟨r63, e64, hf⟩ := hf
                      refine z_get (ci := 7) (k := 1) M hH rfl (by decide) zinY q_542 (gA_spec e64) d_Y_turn_96 ?_
                      refine lv_aload_n M.x M.b d_Y_turn_99 rfl (lv_at hl 0 rfl) ?_
                      replace hf := z_bind hf; obtain ⟨r65, e66, hf⟩ := hf
                      refine z_get (ci := 7) (k := 0) M hH rfl (by decide) zinY q_419 (gA_spec e66) d_Y_turn_100 ?_
                      rcases r65 with _ | a67
                      · exact absurd hf z_nb0
                      replace hf := z_sb hf
                      rcases r63 with _ | a69
                      · exact absurd hf z_nb0
                      replace hf := z_sb hf
                      replace hf := z_bind hf; obtain ⟨h72, e71, hf⟩ := hf
                      refine zk_V (ci := 0) (st1 := []) M hH hS (c_B_copyFrom e71) rfl (o_B_copyFrom e71) w_B_copyFrom q_543 [] rfl ⟨Nat.le_of_ble_eq_true rfl, Nat.le_of_ble_eq_true rfl⟩ hl.1 rfl rfl (Nat.le_of_ble_eq_true rfl) d_Y_turn_103 (fun H locs hH hS => ?_)
                      refine lv_iconst (v := (1 : Int32)) M.x M.b d_Y_turn_106 rfl ?_
                      refine lv_istore (lv' := [(9, .int (1 : Int32)), (0, .ref this), (1, .int x1), (2, .int x2), (3, .int x3), (4, .int x4), (5, .int x5), (6, .int x6), (7, .int x7), (8, .int x8)]) M.x M.b d_Y_turn_107 hl (by decide) rfl (fun ls hl => ?_)
                      exact w_Y_turn_109 M this FU _ _ _ _ _ _ _ _ hf H locs ls hH hS (lv_sub hl [1, 2, 3, 4, 5, 6, 7, 0] rfl)
                    · replace hf := z_f c73 hf
                      refine lv_sipush (v := (-1002 : Int32)) M.x M.b d_Y_turn_78 rfl ?_
                      obtain ⟨rfl, rfl⟩ := z_r2 hf
                      exact z_iret M hH hS d_Y_turn_81
            · replace hf := z_f c77 hf
              refine lv_sipush (v := (-1001 : Int32)) M.x M.b d_Y_turn_46 rfl ?_
              obtain ⟨rfl, rfl⟩ := z_r2 hf
              exact z_iret M hH hS d_Y_turn_49
