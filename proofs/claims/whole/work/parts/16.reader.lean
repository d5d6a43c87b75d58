/-! ===== Reader: printed by wip/whole/drive.py out of the bytecode ===== -/
theorem q_351 : (Jvm.Cond.instanceMethod ({ cls := "YearBaskets$Reader", name := "append", desc := "(I)V" } : Jvm.MethodName)) ∈ zG := zt_2 (List.mem_of_getElem? (i := 88) rfl) rfl
theorem q_352 : (Jvm.Cond.selects "YearBaskets$Reader" ({ cls := "YearBaskets$Reader", name := "append", desc := "(I)V" } : Jvm.MethodName) ({ cls := "YearBaskets$Reader", name := "append", desc := "(I)V" } : Jvm.MethodName)) ∈ zG := zt_2 (List.mem_of_getElem? (i := 89) rfl) rfl
theorem q_353 : (Jvm.Cond.code ({ cls := "YearBaskets$Reader", name := "append", desc := "(I)V" } : Jvm.MethodName) prog_7_method_2_code (2 : Nat) (Option.none : Option Jvm.ClassFile.FieldType)) ∈ zG := zt_2 (List.mem_of_getElem? (i := 90) rfl) rfl
theorem q_354 : (Jvm.Cond.initialized "YearBaskets$Reader") ∈ zG := zt_1 (List.mem_of_getElem? (i := 4) rfl) rfl
theorem q_355 : (Jvm.Cond.fieldLink "YearBaskets$Reader" (15 : Nat) "YearBaskets$Reader" "length" "I") ∈ zG := zt_1 (List.mem_of_getElem? (i := 64) rfl) rfl
theorem q_356 : (Jvm.Cond.fieldLink "YearBaskets$Reader" (9 : Nat) "YearBaskets$Reader" "bytes" "[I") ∈ zG := zt_1 (List.mem_of_getElem? (i := 63) rfl) rfl
theorem q_357 : (Jvm.Cond.instanceMethod ({ cls := "YearBaskets$Reader", name := "byteAt", desc := "(I)I" } : Jvm.MethodName)) ∈ zG := zt_2 (List.mem_of_getElem? (i := 109) rfl) rfl
theorem q_358 : (Jvm.Cond.selects "YearBaskets$Reader" ({ cls := "YearBaskets$Reader", name := "byteAt", desc := "(I)I" } : Jvm.MethodName) ({ cls := "YearBaskets$Reader", name := "byteAt", desc := "(I)I" } : Jvm.MethodName)) ∈ zG := zG_s (List.mem_of_getElem? (i := 2) rfl) rfl
theorem q_359 : (Jvm.Cond.code ({ cls := "YearBaskets$Reader", name := "byteAt", desc := "(I)I" } : Jvm.MethodName) prog_7_method_5_code (2 : Nat) (Option.some Jvm.ClassFile.FieldType.int)) ∈ zG := zt_2 (List.mem_of_getElem? (i := 110) rfl) rfl
theorem q_360 : (Jvm.Cond.instanceMethod ({ cls := "YearBaskets$Reader", name := "skipBlanks", desc := "()V" } : Jvm.MethodName)) ∈ zG := zt_2 (List.mem_of_getElem? (i := 105) rfl) rfl
theorem q_361 : (Jvm.Cond.selects "YearBaskets$Reader" ({ cls := "YearBaskets$Reader", name := "skipBlanks", desc := "()V" } : Jvm.MethodName) ({ cls := "YearBaskets$Reader", name := "skipBlanks", desc := "()V" } : Jvm.MethodName)) ∈ zG := zG_s (List.mem_of_getElem? (i := 1) rfl) rfl
theorem q_362 : (Jvm.Cond.code ({ cls := "YearBaskets$Reader", name := "skipBlanks", desc := "()V" } : Jvm.MethodName) prog_7_method_6_code (2 : Nat) (Option.none : Option Jvm.ClassFile.FieldType)) ∈ zG := zt_2 (List.mem_of_getElem? (i := 106) rfl) rfl
theorem q_363 : (Jvm.Cond.fieldLink "YearBaskets$Reader" (19 : Nat) "YearBaskets$Reader" "place" "I") ∈ zG := zt_1 (List.mem_of_getElem? (i := 66) rfl) rfl
theorem q_364 : (Jvm.Cond.methodLink "YearBaskets$Reader" (47 : Nat) ({ cls := "YearBaskets$Reader", name := "byteAt", desc := "(I)I" } : Jvm.MethodName)) ∈ zG := zt_2 (List.mem_of_getElem? (i := 107) rfl) rfl
theorem q_365 : (Jvm.Cond.instanceMethod ({ cls := "YearBaskets$Reader", name := "lettersHere", desc := "()I" } : Jvm.MethodName)) ∈ zG := zt_2 (List.mem_of_getElem? (i := 113) rfl) rfl
theorem q_366 : (Jvm.Cond.selects "YearBaskets$Reader" ({ cls := "YearBaskets$Reader", name := "lettersHere", desc := "()I" } : Jvm.MethodName) ({ cls := "YearBaskets$Reader", name := "lettersHere", desc := "()I" } : Jvm.MethodName)) ∈ zG := zG_s (List.mem_of_getElem? (i := 3) rfl) rfl
theorem q_367 : (Jvm.Cond.code ({ cls := "YearBaskets$Reader", name := "lettersHere", desc := "()I" } : Jvm.MethodName) prog_7_method_11_code (3 : Nat) (Option.some Jvm.ClassFile.FieldType.int)) ∈ zG := zt_2 (List.mem_of_getElem? (i := 114) rfl) rfl
theorem q_368 : (Jvm.Cond.static ({ cls := "YearBaskets$Reader", name := "nameOf", desc := "(I)Ljava/lang/String;" } : Jvm.MethodName)) ∈ zG := zt_2 (List.mem_of_getElem? (i := 120) rfl) rfl
theorem q_369 : (Jvm.Cond.code ({ cls := "YearBaskets$Reader", name := "nameOf", desc := "(I)Ljava/lang/String;" } : Jvm.MethodName) prog_7_method_14_code (1 : Nat) (Option.some (Jvm.ClassFile.FieldType.object "java/lang/String"))) ∈ zG := zt_2 (List.mem_of_getElem? (i := 121) rfl) rfl
theorem q_370 : (Jvm.Cond.instanceMethod ({ cls := "YearBaskets$Reader", name := "isHere", desc := "(Ljava/lang/String;I)Z" } : Jvm.MethodName)) ∈ zG := zt_2 (List.mem_of_getElem? (i := 137) rfl) rfl
theorem q_371 : (Jvm.Cond.selects "YearBaskets$Reader" ({ cls := "YearBaskets$Reader", name := "isHere", desc := "(Ljava/lang/String;I)Z" } : Jvm.MethodName) ({ cls := "YearBaskets$Reader", name := "isHere", desc := "(Ljava/lang/String;I)Z" } : Jvm.MethodName)) ∈ zG := zG_s (List.mem_of_getElem? (i := 5) rfl) rfl
theorem q_372 : (Jvm.Cond.code ({ cls := "YearBaskets$Reader", name := "isHere", desc := "(Ljava/lang/String;I)Z" } : Jvm.MethodName) prog_7_method_13_code (4 : Nat) (Option.some Jvm.ClassFile.FieldType.boolean)) ∈ zG := zt_2 (List.mem_of_getElem? (i := 138) rfl) rfl
theorem q_373 : (Jvm.Cond.methodLink "YearBaskets$Reader" (91 : Nat) ({ cls := "java/lang/String", name := "charAt", desc := "(I)C" } : Jvm.MethodName)) ∈ zG := zt_2 (List.mem_of_getElem? (i := 149) rfl) rfl
theorem q_374 : (Jvm.Cond.methodLink "YearBaskets$Reader" (87 : Nat) ({ cls := "java/lang/String", name := "length", desc := "()I" } : Jvm.MethodName)) ∈ zG := zt_2 (List.mem_of_getElem? (i := 139) rfl) rfl
theorem q_375 : (Jvm.Cond.instanceMethod ({ cls := "YearBaskets$Reader", name := "wordHere", desc := "(I)I" } : Jvm.MethodName)) ∈ zG := zt_2 (List.mem_of_getElem? (i := 117) rfl) rfl
theorem q_376 : (Jvm.Cond.selects "YearBaskets$Reader" ({ cls := "YearBaskets$Reader", name := "wordHere", desc := "(I)I" } : Jvm.MethodName) ({ cls := "YearBaskets$Reader", name := "wordHere", desc := "(I)I" } : Jvm.MethodName)) ∈ zG := zG_s (List.mem_of_getElem? (i := 4) rfl) rfl
theorem q_377 : (Jvm.Cond.code ({ cls := "YearBaskets$Reader", name := "wordHere", desc := "(I)I" } : Jvm.MethodName) prog_7_method_12_code (3 : Nat) (Option.some Jvm.ClassFile.FieldType.int)) ∈ zG := zt_2 (List.mem_of_getElem? (i := 118) rfl) rfl
theorem q_378 : (Jvm.Cond.methodLink "YearBaskets$Reader" (83 : Nat) ({ cls := "YearBaskets$Reader", name := "isHere", desc := "(Ljava/lang/String;I)Z" } : Jvm.MethodName)) ∈ zG := zt_2 (List.mem_of_getElem? (i := 135) rfl) rfl
theorem q_379 : (Jvm.Cond.methodLink "YearBaskets$Reader" (79 : Nat) ({ cls := "YearBaskets$Reader", name := "nameOf", desc := "(I)Ljava/lang/String;" } : Jvm.MethodName)) ∈ zG := zt_2 (List.mem_of_getElem? (i := 119) rfl) rfl
theorem q_380 : (Jvm.Cond.instanceMethod ({ cls := "YearBaskets$Reader", name := "blame", desc := "(I)V" } : Jvm.MethodName)) ∈ zG := zt_2 (List.mem_of_getElem? (i := 189) rfl) rfl
theorem q_381 : (Jvm.Cond.selects "YearBaskets$Reader" ({ cls := "YearBaskets$Reader", name := "blame", desc := "(I)V" } : Jvm.MethodName) ({ cls := "YearBaskets$Reader", name := "blame", desc := "(I)V" } : Jvm.MethodName)) ∈ zG := zG_s (List.mem_of_getElem? (i := 6) rfl) rfl
theorem q_382 : (Jvm.Cond.code ({ cls := "YearBaskets$Reader", name := "blame", desc := "(I)V" } : Jvm.MethodName) prog_7_method_4_code (2 : Nat) (Option.none : Option Jvm.ClassFile.FieldType)) ∈ zG := zt_2 (List.mem_of_getElem? (i := 190) rfl) rfl
theorem q_383 : (Jvm.Cond.fieldLink "YearBaskets$Reader" (25 : Nat) "YearBaskets$Reader" "faultPlace" "I") ∈ zG := zt_1 (List.mem_of_getElem? (i := 69) rfl) rfl
theorem q_384 : (Jvm.Cond.fieldLink "YearBaskets$Reader" (22 : Nat) "YearBaskets$Reader" "faultKind" "I") ∈ zG := zt_1 (List.mem_of_getElem? (i := 67) rfl) rfl
theorem q_385 : (Jvm.Cond.instanceMethod ({ cls := "YearBaskets$Reader", name := "readYear", desc := "(I)V" } : Jvm.MethodName)) ∈ zG := zt_2 (List.mem_of_getElem? (i := 197) rfl) rfl
theorem q_386 : (Jvm.Cond.selects "YearBaskets$Reader" ({ cls := "YearBaskets$Reader", name := "readYear", desc := "(I)V" } : Jvm.MethodName) ({ cls := "YearBaskets$Reader", name := "readYear", desc := "(I)V" } : Jvm.MethodName)) ∈ zG := zG_s (List.mem_of_getElem? (i := 7) rfl) rfl
theorem q_387 : (Jvm.Cond.code ({ cls := "YearBaskets$Reader", name := "readYear", desc := "(I)V" } : Jvm.MethodName) prog_7_method_9_code (3 : Nat) (Option.none : Option Jvm.ClassFile.FieldType)) ∈ zG := zt_2 (List.mem_of_getElem? (i := 198) rfl) rfl
theorem q_388 : (Jvm.Cond.methodLink "YearBaskets$Reader" (44 : Nat) ({ cls := "YearBaskets$Reader", name := "blame", desc := "(I)V" } : Jvm.MethodName)) ∈ zG := zt_2 (List.mem_of_getElem? (i := 187) rfl) rfl
theorem q_389 : (Jvm.Cond.methodLink "YearBaskets$Reader" (72 : Nat) ({ cls := "YearBaskets$Plan", name := "mark", desc := "(II)V" } : Jvm.MethodName)) ∈ zG := zt_2 (List.mem_of_getElem? (i := 200) rfl) rfl
theorem q_390 : (Jvm.Cond.fieldLink "YearBaskets$Reader" (28 : Nat) "YearBaskets$Reader" "plan" "LYearBaskets$Plan;") ∈ zG := zt_1 (List.mem_of_getElem? (i := 71) rfl) rfl
theorem q_391 : (Jvm.Cond.methodLinkNest "YearBaskets$Reader" (75 : Nat) ({ cls := "YearBaskets", name := "isNoYear", desc := "(I)Z" } : Jvm.MethodName) "YearBaskets") ∈ zNw := List.mem_of_getElem? (i := 22) rfl
theorem q_392 : (Jvm.Cond.methodLink "YearBaskets$Reader" (41 : Nat) ({ cls := "YearBaskets$Reader", name := "skipBlanks", desc := "()V" } : Jvm.MethodName)) ∈ zG := zt_2 (List.mem_of_getElem? (i := 103) rfl) rfl
theorem q_393 : (Jvm.Cond.instanceMethod ({ cls := "YearBaskets$Reader", name := "readSign", desc := "(C)V" } : Jvm.MethodName)) ∈ zG := zt_2 (List.mem_of_getElem? (i := 210) rfl) rfl
theorem q_394 : (Jvm.Cond.selects "YearBaskets$Reader" ({ cls := "YearBaskets$Reader", name := "readSign", desc := "(C)V" } : Jvm.MethodName) ({ cls := "YearBaskets$Reader", name := "readSign", desc := "(C)V" } : Jvm.MethodName)) ∈ zG := zG_s (List.mem_of_getElem? (i := 9) rfl) rfl
theorem q_395 : (Jvm.Cond.code ({ cls := "YearBaskets$Reader", name := "readSign", desc := "(C)V" } : Jvm.MethodName) prog_7_method_10_code (2 : Nat) (Option.none : Option Jvm.ClassFile.FieldType)) ∈ zG := zt_2 (List.mem_of_getElem? (i := 211) rfl) rfl
theorem q_396 : (Jvm.Cond.instanceMethod ({ cls := "YearBaskets$Reader", name := "readPair", desc := "(II)V" } : Jvm.MethodName)) ∈ zG := zt_2 (List.mem_of_getElem? (i := 206) rfl) rfl
theorem q_397 : (Jvm.Cond.selects "YearBaskets$Reader" ({ cls := "YearBaskets$Reader", name := "readPair", desc := "(II)V" } : Jvm.MethodName) ({ cls := "YearBaskets$Reader", name := "readPair", desc := "(II)V" } : Jvm.MethodName)) ∈ zG := zG_s (List.mem_of_getElem? (i := 8) rfl) rfl
theorem q_398 : (Jvm.Cond.code ({ cls := "YearBaskets$Reader", name := "readPair", desc := "(II)V" } : Jvm.MethodName) prog_7_method_8_code (3 : Nat) (Option.none : Option Jvm.ClassFile.FieldType)) ∈ zG := zt_2 (List.mem_of_getElem? (i := 207) rfl) rfl
theorem q_399 : (Jvm.Cond.methodLink "YearBaskets$Reader" (68 : Nat) ({ cls := "YearBaskets$Reader", name := "readSign", desc := "(C)V" } : Jvm.MethodName)) ∈ zG := zt_2 (List.mem_of_getElem? (i := 208) rfl) rfl
theorem q_400 : (Jvm.Cond.methodLink "YearBaskets$Reader" (37 : Nat) ({ cls := "YearBaskets$Reader", name := "readTerm", desc := "(I)V" } : Jvm.MethodName)) ∈ zG := zt_2 (List.mem_of_getElem? (i := 99) rfl) rfl
theorem q_401 : (Jvm.Cond.fieldLinkNest "YearBaskets$Reader" (32 : Nat) "YearBaskets$Plan" "size" "I" "YearBaskets") ∈ zNw := List.mem_of_getElem? (i := 2) rfl
theorem q_402 : (Jvm.Cond.instanceMethod ({ cls := "YearBaskets$Reader", name := "readTerm", desc := "(I)V" } : Jvm.MethodName)) ∈ zG := zt_2 (List.mem_of_getElem? (i := 101) rfl) rfl
theorem q_403 : (Jvm.Cond.selects "YearBaskets$Reader" ({ cls := "YearBaskets$Reader", name := "readTerm", desc := "(I)V" } : Jvm.MethodName) ({ cls := "YearBaskets$Reader", name := "readTerm", desc := "(I)V" } : Jvm.MethodName)) ∈ zG := zG_s (List.mem_of_getElem? (i := 0) rfl) rfl
theorem q_404 : (Jvm.Cond.code ({ cls := "YearBaskets$Reader", name := "readTerm", desc := "(I)V" } : Jvm.MethodName) prog_7_method_7_code (5 : Nat) (Option.none : Option Jvm.ClassFile.FieldType)) ∈ zG := zt_2 (List.mem_of_getElem? (i := 102) rfl) rfl
theorem q_405 : (Jvm.Cond.methodLink "YearBaskets$Reader" (64 : Nat) ({ cls := "YearBaskets$Reader", name := "readPair", desc := "(II)V" } : Jvm.MethodName)) ∈ zG := zt_2 (List.mem_of_getElem? (i := 204) rfl) rfl
theorem q_406 : (Jvm.Cond.methodLink "YearBaskets$Reader" (61 : Nat) ({ cls := "YearBaskets$Reader", name := "readYear", desc := "(I)V" } : Jvm.MethodName)) ∈ zG := zt_2 (List.mem_of_getElem? (i := 195) rfl) rfl
theorem q_407 : (Jvm.Cond.methodLink "YearBaskets$Reader" (58 : Nat) ({ cls := "YearBaskets$Plan", name := "add", desc := "(I)I" } : Jvm.MethodName)) ∈ zG := zt_2 (List.mem_of_getElem? (i := 191) rfl) rfl
theorem q_408 : (Jvm.Cond.methodLink "YearBaskets$Reader" (55 : Nat) ({ cls := "YearBaskets$Reader", name := "wordHere", desc := "(I)I" } : Jvm.MethodName)) ∈ zG := zt_2 (List.mem_of_getElem? (i := 115) rfl) rfl
theorem q_409 : (Jvm.Cond.methodLink "YearBaskets$Reader" (51 : Nat) ({ cls := "YearBaskets$Reader", name := "lettersHere", desc := "()I" } : Jvm.MethodName)) ∈ zG := zt_2 (List.mem_of_getElem? (i := 111) rfl) rfl
theorem q_410 : (Jvm.Cond.instanceMethod ({ cls := "YearBaskets$Reader", name := "read", desc := "(LYearBaskets$Plan;)V" } : Jvm.MethodName)) ∈ zG := zt_2 (List.mem_of_getElem? (i := 96) rfl) rfl
theorem q_411 : (Jvm.Cond.selects "YearBaskets$Reader" ({ cls := "YearBaskets$Reader", name := "read", desc := "(LYearBaskets$Plan;)V" } : Jvm.MethodName) ({ cls := "YearBaskets$Reader", name := "read", desc := "(LYearBaskets$Plan;)V" } : Jvm.MethodName)) ∈ zG := zt_2 (List.mem_of_getElem? (i := 97) rfl) rfl
theorem q_412 : (Jvm.Cond.code ({ cls := "YearBaskets$Reader", name := "read", desc := "(LYearBaskets$Plan;)V" } : Jvm.MethodName) prog_7_method_3_code (2 : Nat) (Option.none : Option Jvm.ClassFile.FieldType)) ∈ zG := zt_2 (List.mem_of_getElem? (i := 98) rfl) rfl
abbrev b_R_append : ByteArray := prog_7_method_2_code
abbrev y_R_append : MethodName := ⟨"YearBaskets$Reader", "append", "(I)V"⟩
abbrev b_R_byteAt : ByteArray := prog_7_method_5_code
abbrev y_R_byteAt : MethodName := ⟨"YearBaskets$Reader", "byteAt", "(I)I"⟩
abbrev b_R_skipBlanks : ByteArray := prog_7_method_6_code
abbrev y_R_skipBlanks : MethodName := ⟨"YearBaskets$Reader", "skipBlanks", "()V"⟩
abbrev b_R_lettersHere : ByteArray := prog_7_method_11_code
abbrev y_R_lettersHere : MethodName := ⟨"YearBaskets$Reader", "lettersHere", "()I"⟩
abbrev b_R_nameOf : ByteArray := prog_7_method_14_code
abbrev y_R_nameOf : MethodName := ⟨"YearBaskets$Reader", "nameOf", "(I)Ljava/lang/String;"⟩
abbrev b_R_isHere : ByteArray := prog_7_method_13_code
abbrev y_R_isHere : MethodName := ⟨"YearBaskets$Reader", "isHere", "(Ljava/lang/String;I)Z"⟩
abbrev b_R_wordHere : ByteArray := prog_7_method_12_code
abbrev y_R_wordHere : MethodName := ⟨"YearBaskets$Reader", "wordHere", "(I)I"⟩
abbrev b_R_blame : ByteArray := prog_7_method_4_code
abbrev y_R_blame : MethodName := ⟨"YearBaskets$Reader", "blame", "(I)V"⟩
abbrev b_R_readYear : ByteArray := prog_7_method_9_code
abbrev y_R_readYear : MethodName := ⟨"YearBaskets$Reader", "readYear", "(I)V"⟩
abbrev b_R_readSign : ByteArray := prog_7_method_10_code
abbrev y_R_readSign : MethodName := ⟨"YearBaskets$Reader", "readSign", "(C)V"⟩
abbrev b_R_readPair : ByteArray := prog_7_method_8_code
abbrev y_R_readPair : MethodName := ⟨"YearBaskets$Reader", "readPair", "(II)V"⟩
abbrev b_R_readTerm : ByteArray := prog_7_method_7_code
abbrev y_R_readTerm : MethodName := ⟨"YearBaskets$Reader", "readTerm", "(I)V"⟩
abbrev b_R_read : ByteArray := prog_7_method_3_code
abbrev y_R_read : MethodName := ⟨"YearBaskets$Reader", "read", "(LYearBaskets$Plan;)V"⟩
theorem w_R_append : Cond.code y_R_append b_R_append 2 (none) ∈ zG ∧ (Cond.instanceMethod y_R_append ∈ zG ∧ Cond.selects y_R_append.cls y_R_append y_R_append ∈ zG) ∧ Cond.initialized y_R_append.cls ∈ zG ∧ zY y_R_append 1 := ⟨q_353, ⟨q_351, q_352⟩, q_354, by decide +kernel⟩
theorem w_R_byteAt : Cond.code y_R_byteAt b_R_byteAt 2 (some .int) ∈ zG ∧ (Cond.instanceMethod y_R_byteAt ∈ zG ∧ Cond.selects y_R_byteAt.cls y_R_byteAt y_R_byteAt ∈ zG) ∧ Cond.initialized y_R_byteAt.cls ∈ zG ∧ zY y_R_byteAt 1 := ⟨q_359, ⟨q_357, q_358⟩, q_354, by decide +kernel⟩
theorem w_R_skipBlanks : Cond.code y_R_skipBlanks b_R_skipBlanks 2 (none) ∈ zG ∧ (Cond.instanceMethod y_R_skipBlanks ∈ zG ∧ Cond.selects y_R_skipBlanks.cls y_R_skipBlanks y_R_skipBlanks ∈ zG) ∧ Cond.initialized y_R_skipBlanks.cls ∈ zG ∧ zY y_R_skipBlanks 0 := ⟨q_362, ⟨q_360, q_361⟩, q_354, by decide +kernel⟩
theorem w_R_lettersHere : Cond.code y_R_lettersHere b_R_lettersHere 3 (some .int) ∈ zG ∧ (Cond.instanceMethod y_R_lettersHere ∈ zG ∧ Cond.selects y_R_lettersHere.cls y_R_lettersHere y_R_lettersHere ∈ zG) ∧ Cond.initialized y_R_lettersHere.cls ∈ zG ∧ zY y_R_lettersHere 0 := ⟨q_367, ⟨q_365, q_366⟩, q_354, by decide +kernel⟩
theorem w_R_nameOf : Cond.code y_R_nameOf b_R_nameOf 1 (some (.object "java/lang/String")) ∈ zG ∧ Cond.static y_R_nameOf ∈ zG ∧ Cond.initialized y_R_nameOf.cls ∈ zG ∧ zY y_R_nameOf 1 := ⟨q_369, q_368, q_354, by decide +kernel⟩
theorem w_R_isHere : Cond.code y_R_isHere b_R_isHere 4 (some .boolean) ∈ zG ∧ (Cond.instanceMethod y_R_isHere ∈ zG ∧ Cond.selects y_R_isHere.cls y_R_isHere y_R_isHere ∈ zG) ∧ Cond.initialized y_R_isHere.cls ∈ zG ∧ zY y_R_isHere 2 := ⟨q_372, ⟨q_370, q_371⟩, q_354, by decide +kernel⟩
theorem w_R_wordHere : Cond.code y_R_wordHere b_R_wordHere 3 (some .int) ∈ zG ∧ (Cond.instanceMethod y_R_wordHere ∈ zG ∧ Cond.selects y_R_wordHere.cls y_R_wordHere y_R_wordHere ∈ zG) ∧ Cond.initialized y_R_wordHere.cls ∈ zG ∧ zY y_R_wordHere 1 := ⟨q_377, ⟨q_375, q_376⟩, q_354, by decide +kernel⟩
theorem w_R_blame : Cond.code y_R_blame b_R_blame 2 (none) ∈ zG ∧ (Cond.instanceMethod y_R_blame ∈ zG ∧ Cond.selects y_R_blame.cls y_R_blame y_R_blame ∈ zG) ∧ Cond.initialized y_R_blame.cls ∈ zG ∧ zY y_R_blame 1 := ⟨q_382, ⟨q_380, q_381⟩, q_354, by decide +kernel⟩
theorem w_R_readYear : Cond.code y_R_readYear b_R_readYear 3 (none) ∈ zG ∧ (Cond.instanceMethod y_R_readYear ∈ zG ∧ Cond.selects y_R_readYear.cls y_R_readYear y_R_readYear ∈ zG) ∧ Cond.initialized y_R_readYear.cls ∈ zG ∧ zY y_R_readYear 1 := ⟨q_387, ⟨q_385, q_386⟩, q_354, by decide +kernel⟩
theorem w_R_readSign : Cond.code y_R_readSign b_R_readSign 2 (none) ∈ zG ∧ (Cond.instanceMethod y_R_readSign ∈ zG ∧ Cond.selects y_R_readSign.cls y_R_readSign y_R_readSign ∈ zG) ∧ Cond.initialized y_R_readSign.cls ∈ zG ∧ zY y_R_readSign 1 := ⟨q_395, ⟨q_393, q_394⟩, q_354, by decide +kernel⟩
theorem w_R_readPair : Cond.code y_R_readPair b_R_readPair 3 (none) ∈ zG ∧ (Cond.instanceMethod y_R_readPair ∈ zG ∧ Cond.selects y_R_readPair.cls y_R_readPair y_R_readPair ∈ zG) ∧ Cond.initialized y_R_readPair.cls ∈ zG ∧ zY y_R_readPair 2 := ⟨q_398, ⟨q_396, q_397⟩, q_354, by decide +kernel⟩
theorem w_R_readTerm : Cond.code y_R_readTerm b_R_readTerm 5 (none) ∈ zG ∧ (Cond.instanceMethod y_R_readTerm ∈ zG ∧ Cond.selects y_R_readTerm.cls y_R_readTerm y_R_readTerm ∈ zG) ∧ Cond.initialized y_R_readTerm.cls ∈ zG ∧ zY y_R_readTerm 1 := ⟨q_404, ⟨q_402, q_403⟩, q_354, by decide +kernel⟩
theorem w_R_read : Cond.code y_R_read b_R_read 2 (none) ∈ zG ∧ (Cond.instanceMethod y_R_read ∈ zG ∧ Cond.selects y_R_read.cls y_R_read y_R_read ∈ zG) ∧ Cond.initialized y_R_read.cls ∈ zG ∧ zY y_R_read 1 := ⟨q_412, ⟨q_410, q_411⟩, q_354, by decide +kernel⟩
theorem d_R_append_0 : decode b_R_append 0 = .ok (.aload_n 0, 1) := by decide +kernel
theorem d_R_append_1 : decode b_R_append 1 = .ok (.getfield 15, 3) := by decide +kernel
theorem d_R_append_4 : decode b_R_append 4 = .ok (.ifCond .lt 32, 3) := by decide +kernel
theorem d_R_append_7 : decode b_R_append 7 = .ok (.aload_n 0, 1) := by decide +kernel
theorem d_R_append_8 : decode b_R_append 8 = .ok (.getfield 15, 3) := by decide +kernel
theorem d_R_append_11 : decode b_R_append 11 = .ok (.bipush 60, 2) := by decide +kernel
theorem d_R_append_13 : decode b_R_append 13 = .ok (.if_icmp .ge 23, 3) := by decide +kernel
theorem d_R_append_16 : decode b_R_append 16 = .ok (.aload_n 0, 1) := by decide +kernel
theorem d_R_append_17 : decode b_R_append 17 = .ok (.getfield 9, 3) := by decide +kernel
theorem d_R_append_20 : decode b_R_append 20 = .ok (.aload_n 0, 1) := by decide +kernel
theorem d_R_append_21 : decode b_R_append 21 = .ok (.getfield 15, 3) := by decide +kernel
theorem d_R_append_24 : decode b_R_append 24 = .ok (.iload_n 1, 1) := by decide +kernel
theorem d_R_append_25 : decode b_R_append 25 = .ok (.iastore, 1) := by decide +kernel
theorem d_R_append_26 : decode b_R_append 26 = .ok (.aload_n 0, 1) := by decide +kernel
theorem d_R_append_27 : decode b_R_append 27 = .ok (.dup, 1) := by decide +kernel
theorem d_R_append_28 : decode b_R_append 28 = .ok (.getfield 15, 3) := by decide +kernel
theorem d_R_append_31 : decode b_R_append 31 = .ok (.iconst 1, 1) := by decide +kernel
theorem d_R_append_32 : decode b_R_append 32 = .ok (.iadd, 1) := by decide +kernel
theorem d_R_append_33 : decode b_R_append 33 = .ok (.putfield 15, 3) := by decide +kernel
theorem d_R_append_36 : decode b_R_append 36 = .ok (.return_, 1) := by decide +kernel
theorem d_R_byteAt_0 : decode b_R_byteAt 0 = .ok (.iload_n 1, 1) := by decide +kernel
theorem d_R_byteAt_1 : decode b_R_byteAt 1 = .ok (.ifCond .lt 17, 3) := by decide +kernel
theorem d_R_byteAt_4 : decode b_R_byteAt 4 = .ok (.iload_n 1, 1) := by decide +kernel
theorem d_R_byteAt_5 : decode b_R_byteAt 5 = .ok (.aload_n 0, 1) := by decide +kernel
theorem d_R_byteAt_6 : decode b_R_byteAt 6 = .ok (.getfield 15, 3) := by decide +kernel
theorem d_R_byteAt_9 : decode b_R_byteAt 9 = .ok (.if_icmp .ge 9, 3) := by decide +kernel
theorem d_R_byteAt_12 : decode b_R_byteAt 12 = .ok (.iload_n 1, 1) := by decide +kernel
theorem d_R_byteAt_13 : decode b_R_byteAt 13 = .ok (.bipush 60, 2) := by decide +kernel
theorem d_R_byteAt_15 : decode b_R_byteAt 15 = .ok (.if_icmp .lt 7, 3) := by decide +kernel
theorem d_R_byteAt_18 : decode b_R_byteAt 18 = .ok (.iconst (-1), 1) := by decide +kernel
theorem d_R_byteAt_19 : decode b_R_byteAt 19 = .ok (.goto 9, 3) := by decide +kernel
theorem d_R_byteAt_22 : decode b_R_byteAt 22 = .ok (.aload_n 0, 1) := by decide +kernel
theorem d_R_byteAt_23 : decode b_R_byteAt 23 = .ok (.getfield 9, 3) := by decide +kernel
theorem d_R_byteAt_26 : decode b_R_byteAt 26 = .ok (.iload_n 1, 1) := by decide +kernel
theorem d_R_byteAt_27 : decode b_R_byteAt 27 = .ok (.iaload, 1) := by decide +kernel
theorem d_R_byteAt_28 : decode b_R_byteAt 28 = .ok (.ireturn, 1) := by decide +kernel
theorem d_R_skipBlanks_0 : decode b_R_skipBlanks 0 = .ok (.iconst 0, 1) := by decide +kernel
theorem d_R_skipBlanks_1 : decode b_R_skipBlanks 1 = .ok (.istore_n 1, 1) := by decide +kernel
theorem d_R_skipBlanks_2 : decode b_R_skipBlanks 2 = .ok (.iload_n 1, 1) := by decide +kernel
theorem d_R_skipBlanks_3 : decode b_R_skipBlanks 3 = .ok (.bipush 60, 2) := by decide +kernel
theorem d_R_skipBlanks_5 : decode b_R_skipBlanks 5 = .ok (.if_icmp .ge 32, 3) := by decide +kernel
theorem d_R_skipBlanks_8 : decode b_R_skipBlanks 8 = .ok (.aload_n 0, 1) := by decide +kernel
theorem d_R_skipBlanks_9 : decode b_R_skipBlanks 9 = .ok (.aload_n 0, 1) := by decide +kernel
theorem d_R_skipBlanks_10 : decode b_R_skipBlanks 10 = .ok (.getfield 19, 3) := by decide +kernel
theorem d_R_skipBlanks_13 : decode b_R_skipBlanks 13 = .ok (.invokevirtual 47, 3) := by decide +kernel
theorem d_R_skipBlanks_16 : decode b_R_skipBlanks 16 = .ok (.bipush 32, 2) := by decide +kernel
theorem d_R_skipBlanks_18 : decode b_R_skipBlanks 18 = .ok (.if_icmp .ne 19, 3) := by decide +kernel
theorem d_R_skipBlanks_21 : decode b_R_skipBlanks 21 = .ok (.aload_n 0, 1) := by decide +kernel
theorem d_R_skipBlanks_22 : decode b_R_skipBlanks 22 = .ok (.dup, 1) := by decide +kernel
theorem d_R_skipBlanks_23 : decode b_R_skipBlanks 23 = .ok (.getfield 19, 3) := by decide +kernel
theorem d_R_skipBlanks_26 : decode b_R_skipBlanks 26 = .ok (.iconst 1, 1) := by decide +kernel
theorem d_R_skipBlanks_27 : decode b_R_skipBlanks 27 = .ok (.iadd, 1) := by decide +kernel
theorem d_R_skipBlanks_28 : decode b_R_skipBlanks 28 = .ok (.putfield 19, 3) := by decide +kernel
theorem d_R_skipBlanks_31 : decode b_R_skipBlanks 31 = .ok (.iinc 1 1, 3) := by decide +kernel
theorem d_R_skipBlanks_34 : decode b_R_skipBlanks 34 = .ok (.goto (-32), 3) := by decide +kernel
theorem d_R_skipBlanks_37 : decode b_R_skipBlanks 37 = .ok (.return_, 1) := by decide +kernel
theorem d_R_lettersHere_0 : decode b_R_lettersHere 0 = .ok (.iconst 0, 1) := by decide +kernel
theorem d_R_lettersHere_1 : decode b_R_lettersHere 1 = .ok (.istore_n 1, 1) := by decide +kernel
theorem d_R_lettersHere_2 : decode b_R_lettersHere 2 = .ok (.iconst 0, 1) := by decide +kernel
theorem d_R_lettersHere_3 : decode b_R_lettersHere 3 = .ok (.istore_n 2, 1) := by decide +kernel
theorem d_R_lettersHere_4 : decode b_R_lettersHere 4 = .ok (.iload_n 2, 1) := by decide +kernel
theorem d_R_lettersHere_5 : decode b_R_lettersHere 5 = .ok (.bipush 60, 2) := by decide +kernel
theorem d_R_lettersHere_7 : decode b_R_lettersHere 7 = .ok (.if_icmp .ge 42, 3) := by decide +kernel
theorem d_R_lettersHere_10 : decode b_R_lettersHere 10 = .ok (.aload_n 0, 1) := by decide +kernel
theorem d_R_lettersHere_11 : decode b_R_lettersHere 11 = .ok (.aload_n 0, 1) := by decide +kernel
theorem d_R_lettersHere_12 : decode b_R_lettersHere 12 = .ok (.getfield 19, 3) := by decide +kernel
theorem d_R_lettersHere_15 : decode b_R_lettersHere 15 = .ok (.iload_n 2, 1) := by decide +kernel
theorem d_R_lettersHere_16 : decode b_R_lettersHere 16 = .ok (.iadd, 1) := by decide +kernel
theorem d_R_lettersHere_17 : decode b_R_lettersHere 17 = .ok (.invokevirtual 47, 3) := by decide +kernel
theorem d_R_lettersHere_20 : decode b_R_lettersHere 20 = .ok (.bipush 97, 2) := by decide +kernel
theorem d_R_lettersHere_22 : decode b_R_lettersHere 22 = .ok (.if_icmp .lt 27, 3) := by decide +kernel
theorem d_R_lettersHere_25 : decode b_R_lettersHere 25 = .ok (.aload_n 0, 1) := by decide +kernel
theorem d_R_lettersHere_26 : decode b_R_lettersHere 26 = .ok (.aload_n 0, 1) := by decide +kernel
theorem d_R_lettersHere_27 : decode b_R_lettersHere 27 = .ok (.getfield 19, 3) := by decide +kernel
theorem d_R_lettersHere_30 : decode b_R_lettersHere 30 = .ok (.iload_n 2, 1) := by decide +kernel
theorem d_R_lettersHere_31 : decode b_R_lettersHere 31 = .ok (.iadd, 1) := by decide +kernel
theorem d_R_lettersHere_32 : decode b_R_lettersHere 32 = .ok (.invokevirtual 47, 3) := by decide +kernel
theorem d_R_lettersHere_35 : decode b_R_lettersHere 35 = .ok (.bipush 122, 2) := by decide +kernel
theorem d_R_lettersHere_37 : decode b_R_lettersHere 37 = .ok (.if_icmp .gt 12, 3) := by decide +kernel
theorem d_R_lettersHere_40 : decode b_R_lettersHere 40 = .ok (.iinc 1 1, 3) := by decide +kernel
theorem d_R_lettersHere_43 : decode b_R_lettersHere 43 = .ok (.iinc 2 1, 3) := by decide +kernel
theorem d_R_lettersHere_46 : decode b_R_lettersHere 46 = .ok (.goto (-42), 3) := by decide +kernel
theorem d_R_lettersHere_49 : decode b_R_lettersHere 49 = .ok (.iload_n 1, 1) := by decide +kernel
theorem d_R_lettersHere_50 : decode b_R_lettersHere 50 = .ok (.ireturn, 1) := by decide +kernel
theorem d_R_nameOf_0 : decode b_R_nameOf 0 = .ok (.iload_n 0, 1) := by decide +kernel
theorem d_R_nameOf_1 : decode b_R_nameOf 1 = .ok (.tableswitch 99 0 11 #[63, 66, 69, 72, 75, 78, 81, 84, 87, 90, 93, 96], 63) := by decide +kernel
theorem d_R_nameOf_64 : decode b_R_nameOf 64 = .ok (.ldc 95, 2) := by decide +kernel
theorem d_R_nameOf_66 : decode b_R_nameOf 66 = .ok (.areturn, 1) := by decide +kernel
theorem d_R_nameOf_67 : decode b_R_nameOf 67 = .ok (.ldc 97, 2) := by decide +kernel
theorem d_R_nameOf_69 : decode b_R_nameOf 69 = .ok (.areturn, 1) := by decide +kernel
theorem d_R_nameOf_70 : decode b_R_nameOf 70 = .ok (.ldc 99, 2) := by decide +kernel
theorem d_R_nameOf_72 : decode b_R_nameOf 72 = .ok (.areturn, 1) := by decide +kernel
theorem d_R_nameOf_73 : decode b_R_nameOf 73 = .ok (.ldc 101, 2) := by decide +kernel
theorem d_R_nameOf_75 : decode b_R_nameOf 75 = .ok (.areturn, 1) := by decide +kernel
theorem d_R_nameOf_76 : decode b_R_nameOf 76 = .ok (.ldc 103, 2) := by decide +kernel
theorem d_R_nameOf_78 : decode b_R_nameOf 78 = .ok (.areturn, 1) := by decide +kernel
theorem d_R_nameOf_79 : decode b_R_nameOf 79 = .ok (.ldc 105, 2) := by decide +kernel
theorem d_R_nameOf_81 : decode b_R_nameOf 81 = .ok (.areturn, 1) := by decide +kernel
theorem d_R_nameOf_82 : decode b_R_nameOf 82 = .ok (.ldc 107, 2) := by decide +kernel
theorem d_R_nameOf_84 : decode b_R_nameOf 84 = .ok (.areturn, 1) := by decide +kernel
theorem d_R_nameOf_85 : decode b_R_nameOf 85 = .ok (.ldc 109, 2) := by decide +kernel
theorem d_R_nameOf_87 : decode b_R_nameOf 87 = .ok (.areturn, 1) := by decide +kernel
theorem d_R_nameOf_88 : decode b_R_nameOf 88 = .ok (.ldc 111, 2) := by decide +kernel
theorem d_R_nameOf_90 : decode b_R_nameOf 90 = .ok (.areturn, 1) := by decide +kernel
theorem d_R_nameOf_91 : decode b_R_nameOf 91 = .ok (.ldc 113, 2) := by decide +kernel
theorem d_R_nameOf_93 : decode b_R_nameOf 93 = .ok (.areturn, 1) := by decide +kernel
theorem d_R_nameOf_94 : decode b_R_nameOf 94 = .ok (.ldc 115, 2) := by decide +kernel
theorem d_R_nameOf_96 : decode b_R_nameOf 96 = .ok (.areturn, 1) := by decide +kernel
theorem d_R_nameOf_97 : decode b_R_nameOf 97 = .ok (.ldc 117, 2) := by decide +kernel
theorem d_R_nameOf_99 : decode b_R_nameOf 99 = .ok (.areturn, 1) := by decide +kernel
theorem d_R_nameOf_100 : decode b_R_nameOf 100 = .ok (.ldc 119, 2) := by decide +kernel
theorem d_R_nameOf_102 : decode b_R_nameOf 102 = .ok (.areturn, 1) := by decide +kernel
theorem d_R_isHere_0 : decode b_R_isHere 0 = .ok (.aload_n 1, 1) := by decide +kernel
theorem d_R_isHere_1 : decode b_R_isHere 1 = .ok (.invokevirtual 87, 3) := by decide +kernel
theorem d_R_isHere_4 : decode b_R_isHere 4 = .ok (.iload_n 2, 1) := by decide +kernel
theorem d_R_isHere_5 : decode b_R_isHere 5 = .ok (.if_icmp .eq 5, 3) := by decide +kernel
theorem d_R_isHere_8 : decode b_R_isHere 8 = .ok (.iconst 0, 1) := by decide +kernel
theorem d_R_isHere_9 : decode b_R_isHere 9 = .ok (.ireturn, 1) := by decide +kernel
theorem d_R_isHere_10 : decode b_R_isHere 10 = .ok (.iconst 0, 1) := by decide +kernel
theorem d_R_isHere_11 : decode b_R_isHere 11 = .ok (.istore_n 3, 1) := by decide +kernel
theorem d_R_isHere_12 : decode b_R_isHere 12 = .ok (.iload_n 3, 1) := by decide +kernel
theorem d_R_isHere_13 : decode b_R_isHere 13 = .ok (.aload_n 1, 1) := by decide +kernel
theorem d_R_isHere_14 : decode b_R_isHere 14 = .ok (.invokevirtual 87, 3) := by decide +kernel
theorem d_R_isHere_17 : decode b_R_isHere 17 = .ok (.if_icmp .ge 29, 3) := by decide +kernel
theorem d_R_isHere_20 : decode b_R_isHere 20 = .ok (.aload_n 0, 1) := by decide +kernel
theorem d_R_isHere_21 : decode b_R_isHere 21 = .ok (.aload_n 0, 1) := by decide +kernel
theorem d_R_isHere_22 : decode b_R_isHere 22 = .ok (.getfield 19, 3) := by decide +kernel
theorem d_R_isHere_25 : decode b_R_isHere 25 = .ok (.iload_n 3, 1) := by decide +kernel
theorem d_R_isHere_26 : decode b_R_isHere 26 = .ok (.iadd, 1) := by decide +kernel
theorem d_R_isHere_27 : decode b_R_isHere 27 = .ok (.invokevirtual 47, 3) := by decide +kernel
theorem d_R_isHere_30 : decode b_R_isHere 30 = .ok (.aload_n 1, 1) := by decide +kernel
theorem d_R_isHere_31 : decode b_R_isHere 31 = .ok (.iload_n 3, 1) := by decide +kernel
theorem d_R_isHere_32 : decode b_R_isHere 32 = .ok (.invokevirtual 91, 3) := by decide +kernel
theorem d_R_isHere_35 : decode b_R_isHere 35 = .ok (.if_icmp .eq 5, 3) := by decide +kernel
theorem d_R_isHere_38 : decode b_R_isHere 38 = .ok (.iconst 0, 1) := by decide +kernel
theorem d_R_isHere_39 : decode b_R_isHere 39 = .ok (.ireturn, 1) := by decide +kernel
theorem d_R_isHere_40 : decode b_R_isHere 40 = .ok (.iinc 3 1, 3) := by decide +kernel
theorem d_R_isHere_43 : decode b_R_isHere 43 = .ok (.goto (-31), 3) := by decide +kernel
theorem d_R_isHere_46 : decode b_R_isHere 46 = .ok (.iconst 1, 1) := by decide +kernel
theorem d_R_isHere_47 : decode b_R_isHere 47 = .ok (.ireturn, 1) := by decide +kernel
theorem d_R_wordHere_0 : decode b_R_wordHere 0 = .ok (.iconst 0, 1) := by decide +kernel
theorem d_R_wordHere_1 : decode b_R_wordHere 1 = .ok (.istore_n 2, 1) := by decide +kernel
theorem d_R_wordHere_2 : decode b_R_wordHere 2 = .ok (.iload_n 2, 1) := by decide +kernel
theorem d_R_wordHere_3 : decode b_R_wordHere 3 = .ok (.bipush 13, 2) := by decide +kernel
theorem d_R_wordHere_5 : decode b_R_wordHere 5 = .ok (.if_icmp .ge 23, 3) := by decide +kernel
theorem d_R_wordHere_8 : decode b_R_wordHere 8 = .ok (.aload_n 0, 1) := by decide +kernel
theorem d_R_wordHere_9 : decode b_R_wordHere 9 = .ok (.iload_n 2, 1) := by decide +kernel
theorem d_R_wordHere_10 : decode b_R_wordHere 10 = .ok (.invokestatic 79, 3) := by decide +kernel
theorem d_R_wordHere_13 : decode b_R_wordHere 13 = .ok (.iload_n 1, 1) := by decide +kernel
theorem d_R_wordHere_14 : decode b_R_wordHere 14 = .ok (.invokevirtual 83, 3) := by decide +kernel
theorem d_R_wordHere_17 : decode b_R_wordHere 17 = .ok (.ifCond .eq 5, 3) := by decide +kernel
theorem d_R_wordHere_20 : decode b_R_wordHere 20 = .ok (.iload_n 2, 1) := by decide +kernel
theorem d_R_wordHere_21 : decode b_R_wordHere 21 = .ok (.ireturn, 1) := by decide +kernel
theorem d_R_wordHere_22 : decode b_R_wordHere 22 = .ok (.iinc 2 1, 3) := by decide +kernel
theorem d_R_wordHere_25 : decode b_R_wordHere 25 = .ok (.goto (-23), 3) := by decide +kernel
theorem d_R_wordHere_28 : decode b_R_wordHere 28 = .ok (.iconst (-1), 1) := by decide +kernel
theorem d_R_wordHere_29 : decode b_R_wordHere 29 = .ok (.ireturn, 1) := by decide +kernel
theorem d_R_blame_0 : decode b_R_blame 0 = .ok (.aload_n 0, 1) := by decide +kernel
theorem d_R_blame_1 : decode b_R_blame 1 = .ok (.iload_n 1, 1) := by decide +kernel
theorem d_R_blame_2 : decode b_R_blame 2 = .ok (.putfield 22, 3) := by decide +kernel
theorem d_R_blame_5 : decode b_R_blame 5 = .ok (.aload_n 0, 1) := by decide +kernel
theorem d_R_blame_6 : decode b_R_blame 6 = .ok (.aload_n 0, 1) := by decide +kernel
theorem d_R_blame_7 : decode b_R_blame 7 = .ok (.getfield 19, 3) := by decide +kernel
theorem d_R_blame_10 : decode b_R_blame 10 = .ok (.putfield 25, 3) := by decide +kernel
theorem d_R_blame_13 : decode b_R_blame 13 = .ok (.return_, 1) := by decide +kernel
theorem d_R_readYear_0 : decode b_R_readYear 0 = .ok (.aload_n 0, 1) := by decide +kernel
theorem d_R_readYear_1 : decode b_R_readYear 1 = .ok (.invokevirtual 41, 3) := by decide +kernel
theorem d_R_readYear_4 : decode b_R_readYear 4 = .ok (.aload_n 0, 1) := by decide +kernel
theorem d_R_readYear_5 : decode b_R_readYear 5 = .ok (.aload_n 0, 1) := by decide +kernel
theorem d_R_readYear_6 : decode b_R_readYear 6 = .ok (.getfield 19, 3) := by decide +kernel
theorem d_R_readYear_9 : decode b_R_readYear 9 = .ok (.invokevirtual 47, 3) := by decide +kernel
theorem d_R_readYear_12 : decode b_R_readYear 12 = .ok (.bipush 48, 2) := by decide +kernel
theorem d_R_readYear_14 : decode b_R_readYear 14 = .ok (.isub, 1) := by decide +kernel
theorem d_R_readYear_15 : decode b_R_readYear 15 = .ok (.istore_n 2, 1) := by decide +kernel
theorem d_R_readYear_16 : decode b_R_readYear 16 = .ok (.iload_n 2, 1) := by decide +kernel
theorem d_R_readYear_17 : decode b_R_readYear 17 = .ok (.invokestatic 75, 3) := by decide +kernel
theorem d_R_readYear_20 : decode b_R_readYear 20 = .ok (.ifCond .ne 10, 3) := by decide +kernel
theorem d_R_readYear_23 : decode b_R_readYear 23 = .ok (.aload_n 0, 1) := by decide +kernel
theorem d_R_readYear_24 : decode b_R_readYear 24 = .ok (.getfield 28, 3) := by decide +kernel
theorem d_R_readYear_27 : decode b_R_readYear 27 = .ok (.ifnonnull 9, 3) := by decide +kernel
theorem d_R_readYear_30 : decode b_R_readYear 30 = .ok (.aload_n 0, 1) := by decide +kernel
theorem d_R_readYear_31 : decode b_R_readYear 31 = .ok (.iconst 1, 1) := by decide +kernel
theorem d_R_readYear_32 : decode b_R_readYear 32 = .ok (.invokevirtual 44, 3) := by decide +kernel
theorem d_R_readYear_35 : decode b_R_readYear 35 = .ok (.return_, 1) := by decide +kernel
theorem d_R_readYear_36 : decode b_R_readYear 36 = .ok (.aload_n 0, 1) := by decide +kernel
theorem d_R_readYear_37 : decode b_R_readYear 37 = .ok (.getfield 28, 3) := by decide +kernel
theorem d_R_readYear_40 : decode b_R_readYear 40 = .ok (.iload_n 1, 1) := by decide +kernel
theorem d_R_readYear_41 : decode b_R_readYear 41 = .ok (.iload_n 2, 1) := by decide +kernel
theorem d_R_readYear_42 : decode b_R_readYear 42 = .ok (.invokevirtual 72, 3) := by decide +kernel
theorem d_R_readYear_45 : decode b_R_readYear 45 = .ok (.aload_n 0, 1) := by decide +kernel
theorem d_R_readYear_46 : decode b_R_readYear 46 = .ok (.dup, 1) := by decide +kernel
theorem d_R_readYear_47 : decode b_R_readYear 47 = .ok (.getfield 19, 3) := by decide +kernel
theorem d_R_readYear_50 : decode b_R_readYear 50 = .ok (.iconst 1, 1) := by decide +kernel
theorem d_R_readYear_51 : decode b_R_readYear 51 = .ok (.iadd, 1) := by decide +kernel
theorem d_R_readYear_52 : decode b_R_readYear 52 = .ok (.putfield 19, 3) := by decide +kernel
theorem d_R_readYear_55 : decode b_R_readYear 55 = .ok (.return_, 1) := by decide +kernel
theorem d_R_readSign_0 : decode b_R_readSign 0 = .ok (.aload_n 0, 1) := by decide +kernel
theorem d_R_readSign_1 : decode b_R_readSign 1 = .ok (.getfield 22, 3) := by decide +kernel
theorem d_R_readSign_4 : decode b_R_readSign 4 = .ok (.ifCond .eq 4, 3) := by decide +kernel
theorem d_R_readSign_7 : decode b_R_readSign 7 = .ok (.return_, 1) := by decide +kernel
theorem d_R_readSign_8 : decode b_R_readSign 8 = .ok (.aload_n 0, 1) := by decide +kernel
theorem d_R_readSign_9 : decode b_R_readSign 9 = .ok (.invokevirtual 41, 3) := by decide +kernel
theorem d_R_readSign_12 : decode b_R_readSign 12 = .ok (.aload_n 0, 1) := by decide +kernel
theorem d_R_readSign_13 : decode b_R_readSign 13 = .ok (.aload_n 0, 1) := by decide +kernel
theorem d_R_readSign_14 : decode b_R_readSign 14 = .ok (.getfield 19, 3) := by decide +kernel
theorem d_R_readSign_17 : decode b_R_readSign 17 = .ok (.invokevirtual 47, 3) := by decide +kernel
theorem d_R_readSign_20 : decode b_R_readSign 20 = .ok (.iload_n 1, 1) := by decide +kernel
theorem d_R_readSign_21 : decode b_R_readSign 21 = .ok (.if_icmp .ne 16, 3) := by decide +kernel
theorem d_R_readSign_24 : decode b_R_readSign 24 = .ok (.aload_n 0, 1) := by decide +kernel
theorem d_R_readSign_25 : decode b_R_readSign 25 = .ok (.dup, 1) := by decide +kernel
theorem d_R_readSign_26 : decode b_R_readSign 26 = .ok (.getfield 19, 3) := by decide +kernel
theorem d_R_readSign_29 : decode b_R_readSign 29 = .ok (.iconst 1, 1) := by decide +kernel
theorem d_R_readSign_30 : decode b_R_readSign 30 = .ok (.iadd, 1) := by decide +kernel
theorem d_R_readSign_31 : decode b_R_readSign 31 = .ok (.putfield 19, 3) := by decide +kernel
theorem d_R_readSign_34 : decode b_R_readSign 34 = .ok (.goto 8, 3) := by decide +kernel
theorem d_R_readSign_37 : decode b_R_readSign 37 = .ok (.aload_n 0, 1) := by decide +kernel
theorem d_R_readSign_38 : decode b_R_readSign 38 = .ok (.iconst 1, 1) := by decide +kernel
theorem d_R_readSign_39 : decode b_R_readSign 39 = .ok (.invokevirtual 44, 3) := by decide +kernel
theorem d_R_readSign_42 : decode b_R_readSign 42 = .ok (.return_, 1) := by decide +kernel
theorem d_R_readPair_0 : decode b_R_readPair 0 = .ok (.aload_n 0, 1) := by decide +kernel
theorem d_R_readPair_1 : decode b_R_readPair 1 = .ok (.bipush 40, 2) := by decide +kernel
theorem d_R_readPair_3 : decode b_R_readPair 3 = .ok (.invokevirtual 68, 3) := by decide +kernel
theorem d_R_readPair_6 : decode b_R_readPair 6 = .ok (.aload_n 0, 1) := by decide +kernel
theorem d_R_readPair_7 : decode b_R_readPair 7 = .ok (.iload_n 2, 1) := by decide +kernel
theorem d_R_readPair_8 : decode b_R_readPair 8 = .ok (.iconst 1, 1) := by decide +kernel
theorem d_R_readPair_9 : decode b_R_readPair 9 = .ok (.iadd, 1) := by decide +kernel
theorem d_R_readPair_10 : decode b_R_readPair 10 = .ok (.invokevirtual 37, 3) := by decide +kernel
theorem d_R_readPair_13 : decode b_R_readPair 13 = .ok (.aload_n 0, 1) := by decide +kernel
theorem d_R_readPair_14 : decode b_R_readPair 14 = .ok (.bipush 44, 2) := by decide +kernel
theorem d_R_readPair_16 : decode b_R_readPair 16 = .ok (.invokevirtual 68, 3) := by decide +kernel
theorem d_R_readPair_19 : decode b_R_readPair 19 = .ok (.aload_n 0, 1) := by decide +kernel
theorem d_R_readPair_20 : decode b_R_readPair 20 = .ok (.getfield 28, 3) := by decide +kernel
theorem d_R_readPair_23 : decode b_R_readPair 23 = .ok (.ifnull 18, 3) := by decide +kernel
theorem d_R_readPair_26 : decode b_R_readPair 26 = .ok (.aload_n 0, 1) := by decide +kernel
theorem d_R_readPair_27 : decode b_R_readPair 27 = .ok (.getfield 28, 3) := by decide +kernel
theorem d_R_readPair_30 : decode b_R_readPair 30 = .ok (.iload_n 1, 1) := by decide +kernel
theorem d_R_readPair_31 : decode b_R_readPair 31 = .ok (.aload_n 0, 1) := by decide +kernel
theorem d_R_readPair_32 : decode b_R_readPair 32 = .ok (.getfield 28, 3) := by decide +kernel
theorem d_R_readPair_35 : decode b_R_readPair 35 = .ok (.getfield 32, 3) := by decide +kernel
theorem d_R_readPair_38 : decode b_R_readPair 38 = .ok (.invokevirtual 72, 3) := by decide +kernel
theorem d_R_readPair_41 : decode b_R_readPair 41 = .ok (.aload_n 0, 1) := by decide +kernel
theorem d_R_readPair_42 : decode b_R_readPair 42 = .ok (.iload_n 2, 1) := by decide +kernel
theorem d_R_readPair_43 : decode b_R_readPair 43 = .ok (.iconst 1, 1) := by decide +kernel
theorem d_R_readPair_44 : decode b_R_readPair 44 = .ok (.iadd, 1) := by decide +kernel
theorem d_R_readPair_45 : decode b_R_readPair 45 = .ok (.invokevirtual 37, 3) := by decide +kernel
theorem d_R_readPair_48 : decode b_R_readPair 48 = .ok (.aload_n 0, 1) := by decide +kernel
theorem d_R_readPair_49 : decode b_R_readPair 49 = .ok (.bipush 41, 2) := by decide +kernel
theorem d_R_readPair_51 : decode b_R_readPair 51 = .ok (.invokevirtual 68, 3) := by decide +kernel
theorem d_R_readPair_54 : decode b_R_readPair 54 = .ok (.return_, 1) := by decide +kernel
theorem d_R_readTerm_0 : decode b_R_readTerm 0 = .ok (.aload_n 0, 1) := by decide +kernel
theorem d_R_readTerm_1 : decode b_R_readTerm 1 = .ok (.getfield 22, 3) := by decide +kernel
theorem d_R_readTerm_4 : decode b_R_readTerm 4 = .ok (.ifCond .eq 4, 3) := by decide +kernel
theorem d_R_readTerm_7 : decode b_R_readTerm 7 = .ok (.return_, 1) := by decide +kernel
theorem d_R_readTerm_8 : decode b_R_readTerm 8 = .ok (.aload_n 0, 1) := by decide +kernel
theorem d_R_readTerm_9 : decode b_R_readTerm 9 = .ok (.invokevirtual 41, 3) := by decide +kernel
theorem d_R_readTerm_12 : decode b_R_readTerm 12 = .ok (.aload_n 0, 1) := by decide +kernel
theorem d_R_readTerm_13 : decode b_R_readTerm 13 = .ok (.invokevirtual 51, 3) := by decide +kernel
theorem d_R_readTerm_16 : decode b_R_readTerm 16 = .ok (.istore_n 2, 1) := by decide +kernel
theorem d_R_readTerm_17 : decode b_R_readTerm 17 = .ok (.aload_n 0, 1) := by decide +kernel
theorem d_R_readTerm_18 : decode b_R_readTerm 18 = .ok (.iload_n 2, 1) := by decide +kernel
theorem d_R_readTerm_19 : decode b_R_readTerm 19 = .ok (.invokevirtual 55, 3) := by decide +kernel
theorem d_R_readTerm_22 : decode b_R_readTerm 22 = .ok (.istore_n 3, 1) := by decide +kernel
theorem d_R_readTerm_23 : decode b_R_readTerm 23 = .ok (.iload_n 3, 1) := by decide +kernel
theorem d_R_readTerm_24 : decode b_R_readTerm 24 = .ok (.iconst (-1), 1) := by decide +kernel
theorem d_R_readTerm_25 : decode b_R_readTerm 25 = .ok (.if_icmp .ne 9, 3) := by decide +kernel
theorem d_R_readTerm_28 : decode b_R_readTerm 28 = .ok (.aload_n 0, 1) := by decide +kernel
theorem d_R_readTerm_29 : decode b_R_readTerm 29 = .ok (.iconst 1, 1) := by decide +kernel
theorem d_R_readTerm_30 : decode b_R_readTerm 30 = .ok (.invokevirtual 44, 3) := by decide +kernel
theorem d_R_readTerm_33 : decode b_R_readTerm 33 = .ok (.return_, 1) := by decide +kernel
theorem d_R_readTerm_34 : decode b_R_readTerm 34 = .ok (.iload_n 1, 1) := by decide +kernel
theorem d_R_readTerm_35 : decode b_R_readTerm 35 = .ok (.bipush 8, 2) := by decide +kernel
theorem d_R_readTerm_37 : decode b_R_readTerm 37 = .ok (.if_icmp .gt 10, 3) := by decide +kernel
theorem d_R_readTerm_40 : decode b_R_readTerm 40 = .ok (.aload_n 0, 1) := by decide +kernel
theorem d_R_readTerm_41 : decode b_R_readTerm 41 = .ok (.getfield 28, 3) := by decide +kernel
theorem d_R_readTerm_44 : decode b_R_readTerm 44 = .ok (.ifnonnull 7, 3) := by decide +kernel
theorem d_R_readTerm_47 : decode b_R_readTerm 47 = .ok (.iconst (-1), 1) := by decide +kernel
theorem d_R_readTerm_48 : decode b_R_readTerm 48 = .ok (.goto 11, 3) := by decide +kernel
theorem d_R_readTerm_51 : decode b_R_readTerm 51 = .ok (.aload_n 0, 1) := by decide +kernel
theorem d_R_readTerm_52 : decode b_R_readTerm 52 = .ok (.getfield 28, 3) := by decide +kernel
theorem d_R_readTerm_55 : decode b_R_readTerm 55 = .ok (.iload_n 3, 1) := by decide +kernel
theorem d_R_readTerm_56 : decode b_R_readTerm 56 = .ok (.invokevirtual 58, 3) := by decide +kernel
theorem d_R_readTerm_59 : decode b_R_readTerm 59 = .ok (.istore 4, 2) := by decide +kernel
theorem d_R_readTerm_61 : decode b_R_readTerm 61 = .ok (.iload 4, 2) := by decide +kernel
theorem d_R_readTerm_63 : decode b_R_readTerm 63 = .ok (.iconst (-1), 1) := by decide +kernel
theorem d_R_readTerm_64 : decode b_R_readTerm 64 = .ok (.if_icmp .ne 9, 3) := by decide +kernel
theorem d_R_readTerm_67 : decode b_R_readTerm 67 = .ok (.aload_n 0, 1) := by decide +kernel
theorem d_R_readTerm_68 : decode b_R_readTerm 68 = .ok (.iconst 2, 1) := by decide +kernel
theorem d_R_readTerm_69 : decode b_R_readTerm 69 = .ok (.invokevirtual 44, 3) := by decide +kernel
theorem d_R_readTerm_72 : decode b_R_readTerm 72 = .ok (.return_, 1) := by decide +kernel
theorem d_R_readTerm_73 : decode b_R_readTerm 73 = .ok (.aload_n 0, 1) := by decide +kernel
theorem d_R_readTerm_74 : decode b_R_readTerm 74 = .ok (.dup, 1) := by decide +kernel
theorem d_R_readTerm_75 : decode b_R_readTerm 75 = .ok (.getfield 19, 3) := by decide +kernel
theorem d_R_readTerm_78 : decode b_R_readTerm 78 = .ok (.iload_n 2, 1) := by decide +kernel
theorem d_R_readTerm_79 : decode b_R_readTerm 79 = .ok (.iadd, 1) := by decide +kernel
theorem d_R_readTerm_80 : decode b_R_readTerm 80 = .ok (.putfield 19, 3) := by decide +kernel
theorem d_R_readTerm_83 : decode b_R_readTerm 83 = .ok (.iload_n 3, 1) := by decide +kernel
theorem d_R_readTerm_84 : decode b_R_readTerm 84 = .ok (.iconst 3, 1) := by decide +kernel
theorem d_R_readTerm_85 : decode b_R_readTerm 85 = .ok (.if_icmp .ne 12, 3) := by decide +kernel
theorem d_R_readTerm_88 : decode b_R_readTerm 88 = .ok (.aload_n 0, 1) := by decide +kernel
theorem d_R_readTerm_89 : decode b_R_readTerm 89 = .ok (.iload 4, 2) := by decide +kernel
theorem d_R_readTerm_91 : decode b_R_readTerm 91 = .ok (.invokevirtual 61, 3) := by decide +kernel
theorem d_R_readTerm_94 : decode b_R_readTerm 94 = .ok (.goto 32, 3) := by decide +kernel
theorem d_R_readTerm_97 : decode b_R_readTerm 97 = .ok (.iload_n 3, 1) := by decide +kernel
theorem d_R_readTerm_98 : decode b_R_readTerm 98 = .ok (.bipush 10, 2) := by decide +kernel
theorem d_R_readTerm_100 : decode b_R_readTerm 100 = .ok (.if_icmp .lt 13, 3) := by decide +kernel
theorem d_R_readTerm_103 : decode b_R_readTerm 103 = .ok (.aload_n 0, 1) := by decide +kernel
theorem d_R_readTerm_104 : decode b_R_readTerm 104 = .ok (.iload_n 1, 1) := by decide +kernel
theorem d_R_readTerm_105 : decode b_R_readTerm 105 = .ok (.iconst 1, 1) := by decide +kernel
theorem d_R_readTerm_106 : decode b_R_readTerm 106 = .ok (.iadd, 1) := by decide +kernel
theorem d_R_readTerm_107 : decode b_R_readTerm 107 = .ok (.invokevirtual 37, 3) := by decide +kernel
theorem d_R_readTerm_110 : decode b_R_readTerm 110 = .ok (.goto 16, 3) := by decide +kernel
theorem d_R_readTerm_113 : decode b_R_readTerm 113 = .ok (.iload_n 3, 1) := by decide +kernel
theorem d_R_readTerm_114 : decode b_R_readTerm 114 = .ok (.bipush 6, 2) := by decide +kernel
theorem d_R_readTerm_116 : decode b_R_readTerm 116 = .ok (.if_icmp .lt 10, 3) := by decide +kernel
theorem d_R_readTerm_119 : decode b_R_readTerm 119 = .ok (.aload_n 0, 1) := by decide +kernel
theorem d_R_readTerm_120 : decode b_R_readTerm 120 = .ok (.iload 4, 2) := by decide +kernel
theorem d_R_readTerm_122 : decode b_R_readTerm 122 = .ok (.iload_n 1, 1) := by decide +kernel
theorem d_R_readTerm_123 : decode b_R_readTerm 123 = .ok (.invokevirtual 64, 3) := by decide +kernel
theorem d_R_readTerm_126 : decode b_R_readTerm 126 = .ok (.return_, 1) := by decide +kernel
theorem d_R_read_0 : decode b_R_read 0 = .ok (.aload_n 0, 1) := by decide +kernel
theorem d_R_read_1 : decode b_R_read 1 = .ok (.aload_n 1, 1) := by decide +kernel
theorem d_R_read_2 : decode b_R_read 2 = .ok (.putfield 28, 3) := by decide +kernel
theorem d_R_read_5 : decode b_R_read 5 = .ok (.aload_n 0, 1) := by decide +kernel
theorem d_R_read_6 : decode b_R_read 6 = .ok (.iconst 0, 1) := by decide +kernel
theorem d_R_read_7 : decode b_R_read 7 = .ok (.putfield 19, 3) := by decide +kernel
theorem d_R_read_10 : decode b_R_read 10 = .ok (.aload_n 0, 1) := by decide +kernel
theorem d_R_read_11 : decode b_R_read 11 = .ok (.iconst 0, 1) := by decide +kernel
theorem d_R_read_12 : decode b_R_read 12 = .ok (.putfield 22, 3) := by decide +kernel
theorem d_R_read_15 : decode b_R_read 15 = .ok (.aload_n 0, 1) := by decide +kernel
theorem d_R_read_16 : decode b_R_read 16 = .ok (.iconst (-1), 1) := by decide +kernel
theorem d_R_read_17 : decode b_R_read 17 = .ok (.putfield 25, 3) := by decide +kernel
theorem d_R_read_20 : decode b_R_read 20 = .ok (.aload_n 0, 1) := by decide +kernel
theorem d_R_read_21 : decode b_R_read 21 = .ok (.getfield 28, 3) := by decide +kernel
theorem d_R_read_24 : decode b_R_read 24 = .ok (.ifnull 11, 3) := by decide +kernel
theorem d_R_read_27 : decode b_R_read 27 = .ok (.aload_n 0, 1) := by decide +kernel
theorem d_R_read_28 : decode b_R_read 28 = .ok (.getfield 28, 3) := by decide +kernel
theorem d_R_read_31 : decode b_R_read 31 = .ok (.iconst 0, 1) := by decide +kernel
theorem d_R_read_32 : decode b_R_read 32 = .ok (.putfield 32, 3) := by decide +kernel
theorem d_R_read_35 : decode b_R_read 35 = .ok (.aload_n 0, 1) := by decide +kernel
theorem d_R_read_36 : decode b_R_read 36 = .ok (.iconst 1, 1) := by decide +kernel
theorem d_R_read_37 : decode b_R_read 37 = .ok (.invokevirtual 37, 3) := by decide +kernel
theorem d_R_read_40 : decode b_R_read 40 = .ok (.aload_n 0, 1) := by decide +kernel
theorem d_R_read_41 : decode b_R_read 41 = .ok (.invokevirtual 41, 3) := by decide +kernel
theorem d_R_read_44 : decode b_R_read 44 = .ok (.aload_n 0, 1) := by decide +kernel
theorem d_R_read_45 : decode b_R_read 45 = .ok (.getfield 22, 3) := by decide +kernel
theorem d_R_read_48 : decode b_R_read 48 = .ok (.ifCond .ne 19, 3) := by decide +kernel
theorem d_R_read_51 : decode b_R_read 51 = .ok (.aload_n 0, 1) := by decide +kernel
theorem d_R_read_52 : decode b_R_read 52 = .ok (.getfield 19, 3) := by decide +kernel
theorem d_R_read_55 : decode b_R_read 55 = .ok (.aload_n 0, 1) := by decide +kernel
theorem d_R_read_56 : decode b_R_read 56 = .ok (.getfield 15, 3) := by decide +kernel
theorem d_R_read_59 : decode b_R_read 59 = .ok (.if_icmp .ge 8, 3) := by decide +kernel
theorem d_R_read_62 : decode b_R_read 62 = .ok (.aload_n 0, 1) := by decide +kernel
theorem d_R_read_63 : decode b_R_read 63 = .ok (.iconst 1, 1) := by decide +kernel
theorem d_R_read_64 : decode b_R_read 64 = .ok (.invokevirtual 44, 3) := by decide +kernel
theorem d_R_read_67 : decode b_R_read 67 = .ok (.return_, 1) := by decide +kernel
def f_R_append (this : Nat) (x1 : Int32) (h : Hp) : Option (Hp) :=
  if isO h this 5 = true then
  (gI h this 5 1).bind fun i1 =>
  if i1 < 0 then
    some h
  else
  (gI h this 5 1).bind fun i3 =>
  if (60 : Int32) ≤ i3 then
    some h
  else
  (gA h this 5 0).bind fun r5 =>
  (gI h this 5 1).bind fun i7 =>
  (r5).bind fun a9 =>
  (sI h a9 i7 x1).bind fun h12 =>
  (gI h12 this 5 1).bind fun i13 =>
  (pV h12 this 5 1 (.int (i13 + (1 : Int32)))).bind fun h15 =>
  some h15
  else none
theorem o_R_append {this : Nat} {x1 : Int32} {h : Hp} {h0 : Hp} (hf : f_R_append this x1 h = some h0) : isO h this 5 = true := by
  unfold f_R_append at hf
  exact (z_gd hf).1
set_option maxRecDepth 100000 in
set_option maxHeartbeats 4000000 in
theorem c_R_append {l : Launch} {N0 : Nat} {D : va_G} {cs : Nat → ClassId} {this : Nat} {x1 : Int32} {h : Hp} {h0 : Hp} (hf : f_R_append this x1 h = some h0) : Fn l N0 D cs y_R_append b_R_append 2 (none) 1 0 0 [.ref this, .int x1] h none h0 := by
  refine z_start (by decide) (Nat.le_of_ble_eq_true rfl) ?_
  intro p e s m args below meth c M hH hS ls hl
  unfold f_R_append at hf
  obtain ⟨hO, hf⟩ := z_gd hf
  have hl : lv_has ls 2 [(0, .ref this), (1, .int x1)] := hl
  obtain ⟨H, hHe⟩ : ∃ H, H = s.heap := ⟨_, rfl⟩
  obtain ⟨locs, hLe⟩ : ∃ locs : List Loc, locs = [] := ⟨_, rfl⟩
  have hS : va_S (zA N0) s.heap H locs := by rw [hHe, hLe]; exact hS
  have hH : HH N0 D cs h H := by rw [hHe]; exact hH
  suffices hg : W p l e (zrm 1 0 0) s m args below meth c H locs 0 0 (MQ below (zQ N0 D cs none h0) args s 0 0 (zA N0)) (F0 m 0 ls []) by rw [hHe, hLe] at hg; exact hg
  clear hHe hLe
  refine lv_aload_n M.x M.b d_R_append_0 rfl (lv_at hl 0 rfl) ?_
  replace hf := z_bind hf; obtain ⟨i1, e2, hf⟩ := hf
  refine z_get (ci := 5) (k := 1) M hH rfl (by decide) zinR q_355 (gI_spec e2) d_R_append_1 ?_
  refine lv_if_lt (tgt := 36) M.x M.b d_R_append_4 (by decide) (fun c18 => ?_) (fun c18 => ?_)
  · replace hf := z_t c18 hf
    obtain rfl := z_r1 hf
    exact z_vret M hH hS d_R_append_36
  · replace hf := z_f c18 hf
    refine lv_aload_n M.x M.b d_R_append_7 rfl (lv_at hl 0 rfl) ?_
    replace hf := z_bind hf; obtain ⟨i3, e4, hf⟩ := hf
    refine z_get (ci := 5) (k := 1) M hH rfl (by decide) zinR q_355 (gI_spec e4) d_R_append_8 ?_
    refine lv_bipush (v := (60 : Int32)) M.x M.b d_R_append_11 rfl ?_
    refine lv_icmp_ge (tgt := 36) M.x M.b d_R_append_13 (by decide) (fun c17 => ?_) (fun c17 => ?_)
    · replace hf := z_t c17 hf
      obtain rfl := z_r1 hf
      exact z_vret M hH hS d_R_append_36
    · replace hf := z_f c17 hf
      refine lv_aload_n M.x M.b d_R_append_16 rfl (lv_at hl 0 rfl) ?_
      replace hf := z_bind hf; obtain ⟨r5, e6, hf⟩ := hf
      refine z_get (ci := 5) (k := 0) M hH rfl (by decide) zinR q_356 (gA_spec e6) d_R_append_17 ?_
      refine lv_aload_n M.x M.b d_R_append_20 rfl (lv_at hl 0 rfl) ?_
      replace hf := z_bind hf; obtain ⟨i7, e8, hf⟩ := hf
      refine z_get (ci := 5) (k := 1) M hH rfl (by decide) zinR q_355 (gI_spec e8) d_R_append_21 ?_
      refine lv_iload_n M.x M.b d_R_append_24 rfl (lv_at hl 1 rfl) ?_
      rcases r5 with _ | a9
      · exact absurd hf z_nb0
      replace hf := z_sb hf
      replace hf := z_bind hf; obtain ⟨h12, e11, hf⟩ := hf
      refine z_iast M hH hS e11 d_R_append_25 (fun H locs hH hS => ?_)
      refine lv_aload_n M.x M.b d_R_append_26 rfl (lv_at hl 0 rfl) ?_
      refine lv_dup M.x M.b d_R_append_27 rfl ?_
      replace hf := z_bind hf; obtain ⟨i13, e14, hf⟩ := hf
      refine z_get (ci := 5) (k := 1) M hH rfl (by decide) zinR q_355 (gI_spec e14) d_R_append_28 ?_
      refine lv_iconst (v := (1 : Int32)) M.x M.b d_R_append_31 rfl ?_
      refine lv_iadd M.x M.b d_R_append_32 ?_
      replace hf := z_bind hf; obtain ⟨h15, e16, hf⟩ := hf
      refine z_put (ci := 5) (k := 1) M hH hS rfl (by decide) zinR zYR zYR_ok zNR_ok rfl q_355 rfl rfl rfl e16 d_R_append_33 (fun H locs hH hS => ?_)
      obtain rfl := z_r1 hf
      exact z_vret M hH hS d_R_append_36
def f_R_byteAt (this : Nat) (h : Hp) (x1 : Int32) : Option (Int32) :=
  if isO h this 5 = true then
  if x1 < 0 then
    some (-1 : Int32)
  else
  (gI h this 5 1).bind fun i1 =>
  if i1 ≤ x1 then
    some (-1 : Int32)
  else
  if x1 < (60 : Int32) then
    (gA h this 5 0).bind fun r3 =>
    (r3).bind fun a5 =>
    (aI h 0 a5 x1).bind fun i8 =>
    some i8
  else
  some (-1 : Int32)
  else none
theorem o_R_byteAt {this : Nat} {h : Hp} {x1 : Int32} {r0 : Int32} (hf : f_R_byteAt this h x1 = some r0) : isO h this 5 = true := by
  unfold f_R_byteAt at hf
  exact (z_gd hf).1
set_option maxRecDepth 100000 in
set_option maxHeartbeats 4000000 in
theorem c_R_byteAt {l : Launch} {N0 : Nat} {D : va_G} {cs : Nat → ClassId} {this : Nat} {h : Hp} {x1 : Int32} {r0 : Int32} (hf : f_R_byteAt this h x1 = some r0) : Fn l N0 D cs y_R_byteAt b_R_byteAt 2 (some .int) 1 0 0 [.ref this, .int x1] h (some (.int r0)) h := by
  refine z_start (by decide) (Nat.le_of_ble_eq_true rfl) ?_
  intro p e s m args below meth c M hH hS ls hl
  unfold f_R_byteAt at hf
  obtain ⟨hO, hf⟩ := z_gd hf
  have hl : lv_has ls 2 [(0, .ref this), (1, .int x1)] := hl
  obtain ⟨H, hHe⟩ : ∃ H, H = s.heap := ⟨_, rfl⟩
  obtain ⟨locs, hLe⟩ : ∃ locs : List Loc, locs = [] := ⟨_, rfl⟩
  have hS : va_S (zA N0) s.heap H locs := by rw [hHe, hLe]; exact hS
  have hH : HH N0 D cs h H := by rw [hHe]; exact hH
  suffices hg : W p l e (zrm 1 0 0) s m args below meth c H locs 0 0 (MQ below (zQ N0 D cs (some (.int r0)) h) args s 0 0 (zA N0)) (F0 m 0 ls []) by rw [hHe, hLe] at hg; exact hg
  clear hHe hLe
  refine lv_iload_n M.x M.b d_R_byteAt_0 rfl (lv_at hl 1 rfl) ?_
  refine lv_if_lt (tgt := 18) M.x M.b d_R_byteAt_1 (by decide) (fun c11 => ?_) (fun c11 => ?_)
  · replace hf := z_t c11 hf
    refine lv_iconst (v := (-1 : Int32)) M.x M.b d_R_byteAt_18 rfl ?_
    refine lv_goto (tgt := 28) M.x M.b d_R_byteAt_19 (by decide) ?_
    obtain rfl := z_r1 hf
    exact z_iret M hH hS d_R_byteAt_28
  · replace hf := z_f c11 hf
    refine lv_iload_n M.x M.b d_R_byteAt_4 rfl (lv_at hl 1 rfl) ?_
    refine lv_aload_n M.x M.b d_R_byteAt_5 rfl (lv_at hl 0 rfl) ?_
    replace hf := z_bind hf; obtain ⟨i1, e2, hf⟩ := hf
    refine z_get (ci := 5) (k := 1) M hH rfl (by decide) zinR q_355 (gI_spec e2) d_R_byteAt_6 ?_
    refine lv_icmp_ge (tgt := 18) M.x M.b d_R_byteAt_9 (by decide) (fun c10 => ?_) (fun c10 => ?_)
    · replace hf := z_t c10 hf
      refine lv_iconst (v := (-1 : Int32)) M.x M.b d_R_byteAt_18 rfl ?_
      refine lv_goto (tgt := 28) M.x M.b d_R_byteAt_19 (by decide) ?_
      obtain rfl := z_r1 hf
      exact z_iret M hH hS d_R_byteAt_28
    · replace hf := z_f c10 hf
      refine lv_iload_n M.x M.b d_R_byteAt_12 rfl (lv_at hl 1 rfl) ?_
      refine lv_bipush (v := (60 : Int32)) M.x M.b d_R_byteAt_13 rfl ?_
      refine lv_icmp_lt (tgt := 22) M.x M.b d_R_byteAt_15 (by decide) (fun c9 => ?_) (fun c9 => ?_)
      · replace hf := z_t c9 hf
        refine lv_aload_n M.x M.b d_R_byteAt_22 rfl (lv_at hl 0 rfl) ?_
        replace hf := z_bind hf; obtain ⟨r3, e4, hf⟩ := hf
        refine z_get (ci := 5) (k := 0) M hH rfl (by decide) zinR q_356 (gA_spec e4) d_R_byteAt_23 ?_
        refine lv_iload_n M.x M.b d_R_byteAt_26 rfl (lv_at hl 1 rfl) ?_
        rcases r3 with _ | a5
        · exact absurd hf z_nb0
        replace hf := z_sb hf
        replace hf := z_bind hf; obtain ⟨i8, e7, hf⟩ := hf
        refine z_iald M hH e7 d_R_byteAt_27 ?_
        obtain rfl := z_r1 hf
        exact z_iret M hH hS d_R_byteAt_28
      · replace hf := z_f c9 hf
        refine lv_iconst (v := (-1 : Int32)) M.x M.b d_R_byteAt_18 rfl ?_
        refine lv_goto (tgt := 28) M.x M.b d_R_byteAt_19 (by decide) ?_
        obtain rfl := z_r1 hf
        exact z_iret M hH hS d_R_byteAt_28
def t_R_skipBlanks_2 (this : Nat) (k2 : Int32 → Hp → Option (Hp)) (x1 : Int32) (h : Hp) : Option (Hp) :=
  if (60 : Int32) ≤ x1 then
    some h
  else
  (gI h this 5 2).bind fun i1 =>
  (f_R_byteAt this h i1).bind fun i4 =>
  if i4 = (32 : Int32) then
    (gI h this 5 2).bind fun i5 =>
    (pV h this 5 2 (.int (i5 + (1 : Int32)))).bind fun h7 =>
    k2 (x1 + (1 : Int32)) h7
  else
  some h
set_option maxRecDepth 100000 in
set_option maxHeartbeats 4000000 in
theorem v_R_skipBlanks_2 {p : Program} {l : Launch} {e : Env} {s : State} {m : MethodId} {args : Array Value} {below : List Frame} {meth : Method} {c : Code} {N0 : Nat} {D : va_G} {cs : Nat → ClassId} (M : ZC p s m args meth c "YearBaskets$Reader" "skipBlanks" b_R_skipBlanks 2 (none) N0 D cs) (this : Nat) (k2 : Int32 → Hp → Option (Hp)) {h0 : Hp} (hk2 : ∀ (x1 : Int32) (h : Hp), k2 x1 h = some h0 → ZG p l e (zrm 2 0 0) s m args below meth c N0 D cs none h0 h 2 [(0, .ref this), (1, .int x1)] 2 []) (x1 : Int32) (h : Hp) (hf : t_R_skipBlanks_2 this k2 x1 h = some h0) : ZG p l e (zrm 2 0 0) s m args below meth c N0 D cs none h0 h 2 [(0, .ref this), (1, .int x1)] 2 [] := by
  intro H locs ls hH hS hl
  unfold t_R_skipBlanks_2 at hf
  refine lv_iload_n M.x M.b d_R_skipBlanks_2 rfl (lv_at hl 1 rfl) ?_
  refine lv_bipush (v := (60 : Int32)) M.x M.b d_R_skipBlanks_3 rfl ?_
  refine lv_icmp_ge (tgt := 37) M.x M.b d_R_skipBlanks_5 (by decide) (fun c10 => ?_) (fun c10 => ?_)
  · replace hf := z_t c10 hf
    obtain rfl := z_r1 hf
    exact z_vret M hH hS d_R_skipBlanks_37
  · replace hf := z_f c10 hf
    refine lv_aload_n M.x M.b d_R_skipBlanks_8 rfl (lv_at hl 0 rfl) ?_
    refine lv_aload_n M.x M.b d_R_skipBlanks_9 rfl (lv_at hl 0 rfl) ?_
    replace hf := z_bind hf; obtain ⟨i1, e2, hf⟩ := hf
    refine z_get (ci := 5) (k := 2) M hH rfl (by decide) zinR q_363 (gI_spec e2) d_R_skipBlanks_10 ?_
    replace hf := z_bind hf; obtain ⟨i4, e3, hf⟩ := hf
    refine zk_V (ci := 5) (st1 := [.int i4]) M hH hS (c_R_byteAt e3) rfl (o_R_byteAt e3) w_R_byteAt q_364 [] rfl ⟨Nat.le_of_ble_eq_true rfl, Nat.le_of_ble_eq_true rfl⟩ hl.1 rfl rfl (Nat.le_of_ble_eq_true rfl) d_R_skipBlanks_13 (fun H locs hH hS => ?_)
    refine lv_bipush (v := (32 : Int32)) M.x M.b d_R_skipBlanks_16 rfl ?_
    refine lv_icmp_ne (tgt := 37) M.x M.b d_R_skipBlanks_18 (by decide) (fun c9 => ?_) (fun c9 => ?_)
    · replace hf := z_f c9 hf
      obtain rfl := z_r1 hf
      exact z_vret M hH hS d_R_skipBlanks_37
    · replace hf := z_t c9 hf
      refine lv_aload_n M.x M.b d_R_skipBlanks_21 rfl (lv_at hl 0 rfl) ?_
      refine lv_dup M.x M.b d_R_skipBlanks_22 rfl ?_
      replace hf := z_bind hf; obtain ⟨i5, e6, hf⟩ := hf
      refine z_get (ci := 5) (k := 2) M hH rfl (by decide) zinR q_363 (gI_spec e6) d_R_skipBlanks_23 ?_
      refine lv_iconst (v := (1 : Int32)) M.x M.b d_R_skipBlanks_26 rfl ?_
      refine lv_iadd M.x M.b d_R_skipBlanks_27 ?_
      replace hf := z_bind hf; obtain ⟨h7, e8, hf⟩ := hf
      refine z_put (ci := 5) (k := 2) M hH hS rfl (by decide) zinR zYR zYR_ok zNR_ok rfl q_363 rfl rfl rfl e8 d_R_skipBlanks_28 (fun H locs hH hS => ?_)
      refine lv_iinc (v := (x1 + (1 : Int32))) (lv' := [(1, .int (x1 + (1 : Int32))), (0, .ref this)]) M.x M.b d_R_skipBlanks_31 hl (k := 1) rfl rfl (by decide) rfl (fun ls hl => ?_)
      refine lv_goto (tgt := 2) M.x M.b d_R_skipBlanks_34 (by decide) ?_
      exact hk2 _ _ hf H locs ls hH hS (lv_sub hl [1, 0] rfl)
def f_R_skipBlanks_2 (this : Nat) : Nat → Int32 → Hp → Option (Hp)
  | 0, _, _ => none
  | n + 1, x1, h => t_R_skipBlanks_2 this (f_R_skipBlanks_2 this n) x1 h
theorem w_R_skipBlanks_2 {p : Program} {l : Launch} {e : Env} {s : State} {m : MethodId} {args : Array Value} {below : List Frame} {meth : Method} {c : Code} {N0 : Nat} {D : va_G} {cs : Nat → ClassId} (M : ZC p s m args meth c "YearBaskets$Reader" "skipBlanks" b_R_skipBlanks 2 (none) N0 D cs) (this : Nat)  {h0 : Hp}  : ∀ (n : Nat) (x1 : Int32) (h : Hp), f_R_skipBlanks_2 this n x1 h = some h0 → ZG p l e (zrm 2 0 0) s m args below meth c N0 D cs none h0 h 2 [(0, .ref this), (1, .int x1)] 2 [] := by
  intro n
  induction n with
  | zero => intro x1 h hf; exact absurd (show none = some _ from hf) (fun q => by cases q)
  | succ n ih => intro x1 h hf; exact v_R_skipBlanks_2 M this (f_R_skipBlanks_2 this n)  ih _ _ hf
def f_R_skipBlanks (this : Nat) (h : Hp) : Option (Hp) :=
  if isO h this 5 = true then
  f_R_skipBlanks_2 this FU (0 : Int32) h
  else none
theorem o_R_skipBlanks {this : Nat} {h : Hp} {h0 : Hp} (hf : f_R_skipBlanks this h = some h0) : isO h this 5 = true := by
  unfold f_R_skipBlanks at hf
  exact (z_gd hf).1
set_option maxRecDepth 100000 in
set_option maxHeartbeats 4000000 in
theorem c_R_skipBlanks {l : Launch} {N0 : Nat} {D : va_G} {cs : Nat → ClassId} {this : Nat} {h : Hp} {h0 : Hp} (hf : f_R_skipBlanks this h = some h0) : Fn l N0 D cs y_R_skipBlanks b_R_skipBlanks 2 (none) 2 0 0 [.ref this] h none h0 := by
  refine z_start (by decide) (Nat.le_of_ble_eq_true rfl) ?_
  intro p e s m args below meth c M hH hS ls hl
  unfold f_R_skipBlanks at hf
  obtain ⟨hO, hf⟩ := z_gd hf
  have hl : lv_has ls 2 [(0, .ref this)] := hl
  obtain ⟨H, hHe⟩ : ∃ H, H = s.heap := ⟨_, rfl⟩
  obtain ⟨locs, hLe⟩ : ∃ locs : List Loc, locs = [] := ⟨_, rfl⟩
  have hS : va_S (zA N0) s.heap H locs := by rw [hHe, hLe]; exact hS
  have hH : HH N0 D cs h H := by rw [hHe]; exact hH
  suffices hg : W p l e (zrm 2 0 0) s m args below meth c H locs 0 0 (MQ below (zQ N0 D cs none h0) args s 0 0 (zA N0)) (F0 m 0 ls []) by rw [hHe, hLe] at hg; exact hg
  clear hHe hLe
  refine lv_iconst (v := (0 : Int32)) M.x M.b d_R_skipBlanks_0 rfl ?_
  refine lv_istore_n (lv' := [(1, .int (0 : Int32)), (0, .ref this)]) M.x M.b d_R_skipBlanks_1 rfl hl (by decide) rfl (fun ls hl => ?_)
  exact w_R_skipBlanks_2 M this FU _ _ hf H locs ls hH hS (lv_sub hl [1, 0] rfl)
def t_R_lettersHere_4 (this : Nat) (h : Hp) (k4 : Int32 → Int32 → Option (Int32)) (x1 : Int32) (x2 : Int32) : Option (Int32) :=
  if (60 : Int32) ≤ x2 then
    some x1
  else
  (gI h this 5 2).bind fun i1 =>
  (f_R_byteAt this h (i1 + x2)).bind fun i4 =>
  if i4 < (97 : Int32) then
    some x1
  else
  (gI h this 5 2).bind fun i5 =>
  (f_R_byteAt this h (i5 + x2)).bind fun i8 =>
  if (122 : Int32) < i8 then
    some x1
  else
  k4 (x1 + (1 : Int32)) (x2 + (1 : Int32))
set_option maxRecDepth 100000 in
set_option maxHeartbeats 4000000 in
theorem v_R_lettersHere_4 {p : Program} {l : Launch} {e : Env} {s : State} {m : MethodId} {args : Array Value} {below : List Frame} {meth : Method} {c : Code} {N0 : Nat} {D : va_G} {cs : Nat → ClassId} (M : ZC p s m args meth c "YearBaskets$Reader" "lettersHere" b_R_lettersHere 3 (some .int) N0 D cs) (this : Nat) (h : Hp) (k4 : Int32 → Int32 → Option (Int32)) {r0 : Int32} (hk4 : ∀ (x1 : Int32) (x2 : Int32), k4 x1 x2 = some r0 → ZG p l e (zrm 2 0 0) s m args below meth c N0 D cs (some (.int r0)) h h 3 [(0, .ref this), (1, .int x1), (2, .int x2)] 4 []) (x1 : Int32) (x2 : Int32) (hf : t_R_lettersHere_4 this h k4 x1 x2 = some r0) : ZG p l e (zrm 2 0 0) s m args below meth c N0 D cs (some (.int r0)) h h 3 [(0, .ref this), (1, .int x1), (2, .int x2)] 4 [] := by
  intro H locs ls hH hS hl
  unfold t_R_lettersHere_4 at hf
  refine lv_iload_n M.x M.b d_R_lettersHere_4 rfl (lv_at hl 2 rfl) ?_
  refine lv_bipush (v := (60 : Int32)) M.x M.b d_R_lettersHere_5 rfl ?_
  refine lv_icmp_ge (tgt := 49) M.x M.b d_R_lettersHere_7 (by decide) (fun c11 => ?_) (fun c11 => ?_)
  · replace hf := z_t c11 hf
    refine lv_iload_n M.x M.b d_R_lettersHere_49 rfl (lv_at hl 1 rfl) ?_
    obtain rfl := z_r1 hf
    exact z_iret M hH hS d_R_lettersHere_50
  · replace hf := z_f c11 hf
    refine lv_aload_n M.x M.b d_R_lettersHere_10 rfl (lv_at hl 0 rfl) ?_
    refine lv_aload_n M.x M.b d_R_lettersHere_11 rfl (lv_at hl 0 rfl) ?_
    replace hf := z_bind hf; obtain ⟨i1, e2, hf⟩ := hf
    refine z_get (ci := 5) (k := 2) M hH rfl (by decide) zinR q_363 (gI_spec e2) d_R_lettersHere_12 ?_
    refine lv_iload_n M.x M.b d_R_lettersHere_15 rfl (lv_at hl 2 rfl) ?_
    refine lv_iadd M.x M.b d_R_lettersHere_16 ?_
    replace hf := z_bind hf; obtain ⟨i4, e3, hf⟩ := hf
    refine zk_V (ci := 5) (st1 := [.int i4]) M hH hS (c_R_byteAt e3) rfl (o_R_byteAt e3) w_R_byteAt q_364 [] rfl ⟨Nat.le_of_ble_eq_true rfl, Nat.le_of_ble_eq_true rfl⟩ hl.1 rfl rfl (Nat.le_of_ble_eq_true rfl) d_R_lettersHere_17 (fun H locs hH hS => ?_)
    refine lv_bipush (v := (97 : Int32)) M.x M.b d_R_lettersHere_20 rfl ?_
    refine lv_icmp_lt (tgt := 49) M.x M.b d_R_lettersHere_22 (by decide) (fun c10 => ?_) (fun c10 => ?_)
    · replace hf := z_t c10 hf
      refine lv_iload_n M.x M.b d_R_lettersHere_49 rfl (lv_at hl 1 rfl) ?_
      obtain rfl := z_r1 hf
      exact z_iret M hH hS d_R_lettersHere_50
    · replace hf := z_f c10 hf
      refine lv_aload_n M.x M.b d_R_lettersHere_25 rfl (lv_at hl 0 rfl) ?_
      refine lv_aload_n M.x M.b d_R_lettersHere_26 rfl (lv_at hl 0 rfl) ?_
      replace hf := z_bind hf; obtain ⟨i5, e6, hf⟩ := hf
      refine z_get (ci := 5) (k := 2) M hH rfl (by decide) zinR q_363 (gI_spec e6) d_R_lettersHere_27 ?_
      refine lv_iload_n M.x M.b d_R_lettersHere_30 rfl (lv_at hl 2 rfl) ?_
      refine lv_iadd M.x M.b d_R_lettersHere_31 ?_
      replace hf := z_bind hf; obtain ⟨i8, e7, hf⟩ := hf
      refine zk_V (ci := 5) (st1 := [.int i8]) M hH hS (c_R_byteAt e7) rfl (o_R_byteAt e7) w_R_byteAt q_364 [] rfl ⟨Nat.le_of_ble_eq_true rfl, Nat.le_of_ble_eq_true rfl⟩ hl.1 rfl rfl (Nat.le_of_ble_eq_true rfl) d_R_lettersHere_32 (fun H locs hH hS => ?_)
      refine lv_bipush (v := (122 : Int32)) M.x M.b d_R_lettersHere_35 rfl ?_
      refine lv_icmp_gt (tgt := 49) M.x M.b d_R_lettersHere_37 (by decide) (fun c9 => ?_) (fun c9 => ?_)
      · replace hf := z_t c9 hf
        refine lv_iload_n M.x M.b d_R_lettersHere_49 rfl (lv_at hl 1 rfl) ?_
        obtain rfl := z_r1 hf
        exact z_iret M hH hS d_R_lettersHere_50
      · replace hf := z_f c9 hf
        refine lv_iinc (v := (x1 + (1 : Int32))) (lv' := [(1, .int (x1 + (1 : Int32))), (0, .ref this), (2, .int x2)]) M.x M.b d_R_lettersHere_40 hl (k := 1) rfl rfl (by decide) rfl (fun ls hl => ?_)
        refine lv_iinc (v := (x2 + (1 : Int32))) (lv' := [(2, .int (x2 + (1 : Int32))), (1, .int (x1 + (1 : Int32))), (0, .ref this)]) M.x M.b d_R_lettersHere_43 hl (k := 2) rfl rfl (by decide) rfl (fun ls hl => ?_)
        refine lv_goto (tgt := 4) M.x M.b d_R_lettersHere_46 (by decide) ?_
        exact hk4 _ _ hf H locs ls hH hS (lv_sub hl [2, 1, 0] rfl)
def f_R_lettersHere_4 (this : Nat) (h : Hp) : Nat → Int32 → Int32 → Option (Int32)
  | 0, _, _ => none
  | n + 1, x1, x2 => t_R_lettersHere_4 this h (f_R_lettersHere_4 this h n) x1 x2
theorem w_R_lettersHere_4 {p : Program} {l : Launch} {e : Env} {s : State} {m : MethodId} {args : Array Value} {below : List Frame} {meth : Method} {c : Code} {N0 : Nat} {D : va_G} {cs : Nat → ClassId} (M : ZC p s m args meth c "YearBaskets$Reader" "lettersHere" b_R_lettersHere 3 (some .int) N0 D cs) (this : Nat) (h : Hp)  {r0 : Int32}  : ∀ (n : Nat) (x1 : Int32) (x2 : Int32), f_R_lettersHere_4 this h n x1 x2 = some r0 → ZG p l e (zrm 2 0 0) s m args below meth c N0 D cs (some (.int r0)) h h 3 [(0, .ref this), (1, .int x1), (2, .int x2)] 4 [] := by
  intro n
  induction n with
  | zero => intro x1 x2 hf; exact absurd (show none = some _ from hf) (fun q => by cases q)
  | succ n ih => intro x1 x2 hf; exact v_R_lettersHere_4 M this h (f_R_lettersHere_4 this h n)  ih _ _ hf
def f_R_lettersHere (this : Nat) (h : Hp) : Option (Int32) :=
  if isO h this 5 = true then
  f_R_lettersHere_4 this h FU (0 : Int32) (0 : Int32)
  else none
theorem o_R_lettersHere {this : Nat} {h : Hp} {r0 : Int32} (hf : f_R_lettersHere this h = some r0) : isO h this 5 = true := by
  unfold f_R_lettersHere at hf
  exact (z_gd hf).1
set_option maxRecDepth 100000 in
set_option maxHeartbeats 4000000 in
theorem c_R_lettersHere {l : Launch} {N0 : Nat} {D : va_G} {cs : Nat → ClassId} {this : Nat} {h : Hp} {r0 : Int32} (hf : f_R_lettersHere this h = some r0) : Fn l N0 D cs y_R_lettersHere b_R_lettersHere 3 (some .int) 2 0 0 [.ref this] h (some (.int r0)) h := by
  refine z_start (by decide) (Nat.le_of_ble_eq_true rfl) ?_
  intro p e s m args below meth c M hH hS ls hl
  unfold f_R_lettersHere at hf
  obtain ⟨hO, hf⟩ := z_gd hf
  have hl : lv_has ls 3 [(0, .ref this)] := hl
  obtain ⟨H, hHe⟩ : ∃ H, H = s.heap := ⟨_, rfl⟩
  obtain ⟨locs, hLe⟩ : ∃ locs : List Loc, locs = [] := ⟨_, rfl⟩
  have hS : va_S (zA N0) s.heap H locs := by rw [hHe, hLe]; exact hS
  have hH : HH N0 D cs h H := by rw [hHe]; exact hH
  suffices hg : W p l e (zrm 2 0 0) s m args below meth c H locs 0 0 (MQ below (zQ N0 D cs (some (.int r0)) h) args s 0 0 (zA N0)) (F0 m 0 ls []) by rw [hHe, hLe] at hg; exact hg
  clear hHe hLe
  refine lv_iconst (v := (0 : Int32)) M.x M.b d_R_lettersHere_0 rfl ?_
  refine lv_istore_n (lv' := [(1, .int (0 : Int32)), (0, .ref this)]) M.x M.b d_R_lettersHere_1 rfl hl (by decide) rfl (fun ls hl => ?_)
  refine lv_iconst (v := (0 : Int32)) M.x M.b d_R_lettersHere_2 rfl ?_
  refine lv_istore_n (lv' := [(2, .int (0 : Int32)), (1, .int (0 : Int32)), (0, .ref this)]) M.x M.b d_R_lettersHere_3 rfl hl (by decide) rfl (fun ls hl => ?_)
  exact w_R_lettersHere_4 M this h FU _ _ hf H locs ls hH hS (lv_sub hl [2, 1, 0] rfl)
def f_R_nameOf (x0 : Int32) : Option (Nat) :=
  if x0 = (0 : Int32) then
    some 0
  else
  if x0 = (1 : Int32) then
    some 1
  else
  if x0 = (2 : Int32) then
    some 2
  else
  if x0 = (3 : Int32) then
    some 3
  else
  if x0 = (4 : Int32) then
    some 4
  else
  if x0 = (5 : Int32) then
    some 5
  else
  if x0 = (6 : Int32) then
    some 6
  else
  if x0 = (7 : Int32) then
    some 7
  else
  if x0 = (8 : Int32) then
    some 8
  else
  if x0 = (9 : Int32) then
    some 9
  else
  if x0 = (10 : Int32) then
    some 10
  else
  if x0 = (11 : Int32) then
    some 11
  else
  some 12
set_option maxRecDepth 100000 in
set_option maxHeartbeats 4000000 in
theorem c_R_nameOf {l : Launch} {N0 : Nat} {D : va_G} {cs : Nat → ClassId} {x0 : Int32} {r0 : Nat} {h : Hp} (hf : f_R_nameOf x0 = some r0) : Fn l N0 D cs y_R_nameOf b_R_nameOf 1 (some (.object "java/lang/String")) 1 0 0 [.int x0] h (some (.ref (D.2 100 r0))) h := by
  refine z_start (by decide) (Nat.le_of_ble_eq_true rfl) ?_
  intro p e s m args below meth c M hH hS ls hl
  unfold f_R_nameOf at hf
  have hl : lv_has ls 1 [(0, .int x0)] := hl
  obtain ⟨H, hHe⟩ : ∃ H, H = s.heap := ⟨_, rfl⟩
  obtain ⟨locs, hLe⟩ : ∃ locs : List Loc, locs = [] := ⟨_, rfl⟩
  have hS : va_S (zA N0) s.heap H locs := by rw [hHe, hLe]; exact hS
  have hH : HH N0 D cs h H := by rw [hHe]; exact hH
  suffices hg : W p l e (zrm 1 0 0) s m args below meth c H locs 0 0 (MQ below (zQ N0 D cs (some (.ref (D.2 100 r0))) h) args s 0 0 (zA N0)) (F0 m 0 ls []) by rw [hHe, hLe] at hg; exact hg
  clear hHe hLe
  refine lv_iload_n M.x M.b d_R_nameOf_0 rfl (lv_at hl 0 rfl) ?_
  by_cases c1 : x0 = (0 : Int32)
  · replace hf := z_t c1 hf
    refine lv_tableIn (tgt := 64) (off := 63) M.x M.b d_R_nameOf_1 (by rw [c1]; decide) (by rw [c1]; decide) (by rw [c1]; rfl) (by decide) ?_
    refine z_ldcS (i := 0) M (by decide) d_R_nameOf_64 ?_
    obtain rfl := z_r1 hf
    exact z_aret (v := some (D.2 100 0)) M hH hS d_R_nameOf_66
  replace hf := z_f c1 hf
  by_cases c2 : x0 = (1 : Int32)
  · replace hf := z_t c2 hf
    refine lv_tableIn (tgt := 67) (off := 66) M.x M.b d_R_nameOf_1 (by rw [c2]; decide) (by rw [c2]; decide) (by rw [c2]; rfl) (by decide) ?_
    refine z_ldcS (i := 1) M (by decide) d_R_nameOf_67 ?_
    obtain rfl := z_r1 hf
    exact z_aret (v := some (D.2 100 1)) M hH hS d_R_nameOf_69
  replace hf := z_f c2 hf
  by_cases c3 : x0 = (2 : Int32)
  · replace hf := z_t c3 hf
    refine lv_tableIn (tgt := 70) (off := 69) M.x M.b d_R_nameOf_1 (by rw [c3]; decide) (by rw [c3]; decide) (by rw [c3]; rfl) (by decide) ?_
    refine z_ldcS (i := 2) M (by decide) d_R_nameOf_70 ?_
    obtain rfl := z_r1 hf
    exact z_aret (v := some (D.2 100 2)) M hH hS d_R_nameOf_72
  replace hf := z_f c3 hf
  by_cases c4 : x0 = (3 : Int32)
  · replace hf := z_t c4 hf
    refine lv_tableIn (tgt := 73) (off := 72) M.x M.b d_R_nameOf_1 (by rw [c4]; decide) (by rw [c4]; decide) (by rw [c4]; rfl) (by decide) ?_
    refine z_ldcS (i := 3) M (by decide) d_R_nameOf_73 ?_
    obtain rfl := z_r1 hf
    exact z_aret (v := some (D.2 100 3)) M hH hS d_R_nameOf_75
  replace hf := z_f c4 hf
  by_cases c5 : x0 = (4 : Int32)
  · replace hf := z_t c5 hf
    refine lv_tableIn (tgt := 76) (off := 75) M.x M.b d_R_nameOf_1 (by rw [c5]; decide) (by rw [c5]; decide) (by rw [c5]; rfl) (by decide) ?_
    refine z_ldcS (i := 4) M (by decide) d_R_nameOf_76 ?_
    obtain rfl := z_r1 hf
    exact z_aret (v := some (D.2 100 4)) M hH hS d_R_nameOf_78
  replace hf := z_f c5 hf
  by_cases c6 : x0 = (5 : Int32)
  · replace hf := z_t c6 hf
    refine lv_tableIn (tgt := 79) (off := 78) M.x M.b d_R_nameOf_1 (by rw [c6]; decide) (by rw [c6]; decide) (by rw [c6]; rfl) (by decide) ?_
    refine z_ldcS (i := 5) M (by decide) d_R_nameOf_79 ?_
    obtain rfl := z_r1 hf
    exact z_aret (v := some (D.2 100 5)) M hH hS d_R_nameOf_81
  replace hf := z_f c6 hf
  by_cases c7 : x0 = (6 : Int32)
  · replace hf := z_t c7 hf
    refine lv_tableIn (tgt := 82) (off := 81) M.x M.b d_R_nameOf_1 (by rw [c7]; decide) (by rw [c7]; decide) (by rw [c7]; rfl) (by decide) ?_
    refine z_ldcS (i := 6) M (by decide) d_R_nameOf_82 ?_
    obtain rfl := z_r1 hf
    exact z_aret (v := some (D.2 100 6)) M hH hS d_R_nameOf_84
  replace hf := z_f c7 hf
  by_cases c8 : x0 = (7 : Int32)
  · replace hf := z_t c8 hf
    refine lv_tableIn (tgt := 85) (off := 84) M.x M.b d_R_nameOf_1 (by rw [c8]; decide) (by rw [c8]; decide) (by rw [c8]; rfl) (by decide) ?_
    refine z_ldcS (i := 7) M (by decide) d_R_nameOf_85 ?_
    obtain rfl := z_r1 hf
    exact z_aret (v := some (D.2 100 7)) M hH hS d_R_nameOf_87
  replace hf := z_f c8 hf
  by_cases c9 : x0 = (8 : Int32)
  · replace hf := z_t c9 hf
    refine lv_tableIn (tgt := 88) (off := 87) M.x M.b d_R_nameOf_1 (by rw [c9]; decide) (by rw [c9]; decide) (by rw [c9]; rfl) (by decide) ?_
    refine z_ldcS (i := 8) M (by decide) d_R_nameOf_88 ?_
    obtain rfl := z_r1 hf
    exact z_aret (v := some (D.2 100 8)) M hH hS d_R_nameOf_90
  replace hf := z_f c9 hf
  by_cases c10 : x0 = (9 : Int32)
  · replace hf := z_t c10 hf
    refine lv_tableIn (tgt := 91) (off := 90) M.x M.b d_R_nameOf_1 (by rw [c10]; decide) (by rw [c10]; decide) (by rw [c10]; rfl) (by decide) ?_
    refine z_ldcS (i := 9) M (by decide) d_R_nameOf_91 ?_
    obtain rfl := z_r1 hf
    exact z_aret (v := some (D.2 100 9)) M hH hS d_R_nameOf_93
  replace hf := z_f c10 hf
  by_cases c11 : x0 = (10 : Int32)
  · replace hf := z_t c11 hf
    refine lv_tableIn (tgt := 94) (off := 93) M.x M.b d_R_nameOf_1 (by rw [c11]; decide) (by rw [c11]; decide) (by rw [c11]; rfl) (by decide) ?_
    refine z_ldcS (i := 10) M (by decide) d_R_nameOf_94 ?_
    obtain rfl := z_r1 hf
    exact z_aret (v := some (D.2 100 10)) M hH hS d_R_nameOf_96
  replace hf := z_f c11 hf
  by_cases c12 : x0 = (11 : Int32)
  · replace hf := z_t c12 hf
    refine lv_tableIn (tgt := 97) (off := 96) M.x M.b d_R_nameOf_1 (by rw [c12]; decide) (by rw [c12]; decide) (by rw [c12]; rfl) (by decide) ?_
    refine z_ldcS (i := 11) M (by decide) d_R_nameOf_97 ?_
    obtain rfl := z_r1 hf
    exact z_aret (v := some (D.2 100 11)) M hH hS d_R_nameOf_99
  replace hf := z_f c12 hf
  refine lv_tableOut (tgt := 100) M.x M.b d_R_nameOf_1 (by have tc1 := lv_neT (a := 0) c1 (by decide); have tc2 := lv_neT (a := 1) c2 (by decide); have tc3 := lv_neT (a := 2) c3 (by decide); have tc4 := lv_neT (a := 3) c4 (by decide); have tc5 := lv_neT (a := 4) c5 (by decide); have tc6 := lv_neT (a := 5) c6 (by decide); have tc7 := lv_neT (a := 6) c7 (by decide); have tc8 := lv_neT (a := 7) c8 (by decide); have tc9 := lv_neT (a := 8) c9 (by decide); have tc10 := lv_neT (a := 9) c10 (by decide); have tc11 := lv_neT (a := 10) c11 (by decide); have tc12 := lv_neT (a := 11) c12 (by decide); omega) (by decide) ?_
  refine z_ldcS (i := 12) M (by decide) d_R_nameOf_100 ?_
  obtain rfl := z_r1 hf
  exact z_aret (v := some (D.2 100 12)) M hH hS d_R_nameOf_102
def t_R_isHere_12 (this : Nat) (h : Hp) (k12 : Nat → Int32 → Option (Int32)) (x1 : Nat) (x3 : Int32) : Option (Int32) :=
  if x1 < 13 then
    (f_JS_length x1).bind fun i2 =>
    if i2 ≤ x3 then
      some (1 : Int32)
    else
    (gI h this 5 2).bind fun i3 =>
    (f_R_byteAt this h (i3 + x3)).bind fun i6 =>
    if x1 < 13 then
      (f_JS_charAt x1 x3).bind fun i8 =>
      if i6 = i8 then
        k12 x1 (x3 + (1 : Int32))
      else
      some (0 : Int32)
    else none
  else none
set_option maxRecDepth 100000 in
set_option maxHeartbeats 4000000 in
theorem v_R_isHere_12 {p : Program} {l : Launch} {e : Env} {s : State} {m : MethodId} {args : Array Value} {below : List Frame} {meth : Method} {c : Code} {N0 : Nat} {D : va_G} {cs : Nat → ClassId} (M : ZC p s m args meth c "YearBaskets$Reader" "isHere" b_R_isHere 4 (some .boolean) N0 D cs) (this : Nat) (h : Hp) (k12 : Nat → Int32 → Option (Int32)) {r0 : Int32} (hk12 : ∀ (x1 : Nat) (x3 : Int32), k12 x1 x3 = some r0 → ZG p l e (zrm 5 0 0) s m args below meth c N0 D cs (some (.int r0)) h h 4 [(0, .ref this), (1, .ref (D.2 100 x1)), (3, .int x3)] 12 []) (x1 : Nat) (x3 : Int32) (hf : t_R_isHere_12 this h k12 x1 x3 = some r0) : ZG p l e (zrm 5 0 0) s m args below meth c N0 D cs (some (.int r0)) h h 4 [(0, .ref this), (1, .ref (D.2 100 x1)), (3, .int x3)] 12 [] := by
  intro H locs ls hH hS hl
  unfold t_R_isHere_12 at hf
  refine lv_iload_n M.x M.b d_R_isHere_12 rfl (lv_at hl 2 rfl) ?_
  refine lv_aload_n M.x M.b d_R_isHere_13 rfl (lv_at hl 1 rfl) ?_
  replace hf := z_gd hf; obtain ⟨c12, hf⟩ := hf; replace hf := z_bind hf; obtain ⟨i2, e1, hf⟩ := hf
  refine zk_VS (st1 := [.int i2, .int x3]) M hH hS c12 (c_JS_length e1) w_JS_length q_374 [.int x3] rfl ⟨Nat.le_of_ble_eq_true rfl, Nat.le_of_ble_eq_true rfl⟩ hl.1 rfl rfl (Nat.le_of_ble_eq_true rfl) d_R_isHere_14 (fun H locs hH hS => ?_)
  refine lv_icmp_ge (tgt := 46) M.x M.b d_R_isHere_17 (by decide) (fun c11 => ?_) (fun c11 => ?_)
  · replace hf := z_t c11 hf
    refine lv_iconst (v := (1 : Int32)) M.x M.b d_R_isHere_46 rfl ?_
    obtain rfl := z_r1 hf
    exact z_zret M hH hS (by decide) d_R_isHere_47
  · replace hf := z_f c11 hf
    refine lv_aload_n M.x M.b d_R_isHere_20 rfl (lv_at hl 0 rfl) ?_
    refine lv_aload_n M.x M.b d_R_isHere_21 rfl (lv_at hl 0 rfl) ?_
    replace hf := z_bind hf; obtain ⟨i3, e4, hf⟩ := hf
    refine z_get (ci := 5) (k := 2) M hH rfl (by decide) zinR q_363 (gI_spec e4) d_R_isHere_22 ?_
    refine lv_iload_n M.x M.b d_R_isHere_25 rfl (lv_at hl 2 rfl) ?_
    refine lv_iadd M.x M.b d_R_isHere_26 ?_
    replace hf := z_bind hf; obtain ⟨i6, e5, hf⟩ := hf
    refine zk_V (ci := 5) (st1 := [.int i6]) M hH hS (c_R_byteAt e5) rfl (o_R_byteAt e5) w_R_byteAt q_364 [] rfl ⟨Nat.le_of_ble_eq_true rfl, Nat.le_of_ble_eq_true rfl⟩ hl.1 rfl rfl (Nat.le_of_ble_eq_true rfl) d_R_isHere_27 (fun H locs hH hS => ?_)
    refine lv_aload_n M.x M.b d_R_isHere_30 rfl (lv_at hl 1 rfl) ?_
    refine lv_iload_n M.x M.b d_R_isHere_31 rfl (lv_at hl 2 rfl) ?_
    replace hf := z_gd hf; obtain ⟨c10, hf⟩ := hf; replace hf := z_bind hf; obtain ⟨i8, e7, hf⟩ := hf
    refine zk_VS (st1 := [.int i8, .int i6]) M hH hS c10 (c_JS_charAt e7) w_JS_charAt q_373 [.int i6] rfl ⟨Nat.le_of_ble_eq_true rfl, Nat.le_of_ble_eq_true rfl⟩ hl.1 rfl rfl (Nat.le_of_ble_eq_true rfl) d_R_isHere_32 (fun H locs hH hS => ?_)
    refine lv_icmp_eq (tgt := 40) M.x M.b d_R_isHere_35 (by decide) (fun c9 => ?_) (fun c9 => ?_)
    · replace hf := z_t c9 hf
      refine lv_iinc (v := (x3 + (1 : Int32))) (lv' := [(3, .int (x3 + (1 : Int32))), (0, .ref this), (1, .ref (D.2 100 x1))]) M.x M.b d_R_isHere_40 hl (k := 2) rfl rfl (by decide) rfl (fun ls hl => ?_)
      refine lv_goto (tgt := 12) M.x M.b d_R_isHere_43 (by decide) ?_
      exact hk12 _ _ hf H locs ls hH hS (lv_sub hl [1, 2, 0] rfl)
    · replace hf := z_f c9 hf
      refine lv_iconst (v := (0 : Int32)) M.x M.b d_R_isHere_38 rfl ?_
      obtain rfl := z_r1 hf
      exact z_zret M hH hS (by decide) d_R_isHere_39
def f_R_isHere_12 (this : Nat) (h : Hp) : Nat → Nat → Int32 → Option (Int32)
  | 0, _, _ => none
  | n + 1, x1, x3 => t_R_isHere_12 this h (f_R_isHere_12 this h n) x1 x3
theorem w_R_isHere_12 {p : Program} {l : Launch} {e : Env} {s : State} {m : MethodId} {args : Array Value} {below : List Frame} {meth : Method} {c : Code} {N0 : Nat} {D : va_G} {cs : Nat → ClassId} (M : ZC p s m args meth c "YearBaskets$Reader" "isHere" b_R_isHere 4 (some .boolean) N0 D cs) (this : Nat) (h : Hp)  {r0 : Int32}  : ∀ (n : Nat) (x1 : Nat) (x3 : Int32), f_R_isHere_12 this h n x1 x3 = some r0 → ZG p l e (zrm 5 0 0) s m args below meth c N0 D cs (some (.int r0)) h h 4 [(0, .ref this), (1, .ref (D.2 100 x1)), (3, .int x3)] 12 [] := by
  intro n
  induction n with
  | zero => intro x1 x3 hf; exact absurd (show none = some _ from hf) (fun q => by cases q)
  | succ n ih => intro x1 x3 hf; exact v_R_isHere_12 M this h (f_R_isHere_12 this h n)  ih _ _ hf
def f_R_isHere (this : Nat) (h : Hp) (x1 : Nat) (x2 : Int32) : Option (Int32) :=
  if isO h this 5 = true then
  if x1 < 13 then
    (f_JS_length x1).bind fun i14 =>
    if i14 = x2 then
      f_R_isHere_12 this h FU x1 (0 : Int32)
    else
    some (0 : Int32)
  else none
  else none
theorem o_R_isHere {this : Nat} {h : Hp} {x1 : Nat} {x2 : Int32} {r0 : Int32} (hf : f_R_isHere this h x1 x2 = some r0) : isO h this 5 = true := by
  unfold f_R_isHere at hf
  exact (z_gd hf).1
set_option maxRecDepth 100000 in
set_option maxHeartbeats 4000000 in
theorem c_R_isHere {l : Launch} {N0 : Nat} {D : va_G} {cs : Nat → ClassId} {this : Nat} {h : Hp} {x1 : Nat} {x2 : Int32} {r0 : Int32} (hf : f_R_isHere this h x1 x2 = some r0) : Fn l N0 D cs y_R_isHere b_R_isHere 4 (some .boolean) 5 0 0 [.ref this, .ref (D.2 100 x1), .int x2] h (some (.int r0)) h := by
  refine z_start (by decide) (Nat.le_of_ble_eq_true rfl) ?_
  intro p e s m args below meth c M hH hS ls hl
  unfold f_R_isHere at hf
  obtain ⟨hO, hf⟩ := z_gd hf
  have hl : lv_has ls 4 [(0, .ref this), (1, .ref (D.2 100 x1)), (2, .int x2)] := hl
  obtain ⟨H, hHe⟩ : ∃ H, H = s.heap := ⟨_, rfl⟩
  obtain ⟨locs, hLe⟩ : ∃ locs : List Loc, locs = [] := ⟨_, rfl⟩
  have hS : va_S (zA N0) s.heap H locs := by rw [hHe, hLe]; exact hS
  have hH : HH N0 D cs h H := by rw [hHe]; exact hH
  suffices hg : W p l e (zrm 5 0 0) s m args below meth c H locs 0 0 (MQ below (zQ N0 D cs (some (.int r0)) h) args s 0 0 (zA N0)) (F0 m 0 ls []) by rw [hHe, hLe] at hg; exact hg
  clear hHe hLe
  refine lv_aload_n M.x M.b d_R_isHere_0 rfl (lv_at hl 1 rfl) ?_
  replace hf := z_gd hf; obtain ⟨c16, hf⟩ := hf; replace hf := z_bind hf; obtain ⟨i14, e13, hf⟩ := hf
  refine zk_VS (st1 := [.int i14]) M hH hS c16 (c_JS_length e13) w_JS_length q_374 [] rfl ⟨Nat.le_of_ble_eq_true rfl, Nat.le_of_ble_eq_true rfl⟩ hl.1 rfl rfl (Nat.le_of_ble_eq_true rfl) d_R_isHere_1 (fun H locs hH hS => ?_)
  refine lv_iload_n M.x M.b d_R_isHere_4 rfl (lv_at hl 2 rfl) ?_
  refine lv_icmp_eq (tgt := 10) M.x M.b d_R_isHere_5 (by decide) (fun c15 => ?_) (fun c15 => ?_)
  · replace hf := z_t c15 hf
    refine lv_iconst (v := (0 : Int32)) M.x M.b d_R_isHere_10 rfl ?_
    refine lv_istore_n (lv' := [(3, .int (0 : Int32)), (0, .ref this), (1, .ref (D.2 100 x1)), (2, .int x2)]) M.x M.b d_R_isHere_11 rfl hl (by decide) rfl (fun ls hl => ?_)
    exact w_R_isHere_12 M this h FU _ _ hf H locs ls hH hS (lv_sub hl [1, 2, 0] rfl)
  · replace hf := z_f c15 hf
    refine lv_iconst (v := (0 : Int32)) M.x M.b d_R_isHere_8 rfl ?_
    obtain rfl := z_r1 hf
    exact z_zret M hH hS (by decide) d_R_isHere_9
def t_R_wordHere_2 (this : Nat) (h : Hp) (k2 : Int32 → Int32 → Option (Int32)) (x1 : Int32) (x2 : Int32) : Option (Int32) :=
  if (13 : Int32) ≤ x2 then
    some (-1 : Int32)
  else
  (f_R_nameOf x2).bind fun t2 =>
  (f_R_isHere this h t2 x1).bind fun i4 =>
  if i4 = 0 then
    k2 x1 (x2 + (1 : Int32))
  else
  some x2
set_option maxRecDepth 100000 in
set_option maxHeartbeats 4000000 in
theorem v_R_wordHere_2 {p : Program} {l : Launch} {e : Env} {s : State} {m : MethodId} {args : Array Value} {below : List Frame} {meth : Method} {c : Code} {N0 : Nat} {D : va_G} {cs : Nat → ClassId} (M : ZC p s m args meth c "YearBaskets$Reader" "wordHere" b_R_wordHere 3 (some .int) N0 D cs) (this : Nat) (h : Hp) (k2 : Int32 → Int32 → Option (Int32)) {r0 : Int32} (hk2 : ∀ (x1 : Int32) (x2 : Int32), k2 x1 x2 = some r0 → ZG p l e (zrm 6 0 0) s m args below meth c N0 D cs (some (.int r0)) h h 3 [(0, .ref this), (1, .int x1), (2, .int x2)] 2 []) (x1 : Int32) (x2 : Int32) (hf : t_R_wordHere_2 this h k2 x1 x2 = some r0) : ZG p l e (zrm 6 0 0) s m args below meth c N0 D cs (some (.int r0)) h h 3 [(0, .ref this), (1, .int x1), (2, .int x2)] 2 [] := by
  intro H locs ls hH hS hl
  unfold t_R_wordHere_2 at hf
  refine lv_iload_n M.x M.b d_R_wordHere_2 rfl (lv_at hl 2 rfl) ?_
  refine lv_bipush (v := (13 : Int32)) M.x M.b d_R_wordHere_3 rfl ?_
  refine lv_icmp_ge (tgt := 28) M.x M.b d_R_wordHere_5 (by decide) (fun c6 => ?_) (fun c6 => ?_)
  · replace hf := z_t c6 hf
    refine lv_iconst (v := (-1 : Int32)) M.x M.b d_R_wordHere_28 rfl ?_
    obtain rfl := z_r1 hf
    exact z_iret M hH hS d_R_wordHere_29
  · replace hf := z_f c6 hf
    refine lv_aload_n M.x M.b d_R_wordHere_8 rfl (lv_at hl 0 rfl) ?_
    refine lv_iload_n M.x M.b d_R_wordHere_9 rfl (lv_at hl 2 rfl) ?_
    replace hf := z_bind hf; obtain ⟨t2, e1, hf⟩ := hf
    refine zk_S (st1 := [.ref (D.2 100 t2), .ref this]) M hH hS (c_R_nameOf e1) w_R_nameOf q_379 [.ref this] rfl ⟨Nat.le_of_ble_eq_true rfl, Nat.le_of_ble_eq_true rfl⟩ hl.1 rfl rfl (Nat.le_of_ble_eq_true rfl) d_R_wordHere_10 (fun H locs hH hS => ?_)
    refine lv_iload_n M.x M.b d_R_wordHere_13 rfl (lv_at hl 1 rfl) ?_
    replace hf := z_bind hf; obtain ⟨i4, e3, hf⟩ := hf
    refine zk_V (ci := 5) (st1 := [.int i4]) M hH hS (c_R_isHere e3) rfl (o_R_isHere e3) w_R_isHere q_378 [] rfl ⟨Nat.le_of_ble_eq_true rfl, Nat.le_of_ble_eq_true rfl⟩ hl.1 rfl rfl (Nat.le_of_ble_eq_true rfl) d_R_wordHere_14 (fun H locs hH hS => ?_)
    refine lv_if_eq (tgt := 22) M.x M.b d_R_wordHere_17 (by decide) (fun c5 => ?_) (fun c5 => ?_)
    · replace hf := z_t c5 hf
      refine lv_iinc (v := (x2 + (1 : Int32))) (lv' := [(2, .int (x2 + (1 : Int32))), (0, .ref this), (1, .int x1)]) M.x M.b d_R_wordHere_22 hl (k := 2) rfl rfl (by decide) rfl (fun ls hl => ?_)
      refine lv_goto (tgt := 2) M.x M.b d_R_wordHere_25 (by decide) ?_
      exact hk2 _ _ hf H locs ls hH hS (lv_sub hl [1, 2, 0] rfl)
    · replace hf := z_f c5 hf
      refine lv_iload_n M.x M.b d_R_wordHere_20 rfl (lv_at hl 2 rfl) ?_
      obtain rfl := z_r1 hf
      exact z_iret M hH hS d_R_wordHere_21
def f_R_wordHere_2 (this : Nat) (h : Hp) : Nat → Int32 → Int32 → Option (Int32)
  | 0, _, _ => none
  | n + 1, x1, x2 => t_R_wordHere_2 this h (f_R_wordHere_2 this h n) x1 x2
theorem w_R_wordHere_2 {p : Program} {l : Launch} {e : Env} {s : State} {m : MethodId} {args : Array Value} {below : List Frame} {meth : Method} {c : Code} {N0 : Nat} {D : va_G} {cs : Nat → ClassId} (M : ZC p s m args meth c "YearBaskets$Reader" "wordHere" b_R_wordHere 3 (some .int) N0 D cs) (this : Nat) (h : Hp)  {r0 : Int32}  : ∀ (n : Nat) (x1 : Int32) (x2 : Int32), f_R_wordHere_2 this h n x1 x2 = some r0 → ZG p l e (zrm 6 0 0) s m args below meth c N0 D cs (some (.int r0)) h h 3 [(0, .ref this), (1, .int x1), (2, .int x2)] 2 [] := by
  intro n
  induction n with
  | zero => intro x1 x2 hf; exact absurd (show none = some _ from hf) (fun q => by cases q)
  | succ n ih => intro x1 x2 hf; exact v_R_wordHere_2 M this h (f_R_wordHere_2 this h n)  ih _ _ hf
def f_R_wordHere (this : Nat) (h : Hp) (x1 : Int32) : Option (Int32) :=
  if isO h this 5 = true then
  f_R_wordHere_2 this h FU x1 (0 : Int32)
  else none
theorem o_R_wordHere {this : Nat} {h : Hp} {x1 : Int32} {r0 : Int32} (hf : f_R_wordHere this h x1 = some r0) : isO h this 5 = true := by
  unfold f_R_wordHere at hf
  exact (z_gd hf).1
set_option maxRecDepth 100000 in
set_option maxHeartbeats 4000000 in
theorem c_R_wordHere {l : Launch} {N0 : Nat} {D : va_G} {cs : Nat → ClassId} {this : Nat} {h : Hp} {x1 : Int32} {r0 : Int32} (hf : f_R_wordHere this h x1 = some r0) : Fn l N0 D cs y_R_wordHere b_R_wordHere 3 (some .int) 6 0 0 [.ref this, .int x1] h (some (.int r0)) h := by
  refine z_start (by decide) (Nat.le_of_ble_eq_true rfl) ?_
  intro p e s m args below meth c M hH hS ls hl
  unfold f_R_wordHere at hf
  obtain ⟨hO, hf⟩ := z_gd hf
  have hl : lv_has ls 3 [(0, .ref this), (1, .int x1)] := hl
  obtain ⟨H, hHe⟩ : ∃ H, H = s.heap := ⟨_, rfl⟩
  obtain ⟨locs, hLe⟩ : ∃ locs : List Loc, locs = [] := ⟨_, rfl⟩
  have hS : va_S (zA N0) s.heap H locs := by rw [hHe, hLe]; exact hS
  have hH : HH N0 D cs h H := by rw [hHe]; exact hH
  suffices hg : W p l e (zrm 6 0 0) s m args below meth c H locs 0 0 (MQ below (zQ N0 D cs (some (.int r0)) h) args s 0 0 (zA N0)) (F0 m 0 ls []) by rw [hHe, hLe] at hg; exact hg
  clear hHe hLe
  refine lv_iconst (v := (0 : Int32)) M.x M.b d_R_wordHere_0 rfl ?_
  refine lv_istore_n (lv' := [(2, .int (0 : Int32)), (0, .ref this), (1, .int x1)]) M.x M.b d_R_wordHere_1 rfl hl (by decide) rfl (fun ls hl => ?_)
  exact w_R_wordHere_2 M this h FU _ _ hf H locs ls hH hS (lv_sub hl [1, 2, 0] rfl)
def f_R_blame (this : Nat) (x1 : Int32) (h : Hp) : Option (Hp) :=
  if isO h this 5 = true then
  (pV h this 5 3 (.int x1)).bind fun h1 =>
  (gI h1 this 5 2).bind fun i3 =>
  (pV h1 this 5 4 (.int i3)).bind fun h5 =>
  some h5
  else none
theorem o_R_blame {this : Nat} {x1 : Int32} {h : Hp} {h0 : Hp} (hf : f_R_blame this x1 h = some h0) : isO h this 5 = true := by
  unfold f_R_blame at hf
  exact (z_gd hf).1
set_option maxRecDepth 100000 in
set_option maxHeartbeats 4000000 in
theorem c_R_blame {l : Launch} {N0 : Nat} {D : va_G} {cs : Nat → ClassId} {this : Nat} {x1 : Int32} {h : Hp} {h0 : Hp} (hf : f_R_blame this x1 h = some h0) : Fn l N0 D cs y_R_blame b_R_blame 2 (none) 1 0 0 [.ref this, .int x1] h none h0 := by
  refine z_start (by decide) (Nat.le_of_ble_eq_true rfl) ?_
  intro p e s m args below meth c M hH hS ls hl
  unfold f_R_blame at hf
  obtain ⟨hO, hf⟩ := z_gd hf
  have hl : lv_has ls 2 [(0, .ref this), (1, .int x1)] := hl
  obtain ⟨H, hHe⟩ : ∃ H, H = s.heap := ⟨_, rfl⟩
  obtain ⟨locs, hLe⟩ : ∃ locs : List Loc, locs = [] := ⟨_, rfl⟩
  have hS : va_S (zA N0) s.heap H locs := by rw [hHe, hLe]; exact hS
  have hH : HH N0 D cs h H := by rw [hHe]; exact hH
  suffices hg : W p l e (zrm 1 0 0) s m args below meth c H locs 0 0 (MQ below (zQ N0 D cs none h0) args s 0 0 (zA N0)) (F0 m 0 ls []) by rw [hHe, hLe] at hg; exact hg
  clear hHe hLe
  refine lv_aload_n M.x M.b d_R_blame_0 rfl (lv_at hl 0 rfl) ?_
  refine lv_iload_n M.x M.b d_R_blame_1 rfl (lv_at hl 1 rfl) ?_
  replace hf := z_bind hf; obtain ⟨h1, e2, hf⟩ := hf
  refine z_put (ci := 5) (k := 3) M hH hS rfl (by decide) zinR zYR zYR_ok zNR_ok rfl q_384 rfl rfl rfl e2 d_R_blame_2 (fun H locs hH hS => ?_)
  refine lv_aload_n M.x M.b d_R_blame_5 rfl (lv_at hl 0 rfl) ?_
  refine lv_aload_n M.x M.b d_R_blame_6 rfl (lv_at hl 0 rfl) ?_
  replace hf := z_bind hf; obtain ⟨i3, e4, hf⟩ := hf
  refine z_get (ci := 5) (k := 2) M hH rfl (by decide) zinR q_363 (gI_spec e4) d_R_blame_7 ?_
  replace hf := z_bind hf; obtain ⟨h5, e6, hf⟩ := hf
  refine z_put (ci := 5) (k := 4) M hH hS rfl (by decide) zinR zYR zYR_ok zNR_ok rfl q_383 rfl rfl rfl e6 d_R_blame_10 (fun H locs hH hS => ?_)
  obtain rfl := z_r1 hf
  exact z_vret M hH hS d_R_blame_13
def f_R_readYear_30 (this : Nat) (h : Hp) : Option (Hp) :=
  (f_R_blame this (1 : Int32) h).bind fun h2 =>
  some h2
set_option maxRecDepth 100000 in
set_option maxHeartbeats 4000000 in
theorem w_R_readYear_30 {p : Program} {l : Launch} {e : Env} {s : State} {m : MethodId} {args : Array Value} {below : List Frame} {meth : Method} {c : Code} {N0 : Nat} {D : va_G} {cs : Nat → ClassId} (M : ZC p s m args meth c "YearBaskets$Reader" "readYear" b_R_readYear 3 (none) N0 D cs) (this : Nat)  {h0 : Hp}  (h : Hp) (hf : f_R_readYear_30 this h = some h0) : ZG p l e (zrm 3 0 0) s m args below meth c N0 D cs none h0 h 3 [(0, .ref this)] 30 [] := by
  intro H locs ls hH hS hl
  unfold f_R_readYear_30 at hf
  refine lv_aload_n M.x M.b d_R_readYear_30 rfl (lv_at hl 0 rfl) ?_
  refine lv_iconst (v := (1 : Int32)) M.x M.b d_R_readYear_31 rfl ?_
  replace hf := z_bind hf; obtain ⟨h2, e1, hf⟩ := hf
  refine zk_V (ci := 5) (st1 := []) M hH hS (c_R_blame e1) rfl (o_R_blame e1) w_R_blame q_388 [] rfl ⟨Nat.le_of_ble_eq_true rfl, Nat.le_of_ble_eq_true rfl⟩ hl.1 rfl rfl (Nat.le_of_ble_eq_true rfl) d_R_readYear_32 (fun H locs hH hS => ?_)
  obtain rfl := z_r1 hf
  exact z_vret M hH hS d_R_readYear_35
def f_R_readYear (this : Nat) (x1 : Int32) (h : Hp) : Option (Hp) :=
  if isO h this 5 = true then
  (f_R_skipBlanks this h).bind fun h4 =>
  (gI h4 this 5 2).bind fun i5 =>
  (f_R_byteAt this h4 i5).bind fun i8 =>
  (f_Y_isNoYear (i8 - (48 : Int32))).bind fun i10 =>
  if i10 = 0 then
    (gA h4 this 5 5).bind fun r11 =>
    zm r11 (
      f_R_readYear_30 this h4
    ) fun a13 =>
    (gA h4 this 5 5).bind fun r14 =>
    (r14).bind fun a16 =>
    (f_P_mark a16 x1 (i8 - (48 : Int32)) h4).bind fun h19 =>
    (gI h19 this 5 2).bind fun i20 =>
    (pV h19 this 5 2 (.int (i20 + (1 : Int32)))).bind fun h22 =>
    some h22
  else
  f_R_readYear_30 this h4
  else none
theorem o_R_readYear {this : Nat} {x1 : Int32} {h : Hp} {h0 : Hp} (hf : f_R_readYear this x1 h = some h0) : isO h this 5 = true := by
  unfold f_R_readYear at hf
  exact (z_gd hf).1
set_option maxRecDepth 100000 in
set_option maxHeartbeats 4000000 in
theorem c_R_readYear {l : Launch} {N0 : Nat} {D : va_G} {cs : Nat → ClassId} {this : Nat} {x1 : Int32} {h : Hp} {h0 : Hp} (hf : f_R_readYear this x1 h = some h0) : Fn l N0 D cs y_R_readYear b_R_readYear 3 (none) 3 0 0 [.ref this, .int x1] h none h0 := by
  refine z_start (by decide) (Nat.le_of_ble_eq_true rfl) ?_
  intro p e s m args below meth c M hH hS ls hl
  unfold f_R_readYear at hf
  obtain ⟨hO, hf⟩ := z_gd hf
  have hl : lv_has ls 3 [(0, .ref this), (1, .int x1)] := hl
  obtain ⟨H, hHe⟩ : ∃ H, H = s.heap := ⟨_, rfl⟩
  obtain ⟨locs, hLe⟩ : ∃ locs : List Loc, locs = [] := ⟨_, rfl⟩
  have hS : va_S (zA N0) s.heap H locs := by rw [hHe, hLe]; exact hS
  have hH : HH N0 D cs h H := by rw [hHe]; exact hH
  suffices hg : W p l e (zrm 3 0 0) s m args below meth c H locs 0 0 (MQ below (zQ N0 D cs none h0) args s 0 0 (zA N0)) (F0 m 0 ls []) by rw [hHe, hLe] at hg; exact hg
  clear hHe hLe
  refine lv_aload_n M.x M.b d_R_readYear_0 rfl (lv_at hl 0 rfl) ?_
  replace hf := z_bind hf; obtain ⟨h4, e3, hf⟩ := hf
  refine zk_V (ci := 5) (st1 := []) M hH hS (c_R_skipBlanks e3) rfl (o_R_skipBlanks e3) w_R_skipBlanks q_392 [] rfl ⟨Nat.le_of_ble_eq_true rfl, Nat.le_of_ble_eq_true rfl⟩ hl.1 rfl rfl (Nat.le_of_ble_eq_true rfl) d_R_readYear_1 (fun H locs hH hS => ?_)
  refine lv_aload_n M.x M.b d_R_readYear_4 rfl (lv_at hl 0 rfl) ?_
  refine lv_aload_n M.x M.b d_R_readYear_5 rfl (lv_at hl 0 rfl) ?_
  replace hf := z_bind hf; obtain ⟨i5, e6, hf⟩ := hf
  refine z_get (ci := 5) (k := 2) M hH rfl (by decide) zinR q_363 (gI_spec e6) d_R_readYear_6 ?_
  replace hf := z_bind hf; obtain ⟨i8, e7, hf⟩ := hf
  refine zk_V (ci := 5) (st1 := [.int i8]) M hH hS (c_R_byteAt e7) rfl (o_R_byteAt e7) w_R_byteAt q_364 [] rfl ⟨Nat.le_of_ble_eq_true rfl, Nat.le_of_ble_eq_true rfl⟩ hl.1 rfl rfl (Nat.le_of_ble_eq_true rfl) d_R_readYear_9 (fun H locs hH hS => ?_)
  refine lv_bipush (v := (48 : Int32)) M.x M.b d_R_readYear_12 rfl ?_
  refine lv_isub M.x M.b d_R_readYear_14 ?_
  refine lv_istore_n (lv' := [(2, .int (i8 - (48 : Int32))), (0, .ref this), (1, .int x1)]) M.x M.b d_R_readYear_15 rfl hl (by decide) rfl (fun ls hl => ?_)
  refine lv_iload_n M.x M.b d_R_readYear_16 rfl (lv_at hl 0 rfl) ?_
  replace hf := z_bind hf; obtain ⟨i10, e9, hf⟩ := hf
  refine zk_SN (st1 := [.int i10]) M hH hS (c_Y_isNoYear e9) w_Y_isNoYear q_391 [] rfl ⟨Nat.le_of_ble_eq_true rfl, Nat.le_of_ble_eq_true rfl⟩ hl.1 rfl rfl (Nat.le_of_ble_eq_true rfl) d_R_readYear_17 (fun H locs hH hS => ?_)
  refine lv_if_ne (tgt := 30) M.x M.b d_R_readYear_20 (by decide) (fun c24 => ?_) (fun c24 => ?_)
  · replace hf := z_f c24 hf
    exact w_R_readYear_30 M this _ hf H locs ls hH hS (lv_sub hl [1] rfl)
  · replace hf := z_t c24 hf
    refine lv_aload_n M.x M.b d_R_readYear_23 rfl (lv_at hl 1 rfl) ?_
    replace hf := z_bind hf; obtain ⟨r11, e12, hf⟩ := hf
    refine z_get (ci := 5) (k := 5) M hH rfl (by decide) zinR q_390 (gA_spec e12) d_R_readYear_24 ?_
    rcases r11 with _ | a13
    · replace hf := zm_n hf
      refine lv_ifnonnullN M.x M.b d_R_readYear_27 ?_
      exact w_R_readYear_30 M this _ hf H locs ls hH hS (lv_sub hl [1] rfl)
    · replace hf := zm_s hf
      refine lv_ifnonnull (tgt := 36) M.x M.b d_R_readYear_27 (by decide) ?_
      refine lv_aload_n M.x M.b d_R_readYear_36 rfl (lv_at hl 1 rfl) ?_
      replace hf := z_bind hf; obtain ⟨r14, e15, hf⟩ := hf
      refine z_get (ci := 5) (k := 5) M hH rfl (by decide) zinR q_390 (gA_spec e15) d_R_readYear_37 ?_
      refine lv_iload_n M.x M.b d_R_readYear_40 rfl (lv_at hl 2 rfl) ?_
      refine lv_iload_n M.x M.b d_R_readYear_41 rfl (lv_at hl 0 rfl) ?_
      rcases r14 with _ | a16
      · exact absurd hf z_nb0
      replace hf := z_sb hf
      replace hf := z_bind hf; obtain ⟨h19, e18, hf⟩ := hf
      refine zk_V (ci := 4) (st1 := []) M hH hS (c_P_mark e18) rfl (o_P_mark e18) w_P_mark q_389 [] rfl ⟨Nat.le_of_ble_eq_true rfl, Nat.le_of_ble_eq_true rfl⟩ hl.1 rfl rfl (Nat.le_of_ble_eq_true rfl) d_R_readYear_42 (fun H locs hH hS => ?_)
      refine lv_aload_n M.x M.b d_R_readYear_45 rfl (lv_at hl 1 rfl) ?_
      refine lv_dup M.x M.b d_R_readYear_46 rfl ?_
      replace hf := z_bind hf; obtain ⟨i20, e21, hf⟩ := hf
      refine z_get (ci := 5) (k := 2) M hH rfl (by decide) zinR q_363 (gI_spec e21) d_R_readYear_47 ?_
      refine lv_iconst (v := (1 : Int32)) M.x M.b d_R_readYear_50 rfl ?_
      refine lv_iadd M.x M.b d_R_readYear_51 ?_
      replace hf := z_bind hf; obtain ⟨h22, e23, hf⟩ := hf
      refine z_put (ci := 5) (k := 2) M hH hS rfl (by decide) zinR zYR zYR_ok zNR_ok rfl q_363 rfl rfl rfl e23 d_R_readYear_52 (fun H locs hH hS => ?_)
      obtain rfl := z_r1 hf
      exact z_vret M hH hS d_R_readYear_55
def f_R_readSign (this : Nat) (x1 : Int32) (h : Hp) : Option (Hp) :=
  if isO h this 5 = true then
  (gI h this 5 3).bind fun i1 =>
  if i1 = 0 then
    (f_R_skipBlanks this h).bind fun h4 =>
    (gI h4 this 5 2).bind fun i5 =>
    (f_R_byteAt this h4 i5).bind fun i8 =>
    if i8 = x1 then
      (gI h4 this 5 2).bind fun i11 =>
      (pV h4 this 5 2 (.int (i11 + (1 : Int32)))).bind fun h13 =>
      some h13
    else
    (f_R_blame this (1 : Int32) h4).bind fun h10 =>
    some h10
  else
  some h
  else none
theorem o_R_readSign {this : Nat} {x1 : Int32} {h : Hp} {h0 : Hp} (hf : f_R_readSign this x1 h = some h0) : isO h this 5 = true := by
  unfold f_R_readSign at hf
  exact (z_gd hf).1
set_option maxRecDepth 100000 in
set_option maxHeartbeats 4000000 in
theorem c_R_readSign {l : Launch} {N0 : Nat} {D : va_G} {cs : Nat → ClassId} {this : Nat} {x1 : Int32} {h : Hp} {h0 : Hp} (hf : f_R_readSign this x1 h = some h0) : Fn l N0 D cs y_R_readSign b_R_readSign 2 (none) 3 0 0 [.ref this, .int x1] h none h0 := by
  refine z_start (by decide) (Nat.le_of_ble_eq_true rfl) ?_
  intro p e s m args below meth c M hH hS ls hl
  unfold f_R_readSign at hf
  obtain ⟨hO, hf⟩ := z_gd hf
  have hl : lv_has ls 2 [(0, .ref this), (1, .int x1)] := hl
  obtain ⟨H, hHe⟩ : ∃ H, H = s.heap := ⟨_, rfl⟩
  obtain ⟨locs, hLe⟩ : ∃ locs : List Loc, locs = [] := ⟨_, rfl⟩
  have hS : va_S (zA N0) s.heap H locs := by rw [hHe, hLe]; exact hS
  have hH : HH N0 D cs h H := by rw [hHe]; exact hH
  suffices hg : W p l e (zrm 3 0 0) s m args below meth c H locs 0 0 (MQ below (zQ N0 D cs none h0) args s 0 0 (zA N0)) (F0 m 0 ls []) by rw [hHe, hLe] at hg; exact hg
  clear hHe hLe
  refine lv_aload_n M.x M.b d_R_readSign_0 rfl (lv_at hl 0 rfl) ?_
  replace hf := z_bind hf; obtain ⟨i1, e2, hf⟩ := hf
  refine z_get (ci := 5) (k := 3) M hH rfl (by decide) zinR q_384 (gI_spec e2) d_R_readSign_1 ?_
  refine lv_if_eq (tgt := 8) M.x M.b d_R_readSign_4 (by decide) (fun c16 => ?_) (fun c16 => ?_)
  · replace hf := z_t c16 hf
    refine lv_aload_n M.x M.b d_R_readSign_8 rfl (lv_at hl 0 rfl) ?_
    replace hf := z_bind hf; obtain ⟨h4, e3, hf⟩ := hf
    refine zk_V (ci := 5) (st1 := []) M hH hS (c_R_skipBlanks e3) rfl (o_R_skipBlanks e3) w_R_skipBlanks q_392 [] rfl ⟨Nat.le_of_ble_eq_true rfl, Nat.le_of_ble_eq_true rfl⟩ hl.1 rfl rfl (Nat.le_of_ble_eq_true rfl) d_R_readSign_9 (fun H locs hH hS => ?_)
    refine lv_aload_n M.x M.b d_R_readSign_12 rfl (lv_at hl 0 rfl) ?_
    refine lv_aload_n M.x M.b d_R_readSign_13 rfl (lv_at hl 0 rfl) ?_
    replace hf := z_bind hf; obtain ⟨i5, e6, hf⟩ := hf
    refine z_get (ci := 5) (k := 2) M hH rfl (by decide) zinR q_363 (gI_spec e6) d_R_readSign_14 ?_
    replace hf := z_bind hf; obtain ⟨i8, e7, hf⟩ := hf
    refine zk_V (ci := 5) (st1 := [.int i8]) M hH hS (c_R_byteAt e7) rfl (o_R_byteAt e7) w_R_byteAt q_364 [] rfl ⟨Nat.le_of_ble_eq_true rfl, Nat.le_of_ble_eq_true rfl⟩ hl.1 rfl rfl (Nat.le_of_ble_eq_true rfl) d_R_readSign_17 (fun H locs hH hS => ?_)
    refine lv_iload_n M.x M.b d_R_readSign_20 rfl (lv_at hl 1 rfl) ?_
    refine lv_icmp_ne (tgt := 37) M.x M.b d_R_readSign_21 (by decide) (fun c15 => ?_) (fun c15 => ?_)
    · replace hf := z_f c15 hf
      refine lv_aload_n M.x M.b d_R_readSign_37 rfl (lv_at hl 0 rfl) ?_
      refine lv_iconst (v := (1 : Int32)) M.x M.b d_R_readSign_38 rfl ?_
      replace hf := z_bind hf; obtain ⟨h10, e9, hf⟩ := hf
      refine zk_V (ci := 5) (st1 := []) M hH hS (c_R_blame e9) rfl (o_R_blame e9) w_R_blame q_388 [] rfl ⟨Nat.le_of_ble_eq_true rfl, Nat.le_of_ble_eq_true rfl⟩ hl.1 rfl rfl (Nat.le_of_ble_eq_true rfl) d_R_readSign_39 (fun H locs hH hS => ?_)
      obtain rfl := z_r1 hf
      exact z_vret M hH hS d_R_readSign_42
    · replace hf := z_t c15 hf
      refine lv_aload_n M.x M.b d_R_readSign_24 rfl (lv_at hl 0 rfl) ?_
      refine lv_dup M.x M.b d_R_readSign_25 rfl ?_
      replace hf := z_bind hf; obtain ⟨i11, e12, hf⟩ := hf
      refine z_get (ci := 5) (k := 2) M hH rfl (by decide) zinR q_363 (gI_spec e12) d_R_readSign_26 ?_
      refine lv_iconst (v := (1 : Int32)) M.x M.b d_R_readSign_29 rfl ?_
      refine lv_iadd M.x M.b d_R_readSign_30 ?_
      replace hf := z_bind hf; obtain ⟨h13, e14, hf⟩ := hf
      refine z_put (ci := 5) (k := 2) M hH hS rfl (by decide) zinR zYR zYR_ok zNR_ok rfl q_363 rfl rfl rfl e14 d_R_readSign_31 (fun H locs hH hS => ?_)
      refine lv_goto (tgt := 42) M.x M.b d_R_readSign_34 (by decide) ?_
      obtain rfl := z_r1 hf
      exact z_vret M hH hS d_R_readSign_42
  · replace hf := z_f c16 hf
    obtain rfl := z_r1 hf
    exact z_vret M hH hS d_R_readSign_7
def f_R_readPair_41 (rec : Nat → Int32 → Hp → Option (Hp)) (this : Nat) (x2 : Int32) (h : Hp) : Option (Hp) :=
  (rec this (x2 + (1 : Int32)) h).bind fun h2 =>
  (f_R_readSign this (41 : Int32) h2).bind fun h4 =>
  some h4
set_option maxRecDepth 100000 in
set_option maxHeartbeats 4000000 in
theorem w_R_readPair_41 {p : Program} {l : Launch} {e : Env} {s : State} {m : MethodId} {args : Array Value} {below : List Frame} {meth : Method} {c : Code} {N0 : Nat} {D : va_G} {cs : Nat → ClassId} (M : ZC p s m args meth c "YearBaskets$Reader" "readPair" b_R_readPair 3 (none) N0 D cs) (rec : Nat → Int32 → Hp → Option (Hp)) {n0 : Nat} (hn0 : 8 ≤ n0) (hrec : ∀ {this : Nat} {x1 : Int32} {h : Hp} {h0 : Hp}, rec this x1 h = some h0 → Fn l N0 D cs y_R_readTerm b_R_readTerm 5 (none) n0 0 0 [.ref this, .int x1] h none h0 ∧ isO h this 5 = true) (this : Nat)  {h0 : Hp}  (x2 : Int32) (h : Hp) (hf : f_R_readPair_41 rec this x2 h = some h0) : ZG p l e (zrm (n0 + 1) 0 0) s m args below meth c N0 D cs none h0 h 3 [(0, .ref this), (2, .int x2)] 41 [] := by
  intro H locs ls hH hS hl
  unfold f_R_readPair_41 at hf
  refine lv_aload_n M.x M.b d_R_readPair_41 rfl (lv_at hl 0 rfl) ?_
  refine lv_iload_n M.x M.b d_R_readPair_42 rfl (lv_at hl 1 rfl) ?_
  refine lv_iconst (v := (1 : Int32)) M.x M.b d_R_readPair_43 rfl ?_
  refine lv_iadd M.x M.b d_R_readPair_44 ?_
  replace hf := z_bind hf; obtain ⟨h2, e1, hf⟩ := hf
  refine zk_V (ci := 5) (st1 := []) M hH hS (hrec e1).1 rfl (hrec e1).2 w_R_readTerm q_400 [] rfl (zR_n (by omega) (by decide)) hl.1 rfl rfl (Nat.le_of_ble_eq_true rfl) d_R_readPair_45 (fun H locs hH hS => ?_)
  refine lv_aload_n M.x M.b d_R_readPair_48 rfl (lv_at hl 0 rfl) ?_
  refine lv_bipush (v := (41 : Int32)) M.x M.b d_R_readPair_49 rfl ?_
  replace hf := z_bind hf; obtain ⟨h4, e3, hf⟩ := hf
  refine zk_V (ci := 5) (st1 := []) M hH hS (c_R_readSign e3) rfl (o_R_readSign e3) w_R_readSign q_399 [] rfl (zR_n (by omega) (by decide)) hl.1 rfl rfl (Nat.le_of_ble_eq_true rfl) d_R_readPair_51 (fun H locs hH hS => ?_)
  obtain rfl := z_r1 hf
  exact z_vret M hH hS d_R_readPair_54
def f_R_readPair (rec : Nat → Int32 → Hp → Option (Hp)) (this : Nat) (x1 : Int32) (x2 : Int32) (h : Hp) : Option (Hp) :=
  if isO h this 5 = true then
  (f_R_readSign this (40 : Int32) h).bind fun h6 =>
  (rec this (x2 + (1 : Int32)) h6).bind fun h8 =>
  (f_R_readSign this (44 : Int32) h8).bind fun h10 =>
  (gA h10 this 5 5).bind fun r11 =>
  zm r11 (
    f_R_readPair_41 rec this x2 h10
  ) fun a13 =>
  (gA h10 this 5 5).bind fun r14 =>
  (gA h10 this 5 5).bind fun r16 =>
  (r16).bind fun a18 =>
  (gI h10 a18 4 2).bind fun i20 =>
  (r14).bind fun a22 =>
  (f_P_mark a22 x1 i20 h10).bind fun h25 =>
  f_R_readPair_41 rec this x2 h25
  else none
theorem o_R_readPair {rec : Nat → Int32 → Hp → Option (Hp)} {this : Nat} {x1 : Int32} {x2 : Int32} {h : Hp} {h0 : Hp} (hf : f_R_readPair rec this x1 x2 h = some h0) : isO h this 5 = true := by
  unfold f_R_readPair at hf
  exact (z_gd hf).1
set_option maxRecDepth 100000 in
set_option maxHeartbeats 4000000 in
theorem c_R_readPair {l : Launch} {N0 : Nat} {D : va_G} {cs : Nat → ClassId} (rec : Nat → Int32 → Hp → Option (Hp)) {n0 : Nat} (hn0 : 8 ≤ n0) (hrec : ∀ {this : Nat} {x1 : Int32} {h : Hp} {h0 : Hp}, rec this x1 h = some h0 → Fn l N0 D cs y_R_readTerm b_R_readTerm 5 (none) n0 0 0 [.ref this, .int x1] h none h0 ∧ isO h this 5 = true) {this : Nat} {x1 : Int32} {x2 : Int32} {h : Hp} {h0 : Hp} (hf : f_R_readPair rec this x1 x2 h = some h0) : Fn l N0 D cs y_R_readPair b_R_readPair 3 (none) (n0 + 1) 0 0 [.ref this, .int x1, .int x2] h none h0 := by
  refine z_start (by decide) (Nat.le_of_ble_eq_true rfl) ?_
  intro p e s m args below meth c M hH hS ls hl
  unfold f_R_readPair at hf
  obtain ⟨hO, hf⟩ := z_gd hf
  have hl : lv_has ls 3 [(0, .ref this), (1, .int x1), (2, .int x2)] := hl
  obtain ⟨H, hHe⟩ : ∃ H, H = s.heap := ⟨_, rfl⟩
  obtain ⟨locs, hLe⟩ : ∃ locs : List Loc, locs = [] := ⟨_, rfl⟩
  have hS : va_S (zA N0) s.heap H locs := by rw [hHe, hLe]; exact hS
  have hH : HH N0 D cs h H := by rw [hHe]; exact hH
  suffices hg : W p l e (zrm (n0 + 1) 0 0) s m args below meth c H locs 0 0 (MQ below (zQ N0 D cs none h0) args s 0 0 (zA N0)) (F0 m 0 ls []) by rw [hHe, hLe] at hg; exact hg
  clear hHe hLe
  refine lv_aload_n M.x M.b d_R_readPair_0 rfl (lv_at hl 0 rfl) ?_
  refine lv_bipush (v := (40 : Int32)) M.x M.b d_R_readPair_1 rfl ?_
  replace hf := z_bind hf; obtain ⟨h6, e5, hf⟩ := hf
  refine zk_V (ci := 5) (st1 := []) M hH hS (c_R_readSign e5) rfl (o_R_readSign e5) w_R_readSign q_399 [] rfl (zR_n (by omega) (by decide)) hl.1 rfl rfl (Nat.le_of_ble_eq_true rfl) d_R_readPair_3 (fun H locs hH hS => ?_)
  refine lv_aload_n M.x M.b d_R_readPair_6 rfl (lv_at hl 0 rfl) ?_
  refine lv_iload_n M.x M.b d_R_readPair_7 rfl (lv_at hl 2 rfl) ?_
  refine lv_iconst (v := (1 : Int32)) M.x M.b d_R_readPair_8 rfl ?_
  refine lv_iadd M.x M.b d_R_readPair_9 ?_
  replace hf := z_bind hf; obtain ⟨h8, e7, hf⟩ := hf
  refine zk_V (ci := 5) (st1 := []) M hH hS (hrec e7).1 rfl (hrec e7).2 w_R_readTerm q_400 [] rfl (zR_n (by omega) (by decide)) hl.1 rfl rfl (Nat.le_of_ble_eq_true rfl) d_R_readPair_10 (fun H locs hH hS => ?_)
  refine lv_aload_n M.x M.b d_R_readPair_13 rfl (lv_at hl 0 rfl) ?_
  refine lv_bipush (v := (44 : Int32)) M.x M.b d_R_readPair_14 rfl ?_
  replace hf := z_bind hf; obtain ⟨h10, e9, hf⟩ := hf
  refine zk_V (ci := 5) (st1 := []) M hH hS (c_R_readSign e9) rfl (o_R_readSign e9) w_R_readSign q_399 [] rfl (zR_n (by omega) (by decide)) hl.1 rfl rfl (Nat.le_of_ble_eq_true rfl) d_R_readPair_16 (fun H locs hH hS => ?_)
  refine lv_aload_n M.x M.b d_R_readPair_19 rfl (lv_at hl 0 rfl) ?_
  replace hf := z_bind hf; obtain ⟨r11, e12, hf⟩ := hf
  refine z_get (ci := 5) (k := 5) M hH rfl (by decide) zinR q_390 (gA_spec e12) d_R_readPair_20 ?_
  rcases r11 with _ | a13
  · replace hf := zm_n hf
    refine lv_ifnullN (tgt := 41) M.x M.b d_R_readPair_23 (by decide) ?_
    exact w_R_readPair_41 M rec hn0 hrec this _ _ hf H locs ls hH hS (lv_sub hl [0, 2] rfl)
  · replace hf := zm_s hf
    refine lv_ifnull M.x M.b d_R_readPair_23 ?_
    refine lv_aload_n M.x M.b d_R_readPair_26 rfl (lv_at hl 0 rfl) ?_
    replace hf := z_bind hf; obtain ⟨r14, e15, hf⟩ := hf
    refine z_get (ci := 5) (k := 5) M hH rfl (by decide) zinR q_390 (gA_spec e15) d_R_readPair_27 ?_
    refine lv_iload_n M.x M.b d_R_readPair_30 rfl (lv_at hl 1 rfl) ?_
    refine lv_aload_n M.x M.b d_R_readPair_31 rfl (lv_at hl 0 rfl) ?_
    replace hf := z_bind hf; obtain ⟨r16, e17, hf⟩ := hf
    refine z_get (ci := 5) (k := 5) M hH rfl (by decide) zinR q_390 (gA_spec e17) d_R_readPair_32 ?_
    rcases r16 with _ | a18
    · exact absurd hf z_nb0
    replace hf := z_sb hf
    replace hf := z_bind hf; obtain ⟨i20, e21, hf⟩ := hf
    refine z_getN (ci := 4) (k := 2) M hH rfl (by decide) zinP q_401 (gI_spec e21) d_R_readPair_35 ?_
    rcases r14 with _ | a22
    · exact absurd hf z_nb0
    replace hf := z_sb hf
    replace hf := z_bind hf; obtain ⟨h25, e24, hf⟩ := hf
    refine zk_V (ci := 4) (st1 := []) M hH hS (c_P_mark e24) rfl (o_P_mark e24) w_P_mark q_389 [] rfl (zR_n (by omega) (by decide)) hl.1 rfl rfl (Nat.le_of_ble_eq_true rfl) d_R_readPair_38 (fun H locs hH hS => ?_)
    exact w_R_readPair_41 M rec hn0 hrec this _ _ hf H locs ls hH hS (lv_sub hl [0, 2] rfl)
def f_R_readTerm_59 (rec : Nat → Int32 → Hp → Option (Hp)) (this : Nat) (s0 : Int32) (x1 : Int32) (x2 : Int32) (x3 : Int32) (h : Hp) : Option (Hp) :=
  if s0 = (-1 : Int32) then
    (f_R_blame this (2 : Int32) h).bind fun h15 =>
    some h15
  else
  (gI h this 5 2).bind fun i1 =>
  (pV h this 5 2 (.int (i1 + x2))).bind fun h3 =>
  if x3 = (3 : Int32) then
    (f_R_readYear this s0 h3).bind fun h12 =>
    some h12
  else
  if x3 < (10 : Int32) then
    if x3 < (6 : Int32) then
      some h3
    else
    (f_R_readPair rec this s0 x1 h3).bind fun h6 =>
    some h6
  else
  (rec this (x1 + (1 : Int32)) h3).bind fun h9 =>
  some h9
set_option maxRecDepth 100000 in
set_option maxHeartbeats 4000000 in
theorem w_R_readTerm_59 {p : Program} {l : Launch} {e : Env} {s : State} {m : MethodId} {args : Array Value} {below : List Frame} {meth : Method} {c : Code} {N0 : Nat} {D : va_G} {cs : Nat → ClassId} (M : ZC p s m args meth c "YearBaskets$Reader" "readTerm" b_R_readTerm 5 (none) N0 D cs) (rec : Nat → Int32 → Hp → Option (Hp)) {n0 : Nat} (hn0 : 8 ≤ n0) (hrec : ∀ {this : Nat} {x1 : Int32} {h : Hp} {h0 : Hp}, rec this x1 h = some h0 → Fn l N0 D cs y_R_readTerm b_R_readTerm 5 (none) n0 0 0 [.ref this, .int x1] h none h0 ∧ isO h this 5 = true) (this : Nat)  {h0 : Hp}  (s0 : Int32) (x1 : Int32) (x2 : Int32) (x3 : Int32) (h : Hp) (hf : f_R_readTerm_59 rec this s0 x1 x2 x3 h = some h0) : ZG p l e (zrm (n0 + 2) 0 0) s m args below meth c N0 D cs none h0 h 5 [(0, .ref this), (1, .int x1), (2, .int x2), (3, .int x3)] 59 [.int s0] := by
  intro H locs ls hH hS hl
  unfold f_R_readTerm_59 at hf
  refine lv_istore (lv' := [(4, .int s0), (0, .ref this), (1, .int x1), (2, .int x2), (3, .int x3)]) M.x M.b d_R_readTerm_59 hl (by decide) rfl (fun ls hl => ?_)
  refine lv_iload M.x M.b d_R_readTerm_61 (lv_at hl 0 rfl) ?_
  refine lv_iconst (v := (-1 : Int32)) M.x M.b d_R_readTerm_63 rfl ?_
  refine lv_icmp_ne (tgt := 73) M.x M.b d_R_readTerm_64 (by decide) (fun c16 => ?_) (fun c16 => ?_)
  · replace hf := z_f c16 hf
    refine lv_aload_n M.x M.b d_R_readTerm_73 rfl (lv_at hl 1 rfl) ?_
    refine lv_dup M.x M.b d_R_readTerm_74 rfl ?_
    replace hf := z_bind hf; obtain ⟨i1, e2, hf⟩ := hf
    refine z_get (ci := 5) (k := 2) M hH rfl (by decide) zinR q_363 (gI_spec e2) d_R_readTerm_75 ?_
    refine lv_iload_n M.x M.b d_R_readTerm_78 rfl (lv_at hl 3 rfl) ?_
    refine lv_iadd M.x M.b d_R_readTerm_79 ?_
    replace hf := z_bind hf; obtain ⟨h3, e4, hf⟩ := hf
    refine z_put (ci := 5) (k := 2) M hH hS rfl (by decide) zinR zYR zYR_ok zNR_ok rfl q_363 rfl rfl rfl e4 d_R_readTerm_80 (fun H locs hH hS => ?_)
    refine lv_iload_n M.x M.b d_R_readTerm_83 rfl (lv_at hl 4 rfl) ?_
    refine lv_iconst (v := (3 : Int32)) M.x M.b d_R_readTerm_84 rfl ?_
    refine lv_icmp_ne (tgt := 97) M.x M.b d_R_readTerm_85 (by decide) (fun c13 => ?_) (fun c13 => ?_)
    · replace hf := z_f c13 hf
      refine lv_iload_n M.x M.b d_R_readTerm_97 rfl (lv_at hl 4 rfl) ?_
      refine lv_bipush (v := (10 : Int32)) M.x M.b d_R_readTerm_98 rfl ?_
      refine lv_icmp_lt (tgt := 113) M.x M.b d_R_readTerm_100 (by decide) (fun c10 => ?_) (fun c10 => ?_)
      · replace hf := z_t c10 hf
        refine lv_iload_n M.x M.b d_R_readTerm_113 rfl (lv_at hl 4 rfl) ?_
        refine lv_bipush (v := (6 : Int32)) M.x M.b d_R_readTerm_114 rfl ?_
        refine lv_icmp_lt (tgt := 126) M.x M.b d_R_readTerm_116 (by decide) (fun c7 => ?_) (fun c7 => ?_)
        · replace hf := z_t c7 hf
          obtain rfl := z_r1 hf
          exact z_vret M hH hS d_R_readTerm_126
        · replace hf := z_f c7 hf
          refine lv_aload_n M.x M.b d_R_readTerm_119 rfl (lv_at hl 1 rfl) ?_
          refine lv_iload M.x M.b d_R_readTerm_120 (lv_at hl 0 rfl) ?_
          refine lv_iload_n M.x M.b d_R_readTerm_122 rfl (lv_at hl 2 rfl) ?_
          replace hf := z_bind hf; obtain ⟨h6, e5, hf⟩ := hf
          refine zk_V (ci := 5) (st1 := []) M hH hS (c_R_readPair rec hn0 hrec e5) rfl (o_R_readPair e5) w_R_readPair q_405 [] rfl (zR_n (by omega) (by decide)) hl.1 rfl rfl (Nat.le_of_ble_eq_true rfl) d_R_readTerm_123 (fun H locs hH hS => ?_)
          obtain rfl := z_r1 hf
          exact z_vret M hH hS d_R_readTerm_126
      · replace hf := z_f c10 hf
        refine lv_aload_n M.x M.b d_R_readTerm_103 rfl (lv_at hl 1 rfl) ?_
        refine lv_iload_n M.x M.b d_R_readTerm_104 rfl (lv_at hl 2 rfl) ?_
        refine lv_iconst (v := (1 : Int32)) M.x M.b d_R_readTerm_105 rfl ?_
        refine lv_iadd M.x M.b d_R_readTerm_106 ?_
        replace hf := z_bind hf; obtain ⟨h9, e8, hf⟩ := hf
        refine zk_V (ci := 5) (st1 := []) M hH hS (hrec e8).1 rfl (hrec e8).2 w_R_readTerm q_400 [] rfl (zR_n (by omega) (by decide)) hl.1 rfl rfl (Nat.le_of_ble_eq_true rfl) d_R_readTerm_107 (fun H locs hH hS => ?_)
        refine lv_goto (tgt := 126) M.x M.b d_R_readTerm_110 (by decide) ?_
        obtain rfl := z_r1 hf
        exact z_vret M hH hS d_R_readTerm_126
    · replace hf := z_t c13 hf
      refine lv_aload_n M.x M.b d_R_readTerm_88 rfl (lv_at hl 1 rfl) ?_
      refine lv_iload M.x M.b d_R_readTerm_89 (lv_at hl 0 rfl) ?_
      replace hf := z_bind hf; obtain ⟨h12, e11, hf⟩ := hf
      refine zk_V (ci := 5) (st1 := []) M hH hS (c_R_readYear e11) rfl (o_R_readYear e11) w_R_readYear q_406 [] rfl (zR_n (by omega) (by decide)) hl.1 rfl rfl (Nat.le_of_ble_eq_true rfl) d_R_readTerm_91 (fun H locs hH hS => ?_)
      refine lv_goto (tgt := 126) M.x M.b d_R_readTerm_94 (by decide) ?_
      obtain rfl := z_r1 hf
      exact z_vret M hH hS d_R_readTerm_126
  · replace hf := z_t c16 hf
    refine lv_aload_n M.x M.b d_R_readTerm_67 rfl (lv_at hl 1 rfl) ?_
    refine lv_iconst (v := (2 : Int32)) M.x M.b d_R_readTerm_68 rfl ?_
    replace hf := z_bind hf; obtain ⟨h15, e14, hf⟩ := hf
    refine zk_V (ci := 5) (st1 := []) M hH hS (c_R_blame e14) rfl (o_R_blame e14) w_R_blame q_388 [] rfl (zR_n (by omega) (by decide)) hl.1 rfl rfl (Nat.le_of_ble_eq_true rfl) d_R_readTerm_69 (fun H locs hH hS => ?_)
    obtain rfl := z_r1 hf
    exact z_vret M hH hS d_R_readTerm_72
def f_R_readTerm_47 (rec : Nat → Int32 → Hp → Option (Hp)) (this : Nat) (x1 : Int32) (x2 : Int32) (x3 : Int32) (h : Hp) : Option (Hp) :=
  f_R_readTerm_59 rec this (-1 : Int32) x1 x2 x3 h
set_option maxRecDepth 100000 in
set_option maxHeartbeats 4000000 in
theorem w_R_readTerm_47 {p : Program} {l : Launch} {e : Env} {s : State} {m : MethodId} {args : Array Value} {below : List Frame} {meth : Method} {c : Code} {N0 : Nat} {D : va_G} {cs : Nat → ClassId} (M : ZC p s m args meth c "YearBaskets$Reader" "readTerm" b_R_readTerm 5 (none) N0 D cs) (rec : Nat → Int32 → Hp → Option (Hp)) {n0 : Nat} (hn0 : 8 ≤ n0) (hrec : ∀ {this : Nat} {x1 : Int32} {h : Hp} {h0 : Hp}, rec this x1 h = some h0 → Fn l N0 D cs y_R_readTerm b_R_readTerm 5 (none) n0 0 0 [.ref this, .int x1] h none h0 ∧ isO h this 5 = true) (this : Nat)  {h0 : Hp}  (x1 : Int32) (x2 : Int32) (x3 : Int32) (h : Hp) (hf : f_R_readTerm_47 rec this x1 x2 x3 h = some h0) : ZG p l e (zrm (n0 + 2) 0 0) s m args below meth c N0 D cs none h0 h 5 [(0, .ref this), (1, .int x1), (2, .int x2), (3, .int x3)] 47 [] := by
  intro H locs ls hH hS hl
  unfold f_R_readTerm_47 at hf
  refine lv_iconst (v := (-1 : Int32)) M.x M.b d_R_readTerm_47 rfl ?_
  refine lv_goto (tgt := 59) M.x M.b d_R_readTerm_48 (by decide) ?_
  exact w_R_readTerm_59 M rec hn0 hrec this _ _ _ _ _ hf H locs ls hH hS (lv_sub hl [0, 1, 2, 3] rfl)
def t_R_readTerm (rec : Nat → Int32 → Hp → Option (Hp)) (this : Nat) (x1 : Int32) (h : Hp) : Option (Hp) :=
  if isO h this 5 = true then
  (gI h this 5 3).bind fun i17 =>
  if i17 = 0 then
    (f_R_skipBlanks this h).bind fun h20 =>
    (f_R_lettersHere this h20).bind fun i22 =>
    (f_R_wordHere this h20 i22).bind fun i24 =>
    if i24 = (-1 : Int32) then
      (f_R_blame this (1 : Int32) h20).bind fun h37 =>
      some h37
    else
    if (8 : Int32) < x1 then
      f_R_readTerm_47 rec this x1 i22 i24 h20
    else
    (gA h20 this 5 5).bind fun r25 =>
    zm r25 (
      f_R_readTerm_47 rec this x1 i22 i24 h20
    ) fun a27 =>
    (gA h20 this 5 5).bind fun r28 =>
    (r28).bind fun a30 =>
    zb2 (f_P_add a30 i24 h20) fun i33 h34 =>
    f_R_readTerm_59 rec this i33 x1 i22 i24 h34
  else
  some h
  else none
theorem ot_R_readTerm {rec : Nat → Int32 → Hp → Option (Hp)} {this : Nat} {x1 : Int32} {h : Hp} {h0 : Hp} (hf : t_R_readTerm rec this x1 h = some h0) : isO h this 5 = true := by
  unfold t_R_readTerm at hf
  exact (z_gd hf).1
set_option maxRecDepth 100000 in
set_option maxHeartbeats 4000000 in
theorem ct_R_readTerm {l : Launch} {N0 : Nat} {D : va_G} {cs : Nat → ClassId} (rec : Nat → Int32 → Hp → Option (Hp)) {n0 : Nat} (hn0 : 8 ≤ n0) (hrec : ∀ {this : Nat} {x1 : Int32} {h : Hp} {h0 : Hp}, rec this x1 h = some h0 → Fn l N0 D cs y_R_readTerm b_R_readTerm 5 (none) n0 0 0 [.ref this, .int x1] h none h0 ∧ isO h this 5 = true) {this : Nat} {x1 : Int32} {h : Hp} {h0 : Hp} (hf : t_R_readTerm rec this x1 h = some h0) : Fn l N0 D cs y_R_readTerm b_R_readTerm 5 (none) (n0 + 2) 0 0 [.ref this, .int x1] h none h0 := by
  refine z_start (by decide) (Nat.le_of_ble_eq_true rfl) ?_
  intro p e s m args below meth c M hH hS ls hl
  unfold t_R_readTerm at hf
  obtain ⟨hO, hf⟩ := z_gd hf
  have hl : lv_has ls 5 [(0, .ref this), (1, .int x1)] := hl
  obtain ⟨H, hHe⟩ : ∃ H, H = s.heap := ⟨_, rfl⟩
  obtain ⟨locs, hLe⟩ : ∃ locs : List Loc, locs = [] := ⟨_, rfl⟩
  have hS : va_S (zA N0) s.heap H locs := by rw [hHe, hLe]; exact hS
  have hH : HH N0 D cs h H := by rw [hHe]; exact hH
  suffices hg : W p l e (zrm (n0 + 2) 0 0) s m args below meth c H locs 0 0 (MQ below (zQ N0 D cs none h0) args s 0 0 (zA N0)) (F0 m 0 ls []) by rw [hHe, hLe] at hg; exact hg
  clear hHe hLe
  refine lv_aload_n M.x M.b d_R_readTerm_0 rfl (lv_at hl 0 rfl) ?_
  replace hf := z_bind hf; obtain ⟨i17, e18, hf⟩ := hf
  refine z_get (ci := 5) (k := 3) M hH rfl (by decide) zinR q_384 (gI_spec e18) d_R_readTerm_1 ?_
  refine lv_if_eq (tgt := 8) M.x M.b d_R_readTerm_4 (by decide) (fun c39 => ?_) (fun c39 => ?_)
  · replace hf := z_t c39 hf
    refine lv_aload_n M.x M.b d_R_readTerm_8 rfl (lv_at hl 0 rfl) ?_
    replace hf := z_bind hf; obtain ⟨h20, e19, hf⟩ := hf
    refine zk_V (ci := 5) (st1 := []) M hH hS (c_R_skipBlanks e19) rfl (o_R_skipBlanks e19) w_R_skipBlanks q_392 [] rfl (zR_n (by omega) (by decide)) hl.1 rfl rfl (Nat.le_of_ble_eq_true rfl) d_R_readTerm_9 (fun H locs hH hS => ?_)
    refine lv_aload_n M.x M.b d_R_readTerm_12 rfl (lv_at hl 0 rfl) ?_
    replace hf := z_bind hf; obtain ⟨i22, e21, hf⟩ := hf
    refine zk_V (ci := 5) (st1 := [.int i22]) M hH hS (c_R_lettersHere e21) rfl (o_R_lettersHere e21) w_R_lettersHere q_409 [] rfl (zR_n (by omega) (by decide)) hl.1 rfl rfl (Nat.le_of_ble_eq_true rfl) d_R_readTerm_13 (fun H locs hH hS => ?_)
    refine lv_istore_n (lv' := [(2, .int i22), (0, .ref this), (1, .int x1)]) M.x M.b d_R_readTerm_16 rfl hl (by decide) rfl (fun ls hl => ?_)
    refine lv_aload_n M.x M.b d_R_readTerm_17 rfl (lv_at hl 1 rfl) ?_
    refine lv_iload_n M.x M.b d_R_readTerm_18 rfl (lv_at hl 0 rfl) ?_
    replace hf := z_bind hf; obtain ⟨i24, e23, hf⟩ := hf
    refine zk_V (ci := 5) (st1 := [.int i24]) M hH hS (c_R_wordHere e23) rfl (o_R_wordHere e23) w_R_wordHere q_408 [] rfl (zR_n (by omega) (by decide)) hl.1 rfl rfl (Nat.le_of_ble_eq_true rfl) d_R_readTerm_19 (fun H locs hH hS => ?_)
    refine lv_istore_n (lv' := [(3, .int i24), (2, .int i22), (0, .ref this), (1, .int x1)]) M.x M.b d_R_readTerm_22 rfl hl (by decide) rfl (fun ls hl => ?_)
    refine lv_iload_n M.x M.b d_R_readTerm_23 rfl (lv_at hl 0 rfl) ?_
    refine lv_iconst (v := (-1 : Int32)) M.x M.b d_R_readTerm_24 rfl ?_
    refine lv_icmp_ne (tgt := 34) M.x M.b d_R_readTerm_25 (by decide) (fun c38 => ?_) (fun c38 => ?_)
    · replace hf := z_f c38 hf
      refine lv_iload_n M.x M.b d_R_readTerm_34 rfl (lv_at hl 3 rfl) ?_
      refine lv_bipush (v := (8 : Int32)) M.x M.b d_R_readTerm_35 rfl ?_
      refine lv_icmp_gt (tgt := 47) M.x M.b d_R_readTerm_37 (by decide) (fun c35 => ?_) (fun c35 => ?_)
      · replace hf := z_t c35 hf
        exact w_R_readTerm_47 M rec hn0 hrec this _ _ _ _ hf H locs ls hH hS (lv_sub hl [2, 3, 1, 0] rfl)
      · replace hf := z_f c35 hf
        refine lv_aload_n M.x M.b d_R_readTerm_40 rfl (lv_at hl 2 rfl) ?_
        replace hf := z_bind hf; obtain ⟨r25, e26, hf⟩ := hf
        refine z_get (ci := 5) (k := 5) M hH rfl (by decide) zinR q_390 (gA_spec e26) d_R_readTerm_41 ?_
        rcases r25 with _ | a27
        · replace hf := zm_n hf
          refine lv_ifnonnullN M.x M.b d_R_readTerm_44 ?_
          exact w_R_readTerm_47 M rec hn0 hrec this _ _ _ _ hf H locs ls hH hS (lv_sub hl [2, 3, 1, 0] rfl)
        · replace hf := zm_s hf
          refine lv_ifnonnull (tgt := 51) M.x M.b d_R_readTerm_44 (by decide) ?_
          refine lv_aload_n M.x M.b d_R_readTerm_51 rfl (lv_at hl 2 rfl) ?_
          replace hf := z_bind hf; obtain ⟨r28, e29, hf⟩ := hf
          refine z_get (ci := 5) (k := 5) M hH rfl (by decide) zinR q_390 (gA_spec e29) d_R_readTerm_52 ?_
          refine lv_iload_n M.x M.b d_R_readTerm_55 rfl (lv_at hl 0 rfl) ?_
          rcases r28 with _ | a30
          · exact absurd hf z_nb0
          replace hf := z_sb hf
          replace hf := z_bind2 hf; obtain ⟨i33, h34, e32, hf⟩ := hf
          refine zk_V (ci := 4) (st1 := [.int i33]) M hH hS (c_P_add e32) rfl (o_P_add e32) w_P_add q_407 [] rfl (zR_n (by omega) (by decide)) hl.1 rfl rfl (Nat.le_of_ble_eq_true rfl) d_R_readTerm_56 (fun H locs hH hS => ?_)
          exact w_R_readTerm_59 M rec hn0 hrec this _ _ _ _ _ hf H locs ls hH hS (lv_sub hl [2, 3, 1, 0] rfl)
    · replace hf := z_t c38 hf
      refine lv_aload_n M.x M.b d_R_readTerm_28 rfl (lv_at hl 2 rfl) ?_
      refine lv_iconst (v := (1 : Int32)) M.x M.b d_R_readTerm_29 rfl ?_
      replace hf := z_bind hf; obtain ⟨h37, e36, hf⟩ := hf
      refine zk_V (ci := 5) (st1 := []) M hH hS (c_R_blame e36) rfl (o_R_blame e36) w_R_blame q_388 [] rfl (zR_n (by omega) (by decide)) hl.1 rfl rfl (Nat.le_of_ble_eq_true rfl) d_R_readTerm_30 (fun H locs hH hS => ?_)
      obtain rfl := z_r1 hf
      exact z_vret M hH hS d_R_readTerm_33
  · replace hf := z_f c39 hf
    obtain rfl := z_r1 hf
    exact z_vret M hH hS d_R_readTerm_7
def f_R_readTerm : Nat → Nat → Int32 → Hp → Option (Hp)
  | 0, _, _, _ => none
  | n + 1, this, x1, h => t_R_readTerm (f_R_readTerm n) this x1 h
theorem o_R_readTerm : ∀ {k : Nat} {this : Nat} {x1 : Int32} {h : Hp} {h0 : Hp}, f_R_readTerm k this x1 h = some h0 → isO h this 5 = true := by
  intro k
  cases k with
  | zero => intros; rename_i hf; exact absurd (show none = some _ from hf) (fun q => by cases q)
  | succ k => intros; rename_i hf; exact ot_R_readTerm hf
theorem c_R_readTerm {l : Launch} {N0 : Nat} {D : va_G} {cs : Nat → ClassId} : ∀ {k : Nat} {this : Nat} {x1 : Int32} {h : Hp} {h0 : Hp}, f_R_readTerm k this x1 h = some h0 → Fn l N0 D cs y_R_readTerm b_R_readTerm 5 (none) (8 + 2 * k) 0 0 [.ref this, .int x1] h none h0 := by
  intro k
  induction k with
  | zero => intros; rename_i hf; exact absurd (show none = some _ from hf) (fun q => by cases q)
  | succ k ih => intros; rename_i hf; exact ct_R_readTerm (n0 := 8 + 2 * k) (f_R_readTerm k) (Nat.le_add_right _ _) (fun hf => ⟨ih hf, o_R_readTerm hf⟩) hf
def f_R_read_35 (this : Nat) (h : Hp) : Option (Hp) :=
  (f_R_readTerm 12 this (1 : Int32) h).bind fun h2 =>
  (f_R_skipBlanks this h2).bind fun h4 =>
  (gI h4 this 5 3).bind fun i5 =>
  if i5 = 0 then
    (gI h4 this 5 2).bind fun i7 =>
    (gI h4 this 5 1).bind fun i9 =>
    if i9 ≤ i7 then
      some h4
    else
    (f_R_blame this (1 : Int32) h4).bind fun h12 =>
    some h12
  else
  some h4
set_option maxRecDepth 100000 in
set_option maxHeartbeats 4000000 in
theorem w_R_read_35 {p : Program} {l : Launch} {e : Env} {s : State} {m : MethodId} {args : Array Value} {below : List Frame} {meth : Method} {c : Code} {N0 : Nat} {D : va_G} {cs : Nat → ClassId} (M : ZC p s m args meth c "YearBaskets$Reader" "read" b_R_read 2 (none) N0 D cs) (this : Nat)  {h0 : Hp}  (h : Hp) (hf : f_R_read_35 this h = some h0) : ZG p l e (zrm 33 0 0) s m args below meth c N0 D cs none h0 h 2 [(0, .ref this)] 35 [] := by
  intro H locs ls hH hS hl
  unfold f_R_read_35 at hf
  refine lv_aload_n M.x M.b d_R_read_35 rfl (lv_at hl 0 rfl) ?_
  refine lv_iconst (v := (1 : Int32)) M.x M.b d_R_read_36 rfl ?_
  replace hf := z_bind hf; obtain ⟨h2, e1, hf⟩ := hf
  refine zk_V (ci := 5) (st1 := []) M hH hS (c_R_readTerm e1) rfl (o_R_readTerm e1) w_R_readTerm q_400 [] rfl ⟨Nat.le_of_ble_eq_true rfl, Nat.le_of_ble_eq_true rfl⟩ hl.1 rfl rfl (Nat.le_of_ble_eq_true rfl) d_R_read_37 (fun H locs hH hS => ?_)
  refine lv_aload_n M.x M.b d_R_read_40 rfl (lv_at hl 0 rfl) ?_
  replace hf := z_bind hf; obtain ⟨h4, e3, hf⟩ := hf
  refine zk_V (ci := 5) (st1 := []) M hH hS (c_R_skipBlanks e3) rfl (o_R_skipBlanks e3) w_R_skipBlanks q_392 [] rfl ⟨Nat.le_of_ble_eq_true rfl, Nat.le_of_ble_eq_true rfl⟩ hl.1 rfl rfl (Nat.le_of_ble_eq_true rfl) d_R_read_41 (fun H locs hH hS => ?_)
  refine lv_aload_n M.x M.b d_R_read_44 rfl (lv_at hl 0 rfl) ?_
  replace hf := z_bind hf; obtain ⟨i5, e6, hf⟩ := hf
  refine z_get (ci := 5) (k := 3) M hH rfl (by decide) zinR q_384 (gI_spec e6) d_R_read_45 ?_
  refine lv_if_ne (tgt := 67) M.x M.b d_R_read_48 (by decide) (fun c14 => ?_) (fun c14 => ?_)
  · replace hf := z_f c14 hf
    obtain rfl := z_r1 hf
    exact z_vret M hH hS d_R_read_67
  · replace hf := z_t c14 hf
    refine lv_aload_n M.x M.b d_R_read_51 rfl (lv_at hl 0 rfl) ?_
    replace hf := z_bind hf; obtain ⟨i7, e8, hf⟩ := hf
    refine z_get (ci := 5) (k := 2) M hH rfl (by decide) zinR q_363 (gI_spec e8) d_R_read_52 ?_
    refine lv_aload_n M.x M.b d_R_read_55 rfl (lv_at hl 0 rfl) ?_
    replace hf := z_bind hf; obtain ⟨i9, e10, hf⟩ := hf
    refine z_get (ci := 5) (k := 1) M hH rfl (by decide) zinR q_355 (gI_spec e10) d_R_read_56 ?_
    refine lv_icmp_ge (tgt := 67) M.x M.b d_R_read_59 (by decide) (fun c13 => ?_) (fun c13 => ?_)
    · replace hf := z_t c13 hf
      obtain rfl := z_r1 hf
      exact z_vret M hH hS d_R_read_67
    · replace hf := z_f c13 hf
      refine lv_aload_n M.x M.b d_R_read_62 rfl (lv_at hl 0 rfl) ?_
      refine lv_iconst (v := (1 : Int32)) M.x M.b d_R_read_63 rfl ?_
      replace hf := z_bind hf; obtain ⟨h12, e11, hf⟩ := hf
      refine zk_V (ci := 5) (st1 := []) M hH hS (c_R_blame e11) rfl (o_R_blame e11) w_R_blame q_388 [] rfl ⟨Nat.le_of_ble_eq_true rfl, Nat.le_of_ble_eq_true rfl⟩ hl.1 rfl rfl (Nat.le_of_ble_eq_true rfl) d_R_read_64 (fun H locs hH hS => ?_)
      obtain rfl := z_r1 hf
      exact z_vret M hH hS d_R_read_67
def f_R_read (this : Nat) (x1 : Nat) (h : Hp) : Option (Hp) :=
  if isO h this 5 = true then
  (pV h this 5 5 (.ref x1)).bind fun h15 =>
  (pV h15 this 5 2 (.int (0 : Int32))).bind fun h17 =>
  (pV h17 this 5 3 (.int (0 : Int32))).bind fun h19 =>
  (pV h19 this 5 4 (.int (-1 : Int32))).bind fun h21 =>
  (gA h21 this 5 5).bind fun r23 =>
  zm r23 (
    f_R_read_35 this h21
  ) fun a25 =>
  (gA h21 this 5 5).bind fun r26 =>
  (r26).bind fun a28 =>
  (pV h21 a28 4 2 (.int (0 : Int32))).bind fun h30 =>
  f_R_read_35 this h30
  else none
theorem o_R_read {this : Nat} {x1 : Nat} {h : Hp} {h0 : Hp} (hf : f_R_read this x1 h = some h0) : isO h this 5 = true := by
  unfold f_R_read at hf
  exact (z_gd hf).1
set_option maxRecDepth 100000 in
set_option maxHeartbeats 4000000 in
theorem c_R_read {l : Launch} {N0 : Nat} {D : va_G} {cs : Nat → ClassId} {this : Nat} {x1 : Nat} {h : Hp} {h0 : Hp} (hf : f_R_read this x1 h = some h0) : Fn l N0 D cs y_R_read b_R_read 2 (none) 33 0 0 [.ref this, .ref x1] h none h0 := by
  refine z_start (by decide) (Nat.le_of_ble_eq_true rfl) ?_
  intro p e s m args below meth c M hH hS ls hl
  unfold f_R_read at hf
  obtain ⟨hO, hf⟩ := z_gd hf
  have hl : lv_has ls 2 [(0, .ref this), (1, .ref x1)] := hl
  obtain ⟨H, hHe⟩ : ∃ H, H = s.heap := ⟨_, rfl⟩
  obtain ⟨locs, hLe⟩ : ∃ locs : List Loc, locs = [] := ⟨_, rfl⟩
  have hS : va_S (zA N0) s.heap H locs := by rw [hHe, hLe]; exact hS
  have hH : HH N0 D cs h H := by rw [hHe]; exact hH
  suffices hg : W p l e (zrm 33 0 0) s m args below meth c H locs 0 0 (MQ below (zQ N0 D cs none h0) args s 0 0 (zA N0)) (F0 m 0 ls []) by rw [hHe, hLe] at hg; exact hg
  clear hHe hLe
  refine lv_aload_n M.x M.b d_R_read_0 rfl (lv_at hl 0 rfl) ?_
  refine lv_aload_n M.x M.b d_R_read_1 rfl (lv_at hl 1 rfl) ?_
  replace hf := z_bind hf; obtain ⟨h15, e16, hf⟩ := hf
  refine z_put (ci := 5) (k := 5) M hH hS rfl (by decide) zinR zYR zYR_ok zNR_ok rfl q_390 rfl rfl rfl e16 d_R_read_2 (fun H locs hH hS => ?_)
  refine lv_aload_n M.x M.b d_R_read_5 rfl (lv_at hl 0 rfl) ?_
  refine lv_iconst (v := (0 : Int32)) M.x M.b d_R_read_6 rfl ?_
  replace hf := z_bind hf; obtain ⟨h17, e18, hf⟩ := hf
  refine z_put (ci := 5) (k := 2) M hH hS rfl (by decide) zinR zYR zYR_ok zNR_ok rfl q_363 rfl rfl rfl e18 d_R_read_7 (fun H locs hH hS => ?_)
  refine lv_aload_n M.x M.b d_R_read_10 rfl (lv_at hl 0 rfl) ?_
  refine lv_iconst (v := (0 : Int32)) M.x M.b d_R_read_11 rfl ?_
  replace hf := z_bind hf; obtain ⟨h19, e20, hf⟩ := hf
  refine z_put (ci := 5) (k := 3) M hH hS rfl (by decide) zinR zYR zYR_ok zNR_ok rfl q_384 rfl rfl rfl e20 d_R_read_12 (fun H locs hH hS => ?_)
  refine lv_aload_n M.x M.b d_R_read_15 rfl (lv_at hl 0 rfl) ?_
  refine lv_iconst (v := (-1 : Int32)) M.x M.b d_R_read_16 rfl ?_
  replace hf := z_bind hf; obtain ⟨h21, e22, hf⟩ := hf
  refine z_put (ci := 5) (k := 4) M hH hS rfl (by decide) zinR zYR zYR_ok zNR_ok rfl q_383 rfl rfl rfl e22 d_R_read_17 (fun H locs hH hS => ?_)
  refine lv_aload_n M.x M.b d_R_read_20 rfl (lv_at hl 0 rfl) ?_
  replace hf := z_bind hf; obtain ⟨r23, e24, hf⟩ := hf
  refine z_get (ci := 5) (k := 5) M hH rfl (by decide) zinR q_390 (gA_spec e24) d_R_read_21 ?_
  rcases r23 with _ | a25
  · replace hf := zm_n hf
    refine lv_ifnullN (tgt := 35) M.x M.b d_R_read_24 (by decide) ?_
    exact w_R_read_35 M this _ hf H locs ls hH hS (lv_sub hl [0] rfl)
  · replace hf := zm_s hf
    refine lv_ifnull M.x M.b d_R_read_24 ?_
    refine lv_aload_n M.x M.b d_R_read_27 rfl (lv_at hl 0 rfl) ?_
    replace hf := z_bind hf; obtain ⟨r26, e27, hf⟩ := hf
    refine z_get (ci := 5) (k := 5) M hH rfl (by decide) zinR q_390 (gA_spec e27) d_R_read_28 ?_
    refine lv_iconst (v := (0 : Int32)) M.x M.b d_R_read_31 rfl ?_
    rcases r26 with _ | a28
    · exact absurd hf z_nb0
    replace hf := z_sb hf
    replace hf := z_bind hf; obtain ⟨h30, e31, hf⟩ := hf
    refine z_putN (ci := 4) (k := 2) M hH hS rfl (by decide) zinP zYP zYP_ok zNP_ok rfl q_401 rfl rfl rfl e31 d_R_read_32 (fun H locs hH hS => ?_)
    exact w_R_read_35 M this _ hf H locs ls hH hS (lv_sub hl [0] rfl)
