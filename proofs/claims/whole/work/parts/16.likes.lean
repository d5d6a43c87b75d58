/-! ===== Likes: printed by wip/whole/drive.py out of the bytecode ===== -/
theorem q_306 : (Jvm.Cond.instanceMethod ({ cls := "YearBaskets$Likes", name := "choice", desc := "(III)I" } : Jvm.MethodName)) ∈ zG := zt_3 (List.mem_of_getElem? (i := 201) rfl) rfl
theorem q_307 : (Jvm.Cond.selects "YearBaskets$Likes" ({ cls := "YearBaskets$Likes", name := "choice", desc := "(III)I" } : Jvm.MethodName) ({ cls := "YearBaskets$Likes", name := "choice", desc := "(III)I" } : Jvm.MethodName)) ∈ zG := zt_3 (List.mem_of_getElem? (i := 202) rfl) rfl
theorem q_308 : (Jvm.Cond.code ({ cls := "YearBaskets$Likes", name := "choice", desc := "(III)I" } : Jvm.MethodName) prog_5_method_2_code (6 : Nat) (Option.some Jvm.ClassFile.FieldType.int)) ∈ zG := zt_3 (List.mem_of_getElem? (i := 203) rfl) rfl
theorem q_309 : (Jvm.Cond.initialized "YearBaskets$Likes") ∈ zG := zt_1 (List.mem_of_getElem? (i := 8) rfl) rfl
theorem q_310 : (Jvm.Cond.methodLink "YearBaskets$Likes" (26 : Nat) ({ cls := "YearBaskets$Books", name := "costOver", desc := "(IIII)I" } : Jvm.MethodName)) ∈ zG := zt_3 (List.mem_of_getElem? (i := 204) rfl) rfl
theorem q_311 : (Jvm.Cond.fieldLink "YearBaskets$Likes" (22 : Nat) "YearBaskets$Likes" "books" "LYearBaskets$Books;") ∈ zG := zt_1 (List.mem_of_getElem? (i := 191) rfl) rfl
theorem q_312 : (Jvm.Cond.instanceMethod ({ cls := "YearBaskets$Likes", name := "chooseAll", desc := "(I)V" } : Jvm.MethodName)) ∈ zG := zt_3 (List.mem_of_getElem? (i := 215) rfl) rfl
theorem q_313 : (Jvm.Cond.selects "YearBaskets$Likes" ({ cls := "YearBaskets$Likes", name := "chooseAll", desc := "(I)V" } : Jvm.MethodName) ({ cls := "YearBaskets$Likes", name := "chooseAll", desc := "(I)V" } : Jvm.MethodName)) ∈ zG := zG_s (List.mem_of_getElem? (i := 26) rfl) rfl
theorem q_314 : (Jvm.Cond.code ({ cls := "YearBaskets$Likes", name := "chooseAll", desc := "(I)V" } : Jvm.MethodName) prog_5_method_3_code (3 : Nat) (Option.none : Option Jvm.ClassFile.FieldType)) ∈ zG := zt_3 (List.mem_of_getElem? (i := 216) rfl) rfl
theorem q_315 : (Jvm.Cond.methodLink "YearBaskets$Likes" (32 : Nat) ({ cls := "YearBaskets$Likes", name := "choice", desc := "(III)I" } : Jvm.MethodName)) ∈ zG := zt_3 (List.mem_of_getElem? (i := 217) rfl) rfl
theorem q_316 : (Jvm.Cond.fieldLink "YearBaskets$Likes" (9 : Nat) "YearBaskets$Likes" "choices" "[I") ∈ zG := zt_1 (List.mem_of_getElem? (i := 192) rfl) rfl
theorem q_317 : (Jvm.Cond.instanceMethod ({ cls := "YearBaskets$Likes", name := "choiceAt", desc := "(II)I" } : Jvm.MethodName)) ∈ zG := zt_3 (List.mem_of_getElem? (i := 228) rfl) rfl
theorem q_318 : (Jvm.Cond.selects "YearBaskets$Likes" ({ cls := "YearBaskets$Likes", name := "choiceAt", desc := "(II)I" } : Jvm.MethodName) ({ cls := "YearBaskets$Likes", name := "choiceAt", desc := "(II)I" } : Jvm.MethodName)) ∈ zG := zG_s (List.mem_of_getElem? (i := 29) rfl) rfl
theorem q_319 : (Jvm.Cond.code ({ cls := "YearBaskets$Likes", name := "choiceAt", desc := "(II)I" } : Jvm.MethodName) prog_5_method_4_code (4 : Nat) (Option.some Jvm.ClassFile.FieldType.int)) ∈ zG := zt_3 (List.mem_of_getElem? (i := 229) rfl) rfl
theorem q_320 : (Jvm.Cond.methodLinkNest "YearBaskets$Likes" (36 : Nat) ({ cls := "YearBaskets", name := "isNoYear", desc := "(I)Z" } : Jvm.MethodName) "YearBaskets") ∈ zNw := List.mem_of_getElem? (i := 24) rfl
theorem q_321 : (Jvm.Cond.instanceMethod ({ cls := "YearBaskets$Likes", name := "yearInRing", desc := "(I)I" } : Jvm.MethodName)) ∈ zG := zt_4 (List.mem_of_getElem? (i := 0) rfl) rfl
theorem q_322 : (Jvm.Cond.selects "YearBaskets$Likes" ({ cls := "YearBaskets$Likes", name := "yearInRing", desc := "(I)I" } : Jvm.MethodName) ({ cls := "YearBaskets$Likes", name := "yearInRing", desc := "(I)I" } : Jvm.MethodName)) ∈ zG := zt_4 (List.mem_of_getElem? (i := 1) rfl) rfl
theorem q_323 : (Jvm.Cond.code ({ cls := "YearBaskets$Likes", name := "yearInRing", desc := "(I)I" } : Jvm.MethodName) prog_5_method_5_code (2 : Nat) (Option.some Jvm.ClassFile.FieldType.int)) ∈ zG := zt_4 (List.mem_of_getElem? (i := 2) rfl) rfl
theorem q_324 : (Jvm.Cond.fieldLink "YearBaskets$Likes" (15 : Nat) "YearBaskets$Likes" "row" "[I") ∈ zG := zt_1 (List.mem_of_getElem? (i := 193) rfl) rfl
theorem q_325 : (Jvm.Cond.instanceMethod ({ cls := "YearBaskets$Likes", name := "setYearInRing", desc := "(II)V" } : Jvm.MethodName)) ∈ zG := zt_3 (List.mem_of_getElem? (i := 233) rfl) rfl
theorem q_326 : (Jvm.Cond.selects "YearBaskets$Likes" ({ cls := "YearBaskets$Likes", name := "setYearInRing", desc := "(II)V" } : Jvm.MethodName) ({ cls := "YearBaskets$Likes", name := "setYearInRing", desc := "(II)V" } : Jvm.MethodName)) ∈ zG := zG_s (List.mem_of_getElem? (i := 30) rfl) rfl
theorem q_327 : (Jvm.Cond.code ({ cls := "YearBaskets$Likes", name := "setYearInRing", desc := "(II)V" } : Jvm.MethodName) prog_5_method_6_code (3 : Nat) (Option.none : Option Jvm.ClassFile.FieldType)) ∈ zG := zt_3 (List.mem_of_getElem? (i := 234) rfl) rfl
theorem q_328 : (Jvm.Cond.instanceMethod ({ cls := "YearBaskets$Likes", name := "findAsGood", desc := "(I)V" } : Jvm.MethodName)) ∈ zG := zt_3 (List.mem_of_getElem? (i := 224) rfl) rfl
theorem q_329 : (Jvm.Cond.selects "YearBaskets$Likes" ({ cls := "YearBaskets$Likes", name := "findAsGood", desc := "(I)V" } : Jvm.MethodName) ({ cls := "YearBaskets$Likes", name := "findAsGood", desc := "(I)V" } : Jvm.MethodName)) ∈ zG := zG_s (List.mem_of_getElem? (i := 28) rfl) rfl
theorem q_330 : (Jvm.Cond.code ({ cls := "YearBaskets$Likes", name := "findAsGood", desc := "(I)V" } : Jvm.MethodName) prog_5_method_11_code (5 : Nat) (Option.none : Option Jvm.ClassFile.FieldType)) ∈ zG := zt_3 (List.mem_of_getElem? (i := 225) rfl) rfl
theorem q_331 : (Jvm.Cond.methodLink "YearBaskets$Likes" (59 : Nat) ({ cls := "YearBaskets$Likes", name := "choiceAt", desc := "(II)I" } : Jvm.MethodName)) ∈ zG := zt_3 (List.mem_of_getElem? (i := 226) rfl) rfl
theorem q_332 : (Jvm.Cond.fieldLink "YearBaskets$Likes" (18 : Nat) "YearBaskets$Likes" "asGood" "[Z") ∈ zG := zt_1 (List.mem_of_getElem? (i := 194) rfl) rfl
theorem q_333 : (Jvm.Cond.instanceMethod ({ cls := "YearBaskets$Likes", name := "hasRing", desc := "()Z" } : Jvm.MethodName)) ∈ zG := zt_3 (List.mem_of_getElem? (i := 220) rfl) rfl
theorem q_334 : (Jvm.Cond.selects "YearBaskets$Likes" ({ cls := "YearBaskets$Likes", name := "hasRing", desc := "()Z" } : Jvm.MethodName) ({ cls := "YearBaskets$Likes", name := "hasRing", desc := "()Z" } : Jvm.MethodName)) ∈ zG := zG_s (List.mem_of_getElem? (i := 27) rfl) rfl
theorem q_335 : (Jvm.Cond.code ({ cls := "YearBaskets$Likes", name := "hasRing", desc := "()Z" } : Jvm.MethodName) prog_5_method_8_code (3 : Nat) (Option.some Jvm.ClassFile.FieldType.boolean)) ∈ zG := zt_3 (List.mem_of_getElem? (i := 221) rfl) rfl
theorem q_336 : (Jvm.Cond.methodLink "YearBaskets$Likes" (56 : Nat) ({ cls := "YearBaskets$Likes", name := "findAsGood", desc := "(I)V" } : Jvm.MethodName)) ∈ zG := zt_3 (List.mem_of_getElem? (i := 222) rfl) rfl
theorem q_337 : (Jvm.Cond.instanceMethod ({ cls := "YearBaskets$Likes", name := "closesFrom", desc := "(IIIZ)Z" } : Jvm.MethodName)) ∈ zG := zt_3 (List.mem_of_getElem? (i := 237) rfl) rfl
theorem q_338 : (Jvm.Cond.selects "YearBaskets$Likes" ({ cls := "YearBaskets$Likes", name := "closesFrom", desc := "(IIIZ)Z" } : Jvm.MethodName) ({ cls := "YearBaskets$Likes", name := "closesFrom", desc := "(IIIZ)Z" } : Jvm.MethodName)) ∈ zG := zG_s (List.mem_of_getElem? (i := 31) rfl) rfl
theorem q_339 : (Jvm.Cond.code ({ cls := "YearBaskets$Likes", name := "closesFrom", desc := "(IIIZ)Z" } : Jvm.MethodName) prog_5_method_9_code (8 : Nat) (Option.some Jvm.ClassFile.FieldType.boolean)) ∈ zG := zt_3 (List.mem_of_getElem? (i := 238) rfl) rfl
theorem q_340 : (Jvm.Cond.methodLink "YearBaskets$Likes" (52 : Nat) ({ cls := "YearBaskets$Likes", name := "closesFrom", desc := "(IIIZ)Z" } : Jvm.MethodName)) ∈ zG := zt_3 (List.mem_of_getElem? (i := 235) rfl) rfl
theorem q_341 : (Jvm.Cond.methodLink "YearBaskets$Likes" (48 : Nat) ({ cls := "YearBaskets$Likes", name := "setYearInRing", desc := "(II)V" } : Jvm.MethodName)) ∈ zG := zt_3 (List.mem_of_getElem? (i := 231) rfl) rfl
theorem q_342 : (Jvm.Cond.methodLink "YearBaskets$Likes" (63 : Nat) ({ cls := "YearBaskets$Likes", name := "yearInRing", desc := "(I)I" } : Jvm.MethodName)) ∈ zG := zt_3 (List.mem_of_getElem? (i := 239) rfl) rfl
theorem q_343 : (Jvm.Cond.instanceMethod ({ cls := "YearBaskets$Likes", name := "findRing", desc := "(I)I" } : Jvm.MethodName)) ∈ zG := zt_3 (List.mem_of_getElem? (i := 210) rfl) rfl
theorem q_344 : (Jvm.Cond.selects "YearBaskets$Likes" ({ cls := "YearBaskets$Likes", name := "findRing", desc := "(I)I" } : Jvm.MethodName) ({ cls := "YearBaskets$Likes", name := "findRing", desc := "(I)I" } : Jvm.MethodName)) ∈ zG := zt_3 (List.mem_of_getElem? (i := 211) rfl) rfl
theorem q_345 : (Jvm.Cond.code ({ cls := "YearBaskets$Likes", name := "findRing", desc := "(I)I" } : Jvm.MethodName) prog_5_method_7_code (4 : Nat) (Option.some Jvm.ClassFile.FieldType.int)) ∈ zG := zt_3 (List.mem_of_getElem? (i := 212) rfl) rfl
theorem q_346 : (Jvm.Cond.methodLink "YearBaskets$Likes" (44 : Nat) ({ cls := "YearBaskets$Likes", name := "hasRing", desc := "()Z" } : Jvm.MethodName)) ∈ zG := zt_3 (List.mem_of_getElem? (i := 218) rfl) rfl
theorem q_347 : (Jvm.Cond.methodLink "YearBaskets$Likes" (40 : Nat) ({ cls := "YearBaskets$Likes", name := "chooseAll", desc := "(I)V" } : Jvm.MethodName)) ∈ zG := zt_3 (List.mem_of_getElem? (i := 213) rfl) rfl
theorem q_348 : (Jvm.Cond.instanceMethod ({ cls := "YearBaskets$Likes", name := "cheapestAsGood", desc := "(III)I" } : Jvm.MethodName)) ∈ zG := zt_4 (List.mem_of_getElem? (i := 9) rfl) rfl
theorem q_349 : (Jvm.Cond.selects "YearBaskets$Likes" ({ cls := "YearBaskets$Likes", name := "cheapestAsGood", desc := "(III)I" } : Jvm.MethodName) ({ cls := "YearBaskets$Likes", name := "cheapestAsGood", desc := "(III)I" } : Jvm.MethodName)) ∈ zG := zt_4 (List.mem_of_getElem? (i := 10) rfl) rfl
theorem q_350 : (Jvm.Cond.code ({ cls := "YearBaskets$Likes", name := "cheapestAsGood", desc := "(III)I" } : Jvm.MethodName) prog_5_method_10_code (8 : Nat) (Option.some Jvm.ClassFile.FieldType.int)) ∈ zG := zt_4 (List.mem_of_getElem? (i := 11) rfl) rfl
abbrev b_K_choice : ByteArray := prog_5_method_2_code
abbrev y_K_choice : MethodName := ⟨"YearBaskets$Likes", "choice", "(III)I"⟩
abbrev b_K_chooseAll : ByteArray := prog_5_method_3_code
abbrev y_K_chooseAll : MethodName := ⟨"YearBaskets$Likes", "chooseAll", "(I)V"⟩
abbrev b_K_choiceAt : ByteArray := prog_5_method_4_code
abbrev y_K_choiceAt : MethodName := ⟨"YearBaskets$Likes", "choiceAt", "(II)I"⟩
abbrev b_K_yearInRing : ByteArray := prog_5_method_5_code
abbrev y_K_yearInRing : MethodName := ⟨"YearBaskets$Likes", "yearInRing", "(I)I"⟩
abbrev b_K_setYearInRing : ByteArray := prog_5_method_6_code
abbrev y_K_setYearInRing : MethodName := ⟨"YearBaskets$Likes", "setYearInRing", "(II)V"⟩
abbrev b_K_findAsGood : ByteArray := prog_5_method_11_code
abbrev y_K_findAsGood : MethodName := ⟨"YearBaskets$Likes", "findAsGood", "(I)V"⟩
abbrev b_K_hasRing : ByteArray := prog_5_method_8_code
abbrev y_K_hasRing : MethodName := ⟨"YearBaskets$Likes", "hasRing", "()Z"⟩
abbrev b_K_closesFrom : ByteArray := prog_5_method_9_code
abbrev y_K_closesFrom : MethodName := ⟨"YearBaskets$Likes", "closesFrom", "(IIIZ)Z"⟩
abbrev b_K_findRing : ByteArray := prog_5_method_7_code
abbrev y_K_findRing : MethodName := ⟨"YearBaskets$Likes", "findRing", "(I)I"⟩
abbrev b_K_cheapestAsGood : ByteArray := prog_5_method_10_code
abbrev y_K_cheapestAsGood : MethodName := ⟨"YearBaskets$Likes", "cheapestAsGood", "(III)I"⟩
theorem w_K_choice : Cond.code y_K_choice b_K_choice 6 (some .int) ∈ zG ∧ (Cond.instanceMethod y_K_choice ∈ zG ∧ Cond.selects y_K_choice.cls y_K_choice y_K_choice ∈ zG) ∧ Cond.initialized y_K_choice.cls ∈ zG ∧ zY y_K_choice 3 := ⟨q_308, ⟨q_306, q_307⟩, q_309, by decide +kernel⟩
theorem w_K_chooseAll : Cond.code y_K_chooseAll b_K_chooseAll 3 (none) ∈ zG ∧ (Cond.instanceMethod y_K_chooseAll ∈ zG ∧ Cond.selects y_K_chooseAll.cls y_K_chooseAll y_K_chooseAll ∈ zG) ∧ Cond.initialized y_K_chooseAll.cls ∈ zG ∧ zY y_K_chooseAll 1 := ⟨q_314, ⟨q_312, q_313⟩, q_309, by decide +kernel⟩
theorem w_K_choiceAt : Cond.code y_K_choiceAt b_K_choiceAt 4 (some .int) ∈ zG ∧ (Cond.instanceMethod y_K_choiceAt ∈ zG ∧ Cond.selects y_K_choiceAt.cls y_K_choiceAt y_K_choiceAt ∈ zG) ∧ Cond.initialized y_K_choiceAt.cls ∈ zG ∧ zY y_K_choiceAt 2 := ⟨q_319, ⟨q_317, q_318⟩, q_309, by decide +kernel⟩
theorem w_K_yearInRing : Cond.code y_K_yearInRing b_K_yearInRing 2 (some .int) ∈ zG ∧ (Cond.instanceMethod y_K_yearInRing ∈ zG ∧ Cond.selects y_K_yearInRing.cls y_K_yearInRing y_K_yearInRing ∈ zG) ∧ Cond.initialized y_K_yearInRing.cls ∈ zG ∧ zY y_K_yearInRing 1 := ⟨q_323, ⟨q_321, q_322⟩, q_309, by decide +kernel⟩
theorem w_K_setYearInRing : Cond.code y_K_setYearInRing b_K_setYearInRing 3 (none) ∈ zG ∧ (Cond.instanceMethod y_K_setYearInRing ∈ zG ∧ Cond.selects y_K_setYearInRing.cls y_K_setYearInRing y_K_setYearInRing ∈ zG) ∧ Cond.initialized y_K_setYearInRing.cls ∈ zG ∧ zY y_K_setYearInRing 2 := ⟨q_327, ⟨q_325, q_326⟩, q_309, by decide +kernel⟩
theorem w_K_findAsGood : Cond.code y_K_findAsGood b_K_findAsGood 5 (none) ∈ zG ∧ (Cond.instanceMethod y_K_findAsGood ∈ zG ∧ Cond.selects y_K_findAsGood.cls y_K_findAsGood y_K_findAsGood ∈ zG) ∧ Cond.initialized y_K_findAsGood.cls ∈ zG ∧ zY y_K_findAsGood 1 := ⟨q_330, ⟨q_328, q_329⟩, q_309, by decide +kernel⟩
theorem w_K_hasRing : Cond.code y_K_hasRing b_K_hasRing 3 (some .boolean) ∈ zG ∧ (Cond.instanceMethod y_K_hasRing ∈ zG ∧ Cond.selects y_K_hasRing.cls y_K_hasRing y_K_hasRing ∈ zG) ∧ Cond.initialized y_K_hasRing.cls ∈ zG ∧ zY y_K_hasRing 0 := ⟨q_335, ⟨q_333, q_334⟩, q_309, by decide +kernel⟩
theorem w_K_closesFrom : Cond.code y_K_closesFrom b_K_closesFrom 8 (some .boolean) ∈ zG ∧ (Cond.instanceMethod y_K_closesFrom ∈ zG ∧ Cond.selects y_K_closesFrom.cls y_K_closesFrom y_K_closesFrom ∈ zG) ∧ Cond.initialized y_K_closesFrom.cls ∈ zG ∧ zY y_K_closesFrom 4 := ⟨q_339, ⟨q_337, q_338⟩, q_309, by decide +kernel⟩
theorem w_K_findRing : Cond.code y_K_findRing b_K_findRing 4 (some .int) ∈ zG ∧ (Cond.instanceMethod y_K_findRing ∈ zG ∧ Cond.selects y_K_findRing.cls y_K_findRing y_K_findRing ∈ zG) ∧ Cond.initialized y_K_findRing.cls ∈ zG ∧ zY y_K_findRing 1 := ⟨q_345, ⟨q_343, q_344⟩, q_309, by decide +kernel⟩
theorem w_K_cheapestAsGood : Cond.code y_K_cheapestAsGood b_K_cheapestAsGood 8 (some .int) ∈ zG ∧ (Cond.instanceMethod y_K_cheapestAsGood ∈ zG ∧ Cond.selects y_K_cheapestAsGood.cls y_K_cheapestAsGood y_K_cheapestAsGood ∈ zG) ∧ Cond.initialized y_K_cheapestAsGood.cls ∈ zG ∧ zY y_K_cheapestAsGood 3 := ⟨q_350, ⟨q_348, q_349⟩, q_309, by decide +kernel⟩
theorem d_K_choice_0 : decode b_K_choice 0 = .ok (.aload_n 0, 1) := by decide +kernel
theorem d_K_choice_1 : decode b_K_choice 1 = .ok (.getfield 22, 3) := by decide +kernel
theorem d_K_choice_4 : decode b_K_choice 4 = .ok (.ifnonnull 7, 3) := by decide +kernel
theorem d_K_choice_7 : decode b_K_choice 7 = .ok (.iconst (-1), 1) := by decide +kernel
theorem d_K_choice_8 : decode b_K_choice 8 = .ok (.goto 15, 3) := by decide +kernel
theorem d_K_choice_11 : decode b_K_choice 11 = .ok (.aload_n 0, 1) := by decide +kernel
theorem d_K_choice_12 : decode b_K_choice 12 = .ok (.getfield 22, 3) := by decide +kernel
theorem d_K_choice_15 : decode b_K_choice 15 = .ok (.bipush 31, 2) := by decide +kernel
theorem d_K_choice_17 : decode b_K_choice 17 = .ok (.iload_n 1, 1) := by decide +kernel
theorem d_K_choice_18 : decode b_K_choice 18 = .ok (.iload_n 2, 1) := by decide +kernel
theorem d_K_choice_19 : decode b_K_choice 19 = .ok (.iload_n 2, 1) := by decide +kernel
theorem d_K_choice_20 : decode b_K_choice 20 = .ok (.invokevirtual 26, 3) := by decide +kernel
theorem d_K_choice_23 : decode b_K_choice 23 = .ok (.istore 4, 2) := by decide +kernel
theorem d_K_choice_25 : decode b_K_choice 25 = .ok (.aload_n 0, 1) := by decide +kernel
theorem d_K_choice_26 : decode b_K_choice 26 = .ok (.getfield 22, 3) := by decide +kernel
theorem d_K_choice_29 : decode b_K_choice 29 = .ok (.ifnonnull 7, 3) := by decide +kernel
theorem d_K_choice_32 : decode b_K_choice 32 = .ok (.iconst (-1), 1) := by decide +kernel
theorem d_K_choice_33 : decode b_K_choice 33 = .ok (.goto 15, 3) := by decide +kernel
theorem d_K_choice_36 : decode b_K_choice 36 = .ok (.aload_n 0, 1) := by decide +kernel
theorem d_K_choice_37 : decode b_K_choice 37 = .ok (.getfield 22, 3) := by decide +kernel
theorem d_K_choice_40 : decode b_K_choice 40 = .ok (.bipush 31, 2) := by decide +kernel
theorem d_K_choice_42 : decode b_K_choice 42 = .ok (.iload_n 1, 1) := by decide +kernel
theorem d_K_choice_43 : decode b_K_choice 43 = .ok (.iload_n 2, 1) := by decide +kernel
theorem d_K_choice_44 : decode b_K_choice 44 = .ok (.iload_n 3, 1) := by decide +kernel
theorem d_K_choice_45 : decode b_K_choice 45 = .ok (.invokevirtual 26, 3) := by decide +kernel
theorem d_K_choice_48 : decode b_K_choice 48 = .ok (.istore 5, 2) := by decide +kernel
theorem d_K_choice_50 : decode b_K_choice 50 = .ok (.iload 4, 2) := by decide +kernel
theorem d_K_choice_52 : decode b_K_choice 52 = .ok (.iconst (-1), 1) := by decide +kernel
theorem d_K_choice_53 : decode b_K_choice 53 = .ok (.if_icmp .eq 16, 3) := by decide +kernel
theorem d_K_choice_56 : decode b_K_choice 56 = .ok (.iload 5, 2) := by decide +kernel
theorem d_K_choice_58 : decode b_K_choice 58 = .ok (.iconst (-1), 1) := by decide +kernel
theorem d_K_choice_59 : decode b_K_choice 59 = .ok (.if_icmp .eq 10, 3) := by decide +kernel
theorem d_K_choice_62 : decode b_K_choice 62 = .ok (.iload 4, 2) := by decide +kernel
theorem d_K_choice_64 : decode b_K_choice 64 = .ok (.iload 5, 2) := by decide +kernel
theorem d_K_choice_66 : decode b_K_choice 66 = .ok (.if_icmp .ge 5, 3) := by decide +kernel
theorem d_K_choice_69 : decode b_K_choice 69 = .ok (.iconst 0, 1) := by decide +kernel
theorem d_K_choice_70 : decode b_K_choice 70 = .ok (.ireturn, 1) := by decide +kernel
theorem d_K_choice_71 : decode b_K_choice 71 = .ok (.iload 4, 2) := by decide +kernel
theorem d_K_choice_73 : decode b_K_choice 73 = .ok (.iload 5, 2) := by decide +kernel
theorem d_K_choice_75 : decode b_K_choice 75 = .ok (.if_icmp .le 7, 3) := by decide +kernel
theorem d_K_choice_78 : decode b_K_choice 78 = .ok (.iconst 2, 1) := by decide +kernel
theorem d_K_choice_79 : decode b_K_choice 79 = .ok (.goto 4, 3) := by decide +kernel
theorem d_K_choice_82 : decode b_K_choice 82 = .ok (.iconst 1, 1) := by decide +kernel
theorem d_K_choice_83 : decode b_K_choice 83 = .ok (.ireturn, 1) := by decide +kernel
theorem d_K_chooseAll_0 : decode b_K_chooseAll 0 = .ok (.iconst 0, 1) := by decide +kernel
theorem d_K_chooseAll_1 : decode b_K_chooseAll 1 = .ok (.istore_n 2, 1) := by decide +kernel
theorem d_K_chooseAll_2 : decode b_K_chooseAll 2 = .ok (.iload_n 2, 1) := by decide +kernel
theorem d_K_chooseAll_3 : decode b_K_chooseAll 3 = .ok (.aload_n 0, 1) := by decide +kernel
theorem d_K_chooseAll_4 : decode b_K_chooseAll 4 = .ok (.getfield 9, 3) := by decide +kernel
theorem d_K_chooseAll_7 : decode b_K_chooseAll 7 = .ok (.arraylength, 1) := by decide +kernel
theorem d_K_chooseAll_8 : decode b_K_chooseAll 8 = .ok (.if_icmp .ge 28, 3) := by decide +kernel
theorem d_K_chooseAll_11 : decode b_K_chooseAll 11 = .ok (.aload_n 0, 1) := by decide +kernel
theorem d_K_chooseAll_12 : decode b_K_chooseAll 12 = .ok (.getfield 9, 3) := by decide +kernel
theorem d_K_chooseAll_15 : decode b_K_chooseAll 15 = .ok (.iload_n 2, 1) := by decide +kernel
theorem d_K_chooseAll_16 : decode b_K_chooseAll 16 = .ok (.aload_n 0, 1) := by decide +kernel
theorem d_K_chooseAll_17 : decode b_K_chooseAll 17 = .ok (.iload_n 1, 1) := by decide +kernel
theorem d_K_chooseAll_18 : decode b_K_chooseAll 18 = .ok (.iload_n 2, 1) := by decide +kernel
theorem d_K_chooseAll_19 : decode b_K_chooseAll 19 = .ok (.bipush 8, 2) := by decide +kernel
theorem d_K_chooseAll_21 : decode b_K_chooseAll 21 = .ok (.idiv, 1) := by decide +kernel
theorem d_K_chooseAll_22 : decode b_K_chooseAll 22 = .ok (.iload_n 2, 1) := by decide +kernel
theorem d_K_chooseAll_23 : decode b_K_chooseAll 23 = .ok (.bipush 8, 2) := by decide +kernel
theorem d_K_chooseAll_25 : decode b_K_chooseAll 25 = .ok (.irem, 1) := by decide +kernel
theorem d_K_chooseAll_26 : decode b_K_chooseAll 26 = .ok (.invokevirtual 32, 3) := by decide +kernel
theorem d_K_chooseAll_29 : decode b_K_chooseAll 29 = .ok (.iastore, 1) := by decide +kernel
theorem d_K_chooseAll_30 : decode b_K_chooseAll 30 = .ok (.iinc 2 1, 3) := by decide +kernel
theorem d_K_chooseAll_33 : decode b_K_chooseAll 33 = .ok (.goto (-31), 3) := by decide +kernel
theorem d_K_chooseAll_36 : decode b_K_chooseAll 36 = .ok (.return_, 1) := by decide +kernel
theorem d_K_choiceAt_0 : decode b_K_choiceAt 0 = .ok (.iload_n 1, 1) := by decide +kernel
theorem d_K_choiceAt_1 : decode b_K_choiceAt 1 = .ok (.bipush 8, 2) := by decide +kernel
theorem d_K_choiceAt_3 : decode b_K_choiceAt 3 = .ok (.imul, 1) := by decide +kernel
theorem d_K_choiceAt_4 : decode b_K_choiceAt 4 = .ok (.iload_n 2, 1) := by decide +kernel
theorem d_K_choiceAt_5 : decode b_K_choiceAt 5 = .ok (.iadd, 1) := by decide +kernel
theorem d_K_choiceAt_6 : decode b_K_choiceAt 6 = .ok (.istore_n 3, 1) := by decide +kernel
theorem d_K_choiceAt_7 : decode b_K_choiceAt 7 = .ok (.iload_n 1, 1) := by decide +kernel
theorem d_K_choiceAt_8 : decode b_K_choiceAt 8 = .ok (.invokestatic 36, 3) := by decide +kernel
theorem d_K_choiceAt_11 : decode b_K_choiceAt 11 = .ok (.ifCond .ne 19, 3) := by decide +kernel
theorem d_K_choiceAt_14 : decode b_K_choiceAt 14 = .ok (.iload_n 2, 1) := by decide +kernel
theorem d_K_choiceAt_15 : decode b_K_choiceAt 15 = .ok (.invokestatic 36, 3) := by decide +kernel
theorem d_K_choiceAt_18 : decode b_K_choiceAt 18 = .ok (.ifCond .ne 12, 3) := by decide +kernel
theorem d_K_choiceAt_21 : decode b_K_choiceAt 21 = .ok (.iload_n 3, 1) := by decide +kernel
theorem d_K_choiceAt_22 : decode b_K_choiceAt 22 = .ok (.aload_n 0, 1) := by decide +kernel
theorem d_K_choiceAt_23 : decode b_K_choiceAt 23 = .ok (.getfield 9, 3) := by decide +kernel
theorem d_K_choiceAt_26 : decode b_K_choiceAt 26 = .ok (.arraylength, 1) := by decide +kernel
theorem d_K_choiceAt_27 : decode b_K_choiceAt 27 = .ok (.if_icmp .lt 7, 3) := by decide +kernel
theorem d_K_choiceAt_30 : decode b_K_choiceAt 30 = .ok (.iconst 0, 1) := by decide +kernel
theorem d_K_choiceAt_31 : decode b_K_choiceAt 31 = .ok (.goto 9, 3) := by decide +kernel
theorem d_K_choiceAt_34 : decode b_K_choiceAt 34 = .ok (.aload_n 0, 1) := by decide +kernel
theorem d_K_choiceAt_35 : decode b_K_choiceAt 35 = .ok (.getfield 9, 3) := by decide +kernel
theorem d_K_choiceAt_38 : decode b_K_choiceAt 38 = .ok (.iload_n 3, 1) := by decide +kernel
theorem d_K_choiceAt_39 : decode b_K_choiceAt 39 = .ok (.iaload, 1) := by decide +kernel
theorem d_K_choiceAt_40 : decode b_K_choiceAt 40 = .ok (.ireturn, 1) := by decide +kernel
theorem d_K_yearInRing_0 : decode b_K_yearInRing 0 = .ok (.iload_n 1, 1) := by decide +kernel
theorem d_K_yearInRing_1 : decode b_K_yearInRing 1 = .ok (.ifCond .lt 12, 3) := by decide +kernel
theorem d_K_yearInRing_4 : decode b_K_yearInRing 4 = .ok (.iload_n 1, 1) := by decide +kernel
theorem d_K_yearInRing_5 : decode b_K_yearInRing 5 = .ok (.aload_n 0, 1) := by decide +kernel
theorem d_K_yearInRing_6 : decode b_K_yearInRing 6 = .ok (.getfield 15, 3) := by decide +kernel
theorem d_K_yearInRing_9 : decode b_K_yearInRing 9 = .ok (.arraylength, 1) := by decide +kernel
theorem d_K_yearInRing_10 : decode b_K_yearInRing 10 = .ok (.if_icmp .lt 7, 3) := by decide +kernel
theorem d_K_yearInRing_13 : decode b_K_yearInRing 13 = .ok (.iconst (-1), 1) := by decide +kernel
theorem d_K_yearInRing_14 : decode b_K_yearInRing 14 = .ok (.goto 9, 3) := by decide +kernel
theorem d_K_yearInRing_17 : decode b_K_yearInRing 17 = .ok (.aload_n 0, 1) := by decide +kernel
theorem d_K_yearInRing_18 : decode b_K_yearInRing 18 = .ok (.getfield 15, 3) := by decide +kernel
theorem d_K_yearInRing_21 : decode b_K_yearInRing 21 = .ok (.iload_n 1, 1) := by decide +kernel
theorem d_K_yearInRing_22 : decode b_K_yearInRing 22 = .ok (.iaload, 1) := by decide +kernel
theorem d_K_yearInRing_23 : decode b_K_yearInRing 23 = .ok (.ireturn, 1) := by decide +kernel
theorem d_K_setYearInRing_0 : decode b_K_setYearInRing 0 = .ok (.iload_n 1, 1) := by decide +kernel
theorem d_K_setYearInRing_1 : decode b_K_setYearInRing 1 = .ok (.ifCond .lt 19, 3) := by decide +kernel
theorem d_K_setYearInRing_4 : decode b_K_setYearInRing 4 = .ok (.iload_n 1, 1) := by decide +kernel
theorem d_K_setYearInRing_5 : decode b_K_setYearInRing 5 = .ok (.aload_n 0, 1) := by decide +kernel
theorem d_K_setYearInRing_6 : decode b_K_setYearInRing 6 = .ok (.getfield 15, 3) := by decide +kernel
theorem d_K_setYearInRing_9 : decode b_K_setYearInRing 9 = .ok (.arraylength, 1) := by decide +kernel
theorem d_K_setYearInRing_10 : decode b_K_setYearInRing 10 = .ok (.if_icmp .ge 10, 3) := by decide +kernel
theorem d_K_setYearInRing_13 : decode b_K_setYearInRing 13 = .ok (.aload_n 0, 1) := by decide +kernel
theorem d_K_setYearInRing_14 : decode b_K_setYearInRing 14 = .ok (.getfield 15, 3) := by decide +kernel
theorem d_K_setYearInRing_17 : decode b_K_setYearInRing 17 = .ok (.iload_n 1, 1) := by decide +kernel
theorem d_K_setYearInRing_18 : decode b_K_setYearInRing 18 = .ok (.iload_n 2, 1) := by decide +kernel
theorem d_K_setYearInRing_19 : decode b_K_setYearInRing 19 = .ok (.iastore, 1) := by decide +kernel
theorem d_K_setYearInRing_20 : decode b_K_setYearInRing 20 = .ok (.return_, 1) := by decide +kernel
theorem d_K_findAsGood_0 : decode b_K_findAsGood 0 = .ok (.iconst 0, 1) := by decide +kernel
theorem d_K_findAsGood_1 : decode b_K_findAsGood 1 = .ok (.istore_n 2, 1) := by decide +kernel
theorem d_K_findAsGood_2 : decode b_K_findAsGood 2 = .ok (.iload_n 2, 1) := by decide +kernel
theorem d_K_findAsGood_3 : decode b_K_findAsGood 3 = .ok (.aload_n 0, 1) := by decide +kernel
theorem d_K_findAsGood_4 : decode b_K_findAsGood 4 = .ok (.getfield 18, 3) := by decide +kernel
theorem d_K_findAsGood_7 : decode b_K_findAsGood 7 = .ok (.arraylength, 1) := by decide +kernel
theorem d_K_findAsGood_8 : decode b_K_findAsGood 8 = .ok (.if_icmp .ge 25, 3) := by decide +kernel
theorem d_K_findAsGood_11 : decode b_K_findAsGood 11 = .ok (.aload_n 0, 1) := by decide +kernel
theorem d_K_findAsGood_12 : decode b_K_findAsGood 12 = .ok (.getfield 18, 3) := by decide +kernel
theorem d_K_findAsGood_15 : decode b_K_findAsGood 15 = .ok (.iload_n 2, 1) := by decide +kernel
theorem d_K_findAsGood_16 : decode b_K_findAsGood 16 = .ok (.iload_n 2, 1) := by decide +kernel
theorem d_K_findAsGood_17 : decode b_K_findAsGood 17 = .ok (.iload_n 1, 1) := by decide +kernel
theorem d_K_findAsGood_18 : decode b_K_findAsGood 18 = .ok (.if_icmp .ne 7, 3) := by decide +kernel
theorem d_K_findAsGood_21 : decode b_K_findAsGood 21 = .ok (.iconst 1, 1) := by decide +kernel
theorem d_K_findAsGood_22 : decode b_K_findAsGood 22 = .ok (.goto 4, 3) := by decide +kernel
theorem d_K_findAsGood_25 : decode b_K_findAsGood 25 = .ok (.iconst 0, 1) := by decide +kernel
theorem d_K_findAsGood_26 : decode b_K_findAsGood 26 = .ok (.bastore, 1) := by decide +kernel
theorem d_K_findAsGood_27 : decode b_K_findAsGood 27 = .ok (.iinc 2 1, 3) := by decide +kernel
theorem d_K_findAsGood_30 : decode b_K_findAsGood 30 = .ok (.goto (-28), 3) := by decide +kernel
theorem d_K_findAsGood_33 : decode b_K_findAsGood 33 = .ok (.iconst 1, 1) := by decide +kernel
theorem d_K_findAsGood_34 : decode b_K_findAsGood 34 = .ok (.istore_n 2, 1) := by decide +kernel
theorem d_K_findAsGood_35 : decode b_K_findAsGood 35 = .ok (.iload_n 2, 1) := by decide +kernel
theorem d_K_findAsGood_36 : decode b_K_findAsGood 36 = .ok (.bipush 8, 2) := by decide +kernel
theorem d_K_findAsGood_38 : decode b_K_findAsGood 38 = .ok (.if_icmp .ge 85, 3) := by decide +kernel
theorem d_K_findAsGood_41 : decode b_K_findAsGood 41 = .ok (.iconst 0, 1) := by decide +kernel
theorem d_K_findAsGood_42 : decode b_K_findAsGood 42 = .ok (.istore_n 3, 1) := by decide +kernel
theorem d_K_findAsGood_43 : decode b_K_findAsGood 43 = .ok (.iload_n 3, 1) := by decide +kernel
theorem d_K_findAsGood_44 : decode b_K_findAsGood 44 = .ok (.aload_n 0, 1) := by decide +kernel
theorem d_K_findAsGood_45 : decode b_K_findAsGood 45 = .ok (.getfield 18, 3) := by decide +kernel
theorem d_K_findAsGood_48 : decode b_K_findAsGood 48 = .ok (.arraylength, 1) := by decide +kernel
theorem d_K_findAsGood_49 : decode b_K_findAsGood 49 = .ok (.if_icmp .ge 68, 3) := by decide +kernel
theorem d_K_findAsGood_52 : decode b_K_findAsGood 52 = .ok (.iconst 0, 1) := by decide +kernel
theorem d_K_findAsGood_53 : decode b_K_findAsGood 53 = .ok (.istore 4, 2) := by decide +kernel
theorem d_K_findAsGood_55 : decode b_K_findAsGood 55 = .ok (.iload 4, 2) := by decide +kernel
theorem d_K_findAsGood_57 : decode b_K_findAsGood 57 = .ok (.aload_n 0, 1) := by decide +kernel
theorem d_K_findAsGood_58 : decode b_K_findAsGood 58 = .ok (.getfield 18, 3) := by decide +kernel
theorem d_K_findAsGood_61 : decode b_K_findAsGood 61 = .ok (.arraylength, 1) := by decide +kernel
theorem d_K_findAsGood_62 : decode b_K_findAsGood 62 = .ok (.if_icmp .ge 49, 3) := by decide +kernel
theorem d_K_findAsGood_65 : decode b_K_findAsGood 65 = .ok (.aload_n 0, 1) := by decide +kernel
theorem d_K_findAsGood_66 : decode b_K_findAsGood 66 = .ok (.getfield 18, 3) := by decide +kernel
theorem d_K_findAsGood_69 : decode b_K_findAsGood 69 = .ok (.iload_n 3, 1) := by decide +kernel
theorem d_K_findAsGood_70 : decode b_K_findAsGood 70 = .ok (.baload, 1) := by decide +kernel
theorem d_K_findAsGood_71 : decode b_K_findAsGood 71 = .ok (.ifCond .ne 40, 3) := by decide +kernel
theorem d_K_findAsGood_74 : decode b_K_findAsGood 74 = .ok (.aload_n 0, 1) := by decide +kernel
theorem d_K_findAsGood_75 : decode b_K_findAsGood 75 = .ok (.getfield 18, 3) := by decide +kernel
theorem d_K_findAsGood_78 : decode b_K_findAsGood 78 = .ok (.iload_n 3, 1) := by decide +kernel
theorem d_K_findAsGood_79 : decode b_K_findAsGood 79 = .ok (.aload_n 0, 1) := by decide +kernel
theorem d_K_findAsGood_80 : decode b_K_findAsGood 80 = .ok (.getfield 18, 3) := by decide +kernel
theorem d_K_findAsGood_83 : decode b_K_findAsGood 83 = .ok (.iload 4, 2) := by decide +kernel
theorem d_K_findAsGood_85 : decode b_K_findAsGood 85 = .ok (.baload, 1) := by decide +kernel
theorem d_K_findAsGood_86 : decode b_K_findAsGood 86 = .ok (.ifCond .eq 17, 3) := by decide +kernel
theorem d_K_findAsGood_89 : decode b_K_findAsGood 89 = .ok (.aload_n 0, 1) := by decide +kernel
theorem d_K_findAsGood_90 : decode b_K_findAsGood 90 = .ok (.iload_n 3, 1) := by decide +kernel
theorem d_K_findAsGood_91 : decode b_K_findAsGood 91 = .ok (.iload 4, 2) := by decide +kernel
theorem d_K_findAsGood_93 : decode b_K_findAsGood 93 = .ok (.invokevirtual 59, 3) := by decide +kernel
theorem d_K_findAsGood_96 : decode b_K_findAsGood 96 = .ok (.ifCond .le 7, 3) := by decide +kernel
theorem d_K_findAsGood_99 : decode b_K_findAsGood 99 = .ok (.iconst 1, 1) := by decide +kernel
theorem d_K_findAsGood_100 : decode b_K_findAsGood 100 = .ok (.goto 4, 3) := by decide +kernel
theorem d_K_findAsGood_103 : decode b_K_findAsGood 103 = .ok (.iconst 0, 1) := by decide +kernel
theorem d_K_findAsGood_104 : decode b_K_findAsGood 104 = .ok (.bastore, 1) := by decide +kernel
theorem d_K_findAsGood_105 : decode b_K_findAsGood 105 = .ok (.iinc 4 1, 3) := by decide +kernel
theorem d_K_findAsGood_108 : decode b_K_findAsGood 108 = .ok (.goto (-53), 3) := by decide +kernel
theorem d_K_findAsGood_111 : decode b_K_findAsGood 111 = .ok (.iinc 3 1, 3) := by decide +kernel
theorem d_K_findAsGood_114 : decode b_K_findAsGood 114 = .ok (.goto (-71), 3) := by decide +kernel
theorem d_K_findAsGood_117 : decode b_K_findAsGood 117 = .ok (.iinc 2 1, 3) := by decide +kernel
theorem d_K_findAsGood_120 : decode b_K_findAsGood 120 = .ok (.goto (-85), 3) := by decide +kernel
theorem d_K_findAsGood_123 : decode b_K_findAsGood 123 = .ok (.return_, 1) := by decide +kernel
theorem d_K_hasRing_0 : decode b_K_hasRing 0 = .ok (.iconst 0, 1) := by decide +kernel
theorem d_K_hasRing_1 : decode b_K_hasRing 1 = .ok (.istore_n 1, 1) := by decide +kernel
theorem d_K_hasRing_2 : decode b_K_hasRing 2 = .ok (.iload_n 1, 1) := by decide +kernel
theorem d_K_hasRing_3 : decode b_K_hasRing 3 = .ok (.bipush 8, 2) := by decide +kernel
theorem d_K_hasRing_5 : decode b_K_hasRing 5 = .ok (.if_icmp .ge 52, 3) := by decide +kernel
theorem d_K_hasRing_8 : decode b_K_hasRing 8 = .ok (.aload_n 0, 1) := by decide +kernel
theorem d_K_hasRing_9 : decode b_K_hasRing 9 = .ok (.iload_n 1, 1) := by decide +kernel
theorem d_K_hasRing_10 : decode b_K_hasRing 10 = .ok (.invokevirtual 56, 3) := by decide +kernel
theorem d_K_hasRing_13 : decode b_K_hasRing 13 = .ok (.iconst 0, 1) := by decide +kernel
theorem d_K_hasRing_14 : decode b_K_hasRing 14 = .ok (.istore_n 2, 1) := by decide +kernel
theorem d_K_hasRing_15 : decode b_K_hasRing 15 = .ok (.iload_n 2, 1) := by decide +kernel
theorem d_K_hasRing_16 : decode b_K_hasRing 16 = .ok (.aload_n 0, 1) := by decide +kernel
theorem d_K_hasRing_17 : decode b_K_hasRing 17 = .ok (.getfield 18, 3) := by decide +kernel
theorem d_K_hasRing_20 : decode b_K_hasRing 20 = .ok (.arraylength, 1) := by decide +kernel
theorem d_K_hasRing_21 : decode b_K_hasRing 21 = .ok (.if_icmp .ge 30, 3) := by decide +kernel
theorem d_K_hasRing_24 : decode b_K_hasRing 24 = .ok (.aload_n 0, 1) := by decide +kernel
theorem d_K_hasRing_25 : decode b_K_hasRing 25 = .ok (.getfield 18, 3) := by decide +kernel
theorem d_K_hasRing_28 : decode b_K_hasRing 28 = .ok (.iload_n 2, 1) := by decide +kernel
theorem d_K_hasRing_29 : decode b_K_hasRing 29 = .ok (.baload, 1) := by decide +kernel
theorem d_K_hasRing_30 : decode b_K_hasRing 30 = .ok (.ifCond .eq 15, 3) := by decide +kernel
theorem d_K_hasRing_33 : decode b_K_hasRing 33 = .ok (.aload_n 0, 1) := by decide +kernel
theorem d_K_hasRing_34 : decode b_K_hasRing 34 = .ok (.iload_n 1, 1) := by decide +kernel
theorem d_K_hasRing_35 : decode b_K_hasRing 35 = .ok (.iload_n 2, 1) := by decide +kernel
theorem d_K_hasRing_36 : decode b_K_hasRing 36 = .ok (.invokevirtual 59, 3) := by decide +kernel
theorem d_K_hasRing_39 : decode b_K_hasRing 39 = .ok (.iconst 2, 1) := by decide +kernel
theorem d_K_hasRing_40 : decode b_K_hasRing 40 = .ok (.if_icmp .ne 5, 3) := by decide +kernel
theorem d_K_hasRing_43 : decode b_K_hasRing 43 = .ok (.iconst 1, 1) := by decide +kernel
theorem d_K_hasRing_44 : decode b_K_hasRing 44 = .ok (.ireturn, 1) := by decide +kernel
theorem d_K_hasRing_45 : decode b_K_hasRing 45 = .ok (.iinc 2 1, 3) := by decide +kernel
theorem d_K_hasRing_48 : decode b_K_hasRing 48 = .ok (.goto (-33), 3) := by decide +kernel
theorem d_K_hasRing_51 : decode b_K_hasRing 51 = .ok (.iinc 1 1, 3) := by decide +kernel
theorem d_K_hasRing_54 : decode b_K_hasRing 54 = .ok (.goto (-52), 3) := by decide +kernel
theorem d_K_hasRing_57 : decode b_K_hasRing 57 = .ok (.iconst 0, 1) := by decide +kernel
theorem d_K_hasRing_58 : decode b_K_hasRing 58 = .ok (.ireturn, 1) := by decide +kernel
theorem d_K_closesFrom_0 : decode b_K_closesFrom 0 = .ok (.aload_n 0, 1) := by decide +kernel
theorem d_K_closesFrom_1 : decode b_K_closesFrom 1 = .ok (.iload_n 1, 1) := by decide +kernel
theorem d_K_closesFrom_2 : decode b_K_closesFrom 2 = .ok (.iconst 1, 1) := by decide +kernel
theorem d_K_closesFrom_3 : decode b_K_closesFrom 3 = .ok (.isub, 1) := by decide +kernel
theorem d_K_closesFrom_4 : decode b_K_closesFrom 4 = .ok (.invokevirtual 63, 3) := by decide +kernel
theorem d_K_closesFrom_7 : decode b_K_closesFrom 7 = .ok (.istore 5, 2) := by decide +kernel
theorem d_K_closesFrom_9 : decode b_K_closesFrom 9 = .ok (.iload_n 1, 1) := by decide +kernel
theorem d_K_closesFrom_10 : decode b_K_closesFrom 10 = .ok (.iload_n 2, 1) := by decide +kernel
theorem d_K_closesFrom_11 : decode b_K_closesFrom 11 = .ok (.if_icmp .ge 9, 3) := by decide +kernel
theorem d_K_closesFrom_14 : decode b_K_closesFrom 14 = .ok (.iload_n 1, 1) := by decide +kernel
theorem d_K_closesFrom_15 : decode b_K_closesFrom 15 = .ok (.bipush 8, 2) := by decide +kernel
theorem d_K_closesFrom_17 : decode b_K_closesFrom 17 = .ok (.if_icmp .lt 39, 3) := by decide +kernel
theorem d_K_closesFrom_20 : decode b_K_closesFrom 20 = .ok (.aload_n 0, 1) := by decide +kernel
theorem d_K_closesFrom_21 : decode b_K_closesFrom 21 = .ok (.iload 5, 2) := by decide +kernel
theorem d_K_closesFrom_23 : decode b_K_closesFrom 23 = .ok (.aload_n 0, 1) := by decide +kernel
theorem d_K_closesFrom_24 : decode b_K_closesFrom 24 = .ok (.iconst 0, 1) := by decide +kernel
theorem d_K_closesFrom_25 : decode b_K_closesFrom 25 = .ok (.invokevirtual 63, 3) := by decide +kernel
theorem d_K_closesFrom_28 : decode b_K_closesFrom 28 = .ok (.invokevirtual 59, 3) := by decide +kernel
theorem d_K_closesFrom_31 : decode b_K_closesFrom 31 = .ok (.istore 6, 2) := by decide +kernel
theorem d_K_closesFrom_33 : decode b_K_closesFrom 33 = .ok (.iload 6, 2) := by decide +kernel
theorem d_K_closesFrom_35 : decode b_K_closesFrom 35 = .ok (.iconst 2, 1) := by decide +kernel
theorem d_K_closesFrom_36 : decode b_K_closesFrom 36 = .ok (.if_icmp .eq 14, 3) := by decide +kernel
theorem d_K_closesFrom_39 : decode b_K_closesFrom 39 = .ok (.iload 6, 2) := by decide +kernel
theorem d_K_closesFrom_41 : decode b_K_closesFrom 41 = .ok (.iconst 1, 1) := by decide +kernel
theorem d_K_closesFrom_42 : decode b_K_closesFrom 42 = .ok (.if_icmp .ne 12, 3) := by decide +kernel
theorem d_K_closesFrom_45 : decode b_K_closesFrom 45 = .ok (.iload 4, 2) := by decide +kernel
theorem d_K_closesFrom_47 : decode b_K_closesFrom 47 = .ok (.ifCond .eq 7, 3) := by decide +kernel
theorem d_K_closesFrom_50 : decode b_K_closesFrom 50 = .ok (.iconst 1, 1) := by decide +kernel
theorem d_K_closesFrom_51 : decode b_K_closesFrom 51 = .ok (.goto 4, 3) := by decide +kernel
theorem d_K_closesFrom_54 : decode b_K_closesFrom 54 = .ok (.iconst 0, 1) := by decide +kernel
theorem d_K_closesFrom_55 : decode b_K_closesFrom 55 = .ok (.ireturn, 1) := by decide +kernel
theorem d_K_closesFrom_56 : decode b_K_closesFrom 56 = .ok (.aload_n 0, 1) := by decide +kernel
theorem d_K_closesFrom_57 : decode b_K_closesFrom 57 = .ok (.iconst 0, 1) := by decide +kernel
theorem d_K_closesFrom_58 : decode b_K_closesFrom 58 = .ok (.invokevirtual 63, 3) := by decide +kernel
theorem d_K_closesFrom_61 : decode b_K_closesFrom 61 = .ok (.iconst 1, 1) := by decide +kernel
theorem d_K_closesFrom_62 : decode b_K_closesFrom 62 = .ok (.iadd, 1) := by decide +kernel
theorem d_K_closesFrom_63 : decode b_K_closesFrom 63 = .ok (.istore 6, 2) := by decide +kernel
theorem d_K_closesFrom_65 : decode b_K_closesFrom 65 = .ok (.iload 6, 2) := by decide +kernel
theorem d_K_closesFrom_67 : decode b_K_closesFrom 67 = .ok (.bipush 8, 2) := by decide +kernel
theorem d_K_closesFrom_69 : decode b_K_closesFrom 69 = .ok (.if_icmp .ge 83, 3) := by decide +kernel
theorem d_K_closesFrom_72 : decode b_K_closesFrom 72 = .ok (.iload_n 3, 1) := by decide +kernel
theorem d_K_closesFrom_73 : decode b_K_closesFrom 73 = .ok (.iload 6, 2) := by decide +kernel
theorem d_K_closesFrom_75 : decode b_K_closesFrom 75 = .ok (.ishr, 1) := by decide +kernel
theorem d_K_closesFrom_76 : decode b_K_closesFrom 76 = .ok (.iconst 1, 1) := by decide +kernel
theorem d_K_closesFrom_77 : decode b_K_closesFrom 77 = .ok (.iand, 1) := by decide +kernel
theorem d_K_closesFrom_78 : decode b_K_closesFrom 78 = .ok (.iconst 1, 1) := by decide +kernel
theorem d_K_closesFrom_79 : decode b_K_closesFrom 79 = .ok (.if_icmp .ne 7, 3) := by decide +kernel
theorem d_K_closesFrom_82 : decode b_K_closesFrom 82 = .ok (.iconst 0, 1) := by decide +kernel
theorem d_K_closesFrom_83 : decode b_K_closesFrom 83 = .ok (.goto 11, 3) := by decide +kernel
theorem d_K_closesFrom_86 : decode b_K_closesFrom 86 = .ok (.aload_n 0, 1) := by decide +kernel
theorem d_K_closesFrom_87 : decode b_K_closesFrom 87 = .ok (.iload 5, 2) := by decide +kernel
theorem d_K_closesFrom_89 : decode b_K_closesFrom 89 = .ok (.iload 6, 2) := by decide +kernel
theorem d_K_closesFrom_91 : decode b_K_closesFrom 91 = .ok (.invokevirtual 59, 3) := by decide +kernel
theorem d_K_closesFrom_94 : decode b_K_closesFrom 94 = .ok (.istore 7, 2) := by decide +kernel
theorem d_K_closesFrom_96 : decode b_K_closesFrom 96 = .ok (.iload 7, 2) := by decide +kernel
theorem d_K_closesFrom_98 : decode b_K_closesFrom 98 = .ok (.ifCond .ne 6, 3) := by decide +kernel
theorem d_K_closesFrom_101 : decode b_K_closesFrom 101 = .ok (.goto 45, 3) := by decide +kernel
theorem d_K_closesFrom_104 : decode b_K_closesFrom 104 = .ok (.aload_n 0, 1) := by decide +kernel
theorem d_K_closesFrom_105 : decode b_K_closesFrom 105 = .ok (.iload_n 1, 1) := by decide +kernel
theorem d_K_closesFrom_106 : decode b_K_closesFrom 106 = .ok (.iload 6, 2) := by decide +kernel
theorem d_K_closesFrom_108 : decode b_K_closesFrom 108 = .ok (.invokevirtual 48, 3) := by decide +kernel
theorem d_K_closesFrom_111 : decode b_K_closesFrom 111 = .ok (.aload_n 0, 1) := by decide +kernel
theorem d_K_closesFrom_112 : decode b_K_closesFrom 112 = .ok (.iload_n 1, 1) := by decide +kernel
theorem d_K_closesFrom_113 : decode b_K_closesFrom 113 = .ok (.iconst 1, 1) := by decide +kernel
theorem d_K_closesFrom_114 : decode b_K_closesFrom 114 = .ok (.iadd, 1) := by decide +kernel
theorem d_K_closesFrom_115 : decode b_K_closesFrom 115 = .ok (.iload_n 2, 1) := by decide +kernel
theorem d_K_closesFrom_116 : decode b_K_closesFrom 116 = .ok (.iload_n 3, 1) := by decide +kernel
theorem d_K_closesFrom_117 : decode b_K_closesFrom 117 = .ok (.iconst 1, 1) := by decide +kernel
theorem d_K_closesFrom_118 : decode b_K_closesFrom 118 = .ok (.iload 6, 2) := by decide +kernel
theorem d_K_closesFrom_120 : decode b_K_closesFrom 120 = .ok (.ishl, 1) := by decide +kernel
theorem d_K_closesFrom_121 : decode b_K_closesFrom 121 = .ok (.ior, 1) := by decide +kernel
theorem d_K_closesFrom_122 : decode b_K_closesFrom 122 = .ok (.iload 4, 2) := by decide +kernel
theorem d_K_closesFrom_124 : decode b_K_closesFrom 124 = .ok (.ifCond .ne 9, 3) := by decide +kernel
theorem d_K_closesFrom_127 : decode b_K_closesFrom 127 = .ok (.iload 7, 2) := by decide +kernel
theorem d_K_closesFrom_129 : decode b_K_closesFrom 129 = .ok (.iconst 2, 1) := by decide +kernel
theorem d_K_closesFrom_130 : decode b_K_closesFrom 130 = .ok (.if_icmp .ne 7, 3) := by decide +kernel
theorem d_K_closesFrom_133 : decode b_K_closesFrom 133 = .ok (.iconst 1, 1) := by decide +kernel
theorem d_K_closesFrom_134 : decode b_K_closesFrom 134 = .ok (.goto 4, 3) := by decide +kernel
theorem d_K_closesFrom_137 : decode b_K_closesFrom 137 = .ok (.iconst 0, 1) := by decide +kernel
theorem d_K_closesFrom_138 : decode b_K_closesFrom 138 = .ok (.invokevirtual 52, 3) := by decide +kernel
theorem d_K_closesFrom_141 : decode b_K_closesFrom 141 = .ok (.ifCond .eq 5, 3) := by decide +kernel
theorem d_K_closesFrom_144 : decode b_K_closesFrom 144 = .ok (.iconst 1, 1) := by decide +kernel
theorem d_K_closesFrom_145 : decode b_K_closesFrom 145 = .ok (.ireturn, 1) := by decide +kernel
theorem d_K_closesFrom_146 : decode b_K_closesFrom 146 = .ok (.iinc 6 1, 3) := by decide +kernel
theorem d_K_closesFrom_149 : decode b_K_closesFrom 149 = .ok (.goto (-84), 3) := by decide +kernel
theorem d_K_closesFrom_152 : decode b_K_closesFrom 152 = .ok (.iconst 0, 1) := by decide +kernel
theorem d_K_closesFrom_153 : decode b_K_closesFrom 153 = .ok (.ireturn, 1) := by decide +kernel
theorem d_K_findRing_0 : decode b_K_findRing 0 = .ok (.aload_n 0, 1) := by decide +kernel
theorem d_K_findRing_1 : decode b_K_findRing 1 = .ok (.iload_n 1, 1) := by decide +kernel
theorem d_K_findRing_2 : decode b_K_findRing 2 = .ok (.invokevirtual 40, 3) := by decide +kernel
theorem d_K_findRing_5 : decode b_K_findRing 5 = .ok (.aload_n 0, 1) := by decide +kernel
theorem d_K_findRing_6 : decode b_K_findRing 6 = .ok (.invokevirtual 44, 3) := by decide +kernel
theorem d_K_findRing_9 : decode b_K_findRing 9 = .ok (.ifCond .ne 5, 3) := by decide +kernel
theorem d_K_findRing_12 : decode b_K_findRing 12 = .ok (.iconst 0, 1) := by decide +kernel
theorem d_K_findRing_13 : decode b_K_findRing 13 = .ok (.ireturn, 1) := by decide +kernel
theorem d_K_findRing_14 : decode b_K_findRing 14 = .ok (.iconst 2, 1) := by decide +kernel
theorem d_K_findRing_15 : decode b_K_findRing 15 = .ok (.istore_n 2, 1) := by decide +kernel
theorem d_K_findRing_16 : decode b_K_findRing 16 = .ok (.iload_n 2, 1) := by decide +kernel
theorem d_K_findRing_17 : decode b_K_findRing 17 = .ok (.bipush 8, 2) := by decide +kernel
theorem d_K_findRing_19 : decode b_K_findRing 19 = .ok (.if_icmp .gt 44, 3) := by decide +kernel
theorem d_K_findRing_22 : decode b_K_findRing 22 = .ok (.iconst 0, 1) := by decide +kernel
theorem d_K_findRing_23 : decode b_K_findRing 23 = .ok (.istore_n 3, 1) := by decide +kernel
theorem d_K_findRing_24 : decode b_K_findRing 24 = .ok (.iload_n 3, 1) := by decide +kernel
theorem d_K_findRing_25 : decode b_K_findRing 25 = .ok (.bipush 8, 2) := by decide +kernel
theorem d_K_findRing_27 : decode b_K_findRing 27 = .ok (.if_icmp .ge 30, 3) := by decide +kernel
theorem d_K_findRing_30 : decode b_K_findRing 30 = .ok (.aload_n 0, 1) := by decide +kernel
theorem d_K_findRing_31 : decode b_K_findRing 31 = .ok (.iconst 0, 1) := by decide +kernel
theorem d_K_findRing_32 : decode b_K_findRing 32 = .ok (.iload_n 3, 1) := by decide +kernel
theorem d_K_findRing_33 : decode b_K_findRing 33 = .ok (.invokevirtual 48, 3) := by decide +kernel
theorem d_K_findRing_36 : decode b_K_findRing 36 = .ok (.aload_n 0, 1) := by decide +kernel
theorem d_K_findRing_37 : decode b_K_findRing 37 = .ok (.iconst 1, 1) := by decide +kernel
theorem d_K_findRing_38 : decode b_K_findRing 38 = .ok (.iload_n 2, 1) := by decide +kernel
theorem d_K_findRing_39 : decode b_K_findRing 39 = .ok (.iconst 1, 1) := by decide +kernel
theorem d_K_findRing_40 : decode b_K_findRing 40 = .ok (.iload_n 3, 1) := by decide +kernel
theorem d_K_findRing_41 : decode b_K_findRing 41 = .ok (.ishl, 1) := by decide +kernel
theorem d_K_findRing_42 : decode b_K_findRing 42 = .ok (.iconst 0, 1) := by decide +kernel
theorem d_K_findRing_43 : decode b_K_findRing 43 = .ok (.invokevirtual 52, 3) := by decide +kernel
theorem d_K_findRing_46 : decode b_K_findRing 46 = .ok (.ifCond .eq 5, 3) := by decide +kernel
theorem d_K_findRing_49 : decode b_K_findRing 49 = .ok (.iload_n 2, 1) := by decide +kernel
theorem d_K_findRing_50 : decode b_K_findRing 50 = .ok (.ireturn, 1) := by decide +kernel
theorem d_K_findRing_51 : decode b_K_findRing 51 = .ok (.iinc 3 1, 3) := by decide +kernel
theorem d_K_findRing_54 : decode b_K_findRing 54 = .ok (.goto (-30), 3) := by decide +kernel
theorem d_K_findRing_57 : decode b_K_findRing 57 = .ok (.iinc 2 1, 3) := by decide +kernel
theorem d_K_findRing_60 : decode b_K_findRing 60 = .ok (.goto (-44), 3) := by decide +kernel
theorem d_K_findRing_63 : decode b_K_findRing 63 = .ok (.iconst 0, 1) := by decide +kernel
theorem d_K_findRing_64 : decode b_K_findRing 64 = .ok (.ireturn, 1) := by decide +kernel
theorem d_K_cheapestAsGood_0 : decode b_K_cheapestAsGood 0 = .ok (.aload_n 0, 1) := by decide +kernel
theorem d_K_cheapestAsGood_1 : decode b_K_cheapestAsGood 1 = .ok (.iload_n 1, 1) := by decide +kernel
theorem d_K_cheapestAsGood_2 : decode b_K_cheapestAsGood 2 = .ok (.invokevirtual 40, 3) := by decide +kernel
theorem d_K_cheapestAsGood_5 : decode b_K_cheapestAsGood 5 = .ok (.aload_n 0, 1) := by decide +kernel
theorem d_K_cheapestAsGood_6 : decode b_K_cheapestAsGood 6 = .ok (.iload_n 2, 1) := by decide +kernel
theorem d_K_cheapestAsGood_7 : decode b_K_cheapestAsGood 7 = .ok (.invokevirtual 56, 3) := by decide +kernel
theorem d_K_cheapestAsGood_10 : decode b_K_cheapestAsGood 10 = .ok (.iconst (-1), 1) := by decide +kernel
theorem d_K_cheapestAsGood_11 : decode b_K_cheapestAsGood 11 = .ok (.istore 4, 2) := by decide +kernel
theorem d_K_cheapestAsGood_13 : decode b_K_cheapestAsGood 13 = .ok (.iconst (-1), 1) := by decide +kernel
theorem d_K_cheapestAsGood_14 : decode b_K_cheapestAsGood 14 = .ok (.istore 5, 2) := by decide +kernel
theorem d_K_cheapestAsGood_16 : decode b_K_cheapestAsGood 16 = .ok (.iconst 0, 1) := by decide +kernel
theorem d_K_cheapestAsGood_17 : decode b_K_cheapestAsGood 17 = .ok (.istore 6, 2) := by decide +kernel
theorem d_K_cheapestAsGood_19 : decode b_K_cheapestAsGood 19 = .ok (.iload 6, 2) := by decide +kernel
theorem d_K_cheapestAsGood_21 : decode b_K_cheapestAsGood 21 = .ok (.aload_n 0, 1) := by decide +kernel
theorem d_K_cheapestAsGood_22 : decode b_K_cheapestAsGood 22 = .ok (.getfield 18, 3) := by decide +kernel
theorem d_K_cheapestAsGood_25 : decode b_K_cheapestAsGood 25 = .ok (.arraylength, 1) := by decide +kernel
theorem d_K_cheapestAsGood_26 : decode b_K_cheapestAsGood 26 = .ok (.if_icmp .ge 72, 3) := by decide +kernel
theorem d_K_cheapestAsGood_29 : decode b_K_cheapestAsGood 29 = .ok (.aload_n 0, 1) := by decide +kernel
theorem d_K_cheapestAsGood_30 : decode b_K_cheapestAsGood 30 = .ok (.getfield 18, 3) := by decide +kernel
theorem d_K_cheapestAsGood_33 : decode b_K_cheapestAsGood 33 = .ok (.iload 6, 2) := by decide +kernel
theorem d_K_cheapestAsGood_35 : decode b_K_cheapestAsGood 35 = .ok (.baload, 1) := by decide +kernel
theorem d_K_cheapestAsGood_36 : decode b_K_cheapestAsGood 36 = .ok (.ifCond .eq 26, 3) := by decide +kernel
theorem d_K_cheapestAsGood_39 : decode b_K_cheapestAsGood 39 = .ok (.aload_n 0, 1) := by decide +kernel
theorem d_K_cheapestAsGood_40 : decode b_K_cheapestAsGood 40 = .ok (.getfield 22, 3) := by decide +kernel
theorem d_K_cheapestAsGood_43 : decode b_K_cheapestAsGood 43 = .ok (.ifnull 19, 3) := by decide +kernel
theorem d_K_cheapestAsGood_46 : decode b_K_cheapestAsGood 46 = .ok (.aload_n 0, 1) := by decide +kernel
theorem d_K_cheapestAsGood_47 : decode b_K_cheapestAsGood 47 = .ok (.getfield 22, 3) := by decide +kernel
theorem d_K_cheapestAsGood_50 : decode b_K_cheapestAsGood 50 = .ok (.bipush 31, 2) := by decide +kernel
theorem d_K_cheapestAsGood_52 : decode b_K_cheapestAsGood 52 = .ok (.iload_n 1, 1) := by decide +kernel
theorem d_K_cheapestAsGood_53 : decode b_K_cheapestAsGood 53 = .ok (.iload_n 3, 1) := by decide +kernel
theorem d_K_cheapestAsGood_54 : decode b_K_cheapestAsGood 54 = .ok (.iload 6, 2) := by decide +kernel
theorem d_K_cheapestAsGood_56 : decode b_K_cheapestAsGood 56 = .ok (.invokevirtual 26, 3) := by decide +kernel
theorem d_K_cheapestAsGood_59 : decode b_K_cheapestAsGood 59 = .ok (.goto 4, 3) := by decide +kernel
theorem d_K_cheapestAsGood_62 : decode b_K_cheapestAsGood 62 = .ok (.iconst (-1), 1) := by decide +kernel
theorem d_K_cheapestAsGood_63 : decode b_K_cheapestAsGood 63 = .ok (.istore 7, 2) := by decide +kernel
theorem d_K_cheapestAsGood_65 : decode b_K_cheapestAsGood 65 = .ok (.iload 7, 2) := by decide +kernel
theorem d_K_cheapestAsGood_67 : decode b_K_cheapestAsGood 67 = .ok (.iconst (-1), 1) := by decide +kernel
theorem d_K_cheapestAsGood_68 : decode b_K_cheapestAsGood 68 = .ok (.if_icmp .eq 24, 3) := by decide +kernel
theorem d_K_cheapestAsGood_71 : decode b_K_cheapestAsGood 71 = .ok (.iload 4, 2) := by decide +kernel
theorem d_K_cheapestAsGood_73 : decode b_K_cheapestAsGood 73 = .ok (.iconst (-1), 1) := by decide +kernel
theorem d_K_cheapestAsGood_74 : decode b_K_cheapestAsGood 74 = .ok (.if_icmp .eq 10, 3) := by decide +kernel
theorem d_K_cheapestAsGood_77 : decode b_K_cheapestAsGood 77 = .ok (.iload 7, 2) := by decide +kernel
theorem d_K_cheapestAsGood_79 : decode b_K_cheapestAsGood 79 = .ok (.iload 5, 2) := by decide +kernel
theorem d_K_cheapestAsGood_81 : decode b_K_cheapestAsGood 81 = .ok (.if_icmp .ge 11, 3) := by decide +kernel
theorem d_K_cheapestAsGood_84 : decode b_K_cheapestAsGood 84 = .ok (.iload 6, 2) := by decide +kernel
theorem d_K_cheapestAsGood_86 : decode b_K_cheapestAsGood 86 = .ok (.istore 4, 2) := by decide +kernel
theorem d_K_cheapestAsGood_88 : decode b_K_cheapestAsGood 88 = .ok (.iload 7, 2) := by decide +kernel
theorem d_K_cheapestAsGood_90 : decode b_K_cheapestAsGood 90 = .ok (.istore 5, 2) := by decide +kernel
theorem d_K_cheapestAsGood_92 : decode b_K_cheapestAsGood 92 = .ok (.iinc 6 1, 3) := by decide +kernel
theorem d_K_cheapestAsGood_95 : decode b_K_cheapestAsGood 95 = .ok (.goto (-76), 3) := by decide +kernel
theorem d_K_cheapestAsGood_98 : decode b_K_cheapestAsGood 98 = .ok (.iload 4, 2) := by decide +kernel
theorem d_K_cheapestAsGood_100 : decode b_K_cheapestAsGood 100 = .ok (.ireturn, 1) := by decide +kernel
def f_K_choice_48 (this : Nat) (h : Hp) (s0 : Int32) (x4 : Int32) : Option (Int32) :=
  if x4 = (-1 : Int32) then
    some (0 : Int32)
  else
  if s0 = (-1 : Int32) then
    some (0 : Int32)
  else
  if s0 ≤ x4 then
    if x4 ≤ s0 then
      some (1 : Int32)
    else
    some (2 : Int32)
  else
  some (0 : Int32)
set_option maxRecDepth 100000 in
set_option maxHeartbeats 4000000 in
theorem w_K_choice_48 {p : Program} {l : Launch} {e : Env} {s : State} {m : MethodId} {args : Array Value} {below : List Frame} {meth : Method} {c : Code} {N0 : Nat} {D : va_G} {cs : Nat → ClassId} (M : ZC p s m args meth c "YearBaskets$Likes" "choice" b_K_choice 6 (some .int) N0 D cs) (this : Nat) (h : Hp)  {r0 : Int32}  (s0 : Int32) (x4 : Int32) (hf : f_K_choice_48 this h s0 x4 = some r0) : ZG p l e (zrm 3 0 0) s m args below meth c N0 D cs (some (.int r0)) h h 6 [(4, .int x4)] 48 [.int s0] := by
  intro H locs ls hH hS hl
  unfold f_K_choice_48 at hf
  refine lv_istore (lv' := [(5, .int s0), (4, .int x4)]) M.x M.b d_K_choice_48 hl (by decide) rfl (fun ls hl => ?_)
  refine lv_iload M.x M.b d_K_choice_50 (lv_at hl 1 rfl) ?_
  refine lv_iconst (v := (-1 : Int32)) M.x M.b d_K_choice_52 rfl ?_
  refine lv_icmp_eq (tgt := 69) M.x M.b d_K_choice_53 (by decide) (fun c4 => ?_) (fun c4 => ?_)
  · replace hf := z_t c4 hf
    refine lv_iconst (v := (0 : Int32)) M.x M.b d_K_choice_69 rfl ?_
    obtain rfl := z_r1 hf
    exact z_iret M hH hS d_K_choice_70
  · replace hf := z_f c4 hf
    refine lv_iload M.x M.b d_K_choice_56 (lv_at hl 0 rfl) ?_
    refine lv_iconst (v := (-1 : Int32)) M.x M.b d_K_choice_58 rfl ?_
    refine lv_icmp_eq (tgt := 69) M.x M.b d_K_choice_59 (by decide) (fun c3 => ?_) (fun c3 => ?_)
    · replace hf := z_t c3 hf
      refine lv_iconst (v := (0 : Int32)) M.x M.b d_K_choice_69 rfl ?_
      obtain rfl := z_r1 hf
      exact z_iret M hH hS d_K_choice_70
    · replace hf := z_f c3 hf
      refine lv_iload M.x M.b d_K_choice_62 (lv_at hl 1 rfl) ?_
      refine lv_iload M.x M.b d_K_choice_64 (lv_at hl 0 rfl) ?_
      refine lv_icmp_ge (tgt := 71) M.x M.b d_K_choice_66 (by decide) (fun c2 => ?_) (fun c2 => ?_)
      · replace hf := z_t c2 hf
        refine lv_iload M.x M.b d_K_choice_71 (lv_at hl 1 rfl) ?_
        refine lv_iload M.x M.b d_K_choice_73 (lv_at hl 0 rfl) ?_
        refine lv_icmp_le (tgt := 82) M.x M.b d_K_choice_75 (by decide) (fun c1 => ?_) (fun c1 => ?_)
        · replace hf := z_t c1 hf
          refine lv_iconst (v := (1 : Int32)) M.x M.b d_K_choice_82 rfl ?_
          obtain rfl := z_r1 hf
          exact z_iret M hH hS d_K_choice_83
        · replace hf := z_f c1 hf
          refine lv_iconst (v := (2 : Int32)) M.x M.b d_K_choice_78 rfl ?_
          refine lv_goto (tgt := 83) M.x M.b d_K_choice_79 (by decide) ?_
          obtain rfl := z_r1 hf
          exact z_iret M hH hS d_K_choice_83
      · replace hf := z_f c2 hf
        refine lv_iconst (v := (0 : Int32)) M.x M.b d_K_choice_69 rfl ?_
        obtain rfl := z_r1 hf
        exact z_iret M hH hS d_K_choice_70
def f_K_choice_23 (this : Nat) (h : Hp) (s0 : Int32) (x1 : Int32) (x2 : Int32) (x3 : Int32) : Option (Int32) :=
  (gA h this 3 0).bind fun r5 =>
  zm r5 (
    f_K_choice_48 this h (-1 : Int32) s0
  ) fun a7 =>
  (gA h this 3 0).bind fun r8 =>
  (r8).bind fun a10 =>
  (f_B_costOver a10 h (31 : Int32) x1 x2 x3).bind fun i13 =>
  f_K_choice_48 this h i13 s0
set_option maxRecDepth 100000 in
set_option maxHeartbeats 4000000 in
theorem w_K_choice_23 {p : Program} {l : Launch} {e : Env} {s : State} {m : MethodId} {args : Array Value} {below : List Frame} {meth : Method} {c : Code} {N0 : Nat} {D : va_G} {cs : Nat → ClassId} (M : ZC p s m args meth c "YearBaskets$Likes" "choice" b_K_choice 6 (some .int) N0 D cs) (this : Nat) (h : Hp)  {r0 : Int32}  (s0 : Int32) (x1 : Int32) (x2 : Int32) (x3 : Int32) (hf : f_K_choice_23 this h s0 x1 x2 x3 = some r0) : ZG p l e (zrm 3 0 0) s m args below meth c N0 D cs (some (.int r0)) h h 6 [(0, .ref this), (1, .int x1), (2, .int x2), (3, .int x3)] 23 [.int s0] := by
  intro H locs ls hH hS hl
  unfold f_K_choice_23 at hf
  refine lv_istore (lv' := [(4, .int s0), (0, .ref this), (1, .int x1), (2, .int x2), (3, .int x3)]) M.x M.b d_K_choice_23 hl (by decide) rfl (fun ls hl => ?_)
  refine lv_aload_n M.x M.b d_K_choice_25 rfl (lv_at hl 1 rfl) ?_
  replace hf := z_bind hf; obtain ⟨r5, e6, hf⟩ := hf
  refine z_get (ci := 3) (k := 0) M hH rfl (by decide) zinK q_311 (gA_spec e6) d_K_choice_26 ?_
  rcases r5 with _ | a7
  · replace hf := zm_n hf
    refine lv_ifnonnullN M.x M.b d_K_choice_29 ?_
    refine lv_iconst (v := (-1 : Int32)) M.x M.b d_K_choice_32 rfl ?_
    refine lv_goto (tgt := 48) M.x M.b d_K_choice_33 (by decide) ?_
    exact w_K_choice_48 M this h _ _ hf H locs ls hH hS (lv_sub hl [0] rfl)
  · replace hf := zm_s hf
    refine lv_ifnonnull (tgt := 36) M.x M.b d_K_choice_29 (by decide) ?_
    refine lv_aload_n M.x M.b d_K_choice_36 rfl (lv_at hl 1 rfl) ?_
    replace hf := z_bind hf; obtain ⟨r8, e9, hf⟩ := hf
    refine z_get (ci := 3) (k := 0) M hH rfl (by decide) zinK q_311 (gA_spec e9) d_K_choice_37 ?_
    refine lv_bipush (v := (31 : Int32)) M.x M.b d_K_choice_40 rfl ?_
    refine lv_iload_n M.x M.b d_K_choice_42 rfl (lv_at hl 2 rfl) ?_
    refine lv_iload_n M.x M.b d_K_choice_43 rfl (lv_at hl 3 rfl) ?_
    refine lv_iload_n M.x M.b d_K_choice_44 rfl (lv_at hl 4 rfl) ?_
    rcases r8 with _ | a10
    · exact absurd hf z_nb0
    replace hf := z_sb hf
    replace hf := z_bind hf; obtain ⟨i13, e12, hf⟩ := hf
    refine zk_V (ci := 0) (st1 := [.int i13]) M hH hS (c_B_costOver e12) rfl (o_B_costOver e12) w_B_costOver q_310 [] rfl ⟨Nat.le_of_ble_eq_true rfl, Nat.le_of_ble_eq_true rfl⟩ hl.1 rfl rfl (Nat.le_of_ble_eq_true rfl) d_K_choice_45 (fun H locs hH hS => ?_)
    exact w_K_choice_48 M this h _ _ hf H locs ls hH hS (lv_sub hl [0] rfl)
def f_K_choice (this : Nat) (h : Hp) (x1 : Int32) (x2 : Int32) (x3 : Int32) : Option (Int32) :=
  if isO h this 3 = true then
  (gA h this 3 0).bind fun r14 =>
  zm r14 (
    f_K_choice_23 this h (-1 : Int32) x1 x2 x3
  ) fun a16 =>
  (gA h this 3 0).bind fun r17 =>
  (r17).bind fun a19 =>
  (f_B_costOver a19 h (31 : Int32) x1 x2 x2).bind fun i22 =>
  f_K_choice_23 this h i22 x1 x2 x3
  else none
theorem o_K_choice {this : Nat} {h : Hp} {x1 : Int32} {x2 : Int32} {x3 : Int32} {r0 : Int32} (hf : f_K_choice this h x1 x2 x3 = some r0) : isO h this 3 = true := by
  unfold f_K_choice at hf
  exact (z_gd hf).1
set_option maxRecDepth 100000 in
set_option maxHeartbeats 4000000 in
theorem c_K_choice {l : Launch} {N0 : Nat} {D : va_G} {cs : Nat → ClassId} {this : Nat} {h : Hp} {x1 : Int32} {x2 : Int32} {x3 : Int32} {r0 : Int32} (hf : f_K_choice this h x1 x2 x3 = some r0) : Fn l N0 D cs y_K_choice b_K_choice 6 (some .int) 3 0 0 [.ref this, .int x1, .int x2, .int x3] h (some (.int r0)) h := by
  refine z_start (by decide) (Nat.le_of_ble_eq_true rfl) ?_
  intro p e s m args below meth c M hH hS ls hl
  unfold f_K_choice at hf
  obtain ⟨hO, hf⟩ := z_gd hf
  have hl : lv_has ls 6 [(0, .ref this), (1, .int x1), (2, .int x2), (3, .int x3)] := hl
  obtain ⟨H, hHe⟩ : ∃ H, H = s.heap := ⟨_, rfl⟩
  obtain ⟨locs, hLe⟩ : ∃ locs : List Loc, locs = [] := ⟨_, rfl⟩
  have hS : va_S (zA N0) s.heap H locs := by rw [hHe, hLe]; exact hS
  have hH : HH N0 D cs h H := by rw [hHe]; exact hH
  suffices hg : W p l e (zrm 3 0 0) s m args below meth c H locs 0 0 (MQ below (zQ N0 D cs (some (.int r0)) h) args s 0 0 (zA N0)) (F0 m 0 ls []) by rw [hHe, hLe] at hg; exact hg
  clear hHe hLe
  refine lv_aload_n M.x M.b d_K_choice_0 rfl (lv_at hl 0 rfl) ?_
  replace hf := z_bind hf; obtain ⟨r14, e15, hf⟩ := hf
  refine z_get (ci := 3) (k := 0) M hH rfl (by decide) zinK q_311 (gA_spec e15) d_K_choice_1 ?_
  rcases r14 with _ | a16
  · replace hf := zm_n hf
    refine lv_ifnonnullN M.x M.b d_K_choice_4 ?_
    refine lv_iconst (v := (-1 : Int32)) M.x M.b d_K_choice_7 rfl ?_
    refine lv_goto (tgt := 23) M.x M.b d_K_choice_8 (by decide) ?_
    exact w_K_choice_23 M this h _ _ _ _ hf H locs ls hH hS (lv_sub hl [0, 1, 2, 3] rfl)
  · replace hf := zm_s hf
    refine lv_ifnonnull (tgt := 11) M.x M.b d_K_choice_4 (by decide) ?_
    refine lv_aload_n M.x M.b d_K_choice_11 rfl (lv_at hl 0 rfl) ?_
    replace hf := z_bind hf; obtain ⟨r17, e18, hf⟩ := hf
    refine z_get (ci := 3) (k := 0) M hH rfl (by decide) zinK q_311 (gA_spec e18) d_K_choice_12 ?_
    refine lv_bipush (v := (31 : Int32)) M.x M.b d_K_choice_15 rfl ?_
    refine lv_iload_n M.x M.b d_K_choice_17 rfl (lv_at hl 1 rfl) ?_
    refine lv_iload_n M.x M.b d_K_choice_18 rfl (lv_at hl 2 rfl) ?_
    refine lv_iload_n M.x M.b d_K_choice_19 rfl (lv_at hl 2 rfl) ?_
    rcases r17 with _ | a19
    · exact absurd hf z_nb0
    replace hf := z_sb hf
    replace hf := z_bind hf; obtain ⟨i22, e21, hf⟩ := hf
    refine zk_V (ci := 0) (st1 := [.int i22]) M hH hS (c_B_costOver e21) rfl (o_B_costOver e21) w_B_costOver q_310 [] rfl ⟨Nat.le_of_ble_eq_true rfl, Nat.le_of_ble_eq_true rfl⟩ hl.1 rfl rfl (Nat.le_of_ble_eq_true rfl) d_K_choice_20 (fun H locs hH hS => ?_)
    exact w_K_choice_23 M this h _ _ _ _ hf H locs ls hH hS (lv_sub hl [0, 1, 2, 3] rfl)
def t_K_chooseAll_2 (this : Nat) (k2 : Int32 → Int32 → Hp → Option (Hp)) (x1 : Int32) (x2 : Int32) (h : Hp) : Option (Hp) :=
  (gA h this 3 1).bind fun r1 =>
  (r1).bind fun a3 =>
  (aN h a3).bind fun i6 =>
  if i6 ≤ x2 then
    some h
  else
  (gA h this 3 1).bind fun r7 =>
  (r7).bind fun a9 =>
  (f_K_choice this h x1 (x2 / (8 : Int32)) (x2 - x2 / (8 : Int32) * (8 : Int32))).bind fun i12 =>
  (sI h a9 x2 i12).bind fun h14 =>
  k2 x1 (x2 + (1 : Int32)) h14
set_option maxRecDepth 100000 in
set_option maxHeartbeats 4000000 in
theorem v_K_chooseAll_2 {p : Program} {l : Launch} {e : Env} {s : State} {m : MethodId} {args : Array Value} {below : List Frame} {meth : Method} {c : Code} {N0 : Nat} {D : va_G} {cs : Nat → ClassId} (M : ZC p s m args meth c "YearBaskets$Likes" "chooseAll" b_K_chooseAll 3 (none) N0 D cs) (this : Nat) (k2 : Int32 → Int32 → Hp → Option (Hp)) {h0 : Hp} (hk2 : ∀ (x1 : Int32) (x2 : Int32) (h : Hp), k2 x1 x2 h = some h0 → ZG p l e (zrm 4 0 0) s m args below meth c N0 D cs none h0 h 3 [(0, .ref this), (1, .int x1), (2, .int x2)] 2 []) (x1 : Int32) (x2 : Int32) (h : Hp) (hf : t_K_chooseAll_2 this k2 x1 x2 h = some h0) : ZG p l e (zrm 4 0 0) s m args below meth c N0 D cs none h0 h 3 [(0, .ref this), (1, .int x1), (2, .int x2)] 2 [] := by
  intro H locs ls hH hS hl
  unfold t_K_chooseAll_2 at hf
  refine lv_iload_n M.x M.b d_K_chooseAll_2 rfl (lv_at hl 2 rfl) ?_
  refine lv_aload_n M.x M.b d_K_chooseAll_3 rfl (lv_at hl 0 rfl) ?_
  replace hf := z_bind hf; obtain ⟨r1, e2, hf⟩ := hf
  refine z_get (ci := 3) (k := 1) M hH rfl (by decide) zinK q_316 (gA_spec e2) d_K_chooseAll_4 ?_
  rcases r1 with _ | a3
  · exact absurd hf z_nb0
  replace hf := z_sb hf
  replace hf := z_bind hf; obtain ⟨i6, e5, hf⟩ := hf
  refine z_alen M hH e5 d_K_chooseAll_7 ?_
  refine lv_icmp_ge (tgt := 36) M.x M.b d_K_chooseAll_8 (by decide) (fun c15 => ?_) (fun c15 => ?_)
  · replace hf := z_t c15 hf
    obtain rfl := z_r1 hf
    exact z_vret M hH hS d_K_chooseAll_36
  · replace hf := z_f c15 hf
    refine lv_aload_n M.x M.b d_K_chooseAll_11 rfl (lv_at hl 0 rfl) ?_
    replace hf := z_bind hf; obtain ⟨r7, e8, hf⟩ := hf
    refine z_get (ci := 3) (k := 1) M hH rfl (by decide) zinK q_316 (gA_spec e8) d_K_chooseAll_12 ?_
    refine lv_iload_n M.x M.b d_K_chooseAll_15 rfl (lv_at hl 2 rfl) ?_
    refine lv_aload_n M.x M.b d_K_chooseAll_16 rfl (lv_at hl 0 rfl) ?_
    refine lv_iload_n M.x M.b d_K_chooseAll_17 rfl (lv_at hl 1 rfl) ?_
    refine lv_iload_n M.x M.b d_K_chooseAll_18 rfl (lv_at hl 2 rfl) ?_
    refine lv_bipush (v := (8 : Int32)) M.x M.b d_K_chooseAll_19 rfl ?_
    refine lv_idiv M.x M.b d_K_chooseAll_21 (by decide) ?_
    refine lv_iload_n M.x M.b d_K_chooseAll_22 rfl (lv_at hl 2 rfl) ?_
    refine lv_bipush (v := (8 : Int32)) M.x M.b d_K_chooseAll_23 rfl ?_
    refine lv_irem M.x M.b d_K_chooseAll_25 (by decide) ?_
    rcases r7 with _ | a9
    · exact absurd hf z_nb0
    replace hf := z_sb hf
    replace hf := z_bind hf; obtain ⟨i12, e11, hf⟩ := hf
    refine zk_V (ci := 3) (st1 := [.int i12, .int x2, .ref a9]) M hH hS (c_K_choice e11) rfl (o_K_choice e11) w_K_choice q_315 [.int x2, .ref a9] rfl ⟨Nat.le_of_ble_eq_true rfl, Nat.le_of_ble_eq_true rfl⟩ hl.1 rfl rfl (Nat.le_of_ble_eq_true rfl) d_K_chooseAll_26 (fun H locs hH hS => ?_)
    replace hf := z_bind hf; obtain ⟨h14, e13, hf⟩ := hf
    refine z_iast M hH hS e13 d_K_chooseAll_29 (fun H locs hH hS => ?_)
    refine lv_iinc (v := (x2 + (1 : Int32))) (lv' := [(2, .int (x2 + (1 : Int32))), (0, .ref this), (1, .int x1)]) M.x M.b d_K_chooseAll_30 hl (k := 2) rfl rfl (by decide) rfl (fun ls hl => ?_)
    refine lv_goto (tgt := 2) M.x M.b d_K_chooseAll_33 (by decide) ?_
    exact hk2 _ _ _ hf H locs ls hH hS (lv_sub hl [1, 2, 0] rfl)
def f_K_chooseAll_2 (this : Nat) : Nat → Int32 → Int32 → Hp → Option (Hp)
  | 0, _, _, _ => none
  | n + 1, x1, x2, h => t_K_chooseAll_2 this (f_K_chooseAll_2 this n) x1 x2 h
theorem w_K_chooseAll_2 {p : Program} {l : Launch} {e : Env} {s : State} {m : MethodId} {args : Array Value} {below : List Frame} {meth : Method} {c : Code} {N0 : Nat} {D : va_G} {cs : Nat → ClassId} (M : ZC p s m args meth c "YearBaskets$Likes" "chooseAll" b_K_chooseAll 3 (none) N0 D cs) (this : Nat)  {h0 : Hp}  : ∀ (n : Nat) (x1 : Int32) (x2 : Int32) (h : Hp), f_K_chooseAll_2 this n x1 x2 h = some h0 → ZG p l e (zrm 4 0 0) s m args below meth c N0 D cs none h0 h 3 [(0, .ref this), (1, .int x1), (2, .int x2)] 2 [] := by
  intro n
  induction n with
  | zero => intro x1 x2 h hf; exact absurd (show none = some _ from hf) (fun q => by cases q)
  | succ n ih => intro x1 x2 h hf; exact v_K_chooseAll_2 M this (f_K_chooseAll_2 this n)  ih _ _ _ hf
def f_K_chooseAll (this : Nat) (x1 : Int32) (h : Hp) : Option (Hp) :=
  if isO h this 3 = true then
  f_K_chooseAll_2 this FU x1 (0 : Int32) h
  else none
theorem o_K_chooseAll {this : Nat} {x1 : Int32} {h : Hp} {h0 : Hp} (hf : f_K_chooseAll this x1 h = some h0) : isO h this 3 = true := by
  unfold f_K_chooseAll at hf
  exact (z_gd hf).1
set_option maxRecDepth 100000 in
set_option maxHeartbeats 4000000 in
theorem c_K_chooseAll {l : Launch} {N0 : Nat} {D : va_G} {cs : Nat → ClassId} {this : Nat} {x1 : Int32} {h : Hp} {h0 : Hp} (hf : f_K_chooseAll this x1 h = some h0) : Fn l N0 D cs y_K_chooseAll b_K_chooseAll 3 (none) 4 0 0 [.ref this, .int x1] h none h0 := by
  refine z_start (by decide) (Nat.le_of_ble_eq_true rfl) ?_
  intro p e s m args below meth c M hH hS ls hl
  unfold f_K_chooseAll at hf
  obtain ⟨hO, hf⟩ := z_gd hf
  have hl : lv_has ls 3 [(0, .ref this), (1, .int x1)] := hl
  obtain ⟨H, hHe⟩ : ∃ H, H = s.heap := ⟨_, rfl⟩
  obtain ⟨locs, hLe⟩ : ∃ locs : List Loc, locs = [] := ⟨_, rfl⟩
  have hS : va_S (zA N0) s.heap H locs := by rw [hHe, hLe]; exact hS
  have hH : HH N0 D cs h H := by rw [hHe]; exact hH
  suffices hg : W p l e (zrm 4 0 0) s m args below meth c H locs 0 0 (MQ below (zQ N0 D cs none h0) args s 0 0 (zA N0)) (F0 m 0 ls []) by rw [hHe, hLe] at hg; exact hg
  clear hHe hLe
  refine lv_iconst (v := (0 : Int32)) M.x M.b d_K_chooseAll_0 rfl ?_
  refine lv_istore_n (lv' := [(2, .int (0 : Int32)), (0, .ref this), (1, .int x1)]) M.x M.b d_K_chooseAll_1 rfl hl (by decide) rfl (fun ls hl => ?_)
  exact w_K_chooseAll_2 M this FU _ _ _ hf H locs ls hH hS (lv_sub hl [1, 2, 0] rfl)
def f_K_choiceAt (this : Nat) (h : Hp) (x1 : Int32) (x2 : Int32) : Option (Int32) :=
  if isO h this 3 = true then
  (f_Y_isNoYear x1).bind fun i2 =>
  if i2 = 0 then
    (f_Y_isNoYear x2).bind fun i4 =>
    if i4 = 0 then
      (gA h this 3 1).bind fun r5 =>
      (r5).bind fun a7 =>
      (aN h a7).bind fun i10 =>
      if ((x1 * (8 : Int32)) + x2) < i10 then
        (gA h this 3 1).bind fun r11 =>
        (r11).bind fun a13 =>
        (aI h 0 a13 ((x1 * (8 : Int32)) + x2)).bind fun i16 =>
        some i16
      else
      some (0 : Int32)
    else
    some (0 : Int32)
  else
  some (0 : Int32)
  else none
theorem o_K_choiceAt {this : Nat} {h : Hp} {x1 : Int32} {x2 : Int32} {r0 : Int32} (hf : f_K_choiceAt this h x1 x2 = some r0) : isO h this 3 = true := by
  unfold f_K_choiceAt at hf
  exact (z_gd hf).1
set_option maxRecDepth 100000 in
set_option maxHeartbeats 4000000 in
theorem c_K_choiceAt {l : Launch} {N0 : Nat} {D : va_G} {cs : Nat → ClassId} {this : Nat} {h : Hp} {x1 : Int32} {x2 : Int32} {r0 : Int32} (hf : f_K_choiceAt this h x1 x2 = some r0) : Fn l N0 D cs y_K_choiceAt b_K_choiceAt 4 (some .int) 2 0 0 [.ref this, .int x1, .int x2] h (some (.int r0)) h := by
  refine z_start (by decide) (Nat.le_of_ble_eq_true rfl) ?_
  intro p e s m args below meth c M hH hS ls hl
  unfold f_K_choiceAt at hf
  obtain ⟨hO, hf⟩ := z_gd hf
  have hl : lv_has ls 4 [(0, .ref this), (1, .int x1), (2, .int x2)] := hl
  obtain ⟨H, hHe⟩ : ∃ H, H = s.heap := ⟨_, rfl⟩
  obtain ⟨locs, hLe⟩ : ∃ locs : List Loc, locs = [] := ⟨_, rfl⟩
  have hS : va_S (zA N0) s.heap H locs := by rw [hHe, hLe]; exact hS
  have hH : HH N0 D cs h H := by rw [hHe]; exact hH
  suffices hg : W p l e (zrm 2 0 0) s m args below meth c H locs 0 0 (MQ below (zQ N0 D cs (some (.int r0)) h) args s 0 0 (zA N0)) (F0 m 0 ls []) by rw [hHe, hLe] at hg; exact hg
  clear hHe hLe
  refine lv_iload_n M.x M.b d_K_choiceAt_0 rfl (lv_at hl 1 rfl) ?_
  refine lv_bipush (v := (8 : Int32)) M.x M.b d_K_choiceAt_1 rfl ?_
  refine lv_imul M.x M.b d_K_choiceAt_3 ?_
  refine lv_iload_n M.x M.b d_K_choiceAt_4 rfl (lv_at hl 2 rfl) ?_
  refine lv_iadd M.x M.b d_K_choiceAt_5 ?_
  refine lv_istore_n (lv' := [(3, .int ((x1 * (8 : Int32)) + x2)), (0, .ref this), (1, .int x1), (2, .int x2)]) M.x M.b d_K_choiceAt_6 rfl hl (by decide) rfl (fun ls hl => ?_)
  refine lv_iload_n M.x M.b d_K_choiceAt_7 rfl (lv_at hl 2 rfl) ?_
  replace hf := z_bind hf; obtain ⟨i2, e1, hf⟩ := hf
  refine zk_SN (st1 := [.int i2]) M hH hS (c_Y_isNoYear e1) w_Y_isNoYear q_320 [] rfl ⟨Nat.le_of_ble_eq_true rfl, Nat.le_of_ble_eq_true rfl⟩ hl.1 rfl rfl (Nat.le_of_ble_eq_true rfl) d_K_choiceAt_8 (fun H locs hH hS => ?_)
  refine lv_if_ne (tgt := 30) M.x M.b d_K_choiceAt_11 (by decide) (fun c19 => ?_) (fun c19 => ?_)
  · replace hf := z_f c19 hf
    refine lv_iconst (v := (0 : Int32)) M.x M.b d_K_choiceAt_30 rfl ?_
    refine lv_goto (tgt := 40) M.x M.b d_K_choiceAt_31 (by decide) ?_
    obtain rfl := z_r1 hf
    exact z_iret M hH hS d_K_choiceAt_40
  · replace hf := z_t c19 hf
    refine lv_iload_n M.x M.b d_K_choiceAt_14 rfl (lv_at hl 3 rfl) ?_
    replace hf := z_bind hf; obtain ⟨i4, e3, hf⟩ := hf
    refine zk_SN (st1 := [.int i4]) M hH hS (c_Y_isNoYear e3) w_Y_isNoYear q_320 [] rfl ⟨Nat.le_of_ble_eq_true rfl, Nat.le_of_ble_eq_true rfl⟩ hl.1 rfl rfl (Nat.le_of_ble_eq_true rfl) d_K_choiceAt_15 (fun H locs hH hS => ?_)
    refine lv_if_ne (tgt := 30) M.x M.b d_K_choiceAt_18 (by decide) (fun c18 => ?_) (fun c18 => ?_)
    · replace hf := z_f c18 hf
      refine lv_iconst (v := (0 : Int32)) M.x M.b d_K_choiceAt_30 rfl ?_
      refine lv_goto (tgt := 40) M.x M.b d_K_choiceAt_31 (by decide) ?_
      obtain rfl := z_r1 hf
      exact z_iret M hH hS d_K_choiceAt_40
    · replace hf := z_t c18 hf
      refine lv_iload_n M.x M.b d_K_choiceAt_21 rfl (lv_at hl 0 rfl) ?_
      refine lv_aload_n M.x M.b d_K_choiceAt_22 rfl (lv_at hl 1 rfl) ?_
      replace hf := z_bind hf; obtain ⟨r5, e6, hf⟩ := hf
      refine z_get (ci := 3) (k := 1) M hH rfl (by decide) zinK q_316 (gA_spec e6) d_K_choiceAt_23 ?_
      rcases r5 with _ | a7
      · exact absurd hf z_nb0
      replace hf := z_sb hf
      replace hf := z_bind hf; obtain ⟨i10, e9, hf⟩ := hf
      refine z_alen M hH e9 d_K_choiceAt_26 ?_
      refine lv_icmp_lt (tgt := 34) M.x M.b d_K_choiceAt_27 (by decide) (fun c17 => ?_) (fun c17 => ?_)
      · replace hf := z_t c17 hf
        refine lv_aload_n M.x M.b d_K_choiceAt_34 rfl (lv_at hl 1 rfl) ?_
        replace hf := z_bind hf; obtain ⟨r11, e12, hf⟩ := hf
        refine z_get (ci := 3) (k := 1) M hH rfl (by decide) zinK q_316 (gA_spec e12) d_K_choiceAt_35 ?_
        refine lv_iload_n M.x M.b d_K_choiceAt_38 rfl (lv_at hl 0 rfl) ?_
        rcases r11 with _ | a13
        · exact absurd hf z_nb0
        replace hf := z_sb hf
        replace hf := z_bind hf; obtain ⟨i16, e15, hf⟩ := hf
        refine z_iald M hH e15 d_K_choiceAt_39 ?_
        obtain rfl := z_r1 hf
        exact z_iret M hH hS d_K_choiceAt_40
      · replace hf := z_f c17 hf
        refine lv_iconst (v := (0 : Int32)) M.x M.b d_K_choiceAt_30 rfl ?_
        refine lv_goto (tgt := 40) M.x M.b d_K_choiceAt_31 (by decide) ?_
        obtain rfl := z_r1 hf
        exact z_iret M hH hS d_K_choiceAt_40
def f_K_yearInRing (this : Nat) (h : Hp) (x1 : Int32) : Option (Int32) :=
  if isO h this 3 = true then
  if x1 < 0 then
    some (-1 : Int32)
  else
  (gA h this 3 2).bind fun r1 =>
  (r1).bind fun a3 =>
  (aN h a3).bind fun i6 =>
  if x1 < i6 then
    (gA h this 3 2).bind fun r7 =>
    (r7).bind fun a9 =>
    (aI h 0 a9 x1).bind fun i12 =>
    some i12
  else
  some (-1 : Int32)
  else none
theorem o_K_yearInRing {this : Nat} {h : Hp} {x1 : Int32} {r0 : Int32} (hf : f_K_yearInRing this h x1 = some r0) : isO h this 3 = true := by
  unfold f_K_yearInRing at hf
  exact (z_gd hf).1
set_option maxRecDepth 100000 in
set_option maxHeartbeats 4000000 in
theorem c_K_yearInRing {l : Launch} {N0 : Nat} {D : va_G} {cs : Nat → ClassId} {this : Nat} {h : Hp} {x1 : Int32} {r0 : Int32} (hf : f_K_yearInRing this h x1 = some r0) : Fn l N0 D cs y_K_yearInRing b_K_yearInRing 2 (some .int) 1 0 0 [.ref this, .int x1] h (some (.int r0)) h := by
  refine z_start (by decide) (Nat.le_of_ble_eq_true rfl) ?_
  intro p e s m args below meth c M hH hS ls hl
  unfold f_K_yearInRing at hf
  obtain ⟨hO, hf⟩ := z_gd hf
  have hl : lv_has ls 2 [(0, .ref this), (1, .int x1)] := hl
  obtain ⟨H, hHe⟩ : ∃ H, H = s.heap := ⟨_, rfl⟩
  obtain ⟨locs, hLe⟩ : ∃ locs : List Loc, locs = [] := ⟨_, rfl⟩
  have hS : va_S (zA N0) s.heap H locs := by rw [hHe, hLe]; exact hS
  have hH : HH N0 D cs h H := by rw [hHe]; exact hH
  suffices hg : W p l e (zrm 1 0 0) s m args below meth c H locs 0 0 (MQ below (zQ N0 D cs (some (.int r0)) h) args s 0 0 (zA N0)) (F0 m 0 ls []) by rw [hHe, hLe] at hg; exact hg
  clear hHe hLe
  refine lv_iload_n M.x M.b d_K_yearInRing_0 rfl (lv_at hl 1 rfl) ?_
  refine lv_if_lt (tgt := 13) M.x M.b d_K_yearInRing_1 (by decide) (fun c14 => ?_) (fun c14 => ?_)
  · replace hf := z_t c14 hf
    refine lv_iconst (v := (-1 : Int32)) M.x M.b d_K_yearInRing_13 rfl ?_
    refine lv_goto (tgt := 23) M.x M.b d_K_yearInRing_14 (by decide) ?_
    obtain rfl := z_r1 hf
    exact z_iret M hH hS d_K_yearInRing_23
  · replace hf := z_f c14 hf
    refine lv_iload_n M.x M.b d_K_yearInRing_4 rfl (lv_at hl 1 rfl) ?_
    refine lv_aload_n M.x M.b d_K_yearInRing_5 rfl (lv_at hl 0 rfl) ?_
    replace hf := z_bind hf; obtain ⟨r1, e2, hf⟩ := hf
    refine z_get (ci := 3) (k := 2) M hH rfl (by decide) zinK q_324 (gA_spec e2) d_K_yearInRing_6 ?_
    rcases r1 with _ | a3
    · exact absurd hf z_nb0
    replace hf := z_sb hf
    replace hf := z_bind hf; obtain ⟨i6, e5, hf⟩ := hf
    refine z_alen M hH e5 d_K_yearInRing_9 ?_
    refine lv_icmp_lt (tgt := 17) M.x M.b d_K_yearInRing_10 (by decide) (fun c13 => ?_) (fun c13 => ?_)
    · replace hf := z_t c13 hf
      refine lv_aload_n M.x M.b d_K_yearInRing_17 rfl (lv_at hl 0 rfl) ?_
      replace hf := z_bind hf; obtain ⟨r7, e8, hf⟩ := hf
      refine z_get (ci := 3) (k := 2) M hH rfl (by decide) zinK q_324 (gA_spec e8) d_K_yearInRing_18 ?_
      refine lv_iload_n M.x M.b d_K_yearInRing_21 rfl (lv_at hl 1 rfl) ?_
      rcases r7 with _ | a9
      · exact absurd hf z_nb0
      replace hf := z_sb hf
      replace hf := z_bind hf; obtain ⟨i12, e11, hf⟩ := hf
      refine z_iald M hH e11 d_K_yearInRing_22 ?_
      obtain rfl := z_r1 hf
      exact z_iret M hH hS d_K_yearInRing_23
    · replace hf := z_f c13 hf
      refine lv_iconst (v := (-1 : Int32)) M.x M.b d_K_yearInRing_13 rfl ?_
      refine lv_goto (tgt := 23) M.x M.b d_K_yearInRing_14 (by decide) ?_
      obtain rfl := z_r1 hf
      exact z_iret M hH hS d_K_yearInRing_23
def f_K_setYearInRing (this : Nat) (x1 : Int32) (x2 : Int32) (h : Hp) : Option (Hp) :=
  if isO h this 3 = true then
  if x1 < 0 then
    some h
  else
  (gA h this 3 2).bind fun r1 =>
  (r1).bind fun a3 =>
  (aN h a3).bind fun i6 =>
  if i6 ≤ x1 then
    some h
  else
  (gA h this 3 2).bind fun r7 =>
  (r7).bind fun a9 =>
  (sI h a9 x1 x2).bind fun h12 =>
  some h12
  else none
theorem o_K_setYearInRing {this : Nat} {x1 : Int32} {x2 : Int32} {h : Hp} {h0 : Hp} (hf : f_K_setYearInRing this x1 x2 h = some h0) : isO h this 3 = true := by
  unfold f_K_setYearInRing at hf
  exact (z_gd hf).1
set_option maxRecDepth 100000 in
set_option maxHeartbeats 4000000 in
theorem c_K_setYearInRing {l : Launch} {N0 : Nat} {D : va_G} {cs : Nat → ClassId} {this : Nat} {x1 : Int32} {x2 : Int32} {h : Hp} {h0 : Hp} (hf : f_K_setYearInRing this x1 x2 h = some h0) : Fn l N0 D cs y_K_setYearInRing b_K_setYearInRing 3 (none) 1 0 0 [.ref this, .int x1, .int x2] h none h0 := by
  refine z_start (by decide) (Nat.le_of_ble_eq_true rfl) ?_
  intro p e s m args below meth c M hH hS ls hl
  unfold f_K_setYearInRing at hf
  obtain ⟨hO, hf⟩ := z_gd hf
  have hl : lv_has ls 3 [(0, .ref this), (1, .int x1), (2, .int x2)] := hl
  obtain ⟨H, hHe⟩ : ∃ H, H = s.heap := ⟨_, rfl⟩
  obtain ⟨locs, hLe⟩ : ∃ locs : List Loc, locs = [] := ⟨_, rfl⟩
  have hS : va_S (zA N0) s.heap H locs := by rw [hHe, hLe]; exact hS
  have hH : HH N0 D cs h H := by rw [hHe]; exact hH
  suffices hg : W p l e (zrm 1 0 0) s m args below meth c H locs 0 0 (MQ below (zQ N0 D cs none h0) args s 0 0 (zA N0)) (F0 m 0 ls []) by rw [hHe, hLe] at hg; exact hg
  clear hHe hLe
  refine lv_iload_n M.x M.b d_K_setYearInRing_0 rfl (lv_at hl 1 rfl) ?_
  refine lv_if_lt (tgt := 20) M.x M.b d_K_setYearInRing_1 (by decide) (fun c14 => ?_) (fun c14 => ?_)
  · replace hf := z_t c14 hf
    obtain rfl := z_r1 hf
    exact z_vret M hH hS d_K_setYearInRing_20
  · replace hf := z_f c14 hf
    refine lv_iload_n M.x M.b d_K_setYearInRing_4 rfl (lv_at hl 1 rfl) ?_
    refine lv_aload_n M.x M.b d_K_setYearInRing_5 rfl (lv_at hl 0 rfl) ?_
    replace hf := z_bind hf; obtain ⟨r1, e2, hf⟩ := hf
    refine z_get (ci := 3) (k := 2) M hH rfl (by decide) zinK q_324 (gA_spec e2) d_K_setYearInRing_6 ?_
    rcases r1 with _ | a3
    · exact absurd hf z_nb0
    replace hf := z_sb hf
    replace hf := z_bind hf; obtain ⟨i6, e5, hf⟩ := hf
    refine z_alen M hH e5 d_K_setYearInRing_9 ?_
    refine lv_icmp_ge (tgt := 20) M.x M.b d_K_setYearInRing_10 (by decide) (fun c13 => ?_) (fun c13 => ?_)
    · replace hf := z_t c13 hf
      obtain rfl := z_r1 hf
      exact z_vret M hH hS d_K_setYearInRing_20
    · replace hf := z_f c13 hf
      refine lv_aload_n M.x M.b d_K_setYearInRing_13 rfl (lv_at hl 0 rfl) ?_
      replace hf := z_bind hf; obtain ⟨r7, e8, hf⟩ := hf
      refine z_get (ci := 3) (k := 2) M hH rfl (by decide) zinK q_324 (gA_spec e8) d_K_setYearInRing_14 ?_
      refine lv_iload_n M.x M.b d_K_setYearInRing_17 rfl (lv_at hl 1 rfl) ?_
      refine lv_iload_n M.x M.b d_K_setYearInRing_18 rfl (lv_at hl 2 rfl) ?_
      rcases r7 with _ | a9
      · exact absurd hf z_nb0
      replace hf := z_sb hf
      replace hf := z_bind hf; obtain ⟨h12, e11, hf⟩ := hf
      refine z_iast M hH hS e11 d_K_setYearInRing_19 (fun H locs hH hS => ?_)
      obtain rfl := z_r1 hf
      exact z_vret M hH hS d_K_setYearInRing_20
def f_K_findAsGood_111 (this : Nat) (k35 : Int32 → Hp → Option (Hp)) (k43 : Int32 → Int32 → Hp → Option (Hp)) (x2 : Int32) (x3 : Int32) (h : Hp) : Option (Hp) :=
  k43 x2 (x3 + (1 : Int32)) h
set_option maxRecDepth 100000 in
set_option maxHeartbeats 4000000 in
theorem w_K_findAsGood_111 {p : Program} {l : Launch} {e : Env} {s : State} {m : MethodId} {args : Array Value} {below : List Frame} {meth : Method} {c : Code} {N0 : Nat} {D : va_G} {cs : Nat → ClassId} (M : ZC p s m args meth c "YearBaskets$Likes" "findAsGood" b_K_findAsGood 5 (none) N0 D cs) (this : Nat) (k35 : Int32 → Hp → Option (Hp)) (k43 : Int32 → Int32 → Hp → Option (Hp)) {h0 : Hp} (hk35 : ∀ (x2 : Int32) (h : Hp), k35 x2 h = some h0 → ZG p l e (zrm 3 0 0) s m args below meth c N0 D cs none h0 h 5 [(0, .ref this), (2, .int x2)] 35 []) (hk43 : ∀ (x2 : Int32) (x3 : Int32) (h : Hp), k43 x2 x3 h = some h0 → ZG p l e (zrm 3 0 0) s m args below meth c N0 D cs none h0 h 5 [(0, .ref this), (2, .int x2), (3, .int x3)] 43 []) (x2 : Int32) (x3 : Int32) (h : Hp) (hf : f_K_findAsGood_111 this k35 k43 x2 x3 h = some h0) : ZG p l e (zrm 3 0 0) s m args below meth c N0 D cs none h0 h 5 [(0, .ref this), (2, .int x2), (3, .int x3)] 111 [] := by
  intro H locs ls hH hS hl
  unfold f_K_findAsGood_111 at hf
  refine lv_iinc (v := (x3 + (1 : Int32))) (lv' := [(3, .int (x3 + (1 : Int32))), (0, .ref this), (2, .int x2)]) M.x M.b d_K_findAsGood_111 hl (k := 2) rfl rfl (by decide) rfl (fun ls hl => ?_)
  refine lv_goto (tgt := 43) M.x M.b d_K_findAsGood_114 (by decide) ?_
  exact hk43 _ _ _ hf H locs ls hH hS (lv_sub hl [1, 2, 0] rfl)
def f_K_findAsGood_104 (this : Nat) (k35 : Int32 → Hp → Option (Hp)) (k43 : Int32 → Int32 → Hp → Option (Hp)) (k55 : Int32 → Int32 → Int32 → Hp → Option (Hp)) (s0 : Nat) (s1 : Int32) (s2 : Int32) (x2 : Int32) (x3 : Int32) (x4 : Int32) (h : Hp) : Option (Hp) :=
  (sZ h s0 s1 s2).bind fun h2 =>
  k55 x2 x3 (x4 + (1 : Int32)) h2
set_option maxRecDepth 100000 in
set_option maxHeartbeats 4000000 in
theorem w_K_findAsGood_104 {p : Program} {l : Launch} {e : Env} {s : State} {m : MethodId} {args : Array Value} {below : List Frame} {meth : Method} {c : Code} {N0 : Nat} {D : va_G} {cs : Nat → ClassId} (M : ZC p s m args meth c "YearBaskets$Likes" "findAsGood" b_K_findAsGood 5 (none) N0 D cs) (this : Nat) (k35 : Int32 → Hp → Option (Hp)) (k43 : Int32 → Int32 → Hp → Option (Hp)) (k55 : Int32 → Int32 → Int32 → Hp → Option (Hp)) {h0 : Hp} (hk35 : ∀ (x2 : Int32) (h : Hp), k35 x2 h = some h0 → ZG p l e (zrm 3 0 0) s m args below meth c N0 D cs none h0 h 5 [(0, .ref this), (2, .int x2)] 35 []) (hk43 : ∀ (x2 : Int32) (x3 : Int32) (h : Hp), k43 x2 x3 h = some h0 → ZG p l e (zrm 3 0 0) s m args below meth c N0 D cs none h0 h 5 [(0, .ref this), (2, .int x2), (3, .int x3)] 43 []) (hk55 : ∀ (x2 : Int32) (x3 : Int32) (x4 : Int32) (h : Hp), k55 x2 x3 x4 h = some h0 → ZG p l e (zrm 3 0 0) s m args below meth c N0 D cs none h0 h 5 [(0, .ref this), (2, .int x2), (3, .int x3), (4, .int x4)] 55 []) (s0 : Nat) (s1 : Int32) (s2 : Int32) (x2 : Int32) (x3 : Int32) (x4 : Int32) (h : Hp) (hf : f_K_findAsGood_104 this k35 k43 k55 s0 s1 s2 x2 x3 x4 h = some h0) : ZG p l e (zrm 3 0 0) s m args below meth c N0 D cs none h0 h 5 [(0, .ref this), (2, .int x2), (3, .int x3), (4, .int x4)] 104 [.int s2, .int s1, .ref s0] := by
  intro H locs ls hH hS hl
  unfold f_K_findAsGood_104 at hf
  replace hf := z_bind hf; obtain ⟨h2, e1, hf⟩ := hf
  refine z_zast M hH hS e1 d_K_findAsGood_104 (fun H locs hH hS => ?_)
  refine lv_iinc (v := (x4 + (1 : Int32))) (lv' := [(4, .int (x4 + (1 : Int32))), (0, .ref this), (2, .int x2), (3, .int x3)]) M.x M.b d_K_findAsGood_105 hl (k := 3) rfl rfl (by decide) rfl (fun ls hl => ?_)
  refine lv_goto (tgt := 55) M.x M.b d_K_findAsGood_108 (by decide) ?_
  exact hk55 _ _ _ _ hf H locs ls hH hS (lv_sub hl [1, 2, 3, 0] rfl)
def f_K_findAsGood_103 (this : Nat) (k35 : Int32 → Hp → Option (Hp)) (k43 : Int32 → Int32 → Hp → Option (Hp)) (k55 : Int32 → Int32 → Int32 → Hp → Option (Hp)) (s0 : Nat) (s1 : Int32) (x2 : Int32) (x3 : Int32) (x4 : Int32) (h : Hp) : Option (Hp) :=
  f_K_findAsGood_104 this k35 k43 k55 s0 s1 (0 : Int32) x2 x3 x4 h
set_option maxRecDepth 100000 in
set_option maxHeartbeats 4000000 in
theorem w_K_findAsGood_103 {p : Program} {l : Launch} {e : Env} {s : State} {m : MethodId} {args : Array Value} {below : List Frame} {meth : Method} {c : Code} {N0 : Nat} {D : va_G} {cs : Nat → ClassId} (M : ZC p s m args meth c "YearBaskets$Likes" "findAsGood" b_K_findAsGood 5 (none) N0 D cs) (this : Nat) (k35 : Int32 → Hp → Option (Hp)) (k43 : Int32 → Int32 → Hp → Option (Hp)) (k55 : Int32 → Int32 → Int32 → Hp → Option (Hp)) {h0 : Hp} (hk35 : ∀ (x2 : Int32) (h : Hp), k35 x2 h = some h0 → ZG p l e (zrm 3 0 0) s m args below meth c N0 D cs none h0 h 5 [(0, .ref this), (2, .int x2)] 35 []) (hk43 : ∀ (x2 : Int32) (x3 : Int32) (h : Hp), k43 x2 x3 h = some h0 → ZG p l e (zrm 3 0 0) s m args below meth c N0 D cs none h0 h 5 [(0, .ref this), (2, .int x2), (3, .int x3)] 43 []) (hk55 : ∀ (x2 : Int32) (x3 : Int32) (x4 : Int32) (h : Hp), k55 x2 x3 x4 h = some h0 → ZG p l e (zrm 3 0 0) s m args below meth c N0 D cs none h0 h 5 [(0, .ref this), (2, .int x2), (3, .int x3), (4, .int x4)] 55 []) (s0 : Nat) (s1 : Int32) (x2 : Int32) (x3 : Int32) (x4 : Int32) (h : Hp) (hf : f_K_findAsGood_103 this k35 k43 k55 s0 s1 x2 x3 x4 h = some h0) : ZG p l e (zrm 3 0 0) s m args below meth c N0 D cs none h0 h 5 [(0, .ref this), (2, .int x2), (3, .int x3), (4, .int x4)] 103 [.int s1, .ref s0] := by
  intro H locs ls hH hS hl
  unfold f_K_findAsGood_103 at hf
  refine lv_iconst (v := (0 : Int32)) M.x M.b d_K_findAsGood_103 rfl ?_
  exact w_K_findAsGood_104 M this k35 k43 k55 hk35 hk43 hk55 _ _ _ _ _ _ _ hf H locs ls hH hS (lv_sub hl [0, 1, 2, 3] rfl)
def t_K_findAsGood_55 (this : Nat) (k35 : Int32 → Hp → Option (Hp)) (k43 : Int32 → Int32 → Hp → Option (Hp)) (k55 : Int32 → Int32 → Int32 → Hp → Option (Hp)) (x2 : Int32) (x3 : Int32) (x4 : Int32) (h : Hp) : Option (Hp) :=
  (gA h this 3 3).bind fun r3 =>
  (r3).bind fun a5 =>
  (aN h a5).bind fun i8 =>
  if i8 ≤ x4 then
    f_K_findAsGood_111 this k35 k43 x2 x3 h
  else
  (gA h this 3 3).bind fun r9 =>
  (r9).bind fun a11 =>
  (aI h 2 a11 x3).bind fun i14 =>
  if i14 = 0 then
    (gA h this 3 3).bind fun r15 =>
    (gA h this 3 3).bind fun r17 =>
    (r17).bind fun a19 =>
    (aI h 2 a19 x4).bind fun i22 =>
    if i22 = 0 then
      (r15).bind fun a23 =>
      f_K_findAsGood_103 this k35 k43 k55 a23 x3 x2 x3 x4 h
    else
    (r15).bind fun a25 =>
    (f_K_choiceAt this h x3 x4).bind fun i28 =>
    if i28 ≤ 0 then
      f_K_findAsGood_103 this k35 k43 k55 a25 x3 x2 x3 x4 h
    else
    f_K_findAsGood_104 this k35 k43 k55 a25 x3 (1 : Int32) x2 x3 x4 h
  else
  f_K_findAsGood_111 this k35 k43 x2 x3 h
set_option maxRecDepth 100000 in
set_option maxHeartbeats 4000000 in
theorem v_K_findAsGood_55 {p : Program} {l : Launch} {e : Env} {s : State} {m : MethodId} {args : Array Value} {below : List Frame} {meth : Method} {c : Code} {N0 : Nat} {D : va_G} {cs : Nat → ClassId} (M : ZC p s m args meth c "YearBaskets$Likes" "findAsGood" b_K_findAsGood 5 (none) N0 D cs) (this : Nat) (k35 : Int32 → Hp → Option (Hp)) (k43 : Int32 → Int32 → Hp → Option (Hp)) (k55 : Int32 → Int32 → Int32 → Hp → Option (Hp)) {h0 : Hp} (hk35 : ∀ (x2 : Int32) (h : Hp), k35 x2 h = some h0 → ZG p l e (zrm 3 0 0) s m args below meth c N0 D cs none h0 h 5 [(0, .ref this), (2, .int x2)] 35 []) (hk43 : ∀ (x2 : Int32) (x3 : Int32) (h : Hp), k43 x2 x3 h = some h0 → ZG p l e (zrm 3 0 0) s m args below meth c N0 D cs none h0 h 5 [(0, .ref this), (2, .int x2), (3, .int x3)] 43 []) (hk55 : ∀ (x2 : Int32) (x3 : Int32) (x4 : Int32) (h : Hp), k55 x2 x3 x4 h = some h0 → ZG p l e (zrm 3 0 0) s m args below meth c N0 D cs none h0 h 5 [(0, .ref this), (2, .int x2), (3, .int x3), (4, .int x4)] 55 []) (x2 : Int32) (x3 : Int32) (x4 : Int32) (h : Hp) (hf : t_K_findAsGood_55 this k35 k43 k55 x2 x3 x4 h = some h0) : ZG p l e (zrm 3 0 0) s m args below meth c N0 D cs none h0 h 5 [(0, .ref this), (2, .int x2), (3, .int x3), (4, .int x4)] 55 [] := by
  intro H locs ls hH hS hl
  unfold t_K_findAsGood_55 at hf
  refine lv_iload M.x M.b d_K_findAsGood_55 (lv_at hl 3 rfl) ?_
  refine lv_aload_n M.x M.b d_K_findAsGood_57 rfl (lv_at hl 0 rfl) ?_
  replace hf := z_bind hf; obtain ⟨r3, e4, hf⟩ := hf
  refine z_get (ci := 3) (k := 3) M hH rfl (by decide) zinK q_332 (gA_spec e4) d_K_findAsGood_58 ?_
  rcases r3 with _ | a5
  · exact absurd hf z_nb0
  replace hf := z_sb hf
  replace hf := z_bind hf; obtain ⟨i8, e7, hf⟩ := hf
  refine z_alen M hH e7 d_K_findAsGood_61 ?_
  refine lv_icmp_ge (tgt := 111) M.x M.b d_K_findAsGood_62 (by decide) (fun c32 => ?_) (fun c32 => ?_)
  · replace hf := z_t c32 hf
    exact w_K_findAsGood_111 M this k35 k43 hk35 hk43 _ _ _ hf H locs ls hH hS (lv_sub hl [0, 1, 2] rfl)
  · replace hf := z_f c32 hf
    refine lv_aload_n M.x M.b d_K_findAsGood_65 rfl (lv_at hl 0 rfl) ?_
    replace hf := z_bind hf; obtain ⟨r9, e10, hf⟩ := hf
    refine z_get (ci := 3) (k := 3) M hH rfl (by decide) zinK q_332 (gA_spec e10) d_K_findAsGood_66 ?_
    refine lv_iload_n M.x M.b d_K_findAsGood_69 rfl (lv_at hl 2 rfl) ?_
    rcases r9 with _ | a11
    · exact absurd hf z_nb0
    replace hf := z_sb hf
    replace hf := z_bind hf; obtain ⟨i14, e13, hf⟩ := hf
    refine z_zald M hH e13 d_K_findAsGood_70 ?_
    refine lv_if_ne (tgt := 111) M.x M.b d_K_findAsGood_71 (by decide) (fun c31 => ?_) (fun c31 => ?_)
    · replace hf := z_f c31 hf
      exact w_K_findAsGood_111 M this k35 k43 hk35 hk43 _ _ _ hf H locs ls hH hS (lv_sub hl [0, 1, 2] rfl)
    · replace hf := z_t c31 hf
      refine lv_aload_n M.x M.b d_K_findAsGood_74 rfl (lv_at hl 0 rfl) ?_
      replace hf := z_bind hf; obtain ⟨r15, e16, hf⟩ := hf
      refine z_get (ci := 3) (k := 3) M hH rfl (by decide) zinK q_332 (gA_spec e16) d_K_findAsGood_75 ?_
      refine lv_iload_n M.x M.b d_K_findAsGood_78 rfl (lv_at hl 2 rfl) ?_
      refine lv_aload_n M.x M.b d_K_findAsGood_79 rfl (lv_at hl 0 rfl) ?_
      replace hf := z_bind hf; obtain ⟨r17, e18, hf⟩ := hf
      refine z_get (ci := 3) (k := 3) M hH rfl (by decide) zinK q_332 (gA_spec e18) d_K_findAsGood_80 ?_
      refine lv_iload M.x M.b d_K_findAsGood_83 (lv_at hl 3 rfl) ?_
      rcases r17 with _ | a19
      · exact absurd hf z_nb0
      replace hf := z_sb hf
      replace hf := z_bind hf; obtain ⟨i22, e21, hf⟩ := hf
      refine z_zald M hH e21 d_K_findAsGood_85 ?_
      refine lv_if_eq (tgt := 103) M.x M.b d_K_findAsGood_86 (by decide) (fun c30 => ?_) (fun c30 => ?_)
      · replace hf := z_t c30 hf
        rcases r15 with _ | a23
        · exact absurd hf z_nb0
        replace hf := z_sb hf
        exact w_K_findAsGood_103 M this k35 k43 k55 hk35 hk43 hk55 _ _ _ _ _ _ hf H locs ls hH hS (lv_sub hl [0, 1, 2, 3] rfl)
      · replace hf := z_f c30 hf
        refine lv_aload_n M.x M.b d_K_findAsGood_89 rfl (lv_at hl 0 rfl) ?_
        refine lv_iload_n M.x M.b d_K_findAsGood_90 rfl (lv_at hl 2 rfl) ?_
        refine lv_iload M.x M.b d_K_findAsGood_91 (lv_at hl 3 rfl) ?_
        rcases r15 with _ | a25
        · exact absurd hf z_nb0
        replace hf := z_sb hf
        replace hf := z_bind hf; obtain ⟨i28, e27, hf⟩ := hf
        refine zk_V (ci := 3) (st1 := [.int i28, .int x3, .ref a25]) M hH hS (c_K_choiceAt e27) rfl (o_K_choiceAt e27) w_K_choiceAt q_331 [.int x3, .ref a25] rfl ⟨Nat.le_of_ble_eq_true rfl, Nat.le_of_ble_eq_true rfl⟩ hl.1 rfl rfl (Nat.le_of_ble_eq_true rfl) d_K_findAsGood_93 (fun H locs hH hS => ?_)
        refine lv_if_le (tgt := 103) M.x M.b d_K_findAsGood_96 (by decide) (fun c29 => ?_) (fun c29 => ?_)
        · replace hf := z_t c29 hf
          exact w_K_findAsGood_103 M this k35 k43 k55 hk35 hk43 hk55 _ _ _ _ _ _ hf H locs ls hH hS (lv_sub hl [0, 1, 2, 3] rfl)
        · replace hf := z_f c29 hf
          refine lv_iconst (v := (1 : Int32)) M.x M.b d_K_findAsGood_99 rfl ?_
          refine lv_goto (tgt := 104) M.x M.b d_K_findAsGood_100 (by decide) ?_
          exact w_K_findAsGood_104 M this k35 k43 k55 hk35 hk43 hk55 _ _ _ _ _ _ _ hf H locs ls hH hS (lv_sub hl [0, 1, 2, 3] rfl)
def f_K_findAsGood_55 (this : Nat) (k35 : Int32 → Hp → Option (Hp)) (k43 : Int32 → Int32 → Hp → Option (Hp)) : Nat → Int32 → Int32 → Int32 → Hp → Option (Hp)
  | 0, _, _, _, _ => none
  | n + 1, x2, x3, x4, h => t_K_findAsGood_55 this k35 k43 (f_K_findAsGood_55 this k35 k43 n) x2 x3 x4 h
theorem w_K_findAsGood_55 {p : Program} {l : Launch} {e : Env} {s : State} {m : MethodId} {args : Array Value} {below : List Frame} {meth : Method} {c : Code} {N0 : Nat} {D : va_G} {cs : Nat → ClassId} (M : ZC p s m args meth c "YearBaskets$Likes" "findAsGood" b_K_findAsGood 5 (none) N0 D cs) (this : Nat) (k35 : Int32 → Hp → Option (Hp)) (k43 : Int32 → Int32 → Hp → Option (Hp)) {h0 : Hp} (hk35 : ∀ (x2 : Int32) (h : Hp), k35 x2 h = some h0 → ZG p l e (zrm 3 0 0) s m args below meth c N0 D cs none h0 h 5 [(0, .ref this), (2, .int x2)] 35 []) (hk43 : ∀ (x2 : Int32) (x3 : Int32) (h : Hp), k43 x2 x3 h = some h0 → ZG p l e (zrm 3 0 0) s m args below meth c N0 D cs none h0 h 5 [(0, .ref this), (2, .int x2), (3, .int x3)] 43 []) : ∀ (n : Nat) (x2 : Int32) (x3 : Int32) (x4 : Int32) (h : Hp), f_K_findAsGood_55 this k35 k43 n x2 x3 x4 h = some h0 → ZG p l e (zrm 3 0 0) s m args below meth c N0 D cs none h0 h 5 [(0, .ref this), (2, .int x2), (3, .int x3), (4, .int x4)] 55 [] := by
  intro n
  induction n with
  | zero => intro x2 x3 x4 h hf; exact absurd (show none = some _ from hf) (fun q => by cases q)
  | succ n ih => intro x2 x3 x4 h hf; exact v_K_findAsGood_55 M this k35 k43 (f_K_findAsGood_55 this k35 k43 n) hk35 hk43 ih _ _ _ _ hf
def t_K_findAsGood_43 (this : Nat) (k35 : Int32 → Hp → Option (Hp)) (k43 : Int32 → Int32 → Hp → Option (Hp)) (x2 : Int32) (x3 : Int32) (h : Hp) : Option (Hp) :=
  (gA h this 3 3).bind fun r33 =>
  (r33).bind fun a35 =>
  (aN h a35).bind fun i38 =>
  if i38 ≤ x3 then
    k35 (x2 + (1 : Int32)) h
  else
  f_K_findAsGood_55 this k35 k43 FU x2 x3 (0 : Int32) h
set_option maxRecDepth 100000 in
set_option maxHeartbeats 4000000 in
theorem v_K_findAsGood_43 {p : Program} {l : Launch} {e : Env} {s : State} {m : MethodId} {args : Array Value} {below : List Frame} {meth : Method} {c : Code} {N0 : Nat} {D : va_G} {cs : Nat → ClassId} (M : ZC p s m args meth c "YearBaskets$Likes" "findAsGood" b_K_findAsGood 5 (none) N0 D cs) (this : Nat) (k35 : Int32 → Hp → Option (Hp)) (k43 : Int32 → Int32 → Hp → Option (Hp)) {h0 : Hp} (hk35 : ∀ (x2 : Int32) (h : Hp), k35 x2 h = some h0 → ZG p l e (zrm 3 0 0) s m args below meth c N0 D cs none h0 h 5 [(0, .ref this), (2, .int x2)] 35 []) (hk43 : ∀ (x2 : Int32) (x3 : Int32) (h : Hp), k43 x2 x3 h = some h0 → ZG p l e (zrm 3 0 0) s m args below meth c N0 D cs none h0 h 5 [(0, .ref this), (2, .int x2), (3, .int x3)] 43 []) (x2 : Int32) (x3 : Int32) (h : Hp) (hf : t_K_findAsGood_43 this k35 k43 x2 x3 h = some h0) : ZG p l e (zrm 3 0 0) s m args below meth c N0 D cs none h0 h 5 [(0, .ref this), (2, .int x2), (3, .int x3)] 43 [] := by
  intro H locs ls hH hS hl
  unfold t_K_findAsGood_43 at hf
  refine lv_iload_n M.x M.b d_K_findAsGood_43 rfl (lv_at hl 2 rfl) ?_
  refine lv_aload_n M.x M.b d_K_findAsGood_44 rfl (lv_at hl 0 rfl) ?_
  replace hf := z_bind hf; obtain ⟨r33, e34, hf⟩ := hf
  refine z_get (ci := 3) (k := 3) M hH rfl (by decide) zinK q_332 (gA_spec e34) d_K_findAsGood_45 ?_
  rcases r33 with _ | a35
  · exact absurd hf z_nb0
  replace hf := z_sb hf
  replace hf := z_bind hf; obtain ⟨i38, e37, hf⟩ := hf
  refine z_alen M hH e37 d_K_findAsGood_48 ?_
  refine lv_icmp_ge (tgt := 117) M.x M.b d_K_findAsGood_49 (by decide) (fun c39 => ?_) (fun c39 => ?_)
  · replace hf := z_t c39 hf
    refine lv_iinc (v := (x2 + (1 : Int32))) (lv' := [(2, .int (x2 + (1 : Int32))), (0, .ref this), (3, .int x3)]) M.x M.b d_K_findAsGood_117 hl (k := 1) rfl rfl (by decide) rfl (fun ls hl => ?_)
    refine lv_goto (tgt := 35) M.x M.b d_K_findAsGood_120 (by decide) ?_
    exact hk35 _ _ hf H locs ls hH hS (lv_sub hl [1, 0] rfl)
  · replace hf := z_f c39 hf
    refine lv_iconst (v := (0 : Int32)) M.x M.b d_K_findAsGood_52 rfl ?_
    refine lv_istore (lv' := [(4, .int (0 : Int32)), (0, .ref this), (2, .int x2), (3, .int x3)]) M.x M.b d_K_findAsGood_53 hl (by decide) rfl (fun ls hl => ?_)
    exact w_K_findAsGood_55 M this k35 k43 hk35 hk43 FU _ _ _ _ hf H locs ls hH hS (lv_sub hl [1, 2, 3, 0] rfl)
def f_K_findAsGood_43 (this : Nat) (k35 : Int32 → Hp → Option (Hp)) : Nat → Int32 → Int32 → Hp → Option (Hp)
  | 0, _, _, _ => none
  | n + 1, x2, x3, h => t_K_findAsGood_43 this k35 (f_K_findAsGood_43 this k35 n) x2 x3 h
theorem w_K_findAsGood_43 {p : Program} {l : Launch} {e : Env} {s : State} {m : MethodId} {args : Array Value} {below : List Frame} {meth : Method} {c : Code} {N0 : Nat} {D : va_G} {cs : Nat → ClassId} (M : ZC p s m args meth c "YearBaskets$Likes" "findAsGood" b_K_findAsGood 5 (none) N0 D cs) (this : Nat) (k35 : Int32 → Hp → Option (Hp)) {h0 : Hp} (hk35 : ∀ (x2 : Int32) (h : Hp), k35 x2 h = some h0 → ZG p l e (zrm 3 0 0) s m args below meth c N0 D cs none h0 h 5 [(0, .ref this), (2, .int x2)] 35 []) : ∀ (n : Nat) (x2 : Int32) (x3 : Int32) (h : Hp), f_K_findAsGood_43 this k35 n x2 x3 h = some h0 → ZG p l e (zrm 3 0 0) s m args below meth c N0 D cs none h0 h 5 [(0, .ref this), (2, .int x2), (3, .int x3)] 43 [] := by
  intro n
  induction n with
  | zero => intro x2 x3 h hf; exact absurd (show none = some _ from hf) (fun q => by cases q)
  | succ n ih => intro x2 x3 h hf; exact v_K_findAsGood_43 M this k35 (f_K_findAsGood_43 this k35 n) hk35 ih _ _ _ hf
def t_K_findAsGood_35 (this : Nat) (k35 : Int32 → Hp → Option (Hp)) (x2 : Int32) (h : Hp) : Option (Hp) :=
  if (8 : Int32) ≤ x2 then
    some h
  else
  f_K_findAsGood_43 this k35 FU x2 (0 : Int32) h
set_option maxRecDepth 100000 in
set_option maxHeartbeats 4000000 in
theorem v_K_findAsGood_35 {p : Program} {l : Launch} {e : Env} {s : State} {m : MethodId} {args : Array Value} {below : List Frame} {meth : Method} {c : Code} {N0 : Nat} {D : va_G} {cs : Nat → ClassId} (M : ZC p s m args meth c "YearBaskets$Likes" "findAsGood" b_K_findAsGood 5 (none) N0 D cs) (this : Nat) (k35 : Int32 → Hp → Option (Hp)) {h0 : Hp} (hk35 : ∀ (x2 : Int32) (h : Hp), k35 x2 h = some h0 → ZG p l e (zrm 3 0 0) s m args below meth c N0 D cs none h0 h 5 [(0, .ref this), (2, .int x2)] 35 []) (x2 : Int32) (h : Hp) (hf : t_K_findAsGood_35 this k35 x2 h = some h0) : ZG p l e (zrm 3 0 0) s m args below meth c N0 D cs none h0 h 5 [(0, .ref this), (2, .int x2)] 35 [] := by
  intro H locs ls hH hS hl
  unfold t_K_findAsGood_35 at hf
  refine lv_iload_n M.x M.b d_K_findAsGood_35 rfl (lv_at hl 1 rfl) ?_
  refine lv_bipush (v := (8 : Int32)) M.x M.b d_K_findAsGood_36 rfl ?_
  refine lv_icmp_ge (tgt := 123) M.x M.b d_K_findAsGood_38 (by decide) (fun c40 => ?_) (fun c40 => ?_)
  · replace hf := z_t c40 hf
    obtain rfl := z_r1 hf
    exact z_vret M hH hS d_K_findAsGood_123
  · replace hf := z_f c40 hf
    refine lv_iconst (v := (0 : Int32)) M.x M.b d_K_findAsGood_41 rfl ?_
    refine lv_istore_n (lv' := [(3, .int (0 : Int32)), (0, .ref this), (2, .int x2)]) M.x M.b d_K_findAsGood_42 rfl hl (by decide) rfl (fun ls hl => ?_)
    exact w_K_findAsGood_43 M this k35 hk35 FU _ _ _ hf H locs ls hH hS (lv_sub hl [1, 2, 0] rfl)
def f_K_findAsGood_35 (this : Nat) : Nat → Int32 → Hp → Option (Hp)
  | 0, _, _ => none
  | n + 1, x2, h => t_K_findAsGood_35 this (f_K_findAsGood_35 this n) x2 h
theorem w_K_findAsGood_35 {p : Program} {l : Launch} {e : Env} {s : State} {m : MethodId} {args : Array Value} {below : List Frame} {meth : Method} {c : Code} {N0 : Nat} {D : va_G} {cs : Nat → ClassId} (M : ZC p s m args meth c "YearBaskets$Likes" "findAsGood" b_K_findAsGood 5 (none) N0 D cs) (this : Nat)  {h0 : Hp}  : ∀ (n : Nat) (x2 : Int32) (h : Hp), f_K_findAsGood_35 this n x2 h = some h0 → ZG p l e (zrm 3 0 0) s m args below meth c N0 D cs none h0 h 5 [(0, .ref this), (2, .int x2)] 35 [] := by
  intro n
  induction n with
  | zero => intro x2 h hf; exact absurd (show none = some _ from hf) (fun q => by cases q)
  | succ n ih => intro x2 h hf; exact v_K_findAsGood_35 M this (f_K_findAsGood_35 this n)  ih _ _ hf
def f_K_findAsGood_26 (this : Nat) (k2 : Int32 → Int32 → Hp → Option (Hp)) (s0 : Nat) (s1 : Int32) (s2 : Int32) (x1 : Int32) (x2 : Int32) (h : Hp) : Option (Hp) :=
  (sZ h s0 s1 s2).bind fun h42 =>
  k2 x1 (x2 + (1 : Int32)) h42
set_option maxRecDepth 100000 in
set_option maxHeartbeats 4000000 in
theorem w_K_findAsGood_26 {p : Program} {l : Launch} {e : Env} {s : State} {m : MethodId} {args : Array Value} {below : List Frame} {meth : Method} {c : Code} {N0 : Nat} {D : va_G} {cs : Nat → ClassId} (M : ZC p s m args meth c "YearBaskets$Likes" "findAsGood" b_K_findAsGood 5 (none) N0 D cs) (this : Nat) (k2 : Int32 → Int32 → Hp → Option (Hp)) {h0 : Hp} (hk2 : ∀ (x1 : Int32) (x2 : Int32) (h : Hp), k2 x1 x2 h = some h0 → ZG p l e (zrm 3 0 0) s m args below meth c N0 D cs none h0 h 5 [(0, .ref this), (1, .int x1), (2, .int x2)] 2 []) (s0 : Nat) (s1 : Int32) (s2 : Int32) (x1 : Int32) (x2 : Int32) (h : Hp) (hf : f_K_findAsGood_26 this k2 s0 s1 s2 x1 x2 h = some h0) : ZG p l e (zrm 3 0 0) s m args below meth c N0 D cs none h0 h 5 [(0, .ref this), (1, .int x1), (2, .int x2)] 26 [.int s2, .int s1, .ref s0] := by
  intro H locs ls hH hS hl
  unfold f_K_findAsGood_26 at hf
  replace hf := z_bind hf; obtain ⟨h42, e41, hf⟩ := hf
  refine z_zast M hH hS e41 d_K_findAsGood_26 (fun H locs hH hS => ?_)
  refine lv_iinc (v := (x2 + (1 : Int32))) (lv' := [(2, .int (x2 + (1 : Int32))), (0, .ref this), (1, .int x1)]) M.x M.b d_K_findAsGood_27 hl (k := 2) rfl rfl (by decide) rfl (fun ls hl => ?_)
  refine lv_goto (tgt := 2) M.x M.b d_K_findAsGood_30 (by decide) ?_
  exact hk2 _ _ _ hf H locs ls hH hS (lv_sub hl [1, 2, 0] rfl)
def t_K_findAsGood_2 (this : Nat) (k2 : Int32 → Int32 → Hp → Option (Hp)) (x1 : Int32) (x2 : Int32) (h : Hp) : Option (Hp) :=
  (gA h this 3 3).bind fun r43 =>
  (r43).bind fun a45 =>
  (aN h a45).bind fun i48 =>
  if i48 ≤ x2 then
    f_K_findAsGood_35 this FU (1 : Int32) h
  else
  (gA h this 3 3).bind fun r49 =>
  if x2 = x1 then
    (r49).bind fun a53 =>
    f_K_findAsGood_26 this k2 a53 x2 (1 : Int32) x1 x2 h
  else
  (r49).bind fun a51 =>
  f_K_findAsGood_26 this k2 a51 x2 (0 : Int32) x1 x2 h
set_option maxRecDepth 100000 in
set_option maxHeartbeats 4000000 in
theorem v_K_findAsGood_2 {p : Program} {l : Launch} {e : Env} {s : State} {m : MethodId} {args : Array Value} {below : List Frame} {meth : Method} {c : Code} {N0 : Nat} {D : va_G} {cs : Nat → ClassId} (M : ZC p s m args meth c "YearBaskets$Likes" "findAsGood" b_K_findAsGood 5 (none) N0 D cs) (this : Nat) (k2 : Int32 → Int32 → Hp → Option (Hp)) {h0 : Hp} (hk2 : ∀ (x1 : Int32) (x2 : Int32) (h : Hp), k2 x1 x2 h = some h0 → ZG p l e (zrm 3 0 0) s m args below meth c N0 D cs none h0 h 5 [(0, .ref this), (1, .int x1), (2, .int x2)] 2 []) (x1 : Int32) (x2 : Int32) (h : Hp) (hf : t_K_findAsGood_2 this k2 x1 x2 h = some h0) : ZG p l e (zrm 3 0 0) s m args below meth c N0 D cs none h0 h 5 [(0, .ref this), (1, .int x1), (2, .int x2)] 2 [] := by
  intro H locs ls hH hS hl
  unfold t_K_findAsGood_2 at hf
  refine lv_iload_n M.x M.b d_K_findAsGood_2 rfl (lv_at hl 2 rfl) ?_
  refine lv_aload_n M.x M.b d_K_findAsGood_3 rfl (lv_at hl 0 rfl) ?_
  replace hf := z_bind hf; obtain ⟨r43, e44, hf⟩ := hf
  refine z_get (ci := 3) (k := 3) M hH rfl (by decide) zinK q_332 (gA_spec e44) d_K_findAsGood_4 ?_
  rcases r43 with _ | a45
  · exact absurd hf z_nb0
  replace hf := z_sb hf
  replace hf := z_bind hf; obtain ⟨i48, e47, hf⟩ := hf
  refine z_alen M hH e47 d_K_findAsGood_7 ?_
  refine lv_icmp_ge (tgt := 33) M.x M.b d_K_findAsGood_8 (by decide) (fun c56 => ?_) (fun c56 => ?_)
  · replace hf := z_t c56 hf
    refine lv_iconst (v := (1 : Int32)) M.x M.b d_K_findAsGood_33 rfl ?_
    refine lv_istore_n (lv' := [(2, .int (1 : Int32)), (0, .ref this), (1, .int x1)]) M.x M.b d_K_findAsGood_34 rfl hl (by decide) rfl (fun ls hl => ?_)
    exact w_K_findAsGood_35 M this FU _ _ hf H locs ls hH hS (lv_sub hl [1, 0] rfl)
  · replace hf := z_f c56 hf
    refine lv_aload_n M.x M.b d_K_findAsGood_11 rfl (lv_at hl 0 rfl) ?_
    replace hf := z_bind hf; obtain ⟨r49, e50, hf⟩ := hf
    refine z_get (ci := 3) (k := 3) M hH rfl (by decide) zinK q_332 (gA_spec e50) d_K_findAsGood_12 ?_
    refine lv_iload_n M.x M.b d_K_findAsGood_15 rfl (lv_at hl 2 rfl) ?_
    refine lv_iload_n M.x M.b d_K_findAsGood_16 rfl (lv_at hl 2 rfl) ?_
    refine lv_iload_n M.x M.b d_K_findAsGood_17 rfl (lv_at hl 1 rfl) ?_
    refine lv_icmp_ne (tgt := 25) M.x M.b d_K_findAsGood_18 (by decide) (fun c55 => ?_) (fun c55 => ?_)
    · replace hf := z_f c55 hf
      refine lv_iconst (v := (0 : Int32)) M.x M.b d_K_findAsGood_25 rfl ?_
      rcases r49 with _ | a51
      · exact absurd hf z_nb0
      replace hf := z_sb hf
      exact w_K_findAsGood_26 M this k2 hk2 _ _ _ _ _ _ hf H locs ls hH hS (lv_sub hl [0, 1, 2] rfl)
    · replace hf := z_t c55 hf
      refine lv_iconst (v := (1 : Int32)) M.x M.b d_K_findAsGood_21 rfl ?_
      refine lv_goto (tgt := 26) M.x M.b d_K_findAsGood_22 (by decide) ?_
      rcases r49 with _ | a53
      · exact absurd hf z_nb0
      replace hf := z_sb hf
      exact w_K_findAsGood_26 M this k2 hk2 _ _ _ _ _ _ hf H locs ls hH hS (lv_sub hl [0, 1, 2] rfl)
def f_K_findAsGood_2 (this : Nat) : Nat → Int32 → Int32 → Hp → Option (Hp)
  | 0, _, _, _ => none
  | n + 1, x1, x2, h => t_K_findAsGood_2 this (f_K_findAsGood_2 this n) x1 x2 h
theorem w_K_findAsGood_2 {p : Program} {l : Launch} {e : Env} {s : State} {m : MethodId} {args : Array Value} {below : List Frame} {meth : Method} {c : Code} {N0 : Nat} {D : va_G} {cs : Nat → ClassId} (M : ZC p s m args meth c "YearBaskets$Likes" "findAsGood" b_K_findAsGood 5 (none) N0 D cs) (this : Nat)  {h0 : Hp}  : ∀ (n : Nat) (x1 : Int32) (x2 : Int32) (h : Hp), f_K_findAsGood_2 this n x1 x2 h = some h0 → ZG p l e (zrm 3 0 0) s m args below meth c N0 D cs none h0 h 5 [(0, .ref this), (1, .int x1), (2, .int x2)] 2 [] := by
  intro n
  induction n with
  | zero => intro x1 x2 h hf; exact absurd (show none = some _ from hf) (fun q => by cases q)
  | succ n ih => intro x1 x2 h hf; exact v_K_findAsGood_2 M this (f_K_findAsGood_2 this n)  ih _ _ _ hf
def f_K_findAsGood (this : Nat) (x1 : Int32) (h : Hp) : Option (Hp) :=
  if isO h this 3 = true then
  f_K_findAsGood_2 this FU x1 (0 : Int32) h
  else none
theorem o_K_findAsGood {this : Nat} {x1 : Int32} {h : Hp} {h0 : Hp} (hf : f_K_findAsGood this x1 h = some h0) : isO h this 3 = true := by
  unfold f_K_findAsGood at hf
  exact (z_gd hf).1
set_option maxRecDepth 100000 in
set_option maxHeartbeats 4000000 in
theorem c_K_findAsGood {l : Launch} {N0 : Nat} {D : va_G} {cs : Nat → ClassId} {this : Nat} {x1 : Int32} {h : Hp} {h0 : Hp} (hf : f_K_findAsGood this x1 h = some h0) : Fn l N0 D cs y_K_findAsGood b_K_findAsGood 5 (none) 3 0 0 [.ref this, .int x1] h none h0 := by
  refine z_start (by decide) (Nat.le_of_ble_eq_true rfl) ?_
  intro p e s m args below meth c M hH hS ls hl
  unfold f_K_findAsGood at hf
  obtain ⟨hO, hf⟩ := z_gd hf
  have hl : lv_has ls 5 [(0, .ref this), (1, .int x1)] := hl
  obtain ⟨H, hHe⟩ : ∃ H, H = s.heap := ⟨_, rfl⟩
  obtain ⟨locs, hLe⟩ : ∃ locs : List Loc, locs = [] := ⟨_, rfl⟩
  have hS : va_S (zA N0) s.heap H locs := by rw [hHe, hLe]; exact hS
  have hH : HH N0 D cs h H := by rw [hHe]; exact hH
  suffices hg : W p l e (zrm 3 0 0) s m args below meth c H locs 0 0 (MQ below (zQ N0 D cs none h0) args s 0 0 (zA N0)) (F0 m 0 ls []) by rw [hHe, hLe] at hg; exact hg
  clear hHe hLe
  refine lv_iconst (v := (0 : Int32)) M.x M.b d_K_findAsGood_0 rfl ?_
  refine lv_istore_n (lv' := [(2, .int (0 : Int32)), (0, .ref this), (1, .int x1)]) M.x M.b d_K_findAsGood_1 rfl hl (by decide) rfl (fun ls hl => ?_)
  exact w_K_findAsGood_2 M this FU _ _ _ hf H locs ls hH hS (lv_sub hl [1, 2, 0] rfl)
def f_K_hasRing_45 (this : Nat) (k2 : Int32 → Hp → Option ((Int32 × Hp))) (k15 : Int32 → Int32 → Hp → Option ((Int32 × Hp))) (x1 : Int32) (x2 : Int32) (h : Hp) : Option ((Int32 × Hp)) :=
  k15 x1 (x2 + (1 : Int32)) h
set_option maxRecDepth 100000 in
set_option maxHeartbeats 4000000 in
theorem w_K_hasRing_45 {p : Program} {l : Launch} {e : Env} {s : State} {m : MethodId} {args : Array Value} {below : List Frame} {meth : Method} {c : Code} {N0 : Nat} {D : va_G} {cs : Nat → ClassId} (M : ZC p s m args meth c "YearBaskets$Likes" "hasRing" b_K_hasRing 3 (some .boolean) N0 D cs) (this : Nat) (k2 : Int32 → Hp → Option ((Int32 × Hp))) (k15 : Int32 → Int32 → Hp → Option ((Int32 × Hp))) {r0 : Int32} {h0 : Hp} (hk2 : ∀ (x1 : Int32) (h : Hp), k2 x1 h = some (r0, h0) → ZG p l e (zrm 4 0 0) s m args below meth c N0 D cs (some (.int r0)) h0 h 3 [(0, .ref this), (1, .int x1)] 2 []) (hk15 : ∀ (x1 : Int32) (x2 : Int32) (h : Hp), k15 x1 x2 h = some (r0, h0) → ZG p l e (zrm 4 0 0) s m args below meth c N0 D cs (some (.int r0)) h0 h 3 [(0, .ref this), (1, .int x1), (2, .int x2)] 15 []) (x1 : Int32) (x2 : Int32) (h : Hp) (hf : f_K_hasRing_45 this k2 k15 x1 x2 h = some (r0, h0)) : ZG p l e (zrm 4 0 0) s m args below meth c N0 D cs (some (.int r0)) h0 h 3 [(0, .ref this), (1, .int x1), (2, .int x2)] 45 [] := by
  intro H locs ls hH hS hl
  unfold f_K_hasRing_45 at hf
  refine lv_iinc (v := (x2 + (1 : Int32))) (lv' := [(2, .int (x2 + (1 : Int32))), (0, .ref this), (1, .int x1)]) M.x M.b d_K_hasRing_45 hl (k := 2) rfl rfl (by decide) rfl (fun ls hl => ?_)
  refine lv_goto (tgt := 15) M.x M.b d_K_hasRing_48 (by decide) ?_
  exact hk15 _ _ _ hf H locs ls hH hS (lv_sub hl [1, 2, 0] rfl)
def t_K_hasRing_15 (this : Nat) (k2 : Int32 → Hp → Option ((Int32 × Hp))) (k15 : Int32 → Int32 → Hp → Option ((Int32 × Hp))) (x1 : Int32) (x2 : Int32) (h : Hp) : Option ((Int32 × Hp)) :=
  (gA h this 3 3).bind fun r1 =>
  (r1).bind fun a3 =>
  (aN h a3).bind fun i6 =>
  if i6 ≤ x2 then
    k2 (x1 + (1 : Int32)) h
  else
  (gA h this 3 3).bind fun r7 =>
  (r7).bind fun a9 =>
  (aI h 2 a9 x2).bind fun i12 =>
  if i12 = 0 then
    f_K_hasRing_45 this k2 k15 x1 x2 h
  else
  (f_K_choiceAt this h x1 x2).bind fun i14 =>
  if i14 = (2 : Int32) then
    some ((1 : Int32), h)
  else
  f_K_hasRing_45 this k2 k15 x1 x2 h
set_option maxRecDepth 100000 in
set_option maxHeartbeats 4000000 in
theorem v_K_hasRing_15 {p : Program} {l : Launch} {e : Env} {s : State} {m : MethodId} {args : Array Value} {below : List Frame} {meth : Method} {c : Code} {N0 : Nat} {D : va_G} {cs : Nat → ClassId} (M : ZC p s m args meth c "YearBaskets$Likes" "hasRing" b_K_hasRing 3 (some .boolean) N0 D cs) (this : Nat) (k2 : Int32 → Hp → Option ((Int32 × Hp))) (k15 : Int32 → Int32 → Hp → Option ((Int32 × Hp))) {r0 : Int32} {h0 : Hp} (hk2 : ∀ (x1 : Int32) (h : Hp), k2 x1 h = some (r0, h0) → ZG p l e (zrm 4 0 0) s m args below meth c N0 D cs (some (.int r0)) h0 h 3 [(0, .ref this), (1, .int x1)] 2 []) (hk15 : ∀ (x1 : Int32) (x2 : Int32) (h : Hp), k15 x1 x2 h = some (r0, h0) → ZG p l e (zrm 4 0 0) s m args below meth c N0 D cs (some (.int r0)) h0 h 3 [(0, .ref this), (1, .int x1), (2, .int x2)] 15 []) (x1 : Int32) (x2 : Int32) (h : Hp) (hf : t_K_hasRing_15 this k2 k15 x1 x2 h = some (r0, h0)) : ZG p l e (zrm 4 0 0) s m args below meth c N0 D cs (some (.int r0)) h0 h 3 [(0, .ref this), (1, .int x1), (2, .int x2)] 15 [] := by
  intro H locs ls hH hS hl
  unfold t_K_hasRing_15 at hf
  refine lv_iload_n M.x M.b d_K_hasRing_15 rfl (lv_at hl 2 rfl) ?_
  refine lv_aload_n M.x M.b d_K_hasRing_16 rfl (lv_at hl 0 rfl) ?_
  replace hf := z_bind hf; obtain ⟨r1, e2, hf⟩ := hf
  refine z_get (ci := 3) (k := 3) M hH rfl (by decide) zinK q_332 (gA_spec e2) d_K_hasRing_17 ?_
  rcases r1 with _ | a3
  · exact absurd hf z_nb0
  replace hf := z_sb hf
  replace hf := z_bind hf; obtain ⟨i6, e5, hf⟩ := hf
  refine z_alen M hH e5 d_K_hasRing_20 ?_
  refine lv_icmp_ge (tgt := 51) M.x M.b d_K_hasRing_21 (by decide) (fun c17 => ?_) (fun c17 => ?_)
  · replace hf := z_t c17 hf
    refine lv_iinc (v := (x1 + (1 : Int32))) (lv' := [(1, .int (x1 + (1 : Int32))), (0, .ref this), (2, .int x2)]) M.x M.b d_K_hasRing_51 hl (k := 1) rfl rfl (by decide) rfl (fun ls hl => ?_)
    refine lv_goto (tgt := 2) M.x M.b d_K_hasRing_54 (by decide) ?_
    exact hk2 _ _ hf H locs ls hH hS (lv_sub hl [1, 0] rfl)
  · replace hf := z_f c17 hf
    refine lv_aload_n M.x M.b d_K_hasRing_24 rfl (lv_at hl 0 rfl) ?_
    replace hf := z_bind hf; obtain ⟨r7, e8, hf⟩ := hf
    refine z_get (ci := 3) (k := 3) M hH rfl (by decide) zinK q_332 (gA_spec e8) d_K_hasRing_25 ?_
    refine lv_iload_n M.x M.b d_K_hasRing_28 rfl (lv_at hl 2 rfl) ?_
    rcases r7 with _ | a9
    · exact absurd hf z_nb0
    replace hf := z_sb hf
    replace hf := z_bind hf; obtain ⟨i12, e11, hf⟩ := hf
    refine z_zald M hH e11 d_K_hasRing_29 ?_
    refine lv_if_eq (tgt := 45) M.x M.b d_K_hasRing_30 (by decide) (fun c16 => ?_) (fun c16 => ?_)
    · replace hf := z_t c16 hf
      exact w_K_hasRing_45 M this k2 k15 hk2 hk15 _ _ _ hf H locs ls hH hS (lv_sub hl [0, 1, 2] rfl)
    · replace hf := z_f c16 hf
      refine lv_aload_n M.x M.b d_K_hasRing_33 rfl (lv_at hl 0 rfl) ?_
      refine lv_iload_n M.x M.b d_K_hasRing_34 rfl (lv_at hl 1 rfl) ?_
      refine lv_iload_n M.x M.b d_K_hasRing_35 rfl (lv_at hl 2 rfl) ?_
      replace hf := z_bind hf; obtain ⟨i14, e13, hf⟩ := hf
      refine zk_V (ci := 3) (st1 := [.int i14]) M hH hS (c_K_choiceAt e13) rfl (o_K_choiceAt e13) w_K_choiceAt q_331 [] rfl ⟨Nat.le_of_ble_eq_true rfl, Nat.le_of_ble_eq_true rfl⟩ hl.1 rfl rfl (Nat.le_of_ble_eq_true rfl) d_K_hasRing_36 (fun H locs hH hS => ?_)
      refine lv_iconst (v := (2 : Int32)) M.x M.b d_K_hasRing_39 rfl ?_
      refine lv_icmp_ne (tgt := 45) M.x M.b d_K_hasRing_40 (by decide) (fun c15 => ?_) (fun c15 => ?_)
      · replace hf := z_f c15 hf
        exact w_K_hasRing_45 M this k2 k15 hk2 hk15 _ _ _ hf H locs ls hH hS (lv_sub hl [0, 1, 2] rfl)
      · replace hf := z_t c15 hf
        refine lv_iconst (v := (1 : Int32)) M.x M.b d_K_hasRing_43 rfl ?_
        obtain ⟨rfl, rfl⟩ := z_r2 hf
        exact z_zret M hH hS (by decide) d_K_hasRing_44
def f_K_hasRing_15 (this : Nat) (k2 : Int32 → Hp → Option ((Int32 × Hp))) : Nat → Int32 → Int32 → Hp → Option ((Int32 × Hp))
  | 0, _, _, _ => none
  | n + 1, x1, x2, h => t_K_hasRing_15 this k2 (f_K_hasRing_15 this k2 n) x1 x2 h
theorem w_K_hasRing_15 {p : Program} {l : Launch} {e : Env} {s : State} {m : MethodId} {args : Array Value} {below : List Frame} {meth : Method} {c : Code} {N0 : Nat} {D : va_G} {cs : Nat → ClassId} (M : ZC p s m args meth c "YearBaskets$Likes" "hasRing" b_K_hasRing 3 (some .boolean) N0 D cs) (this : Nat) (k2 : Int32 → Hp → Option ((Int32 × Hp))) {r0 : Int32} {h0 : Hp} (hk2 : ∀ (x1 : Int32) (h : Hp), k2 x1 h = some (r0, h0) → ZG p l e (zrm 4 0 0) s m args below meth c N0 D cs (some (.int r0)) h0 h 3 [(0, .ref this), (1, .int x1)] 2 []) : ∀ (n : Nat) (x1 : Int32) (x2 : Int32) (h : Hp), f_K_hasRing_15 this k2 n x1 x2 h = some (r0, h0) → ZG p l e (zrm 4 0 0) s m args below meth c N0 D cs (some (.int r0)) h0 h 3 [(0, .ref this), (1, .int x1), (2, .int x2)] 15 [] := by
  intro n
  induction n with
  | zero => intro x1 x2 h hf; exact absurd (show none = some _ from hf) (fun q => by cases q)
  | succ n ih => intro x1 x2 h hf; exact v_K_hasRing_15 M this k2 (f_K_hasRing_15 this k2 n) hk2 ih _ _ _ hf
def t_K_hasRing_2 (this : Nat) (k2 : Int32 → Hp → Option ((Int32 × Hp))) (x1 : Int32) (h : Hp) : Option ((Int32 × Hp)) :=
  if (8 : Int32) ≤ x1 then
    some ((0 : Int32), h)
  else
  (f_K_findAsGood this x1 h).bind fun h19 =>
  f_K_hasRing_15 this k2 FU x1 (0 : Int32) h19
set_option maxRecDepth 100000 in
set_option maxHeartbeats 4000000 in
theorem v_K_hasRing_2 {p : Program} {l : Launch} {e : Env} {s : State} {m : MethodId} {args : Array Value} {below : List Frame} {meth : Method} {c : Code} {N0 : Nat} {D : va_G} {cs : Nat → ClassId} (M : ZC p s m args meth c "YearBaskets$Likes" "hasRing" b_K_hasRing 3 (some .boolean) N0 D cs) (this : Nat) (k2 : Int32 → Hp → Option ((Int32 × Hp))) {r0 : Int32} {h0 : Hp} (hk2 : ∀ (x1 : Int32) (h : Hp), k2 x1 h = some (r0, h0) → ZG p l e (zrm 4 0 0) s m args below meth c N0 D cs (some (.int r0)) h0 h 3 [(0, .ref this), (1, .int x1)] 2 []) (x1 : Int32) (h : Hp) (hf : t_K_hasRing_2 this k2 x1 h = some (r0, h0)) : ZG p l e (zrm 4 0 0) s m args below meth c N0 D cs (some (.int r0)) h0 h 3 [(0, .ref this), (1, .int x1)] 2 [] := by
  intro H locs ls hH hS hl
  unfold t_K_hasRing_2 at hf
  refine lv_iload_n M.x M.b d_K_hasRing_2 rfl (lv_at hl 1 rfl) ?_
  refine lv_bipush (v := (8 : Int32)) M.x M.b d_K_hasRing_3 rfl ?_
  refine lv_icmp_ge (tgt := 57) M.x M.b d_K_hasRing_5 (by decide) (fun c20 => ?_) (fun c20 => ?_)
  · replace hf := z_t c20 hf
    refine lv_iconst (v := (0 : Int32)) M.x M.b d_K_hasRing_57 rfl ?_
    obtain ⟨rfl, rfl⟩ := z_r2 hf
    exact z_zret M hH hS (by decide) d_K_hasRing_58
  · replace hf := z_f c20 hf
    refine lv_aload_n M.x M.b d_K_hasRing_8 rfl (lv_at hl 0 rfl) ?_
    refine lv_iload_n M.x M.b d_K_hasRing_9 rfl (lv_at hl 1 rfl) ?_
    replace hf := z_bind hf; obtain ⟨h19, e18, hf⟩ := hf
    refine zk_V (ci := 3) (st1 := []) M hH hS (c_K_findAsGood e18) rfl (o_K_findAsGood e18) w_K_findAsGood q_336 [] rfl ⟨Nat.le_of_ble_eq_true rfl, Nat.le_of_ble_eq_true rfl⟩ hl.1 rfl rfl (Nat.le_of_ble_eq_true rfl) d_K_hasRing_10 (fun H locs hH hS => ?_)
    refine lv_iconst (v := (0 : Int32)) M.x M.b d_K_hasRing_13 rfl ?_
    refine lv_istore_n (lv' := [(2, .int (0 : Int32)), (0, .ref this), (1, .int x1)]) M.x M.b d_K_hasRing_14 rfl hl (by decide) rfl (fun ls hl => ?_)
    exact w_K_hasRing_15 M this k2 hk2 FU _ _ _ hf H locs ls hH hS (lv_sub hl [1, 2, 0] rfl)
def f_K_hasRing_2 (this : Nat) : Nat → Int32 → Hp → Option ((Int32 × Hp))
  | 0, _, _ => none
  | n + 1, x1, h => t_K_hasRing_2 this (f_K_hasRing_2 this n) x1 h
theorem w_K_hasRing_2 {p : Program} {l : Launch} {e : Env} {s : State} {m : MethodId} {args : Array Value} {below : List Frame} {meth : Method} {c : Code} {N0 : Nat} {D : va_G} {cs : Nat → ClassId} (M : ZC p s m args meth c "YearBaskets$Likes" "hasRing" b_K_hasRing 3 (some .boolean) N0 D cs) (this : Nat)  {r0 : Int32} {h0 : Hp}  : ∀ (n : Nat) (x1 : Int32) (h : Hp), f_K_hasRing_2 this n x1 h = some (r0, h0) → ZG p l e (zrm 4 0 0) s m args below meth c N0 D cs (some (.int r0)) h0 h 3 [(0, .ref this), (1, .int x1)] 2 [] := by
  intro n
  induction n with
  | zero => intro x1 h hf; exact absurd (show none = some _ from hf) (fun q => by cases q)
  | succ n ih => intro x1 h hf; exact v_K_hasRing_2 M this (f_K_hasRing_2 this n)  ih _ _ hf
def f_K_hasRing (this : Nat) (h : Hp) : Option ((Int32 × Hp)) :=
  if isO h this 3 = true then
  f_K_hasRing_2 this FU (0 : Int32) h
  else none
theorem o_K_hasRing {this : Nat} {h : Hp} {r0 : Int32} {h0 : Hp} (hf : f_K_hasRing this h = some (r0, h0)) : isO h this 3 = true := by
  unfold f_K_hasRing at hf
  exact (z_gd hf).1
set_option maxRecDepth 100000 in
set_option maxHeartbeats 4000000 in
theorem c_K_hasRing {l : Launch} {N0 : Nat} {D : va_G} {cs : Nat → ClassId} {this : Nat} {h : Hp} {r0 : Int32} {h0 : Hp} (hf : f_K_hasRing this h = some (r0, h0)) : Fn l N0 D cs y_K_hasRing b_K_hasRing 3 (some .boolean) 4 0 0 [.ref this] h (some (.int r0)) h0 := by
  refine z_start (by decide) (Nat.le_of_ble_eq_true rfl) ?_
  intro p e s m args below meth c M hH hS ls hl
  unfold f_K_hasRing at hf
  obtain ⟨hO, hf⟩ := z_gd hf
  have hl : lv_has ls 3 [(0, .ref this)] := hl
  obtain ⟨H, hHe⟩ : ∃ H, H = s.heap := ⟨_, rfl⟩
  obtain ⟨locs, hLe⟩ : ∃ locs : List Loc, locs = [] := ⟨_, rfl⟩
  have hS : va_S (zA N0) s.heap H locs := by rw [hHe, hLe]; exact hS
  have hH : HH N0 D cs h H := by rw [hHe]; exact hH
  suffices hg : W p l e (zrm 4 0 0) s m args below meth c H locs 0 0 (MQ below (zQ N0 D cs (some (.int r0)) h0) args s 0 0 (zA N0)) (F0 m 0 ls []) by rw [hHe, hLe] at hg; exact hg
  clear hHe hLe
  refine lv_iconst (v := (0 : Int32)) M.x M.b d_K_hasRing_0 rfl ?_
  refine lv_istore_n (lv' := [(1, .int (0 : Int32)), (0, .ref this)]) M.x M.b d_K_hasRing_1 rfl hl (by decide) rfl (fun ls hl => ?_)
  exact w_K_hasRing_2 M this FU _ _ hf H locs ls hH hS (lv_sub hl [1, 0] rfl)
def f_K_closesFrom_146 (rec : Nat → Int32 → Int32 → Int32 → Int32 → Hp → Option ((Int32 × Hp))) (this : Nat) (k65 : Int32 → Int32 → Int32 → Int32 → Int32 → Int32 → Hp → Option ((Int32 × Hp))) (x1 : Int32) (x2 : Int32) (x3 : Int32) (x4 : Int32) (x5 : Int32) (x6 : Int32) (h : Hp) : Option ((Int32 × Hp)) :=
  k65 x1 x2 x3 x4 x5 (x6 + (1 : Int32)) h
set_option maxRecDepth 100000 in
set_option maxHeartbeats 4000000 in
theorem w_K_closesFrom_146 {p : Program} {l : Launch} {e : Env} {s : State} {m : MethodId} {args : Array Value} {below : List Frame} {meth : Method} {c : Code} {N0 : Nat} {D : va_G} {cs : Nat → ClassId} (M : ZC p s m args meth c "YearBaskets$Likes" "closesFrom" b_K_closesFrom 8 (some .boolean) N0 D cs) (rec : Nat → Int32 → Int32 → Int32 → Int32 → Hp → Option ((Int32 × Hp))) {n0 : Nat} (hn0 : 8 ≤ n0) (hrec : ∀ {this : Nat} {x1 : Int32} {x2 : Int32} {x3 : Int32} {x4 : Int32} {r0 : Int32} {h : Hp} {h0 : Hp}, rec this x1 x2 x3 x4 h = some (r0, h0) → Fn l N0 D cs y_K_closesFrom b_K_closesFrom 8 (some .boolean) n0 0 0 [.ref this, .int x1, .int x2, .int x3, .int x4] h (some (.int r0)) h0 ∧ isO h this 3 = true) (this : Nat) (k65 : Int32 → Int32 → Int32 → Int32 → Int32 → Int32 → Hp → Option ((Int32 × Hp))) {r0 : Int32} {h0 : Hp} (hk65 : ∀ (x1 : Int32) (x2 : Int32) (x3 : Int32) (x4 : Int32) (x5 : Int32) (x6 : Int32) (h : Hp), k65 x1 x2 x3 x4 x5 x6 h = some (r0, h0) → ZG p l e (zrm (n0 + 1) 0 0) s m args below meth c N0 D cs (some (.int r0)) h0 h 8 [(0, .ref this), (1, .int x1), (2, .int x2), (3, .int x3), (4, .int x4), (5, .int x5), (6, .int x6)] 65 []) (x1 : Int32) (x2 : Int32) (x3 : Int32) (x4 : Int32) (x5 : Int32) (x6 : Int32) (h : Hp) (hf : f_K_closesFrom_146 rec this k65 x1 x2 x3 x4 x5 x6 h = some (r0, h0)) : ZG p l e (zrm (n0 + 1) 0 0) s m args below meth c N0 D cs (some (.int r0)) h0 h 8 [(0, .ref this), (1, .int x1), (2, .int x2), (3, .int x3), (4, .int x4), (5, .int x5), (6, .int x6)] 146 [] := by
  intro H locs ls hH hS hl
  unfold f_K_closesFrom_146 at hf
  refine lv_iinc (v := (x6 + (1 : Int32))) (lv' := [(6, .int (x6 + (1 : Int32))), (0, .ref this), (1, .int x1), (2, .int x2), (3, .int x3), (4, .int x4), (5, .int x5)]) M.x M.b d_K_closesFrom_146 hl (k := 6) rfl rfl (by decide) rfl (fun ls hl => ?_)
  refine lv_goto (tgt := 65) M.x M.b d_K_closesFrom_149 (by decide) ?_
  exact hk65 _ _ _ _ _ _ _ hf H locs ls hH hS (lv_sub hl [1, 2, 3, 4, 5, 6, 0] rfl)
def f_K_closesFrom_138 (rec : Nat → Int32 → Int32 → Int32 → Int32 → Hp → Option ((Int32 × Hp))) (this : Nat) (k65 : Int32 → Int32 → Int32 → Int32 → Int32 → Int32 → Hp → Option ((Int32 × Hp))) (s1 : Int32) (s2 : Int32) (s3 : Int32) (s4 : Int32) (x1 : Int32) (x2 : Int32) (x3 : Int32) (x4 : Int32) (x5 : Int32) (x6 : Int32) (h : Hp) : Option ((Int32 × Hp)) :=
  zb2 (rec this s1 s2 s3 s4 h) fun i2 h3 =>
  if i2 = 0 then
    f_K_closesFrom_146 rec this k65 x1 x2 x3 x4 x5 x6 h3
  else
  some ((1 : Int32), h3)
set_option maxRecDepth 100000 in
set_option maxHeartbeats 4000000 in
theorem w_K_closesFrom_138 {p : Program} {l : Launch} {e : Env} {s : State} {m : MethodId} {args : Array Value} {below : List Frame} {meth : Method} {c : Code} {N0 : Nat} {D : va_G} {cs : Nat → ClassId} (M : ZC p s m args meth c "YearBaskets$Likes" "closesFrom" b_K_closesFrom 8 (some .boolean) N0 D cs) (rec : Nat → Int32 → Int32 → Int32 → Int32 → Hp → Option ((Int32 × Hp))) {n0 : Nat} (hn0 : 8 ≤ n0) (hrec : ∀ {this : Nat} {x1 : Int32} {x2 : Int32} {x3 : Int32} {x4 : Int32} {r0 : Int32} {h : Hp} {h0 : Hp}, rec this x1 x2 x3 x4 h = some (r0, h0) → Fn l N0 D cs y_K_closesFrom b_K_closesFrom 8 (some .boolean) n0 0 0 [.ref this, .int x1, .int x2, .int x3, .int x4] h (some (.int r0)) h0 ∧ isO h this 3 = true) (this : Nat) (k65 : Int32 → Int32 → Int32 → Int32 → Int32 → Int32 → Hp → Option ((Int32 × Hp))) {r0 : Int32} {h0 : Hp} (hk65 : ∀ (x1 : Int32) (x2 : Int32) (x3 : Int32) (x4 : Int32) (x5 : Int32) (x6 : Int32) (h : Hp), k65 x1 x2 x3 x4 x5 x6 h = some (r0, h0) → ZG p l e (zrm (n0 + 1) 0 0) s m args below meth c N0 D cs (some (.int r0)) h0 h 8 [(0, .ref this), (1, .int x1), (2, .int x2), (3, .int x3), (4, .int x4), (5, .int x5), (6, .int x6)] 65 []) (s1 : Int32) (s2 : Int32) (s3 : Int32) (s4 : Int32) (x1 : Int32) (x2 : Int32) (x3 : Int32) (x4 : Int32) (x5 : Int32) (x6 : Int32) (h : Hp) (hf : f_K_closesFrom_138 rec this k65 s1 s2 s3 s4 x1 x2 x3 x4 x5 x6 h = some (r0, h0)) : ZG p l e (zrm (n0 + 1) 0 0) s m args below meth c N0 D cs (some (.int r0)) h0 h 8 [(0, .ref this), (1, .int x1), (2, .int x2), (3, .int x3), (4, .int x4), (5, .int x5), (6, .int x6)] 138 [.int s4, .int s3, .int s2, .int s1, .ref this] := by
  intro H locs ls hH hS hl
  unfold f_K_closesFrom_138 at hf
  replace hf := z_bind2 hf; obtain ⟨i2, h3, e1, hf⟩ := hf
  refine zk_V (ci := 3) (st1 := [.int i2]) M hH hS (hrec e1).1 rfl (hrec e1).2 w_K_closesFrom q_340 [] rfl (zR_n (by omega) (by decide)) hl.1 rfl rfl (Nat.le_of_ble_eq_true rfl) d_K_closesFrom_138 (fun H locs hH hS => ?_)
  refine lv_if_eq (tgt := 146) M.x M.b d_K_closesFrom_141 (by decide) (fun c4 => ?_) (fun c4 => ?_)
  · replace hf := z_t c4 hf
    exact w_K_closesFrom_146 M rec hn0 hrec this k65 hk65 _ _ _ _ _ _ _ hf H locs ls hH hS (lv_sub hl [0, 1, 2, 3, 4, 5, 6] rfl)
  · replace hf := z_f c4 hf
    refine lv_iconst (v := (1 : Int32)) M.x M.b d_K_closesFrom_144 rfl ?_
    obtain ⟨rfl, rfl⟩ := z_r2 hf
    exact z_zret M hH hS (by decide) d_K_closesFrom_145
def f_K_closesFrom_133 (rec : Nat → Int32 → Int32 → Int32 → Int32 → Hp → Option ((Int32 × Hp))) (this : Nat) (k65 : Int32 → Int32 → Int32 → Int32 → Int32 → Int32 → Hp → Option ((Int32 × Hp))) (s1 : Int32) (s2 : Int32) (s3 : Int32) (x1 : Int32) (x2 : Int32) (x3 : Int32) (x4 : Int32) (x5 : Int32) (x6 : Int32) (h : Hp) : Option ((Int32 × Hp)) :=
  f_K_closesFrom_138 rec this k65 s1 s2 s3 (1 : Int32) x1 x2 x3 x4 x5 x6 h
set_option maxRecDepth 100000 in
set_option maxHeartbeats 4000000 in
theorem w_K_closesFrom_133 {p : Program} {l : Launch} {e : Env} {s : State} {m : MethodId} {args : Array Value} {below : List Frame} {meth : Method} {c : Code} {N0 : Nat} {D : va_G} {cs : Nat → ClassId} (M : ZC p s m args meth c "YearBaskets$Likes" "closesFrom" b_K_closesFrom 8 (some .boolean) N0 D cs) (rec : Nat → Int32 → Int32 → Int32 → Int32 → Hp → Option ((Int32 × Hp))) {n0 : Nat} (hn0 : 8 ≤ n0) (hrec : ∀ {this : Nat} {x1 : Int32} {x2 : Int32} {x3 : Int32} {x4 : Int32} {r0 : Int32} {h : Hp} {h0 : Hp}, rec this x1 x2 x3 x4 h = some (r0, h0) → Fn l N0 D cs y_K_closesFrom b_K_closesFrom 8 (some .boolean) n0 0 0 [.ref this, .int x1, .int x2, .int x3, .int x4] h (some (.int r0)) h0 ∧ isO h this 3 = true) (this : Nat) (k65 : Int32 → Int32 → Int32 → Int32 → Int32 → Int32 → Hp → Option ((Int32 × Hp))) {r0 : Int32} {h0 : Hp} (hk65 : ∀ (x1 : Int32) (x2 : Int32) (x3 : Int32) (x4 : Int32) (x5 : Int32) (x6 : Int32) (h : Hp), k65 x1 x2 x3 x4 x5 x6 h = some (r0, h0) → ZG p l e (zrm (n0 + 1) 0 0) s m args below meth c N0 D cs (some (.int r0)) h0 h 8 [(0, .ref this), (1, .int x1), (2, .int x2), (3, .int x3), (4, .int x4), (5, .int x5), (6, .int x6)] 65 []) (s1 : Int32) (s2 : Int32) (s3 : Int32) (x1 : Int32) (x2 : Int32) (x3 : Int32) (x4 : Int32) (x5 : Int32) (x6 : Int32) (h : Hp) (hf : f_K_closesFrom_133 rec this k65 s1 s2 s3 x1 x2 x3 x4 x5 x6 h = some (r0, h0)) : ZG p l e (zrm (n0 + 1) 0 0) s m args below meth c N0 D cs (some (.int r0)) h0 h 8 [(0, .ref this), (1, .int x1), (2, .int x2), (3, .int x3), (4, .int x4), (5, .int x5), (6, .int x6)] 133 [.int s3, .int s2, .int s1, .ref this] := by
  intro H locs ls hH hS hl
  unfold f_K_closesFrom_133 at hf
  refine lv_iconst (v := (1 : Int32)) M.x M.b d_K_closesFrom_133 rfl ?_
  refine lv_goto (tgt := 138) M.x M.b d_K_closesFrom_134 (by decide) ?_
  exact w_K_closesFrom_138 M rec hn0 hrec this k65 hk65 _ _ _ _ _ _ _ _ _ _ _ hf H locs ls hH hS (lv_sub hl [0, 1, 2, 3, 4, 5, 6] rfl)
def f_K_closesFrom_94 (rec : Nat → Int32 → Int32 → Int32 → Int32 → Hp → Option ((Int32 × Hp))) (this : Nat) (k65 : Int32 → Int32 → Int32 → Int32 → Int32 → Int32 → Hp → Option ((Int32 × Hp))) (s0 : Int32) (x1 : Int32) (x2 : Int32) (x3 : Int32) (x4 : Int32) (x5 : Int32) (x6 : Int32) (h : Hp) : Option ((Int32 × Hp)) :=
  if s0 = 0 then
    f_K_closesFrom_146 rec this k65 x1 x2 x3 x4 x5 x6 h
  else
  (f_K_setYearInRing this x1 x6 h).bind fun h6 =>
  if x4 = 0 then
    if s0 = (2 : Int32) then
      f_K_closesFrom_133 rec this k65 (x1 + (1 : Int32)) x2 (x3 ||| ((1 : Int32) <<< (x6 &&& 31))) x1 x2 x3 x4 x5 x6 h6
    else
    f_K_closesFrom_138 rec this k65 (x1 + (1 : Int32)) x2 (x3 ||| ((1 : Int32) <<< (x6 &&& 31))) (0 : Int32) x1 x2 x3 x4 x5 x6 h6
  else
  f_K_closesFrom_133 rec this k65 (x1 + (1 : Int32)) x2 (x3 ||| ((1 : Int32) <<< (x6 &&& 31))) x1 x2 x3 x4 x5 x6 h6
set_option maxRecDepth 100000 in
set_option maxHeartbeats 4000000 in
theorem w_K_closesFrom_94 {p : Program} {l : Launch} {e : Env} {s : State} {m : MethodId} {args : Array Value} {below : List Frame} {meth : Method} {c : Code} {N0 : Nat} {D : va_G} {cs : Nat → ClassId} (M : ZC p s m args meth c "YearBaskets$Likes" "closesFrom" b_K_closesFrom 8 (some .boolean) N0 D cs) (rec : Nat → Int32 → Int32 → Int32 → Int32 → Hp → Option ((Int32 × Hp))) {n0 : Nat} (hn0 : 8 ≤ n0) (hrec : ∀ {this : Nat} {x1 : Int32} {x2 : Int32} {x3 : Int32} {x4 : Int32} {r0 : Int32} {h : Hp} {h0 : Hp}, rec this x1 x2 x3 x4 h = some (r0, h0) → Fn l N0 D cs y_K_closesFrom b_K_closesFrom 8 (some .boolean) n0 0 0 [.ref this, .int x1, .int x2, .int x3, .int x4] h (some (.int r0)) h0 ∧ isO h this 3 = true) (this : Nat) (k65 : Int32 → Int32 → Int32 → Int32 → Int32 → Int32 → Hp → Option ((Int32 × Hp))) {r0 : Int32} {h0 : Hp} (hk65 : ∀ (x1 : Int32) (x2 : Int32) (x3 : Int32) (x4 : Int32) (x5 : Int32) (x6 : Int32) (h : Hp), k65 x1 x2 x3 x4 x5 x6 h = some (r0, h0) → ZG p l e (zrm (n0 + 1) 0 0) s m args below meth c N0 D cs (some (.int r0)) h0 h 8 [(0, .ref this), (1, .int x1), (2, .int x2), (3, .int x3), (4, .int x4), (5, .int x5), (6, .int x6)] 65 []) (s0 : Int32) (x1 : Int32) (x2 : Int32) (x3 : Int32) (x4 : Int32) (x5 : Int32) (x6 : Int32) (h : Hp) (hf : f_K_closesFrom_94 rec this k65 s0 x1 x2 x3 x4 x5 x6 h = some (r0, h0)) : ZG p l e (zrm (n0 + 1) 0 0) s m args below meth c N0 D cs (some (.int r0)) h0 h 8 [(0, .ref this), (1, .int x1), (2, .int x2), (3, .int x3), (4, .int x4), (5, .int x5), (6, .int x6)] 94 [.int s0] := by
  intro H locs ls hH hS hl
  unfold f_K_closesFrom_94 at hf
  refine lv_istore (lv' := [(7, .int s0), (0, .ref this), (1, .int x1), (2, .int x2), (3, .int x3), (4, .int x4), (5, .int x5), (6, .int x6)]) M.x M.b d_K_closesFrom_94 hl (by decide) rfl (fun ls hl => ?_)
  refine lv_iload M.x M.b d_K_closesFrom_96 (lv_at hl 0 rfl) ?_
  refine lv_if_ne (tgt := 104) M.x M.b d_K_closesFrom_98 (by decide) (fun c9 => ?_) (fun c9 => ?_)
  · replace hf := z_f c9 hf
    refine lv_aload_n M.x M.b d_K_closesFrom_104 rfl (lv_at hl 1 rfl) ?_
    refine lv_iload_n M.x M.b d_K_closesFrom_105 rfl (lv_at hl 2 rfl) ?_
    refine lv_iload M.x M.b d_K_closesFrom_106 (lv_at hl 7 rfl) ?_
    replace hf := z_bind hf; obtain ⟨h6, e5, hf⟩ := hf
    refine zk_V (ci := 3) (st1 := []) M hH hS (c_K_setYearInRing e5) rfl (o_K_setYearInRing e5) w_K_setYearInRing q_341 [] rfl (zR_n (by omega) (by decide)) hl.1 rfl rfl (Nat.le_of_ble_eq_true rfl) d_K_closesFrom_108 (fun H locs hH hS => ?_)
    refine lv_aload_n M.x M.b d_K_closesFrom_111 rfl (lv_at hl 1 rfl) ?_
    refine lv_iload_n M.x M.b d_K_closesFrom_112 rfl (lv_at hl 2 rfl) ?_
    refine lv_iconst (v := (1 : Int32)) M.x M.b d_K_closesFrom_113 rfl ?_
    refine lv_iadd M.x M.b d_K_closesFrom_114 ?_
    refine lv_iload_n M.x M.b d_K_closesFrom_115 rfl (lv_at hl 3 rfl) ?_
    refine lv_iload_n M.x M.b d_K_closesFrom_116 rfl (lv_at hl 4 rfl) ?_
    refine lv_iconst (v := (1 : Int32)) M.x M.b d_K_closesFrom_117 rfl ?_
    refine lv_iload M.x M.b d_K_closesFrom_118 (lv_at hl 7 rfl) ?_
    refine lv_ishl M.x M.b d_K_closesFrom_120 ?_
    refine lv_ior M.x M.b d_K_closesFrom_121 ?_
    refine lv_iload M.x M.b d_K_closesFrom_122 (lv_at hl 5 rfl) ?_
    refine lv_if_ne (tgt := 133) M.x M.b d_K_closesFrom_124 (by decide) (fun c8 => ?_) (fun c8 => ?_)
    · replace hf := z_f c8 hf
      exact w_K_closesFrom_133 M rec hn0 hrec this k65 hk65 _ _ _ _ _ _ _ _ _ _ hf H locs ls hH hS (lv_sub hl [1, 2, 3, 4, 5, 6, 7] rfl)
    · replace hf := z_t c8 hf
      refine lv_iload M.x M.b d_K_closesFrom_127 (lv_at hl 0 rfl) ?_
      refine lv_iconst (v := (2 : Int32)) M.x M.b d_K_closesFrom_129 rfl ?_
      refine lv_icmp_ne (tgt := 137) M.x M.b d_K_closesFrom_130 (by decide) (fun c7 => ?_) (fun c7 => ?_)
      · replace hf := z_f c7 hf
        refine lv_iconst (v := (0 : Int32)) M.x M.b d_K_closesFrom_137 rfl ?_
        exact w_K_closesFrom_138 M rec hn0 hrec this k65 hk65 _ _ _ _ _ _ _ _ _ _ _ hf H locs ls hH hS (lv_sub hl [1, 2, 3, 4, 5, 6, 7] rfl)
      · replace hf := z_t c7 hf
        exact w_K_closesFrom_133 M rec hn0 hrec this k65 hk65 _ _ _ _ _ _ _ _ _ _ hf H locs ls hH hS (lv_sub hl [1, 2, 3, 4, 5, 6, 7] rfl)
  · replace hf := z_t c9 hf
    refine lv_goto (tgt := 146) M.x M.b d_K_closesFrom_101 (by decide) ?_
    exact w_K_closesFrom_146 M rec hn0 hrec this k65 hk65 _ _ _ _ _ _ _ hf H locs ls hH hS (lv_sub hl [1, 2, 3, 4, 5, 6, 7] rfl)
def t_K_closesFrom_65 (rec : Nat → Int32 → Int32 → Int32 → Int32 → Hp → Option ((Int32 × Hp))) (this : Nat) (k65 : Int32 → Int32 → Int32 → Int32 → Int32 → Int32 → Hp → Option ((Int32 × Hp))) (x1 : Int32) (x2 : Int32) (x3 : Int32) (x4 : Int32) (x5 : Int32) (x6 : Int32) (h : Hp) : Option ((Int32 × Hp)) :=
  if (8 : Int32) ≤ x6 then
    some ((0 : Int32), h)
  else
  if ((x3 >>> (x6 &&& 31)) &&& (1 : Int32)) = (1 : Int32) then
    f_K_closesFrom_94 rec this k65 (0 : Int32) x1 x2 x3 x4 x5 x6 h
  else
  (f_K_choiceAt this h x5 x6).bind fun i11 =>
  f_K_closesFrom_94 rec this k65 i11 x1 x2 x3 x4 x5 x6 h
set_option maxRecDepth 100000 in
set_option maxHeartbeats 4000000 in
theorem v_K_closesFrom_65 {p : Program} {l : Launch} {e : Env} {s : State} {m : MethodId} {args : Array Value} {below : List Frame} {meth : Method} {c : Code} {N0 : Nat} {D : va_G} {cs : Nat → ClassId} (M : ZC p s m args meth c "YearBaskets$Likes" "closesFrom" b_K_closesFrom 8 (some .boolean) N0 D cs) (rec : Nat → Int32 → Int32 → Int32 → Int32 → Hp → Option ((Int32 × Hp))) {n0 : Nat} (hn0 : 8 ≤ n0) (hrec : ∀ {this : Nat} {x1 : Int32} {x2 : Int32} {x3 : Int32} {x4 : Int32} {r0 : Int32} {h : Hp} {h0 : Hp}, rec this x1 x2 x3 x4 h = some (r0, h0) → Fn l N0 D cs y_K_closesFrom b_K_closesFrom 8 (some .boolean) n0 0 0 [.ref this, .int x1, .int x2, .int x3, .int x4] h (some (.int r0)) h0 ∧ isO h this 3 = true) (this : Nat) (k65 : Int32 → Int32 → Int32 → Int32 → Int32 → Int32 → Hp → Option ((Int32 × Hp))) {r0 : Int32} {h0 : Hp} (hk65 : ∀ (x1 : Int32) (x2 : Int32) (x3 : Int32) (x4 : Int32) (x5 : Int32) (x6 : Int32) (h : Hp), k65 x1 x2 x3 x4 x5 x6 h = some (r0, h0) → ZG p l e (zrm (n0 + 1) 0 0) s m args below meth c N0 D cs (some (.int r0)) h0 h 8 [(0, .ref this), (1, .int x1), (2, .int x2), (3, .int x3), (4, .int x4), (5, .int x5), (6, .int x6)] 65 []) (x1 : Int32) (x2 : Int32) (x3 : Int32) (x4 : Int32) (x5 : Int32) (x6 : Int32) (h : Hp) (hf : t_K_closesFrom_65 rec this k65 x1 x2 x3 x4 x5 x6 h = some (r0, h0)) : ZG p l e (zrm (n0 + 1) 0 0) s m args below meth c N0 D cs (some (.int r0)) h0 h 8 [(0, .ref this), (1, .int x1), (2, .int x2), (3, .int x3), (4, .int x4), (5, .int x5), (6, .int x6)] 65 [] := by
  intro H locs ls hH hS hl
  unfold t_K_closesFrom_65 at hf
  refine lv_iload M.x M.b d_K_closesFrom_65 (lv_at hl 6 rfl) ?_
  refine lv_bipush (v := (8 : Int32)) M.x M.b d_K_closesFrom_67 rfl ?_
  refine lv_icmp_ge (tgt := 152) M.x M.b d_K_closesFrom_69 (by decide) (fun c13 => ?_) (fun c13 => ?_)
  · replace hf := z_t c13 hf
    refine lv_iconst (v := (0 : Int32)) M.x M.b d_K_closesFrom_152 rfl ?_
    obtain ⟨rfl, rfl⟩ := z_r2 hf
    exact z_zret M hH hS (by decide) d_K_closesFrom_153
  · replace hf := z_f c13 hf
    refine lv_iload_n M.x M.b d_K_closesFrom_72 rfl (lv_at hl 3 rfl) ?_
    refine lv_iload M.x M.b d_K_closesFrom_73 (lv_at hl 6 rfl) ?_
    refine lv_ishr M.x M.b d_K_closesFrom_75 ?_
    refine lv_iconst (v := (1 : Int32)) M.x M.b d_K_closesFrom_76 rfl ?_
    refine lv_iand M.x M.b d_K_closesFrom_77 ?_
    refine lv_iconst (v := (1 : Int32)) M.x M.b d_K_closesFrom_78 rfl ?_
    refine lv_icmp_ne (tgt := 86) M.x M.b d_K_closesFrom_79 (by decide) (fun c12 => ?_) (fun c12 => ?_)
    · replace hf := z_f c12 hf
      refine lv_aload_n M.x M.b d_K_closesFrom_86 rfl (lv_at hl 0 rfl) ?_
      refine lv_iload M.x M.b d_K_closesFrom_87 (lv_at hl 5 rfl) ?_
      refine lv_iload M.x M.b d_K_closesFrom_89 (lv_at hl 6 rfl) ?_
      replace hf := z_bind hf; obtain ⟨i11, e10, hf⟩ := hf
      refine zk_V (ci := 3) (st1 := [.int i11]) M hH hS (c_K_choiceAt e10) rfl (o_K_choiceAt e10) w_K_choiceAt q_331 [] rfl (zR_n (by omega) (by decide)) hl.1 rfl rfl (Nat.le_of_ble_eq_true rfl) d_K_closesFrom_91 (fun H locs hH hS => ?_)
      exact w_K_closesFrom_94 M rec hn0 hrec this k65 hk65 _ _ _ _ _ _ _ _ hf H locs ls hH hS (lv_sub hl [0, 1, 2, 3, 4, 5, 6] rfl)
    · replace hf := z_t c12 hf
      refine lv_iconst (v := (0 : Int32)) M.x M.b d_K_closesFrom_82 rfl ?_
      refine lv_goto (tgt := 94) M.x M.b d_K_closesFrom_83 (by decide) ?_
      exact w_K_closesFrom_94 M rec hn0 hrec this k65 hk65 _ _ _ _ _ _ _ _ hf H locs ls hH hS (lv_sub hl [0, 1, 2, 3, 4, 5, 6] rfl)
def f_K_closesFrom_65 (rec : Nat → Int32 → Int32 → Int32 → Int32 → Hp → Option ((Int32 × Hp))) (this : Nat) : Nat → Int32 → Int32 → Int32 → Int32 → Int32 → Int32 → Hp → Option ((Int32 × Hp))
  | 0, _, _, _, _, _, _, _ => none
  | n + 1, x1, x2, x3, x4, x5, x6, h => t_K_closesFrom_65 rec this (f_K_closesFrom_65 rec this n) x1 x2 x3 x4 x5 x6 h
theorem w_K_closesFrom_65 {p : Program} {l : Launch} {e : Env} {s : State} {m : MethodId} {args : Array Value} {below : List Frame} {meth : Method} {c : Code} {N0 : Nat} {D : va_G} {cs : Nat → ClassId} (M : ZC p s m args meth c "YearBaskets$Likes" "closesFrom" b_K_closesFrom 8 (some .boolean) N0 D cs) (rec : Nat → Int32 → Int32 → Int32 → Int32 → Hp → Option ((Int32 × Hp))) {n0 : Nat} (hn0 : 8 ≤ n0) (hrec : ∀ {this : Nat} {x1 : Int32} {x2 : Int32} {x3 : Int32} {x4 : Int32} {r0 : Int32} {h : Hp} {h0 : Hp}, rec this x1 x2 x3 x4 h = some (r0, h0) → Fn l N0 D cs y_K_closesFrom b_K_closesFrom 8 (some .boolean) n0 0 0 [.ref this, .int x1, .int x2, .int x3, .int x4] h (some (.int r0)) h0 ∧ isO h this 3 = true) (this : Nat)  {r0 : Int32} {h0 : Hp}  : ∀ (n : Nat) (x1 : Int32) (x2 : Int32) (x3 : Int32) (x4 : Int32) (x5 : Int32) (x6 : Int32) (h : Hp), f_K_closesFrom_65 rec this n x1 x2 x3 x4 x5 x6 h = some (r0, h0) → ZG p l e (zrm (n0 + 1) 0 0) s m args below meth c N0 D cs (some (.int r0)) h0 h 8 [(0, .ref this), (1, .int x1), (2, .int x2), (3, .int x3), (4, .int x4), (5, .int x5), (6, .int x6)] 65 [] := by
  intro n
  induction n with
  | zero => intro x1 x2 x3 x4 x5 x6 h hf; exact absurd (show none = some _ from hf) (fun q => by cases q)
  | succ n ih => intro x1 x2 x3 x4 x5 x6 h hf; exact v_K_closesFrom_65 M rec hn0 hrec this (f_K_closesFrom_65 rec this n)  ih _ _ _ _ _ _ _ hf
def f_K_closesFrom_20 (rec : Nat → Int32 → Int32 → Int32 → Int32 → Hp → Option ((Int32 × Hp))) (this : Nat) (x4 : Int32) (x5 : Int32) (h : Hp) : Option ((Int32 × Hp)) :=
  (f_K_yearInRing this h (0 : Int32)).bind fun i15 =>
  (f_K_choiceAt this h x5 i15).bind fun i17 =>
  if i17 = (2 : Int32) then
    some ((1 : Int32), h)
  else
  if i17 = (1 : Int32) then
    if x4 = 0 then
      some ((0 : Int32), h)
    else
    some ((1 : Int32), h)
  else
  some ((0 : Int32), h)
set_option maxRecDepth 100000 in
set_option maxHeartbeats 4000000 in
theorem w_K_closesFrom_20 {p : Program} {l : Launch} {e : Env} {s : State} {m : MethodId} {args : Array Value} {below : List Frame} {meth : Method} {c : Code} {N0 : Nat} {D : va_G} {cs : Nat → ClassId} (M : ZC p s m args meth c "YearBaskets$Likes" "closesFrom" b_K_closesFrom 8 (some .boolean) N0 D cs) (rec : Nat → Int32 → Int32 → Int32 → Int32 → Hp → Option ((Int32 × Hp))) {n0 : Nat} (hn0 : 8 ≤ n0) (hrec : ∀ {this : Nat} {x1 : Int32} {x2 : Int32} {x3 : Int32} {x4 : Int32} {r0 : Int32} {h : Hp} {h0 : Hp}, rec this x1 x2 x3 x4 h = some (r0, h0) → Fn l N0 D cs y_K_closesFrom b_K_closesFrom 8 (some .boolean) n0 0 0 [.ref this, .int x1, .int x2, .int x3, .int x4] h (some (.int r0)) h0 ∧ isO h this 3 = true) (this : Nat)  {r0 : Int32} {h0 : Hp}  (x4 : Int32) (x5 : Int32) (h : Hp) (hf : f_K_closesFrom_20 rec this x4 x5 h = some (r0, h0)) : ZG p l e (zrm (n0 + 1) 0 0) s m args below meth c N0 D cs (some (.int r0)) h0 h 8 [(0, .ref this), (4, .int x4), (5, .int x5)] 20 [] := by
  intro H locs ls hH hS hl
  unfold f_K_closesFrom_20 at hf
  refine lv_aload_n M.x M.b d_K_closesFrom_20 rfl (lv_at hl 0 rfl) ?_
  refine lv_iload M.x M.b d_K_closesFrom_21 (lv_at hl 2 rfl) ?_
  refine lv_aload_n M.x M.b d_K_closesFrom_23 rfl (lv_at hl 0 rfl) ?_
  refine lv_iconst (v := (0 : Int32)) M.x M.b d_K_closesFrom_24 rfl ?_
  replace hf := z_bind hf; obtain ⟨i15, e14, hf⟩ := hf
  refine zk_V (ci := 3) (st1 := [.int i15, .int x5, .ref this]) M hH hS (c_K_yearInRing e14) rfl (o_K_yearInRing e14) w_K_yearInRing q_342 [.int x5, .ref this] rfl (zR_n (by omega) (by decide)) hl.1 rfl rfl (Nat.le_of_ble_eq_true rfl) d_K_closesFrom_25 (fun H locs hH hS => ?_)
  replace hf := z_bind hf; obtain ⟨i17, e16, hf⟩ := hf
  refine zk_V (ci := 3) (st1 := [.int i17]) M hH hS (c_K_choiceAt e16) rfl (o_K_choiceAt e16) w_K_choiceAt q_331 [] rfl (zR_n (by omega) (by decide)) hl.1 rfl rfl (Nat.le_of_ble_eq_true rfl) d_K_closesFrom_28 (fun H locs hH hS => ?_)
  refine lv_istore (lv' := [(6, .int i17), (0, .ref this), (4, .int x4), (5, .int x5)]) M.x M.b d_K_closesFrom_31 hl (by decide) rfl (fun ls hl => ?_)
  refine lv_iload M.x M.b d_K_closesFrom_33 (lv_at hl 0 rfl) ?_
  refine lv_iconst (v := (2 : Int32)) M.x M.b d_K_closesFrom_35 rfl ?_
  refine lv_icmp_eq (tgt := 50) M.x M.b d_K_closesFrom_36 (by decide) (fun c20 => ?_) (fun c20 => ?_)
  · replace hf := z_t c20 hf
    refine lv_iconst (v := (1 : Int32)) M.x M.b d_K_closesFrom_50 rfl ?_
    refine lv_goto (tgt := 55) M.x M.b d_K_closesFrom_51 (by decide) ?_
    obtain ⟨rfl, rfl⟩ := z_r2 hf
    exact z_zret M hH hS (by decide) d_K_closesFrom_55
  · replace hf := z_f c20 hf
    refine lv_iload M.x M.b d_K_closesFrom_39 (lv_at hl 0 rfl) ?_
    refine lv_iconst (v := (1 : Int32)) M.x M.b d_K_closesFrom_41 rfl ?_
    refine lv_icmp_ne (tgt := 54) M.x M.b d_K_closesFrom_42 (by decide) (fun c19 => ?_) (fun c19 => ?_)
    · replace hf := z_f c19 hf
      refine lv_iconst (v := (0 : Int32)) M.x M.b d_K_closesFrom_54 rfl ?_
      obtain ⟨rfl, rfl⟩ := z_r2 hf
      exact z_zret M hH hS (by decide) d_K_closesFrom_55
    · replace hf := z_t c19 hf
      refine lv_iload M.x M.b d_K_closesFrom_45 (lv_at hl 2 rfl) ?_
      refine lv_if_eq (tgt := 54) M.x M.b d_K_closesFrom_47 (by decide) (fun c18 => ?_) (fun c18 => ?_)
      · replace hf := z_t c18 hf
        refine lv_iconst (v := (0 : Int32)) M.x M.b d_K_closesFrom_54 rfl ?_
        obtain ⟨rfl, rfl⟩ := z_r2 hf
        exact z_zret M hH hS (by decide) d_K_closesFrom_55
      · replace hf := z_f c18 hf
        refine lv_iconst (v := (1 : Int32)) M.x M.b d_K_closesFrom_50 rfl ?_
        refine lv_goto (tgt := 55) M.x M.b d_K_closesFrom_51 (by decide) ?_
        obtain ⟨rfl, rfl⟩ := z_r2 hf
        exact z_zret M hH hS (by decide) d_K_closesFrom_55
def t_K_closesFrom (rec : Nat → Int32 → Int32 → Int32 → Int32 → Hp → Option ((Int32 × Hp))) (this : Nat) (x1 : Int32) (x2 : Int32) (x3 : Int32) (x4 : Int32) (h : Hp) : Option ((Int32 × Hp)) :=
  if isO h this 3 = true then
  (f_K_yearInRing this h (x1 - (1 : Int32))).bind fun i22 =>
  if x2 ≤ x1 then
    f_K_closesFrom_20 rec this x4 i22 h
  else
  if x1 < (8 : Int32) then
    (f_K_yearInRing this h (0 : Int32)).bind fun i24 =>
    f_K_closesFrom_65 rec this FU x1 x2 x3 x4 i22 (i24 + (1 : Int32)) h
  else
  f_K_closesFrom_20 rec this x4 i22 h
  else none
theorem ot_K_closesFrom {rec : Nat → Int32 → Int32 → Int32 → Int32 → Hp → Option ((Int32 × Hp))} {this : Nat} {x1 : Int32} {x2 : Int32} {x3 : Int32} {x4 : Int32} {h : Hp} {r0 : Int32} {h0 : Hp} (hf : t_K_closesFrom rec this x1 x2 x3 x4 h = some (r0, h0)) : isO h this 3 = true := by
  unfold t_K_closesFrom at hf
  exact (z_gd hf).1
set_option maxRecDepth 100000 in
set_option maxHeartbeats 4000000 in
theorem ct_K_closesFrom {l : Launch} {N0 : Nat} {D : va_G} {cs : Nat → ClassId} (rec : Nat → Int32 → Int32 → Int32 → Int32 → Hp → Option ((Int32 × Hp))) {n0 : Nat} (hn0 : 8 ≤ n0) (hrec : ∀ {this : Nat} {x1 : Int32} {x2 : Int32} {x3 : Int32} {x4 : Int32} {r0 : Int32} {h : Hp} {h0 : Hp}, rec this x1 x2 x3 x4 h = some (r0, h0) → Fn l N0 D cs y_K_closesFrom b_K_closesFrom 8 (some .boolean) n0 0 0 [.ref this, .int x1, .int x2, .int x3, .int x4] h (some (.int r0)) h0 ∧ isO h this 3 = true) {this : Nat} {x1 : Int32} {x2 : Int32} {x3 : Int32} {x4 : Int32} {h : Hp} {r0 : Int32} {h0 : Hp} (hf : t_K_closesFrom rec this x1 x2 x3 x4 h = some (r0, h0)) : Fn l N0 D cs y_K_closesFrom b_K_closesFrom 8 (some .boolean) (n0 + 1) 0 0 [.ref this, .int x1, .int x2, .int x3, .int x4] h (some (.int r0)) h0 := by
  refine z_start (by decide) (Nat.le_of_ble_eq_true rfl) ?_
  intro p e s m args below meth c M hH hS ls hl
  unfold t_K_closesFrom at hf
  obtain ⟨hO, hf⟩ := z_gd hf
  have hl : lv_has ls 8 [(0, .ref this), (1, .int x1), (2, .int x2), (3, .int x3), (4, .int x4)] := hl
  obtain ⟨H, hHe⟩ : ∃ H, H = s.heap := ⟨_, rfl⟩
  obtain ⟨locs, hLe⟩ : ∃ locs : List Loc, locs = [] := ⟨_, rfl⟩
  have hS : va_S (zA N0) s.heap H locs := by rw [hHe, hLe]; exact hS
  have hH : HH N0 D cs h H := by rw [hHe]; exact hH
  suffices hg : W p l e (zrm (n0 + 1) 0 0) s m args below meth c H locs 0 0 (MQ below (zQ N0 D cs (some (.int r0)) h0) args s 0 0 (zA N0)) (F0 m 0 ls []) by rw [hHe, hLe] at hg; exact hg
  clear hHe hLe
  refine lv_aload_n M.x M.b d_K_closesFrom_0 rfl (lv_at hl 0 rfl) ?_
  refine lv_iload_n M.x M.b d_K_closesFrom_1 rfl (lv_at hl 1 rfl) ?_
  refine lv_iconst (v := (1 : Int32)) M.x M.b d_K_closesFrom_2 rfl ?_
  refine lv_isub M.x M.b d_K_closesFrom_3 ?_
  replace hf := z_bind hf; obtain ⟨i22, e21, hf⟩ := hf
  refine zk_V (ci := 3) (st1 := [.int i22]) M hH hS (c_K_yearInRing e21) rfl (o_K_yearInRing e21) w_K_yearInRing q_342 [] rfl (zR_n (by omega) (by decide)) hl.1 rfl rfl (Nat.le_of_ble_eq_true rfl) d_K_closesFrom_4 (fun H locs hH hS => ?_)
  refine lv_istore (lv' := [(5, .int i22), (0, .ref this), (1, .int x1), (2, .int x2), (3, .int x3), (4, .int x4)]) M.x M.b d_K_closesFrom_7 hl (by decide) rfl (fun ls hl => ?_)
  refine lv_iload_n M.x M.b d_K_closesFrom_9 rfl (lv_at hl 2 rfl) ?_
  refine lv_iload_n M.x M.b d_K_closesFrom_10 rfl (lv_at hl 3 rfl) ?_
  refine lv_icmp_ge (tgt := 20) M.x M.b d_K_closesFrom_11 (by decide) (fun c26 => ?_) (fun c26 => ?_)
  · replace hf := z_t c26 hf
    exact w_K_closesFrom_20 M rec hn0 hrec this _ _ _ hf H locs ls hH hS (lv_sub hl [1, 5, 0] rfl)
  · replace hf := z_f c26 hf
    refine lv_iload_n M.x M.b d_K_closesFrom_14 rfl (lv_at hl 2 rfl) ?_
    refine lv_bipush (v := (8 : Int32)) M.x M.b d_K_closesFrom_15 rfl ?_
    refine lv_icmp_lt (tgt := 56) M.x M.b d_K_closesFrom_17 (by decide) (fun c25 => ?_) (fun c25 => ?_)
    · replace hf := z_t c25 hf
      refine lv_aload_n M.x M.b d_K_closesFrom_56 rfl (lv_at hl 1 rfl) ?_
      refine lv_iconst (v := (0 : Int32)) M.x M.b d_K_closesFrom_57 rfl ?_
      replace hf := z_bind hf; obtain ⟨i24, e23, hf⟩ := hf
      refine zk_V (ci := 3) (st1 := [.int i24]) M hH hS (c_K_yearInRing e23) rfl (o_K_yearInRing e23) w_K_yearInRing q_342 [] rfl (zR_n (by omega) (by decide)) hl.1 rfl rfl (Nat.le_of_ble_eq_true rfl) d_K_closesFrom_58 (fun H locs hH hS => ?_)
      refine lv_iconst (v := (1 : Int32)) M.x M.b d_K_closesFrom_61 rfl ?_
      refine lv_iadd M.x M.b d_K_closesFrom_62 ?_
      refine lv_istore (lv' := [(6, .int (i24 + (1 : Int32))), (5, .int i22), (0, .ref this), (1, .int x1), (2, .int x2), (3, .int x3), (4, .int x4)]) M.x M.b d_K_closesFrom_63 hl (by decide) rfl (fun ls hl => ?_)
      exact w_K_closesFrom_65 M rec hn0 hrec this FU _ _ _ _ _ _ _ hf H locs ls hH hS (lv_sub hl [2, 3, 4, 5, 6, 1, 0] rfl)
    · replace hf := z_f c25 hf
      exact w_K_closesFrom_20 M rec hn0 hrec this _ _ _ hf H locs ls hH hS (lv_sub hl [1, 5, 0] rfl)
def f_K_closesFrom : Nat → Nat → Int32 → Int32 → Int32 → Int32 → Hp → Option ((Int32 × Hp))
  | 0, _, _, _, _, _, _ => none
  | n + 1, this, x1, x2, x3, x4, h => t_K_closesFrom (f_K_closesFrom n) this x1 x2 x3 x4 h
theorem o_K_closesFrom : ∀ {k : Nat} {this : Nat} {x1 : Int32} {x2 : Int32} {x3 : Int32} {x4 : Int32} {h : Hp} {r0 : Int32} {h0 : Hp}, f_K_closesFrom k this x1 x2 x3 x4 h = some (r0, h0) → isO h this 3 = true := by
  intro k
  cases k with
  | zero => intros; rename_i hf; exact absurd (show none = some _ from hf) (fun q => by cases q)
  | succ k => intros; rename_i hf; exact ot_K_closesFrom hf
theorem c_K_closesFrom {l : Launch} {N0 : Nat} {D : va_G} {cs : Nat → ClassId} : ∀ {k : Nat} {this : Nat} {x1 : Int32} {x2 : Int32} {x3 : Int32} {x4 : Int32} {h : Hp} {r0 : Int32} {h0 : Hp}, f_K_closesFrom k this x1 x2 x3 x4 h = some (r0, h0) → Fn l N0 D cs y_K_closesFrom b_K_closesFrom 8 (some .boolean) (8 + 1 * k) 0 0 [.ref this, .int x1, .int x2, .int x3, .int x4] h (some (.int r0)) h0 := by
  intro k
  induction k with
  | zero => intros; rename_i hf; exact absurd (show none = some _ from hf) (fun q => by cases q)
  | succ k ih => intros; rename_i hf; exact ct_K_closesFrom (n0 := 8 + 1 * k) (f_K_closesFrom k) (Nat.le_add_right _ _) (fun hf => ⟨ih hf, o_K_closesFrom hf⟩) hf
def t_K_findRing_24 (this : Nat) (k16 : Int32 → Hp → Option ((Int32 × Hp))) (k24 : Int32 → Int32 → Hp → Option ((Int32 × Hp))) (x2 : Int32) (x3 : Int32) (h : Hp) : Option ((Int32 × Hp)) :=
  if (8 : Int32) ≤ x3 then
    k16 (x2 + (1 : Int32)) h
  else
  (f_K_setYearInRing this (0 : Int32) x3 h).bind fun h2 =>
  zb2 (f_K_closesFrom 12 this (1 : Int32) x2 ((1 : Int32) <<< (x3 &&& 31)) (0 : Int32) h2) fun i4 h5 =>
  if i4 = 0 then
    k24 x2 (x3 + (1 : Int32)) h5
  else
  some (x2, h5)
set_option maxRecDepth 100000 in
set_option maxHeartbeats 4000000 in
theorem v_K_findRing_24 {p : Program} {l : Launch} {e : Env} {s : State} {m : MethodId} {args : Array Value} {below : List Frame} {meth : Method} {c : Code} {N0 : Nat} {D : va_G} {cs : Nat → ClassId} (M : ZC p s m args meth c "YearBaskets$Likes" "findRing" b_K_findRing 4 (some .int) N0 D cs) (this : Nat) (k16 : Int32 → Hp → Option ((Int32 × Hp))) (k24 : Int32 → Int32 → Hp → Option ((Int32 × Hp))) {r0 : Int32} {h0 : Hp} (hk16 : ∀ (x2 : Int32) (h : Hp), k16 x2 h = some (r0, h0) → ZG p l e (zrm 21 0 0) s m args below meth c N0 D cs (some (.int r0)) h0 h 4 [(0, .ref this), (2, .int x2)] 16 []) (hk24 : ∀ (x2 : Int32) (x3 : Int32) (h : Hp), k24 x2 x3 h = some (r0, h0) → ZG p l e (zrm 21 0 0) s m args below meth c N0 D cs (some (.int r0)) h0 h 4 [(0, .ref this), (2, .int x2), (3, .int x3)] 24 []) (x2 : Int32) (x3 : Int32) (h : Hp) (hf : t_K_findRing_24 this k16 k24 x2 x3 h = some (r0, h0)) : ZG p l e (zrm 21 0 0) s m args below meth c N0 D cs (some (.int r0)) h0 h 4 [(0, .ref this), (2, .int x2), (3, .int x3)] 24 [] := by
  intro H locs ls hH hS hl
  unfold t_K_findRing_24 at hf
  refine lv_iload_n M.x M.b d_K_findRing_24 rfl (lv_at hl 2 rfl) ?_
  refine lv_bipush (v := (8 : Int32)) M.x M.b d_K_findRing_25 rfl ?_
  refine lv_icmp_ge (tgt := 57) M.x M.b d_K_findRing_27 (by decide) (fun c7 => ?_) (fun c7 => ?_)
  · replace hf := z_t c7 hf
    refine lv_iinc (v := (x2 + (1 : Int32))) (lv' := [(2, .int (x2 + (1 : Int32))), (0, .ref this), (3, .int x3)]) M.x M.b d_K_findRing_57 hl (k := 1) rfl rfl (by decide) rfl (fun ls hl => ?_)
    refine lv_goto (tgt := 16) M.x M.b d_K_findRing_60 (by decide) ?_
    exact hk16 _ _ hf H locs ls hH hS (lv_sub hl [1, 0] rfl)
  · replace hf := z_f c7 hf
    refine lv_aload_n M.x M.b d_K_findRing_30 rfl (lv_at hl 0 rfl) ?_
    refine lv_iconst (v := (0 : Int32)) M.x M.b d_K_findRing_31 rfl ?_
    refine lv_iload_n M.x M.b d_K_findRing_32 rfl (lv_at hl 2 rfl) ?_
    replace hf := z_bind hf; obtain ⟨h2, e1, hf⟩ := hf
    refine zk_V (ci := 3) (st1 := []) M hH hS (c_K_setYearInRing e1) rfl (o_K_setYearInRing e1) w_K_setYearInRing q_341 [] rfl ⟨Nat.le_of_ble_eq_true rfl, Nat.le_of_ble_eq_true rfl⟩ hl.1 rfl rfl (Nat.le_of_ble_eq_true rfl) d_K_findRing_33 (fun H locs hH hS => ?_)
    refine lv_aload_n M.x M.b d_K_findRing_36 rfl (lv_at hl 0 rfl) ?_
    refine lv_iconst (v := (1 : Int32)) M.x M.b d_K_findRing_37 rfl ?_
    refine lv_iload_n M.x M.b d_K_findRing_38 rfl (lv_at hl 1 rfl) ?_
    refine lv_iconst (v := (1 : Int32)) M.x M.b d_K_findRing_39 rfl ?_
    refine lv_iload_n M.x M.b d_K_findRing_40 rfl (lv_at hl 2 rfl) ?_
    refine lv_ishl M.x M.b d_K_findRing_41 ?_
    refine lv_iconst (v := (0 : Int32)) M.x M.b d_K_findRing_42 rfl ?_
    replace hf := z_bind2 hf; obtain ⟨i4, h5, e3, hf⟩ := hf
    refine zk_V (ci := 3) (st1 := [.int i4]) M hH hS (c_K_closesFrom e3) rfl (o_K_closesFrom e3) w_K_closesFrom q_340 [] rfl ⟨Nat.le_of_ble_eq_true rfl, Nat.le_of_ble_eq_true rfl⟩ hl.1 rfl rfl (Nat.le_of_ble_eq_true rfl) d_K_findRing_43 (fun H locs hH hS => ?_)
    refine lv_if_eq (tgt := 51) M.x M.b d_K_findRing_46 (by decide) (fun c6 => ?_) (fun c6 => ?_)
    · replace hf := z_t c6 hf
      refine lv_iinc (v := (x3 + (1 : Int32))) (lv' := [(3, .int (x3 + (1 : Int32))), (0, .ref this), (2, .int x2)]) M.x M.b d_K_findRing_51 hl (k := 2) rfl rfl (by decide) rfl (fun ls hl => ?_)
      refine lv_goto (tgt := 24) M.x M.b d_K_findRing_54 (by decide) ?_
      exact hk24 _ _ _ hf H locs ls hH hS (lv_sub hl [1, 2, 0] rfl)
    · replace hf := z_f c6 hf
      refine lv_iload_n M.x M.b d_K_findRing_49 rfl (lv_at hl 1 rfl) ?_
      obtain ⟨rfl, rfl⟩ := z_r2 hf
      exact z_iret M hH hS d_K_findRing_50
def f_K_findRing_24 (this : Nat) (k16 : Int32 → Hp → Option ((Int32 × Hp))) : Nat → Int32 → Int32 → Hp → Option ((Int32 × Hp))
  | 0, _, _, _ => none
  | n + 1, x2, x3, h => t_K_findRing_24 this k16 (f_K_findRing_24 this k16 n) x2 x3 h
theorem w_K_findRing_24 {p : Program} {l : Launch} {e : Env} {s : State} {m : MethodId} {args : Array Value} {below : List Frame} {meth : Method} {c : Code} {N0 : Nat} {D : va_G} {cs : Nat → ClassId} (M : ZC p s m args meth c "YearBaskets$Likes" "findRing" b_K_findRing 4 (some .int) N0 D cs) (this : Nat) (k16 : Int32 → Hp → Option ((Int32 × Hp))) {r0 : Int32} {h0 : Hp} (hk16 : ∀ (x2 : Int32) (h : Hp), k16 x2 h = some (r0, h0) → ZG p l e (zrm 21 0 0) s m args below meth c N0 D cs (some (.int r0)) h0 h 4 [(0, .ref this), (2, .int x2)] 16 []) : ∀ (n : Nat) (x2 : Int32) (x3 : Int32) (h : Hp), f_K_findRing_24 this k16 n x2 x3 h = some (r0, h0) → ZG p l e (zrm 21 0 0) s m args below meth c N0 D cs (some (.int r0)) h0 h 4 [(0, .ref this), (2, .int x2), (3, .int x3)] 24 [] := by
  intro n
  induction n with
  | zero => intro x2 x3 h hf; exact absurd (show none = some _ from hf) (fun q => by cases q)
  | succ n ih => intro x2 x3 h hf; exact v_K_findRing_24 M this k16 (f_K_findRing_24 this k16 n) hk16 ih _ _ _ hf
def t_K_findRing_16 (this : Nat) (k16 : Int32 → Hp → Option ((Int32 × Hp))) (x2 : Int32) (h : Hp) : Option ((Int32 × Hp)) :=
  if (8 : Int32) < x2 then
    some ((0 : Int32), h)
  else
  f_K_findRing_24 this k16 FU x2 (0 : Int32) h
set_option maxRecDepth 100000 in
set_option maxHeartbeats 4000000 in
theorem v_K_findRing_16 {p : Program} {l : Launch} {e : Env} {s : State} {m : MethodId} {args : Array Value} {below : List Frame} {meth : Method} {c : Code} {N0 : Nat} {D : va_G} {cs : Nat → ClassId} (M : ZC p s m args meth c "YearBaskets$Likes" "findRing" b_K_findRing 4 (some .int) N0 D cs) (this : Nat) (k16 : Int32 → Hp → Option ((Int32 × Hp))) {r0 : Int32} {h0 : Hp} (hk16 : ∀ (x2 : Int32) (h : Hp), k16 x2 h = some (r0, h0) → ZG p l e (zrm 21 0 0) s m args below meth c N0 D cs (some (.int r0)) h0 h 4 [(0, .ref this), (2, .int x2)] 16 []) (x2 : Int32) (h : Hp) (hf : t_K_findRing_16 this k16 x2 h = some (r0, h0)) : ZG p l e (zrm 21 0 0) s m args below meth c N0 D cs (some (.int r0)) h0 h 4 [(0, .ref this), (2, .int x2)] 16 [] := by
  intro H locs ls hH hS hl
  unfold t_K_findRing_16 at hf
  refine lv_iload_n M.x M.b d_K_findRing_16 rfl (lv_at hl 1 rfl) ?_
  refine lv_bipush (v := (8 : Int32)) M.x M.b d_K_findRing_17 rfl ?_
  refine lv_icmp_gt (tgt := 63) M.x M.b d_K_findRing_19 (by decide) (fun c8 => ?_) (fun c8 => ?_)
  · replace hf := z_t c8 hf
    refine lv_iconst (v := (0 : Int32)) M.x M.b d_K_findRing_63 rfl ?_
    obtain ⟨rfl, rfl⟩ := z_r2 hf
    exact z_iret M hH hS d_K_findRing_64
  · replace hf := z_f c8 hf
    refine lv_iconst (v := (0 : Int32)) M.x M.b d_K_findRing_22 rfl ?_
    refine lv_istore_n (lv' := [(3, .int (0 : Int32)), (0, .ref this), (2, .int x2)]) M.x M.b d_K_findRing_23 rfl hl (by decide) rfl (fun ls hl => ?_)
    exact w_K_findRing_24 M this k16 hk16 FU _ _ _ hf H locs ls hH hS (lv_sub hl [1, 2, 0] rfl)
def f_K_findRing_16 (this : Nat) : Nat → Int32 → Hp → Option ((Int32 × Hp))
  | 0, _, _ => none
  | n + 1, x2, h => t_K_findRing_16 this (f_K_findRing_16 this n) x2 h
theorem w_K_findRing_16 {p : Program} {l : Launch} {e : Env} {s : State} {m : MethodId} {args : Array Value} {below : List Frame} {meth : Method} {c : Code} {N0 : Nat} {D : va_G} {cs : Nat → ClassId} (M : ZC p s m args meth c "YearBaskets$Likes" "findRing" b_K_findRing 4 (some .int) N0 D cs) (this : Nat)  {r0 : Int32} {h0 : Hp}  : ∀ (n : Nat) (x2 : Int32) (h : Hp), f_K_findRing_16 this n x2 h = some (r0, h0) → ZG p l e (zrm 21 0 0) s m args below meth c N0 D cs (some (.int r0)) h0 h 4 [(0, .ref this), (2, .int x2)] 16 [] := by
  intro n
  induction n with
  | zero => intro x2 h hf; exact absurd (show none = some _ from hf) (fun q => by cases q)
  | succ n ih => intro x2 h hf; exact v_K_findRing_16 M this (f_K_findRing_16 this n)  ih _ _ hf
def f_K_findRing (this : Nat) (x1 : Int32) (h : Hp) : Option ((Int32 × Hp)) :=
  if isO h this 3 = true then
  (f_K_chooseAll this x1 h).bind fun h10 =>
  zb2 (f_K_hasRing this h10) fun i12 h13 =>
  if i12 = 0 then
    some ((0 : Int32), h13)
  else
  f_K_findRing_16 this FU (2 : Int32) h13
  else none
theorem o_K_findRing {this : Nat} {x1 : Int32} {h : Hp} {r0 : Int32} {h0 : Hp} (hf : f_K_findRing this x1 h = some (r0, h0)) : isO h this 3 = true := by
  unfold f_K_findRing at hf
  exact (z_gd hf).1
set_option maxRecDepth 100000 in
set_option maxHeartbeats 4000000 in
theorem c_K_findRing {l : Launch} {N0 : Nat} {D : va_G} {cs : Nat → ClassId} {this : Nat} {x1 : Int32} {h : Hp} {r0 : Int32} {h0 : Hp} (hf : f_K_findRing this x1 h = some (r0, h0)) : Fn l N0 D cs y_K_findRing b_K_findRing 4 (some .int) 21 0 0 [.ref this, .int x1] h (some (.int r0)) h0 := by
  refine z_start (by decide) (Nat.le_of_ble_eq_true rfl) ?_
  intro p e s m args below meth c M hH hS ls hl
  unfold f_K_findRing at hf
  obtain ⟨hO, hf⟩ := z_gd hf
  have hl : lv_has ls 4 [(0, .ref this), (1, .int x1)] := hl
  obtain ⟨H, hHe⟩ : ∃ H, H = s.heap := ⟨_, rfl⟩
  obtain ⟨locs, hLe⟩ : ∃ locs : List Loc, locs = [] := ⟨_, rfl⟩
  have hS : va_S (zA N0) s.heap H locs := by rw [hHe, hLe]; exact hS
  have hH : HH N0 D cs h H := by rw [hHe]; exact hH
  suffices hg : W p l e (zrm 21 0 0) s m args below meth c H locs 0 0 (MQ below (zQ N0 D cs (some (.int r0)) h0) args s 0 0 (zA N0)) (F0 m 0 ls []) by rw [hHe, hLe] at hg; exact hg
  clear hHe hLe
  refine lv_aload_n M.x M.b d_K_findRing_0 rfl (lv_at hl 0 rfl) ?_
  refine lv_iload_n M.x M.b d_K_findRing_1 rfl (lv_at hl 1 rfl) ?_
  replace hf := z_bind hf; obtain ⟨h10, e9, hf⟩ := hf
  refine zk_V (ci := 3) (st1 := []) M hH hS (c_K_chooseAll e9) rfl (o_K_chooseAll e9) w_K_chooseAll q_347 [] rfl ⟨Nat.le_of_ble_eq_true rfl, Nat.le_of_ble_eq_true rfl⟩ hl.1 rfl rfl (Nat.le_of_ble_eq_true rfl) d_K_findRing_2 (fun H locs hH hS => ?_)
  refine lv_aload_n M.x M.b d_K_findRing_5 rfl (lv_at hl 0 rfl) ?_
  replace hf := z_bind2 hf; obtain ⟨i12, h13, e11, hf⟩ := hf
  refine zk_V (ci := 3) (st1 := [.int i12]) M hH hS (c_K_hasRing e11) rfl (o_K_hasRing e11) w_K_hasRing q_346 [] rfl ⟨Nat.le_of_ble_eq_true rfl, Nat.le_of_ble_eq_true rfl⟩ hl.1 rfl rfl (Nat.le_of_ble_eq_true rfl) d_K_findRing_6 (fun H locs hH hS => ?_)
  refine lv_if_ne (tgt := 14) M.x M.b d_K_findRing_9 (by decide) (fun c14 => ?_) (fun c14 => ?_)
  · replace hf := z_f c14 hf
    refine lv_iconst (v := (2 : Int32)) M.x M.b d_K_findRing_14 rfl ?_
    refine lv_istore_n (lv' := [(2, .int (2 : Int32)), (0, .ref this), (1, .int x1)]) M.x M.b d_K_findRing_15 rfl hl (by decide) rfl (fun ls hl => ?_)
    exact w_K_findRing_16 M this FU _ _ hf H locs ls hH hS (lv_sub hl [1, 0] rfl)
  · replace hf := z_t c14 hf
    refine lv_iconst (v := (0 : Int32)) M.x M.b d_K_findRing_12 rfl ?_
    obtain ⟨rfl, rfl⟩ := z_r2 hf
    exact z_iret M hH hS d_K_findRing_13
def f_K_cheapestAsGood_92 (this : Nat) (k19 : Int32 → Int32 → Int32 → Int32 → Int32 → Hp → Option ((Int32 × Hp))) (x1 : Int32) (x3 : Int32) (x4 : Int32) (x5 : Int32) (x6 : Int32) (h : Hp) : Option ((Int32 × Hp)) :=
  k19 x1 x3 x4 x5 (x6 + (1 : Int32)) h
set_option maxRecDepth 100000 in
set_option maxHeartbeats 4000000 in
theorem w_K_cheapestAsGood_92 {p : Program} {l : Launch} {e : Env} {s : State} {m : MethodId} {args : Array Value} {below : List Frame} {meth : Method} {c : Code} {N0 : Nat} {D : va_G} {cs : Nat → ClassId} (M : ZC p s m args meth c "YearBaskets$Likes" "cheapestAsGood" b_K_cheapestAsGood 8 (some .int) N0 D cs) (this : Nat) (k19 : Int32 → Int32 → Int32 → Int32 → Int32 → Hp → Option ((Int32 × Hp))) {r0 : Int32} {h0 : Hp} (hk19 : ∀ (x1 : Int32) (x3 : Int32) (x4 : Int32) (x5 : Int32) (x6 : Int32) (h : Hp), k19 x1 x3 x4 x5 x6 h = some (r0, h0) → ZG p l e (zrm 5 0 0) s m args below meth c N0 D cs (some (.int r0)) h0 h 8 [(0, .ref this), (1, .int x1), (3, .int x3), (4, .int x4), (5, .int x5), (6, .int x6)] 19 []) (x1 : Int32) (x3 : Int32) (x4 : Int32) (x5 : Int32) (x6 : Int32) (h : Hp) (hf : f_K_cheapestAsGood_92 this k19 x1 x3 x4 x5 x6 h = some (r0, h0)) : ZG p l e (zrm 5 0 0) s m args below meth c N0 D cs (some (.int r0)) h0 h 8 [(0, .ref this), (1, .int x1), (3, .int x3), (4, .int x4), (5, .int x5), (6, .int x6)] 92 [] := by
  intro H locs ls hH hS hl
  unfold f_K_cheapestAsGood_92 at hf
  refine lv_iinc (v := (x6 + (1 : Int32))) (lv' := [(6, .int (x6 + (1 : Int32))), (0, .ref this), (1, .int x1), (3, .int x3), (4, .int x4), (5, .int x5)]) M.x M.b d_K_cheapestAsGood_92 hl (k := 5) rfl rfl (by decide) rfl (fun ls hl => ?_)
  refine lv_goto (tgt := 19) M.x M.b d_K_cheapestAsGood_95 (by decide) ?_
  exact hk19 _ _ _ _ _ _ hf H locs ls hH hS (lv_sub hl [1, 2, 3, 4, 5, 0] rfl)
def f_K_cheapestAsGood_84 (this : Nat) (k19 : Int32 → Int32 → Int32 → Int32 → Int32 → Hp → Option ((Int32 × Hp))) (x1 : Int32) (x3 : Int32) (x6 : Int32) (x7 : Int32) (h : Hp) : Option ((Int32 × Hp)) :=
  f_K_cheapestAsGood_92 this k19 x1 x3 x6 x7 x6 h
set_option maxRecDepth 100000 in
set_option maxHeartbeats 4000000 in
theorem w_K_cheapestAsGood_84 {p : Program} {l : Launch} {e : Env} {s : State} {m : MethodId} {args : Array Value} {below : List Frame} {meth : Method} {c : Code} {N0 : Nat} {D : va_G} {cs : Nat → ClassId} (M : ZC p s m args meth c "YearBaskets$Likes" "cheapestAsGood" b_K_cheapestAsGood 8 (some .int) N0 D cs) (this : Nat) (k19 : Int32 → Int32 → Int32 → Int32 → Int32 → Hp → Option ((Int32 × Hp))) {r0 : Int32} {h0 : Hp} (hk19 : ∀ (x1 : Int32) (x3 : Int32) (x4 : Int32) (x5 : Int32) (x6 : Int32) (h : Hp), k19 x1 x3 x4 x5 x6 h = some (r0, h0) → ZG p l e (zrm 5 0 0) s m args below meth c N0 D cs (some (.int r0)) h0 h 8 [(0, .ref this), (1, .int x1), (3, .int x3), (4, .int x4), (5, .int x5), (6, .int x6)] 19 []) (x1 : Int32) (x3 : Int32) (x6 : Int32) (x7 : Int32) (h : Hp) (hf : f_K_cheapestAsGood_84 this k19 x1 x3 x6 x7 h = some (r0, h0)) : ZG p l e (zrm 5 0 0) s m args below meth c N0 D cs (some (.int r0)) h0 h 8 [(0, .ref this), (1, .int x1), (3, .int x3), (6, .int x6), (7, .int x7)] 84 [] := by
  intro H locs ls hH hS hl
  unfold f_K_cheapestAsGood_84 at hf
  refine lv_iload M.x M.b d_K_cheapestAsGood_84 (lv_at hl 3 rfl) ?_
  refine lv_istore (lv' := [(4, .int x6), (0, .ref this), (1, .int x1), (3, .int x3), (6, .int x6), (7, .int x7)]) M.x M.b d_K_cheapestAsGood_86 hl (by decide) rfl (fun ls hl => ?_)
  refine lv_iload M.x M.b d_K_cheapestAsGood_88 (lv_at hl 5 rfl) ?_
  refine lv_istore (lv' := [(5, .int x7), (4, .int x6), (0, .ref this), (1, .int x1), (3, .int x3), (6, .int x6), (7, .int x7)]) M.x M.b d_K_cheapestAsGood_90 hl (by decide) rfl (fun ls hl => ?_)
  exact w_K_cheapestAsGood_92 M this k19 hk19 _ _ _ _ _ _ hf H locs ls hH hS (lv_sub hl [2, 3, 4, 1, 0, 5] rfl)
def f_K_cheapestAsGood_63 (this : Nat) (k19 : Int32 → Int32 → Int32 → Int32 → Int32 → Hp → Option ((Int32 × Hp))) (s0 : Int32) (x1 : Int32) (x3 : Int32) (x4 : Int32) (x5 : Int32) (x6 : Int32) (h : Hp) : Option ((Int32 × Hp)) :=
  if s0 = (-1 : Int32) then
    f_K_cheapestAsGood_92 this k19 x1 x3 x4 x5 x6 h
  else
  if x4 = (-1 : Int32) then
    f_K_cheapestAsGood_84 this k19 x1 x3 x6 s0 h
  else
  if x5 ≤ s0 then
    f_K_cheapestAsGood_92 this k19 x1 x3 x4 x5 x6 h
  else
  f_K_cheapestAsGood_84 this k19 x1 x3 x6 s0 h
set_option maxRecDepth 100000 in
set_option maxHeartbeats 4000000 in
theorem w_K_cheapestAsGood_63 {p : Program} {l : Launch} {e : Env} {s : State} {m : MethodId} {args : Array Value} {below : List Frame} {meth : Method} {c : Code} {N0 : Nat} {D : va_G} {cs : Nat → ClassId} (M : ZC p s m args meth c "YearBaskets$Likes" "cheapestAsGood" b_K_cheapestAsGood 8 (some .int) N0 D cs) (this : Nat) (k19 : Int32 → Int32 → Int32 → Int32 → Int32 → Hp → Option ((Int32 × Hp))) {r0 : Int32} {h0 : Hp} (hk19 : ∀ (x1 : Int32) (x3 : Int32) (x4 : Int32) (x5 : Int32) (x6 : Int32) (h : Hp), k19 x1 x3 x4 x5 x6 h = some (r0, h0) → ZG p l e (zrm 5 0 0) s m args below meth c N0 D cs (some (.int r0)) h0 h 8 [(0, .ref this), (1, .int x1), (3, .int x3), (4, .int x4), (5, .int x5), (6, .int x6)] 19 []) (s0 : Int32) (x1 : Int32) (x3 : Int32) (x4 : Int32) (x5 : Int32) (x6 : Int32) (h : Hp) (hf : f_K_cheapestAsGood_63 this k19 s0 x1 x3 x4 x5 x6 h = some (r0, h0)) : ZG p l e (zrm 5 0 0) s m args below meth c N0 D cs (some (.int r0)) h0 h 8 [(0, .ref this), (1, .int x1), (3, .int x3), (4, .int x4), (5, .int x5), (6, .int x6)] 63 [.int s0] := by
  intro H locs ls hH hS hl
  unfold f_K_cheapestAsGood_63 at hf
  refine lv_istore (lv' := [(7, .int s0), (0, .ref this), (1, .int x1), (3, .int x3), (4, .int x4), (5, .int x5), (6, .int x6)]) M.x M.b d_K_cheapestAsGood_63 hl (by decide) rfl (fun ls hl => ?_)
  refine lv_iload M.x M.b d_K_cheapestAsGood_65 (lv_at hl 0 rfl) ?_
  refine lv_iconst (v := (-1 : Int32)) M.x M.b d_K_cheapestAsGood_67 rfl ?_
  refine lv_icmp_eq (tgt := 92) M.x M.b d_K_cheapestAsGood_68 (by decide) (fun c3 => ?_) (fun c3 => ?_)
  · replace hf := z_t c3 hf
    exact w_K_cheapestAsGood_92 M this k19 hk19 _ _ _ _ _ _ hf H locs ls hH hS (lv_sub hl [1, 2, 3, 4, 5, 6] rfl)
  · replace hf := z_f c3 hf
    refine lv_iload M.x M.b d_K_cheapestAsGood_71 (lv_at hl 4 rfl) ?_
    refine lv_iconst (v := (-1 : Int32)) M.x M.b d_K_cheapestAsGood_73 rfl ?_
    refine lv_icmp_eq (tgt := 84) M.x M.b d_K_cheapestAsGood_74 (by decide) (fun c2 => ?_) (fun c2 => ?_)
    · replace hf := z_t c2 hf
      exact w_K_cheapestAsGood_84 M this k19 hk19 _ _ _ _ _ hf H locs ls hH hS (lv_sub hl [1, 2, 3, 6, 0] rfl)
    · replace hf := z_f c2 hf
      refine lv_iload M.x M.b d_K_cheapestAsGood_77 (lv_at hl 0 rfl) ?_
      refine lv_iload M.x M.b d_K_cheapestAsGood_79 (lv_at hl 5 rfl) ?_
      refine lv_icmp_ge (tgt := 92) M.x M.b d_K_cheapestAsGood_81 (by decide) (fun c1 => ?_) (fun c1 => ?_)
      · replace hf := z_t c1 hf
        exact w_K_cheapestAsGood_92 M this k19 hk19 _ _ _ _ _ _ hf H locs ls hH hS (lv_sub hl [1, 2, 3, 4, 5, 6] rfl)
      · replace hf := z_f c1 hf
        exact w_K_cheapestAsGood_84 M this k19 hk19 _ _ _ _ _ hf H locs ls hH hS (lv_sub hl [1, 2, 3, 6, 0] rfl)
def f_K_cheapestAsGood_62 (this : Nat) (k19 : Int32 → Int32 → Int32 → Int32 → Int32 → Hp → Option ((Int32 × Hp))) (x1 : Int32) (x3 : Int32) (x4 : Int32) (x5 : Int32) (x6 : Int32) (h : Hp) : Option ((Int32 × Hp)) :=
  f_K_cheapestAsGood_63 this k19 (-1 : Int32) x1 x3 x4 x5 x6 h
set_option maxRecDepth 100000 in
set_option maxHeartbeats 4000000 in
theorem w_K_cheapestAsGood_62 {p : Program} {l : Launch} {e : Env} {s : State} {m : MethodId} {args : Array Value} {below : List Frame} {meth : Method} {c : Code} {N0 : Nat} {D : va_G} {cs : Nat → ClassId} (M : ZC p s m args meth c "YearBaskets$Likes" "cheapestAsGood" b_K_cheapestAsGood 8 (some .int) N0 D cs) (this : Nat) (k19 : Int32 → Int32 → Int32 → Int32 → Int32 → Hp → Option ((Int32 × Hp))) {r0 : Int32} {h0 : Hp} (hk19 : ∀ (x1 : Int32) (x3 : Int32) (x4 : Int32) (x5 : Int32) (x6 : Int32) (h : Hp), k19 x1 x3 x4 x5 x6 h = some (r0, h0) → ZG p l e (zrm 5 0 0) s m args below meth c N0 D cs (some (.int r0)) h0 h 8 [(0, .ref this), (1, .int x1), (3, .int x3), (4, .int x4), (5, .int x5), (6, .int x6)] 19 []) (x1 : Int32) (x3 : Int32) (x4 : Int32) (x5 : Int32) (x6 : Int32) (h : Hp) (hf : f_K_cheapestAsGood_62 this k19 x1 x3 x4 x5 x6 h = some (r0, h0)) : ZG p l e (zrm 5 0 0) s m args below meth c N0 D cs (some (.int r0)) h0 h 8 [(0, .ref this), (1, .int x1), (3, .int x3), (4, .int x4), (5, .int x5), (6, .int x6)] 62 [] := by
  intro H locs ls hH hS hl
  unfold f_K_cheapestAsGood_62 at hf
  refine lv_iconst (v := (-1 : Int32)) M.x M.b d_K_cheapestAsGood_62 rfl ?_
  exact w_K_cheapestAsGood_63 M this k19 hk19 _ _ _ _ _ _ _ hf H locs ls hH hS (lv_sub hl [0, 1, 2, 3, 4, 5] rfl)
def t_K_cheapestAsGood_19 (this : Nat) (k19 : Int32 → Int32 → Int32 → Int32 → Int32 → Hp → Option ((Int32 × Hp))) (x1 : Int32) (x3 : Int32) (x4 : Int32) (x5 : Int32) (x6 : Int32) (h : Hp) : Option ((Int32 × Hp)) :=
  (gA h this 3 3).bind fun r4 =>
  (r4).bind fun a6 =>
  (aN h a6).bind fun i9 =>
  if i9 ≤ x6 then
    some (x4, h)
  else
  (gA h this 3 3).bind fun r10 =>
  (r10).bind fun a12 =>
  (aI h 2 a12 x6).bind fun i15 =>
  if i15 = 0 then
    f_K_cheapestAsGood_62 this k19 x1 x3 x4 x5 x6 h
  else
  (gA h this 3 0).bind fun r16 =>
  zm r16 (
    f_K_cheapestAsGood_62 this k19 x1 x3 x4 x5 x6 h
  ) fun a18 =>
  (gA h this 3 0).bind fun r19 =>
  (r19).bind fun a21 =>
  (f_B_costOver a21 h (31 : Int32) x1 x3 x6).bind fun i24 =>
  f_K_cheapestAsGood_63 this k19 i24 x1 x3 x4 x5 x6 h
set_option maxRecDepth 100000 in
set_option maxHeartbeats 4000000 in
theorem v_K_cheapestAsGood_19 {p : Program} {l : Launch} {e : Env} {s : State} {m : MethodId} {args : Array Value} {below : List Frame} {meth : Method} {c : Code} {N0 : Nat} {D : va_G} {cs : Nat → ClassId} (M : ZC p s m args meth c "YearBaskets$Likes" "cheapestAsGood" b_K_cheapestAsGood 8 (some .int) N0 D cs) (this : Nat) (k19 : Int32 → Int32 → Int32 → Int32 → Int32 → Hp → Option ((Int32 × Hp))) {r0 : Int32} {h0 : Hp} (hk19 : ∀ (x1 : Int32) (x3 : Int32) (x4 : Int32) (x5 : Int32) (x6 : Int32) (h : Hp), k19 x1 x3 x4 x5 x6 h = some (r0, h0) → ZG p l e (zrm 5 0 0) s m args below meth c N0 D cs (some (.int r0)) h0 h 8 [(0, .ref this), (1, .int x1), (3, .int x3), (4, .int x4), (5, .int x5), (6, .int x6)] 19 []) (x1 : Int32) (x3 : Int32) (x4 : Int32) (x5 : Int32) (x6 : Int32) (h : Hp) (hf : t_K_cheapestAsGood_19 this k19 x1 x3 x4 x5 x6 h = some (r0, h0)) : ZG p l e (zrm 5 0 0) s m args below meth c N0 D cs (some (.int r0)) h0 h 8 [(0, .ref this), (1, .int x1), (3, .int x3), (4, .int x4), (5, .int x5), (6, .int x6)] 19 [] := by
  intro H locs ls hH hS hl
  unfold t_K_cheapestAsGood_19 at hf
  refine lv_iload M.x M.b d_K_cheapestAsGood_19 (lv_at hl 5 rfl) ?_
  refine lv_aload_n M.x M.b d_K_cheapestAsGood_21 rfl (lv_at hl 0 rfl) ?_
  replace hf := z_bind hf; obtain ⟨r4, e5, hf⟩ := hf
  refine z_get (ci := 3) (k := 3) M hH rfl (by decide) zinK q_332 (gA_spec e5) d_K_cheapestAsGood_22 ?_
  rcases r4 with _ | a6
  · exact absurd hf z_nb0
  replace hf := z_sb hf
  replace hf := z_bind hf; obtain ⟨i9, e8, hf⟩ := hf
  refine z_alen M hH e8 d_K_cheapestAsGood_25 ?_
  refine lv_icmp_ge (tgt := 98) M.x M.b d_K_cheapestAsGood_26 (by decide) (fun c26 => ?_) (fun c26 => ?_)
  · replace hf := z_t c26 hf
    refine lv_iload M.x M.b d_K_cheapestAsGood_98 (lv_at hl 3 rfl) ?_
    obtain ⟨rfl, rfl⟩ := z_r2 hf
    exact z_iret M hH hS d_K_cheapestAsGood_100
  · replace hf := z_f c26 hf
    refine lv_aload_n M.x M.b d_K_cheapestAsGood_29 rfl (lv_at hl 0 rfl) ?_
    replace hf := z_bind hf; obtain ⟨r10, e11, hf⟩ := hf
    refine z_get (ci := 3) (k := 3) M hH rfl (by decide) zinK q_332 (gA_spec e11) d_K_cheapestAsGood_30 ?_
    refine lv_iload M.x M.b d_K_cheapestAsGood_33 (lv_at hl 5 rfl) ?_
    rcases r10 with _ | a12
    · exact absurd hf z_nb0
    replace hf := z_sb hf
    replace hf := z_bind hf; obtain ⟨i15, e14, hf⟩ := hf
    refine z_zald M hH e14 d_K_cheapestAsGood_35 ?_
    refine lv_if_eq (tgt := 62) M.x M.b d_K_cheapestAsGood_36 (by decide) (fun c25 => ?_) (fun c25 => ?_)
    · replace hf := z_t c25 hf
      exact w_K_cheapestAsGood_62 M this k19 hk19 _ _ _ _ _ _ hf H locs ls hH hS (lv_sub hl [0, 1, 2, 3, 4, 5] rfl)
    · replace hf := z_f c25 hf
      refine lv_aload_n M.x M.b d_K_cheapestAsGood_39 rfl (lv_at hl 0 rfl) ?_
      replace hf := z_bind hf; obtain ⟨r16, e17, hf⟩ := hf
      refine z_get (ci := 3) (k := 0) M hH rfl (by decide) zinK q_311 (gA_spec e17) d_K_cheapestAsGood_40 ?_
      rcases r16 with _ | a18
      · replace hf := zm_n hf
        refine lv_ifnullN (tgt := 62) M.x M.b d_K_cheapestAsGood_43 (by decide) ?_
        exact w_K_cheapestAsGood_62 M this k19 hk19 _ _ _ _ _ _ hf H locs ls hH hS (lv_sub hl [0, 1, 2, 3, 4, 5] rfl)
      · replace hf := zm_s hf
        refine lv_ifnull M.x M.b d_K_cheapestAsGood_43 ?_
        refine lv_aload_n M.x M.b d_K_cheapestAsGood_46 rfl (lv_at hl 0 rfl) ?_
        replace hf := z_bind hf; obtain ⟨r19, e20, hf⟩ := hf
        refine z_get (ci := 3) (k := 0) M hH rfl (by decide) zinK q_311 (gA_spec e20) d_K_cheapestAsGood_47 ?_
        refine lv_bipush (v := (31 : Int32)) M.x M.b d_K_cheapestAsGood_50 rfl ?_
        refine lv_iload_n M.x M.b d_K_cheapestAsGood_52 rfl (lv_at hl 1 rfl) ?_
        refine lv_iload_n M.x M.b d_K_cheapestAsGood_53 rfl (lv_at hl 2 rfl) ?_
        refine lv_iload M.x M.b d_K_cheapestAsGood_54 (lv_at hl 5 rfl) ?_
        rcases r19 with _ | a21
        · exact absurd hf z_nb0
        replace hf := z_sb hf
        replace hf := z_bind hf; obtain ⟨i24, e23, hf⟩ := hf
        refine zk_V (ci := 0) (st1 := [.int i24]) M hH hS (c_B_costOver e23) rfl (o_B_costOver e23) w_B_costOver q_310 [] rfl ⟨Nat.le_of_ble_eq_true rfl, Nat.le_of_ble_eq_true rfl⟩ hl.1 rfl rfl (Nat.le_of_ble_eq_true rfl) d_K_cheapestAsGood_56 (fun H locs hH hS => ?_)
        refine lv_goto (tgt := 63) M.x M.b d_K_cheapestAsGood_59 (by decide) ?_
        exact w_K_cheapestAsGood_63 M this k19 hk19 _ _ _ _ _ _ _ hf H locs ls hH hS (lv_sub hl [0, 1, 2, 3, 4, 5] rfl)
def f_K_cheapestAsGood_19 (this : Nat) : Nat → Int32 → Int32 → Int32 → Int32 → Int32 → Hp → Option ((Int32 × Hp))
  | 0, _, _, _, _, _, _ => none
  | n + 1, x1, x3, x4, x5, x6, h => t_K_cheapestAsGood_19 this (f_K_cheapestAsGood_19 this n) x1 x3 x4 x5 x6 h
theorem w_K_cheapestAsGood_19 {p : Program} {l : Launch} {e : Env} {s : State} {m : MethodId} {args : Array Value} {below : List Frame} {meth : Method} {c : Code} {N0 : Nat} {D : va_G} {cs : Nat → ClassId} (M : ZC p s m args meth c "YearBaskets$Likes" "cheapestAsGood" b_K_cheapestAsGood 8 (some .int) N0 D cs) (this : Nat)  {r0 : Int32} {h0 : Hp}  : ∀ (n : Nat) (x1 : Int32) (x3 : Int32) (x4 : Int32) (x5 : Int32) (x6 : Int32) (h : Hp), f_K_cheapestAsGood_19 this n x1 x3 x4 x5 x6 h = some (r0, h0) → ZG p l e (zrm 5 0 0) s m args below meth c N0 D cs (some (.int r0)) h0 h 8 [(0, .ref this), (1, .int x1), (3, .int x3), (4, .int x4), (5, .int x5), (6, .int x6)] 19 [] := by
  intro n
  induction n with
  | zero => intro x1 x3 x4 x5 x6 h hf; exact absurd (show none = some _ from hf) (fun q => by cases q)
  | succ n ih => intro x1 x3 x4 x5 x6 h hf; exact v_K_cheapestAsGood_19 M this (f_K_cheapestAsGood_19 this n)  ih _ _ _ _ _ _ hf
def f_K_cheapestAsGood (this : Nat) (x1 : Int32) (x2 : Int32) (x3 : Int32) (h : Hp) : Option ((Int32 × Hp)) :=
  if isO h this 3 = true then
  (f_K_chooseAll this x1 h).bind fun h28 =>
  (f_K_findAsGood this x2 h28).bind fun h30 =>
  f_K_cheapestAsGood_19 this FU x1 x3 (-1 : Int32) (-1 : Int32) (0 : Int32) h30
  else none
theorem o_K_cheapestAsGood {this : Nat} {x1 : Int32} {x2 : Int32} {x3 : Int32} {h : Hp} {r0 : Int32} {h0 : Hp} (hf : f_K_cheapestAsGood this x1 x2 x3 h = some (r0, h0)) : isO h this 3 = true := by
  unfold f_K_cheapestAsGood at hf
  exact (z_gd hf).1
set_option maxRecDepth 100000 in
set_option maxHeartbeats 4000000 in
theorem c_K_cheapestAsGood {l : Launch} {N0 : Nat} {D : va_G} {cs : Nat → ClassId} {this : Nat} {x1 : Int32} {x2 : Int32} {x3 : Int32} {h : Hp} {r0 : Int32} {h0 : Hp} (hf : f_K_cheapestAsGood this x1 x2 x3 h = some (r0, h0)) : Fn l N0 D cs y_K_cheapestAsGood b_K_cheapestAsGood 8 (some .int) 5 0 0 [.ref this, .int x1, .int x2, .int x3] h (some (.int r0)) h0 := by
  refine z_start (by decide) (Nat.le_of_ble_eq_true rfl) ?_
  intro p e s m args below meth c M hH hS ls hl
  unfold f_K_cheapestAsGood at hf
  obtain ⟨hO, hf⟩ := z_gd hf
  have hl : lv_has ls 8 [(0, .ref this), (1, .int x1), (2, .int x2), (3, .int x3)] := hl
  obtain ⟨H, hHe⟩ : ∃ H, H = s.heap := ⟨_, rfl⟩
  obtain ⟨locs, hLe⟩ : ∃ locs : List Loc, locs = [] := ⟨_, rfl⟩
  have hS : va_S (zA N0) s.heap H locs := by rw [hHe, hLe]; exact hS
  have hH : HH N0 D cs h H := by rw [hHe]; exact hH
  suffices hg : W p l e (zrm 5 0 0) s m args below meth c H locs 0 0 (MQ below (zQ N0 D cs (some (.int r0)) h0) args s 0 0 (zA N0)) (F0 m 0 ls []) by rw [hHe, hLe] at hg; exact hg
  clear hHe hLe
  refine lv_aload_n M.x M.b d_K_cheapestAsGood_0 rfl (lv_at hl 0 rfl) ?_
  refine lv_iload_n M.x M.b d_K_cheapestAsGood_1 rfl (lv_at hl 1 rfl) ?_
  replace hf := z_bind hf; obtain ⟨h28, e27, hf⟩ := hf
  refine zk_V (ci := 3) (st1 := []) M hH hS (c_K_chooseAll e27) rfl (o_K_chooseAll e27) w_K_chooseAll q_347 [] rfl ⟨Nat.le_of_ble_eq_true rfl, Nat.le_of_ble_eq_true rfl⟩ hl.1 rfl rfl (Nat.le_of_ble_eq_true rfl) d_K_cheapestAsGood_2 (fun H locs hH hS => ?_)
  refine lv_aload_n M.x M.b d_K_cheapestAsGood_5 rfl (lv_at hl 0 rfl) ?_
  refine lv_iload_n M.x M.b d_K_cheapestAsGood_6 rfl (lv_at hl 2 rfl) ?_
  replace hf := z_bind hf; obtain ⟨h30, e29, hf⟩ := hf
  refine zk_V (ci := 3) (st1 := []) M hH hS (c_K_findAsGood e29) rfl (o_K_findAsGood e29) w_K_findAsGood q_336 [] rfl ⟨Nat.le_of_ble_eq_true rfl, Nat.le_of_ble_eq_true rfl⟩ hl.1 rfl rfl (Nat.le_of_ble_eq_true rfl) d_K_cheapestAsGood_7 (fun H locs hH hS => ?_)
  refine lv_iconst (v := (-1 : Int32)) M.x M.b d_K_cheapestAsGood_10 rfl ?_
  refine lv_istore (lv' := [(4, .int (-1 : Int32)), (0, .ref this), (1, .int x1), (2, .int x2), (3, .int x3)]) M.x M.b d_K_cheapestAsGood_11 hl (by decide) rfl (fun ls hl => ?_)
  refine lv_iconst (v := (-1 : Int32)) M.x M.b d_K_cheapestAsGood_13 rfl ?_
  refine lv_istore (lv' := [(5, .int (-1 : Int32)), (4, .int (-1 : Int32)), (0, .ref this), (1, .int x1), (2, .int x2), (3, .int x3)]) M.x M.b d_K_cheapestAsGood_14 hl (by decide) rfl (fun ls hl => ?_)
  refine lv_iconst (v := (0 : Int32)) M.x M.b d_K_cheapestAsGood_16 rfl ?_
  refine lv_istore (lv' := [(6, .int (0 : Int32)), (5, .int (-1 : Int32)), (4, .int (-1 : Int32)), (0, .ref this), (1, .int x1), (2, .int x2), (3, .int x3)]) M.x M.b d_K_cheapestAsGood_17 hl (by decide) rfl (fun ls hl => ?_)
  exact w_K_cheapestAsGood_19 M this FU _ _ _ _ _ _ hf H locs ls hH hS (lv_sub hl [3, 4, 6, 2, 1, 0] rfl)
