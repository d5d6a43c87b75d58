/-! ===== Fraction: printed by wip/whole/drive.py out of the bytecode ===== -/
theorem q_93 : (Jvm.Cond.instanceMethod ({ cls := "YearBaskets$Fraction", name := "refuse", desc := "(I)V" } : Jvm.MethodName)) ∈ zG := zt_3 (List.mem_of_getElem? (i := 0) rfl) rfl
theorem q_94 : (Jvm.Cond.selects "YearBaskets$Fraction" ({ cls := "YearBaskets$Fraction", name := "refuse", desc := "(I)V" } : Jvm.MethodName) ({ cls := "YearBaskets$Fraction", name := "refuse", desc := "(I)V" } : Jvm.MethodName)) ∈ zG := zt_3 (List.mem_of_getElem? (i := 1) rfl) rfl
theorem q_95 : (Jvm.Cond.code ({ cls := "YearBaskets$Fraction", name := "refuse", desc := "(I)V" } : Jvm.MethodName) prog_3_method_2_code (2 : Nat) (Option.none : Option Jvm.ClassFile.FieldType)) ∈ zG := zt_3 (List.mem_of_getElem? (i := 2) rfl) rfl
theorem q_96 : (Jvm.Cond.initialized "YearBaskets$Fraction") ∈ zG := zt_1 (List.mem_of_getElem? (i := 6) rfl) rfl
theorem q_97 : (Jvm.Cond.fieldLink "YearBaskets$Fraction" (22 : Nat) "YearBaskets$Fraction" "refusal" "I") ∈ zG := zt_1 (List.mem_of_getElem? (i := 110) rfl) rfl
theorem q_98 : (Jvm.Cond.fieldLink "YearBaskets$Fraction" (18 : Nat) "YearBaskets$Fraction" "root" "Z") ∈ zG := zt_1 (List.mem_of_getElem? (i := 106) rfl) rfl
theorem q_99 : (Jvm.Cond.fieldLink "YearBaskets$Fraction" (15 : Nat) "YearBaskets$Fraction" "lower" "J") ∈ zG := zt_1 (List.mem_of_getElem? (i := 102) rfl) rfl
theorem q_100 : (Jvm.Cond.fieldLink "YearBaskets$Fraction" (9 : Nat) "YearBaskets$Fraction" "upper" "J") ∈ zG := zt_1 (List.mem_of_getElem? (i := 98) rfl) rfl
theorem q_101 : (Jvm.Cond.instanceMethod ({ cls := "YearBaskets$Fraction", name := "take", desc := "(LYearBaskets$Fraction;)V" } : Jvm.MethodName)) ∈ zG := zt_3 (List.mem_of_getElem? (i := 52) rfl) rfl
theorem q_102 : (Jvm.Cond.selects "YearBaskets$Fraction" ({ cls := "YearBaskets$Fraction", name := "take", desc := "(LYearBaskets$Fraction;)V" } : Jvm.MethodName) ({ cls := "YearBaskets$Fraction", name := "take", desc := "(LYearBaskets$Fraction;)V" } : Jvm.MethodName)) ∈ zG := zt_3 (List.mem_of_getElem? (i := 53) rfl) rfl
theorem q_103 : (Jvm.Cond.code ({ cls := "YearBaskets$Fraction", name := "take", desc := "(LYearBaskets$Fraction;)V" } : Jvm.MethodName) prog_3_method_3_code (2 : Nat) (Option.none : Option Jvm.ClassFile.FieldType)) ∈ zG := zt_3 (List.mem_of_getElem? (i := 54) rfl) rfl
theorem q_104 : (Jvm.Cond.static ({ cls := "YearBaskets$Fraction", name := "commonDivisor", desc := "(JJ)J" } : Jvm.MethodName)) ∈ zG := zt_3 (List.mem_of_getElem? (i := 22) rfl) rfl
theorem q_105 : (Jvm.Cond.code ({ cls := "YearBaskets$Fraction", name := "commonDivisor", desc := "(JJ)J" } : Jvm.MethodName) prog_3_method_11_code (11 : Nat) (Option.some Jvm.ClassFile.FieldType.long)) ∈ zG := zt_3 (List.mem_of_getElem? (i := 23) rfl) rfl
theorem q_106 : (Jvm.Cond.instanceMethod ({ cls := "YearBaskets$Fraction", name := "put", desc := "(JJ)V" } : Jvm.MethodName)) ∈ zG := zt_3 (List.mem_of_getElem? (i := 17) rfl) rfl
theorem q_107 : (Jvm.Cond.selects "YearBaskets$Fraction" ({ cls := "YearBaskets$Fraction", name := "put", desc := "(JJ)V" } : Jvm.MethodName) ({ cls := "YearBaskets$Fraction", name := "put", desc := "(JJ)V" } : Jvm.MethodName)) ∈ zG := zt_3 (List.mem_of_getElem? (i := 18) rfl) rfl
theorem q_108 : (Jvm.Cond.code ({ cls := "YearBaskets$Fraction", name := "put", desc := "(JJ)V" } : Jvm.MethodName) prog_3_method_4_code (7 : Nat) (Option.none : Option Jvm.ClassFile.FieldType)) ∈ zG := zt_3 (List.mem_of_getElem? (i := 19) rfl) rfl
theorem q_109 : (Jvm.Cond.methodLink "YearBaskets$Fraction" (26 : Nat) ({ cls := "YearBaskets$Fraction", name := "refuse", desc := "(I)V" } : Jvm.MethodName)) ∈ zG := zt_3 (List.mem_of_getElem? (i := 20) rfl) rfl
theorem q_110 : (Jvm.Cond.constantLong "YearBaskets$Fraction" (34 : Nat) (1000000000000000 : Int64)) ∈ zG := zt_3 (List.mem_of_getElem? (i := 24) rfl) rfl
theorem q_111 : (Jvm.Cond.methodLink "YearBaskets$Fraction" (30 : Nat) ({ cls := "YearBaskets$Fraction", name := "commonDivisor", desc := "(JJ)J" } : Jvm.MethodName)) ∈ zG := zt_3 (List.mem_of_getElem? (i := 21) rfl) rfl
theorem q_112 : (Jvm.Cond.instanceMethod ({ cls := "YearBaskets$Fraction", name := "turnOver", desc := "()V" } : Jvm.MethodName)) ∈ zG := zt_3 (List.mem_of_getElem? (i := 60) rfl) rfl
theorem q_113 : (Jvm.Cond.selects "YearBaskets$Fraction" ({ cls := "YearBaskets$Fraction", name := "turnOver", desc := "()V" } : Jvm.MethodName) ({ cls := "YearBaskets$Fraction", name := "turnOver", desc := "()V" } : Jvm.MethodName)) ∈ zG := zt_3 (List.mem_of_getElem? (i := 61) rfl) rfl
theorem q_114 : (Jvm.Cond.code ({ cls := "YearBaskets$Fraction", name := "turnOver", desc := "()V" } : Jvm.MethodName) prog_3_method_5_code (3 : Nat) (Option.none : Option Jvm.ClassFile.FieldType)) ∈ zG := zt_3 (List.mem_of_getElem? (i := 62) rfl) rfl
theorem q_115 : (Jvm.Cond.static ({ cls := "YearBaskets$Fraction", name := "exceeds", desc := "(JJJ)Z" } : Jvm.MethodName)) ∈ zG := zt_3 (List.mem_of_getElem? (i := 31) rfl) rfl
theorem q_116 : (Jvm.Cond.code ({ cls := "YearBaskets$Fraction", name := "exceeds", desc := "(JJJ)Z" } : Jvm.MethodName) prog_3_method_12_code (6 : Nat) (Option.some Jvm.ClassFile.FieldType.boolean)) ∈ zG := zt_3 (List.mem_of_getElem? (i := 32) rfl) rfl
theorem q_117 : (Jvm.Cond.instanceMethod ({ cls := "YearBaskets$Fraction", name := "multiply", desc := "(LYearBaskets$Fraction;)V" } : Jvm.MethodName)) ∈ zG := zt_3 (List.mem_of_getElem? (i := 56) rfl) rfl
theorem q_118 : (Jvm.Cond.selects "YearBaskets$Fraction" ({ cls := "YearBaskets$Fraction", name := "multiply", desc := "(LYearBaskets$Fraction;)V" } : Jvm.MethodName) ({ cls := "YearBaskets$Fraction", name := "multiply", desc := "(LYearBaskets$Fraction;)V" } : Jvm.MethodName)) ∈ zG := zt_3 (List.mem_of_getElem? (i := 57) rfl) rfl
theorem q_119 : (Jvm.Cond.code ({ cls := "YearBaskets$Fraction", name := "multiply", desc := "(LYearBaskets$Fraction;)V" } : Jvm.MethodName) prog_3_method_6_code (14 : Nat) (Option.none : Option Jvm.ClassFile.FieldType)) ∈ zG := zt_3 (List.mem_of_getElem? (i := 58) rfl) rfl
theorem q_120 : (Jvm.Cond.methodLink "YearBaskets$Fraction" (36 : Nat) ({ cls := "YearBaskets$Fraction", name := "exceeds", desc := "(JJJ)Z" } : Jvm.MethodName)) ∈ zG := zt_3 (List.mem_of_getElem? (i := 30) rfl) rfl
theorem q_121 : (Jvm.Cond.instanceMethod ({ cls := "YearBaskets$Fraction", name := "addAndShare", desc := "(JJI)V" } : Jvm.MethodName)) ∈ zG := zt_3 (List.mem_of_getElem? (i := 27) rfl) rfl
theorem q_122 : (Jvm.Cond.selects "YearBaskets$Fraction" ({ cls := "YearBaskets$Fraction", name := "addAndShare", desc := "(JJI)V" } : Jvm.MethodName) ({ cls := "YearBaskets$Fraction", name := "addAndShare", desc := "(JJI)V" } : Jvm.MethodName)) ∈ zG := zt_3 (List.mem_of_getElem? (i := 28) rfl) rfl
theorem q_123 : (Jvm.Cond.code ({ cls := "YearBaskets$Fraction", name := "addAndShare", desc := "(JJI)V" } : Jvm.MethodName) prog_3_method_7_code (18 : Nat) (Option.none : Option Jvm.ClassFile.FieldType)) ∈ zG := zt_3 (List.mem_of_getElem? (i := 29) rfl) rfl
theorem q_124 : (Jvm.Cond.instanceMethod ({ cls := "YearBaskets$Fraction", name := "doubleIt", desc := "()V" } : Jvm.MethodName)) ∈ zG := zt_3 (List.mem_of_getElem? (i := 157) rfl) rfl
theorem q_125 : (Jvm.Cond.selects "YearBaskets$Fraction" ({ cls := "YearBaskets$Fraction", name := "doubleIt", desc := "()V" } : Jvm.MethodName) ({ cls := "YearBaskets$Fraction", name := "doubleIt", desc := "()V" } : Jvm.MethodName)) ∈ zG := zt_3 (List.mem_of_getElem? (i := 158) rfl) rfl
theorem q_126 : (Jvm.Cond.code ({ cls := "YearBaskets$Fraction", name := "doubleIt", desc := "()V" } : Jvm.MethodName) prog_3_method_8_code (2 : Nat) (Option.none : Option Jvm.ClassFile.FieldType)) ∈ zG := zt_3 (List.mem_of_getElem? (i := 159) rfl) rfl
theorem q_127 : (Jvm.Cond.methodLink "YearBaskets$Fraction" (40 : Nat) ({ cls := "YearBaskets$Fraction", name := "put", desc := "(JJ)V" } : Jvm.MethodName)) ∈ zG := zt_3 (List.mem_of_getElem? (i := 160) rfl) rfl
theorem q_128 : (Jvm.Cond.static ({ cls := "YearBaskets$Fraction", name := "compareShares", desc := "(JJJJ)I" } : Jvm.MethodName)) ∈ zG := zt_3 (List.mem_of_getElem? (i := 49) rfl) rfl
theorem q_129 : (Jvm.Cond.code ({ cls := "YearBaskets$Fraction", name := "compareShares", desc := "(JJJJ)I" } : Jvm.MethodName) prog_3_method_10_code (26 : Nat) (Option.some Jvm.ClassFile.FieldType.int)) ∈ zG := zt_3 (List.mem_of_getElem? (i := 50) rfl) rfl
theorem q_130 : (Jvm.Cond.static ({ cls := "YearBaskets$Fraction", name := "orderOf", desc := "(LYearBaskets$Fraction;LYearBaskets$Fraction;)I" } : Jvm.MethodName)) ∈ zG := zt_3 (List.mem_of_getElem? (i := 46) rfl) rfl
theorem q_131 : (Jvm.Cond.code ({ cls := "YearBaskets$Fraction", name := "orderOf", desc := "(LYearBaskets$Fraction;LYearBaskets$Fraction;)I" } : Jvm.MethodName) prog_3_method_9_code (7 : Nat) (Option.some Jvm.ClassFile.FieldType.int)) ∈ zG := zt_3 (List.mem_of_getElem? (i := 47) rfl) rfl
theorem q_132 : (Jvm.Cond.methodLink "YearBaskets$Fraction" (44 : Nat) ({ cls := "YearBaskets$Fraction", name := "compareShares", desc := "(JJJJ)I" } : Jvm.MethodName)) ∈ zG := zt_3 (List.mem_of_getElem? (i := 48) rfl) rfl
abbrev b_F_refuse : ByteArray := prog_3_method_2_code
abbrev y_F_refuse : MethodName := ⟨"YearBaskets$Fraction", "refuse", "(I)V"⟩
abbrev b_F_take : ByteArray := prog_3_method_3_code
abbrev y_F_take : MethodName := ⟨"YearBaskets$Fraction", "take", "(LYearBaskets$Fraction;)V"⟩
abbrev b_F_commonDivisor : ByteArray := prog_3_method_11_code
abbrev y_F_commonDivisor : MethodName := ⟨"YearBaskets$Fraction", "commonDivisor", "(JJ)J"⟩
abbrev b_F_put : ByteArray := prog_3_method_4_code
abbrev y_F_put : MethodName := ⟨"YearBaskets$Fraction", "put", "(JJ)V"⟩
abbrev b_F_turnOver : ByteArray := prog_3_method_5_code
abbrev y_F_turnOver : MethodName := ⟨"YearBaskets$Fraction", "turnOver", "()V"⟩
abbrev b_F_exceeds : ByteArray := prog_3_method_12_code
abbrev y_F_exceeds : MethodName := ⟨"YearBaskets$Fraction", "exceeds", "(JJJ)Z"⟩
abbrev b_F_multiply : ByteArray := prog_3_method_6_code
abbrev y_F_multiply : MethodName := ⟨"YearBaskets$Fraction", "multiply", "(LYearBaskets$Fraction;)V"⟩
abbrev b_F_addAndShare : ByteArray := prog_3_method_7_code
abbrev y_F_addAndShare : MethodName := ⟨"YearBaskets$Fraction", "addAndShare", "(JJI)V"⟩
abbrev b_F_doubleIt : ByteArray := prog_3_method_8_code
abbrev y_F_doubleIt : MethodName := ⟨"YearBaskets$Fraction", "doubleIt", "()V"⟩
abbrev b_F_compareShares : ByteArray := prog_3_method_10_code
abbrev y_F_compareShares : MethodName := ⟨"YearBaskets$Fraction", "compareShares", "(JJJJ)I"⟩
abbrev b_F_orderOf : ByteArray := prog_3_method_9_code
abbrev y_F_orderOf : MethodName := ⟨"YearBaskets$Fraction", "orderOf", "(LYearBaskets$Fraction;LYearBaskets$Fraction;)I"⟩
theorem w_F_refuse : Cond.code y_F_refuse b_F_refuse 2 (none) ∈ zG ∧ (Cond.instanceMethod y_F_refuse ∈ zG ∧ Cond.selects y_F_refuse.cls y_F_refuse y_F_refuse ∈ zG) ∧ Cond.initialized y_F_refuse.cls ∈ zG ∧ zY y_F_refuse 1 := ⟨q_95, ⟨q_93, q_94⟩, q_96, by decide +kernel⟩
theorem w_F_take : Cond.code y_F_take b_F_take 2 (none) ∈ zG ∧ (Cond.instanceMethod y_F_take ∈ zG ∧ Cond.selects y_F_take.cls y_F_take y_F_take ∈ zG) ∧ Cond.initialized y_F_take.cls ∈ zG ∧ zY y_F_take 1 := ⟨q_103, ⟨q_101, q_102⟩, q_96, by decide +kernel⟩
theorem w_F_commonDivisor : Cond.code y_F_commonDivisor b_F_commonDivisor 11 (some .long) ∈ zG ∧ Cond.static y_F_commonDivisor ∈ zG ∧ Cond.initialized y_F_commonDivisor.cls ∈ zG ∧ zY y_F_commonDivisor 2 := ⟨q_105, q_104, q_96, by decide +kernel⟩
theorem w_F_put : Cond.code y_F_put b_F_put 7 (none) ∈ zG ∧ (Cond.instanceMethod y_F_put ∈ zG ∧ Cond.selects y_F_put.cls y_F_put y_F_put ∈ zG) ∧ Cond.initialized y_F_put.cls ∈ zG ∧ zY y_F_put 2 := ⟨q_108, ⟨q_106, q_107⟩, q_96, by decide +kernel⟩
theorem w_F_turnOver : Cond.code y_F_turnOver b_F_turnOver 3 (none) ∈ zG ∧ (Cond.instanceMethod y_F_turnOver ∈ zG ∧ Cond.selects y_F_turnOver.cls y_F_turnOver y_F_turnOver ∈ zG) ∧ Cond.initialized y_F_turnOver.cls ∈ zG ∧ zY y_F_turnOver 0 := ⟨q_114, ⟨q_112, q_113⟩, q_96, by decide +kernel⟩
theorem w_F_exceeds : Cond.code y_F_exceeds b_F_exceeds 6 (some .boolean) ∈ zG ∧ Cond.static y_F_exceeds ∈ zG ∧ Cond.initialized y_F_exceeds.cls ∈ zG ∧ zY y_F_exceeds 3 := ⟨q_116, q_115, q_96, by decide +kernel⟩
theorem w_F_multiply : Cond.code y_F_multiply b_F_multiply 14 (none) ∈ zG ∧ (Cond.instanceMethod y_F_multiply ∈ zG ∧ Cond.selects y_F_multiply.cls y_F_multiply y_F_multiply ∈ zG) ∧ Cond.initialized y_F_multiply.cls ∈ zG ∧ zY y_F_multiply 1 := ⟨q_119, ⟨q_117, q_118⟩, q_96, by decide +kernel⟩
theorem w_F_addAndShare : Cond.code y_F_addAndShare b_F_addAndShare 18 (none) ∈ zG ∧ (Cond.instanceMethod y_F_addAndShare ∈ zG ∧ Cond.selects y_F_addAndShare.cls y_F_addAndShare y_F_addAndShare ∈ zG) ∧ Cond.initialized y_F_addAndShare.cls ∈ zG ∧ zY y_F_addAndShare 3 := ⟨q_123, ⟨q_121, q_122⟩, q_96, by decide +kernel⟩
theorem w_F_doubleIt : Cond.code y_F_doubleIt b_F_doubleIt 2 (none) ∈ zG ∧ (Cond.instanceMethod y_F_doubleIt ∈ zG ∧ Cond.selects y_F_doubleIt.cls y_F_doubleIt y_F_doubleIt ∈ zG) ∧ Cond.initialized y_F_doubleIt.cls ∈ zG ∧ zY y_F_doubleIt 0 := ⟨q_126, ⟨q_124, q_125⟩, q_96, by decide +kernel⟩
theorem w_F_compareShares : Cond.code y_F_compareShares b_F_compareShares 26 (some .int) ∈ zG ∧ Cond.static y_F_compareShares ∈ zG ∧ Cond.initialized y_F_compareShares.cls ∈ zG ∧ zY y_F_compareShares 4 := ⟨q_129, q_128, q_96, by decide +kernel⟩
theorem w_F_orderOf : Cond.code y_F_orderOf b_F_orderOf 7 (some .int) ∈ zG ∧ Cond.static y_F_orderOf ∈ zG ∧ Cond.initialized y_F_orderOf.cls ∈ zG ∧ zY y_F_orderOf 2 := ⟨q_131, q_130, q_96, by decide +kernel⟩
theorem d_F_refuse_0 : decode b_F_refuse 0 = .ok (.aload_n 0, 1) := by decide +kernel
theorem d_F_refuse_1 : decode b_F_refuse 1 = .ok (.lconst 0, 1) := by decide +kernel
theorem d_F_refuse_2 : decode b_F_refuse 2 = .ok (.putfield 9, 3) := by decide +kernel
theorem d_F_refuse_5 : decode b_F_refuse 5 = .ok (.aload_n 0, 1) := by decide +kernel
theorem d_F_refuse_6 : decode b_F_refuse 6 = .ok (.lconst 1, 1) := by decide +kernel
theorem d_F_refuse_7 : decode b_F_refuse 7 = .ok (.putfield 15, 3) := by decide +kernel
theorem d_F_refuse_10 : decode b_F_refuse 10 = .ok (.aload_n 0, 1) := by decide +kernel
theorem d_F_refuse_11 : decode b_F_refuse 11 = .ok (.iconst 0, 1) := by decide +kernel
theorem d_F_refuse_12 : decode b_F_refuse 12 = .ok (.putfield 18, 3) := by decide +kernel
theorem d_F_refuse_15 : decode b_F_refuse 15 = .ok (.aload_n 0, 1) := by decide +kernel
theorem d_F_refuse_16 : decode b_F_refuse 16 = .ok (.iload_n 1, 1) := by decide +kernel
theorem d_F_refuse_17 : decode b_F_refuse 17 = .ok (.putfield 22, 3) := by decide +kernel
theorem d_F_refuse_20 : decode b_F_refuse 20 = .ok (.return_, 1) := by decide +kernel
theorem d_F_take_0 : decode b_F_take 0 = .ok (.aload_n 1, 1) := by decide +kernel
theorem d_F_take_1 : decode b_F_take 1 = .ok (.ifnonnull 4, 3) := by decide +kernel
theorem d_F_take_5 : decode b_F_take 5 = .ok (.aload_n 0, 1) := by decide +kernel
theorem d_F_take_6 : decode b_F_take 6 = .ok (.aload_n 1, 1) := by decide +kernel
theorem d_F_take_7 : decode b_F_take 7 = .ok (.getfield 9, 3) := by decide +kernel
theorem d_F_take_10 : decode b_F_take 10 = .ok (.putfield 9, 3) := by decide +kernel
theorem d_F_take_13 : decode b_F_take 13 = .ok (.aload_n 0, 1) := by decide +kernel
theorem d_F_take_14 : decode b_F_take 14 = .ok (.aload_n 1, 1) := by decide +kernel
theorem d_F_take_15 : decode b_F_take 15 = .ok (.getfield 15, 3) := by decide +kernel
theorem d_F_take_18 : decode b_F_take 18 = .ok (.putfield 15, 3) := by decide +kernel
theorem d_F_take_21 : decode b_F_take 21 = .ok (.aload_n 0, 1) := by decide +kernel
theorem d_F_take_22 : decode b_F_take 22 = .ok (.aload_n 1, 1) := by decide +kernel
theorem d_F_take_23 : decode b_F_take 23 = .ok (.getfield 18, 3) := by decide +kernel
theorem d_F_take_26 : decode b_F_take 26 = .ok (.putfield 18, 3) := by decide +kernel
theorem d_F_take_29 : decode b_F_take 29 = .ok (.aload_n 0, 1) := by decide +kernel
theorem d_F_take_30 : decode b_F_take 30 = .ok (.aload_n 1, 1) := by decide +kernel
theorem d_F_take_31 : decode b_F_take 31 = .ok (.getfield 22, 3) := by decide +kernel
theorem d_F_take_34 : decode b_F_take 34 = .ok (.putfield 22, 3) := by decide +kernel
theorem d_F_take_37 : decode b_F_take 37 = .ok (.return_, 1) := by decide +kernel
theorem d_F_commonDivisor_0 : decode b_F_commonDivisor 0 = .ok (.lload_n 0, 1) := by decide +kernel
theorem d_F_commonDivisor_1 : decode b_F_commonDivisor 1 = .ok (.lstore 4, 2) := by decide +kernel
theorem d_F_commonDivisor_3 : decode b_F_commonDivisor 3 = .ok (.lload_n 2, 1) := by decide +kernel
theorem d_F_commonDivisor_4 : decode b_F_commonDivisor 4 = .ok (.lstore 6, 2) := by decide +kernel
theorem d_F_commonDivisor_6 : decode b_F_commonDivisor 6 = .ok (.iconst 0, 1) := by decide +kernel
theorem d_F_commonDivisor_7 : decode b_F_commonDivisor 7 = .ok (.istore 8, 2) := by decide +kernel
theorem d_F_commonDivisor_9 : decode b_F_commonDivisor 9 = .ok (.iload 8, 2) := by decide +kernel
theorem d_F_commonDivisor_11 : decode b_F_commonDivisor 11 = .ok (.sipush 200, 3) := by decide +kernel
theorem d_F_commonDivisor_14 : decode b_F_commonDivisor 14 = .ok (.if_icmp .ge 31, 3) := by decide +kernel
theorem d_F_commonDivisor_17 : decode b_F_commonDivisor 17 = .ok (.lload 6, 2) := by decide +kernel
theorem d_F_commonDivisor_19 : decode b_F_commonDivisor 19 = .ok (.lconst 0, 1) := by decide +kernel
theorem d_F_commonDivisor_20 : decode b_F_commonDivisor 20 = .ok (.lcmp, 1) := by decide +kernel
theorem d_F_commonDivisor_21 : decode b_F_commonDivisor 21 = .ok (.ifCond .eq 24, 3) := by decide +kernel
theorem d_F_commonDivisor_24 : decode b_F_commonDivisor 24 = .ok (.lload 4, 2) := by decide +kernel
theorem d_F_commonDivisor_26 : decode b_F_commonDivisor 26 = .ok (.lload 6, 2) := by decide +kernel
theorem d_F_commonDivisor_28 : decode b_F_commonDivisor 28 = .ok (.lrem, 1) := by decide +kernel
theorem d_F_commonDivisor_29 : decode b_F_commonDivisor 29 = .ok (.lstore 9, 2) := by decide +kernel
theorem d_F_commonDivisor_31 : decode b_F_commonDivisor 31 = .ok (.lload 6, 2) := by decide +kernel
theorem d_F_commonDivisor_33 : decode b_F_commonDivisor 33 = .ok (.lstore 4, 2) := by decide +kernel
theorem d_F_commonDivisor_35 : decode b_F_commonDivisor 35 = .ok (.lload 9, 2) := by decide +kernel
theorem d_F_commonDivisor_37 : decode b_F_commonDivisor 37 = .ok (.lstore 6, 2) := by decide +kernel
theorem d_F_commonDivisor_39 : decode b_F_commonDivisor 39 = .ok (.iinc 8 1, 3) := by decide +kernel
theorem d_F_commonDivisor_42 : decode b_F_commonDivisor 42 = .ok (.goto (-33), 3) := by decide +kernel
theorem d_F_commonDivisor_45 : decode b_F_commonDivisor 45 = .ok (.lload 4, 2) := by decide +kernel
theorem d_F_commonDivisor_47 : decode b_F_commonDivisor 47 = .ok (.lconst 0, 1) := by decide +kernel
theorem d_F_commonDivisor_48 : decode b_F_commonDivisor 48 = .ok (.lcmp, 1) := by decide +kernel
theorem d_F_commonDivisor_49 : decode b_F_commonDivisor 49 = .ok (.ifCond .le 8, 3) := by decide +kernel
theorem d_F_commonDivisor_52 : decode b_F_commonDivisor 52 = .ok (.lload 4, 2) := by decide +kernel
theorem d_F_commonDivisor_54 : decode b_F_commonDivisor 54 = .ok (.goto 4, 3) := by decide +kernel
theorem d_F_commonDivisor_57 : decode b_F_commonDivisor 57 = .ok (.lconst 1, 1) := by decide +kernel
theorem d_F_commonDivisor_58 : decode b_F_commonDivisor 58 = .ok (.lreturn, 1) := by decide +kernel
theorem d_F_put_0 : decode b_F_put 0 = .ok (.lload_n 1, 1) := by decide +kernel
theorem d_F_put_1 : decode b_F_put 1 = .ok (.lconst 0, 1) := by decide +kernel
theorem d_F_put_2 : decode b_F_put 2 = .ok (.lcmp, 1) := by decide +kernel
theorem d_F_put_3 : decode b_F_put 3 = .ok (.ifCond .lt 9, 3) := by decide +kernel
theorem d_F_put_6 : decode b_F_put 6 = .ok (.lload_n 3, 1) := by decide +kernel
theorem d_F_put_7 : decode b_F_put 7 = .ok (.lconst 1, 1) := by decide +kernel
theorem d_F_put_8 : decode b_F_put 8 = .ok (.lcmp, 1) := by decide +kernel
theorem d_F_put_9 : decode b_F_put 9 = .ok (.ifCond .ge 11, 3) := by decide +kernel
theorem d_F_put_12 : decode b_F_put 12 = .ok (.aload_n 0, 1) := by decide +kernel
theorem d_F_put_13 : decode b_F_put 13 = .ok (.sipush (-1003), 3) := by decide +kernel
theorem d_F_put_16 : decode b_F_put 16 = .ok (.invokevirtual 26, 3) := by decide +kernel
theorem d_F_put_19 : decode b_F_put 19 = .ok (.return_, 1) := by decide +kernel
theorem d_F_put_20 : decode b_F_put 20 = .ok (.lload_n 1, 1) := by decide +kernel
theorem d_F_put_21 : decode b_F_put 21 = .ok (.lload_n 3, 1) := by decide +kernel
theorem d_F_put_22 : decode b_F_put 22 = .ok (.invokestatic 30, 3) := by decide +kernel
theorem d_F_put_25 : decode b_F_put 25 = .ok (.lstore 5, 2) := by decide +kernel
theorem d_F_put_27 : decode b_F_put 27 = .ok (.aload_n 0, 1) := by decide +kernel
theorem d_F_put_28 : decode b_F_put 28 = .ok (.lload 5, 2) := by decide +kernel
theorem d_F_put_30 : decode b_F_put 30 = .ok (.lconst 1, 1) := by decide +kernel
theorem d_F_put_31 : decode b_F_put 31 = .ok (.lcmp, 1) := by decide +kernel
theorem d_F_put_32 : decode b_F_put 32 = .ok (.ifCond .le 10, 3) := by decide +kernel
theorem d_F_put_35 : decode b_F_put 35 = .ok (.lload_n 1, 1) := by decide +kernel
theorem d_F_put_36 : decode b_F_put 36 = .ok (.lload 5, 2) := by decide +kernel
theorem d_F_put_38 : decode b_F_put 38 = .ok (.ldiv, 1) := by decide +kernel
theorem d_F_put_39 : decode b_F_put 39 = .ok (.goto 4, 3) := by decide +kernel
theorem d_F_put_42 : decode b_F_put 42 = .ok (.lload_n 1, 1) := by decide +kernel
theorem d_F_put_43 : decode b_F_put 43 = .ok (.putfield 9, 3) := by decide +kernel
theorem d_F_put_46 : decode b_F_put 46 = .ok (.aload_n 0, 1) := by decide +kernel
theorem d_F_put_47 : decode b_F_put 47 = .ok (.lload 5, 2) := by decide +kernel
theorem d_F_put_49 : decode b_F_put 49 = .ok (.lconst 1, 1) := by decide +kernel
theorem d_F_put_50 : decode b_F_put 50 = .ok (.lcmp, 1) := by decide +kernel
theorem d_F_put_51 : decode b_F_put 51 = .ok (.ifCond .le 10, 3) := by decide +kernel
theorem d_F_put_54 : decode b_F_put 54 = .ok (.lload_n 3, 1) := by decide +kernel
theorem d_F_put_55 : decode b_F_put 55 = .ok (.lload 5, 2) := by decide +kernel
theorem d_F_put_57 : decode b_F_put 57 = .ok (.ldiv, 1) := by decide +kernel
theorem d_F_put_58 : decode b_F_put 58 = .ok (.goto 4, 3) := by decide +kernel
theorem d_F_put_61 : decode b_F_put 61 = .ok (.lload_n 3, 1) := by decide +kernel
theorem d_F_put_62 : decode b_F_put 62 = .ok (.putfield 15, 3) := by decide +kernel
theorem d_F_put_65 : decode b_F_put 65 = .ok (.aload_n 0, 1) := by decide +kernel
theorem d_F_put_66 : decode b_F_put 66 = .ok (.iconst 0, 1) := by decide +kernel
theorem d_F_put_67 : decode b_F_put 67 = .ok (.putfield 18, 3) := by decide +kernel
theorem d_F_put_70 : decode b_F_put 70 = .ok (.aload_n 0, 1) := by decide +kernel
theorem d_F_put_71 : decode b_F_put 71 = .ok (.iconst 0, 1) := by decide +kernel
theorem d_F_put_72 : decode b_F_put 72 = .ok (.putfield 22, 3) := by decide +kernel
theorem d_F_put_75 : decode b_F_put 75 = .ok (.aload_n 0, 1) := by decide +kernel
theorem d_F_put_76 : decode b_F_put 76 = .ok (.getfield 9, 3) := by decide +kernel
theorem d_F_put_79 : decode b_F_put 79 = .ok (.ldc2_w 34, 3) := by decide +kernel
theorem d_F_put_82 : decode b_F_put 82 = .ok (.lcmp, 1) := by decide +kernel
theorem d_F_put_83 : decode b_F_put 83 = .ok (.ifCond .gt 14, 3) := by decide +kernel
theorem d_F_put_86 : decode b_F_put 86 = .ok (.aload_n 0, 1) := by decide +kernel
theorem d_F_put_87 : decode b_F_put 87 = .ok (.getfield 15, 3) := by decide +kernel
theorem d_F_put_90 : decode b_F_put 90 = .ok (.ldc2_w 34, 3) := by decide +kernel
theorem d_F_put_93 : decode b_F_put 93 = .ok (.lcmp, 1) := by decide +kernel
theorem d_F_put_94 : decode b_F_put 94 = .ok (.ifCond .le 10, 3) := by decide +kernel
theorem d_F_put_97 : decode b_F_put 97 = .ok (.aload_n 0, 1) := by decide +kernel
theorem d_F_put_98 : decode b_F_put 98 = .ok (.sipush (-1005), 3) := by decide +kernel
theorem d_F_put_101 : decode b_F_put 101 = .ok (.invokevirtual 26, 3) := by decide +kernel
theorem d_F_put_104 : decode b_F_put 104 = .ok (.return_, 1) := by decide +kernel
theorem d_F_turnOver_0 : decode b_F_turnOver 0 = .ok (.aload_n 0, 1) := by decide +kernel
theorem d_F_turnOver_1 : decode b_F_turnOver 1 = .ok (.getfield 22, 3) := by decide +kernel
theorem d_F_turnOver_4 : decode b_F_turnOver 4 = .ok (.ifCond .eq 4, 3) := by decide +kernel
theorem d_F_turnOver_7 : decode b_F_turnOver 7 = .ok (.return_, 1) := by decide +kernel
theorem d_F_turnOver_8 : decode b_F_turnOver 8 = .ok (.aload_n 0, 1) := by decide +kernel
theorem d_F_turnOver_9 : decode b_F_turnOver 9 = .ok (.getfield 9, 3) := by decide +kernel
theorem d_F_turnOver_12 : decode b_F_turnOver 12 = .ok (.lconst 0, 1) := by decide +kernel
theorem d_F_turnOver_13 : decode b_F_turnOver 13 = .ok (.lcmp, 1) := by decide +kernel
theorem d_F_turnOver_14 : decode b_F_turnOver 14 = .ok (.ifCond .ne 11, 3) := by decide +kernel
theorem d_F_turnOver_17 : decode b_F_turnOver 17 = .ok (.aload_n 0, 1) := by decide +kernel
theorem d_F_turnOver_18 : decode b_F_turnOver 18 = .ok (.sipush (-1003), 3) := by decide +kernel
theorem d_F_turnOver_21 : decode b_F_turnOver 21 = .ok (.invokevirtual 26, 3) := by decide +kernel
theorem d_F_turnOver_24 : decode b_F_turnOver 24 = .ok (.return_, 1) := by decide +kernel
theorem d_F_turnOver_25 : decode b_F_turnOver 25 = .ok (.aload_n 0, 1) := by decide +kernel
theorem d_F_turnOver_26 : decode b_F_turnOver 26 = .ok (.getfield 9, 3) := by decide +kernel
theorem d_F_turnOver_29 : decode b_F_turnOver 29 = .ok (.lstore_n 1, 1) := by decide +kernel
theorem d_F_turnOver_30 : decode b_F_turnOver 30 = .ok (.aload_n 0, 1) := by decide +kernel
theorem d_F_turnOver_31 : decode b_F_turnOver 31 = .ok (.aload_n 0, 1) := by decide +kernel
theorem d_F_turnOver_32 : decode b_F_turnOver 32 = .ok (.getfield 15, 3) := by decide +kernel
theorem d_F_turnOver_35 : decode b_F_turnOver 35 = .ok (.putfield 9, 3) := by decide +kernel
theorem d_F_turnOver_38 : decode b_F_turnOver 38 = .ok (.aload_n 0, 1) := by decide +kernel
theorem d_F_turnOver_39 : decode b_F_turnOver 39 = .ok (.lload_n 1, 1) := by decide +kernel
theorem d_F_turnOver_40 : decode b_F_turnOver 40 = .ok (.putfield 15, 3) := by decide +kernel
theorem d_F_turnOver_43 : decode b_F_turnOver 43 = .ok (.return_, 1) := by decide +kernel
theorem d_F_exceeds_0 : decode b_F_exceeds 0 = .ok (.lload_n 0, 1) := by decide +kernel
theorem d_F_exceeds_1 : decode b_F_exceeds 1 = .ok (.lconst 0, 1) := by decide +kernel
theorem d_F_exceeds_2 : decode b_F_exceeds 2 = .ok (.lcmp, 1) := by decide +kernel
theorem d_F_exceeds_3 : decode b_F_exceeds 3 = .ok (.ifCond .le 16, 3) := by decide +kernel
theorem d_F_exceeds_6 : decode b_F_exceeds 6 = .ok (.lload_n 2, 1) := by decide +kernel
theorem d_F_exceeds_7 : decode b_F_exceeds 7 = .ok (.lload 4, 2) := by decide +kernel
theorem d_F_exceeds_9 : decode b_F_exceeds 9 = .ok (.lload_n 0, 1) := by decide +kernel
theorem d_F_exceeds_10 : decode b_F_exceeds 10 = .ok (.ldiv, 1) := by decide +kernel
theorem d_F_exceeds_11 : decode b_F_exceeds 11 = .ok (.lcmp, 1) := by decide +kernel
theorem d_F_exceeds_12 : decode b_F_exceeds 12 = .ok (.ifCond .le 7, 3) := by decide +kernel
theorem d_F_exceeds_15 : decode b_F_exceeds 15 = .ok (.iconst 1, 1) := by decide +kernel
theorem d_F_exceeds_16 : decode b_F_exceeds 16 = .ok (.goto 4, 3) := by decide +kernel
theorem d_F_exceeds_19 : decode b_F_exceeds 19 = .ok (.iconst 0, 1) := by decide +kernel
theorem d_F_exceeds_20 : decode b_F_exceeds 20 = .ok (.ireturn, 1) := by decide +kernel
theorem d_F_multiply_0 : decode b_F_multiply 0 = .ok (.aload_n 0, 1) := by decide +kernel
theorem d_F_multiply_1 : decode b_F_multiply 1 = .ok (.getfield 22, 3) := by decide +kernel
theorem d_F_multiply_4 : decode b_F_multiply 4 = .ok (.ifCond .eq 4, 3) := by decide +kernel
theorem d_F_multiply_7 : decode b_F_multiply 7 = .ok (.return_, 1) := by decide +kernel
theorem d_F_multiply_8 : decode b_F_multiply 8 = .ok (.aload_n 1, 1) := by decide +kernel
theorem d_F_multiply_9 : decode b_F_multiply 9 = .ok (.ifnull 21, 3) := by decide +kernel
theorem d_F_multiply_12 : decode b_F_multiply 12 = .ok (.aload_n 1, 1) := by decide +kernel
theorem d_F_multiply_13 : decode b_F_multiply 13 = .ok (.getfield 22, 3) := by decide +kernel
theorem d_F_multiply_16 : decode b_F_multiply 16 = .ok (.ifCond .ne 14, 3) := by decide +kernel
theorem d_F_multiply_19 : decode b_F_multiply 19 = .ok (.aload_n 1, 1) := by decide +kernel
theorem d_F_multiply_20 : decode b_F_multiply 20 = .ok (.getfield 18, 3) := by decide +kernel
theorem d_F_multiply_23 : decode b_F_multiply 23 = .ok (.aload_n 0, 1) := by decide +kernel
theorem d_F_multiply_24 : decode b_F_multiply 24 = .ok (.getfield 18, 3) := by decide +kernel
theorem d_F_multiply_27 : decode b_F_multiply 27 = .ok (.if_icmp .eq 29, 3) := by decide +kernel
theorem d_F_multiply_30 : decode b_F_multiply 30 = .ok (.aload_n 0, 1) := by decide +kernel
theorem d_F_multiply_31 : decode b_F_multiply 31 = .ok (.aload_n 1, 1) := by decide +kernel
theorem d_F_multiply_32 : decode b_F_multiply 32 = .ok (.ifnull 10, 3) := by decide +kernel
theorem d_F_multiply_35 : decode b_F_multiply 35 = .ok (.aload_n 1, 1) := by decide +kernel
theorem d_F_multiply_36 : decode b_F_multiply 36 = .ok (.getfield 22, 3) := by decide +kernel
theorem d_F_multiply_39 : decode b_F_multiply 39 = .ok (.ifCond .ne 9, 3) := by decide +kernel
theorem d_F_multiply_42 : decode b_F_multiply 42 = .ok (.sipush (-1003), 3) := by decide +kernel
theorem d_F_multiply_45 : decode b_F_multiply 45 = .ok (.goto 7, 3) := by decide +kernel
theorem d_F_multiply_48 : decode b_F_multiply 48 = .ok (.aload_n 1, 1) := by decide +kernel
theorem d_F_multiply_49 : decode b_F_multiply 49 = .ok (.getfield 22, 3) := by decide +kernel
theorem d_F_multiply_52 : decode b_F_multiply 52 = .ok (.invokevirtual 26, 3) := by decide +kernel
theorem d_F_multiply_55 : decode b_F_multiply 55 = .ok (.return_, 1) := by decide +kernel
theorem d_F_multiply_56 : decode b_F_multiply 56 = .ok (.aload_n 0, 1) := by decide +kernel
theorem d_F_multiply_57 : decode b_F_multiply 57 = .ok (.getfield 9, 3) := by decide +kernel
theorem d_F_multiply_60 : decode b_F_multiply 60 = .ok (.aload_n 1, 1) := by decide +kernel
theorem d_F_multiply_61 : decode b_F_multiply 61 = .ok (.getfield 15, 3) := by decide +kernel
theorem d_F_multiply_64 : decode b_F_multiply 64 = .ok (.invokestatic 30, 3) := by decide +kernel
theorem d_F_multiply_67 : decode b_F_multiply 67 = .ok (.lstore_n 2, 1) := by decide +kernel
theorem d_F_multiply_68 : decode b_F_multiply 68 = .ok (.aload_n 1, 1) := by decide +kernel
theorem d_F_multiply_69 : decode b_F_multiply 69 = .ok (.getfield 9, 3) := by decide +kernel
theorem d_F_multiply_72 : decode b_F_multiply 72 = .ok (.aload_n 0, 1) := by decide +kernel
theorem d_F_multiply_73 : decode b_F_multiply 73 = .ok (.getfield 15, 3) := by decide +kernel
theorem d_F_multiply_76 : decode b_F_multiply 76 = .ok (.invokestatic 30, 3) := by decide +kernel
theorem d_F_multiply_79 : decode b_F_multiply 79 = .ok (.lstore 4, 2) := by decide +kernel
theorem d_F_multiply_81 : decode b_F_multiply 81 = .ok (.lload_n 2, 1) := by decide +kernel
theorem d_F_multiply_82 : decode b_F_multiply 82 = .ok (.lconst 1, 1) := by decide +kernel
theorem d_F_multiply_83 : decode b_F_multiply 83 = .ok (.lcmp, 1) := by decide +kernel
theorem d_F_multiply_84 : decode b_F_multiply 84 = .ok (.ifCond .lt 10, 3) := by decide +kernel
theorem d_F_multiply_87 : decode b_F_multiply 87 = .ok (.lload 4, 2) := by decide +kernel
theorem d_F_multiply_89 : decode b_F_multiply 89 = .ok (.lconst 1, 1) := by decide +kernel
theorem d_F_multiply_90 : decode b_F_multiply 90 = .ok (.lcmp, 1) := by decide +kernel
theorem d_F_multiply_91 : decode b_F_multiply 91 = .ok (.ifCond .ge 11, 3) := by decide +kernel
theorem d_F_multiply_94 : decode b_F_multiply 94 = .ok (.aload_n 0, 1) := by decide +kernel
theorem d_F_multiply_95 : decode b_F_multiply 95 = .ok (.sipush (-1003), 3) := by decide +kernel
theorem d_F_multiply_98 : decode b_F_multiply 98 = .ok (.invokevirtual 26, 3) := by decide +kernel
theorem d_F_multiply_101 : decode b_F_multiply 101 = .ok (.return_, 1) := by decide +kernel
theorem d_F_multiply_102 : decode b_F_multiply 102 = .ok (.aload_n 0, 1) := by decide +kernel
theorem d_F_multiply_103 : decode b_F_multiply 103 = .ok (.getfield 9, 3) := by decide +kernel
theorem d_F_multiply_106 : decode b_F_multiply 106 = .ok (.lload_n 2, 1) := by decide +kernel
theorem d_F_multiply_107 : decode b_F_multiply 107 = .ok (.ldiv, 1) := by decide +kernel
theorem d_F_multiply_108 : decode b_F_multiply 108 = .ok (.lstore 6, 2) := by decide +kernel
theorem d_F_multiply_110 : decode b_F_multiply 110 = .ok (.aload_n 0, 1) := by decide +kernel
theorem d_F_multiply_111 : decode b_F_multiply 111 = .ok (.getfield 15, 3) := by decide +kernel
theorem d_F_multiply_114 : decode b_F_multiply 114 = .ok (.lload 4, 2) := by decide +kernel
theorem d_F_multiply_116 : decode b_F_multiply 116 = .ok (.ldiv, 1) := by decide +kernel
theorem d_F_multiply_117 : decode b_F_multiply 117 = .ok (.lstore 8, 2) := by decide +kernel
theorem d_F_multiply_119 : decode b_F_multiply 119 = .ok (.aload_n 1, 1) := by decide +kernel
theorem d_F_multiply_120 : decode b_F_multiply 120 = .ok (.getfield 9, 3) := by decide +kernel
theorem d_F_multiply_123 : decode b_F_multiply 123 = .ok (.lload 4, 2) := by decide +kernel
theorem d_F_multiply_125 : decode b_F_multiply 125 = .ok (.ldiv, 1) := by decide +kernel
theorem d_F_multiply_126 : decode b_F_multiply 126 = .ok (.lstore 10, 2) := by decide +kernel
theorem d_F_multiply_128 : decode b_F_multiply 128 = .ok (.aload_n 1, 1) := by decide +kernel
theorem d_F_multiply_129 : decode b_F_multiply 129 = .ok (.getfield 15, 3) := by decide +kernel
theorem d_F_multiply_132 : decode b_F_multiply 132 = .ok (.lload_n 2, 1) := by decide +kernel
theorem d_F_multiply_133 : decode b_F_multiply 133 = .ok (.ldiv, 1) := by decide +kernel
theorem d_F_multiply_134 : decode b_F_multiply 134 = .ok (.lstore 12, 2) := by decide +kernel
theorem d_F_multiply_136 : decode b_F_multiply 136 = .ok (.lload 6, 2) := by decide +kernel
theorem d_F_multiply_138 : decode b_F_multiply 138 = .ok (.lload 10, 2) := by decide +kernel
theorem d_F_multiply_140 : decode b_F_multiply 140 = .ok (.ldc2_w 34, 3) := by decide +kernel
theorem d_F_multiply_143 : decode b_F_multiply 143 = .ok (.invokestatic 36, 3) := by decide +kernel
theorem d_F_multiply_146 : decode b_F_multiply 146 = .ok (.ifCond .ne 16, 3) := by decide +kernel
theorem d_F_multiply_149 : decode b_F_multiply 149 = .ok (.lload 8, 2) := by decide +kernel
theorem d_F_multiply_151 : decode b_F_multiply 151 = .ok (.lload 12, 2) := by decide +kernel
theorem d_F_multiply_153 : decode b_F_multiply 153 = .ok (.ldc2_w 34, 3) := by decide +kernel
theorem d_F_multiply_156 : decode b_F_multiply 156 = .ok (.invokestatic 36, 3) := by decide +kernel
theorem d_F_multiply_159 : decode b_F_multiply 159 = .ok (.ifCond .eq 11, 3) := by decide +kernel
theorem d_F_multiply_162 : decode b_F_multiply 162 = .ok (.aload_n 0, 1) := by decide +kernel
theorem d_F_multiply_163 : decode b_F_multiply 163 = .ok (.sipush (-1005), 3) := by decide +kernel
theorem d_F_multiply_166 : decode b_F_multiply 166 = .ok (.invokevirtual 26, 3) := by decide +kernel
theorem d_F_multiply_169 : decode b_F_multiply 169 = .ok (.return_, 1) := by decide +kernel
theorem d_F_multiply_170 : decode b_F_multiply 170 = .ok (.aload_n 0, 1) := by decide +kernel
theorem d_F_multiply_171 : decode b_F_multiply 171 = .ok (.lload 6, 2) := by decide +kernel
theorem d_F_multiply_173 : decode b_F_multiply 173 = .ok (.lload 10, 2) := by decide +kernel
theorem d_F_multiply_175 : decode b_F_multiply 175 = .ok (.lmul, 1) := by decide +kernel
theorem d_F_multiply_176 : decode b_F_multiply 176 = .ok (.putfield 9, 3) := by decide +kernel
theorem d_F_multiply_179 : decode b_F_multiply 179 = .ok (.aload_n 0, 1) := by decide +kernel
theorem d_F_multiply_180 : decode b_F_multiply 180 = .ok (.lload 8, 2) := by decide +kernel
theorem d_F_multiply_182 : decode b_F_multiply 182 = .ok (.lload 12, 2) := by decide +kernel
theorem d_F_multiply_184 : decode b_F_multiply 184 = .ok (.lmul, 1) := by decide +kernel
theorem d_F_multiply_185 : decode b_F_multiply 185 = .ok (.putfield 15, 3) := by decide +kernel
theorem d_F_multiply_188 : decode b_F_multiply 188 = .ok (.return_, 1) := by decide +kernel
theorem d_F_addAndShare_0 : decode b_F_addAndShare 0 = .ok (.aload_n 0, 1) := by decide +kernel
theorem d_F_addAndShare_1 : decode b_F_addAndShare 1 = .ok (.getfield 22, 3) := by decide +kernel
theorem d_F_addAndShare_4 : decode b_F_addAndShare 4 = .ok (.ifCond .eq 4, 3) := by decide +kernel
theorem d_F_addAndShare_7 : decode b_F_addAndShare 7 = .ok (.return_, 1) := by decide +kernel
theorem d_F_addAndShare_8 : decode b_F_addAndShare 8 = .ok (.lload_n 1, 1) := by decide +kernel
theorem d_F_addAndShare_9 : decode b_F_addAndShare 9 = .ok (.lconst 0, 1) := by decide +kernel
theorem d_F_addAndShare_10 : decode b_F_addAndShare 10 = .ok (.lcmp, 1) := by decide +kernel
theorem d_F_addAndShare_11 : decode b_F_addAndShare 11 = .ok (.ifCond .lt 24, 3) := by decide +kernel
theorem d_F_addAndShare_14 : decode b_F_addAndShare 14 = .ok (.lload_n 3, 1) := by decide +kernel
theorem d_F_addAndShare_15 : decode b_F_addAndShare 15 = .ok (.lconst 1, 1) := by decide +kernel
theorem d_F_addAndShare_16 : decode b_F_addAndShare 16 = .ok (.lcmp, 1) := by decide +kernel
theorem d_F_addAndShare_17 : decode b_F_addAndShare 17 = .ok (.ifCond .lt 18, 3) := by decide +kernel
theorem d_F_addAndShare_20 : decode b_F_addAndShare 20 = .ok (.aload_n 0, 1) := by decide +kernel
theorem d_F_addAndShare_21 : decode b_F_addAndShare 21 = .ok (.getfield 15, 3) := by decide +kernel
theorem d_F_addAndShare_24 : decode b_F_addAndShare 24 = .ok (.lconst 1, 1) := by decide +kernel
theorem d_F_addAndShare_25 : decode b_F_addAndShare 25 = .ok (.lcmp, 1) := by decide +kernel
theorem d_F_addAndShare_26 : decode b_F_addAndShare 26 = .ok (.ifCond .lt 9, 3) := by decide +kernel
theorem d_F_addAndShare_29 : decode b_F_addAndShare 29 = .ok (.iload 5, 2) := by decide +kernel
theorem d_F_addAndShare_31 : decode b_F_addAndShare 31 = .ok (.iconst 1, 1) := by decide +kernel
theorem d_F_addAndShare_32 : decode b_F_addAndShare 32 = .ok (.if_icmp .ge 11, 3) := by decide +kernel
theorem d_F_addAndShare_35 : decode b_F_addAndShare 35 = .ok (.aload_n 0, 1) := by decide +kernel
theorem d_F_addAndShare_36 : decode b_F_addAndShare 36 = .ok (.sipush (-1003), 3) := by decide +kernel
theorem d_F_addAndShare_39 : decode b_F_addAndShare 39 = .ok (.invokevirtual 26, 3) := by decide +kernel
theorem d_F_addAndShare_42 : decode b_F_addAndShare 42 = .ok (.return_, 1) := by decide +kernel
theorem d_F_addAndShare_43 : decode b_F_addAndShare 43 = .ok (.aload_n 0, 1) := by decide +kernel
theorem d_F_addAndShare_44 : decode b_F_addAndShare 44 = .ok (.getfield 15, 3) := by decide +kernel
theorem d_F_addAndShare_47 : decode b_F_addAndShare 47 = .ok (.lload_n 3, 1) := by decide +kernel
theorem d_F_addAndShare_48 : decode b_F_addAndShare 48 = .ok (.invokestatic 30, 3) := by decide +kernel
theorem d_F_addAndShare_51 : decode b_F_addAndShare 51 = .ok (.lstore 6, 2) := by decide +kernel
theorem d_F_addAndShare_53 : decode b_F_addAndShare 53 = .ok (.lload 6, 2) := by decide +kernel
theorem d_F_addAndShare_55 : decode b_F_addAndShare 55 = .ok (.lconst 1, 1) := by decide +kernel
theorem d_F_addAndShare_56 : decode b_F_addAndShare 56 = .ok (.lcmp, 1) := by decide +kernel
theorem d_F_addAndShare_57 : decode b_F_addAndShare 57 = .ok (.ifCond .le 10, 3) := by decide +kernel
theorem d_F_addAndShare_60 : decode b_F_addAndShare 60 = .ok (.lload_n 3, 1) := by decide +kernel
theorem d_F_addAndShare_61 : decode b_F_addAndShare 61 = .ok (.lload 6, 2) := by decide +kernel
theorem d_F_addAndShare_63 : decode b_F_addAndShare 63 = .ok (.ldiv, 1) := by decide +kernel
theorem d_F_addAndShare_64 : decode b_F_addAndShare 64 = .ok (.goto 4, 3) := by decide +kernel
theorem d_F_addAndShare_67 : decode b_F_addAndShare 67 = .ok (.lload_n 3, 1) := by decide +kernel
theorem d_F_addAndShare_68 : decode b_F_addAndShare 68 = .ok (.lstore 8, 2) := by decide +kernel
theorem d_F_addAndShare_70 : decode b_F_addAndShare 70 = .ok (.lload 6, 2) := by decide +kernel
theorem d_F_addAndShare_72 : decode b_F_addAndShare 72 = .ok (.lconst 1, 1) := by decide +kernel
theorem d_F_addAndShare_73 : decode b_F_addAndShare 73 = .ok (.lcmp, 1) := by decide +kernel
theorem d_F_addAndShare_74 : decode b_F_addAndShare 74 = .ok (.ifCond .le 13, 3) := by decide +kernel
theorem d_F_addAndShare_77 : decode b_F_addAndShare 77 = .ok (.aload_n 0, 1) := by decide +kernel
theorem d_F_addAndShare_78 : decode b_F_addAndShare 78 = .ok (.getfield 15, 3) := by decide +kernel
theorem d_F_addAndShare_81 : decode b_F_addAndShare 81 = .ok (.lload 6, 2) := by decide +kernel
theorem d_F_addAndShare_83 : decode b_F_addAndShare 83 = .ok (.ldiv, 1) := by decide +kernel
theorem d_F_addAndShare_84 : decode b_F_addAndShare 84 = .ok (.goto 7, 3) := by decide +kernel
theorem d_F_addAndShare_87 : decode b_F_addAndShare 87 = .ok (.aload_n 0, 1) := by decide +kernel
theorem d_F_addAndShare_88 : decode b_F_addAndShare 88 = .ok (.getfield 15, 3) := by decide +kernel
theorem d_F_addAndShare_91 : decode b_F_addAndShare 91 = .ok (.lstore 10, 2) := by decide +kernel
theorem d_F_addAndShare_93 : decode b_F_addAndShare 93 = .ok (.aload_n 0, 1) := by decide +kernel
theorem d_F_addAndShare_94 : decode b_F_addAndShare 94 = .ok (.getfield 15, 3) := by decide +kernel
theorem d_F_addAndShare_97 : decode b_F_addAndShare 97 = .ok (.lload 8, 2) := by decide +kernel
theorem d_F_addAndShare_99 : decode b_F_addAndShare 99 = .ok (.ldc2_w 34, 3) := by decide +kernel
theorem d_F_addAndShare_102 : decode b_F_addAndShare 102 = .ok (.invokestatic 36, 3) := by decide +kernel
theorem d_F_addAndShare_105 : decode b_F_addAndShare 105 = .ok (.ifCond .ne 30, 3) := by decide +kernel
theorem d_F_addAndShare_108 : decode b_F_addAndShare 108 = .ok (.aload_n 0, 1) := by decide +kernel
theorem d_F_addAndShare_109 : decode b_F_addAndShare 109 = .ok (.getfield 9, 3) := by decide +kernel
theorem d_F_addAndShare_112 : decode b_F_addAndShare 112 = .ok (.lload 8, 2) := by decide +kernel
theorem d_F_addAndShare_114 : decode b_F_addAndShare 114 = .ok (.ldc2_w 34, 3) := by decide +kernel
theorem d_F_addAndShare_117 : decode b_F_addAndShare 117 = .ok (.invokestatic 36, 3) := by decide +kernel
theorem d_F_addAndShare_120 : decode b_F_addAndShare 120 = .ok (.ifCond .ne 15, 3) := by decide +kernel
theorem d_F_addAndShare_123 : decode b_F_addAndShare 123 = .ok (.lload_n 1, 1) := by decide +kernel
theorem d_F_addAndShare_124 : decode b_F_addAndShare 124 = .ok (.lload 10, 2) := by decide +kernel
theorem d_F_addAndShare_126 : decode b_F_addAndShare 126 = .ok (.ldc2_w 34, 3) := by decide +kernel
theorem d_F_addAndShare_129 : decode b_F_addAndShare 129 = .ok (.invokestatic 36, 3) := by decide +kernel
theorem d_F_addAndShare_132 : decode b_F_addAndShare 132 = .ok (.ifCond .eq 11, 3) := by decide +kernel
theorem d_F_addAndShare_135 : decode b_F_addAndShare 135 = .ok (.aload_n 0, 1) := by decide +kernel
theorem d_F_addAndShare_136 : decode b_F_addAndShare 136 = .ok (.sipush (-1005), 3) := by decide +kernel
theorem d_F_addAndShare_139 : decode b_F_addAndShare 139 = .ok (.invokevirtual 26, 3) := by decide +kernel
theorem d_F_addAndShare_142 : decode b_F_addAndShare 142 = .ok (.return_, 1) := by decide +kernel
theorem d_F_addAndShare_143 : decode b_F_addAndShare 143 = .ok (.aload_n 0, 1) := by decide +kernel
theorem d_F_addAndShare_144 : decode b_F_addAndShare 144 = .ok (.getfield 9, 3) := by decide +kernel
theorem d_F_addAndShare_147 : decode b_F_addAndShare 147 = .ok (.lload 8, 2) := by decide +kernel
theorem d_F_addAndShare_149 : decode b_F_addAndShare 149 = .ok (.lmul, 1) := by decide +kernel
theorem d_F_addAndShare_150 : decode b_F_addAndShare 150 = .ok (.lload_n 1, 1) := by decide +kernel
theorem d_F_addAndShare_151 : decode b_F_addAndShare 151 = .ok (.lload 10, 2) := by decide +kernel
theorem d_F_addAndShare_153 : decode b_F_addAndShare 153 = .ok (.lmul, 1) := by decide +kernel
theorem d_F_addAndShare_154 : decode b_F_addAndShare 154 = .ok (.ladd, 1) := by decide +kernel
theorem d_F_addAndShare_155 : decode b_F_addAndShare 155 = .ok (.lstore 12, 2) := by decide +kernel
theorem d_F_addAndShare_157 : decode b_F_addAndShare 157 = .ok (.aload_n 0, 1) := by decide +kernel
theorem d_F_addAndShare_158 : decode b_F_addAndShare 158 = .ok (.getfield 15, 3) := by decide +kernel
theorem d_F_addAndShare_161 : decode b_F_addAndShare 161 = .ok (.lload 8, 2) := by decide +kernel
theorem d_F_addAndShare_163 : decode b_F_addAndShare 163 = .ok (.lmul, 1) := by decide +kernel
theorem d_F_addAndShare_164 : decode b_F_addAndShare 164 = .ok (.iload 5, 2) := by decide +kernel
theorem d_F_addAndShare_166 : decode b_F_addAndShare 166 = .ok (.i2l, 1) := by decide +kernel
theorem d_F_addAndShare_167 : decode b_F_addAndShare 167 = .ok (.lmul, 1) := by decide +kernel
theorem d_F_addAndShare_168 : decode b_F_addAndShare 168 = .ok (.lstore 14, 2) := by decide +kernel
theorem d_F_addAndShare_170 : decode b_F_addAndShare 170 = .ok (.lload 12, 2) := by decide +kernel
theorem d_F_addAndShare_172 : decode b_F_addAndShare 172 = .ok (.lload 14, 2) := by decide +kernel
theorem d_F_addAndShare_174 : decode b_F_addAndShare 174 = .ok (.invokestatic 30, 3) := by decide +kernel
theorem d_F_addAndShare_177 : decode b_F_addAndShare 177 = .ok (.lstore 16, 2) := by decide +kernel
theorem d_F_addAndShare_179 : decode b_F_addAndShare 179 = .ok (.aload_n 0, 1) := by decide +kernel
theorem d_F_addAndShare_180 : decode b_F_addAndShare 180 = .ok (.lload 16, 2) := by decide +kernel
theorem d_F_addAndShare_182 : decode b_F_addAndShare 182 = .ok (.lconst 1, 1) := by decide +kernel
theorem d_F_addAndShare_183 : decode b_F_addAndShare 183 = .ok (.lcmp, 1) := by decide +kernel
theorem d_F_addAndShare_184 : decode b_F_addAndShare 184 = .ok (.ifCond .le 11, 3) := by decide +kernel
theorem d_F_addAndShare_187 : decode b_F_addAndShare 187 = .ok (.lload 12, 2) := by decide +kernel
theorem d_F_addAndShare_189 : decode b_F_addAndShare 189 = .ok (.lload 16, 2) := by decide +kernel
theorem d_F_addAndShare_191 : decode b_F_addAndShare 191 = .ok (.ldiv, 1) := by decide +kernel
theorem d_F_addAndShare_192 : decode b_F_addAndShare 192 = .ok (.goto 5, 3) := by decide +kernel
theorem d_F_addAndShare_195 : decode b_F_addAndShare 195 = .ok (.lload 12, 2) := by decide +kernel
theorem d_F_addAndShare_197 : decode b_F_addAndShare 197 = .ok (.putfield 9, 3) := by decide +kernel
theorem d_F_addAndShare_200 : decode b_F_addAndShare 200 = .ok (.aload_n 0, 1) := by decide +kernel
theorem d_F_addAndShare_201 : decode b_F_addAndShare 201 = .ok (.lload 16, 2) := by decide +kernel
theorem d_F_addAndShare_203 : decode b_F_addAndShare 203 = .ok (.lconst 1, 1) := by decide +kernel
theorem d_F_addAndShare_204 : decode b_F_addAndShare 204 = .ok (.lcmp, 1) := by decide +kernel
theorem d_F_addAndShare_205 : decode b_F_addAndShare 205 = .ok (.ifCond .le 11, 3) := by decide +kernel
theorem d_F_addAndShare_208 : decode b_F_addAndShare 208 = .ok (.lload 14, 2) := by decide +kernel
theorem d_F_addAndShare_210 : decode b_F_addAndShare 210 = .ok (.lload 16, 2) := by decide +kernel
theorem d_F_addAndShare_212 : decode b_F_addAndShare 212 = .ok (.ldiv, 1) := by decide +kernel
theorem d_F_addAndShare_213 : decode b_F_addAndShare 213 = .ok (.goto 5, 3) := by decide +kernel
theorem d_F_addAndShare_216 : decode b_F_addAndShare 216 = .ok (.lload 14, 2) := by decide +kernel
theorem d_F_addAndShare_218 : decode b_F_addAndShare 218 = .ok (.putfield 15, 3) := by decide +kernel
theorem d_F_addAndShare_221 : decode b_F_addAndShare 221 = .ok (.aload_n 0, 1) := by decide +kernel
theorem d_F_addAndShare_222 : decode b_F_addAndShare 222 = .ok (.getfield 9, 3) := by decide +kernel
theorem d_F_addAndShare_225 : decode b_F_addAndShare 225 = .ok (.ldc2_w 34, 3) := by decide +kernel
theorem d_F_addAndShare_228 : decode b_F_addAndShare 228 = .ok (.lcmp, 1) := by decide +kernel
theorem d_F_addAndShare_229 : decode b_F_addAndShare 229 = .ok (.ifCond .gt 14, 3) := by decide +kernel
theorem d_F_addAndShare_232 : decode b_F_addAndShare 232 = .ok (.aload_n 0, 1) := by decide +kernel
theorem d_F_addAndShare_233 : decode b_F_addAndShare 233 = .ok (.getfield 15, 3) := by decide +kernel
theorem d_F_addAndShare_236 : decode b_F_addAndShare 236 = .ok (.ldc2_w 34, 3) := by decide +kernel
theorem d_F_addAndShare_239 : decode b_F_addAndShare 239 = .ok (.lcmp, 1) := by decide +kernel
theorem d_F_addAndShare_240 : decode b_F_addAndShare 240 = .ok (.ifCond .le 10, 3) := by decide +kernel
theorem d_F_addAndShare_243 : decode b_F_addAndShare 243 = .ok (.aload_n 0, 1) := by decide +kernel
theorem d_F_addAndShare_244 : decode b_F_addAndShare 244 = .ok (.sipush (-1005), 3) := by decide +kernel
theorem d_F_addAndShare_247 : decode b_F_addAndShare 247 = .ok (.invokevirtual 26, 3) := by decide +kernel
theorem d_F_addAndShare_250 : decode b_F_addAndShare 250 = .ok (.return_, 1) := by decide +kernel
theorem d_F_doubleIt_0 : decode b_F_doubleIt 0 = .ok (.aload_n 0, 1) := by decide +kernel
theorem d_F_doubleIt_1 : decode b_F_doubleIt 1 = .ok (.getfield 22, 3) := by decide +kernel
theorem d_F_doubleIt_4 : decode b_F_doubleIt 4 = .ok (.ifCond .ne 51, 3) := by decide +kernel
theorem d_F_doubleIt_7 : decode b_F_doubleIt 7 = .ok (.aload_n 0, 1) := by decide +kernel
theorem d_F_doubleIt_8 : decode b_F_doubleIt 8 = .ok (.getfield 18, 3) := by decide +kernel
theorem d_F_doubleIt_11 : decode b_F_doubleIt 11 = .ok (.istore_n 1, 1) := by decide +kernel
theorem d_F_doubleIt_12 : decode b_F_doubleIt 12 = .ok (.aload_n 0, 1) := by decide +kernel
theorem d_F_doubleIt_13 : decode b_F_doubleIt 13 = .ok (.aload_n 0, 1) := by decide +kernel
theorem d_F_doubleIt_14 : decode b_F_doubleIt 14 = .ok (.getfield 9, 3) := by decide +kernel
theorem d_F_doubleIt_17 : decode b_F_doubleIt 17 = .ok (.iload_n 1, 1) := by decide +kernel
theorem d_F_doubleIt_18 : decode b_F_doubleIt 18 = .ok (.ifCond .eq 7, 3) := by decide +kernel
theorem d_F_doubleIt_21 : decode b_F_doubleIt 21 = .ok (.iconst 4, 1) := by decide +kernel
theorem d_F_doubleIt_22 : decode b_F_doubleIt 22 = .ok (.goto 4, 3) := by decide +kernel
theorem d_F_doubleIt_25 : decode b_F_doubleIt 25 = .ok (.iconst 2, 1) := by decide +kernel
theorem d_F_doubleIt_26 : decode b_F_doubleIt 26 = .ok (.i2l, 1) := by decide +kernel
theorem d_F_doubleIt_27 : decode b_F_doubleIt 27 = .ok (.lmul, 1) := by decide +kernel
theorem d_F_doubleIt_28 : decode b_F_doubleIt 28 = .ok (.aload_n 0, 1) := by decide +kernel
theorem d_F_doubleIt_29 : decode b_F_doubleIt 29 = .ok (.getfield 15, 3) := by decide +kernel
theorem d_F_doubleIt_32 : decode b_F_doubleIt 32 = .ok (.invokevirtual 40, 3) := by decide +kernel
theorem d_F_doubleIt_35 : decode b_F_doubleIt 35 = .ok (.aload_n 0, 1) := by decide +kernel
theorem d_F_doubleIt_36 : decode b_F_doubleIt 36 = .ok (.iload_n 1, 1) := by decide +kernel
theorem d_F_doubleIt_37 : decode b_F_doubleIt 37 = .ok (.ifCond .eq 14, 3) := by decide +kernel
theorem d_F_doubleIt_40 : decode b_F_doubleIt 40 = .ok (.aload_n 0, 1) := by decide +kernel
theorem d_F_doubleIt_41 : decode b_F_doubleIt 41 = .ok (.getfield 22, 3) := by decide +kernel
theorem d_F_doubleIt_44 : decode b_F_doubleIt 44 = .ok (.ifCond .ne 7, 3) := by decide +kernel
theorem d_F_doubleIt_47 : decode b_F_doubleIt 47 = .ok (.iconst 1, 1) := by decide +kernel
theorem d_F_doubleIt_48 : decode b_F_doubleIt 48 = .ok (.goto 4, 3) := by decide +kernel
theorem d_F_doubleIt_51 : decode b_F_doubleIt 51 = .ok (.iconst 0, 1) := by decide +kernel
theorem d_F_doubleIt_52 : decode b_F_doubleIt 52 = .ok (.putfield 18, 3) := by decide +kernel
theorem d_F_doubleIt_55 : decode b_F_doubleIt 55 = .ok (.return_, 1) := by decide +kernel
theorem d_F_compareShares_0 : decode b_F_compareShares 0 = .ok (.lload_n 0, 1) := by decide +kernel
theorem d_F_compareShares_1 : decode b_F_compareShares 1 = .ok (.lstore 8, 2) := by decide +kernel
theorem d_F_compareShares_3 : decode b_F_compareShares 3 = .ok (.lload_n 2, 1) := by decide +kernel
theorem d_F_compareShares_4 : decode b_F_compareShares 4 = .ok (.lstore 10, 2) := by decide +kernel
theorem d_F_compareShares_6 : decode b_F_compareShares 6 = .ok (.lload 4, 2) := by decide +kernel
theorem d_F_compareShares_8 : decode b_F_compareShares 8 = .ok (.lstore 12, 2) := by decide +kernel
theorem d_F_compareShares_10 : decode b_F_compareShares 10 = .ok (.lload 6, 2) := by decide +kernel
theorem d_F_compareShares_12 : decode b_F_compareShares 12 = .ok (.lstore 14, 2) := by decide +kernel
theorem d_F_compareShares_14 : decode b_F_compareShares 14 = .ok (.iconst 1, 1) := by decide +kernel
theorem d_F_compareShares_15 : decode b_F_compareShares 15 = .ok (.istore 16, 2) := by decide +kernel
theorem d_F_compareShares_17 : decode b_F_compareShares 17 = .ok (.iconst 0, 1) := by decide +kernel
theorem d_F_compareShares_18 : decode b_F_compareShares 18 = .ok (.istore 17, 2) := by decide +kernel
theorem d_F_compareShares_20 : decode b_F_compareShares 20 = .ok (.iload 17, 2) := by decide +kernel
theorem d_F_compareShares_22 : decode b_F_compareShares 22 = .ok (.sipush 200, 3) := by decide +kernel
theorem d_F_compareShares_25 : decode b_F_compareShares 25 = .ok (.if_icmp .ge 139, 3) := by decide +kernel
theorem d_F_compareShares_28 : decode b_F_compareShares 28 = .ok (.lload 10, 2) := by decide +kernel
theorem d_F_compareShares_30 : decode b_F_compareShares 30 = .ok (.lconst 0, 1) := by decide +kernel
theorem d_F_compareShares_31 : decode b_F_compareShares 31 = .ok (.lcmp, 1) := by decide +kernel
theorem d_F_compareShares_32 : decode b_F_compareShares 32 = .ok (.ifCond .le 132, 3) := by decide +kernel
theorem d_F_compareShares_35 : decode b_F_compareShares 35 = .ok (.lload 14, 2) := by decide +kernel
theorem d_F_compareShares_37 : decode b_F_compareShares 37 = .ok (.lconst 0, 1) := by decide +kernel
theorem d_F_compareShares_38 : decode b_F_compareShares 38 = .ok (.lcmp, 1) := by decide +kernel
theorem d_F_compareShares_39 : decode b_F_compareShares 39 = .ok (.ifCond .le 125, 3) := by decide +kernel
theorem d_F_compareShares_42 : decode b_F_compareShares 42 = .ok (.lload 8, 2) := by decide +kernel
theorem d_F_compareShares_44 : decode b_F_compareShares 44 = .ok (.lload 10, 2) := by decide +kernel
theorem d_F_compareShares_46 : decode b_F_compareShares 46 = .ok (.ldiv, 1) := by decide +kernel
theorem d_F_compareShares_47 : decode b_F_compareShares 47 = .ok (.lstore 18, 2) := by decide +kernel
theorem d_F_compareShares_49 : decode b_F_compareShares 49 = .ok (.lload 12, 2) := by decide +kernel
theorem d_F_compareShares_51 : decode b_F_compareShares 51 = .ok (.lload 14, 2) := by decide +kernel
theorem d_F_compareShares_53 : decode b_F_compareShares 53 = .ok (.ldiv, 1) := by decide +kernel
theorem d_F_compareShares_54 : decode b_F_compareShares 54 = .ok (.lstore 20, 2) := by decide +kernel
theorem d_F_compareShares_56 : decode b_F_compareShares 56 = .ok (.lload 18, 2) := by decide +kernel
theorem d_F_compareShares_58 : decode b_F_compareShares 58 = .ok (.lload 20, 2) := by decide +kernel
theorem d_F_compareShares_60 : decode b_F_compareShares 60 = .ok (.lcmp, 1) := by decide +kernel
theorem d_F_compareShares_61 : decode b_F_compareShares 61 = .ok (.ifCond .eq 20, 3) := by decide +kernel
theorem d_F_compareShares_64 : decode b_F_compareShares 64 = .ok (.lload 18, 2) := by decide +kernel
theorem d_F_compareShares_66 : decode b_F_compareShares 66 = .ok (.lload 20, 2) := by decide +kernel
theorem d_F_compareShares_68 : decode b_F_compareShares 68 = .ok (.lcmp, 1) := by decide +kernel
theorem d_F_compareShares_69 : decode b_F_compareShares 69 = .ok (.ifCond .ge 9, 3) := by decide +kernel
theorem d_F_compareShares_72 : decode b_F_compareShares 72 = .ok (.iload 16, 2) := by decide +kernel
theorem d_F_compareShares_74 : decode b_F_compareShares 74 = .ok (.ineg, 1) := by decide +kernel
theorem d_F_compareShares_75 : decode b_F_compareShares 75 = .ok (.goto 5, 3) := by decide +kernel
theorem d_F_compareShares_78 : decode b_F_compareShares 78 = .ok (.iload 16, 2) := by decide +kernel
theorem d_F_compareShares_80 : decode b_F_compareShares 80 = .ok (.ireturn, 1) := by decide +kernel
theorem d_F_compareShares_81 : decode b_F_compareShares 81 = .ok (.lload 8, 2) := by decide +kernel
theorem d_F_compareShares_83 : decode b_F_compareShares 83 = .ok (.lload 10, 2) := by decide +kernel
theorem d_F_compareShares_85 : decode b_F_compareShares 85 = .ok (.lrem, 1) := by decide +kernel
theorem d_F_compareShares_86 : decode b_F_compareShares 86 = .ok (.lstore 22, 2) := by decide +kernel
theorem d_F_compareShares_88 : decode b_F_compareShares 88 = .ok (.lload 12, 2) := by decide +kernel
theorem d_F_compareShares_90 : decode b_F_compareShares 90 = .ok (.lload 14, 2) := by decide +kernel
theorem d_F_compareShares_92 : decode b_F_compareShares 92 = .ok (.lrem, 1) := by decide +kernel
theorem d_F_compareShares_93 : decode b_F_compareShares 93 = .ok (.lstore 24, 2) := by decide +kernel
theorem d_F_compareShares_95 : decode b_F_compareShares 95 = .ok (.lload 22, 2) := by decide +kernel
theorem d_F_compareShares_97 : decode b_F_compareShares 97 = .ok (.lconst 0, 1) := by decide +kernel
theorem d_F_compareShares_98 : decode b_F_compareShares 98 = .ok (.lcmp, 1) := by decide +kernel
theorem d_F_compareShares_99 : decode b_F_compareShares 99 = .ok (.ifCond .eq 10, 3) := by decide +kernel
theorem d_F_compareShares_102 : decode b_F_compareShares 102 = .ok (.lload 24, 2) := by decide +kernel
theorem d_F_compareShares_104 : decode b_F_compareShares 104 = .ok (.lconst 0, 1) := by decide +kernel
theorem d_F_compareShares_105 : decode b_F_compareShares 105 = .ok (.lcmp, 1) := by decide +kernel
theorem d_F_compareShares_106 : decode b_F_compareShares 106 = .ok (.ifCond .ne 31, 3) := by decide +kernel
theorem d_F_compareShares_109 : decode b_F_compareShares 109 = .ok (.lload 22, 2) := by decide +kernel
theorem d_F_compareShares_111 : decode b_F_compareShares 111 = .ok (.lload 24, 2) := by decide +kernel
theorem d_F_compareShares_113 : decode b_F_compareShares 113 = .ok (.lcmp, 1) := by decide +kernel
theorem d_F_compareShares_114 : decode b_F_compareShares 114 = .ok (.ifCond .ne 7, 3) := by decide +kernel
theorem d_F_compareShares_117 : decode b_F_compareShares 117 = .ok (.iconst 0, 1) := by decide +kernel
theorem d_F_compareShares_118 : decode b_F_compareShares 118 = .ok (.goto 18, 3) := by decide +kernel
theorem d_F_compareShares_121 : decode b_F_compareShares 121 = .ok (.lload 22, 2) := by decide +kernel
theorem d_F_compareShares_123 : decode b_F_compareShares 123 = .ok (.lconst 0, 1) := by decide +kernel
theorem d_F_compareShares_124 : decode b_F_compareShares 124 = .ok (.lcmp, 1) := by decide +kernel
theorem d_F_compareShares_125 : decode b_F_compareShares 125 = .ok (.ifCond .ne 9, 3) := by decide +kernel
theorem d_F_compareShares_128 : decode b_F_compareShares 128 = .ok (.iload 16, 2) := by decide +kernel
theorem d_F_compareShares_130 : decode b_F_compareShares 130 = .ok (.ineg, 1) := by decide +kernel
theorem d_F_compareShares_131 : decode b_F_compareShares 131 = .ok (.goto 5, 3) := by decide +kernel
theorem d_F_compareShares_134 : decode b_F_compareShares 134 = .ok (.iload 16, 2) := by decide +kernel
theorem d_F_compareShares_136 : decode b_F_compareShares 136 = .ok (.ireturn, 1) := by decide +kernel
theorem d_F_compareShares_137 : decode b_F_compareShares 137 = .ok (.lload 10, 2) := by decide +kernel
theorem d_F_compareShares_139 : decode b_F_compareShares 139 = .ok (.lstore 8, 2) := by decide +kernel
theorem d_F_compareShares_141 : decode b_F_compareShares 141 = .ok (.lload 22, 2) := by decide +kernel
theorem d_F_compareShares_143 : decode b_F_compareShares 143 = .ok (.lstore 10, 2) := by decide +kernel
theorem d_F_compareShares_145 : decode b_F_compareShares 145 = .ok (.lload 14, 2) := by decide +kernel
theorem d_F_compareShares_147 : decode b_F_compareShares 147 = .ok (.lstore 12, 2) := by decide +kernel
theorem d_F_compareShares_149 : decode b_F_compareShares 149 = .ok (.lload 24, 2) := by decide +kernel
theorem d_F_compareShares_151 : decode b_F_compareShares 151 = .ok (.lstore 14, 2) := by decide +kernel
theorem d_F_compareShares_153 : decode b_F_compareShares 153 = .ok (.iload 16, 2) := by decide +kernel
theorem d_F_compareShares_155 : decode b_F_compareShares 155 = .ok (.ineg, 1) := by decide +kernel
theorem d_F_compareShares_156 : decode b_F_compareShares 156 = .ok (.istore 16, 2) := by decide +kernel
theorem d_F_compareShares_158 : decode b_F_compareShares 158 = .ok (.iinc 17 1, 3) := by decide +kernel
theorem d_F_compareShares_161 : decode b_F_compareShares 161 = .ok (.goto (-141), 3) := by decide +kernel
theorem d_F_compareShares_164 : decode b_F_compareShares 164 = .ok (.iconst 0, 1) := by decide +kernel
theorem d_F_compareShares_165 : decode b_F_compareShares 165 = .ok (.ireturn, 1) := by decide +kernel
theorem d_F_orderOf_0 : decode b_F_orderOf 0 = .ok (.aload_n 0, 1) := by decide +kernel
theorem d_F_orderOf_1 : decode b_F_orderOf 1 = .ok (.ifnull 7, 3) := by decide +kernel
theorem d_F_orderOf_4 : decode b_F_orderOf 4 = .ok (.aload_n 1, 1) := by decide +kernel
theorem d_F_orderOf_5 : decode b_F_orderOf 5 = .ok (.ifnonnull 7, 3) := by decide +kernel
theorem d_F_orderOf_12 : decode b_F_orderOf 12 = .ok (.aload_n 0, 1) := by decide +kernel
theorem d_F_orderOf_13 : decode b_F_orderOf 13 = .ok (.getfield 18, 3) := by decide +kernel
theorem d_F_orderOf_16 : decode b_F_orderOf 16 = .ok (.aload_n 1, 1) := by decide +kernel
theorem d_F_orderOf_17 : decode b_F_orderOf 17 = .ok (.getfield 18, 3) := by decide +kernel
theorem d_F_orderOf_20 : decode b_F_orderOf 20 = .ok (.if_icmp .ne 23, 3) := by decide +kernel
theorem d_F_orderOf_23 : decode b_F_orderOf 23 = .ok (.aload_n 0, 1) := by decide +kernel
theorem d_F_orderOf_24 : decode b_F_orderOf 24 = .ok (.getfield 9, 3) := by decide +kernel
theorem d_F_orderOf_27 : decode b_F_orderOf 27 = .ok (.aload_n 0, 1) := by decide +kernel
theorem d_F_orderOf_28 : decode b_F_orderOf 28 = .ok (.getfield 15, 3) := by decide +kernel
theorem d_F_orderOf_31 : decode b_F_orderOf 31 = .ok (.aload_n 1, 1) := by decide +kernel
theorem d_F_orderOf_32 : decode b_F_orderOf 32 = .ok (.getfield 9, 3) := by decide +kernel
theorem d_F_orderOf_35 : decode b_F_orderOf 35 = .ok (.aload_n 1, 1) := by decide +kernel
theorem d_F_orderOf_36 : decode b_F_orderOf 36 = .ok (.getfield 15, 3) := by decide +kernel
theorem d_F_orderOf_39 : decode b_F_orderOf 39 = .ok (.invokestatic 44, 3) := by decide +kernel
theorem d_F_orderOf_42 : decode b_F_orderOf 42 = .ok (.ireturn, 1) := by decide +kernel
theorem d_F_orderOf_43 : decode b_F_orderOf 43 = .ok (.aload_n 0, 1) := by decide +kernel
theorem d_F_orderOf_44 : decode b_F_orderOf 44 = .ok (.getfield 18, 3) := by decide +kernel
theorem d_F_orderOf_47 : decode b_F_orderOf 47 = .ok (.ifCond .eq 7, 3) := by decide +kernel
theorem d_F_orderOf_50 : decode b_F_orderOf 50 = .ok (.aload_n 1, 1) := by decide +kernel
theorem d_F_orderOf_51 : decode b_F_orderOf 51 = .ok (.goto 4, 3) := by decide +kernel
theorem d_F_orderOf_54 : decode b_F_orderOf 54 = .ok (.aload_n 0, 1) := by decide +kernel
theorem d_F_orderOf_55 : decode b_F_orderOf 55 = .ok (.astore_n 2, 1) := by decide +kernel
theorem d_F_orderOf_56 : decode b_F_orderOf 56 = .ok (.aload_n 2, 1) := by decide +kernel
theorem d_F_orderOf_57 : decode b_F_orderOf 57 = .ok (.getfield 9, 3) := by decide +kernel
theorem d_F_orderOf_60 : decode b_F_orderOf 60 = .ok (.aload_n 2, 1) := by decide +kernel
theorem d_F_orderOf_61 : decode b_F_orderOf 61 = .ok (.getfield 9, 3) := by decide +kernel
theorem d_F_orderOf_64 : decode b_F_orderOf 64 = .ok (.ldc2_w 34, 3) := by decide +kernel
theorem d_F_orderOf_67 : decode b_F_orderOf 67 = .ok (.invokestatic 36, 3) := by decide +kernel
theorem d_F_orderOf_70 : decode b_F_orderOf 70 = .ok (.ifCond .ne 20, 3) := by decide +kernel
theorem d_F_orderOf_73 : decode b_F_orderOf 73 = .ok (.aload_n 2, 1) := by decide +kernel
theorem d_F_orderOf_74 : decode b_F_orderOf 74 = .ok (.getfield 15, 3) := by decide +kernel
theorem d_F_orderOf_77 : decode b_F_orderOf 77 = .ok (.aload_n 2, 1) := by decide +kernel
theorem d_F_orderOf_78 : decode b_F_orderOf 78 = .ok (.getfield 15, 3) := by decide +kernel
theorem d_F_orderOf_81 : decode b_F_orderOf 81 = .ok (.ldc2_w 34, 3) := by decide +kernel
theorem d_F_orderOf_84 : decode b_F_orderOf 84 = .ok (.invokestatic 36, 3) := by decide +kernel
theorem d_F_orderOf_87 : decode b_F_orderOf 87 = .ok (.ifCond .eq 7, 3) := by decide +kernel
theorem d_F_orderOf_90 : decode b_F_orderOf 90 = .ok (.sipush (-1005), 3) := by decide +kernel
theorem d_F_orderOf_93 : decode b_F_orderOf 93 = .ok (.ireturn, 1) := by decide +kernel
theorem d_F_orderOf_94 : decode b_F_orderOf 94 = .ok (.aload_n 2, 1) := by decide +kernel
theorem d_F_orderOf_95 : decode b_F_orderOf 95 = .ok (.getfield 9, 3) := by decide +kernel
theorem d_F_orderOf_98 : decode b_F_orderOf 98 = .ok (.aload_n 2, 1) := by decide +kernel
theorem d_F_orderOf_99 : decode b_F_orderOf 99 = .ok (.getfield 9, 3) := by decide +kernel
theorem d_F_orderOf_102 : decode b_F_orderOf 102 = .ok (.lmul, 1) := by decide +kernel
theorem d_F_orderOf_103 : decode b_F_orderOf 103 = .ok (.lstore_n 3, 1) := by decide +kernel
theorem d_F_orderOf_104 : decode b_F_orderOf 104 = .ok (.aload_n 2, 1) := by decide +kernel
theorem d_F_orderOf_105 : decode b_F_orderOf 105 = .ok (.getfield 15, 3) := by decide +kernel
theorem d_F_orderOf_108 : decode b_F_orderOf 108 = .ok (.aload_n 2, 1) := by decide +kernel
theorem d_F_orderOf_109 : decode b_F_orderOf 109 = .ok (.getfield 15, 3) := by decide +kernel
theorem d_F_orderOf_112 : decode b_F_orderOf 112 = .ok (.lmul, 1) := by decide +kernel
theorem d_F_orderOf_113 : decode b_F_orderOf 113 = .ok (.lstore 5, 2) := by decide +kernel
theorem d_F_orderOf_115 : decode b_F_orderOf 115 = .ok (.aload_n 0, 1) := by decide +kernel
theorem d_F_orderOf_116 : decode b_F_orderOf 116 = .ok (.getfield 18, 3) := by decide +kernel
theorem d_F_orderOf_119 : decode b_F_orderOf 119 = .ok (.ifCond .eq 20, 3) := by decide +kernel
theorem d_F_orderOf_122 : decode b_F_orderOf 122 = .ok (.aload_n 0, 1) := by decide +kernel
theorem d_F_orderOf_123 : decode b_F_orderOf 123 = .ok (.getfield 9, 3) := by decide +kernel
theorem d_F_orderOf_126 : decode b_F_orderOf 126 = .ok (.aload_n 0, 1) := by decide +kernel
theorem d_F_orderOf_127 : decode b_F_orderOf 127 = .ok (.getfield 15, 3) := by decide +kernel
theorem d_F_orderOf_130 : decode b_F_orderOf 130 = .ok (.lload_n 3, 1) := by decide +kernel
theorem d_F_orderOf_131 : decode b_F_orderOf 131 = .ok (.lload 5, 2) := by decide +kernel
theorem d_F_orderOf_133 : decode b_F_orderOf 133 = .ok (.invokestatic 44, 3) := by decide +kernel
theorem d_F_orderOf_136 : decode b_F_orderOf 136 = .ok (.goto 17, 3) := by decide +kernel
theorem d_F_orderOf_139 : decode b_F_orderOf 139 = .ok (.lload_n 3, 1) := by decide +kernel
theorem d_F_orderOf_140 : decode b_F_orderOf 140 = .ok (.lload 5, 2) := by decide +kernel
theorem d_F_orderOf_142 : decode b_F_orderOf 142 = .ok (.aload_n 1, 1) := by decide +kernel
theorem d_F_orderOf_143 : decode b_F_orderOf 143 = .ok (.getfield 9, 3) := by decide +kernel
theorem d_F_orderOf_146 : decode b_F_orderOf 146 = .ok (.aload_n 1, 1) := by decide +kernel
theorem d_F_orderOf_147 : decode b_F_orderOf 147 = .ok (.getfield 15, 3) := by decide +kernel
theorem d_F_orderOf_150 : decode b_F_orderOf 150 = .ok (.invokestatic 44, 3) := by decide +kernel
theorem d_F_orderOf_153 : decode b_F_orderOf 153 = .ok (.ireturn, 1) := by decide +kernel
def f_F_refuse (this : Nat) (x1 : Int32) (h : Hp) : Option (Hp) :=
  if isO h this 1 = true then
  (pV h this 1 0 (.long (0 : Int64))).bind fun h1 =>
  (pV h1 this 1 1 (.long (1 : Int64))).bind fun h3 =>
  (pV h3 this 1 2 (.int (0 : Int32))).bind fun h5 =>
  (pV h5 this 1 3 (.int x1)).bind fun h7 =>
  some h7
  else none
theorem o_F_refuse {this : Nat} {x1 : Int32} {h : Hp} {h0 : Hp} (hf : f_F_refuse this x1 h = some h0) : isO h this 1 = true := by
  unfold f_F_refuse at hf
  exact (z_gd hf).1
set_option maxRecDepth 100000 in
set_option maxHeartbeats 4000000 in
theorem c_F_refuse {l : Launch} {N0 : Nat} {D : va_G} {cs : Nat → ClassId} {this : Nat} {x1 : Int32} {h : Hp} {h0 : Hp} (hf : f_F_refuse this x1 h = some h0) : Fn l N0 D cs y_F_refuse b_F_refuse 2 (none) 1 0 0 [.ref this, .int x1] h none h0 := by
  refine z_start (by decide) (Nat.le_of_ble_eq_true rfl) ?_
  intro p e s m args below meth c M hH hS ls hl
  unfold f_F_refuse at hf
  obtain ⟨hO, hf⟩ := z_gd hf
  have hl : lv_has ls 2 [(0, .ref this), (1, .int x1)] := hl
  obtain ⟨H, hHe⟩ : ∃ H, H = s.heap := ⟨_, rfl⟩
  obtain ⟨locs, hLe⟩ : ∃ locs : List Loc, locs = [] := ⟨_, rfl⟩
  have hS : va_S (zA N0) s.heap H locs := by rw [hHe, hLe]; exact hS
  have hH : HH N0 D cs h H := by rw [hHe]; exact hH
  suffices hg : W p l e (zrm 1 0 0) s m args below meth c H locs 0 0 (MQ below (zQ N0 D cs none h0) args s 0 0 (zA N0)) (F0 m 0 ls []) by rw [hHe, hLe] at hg; exact hg
  clear hHe hLe
  refine lv_aload_n M.x M.b d_F_refuse_0 rfl (lv_at hl 0 rfl) ?_
  refine lv_lconst (v := (0 : Int64)) M.x M.b d_F_refuse_1 rfl ?_
  replace hf := z_bind hf; obtain ⟨h1, e2, hf⟩ := hf
  refine z_put (ci := 1) (k := 0) M hH hS rfl (by decide) zinF zYF zYF_ok zNF_ok rfl q_100 rfl rfl rfl e2 d_F_refuse_2 (fun H locs hH hS => ?_)
  refine lv_aload_n M.x M.b d_F_refuse_5 rfl (lv_at hl 0 rfl) ?_
  refine lv_lconst (v := (1 : Int64)) M.x M.b d_F_refuse_6 rfl ?_
  replace hf := z_bind hf; obtain ⟨h3, e4, hf⟩ := hf
  refine z_put (ci := 1) (k := 1) M hH hS rfl (by decide) zinF zYF zYF_ok zNF_ok rfl q_99 rfl rfl rfl e4 d_F_refuse_7 (fun H locs hH hS => ?_)
  refine lv_aload_n M.x M.b d_F_refuse_10 rfl (lv_at hl 0 rfl) ?_
  refine lv_iconst (v := (0 : Int32)) M.x M.b d_F_refuse_11 rfl ?_
  replace hf := z_bind hf; obtain ⟨h5, e6, hf⟩ := hf
  refine z_put (ci := 1) (k := 2) M hH hS rfl (by decide) zinF zYF zYF_ok zNF_ok rfl q_98 rfl (z_nb (by decide)) (z_fb (by decide)) e6 d_F_refuse_12 (fun H locs hH hS => ?_)
  refine lv_aload_n M.x M.b d_F_refuse_15 rfl (lv_at hl 0 rfl) ?_
  refine lv_iload_n M.x M.b d_F_refuse_16 rfl (lv_at hl 1 rfl) ?_
  replace hf := z_bind hf; obtain ⟨h7, e8, hf⟩ := hf
  refine z_put (ci := 1) (k := 3) M hH hS rfl (by decide) zinF zYF zYF_ok zNF_ok rfl q_97 rfl rfl rfl e8 d_F_refuse_17 (fun H locs hH hS => ?_)
  obtain rfl := z_r1 hf
  exact z_vret M hH hS d_F_refuse_20
def f_F_take (this : Nat) (x1 : Nat) (h : Hp) : Option (Hp) :=
  if isO h this 1 = true then
  (gL h x1 1 0).bind fun l1 =>
  (pV h this 1 0 (.long l1)).bind fun h3 =>
  (gL h3 x1 1 1).bind fun l5 =>
  (pV h3 this 1 1 (.long l5)).bind fun h7 =>
  (gI h7 x1 1 2).bind fun i9 =>
  (zB i9).bind fun _ =>
  (pV h7 this 1 2 (.int i9)).bind fun h11 =>
  (gI h11 x1 1 3).bind fun i13 =>
  (pV h11 this 1 3 (.int i13)).bind fun h15 =>
  some h15
  else none
theorem o_F_take {this : Nat} {x1 : Nat} {h : Hp} {h0 : Hp} (hf : f_F_take this x1 h = some h0) : isO h this 1 = true := by
  unfold f_F_take at hf
  exact (z_gd hf).1
set_option maxRecDepth 100000 in
set_option maxHeartbeats 4000000 in
theorem c_F_take {l : Launch} {N0 : Nat} {D : va_G} {cs : Nat → ClassId} {this : Nat} {x1 : Nat} {h : Hp} {h0 : Hp} (hf : f_F_take this x1 h = some h0) : Fn l N0 D cs y_F_take b_F_take 2 (none) 1 0 0 [.ref this, .ref x1] h none h0 := by
  refine z_start (by decide) (Nat.le_of_ble_eq_true rfl) ?_
  intro p e s m args below meth c M hH hS ls hl
  unfold f_F_take at hf
  obtain ⟨hO, hf⟩ := z_gd hf
  have hl : lv_has ls 2 [(0, .ref this), (1, .ref x1)] := hl
  obtain ⟨H, hHe⟩ : ∃ H, H = s.heap := ⟨_, rfl⟩
  obtain ⟨locs, hLe⟩ : ∃ locs : List Loc, locs = [] := ⟨_, rfl⟩
  have hS : va_S (zA N0) s.heap H locs := by rw [hHe, hLe]; exact hS
  have hH : HH N0 D cs h H := by rw [hHe]; exact hH
  suffices hg : W p l e (zrm 1 0 0) s m args below meth c H locs 0 0 (MQ below (zQ N0 D cs none h0) args s 0 0 (zA N0)) (F0 m 0 ls []) by rw [hHe, hLe] at hg; exact hg
  clear hHe hLe
  refine lv_aload_n M.x M.b d_F_take_0 rfl (lv_at hl 1 rfl) ?_
  refine lv_ifnonnull (tgt := 5) M.x M.b d_F_take_1 (by decide) ?_
  refine lv_aload_n M.x M.b d_F_take_5 rfl (lv_at hl 0 rfl) ?_
  refine lv_aload_n M.x M.b d_F_take_6 rfl (lv_at hl 1 rfl) ?_
  replace hf := z_bind hf; obtain ⟨l1, e2, hf⟩ := hf
  refine z_get (ci := 1) (k := 0) M hH rfl (by decide) zinF q_100 (gL_spec e2) d_F_take_7 ?_
  replace hf := z_bind hf; obtain ⟨h3, e4, hf⟩ := hf
  refine z_put (ci := 1) (k := 0) M hH hS rfl (by decide) zinF zYF zYF_ok zNF_ok rfl q_100 rfl rfl rfl e4 d_F_take_10 (fun H locs hH hS => ?_)
  refine lv_aload_n M.x M.b d_F_take_13 rfl (lv_at hl 0 rfl) ?_
  refine lv_aload_n M.x M.b d_F_take_14 rfl (lv_at hl 1 rfl) ?_
  replace hf := z_bind hf; obtain ⟨l5, e6, hf⟩ := hf
  refine z_get (ci := 1) (k := 1) M hH rfl (by decide) zinF q_99 (gL_spec e6) d_F_take_15 ?_
  replace hf := z_bind hf; obtain ⟨h7, e8, hf⟩ := hf
  refine z_put (ci := 1) (k := 1) M hH hS rfl (by decide) zinF zYF zYF_ok zNF_ok rfl q_99 rfl rfl rfl e8 d_F_take_18 (fun H locs hH hS => ?_)
  refine lv_aload_n M.x M.b d_F_take_21 rfl (lv_at hl 0 rfl) ?_
  refine lv_aload_n M.x M.b d_F_take_22 rfl (lv_at hl 1 rfl) ?_
  replace hf := z_bind hf; obtain ⟨i9, e10, hf⟩ := hf
  refine z_get (ci := 1) (k := 2) M hH rfl (by decide) zinF q_98 (gI_spec e10) d_F_take_23 ?_
  replace hf := z_bind hf; obtain ⟨_, e17, hf⟩ := hf
  have z18 := (zB_spec e17).2
  replace hf := z_bind hf; obtain ⟨h11, e12, hf⟩ := hf
  refine z_put (ci := 1) (k := 2) M hH hS rfl (by decide) zinF zYF zYF_ok zNF_ok rfl q_98 rfl (z_nb z18) (z_fb z18) e12 d_F_take_26 (fun H locs hH hS => ?_)
  refine lv_aload_n M.x M.b d_F_take_29 rfl (lv_at hl 0 rfl) ?_
  refine lv_aload_n M.x M.b d_F_take_30 rfl (lv_at hl 1 rfl) ?_
  replace hf := z_bind hf; obtain ⟨i13, e14, hf⟩ := hf
  refine z_get (ci := 1) (k := 3) M hH rfl (by decide) zinF q_97 (gI_spec e14) d_F_take_31 ?_
  replace hf := z_bind hf; obtain ⟨h15, e16, hf⟩ := hf
  refine z_put (ci := 1) (k := 3) M hH hS rfl (by decide) zinF zYF zYF_ok zNF_ok rfl q_97 rfl rfl rfl e16 d_F_take_34 (fun H locs hH hS => ?_)
  obtain rfl := z_r1 hf
  exact z_vret M hH hS d_F_take_37
def f_F_commonDivisor_45 (x4 : Int64) : Option (Int64) :=
  if x4 ≤ (0 : Int64) then
    some (1 : Int64)
  else
  some x4
set_option maxRecDepth 100000 in
set_option maxHeartbeats 4000000 in
theorem w_F_commonDivisor_45 {p : Program} {l : Launch} {e : Env} {s : State} {m : MethodId} {args : Array Value} {below : List Frame} {meth : Method} {c : Code} {N0 : Nat} {D : va_G} {cs : Nat → ClassId} (M : ZC p s m args meth c "YearBaskets$Fraction" "commonDivisor" b_F_commonDivisor 11 (some .long) N0 D cs)  {h : Hp}  {r0 : Int64}  (x4 : Int64) (hf : f_F_commonDivisor_45 x4 = some r0) : ZG p l e (zrm 1 0 0) s m args below meth c N0 D cs (some (.long r0)) h h 11 [(4, .long x4)] 45 [] := by
  intro H locs ls hH hS hl
  unfold f_F_commonDivisor_45 at hf
  refine lv_lload M.x M.b d_F_commonDivisor_45 (lv_at hl 0 rfl) ?_
  refine lv_lconst (v := (0 : Int64)) M.x M.b d_F_commonDivisor_47 rfl ?_
  refine z_lcmp_le (tgt := 57) M d_F_commonDivisor_48 d_F_commonDivisor_49 (by decide) (fun c1 => ?_) (fun c1 => ?_)
  · replace hf := z_t c1 hf
    refine lv_lconst (v := (1 : Int64)) M.x M.b d_F_commonDivisor_57 rfl ?_
    obtain rfl := z_r1 hf
    exact z_lret M hH hS d_F_commonDivisor_58
  · replace hf := z_f c1 hf
    refine lv_lload M.x M.b d_F_commonDivisor_52 (lv_at hl 0 rfl) ?_
    refine lv_goto (tgt := 58) M.x M.b d_F_commonDivisor_54 (by decide) ?_
    obtain rfl := z_r1 hf
    exact z_lret M hH hS d_F_commonDivisor_58
def t_F_commonDivisor_9 (k9 : Int64 → Int64 → Int32 → Option (Int64)) (x4 : Int64) (x6 : Int64) (x8 : Int32) : Option (Int64) :=
  if (200 : Int32) ≤ x8 then
    f_F_commonDivisor_45  x4
  else
  if x6 = (0 : Int64) then
    f_F_commonDivisor_45  x4
  else
  if x6 = 0 then none else
  k9 x6 (x4 - x4 / x6 * x6) (x8 + (1 : Int32))
set_option maxRecDepth 100000 in
set_option maxHeartbeats 4000000 in
theorem v_F_commonDivisor_9 {p : Program} {l : Launch} {e : Env} {s : State} {m : MethodId} {args : Array Value} {below : List Frame} {meth : Method} {c : Code} {N0 : Nat} {D : va_G} {cs : Nat → ClassId} (M : ZC p s m args meth c "YearBaskets$Fraction" "commonDivisor" b_F_commonDivisor 11 (some .long) N0 D cs)  {h : Hp} (k9 : Int64 → Int64 → Int32 → Option (Int64)) {r0 : Int64} (hk9 : ∀ (x4 : Int64) (x6 : Int64) (x8 : Int32), k9 x4 x6 x8 = some r0 → ZG p l e (zrm 1 0 0) s m args below meth c N0 D cs (some (.long r0)) h h 11 [(4, .long x4), (6, .long x6), (8, .int x8)] 9 []) (x4 : Int64) (x6 : Int64) (x8 : Int32) (hf : t_F_commonDivisor_9 k9 x4 x6 x8 = some r0) : ZG p l e (zrm 1 0 0) s m args below meth c N0 D cs (some (.long r0)) h h 11 [(4, .long x4), (6, .long x6), (8, .int x8)] 9 [] := by
  intro H locs ls hH hS hl
  unfold t_F_commonDivisor_9 at hf
  refine lv_iload M.x M.b d_F_commonDivisor_9 (lv_at hl 2 rfl) ?_
  refine lv_sipush (v := (200 : Int32)) M.x M.b d_F_commonDivisor_11 rfl ?_
  refine lv_icmp_ge (tgt := 45) M.x M.b d_F_commonDivisor_14 (by decide) (fun c4 => ?_) (fun c4 => ?_)
  · replace hf := z_t c4 hf
    exact w_F_commonDivisor_45 M  _ hf H locs ls hH hS (lv_sub hl [0] rfl)
  · replace hf := z_f c4 hf
    refine lv_lload M.x M.b d_F_commonDivisor_17 (lv_at hl 1 rfl) ?_
    refine lv_lconst (v := (0 : Int64)) M.x M.b d_F_commonDivisor_19 rfl ?_
    refine z_lcmp_eq (tgt := 45) M d_F_commonDivisor_20 d_F_commonDivisor_21 (by decide) (fun c3 => ?_) (fun c3 => ?_)
    · replace hf := z_t c3 hf
      exact w_F_commonDivisor_45 M  _ hf H locs ls hH hS (lv_sub hl [0] rfl)
    · replace hf := z_f c3 hf
      refine lv_lload M.x M.b d_F_commonDivisor_24 (lv_at hl 0 rfl) ?_
      refine lv_lload M.x M.b d_F_commonDivisor_26 (lv_at hl 1 rfl) ?_
      replace hf := z_gn hf; obtain ⟨c2, hf⟩ := hf
      refine lv_lrem M.x M.b d_F_commonDivisor_28 c2 ?_
      refine lv_lstore (lv' := [(9, .long (x4 - x4 / x6 * x6)), (4, .long x4), (6, .long x6), (8, .int x8)]) M.x M.b d_F_commonDivisor_29 hl (by decide) rfl (fun ls hl => ?_)
      refine lv_lload M.x M.b d_F_commonDivisor_31 (lv_at hl 2 rfl) ?_
      refine lv_lstore (lv' := [(4, .long x6), (9, .long (x4 - x4 / x6 * x6)), (6, .long x6), (8, .int x8)]) M.x M.b d_F_commonDivisor_33 hl (by decide) rfl (fun ls hl => ?_)
      refine lv_lload M.x M.b d_F_commonDivisor_35 (lv_at hl 1 rfl) ?_
      refine lv_lstore (lv' := [(6, .long (x4 - x4 / x6 * x6)), (4, .long x6), (9, .long (x4 - x4 / x6 * x6)), (8, .int x8)]) M.x M.b d_F_commonDivisor_37 hl (by decide) rfl (fun ls hl => ?_)
      refine lv_iinc (v := (x8 + (1 : Int32))) (lv' := [(8, .int (x8 + (1 : Int32))), (6, .long (x4 - x4 / x6 * x6)), (4, .long x6), (9, .long (x4 - x4 / x6 * x6))]) M.x M.b d_F_commonDivisor_39 hl (k := 3) rfl rfl (by decide) rfl (fun ls hl => ?_)
      refine lv_goto (tgt := 9) M.x M.b d_F_commonDivisor_42 (by decide) ?_
      exact hk9 _ _ _ hf H locs ls hH hS (lv_sub hl [2, 1, 0] rfl)
def f_F_commonDivisor_9  : Nat → Int64 → Int64 → Int32 → Option (Int64)
  | 0, _, _, _ => none
  | n + 1, x4, x6, x8 => t_F_commonDivisor_9 (f_F_commonDivisor_9 n) x4 x6 x8
theorem w_F_commonDivisor_9 {p : Program} {l : Launch} {e : Env} {s : State} {m : MethodId} {args : Array Value} {below : List Frame} {meth : Method} {c : Code} {N0 : Nat} {D : va_G} {cs : Nat → ClassId} (M : ZC p s m args meth c "YearBaskets$Fraction" "commonDivisor" b_F_commonDivisor 11 (some .long) N0 D cs)  {h : Hp}  {r0 : Int64}  : ∀ (n : Nat) (x4 : Int64) (x6 : Int64) (x8 : Int32), f_F_commonDivisor_9 n x4 x6 x8 = some r0 → ZG p l e (zrm 1 0 0) s m args below meth c N0 D cs (some (.long r0)) h h 11 [(4, .long x4), (6, .long x6), (8, .int x8)] 9 [] := by
  intro n
  induction n with
  | zero => intro x4 x6 x8 hf; exact absurd (show none = some _ from hf) (fun q => by cases q)
  | succ n ih => intro x4 x6 x8 hf; exact v_F_commonDivisor_9 M (f_F_commonDivisor_9 n)  ih _ _ _ hf
def f_F_commonDivisor (x0 : Int64) (x2 : Int64) : Option (Int64) :=
  f_F_commonDivisor_9  FU x0 x2 (0 : Int32)
set_option maxRecDepth 100000 in
set_option maxHeartbeats 4000000 in
theorem c_F_commonDivisor {l : Launch} {N0 : Nat} {D : va_G} {cs : Nat → ClassId} {x0 : Int64} {x2 : Int64} {r0 : Int64} {h : Hp} (hf : f_F_commonDivisor x0 x2 = some r0) : Fn l N0 D cs y_F_commonDivisor b_F_commonDivisor 11 (some .long) 1 0 0 [.long x0, .long x2] h (some (.long r0)) h := by
  refine z_start (by decide) (Nat.le_of_ble_eq_true rfl) ?_
  intro p e s m args below meth c M hH hS ls hl
  unfold f_F_commonDivisor at hf
  have hl : lv_has ls 11 [(0, .long x0), (2, .long x2)] := hl
  obtain ⟨H, hHe⟩ : ∃ H, H = s.heap := ⟨_, rfl⟩
  obtain ⟨locs, hLe⟩ : ∃ locs : List Loc, locs = [] := ⟨_, rfl⟩
  have hS : va_S (zA N0) s.heap H locs := by rw [hHe, hLe]; exact hS
  have hH : HH N0 D cs h H := by rw [hHe]; exact hH
  suffices hg : W p l e (zrm 1 0 0) s m args below meth c H locs 0 0 (MQ below (zQ N0 D cs (some (.long r0)) h) args s 0 0 (zA N0)) (F0 m 0 ls []) by rw [hHe, hLe] at hg; exact hg
  clear hHe hLe
  refine lv_lload_n M.x M.b d_F_commonDivisor_0 rfl (lv_at hl 0 rfl) ?_
  refine lv_lstore (lv' := [(4, .long x0), (0, .long x0), (2, .long x2)]) M.x M.b d_F_commonDivisor_1 hl (by decide) rfl (fun ls hl => ?_)
  refine lv_lload_n M.x M.b d_F_commonDivisor_3 rfl (lv_at hl 2 rfl) ?_
  refine lv_lstore (lv' := [(6, .long x2), (4, .long x0), (0, .long x0), (2, .long x2)]) M.x M.b d_F_commonDivisor_4 hl (by decide) rfl (fun ls hl => ?_)
  refine lv_iconst (v := (0 : Int32)) M.x M.b d_F_commonDivisor_6 rfl ?_
  refine lv_istore (lv' := [(8, .int (0 : Int32)), (6, .long x2), (4, .long x0), (0, .long x0), (2, .long x2)]) M.x M.b d_F_commonDivisor_7 hl (by decide) rfl (fun ls hl => ?_)
  exact w_F_commonDivisor_9 M  FU _ _ _ hf H locs ls hH hS (lv_sub hl [2, 1, 0] rfl)
def f_F_put_97 (this : Nat) (h : Hp) : Option (Hp) :=
  (f_F_refuse this (-1005 : Int32) h).bind fun h2 =>
  some h2
set_option maxRecDepth 100000 in
set_option maxHeartbeats 4000000 in
theorem w_F_put_97 {p : Program} {l : Launch} {e : Env} {s : State} {m : MethodId} {args : Array Value} {below : List Frame} {meth : Method} {c : Code} {N0 : Nat} {D : va_G} {cs : Nat → ClassId} (M : ZC p s m args meth c "YearBaskets$Fraction" "put" b_F_put 7 (none) N0 D cs) (this : Nat)  {h0 : Hp}  (h : Hp) (hf : f_F_put_97 this h = some h0) : ZG p l e (zrm 2 0 0) s m args below meth c N0 D cs none h0 h 7 [(0, .ref this)] 97 [] := by
  intro H locs ls hH hS hl
  unfold f_F_put_97 at hf
  refine lv_aload_n M.x M.b d_F_put_97 rfl (lv_at hl 0 rfl) ?_
  refine lv_sipush (v := (-1005 : Int32)) M.x M.b d_F_put_98 rfl ?_
  replace hf := z_bind hf; obtain ⟨h2, e1, hf⟩ := hf
  refine zk_V (ci := 1) (st1 := []) M hH hS (c_F_refuse e1) rfl (o_F_refuse e1) w_F_refuse q_109 [] rfl ⟨Nat.le_of_ble_eq_true rfl, Nat.le_of_ble_eq_true rfl⟩ hl.1 rfl rfl (Nat.le_of_ble_eq_true rfl) d_F_put_101 (fun H locs hH hS => ?_)
  obtain rfl := z_r1 hf
  exact z_vret M hH hS d_F_put_104
def f_F_put_62 (this : Nat) (s1 : Int64) (h : Hp) : Option (Hp) :=
  (pV h this 1 1 (.long s1)).bind fun h3 =>
  (pV h3 this 1 2 (.int (0 : Int32))).bind fun h5 =>
  (pV h5 this 1 3 (.int (0 : Int32))).bind fun h7 =>
  (gL h7 this 1 0).bind fun l9 =>
  if (1000000000000000 : Int64) < l9 then
    f_F_put_97 this h7
  else
  (gL h7 this 1 1).bind fun l11 =>
  if l11 ≤ (1000000000000000 : Int64) then
    some h7
  else
  f_F_put_97 this h7
set_option maxRecDepth 100000 in
set_option maxHeartbeats 4000000 in
theorem w_F_put_62 {p : Program} {l : Launch} {e : Env} {s : State} {m : MethodId} {args : Array Value} {below : List Frame} {meth : Method} {c : Code} {N0 : Nat} {D : va_G} {cs : Nat → ClassId} (M : ZC p s m args meth c "YearBaskets$Fraction" "put" b_F_put 7 (none) N0 D cs) (this : Nat)  {h0 : Hp}  (s1 : Int64) (h : Hp) (hf : f_F_put_62 this s1 h = some h0) : ZG p l e (zrm 2 0 0) s m args below meth c N0 D cs none h0 h 7 [(0, .ref this)] 62 [.long s1, .ref this] := by
  intro H locs ls hH hS hl
  unfold f_F_put_62 at hf
  replace hf := z_bind hf; obtain ⟨h3, e4, hf⟩ := hf
  refine z_put (ci := 1) (k := 1) M hH hS rfl (by decide) zinF zYF zYF_ok zNF_ok rfl q_99 rfl rfl rfl e4 d_F_put_62 (fun H locs hH hS => ?_)
  refine lv_aload_n M.x M.b d_F_put_65 rfl (lv_at hl 0 rfl) ?_
  refine lv_iconst (v := (0 : Int32)) M.x M.b d_F_put_66 rfl ?_
  replace hf := z_bind hf; obtain ⟨h5, e6, hf⟩ := hf
  refine z_put (ci := 1) (k := 2) M hH hS rfl (by decide) zinF zYF zYF_ok zNF_ok rfl q_98 rfl (z_nb (by decide)) (z_fb (by decide)) e6 d_F_put_67 (fun H locs hH hS => ?_)
  refine lv_aload_n M.x M.b d_F_put_70 rfl (lv_at hl 0 rfl) ?_
  refine lv_iconst (v := (0 : Int32)) M.x M.b d_F_put_71 rfl ?_
  replace hf := z_bind hf; obtain ⟨h7, e8, hf⟩ := hf
  refine z_put (ci := 1) (k := 3) M hH hS rfl (by decide) zinF zYF zYF_ok zNF_ok rfl q_97 rfl rfl rfl e8 d_F_put_72 (fun H locs hH hS => ?_)
  refine lv_aload_n M.x M.b d_F_put_75 rfl (lv_at hl 0 rfl) ?_
  replace hf := z_bind hf; obtain ⟨l9, e10, hf⟩ := hf
  refine z_get (ci := 1) (k := 0) M hH rfl (by decide) zinF q_100 (gL_spec e10) d_F_put_76 ?_
  refine z_ldc2 (v := (1000000000000000 : Int64)) M q_110 d_F_put_79 ?_
  refine z_lcmp_gt (tgt := 97) M d_F_put_82 d_F_put_83 (by decide) (fun c14 => ?_) (fun c14 => ?_)
  · replace hf := z_t c14 hf
    exact w_F_put_97 M this _ hf H locs ls hH hS (lv_sub hl [0] rfl)
  · replace hf := z_f c14 hf
    refine lv_aload_n M.x M.b d_F_put_86 rfl (lv_at hl 0 rfl) ?_
    replace hf := z_bind hf; obtain ⟨l11, e12, hf⟩ := hf
    refine z_get (ci := 1) (k := 1) M hH rfl (by decide) zinF q_99 (gL_spec e12) d_F_put_87 ?_
    refine z_ldc2 (v := (1000000000000000 : Int64)) M q_110 d_F_put_90 ?_
    refine z_lcmp_le (tgt := 104) M d_F_put_93 d_F_put_94 (by decide) (fun c13 => ?_) (fun c13 => ?_)
    · replace hf := z_t c13 hf
      obtain rfl := z_r1 hf
      exact z_vret M hH hS d_F_put_104
    · replace hf := z_f c13 hf
      exact w_F_put_97 M this _ hf H locs ls hH hS (lv_sub hl [0] rfl)
def f_F_put_43 (this : Nat) (s1 : Int64) (x3 : Int64) (x5 : Int64) (h : Hp) : Option (Hp) :=
  (pV h this 1 0 (.long s1)).bind fun h15 =>
  if x5 ≤ (1 : Int64) then
    f_F_put_62 this x3 h15
  else
  if x5 = 0 then none else
  f_F_put_62 this (x3 / x5) h15
set_option maxRecDepth 100000 in
set_option maxHeartbeats 4000000 in
theorem w_F_put_43 {p : Program} {l : Launch} {e : Env} {s : State} {m : MethodId} {args : Array Value} {below : List Frame} {meth : Method} {c : Code} {N0 : Nat} {D : va_G} {cs : Nat → ClassId} (M : ZC p s m args meth c "YearBaskets$Fraction" "put" b_F_put 7 (none) N0 D cs) (this : Nat)  {h0 : Hp}  (s1 : Int64) (x3 : Int64) (x5 : Int64) (h : Hp) (hf : f_F_put_43 this s1 x3 x5 h = some h0) : ZG p l e (zrm 2 0 0) s m args below meth c N0 D cs none h0 h 7 [(0, .ref this), (3, .long x3), (5, .long x5)] 43 [.long s1, .ref this] := by
  intro H locs ls hH hS hl
  unfold f_F_put_43 at hf
  replace hf := z_bind hf; obtain ⟨h15, e16, hf⟩ := hf
  refine z_put (ci := 1) (k := 0) M hH hS rfl (by decide) zinF zYF zYF_ok zNF_ok rfl q_100 rfl rfl rfl e16 d_F_put_43 (fun H locs hH hS => ?_)
  refine lv_aload_n M.x M.b d_F_put_46 rfl (lv_at hl 0 rfl) ?_
  refine lv_lload M.x M.b d_F_put_47 (lv_at hl 2 rfl) ?_
  refine lv_lconst (v := (1 : Int64)) M.x M.b d_F_put_49 rfl ?_
  refine z_lcmp_le (tgt := 61) M d_F_put_50 d_F_put_51 (by decide) (fun c18 => ?_) (fun c18 => ?_)
  · replace hf := z_t c18 hf
    refine lv_lload_n M.x M.b d_F_put_61 rfl (lv_at hl 1 rfl) ?_
    exact w_F_put_62 M this _ _ hf H locs ls hH hS (lv_sub hl [0] rfl)
  · replace hf := z_f c18 hf
    refine lv_lload_n M.x M.b d_F_put_54 rfl (lv_at hl 1 rfl) ?_
    refine lv_lload M.x M.b d_F_put_55 (lv_at hl 2 rfl) ?_
    replace hf := z_gn hf; obtain ⟨c17, hf⟩ := hf
    refine lv_ldiv M.x M.b d_F_put_57 c17 ?_
    refine lv_goto (tgt := 62) M.x M.b d_F_put_58 (by decide) ?_
    exact w_F_put_62 M this _ _ hf H locs ls hH hS (lv_sub hl [0] rfl)
def f_F_put_12 (this : Nat) (h : Hp) : Option (Hp) :=
  (f_F_refuse this (-1003 : Int32) h).bind fun h20 =>
  some h20
set_option maxRecDepth 100000 in
set_option maxHeartbeats 4000000 in
theorem w_F_put_12 {p : Program} {l : Launch} {e : Env} {s : State} {m : MethodId} {args : Array Value} {below : List Frame} {meth : Method} {c : Code} {N0 : Nat} {D : va_G} {cs : Nat → ClassId} (M : ZC p s m args meth c "YearBaskets$Fraction" "put" b_F_put 7 (none) N0 D cs) (this : Nat)  {h0 : Hp}  (h : Hp) (hf : f_F_put_12 this h = some h0) : ZG p l e (zrm 2 0 0) s m args below meth c N0 D cs none h0 h 7 [(0, .ref this)] 12 [] := by
  intro H locs ls hH hS hl
  unfold f_F_put_12 at hf
  refine lv_aload_n M.x M.b d_F_put_12 rfl (lv_at hl 0 rfl) ?_
  refine lv_sipush (v := (-1003 : Int32)) M.x M.b d_F_put_13 rfl ?_
  replace hf := z_bind hf; obtain ⟨h20, e19, hf⟩ := hf
  refine zk_V (ci := 1) (st1 := []) M hH hS (c_F_refuse e19) rfl (o_F_refuse e19) w_F_refuse q_109 [] rfl ⟨Nat.le_of_ble_eq_true rfl, Nat.le_of_ble_eq_true rfl⟩ hl.1 rfl rfl (Nat.le_of_ble_eq_true rfl) d_F_put_16 (fun H locs hH hS => ?_)
  obtain rfl := z_r1 hf
  exact z_vret M hH hS d_F_put_19
def f_F_put (this : Nat) (x1 : Int64) (x3 : Int64) (h : Hp) : Option (Hp) :=
  if isO h this 1 = true then
  if x1 < (0 : Int64) then
    f_F_put_12 this h
  else
  if (1 : Int64) ≤ x3 then
    (f_F_commonDivisor x1 x3).bind fun l22 =>
    if l22 ≤ (1 : Int64) then
      f_F_put_43 this x1 x3 l22 h
    else
    if l22 = 0 then none else
    f_F_put_43 this (x1 / l22) x3 l22 h
  else
  f_F_put_12 this h
  else none
theorem o_F_put {this : Nat} {x1 : Int64} {x3 : Int64} {h : Hp} {h0 : Hp} (hf : f_F_put this x1 x3 h = some h0) : isO h this 1 = true := by
  unfold f_F_put at hf
  exact (z_gd hf).1
set_option maxRecDepth 100000 in
set_option maxHeartbeats 4000000 in
theorem c_F_put {l : Launch} {N0 : Nat} {D : va_G} {cs : Nat → ClassId} {this : Nat} {x1 : Int64} {x3 : Int64} {h : Hp} {h0 : Hp} (hf : f_F_put this x1 x3 h = some h0) : Fn l N0 D cs y_F_put b_F_put 7 (none) 2 0 0 [.ref this, .long x1, .long x3] h none h0 := by
  refine z_start (by decide) (Nat.le_of_ble_eq_true rfl) ?_
  intro p e s m args below meth c M hH hS ls hl
  unfold f_F_put at hf
  obtain ⟨hO, hf⟩ := z_gd hf
  have hl : lv_has ls 7 [(0, .ref this), (1, .long x1), (3, .long x3)] := hl
  obtain ⟨H, hHe⟩ : ∃ H, H = s.heap := ⟨_, rfl⟩
  obtain ⟨locs, hLe⟩ : ∃ locs : List Loc, locs = [] := ⟨_, rfl⟩
  have hS : va_S (zA N0) s.heap H locs := by rw [hHe, hLe]; exact hS
  have hH : HH N0 D cs h H := by rw [hHe]; exact hH
  suffices hg : W p l e (zrm 2 0 0) s m args below meth c H locs 0 0 (MQ below (zQ N0 D cs none h0) args s 0 0 (zA N0)) (F0 m 0 ls []) by rw [hHe, hLe] at hg; exact hg
  clear hHe hLe
  refine lv_lload_n M.x M.b d_F_put_0 rfl (lv_at hl 1 rfl) ?_
  refine lv_lconst (v := (0 : Int64)) M.x M.b d_F_put_1 rfl ?_
  refine z_lcmp_lt (tgt := 12) M d_F_put_2 d_F_put_3 (by decide) (fun c26 => ?_) (fun c26 => ?_)
  · replace hf := z_t c26 hf
    exact w_F_put_12 M this _ hf H locs ls hH hS (lv_sub hl [0] rfl)
  · replace hf := z_f c26 hf
    refine lv_lload_n M.x M.b d_F_put_6 rfl (lv_at hl 2 rfl) ?_
    refine lv_lconst (v := (1 : Int64)) M.x M.b d_F_put_7 rfl ?_
    refine z_lcmp_ge (tgt := 20) M d_F_put_8 d_F_put_9 (by decide) (fun c25 => ?_) (fun c25 => ?_)
    · replace hf := z_t c25 hf
      refine lv_lload_n M.x M.b d_F_put_20 rfl (lv_at hl 1 rfl) ?_
      refine lv_lload_n M.x M.b d_F_put_21 rfl (lv_at hl 2 rfl) ?_
      replace hf := z_bind hf; obtain ⟨l22, e21, hf⟩ := hf
      refine zk_S (st1 := [.long l22]) M hH hS (c_F_commonDivisor e21) w_F_commonDivisor q_111 [] rfl ⟨Nat.le_of_ble_eq_true rfl, Nat.le_of_ble_eq_true rfl⟩ hl.1 rfl rfl (Nat.le_of_ble_eq_true rfl) d_F_put_22 (fun H locs hH hS => ?_)
      refine lv_lstore (lv' := [(5, .long l22), (0, .ref this), (1, .long x1), (3, .long x3)]) M.x M.b d_F_put_25 hl (by decide) rfl (fun ls hl => ?_)
      refine lv_aload_n M.x M.b d_F_put_27 rfl (lv_at hl 1 rfl) ?_
      refine lv_lload M.x M.b d_F_put_28 (lv_at hl 0 rfl) ?_
      refine lv_lconst (v := (1 : Int64)) M.x M.b d_F_put_30 rfl ?_
      refine z_lcmp_le (tgt := 42) M d_F_put_31 d_F_put_32 (by decide) (fun c24 => ?_) (fun c24 => ?_)
      · replace hf := z_t c24 hf
        refine lv_lload_n M.x M.b d_F_put_42 rfl (lv_at hl 2 rfl) ?_
        exact w_F_put_43 M this _ _ _ _ hf H locs ls hH hS (lv_sub hl [1, 3, 0] rfl)
      · replace hf := z_f c24 hf
        refine lv_lload_n M.x M.b d_F_put_35 rfl (lv_at hl 2 rfl) ?_
        refine lv_lload M.x M.b d_F_put_36 (lv_at hl 0 rfl) ?_
        replace hf := z_gn hf; obtain ⟨c23, hf⟩ := hf
        refine lv_ldiv M.x M.b d_F_put_38 c23 ?_
        refine lv_goto (tgt := 43) M.x M.b d_F_put_39 (by decide) ?_
        exact w_F_put_43 M this _ _ _ _ hf H locs ls hH hS (lv_sub hl [1, 3, 0] rfl)
    · replace hf := z_f c25 hf
      exact w_F_put_12 M this _ hf H locs ls hH hS (lv_sub hl [0] rfl)
def f_F_turnOver (this : Nat) (h : Hp) : Option (Hp) :=
  if isO h this 1 = true then
  (gI h this 1 3).bind fun i1 =>
  if i1 = 0 then
    (gL h this 1 0).bind fun l3 =>
    if l3 = (0 : Int64) then
      (f_F_refuse this (-1003 : Int32) h).bind fun h14 =>
      some h14
    else
    (gL h this 1 0).bind fun l5 =>
    (gL h this 1 1).bind fun l7 =>
    (pV h this 1 0 (.long l7)).bind fun h9 =>
    (pV h9 this 1 1 (.long l5)).bind fun h11 =>
    some h11
  else
  some h
  else none
theorem o_F_turnOver {this : Nat} {h : Hp} {h0 : Hp} (hf : f_F_turnOver this h = some h0) : isO h this 1 = true := by
  unfold f_F_turnOver at hf
  exact (z_gd hf).1
set_option maxRecDepth 100000 in
set_option maxHeartbeats 4000000 in
theorem c_F_turnOver {l : Launch} {N0 : Nat} {D : va_G} {cs : Nat → ClassId} {this : Nat} {h : Hp} {h0 : Hp} (hf : f_F_turnOver this h = some h0) : Fn l N0 D cs y_F_turnOver b_F_turnOver 3 (none) 2 0 0 [.ref this] h none h0 := by
  refine z_start (by decide) (Nat.le_of_ble_eq_true rfl) ?_
  intro p e s m args below meth c M hH hS ls hl
  unfold f_F_turnOver at hf
  obtain ⟨hO, hf⟩ := z_gd hf
  have hl : lv_has ls 3 [(0, .ref this)] := hl
  obtain ⟨H, hHe⟩ : ∃ H, H = s.heap := ⟨_, rfl⟩
  obtain ⟨locs, hLe⟩ : ∃ locs : List Loc, locs = [] := ⟨_, rfl⟩
  have hS : va_S (zA N0) s.heap H locs := by rw [hHe, hLe]; exact hS
  have hH : HH N0 D cs h H := by rw [hHe]; exact hH
  suffices hg : W p l e (zrm 2 0 0) s m args below meth c H locs 0 0 (MQ below (zQ N0 D cs none h0) args s 0 0 (zA N0)) (F0 m 0 ls []) by rw [hHe, hLe] at hg; exact hg
  clear hHe hLe
  refine lv_aload_n M.x M.b d_F_turnOver_0 rfl (lv_at hl 0 rfl) ?_
  replace hf := z_bind hf; obtain ⟨i1, e2, hf⟩ := hf
  refine z_get (ci := 1) (k := 3) M hH rfl (by decide) zinF q_97 (gI_spec e2) d_F_turnOver_1 ?_
  refine lv_if_eq (tgt := 8) M.x M.b d_F_turnOver_4 (by decide) (fun c16 => ?_) (fun c16 => ?_)
  · replace hf := z_t c16 hf
    refine lv_aload_n M.x M.b d_F_turnOver_8 rfl (lv_at hl 0 rfl) ?_
    replace hf := z_bind hf; obtain ⟨l3, e4, hf⟩ := hf
    refine z_get (ci := 1) (k := 0) M hH rfl (by decide) zinF q_100 (gL_spec e4) d_F_turnOver_9 ?_
    refine lv_lconst (v := (0 : Int64)) M.x M.b d_F_turnOver_12 rfl ?_
    refine z_lcmp_ne (tgt := 25) M d_F_turnOver_13 d_F_turnOver_14 (by decide) (fun c15 => ?_) (fun c15 => ?_)
    · replace hf := z_f c15 hf
      refine lv_aload_n M.x M.b d_F_turnOver_25 rfl (lv_at hl 0 rfl) ?_
      replace hf := z_bind hf; obtain ⟨l5, e6, hf⟩ := hf
      refine z_get (ci := 1) (k := 0) M hH rfl (by decide) zinF q_100 (gL_spec e6) d_F_turnOver_26 ?_
      refine lv_lstore_n (lv' := [(1, .long l5), (0, .ref this)]) M.x M.b d_F_turnOver_29 rfl hl (by decide) rfl (fun ls hl => ?_)
      refine lv_aload_n M.x M.b d_F_turnOver_30 rfl (lv_at hl 1 rfl) ?_
      refine lv_aload_n M.x M.b d_F_turnOver_31 rfl (lv_at hl 1 rfl) ?_
      replace hf := z_bind hf; obtain ⟨l7, e8, hf⟩ := hf
      refine z_get (ci := 1) (k := 1) M hH rfl (by decide) zinF q_99 (gL_spec e8) d_F_turnOver_32 ?_
      replace hf := z_bind hf; obtain ⟨h9, e10, hf⟩ := hf
      refine z_put (ci := 1) (k := 0) M hH hS rfl (by decide) zinF zYF zYF_ok zNF_ok rfl q_100 rfl rfl rfl e10 d_F_turnOver_35 (fun H locs hH hS => ?_)
      refine lv_aload_n M.x M.b d_F_turnOver_38 rfl (lv_at hl 1 rfl) ?_
      refine lv_lload_n M.x M.b d_F_turnOver_39 rfl (lv_at hl 0 rfl) ?_
      replace hf := z_bind hf; obtain ⟨h11, e12, hf⟩ := hf
      refine z_put (ci := 1) (k := 1) M hH hS rfl (by decide) zinF zYF zYF_ok zNF_ok rfl q_99 rfl rfl rfl e12 d_F_turnOver_40 (fun H locs hH hS => ?_)
      obtain rfl := z_r1 hf
      exact z_vret M hH hS d_F_turnOver_43
    · replace hf := z_t c15 hf
      refine lv_aload_n M.x M.b d_F_turnOver_17 rfl (lv_at hl 0 rfl) ?_
      refine lv_sipush (v := (-1003 : Int32)) M.x M.b d_F_turnOver_18 rfl ?_
      replace hf := z_bind hf; obtain ⟨h14, e13, hf⟩ := hf
      refine zk_V (ci := 1) (st1 := []) M hH hS (c_F_refuse e13) rfl (o_F_refuse e13) w_F_refuse q_109 [] rfl ⟨Nat.le_of_ble_eq_true rfl, Nat.le_of_ble_eq_true rfl⟩ hl.1 rfl rfl (Nat.le_of_ble_eq_true rfl) d_F_turnOver_21 (fun H locs hH hS => ?_)
      obtain rfl := z_r1 hf
      exact z_vret M hH hS d_F_turnOver_24
  · replace hf := z_f c16 hf
    obtain rfl := z_r1 hf
    exact z_vret M hH hS d_F_turnOver_7
def f_F_exceeds (x0 : Int64) (x2 : Int64) (x4 : Int64) : Option (Int32) :=
  if x0 ≤ (0 : Int64) then
    some (0 : Int32)
  else
  if x0 = 0 then none else
  if x2 ≤ (x4 / x0) then
    some (0 : Int32)
  else
  some (1 : Int32)
set_option maxRecDepth 100000 in
set_option maxHeartbeats 4000000 in
theorem c_F_exceeds {l : Launch} {N0 : Nat} {D : va_G} {cs : Nat → ClassId} {x0 : Int64} {x2 : Int64} {x4 : Int64} {r0 : Int32} {h : Hp} (hf : f_F_exceeds x0 x2 x4 = some r0) : Fn l N0 D cs y_F_exceeds b_F_exceeds 6 (some .boolean) 1 0 0 [.long x0, .long x2, .long x4] h (some (.int r0)) h := by
  refine z_start (by decide) (Nat.le_of_ble_eq_true rfl) ?_
  intro p e s m args below meth c M hH hS ls hl
  unfold f_F_exceeds at hf
  have hl : lv_has ls 6 [(0, .long x0), (2, .long x2), (4, .long x4)] := hl
  obtain ⟨H, hHe⟩ : ∃ H, H = s.heap := ⟨_, rfl⟩
  obtain ⟨locs, hLe⟩ : ∃ locs : List Loc, locs = [] := ⟨_, rfl⟩
  have hS : va_S (zA N0) s.heap H locs := by rw [hHe, hLe]; exact hS
  have hH : HH N0 D cs h H := by rw [hHe]; exact hH
  suffices hg : W p l e (zrm 1 0 0) s m args below meth c H locs 0 0 (MQ below (zQ N0 D cs (some (.int r0)) h) args s 0 0 (zA N0)) (F0 m 0 ls []) by rw [hHe, hLe] at hg; exact hg
  clear hHe hLe
  refine lv_lload_n M.x M.b d_F_exceeds_0 rfl (lv_at hl 0 rfl) ?_
  refine lv_lconst (v := (0 : Int64)) M.x M.b d_F_exceeds_1 rfl ?_
  refine z_lcmp_le (tgt := 19) M d_F_exceeds_2 d_F_exceeds_3 (by decide) (fun c3 => ?_) (fun c3 => ?_)
  · replace hf := z_t c3 hf
    refine lv_iconst (v := (0 : Int32)) M.x M.b d_F_exceeds_19 rfl ?_
    obtain rfl := z_r1 hf
    exact z_zret M hH hS (by decide) d_F_exceeds_20
  · replace hf := z_f c3 hf
    refine lv_lload_n M.x M.b d_F_exceeds_6 rfl (lv_at hl 1 rfl) ?_
    refine lv_lload M.x M.b d_F_exceeds_7 (lv_at hl 2 rfl) ?_
    refine lv_lload_n M.x M.b d_F_exceeds_9 rfl (lv_at hl 0 rfl) ?_
    replace hf := z_gn hf; obtain ⟨c2, hf⟩ := hf
    refine lv_ldiv M.x M.b d_F_exceeds_10 c2 ?_
    refine z_lcmp_le (tgt := 19) M d_F_exceeds_11 d_F_exceeds_12 (by decide) (fun c1 => ?_) (fun c1 => ?_)
    · replace hf := z_t c1 hf
      refine lv_iconst (v := (0 : Int32)) M.x M.b d_F_exceeds_19 rfl ?_
      obtain rfl := z_r1 hf
      exact z_zret M hH hS (by decide) d_F_exceeds_20
    · replace hf := z_f c1 hf
      refine lv_iconst (v := (1 : Int32)) M.x M.b d_F_exceeds_15 rfl ?_
      refine lv_goto (tgt := 20) M.x M.b d_F_exceeds_16 (by decide) ?_
      obtain rfl := z_r1 hf
      exact z_zret M hH hS (by decide) d_F_exceeds_20
def f_F_multiply_162 (this : Nat) (h : Hp) : Option (Hp) :=
  (f_F_refuse this (-1005 : Int32) h).bind fun h2 =>
  some h2
set_option maxRecDepth 100000 in
set_option maxHeartbeats 4000000 in
theorem w_F_multiply_162 {p : Program} {l : Launch} {e : Env} {s : State} {m : MethodId} {args : Array Value} {below : List Frame} {meth : Method} {c : Code} {N0 : Nat} {D : va_G} {cs : Nat → ClassId} (M : ZC p s m args meth c "YearBaskets$Fraction" "multiply" b_F_multiply 14 (none) N0 D cs) (this : Nat)  {h0 : Hp}  (h : Hp) (hf : f_F_multiply_162 this h = some h0) : ZG p l e (zrm 2 0 0) s m args below meth c N0 D cs none h0 h 14 [(0, .ref this)] 162 [] := by
  intro H locs ls hH hS hl
  unfold f_F_multiply_162 at hf
  refine lv_aload_n M.x M.b d_F_multiply_162 rfl (lv_at hl 0 rfl) ?_
  refine lv_sipush (v := (-1005 : Int32)) M.x M.b d_F_multiply_163 rfl ?_
  replace hf := z_bind hf; obtain ⟨h2, e1, hf⟩ := hf
  refine zk_V (ci := 1) (st1 := []) M hH hS (c_F_refuse e1) rfl (o_F_refuse e1) w_F_refuse q_109 [] rfl ⟨Nat.le_of_ble_eq_true rfl, Nat.le_of_ble_eq_true rfl⟩ hl.1 rfl rfl (Nat.le_of_ble_eq_true rfl) d_F_multiply_166 (fun H locs hH hS => ?_)
  obtain rfl := z_r1 hf
  exact z_vret M hH hS d_F_multiply_169
def f_F_multiply_94 (this : Nat) (h : Hp) : Option (Hp) :=
  (f_F_refuse this (-1003 : Int32) h).bind fun h4 =>
  some h4
set_option maxRecDepth 100000 in
set_option maxHeartbeats 4000000 in
theorem w_F_multiply_94 {p : Program} {l : Launch} {e : Env} {s : State} {m : MethodId} {args : Array Value} {below : List Frame} {meth : Method} {c : Code} {N0 : Nat} {D : va_G} {cs : Nat → ClassId} (M : ZC p s m args meth c "YearBaskets$Fraction" "multiply" b_F_multiply 14 (none) N0 D cs) (this : Nat)  {h0 : Hp}  (h : Hp) (hf : f_F_multiply_94 this h = some h0) : ZG p l e (zrm 2 0 0) s m args below meth c N0 D cs none h0 h 14 [(0, .ref this)] 94 [] := by
  intro H locs ls hH hS hl
  unfold f_F_multiply_94 at hf
  refine lv_aload_n M.x M.b d_F_multiply_94 rfl (lv_at hl 0 rfl) ?_
  refine lv_sipush (v := (-1003 : Int32)) M.x M.b d_F_multiply_95 rfl ?_
  replace hf := z_bind hf; obtain ⟨h4, e3, hf⟩ := hf
  refine zk_V (ci := 1) (st1 := []) M hH hS (c_F_refuse e3) rfl (o_F_refuse e3) w_F_refuse q_109 [] rfl ⟨Nat.le_of_ble_eq_true rfl, Nat.le_of_ble_eq_true rfl⟩ hl.1 rfl rfl (Nat.le_of_ble_eq_true rfl) d_F_multiply_98 (fun H locs hH hS => ?_)
  obtain rfl := z_r1 hf
  exact z_vret M hH hS d_F_multiply_101
def f_F_multiply_52 (this : Nat) (s1 : Int32) (h : Hp) : Option (Hp) :=
  (f_F_refuse this s1 h).bind fun h6 =>
  some h6
set_option maxRecDepth 100000 in
set_option maxHeartbeats 4000000 in
theorem w_F_multiply_52 {p : Program} {l : Launch} {e : Env} {s : State} {m : MethodId} {args : Array Value} {below : List Frame} {meth : Method} {c : Code} {N0 : Nat} {D : va_G} {cs : Nat → ClassId} (M : ZC p s m args meth c "YearBaskets$Fraction" "multiply" b_F_multiply 14 (none) N0 D cs) (this : Nat)  {h0 : Hp}  (s1 : Int32) (h : Hp) (hf : f_F_multiply_52 this s1 h = some h0) : ZG p l e (zrm 2 0 0) s m args below meth c N0 D cs none h0 h 14 [] 52 [.int s1, .ref this] := by
  intro H locs ls hH hS hl
  unfold f_F_multiply_52 at hf
  replace hf := z_bind hf; obtain ⟨h6, e5, hf⟩ := hf
  refine zk_V (ci := 1) (st1 := []) M hH hS (c_F_refuse e5) rfl (o_F_refuse e5) w_F_refuse q_109 [] rfl ⟨Nat.le_of_ble_eq_true rfl, Nat.le_of_ble_eq_true rfl⟩ hl.1 rfl rfl (Nat.le_of_ble_eq_true rfl) d_F_multiply_52 (fun H locs hH hS => ?_)
  obtain rfl := z_r1 hf
  exact z_vret M hH hS d_F_multiply_55
def f_F_multiply_42 (this : Nat) (h : Hp) : Option (Hp) :=
  f_F_multiply_52 this (-1003 : Int32) h
set_option maxRecDepth 100000 in
set_option maxHeartbeats 4000000 in
theorem w_F_multiply_42 {p : Program} {l : Launch} {e : Env} {s : State} {m : MethodId} {args : Array Value} {below : List Frame} {meth : Method} {c : Code} {N0 : Nat} {D : va_G} {cs : Nat → ClassId} (M : ZC p s m args meth c "YearBaskets$Fraction" "multiply" b_F_multiply 14 (none) N0 D cs) (this : Nat)  {h0 : Hp}  (h : Hp) (hf : f_F_multiply_42 this h = some h0) : ZG p l e (zrm 2 0 0) s m args below meth c N0 D cs none h0 h 14 [] 42 [.ref this] := by
  intro H locs ls hH hS hl
  unfold f_F_multiply_42 at hf
  refine lv_sipush (v := (-1003 : Int32)) M.x M.b d_F_multiply_42 rfl ?_
  refine lv_goto (tgt := 52) M.x M.b d_F_multiply_45 (by decide) ?_
  exact w_F_multiply_52 M this _ _ hf H locs ls hH hS (lv_sub hl [] rfl)
def f_F_multiply_30 (this : Nat) (x1 : Nat) (h : Hp) : Option (Hp) :=
  (gI h x1 1 3).bind fun i7 =>
  if i7 = 0 then
    f_F_multiply_42 this h
  else
  (gI h x1 1 3).bind fun i9 =>
  f_F_multiply_52 this i9 h
set_option maxRecDepth 100000 in
set_option maxHeartbeats 4000000 in
theorem w_F_multiply_30 {p : Program} {l : Launch} {e : Env} {s : State} {m : MethodId} {args : Array Value} {below : List Frame} {meth : Method} {c : Code} {N0 : Nat} {D : va_G} {cs : Nat → ClassId} (M : ZC p s m args meth c "YearBaskets$Fraction" "multiply" b_F_multiply 14 (none) N0 D cs) (this : Nat)  {h0 : Hp}  (x1 : Nat) (h : Hp) (hf : f_F_multiply_30 this x1 h = some h0) : ZG p l e (zrm 2 0 0) s m args below meth c N0 D cs none h0 h 14 [(0, .ref this), (1, .ref x1)] 30 [] := by
  intro H locs ls hH hS hl
  unfold f_F_multiply_30 at hf
  refine lv_aload_n M.x M.b d_F_multiply_30 rfl (lv_at hl 0 rfl) ?_
  refine lv_aload_n M.x M.b d_F_multiply_31 rfl (lv_at hl 1 rfl) ?_
  refine lv_ifnull M.x M.b d_F_multiply_32 ?_
  refine lv_aload_n M.x M.b d_F_multiply_35 rfl (lv_at hl 1 rfl) ?_
  replace hf := z_bind hf; obtain ⟨i7, e8, hf⟩ := hf
  refine z_get (ci := 1) (k := 3) M hH rfl (by decide) zinF q_97 (gI_spec e8) d_F_multiply_36 ?_
  refine lv_if_ne (tgt := 48) M.x M.b d_F_multiply_39 (by decide) (fun c11 => ?_) (fun c11 => ?_)
  · replace hf := z_f c11 hf
    refine lv_aload_n M.x M.b d_F_multiply_48 rfl (lv_at hl 1 rfl) ?_
    replace hf := z_bind hf; obtain ⟨i9, e10, hf⟩ := hf
    refine z_get (ci := 1) (k := 3) M hH rfl (by decide) zinF q_97 (gI_spec e10) d_F_multiply_49 ?_
    exact w_F_multiply_52 M this _ _ hf H locs ls hH hS (lv_sub hl [] rfl)
  · replace hf := z_t c11 hf
    exact w_F_multiply_42 M this _ hf H locs ls hH hS (lv_sub hl [] rfl)
def f_F_multiply (this : Nat) (x1 : Nat) (h : Hp) : Option (Hp) :=
  if isO h this 1 = true then
  (gI h this 1 3).bind fun i12 =>
  if i12 = 0 then
    (gI h x1 1 3).bind fun i14 =>
    if i14 = 0 then
      (gI h x1 1 2).bind fun i16 =>
      (gI h this 1 2).bind fun i18 =>
      if i16 = i18 then
        (gL h this 1 0).bind fun l20 =>
        (gL h x1 1 1).bind fun l22 =>
        (f_F_commonDivisor l20 l22).bind fun l25 =>
        (gL h x1 1 0).bind fun l26 =>
        (gL h this 1 1).bind fun l28 =>
        (f_F_commonDivisor l26 l28).bind fun l31 =>
        if l25 < (1 : Int64) then
          f_F_multiply_94 this h
        else
        if (1 : Int64) ≤ l31 then
          (gL h this 1 0).bind fun l32 =>
          if l25 = 0 then none else
          (gL h this 1 1).bind fun l34 =>
          if l31 = 0 then none else
          (gL h x1 1 0).bind fun l36 =>
          if l31 = 0 then none else
          (gL h x1 1 1).bind fun l38 =>
          if l25 = 0 then none else
          (f_F_exceeds (l32 / l25) (l36 / l31) (1000000000000000 : Int64)).bind fun i41 =>
          if i41 = 0 then
            (f_F_exceeds (l34 / l31) (l38 / l25) (1000000000000000 : Int64)).bind fun i43 =>
            if i43 = 0 then
              (pV h this 1 0 (.long ((l32 / l25) * (l36 / l31)))).bind fun h44 =>
              (pV h44 this 1 1 (.long ((l34 / l31) * (l38 / l25)))).bind fun h46 =>
              some h46
            else
            f_F_multiply_162 this h
          else
          f_F_multiply_162 this h
        else
        f_F_multiply_94 this h
      else
      f_F_multiply_30 this x1 h
    else
    f_F_multiply_30 this x1 h
  else
  some h
  else none
theorem o_F_multiply {this : Nat} {x1 : Nat} {h : Hp} {h0 : Hp} (hf : f_F_multiply this x1 h = some h0) : isO h this 1 = true := by
  unfold f_F_multiply at hf
  exact (z_gd hf).1
set_option maxRecDepth 100000 in
set_option maxHeartbeats 4000000 in
theorem c_F_multiply {l : Launch} {N0 : Nat} {D : va_G} {cs : Nat → ClassId} {this : Nat} {x1 : Nat} {h : Hp} {h0 : Hp} (hf : f_F_multiply this x1 h = some h0) : Fn l N0 D cs y_F_multiply b_F_multiply 14 (none) 2 0 0 [.ref this, .ref x1] h none h0 := by
  refine z_start (by decide) (Nat.le_of_ble_eq_true rfl) ?_
  intro p e s m args below meth c M hH hS ls hl
  unfold f_F_multiply at hf
  obtain ⟨hO, hf⟩ := z_gd hf
  have hl : lv_has ls 14 [(0, .ref this), (1, .ref x1)] := hl
  obtain ⟨H, hHe⟩ : ∃ H, H = s.heap := ⟨_, rfl⟩
  obtain ⟨locs, hLe⟩ : ∃ locs : List Loc, locs = [] := ⟨_, rfl⟩
  have hS : va_S (zA N0) s.heap H locs := by rw [hHe, hLe]; exact hS
  have hH : HH N0 D cs h H := by rw [hHe]; exact hH
  suffices hg : W p l e (zrm 2 0 0) s m args below meth c H locs 0 0 (MQ below (zQ N0 D cs none h0) args s 0 0 (zA N0)) (F0 m 0 ls []) by rw [hHe, hLe] at hg; exact hg
  clear hHe hLe
  refine lv_aload_n M.x M.b d_F_multiply_0 rfl (lv_at hl 0 rfl) ?_
  replace hf := z_bind hf; obtain ⟨i12, e13, hf⟩ := hf
  refine z_get (ci := 1) (k := 3) M hH rfl (by decide) zinF q_97 (gI_spec e13) d_F_multiply_1 ?_
  refine lv_if_eq (tgt := 8) M.x M.b d_F_multiply_4 (by decide) (fun c58 => ?_) (fun c58 => ?_)
  · replace hf := z_t c58 hf
    refine lv_aload_n M.x M.b d_F_multiply_8 rfl (lv_at hl 1 rfl) ?_
    refine lv_ifnull M.x M.b d_F_multiply_9 ?_
    refine lv_aload_n M.x M.b d_F_multiply_12 rfl (lv_at hl 1 rfl) ?_
    replace hf := z_bind hf; obtain ⟨i14, e15, hf⟩ := hf
    refine z_get (ci := 1) (k := 3) M hH rfl (by decide) zinF q_97 (gI_spec e15) d_F_multiply_13 ?_
    refine lv_if_ne (tgt := 30) M.x M.b d_F_multiply_16 (by decide) (fun c57 => ?_) (fun c57 => ?_)
    · replace hf := z_f c57 hf
      exact w_F_multiply_30 M this _ _ hf H locs ls hH hS (lv_sub hl [0, 1] rfl)
    · replace hf := z_t c57 hf
      refine lv_aload_n M.x M.b d_F_multiply_19 rfl (lv_at hl 1 rfl) ?_
      replace hf := z_bind hf; obtain ⟨i16, e17, hf⟩ := hf
      refine z_get (ci := 1) (k := 2) M hH rfl (by decide) zinF q_98 (gI_spec e17) d_F_multiply_20 ?_
      refine lv_aload_n M.x M.b d_F_multiply_23 rfl (lv_at hl 0 rfl) ?_
      replace hf := z_bind hf; obtain ⟨i18, e19, hf⟩ := hf
      refine z_get (ci := 1) (k := 2) M hH rfl (by decide) zinF q_98 (gI_spec e19) d_F_multiply_24 ?_
      refine lv_icmp_eq (tgt := 56) M.x M.b d_F_multiply_27 (by decide) (fun c56 => ?_) (fun c56 => ?_)
      · replace hf := z_t c56 hf
        refine lv_aload_n M.x M.b d_F_multiply_56 rfl (lv_at hl 0 rfl) ?_
        replace hf := z_bind hf; obtain ⟨l20, e21, hf⟩ := hf
        refine z_get (ci := 1) (k := 0) M hH rfl (by decide) zinF q_100 (gL_spec e21) d_F_multiply_57 ?_
        refine lv_aload_n M.x M.b d_F_multiply_60 rfl (lv_at hl 1 rfl) ?_
        replace hf := z_bind hf; obtain ⟨l22, e23, hf⟩ := hf
        refine z_get (ci := 1) (k := 1) M hH rfl (by decide) zinF q_99 (gL_spec e23) d_F_multiply_61 ?_
        replace hf := z_bind hf; obtain ⟨l25, e24, hf⟩ := hf
        refine zk_S (st1 := [.long l25]) M hH hS (c_F_commonDivisor e24) w_F_commonDivisor q_111 [] rfl ⟨Nat.le_of_ble_eq_true rfl, Nat.le_of_ble_eq_true rfl⟩ hl.1 rfl rfl (Nat.le_of_ble_eq_true rfl) d_F_multiply_64 (fun H locs hH hS => ?_)
        refine lv_lstore_n (lv' := [(2, .long l25), (0, .ref this), (1, .ref x1)]) M.x M.b d_F_multiply_67 rfl hl (by decide) rfl (fun ls hl => ?_)
        refine lv_aload_n M.x M.b d_F_multiply_68 rfl (lv_at hl 2 rfl) ?_
        replace hf := z_bind hf; obtain ⟨l26, e27, hf⟩ := hf
        refine z_get (ci := 1) (k := 0) M hH rfl (by decide) zinF q_100 (gL_spec e27) d_F_multiply_69 ?_
        refine lv_aload_n M.x M.b d_F_multiply_72 rfl (lv_at hl 1 rfl) ?_
        replace hf := z_bind hf; obtain ⟨l28, e29, hf⟩ := hf
        refine z_get (ci := 1) (k := 1) M hH rfl (by decide) zinF q_99 (gL_spec e29) d_F_multiply_73 ?_
        replace hf := z_bind hf; obtain ⟨l31, e30, hf⟩ := hf
        refine zk_S (st1 := [.long l31]) M hH hS (c_F_commonDivisor e30) w_F_commonDivisor q_111 [] rfl ⟨Nat.le_of_ble_eq_true rfl, Nat.le_of_ble_eq_true rfl⟩ hl.1 rfl rfl (Nat.le_of_ble_eq_true rfl) d_F_multiply_76 (fun H locs hH hS => ?_)
        refine lv_lstore (lv' := [(4, .long l31), (2, .long l25), (0, .ref this), (1, .ref x1)]) M.x M.b d_F_multiply_79 hl (by decide) rfl (fun ls hl => ?_)
        refine lv_lload_n M.x M.b d_F_multiply_81 rfl (lv_at hl 1 rfl) ?_
        refine lv_lconst (v := (1 : Int64)) M.x M.b d_F_multiply_82 rfl ?_
        refine z_lcmp_lt (tgt := 94) M d_F_multiply_83 d_F_multiply_84 (by decide) (fun c55 => ?_) (fun c55 => ?_)
        · replace hf := z_t c55 hf
          exact w_F_multiply_94 M this _ hf H locs ls hH hS (lv_sub hl [2] rfl)
        · replace hf := z_f c55 hf
          refine lv_lload M.x M.b d_F_multiply_87 (lv_at hl 0 rfl) ?_
          refine lv_lconst (v := (1 : Int64)) M.x M.b d_F_multiply_89 rfl ?_
          refine z_lcmp_ge (tgt := 102) M d_F_multiply_90 d_F_multiply_91 (by decide) (fun c54 => ?_) (fun c54 => ?_)
          · replace hf := z_t c54 hf
            refine lv_aload_n M.x M.b d_F_multiply_102 rfl (lv_at hl 2 rfl) ?_
            replace hf := z_bind hf; obtain ⟨l32, e33, hf⟩ := hf
            refine z_get (ci := 1) (k := 0) M hH rfl (by decide) zinF q_100 (gL_spec e33) d_F_multiply_103 ?_
            refine lv_lload_n M.x M.b d_F_multiply_106 rfl (lv_at hl 1 rfl) ?_
            replace hf := z_gn hf; obtain ⟨c53, hf⟩ := hf
            refine lv_ldiv M.x M.b d_F_multiply_107 c53 ?_
            refine lv_lstore (lv' := [(6, .long (l32 / l25)), (4, .long l31), (2, .long l25), (0, .ref this), (1, .ref x1)]) M.x M.b d_F_multiply_108 hl (by decide) rfl (fun ls hl => ?_)
            refine lv_aload_n M.x M.b d_F_multiply_110 rfl (lv_at hl 3 rfl) ?_
            replace hf := z_bind hf; obtain ⟨l34, e35, hf⟩ := hf
            refine z_get (ci := 1) (k := 1) M hH rfl (by decide) zinF q_99 (gL_spec e35) d_F_multiply_111 ?_
            refine lv_lload M.x M.b d_F_multiply_114 (lv_at hl 1 rfl) ?_
            replace hf := z_gn hf; obtain ⟨c52, hf⟩ := hf
            refine lv_ldiv M.x M.b d_F_multiply_116 c52 ?_
            refine lv_lstore (lv' := [(8, .long (l34 / l31)), (6, .long (l32 / l25)), (4, .long l31), (2, .long l25), (0, .ref this), (1, .ref x1)]) M.x M.b d_F_multiply_117 hl (by decide) rfl (fun ls hl => ?_)
            refine lv_aload_n M.x M.b d_F_multiply_119 rfl (lv_at hl 5 rfl) ?_
            replace hf := z_bind hf; obtain ⟨l36, e37, hf⟩ := hf
            refine z_get (ci := 1) (k := 0) M hH rfl (by decide) zinF q_100 (gL_spec e37) d_F_multiply_120 ?_
            refine lv_lload M.x M.b d_F_multiply_123 (lv_at hl 2 rfl) ?_
            replace hf := z_gn hf; obtain ⟨c51, hf⟩ := hf
            refine lv_ldiv M.x M.b d_F_multiply_125 c51 ?_
            refine lv_lstore (lv' := [(10, .long (l36 / l31)), (8, .long (l34 / l31)), (6, .long (l32 / l25)), (4, .long l31), (2, .long l25), (0, .ref this), (1, .ref x1)]) M.x M.b d_F_multiply_126 hl (by decide) rfl (fun ls hl => ?_)
            refine lv_aload_n M.x M.b d_F_multiply_128 rfl (lv_at hl 6 rfl) ?_
            replace hf := z_bind hf; obtain ⟨l38, e39, hf⟩ := hf
            refine z_get (ci := 1) (k := 1) M hH rfl (by decide) zinF q_99 (gL_spec e39) d_F_multiply_129 ?_
            refine lv_lload_n M.x M.b d_F_multiply_132 rfl (lv_at hl 4 rfl) ?_
            replace hf := z_gn hf; obtain ⟨c50, hf⟩ := hf
            refine lv_ldiv M.x M.b d_F_multiply_133 c50 ?_
            refine lv_lstore (lv' := [(12, .long (l38 / l25)), (10, .long (l36 / l31)), (8, .long (l34 / l31)), (6, .long (l32 / l25)), (4, .long l31), (2, .long l25), (0, .ref this), (1, .ref x1)]) M.x M.b d_F_multiply_134 hl (by decide) rfl (fun ls hl => ?_)
            refine lv_lload M.x M.b d_F_multiply_136 (lv_at hl 3 rfl) ?_
            refine lv_lload M.x M.b d_F_multiply_138 (lv_at hl 1 rfl) ?_
            refine z_ldc2 (v := (1000000000000000 : Int64)) M q_110 d_F_multiply_140 ?_
            replace hf := z_bind hf; obtain ⟨i41, e40, hf⟩ := hf
            refine zk_S (st1 := [.int i41]) M hH hS (c_F_exceeds e40) w_F_exceeds q_120 [] rfl ⟨Nat.le_of_ble_eq_true rfl, Nat.le_of_ble_eq_true rfl⟩ hl.1 rfl rfl (Nat.le_of_ble_eq_true rfl) d_F_multiply_143 (fun H locs hH hS => ?_)
            refine lv_if_ne (tgt := 162) M.x M.b d_F_multiply_146 (by decide) (fun c49 => ?_) (fun c49 => ?_)
            · replace hf := z_f c49 hf
              exact w_F_multiply_162 M this _ hf H locs ls hH hS (lv_sub hl [6] rfl)
            · replace hf := z_t c49 hf
              refine lv_lload M.x M.b d_F_multiply_149 (lv_at hl 2 rfl) ?_
              refine lv_lload M.x M.b d_F_multiply_151 (lv_at hl 0 rfl) ?_
              refine z_ldc2 (v := (1000000000000000 : Int64)) M q_110 d_F_multiply_153 ?_
              replace hf := z_bind hf; obtain ⟨i43, e42, hf⟩ := hf
              refine zk_S (st1 := [.int i43]) M hH hS (c_F_exceeds e42) w_F_exceeds q_120 [] rfl ⟨Nat.le_of_ble_eq_true rfl, Nat.le_of_ble_eq_true rfl⟩ hl.1 rfl rfl (Nat.le_of_ble_eq_true rfl) d_F_multiply_156 (fun H locs hH hS => ?_)
              refine lv_if_eq (tgt := 170) M.x M.b d_F_multiply_159 (by decide) (fun c48 => ?_) (fun c48 => ?_)
              · replace hf := z_t c48 hf
                refine lv_aload_n M.x M.b d_F_multiply_170 rfl (lv_at hl 6 rfl) ?_
                refine lv_lload M.x M.b d_F_multiply_171 (lv_at hl 3 rfl) ?_
                refine lv_lload M.x M.b d_F_multiply_173 (lv_at hl 1 rfl) ?_
                refine lv_lmul M.x M.b d_F_multiply_175 ?_
                replace hf := z_bind hf; obtain ⟨h44, e45, hf⟩ := hf
                refine z_put (ci := 1) (k := 0) M hH hS rfl (by decide) zinF zYF zYF_ok zNF_ok rfl q_100 rfl rfl rfl e45 d_F_multiply_176 (fun H locs hH hS => ?_)
                refine lv_aload_n M.x M.b d_F_multiply_179 rfl (lv_at hl 6 rfl) ?_
                refine lv_lload M.x M.b d_F_multiply_180 (lv_at hl 2 rfl) ?_
                refine lv_lload M.x M.b d_F_multiply_182 (lv_at hl 0 rfl) ?_
                refine lv_lmul M.x M.b d_F_multiply_184 ?_
                replace hf := z_bind hf; obtain ⟨h46, e47, hf⟩ := hf
                refine z_put (ci := 1) (k := 1) M hH hS rfl (by decide) zinF zYF zYF_ok zNF_ok rfl q_99 rfl rfl rfl e47 d_F_multiply_185 (fun H locs hH hS => ?_)
                obtain rfl := z_r1 hf
                exact z_vret M hH hS d_F_multiply_188
              · replace hf := z_f c48 hf
                exact w_F_multiply_162 M this _ hf H locs ls hH hS (lv_sub hl [6] rfl)
          · replace hf := z_f c54 hf
            exact w_F_multiply_94 M this _ hf H locs ls hH hS (lv_sub hl [2] rfl)
      · replace hf := z_f c56 hf
        exact w_F_multiply_30 M this _ _ hf H locs ls hH hS (lv_sub hl [0, 1] rfl)
  · replace hf := z_f c58 hf
    obtain rfl := z_r1 hf
    exact z_vret M hH hS d_F_multiply_7
def f_F_addAndShare_243 (this : Nat) (h : Hp) : Option (Hp) :=
  (f_F_refuse this (-1005 : Int32) h).bind fun h2 =>
  some h2
set_option maxRecDepth 100000 in
set_option maxHeartbeats 4000000 in
theorem w_F_addAndShare_243 {p : Program} {l : Launch} {e : Env} {s : State} {m : MethodId} {args : Array Value} {below : List Frame} {meth : Method} {c : Code} {N0 : Nat} {D : va_G} {cs : Nat → ClassId} (M : ZC p s m args meth c "YearBaskets$Fraction" "addAndShare" b_F_addAndShare 18 (none) N0 D cs) (this : Nat)  {h0 : Hp}  (h : Hp) (hf : f_F_addAndShare_243 this h = some h0) : ZG p l e (zrm 2 0 0) s m args below meth c N0 D cs none h0 h 18 [(0, .ref this)] 243 [] := by
  intro H locs ls hH hS hl
  unfold f_F_addAndShare_243 at hf
  refine lv_aload_n M.x M.b d_F_addAndShare_243 rfl (lv_at hl 0 rfl) ?_
  refine lv_sipush (v := (-1005 : Int32)) M.x M.b d_F_addAndShare_244 rfl ?_
  replace hf := z_bind hf; obtain ⟨h2, e1, hf⟩ := hf
  refine zk_V (ci := 1) (st1 := []) M hH hS (c_F_refuse e1) rfl (o_F_refuse e1) w_F_refuse q_109 [] rfl ⟨Nat.le_of_ble_eq_true rfl, Nat.le_of_ble_eq_true rfl⟩ hl.1 rfl rfl (Nat.le_of_ble_eq_true rfl) d_F_addAndShare_247 (fun H locs hH hS => ?_)
  obtain rfl := z_r1 hf
  exact z_vret M hH hS d_F_addAndShare_250
def f_F_addAndShare_218 (this : Nat) (s1 : Int64) (h : Hp) : Option (Hp) :=
  (pV h this 1 1 (.long s1)).bind fun h3 =>
  (gL h3 this 1 0).bind fun l5 =>
  if (1000000000000000 : Int64) < l5 then
    f_F_addAndShare_243 this h3
  else
  (gL h3 this 1 1).bind fun l7 =>
  if l7 ≤ (1000000000000000 : Int64) then
    some h3
  else
  f_F_addAndShare_243 this h3
set_option maxRecDepth 100000 in
set_option maxHeartbeats 4000000 in
theorem w_F_addAndShare_218 {p : Program} {l : Launch} {e : Env} {s : State} {m : MethodId} {args : Array Value} {below : List Frame} {meth : Method} {c : Code} {N0 : Nat} {D : va_G} {cs : Nat → ClassId} (M : ZC p s m args meth c "YearBaskets$Fraction" "addAndShare" b_F_addAndShare 18 (none) N0 D cs) (this : Nat)  {h0 : Hp}  (s1 : Int64) (h : Hp) (hf : f_F_addAndShare_218 this s1 h = some h0) : ZG p l e (zrm 2 0 0) s m args below meth c N0 D cs none h0 h 18 [(0, .ref this)] 218 [.long s1, .ref this] := by
  intro H locs ls hH hS hl
  unfold f_F_addAndShare_218 at hf
  replace hf := z_bind hf; obtain ⟨h3, e4, hf⟩ := hf
  refine z_put (ci := 1) (k := 1) M hH hS rfl (by decide) zinF zYF zYF_ok zNF_ok rfl q_99 rfl rfl rfl e4 d_F_addAndShare_218 (fun H locs hH hS => ?_)
  refine lv_aload_n M.x M.b d_F_addAndShare_221 rfl (lv_at hl 0 rfl) ?_
  replace hf := z_bind hf; obtain ⟨l5, e6, hf⟩ := hf
  refine z_get (ci := 1) (k := 0) M hH rfl (by decide) zinF q_100 (gL_spec e6) d_F_addAndShare_222 ?_
  refine z_ldc2 (v := (1000000000000000 : Int64)) M q_110 d_F_addAndShare_225 ?_
  refine z_lcmp_gt (tgt := 243) M d_F_addAndShare_228 d_F_addAndShare_229 (by decide) (fun c10 => ?_) (fun c10 => ?_)
  · replace hf := z_t c10 hf
    exact w_F_addAndShare_243 M this _ hf H locs ls hH hS (lv_sub hl [0] rfl)
  · replace hf := z_f c10 hf
    refine lv_aload_n M.x M.b d_F_addAndShare_232 rfl (lv_at hl 0 rfl) ?_
    replace hf := z_bind hf; obtain ⟨l7, e8, hf⟩ := hf
    refine z_get (ci := 1) (k := 1) M hH rfl (by decide) zinF q_99 (gL_spec e8) d_F_addAndShare_233 ?_
    refine z_ldc2 (v := (1000000000000000 : Int64)) M q_110 d_F_addAndShare_236 ?_
    refine z_lcmp_le (tgt := 250) M d_F_addAndShare_239 d_F_addAndShare_240 (by decide) (fun c9 => ?_) (fun c9 => ?_)
    · replace hf := z_t c9 hf
      obtain rfl := z_r1 hf
      exact z_vret M hH hS d_F_addAndShare_250
    · replace hf := z_f c9 hf
      exact w_F_addAndShare_243 M this _ hf H locs ls hH hS (lv_sub hl [0] rfl)
def f_F_addAndShare_197 (this : Nat) (s1 : Int64) (x14 : Int64) (x16 : Int64) (h : Hp) : Option (Hp) :=
  (pV h this 1 0 (.long s1)).bind fun h11 =>
  if x16 ≤ (1 : Int64) then
    f_F_addAndShare_218 this x14 h11
  else
  if x16 = 0 then none else
  f_F_addAndShare_218 this (x14 / x16) h11
set_option maxRecDepth 100000 in
set_option maxHeartbeats 4000000 in
theorem w_F_addAndShare_197 {p : Program} {l : Launch} {e : Env} {s : State} {m : MethodId} {args : Array Value} {below : List Frame} {meth : Method} {c : Code} {N0 : Nat} {D : va_G} {cs : Nat → ClassId} (M : ZC p s m args meth c "YearBaskets$Fraction" "addAndShare" b_F_addAndShare 18 (none) N0 D cs) (this : Nat)  {h0 : Hp}  (s1 : Int64) (x14 : Int64) (x16 : Int64) (h : Hp) (hf : f_F_addAndShare_197 this s1 x14 x16 h = some h0) : ZG p l e (zrm 2 0 0) s m args below meth c N0 D cs none h0 h 18 [(0, .ref this), (14, .long x14), (16, .long x16)] 197 [.long s1, .ref this] := by
  intro H locs ls hH hS hl
  unfold f_F_addAndShare_197 at hf
  replace hf := z_bind hf; obtain ⟨h11, e12, hf⟩ := hf
  refine z_put (ci := 1) (k := 0) M hH hS rfl (by decide) zinF zYF zYF_ok zNF_ok rfl q_100 rfl rfl rfl e12 d_F_addAndShare_197 (fun H locs hH hS => ?_)
  refine lv_aload_n M.x M.b d_F_addAndShare_200 rfl (lv_at hl 0 rfl) ?_
  refine lv_lload M.x M.b d_F_addAndShare_201 (lv_at hl 2 rfl) ?_
  refine lv_lconst (v := (1 : Int64)) M.x M.b d_F_addAndShare_203 rfl ?_
  refine z_lcmp_le (tgt := 216) M d_F_addAndShare_204 d_F_addAndShare_205 (by decide) (fun c14 => ?_) (fun c14 => ?_)
  · replace hf := z_t c14 hf
    refine lv_lload M.x M.b d_F_addAndShare_216 (lv_at hl 1 rfl) ?_
    exact w_F_addAndShare_218 M this _ _ hf H locs ls hH hS (lv_sub hl [0] rfl)
  · replace hf := z_f c14 hf
    refine lv_lload M.x M.b d_F_addAndShare_208 (lv_at hl 1 rfl) ?_
    refine lv_lload M.x M.b d_F_addAndShare_210 (lv_at hl 2 rfl) ?_
    replace hf := z_gn hf; obtain ⟨c13, hf⟩ := hf
    refine lv_ldiv M.x M.b d_F_addAndShare_212 c13 ?_
    refine lv_goto (tgt := 218) M.x M.b d_F_addAndShare_213 (by decide) ?_
    exact w_F_addAndShare_218 M this _ _ hf H locs ls hH hS (lv_sub hl [0] rfl)
def f_F_addAndShare_135 (this : Nat) (h : Hp) : Option (Hp) :=
  (f_F_refuse this (-1005 : Int32) h).bind fun h16 =>
  some h16
set_option maxRecDepth 100000 in
set_option maxHeartbeats 4000000 in
theorem w_F_addAndShare_135 {p : Program} {l : Launch} {e : Env} {s : State} {m : MethodId} {args : Array Value} {below : List Frame} {meth : Method} {c : Code} {N0 : Nat} {D : va_G} {cs : Nat → ClassId} (M : ZC p s m args meth c "YearBaskets$Fraction" "addAndShare" b_F_addAndShare 18 (none) N0 D cs) (this : Nat)  {h0 : Hp}  (h : Hp) (hf : f_F_addAndShare_135 this h = some h0) : ZG p l e (zrm 2 0 0) s m args below meth c N0 D cs none h0 h 18 [(0, .ref this)] 135 [] := by
  intro H locs ls hH hS hl
  unfold f_F_addAndShare_135 at hf
  refine lv_aload_n M.x M.b d_F_addAndShare_135 rfl (lv_at hl 0 rfl) ?_
  refine lv_sipush (v := (-1005 : Int32)) M.x M.b d_F_addAndShare_136 rfl ?_
  replace hf := z_bind hf; obtain ⟨h16, e15, hf⟩ := hf
  refine zk_V (ci := 1) (st1 := []) M hH hS (c_F_refuse e15) rfl (o_F_refuse e15) w_F_refuse q_109 [] rfl ⟨Nat.le_of_ble_eq_true rfl, Nat.le_of_ble_eq_true rfl⟩ hl.1 rfl rfl (Nat.le_of_ble_eq_true rfl) d_F_addAndShare_139 (fun H locs hH hS => ?_)
  obtain rfl := z_r1 hf
  exact z_vret M hH hS d_F_addAndShare_142
def f_F_addAndShare_91 (this : Nat) (s0 : Int64) (x1 : Int64) (x5 : Int32) (x8 : Int64) (h : Hp) : Option (Hp) :=
  (gL h this 1 1).bind fun l17 =>
  (f_F_exceeds l17 x8 (1000000000000000 : Int64)).bind fun i20 =>
  if i20 = 0 then
    (gL h this 1 0).bind fun l21 =>
    (f_F_exceeds l21 x8 (1000000000000000 : Int64)).bind fun i24 =>
    if i24 = 0 then
      (f_F_exceeds x1 s0 (1000000000000000 : Int64)).bind fun i26 =>
      if i26 = 0 then
        (gL h this 1 0).bind fun l27 =>
        (gL h this 1 1).bind fun l29 =>
        (f_F_commonDivisor ((l27 * x8) + (x1 * s0)) ((l29 * x8) * (x5).toInt64)).bind fun l32 =>
        if l32 ≤ (1 : Int64) then
          f_F_addAndShare_197 this ((l27 * x8) + (x1 * s0)) ((l29 * x8) * (x5).toInt64) l32 h
        else
        if l32 = 0 then none else
        f_F_addAndShare_197 this (((l27 * x8) + (x1 * s0)) / l32) ((l29 * x8) * (x5).toInt64) l32 h
      else
      f_F_addAndShare_135 this h
    else
    f_F_addAndShare_135 this h
  else
  f_F_addAndShare_135 this h
set_option maxRecDepth 100000 in
set_option maxHeartbeats 4000000 in
theorem w_F_addAndShare_91 {p : Program} {l : Launch} {e : Env} {s : State} {m : MethodId} {args : Array Value} {below : List Frame} {meth : Method} {c : Code} {N0 : Nat} {D : va_G} {cs : Nat → ClassId} (M : ZC p s m args meth c "YearBaskets$Fraction" "addAndShare" b_F_addAndShare 18 (none) N0 D cs) (this : Nat)  {h0 : Hp}  (s0 : Int64) (x1 : Int64) (x5 : Int32) (x8 : Int64) (h : Hp) (hf : f_F_addAndShare_91 this s0 x1 x5 x8 h = some h0) : ZG p l e (zrm 2 0 0) s m args below meth c N0 D cs none h0 h 18 [(0, .ref this), (1, .long x1), (5, .int x5), (8, .long x8)] 91 [.long s0] := by
  intro H locs ls hH hS hl
  unfold f_F_addAndShare_91 at hf
  refine lv_lstore (lv' := [(10, .long s0), (0, .ref this), (1, .long x1), (5, .int x5), (8, .long x8)]) M.x M.b d_F_addAndShare_91 hl (by decide) rfl (fun ls hl => ?_)
  refine lv_aload_n M.x M.b d_F_addAndShare_93 rfl (lv_at hl 1 rfl) ?_
  replace hf := z_bind hf; obtain ⟨l17, e18, hf⟩ := hf
  refine z_get (ci := 1) (k := 1) M hH rfl (by decide) zinF q_99 (gL_spec e18) d_F_addAndShare_94 ?_
  refine lv_lload M.x M.b d_F_addAndShare_97 (lv_at hl 4 rfl) ?_
  refine z_ldc2 (v := (1000000000000000 : Int64)) M q_110 d_F_addAndShare_99 ?_
  replace hf := z_bind hf; obtain ⟨i20, e19, hf⟩ := hf
  refine zk_S (st1 := [.int i20]) M hH hS (c_F_exceeds e19) w_F_exceeds q_120 [] rfl ⟨Nat.le_of_ble_eq_true rfl, Nat.le_of_ble_eq_true rfl⟩ hl.1 rfl rfl (Nat.le_of_ble_eq_true rfl) d_F_addAndShare_102 (fun H locs hH hS => ?_)
  refine lv_if_ne (tgt := 135) M.x M.b d_F_addAndShare_105 (by decide) (fun c37 => ?_) (fun c37 => ?_)
  · replace hf := z_f c37 hf
    exact w_F_addAndShare_135 M this _ hf H locs ls hH hS (lv_sub hl [1] rfl)
  · replace hf := z_t c37 hf
    refine lv_aload_n M.x M.b d_F_addAndShare_108 rfl (lv_at hl 1 rfl) ?_
    replace hf := z_bind hf; obtain ⟨l21, e22, hf⟩ := hf
    refine z_get (ci := 1) (k := 0) M hH rfl (by decide) zinF q_100 (gL_spec e22) d_F_addAndShare_109 ?_
    refine lv_lload M.x M.b d_F_addAndShare_112 (lv_at hl 4 rfl) ?_
    refine z_ldc2 (v := (1000000000000000 : Int64)) M q_110 d_F_addAndShare_114 ?_
    replace hf := z_bind hf; obtain ⟨i24, e23, hf⟩ := hf
    refine zk_S (st1 := [.int i24]) M hH hS (c_F_exceeds e23) w_F_exceeds q_120 [] rfl ⟨Nat.le_of_ble_eq_true rfl, Nat.le_of_ble_eq_true rfl⟩ hl.1 rfl rfl (Nat.le_of_ble_eq_true rfl) d_F_addAndShare_117 (fun H locs hH hS => ?_)
    refine lv_if_ne (tgt := 135) M.x M.b d_F_addAndShare_120 (by decide) (fun c36 => ?_) (fun c36 => ?_)
    · replace hf := z_f c36 hf
      exact w_F_addAndShare_135 M this _ hf H locs ls hH hS (lv_sub hl [1] rfl)
    · replace hf := z_t c36 hf
      refine lv_lload_n M.x M.b d_F_addAndShare_123 rfl (lv_at hl 2 rfl) ?_
      refine lv_lload M.x M.b d_F_addAndShare_124 (lv_at hl 0 rfl) ?_
      refine z_ldc2 (v := (1000000000000000 : Int64)) M q_110 d_F_addAndShare_126 ?_
      replace hf := z_bind hf; obtain ⟨i26, e25, hf⟩ := hf
      refine zk_S (st1 := [.int i26]) M hH hS (c_F_exceeds e25) w_F_exceeds q_120 [] rfl ⟨Nat.le_of_ble_eq_true rfl, Nat.le_of_ble_eq_true rfl⟩ hl.1 rfl rfl (Nat.le_of_ble_eq_true rfl) d_F_addAndShare_129 (fun H locs hH hS => ?_)
      refine lv_if_eq (tgt := 143) M.x M.b d_F_addAndShare_132 (by decide) (fun c35 => ?_) (fun c35 => ?_)
      · replace hf := z_t c35 hf
        refine lv_aload_n M.x M.b d_F_addAndShare_143 rfl (lv_at hl 1 rfl) ?_
        replace hf := z_bind hf; obtain ⟨l27, e28, hf⟩ := hf
        refine z_get (ci := 1) (k := 0) M hH rfl (by decide) zinF q_100 (gL_spec e28) d_F_addAndShare_144 ?_
        refine lv_lload M.x M.b d_F_addAndShare_147 (lv_at hl 4 rfl) ?_
        refine lv_lmul M.x M.b d_F_addAndShare_149 ?_
        refine lv_lload_n M.x M.b d_F_addAndShare_150 rfl (lv_at hl 2 rfl) ?_
        refine lv_lload M.x M.b d_F_addAndShare_151 (lv_at hl 0 rfl) ?_
        refine lv_lmul M.x M.b d_F_addAndShare_153 ?_
        refine lv_ladd M.x M.b d_F_addAndShare_154 ?_
        refine lv_lstore (lv' := [(12, .long ((l27 * x8) + (x1 * s0))), (10, .long s0), (0, .ref this), (1, .long x1), (5, .int x5), (8, .long x8)]) M.x M.b d_F_addAndShare_155 hl (by decide) rfl (fun ls hl => ?_)
        refine lv_aload_n M.x M.b d_F_addAndShare_157 rfl (lv_at hl 2 rfl) ?_
        replace hf := z_bind hf; obtain ⟨l29, e30, hf⟩ := hf
        refine z_get (ci := 1) (k := 1) M hH rfl (by decide) zinF q_99 (gL_spec e30) d_F_addAndShare_158 ?_
        refine lv_lload M.x M.b d_F_addAndShare_161 (lv_at hl 5 rfl) ?_
        refine lv_lmul M.x M.b d_F_addAndShare_163 ?_
        refine lv_iload M.x M.b d_F_addAndShare_164 (lv_at hl 4 rfl) ?_
        refine lv_i2l M.x M.b d_F_addAndShare_166 rfl ?_
        refine lv_lmul M.x M.b d_F_addAndShare_167 ?_
        refine lv_lstore (lv' := [(14, .long ((l29 * x8) * (x5).toInt64)), (12, .long ((l27 * x8) + (x1 * s0))), (10, .long s0), (0, .ref this), (1, .long x1), (5, .int x5), (8, .long x8)]) M.x M.b d_F_addAndShare_168 hl (by decide) rfl (fun ls hl => ?_)
        refine lv_lload M.x M.b d_F_addAndShare_170 (lv_at hl 1 rfl) ?_
        refine lv_lload M.x M.b d_F_addAndShare_172 (lv_at hl 0 rfl) ?_
        replace hf := z_bind hf; obtain ⟨l32, e31, hf⟩ := hf
        refine zk_S (st1 := [.long l32]) M hH hS (c_F_commonDivisor e31) w_F_commonDivisor q_111 [] rfl ⟨Nat.le_of_ble_eq_true rfl, Nat.le_of_ble_eq_true rfl⟩ hl.1 rfl rfl (Nat.le_of_ble_eq_true rfl) d_F_addAndShare_174 (fun H locs hH hS => ?_)
        refine lv_lstore (lv' := [(16, .long l32), (14, .long ((l29 * x8) * (x5).toInt64)), (12, .long ((l27 * x8) + (x1 * s0))), (10, .long s0), (0, .ref this), (1, .long x1), (5, .int x5), (8, .long x8)]) M.x M.b d_F_addAndShare_177 hl (by decide) rfl (fun ls hl => ?_)
        refine lv_aload_n M.x M.b d_F_addAndShare_179 rfl (lv_at hl 4 rfl) ?_
        refine lv_lload M.x M.b d_F_addAndShare_180 (lv_at hl 0 rfl) ?_
        refine lv_lconst (v := (1 : Int64)) M.x M.b d_F_addAndShare_182 rfl ?_
        refine z_lcmp_le (tgt := 195) M d_F_addAndShare_183 d_F_addAndShare_184 (by decide) (fun c34 => ?_) (fun c34 => ?_)
        · replace hf := z_t c34 hf
          refine lv_lload M.x M.b d_F_addAndShare_195 (lv_at hl 2 rfl) ?_
          exact w_F_addAndShare_197 M this _ _ _ _ hf H locs ls hH hS (lv_sub hl [4, 1, 0] rfl)
        · replace hf := z_f c34 hf
          refine lv_lload M.x M.b d_F_addAndShare_187 (lv_at hl 2 rfl) ?_
          refine lv_lload M.x M.b d_F_addAndShare_189 (lv_at hl 0 rfl) ?_
          replace hf := z_gn hf; obtain ⟨c33, hf⟩ := hf
          refine lv_ldiv M.x M.b d_F_addAndShare_191 c33 ?_
          refine lv_goto (tgt := 197) M.x M.b d_F_addAndShare_192 (by decide) ?_
          exact w_F_addAndShare_197 M this _ _ _ _ hf H locs ls hH hS (lv_sub hl [4, 1, 0] rfl)
      · replace hf := z_f c35 hf
        exact w_F_addAndShare_135 M this _ hf H locs ls hH hS (lv_sub hl [1] rfl)
def f_F_addAndShare_68 (this : Nat) (s0 : Int64) (x1 : Int64) (x5 : Int32) (x6 : Int64) (h : Hp) : Option (Hp) :=
  if x6 ≤ (1 : Int64) then
    (gL h this 1 1).bind fun l38 =>
    f_F_addAndShare_91 this l38 x1 x5 s0 h
  else
  (gL h this 1 1).bind fun l40 =>
  if x6 = 0 then none else
  f_F_addAndShare_91 this (l40 / x6) x1 x5 s0 h
set_option maxRecDepth 100000 in
set_option maxHeartbeats 4000000 in
theorem w_F_addAndShare_68 {p : Program} {l : Launch} {e : Env} {s : State} {m : MethodId} {args : Array Value} {below : List Frame} {meth : Method} {c : Code} {N0 : Nat} {D : va_G} {cs : Nat → ClassId} (M : ZC p s m args meth c "YearBaskets$Fraction" "addAndShare" b_F_addAndShare 18 (none) N0 D cs) (this : Nat)  {h0 : Hp}  (s0 : Int64) (x1 : Int64) (x5 : Int32) (x6 : Int64) (h : Hp) (hf : f_F_addAndShare_68 this s0 x1 x5 x6 h = some h0) : ZG p l e (zrm 2 0 0) s m args below meth c N0 D cs none h0 h 18 [(0, .ref this), (1, .long x1), (5, .int x5), (6, .long x6)] 68 [.long s0] := by
  intro H locs ls hH hS hl
  unfold f_F_addAndShare_68 at hf
  refine lv_lstore (lv' := [(8, .long s0), (0, .ref this), (1, .long x1), (5, .int x5), (6, .long x6)]) M.x M.b d_F_addAndShare_68 hl (by decide) rfl (fun ls hl => ?_)
  refine lv_lload M.x M.b d_F_addAndShare_70 (lv_at hl 4 rfl) ?_
  refine lv_lconst (v := (1 : Int64)) M.x M.b d_F_addAndShare_72 rfl ?_
  refine z_lcmp_le (tgt := 87) M d_F_addAndShare_73 d_F_addAndShare_74 (by decide) (fun c43 => ?_) (fun c43 => ?_)
  · replace hf := z_t c43 hf
    refine lv_aload_n M.x M.b d_F_addAndShare_87 rfl (lv_at hl 1 rfl) ?_
    replace hf := z_bind hf; obtain ⟨l38, e39, hf⟩ := hf
    refine z_get (ci := 1) (k := 1) M hH rfl (by decide) zinF q_99 (gL_spec e39) d_F_addAndShare_88 ?_
    exact w_F_addAndShare_91 M this _ _ _ _ _ hf H locs ls hH hS (lv_sub hl [1, 2, 3, 0] rfl)
  · replace hf := z_f c43 hf
    refine lv_aload_n M.x M.b d_F_addAndShare_77 rfl (lv_at hl 1 rfl) ?_
    replace hf := z_bind hf; obtain ⟨l40, e41, hf⟩ := hf
    refine z_get (ci := 1) (k := 1) M hH rfl (by decide) zinF q_99 (gL_spec e41) d_F_addAndShare_78 ?_
    refine lv_lload M.x M.b d_F_addAndShare_81 (lv_at hl 4 rfl) ?_
    replace hf := z_gn hf; obtain ⟨c42, hf⟩ := hf
    refine lv_ldiv M.x M.b d_F_addAndShare_83 c42 ?_
    refine lv_goto (tgt := 91) M.x M.b d_F_addAndShare_84 (by decide) ?_
    exact w_F_addAndShare_91 M this _ _ _ _ _ hf H locs ls hH hS (lv_sub hl [1, 2, 3, 0] rfl)
def f_F_addAndShare_35 (this : Nat) (h : Hp) : Option (Hp) :=
  (f_F_refuse this (-1003 : Int32) h).bind fun h45 =>
  some h45
set_option maxRecDepth 100000 in
set_option maxHeartbeats 4000000 in
theorem w_F_addAndShare_35 {p : Program} {l : Launch} {e : Env} {s : State} {m : MethodId} {args : Array Value} {below : List Frame} {meth : Method} {c : Code} {N0 : Nat} {D : va_G} {cs : Nat → ClassId} (M : ZC p s m args meth c "YearBaskets$Fraction" "addAndShare" b_F_addAndShare 18 (none) N0 D cs) (this : Nat)  {h0 : Hp}  (h : Hp) (hf : f_F_addAndShare_35 this h = some h0) : ZG p l e (zrm 2 0 0) s m args below meth c N0 D cs none h0 h 18 [(0, .ref this)] 35 [] := by
  intro H locs ls hH hS hl
  unfold f_F_addAndShare_35 at hf
  refine lv_aload_n M.x M.b d_F_addAndShare_35 rfl (lv_at hl 0 rfl) ?_
  refine lv_sipush (v := (-1003 : Int32)) M.x M.b d_F_addAndShare_36 rfl ?_
  replace hf := z_bind hf; obtain ⟨h45, e44, hf⟩ := hf
  refine zk_V (ci := 1) (st1 := []) M hH hS (c_F_refuse e44) rfl (o_F_refuse e44) w_F_refuse q_109 [] rfl ⟨Nat.le_of_ble_eq_true rfl, Nat.le_of_ble_eq_true rfl⟩ hl.1 rfl rfl (Nat.le_of_ble_eq_true rfl) d_F_addAndShare_39 (fun H locs hH hS => ?_)
  obtain rfl := z_r1 hf
  exact z_vret M hH hS d_F_addAndShare_42
def f_F_addAndShare (this : Nat) (x1 : Int64) (x3 : Int64) (x5 : Int32) (h : Hp) : Option (Hp) :=
  if isO h this 1 = true then
  (gI h this 1 3).bind fun i46 =>
  if i46 = 0 then
    if x1 < (0 : Int64) then
      f_F_addAndShare_35 this h
    else
    if x3 < (1 : Int64) then
      f_F_addAndShare_35 this h
    else
    (gL h this 1 1).bind fun l48 =>
    if l48 < (1 : Int64) then
      f_F_addAndShare_35 this h
    else
    if (1 : Int32) ≤ x5 then
      (gL h this 1 1).bind fun l50 =>
      (f_F_commonDivisor l50 x3).bind fun l53 =>
      if l53 ≤ (1 : Int64) then
        f_F_addAndShare_68 this x3 x1 x5 l53 h
      else
      if l53 = 0 then none else
      f_F_addAndShare_68 this (x3 / l53) x1 x5 l53 h
    else
    f_F_addAndShare_35 this h
  else
  some h
  else none
theorem o_F_addAndShare {this : Nat} {x1 : Int64} {x3 : Int64} {x5 : Int32} {h : Hp} {h0 : Hp} (hf : f_F_addAndShare this x1 x3 x5 h = some h0) : isO h this 1 = true := by
  unfold f_F_addAndShare at hf
  exact (z_gd hf).1
set_option maxRecDepth 100000 in
set_option maxHeartbeats 4000000 in
theorem c_F_addAndShare {l : Launch} {N0 : Nat} {D : va_G} {cs : Nat → ClassId} {this : Nat} {x1 : Int64} {x3 : Int64} {x5 : Int32} {h : Hp} {h0 : Hp} (hf : f_F_addAndShare this x1 x3 x5 h = some h0) : Fn l N0 D cs y_F_addAndShare b_F_addAndShare 18 (none) 2 0 0 [.ref this, .long x1, .long x3, .int x5] h none h0 := by
  refine z_start (by decide) (Nat.le_of_ble_eq_true rfl) ?_
  intro p e s m args below meth c M hH hS ls hl
  unfold f_F_addAndShare at hf
  obtain ⟨hO, hf⟩ := z_gd hf
  have hl : lv_has ls 18 [(0, .ref this), (1, .long x1), (3, .long x3), (5, .int x5)] := hl
  obtain ⟨H, hHe⟩ : ∃ H, H = s.heap := ⟨_, rfl⟩
  obtain ⟨locs, hLe⟩ : ∃ locs : List Loc, locs = [] := ⟨_, rfl⟩
  have hS : va_S (zA N0) s.heap H locs := by rw [hHe, hLe]; exact hS
  have hH : HH N0 D cs h H := by rw [hHe]; exact hH
  suffices hg : W p l e (zrm 2 0 0) s m args below meth c H locs 0 0 (MQ below (zQ N0 D cs none h0) args s 0 0 (zA N0)) (F0 m 0 ls []) by rw [hHe, hLe] at hg; exact hg
  clear hHe hLe
  refine lv_aload_n M.x M.b d_F_addAndShare_0 rfl (lv_at hl 0 rfl) ?_
  replace hf := z_bind hf; obtain ⟨i46, e47, hf⟩ := hf
  refine z_get (ci := 1) (k := 3) M hH rfl (by decide) zinF q_97 (gI_spec e47) d_F_addAndShare_1 ?_
  refine lv_if_eq (tgt := 8) M.x M.b d_F_addAndShare_4 (by decide) (fun c60 => ?_) (fun c60 => ?_)
  · replace hf := z_t c60 hf
    refine lv_lload_n M.x M.b d_F_addAndShare_8 rfl (lv_at hl 1 rfl) ?_
    refine lv_lconst (v := (0 : Int64)) M.x M.b d_F_addAndShare_9 rfl ?_
    refine z_lcmp_lt (tgt := 35) M d_F_addAndShare_10 d_F_addAndShare_11 (by decide) (fun c59 => ?_) (fun c59 => ?_)
    · replace hf := z_t c59 hf
      exact w_F_addAndShare_35 M this _ hf H locs ls hH hS (lv_sub hl [0] rfl)
    · replace hf := z_f c59 hf
      refine lv_lload_n M.x M.b d_F_addAndShare_14 rfl (lv_at hl 2 rfl) ?_
      refine lv_lconst (v := (1 : Int64)) M.x M.b d_F_addAndShare_15 rfl ?_
      refine z_lcmp_lt (tgt := 35) M d_F_addAndShare_16 d_F_addAndShare_17 (by decide) (fun c58 => ?_) (fun c58 => ?_)
      · replace hf := z_t c58 hf
        exact w_F_addAndShare_35 M this _ hf H locs ls hH hS (lv_sub hl [0] rfl)
      · replace hf := z_f c58 hf
        refine lv_aload_n M.x M.b d_F_addAndShare_20 rfl (lv_at hl 0 rfl) ?_
        replace hf := z_bind hf; obtain ⟨l48, e49, hf⟩ := hf
        refine z_get (ci := 1) (k := 1) M hH rfl (by decide) zinF q_99 (gL_spec e49) d_F_addAndShare_21 ?_
        refine lv_lconst (v := (1 : Int64)) M.x M.b d_F_addAndShare_24 rfl ?_
        refine z_lcmp_lt (tgt := 35) M d_F_addAndShare_25 d_F_addAndShare_26 (by decide) (fun c57 => ?_) (fun c57 => ?_)
        · replace hf := z_t c57 hf
          exact w_F_addAndShare_35 M this _ hf H locs ls hH hS (lv_sub hl [0] rfl)
        · replace hf := z_f c57 hf
          refine lv_iload M.x M.b d_F_addAndShare_29 (lv_at hl 3 rfl) ?_
          refine lv_iconst (v := (1 : Int32)) M.x M.b d_F_addAndShare_31 rfl ?_
          refine lv_icmp_ge (tgt := 43) M.x M.b d_F_addAndShare_32 (by decide) (fun c56 => ?_) (fun c56 => ?_)
          · replace hf := z_t c56 hf
            refine lv_aload_n M.x M.b d_F_addAndShare_43 rfl (lv_at hl 0 rfl) ?_
            replace hf := z_bind hf; obtain ⟨l50, e51, hf⟩ := hf
            refine z_get (ci := 1) (k := 1) M hH rfl (by decide) zinF q_99 (gL_spec e51) d_F_addAndShare_44 ?_
            refine lv_lload_n M.x M.b d_F_addAndShare_47 rfl (lv_at hl 2 rfl) ?_
            replace hf := z_bind hf; obtain ⟨l53, e52, hf⟩ := hf
            refine zk_S (st1 := [.long l53]) M hH hS (c_F_commonDivisor e52) w_F_commonDivisor q_111 [] rfl ⟨Nat.le_of_ble_eq_true rfl, Nat.le_of_ble_eq_true rfl⟩ hl.1 rfl rfl (Nat.le_of_ble_eq_true rfl) d_F_addAndShare_48 (fun H locs hH hS => ?_)
            refine lv_lstore (lv' := [(6, .long l53), (0, .ref this), (1, .long x1), (3, .long x3), (5, .int x5)]) M.x M.b d_F_addAndShare_51 hl (by decide) rfl (fun ls hl => ?_)
            refine lv_lload M.x M.b d_F_addAndShare_53 (lv_at hl 0 rfl) ?_
            refine lv_lconst (v := (1 : Int64)) M.x M.b d_F_addAndShare_55 rfl ?_
            refine z_lcmp_le (tgt := 67) M d_F_addAndShare_56 d_F_addAndShare_57 (by decide) (fun c55 => ?_) (fun c55 => ?_)
            · replace hf := z_t c55 hf
              refine lv_lload_n M.x M.b d_F_addAndShare_67 rfl (lv_at hl 3 rfl) ?_
              exact w_F_addAndShare_68 M this _ _ _ _ _ hf H locs ls hH hS (lv_sub hl [1, 2, 4, 0] rfl)
            · replace hf := z_f c55 hf
              refine lv_lload_n M.x M.b d_F_addAndShare_60 rfl (lv_at hl 3 rfl) ?_
              refine lv_lload M.x M.b d_F_addAndShare_61 (lv_at hl 0 rfl) ?_
              replace hf := z_gn hf; obtain ⟨c54, hf⟩ := hf
              refine lv_ldiv M.x M.b d_F_addAndShare_63 c54 ?_
              refine lv_goto (tgt := 68) M.x M.b d_F_addAndShare_64 (by decide) ?_
              exact w_F_addAndShare_68 M this _ _ _ _ _ hf H locs ls hH hS (lv_sub hl [1, 2, 4, 0] rfl)
          · replace hf := z_f c56 hf
            exact w_F_addAndShare_35 M this _ hf H locs ls hH hS (lv_sub hl [0] rfl)
  · replace hf := z_f c60 hf
    obtain rfl := z_r1 hf
    exact z_vret M hH hS d_F_addAndShare_7
def f_F_doubleIt_52 (this : Nat) (s1 : Int32) (h : Hp) : Option (Hp) :=
  (zB s1).bind fun _ =>
  (pV h this 1 2 (.int s1)).bind fun h1 =>
  some h1
set_option maxRecDepth 100000 in
set_option maxHeartbeats 4000000 in
theorem w_F_doubleIt_52 {p : Program} {l : Launch} {e : Env} {s : State} {m : MethodId} {args : Array Value} {below : List Frame} {meth : Method} {c : Code} {N0 : Nat} {D : va_G} {cs : Nat → ClassId} (M : ZC p s m args meth c "YearBaskets$Fraction" "doubleIt" b_F_doubleIt 2 (none) N0 D cs) (this : Nat)  {h0 : Hp}  (s1 : Int32) (h : Hp) (hf : f_F_doubleIt_52 this s1 h = some h0) : ZG p l e (zrm 3 0 0) s m args below meth c N0 D cs none h0 h 2 [] 52 [.int s1, .ref this] := by
  intro H locs ls hH hS hl
  unfold f_F_doubleIt_52 at hf
  replace hf := z_bind hf; obtain ⟨_, e3, hf⟩ := hf
  have z4 := (zB_spec e3).2
  replace hf := z_bind hf; obtain ⟨h1, e2, hf⟩ := hf
  refine z_put (ci := 1) (k := 2) M hH hS rfl (by decide) zinF zYF zYF_ok zNF_ok rfl q_98 rfl (z_nb z4) (z_fb z4) e2 d_F_doubleIt_52 (fun H locs hH hS => ?_)
  obtain rfl := z_r1 hf
  exact z_vret M hH hS d_F_doubleIt_55
def f_F_doubleIt_51 (this : Nat) (h : Hp) : Option (Hp) :=
  f_F_doubleIt_52 this (0 : Int32) h
set_option maxRecDepth 100000 in
set_option maxHeartbeats 4000000 in
theorem w_F_doubleIt_51 {p : Program} {l : Launch} {e : Env} {s : State} {m : MethodId} {args : Array Value} {below : List Frame} {meth : Method} {c : Code} {N0 : Nat} {D : va_G} {cs : Nat → ClassId} (M : ZC p s m args meth c "YearBaskets$Fraction" "doubleIt" b_F_doubleIt 2 (none) N0 D cs) (this : Nat)  {h0 : Hp}  (h : Hp) (hf : f_F_doubleIt_51 this h = some h0) : ZG p l e (zrm 3 0 0) s m args below meth c N0 D cs none h0 h 2 [] 51 [.ref this] := by
  intro H locs ls hH hS hl
  unfold f_F_doubleIt_51 at hf
  refine lv_iconst (v := (0 : Int32)) M.x M.b d_F_doubleIt_51 rfl ?_
  exact w_F_doubleIt_52 M this _ _ hf H locs ls hH hS (lv_sub hl [] rfl)
def f_F_doubleIt_26 (this : Nat) (s1 : Int64) (s2 : Int32) (x1 : Int32) (h : Hp) : Option (Hp) :=
  (gL h this 1 1).bind fun l5 =>
  (f_F_put this (s1 * (s2).toInt64) l5 h).bind fun h8 =>
  if x1 = 0 then
    f_F_doubleIt_51 this h8
  else
  (gI h8 this 1 3).bind fun i9 =>
  if i9 = 0 then
    f_F_doubleIt_52 this (1 : Int32) h8
  else
  f_F_doubleIt_51 this h8
set_option maxRecDepth 100000 in
set_option maxHeartbeats 4000000 in
theorem w_F_doubleIt_26 {p : Program} {l : Launch} {e : Env} {s : State} {m : MethodId} {args : Array Value} {below : List Frame} {meth : Method} {c : Code} {N0 : Nat} {D : va_G} {cs : Nat → ClassId} (M : ZC p s m args meth c "YearBaskets$Fraction" "doubleIt" b_F_doubleIt 2 (none) N0 D cs) (this : Nat)  {h0 : Hp}  (s1 : Int64) (s2 : Int32) (x1 : Int32) (h : Hp) (hf : f_F_doubleIt_26 this s1 s2 x1 h = some h0) : ZG p l e (zrm 3 0 0) s m args below meth c N0 D cs none h0 h 2 [(0, .ref this), (1, .int x1)] 26 [.int s2, .long s1, .ref this] := by
  intro H locs ls hH hS hl
  unfold f_F_doubleIt_26 at hf
  refine lv_i2l M.x M.b d_F_doubleIt_26 rfl ?_
  refine lv_lmul M.x M.b d_F_doubleIt_27 ?_
  refine lv_aload_n M.x M.b d_F_doubleIt_28 rfl (lv_at hl 0 rfl) ?_
  replace hf := z_bind hf; obtain ⟨l5, e6, hf⟩ := hf
  refine z_get (ci := 1) (k := 1) M hH rfl (by decide) zinF q_99 (gL_spec e6) d_F_doubleIt_29 ?_
  replace hf := z_bind hf; obtain ⟨h8, e7, hf⟩ := hf
  refine zk_V (ci := 1) (st1 := []) M hH hS (c_F_put e7) rfl (o_F_put e7) w_F_put q_127 [] rfl ⟨Nat.le_of_ble_eq_true rfl, Nat.le_of_ble_eq_true rfl⟩ hl.1 rfl rfl (Nat.le_of_ble_eq_true rfl) d_F_doubleIt_32 (fun H locs hH hS => ?_)
  refine lv_aload_n M.x M.b d_F_doubleIt_35 rfl (lv_at hl 0 rfl) ?_
  refine lv_iload_n M.x M.b d_F_doubleIt_36 rfl (lv_at hl 1 rfl) ?_
  refine lv_if_eq (tgt := 51) M.x M.b d_F_doubleIt_37 (by decide) (fun c12 => ?_) (fun c12 => ?_)
  · replace hf := z_t c12 hf
    exact w_F_doubleIt_51 M this _ hf H locs ls hH hS (lv_sub hl [] rfl)
  · replace hf := z_f c12 hf
    refine lv_aload_n M.x M.b d_F_doubleIt_40 rfl (lv_at hl 0 rfl) ?_
    replace hf := z_bind hf; obtain ⟨i9, e10, hf⟩ := hf
    refine z_get (ci := 1) (k := 3) M hH rfl (by decide) zinF q_97 (gI_spec e10) d_F_doubleIt_41 ?_
    refine lv_if_ne (tgt := 51) M.x M.b d_F_doubleIt_44 (by decide) (fun c11 => ?_) (fun c11 => ?_)
    · replace hf := z_f c11 hf
      exact w_F_doubleIt_51 M this _ hf H locs ls hH hS (lv_sub hl [] rfl)
    · replace hf := z_t c11 hf
      refine lv_iconst (v := (1 : Int32)) M.x M.b d_F_doubleIt_47 rfl ?_
      refine lv_goto (tgt := 52) M.x M.b d_F_doubleIt_48 (by decide) ?_
      exact w_F_doubleIt_52 M this _ _ hf H locs ls hH hS (lv_sub hl [] rfl)
def f_F_doubleIt (this : Nat) (h : Hp) : Option (Hp) :=
  if isO h this 1 = true then
  (gI h this 1 3).bind fun i13 =>
  if i13 = 0 then
    (gI h this 1 2).bind fun i15 =>
    (gL h this 1 0).bind fun l17 =>
    if i15 = 0 then
      f_F_doubleIt_26 this l17 (2 : Int32) i15 h
    else
    f_F_doubleIt_26 this l17 (4 : Int32) i15 h
  else
  some h
  else none
theorem o_F_doubleIt {this : Nat} {h : Hp} {h0 : Hp} (hf : f_F_doubleIt this h = some h0) : isO h this 1 = true := by
  unfold f_F_doubleIt at hf
  exact (z_gd hf).1
set_option maxRecDepth 100000 in
set_option maxHeartbeats 4000000 in
theorem c_F_doubleIt {l : Launch} {N0 : Nat} {D : va_G} {cs : Nat → ClassId} {this : Nat} {h : Hp} {h0 : Hp} (hf : f_F_doubleIt this h = some h0) : Fn l N0 D cs y_F_doubleIt b_F_doubleIt 2 (none) 3 0 0 [.ref this] h none h0 := by
  refine z_start (by decide) (Nat.le_of_ble_eq_true rfl) ?_
  intro p e s m args below meth c M hH hS ls hl
  unfold f_F_doubleIt at hf
  obtain ⟨hO, hf⟩ := z_gd hf
  have hl : lv_has ls 2 [(0, .ref this)] := hl
  obtain ⟨H, hHe⟩ : ∃ H, H = s.heap := ⟨_, rfl⟩
  obtain ⟨locs, hLe⟩ : ∃ locs : List Loc, locs = [] := ⟨_, rfl⟩
  have hS : va_S (zA N0) s.heap H locs := by rw [hHe, hLe]; exact hS
  have hH : HH N0 D cs h H := by rw [hHe]; exact hH
  suffices hg : W p l e (zrm 3 0 0) s m args below meth c H locs 0 0 (MQ below (zQ N0 D cs none h0) args s 0 0 (zA N0)) (F0 m 0 ls []) by rw [hHe, hLe] at hg; exact hg
  clear hHe hLe
  refine lv_aload_n M.x M.b d_F_doubleIt_0 rfl (lv_at hl 0 rfl) ?_
  replace hf := z_bind hf; obtain ⟨i13, e14, hf⟩ := hf
  refine z_get (ci := 1) (k := 3) M hH rfl (by decide) zinF q_97 (gI_spec e14) d_F_doubleIt_1 ?_
  refine lv_if_ne (tgt := 55) M.x M.b d_F_doubleIt_4 (by decide) (fun c20 => ?_) (fun c20 => ?_)
  · replace hf := z_f c20 hf
    obtain rfl := z_r1 hf
    exact z_vret M hH hS d_F_doubleIt_55
  · replace hf := z_t c20 hf
    refine lv_aload_n M.x M.b d_F_doubleIt_7 rfl (lv_at hl 0 rfl) ?_
    replace hf := z_bind hf; obtain ⟨i15, e16, hf⟩ := hf
    refine z_get (ci := 1) (k := 2) M hH rfl (by decide) zinF q_98 (gI_spec e16) d_F_doubleIt_8 ?_
    refine lv_istore_n (lv' := [(1, .int i15), (0, .ref this)]) M.x M.b d_F_doubleIt_11 rfl hl (by decide) rfl (fun ls hl => ?_)
    refine lv_aload_n M.x M.b d_F_doubleIt_12 rfl (lv_at hl 1 rfl) ?_
    refine lv_aload_n M.x M.b d_F_doubleIt_13 rfl (lv_at hl 1 rfl) ?_
    replace hf := z_bind hf; obtain ⟨l17, e18, hf⟩ := hf
    refine z_get (ci := 1) (k := 0) M hH rfl (by decide) zinF q_100 (gL_spec e18) d_F_doubleIt_14 ?_
    refine lv_iload_n M.x M.b d_F_doubleIt_17 rfl (lv_at hl 0 rfl) ?_
    refine lv_if_eq (tgt := 25) M.x M.b d_F_doubleIt_18 (by decide) (fun c19 => ?_) (fun c19 => ?_)
    · replace hf := z_t c19 hf
      refine lv_iconst (v := (2 : Int32)) M.x M.b d_F_doubleIt_25 rfl ?_
      exact w_F_doubleIt_26 M this _ _ _ _ hf H locs ls hH hS (lv_sub hl [1, 0] rfl)
    · replace hf := z_f c19 hf
      refine lv_iconst (v := (4 : Int32)) M.x M.b d_F_doubleIt_21 rfl ?_
      refine lv_goto (tgt := 26) M.x M.b d_F_doubleIt_22 (by decide) ?_
      exact w_F_doubleIt_26 M this _ _ _ _ hf H locs ls hH hS (lv_sub hl [1, 0] rfl)
def f_F_compareShares_109 (x16 : Int32) (x22 : Int64) (x24 : Int64) : Option (Int32) :=
  if x22 = x24 then
    some (0 : Int32)
  else
  if x22 = (0 : Int64) then
    some (-x16)
  else
  some x16
set_option maxRecDepth 100000 in
set_option maxHeartbeats 4000000 in
theorem w_F_compareShares_109 {p : Program} {l : Launch} {e : Env} {s : State} {m : MethodId} {args : Array Value} {below : List Frame} {meth : Method} {c : Code} {N0 : Nat} {D : va_G} {cs : Nat → ClassId} (M : ZC p s m args meth c "YearBaskets$Fraction" "compareShares" b_F_compareShares 26 (some .int) N0 D cs)  {h : Hp}  {r0 : Int32}  (x16 : Int32) (x22 : Int64) (x24 : Int64) (hf : f_F_compareShares_109 x16 x22 x24 = some r0) : ZG p l e (zrm 1 0 0) s m args below meth c N0 D cs (some (.int r0)) h h 26 [(16, .int x16), (22, .long x22), (24, .long x24)] 109 [] := by
  intro H locs ls hH hS hl
  unfold f_F_compareShares_109 at hf
  refine lv_lload M.x M.b d_F_compareShares_109 (lv_at hl 1 rfl) ?_
  refine lv_lload M.x M.b d_F_compareShares_111 (lv_at hl 2 rfl) ?_
  refine z_lcmp_ne (tgt := 121) M d_F_compareShares_113 d_F_compareShares_114 (by decide) (fun c2 => ?_) (fun c2 => ?_)
  · replace hf := z_f c2 hf
    refine lv_lload M.x M.b d_F_compareShares_121 (lv_at hl 1 rfl) ?_
    refine lv_lconst (v := (0 : Int64)) M.x M.b d_F_compareShares_123 rfl ?_
    refine z_lcmp_ne (tgt := 134) M d_F_compareShares_124 d_F_compareShares_125 (by decide) (fun c1 => ?_) (fun c1 => ?_)
    · replace hf := z_f c1 hf
      refine lv_iload M.x M.b d_F_compareShares_134 (lv_at hl 0 rfl) ?_
      obtain rfl := z_r1 hf
      exact z_iret M hH hS d_F_compareShares_136
    · replace hf := z_t c1 hf
      refine lv_iload M.x M.b d_F_compareShares_128 (lv_at hl 0 rfl) ?_
      refine lv_ineg M.x M.b d_F_compareShares_130 ?_
      refine lv_goto (tgt := 136) M.x M.b d_F_compareShares_131 (by decide) ?_
      obtain rfl := z_r1 hf
      exact z_iret M hH hS d_F_compareShares_136
  · replace hf := z_t c2 hf
    refine lv_iconst (v := (0 : Int32)) M.x M.b d_F_compareShares_117 rfl ?_
    refine lv_goto (tgt := 136) M.x M.b d_F_compareShares_118 (by decide) ?_
    obtain rfl := z_r1 hf
    exact z_iret M hH hS d_F_compareShares_136
def t_F_compareShares_20 (k20 : Int64 → Int64 → Int64 → Int64 → Int32 → Int32 → Option (Int32)) (x8 : Int64) (x10 : Int64) (x12 : Int64) (x14 : Int64) (x16 : Int32) (x17 : Int32) : Option (Int32) :=
  if (200 : Int32) ≤ x17 then
    some (0 : Int32)
  else
  if x10 ≤ (0 : Int64) then
    some (0 : Int32)
  else
  if x14 ≤ (0 : Int64) then
    some (0 : Int32)
  else
  if x10 = 0 then none else
  if x14 = 0 then none else
  if (x8 / x10) = (x12 / x14) then
    if x10 = 0 then none else
    if x14 = 0 then none else
    if (x8 - x8 / x10 * x10) = (0 : Int64) then
      f_F_compareShares_109  x16 (x8 - x8 / x10 * x10) (x12 - x12 / x14 * x14)
    else
    if (x12 - x12 / x14 * x14) = (0 : Int64) then
      f_F_compareShares_109  x16 (x8 - x8 / x10 * x10) (x12 - x12 / x14 * x14)
    else
    k20 x10 (x8 - x8 / x10 * x10) x14 (x12 - x12 / x14 * x14) (-x16) (x17 + (1 : Int32))
  else
  if (x12 / x14) ≤ (x8 / x10) then
    some x16
  else
  some (-x16)
set_option maxRecDepth 100000 in
set_option maxHeartbeats 4000000 in
theorem v_F_compareShares_20 {p : Program} {l : Launch} {e : Env} {s : State} {m : MethodId} {args : Array Value} {below : List Frame} {meth : Method} {c : Code} {N0 : Nat} {D : va_G} {cs : Nat → ClassId} (M : ZC p s m args meth c "YearBaskets$Fraction" "compareShares" b_F_compareShares 26 (some .int) N0 D cs)  {h : Hp} (k20 : Int64 → Int64 → Int64 → Int64 → Int32 → Int32 → Option (Int32)) {r0 : Int32} (hk20 : ∀ (x8 : Int64) (x10 : Int64) (x12 : Int64) (x14 : Int64) (x16 : Int32) (x17 : Int32), k20 x8 x10 x12 x14 x16 x17 = some r0 → ZG p l e (zrm 1 0 0) s m args below meth c N0 D cs (some (.int r0)) h h 26 [(8, .long x8), (10, .long x10), (12, .long x12), (14, .long x14), (16, .int x16), (17, .int x17)] 20 []) (x8 : Int64) (x10 : Int64) (x12 : Int64) (x14 : Int64) (x16 : Int32) (x17 : Int32) (hf : t_F_compareShares_20 k20 x8 x10 x12 x14 x16 x17 = some r0) : ZG p l e (zrm 1 0 0) s m args below meth c N0 D cs (some (.int r0)) h h 26 [(8, .long x8), (10, .long x10), (12, .long x12), (14, .long x14), (16, .int x16), (17, .int x17)] 20 [] := by
  intro H locs ls hH hS hl
  unfold t_F_compareShares_20 at hf
  refine lv_iload M.x M.b d_F_compareShares_20 (lv_at hl 5 rfl) ?_
  refine lv_sipush (v := (200 : Int32)) M.x M.b d_F_compareShares_22 rfl ?_
  refine lv_icmp_ge (tgt := 164) M.x M.b d_F_compareShares_25 (by decide) (fun c13 => ?_) (fun c13 => ?_)
  · replace hf := z_t c13 hf
    refine lv_iconst (v := (0 : Int32)) M.x M.b d_F_compareShares_164 rfl ?_
    obtain rfl := z_r1 hf
    exact z_iret M hH hS d_F_compareShares_165
  · replace hf := z_f c13 hf
    refine lv_lload M.x M.b d_F_compareShares_28 (lv_at hl 1 rfl) ?_
    refine lv_lconst (v := (0 : Int64)) M.x M.b d_F_compareShares_30 rfl ?_
    refine z_lcmp_le (tgt := 164) M d_F_compareShares_31 d_F_compareShares_32 (by decide) (fun c12 => ?_) (fun c12 => ?_)
    · replace hf := z_t c12 hf
      refine lv_iconst (v := (0 : Int32)) M.x M.b d_F_compareShares_164 rfl ?_
      obtain rfl := z_r1 hf
      exact z_iret M hH hS d_F_compareShares_165
    · replace hf := z_f c12 hf
      refine lv_lload M.x M.b d_F_compareShares_35 (lv_at hl 3 rfl) ?_
      refine lv_lconst (v := (0 : Int64)) M.x M.b d_F_compareShares_37 rfl ?_
      refine z_lcmp_le (tgt := 164) M d_F_compareShares_38 d_F_compareShares_39 (by decide) (fun c11 => ?_) (fun c11 => ?_)
      · replace hf := z_t c11 hf
        refine lv_iconst (v := (0 : Int32)) M.x M.b d_F_compareShares_164 rfl ?_
        obtain rfl := z_r1 hf
        exact z_iret M hH hS d_F_compareShares_165
      · replace hf := z_f c11 hf
        refine lv_lload M.x M.b d_F_compareShares_42 (lv_at hl 0 rfl) ?_
        refine lv_lload M.x M.b d_F_compareShares_44 (lv_at hl 1 rfl) ?_
        replace hf := z_gn hf; obtain ⟨c10, hf⟩ := hf
        refine lv_ldiv M.x M.b d_F_compareShares_46 c10 ?_
        refine lv_lstore (lv' := [(18, .long (x8 / x10)), (8, .long x8), (10, .long x10), (12, .long x12), (14, .long x14), (16, .int x16), (17, .int x17)]) M.x M.b d_F_compareShares_47 hl (by decide) rfl (fun ls hl => ?_)
        refine lv_lload M.x M.b d_F_compareShares_49 (lv_at hl 3 rfl) ?_
        refine lv_lload M.x M.b d_F_compareShares_51 (lv_at hl 4 rfl) ?_
        replace hf := z_gn hf; obtain ⟨c9, hf⟩ := hf
        refine lv_ldiv M.x M.b d_F_compareShares_53 c9 ?_
        refine lv_lstore (lv' := [(20, .long (x12 / x14)), (18, .long (x8 / x10)), (8, .long x8), (10, .long x10), (12, .long x12), (14, .long x14), (16, .int x16), (17, .int x17)]) M.x M.b d_F_compareShares_54 hl (by decide) rfl (fun ls hl => ?_)
        refine lv_lload M.x M.b d_F_compareShares_56 (lv_at hl 1 rfl) ?_
        refine lv_lload M.x M.b d_F_compareShares_58 (lv_at hl 0 rfl) ?_
        refine z_lcmp_eq (tgt := 81) M d_F_compareShares_60 d_F_compareShares_61 (by decide) (fun c8 => ?_) (fun c8 => ?_)
        · replace hf := z_t c8 hf
          refine lv_lload M.x M.b d_F_compareShares_81 (lv_at hl 2 rfl) ?_
          refine lv_lload M.x M.b d_F_compareShares_83 (lv_at hl 3 rfl) ?_
          replace hf := z_gn hf; obtain ⟨c6, hf⟩ := hf
          refine lv_lrem M.x M.b d_F_compareShares_85 c6 ?_
          refine lv_lstore (lv' := [(22, .long (x8 - x8 / x10 * x10)), (20, .long (x12 / x14)), (18, .long (x8 / x10)), (8, .long x8), (10, .long x10), (12, .long x12), (14, .long x14), (16, .int x16), (17, .int x17)]) M.x M.b d_F_compareShares_86 hl (by decide) rfl (fun ls hl => ?_)
          refine lv_lload M.x M.b d_F_compareShares_88 (lv_at hl 5 rfl) ?_
          refine lv_lload M.x M.b d_F_compareShares_90 (lv_at hl 6 rfl) ?_
          replace hf := z_gn hf; obtain ⟨c5, hf⟩ := hf
          refine lv_lrem M.x M.b d_F_compareShares_92 c5 ?_
          refine lv_lstore (lv' := [(24, .long (x12 - x12 / x14 * x14)), (22, .long (x8 - x8 / x10 * x10)), (20, .long (x12 / x14)), (18, .long (x8 / x10)), (8, .long x8), (10, .long x10), (12, .long x12), (14, .long x14), (16, .int x16), (17, .int x17)]) M.x M.b d_F_compareShares_93 hl (by decide) rfl (fun ls hl => ?_)
          refine lv_lload M.x M.b d_F_compareShares_95 (lv_at hl 1 rfl) ?_
          refine lv_lconst (v := (0 : Int64)) M.x M.b d_F_compareShares_97 rfl ?_
          refine z_lcmp_eq (tgt := 109) M d_F_compareShares_98 d_F_compareShares_99 (by decide) (fun c4 => ?_) (fun c4 => ?_)
          · replace hf := z_t c4 hf
            exact w_F_compareShares_109 M  _ _ _ hf H locs ls hH hS (lv_sub hl [8, 1, 0] rfl)
          · replace hf := z_f c4 hf
            refine lv_lload M.x M.b d_F_compareShares_102 (lv_at hl 0 rfl) ?_
            refine lv_lconst (v := (0 : Int64)) M.x M.b d_F_compareShares_104 rfl ?_
            refine z_lcmp_ne (tgt := 137) M d_F_compareShares_105 d_F_compareShares_106 (by decide) (fun c3 => ?_) (fun c3 => ?_)
            · replace hf := z_f c3 hf
              refine lv_lload M.x M.b d_F_compareShares_137 (lv_at hl 5 rfl) ?_
              refine lv_lstore (lv' := [(8, .long x10), (24, .long (x12 - x12 / x14 * x14)), (22, .long (x8 - x8 / x10 * x10)), (20, .long (x12 / x14)), (18, .long (x8 / x10)), (10, .long x10), (12, .long x12), (14, .long x14), (16, .int x16), (17, .int x17)]) M.x M.b d_F_compareShares_139 hl (by decide) rfl (fun ls hl => ?_)
              refine lv_lload M.x M.b d_F_compareShares_141 (lv_at hl 2 rfl) ?_
              refine lv_lstore (lv' := [(10, .long (x8 - x8 / x10 * x10)), (8, .long x10), (24, .long (x12 - x12 / x14 * x14)), (22, .long (x8 - x8 / x10 * x10)), (20, .long (x12 / x14)), (18, .long (x8 / x10)), (12, .long x12), (14, .long x14), (16, .int x16), (17, .int x17)]) M.x M.b d_F_compareShares_143 hl (by decide) rfl (fun ls hl => ?_)
              refine lv_lload M.x M.b d_F_compareShares_145 (lv_at hl 7 rfl) ?_
              refine lv_lstore (lv' := [(12, .long x14), (10, .long (x8 - x8 / x10 * x10)), (8, .long x10), (24, .long (x12 - x12 / x14 * x14)), (22, .long (x8 - x8 / x10 * x10)), (20, .long (x12 / x14)), (18, .long (x8 / x10)), (14, .long x14), (16, .int x16), (17, .int x17)]) M.x M.b d_F_compareShares_147 hl (by decide) rfl (fun ls hl => ?_)
              refine lv_lload M.x M.b d_F_compareShares_149 (lv_at hl 3 rfl) ?_
              refine lv_lstore (lv' := [(14, .long (x12 - x12 / x14 * x14)), (12, .long x14), (10, .long (x8 - x8 / x10 * x10)), (8, .long x10), (24, .long (x12 - x12 / x14 * x14)), (22, .long (x8 - x8 / x10 * x10)), (20, .long (x12 / x14)), (18, .long (x8 / x10)), (16, .int x16), (17, .int x17)]) M.x M.b d_F_compareShares_151 hl (by decide) rfl (fun ls hl => ?_)
              refine lv_iload M.x M.b d_F_compareShares_153 (lv_at hl 8 rfl) ?_
              refine lv_ineg M.x M.b d_F_compareShares_155 ?_
              refine lv_istore (lv' := [(16, .int (-x16)), (14, .long (x12 - x12 / x14 * x14)), (12, .long x14), (10, .long (x8 - x8 / x10 * x10)), (8, .long x10), (24, .long (x12 - x12 / x14 * x14)), (22, .long (x8 - x8 / x10 * x10)), (20, .long (x12 / x14)), (18, .long (x8 / x10)), (17, .int x17)]) M.x M.b d_F_compareShares_156 hl (by decide) rfl (fun ls hl => ?_)
              refine lv_iinc (v := (x17 + (1 : Int32))) (lv' := [(17, .int (x17 + (1 : Int32))), (16, .int (-x16)), (14, .long (x12 - x12 / x14 * x14)), (12, .long x14), (10, .long (x8 - x8 / x10 * x10)), (8, .long x10), (24, .long (x12 - x12 / x14 * x14)), (22, .long (x8 - x8 / x10 * x10)), (20, .long (x12 / x14)), (18, .long (x8 / x10))]) M.x M.b d_F_compareShares_158 hl (k := 9) rfl rfl (by decide) rfl (fun ls hl => ?_)
              refine lv_goto (tgt := 20) M.x M.b d_F_compareShares_161 (by decide) ?_
              exact hk20 _ _ _ _ _ _ hf H locs ls hH hS (lv_sub hl [5, 4, 3, 2, 1, 0] rfl)
            · replace hf := z_t c3 hf
              exact w_F_compareShares_109 M  _ _ _ hf H locs ls hH hS (lv_sub hl [8, 1, 0] rfl)
        · replace hf := z_f c8 hf
          refine lv_lload M.x M.b d_F_compareShares_64 (lv_at hl 1 rfl) ?_
          refine lv_lload M.x M.b d_F_compareShares_66 (lv_at hl 0 rfl) ?_
          refine z_lcmp_ge (tgt := 78) M d_F_compareShares_68 d_F_compareShares_69 (by decide) (fun c7 => ?_) (fun c7 => ?_)
          · replace hf := z_t c7 hf
            refine lv_iload M.x M.b d_F_compareShares_78 (lv_at hl 6 rfl) ?_
            obtain rfl := z_r1 hf
            exact z_iret M hH hS d_F_compareShares_80
          · replace hf := z_f c7 hf
            refine lv_iload M.x M.b d_F_compareShares_72 (lv_at hl 6 rfl) ?_
            refine lv_ineg M.x M.b d_F_compareShares_74 ?_
            refine lv_goto (tgt := 80) M.x M.b d_F_compareShares_75 (by decide) ?_
            obtain rfl := z_r1 hf
            exact z_iret M hH hS d_F_compareShares_80
def f_F_compareShares_20  : Nat → Int64 → Int64 → Int64 → Int64 → Int32 → Int32 → Option (Int32)
  | 0, _, _, _, _, _, _ => none
  | n + 1, x8, x10, x12, x14, x16, x17 => t_F_compareShares_20 (f_F_compareShares_20 n) x8 x10 x12 x14 x16 x17
theorem w_F_compareShares_20 {p : Program} {l : Launch} {e : Env} {s : State} {m : MethodId} {args : Array Value} {below : List Frame} {meth : Method} {c : Code} {N0 : Nat} {D : va_G} {cs : Nat → ClassId} (M : ZC p s m args meth c "YearBaskets$Fraction" "compareShares" b_F_compareShares 26 (some .int) N0 D cs)  {h : Hp}  {r0 : Int32}  : ∀ (n : Nat) (x8 : Int64) (x10 : Int64) (x12 : Int64) (x14 : Int64) (x16 : Int32) (x17 : Int32), f_F_compareShares_20 n x8 x10 x12 x14 x16 x17 = some r0 → ZG p l e (zrm 1 0 0) s m args below meth c N0 D cs (some (.int r0)) h h 26 [(8, .long x8), (10, .long x10), (12, .long x12), (14, .long x14), (16, .int x16), (17, .int x17)] 20 [] := by
  intro n
  induction n with
  | zero => intro x8 x10 x12 x14 x16 x17 hf; exact absurd (show none = some _ from hf) (fun q => by cases q)
  | succ n ih => intro x8 x10 x12 x14 x16 x17 hf; exact v_F_compareShares_20 M (f_F_compareShares_20 n)  ih _ _ _ _ _ _ hf
def f_F_compareShares (x0 : Int64) (x2 : Int64) (x4 : Int64) (x6 : Int64) : Option (Int32) :=
  f_F_compareShares_20  FU x0 x2 x4 x6 (1 : Int32) (0 : Int32)
set_option maxRecDepth 100000 in
set_option maxHeartbeats 4000000 in
theorem c_F_compareShares {l : Launch} {N0 : Nat} {D : va_G} {cs : Nat → ClassId} {x0 : Int64} {x2 : Int64} {x4 : Int64} {x6 : Int64} {r0 : Int32} {h : Hp} (hf : f_F_compareShares x0 x2 x4 x6 = some r0) : Fn l N0 D cs y_F_compareShares b_F_compareShares 26 (some .int) 1 0 0 [.long x0, .long x2, .long x4, .long x6] h (some (.int r0)) h := by
  refine z_start (by decide) (Nat.le_of_ble_eq_true rfl) ?_
  intro p e s m args below meth c M hH hS ls hl
  unfold f_F_compareShares at hf
  have hl : lv_has ls 26 [(0, .long x0), (2, .long x2), (4, .long x4), (6, .long x6)] := hl
  obtain ⟨H, hHe⟩ : ∃ H, H = s.heap := ⟨_, rfl⟩
  obtain ⟨locs, hLe⟩ : ∃ locs : List Loc, locs = [] := ⟨_, rfl⟩
  have hS : va_S (zA N0) s.heap H locs := by rw [hHe, hLe]; exact hS
  have hH : HH N0 D cs h H := by rw [hHe]; exact hH
  suffices hg : W p l e (zrm 1 0 0) s m args below meth c H locs 0 0 (MQ below (zQ N0 D cs (some (.int r0)) h) args s 0 0 (zA N0)) (F0 m 0 ls []) by rw [hHe, hLe] at hg; exact hg
  clear hHe hLe
  refine lv_lload_n M.x M.b d_F_compareShares_0 rfl (lv_at hl 0 rfl) ?_
  refine lv_lstore (lv' := [(8, .long x0), (0, .long x0), (2, .long x2), (4, .long x4), (6, .long x6)]) M.x M.b d_F_compareShares_1 hl (by decide) rfl (fun ls hl => ?_)
  refine lv_lload_n M.x M.b d_F_compareShares_3 rfl (lv_at hl 2 rfl) ?_
  refine lv_lstore (lv' := [(10, .long x2), (8, .long x0), (0, .long x0), (2, .long x2), (4, .long x4), (6, .long x6)]) M.x M.b d_F_compareShares_4 hl (by decide) rfl (fun ls hl => ?_)
  refine lv_lload M.x M.b d_F_compareShares_6 (lv_at hl 4 rfl) ?_
  refine lv_lstore (lv' := [(12, .long x4), (10, .long x2), (8, .long x0), (0, .long x0), (2, .long x2), (4, .long x4), (6, .long x6)]) M.x M.b d_F_compareShares_8 hl (by decide) rfl (fun ls hl => ?_)
  refine lv_lload M.x M.b d_F_compareShares_10 (lv_at hl 6 rfl) ?_
  refine lv_lstore (lv' := [(14, .long x6), (12, .long x4), (10, .long x2), (8, .long x0), (0, .long x0), (2, .long x2), (4, .long x4), (6, .long x6)]) M.x M.b d_F_compareShares_12 hl (by decide) rfl (fun ls hl => ?_)
  refine lv_iconst (v := (1 : Int32)) M.x M.b d_F_compareShares_14 rfl ?_
  refine lv_istore (lv' := [(16, .int (1 : Int32)), (14, .long x6), (12, .long x4), (10, .long x2), (8, .long x0), (0, .long x0), (2, .long x2), (4, .long x4), (6, .long x6)]) M.x M.b d_F_compareShares_15 hl (by decide) rfl (fun ls hl => ?_)
  refine lv_iconst (v := (0 : Int32)) M.x M.b d_F_compareShares_17 rfl ?_
  refine lv_istore (lv' := [(17, .int (0 : Int32)), (16, .int (1 : Int32)), (14, .long x6), (12, .long x4), (10, .long x2), (8, .long x0), (0, .long x0), (2, .long x2), (4, .long x4), (6, .long x6)]) M.x M.b d_F_compareShares_18 hl (by decide) rfl (fun ls hl => ?_)
  exact w_F_compareShares_20 M  FU _ _ _ _ _ _ hf H locs ls hH hS (lv_sub hl [5, 4, 3, 2, 1, 0] rfl)
def f_F_orderOf_55 (h : Hp) (s0 : Option Nat) (x0 : Nat) (x1 : Nat) : Option (Int32) :=
  zm s0 (
    none
  ) fun a1 =>
  (gL h a1 1 0).bind fun l2 =>
  (gL h a1 1 0).bind fun l4 =>
  (f_F_exceeds l2 l4 (1000000000000000 : Int64)).bind fun i7 =>
  if i7 = 0 then
    (gL h a1 1 1).bind fun l8 =>
    (gL h a1 1 1).bind fun l10 =>
    (f_F_exceeds l8 l10 (1000000000000000 : Int64)).bind fun i13 =>
    if i13 = 0 then
      (gL h a1 1 0).bind fun l14 =>
      (gL h a1 1 0).bind fun l16 =>
      (gL h a1 1 1).bind fun l18 =>
      (gL h a1 1 1).bind fun l20 =>
      (gI h x0 1 2).bind fun i22 =>
      if i22 = 0 then
        (gL h x1 1 0).bind fun l24 =>
        (gL h x1 1 1).bind fun l26 =>
        (f_F_compareShares (l14 * l16) (l18 * l20) l24 l26).bind fun i29 =>
        some i29
      else
      (gL h x0 1 0).bind fun l30 =>
      (gL h x0 1 1).bind fun l32 =>
      (f_F_compareShares l30 l32 (l14 * l16) (l18 * l20)).bind fun i35 =>
      some i35
    else
    some (-1005 : Int32)
  else
  some (-1005 : Int32)
set_option maxRecDepth 100000 in
set_option maxHeartbeats 4000000 in
theorem w_F_orderOf_55 {p : Program} {l : Launch} {e : Env} {s : State} {m : MethodId} {args : Array Value} {below : List Frame} {meth : Method} {c : Code} {N0 : Nat} {D : va_G} {cs : Nat → ClassId} (M : ZC p s m args meth c "YearBaskets$Fraction" "orderOf" b_F_orderOf 7 (some .int) N0 D cs) (h : Hp)  {r0 : Int32}  (s0 : Option Nat) (x0 : Nat) (x1 : Nat) (hf : f_F_orderOf_55 h s0 x0 x1 = some r0) : ZG p l e (zrm 2 0 0) s m args below meth c N0 D cs (some (.int r0)) h h 7 [(0, .ref x0), (1, .ref x1)] 55 [va_rf s0] := by
  intro H locs ls hH hS hl
  unfold f_F_orderOf_55 at hf
  rcases s0 with _ | a1
  · replace hf := zm_n hf
    refine lv_astore_nN (lv' := [(2, .null), (0, .ref x0), (1, .ref x1)]) M.x M.b d_F_orderOf_55 rfl hl (by decide) rfl (fun ls hl => ?_)
    refine lv_aload_nN M.x M.b d_F_orderOf_56 rfl (lv_at hl 0 rfl) ?_
    cases hf
  · replace hf := zm_s hf
    refine lv_astore_n (lv' := [(2, .ref a1), (0, .ref x0), (1, .ref x1)]) M.x M.b d_F_orderOf_55 rfl hl (by decide) rfl (fun ls hl => ?_)
    refine lv_aload_n M.x M.b d_F_orderOf_56 rfl (lv_at hl 0 rfl) ?_
    replace hf := z_bind hf; obtain ⟨l2, e3, hf⟩ := hf
    refine z_get (ci := 1) (k := 0) M hH rfl (by decide) zinF q_100 (gL_spec e3) d_F_orderOf_57 ?_
    refine lv_aload_n M.x M.b d_F_orderOf_60 rfl (lv_at hl 0 rfl) ?_
    replace hf := z_bind hf; obtain ⟨l4, e5, hf⟩ := hf
    refine z_get (ci := 1) (k := 0) M hH rfl (by decide) zinF q_100 (gL_spec e5) d_F_orderOf_61 ?_
    refine z_ldc2 (v := (1000000000000000 : Int64)) M q_110 d_F_orderOf_64 ?_
    replace hf := z_bind hf; obtain ⟨i7, e6, hf⟩ := hf
    refine zk_S (st1 := [.int i7]) M hH hS (c_F_exceeds e6) w_F_exceeds q_120 [] rfl ⟨Nat.le_of_ble_eq_true rfl, Nat.le_of_ble_eq_true rfl⟩ hl.1 rfl rfl (Nat.le_of_ble_eq_true rfl) d_F_orderOf_67 (fun H locs hH hS => ?_)
    refine lv_if_ne (tgt := 90) M.x M.b d_F_orderOf_70 (by decide) (fun c38 => ?_) (fun c38 => ?_)
    · replace hf := z_f c38 hf
      refine lv_sipush (v := (-1005 : Int32)) M.x M.b d_F_orderOf_90 rfl ?_
      obtain rfl := z_r1 hf
      exact z_iret M hH hS d_F_orderOf_93
    · replace hf := z_t c38 hf
      refine lv_aload_n M.x M.b d_F_orderOf_73 rfl (lv_at hl 0 rfl) ?_
      replace hf := z_bind hf; obtain ⟨l8, e9, hf⟩ := hf
      refine z_get (ci := 1) (k := 1) M hH rfl (by decide) zinF q_99 (gL_spec e9) d_F_orderOf_74 ?_
      refine lv_aload_n M.x M.b d_F_orderOf_77 rfl (lv_at hl 0 rfl) ?_
      replace hf := z_bind hf; obtain ⟨l10, e11, hf⟩ := hf
      refine z_get (ci := 1) (k := 1) M hH rfl (by decide) zinF q_99 (gL_spec e11) d_F_orderOf_78 ?_
      refine z_ldc2 (v := (1000000000000000 : Int64)) M q_110 d_F_orderOf_81 ?_
      replace hf := z_bind hf; obtain ⟨i13, e12, hf⟩ := hf
      refine zk_S (st1 := [.int i13]) M hH hS (c_F_exceeds e12) w_F_exceeds q_120 [] rfl ⟨Nat.le_of_ble_eq_true rfl, Nat.le_of_ble_eq_true rfl⟩ hl.1 rfl rfl (Nat.le_of_ble_eq_true rfl) d_F_orderOf_84 (fun H locs hH hS => ?_)
      refine lv_if_eq (tgt := 94) M.x M.b d_F_orderOf_87 (by decide) (fun c37 => ?_) (fun c37 => ?_)
      · replace hf := z_t c37 hf
        refine lv_aload_n M.x M.b d_F_orderOf_94 rfl (lv_at hl 0 rfl) ?_
        replace hf := z_bind hf; obtain ⟨l14, e15, hf⟩ := hf
        refine z_get (ci := 1) (k := 0) M hH rfl (by decide) zinF q_100 (gL_spec e15) d_F_orderOf_95 ?_
        refine lv_aload_n M.x M.b d_F_orderOf_98 rfl (lv_at hl 0 rfl) ?_
        replace hf := z_bind hf; obtain ⟨l16, e17, hf⟩ := hf
        refine z_get (ci := 1) (k := 0) M hH rfl (by decide) zinF q_100 (gL_spec e17) d_F_orderOf_99 ?_
        refine lv_lmul M.x M.b d_F_orderOf_102 ?_
        refine lv_lstore_n (lv' := [(3, .long (l14 * l16)), (2, .ref a1), (0, .ref x0), (1, .ref x1)]) M.x M.b d_F_orderOf_103 rfl hl (by decide) rfl (fun ls hl => ?_)
        refine lv_aload_n M.x M.b d_F_orderOf_104 rfl (lv_at hl 1 rfl) ?_
        replace hf := z_bind hf; obtain ⟨l18, e19, hf⟩ := hf
        refine z_get (ci := 1) (k := 1) M hH rfl (by decide) zinF q_99 (gL_spec e19) d_F_orderOf_105 ?_
        refine lv_aload_n M.x M.b d_F_orderOf_108 rfl (lv_at hl 1 rfl) ?_
        replace hf := z_bind hf; obtain ⟨l20, e21, hf⟩ := hf
        refine z_get (ci := 1) (k := 1) M hH rfl (by decide) zinF q_99 (gL_spec e21) d_F_orderOf_109 ?_
        refine lv_lmul M.x M.b d_F_orderOf_112 ?_
        refine lv_lstore (lv' := [(5, .long (l18 * l20)), (3, .long (l14 * l16)), (2, .ref a1), (0, .ref x0), (1, .ref x1)]) M.x M.b d_F_orderOf_113 hl (by decide) rfl (fun ls hl => ?_)
        refine lv_aload_n M.x M.b d_F_orderOf_115 rfl (lv_at hl 3 rfl) ?_
        replace hf := z_bind hf; obtain ⟨i22, e23, hf⟩ := hf
        refine z_get (ci := 1) (k := 2) M hH rfl (by decide) zinF q_98 (gI_spec e23) d_F_orderOf_116 ?_
        refine lv_if_eq (tgt := 139) M.x M.b d_F_orderOf_119 (by decide) (fun c36 => ?_) (fun c36 => ?_)
        · replace hf := z_t c36 hf
          refine lv_lload_n M.x M.b d_F_orderOf_139 rfl (lv_at hl 1 rfl) ?_
          refine lv_lload M.x M.b d_F_orderOf_140 (lv_at hl 0 rfl) ?_
          refine lv_aload_n M.x M.b d_F_orderOf_142 rfl (lv_at hl 4 rfl) ?_
          replace hf := z_bind hf; obtain ⟨l24, e25, hf⟩ := hf
          refine z_get (ci := 1) (k := 0) M hH rfl (by decide) zinF q_100 (gL_spec e25) d_F_orderOf_143 ?_
          refine lv_aload_n M.x M.b d_F_orderOf_146 rfl (lv_at hl 4 rfl) ?_
          replace hf := z_bind hf; obtain ⟨l26, e27, hf⟩ := hf
          refine z_get (ci := 1) (k := 1) M hH rfl (by decide) zinF q_99 (gL_spec e27) d_F_orderOf_147 ?_
          replace hf := z_bind hf; obtain ⟨i29, e28, hf⟩ := hf
          refine zk_S (st1 := [.int i29]) M hH hS (c_F_compareShares e28) w_F_compareShares q_132 [] rfl ⟨Nat.le_of_ble_eq_true rfl, Nat.le_of_ble_eq_true rfl⟩ hl.1 rfl rfl (Nat.le_of_ble_eq_true rfl) d_F_orderOf_150 (fun H locs hH hS => ?_)
          obtain rfl := z_r1 hf
          exact z_iret M hH hS d_F_orderOf_153
        · replace hf := z_f c36 hf
          refine lv_aload_n M.x M.b d_F_orderOf_122 rfl (lv_at hl 3 rfl) ?_
          replace hf := z_bind hf; obtain ⟨l30, e31, hf⟩ := hf
          refine z_get (ci := 1) (k := 0) M hH rfl (by decide) zinF q_100 (gL_spec e31) d_F_orderOf_123 ?_
          refine lv_aload_n M.x M.b d_F_orderOf_126 rfl (lv_at hl 3 rfl) ?_
          replace hf := z_bind hf; obtain ⟨l32, e33, hf⟩ := hf
          refine z_get (ci := 1) (k := 1) M hH rfl (by decide) zinF q_99 (gL_spec e33) d_F_orderOf_127 ?_
          refine lv_lload_n M.x M.b d_F_orderOf_130 rfl (lv_at hl 1 rfl) ?_
          refine lv_lload M.x M.b d_F_orderOf_131 (lv_at hl 0 rfl) ?_
          replace hf := z_bind hf; obtain ⟨i35, e34, hf⟩ := hf
          refine zk_S (st1 := [.int i35]) M hH hS (c_F_compareShares e34) w_F_compareShares q_132 [] rfl ⟨Nat.le_of_ble_eq_true rfl, Nat.le_of_ble_eq_true rfl⟩ hl.1 rfl rfl (Nat.le_of_ble_eq_true rfl) d_F_orderOf_133 (fun H locs hH hS => ?_)
          refine lv_goto (tgt := 153) M.x M.b d_F_orderOf_136 (by decide) ?_
          obtain rfl := z_r1 hf
          exact z_iret M hH hS d_F_orderOf_153
      · replace hf := z_f c37 hf
        refine lv_sipush (v := (-1005 : Int32)) M.x M.b d_F_orderOf_90 rfl ?_
        obtain rfl := z_r1 hf
        exact z_iret M hH hS d_F_orderOf_93
def f_F_orderOf (h : Hp) (x0 : Nat) (x1 : Nat) : Option (Int32) :=
  (gI h x0 1 2).bind fun i39 =>
  (gI h x1 1 2).bind fun i41 =>
  if i39 = i41 then
    (gL h x0 1 0).bind fun l46 =>
    (gL h x0 1 1).bind fun l48 =>
    (gL h x1 1 0).bind fun l50 =>
    (gL h x1 1 1).bind fun l52 =>
    (f_F_compareShares l46 l48 l50 l52).bind fun i55 =>
    some i55
  else
  (gI h x0 1 2).bind fun i43 =>
  if i43 = 0 then
    f_F_orderOf_55 h (some x0) x0 x1
  else
  f_F_orderOf_55 h (some x1) x0 x1
set_option maxRecDepth 100000 in
set_option maxHeartbeats 4000000 in
theorem c_F_orderOf {l : Launch} {N0 : Nat} {D : va_G} {cs : Nat → ClassId} {h : Hp} {x0 : Nat} {x1 : Nat} {r0 : Int32} (hf : f_F_orderOf h x0 x1 = some r0) : Fn l N0 D cs y_F_orderOf b_F_orderOf 7 (some .int) 2 0 0 [.ref x0, .ref x1] h (some (.int r0)) h := by
  refine z_start (by decide) (Nat.le_of_ble_eq_true rfl) ?_
  intro p e s m args below meth c M hH hS ls hl
  unfold f_F_orderOf at hf
  have hl : lv_has ls 7 [(0, .ref x0), (1, .ref x1)] := hl
  obtain ⟨H, hHe⟩ : ∃ H, H = s.heap := ⟨_, rfl⟩
  obtain ⟨locs, hLe⟩ : ∃ locs : List Loc, locs = [] := ⟨_, rfl⟩
  have hS : va_S (zA N0) s.heap H locs := by rw [hHe, hLe]; exact hS
  have hH : HH N0 D cs h H := by rw [hHe]; exact hH
  suffices hg : W p l e (zrm 2 0 0) s m args below meth c H locs 0 0 (MQ below (zQ N0 D cs (some (.int r0)) h) args s 0 0 (zA N0)) (F0 m 0 ls []) by rw [hHe, hLe] at hg; exact hg
  clear hHe hLe
  refine lv_aload_n M.x M.b d_F_orderOf_0 rfl (lv_at hl 0 rfl) ?_
  refine lv_ifnull M.x M.b d_F_orderOf_1 ?_
  refine lv_aload_n M.x M.b d_F_orderOf_4 rfl (lv_at hl 1 rfl) ?_
  refine lv_ifnonnull (tgt := 12) M.x M.b d_F_orderOf_5 (by decide) ?_
  refine lv_aload_n M.x M.b d_F_orderOf_12 rfl (lv_at hl 0 rfl) ?_
  replace hf := z_bind hf; obtain ⟨i39, e40, hf⟩ := hf
  refine z_get (ci := 1) (k := 2) M hH rfl (by decide) zinF q_98 (gI_spec e40) d_F_orderOf_13 ?_
  refine lv_aload_n M.x M.b d_F_orderOf_16 rfl (lv_at hl 1 rfl) ?_
  replace hf := z_bind hf; obtain ⟨i41, e42, hf⟩ := hf
  refine z_get (ci := 1) (k := 2) M hH rfl (by decide) zinF q_98 (gI_spec e42) d_F_orderOf_17 ?_
  refine lv_icmp_ne (tgt := 43) M.x M.b d_F_orderOf_20 (by decide) (fun c56 => ?_) (fun c56 => ?_)
  · replace hf := z_f c56 hf
    refine lv_aload_n M.x M.b d_F_orderOf_43 rfl (lv_at hl 0 rfl) ?_
    replace hf := z_bind hf; obtain ⟨i43, e44, hf⟩ := hf
    refine z_get (ci := 1) (k := 2) M hH rfl (by decide) zinF q_98 (gI_spec e44) d_F_orderOf_44 ?_
    refine lv_if_eq (tgt := 54) M.x M.b d_F_orderOf_47 (by decide) (fun c45 => ?_) (fun c45 => ?_)
    · replace hf := z_t c45 hf
      refine lv_aload_n M.x M.b d_F_orderOf_54 rfl (lv_at hl 0 rfl) ?_
      exact w_F_orderOf_55 M h _ _ _ hf H locs ls hH hS (lv_sub hl [0, 1] rfl)
    · replace hf := z_f c45 hf
      refine lv_aload_n M.x M.b d_F_orderOf_50 rfl (lv_at hl 1 rfl) ?_
      refine lv_goto (tgt := 55) M.x M.b d_F_orderOf_51 (by decide) ?_
      exact w_F_orderOf_55 M h _ _ _ hf H locs ls hH hS (lv_sub hl [0, 1] rfl)
  · replace hf := z_t c56 hf
    refine lv_aload_n M.x M.b d_F_orderOf_23 rfl (lv_at hl 0 rfl) ?_
    replace hf := z_bind hf; obtain ⟨l46, e47, hf⟩ := hf
    refine z_get (ci := 1) (k := 0) M hH rfl (by decide) zinF q_100 (gL_spec e47) d_F_orderOf_24 ?_
    refine lv_aload_n M.x M.b d_F_orderOf_27 rfl (lv_at hl 0 rfl) ?_
    replace hf := z_bind hf; obtain ⟨l48, e49, hf⟩ := hf
    refine z_get (ci := 1) (k := 1) M hH rfl (by decide) zinF q_99 (gL_spec e49) d_F_orderOf_28 ?_
    refine lv_aload_n M.x M.b d_F_orderOf_31 rfl (lv_at hl 1 rfl) ?_
    replace hf := z_bind hf; obtain ⟨l50, e51, hf⟩ := hf
    refine z_get (ci := 1) (k := 0) M hH rfl (by decide) zinF q_100 (gL_spec e51) d_F_orderOf_32 ?_
    refine lv_aload_n M.x M.b d_F_orderOf_35 rfl (lv_at hl 1 rfl) ?_
    replace hf := z_bind hf; obtain ⟨l52, e53, hf⟩ := hf
    refine z_get (ci := 1) (k := 1) M hH rfl (by decide) zinF q_99 (gL_spec e53) d_F_orderOf_36 ?_
    replace hf := z_bind hf; obtain ⟨i55, e54, hf⟩ := hf
    refine zk_S (st1 := [.int i55]) M hH hS (c_F_compareShares e54) w_F_compareShares q_132 [] rfl ⟨Nat.le_of_ble_eq_true rfl, Nat.le_of_ble_eq_true rfl⟩ hl.1 rfl rfl (Nat.le_of_ble_eq_true rfl) d_F_orderOf_39 (fun H locs hH hS => ?_)
    obtain rfl := z_r1 hf
    exact z_iret M hH hS d_F_orderOf_42
