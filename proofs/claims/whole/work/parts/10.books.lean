/-! ===== Books: printed by wip/whole/drive.py out of the bytecode ===== -/
theorem q_38 : (Jvm.Cond.instanceMethod ({ cls := "YearBaskets$Books", name := "copyFrom", desc := "(LYearBaskets$Books;)V" } : Jvm.MethodName)) ∈ zG := zt_3 (List.mem_of_getElem? (i := 135) rfl) rfl
theorem q_39 : (Jvm.Cond.selects "YearBaskets$Books" ({ cls := "YearBaskets$Books", name := "copyFrom", desc := "(LYearBaskets$Books;)V" } : Jvm.MethodName) ({ cls := "YearBaskets$Books", name := "copyFrom", desc := "(LYearBaskets$Books;)V" } : Jvm.MethodName)) ∈ zG := zt_3 (List.mem_of_getElem? (i := 136) rfl) rfl
theorem q_40 : (Jvm.Cond.code ({ cls := "YearBaskets$Books", name := "copyFrom", desc := "(LYearBaskets$Books;)V" } : Jvm.MethodName) prog_2_method_2_code (2 : Nat) (Option.none : Option Jvm.ClassFile.FieldType)) ∈ zG := zt_3 (List.mem_of_getElem? (i := 137) rfl) rfl
theorem q_41 : (Jvm.Cond.initialized "YearBaskets$Books") ∈ zG := zt_1 (List.mem_of_getElem? (i := 2) rfl) rfl
theorem q_42 : (Jvm.Cond.methodLink "YearBaskets$Books" (18 : Nat) ({ cls := "java/lang/System", name := "arraycopy", desc := "(Ljava/lang/Object;ILjava/lang/Object;II)V" } : Jvm.MethodName)) ∈ zG := zt_3 (List.mem_of_getElem? (i := 138) rfl) rfl
theorem q_43 : (Jvm.Cond.native ({ cls := "java/lang/System", name := "arraycopy", desc := "(Ljava/lang/Object;ILjava/lang/Object;II)V" } : Jvm.MethodName)) ∈ zG := zt_3 (List.mem_of_getElem? (i := 140) rfl) rfl
theorem q_44 : (Jvm.Cond.static ({ cls := "java/lang/System", name := "arraycopy", desc := "(Ljava/lang/Object;ILjava/lang/Object;II)V" } : Jvm.MethodName)) ∈ zG := zt_3 (List.mem_of_getElem? (i := 139) rfl) rfl
theorem q_45 : (Jvm.Cond.initialized "java/lang/System") ∈ zG := zt_1 (List.mem_of_getElem? (i := 16) rfl) rfl
theorem q_46 : (Jvm.Cond.fieldLink "YearBaskets$Books" (15 : Nat) "YearBaskets$Books" "amounts" "[I") ∈ zG := zt_1 (List.mem_of_getElem? (i := 32) rfl) rfl
theorem q_47 : (Jvm.Cond.fieldLink "YearBaskets$Books" (9 : Nat) "YearBaskets$Books" "prices" "[I") ∈ zG := zt_1 (List.mem_of_getElem? (i := 31) rfl) rfl
theorem q_48 : (Jvm.Cond.instanceMethod ({ cls := "YearBaskets$Books", name := "priceOf", desc := "(II)I" } : Jvm.MethodName)) ∈ zG := zt_2 (List.mem_of_getElem? (i := 12) rfl) rfl
theorem q_49 : (Jvm.Cond.selects "YearBaskets$Books" ({ cls := "YearBaskets$Books", name := "priceOf", desc := "(II)I" } : Jvm.MethodName) ({ cls := "YearBaskets$Books", name := "priceOf", desc := "(II)I" } : Jvm.MethodName)) ∈ zG := zt_2 (List.mem_of_getElem? (i := 13) rfl) rfl
theorem q_50 : (Jvm.Cond.code ({ cls := "YearBaskets$Books", name := "priceOf", desc := "(II)I" } : Jvm.MethodName) prog_2_method_3_code (4 : Nat) (Option.some Jvm.ClassFile.FieldType.int)) ∈ zG := zt_2 (List.mem_of_getElem? (i := 14) rfl) rfl
theorem q_51 : (Jvm.Cond.instanceMethod ({ cls := "YearBaskets$Books", name := "setPrice", desc := "(III)V" } : Jvm.MethodName)) ∈ zG := zt_2 (List.mem_of_getElem? (i := 16) rfl) rfl
theorem q_52 : (Jvm.Cond.selects "YearBaskets$Books" ({ cls := "YearBaskets$Books", name := "setPrice", desc := "(III)V" } : Jvm.MethodName) ({ cls := "YearBaskets$Books", name := "setPrice", desc := "(III)V" } : Jvm.MethodName)) ∈ zG := zt_2 (List.mem_of_getElem? (i := 17) rfl) rfl
theorem q_53 : (Jvm.Cond.code ({ cls := "YearBaskets$Books", name := "setPrice", desc := "(III)V" } : Jvm.MethodName) prog_2_method_4_code (5 : Nat) (Option.none : Option Jvm.ClassFile.FieldType)) ∈ zG := zt_2 (List.mem_of_getElem? (i := 18) rfl) rfl
theorem q_54 : (Jvm.Cond.instanceMethod ({ cls := "YearBaskets$Books", name := "amountOf", desc := "(III)I" } : Jvm.MethodName)) ∈ zG := zt_2 (List.mem_of_getElem? (i := 31) rfl) rfl
theorem q_55 : (Jvm.Cond.selects "YearBaskets$Books" ({ cls := "YearBaskets$Books", name := "amountOf", desc := "(III)I" } : Jvm.MethodName) ({ cls := "YearBaskets$Books", name := "amountOf", desc := "(III)I" } : Jvm.MethodName)) ∈ zG := zt_2 (List.mem_of_getElem? (i := 32) rfl) rfl
theorem q_56 : (Jvm.Cond.code ({ cls := "YearBaskets$Books", name := "amountOf", desc := "(III)I" } : Jvm.MethodName) prog_2_method_5_code (5 : Nat) (Option.some Jvm.ClassFile.FieldType.int)) ∈ zG := zt_2 (List.mem_of_getElem? (i := 33) rfl) rfl
theorem q_57 : (Jvm.Cond.instanceMethod ({ cls := "YearBaskets$Books", name := "setAmount", desc := "(IIII)V" } : Jvm.MethodName)) ∈ zG := zt_2 (List.mem_of_getElem? (i := 35) rfl) rfl
theorem q_58 : (Jvm.Cond.selects "YearBaskets$Books" ({ cls := "YearBaskets$Books", name := "setAmount", desc := "(IIII)V" } : Jvm.MethodName) ({ cls := "YearBaskets$Books", name := "setAmount", desc := "(IIII)V" } : Jvm.MethodName)) ∈ zG := zt_2 (List.mem_of_getElem? (i := 36) rfl) rfl
theorem q_59 : (Jvm.Cond.code ({ cls := "YearBaskets$Books", name := "setAmount", desc := "(IIII)V" } : Jvm.MethodName) prog_2_method_6_code (6 : Nat) (Option.none : Option Jvm.ClassFile.FieldType)) ∈ zG := zt_2 (List.mem_of_getElem? (i := 37) rfl) rfl
theorem q_60 : (Jvm.Cond.instanceMethod ({ cls := "YearBaskets$Books", name := "copyYear", desc := "(II)V" } : Jvm.MethodName)) ∈ zG := zt_3 (List.mem_of_getElem? (i := 142) rfl) rfl
theorem q_61 : (Jvm.Cond.selects "YearBaskets$Books" ({ cls := "YearBaskets$Books", name := "copyYear", desc := "(II)V" } : Jvm.MethodName) ({ cls := "YearBaskets$Books", name := "copyYear", desc := "(II)V" } : Jvm.MethodName)) ∈ zG := zt_3 (List.mem_of_getElem? (i := 143) rfl) rfl
theorem q_62 : (Jvm.Cond.code ({ cls := "YearBaskets$Books", name := "copyYear", desc := "(II)V" } : Jvm.MethodName) prog_2_method_7_code (4 : Nat) (Option.none : Option Jvm.ClassFile.FieldType)) ∈ zG := zt_3 (List.mem_of_getElem? (i := 144) rfl) rfl
theorem q_63 : (Jvm.Cond.methodLink "YearBaskets$Books" (28 : Nat) ({ cls := "YearBaskets$Books", name := "setPrice", desc := "(III)V" } : Jvm.MethodName)) ∈ zG := zt_3 (List.mem_of_getElem? (i := 145) rfl) rfl
theorem q_64 : (Jvm.Cond.methodLink "YearBaskets$Books" (24 : Nat) ({ cls := "YearBaskets$Books", name := "priceOf", desc := "(II)I" } : Jvm.MethodName)) ∈ zG := zt_2 (List.mem_of_getElem? (i := 50) rfl) rfl
theorem q_65 : (Jvm.Cond.instanceMethod ({ cls := "YearBaskets$Books", name := "doubleYear", desc := "(I)V" } : Jvm.MethodName)) ∈ zG := zt_3 (List.mem_of_getElem? (i := 147) rfl) rfl
theorem q_66 : (Jvm.Cond.selects "YearBaskets$Books" ({ cls := "YearBaskets$Books", name := "doubleYear", desc := "(I)V" } : Jvm.MethodName) ({ cls := "YearBaskets$Books", name := "doubleYear", desc := "(I)V" } : Jvm.MethodName)) ∈ zG := zt_3 (List.mem_of_getElem? (i := 148) rfl) rfl
theorem q_67 : (Jvm.Cond.code ({ cls := "YearBaskets$Books", name := "doubleYear", desc := "(I)V" } : Jvm.MethodName) prog_2_method_8_code (3 : Nat) (Option.none : Option Jvm.ClassFile.FieldType)) ∈ zG := zt_3 (List.mem_of_getElem? (i := 149) rfl) rfl
theorem q_68 : (Jvm.Cond.instanceMethod ({ cls := "YearBaskets$Books", name := "doubleUnit", desc := "(II)V" } : Jvm.MethodName)) ∈ zG := zt_3 (List.mem_of_getElem? (i := 151) rfl) rfl
theorem q_69 : (Jvm.Cond.selects "YearBaskets$Books" ({ cls := "YearBaskets$Books", name := "doubleUnit", desc := "(II)V" } : Jvm.MethodName) ({ cls := "YearBaskets$Books", name := "doubleUnit", desc := "(II)V" } : Jvm.MethodName)) ∈ zG := zt_3 (List.mem_of_getElem? (i := 152) rfl) rfl
theorem q_70 : (Jvm.Cond.code ({ cls := "YearBaskets$Books", name := "doubleUnit", desc := "(II)V" } : Jvm.MethodName) prog_2_method_9_code (5 : Nat) (Option.none : Option Jvm.ClassFile.FieldType)) ∈ zG := zt_3 (List.mem_of_getElem? (i := 153) rfl) rfl
theorem q_71 : (Jvm.Cond.methodLink "YearBaskets$Books" (36 : Nat) ({ cls := "YearBaskets$Books", name := "setAmount", desc := "(IIII)V" } : Jvm.MethodName)) ∈ zG := zt_3 (List.mem_of_getElem? (i := 154) rfl) rfl
theorem q_72 : (Jvm.Cond.methodLink "YearBaskets$Books" (32 : Nat) ({ cls := "YearBaskets$Books", name := "amountOf", desc := "(III)I" } : Jvm.MethodName)) ∈ zG := zt_2 (List.mem_of_getElem? (i := 49) rfl) rfl
theorem q_73 : (Jvm.Cond.instanceMethod ({ cls := "YearBaskets$Books", name := "goodsPricedIn", desc := "(I)I" } : Jvm.MethodName)) ∈ zG := zt_2 (List.mem_of_getElem? (i := 60) rfl) rfl
theorem q_74 : (Jvm.Cond.selects "YearBaskets$Books" ({ cls := "YearBaskets$Books", name := "goodsPricedIn", desc := "(I)I" } : Jvm.MethodName) ({ cls := "YearBaskets$Books", name := "goodsPricedIn", desc := "(I)I" } : Jvm.MethodName)) ∈ zG := zt_2 (List.mem_of_getElem? (i := 61) rfl) rfl
theorem q_75 : (Jvm.Cond.code ({ cls := "YearBaskets$Books", name := "goodsPricedIn", desc := "(I)I" } : Jvm.MethodName) prog_2_method_10_code (4 : Nat) (Option.some Jvm.ClassFile.FieldType.int)) ∈ zG := zt_2 (List.mem_of_getElem? (i := 62) rfl) rfl
theorem q_76 : (Jvm.Cond.instanceMethod ({ cls := "YearBaskets$Books", name := "goodsThere", desc := "()I" } : Jvm.MethodName)) ∈ zG := zt_2 (List.mem_of_getElem? (i := 56) rfl) rfl
theorem q_77 : (Jvm.Cond.selects "YearBaskets$Books" ({ cls := "YearBaskets$Books", name := "goodsThere", desc := "()I" } : Jvm.MethodName) ({ cls := "YearBaskets$Books", name := "goodsThere", desc := "()I" } : Jvm.MethodName)) ∈ zG := zt_2 (List.mem_of_getElem? (i := 57) rfl) rfl
theorem q_78 : (Jvm.Cond.code ({ cls := "YearBaskets$Books", name := "goodsThere", desc := "()I" } : Jvm.MethodName) prog_2_method_11_code (3 : Nat) (Option.some Jvm.ClassFile.FieldType.int)) ∈ zG := zt_2 (List.mem_of_getElem? (i := 58) rfl) rfl
theorem q_79 : (Jvm.Cond.methodLink "YearBaskets$Books" (40 : Nat) ({ cls := "YearBaskets$Books", name := "goodsPricedIn", desc := "(I)I" } : Jvm.MethodName)) ∈ zG := zt_2 (List.mem_of_getElem? (i := 59) rfl) rfl
theorem q_80 : (Jvm.Cond.instanceMethod ({ cls := "YearBaskets$Books", name := "pricesThere", desc := "()I" } : Jvm.MethodName)) ∈ zG := zt_2 (List.mem_of_getElem? (i := 69) rfl) rfl
theorem q_81 : (Jvm.Cond.selects "YearBaskets$Books" ({ cls := "YearBaskets$Books", name := "pricesThere", desc := "()I" } : Jvm.MethodName) ({ cls := "YearBaskets$Books", name := "pricesThere", desc := "()I" } : Jvm.MethodName)) ∈ zG := zt_2 (List.mem_of_getElem? (i := 70) rfl) rfl
theorem q_82 : (Jvm.Cond.code ({ cls := "YearBaskets$Books", name := "pricesThere", desc := "()I" } : Jvm.MethodName) prog_2_method_12_code (3 : Nat) (Option.some Jvm.ClassFile.FieldType.int)) ∈ zG := zt_2 (List.mem_of_getElem? (i := 71) rfl) rfl
theorem q_83 : (Jvm.Cond.methodLink "YearBaskets$Books" (44 : Nat) ({ cls := "java/lang/Integer", name := "bitCount", desc := "(I)I" } : Jvm.MethodName)) ∈ zG := zt_2 (List.mem_of_getElem? (i := 72) rfl) rfl
theorem q_84 : (Jvm.Cond.instanceMethod ({ cls := "YearBaskets$Books", name := "yearsPriced", desc := "()I" } : Jvm.MethodName)) ∈ zG := zt_2 (List.mem_of_getElem? (i := 80) rfl) rfl
theorem q_85 : (Jvm.Cond.selects "YearBaskets$Books" ({ cls := "YearBaskets$Books", name := "yearsPriced", desc := "()I" } : Jvm.MethodName) ({ cls := "YearBaskets$Books", name := "yearsPriced", desc := "()I" } : Jvm.MethodName)) ∈ zG := zt_2 (List.mem_of_getElem? (i := 81) rfl) rfl
theorem q_86 : (Jvm.Cond.code ({ cls := "YearBaskets$Books", name := "yearsPriced", desc := "()I" } : Jvm.MethodName) prog_2_method_13_code (3 : Nat) (Option.some Jvm.ClassFile.FieldType.int)) ∈ zG := zt_2 (List.mem_of_getElem? (i := 82) rfl) rfl
theorem q_87 : (Jvm.Cond.instanceMethod ({ cls := "YearBaskets$Books", name := "costOver", desc := "(IIII)I" } : Jvm.MethodName)) ∈ zG := zt_2 (List.mem_of_getElem? (i := 46) rfl) rfl
theorem q_88 : (Jvm.Cond.selects "YearBaskets$Books" ({ cls := "YearBaskets$Books", name := "costOver", desc := "(IIII)I" } : Jvm.MethodName) ({ cls := "YearBaskets$Books", name := "costOver", desc := "(IIII)I" } : Jvm.MethodName)) ∈ zG := zt_2 (List.mem_of_getElem? (i := 47) rfl) rfl
theorem q_89 : (Jvm.Cond.code ({ cls := "YearBaskets$Books", name := "costOver", desc := "(IIII)I" } : Jvm.MethodName) prog_2_method_14_code (9 : Nat) (Option.some Jvm.ClassFile.FieldType.int)) ∈ zG := zt_2 (List.mem_of_getElem? (i := 48) rfl) rfl
theorem q_90 : (Jvm.Cond.instanceMethod ({ cls := "YearBaskets$Books", name := "pricesOver", desc := "(II)I" } : Jvm.MethodName)) ∈ zG := zt_3 (List.mem_of_getElem? (i := 80) rfl) rfl
theorem q_91 : (Jvm.Cond.selects "YearBaskets$Books" ({ cls := "YearBaskets$Books", name := "pricesOver", desc := "(II)I" } : Jvm.MethodName) ({ cls := "YearBaskets$Books", name := "pricesOver", desc := "(II)I" } : Jvm.MethodName)) ∈ zG := zt_3 (List.mem_of_getElem? (i := 81) rfl) rfl
theorem q_92 : (Jvm.Cond.code ({ cls := "YearBaskets$Books", name := "pricesOver", desc := "(II)I" } : Jvm.MethodName) prog_2_method_15_code (6 : Nat) (Option.some Jvm.ClassFile.FieldType.int)) ∈ zG := zt_3 (List.mem_of_getElem? (i := 82) rfl) rfl
abbrev b_B_copyFrom : ByteArray := prog_2_method_2_code
abbrev y_B_copyFrom : MethodName := ⟨"YearBaskets$Books", "copyFrom", "(LYearBaskets$Books;)V"⟩
abbrev b_B_priceOf : ByteArray := prog_2_method_3_code
abbrev y_B_priceOf : MethodName := ⟨"YearBaskets$Books", "priceOf", "(II)I"⟩
abbrev b_B_setPrice : ByteArray := prog_2_method_4_code
abbrev y_B_setPrice : MethodName := ⟨"YearBaskets$Books", "setPrice", "(III)V"⟩
abbrev b_B_amountOf : ByteArray := prog_2_method_5_code
abbrev y_B_amountOf : MethodName := ⟨"YearBaskets$Books", "amountOf", "(III)I"⟩
abbrev b_B_setAmount : ByteArray := prog_2_method_6_code
abbrev y_B_setAmount : MethodName := ⟨"YearBaskets$Books", "setAmount", "(IIII)V"⟩
abbrev b_B_copyYear : ByteArray := prog_2_method_7_code
abbrev y_B_copyYear : MethodName := ⟨"YearBaskets$Books", "copyYear", "(II)V"⟩
abbrev b_B_doubleYear : ByteArray := prog_2_method_8_code
abbrev y_B_doubleYear : MethodName := ⟨"YearBaskets$Books", "doubleYear", "(I)V"⟩
abbrev b_B_doubleUnit : ByteArray := prog_2_method_9_code
abbrev y_B_doubleUnit : MethodName := ⟨"YearBaskets$Books", "doubleUnit", "(II)V"⟩
abbrev b_B_goodsPricedIn : ByteArray := prog_2_method_10_code
abbrev y_B_goodsPricedIn : MethodName := ⟨"YearBaskets$Books", "goodsPricedIn", "(I)I"⟩
abbrev b_B_goodsThere : ByteArray := prog_2_method_11_code
abbrev y_B_goodsThere : MethodName := ⟨"YearBaskets$Books", "goodsThere", "()I"⟩
abbrev b_B_pricesThere : ByteArray := prog_2_method_12_code
abbrev y_B_pricesThere : MethodName := ⟨"YearBaskets$Books", "pricesThere", "()I"⟩
abbrev b_B_yearsPriced : ByteArray := prog_2_method_13_code
abbrev y_B_yearsPriced : MethodName := ⟨"YearBaskets$Books", "yearsPriced", "()I"⟩
abbrev b_B_costOver : ByteArray := prog_2_method_14_code
abbrev y_B_costOver : MethodName := ⟨"YearBaskets$Books", "costOver", "(IIII)I"⟩
abbrev b_B_pricesOver : ByteArray := prog_2_method_15_code
abbrev y_B_pricesOver : MethodName := ⟨"YearBaskets$Books", "pricesOver", "(II)I"⟩
theorem w_B_copyFrom : Cond.code y_B_copyFrom b_B_copyFrom 2 (none) ∈ zG ∧ (Cond.instanceMethod y_B_copyFrom ∈ zG ∧ Cond.selects y_B_copyFrom.cls y_B_copyFrom y_B_copyFrom ∈ zG) ∧ Cond.initialized y_B_copyFrom.cls ∈ zG ∧ zY y_B_copyFrom 1 := ⟨q_40, ⟨q_38, q_39⟩, q_41, by decide +kernel⟩
theorem w_B_priceOf : Cond.code y_B_priceOf b_B_priceOf 4 (some .int) ∈ zG ∧ (Cond.instanceMethod y_B_priceOf ∈ zG ∧ Cond.selects y_B_priceOf.cls y_B_priceOf y_B_priceOf ∈ zG) ∧ Cond.initialized y_B_priceOf.cls ∈ zG ∧ zY y_B_priceOf 2 := ⟨q_50, ⟨q_48, q_49⟩, q_41, by decide +kernel⟩
theorem w_B_setPrice : Cond.code y_B_setPrice b_B_setPrice 5 (none) ∈ zG ∧ (Cond.instanceMethod y_B_setPrice ∈ zG ∧ Cond.selects y_B_setPrice.cls y_B_setPrice y_B_setPrice ∈ zG) ∧ Cond.initialized y_B_setPrice.cls ∈ zG ∧ zY y_B_setPrice 3 := ⟨q_53, ⟨q_51, q_52⟩, q_41, by decide +kernel⟩
theorem w_B_amountOf : Cond.code y_B_amountOf b_B_amountOf 5 (some .int) ∈ zG ∧ (Cond.instanceMethod y_B_amountOf ∈ zG ∧ Cond.selects y_B_amountOf.cls y_B_amountOf y_B_amountOf ∈ zG) ∧ Cond.initialized y_B_amountOf.cls ∈ zG ∧ zY y_B_amountOf 3 := ⟨q_56, ⟨q_54, q_55⟩, q_41, by decide +kernel⟩
theorem w_B_setAmount : Cond.code y_B_setAmount b_B_setAmount 6 (none) ∈ zG ∧ (Cond.instanceMethod y_B_setAmount ∈ zG ∧ Cond.selects y_B_setAmount.cls y_B_setAmount y_B_setAmount ∈ zG) ∧ Cond.initialized y_B_setAmount.cls ∈ zG ∧ zY y_B_setAmount 4 := ⟨q_59, ⟨q_57, q_58⟩, q_41, by decide +kernel⟩
theorem w_B_copyYear : Cond.code y_B_copyYear b_B_copyYear 4 (none) ∈ zG ∧ (Cond.instanceMethod y_B_copyYear ∈ zG ∧ Cond.selects y_B_copyYear.cls y_B_copyYear y_B_copyYear ∈ zG) ∧ Cond.initialized y_B_copyYear.cls ∈ zG ∧ zY y_B_copyYear 2 := ⟨q_62, ⟨q_60, q_61⟩, q_41, by decide +kernel⟩
theorem w_B_doubleYear : Cond.code y_B_doubleYear b_B_doubleYear 3 (none) ∈ zG ∧ (Cond.instanceMethod y_B_doubleYear ∈ zG ∧ Cond.selects y_B_doubleYear.cls y_B_doubleYear y_B_doubleYear ∈ zG) ∧ Cond.initialized y_B_doubleYear.cls ∈ zG ∧ zY y_B_doubleYear 1 := ⟨q_67, ⟨q_65, q_66⟩, q_41, by decide +kernel⟩
theorem w_B_doubleUnit : Cond.code y_B_doubleUnit b_B_doubleUnit 5 (none) ∈ zG ∧ (Cond.instanceMethod y_B_doubleUnit ∈ zG ∧ Cond.selects y_B_doubleUnit.cls y_B_doubleUnit y_B_doubleUnit ∈ zG) ∧ Cond.initialized y_B_doubleUnit.cls ∈ zG ∧ zY y_B_doubleUnit 2 := ⟨q_70, ⟨q_68, q_69⟩, q_41, by decide +kernel⟩
theorem w_B_goodsPricedIn : Cond.code y_B_goodsPricedIn b_B_goodsPricedIn 4 (some .int) ∈ zG ∧ (Cond.instanceMethod y_B_goodsPricedIn ∈ zG ∧ Cond.selects y_B_goodsPricedIn.cls y_B_goodsPricedIn y_B_goodsPricedIn ∈ zG) ∧ Cond.initialized y_B_goodsPricedIn.cls ∈ zG ∧ zY y_B_goodsPricedIn 1 := ⟨q_75, ⟨q_73, q_74⟩, q_41, by decide +kernel⟩
theorem w_B_goodsThere : Cond.code y_B_goodsThere b_B_goodsThere 3 (some .int) ∈ zG ∧ (Cond.instanceMethod y_B_goodsThere ∈ zG ∧ Cond.selects y_B_goodsThere.cls y_B_goodsThere y_B_goodsThere ∈ zG) ∧ Cond.initialized y_B_goodsThere.cls ∈ zG ∧ zY y_B_goodsThere 0 := ⟨q_78, ⟨q_76, q_77⟩, q_41, by decide +kernel⟩
theorem w_B_pricesThere : Cond.code y_B_pricesThere b_B_pricesThere 3 (some .int) ∈ zG ∧ (Cond.instanceMethod y_B_pricesThere ∈ zG ∧ Cond.selects y_B_pricesThere.cls y_B_pricesThere y_B_pricesThere ∈ zG) ∧ Cond.initialized y_B_pricesThere.cls ∈ zG ∧ zY y_B_pricesThere 0 := ⟨q_82, ⟨q_80, q_81⟩, q_41, by decide +kernel⟩
theorem w_B_yearsPriced : Cond.code y_B_yearsPriced b_B_yearsPriced 3 (some .int) ∈ zG ∧ (Cond.instanceMethod y_B_yearsPriced ∈ zG ∧ Cond.selects y_B_yearsPriced.cls y_B_yearsPriced y_B_yearsPriced ∈ zG) ∧ Cond.initialized y_B_yearsPriced.cls ∈ zG ∧ zY y_B_yearsPriced 0 := ⟨q_86, ⟨q_84, q_85⟩, q_41, by decide +kernel⟩
theorem w_B_costOver : Cond.code y_B_costOver b_B_costOver 9 (some .int) ∈ zG ∧ (Cond.instanceMethod y_B_costOver ∈ zG ∧ Cond.selects y_B_costOver.cls y_B_costOver y_B_costOver ∈ zG) ∧ Cond.initialized y_B_costOver.cls ∈ zG ∧ zY y_B_costOver 4 := ⟨q_89, ⟨q_87, q_88⟩, q_41, by decide +kernel⟩
theorem w_B_pricesOver : Cond.code y_B_pricesOver b_B_pricesOver 6 (some .int) ∈ zG ∧ (Cond.instanceMethod y_B_pricesOver ∈ zG ∧ Cond.selects y_B_pricesOver.cls y_B_pricesOver y_B_pricesOver ∈ zG) ∧ Cond.initialized y_B_pricesOver.cls ∈ zG ∧ zY y_B_pricesOver 2 := ⟨q_92, ⟨q_90, q_91⟩, q_41, by decide +kernel⟩
theorem d_B_copyFrom_0 : decode b_B_copyFrom 0 = .ok (.aload_n 1, 1) := by decide +kernel
theorem d_B_copyFrom_1 : decode b_B_copyFrom 1 = .ok (.ifnonnull 4, 3) := by decide +kernel
theorem d_B_copyFrom_5 : decode b_B_copyFrom 5 = .ok (.aload_n 1, 1) := by decide +kernel
theorem d_B_copyFrom_6 : decode b_B_copyFrom 6 = .ok (.getfield 9, 3) := by decide +kernel
theorem d_B_copyFrom_9 : decode b_B_copyFrom 9 = .ok (.iconst 0, 1) := by decide +kernel
theorem d_B_copyFrom_10 : decode b_B_copyFrom 10 = .ok (.aload_n 0, 1) := by decide +kernel
theorem d_B_copyFrom_11 : decode b_B_copyFrom 11 = .ok (.getfield 9, 3) := by decide +kernel
theorem d_B_copyFrom_14 : decode b_B_copyFrom 14 = .ok (.iconst 0, 1) := by decide +kernel
theorem d_B_copyFrom_15 : decode b_B_copyFrom 15 = .ok (.aload_n 0, 1) := by decide +kernel
theorem d_B_copyFrom_16 : decode b_B_copyFrom 16 = .ok (.getfield 9, 3) := by decide +kernel
theorem d_B_copyFrom_19 : decode b_B_copyFrom 19 = .ok (.arraylength, 1) := by decide +kernel
theorem d_B_copyFrom_20 : decode b_B_copyFrom 20 = .ok (.invokestatic 18, 3) := by decide +kernel
theorem d_B_copyFrom_23 : decode b_B_copyFrom 23 = .ok (.aload_n 1, 1) := by decide +kernel
theorem d_B_copyFrom_24 : decode b_B_copyFrom 24 = .ok (.getfield 15, 3) := by decide +kernel
theorem d_B_copyFrom_27 : decode b_B_copyFrom 27 = .ok (.iconst 0, 1) := by decide +kernel
theorem d_B_copyFrom_28 : decode b_B_copyFrom 28 = .ok (.aload_n 0, 1) := by decide +kernel
theorem d_B_copyFrom_29 : decode b_B_copyFrom 29 = .ok (.getfield 15, 3) := by decide +kernel
theorem d_B_copyFrom_32 : decode b_B_copyFrom 32 = .ok (.iconst 0, 1) := by decide +kernel
theorem d_B_copyFrom_33 : decode b_B_copyFrom 33 = .ok (.aload_n 0, 1) := by decide +kernel
theorem d_B_copyFrom_34 : decode b_B_copyFrom 34 = .ok (.getfield 15, 3) := by decide +kernel
theorem d_B_copyFrom_37 : decode b_B_copyFrom 37 = .ok (.arraylength, 1) := by decide +kernel
theorem d_B_copyFrom_38 : decode b_B_copyFrom 38 = .ok (.invokestatic 18, 3) := by decide +kernel
theorem d_B_copyFrom_41 : decode b_B_copyFrom 41 = .ok (.return_, 1) := by decide +kernel
theorem d_B_priceOf_0 : decode b_B_priceOf 0 = .ok (.iload_n 1, 1) := by decide +kernel
theorem d_B_priceOf_1 : decode b_B_priceOf 1 = .ok (.iconst 5, 1) := by decide +kernel
theorem d_B_priceOf_2 : decode b_B_priceOf 2 = .ok (.imul, 1) := by decide +kernel
theorem d_B_priceOf_3 : decode b_B_priceOf 3 = .ok (.iload_n 2, 1) := by decide +kernel
theorem d_B_priceOf_4 : decode b_B_priceOf 4 = .ok (.iadd, 1) := by decide +kernel
theorem d_B_priceOf_5 : decode b_B_priceOf 5 = .ok (.istore_n 3, 1) := by decide +kernel
theorem d_B_priceOf_6 : decode b_B_priceOf 6 = .ok (.iload_n 3, 1) := by decide +kernel
theorem d_B_priceOf_7 : decode b_B_priceOf 7 = .ok (.ifCond .lt 12, 3) := by decide +kernel
theorem d_B_priceOf_10 : decode b_B_priceOf 10 = .ok (.iload_n 3, 1) := by decide +kernel
theorem d_B_priceOf_11 : decode b_B_priceOf 11 = .ok (.aload_n 0, 1) := by decide +kernel
theorem d_B_priceOf_12 : decode b_B_priceOf 12 = .ok (.getfield 9, 3) := by decide +kernel
theorem d_B_priceOf_15 : decode b_B_priceOf 15 = .ok (.arraylength, 1) := by decide +kernel
theorem d_B_priceOf_16 : decode b_B_priceOf 16 = .ok (.if_icmp .lt 7, 3) := by decide +kernel
theorem d_B_priceOf_19 : decode b_B_priceOf 19 = .ok (.iconst 0, 1) := by decide +kernel
theorem d_B_priceOf_20 : decode b_B_priceOf 20 = .ok (.goto 9, 3) := by decide +kernel
theorem d_B_priceOf_23 : decode b_B_priceOf 23 = .ok (.aload_n 0, 1) := by decide +kernel
theorem d_B_priceOf_24 : decode b_B_priceOf 24 = .ok (.getfield 9, 3) := by decide +kernel
theorem d_B_priceOf_27 : decode b_B_priceOf 27 = .ok (.iload_n 3, 1) := by decide +kernel
theorem d_B_priceOf_28 : decode b_B_priceOf 28 = .ok (.iaload, 1) := by decide +kernel
theorem d_B_priceOf_29 : decode b_B_priceOf 29 = .ok (.ireturn, 1) := by decide +kernel
theorem d_B_setPrice_0 : decode b_B_setPrice 0 = .ok (.iload_n 1, 1) := by decide +kernel
theorem d_B_setPrice_1 : decode b_B_setPrice 1 = .ok (.iconst 5, 1) := by decide +kernel
theorem d_B_setPrice_2 : decode b_B_setPrice 2 = .ok (.imul, 1) := by decide +kernel
theorem d_B_setPrice_3 : decode b_B_setPrice 3 = .ok (.iload_n 2, 1) := by decide +kernel
theorem d_B_setPrice_4 : decode b_B_setPrice 4 = .ok (.iadd, 1) := by decide +kernel
theorem d_B_setPrice_5 : decode b_B_setPrice 5 = .ok (.istore 4, 2) := by decide +kernel
theorem d_B_setPrice_7 : decode b_B_setPrice 7 = .ok (.iload 4, 2) := by decide +kernel
theorem d_B_setPrice_9 : decode b_B_setPrice 9 = .ok (.ifCond .lt 21, 3) := by decide +kernel
theorem d_B_setPrice_12 : decode b_B_setPrice 12 = .ok (.iload 4, 2) := by decide +kernel
theorem d_B_setPrice_14 : decode b_B_setPrice 14 = .ok (.aload_n 0, 1) := by decide +kernel
theorem d_B_setPrice_15 : decode b_B_setPrice 15 = .ok (.getfield 9, 3) := by decide +kernel
theorem d_B_setPrice_18 : decode b_B_setPrice 18 = .ok (.arraylength, 1) := by decide +kernel
theorem d_B_setPrice_19 : decode b_B_setPrice 19 = .ok (.if_icmp .ge 11, 3) := by decide +kernel
theorem d_B_setPrice_22 : decode b_B_setPrice 22 = .ok (.aload_n 0, 1) := by decide +kernel
theorem d_B_setPrice_23 : decode b_B_setPrice 23 = .ok (.getfield 9, 3) := by decide +kernel
theorem d_B_setPrice_26 : decode b_B_setPrice 26 = .ok (.iload 4, 2) := by decide +kernel
theorem d_B_setPrice_28 : decode b_B_setPrice 28 = .ok (.iload_n 3, 1) := by decide +kernel
theorem d_B_setPrice_29 : decode b_B_setPrice 29 = .ok (.iastore, 1) := by decide +kernel
theorem d_B_setPrice_30 : decode b_B_setPrice 30 = .ok (.return_, 1) := by decide +kernel
theorem d_B_amountOf_0 : decode b_B_amountOf 0 = .ok (.iload_n 1, 1) := by decide +kernel
theorem d_B_amountOf_1 : decode b_B_amountOf 1 = .ok (.bipush 8, 2) := by decide +kernel
theorem d_B_amountOf_3 : decode b_B_amountOf 3 = .ok (.imul, 1) := by decide +kernel
theorem d_B_amountOf_4 : decode b_B_amountOf 4 = .ok (.iload_n 2, 1) := by decide +kernel
theorem d_B_amountOf_5 : decode b_B_amountOf 5 = .ok (.iadd, 1) := by decide +kernel
theorem d_B_amountOf_6 : decode b_B_amountOf 6 = .ok (.iconst 5, 1) := by decide +kernel
theorem d_B_amountOf_7 : decode b_B_amountOf 7 = .ok (.imul, 1) := by decide +kernel
theorem d_B_amountOf_8 : decode b_B_amountOf 8 = .ok (.iload_n 3, 1) := by decide +kernel
theorem d_B_amountOf_9 : decode b_B_amountOf 9 = .ok (.iadd, 1) := by decide +kernel
theorem d_B_amountOf_10 : decode b_B_amountOf 10 = .ok (.istore 4, 2) := by decide +kernel
theorem d_B_amountOf_12 : decode b_B_amountOf 12 = .ok (.iload 4, 2) := by decide +kernel
theorem d_B_amountOf_14 : decode b_B_amountOf 14 = .ok (.ifCond .lt 13, 3) := by decide +kernel
theorem d_B_amountOf_17 : decode b_B_amountOf 17 = .ok (.iload 4, 2) := by decide +kernel
theorem d_B_amountOf_19 : decode b_B_amountOf 19 = .ok (.aload_n 0, 1) := by decide +kernel
theorem d_B_amountOf_20 : decode b_B_amountOf 20 = .ok (.getfield 15, 3) := by decide +kernel
theorem d_B_amountOf_23 : decode b_B_amountOf 23 = .ok (.arraylength, 1) := by decide +kernel
theorem d_B_amountOf_24 : decode b_B_amountOf 24 = .ok (.if_icmp .lt 7, 3) := by decide +kernel
theorem d_B_amountOf_27 : decode b_B_amountOf 27 = .ok (.iconst 0, 1) := by decide +kernel
theorem d_B_amountOf_28 : decode b_B_amountOf 28 = .ok (.goto 10, 3) := by decide +kernel
theorem d_B_amountOf_31 : decode b_B_amountOf 31 = .ok (.aload_n 0, 1) := by decide +kernel
theorem d_B_amountOf_32 : decode b_B_amountOf 32 = .ok (.getfield 15, 3) := by decide +kernel
theorem d_B_amountOf_35 : decode b_B_amountOf 35 = .ok (.iload 4, 2) := by decide +kernel
theorem d_B_amountOf_37 : decode b_B_amountOf 37 = .ok (.iaload, 1) := by decide +kernel
theorem d_B_amountOf_38 : decode b_B_amountOf 38 = .ok (.ireturn, 1) := by decide +kernel
theorem d_B_setAmount_0 : decode b_B_setAmount 0 = .ok (.iload_n 1, 1) := by decide +kernel
theorem d_B_setAmount_1 : decode b_B_setAmount 1 = .ok (.bipush 8, 2) := by decide +kernel
theorem d_B_setAmount_3 : decode b_B_setAmount 3 = .ok (.imul, 1) := by decide +kernel
theorem d_B_setAmount_4 : decode b_B_setAmount 4 = .ok (.iload_n 2, 1) := by decide +kernel
theorem d_B_setAmount_5 : decode b_B_setAmount 5 = .ok (.iadd, 1) := by decide +kernel
theorem d_B_setAmount_6 : decode b_B_setAmount 6 = .ok (.iconst 5, 1) := by decide +kernel
theorem d_B_setAmount_7 : decode b_B_setAmount 7 = .ok (.imul, 1) := by decide +kernel
theorem d_B_setAmount_8 : decode b_B_setAmount 8 = .ok (.iload_n 3, 1) := by decide +kernel
theorem d_B_setAmount_9 : decode b_B_setAmount 9 = .ok (.iadd, 1) := by decide +kernel
theorem d_B_setAmount_10 : decode b_B_setAmount 10 = .ok (.istore 5, 2) := by decide +kernel
theorem d_B_setAmount_12 : decode b_B_setAmount 12 = .ok (.iload 5, 2) := by decide +kernel
theorem d_B_setAmount_14 : decode b_B_setAmount 14 = .ok (.ifCond .lt 22, 3) := by decide +kernel
theorem d_B_setAmount_17 : decode b_B_setAmount 17 = .ok (.iload 5, 2) := by decide +kernel
theorem d_B_setAmount_19 : decode b_B_setAmount 19 = .ok (.aload_n 0, 1) := by decide +kernel
theorem d_B_setAmount_20 : decode b_B_setAmount 20 = .ok (.getfield 15, 3) := by decide +kernel
theorem d_B_setAmount_23 : decode b_B_setAmount 23 = .ok (.arraylength, 1) := by decide +kernel
theorem d_B_setAmount_24 : decode b_B_setAmount 24 = .ok (.if_icmp .ge 12, 3) := by decide +kernel
theorem d_B_setAmount_27 : decode b_B_setAmount 27 = .ok (.aload_n 0, 1) := by decide +kernel
theorem d_B_setAmount_28 : decode b_B_setAmount 28 = .ok (.getfield 15, 3) := by decide +kernel
theorem d_B_setAmount_31 : decode b_B_setAmount 31 = .ok (.iload 5, 2) := by decide +kernel
theorem d_B_setAmount_33 : decode b_B_setAmount 33 = .ok (.iload 4, 2) := by decide +kernel
theorem d_B_setAmount_35 : decode b_B_setAmount 35 = .ok (.iastore, 1) := by decide +kernel
theorem d_B_setAmount_36 : decode b_B_setAmount 36 = .ok (.return_, 1) := by decide +kernel
theorem d_B_copyYear_0 : decode b_B_copyYear 0 = .ok (.iconst 0, 1) := by decide +kernel
theorem d_B_copyYear_1 : decode b_B_copyYear 1 = .ok (.istore_n 3, 1) := by decide +kernel
theorem d_B_copyYear_2 : decode b_B_copyYear 2 = .ok (.iload_n 3, 1) := by decide +kernel
theorem d_B_copyYear_3 : decode b_B_copyYear 3 = .ok (.iconst 5, 1) := by decide +kernel
theorem d_B_copyYear_4 : decode b_B_copyYear 4 = .ok (.if_icmp .ge 21, 3) := by decide +kernel
theorem d_B_copyYear_7 : decode b_B_copyYear 7 = .ok (.aload_n 0, 1) := by decide +kernel
theorem d_B_copyYear_8 : decode b_B_copyYear 8 = .ok (.iload_n 2, 1) := by decide +kernel
theorem d_B_copyYear_9 : decode b_B_copyYear 9 = .ok (.iload_n 3, 1) := by decide +kernel
theorem d_B_copyYear_10 : decode b_B_copyYear 10 = .ok (.aload_n 0, 1) := by decide +kernel
theorem d_B_copyYear_11 : decode b_B_copyYear 11 = .ok (.iload_n 1, 1) := by decide +kernel
theorem d_B_copyYear_12 : decode b_B_copyYear 12 = .ok (.iload_n 3, 1) := by decide +kernel
theorem d_B_copyYear_13 : decode b_B_copyYear 13 = .ok (.invokevirtual 24, 3) := by decide +kernel
theorem d_B_copyYear_16 : decode b_B_copyYear 16 = .ok (.invokevirtual 28, 3) := by decide +kernel
theorem d_B_copyYear_19 : decode b_B_copyYear 19 = .ok (.iinc 3 1, 3) := by decide +kernel
theorem d_B_copyYear_22 : decode b_B_copyYear 22 = .ok (.goto (-20), 3) := by decide +kernel
theorem d_B_copyYear_25 : decode b_B_copyYear 25 = .ok (.return_, 1) := by decide +kernel
theorem d_B_doubleYear_0 : decode b_B_doubleYear 0 = .ok (.iconst 0, 1) := by decide +kernel
theorem d_B_doubleYear_1 : decode b_B_doubleYear 1 = .ok (.istore_n 2, 1) := by decide +kernel
theorem d_B_doubleYear_2 : decode b_B_doubleYear 2 = .ok (.iload_n 2, 1) := by decide +kernel
theorem d_B_doubleYear_3 : decode b_B_doubleYear 3 = .ok (.iconst 5, 1) := by decide +kernel
theorem d_B_doubleYear_4 : decode b_B_doubleYear 4 = .ok (.if_icmp .ge 23, 3) := by decide +kernel
theorem d_B_doubleYear_7 : decode b_B_doubleYear 7 = .ok (.aload_n 0, 1) := by decide +kernel
theorem d_B_doubleYear_8 : decode b_B_doubleYear 8 = .ok (.iload_n 1, 1) := by decide +kernel
theorem d_B_doubleYear_9 : decode b_B_doubleYear 9 = .ok (.iload_n 2, 1) := by decide +kernel
theorem d_B_doubleYear_10 : decode b_B_doubleYear 10 = .ok (.iconst 2, 1) := by decide +kernel
theorem d_B_doubleYear_11 : decode b_B_doubleYear 11 = .ok (.aload_n 0, 1) := by decide +kernel
theorem d_B_doubleYear_12 : decode b_B_doubleYear 12 = .ok (.iload_n 1, 1) := by decide +kernel
theorem d_B_doubleYear_13 : decode b_B_doubleYear 13 = .ok (.iload_n 2, 1) := by decide +kernel
theorem d_B_doubleYear_14 : decode b_B_doubleYear 14 = .ok (.invokevirtual 24, 3) := by decide +kernel
theorem d_B_doubleYear_17 : decode b_B_doubleYear 17 = .ok (.imul, 1) := by decide +kernel
theorem d_B_doubleYear_18 : decode b_B_doubleYear 18 = .ok (.invokevirtual 28, 3) := by decide +kernel
theorem d_B_doubleYear_21 : decode b_B_doubleYear 21 = .ok (.iinc 2 1, 3) := by decide +kernel
theorem d_B_doubleYear_24 : decode b_B_doubleYear 24 = .ok (.goto (-22), 3) := by decide +kernel
theorem d_B_doubleYear_27 : decode b_B_doubleYear 27 = .ok (.return_, 1) := by decide +kernel
theorem d_B_doubleUnit_0 : decode b_B_doubleUnit 0 = .ok (.iconst 0, 1) := by decide +kernel
theorem d_B_doubleUnit_1 : decode b_B_doubleUnit 1 = .ok (.istore_n 3, 1) := by decide +kernel
theorem d_B_doubleUnit_2 : decode b_B_doubleUnit 2 = .ok (.iload_n 3, 1) := by decide +kernel
theorem d_B_doubleUnit_3 : decode b_B_doubleUnit 3 = .ok (.bipush 8, 2) := by decide +kernel
theorem d_B_doubleUnit_5 : decode b_B_doubleUnit 5 = .ok (.if_icmp .ge 66, 3) := by decide +kernel
theorem d_B_doubleUnit_8 : decode b_B_doubleUnit 8 = .ok (.aload_n 0, 1) := by decide +kernel
theorem d_B_doubleUnit_9 : decode b_B_doubleUnit 9 = .ok (.iload_n 3, 1) := by decide +kernel
theorem d_B_doubleUnit_10 : decode b_B_doubleUnit 10 = .ok (.iload_n 1, 1) := by decide +kernel
theorem d_B_doubleUnit_11 : decode b_B_doubleUnit 11 = .ok (.iconst 2, 1) := by decide +kernel
theorem d_B_doubleUnit_12 : decode b_B_doubleUnit 12 = .ok (.aload_n 0, 1) := by decide +kernel
theorem d_B_doubleUnit_13 : decode b_B_doubleUnit 13 = .ok (.iload_n 3, 1) := by decide +kernel
theorem d_B_doubleUnit_14 : decode b_B_doubleUnit 14 = .ok (.iload_n 1, 1) := by decide +kernel
theorem d_B_doubleUnit_15 : decode b_B_doubleUnit 15 = .ok (.invokevirtual 24, 3) := by decide +kernel
theorem d_B_doubleUnit_18 : decode b_B_doubleUnit 18 = .ok (.imul, 1) := by decide +kernel
theorem d_B_doubleUnit_19 : decode b_B_doubleUnit 19 = .ok (.invokevirtual 28, 3) := by decide +kernel
theorem d_B_doubleUnit_22 : decode b_B_doubleUnit 22 = .ok (.iconst 0, 1) := by decide +kernel
theorem d_B_doubleUnit_23 : decode b_B_doubleUnit 23 = .ok (.istore 4, 2) := by decide +kernel
theorem d_B_doubleUnit_25 : decode b_B_doubleUnit 25 = .ok (.iload 4, 2) := by decide +kernel
theorem d_B_doubleUnit_27 : decode b_B_doubleUnit 27 = .ok (.iconst 5, 1) := by decide +kernel
theorem d_B_doubleUnit_28 : decode b_B_doubleUnit 28 = .ok (.if_icmp .ge 37, 3) := by decide +kernel
theorem d_B_doubleUnit_31 : decode b_B_doubleUnit 31 = .ok (.aload_n 0, 1) := by decide +kernel
theorem d_B_doubleUnit_32 : decode b_B_doubleUnit 32 = .ok (.iload_n 2, 1) := by decide +kernel
theorem d_B_doubleUnit_33 : decode b_B_doubleUnit 33 = .ok (.iload_n 3, 1) := by decide +kernel
theorem d_B_doubleUnit_34 : decode b_B_doubleUnit 34 = .ok (.iload 4, 2) := by decide +kernel
theorem d_B_doubleUnit_36 : decode b_B_doubleUnit 36 = .ok (.iload 4, 2) := by decide +kernel
theorem d_B_doubleUnit_38 : decode b_B_doubleUnit 38 = .ok (.iload_n 1, 1) := by decide +kernel
theorem d_B_doubleUnit_39 : decode b_B_doubleUnit 39 = .ok (.if_icmp .ne 7, 3) := by decide +kernel
theorem d_B_doubleUnit_42 : decode b_B_doubleUnit 42 = .ok (.iconst 1, 1) := by decide +kernel
theorem d_B_doubleUnit_43 : decode b_B_doubleUnit 43 = .ok (.goto 4, 3) := by decide +kernel
theorem d_B_doubleUnit_46 : decode b_B_doubleUnit 46 = .ok (.iconst 2, 1) := by decide +kernel
theorem d_B_doubleUnit_47 : decode b_B_doubleUnit 47 = .ok (.aload_n 0, 1) := by decide +kernel
theorem d_B_doubleUnit_48 : decode b_B_doubleUnit 48 = .ok (.iload_n 2, 1) := by decide +kernel
theorem d_B_doubleUnit_49 : decode b_B_doubleUnit 49 = .ok (.iload_n 3, 1) := by decide +kernel
theorem d_B_doubleUnit_50 : decode b_B_doubleUnit 50 = .ok (.iload 4, 2) := by decide +kernel
theorem d_B_doubleUnit_52 : decode b_B_doubleUnit 52 = .ok (.invokevirtual 32, 3) := by decide +kernel
theorem d_B_doubleUnit_55 : decode b_B_doubleUnit 55 = .ok (.imul, 1) := by decide +kernel
theorem d_B_doubleUnit_56 : decode b_B_doubleUnit 56 = .ok (.invokevirtual 36, 3) := by decide +kernel
theorem d_B_doubleUnit_59 : decode b_B_doubleUnit 59 = .ok (.iinc 4 1, 3) := by decide +kernel
theorem d_B_doubleUnit_62 : decode b_B_doubleUnit 62 = .ok (.goto (-37), 3) := by decide +kernel
theorem d_B_doubleUnit_65 : decode b_B_doubleUnit 65 = .ok (.iinc 3 1, 3) := by decide +kernel
theorem d_B_doubleUnit_68 : decode b_B_doubleUnit 68 = .ok (.goto (-66), 3) := by decide +kernel
theorem d_B_doubleUnit_71 : decode b_B_doubleUnit 71 = .ok (.return_, 1) := by decide +kernel
theorem d_B_goodsPricedIn_0 : decode b_B_goodsPricedIn 0 = .ok (.iconst 0, 1) := by decide +kernel
theorem d_B_goodsPricedIn_1 : decode b_B_goodsPricedIn 1 = .ok (.istore_n 2, 1) := by decide +kernel
theorem d_B_goodsPricedIn_2 : decode b_B_goodsPricedIn 2 = .ok (.iconst 0, 1) := by decide +kernel
theorem d_B_goodsPricedIn_3 : decode b_B_goodsPricedIn 3 = .ok (.istore_n 3, 1) := by decide +kernel
theorem d_B_goodsPricedIn_4 : decode b_B_goodsPricedIn 4 = .ok (.iload_n 3, 1) := by decide +kernel
theorem d_B_goodsPricedIn_5 : decode b_B_goodsPricedIn 5 = .ok (.iconst 5, 1) := by decide +kernel
theorem d_B_goodsPricedIn_6 : decode b_B_goodsPricedIn 6 = .ok (.if_icmp .ge 24, 3) := by decide +kernel
theorem d_B_goodsPricedIn_9 : decode b_B_goodsPricedIn 9 = .ok (.aload_n 0, 1) := by decide +kernel
theorem d_B_goodsPricedIn_10 : decode b_B_goodsPricedIn 10 = .ok (.iload_n 1, 1) := by decide +kernel
theorem d_B_goodsPricedIn_11 : decode b_B_goodsPricedIn 11 = .ok (.iload_n 3, 1) := by decide +kernel
theorem d_B_goodsPricedIn_12 : decode b_B_goodsPricedIn 12 = .ok (.invokevirtual 24, 3) := by decide +kernel
theorem d_B_goodsPricedIn_15 : decode b_B_goodsPricedIn 15 = .ok (.ifCond .le 9, 3) := by decide +kernel
theorem d_B_goodsPricedIn_18 : decode b_B_goodsPricedIn 18 = .ok (.iload_n 2, 1) := by decide +kernel
theorem d_B_goodsPricedIn_19 : decode b_B_goodsPricedIn 19 = .ok (.iconst 1, 1) := by decide +kernel
theorem d_B_goodsPricedIn_20 : decode b_B_goodsPricedIn 20 = .ok (.iload_n 3, 1) := by decide +kernel
theorem d_B_goodsPricedIn_21 : decode b_B_goodsPricedIn 21 = .ok (.ishl, 1) := by decide +kernel
theorem d_B_goodsPricedIn_22 : decode b_B_goodsPricedIn 22 = .ok (.ior, 1) := by decide +kernel
theorem d_B_goodsPricedIn_23 : decode b_B_goodsPricedIn 23 = .ok (.istore_n 2, 1) := by decide +kernel
theorem d_B_goodsPricedIn_24 : decode b_B_goodsPricedIn 24 = .ok (.iinc 3 1, 3) := by decide +kernel
theorem d_B_goodsPricedIn_27 : decode b_B_goodsPricedIn 27 = .ok (.goto (-23), 3) := by decide +kernel
theorem d_B_goodsPricedIn_30 : decode b_B_goodsPricedIn 30 = .ok (.iload_n 2, 1) := by decide +kernel
theorem d_B_goodsPricedIn_31 : decode b_B_goodsPricedIn 31 = .ok (.ireturn, 1) := by decide +kernel
theorem d_B_goodsThere_0 : decode b_B_goodsThere 0 = .ok (.iconst 0, 1) := by decide +kernel
theorem d_B_goodsThere_1 : decode b_B_goodsThere 1 = .ok (.istore_n 1, 1) := by decide +kernel
theorem d_B_goodsThere_2 : decode b_B_goodsThere 2 = .ok (.iconst 0, 1) := by decide +kernel
theorem d_B_goodsThere_3 : decode b_B_goodsThere 3 = .ok (.istore_n 2, 1) := by decide +kernel
theorem d_B_goodsThere_4 : decode b_B_goodsThere 4 = .ok (.iload_n 2, 1) := by decide +kernel
theorem d_B_goodsThere_5 : decode b_B_goodsThere 5 = .ok (.bipush 8, 2) := by decide +kernel
theorem d_B_goodsThere_7 : decode b_B_goodsThere 7 = .ok (.if_icmp .ge 17, 3) := by decide +kernel
theorem d_B_goodsThere_10 : decode b_B_goodsThere 10 = .ok (.iload_n 1, 1) := by decide +kernel
theorem d_B_goodsThere_11 : decode b_B_goodsThere 11 = .ok (.aload_n 0, 1) := by decide +kernel
theorem d_B_goodsThere_12 : decode b_B_goodsThere 12 = .ok (.iload_n 2, 1) := by decide +kernel
theorem d_B_goodsThere_13 : decode b_B_goodsThere 13 = .ok (.invokevirtual 40, 3) := by decide +kernel
theorem d_B_goodsThere_16 : decode b_B_goodsThere 16 = .ok (.ior, 1) := by decide +kernel
theorem d_B_goodsThere_17 : decode b_B_goodsThere 17 = .ok (.istore_n 1, 1) := by decide +kernel
theorem d_B_goodsThere_18 : decode b_B_goodsThere 18 = .ok (.iinc 2 1, 3) := by decide +kernel
theorem d_B_goodsThere_21 : decode b_B_goodsThere 21 = .ok (.goto (-17), 3) := by decide +kernel
theorem d_B_goodsThere_24 : decode b_B_goodsThere 24 = .ok (.iload_n 1, 1) := by decide +kernel
theorem d_B_goodsThere_25 : decode b_B_goodsThere 25 = .ok (.ireturn, 1) := by decide +kernel
theorem d_B_pricesThere_0 : decode b_B_pricesThere 0 = .ok (.iconst 0, 1) := by decide +kernel
theorem d_B_pricesThere_1 : decode b_B_pricesThere 1 = .ok (.istore_n 1, 1) := by decide +kernel
theorem d_B_pricesThere_2 : decode b_B_pricesThere 2 = .ok (.iconst 0, 1) := by decide +kernel
theorem d_B_pricesThere_3 : decode b_B_pricesThere 3 = .ok (.istore_n 2, 1) := by decide +kernel
theorem d_B_pricesThere_4 : decode b_B_pricesThere 4 = .ok (.iload_n 2, 1) := by decide +kernel
theorem d_B_pricesThere_5 : decode b_B_pricesThere 5 = .ok (.bipush 8, 2) := by decide +kernel
theorem d_B_pricesThere_7 : decode b_B_pricesThere 7 = .ok (.if_icmp .ge 20, 3) := by decide +kernel
theorem d_B_pricesThere_10 : decode b_B_pricesThere 10 = .ok (.iload_n 1, 1) := by decide +kernel
theorem d_B_pricesThere_11 : decode b_B_pricesThere 11 = .ok (.aload_n 0, 1) := by decide +kernel
theorem d_B_pricesThere_12 : decode b_B_pricesThere 12 = .ok (.iload_n 2, 1) := by decide +kernel
theorem d_B_pricesThere_13 : decode b_B_pricesThere 13 = .ok (.invokevirtual 40, 3) := by decide +kernel
theorem d_B_pricesThere_16 : decode b_B_pricesThere 16 = .ok (.invokestatic 44, 3) := by decide +kernel
theorem d_B_pricesThere_19 : decode b_B_pricesThere 19 = .ok (.iadd, 1) := by decide +kernel
theorem d_B_pricesThere_20 : decode b_B_pricesThere 20 = .ok (.istore_n 1, 1) := by decide +kernel
theorem d_B_pricesThere_21 : decode b_B_pricesThere 21 = .ok (.iinc 2 1, 3) := by decide +kernel
theorem d_B_pricesThere_24 : decode b_B_pricesThere 24 = .ok (.goto (-20), 3) := by decide +kernel
theorem d_B_pricesThere_27 : decode b_B_pricesThere 27 = .ok (.iload_n 1, 1) := by decide +kernel
theorem d_B_pricesThere_28 : decode b_B_pricesThere 28 = .ok (.ireturn, 1) := by decide +kernel
theorem d_B_yearsPriced_0 : decode b_B_yearsPriced 0 = .ok (.iconst 0, 1) := by decide +kernel
theorem d_B_yearsPriced_1 : decode b_B_yearsPriced 1 = .ok (.istore_n 1, 1) := by decide +kernel
theorem d_B_yearsPriced_2 : decode b_B_yearsPriced 2 = .ok (.iconst 0, 1) := by decide +kernel
theorem d_B_yearsPriced_3 : decode b_B_yearsPriced 3 = .ok (.istore_n 2, 1) := by decide +kernel
theorem d_B_yearsPriced_4 : decode b_B_yearsPriced 4 = .ok (.iload_n 2, 1) := by decide +kernel
theorem d_B_yearsPriced_5 : decode b_B_yearsPriced 5 = .ok (.bipush 8, 2) := by decide +kernel
theorem d_B_yearsPriced_7 : decode b_B_yearsPriced 7 = .ok (.if_icmp .ge 25, 3) := by decide +kernel
theorem d_B_yearsPriced_10 : decode b_B_yearsPriced 10 = .ok (.iload_n 1, 1) := by decide +kernel
theorem d_B_yearsPriced_11 : decode b_B_yearsPriced 11 = .ok (.aload_n 0, 1) := by decide +kernel
theorem d_B_yearsPriced_12 : decode b_B_yearsPriced 12 = .ok (.iload_n 2, 1) := by decide +kernel
theorem d_B_yearsPriced_13 : decode b_B_yearsPriced 13 = .ok (.invokevirtual 40, 3) := by decide +kernel
theorem d_B_yearsPriced_16 : decode b_B_yearsPriced 16 = .ok (.ifCond .ne 7, 3) := by decide +kernel
theorem d_B_yearsPriced_19 : decode b_B_yearsPriced 19 = .ok (.iconst 0, 1) := by decide +kernel
theorem d_B_yearsPriced_20 : decode b_B_yearsPriced 20 = .ok (.goto 4, 3) := by decide +kernel
theorem d_B_yearsPriced_23 : decode b_B_yearsPriced 23 = .ok (.iconst 1, 1) := by decide +kernel
theorem d_B_yearsPriced_24 : decode b_B_yearsPriced 24 = .ok (.iadd, 1) := by decide +kernel
theorem d_B_yearsPriced_25 : decode b_B_yearsPriced 25 = .ok (.istore_n 1, 1) := by decide +kernel
theorem d_B_yearsPriced_26 : decode b_B_yearsPriced 26 = .ok (.iinc 2 1, 3) := by decide +kernel
theorem d_B_yearsPriced_29 : decode b_B_yearsPriced 29 = .ok (.goto (-25), 3) := by decide +kernel
theorem d_B_yearsPriced_32 : decode b_B_yearsPriced 32 = .ok (.iload_n 1, 1) := by decide +kernel
theorem d_B_yearsPriced_33 : decode b_B_yearsPriced 33 = .ok (.ireturn, 1) := by decide +kernel
theorem d_B_costOver_0 : decode b_B_costOver 0 = .ok (.iconst 0, 1) := by decide +kernel
theorem d_B_costOver_1 : decode b_B_costOver 1 = .ok (.istore 5, 2) := by decide +kernel
theorem d_B_costOver_3 : decode b_B_costOver 3 = .ok (.iconst 0, 1) := by decide +kernel
theorem d_B_costOver_4 : decode b_B_costOver 4 = .ok (.istore 6, 2) := by decide +kernel
theorem d_B_costOver_6 : decode b_B_costOver 6 = .ok (.iload 6, 2) := by decide +kernel
theorem d_B_costOver_8 : decode b_B_costOver 8 = .ok (.iconst 5, 1) := by decide +kernel
theorem d_B_costOver_9 : decode b_B_costOver 9 = .ok (.if_icmp .ge 67, 3) := by decide +kernel
theorem d_B_costOver_12 : decode b_B_costOver 12 = .ok (.iload_n 1, 1) := by decide +kernel
theorem d_B_costOver_13 : decode b_B_costOver 13 = .ok (.iload 6, 2) := by decide +kernel
theorem d_B_costOver_15 : decode b_B_costOver 15 = .ok (.ishr, 1) := by decide +kernel
theorem d_B_costOver_16 : decode b_B_costOver 16 = .ok (.iconst 1, 1) := by decide +kernel
theorem d_B_costOver_17 : decode b_B_costOver 17 = .ok (.iand, 1) := by decide +kernel
theorem d_B_costOver_18 : decode b_B_costOver 18 = .ok (.ifCond .ne 7, 3) := by decide +kernel
theorem d_B_costOver_21 : decode b_B_costOver 21 = .ok (.iconst 0, 1) := by decide +kernel
theorem d_B_costOver_22 : decode b_B_costOver 22 = .ok (.goto 12, 3) := by decide +kernel
theorem d_B_costOver_25 : decode b_B_costOver 25 = .ok (.aload_n 0, 1) := by decide +kernel
theorem d_B_costOver_26 : decode b_B_costOver 26 = .ok (.iload_n 2, 1) := by decide +kernel
theorem d_B_costOver_27 : decode b_B_costOver 27 = .ok (.iload 4, 2) := by decide +kernel
theorem d_B_costOver_29 : decode b_B_costOver 29 = .ok (.iload 6, 2) := by decide +kernel
theorem d_B_costOver_31 : decode b_B_costOver 31 = .ok (.invokevirtual 32, 3) := by decide +kernel
theorem d_B_costOver_34 : decode b_B_costOver 34 = .ok (.istore 7, 2) := by decide +kernel
theorem d_B_costOver_36 : decode b_B_costOver 36 = .ok (.iload 7, 2) := by decide +kernel
theorem d_B_costOver_38 : decode b_B_costOver 38 = .ok (.ifCond .ne 6, 3) := by decide +kernel
theorem d_B_costOver_41 : decode b_B_costOver 41 = .ok (.goto 29, 3) := by decide +kernel
theorem d_B_costOver_44 : decode b_B_costOver 44 = .ok (.aload_n 0, 1) := by decide +kernel
theorem d_B_costOver_45 : decode b_B_costOver 45 = .ok (.iload_n 3, 1) := by decide +kernel
theorem d_B_costOver_46 : decode b_B_costOver 46 = .ok (.iload 6, 2) := by decide +kernel
theorem d_B_costOver_48 : decode b_B_costOver 48 = .ok (.invokevirtual 24, 3) := by decide +kernel
theorem d_B_costOver_51 : decode b_B_costOver 51 = .ok (.istore 8, 2) := by decide +kernel
theorem d_B_costOver_53 : decode b_B_costOver 53 = .ok (.iload 8, 2) := by decide +kernel
theorem d_B_costOver_55 : decode b_B_costOver 55 = .ok (.ifCond .ne 5, 3) := by decide +kernel
theorem d_B_costOver_58 : decode b_B_costOver 58 = .ok (.iconst (-1), 1) := by decide +kernel
theorem d_B_costOver_59 : decode b_B_costOver 59 = .ok (.ireturn, 1) := by decide +kernel
theorem d_B_costOver_60 : decode b_B_costOver 60 = .ok (.iload 5, 2) := by decide +kernel
theorem d_B_costOver_62 : decode b_B_costOver 62 = .ok (.iload 8, 2) := by decide +kernel
theorem d_B_costOver_64 : decode b_B_costOver 64 = .ok (.iload 7, 2) := by decide +kernel
theorem d_B_costOver_66 : decode b_B_costOver 66 = .ok (.imul, 1) := by decide +kernel
theorem d_B_costOver_67 : decode b_B_costOver 67 = .ok (.iadd, 1) := by decide +kernel
theorem d_B_costOver_68 : decode b_B_costOver 68 = .ok (.istore 5, 2) := by decide +kernel
theorem d_B_costOver_70 : decode b_B_costOver 70 = .ok (.iinc 6 1, 3) := by decide +kernel
theorem d_B_costOver_73 : decode b_B_costOver 73 = .ok (.goto (-67), 3) := by decide +kernel
theorem d_B_costOver_76 : decode b_B_costOver 76 = .ok (.iload 5, 2) := by decide +kernel
theorem d_B_costOver_78 : decode b_B_costOver 78 = .ok (.ireturn, 1) := by decide +kernel
theorem d_B_pricesOver_0 : decode b_B_pricesOver 0 = .ok (.iconst 0, 1) := by decide +kernel
theorem d_B_pricesOver_1 : decode b_B_pricesOver 1 = .ok (.istore_n 3, 1) := by decide +kernel
theorem d_B_pricesOver_2 : decode b_B_pricesOver 2 = .ok (.iconst 0, 1) := by decide +kernel
theorem d_B_pricesOver_3 : decode b_B_pricesOver 3 = .ok (.istore 4, 2) := by decide +kernel
theorem d_B_pricesOver_5 : decode b_B_pricesOver 5 = .ok (.iload 4, 2) := by decide +kernel
theorem d_B_pricesOver_7 : decode b_B_pricesOver 7 = .ok (.iconst 5, 1) := by decide +kernel
theorem d_B_pricesOver_8 : decode b_B_pricesOver 8 = .ok (.if_icmp .ge 42, 3) := by decide +kernel
theorem d_B_pricesOver_11 : decode b_B_pricesOver 11 = .ok (.iload_n 1, 1) := by decide +kernel
theorem d_B_pricesOver_12 : decode b_B_pricesOver 12 = .ok (.iload 4, 2) := by decide +kernel
theorem d_B_pricesOver_14 : decode b_B_pricesOver 14 = .ok (.ishr, 1) := by decide +kernel
theorem d_B_pricesOver_15 : decode b_B_pricesOver 15 = .ok (.iconst 1, 1) := by decide +kernel
theorem d_B_pricesOver_16 : decode b_B_pricesOver 16 = .ok (.iand, 1) := by decide +kernel
theorem d_B_pricesOver_17 : decode b_B_pricesOver 17 = .ok (.ifCond .ne 6, 3) := by decide +kernel
theorem d_B_pricesOver_20 : decode b_B_pricesOver 20 = .ok (.goto 24, 3) := by decide +kernel
theorem d_B_pricesOver_23 : decode b_B_pricesOver 23 = .ok (.aload_n 0, 1) := by decide +kernel
theorem d_B_pricesOver_24 : decode b_B_pricesOver 24 = .ok (.iload_n 2, 1) := by decide +kernel
theorem d_B_pricesOver_25 : decode b_B_pricesOver 25 = .ok (.iload 4, 2) := by decide +kernel
theorem d_B_pricesOver_27 : decode b_B_pricesOver 27 = .ok (.invokevirtual 24, 3) := by decide +kernel
theorem d_B_pricesOver_30 : decode b_B_pricesOver 30 = .ok (.istore 5, 2) := by decide +kernel
theorem d_B_pricesOver_32 : decode b_B_pricesOver 32 = .ok (.iload 5, 2) := by decide +kernel
theorem d_B_pricesOver_34 : decode b_B_pricesOver 34 = .ok (.ifCond .ne 5, 3) := by decide +kernel
theorem d_B_pricesOver_37 : decode b_B_pricesOver 37 = .ok (.iconst (-1), 1) := by decide +kernel
theorem d_B_pricesOver_38 : decode b_B_pricesOver 38 = .ok (.ireturn, 1) := by decide +kernel
theorem d_B_pricesOver_39 : decode b_B_pricesOver 39 = .ok (.iload_n 3, 1) := by decide +kernel
theorem d_B_pricesOver_40 : decode b_B_pricesOver 40 = .ok (.iload 5, 2) := by decide +kernel
theorem d_B_pricesOver_42 : decode b_B_pricesOver 42 = .ok (.iadd, 1) := by decide +kernel
theorem d_B_pricesOver_43 : decode b_B_pricesOver 43 = .ok (.istore_n 3, 1) := by decide +kernel
theorem d_B_pricesOver_44 : decode b_B_pricesOver 44 = .ok (.iinc 4 1, 3) := by decide +kernel
theorem d_B_pricesOver_47 : decode b_B_pricesOver 47 = .ok (.goto (-42), 3) := by decide +kernel
theorem d_B_pricesOver_50 : decode b_B_pricesOver 50 = .ok (.iload_n 3, 1) := by decide +kernel
theorem d_B_pricesOver_51 : decode b_B_pricesOver 51 = .ok (.ireturn, 1) := by decide +kernel
def f_B_copyFrom (this : Nat) (x1 : Nat) (h : Hp) : Option (Hp) :=
  if isO h this 0 = true then
  (gA h x1 0 0).bind fun r1 =>
  (gA h this 0 0).bind fun r3 =>
  (gA h this 0 0).bind fun r5 =>
  (r5).bind fun a7 =>
  (aN h a7).bind fun i10 =>
  (r1).bind fun a11 =>
  (r3).bind fun a13 =>
  (sC h a11 (0 : Int32) a13 (0 : Int32) i10).bind fun h15 =>
  (gA h15 x1 0 1).bind fun r17 =>
  (gA h15 this 0 1).bind fun r19 =>
  (gA h15 this 0 1).bind fun r21 =>
  (r21).bind fun a23 =>
  (aN h15 a23).bind fun i26 =>
  (r17).bind fun a27 =>
  (r19).bind fun a29 =>
  (sC h15 a27 (0 : Int32) a29 (0 : Int32) i26).bind fun h31 =>
  some h31
  else none
theorem o_B_copyFrom {this : Nat} {x1 : Nat} {h : Hp} {h0 : Hp} (hf : f_B_copyFrom this x1 h = some h0) : isO h this 0 = true := by
  unfold f_B_copyFrom at hf
  exact (z_gd hf).1
set_option maxRecDepth 100000 in
set_option maxHeartbeats 4000000 in
theorem c_B_copyFrom {l : Launch} {N0 : Nat} {D : va_G} {cs : Nat → ClassId} {this : Nat} {x1 : Nat} {h : Hp} {h0 : Hp} (hf : f_B_copyFrom this x1 h = some h0) : Fn l N0 D cs y_B_copyFrom b_B_copyFrom 2 (none) 2 0 0 [.ref this, .ref x1] h none h0 := by
  refine z_start (by decide) (Nat.le_of_ble_eq_true rfl) ?_
  intro p e s m args below meth c M hH hS ls hl
  unfold f_B_copyFrom at hf
  obtain ⟨hO, hf⟩ := z_gd hf
  have hl : lv_has ls 2 [(0, .ref this), (1, .ref x1)] := hl
  obtain ⟨H, hHe⟩ : ∃ H, H = s.heap := ⟨_, rfl⟩
  obtain ⟨locs, hLe⟩ : ∃ locs : List Loc, locs = [] := ⟨_, rfl⟩
  have hS : va_S (zA N0) s.heap H locs := by rw [hHe, hLe]; exact hS
  have hH : HH N0 D cs h H := by rw [hHe]; exact hH
  suffices hg : W p l e (zrm 2 0 0) s m args below meth c H locs 0 0 (MQ below (zQ N0 D cs none h0) args s 0 0 (zA N0)) (F0 m 0 ls []) by rw [hHe, hLe] at hg; exact hg
  clear hHe hLe
  refine lv_aload_n M.x M.b d_B_copyFrom_0 rfl (lv_at hl 1 rfl) ?_
  refine lv_ifnonnull (tgt := 5) M.x M.b d_B_copyFrom_1 (by decide) ?_
  refine lv_aload_n M.x M.b d_B_copyFrom_5 rfl (lv_at hl 1 rfl) ?_
  replace hf := z_bind hf; obtain ⟨r1, e2, hf⟩ := hf
  refine z_get (ci := 0) (k := 0) M hH rfl (by decide) zinB q_47 (gA_spec e2) d_B_copyFrom_6 ?_
  refine lv_iconst (v := (0 : Int32)) M.x M.b d_B_copyFrom_9 rfl ?_
  refine lv_aload_n M.x M.b d_B_copyFrom_10 rfl (lv_at hl 0 rfl) ?_
  replace hf := z_bind hf; obtain ⟨r3, e4, hf⟩ := hf
  refine z_get (ci := 0) (k := 0) M hH rfl (by decide) zinB q_47 (gA_spec e4) d_B_copyFrom_11 ?_
  refine lv_iconst (v := (0 : Int32)) M.x M.b d_B_copyFrom_14 rfl ?_
  refine lv_aload_n M.x M.b d_B_copyFrom_15 rfl (lv_at hl 0 rfl) ?_
  replace hf := z_bind hf; obtain ⟨r5, e6, hf⟩ := hf
  refine z_get (ci := 0) (k := 0) M hH rfl (by decide) zinB q_47 (gA_spec e6) d_B_copyFrom_16 ?_
  rcases r5 with _ | a7
  · exact absurd hf z_nb0
  replace hf := z_sb hf
  replace hf := z_bind hf; obtain ⟨i10, e9, hf⟩ := hf
  refine z_alen M hH e9 d_B_copyFrom_19 ?_
  rcases r1 with _ | a11
  · exact absurd hf z_nb0
  replace hf := z_sb hf
  rcases r3 with _ | a13
  · exact absurd hf z_nb0
  replace hf := z_sb hf
  replace hf := z_bind hf; obtain ⟨h15, e16, hf⟩ := hf
  refine z_copy M hH hS hl.1 q_42 q_43 q_44 q_45 e16 (Nat.le_of_ble_eq_true rfl) (Nat.le_of_ble_eq_true rfl) d_B_copyFrom_20 (fun H locs hH hS => ?_)
  refine lv_aload_n M.x M.b d_B_copyFrom_23 rfl (lv_at hl 1 rfl) ?_
  replace hf := z_bind hf; obtain ⟨r17, e18, hf⟩ := hf
  refine z_get (ci := 0) (k := 1) M hH rfl (by decide) zinB q_46 (gA_spec e18) d_B_copyFrom_24 ?_
  refine lv_iconst (v := (0 : Int32)) M.x M.b d_B_copyFrom_27 rfl ?_
  refine lv_aload_n M.x M.b d_B_copyFrom_28 rfl (lv_at hl 0 rfl) ?_
  replace hf := z_bind hf; obtain ⟨r19, e20, hf⟩ := hf
  refine z_get (ci := 0) (k := 1) M hH rfl (by decide) zinB q_46 (gA_spec e20) d_B_copyFrom_29 ?_
  refine lv_iconst (v := (0 : Int32)) M.x M.b d_B_copyFrom_32 rfl ?_
  refine lv_aload_n M.x M.b d_B_copyFrom_33 rfl (lv_at hl 0 rfl) ?_
  replace hf := z_bind hf; obtain ⟨r21, e22, hf⟩ := hf
  refine z_get (ci := 0) (k := 1) M hH rfl (by decide) zinB q_46 (gA_spec e22) d_B_copyFrom_34 ?_
  rcases r21 with _ | a23
  · exact absurd hf z_nb0
  replace hf := z_sb hf
  replace hf := z_bind hf; obtain ⟨i26, e25, hf⟩ := hf
  refine z_alen M hH e25 d_B_copyFrom_37 ?_
  rcases r17 with _ | a27
  · exact absurd hf z_nb0
  replace hf := z_sb hf
  rcases r19 with _ | a29
  · exact absurd hf z_nb0
  replace hf := z_sb hf
  replace hf := z_bind hf; obtain ⟨h31, e32, hf⟩ := hf
  refine z_copy M hH hS hl.1 q_42 q_43 q_44 q_45 e32 (Nat.le_of_ble_eq_true rfl) (Nat.le_of_ble_eq_true rfl) d_B_copyFrom_38 (fun H locs hH hS => ?_)
  obtain rfl := z_r1 hf
  exact z_vret M hH hS d_B_copyFrom_41
def f_B_priceOf (this : Nat) (h : Hp) (x1 : Int32) (x2 : Int32) : Option (Int32) :=
  if isO h this 0 = true then
  if ((x1 * (5 : Int32)) + x2) < 0 then
    some (0 : Int32)
  else
  (gA h this 0 0).bind fun r1 =>
  (r1).bind fun a3 =>
  (aN h a3).bind fun i6 =>
  if ((x1 * (5 : Int32)) + x2) < i6 then
    (gA h this 0 0).bind fun r7 =>
    (r7).bind fun a9 =>
    (aI h 0 a9 ((x1 * (5 : Int32)) + x2)).bind fun i12 =>
    some i12
  else
  some (0 : Int32)
  else none
theorem o_B_priceOf {this : Nat} {h : Hp} {x1 : Int32} {x2 : Int32} {r0 : Int32} (hf : f_B_priceOf this h x1 x2 = some r0) : isO h this 0 = true := by
  unfold f_B_priceOf at hf
  exact (z_gd hf).1
set_option maxRecDepth 100000 in
set_option maxHeartbeats 4000000 in
theorem c_B_priceOf {l : Launch} {N0 : Nat} {D : va_G} {cs : Nat → ClassId} {this : Nat} {h : Hp} {x1 : Int32} {x2 : Int32} {r0 : Int32} (hf : f_B_priceOf this h x1 x2 = some r0) : Fn l N0 D cs y_B_priceOf b_B_priceOf 4 (some .int) 1 0 0 [.ref this, .int x1, .int x2] h (some (.int r0)) h := by
  refine z_start (by decide) (Nat.le_of_ble_eq_true rfl) ?_
  intro p e s m args below meth c M hH hS ls hl
  unfold f_B_priceOf at hf
  obtain ⟨hO, hf⟩ := z_gd hf
  have hl : lv_has ls 4 [(0, .ref this), (1, .int x1), (2, .int x2)] := hl
  obtain ⟨H, hHe⟩ : ∃ H, H = s.heap := ⟨_, rfl⟩
  obtain ⟨locs, hLe⟩ : ∃ locs : List Loc, locs = [] := ⟨_, rfl⟩
  have hS : va_S (zA N0) s.heap H locs := by rw [hHe, hLe]; exact hS
  have hH : HH N0 D cs h H := by rw [hHe]; exact hH
  suffices hg : W p l e (zrm 1 0 0) s m args below meth c H locs 0 0 (MQ below (zQ N0 D cs (some (.int r0)) h) args s 0 0 (zA N0)) (F0 m 0 ls []) by rw [hHe, hLe] at hg; exact hg
  clear hHe hLe
  refine lv_iload_n M.x M.b d_B_priceOf_0 rfl (lv_at hl 1 rfl) ?_
  refine lv_iconst (v := (5 : Int32)) M.x M.b d_B_priceOf_1 rfl ?_
  refine lv_imul M.x M.b d_B_priceOf_2 ?_
  refine lv_iload_n M.x M.b d_B_priceOf_3 rfl (lv_at hl 2 rfl) ?_
  refine lv_iadd M.x M.b d_B_priceOf_4 ?_
  refine lv_istore_n (lv' := [(3, .int ((x1 * (5 : Int32)) + x2)), (0, .ref this), (1, .int x1), (2, .int x2)]) M.x M.b d_B_priceOf_5 rfl hl (by decide) rfl (fun ls hl => ?_)
  refine lv_iload_n M.x M.b d_B_priceOf_6 rfl (lv_at hl 0 rfl) ?_
  refine lv_if_lt (tgt := 19) M.x M.b d_B_priceOf_7 (by decide) (fun c14 => ?_) (fun c14 => ?_)
  · replace hf := z_t c14 hf
    refine lv_iconst (v := (0 : Int32)) M.x M.b d_B_priceOf_19 rfl ?_
    refine lv_goto (tgt := 29) M.x M.b d_B_priceOf_20 (by decide) ?_
    obtain rfl := z_r1 hf
    exact z_iret M hH hS d_B_priceOf_29
  · replace hf := z_f c14 hf
    refine lv_iload_n M.x M.b d_B_priceOf_10 rfl (lv_at hl 0 rfl) ?_
    refine lv_aload_n M.x M.b d_B_priceOf_11 rfl (lv_at hl 1 rfl) ?_
    replace hf := z_bind hf; obtain ⟨r1, e2, hf⟩ := hf
    refine z_get (ci := 0) (k := 0) M hH rfl (by decide) zinB q_47 (gA_spec e2) d_B_priceOf_12 ?_
    rcases r1 with _ | a3
    · exact absurd hf z_nb0
    replace hf := z_sb hf
    replace hf := z_bind hf; obtain ⟨i6, e5, hf⟩ := hf
    refine z_alen M hH e5 d_B_priceOf_15 ?_
    refine lv_icmp_lt (tgt := 23) M.x M.b d_B_priceOf_16 (by decide) (fun c13 => ?_) (fun c13 => ?_)
    · replace hf := z_t c13 hf
      refine lv_aload_n M.x M.b d_B_priceOf_23 rfl (lv_at hl 1 rfl) ?_
      replace hf := z_bind hf; obtain ⟨r7, e8, hf⟩ := hf
      refine z_get (ci := 0) (k := 0) M hH rfl (by decide) zinB q_47 (gA_spec e8) d_B_priceOf_24 ?_
      refine lv_iload_n M.x M.b d_B_priceOf_27 rfl (lv_at hl 0 rfl) ?_
      rcases r7 with _ | a9
      · exact absurd hf z_nb0
      replace hf := z_sb hf
      replace hf := z_bind hf; obtain ⟨i12, e11, hf⟩ := hf
      refine z_iald M hH e11 d_B_priceOf_28 ?_
      obtain rfl := z_r1 hf
      exact z_iret M hH hS d_B_priceOf_29
    · replace hf := z_f c13 hf
      refine lv_iconst (v := (0 : Int32)) M.x M.b d_B_priceOf_19 rfl ?_
      refine lv_goto (tgt := 29) M.x M.b d_B_priceOf_20 (by decide) ?_
      obtain rfl := z_r1 hf
      exact z_iret M hH hS d_B_priceOf_29
def f_B_setPrice (this : Nat) (x1 : Int32) (x2 : Int32) (x3 : Int32) (h : Hp) : Option (Hp) :=
  if isO h this 0 = true then
  if ((x1 * (5 : Int32)) + x2) < 0 then
    some h
  else
  (gA h this 0 0).bind fun r1 =>
  (r1).bind fun a3 =>
  (aN h a3).bind fun i6 =>
  if i6 ≤ ((x1 * (5 : Int32)) + x2) then
    some h
  else
  (gA h this 0 0).bind fun r7 =>
  (r7).bind fun a9 =>
  (sI h a9 ((x1 * (5 : Int32)) + x2) x3).bind fun h12 =>
  some h12
  else none
theorem o_B_setPrice {this : Nat} {x1 : Int32} {x2 : Int32} {x3 : Int32} {h : Hp} {h0 : Hp} (hf : f_B_setPrice this x1 x2 x3 h = some h0) : isO h this 0 = true := by
  unfold f_B_setPrice at hf
  exact (z_gd hf).1
set_option maxRecDepth 100000 in
set_option maxHeartbeats 4000000 in
theorem c_B_setPrice {l : Launch} {N0 : Nat} {D : va_G} {cs : Nat → ClassId} {this : Nat} {x1 : Int32} {x2 : Int32} {x3 : Int32} {h : Hp} {h0 : Hp} (hf : f_B_setPrice this x1 x2 x3 h = some h0) : Fn l N0 D cs y_B_setPrice b_B_setPrice 5 (none) 1 0 0 [.ref this, .int x1, .int x2, .int x3] h none h0 := by
  refine z_start (by decide) (Nat.le_of_ble_eq_true rfl) ?_
  intro p e s m args below meth c M hH hS ls hl
  unfold f_B_setPrice at hf
  obtain ⟨hO, hf⟩ := z_gd hf
  have hl : lv_has ls 5 [(0, .ref this), (1, .int x1), (2, .int x2), (3, .int x3)] := hl
  obtain ⟨H, hHe⟩ : ∃ H, H = s.heap := ⟨_, rfl⟩
  obtain ⟨locs, hLe⟩ : ∃ locs : List Loc, locs = [] := ⟨_, rfl⟩
  have hS : va_S (zA N0) s.heap H locs := by rw [hHe, hLe]; exact hS
  have hH : HH N0 D cs h H := by rw [hHe]; exact hH
  suffices hg : W p l e (zrm 1 0 0) s m args below meth c H locs 0 0 (MQ below (zQ N0 D cs none h0) args s 0 0 (zA N0)) (F0 m 0 ls []) by rw [hHe, hLe] at hg; exact hg
  clear hHe hLe
  refine lv_iload_n M.x M.b d_B_setPrice_0 rfl (lv_at hl 1 rfl) ?_
  refine lv_iconst (v := (5 : Int32)) M.x M.b d_B_setPrice_1 rfl ?_
  refine lv_imul M.x M.b d_B_setPrice_2 ?_
  refine lv_iload_n M.x M.b d_B_setPrice_3 rfl (lv_at hl 2 rfl) ?_
  refine lv_iadd M.x M.b d_B_setPrice_4 ?_
  refine lv_istore (lv' := [(4, .int ((x1 * (5 : Int32)) + x2)), (0, .ref this), (1, .int x1), (2, .int x2), (3, .int x3)]) M.x M.b d_B_setPrice_5 hl (by decide) rfl (fun ls hl => ?_)
  refine lv_iload M.x M.b d_B_setPrice_7 (lv_at hl 0 rfl) ?_
  refine lv_if_lt (tgt := 30) M.x M.b d_B_setPrice_9 (by decide) (fun c14 => ?_) (fun c14 => ?_)
  · replace hf := z_t c14 hf
    obtain rfl := z_r1 hf
    exact z_vret M hH hS d_B_setPrice_30
  · replace hf := z_f c14 hf
    refine lv_iload M.x M.b d_B_setPrice_12 (lv_at hl 0 rfl) ?_
    refine lv_aload_n M.x M.b d_B_setPrice_14 rfl (lv_at hl 1 rfl) ?_
    replace hf := z_bind hf; obtain ⟨r1, e2, hf⟩ := hf
    refine z_get (ci := 0) (k := 0) M hH rfl (by decide) zinB q_47 (gA_spec e2) d_B_setPrice_15 ?_
    rcases r1 with _ | a3
    · exact absurd hf z_nb0
    replace hf := z_sb hf
    replace hf := z_bind hf; obtain ⟨i6, e5, hf⟩ := hf
    refine z_alen M hH e5 d_B_setPrice_18 ?_
    refine lv_icmp_ge (tgt := 30) M.x M.b d_B_setPrice_19 (by decide) (fun c13 => ?_) (fun c13 => ?_)
    · replace hf := z_t c13 hf
      obtain rfl := z_r1 hf
      exact z_vret M hH hS d_B_setPrice_30
    · replace hf := z_f c13 hf
      refine lv_aload_n M.x M.b d_B_setPrice_22 rfl (lv_at hl 1 rfl) ?_
      replace hf := z_bind hf; obtain ⟨r7, e8, hf⟩ := hf
      refine z_get (ci := 0) (k := 0) M hH rfl (by decide) zinB q_47 (gA_spec e8) d_B_setPrice_23 ?_
      refine lv_iload M.x M.b d_B_setPrice_26 (lv_at hl 0 rfl) ?_
      refine lv_iload_n M.x M.b d_B_setPrice_28 rfl (lv_at hl 4 rfl) ?_
      rcases r7 with _ | a9
      · exact absurd hf z_nb0
      replace hf := z_sb hf
      replace hf := z_bind hf; obtain ⟨h12, e11, hf⟩ := hf
      refine z_iast M hH hS e11 d_B_setPrice_29 (fun H locs hH hS => ?_)
      obtain rfl := z_r1 hf
      exact z_vret M hH hS d_B_setPrice_30
def f_B_amountOf (this : Nat) (h : Hp) (x1 : Int32) (x2 : Int32) (x3 : Int32) : Option (Int32) :=
  if isO h this 0 = true then
  if ((((x1 * (8 : Int32)) + x2) * (5 : Int32)) + x3) < 0 then
    some (0 : Int32)
  else
  (gA h this 0 1).bind fun r1 =>
  (r1).bind fun a3 =>
  (aN h a3).bind fun i6 =>
  if ((((x1 * (8 : Int32)) + x2) * (5 : Int32)) + x3) < i6 then
    (gA h this 0 1).bind fun r7 =>
    (r7).bind fun a9 =>
    (aI h 0 a9 ((((x1 * (8 : Int32)) + x2) * (5 : Int32)) + x3)).bind fun i12 =>
    some i12
  else
  some (0 : Int32)
  else none
theorem o_B_amountOf {this : Nat} {h : Hp} {x1 : Int32} {x2 : Int32} {x3 : Int32} {r0 : Int32} (hf : f_B_amountOf this h x1 x2 x3 = some r0) : isO h this 0 = true := by
  unfold f_B_amountOf at hf
  exact (z_gd hf).1
set_option maxRecDepth 100000 in
set_option maxHeartbeats 4000000 in
theorem c_B_amountOf {l : Launch} {N0 : Nat} {D : va_G} {cs : Nat → ClassId} {this : Nat} {h : Hp} {x1 : Int32} {x2 : Int32} {x3 : Int32} {r0 : Int32} (hf : f_B_amountOf this h x1 x2 x3 = some r0) : Fn l N0 D cs y_B_amountOf b_B_amountOf 5 (some .int) 1 0 0 [.ref this, .int x1, .int x2, .int x3] h (some (.int r0)) h := by
  refine z_start (by decide) (Nat.le_of_ble_eq_true rfl) ?_
  intro p e s m args below meth c M hH hS ls hl
  unfold f_B_amountOf at hf
  obtain ⟨hO, hf⟩ := z_gd hf
  have hl : lv_has ls 5 [(0, .ref this), (1, .int x1), (2, .int x2), (3, .int x3)] := hl
  obtain ⟨H, hHe⟩ : ∃ H, H = s.heap := ⟨_, rfl⟩
  obtain ⟨locs, hLe⟩ : ∃ locs : List Loc, locs = [] := ⟨_, rfl⟩
  have hS : va_S (zA N0) s.heap H locs := by rw [hHe, hLe]; exact hS
  have hH : HH N0 D cs h H := by rw [hHe]; exact hH
  suffices hg : W p l e (zrm 1 0 0) s m args below meth c H locs 0 0 (MQ below (zQ N0 D cs (some (.int r0)) h) args s 0 0 (zA N0)) (F0 m 0 ls []) by rw [hHe, hLe] at hg; exact hg
  clear hHe hLe
  refine lv_iload_n M.x M.b d_B_amountOf_0 rfl (lv_at hl 1 rfl) ?_
  refine lv_bipush (v := (8 : Int32)) M.x M.b d_B_amountOf_1 rfl ?_
  refine lv_imul M.x M.b d_B_amountOf_3 ?_
  refine lv_iload_n M.x M.b d_B_amountOf_4 rfl (lv_at hl 2 rfl) ?_
  refine lv_iadd M.x M.b d_B_amountOf_5 ?_
  refine lv_iconst (v := (5 : Int32)) M.x M.b d_B_amountOf_6 rfl ?_
  refine lv_imul M.x M.b d_B_amountOf_7 ?_
  refine lv_iload_n M.x M.b d_B_amountOf_8 rfl (lv_at hl 3 rfl) ?_
  refine lv_iadd M.x M.b d_B_amountOf_9 ?_
  refine lv_istore (lv' := [(4, .int ((((x1 * (8 : Int32)) + x2) * (5 : Int32)) + x3)), (0, .ref this), (1, .int x1), (2, .int x2), (3, .int x3)]) M.x M.b d_B_amountOf_10 hl (by decide) rfl (fun ls hl => ?_)
  refine lv_iload M.x M.b d_B_amountOf_12 (lv_at hl 0 rfl) ?_
  refine lv_if_lt (tgt := 27) M.x M.b d_B_amountOf_14 (by decide) (fun c14 => ?_) (fun c14 => ?_)
  · replace hf := z_t c14 hf
    refine lv_iconst (v := (0 : Int32)) M.x M.b d_B_amountOf_27 rfl ?_
    refine lv_goto (tgt := 38) M.x M.b d_B_amountOf_28 (by decide) ?_
    obtain rfl := z_r1 hf
    exact z_iret M hH hS d_B_amountOf_38
  · replace hf := z_f c14 hf
    refine lv_iload M.x M.b d_B_amountOf_17 (lv_at hl 0 rfl) ?_
    refine lv_aload_n M.x M.b d_B_amountOf_19 rfl (lv_at hl 1 rfl) ?_
    replace hf := z_bind hf; obtain ⟨r1, e2, hf⟩ := hf
    refine z_get (ci := 0) (k := 1) M hH rfl (by decide) zinB q_46 (gA_spec e2) d_B_amountOf_20 ?_
    rcases r1 with _ | a3
    · exact absurd hf z_nb0
    replace hf := z_sb hf
    replace hf := z_bind hf; obtain ⟨i6, e5, hf⟩ := hf
    refine z_alen M hH e5 d_B_amountOf_23 ?_
    refine lv_icmp_lt (tgt := 31) M.x M.b d_B_amountOf_24 (by decide) (fun c13 => ?_) (fun c13 => ?_)
    · replace hf := z_t c13 hf
      refine lv_aload_n M.x M.b d_B_amountOf_31 rfl (lv_at hl 1 rfl) ?_
      replace hf := z_bind hf; obtain ⟨r7, e8, hf⟩ := hf
      refine z_get (ci := 0) (k := 1) M hH rfl (by decide) zinB q_46 (gA_spec e8) d_B_amountOf_32 ?_
      refine lv_iload M.x M.b d_B_amountOf_35 (lv_at hl 0 rfl) ?_
      rcases r7 with _ | a9
      · exact absurd hf z_nb0
      replace hf := z_sb hf
      replace hf := z_bind hf; obtain ⟨i12, e11, hf⟩ := hf
      refine z_iald M hH e11 d_B_amountOf_37 ?_
      obtain rfl := z_r1 hf
      exact z_iret M hH hS d_B_amountOf_38
    · replace hf := z_f c13 hf
      refine lv_iconst (v := (0 : Int32)) M.x M.b d_B_amountOf_27 rfl ?_
      refine lv_goto (tgt := 38) M.x M.b d_B_amountOf_28 (by decide) ?_
      obtain rfl := z_r1 hf
      exact z_iret M hH hS d_B_amountOf_38
def f_B_setAmount (this : Nat) (x1 : Int32) (x2 : Int32) (x3 : Int32) (x4 : Int32) (h : Hp) : Option (Hp) :=
  if isO h this 0 = true then
  if ((((x1 * (8 : Int32)) + x2) * (5 : Int32)) + x3) < 0 then
    some h
  else
  (gA h this 0 1).bind fun r1 =>
  (r1).bind fun a3 =>
  (aN h a3).bind fun i6 =>
  if i6 ≤ ((((x1 * (8 : Int32)) + x2) * (5 : Int32)) + x3) then
    some h
  else
  (gA h this 0 1).bind fun r7 =>
  (r7).bind fun a9 =>
  (sI h a9 ((((x1 * (8 : Int32)) + x2) * (5 : Int32)) + x3) x4).bind fun h12 =>
  some h12
  else none
theorem o_B_setAmount {this : Nat} {x1 : Int32} {x2 : Int32} {x3 : Int32} {x4 : Int32} {h : Hp} {h0 : Hp} (hf : f_B_setAmount this x1 x2 x3 x4 h = some h0) : isO h this 0 = true := by
  unfold f_B_setAmount at hf
  exact (z_gd hf).1
set_option maxRecDepth 100000 in
set_option maxHeartbeats 4000000 in
theorem c_B_setAmount {l : Launch} {N0 : Nat} {D : va_G} {cs : Nat → ClassId} {this : Nat} {x1 : Int32} {x2 : Int32} {x3 : Int32} {x4 : Int32} {h : Hp} {h0 : Hp} (hf : f_B_setAmount this x1 x2 x3 x4 h = some h0) : Fn l N0 D cs y_B_setAmount b_B_setAmount 6 (none) 1 0 0 [.ref this, .int x1, .int x2, .int x3, .int x4] h none h0 := by
  refine z_start (by decide) (Nat.le_of_ble_eq_true rfl) ?_
  intro p e s m args below meth c M hH hS ls hl
  unfold f_B_setAmount at hf
  obtain ⟨hO, hf⟩ := z_gd hf
  have hl : lv_has ls 6 [(0, .ref this), (1, .int x1), (2, .int x2), (3, .int x3), (4, .int x4)] := hl
  obtain ⟨H, hHe⟩ : ∃ H, H = s.heap := ⟨_, rfl⟩
  obtain ⟨locs, hLe⟩ : ∃ locs : List Loc, locs = [] := ⟨_, rfl⟩
  have hS : va_S (zA N0) s.heap H locs := by rw [hHe, hLe]; exact hS
  have hH : HH N0 D cs h H := by rw [hHe]; exact hH
  suffices hg : W p l e (zrm 1 0 0) s m args below meth c H locs 0 0 (MQ below (zQ N0 D cs none h0) args s 0 0 (zA N0)) (F0 m 0 ls []) by rw [hHe, hLe] at hg; exact hg
  clear hHe hLe
  refine lv_iload_n M.x M.b d_B_setAmount_0 rfl (lv_at hl 1 rfl) ?_
  refine lv_bipush (v := (8 : Int32)) M.x M.b d_B_setAmount_1 rfl ?_
  refine lv_imul M.x M.b d_B_setAmount_3 ?_
  refine lv_iload_n M.x M.b d_B_setAmount_4 rfl (lv_at hl 2 rfl) ?_
  refine lv_iadd M.x M.b d_B_setAmount_5 ?_
  refine lv_iconst (v := (5 : Int32)) M.x M.b d_B_setAmount_6 rfl ?_
  refine lv_imul M.x M.b d_B_setAmount_7 ?_
  refine lv_iload_n M.x M.b d_B_setAmount_8 rfl (lv_at hl 3 rfl) ?_
  refine lv_iadd M.x M.b d_B_setAmount_9 ?_
  refine lv_istore (lv' := [(5, .int ((((x1 * (8 : Int32)) + x2) * (5 : Int32)) + x3)), (0, .ref this), (1, .int x1), (2, .int x2), (3, .int x3), (4, .int x4)]) M.x M.b d_B_setAmount_10 hl (by decide) rfl (fun ls hl => ?_)
  refine lv_iload M.x M.b d_B_setAmount_12 (lv_at hl 0 rfl) ?_
  refine lv_if_lt (tgt := 36) M.x M.b d_B_setAmount_14 (by decide) (fun c14 => ?_) (fun c14 => ?_)
  · replace hf := z_t c14 hf
    obtain rfl := z_r1 hf
    exact z_vret M hH hS d_B_setAmount_36
  · replace hf := z_f c14 hf
    refine lv_iload M.x M.b d_B_setAmount_17 (lv_at hl 0 rfl) ?_
    refine lv_aload_n M.x M.b d_B_setAmount_19 rfl (lv_at hl 1 rfl) ?_
    replace hf := z_bind hf; obtain ⟨r1, e2, hf⟩ := hf
    refine z_get (ci := 0) (k := 1) M hH rfl (by decide) zinB q_46 (gA_spec e2) d_B_setAmount_20 ?_
    rcases r1 with _ | a3
    · exact absurd hf z_nb0
    replace hf := z_sb hf
    replace hf := z_bind hf; obtain ⟨i6, e5, hf⟩ := hf
    refine z_alen M hH e5 d_B_setAmount_23 ?_
    refine lv_icmp_ge (tgt := 36) M.x M.b d_B_setAmount_24 (by decide) (fun c13 => ?_) (fun c13 => ?_)
    · replace hf := z_t c13 hf
      obtain rfl := z_r1 hf
      exact z_vret M hH hS d_B_setAmount_36
    · replace hf := z_f c13 hf
      refine lv_aload_n M.x M.b d_B_setAmount_27 rfl (lv_at hl 1 rfl) ?_
      replace hf := z_bind hf; obtain ⟨r7, e8, hf⟩ := hf
      refine z_get (ci := 0) (k := 1) M hH rfl (by decide) zinB q_46 (gA_spec e8) d_B_setAmount_28 ?_
      refine lv_iload M.x M.b d_B_setAmount_31 (lv_at hl 0 rfl) ?_
      refine lv_iload M.x M.b d_B_setAmount_33 (lv_at hl 5 rfl) ?_
      rcases r7 with _ | a9
      · exact absurd hf z_nb0
      replace hf := z_sb hf
      replace hf := z_bind hf; obtain ⟨h12, e11, hf⟩ := hf
      refine z_iast M hH hS e11 d_B_setAmount_35 (fun H locs hH hS => ?_)
      obtain rfl := z_r1 hf
      exact z_vret M hH hS d_B_setAmount_36
def t_B_copyYear_2 (this : Nat) (k2 : Int32 → Int32 → Int32 → Hp → Option (Hp)) (x1 : Int32) (x2 : Int32) (x3 : Int32) (h : Hp) : Option (Hp) :=
  if (5 : Int32) ≤ x3 then
    some h
  else
  (f_B_priceOf this h x1 x3).bind fun i2 =>
  (f_B_setPrice this x2 x3 i2 h).bind fun h4 =>
  k2 x1 x2 (x3 + (1 : Int32)) h4
set_option maxRecDepth 100000 in
set_option maxHeartbeats 4000000 in
theorem v_B_copyYear_2 {p : Program} {l : Launch} {e : Env} {s : State} {m : MethodId} {args : Array Value} {below : List Frame} {meth : Method} {c : Code} {N0 : Nat} {D : va_G} {cs : Nat → ClassId} (M : ZC p s m args meth c "YearBaskets$Books" "copyYear" b_B_copyYear 4 (none) N0 D cs) (this : Nat) (k2 : Int32 → Int32 → Int32 → Hp → Option (Hp)) {h0 : Hp} (hk2 : ∀ (x1 : Int32) (x2 : Int32) (x3 : Int32) (h : Hp), k2 x1 x2 x3 h = some h0 → ZG p l e (zrm 2 0 0) s m args below meth c N0 D cs none h0 h 4 [(0, .ref this), (1, .int x1), (2, .int x2), (3, .int x3)] 2 []) (x1 : Int32) (x2 : Int32) (x3 : Int32) (h : Hp) (hf : t_B_copyYear_2 this k2 x1 x2 x3 h = some h0) : ZG p l e (zrm 2 0 0) s m args below meth c N0 D cs none h0 h 4 [(0, .ref this), (1, .int x1), (2, .int x2), (3, .int x3)] 2 [] := by
  intro H locs ls hH hS hl
  unfold t_B_copyYear_2 at hf
  refine lv_iload_n M.x M.b d_B_copyYear_2 rfl (lv_at hl 3 rfl) ?_
  refine lv_iconst (v := (5 : Int32)) M.x M.b d_B_copyYear_3 rfl ?_
  refine lv_icmp_ge (tgt := 25) M.x M.b d_B_copyYear_4 (by decide) (fun c5 => ?_) (fun c5 => ?_)
  · replace hf := z_t c5 hf
    obtain rfl := z_r1 hf
    exact z_vret M hH hS d_B_copyYear_25
  · replace hf := z_f c5 hf
    refine lv_aload_n M.x M.b d_B_copyYear_7 rfl (lv_at hl 0 rfl) ?_
    refine lv_iload_n M.x M.b d_B_copyYear_8 rfl (lv_at hl 2 rfl) ?_
    refine lv_iload_n M.x M.b d_B_copyYear_9 rfl (lv_at hl 3 rfl) ?_
    refine lv_aload_n M.x M.b d_B_copyYear_10 rfl (lv_at hl 0 rfl) ?_
    refine lv_iload_n M.x M.b d_B_copyYear_11 rfl (lv_at hl 1 rfl) ?_
    refine lv_iload_n M.x M.b d_B_copyYear_12 rfl (lv_at hl 3 rfl) ?_
    replace hf := z_bind hf; obtain ⟨i2, e1, hf⟩ := hf
    refine zk_V (ci := 0) (st1 := [.int i2, .int x3, .int x2, .ref this]) M hH hS (c_B_priceOf e1) rfl (o_B_priceOf e1) w_B_priceOf q_64 [.int x3, .int x2, .ref this] rfl ⟨Nat.le_of_ble_eq_true rfl, Nat.le_of_ble_eq_true rfl⟩ hl.1 rfl rfl (Nat.le_of_ble_eq_true rfl) d_B_copyYear_13 (fun H locs hH hS => ?_)
    replace hf := z_bind hf; obtain ⟨h4, e3, hf⟩ := hf
    refine zk_V (ci := 0) (st1 := []) M hH hS (c_B_setPrice e3) rfl (o_B_setPrice e3) w_B_setPrice q_63 [] rfl ⟨Nat.le_of_ble_eq_true rfl, Nat.le_of_ble_eq_true rfl⟩ hl.1 rfl rfl (Nat.le_of_ble_eq_true rfl) d_B_copyYear_16 (fun H locs hH hS => ?_)
    refine lv_iinc (v := (x3 + (1 : Int32))) (lv' := [(3, .int (x3 + (1 : Int32))), (0, .ref this), (1, .int x1), (2, .int x2)]) M.x M.b d_B_copyYear_19 hl (k := 3) rfl rfl (by decide) rfl (fun ls hl => ?_)
    refine lv_goto (tgt := 2) M.x M.b d_B_copyYear_22 (by decide) ?_
    exact hk2 _ _ _ _ hf H locs ls hH hS (lv_sub hl [1, 2, 3, 0] rfl)
def f_B_copyYear_2 (this : Nat) : Nat → Int32 → Int32 → Int32 → Hp → Option (Hp)
  | 0, _, _, _, _ => none
  | n + 1, x1, x2, x3, h => t_B_copyYear_2 this (f_B_copyYear_2 this n) x1 x2 x3 h
theorem w_B_copyYear_2 {p : Program} {l : Launch} {e : Env} {s : State} {m : MethodId} {args : Array Value} {below : List Frame} {meth : Method} {c : Code} {N0 : Nat} {D : va_G} {cs : Nat → ClassId} (M : ZC p s m args meth c "YearBaskets$Books" "copyYear" b_B_copyYear 4 (none) N0 D cs) (this : Nat)  {h0 : Hp}  : ∀ (n : Nat) (x1 : Int32) (x2 : Int32) (x3 : Int32) (h : Hp), f_B_copyYear_2 this n x1 x2 x3 h = some h0 → ZG p l e (zrm 2 0 0) s m args below meth c N0 D cs none h0 h 4 [(0, .ref this), (1, .int x1), (2, .int x2), (3, .int x3)] 2 [] := by
  intro n
  induction n with
  | zero => intro x1 x2 x3 h hf; exact absurd (show none = some _ from hf) (fun q => by cases q)
  | succ n ih => intro x1 x2 x3 h hf; exact v_B_copyYear_2 M this (f_B_copyYear_2 this n)  ih _ _ _ _ hf
def f_B_copyYear (this : Nat) (x1 : Int32) (x2 : Int32) (h : Hp) : Option (Hp) :=
  if isO h this 0 = true then
  f_B_copyYear_2 this FU x1 x2 (0 : Int32) h
  else none
theorem o_B_copyYear {this : Nat} {x1 : Int32} {x2 : Int32} {h : Hp} {h0 : Hp} (hf : f_B_copyYear this x1 x2 h = some h0) : isO h this 0 = true := by
  unfold f_B_copyYear at hf
  exact (z_gd hf).1
set_option maxRecDepth 100000 in
set_option maxHeartbeats 4000000 in
theorem c_B_copyYear {l : Launch} {N0 : Nat} {D : va_G} {cs : Nat → ClassId} {this : Nat} {x1 : Int32} {x2 : Int32} {h : Hp} {h0 : Hp} (hf : f_B_copyYear this x1 x2 h = some h0) : Fn l N0 D cs y_B_copyYear b_B_copyYear 4 (none) 2 0 0 [.ref this, .int x1, .int x2] h none h0 := by
  refine z_start (by decide) (Nat.le_of_ble_eq_true rfl) ?_
  intro p e s m args below meth c M hH hS ls hl
  unfold f_B_copyYear at hf
  obtain ⟨hO, hf⟩ := z_gd hf
  have hl : lv_has ls 4 [(0, .ref this), (1, .int x1), (2, .int x2)] := hl
  obtain ⟨H, hHe⟩ : ∃ H, H = s.heap := ⟨_, rfl⟩
  obtain ⟨locs, hLe⟩ : ∃ locs : List Loc, locs = [] := ⟨_, rfl⟩
  have hS : va_S (zA N0) s.heap H locs := by rw [hHe, hLe]; exact hS
  have hH : HH N0 D cs h H := by rw [hHe]; exact hH
  suffices hg : W p l e (zrm 2 0 0) s m args below meth c H locs 0 0 (MQ below (zQ N0 D cs none h0) args s 0 0 (zA N0)) (F0 m 0 ls []) by rw [hHe, hLe] at hg; exact hg
  clear hHe hLe
  refine lv_iconst (v := (0 : Int32)) M.x M.b d_B_copyYear_0 rfl ?_
  refine lv_istore_n (lv' := [(3, .int (0 : Int32)), (0, .ref this), (1, .int x1), (2, .int x2)]) M.x M.b d_B_copyYear_1 rfl hl (by decide) rfl (fun ls hl => ?_)
  exact w_B_copyYear_2 M this FU _ _ _ _ hf H locs ls hH hS (lv_sub hl [1, 2, 3, 0] rfl)
def t_B_doubleYear_2 (this : Nat) (k2 : Int32 → Int32 → Hp → Option (Hp)) (x1 : Int32) (x2 : Int32) (h : Hp) : Option (Hp) :=
  if (5 : Int32) ≤ x2 then
    some h
  else
  (f_B_priceOf this h x1 x2).bind fun i2 =>
  (f_B_setPrice this x1 x2 ((2 : Int32) * i2) h).bind fun h4 =>
  k2 x1 (x2 + (1 : Int32)) h4
set_option maxRecDepth 100000 in
set_option maxHeartbeats 4000000 in
theorem v_B_doubleYear_2 {p : Program} {l : Launch} {e : Env} {s : State} {m : MethodId} {args : Array Value} {below : List Frame} {meth : Method} {c : Code} {N0 : Nat} {D : va_G} {cs : Nat → ClassId} (M : ZC p s m args meth c "YearBaskets$Books" "doubleYear" b_B_doubleYear 3 (none) N0 D cs) (this : Nat) (k2 : Int32 → Int32 → Hp → Option (Hp)) {h0 : Hp} (hk2 : ∀ (x1 : Int32) (x2 : Int32) (h : Hp), k2 x1 x2 h = some h0 → ZG p l e (zrm 2 0 0) s m args below meth c N0 D cs none h0 h 3 [(0, .ref this), (1, .int x1), (2, .int x2)] 2 []) (x1 : Int32) (x2 : Int32) (h : Hp) (hf : t_B_doubleYear_2 this k2 x1 x2 h = some h0) : ZG p l e (zrm 2 0 0) s m args below meth c N0 D cs none h0 h 3 [(0, .ref this), (1, .int x1), (2, .int x2)] 2 [] := by
  intro H locs ls hH hS hl
  unfold t_B_doubleYear_2 at hf
  refine lv_iload_n M.x M.b d_B_doubleYear_2 rfl (lv_at hl 2 rfl) ?_
  refine lv_iconst (v := (5 : Int32)) M.x M.b d_B_doubleYear_3 rfl ?_
  refine lv_icmp_ge (tgt := 27) M.x M.b d_B_doubleYear_4 (by decide) (fun c5 => ?_) (fun c5 => ?_)
  · replace hf := z_t c5 hf
    obtain rfl := z_r1 hf
    exact z_vret M hH hS d_B_doubleYear_27
  · replace hf := z_f c5 hf
    refine lv_aload_n M.x M.b d_B_doubleYear_7 rfl (lv_at hl 0 rfl) ?_
    refine lv_iload_n M.x M.b d_B_doubleYear_8 rfl (lv_at hl 1 rfl) ?_
    refine lv_iload_n M.x M.b d_B_doubleYear_9 rfl (lv_at hl 2 rfl) ?_
    refine lv_iconst (v := (2 : Int32)) M.x M.b d_B_doubleYear_10 rfl ?_
    refine lv_aload_n M.x M.b d_B_doubleYear_11 rfl (lv_at hl 0 rfl) ?_
    refine lv_iload_n M.x M.b d_B_doubleYear_12 rfl (lv_at hl 1 rfl) ?_
    refine lv_iload_n M.x M.b d_B_doubleYear_13 rfl (lv_at hl 2 rfl) ?_
    replace hf := z_bind hf; obtain ⟨i2, e1, hf⟩ := hf
    refine zk_V (ci := 0) (st1 := [.int i2, .int (2 : Int32), .int x2, .int x1, .ref this]) M hH hS (c_B_priceOf e1) rfl (o_B_priceOf e1) w_B_priceOf q_64 [.int (2 : Int32), .int x2, .int x1, .ref this] rfl ⟨Nat.le_of_ble_eq_true rfl, Nat.le_of_ble_eq_true rfl⟩ hl.1 rfl rfl (Nat.le_of_ble_eq_true rfl) d_B_doubleYear_14 (fun H locs hH hS => ?_)
    refine lv_imul M.x M.b d_B_doubleYear_17 ?_
    replace hf := z_bind hf; obtain ⟨h4, e3, hf⟩ := hf
    refine zk_V (ci := 0) (st1 := []) M hH hS (c_B_setPrice e3) rfl (o_B_setPrice e3) w_B_setPrice q_63 [] rfl ⟨Nat.le_of_ble_eq_true rfl, Nat.le_of_ble_eq_true rfl⟩ hl.1 rfl rfl (Nat.le_of_ble_eq_true rfl) d_B_doubleYear_18 (fun H locs hH hS => ?_)
    refine lv_iinc (v := (x2 + (1 : Int32))) (lv' := [(2, .int (x2 + (1 : Int32))), (0, .ref this), (1, .int x1)]) M.x M.b d_B_doubleYear_21 hl (k := 2) rfl rfl (by decide) rfl (fun ls hl => ?_)
    refine lv_goto (tgt := 2) M.x M.b d_B_doubleYear_24 (by decide) ?_
    exact hk2 _ _ _ hf H locs ls hH hS (lv_sub hl [1, 2, 0] rfl)
def f_B_doubleYear_2 (this : Nat) : Nat → Int32 → Int32 → Hp → Option (Hp)
  | 0, _, _, _ => none
  | n + 1, x1, x2, h => t_B_doubleYear_2 this (f_B_doubleYear_2 this n) x1 x2 h
theorem w_B_doubleYear_2 {p : Program} {l : Launch} {e : Env} {s : State} {m : MethodId} {args : Array Value} {below : List Frame} {meth : Method} {c : Code} {N0 : Nat} {D : va_G} {cs : Nat → ClassId} (M : ZC p s m args meth c "YearBaskets$Books" "doubleYear" b_B_doubleYear 3 (none) N0 D cs) (this : Nat)  {h0 : Hp}  : ∀ (n : Nat) (x1 : Int32) (x2 : Int32) (h : Hp), f_B_doubleYear_2 this n x1 x2 h = some h0 → ZG p l e (zrm 2 0 0) s m args below meth c N0 D cs none h0 h 3 [(0, .ref this), (1, .int x1), (2, .int x2)] 2 [] := by
  intro n
  induction n with
  | zero => intro x1 x2 h hf; exact absurd (show none = some _ from hf) (fun q => by cases q)
  | succ n ih => intro x1 x2 h hf; exact v_B_doubleYear_2 M this (f_B_doubleYear_2 this n)  ih _ _ _ hf
def f_B_doubleYear (this : Nat) (x1 : Int32) (h : Hp) : Option (Hp) :=
  if isO h this 0 = true then
  f_B_doubleYear_2 this FU x1 (0 : Int32) h
  else none
theorem o_B_doubleYear {this : Nat} {x1 : Int32} {h : Hp} {h0 : Hp} (hf : f_B_doubleYear this x1 h = some h0) : isO h this 0 = true := by
  unfold f_B_doubleYear at hf
  exact (z_gd hf).1
set_option maxRecDepth 100000 in
set_option maxHeartbeats 4000000 in
theorem c_B_doubleYear {l : Launch} {N0 : Nat} {D : va_G} {cs : Nat → ClassId} {this : Nat} {x1 : Int32} {h : Hp} {h0 : Hp} (hf : f_B_doubleYear this x1 h = some h0) : Fn l N0 D cs y_B_doubleYear b_B_doubleYear 3 (none) 2 0 0 [.ref this, .int x1] h none h0 := by
  refine z_start (by decide) (Nat.le_of_ble_eq_true rfl) ?_
  intro p e s m args below meth c M hH hS ls hl
  unfold f_B_doubleYear at hf
  obtain ⟨hO, hf⟩ := z_gd hf
  have hl : lv_has ls 3 [(0, .ref this), (1, .int x1)] := hl
  obtain ⟨H, hHe⟩ : ∃ H, H = s.heap := ⟨_, rfl⟩
  obtain ⟨locs, hLe⟩ : ∃ locs : List Loc, locs = [] := ⟨_, rfl⟩
  have hS : va_S (zA N0) s.heap H locs := by rw [hHe, hLe]; exact hS
  have hH : HH N0 D cs h H := by rw [hHe]; exact hH
  suffices hg : W p l e (zrm 2 0 0) s m args below meth c H locs 0 0 (MQ below (zQ N0 D cs none h0) args s 0 0 (zA N0)) (F0 m 0 ls []) by rw [hHe, hLe] at hg; exact hg
  clear hHe hLe
  refine lv_iconst (v := (0 : Int32)) M.x M.b d_B_doubleYear_0 rfl ?_
  refine lv_istore_n (lv' := [(2, .int (0 : Int32)), (0, .ref this), (1, .int x1)]) M.x M.b d_B_doubleYear_1 rfl hl (by decide) rfl (fun ls hl => ?_)
  exact w_B_doubleYear_2 M this FU _ _ _ hf H locs ls hH hS (lv_sub hl [1, 2, 0] rfl)
def f_B_doubleUnit_47 (this : Nat) (k2 : Int32 → Int32 → Int32 → Hp → Option (Hp)) (k25 : Int32 → Int32 → Int32 → Int32 → Hp → Option (Hp)) (s1 : Int32) (s2 : Int32) (s3 : Int32) (s4 : Int32) (x1 : Int32) (x2 : Int32) (x3 : Int32) (x4 : Int32) (h : Hp) : Option (Hp) :=
  (f_B_amountOf this h x2 x3 x4).bind fun i2 =>
  (f_B_setAmount this s1 s2 s3 (s4 * i2) h).bind fun h4 =>
  k25 x1 x2 x3 (x4 + (1 : Int32)) h4
set_option maxRecDepth 100000 in
set_option maxHeartbeats 4000000 in
theorem w_B_doubleUnit_47 {p : Program} {l : Launch} {e : Env} {s : State} {m : MethodId} {args : Array Value} {below : List Frame} {meth : Method} {c : Code} {N0 : Nat} {D : va_G} {cs : Nat → ClassId} (M : ZC p s m args meth c "YearBaskets$Books" "doubleUnit" b_B_doubleUnit 5 (none) N0 D cs) (this : Nat) (k2 : Int32 → Int32 → Int32 → Hp → Option (Hp)) (k25 : Int32 → Int32 → Int32 → Int32 → Hp → Option (Hp)) {h0 : Hp} (hk2 : ∀ (x1 : Int32) (x2 : Int32) (x3 : Int32) (h : Hp), k2 x1 x2 x3 h = some h0 → ZG p l e (zrm 2 0 0) s m args below meth c N0 D cs none h0 h 5 [(0, .ref this), (1, .int x1), (2, .int x2), (3, .int x3)] 2 []) (hk25 : ∀ (x1 : Int32) (x2 : Int32) (x3 : Int32) (x4 : Int32) (h : Hp), k25 x1 x2 x3 x4 h = some h0 → ZG p l e (zrm 2 0 0) s m args below meth c N0 D cs none h0 h 5 [(0, .ref this), (1, .int x1), (2, .int x2), (3, .int x3), (4, .int x4)] 25 []) (s1 : Int32) (s2 : Int32) (s3 : Int32) (s4 : Int32) (x1 : Int32) (x2 : Int32) (x3 : Int32) (x4 : Int32) (h : Hp) (hf : f_B_doubleUnit_47 this k2 k25 s1 s2 s3 s4 x1 x2 x3 x4 h = some h0) : ZG p l e (zrm 2 0 0) s m args below meth c N0 D cs none h0 h 5 [(0, .ref this), (1, .int x1), (2, .int x2), (3, .int x3), (4, .int x4)] 47 [.int s4, .int s3, .int s2, .int s1, .ref this] := by
  intro H locs ls hH hS hl
  unfold f_B_doubleUnit_47 at hf
  refine lv_aload_n M.x M.b d_B_doubleUnit_47 rfl (lv_at hl 0 rfl) ?_
  refine lv_iload_n M.x M.b d_B_doubleUnit_48 rfl (lv_at hl 2 rfl) ?_
  refine lv_iload_n M.x M.b d_B_doubleUnit_49 rfl (lv_at hl 3 rfl) ?_
  refine lv_iload M.x M.b d_B_doubleUnit_50 (lv_at hl 4 rfl) ?_
  replace hf := z_bind hf; obtain ⟨i2, e1, hf⟩ := hf
  refine zk_V (ci := 0) (st1 := [.int i2, .int s4, .int s3, .int s2, .int s1, .ref this]) M hH hS (c_B_amountOf e1) rfl (o_B_amountOf e1) w_B_amountOf q_72 [.int s4, .int s3, .int s2, .int s1, .ref this] rfl ⟨Nat.le_of_ble_eq_true rfl, Nat.le_of_ble_eq_true rfl⟩ hl.1 rfl rfl (Nat.le_of_ble_eq_true rfl) d_B_doubleUnit_52 (fun H locs hH hS => ?_)
  refine lv_imul M.x M.b d_B_doubleUnit_55 ?_
  replace hf := z_bind hf; obtain ⟨h4, e3, hf⟩ := hf
  refine zk_V (ci := 0) (st1 := []) M hH hS (c_B_setAmount e3) rfl (o_B_setAmount e3) w_B_setAmount q_71 [] rfl ⟨Nat.le_of_ble_eq_true rfl, Nat.le_of_ble_eq_true rfl⟩ hl.1 rfl rfl (Nat.le_of_ble_eq_true rfl) d_B_doubleUnit_56 (fun H locs hH hS => ?_)
  refine lv_iinc (v := (x4 + (1 : Int32))) (lv' := [(4, .int (x4 + (1 : Int32))), (0, .ref this), (1, .int x1), (2, .int x2), (3, .int x3)]) M.x M.b d_B_doubleUnit_59 hl (k := 4) rfl rfl (by decide) rfl (fun ls hl => ?_)
  refine lv_goto (tgt := 25) M.x M.b d_B_doubleUnit_62 (by decide) ?_
  exact hk25 _ _ _ _ _ hf H locs ls hH hS (lv_sub hl [1, 2, 3, 4, 0] rfl)
def t_B_doubleUnit_25 (this : Nat) (k2 : Int32 → Int32 → Int32 → Hp → Option (Hp)) (k25 : Int32 → Int32 → Int32 → Int32 → Hp → Option (Hp)) (x1 : Int32) (x2 : Int32) (x3 : Int32) (x4 : Int32) (h : Hp) : Option (Hp) :=
  if (5 : Int32) ≤ x4 then
    k2 x1 x2 (x3 + (1 : Int32)) h
  else
  if x4 = x1 then
    f_B_doubleUnit_47 this k2 k25 x2 x3 x4 (1 : Int32) x1 x2 x3 x4 h
  else
  f_B_doubleUnit_47 this k2 k25 x2 x3 x4 (2 : Int32) x1 x2 x3 x4 h
set_option maxRecDepth 100000 in
set_option maxHeartbeats 4000000 in
theorem v_B_doubleUnit_25 {p : Program} {l : Launch} {e : Env} {s : State} {m : MethodId} {args : Array Value} {below : List Frame} {meth : Method} {c : Code} {N0 : Nat} {D : va_G} {cs : Nat → ClassId} (M : ZC p s m args meth c "YearBaskets$Books" "doubleUnit" b_B_doubleUnit 5 (none) N0 D cs) (this : Nat) (k2 : Int32 → Int32 → Int32 → Hp → Option (Hp)) (k25 : Int32 → Int32 → Int32 → Int32 → Hp → Option (Hp)) {h0 : Hp} (hk2 : ∀ (x1 : Int32) (x2 : Int32) (x3 : Int32) (h : Hp), k2 x1 x2 x3 h = some h0 → ZG p l e (zrm 2 0 0) s m args below meth c N0 D cs none h0 h 5 [(0, .ref this), (1, .int x1), (2, .int x2), (3, .int x3)] 2 []) (hk25 : ∀ (x1 : Int32) (x2 : Int32) (x3 : Int32) (x4 : Int32) (h : Hp), k25 x1 x2 x3 x4 h = some h0 → ZG p l e (zrm 2 0 0) s m args below meth c N0 D cs none h0 h 5 [(0, .ref this), (1, .int x1), (2, .int x2), (3, .int x3), (4, .int x4)] 25 []) (x1 : Int32) (x2 : Int32) (x3 : Int32) (x4 : Int32) (h : Hp) (hf : t_B_doubleUnit_25 this k2 k25 x1 x2 x3 x4 h = some h0) : ZG p l e (zrm 2 0 0) s m args below meth c N0 D cs none h0 h 5 [(0, .ref this), (1, .int x1), (2, .int x2), (3, .int x3), (4, .int x4)] 25 [] := by
  intro H locs ls hH hS hl
  unfold t_B_doubleUnit_25 at hf
  refine lv_iload M.x M.b d_B_doubleUnit_25 (lv_at hl 4 rfl) ?_
  refine lv_iconst (v := (5 : Int32)) M.x M.b d_B_doubleUnit_27 rfl ?_
  refine lv_icmp_ge (tgt := 65) M.x M.b d_B_doubleUnit_28 (by decide) (fun c6 => ?_) (fun c6 => ?_)
  · replace hf := z_t c6 hf
    refine lv_iinc (v := (x3 + (1 : Int32))) (lv' := [(3, .int (x3 + (1 : Int32))), (0, .ref this), (1, .int x1), (2, .int x2), (4, .int x4)]) M.x M.b d_B_doubleUnit_65 hl (k := 3) rfl rfl (by decide) rfl (fun ls hl => ?_)
    refine lv_goto (tgt := 2) M.x M.b d_B_doubleUnit_68 (by decide) ?_
    exact hk2 _ _ _ _ hf H locs ls hH hS (lv_sub hl [1, 2, 3, 0] rfl)
  · replace hf := z_f c6 hf
    refine lv_aload_n M.x M.b d_B_doubleUnit_31 rfl (lv_at hl 0 rfl) ?_
    refine lv_iload_n M.x M.b d_B_doubleUnit_32 rfl (lv_at hl 2 rfl) ?_
    refine lv_iload_n M.x M.b d_B_doubleUnit_33 rfl (lv_at hl 3 rfl) ?_
    refine lv_iload M.x M.b d_B_doubleUnit_34 (lv_at hl 4 rfl) ?_
    refine lv_iload M.x M.b d_B_doubleUnit_36 (lv_at hl 4 rfl) ?_
    refine lv_iload_n M.x M.b d_B_doubleUnit_38 rfl (lv_at hl 1 rfl) ?_
    refine lv_icmp_ne (tgt := 46) M.x M.b d_B_doubleUnit_39 (by decide) (fun c5 => ?_) (fun c5 => ?_)
    · replace hf := z_f c5 hf
      refine lv_iconst (v := (2 : Int32)) M.x M.b d_B_doubleUnit_46 rfl ?_
      exact w_B_doubleUnit_47 M this k2 k25 hk2 hk25 _ _ _ _ _ _ _ _ _ hf H locs ls hH hS (lv_sub hl [0, 1, 2, 3, 4] rfl)
    · replace hf := z_t c5 hf
      refine lv_iconst (v := (1 : Int32)) M.x M.b d_B_doubleUnit_42 rfl ?_
      refine lv_goto (tgt := 47) M.x M.b d_B_doubleUnit_43 (by decide) ?_
      exact w_B_doubleUnit_47 M this k2 k25 hk2 hk25 _ _ _ _ _ _ _ _ _ hf H locs ls hH hS (lv_sub hl [0, 1, 2, 3, 4] rfl)
def f_B_doubleUnit_25 (this : Nat) (k2 : Int32 → Int32 → Int32 → Hp → Option (Hp)) : Nat → Int32 → Int32 → Int32 → Int32 → Hp → Option (Hp)
  | 0, _, _, _, _, _ => none
  | n + 1, x1, x2, x3, x4, h => t_B_doubleUnit_25 this k2 (f_B_doubleUnit_25 this k2 n) x1 x2 x3 x4 h
theorem w_B_doubleUnit_25 {p : Program} {l : Launch} {e : Env} {s : State} {m : MethodId} {args : Array Value} {below : List Frame} {meth : Method} {c : Code} {N0 : Nat} {D : va_G} {cs : Nat → ClassId} (M : ZC p s m args meth c "YearBaskets$Books" "doubleUnit" b_B_doubleUnit 5 (none) N0 D cs) (this : Nat) (k2 : Int32 → Int32 → Int32 → Hp → Option (Hp)) {h0 : Hp} (hk2 : ∀ (x1 : Int32) (x2 : Int32) (x3 : Int32) (h : Hp), k2 x1 x2 x3 h = some h0 → ZG p l e (zrm 2 0 0) s m args below meth c N0 D cs none h0 h 5 [(0, .ref this), (1, .int x1), (2, .int x2), (3, .int x3)] 2 []) : ∀ (n : Nat) (x1 : Int32) (x2 : Int32) (x3 : Int32) (x4 : Int32) (h : Hp), f_B_doubleUnit_25 this k2 n x1 x2 x3 x4 h = some h0 → ZG p l e (zrm 2 0 0) s m args below meth c N0 D cs none h0 h 5 [(0, .ref this), (1, .int x1), (2, .int x2), (3, .int x3), (4, .int x4)] 25 [] := by
  intro n
  induction n with
  | zero => intro x1 x2 x3 x4 h hf; exact absurd (show none = some _ from hf) (fun q => by cases q)
  | succ n ih => intro x1 x2 x3 x4 h hf; exact v_B_doubleUnit_25 M this k2 (f_B_doubleUnit_25 this k2 n) hk2 ih _ _ _ _ _ hf
def t_B_doubleUnit_2 (this : Nat) (k2 : Int32 → Int32 → Int32 → Hp → Option (Hp)) (x1 : Int32) (x2 : Int32) (x3 : Int32) (h : Hp) : Option (Hp) :=
  if (8 : Int32) ≤ x3 then
    some h
  else
  (f_B_priceOf this h x3 x1).bind fun i8 =>
  (f_B_setPrice this x3 x1 ((2 : Int32) * i8) h).bind fun h10 =>
  f_B_doubleUnit_25 this k2 FU x1 x2 x3 (0 : Int32) h10
set_option maxRecDepth 100000 in
set_option maxHeartbeats 4000000 in
theorem v_B_doubleUnit_2 {p : Program} {l : Launch} {e : Env} {s : State} {m : MethodId} {args : Array Value} {below : List Frame} {meth : Method} {c : Code} {N0 : Nat} {D : va_G} {cs : Nat → ClassId} (M : ZC p s m args meth c "YearBaskets$Books" "doubleUnit" b_B_doubleUnit 5 (none) N0 D cs) (this : Nat) (k2 : Int32 → Int32 → Int32 → Hp → Option (Hp)) {h0 : Hp} (hk2 : ∀ (x1 : Int32) (x2 : Int32) (x3 : Int32) (h : Hp), k2 x1 x2 x3 h = some h0 → ZG p l e (zrm 2 0 0) s m args below meth c N0 D cs none h0 h 5 [(0, .ref this), (1, .int x1), (2, .int x2), (3, .int x3)] 2 []) (x1 : Int32) (x2 : Int32) (x3 : Int32) (h : Hp) (hf : t_B_doubleUnit_2 this k2 x1 x2 x3 h = some h0) : ZG p l e (zrm 2 0 0) s m args below meth c N0 D cs none h0 h 5 [(0, .ref this), (1, .int x1), (2, .int x2), (3, .int x3)] 2 [] := by
  intro H locs ls hH hS hl
  unfold t_B_doubleUnit_2 at hf
  refine lv_iload_n M.x M.b d_B_doubleUnit_2 rfl (lv_at hl 3 rfl) ?_
  refine lv_bipush (v := (8 : Int32)) M.x M.b d_B_doubleUnit_3 rfl ?_
  refine lv_icmp_ge (tgt := 71) M.x M.b d_B_doubleUnit_5 (by decide) (fun c11 => ?_) (fun c11 => ?_)
  · replace hf := z_t c11 hf
    obtain rfl := z_r1 hf
    exact z_vret M hH hS d_B_doubleUnit_71
  · replace hf := z_f c11 hf
    refine lv_aload_n M.x M.b d_B_doubleUnit_8 rfl (lv_at hl 0 rfl) ?_
    refine lv_iload_n M.x M.b d_B_doubleUnit_9 rfl (lv_at hl 3 rfl) ?_
    refine lv_iload_n M.x M.b d_B_doubleUnit_10 rfl (lv_at hl 1 rfl) ?_
    refine lv_iconst (v := (2 : Int32)) M.x M.b d_B_doubleUnit_11 rfl ?_
    refine lv_aload_n M.x M.b d_B_doubleUnit_12 rfl (lv_at hl 0 rfl) ?_
    refine lv_iload_n M.x M.b d_B_doubleUnit_13 rfl (lv_at hl 3 rfl) ?_
    refine lv_iload_n M.x M.b d_B_doubleUnit_14 rfl (lv_at hl 1 rfl) ?_
    replace hf := z_bind hf; obtain ⟨i8, e7, hf⟩ := hf
    refine zk_V (ci := 0) (st1 := [.int i8, .int (2 : Int32), .int x1, .int x3, .ref this]) M hH hS (c_B_priceOf e7) rfl (o_B_priceOf e7) w_B_priceOf q_64 [.int (2 : Int32), .int x1, .int x3, .ref this] rfl ⟨Nat.le_of_ble_eq_true rfl, Nat.le_of_ble_eq_true rfl⟩ hl.1 rfl rfl (Nat.le_of_ble_eq_true rfl) d_B_doubleUnit_15 (fun H locs hH hS => ?_)
    refine lv_imul M.x M.b d_B_doubleUnit_18 ?_
    replace hf := z_bind hf; obtain ⟨h10, e9, hf⟩ := hf
    refine zk_V (ci := 0) (st1 := []) M hH hS (c_B_setPrice e9) rfl (o_B_setPrice e9) w_B_setPrice q_63 [] rfl ⟨Nat.le_of_ble_eq_true rfl, Nat.le_of_ble_eq_true rfl⟩ hl.1 rfl rfl (Nat.le_of_ble_eq_true rfl) d_B_doubleUnit_19 (fun H locs hH hS => ?_)
    refine lv_iconst (v := (0 : Int32)) M.x M.b d_B_doubleUnit_22 rfl ?_
    refine lv_istore (lv' := [(4, .int (0 : Int32)), (0, .ref this), (1, .int x1), (2, .int x2), (3, .int x3)]) M.x M.b d_B_doubleUnit_23 hl (by decide) rfl (fun ls hl => ?_)
    exact w_B_doubleUnit_25 M this k2 hk2 FU _ _ _ _ _ hf H locs ls hH hS (lv_sub hl [1, 2, 3, 4, 0] rfl)
def f_B_doubleUnit_2 (this : Nat) : Nat → Int32 → Int32 → Int32 → Hp → Option (Hp)
  | 0, _, _, _, _ => none
  | n + 1, x1, x2, x3, h => t_B_doubleUnit_2 this (f_B_doubleUnit_2 this n) x1 x2 x3 h
theorem w_B_doubleUnit_2 {p : Program} {l : Launch} {e : Env} {s : State} {m : MethodId} {args : Array Value} {below : List Frame} {meth : Method} {c : Code} {N0 : Nat} {D : va_G} {cs : Nat → ClassId} (M : ZC p s m args meth c "YearBaskets$Books" "doubleUnit" b_B_doubleUnit 5 (none) N0 D cs) (this : Nat)  {h0 : Hp}  : ∀ (n : Nat) (x1 : Int32) (x2 : Int32) (x3 : Int32) (h : Hp), f_B_doubleUnit_2 this n x1 x2 x3 h = some h0 → ZG p l e (zrm 2 0 0) s m args below meth c N0 D cs none h0 h 5 [(0, .ref this), (1, .int x1), (2, .int x2), (3, .int x3)] 2 [] := by
  intro n
  induction n with
  | zero => intro x1 x2 x3 h hf; exact absurd (show none = some _ from hf) (fun q => by cases q)
  | succ n ih => intro x1 x2 x3 h hf; exact v_B_doubleUnit_2 M this (f_B_doubleUnit_2 this n)  ih _ _ _ _ hf
def f_B_doubleUnit (this : Nat) (x1 : Int32) (x2 : Int32) (h : Hp) : Option (Hp) :=
  if isO h this 0 = true then
  f_B_doubleUnit_2 this FU x1 x2 (0 : Int32) h
  else none
theorem o_B_doubleUnit {this : Nat} {x1 : Int32} {x2 : Int32} {h : Hp} {h0 : Hp} (hf : f_B_doubleUnit this x1 x2 h = some h0) : isO h this 0 = true := by
  unfold f_B_doubleUnit at hf
  exact (z_gd hf).1
set_option maxRecDepth 100000 in
set_option maxHeartbeats 4000000 in
theorem c_B_doubleUnit {l : Launch} {N0 : Nat} {D : va_G} {cs : Nat → ClassId} {this : Nat} {x1 : Int32} {x2 : Int32} {h : Hp} {h0 : Hp} (hf : f_B_doubleUnit this x1 x2 h = some h0) : Fn l N0 D cs y_B_doubleUnit b_B_doubleUnit 5 (none) 2 0 0 [.ref this, .int x1, .int x2] h none h0 := by
  refine z_start (by decide) (Nat.le_of_ble_eq_true rfl) ?_
  intro p e s m args below meth c M hH hS ls hl
  unfold f_B_doubleUnit at hf
  obtain ⟨hO, hf⟩ := z_gd hf
  have hl : lv_has ls 5 [(0, .ref this), (1, .int x1), (2, .int x2)] := hl
  obtain ⟨H, hHe⟩ : ∃ H, H = s.heap := ⟨_, rfl⟩
  obtain ⟨locs, hLe⟩ : ∃ locs : List Loc, locs = [] := ⟨_, rfl⟩
  have hS : va_S (zA N0) s.heap H locs := by rw [hHe, hLe]; exact hS
  have hH : HH N0 D cs h H := by rw [hHe]; exact hH
  suffices hg : W p l e (zrm 2 0 0) s m args below meth c H locs 0 0 (MQ below (zQ N0 D cs none h0) args s 0 0 (zA N0)) (F0 m 0 ls []) by rw [hHe, hLe] at hg; exact hg
  clear hHe hLe
  refine lv_iconst (v := (0 : Int32)) M.x M.b d_B_doubleUnit_0 rfl ?_
  refine lv_istore_n (lv' := [(3, .int (0 : Int32)), (0, .ref this), (1, .int x1), (2, .int x2)]) M.x M.b d_B_doubleUnit_1 rfl hl (by decide) rfl (fun ls hl => ?_)
  exact w_B_doubleUnit_2 M this FU _ _ _ _ hf H locs ls hH hS (lv_sub hl [1, 2, 3, 0] rfl)
def f_B_goodsPricedIn_24 (this : Nat) (h : Hp) (k4 : Int32 → Int32 → Int32 → Option (Int32)) (x1 : Int32) (x2 : Int32) (x3 : Int32) : Option (Int32) :=
  k4 x1 x2 (x3 + (1 : Int32))
set_option maxRecDepth 100000 in
set_option maxHeartbeats 4000000 in
theorem w_B_goodsPricedIn_24 {p : Program} {l : Launch} {e : Env} {s : State} {m : MethodId} {args : Array Value} {below : List Frame} {meth : Method} {c : Code} {N0 : Nat} {D : va_G} {cs : Nat → ClassId} (M : ZC p s m args meth c "YearBaskets$Books" "goodsPricedIn" b_B_goodsPricedIn 4 (some .int) N0 D cs) (this : Nat) (h : Hp) (k4 : Int32 → Int32 → Int32 → Option (Int32)) {r0 : Int32} (hk4 : ∀ (x1 : Int32) (x2 : Int32) (x3 : Int32), k4 x1 x2 x3 = some r0 → ZG p l e (zrm 2 0 0) s m args below meth c N0 D cs (some (.int r0)) h h 4 [(0, .ref this), (1, .int x1), (2, .int x2), (3, .int x3)] 4 []) (x1 : Int32) (x2 : Int32) (x3 : Int32) (hf : f_B_goodsPricedIn_24 this h k4 x1 x2 x3 = some r0) : ZG p l e (zrm 2 0 0) s m args below meth c N0 D cs (some (.int r0)) h h 4 [(0, .ref this), (1, .int x1), (2, .int x2), (3, .int x3)] 24 [] := by
  intro H locs ls hH hS hl
  unfold f_B_goodsPricedIn_24 at hf
  refine lv_iinc (v := (x3 + (1 : Int32))) (lv' := [(3, .int (x3 + (1 : Int32))), (0, .ref this), (1, .int x1), (2, .int x2)]) M.x M.b d_B_goodsPricedIn_24 hl (k := 3) rfl rfl (by decide) rfl (fun ls hl => ?_)
  refine lv_goto (tgt := 4) M.x M.b d_B_goodsPricedIn_27 (by decide) ?_
  exact hk4 _ _ _ hf H locs ls hH hS (lv_sub hl [1, 2, 3, 0] rfl)
def t_B_goodsPricedIn_4 (this : Nat) (h : Hp) (k4 : Int32 → Int32 → Int32 → Option (Int32)) (x1 : Int32) (x2 : Int32) (x3 : Int32) : Option (Int32) :=
  if (5 : Int32) ≤ x3 then
    some x2
  else
  (f_B_priceOf this h x1 x3).bind fun i2 =>
  if i2 ≤ 0 then
    f_B_goodsPricedIn_24 this h k4 x1 x2 x3
  else
  f_B_goodsPricedIn_24 this h k4 x1 (x2 ||| ((1 : Int32) <<< (x3 &&& 31))) x3
set_option maxRecDepth 100000 in
set_option maxHeartbeats 4000000 in
theorem v_B_goodsPricedIn_4 {p : Program} {l : Launch} {e : Env} {s : State} {m : MethodId} {args : Array Value} {below : List Frame} {meth : Method} {c : Code} {N0 : Nat} {D : va_G} {cs : Nat → ClassId} (M : ZC p s m args meth c "YearBaskets$Books" "goodsPricedIn" b_B_goodsPricedIn 4 (some .int) N0 D cs) (this : Nat) (h : Hp) (k4 : Int32 → Int32 → Int32 → Option (Int32)) {r0 : Int32} (hk4 : ∀ (x1 : Int32) (x2 : Int32) (x3 : Int32), k4 x1 x2 x3 = some r0 → ZG p l e (zrm 2 0 0) s m args below meth c N0 D cs (some (.int r0)) h h 4 [(0, .ref this), (1, .int x1), (2, .int x2), (3, .int x3)] 4 []) (x1 : Int32) (x2 : Int32) (x3 : Int32) (hf : t_B_goodsPricedIn_4 this h k4 x1 x2 x3 = some r0) : ZG p l e (zrm 2 0 0) s m args below meth c N0 D cs (some (.int r0)) h h 4 [(0, .ref this), (1, .int x1), (2, .int x2), (3, .int x3)] 4 [] := by
  intro H locs ls hH hS hl
  unfold t_B_goodsPricedIn_4 at hf
  refine lv_iload_n M.x M.b d_B_goodsPricedIn_4 rfl (lv_at hl 3 rfl) ?_
  refine lv_iconst (v := (5 : Int32)) M.x M.b d_B_goodsPricedIn_5 rfl ?_
  refine lv_icmp_ge (tgt := 30) M.x M.b d_B_goodsPricedIn_6 (by decide) (fun c4 => ?_) (fun c4 => ?_)
  · replace hf := z_t c4 hf
    refine lv_iload_n M.x M.b d_B_goodsPricedIn_30 rfl (lv_at hl 2 rfl) ?_
    obtain rfl := z_r1 hf
    exact z_iret M hH hS d_B_goodsPricedIn_31
  · replace hf := z_f c4 hf
    refine lv_aload_n M.x M.b d_B_goodsPricedIn_9 rfl (lv_at hl 0 rfl) ?_
    refine lv_iload_n M.x M.b d_B_goodsPricedIn_10 rfl (lv_at hl 1 rfl) ?_
    refine lv_iload_n M.x M.b d_B_goodsPricedIn_11 rfl (lv_at hl 3 rfl) ?_
    replace hf := z_bind hf; obtain ⟨i2, e1, hf⟩ := hf
    refine zk_V (ci := 0) (st1 := [.int i2]) M hH hS (c_B_priceOf e1) rfl (o_B_priceOf e1) w_B_priceOf q_64 [] rfl ⟨Nat.le_of_ble_eq_true rfl, Nat.le_of_ble_eq_true rfl⟩ hl.1 rfl rfl (Nat.le_of_ble_eq_true rfl) d_B_goodsPricedIn_12 (fun H locs hH hS => ?_)
    refine lv_if_le (tgt := 24) M.x M.b d_B_goodsPricedIn_15 (by decide) (fun c3 => ?_) (fun c3 => ?_)
    · replace hf := z_t c3 hf
      exact w_B_goodsPricedIn_24 M this h k4 hk4 _ _ _ hf H locs ls hH hS (lv_sub hl [0, 1, 2, 3] rfl)
    · replace hf := z_f c3 hf
      refine lv_iload_n M.x M.b d_B_goodsPricedIn_18 rfl (lv_at hl 2 rfl) ?_
      refine lv_iconst (v := (1 : Int32)) M.x M.b d_B_goodsPricedIn_19 rfl ?_
      refine lv_iload_n M.x M.b d_B_goodsPricedIn_20 rfl (lv_at hl 3 rfl) ?_
      refine lv_ishl M.x M.b d_B_goodsPricedIn_21 ?_
      refine lv_ior M.x M.b d_B_goodsPricedIn_22 ?_
      refine lv_istore_n (lv' := [(2, .int (x2 ||| ((1 : Int32) <<< (x3 &&& 31)))), (0, .ref this), (1, .int x1), (3, .int x3)]) M.x M.b d_B_goodsPricedIn_23 rfl hl (by decide) rfl (fun ls hl => ?_)
      exact w_B_goodsPricedIn_24 M this h k4 hk4 _ _ _ hf H locs ls hH hS (lv_sub hl [1, 2, 0, 3] rfl)
def f_B_goodsPricedIn_4 (this : Nat) (h : Hp) : Nat → Int32 → Int32 → Int32 → Option (Int32)
  | 0, _, _, _ => none
  | n + 1, x1, x2, x3 => t_B_goodsPricedIn_4 this h (f_B_goodsPricedIn_4 this h n) x1 x2 x3
theorem w_B_goodsPricedIn_4 {p : Program} {l : Launch} {e : Env} {s : State} {m : MethodId} {args : Array Value} {below : List Frame} {meth : Method} {c : Code} {N0 : Nat} {D : va_G} {cs : Nat → ClassId} (M : ZC p s m args meth c "YearBaskets$Books" "goodsPricedIn" b_B_goodsPricedIn 4 (some .int) N0 D cs) (this : Nat) (h : Hp)  {r0 : Int32}  : ∀ (n : Nat) (x1 : Int32) (x2 : Int32) (x3 : Int32), f_B_goodsPricedIn_4 this h n x1 x2 x3 = some r0 → ZG p l e (zrm 2 0 0) s m args below meth c N0 D cs (some (.int r0)) h h 4 [(0, .ref this), (1, .int x1), (2, .int x2), (3, .int x3)] 4 [] := by
  intro n
  induction n with
  | zero => intro x1 x2 x3 hf; exact absurd (show none = some _ from hf) (fun q => by cases q)
  | succ n ih => intro x1 x2 x3 hf; exact v_B_goodsPricedIn_4 M this h (f_B_goodsPricedIn_4 this h n)  ih _ _ _ hf
def f_B_goodsPricedIn (this : Nat) (h : Hp) (x1 : Int32) : Option (Int32) :=
  if isO h this 0 = true then
  f_B_goodsPricedIn_4 this h FU x1 (0 : Int32) (0 : Int32)
  else none
theorem o_B_goodsPricedIn {this : Nat} {h : Hp} {x1 : Int32} {r0 : Int32} (hf : f_B_goodsPricedIn this h x1 = some r0) : isO h this 0 = true := by
  unfold f_B_goodsPricedIn at hf
  exact (z_gd hf).1
set_option maxRecDepth 100000 in
set_option maxHeartbeats 4000000 in
theorem c_B_goodsPricedIn {l : Launch} {N0 : Nat} {D : va_G} {cs : Nat → ClassId} {this : Nat} {h : Hp} {x1 : Int32} {r0 : Int32} (hf : f_B_goodsPricedIn this h x1 = some r0) : Fn l N0 D cs y_B_goodsPricedIn b_B_goodsPricedIn 4 (some .int) 2 0 0 [.ref this, .int x1] h (some (.int r0)) h := by
  refine z_start (by decide) (Nat.le_of_ble_eq_true rfl) ?_
  intro p e s m args below meth c M hH hS ls hl
  unfold f_B_goodsPricedIn at hf
  obtain ⟨hO, hf⟩ := z_gd hf
  have hl : lv_has ls 4 [(0, .ref this), (1, .int x1)] := hl
  obtain ⟨H, hHe⟩ : ∃ H, H = s.heap := ⟨_, rfl⟩
  obtain ⟨locs, hLe⟩ : ∃ locs : List Loc, locs = [] := ⟨_, rfl⟩
  have hS : va_S (zA N0) s.heap H locs := by rw [hHe, hLe]; exact hS
  have hH : HH N0 D cs h H := by rw [hHe]; exact hH
  suffices hg : W p l e (zrm 2 0 0) s m args below meth c H locs 0 0 (MQ below (zQ N0 D cs (some (.int r0)) h) args s 0 0 (zA N0)) (F0 m 0 ls []) by rw [hHe, hLe] at hg; exact hg
  clear hHe hLe
  refine lv_iconst (v := (0 : Int32)) M.x M.b d_B_goodsPricedIn_0 rfl ?_
  refine lv_istore_n (lv' := [(2, .int (0 : Int32)), (0, .ref this), (1, .int x1)]) M.x M.b d_B_goodsPricedIn_1 rfl hl (by decide) rfl (fun ls hl => ?_)
  refine lv_iconst (v := (0 : Int32)) M.x M.b d_B_goodsPricedIn_2 rfl ?_
  refine lv_istore_n (lv' := [(3, .int (0 : Int32)), (2, .int (0 : Int32)), (0, .ref this), (1, .int x1)]) M.x M.b d_B_goodsPricedIn_3 rfl hl (by decide) rfl (fun ls hl => ?_)
  exact w_B_goodsPricedIn_4 M this h FU _ _ _ hf H locs ls hH hS (lv_sub hl [2, 3, 1, 0] rfl)
def t_B_goodsThere_4 (this : Nat) (h : Hp) (k4 : Int32 → Int32 → Option (Int32)) (x1 : Int32) (x2 : Int32) : Option (Int32) :=
  if (8 : Int32) ≤ x2 then
    some x1
  else
  (f_B_goodsPricedIn this h x2).bind fun i2 =>
  k4 (x1 ||| i2) (x2 + (1 : Int32))
set_option maxRecDepth 100000 in
set_option maxHeartbeats 4000000 in
theorem v_B_goodsThere_4 {p : Program} {l : Launch} {e : Env} {s : State} {m : MethodId} {args : Array Value} {below : List Frame} {meth : Method} {c : Code} {N0 : Nat} {D : va_G} {cs : Nat → ClassId} (M : ZC p s m args meth c "YearBaskets$Books" "goodsThere" b_B_goodsThere 3 (some .int) N0 D cs) (this : Nat) (h : Hp) (k4 : Int32 → Int32 → Option (Int32)) {r0 : Int32} (hk4 : ∀ (x1 : Int32) (x2 : Int32), k4 x1 x2 = some r0 → ZG p l e (zrm 3 0 0) s m args below meth c N0 D cs (some (.int r0)) h h 3 [(0, .ref this), (1, .int x1), (2, .int x2)] 4 []) (x1 : Int32) (x2 : Int32) (hf : t_B_goodsThere_4 this h k4 x1 x2 = some r0) : ZG p l e (zrm 3 0 0) s m args below meth c N0 D cs (some (.int r0)) h h 3 [(0, .ref this), (1, .int x1), (2, .int x2)] 4 [] := by
  intro H locs ls hH hS hl
  unfold t_B_goodsThere_4 at hf
  refine lv_iload_n M.x M.b d_B_goodsThere_4 rfl (lv_at hl 2 rfl) ?_
  refine lv_bipush (v := (8 : Int32)) M.x M.b d_B_goodsThere_5 rfl ?_
  refine lv_icmp_ge (tgt := 24) M.x M.b d_B_goodsThere_7 (by decide) (fun c3 => ?_) (fun c3 => ?_)
  · replace hf := z_t c3 hf
    refine lv_iload_n M.x M.b d_B_goodsThere_24 rfl (lv_at hl 1 rfl) ?_
    obtain rfl := z_r1 hf
    exact z_iret M hH hS d_B_goodsThere_25
  · replace hf := z_f c3 hf
    refine lv_iload_n M.x M.b d_B_goodsThere_10 rfl (lv_at hl 1 rfl) ?_
    refine lv_aload_n M.x M.b d_B_goodsThere_11 rfl (lv_at hl 0 rfl) ?_
    refine lv_iload_n M.x M.b d_B_goodsThere_12 rfl (lv_at hl 2 rfl) ?_
    replace hf := z_bind hf; obtain ⟨i2, e1, hf⟩ := hf
    refine zk_V (ci := 0) (st1 := [.int i2, .int x1]) M hH hS (c_B_goodsPricedIn e1) rfl (o_B_goodsPricedIn e1) w_B_goodsPricedIn q_79 [.int x1] rfl ⟨Nat.le_of_ble_eq_true rfl, Nat.le_of_ble_eq_true rfl⟩ hl.1 rfl rfl (Nat.le_of_ble_eq_true rfl) d_B_goodsThere_13 (fun H locs hH hS => ?_)
    refine lv_ior M.x M.b d_B_goodsThere_16 ?_
    refine lv_istore_n (lv' := [(1, .int (x1 ||| i2)), (0, .ref this), (2, .int x2)]) M.x M.b d_B_goodsThere_17 rfl hl (by decide) rfl (fun ls hl => ?_)
    refine lv_iinc (v := (x2 + (1 : Int32))) (lv' := [(2, .int (x2 + (1 : Int32))), (1, .int (x1 ||| i2)), (0, .ref this)]) M.x M.b d_B_goodsThere_18 hl (k := 2) rfl rfl (by decide) rfl (fun ls hl => ?_)
    refine lv_goto (tgt := 4) M.x M.b d_B_goodsThere_21 (by decide) ?_
    exact hk4 _ _ hf H locs ls hH hS (lv_sub hl [2, 1, 0] rfl)
def f_B_goodsThere_4 (this : Nat) (h : Hp) : Nat → Int32 → Int32 → Option (Int32)
  | 0, _, _ => none
  | n + 1, x1, x2 => t_B_goodsThere_4 this h (f_B_goodsThere_4 this h n) x1 x2
theorem w_B_goodsThere_4 {p : Program} {l : Launch} {e : Env} {s : State} {m : MethodId} {args : Array Value} {below : List Frame} {meth : Method} {c : Code} {N0 : Nat} {D : va_G} {cs : Nat → ClassId} (M : ZC p s m args meth c "YearBaskets$Books" "goodsThere" b_B_goodsThere 3 (some .int) N0 D cs) (this : Nat) (h : Hp)  {r0 : Int32}  : ∀ (n : Nat) (x1 : Int32) (x2 : Int32), f_B_goodsThere_4 this h n x1 x2 = some r0 → ZG p l e (zrm 3 0 0) s m args below meth c N0 D cs (some (.int r0)) h h 3 [(0, .ref this), (1, .int x1), (2, .int x2)] 4 [] := by
  intro n
  induction n with
  | zero => intro x1 x2 hf; exact absurd (show none = some _ from hf) (fun q => by cases q)
  | succ n ih => intro x1 x2 hf; exact v_B_goodsThere_4 M this h (f_B_goodsThere_4 this h n)  ih _ _ hf
def f_B_goodsThere (this : Nat) (h : Hp) : Option (Int32) :=
  if isO h this 0 = true then
  f_B_goodsThere_4 this h FU (0 : Int32) (0 : Int32)
  else none
theorem o_B_goodsThere {this : Nat} {h : Hp} {r0 : Int32} (hf : f_B_goodsThere this h = some r0) : isO h this 0 = true := by
  unfold f_B_goodsThere at hf
  exact (z_gd hf).1
set_option maxRecDepth 100000 in
set_option maxHeartbeats 4000000 in
theorem c_B_goodsThere {l : Launch} {N0 : Nat} {D : va_G} {cs : Nat → ClassId} {this : Nat} {h : Hp} {r0 : Int32} (hf : f_B_goodsThere this h = some r0) : Fn l N0 D cs y_B_goodsThere b_B_goodsThere 3 (some .int) 3 0 0 [.ref this] h (some (.int r0)) h := by
  refine z_start (by decide) (Nat.le_of_ble_eq_true rfl) ?_
  intro p e s m args below meth c M hH hS ls hl
  unfold f_B_goodsThere at hf
  obtain ⟨hO, hf⟩ := z_gd hf
  have hl : lv_has ls 3 [(0, .ref this)] := hl
  obtain ⟨H, hHe⟩ : ∃ H, H = s.heap := ⟨_, rfl⟩
  obtain ⟨locs, hLe⟩ : ∃ locs : List Loc, locs = [] := ⟨_, rfl⟩
  have hS : va_S (zA N0) s.heap H locs := by rw [hHe, hLe]; exact hS
  have hH : HH N0 D cs h H := by rw [hHe]; exact hH
  suffices hg : W p l e (zrm 3 0 0) s m args below meth c H locs 0 0 (MQ below (zQ N0 D cs (some (.int r0)) h) args s 0 0 (zA N0)) (F0 m 0 ls []) by rw [hHe, hLe] at hg; exact hg
  clear hHe hLe
  refine lv_iconst (v := (0 : Int32)) M.x M.b d_B_goodsThere_0 rfl ?_
  refine lv_istore_n (lv' := [(1, .int (0 : Int32)), (0, .ref this)]) M.x M.b d_B_goodsThere_1 rfl hl (by decide) rfl (fun ls hl => ?_)
  refine lv_iconst (v := (0 : Int32)) M.x M.b d_B_goodsThere_2 rfl ?_
  refine lv_istore_n (lv' := [(2, .int (0 : Int32)), (1, .int (0 : Int32)), (0, .ref this)]) M.x M.b d_B_goodsThere_3 rfl hl (by decide) rfl (fun ls hl => ?_)
  exact w_B_goodsThere_4 M this h FU _ _ hf H locs ls hH hS (lv_sub hl [2, 1, 0] rfl)
def t_B_pricesThere_4 (this : Nat) (h : Hp) (k4 : Int32 → Int32 → Option (Int32)) (x1 : Int32) (x2 : Int32) : Option (Int32) :=
  if (8 : Int32) ≤ x2 then
    some x1
  else
  (f_B_goodsPricedIn this h x2).bind fun i2 =>
  (f_JI_bitCount i2).bind fun i4 =>
  k4 (x1 + i4) (x2 + (1 : Int32))
set_option maxRecDepth 100000 in
set_option maxHeartbeats 4000000 in
theorem v_B_pricesThere_4 {p : Program} {l : Launch} {e : Env} {s : State} {m : MethodId} {args : Array Value} {below : List Frame} {meth : Method} {c : Code} {N0 : Nat} {D : va_G} {cs : Nat → ClassId} (M : ZC p s m args meth c "YearBaskets$Books" "pricesThere" b_B_pricesThere 3 (some .int) N0 D cs) (this : Nat) (h : Hp) (k4 : Int32 → Int32 → Option (Int32)) {r0 : Int32} (hk4 : ∀ (x1 : Int32) (x2 : Int32), k4 x1 x2 = some r0 → ZG p l e (zrm 3 0 0) s m args below meth c N0 D cs (some (.int r0)) h h 3 [(0, .ref this), (1, .int x1), (2, .int x2)] 4 []) (x1 : Int32) (x2 : Int32) (hf : t_B_pricesThere_4 this h k4 x1 x2 = some r0) : ZG p l e (zrm 3 0 0) s m args below meth c N0 D cs (some (.int r0)) h h 3 [(0, .ref this), (1, .int x1), (2, .int x2)] 4 [] := by
  intro H locs ls hH hS hl
  unfold t_B_pricesThere_4 at hf
  refine lv_iload_n M.x M.b d_B_pricesThere_4 rfl (lv_at hl 2 rfl) ?_
  refine lv_bipush (v := (8 : Int32)) M.x M.b d_B_pricesThere_5 rfl ?_
  refine lv_icmp_ge (tgt := 27) M.x M.b d_B_pricesThere_7 (by decide) (fun c5 => ?_) (fun c5 => ?_)
  · replace hf := z_t c5 hf
    refine lv_iload_n M.x M.b d_B_pricesThere_27 rfl (lv_at hl 1 rfl) ?_
    obtain rfl := z_r1 hf
    exact z_iret M hH hS d_B_pricesThere_28
  · replace hf := z_f c5 hf
    refine lv_iload_n M.x M.b d_B_pricesThere_10 rfl (lv_at hl 1 rfl) ?_
    refine lv_aload_n M.x M.b d_B_pricesThere_11 rfl (lv_at hl 0 rfl) ?_
    refine lv_iload_n M.x M.b d_B_pricesThere_12 rfl (lv_at hl 2 rfl) ?_
    replace hf := z_bind hf; obtain ⟨i2, e1, hf⟩ := hf
    refine zk_V (ci := 0) (st1 := [.int i2, .int x1]) M hH hS (c_B_goodsPricedIn e1) rfl (o_B_goodsPricedIn e1) w_B_goodsPricedIn q_79 [.int x1] rfl ⟨Nat.le_of_ble_eq_true rfl, Nat.le_of_ble_eq_true rfl⟩ hl.1 rfl rfl (Nat.le_of_ble_eq_true rfl) d_B_pricesThere_13 (fun H locs hH hS => ?_)
    replace hf := z_bind hf; obtain ⟨i4, e3, hf⟩ := hf
    refine zk_S (st1 := [.int i4, .int x1]) M hH hS (c_JI_bitCount e3) w_JI_bitCount q_83 [.int x1] rfl ⟨Nat.le_of_ble_eq_true rfl, Nat.le_of_ble_eq_true rfl⟩ hl.1 rfl rfl (Nat.le_of_ble_eq_true rfl) d_B_pricesThere_16 (fun H locs hH hS => ?_)
    refine lv_iadd M.x M.b d_B_pricesThere_19 ?_
    refine lv_istore_n (lv' := [(1, .int (x1 + i4)), (0, .ref this), (2, .int x2)]) M.x M.b d_B_pricesThere_20 rfl hl (by decide) rfl (fun ls hl => ?_)
    refine lv_iinc (v := (x2 + (1 : Int32))) (lv' := [(2, .int (x2 + (1 : Int32))), (1, .int (x1 + i4)), (0, .ref this)]) M.x M.b d_B_pricesThere_21 hl (k := 2) rfl rfl (by decide) rfl (fun ls hl => ?_)
    refine lv_goto (tgt := 4) M.x M.b d_B_pricesThere_24 (by decide) ?_
    exact hk4 _ _ hf H locs ls hH hS (lv_sub hl [2, 1, 0] rfl)
def f_B_pricesThere_4 (this : Nat) (h : Hp) : Nat → Int32 → Int32 → Option (Int32)
  | 0, _, _ => none
  | n + 1, x1, x2 => t_B_pricesThere_4 this h (f_B_pricesThere_4 this h n) x1 x2
theorem w_B_pricesThere_4 {p : Program} {l : Launch} {e : Env} {s : State} {m : MethodId} {args : Array Value} {below : List Frame} {meth : Method} {c : Code} {N0 : Nat} {D : va_G} {cs : Nat → ClassId} (M : ZC p s m args meth c "YearBaskets$Books" "pricesThere" b_B_pricesThere 3 (some .int) N0 D cs) (this : Nat) (h : Hp)  {r0 : Int32}  : ∀ (n : Nat) (x1 : Int32) (x2 : Int32), f_B_pricesThere_4 this h n x1 x2 = some r0 → ZG p l e (zrm 3 0 0) s m args below meth c N0 D cs (some (.int r0)) h h 3 [(0, .ref this), (1, .int x1), (2, .int x2)] 4 [] := by
  intro n
  induction n with
  | zero => intro x1 x2 hf; exact absurd (show none = some _ from hf) (fun q => by cases q)
  | succ n ih => intro x1 x2 hf; exact v_B_pricesThere_4 M this h (f_B_pricesThere_4 this h n)  ih _ _ hf
def f_B_pricesThere (this : Nat) (h : Hp) : Option (Int32) :=
  if isO h this 0 = true then
  f_B_pricesThere_4 this h FU (0 : Int32) (0 : Int32)
  else none
theorem o_B_pricesThere {this : Nat} {h : Hp} {r0 : Int32} (hf : f_B_pricesThere this h = some r0) : isO h this 0 = true := by
  unfold f_B_pricesThere at hf
  exact (z_gd hf).1
set_option maxRecDepth 100000 in
set_option maxHeartbeats 4000000 in
theorem c_B_pricesThere {l : Launch} {N0 : Nat} {D : va_G} {cs : Nat → ClassId} {this : Nat} {h : Hp} {r0 : Int32} (hf : f_B_pricesThere this h = some r0) : Fn l N0 D cs y_B_pricesThere b_B_pricesThere 3 (some .int) 3 0 0 [.ref this] h (some (.int r0)) h := by
  refine z_start (by decide) (Nat.le_of_ble_eq_true rfl) ?_
  intro p e s m args below meth c M hH hS ls hl
  unfold f_B_pricesThere at hf
  obtain ⟨hO, hf⟩ := z_gd hf
  have hl : lv_has ls 3 [(0, .ref this)] := hl
  obtain ⟨H, hHe⟩ : ∃ H, H = s.heap := ⟨_, rfl⟩
  obtain ⟨locs, hLe⟩ : ∃ locs : List Loc, locs = [] := ⟨_, rfl⟩
  have hS : va_S (zA N0) s.heap H locs := by rw [hHe, hLe]; exact hS
  have hH : HH N0 D cs h H := by rw [hHe]; exact hH
  suffices hg : W p l e (zrm 3 0 0) s m args below meth c H locs 0 0 (MQ below (zQ N0 D cs (some (.int r0)) h) args s 0 0 (zA N0)) (F0 m 0 ls []) by rw [hHe, hLe] at hg; exact hg
  clear hHe hLe
  refine lv_iconst (v := (0 : Int32)) M.x M.b d_B_pricesThere_0 rfl ?_
  refine lv_istore_n (lv' := [(1, .int (0 : Int32)), (0, .ref this)]) M.x M.b d_B_pricesThere_1 rfl hl (by decide) rfl (fun ls hl => ?_)
  refine lv_iconst (v := (0 : Int32)) M.x M.b d_B_pricesThere_2 rfl ?_
  refine lv_istore_n (lv' := [(2, .int (0 : Int32)), (1, .int (0 : Int32)), (0, .ref this)]) M.x M.b d_B_pricesThere_3 rfl hl (by decide) rfl (fun ls hl => ?_)
  exact w_B_pricesThere_4 M this h FU _ _ hf H locs ls hH hS (lv_sub hl [2, 1, 0] rfl)
def f_B_yearsPriced_24 (this : Nat) (h : Hp) (k4 : Int32 → Int32 → Option (Int32)) (s0 : Int32) (s1 : Int32) (x2 : Int32) : Option (Int32) :=
  k4 (s0 + s1) (x2 + (1 : Int32))
set_option maxRecDepth 100000 in
set_option maxHeartbeats 4000000 in
theorem w_B_yearsPriced_24 {p : Program} {l : Launch} {e : Env} {s : State} {m : MethodId} {args : Array Value} {below : List Frame} {meth : Method} {c : Code} {N0 : Nat} {D : va_G} {cs : Nat → ClassId} (M : ZC p s m args meth c "YearBaskets$Books" "yearsPriced" b_B_yearsPriced 3 (some .int) N0 D cs) (this : Nat) (h : Hp) (k4 : Int32 → Int32 → Option (Int32)) {r0 : Int32} (hk4 : ∀ (x1 : Int32) (x2 : Int32), k4 x1 x2 = some r0 → ZG p l e (zrm 3 0 0) s m args below meth c N0 D cs (some (.int r0)) h h 3 [(0, .ref this), (1, .int x1), (2, .int x2)] 4 []) (s0 : Int32) (s1 : Int32) (x2 : Int32) (hf : f_B_yearsPriced_24 this h k4 s0 s1 x2 = some r0) : ZG p l e (zrm 3 0 0) s m args below meth c N0 D cs (some (.int r0)) h h 3 [(0, .ref this), (2, .int x2)] 24 [.int s1, .int s0] := by
  intro H locs ls hH hS hl
  unfold f_B_yearsPriced_24 at hf
  refine lv_iadd M.x M.b d_B_yearsPriced_24 ?_
  refine lv_istore_n (lv' := [(1, .int (s0 + s1)), (0, .ref this), (2, .int x2)]) M.x M.b d_B_yearsPriced_25 rfl hl (by decide) rfl (fun ls hl => ?_)
  refine lv_iinc (v := (x2 + (1 : Int32))) (lv' := [(2, .int (x2 + (1 : Int32))), (1, .int (s0 + s1)), (0, .ref this)]) M.x M.b d_B_yearsPriced_26 hl (k := 2) rfl rfl (by decide) rfl (fun ls hl => ?_)
  refine lv_goto (tgt := 4) M.x M.b d_B_yearsPriced_29 (by decide) ?_
  exact hk4 _ _ hf H locs ls hH hS (lv_sub hl [2, 1, 0] rfl)
def t_B_yearsPriced_4 (this : Nat) (h : Hp) (k4 : Int32 → Int32 → Option (Int32)) (x1 : Int32) (x2 : Int32) : Option (Int32) :=
  if (8 : Int32) ≤ x2 then
    some x1
  else
  (f_B_goodsPricedIn this h x2).bind fun i2 =>
  if i2 = 0 then
    f_B_yearsPriced_24 this h k4 x1 (0 : Int32) x2
  else
  f_B_yearsPriced_24 this h k4 x1 (1 : Int32) x2
set_option maxRecDepth 100000 in
set_option maxHeartbeats 4000000 in
theorem v_B_yearsPriced_4 {p : Program} {l : Launch} {e : Env} {s : State} {m : MethodId} {args : Array Value} {below : List Frame} {meth : Method} {c : Code} {N0 : Nat} {D : va_G} {cs : Nat → ClassId} (M : ZC p s m args meth c "YearBaskets$Books" "yearsPriced" b_B_yearsPriced 3 (some .int) N0 D cs) (this : Nat) (h : Hp) (k4 : Int32 → Int32 → Option (Int32)) {r0 : Int32} (hk4 : ∀ (x1 : Int32) (x2 : Int32), k4 x1 x2 = some r0 → ZG p l e (zrm 3 0 0) s m args below meth c N0 D cs (some (.int r0)) h h 3 [(0, .ref this), (1, .int x1), (2, .int x2)] 4 []) (x1 : Int32) (x2 : Int32) (hf : t_B_yearsPriced_4 this h k4 x1 x2 = some r0) : ZG p l e (zrm 3 0 0) s m args below meth c N0 D cs (some (.int r0)) h h 3 [(0, .ref this), (1, .int x1), (2, .int x2)] 4 [] := by
  intro H locs ls hH hS hl
  unfold t_B_yearsPriced_4 at hf
  refine lv_iload_n M.x M.b d_B_yearsPriced_4 rfl (lv_at hl 2 rfl) ?_
  refine lv_bipush (v := (8 : Int32)) M.x M.b d_B_yearsPriced_5 rfl ?_
  refine lv_icmp_ge (tgt := 32) M.x M.b d_B_yearsPriced_7 (by decide) (fun c4 => ?_) (fun c4 => ?_)
  · replace hf := z_t c4 hf
    refine lv_iload_n M.x M.b d_B_yearsPriced_32 rfl (lv_at hl 1 rfl) ?_
    obtain rfl := z_r1 hf
    exact z_iret M hH hS d_B_yearsPriced_33
  · replace hf := z_f c4 hf
    refine lv_iload_n M.x M.b d_B_yearsPriced_10 rfl (lv_at hl 1 rfl) ?_
    refine lv_aload_n M.x M.b d_B_yearsPriced_11 rfl (lv_at hl 0 rfl) ?_
    refine lv_iload_n M.x M.b d_B_yearsPriced_12 rfl (lv_at hl 2 rfl) ?_
    replace hf := z_bind hf; obtain ⟨i2, e1, hf⟩ := hf
    refine zk_V (ci := 0) (st1 := [.int i2, .int x1]) M hH hS (c_B_goodsPricedIn e1) rfl (o_B_goodsPricedIn e1) w_B_goodsPricedIn q_79 [.int x1] rfl ⟨Nat.le_of_ble_eq_true rfl, Nat.le_of_ble_eq_true rfl⟩ hl.1 rfl rfl (Nat.le_of_ble_eq_true rfl) d_B_yearsPriced_13 (fun H locs hH hS => ?_)
    refine lv_if_ne (tgt := 23) M.x M.b d_B_yearsPriced_16 (by decide) (fun c3 => ?_) (fun c3 => ?_)
    · replace hf := z_f c3 hf
      refine lv_iconst (v := (1 : Int32)) M.x M.b d_B_yearsPriced_23 rfl ?_
      exact w_B_yearsPriced_24 M this h k4 hk4 _ _ _ hf H locs ls hH hS (lv_sub hl [0, 2] rfl)
    · replace hf := z_t c3 hf
      refine lv_iconst (v := (0 : Int32)) M.x M.b d_B_yearsPriced_19 rfl ?_
      refine lv_goto (tgt := 24) M.x M.b d_B_yearsPriced_20 (by decide) ?_
      exact w_B_yearsPriced_24 M this h k4 hk4 _ _ _ hf H locs ls hH hS (lv_sub hl [0, 2] rfl)
def f_B_yearsPriced_4 (this : Nat) (h : Hp) : Nat → Int32 → Int32 → Option (Int32)
  | 0, _, _ => none
  | n + 1, x1, x2 => t_B_yearsPriced_4 this h (f_B_yearsPriced_4 this h n) x1 x2
theorem w_B_yearsPriced_4 {p : Program} {l : Launch} {e : Env} {s : State} {m : MethodId} {args : Array Value} {below : List Frame} {meth : Method} {c : Code} {N0 : Nat} {D : va_G} {cs : Nat → ClassId} (M : ZC p s m args meth c "YearBaskets$Books" "yearsPriced" b_B_yearsPriced 3 (some .int) N0 D cs) (this : Nat) (h : Hp)  {r0 : Int32}  : ∀ (n : Nat) (x1 : Int32) (x2 : Int32), f_B_yearsPriced_4 this h n x1 x2 = some r0 → ZG p l e (zrm 3 0 0) s m args below meth c N0 D cs (some (.int r0)) h h 3 [(0, .ref this), (1, .int x1), (2, .int x2)] 4 [] := by
  intro n
  induction n with
  | zero => intro x1 x2 hf; exact absurd (show none = some _ from hf) (fun q => by cases q)
  | succ n ih => intro x1 x2 hf; exact v_B_yearsPriced_4 M this h (f_B_yearsPriced_4 this h n)  ih _ _ hf
def f_B_yearsPriced (this : Nat) (h : Hp) : Option (Int32) :=
  if isO h this 0 = true then
  f_B_yearsPriced_4 this h FU (0 : Int32) (0 : Int32)
  else none
theorem o_B_yearsPriced {this : Nat} {h : Hp} {r0 : Int32} (hf : f_B_yearsPriced this h = some r0) : isO h this 0 = true := by
  unfold f_B_yearsPriced at hf
  exact (z_gd hf).1
set_option maxRecDepth 100000 in
set_option maxHeartbeats 4000000 in
theorem c_B_yearsPriced {l : Launch} {N0 : Nat} {D : va_G} {cs : Nat → ClassId} {this : Nat} {h : Hp} {r0 : Int32} (hf : f_B_yearsPriced this h = some r0) : Fn l N0 D cs y_B_yearsPriced b_B_yearsPriced 3 (some .int) 3 0 0 [.ref this] h (some (.int r0)) h := by
  refine z_start (by decide) (Nat.le_of_ble_eq_true rfl) ?_
  intro p e s m args below meth c M hH hS ls hl
  unfold f_B_yearsPriced at hf
  obtain ⟨hO, hf⟩ := z_gd hf
  have hl : lv_has ls 3 [(0, .ref this)] := hl
  obtain ⟨H, hHe⟩ : ∃ H, H = s.heap := ⟨_, rfl⟩
  obtain ⟨locs, hLe⟩ : ∃ locs : List Loc, locs = [] := ⟨_, rfl⟩
  have hS : va_S (zA N0) s.heap H locs := by rw [hHe, hLe]; exact hS
  have hH : HH N0 D cs h H := by rw [hHe]; exact hH
  suffices hg : W p l e (zrm 3 0 0) s m args below meth c H locs 0 0 (MQ below (zQ N0 D cs (some (.int r0)) h) args s 0 0 (zA N0)) (F0 m 0 ls []) by rw [hHe, hLe] at hg; exact hg
  clear hHe hLe
  refine lv_iconst (v := (0 : Int32)) M.x M.b d_B_yearsPriced_0 rfl ?_
  refine lv_istore_n (lv' := [(1, .int (0 : Int32)), (0, .ref this)]) M.x M.b d_B_yearsPriced_1 rfl hl (by decide) rfl (fun ls hl => ?_)
  refine lv_iconst (v := (0 : Int32)) M.x M.b d_B_yearsPriced_2 rfl ?_
  refine lv_istore_n (lv' := [(2, .int (0 : Int32)), (1, .int (0 : Int32)), (0, .ref this)]) M.x M.b d_B_yearsPriced_3 rfl hl (by decide) rfl (fun ls hl => ?_)
  exact w_B_yearsPriced_4 M this h FU _ _ hf H locs ls hH hS (lv_sub hl [2, 1, 0] rfl)
def f_B_costOver_70 (this : Nat) (h : Hp) (k6 : Int32 → Int32 → Int32 → Int32 → Int32 → Int32 → Option (Int32)) (x1 : Int32) (x2 : Int32) (x3 : Int32) (x4 : Int32) (x5 : Int32) (x6 : Int32) : Option (Int32) :=
  k6 x1 x2 x3 x4 x5 (x6 + (1 : Int32))
set_option maxRecDepth 100000 in
set_option maxHeartbeats 4000000 in
theorem w_B_costOver_70 {p : Program} {l : Launch} {e : Env} {s : State} {m : MethodId} {args : Array Value} {below : List Frame} {meth : Method} {c : Code} {N0 : Nat} {D : va_G} {cs : Nat → ClassId} (M : ZC p s m args meth c "YearBaskets$Books" "costOver" b_B_costOver 9 (some .int) N0 D cs) (this : Nat) (h : Hp) (k6 : Int32 → Int32 → Int32 → Int32 → Int32 → Int32 → Option (Int32)) {r0 : Int32} (hk6 : ∀ (x1 : Int32) (x2 : Int32) (x3 : Int32) (x4 : Int32) (x5 : Int32) (x6 : Int32), k6 x1 x2 x3 x4 x5 x6 = some r0 → ZG p l e (zrm 2 0 0) s m args below meth c N0 D cs (some (.int r0)) h h 9 [(0, .ref this), (1, .int x1), (2, .int x2), (3, .int x3), (4, .int x4), (5, .int x5), (6, .int x6)] 6 []) (x1 : Int32) (x2 : Int32) (x3 : Int32) (x4 : Int32) (x5 : Int32) (x6 : Int32) (hf : f_B_costOver_70 this h k6 x1 x2 x3 x4 x5 x6 = some r0) : ZG p l e (zrm 2 0 0) s m args below meth c N0 D cs (some (.int r0)) h h 9 [(0, .ref this), (1, .int x1), (2, .int x2), (3, .int x3), (4, .int x4), (5, .int x5), (6, .int x6)] 70 [] := by
  intro H locs ls hH hS hl
  unfold f_B_costOver_70 at hf
  refine lv_iinc (v := (x6 + (1 : Int32))) (lv' := [(6, .int (x6 + (1 : Int32))), (0, .ref this), (1, .int x1), (2, .int x2), (3, .int x3), (4, .int x4), (5, .int x5)]) M.x M.b d_B_costOver_70 hl (k := 6) rfl rfl (by decide) rfl (fun ls hl => ?_)
  refine lv_goto (tgt := 6) M.x M.b d_B_costOver_73 (by decide) ?_
  exact hk6 _ _ _ _ _ _ hf H locs ls hH hS (lv_sub hl [1, 2, 3, 4, 5, 6, 0] rfl)
def f_B_costOver_34 (this : Nat) (h : Hp) (k6 : Int32 → Int32 → Int32 → Int32 → Int32 → Int32 → Option (Int32)) (s0 : Int32) (x1 : Int32) (x2 : Int32) (x3 : Int32) (x4 : Int32) (x5 : Int32) (x6 : Int32) : Option (Int32) :=
  if s0 = 0 then
    f_B_costOver_70 this h k6 x1 x2 x3 x4 x5 x6
  else
  (f_B_priceOf this h x3 x6).bind fun i2 =>
  if i2 = 0 then
    some (-1 : Int32)
  else
  f_B_costOver_70 this h k6 x1 x2 x3 x4 (x5 + (i2 * s0)) x6
set_option maxRecDepth 100000 in
set_option maxHeartbeats 4000000 in
theorem w_B_costOver_34 {p : Program} {l : Launch} {e : Env} {s : State} {m : MethodId} {args : Array Value} {below : List Frame} {meth : Method} {c : Code} {N0 : Nat} {D : va_G} {cs : Nat → ClassId} (M : ZC p s m args meth c "YearBaskets$Books" "costOver" b_B_costOver 9 (some .int) N0 D cs) (this : Nat) (h : Hp) (k6 : Int32 → Int32 → Int32 → Int32 → Int32 → Int32 → Option (Int32)) {r0 : Int32} (hk6 : ∀ (x1 : Int32) (x2 : Int32) (x3 : Int32) (x4 : Int32) (x5 : Int32) (x6 : Int32), k6 x1 x2 x3 x4 x5 x6 = some r0 → ZG p l e (zrm 2 0 0) s m args below meth c N0 D cs (some (.int r0)) h h 9 [(0, .ref this), (1, .int x1), (2, .int x2), (3, .int x3), (4, .int x4), (5, .int x5), (6, .int x6)] 6 []) (s0 : Int32) (x1 : Int32) (x2 : Int32) (x3 : Int32) (x4 : Int32) (x5 : Int32) (x6 : Int32) (hf : f_B_costOver_34 this h k6 s0 x1 x2 x3 x4 x5 x6 = some r0) : ZG p l e (zrm 2 0 0) s m args below meth c N0 D cs (some (.int r0)) h h 9 [(0, .ref this), (1, .int x1), (2, .int x2), (3, .int x3), (4, .int x4), (5, .int x5), (6, .int x6)] 34 [.int s0] := by
  intro H locs ls hH hS hl
  unfold f_B_costOver_34 at hf
  refine lv_istore (lv' := [(7, .int s0), (0, .ref this), (1, .int x1), (2, .int x2), (3, .int x3), (4, .int x4), (5, .int x5), (6, .int x6)]) M.x M.b d_B_costOver_34 hl (by decide) rfl (fun ls hl => ?_)
  refine lv_iload M.x M.b d_B_costOver_36 (lv_at hl 0 rfl) ?_
  refine lv_if_ne (tgt := 44) M.x M.b d_B_costOver_38 (by decide) (fun c4 => ?_) (fun c4 => ?_)
  · replace hf := z_f c4 hf
    refine lv_aload_n M.x M.b d_B_costOver_44 rfl (lv_at hl 1 rfl) ?_
    refine lv_iload_n M.x M.b d_B_costOver_45 rfl (lv_at hl 4 rfl) ?_
    refine lv_iload M.x M.b d_B_costOver_46 (lv_at hl 7 rfl) ?_
    replace hf := z_bind hf; obtain ⟨i2, e1, hf⟩ := hf
    refine zk_V (ci := 0) (st1 := [.int i2]) M hH hS (c_B_priceOf e1) rfl (o_B_priceOf e1) w_B_priceOf q_64 [] rfl ⟨Nat.le_of_ble_eq_true rfl, Nat.le_of_ble_eq_true rfl⟩ hl.1 rfl rfl (Nat.le_of_ble_eq_true rfl) d_B_costOver_48 (fun H locs hH hS => ?_)
    refine lv_istore (lv' := [(8, .int i2), (7, .int s0), (0, .ref this), (1, .int x1), (2, .int x2), (3, .int x3), (4, .int x4), (5, .int x5), (6, .int x6)]) M.x M.b d_B_costOver_51 hl (by decide) rfl (fun ls hl => ?_)
    refine lv_iload M.x M.b d_B_costOver_53 (lv_at hl 0 rfl) ?_
    refine lv_if_ne (tgt := 60) M.x M.b d_B_costOver_55 (by decide) (fun c3 => ?_) (fun c3 => ?_)
    · replace hf := z_f c3 hf
      refine lv_iload M.x M.b d_B_costOver_60 (lv_at hl 7 rfl) ?_
      refine lv_iload M.x M.b d_B_costOver_62 (lv_at hl 0 rfl) ?_
      refine lv_iload M.x M.b d_B_costOver_64 (lv_at hl 1 rfl) ?_
      refine lv_imul M.x M.b d_B_costOver_66 ?_
      refine lv_iadd M.x M.b d_B_costOver_67 ?_
      refine lv_istore (lv' := [(5, .int (x5 + (i2 * s0))), (8, .int i2), (7, .int s0), (0, .ref this), (1, .int x1), (2, .int x2), (3, .int x3), (4, .int x4), (6, .int x6)]) M.x M.b d_B_costOver_68 hl (by decide) rfl (fun ls hl => ?_)
      exact w_B_costOver_70 M this h k6 hk6 _ _ _ _ _ _ hf H locs ls hH hS (lv_sub hl [3, 4, 5, 6, 7, 0, 8] rfl)
    · replace hf := z_t c3 hf
      refine lv_iconst (v := (-1 : Int32)) M.x M.b d_B_costOver_58 rfl ?_
      obtain rfl := z_r1 hf
      exact z_iret M hH hS d_B_costOver_59
  · replace hf := z_t c4 hf
    refine lv_goto (tgt := 70) M.x M.b d_B_costOver_41 (by decide) ?_
    exact w_B_costOver_70 M this h k6 hk6 _ _ _ _ _ _ hf H locs ls hH hS (lv_sub hl [1, 2, 3, 4, 5, 6, 7] rfl)
def t_B_costOver_6 (this : Nat) (h : Hp) (k6 : Int32 → Int32 → Int32 → Int32 → Int32 → Int32 → Option (Int32)) (x1 : Int32) (x2 : Int32) (x3 : Int32) (x4 : Int32) (x5 : Int32) (x6 : Int32) : Option (Int32) :=
  if (5 : Int32) ≤ x6 then
    some x5
  else
  if ((x1 >>> (x6 &&& 31)) &&& (1 : Int32)) = 0 then
    f_B_costOver_34 this h k6 (0 : Int32) x1 x2 x3 x4 x5 x6
  else
  (f_B_amountOf this h x2 x4 x6).bind fun i6 =>
  f_B_costOver_34 this h k6 i6 x1 x2 x3 x4 x5 x6
set_option maxRecDepth 100000 in
set_option maxHeartbeats 4000000 in
theorem v_B_costOver_6 {p : Program} {l : Launch} {e : Env} {s : State} {m : MethodId} {args : Array Value} {below : List Frame} {meth : Method} {c : Code} {N0 : Nat} {D : va_G} {cs : Nat → ClassId} (M : ZC p s m args meth c "YearBaskets$Books" "costOver" b_B_costOver 9 (some .int) N0 D cs) (this : Nat) (h : Hp) (k6 : Int32 → Int32 → Int32 → Int32 → Int32 → Int32 → Option (Int32)) {r0 : Int32} (hk6 : ∀ (x1 : Int32) (x2 : Int32) (x3 : Int32) (x4 : Int32) (x5 : Int32) (x6 : Int32), k6 x1 x2 x3 x4 x5 x6 = some r0 → ZG p l e (zrm 2 0 0) s m args below meth c N0 D cs (some (.int r0)) h h 9 [(0, .ref this), (1, .int x1), (2, .int x2), (3, .int x3), (4, .int x4), (5, .int x5), (6, .int x6)] 6 []) (x1 : Int32) (x2 : Int32) (x3 : Int32) (x4 : Int32) (x5 : Int32) (x6 : Int32) (hf : t_B_costOver_6 this h k6 x1 x2 x3 x4 x5 x6 = some r0) : ZG p l e (zrm 2 0 0) s m args below meth c N0 D cs (some (.int r0)) h h 9 [(0, .ref this), (1, .int x1), (2, .int x2), (3, .int x3), (4, .int x4), (5, .int x5), (6, .int x6)] 6 [] := by
  intro H locs ls hH hS hl
  unfold t_B_costOver_6 at hf
  refine lv_iload M.x M.b d_B_costOver_6 (lv_at hl 6 rfl) ?_
  refine lv_iconst (v := (5 : Int32)) M.x M.b d_B_costOver_8 rfl ?_
  refine lv_icmp_ge (tgt := 76) M.x M.b d_B_costOver_9 (by decide) (fun c8 => ?_) (fun c8 => ?_)
  · replace hf := z_t c8 hf
    refine lv_iload M.x M.b d_B_costOver_76 (lv_at hl 5 rfl) ?_
    obtain rfl := z_r1 hf
    exact z_iret M hH hS d_B_costOver_78
  · replace hf := z_f c8 hf
    refine lv_iload_n M.x M.b d_B_costOver_12 rfl (lv_at hl 1 rfl) ?_
    refine lv_iload M.x M.b d_B_costOver_13 (lv_at hl 6 rfl) ?_
    refine lv_ishr M.x M.b d_B_costOver_15 ?_
    refine lv_iconst (v := (1 : Int32)) M.x M.b d_B_costOver_16 rfl ?_
    refine lv_iand M.x M.b d_B_costOver_17 ?_
    refine lv_if_ne (tgt := 25) M.x M.b d_B_costOver_18 (by decide) (fun c7 => ?_) (fun c7 => ?_)
    · replace hf := z_f c7 hf
      refine lv_aload_n M.x M.b d_B_costOver_25 rfl (lv_at hl 0 rfl) ?_
      refine lv_iload_n M.x M.b d_B_costOver_26 rfl (lv_at hl 2 rfl) ?_
      refine lv_iload M.x M.b d_B_costOver_27 (lv_at hl 4 rfl) ?_
      refine lv_iload M.x M.b d_B_costOver_29 (lv_at hl 6 rfl) ?_
      replace hf := z_bind hf; obtain ⟨i6, e5, hf⟩ := hf
      refine zk_V (ci := 0) (st1 := [.int i6]) M hH hS (c_B_amountOf e5) rfl (o_B_amountOf e5) w_B_amountOf q_72 [] rfl ⟨Nat.le_of_ble_eq_true rfl, Nat.le_of_ble_eq_true rfl⟩ hl.1 rfl rfl (Nat.le_of_ble_eq_true rfl) d_B_costOver_31 (fun H locs hH hS => ?_)
      exact w_B_costOver_34 M this h k6 hk6 _ _ _ _ _ _ _ hf H locs ls hH hS (lv_sub hl [0, 1, 2, 3, 4, 5, 6] rfl)
    · replace hf := z_t c7 hf
      refine lv_iconst (v := (0 : Int32)) M.x M.b d_B_costOver_21 rfl ?_
      refine lv_goto (tgt := 34) M.x M.b d_B_costOver_22 (by decide) ?_
      exact w_B_costOver_34 M this h k6 hk6 _ _ _ _ _ _ _ hf H locs ls hH hS (lv_sub hl [0, 1, 2, 3, 4, 5, 6] rfl)
def f_B_costOver_6 (this : Nat) (h : Hp) : Nat → Int32 → Int32 → Int32 → Int32 → Int32 → Int32 → Option (Int32)
  | 0, _, _, _, _, _, _ => none
  | n + 1, x1, x2, x3, x4, x5, x6 => t_B_costOver_6 this h (f_B_costOver_6 this h n) x1 x2 x3 x4 x5 x6
theorem w_B_costOver_6 {p : Program} {l : Launch} {e : Env} {s : State} {m : MethodId} {args : Array Value} {below : List Frame} {meth : Method} {c : Code} {N0 : Nat} {D : va_G} {cs : Nat → ClassId} (M : ZC p s m args meth c "YearBaskets$Books" "costOver" b_B_costOver 9 (some .int) N0 D cs) (this : Nat) (h : Hp)  {r0 : Int32}  : ∀ (n : Nat) (x1 : Int32) (x2 : Int32) (x3 : Int32) (x4 : Int32) (x5 : Int32) (x6 : Int32), f_B_costOver_6 this h n x1 x2 x3 x4 x5 x6 = some r0 → ZG p l e (zrm 2 0 0) s m args below meth c N0 D cs (some (.int r0)) h h 9 [(0, .ref this), (1, .int x1), (2, .int x2), (3, .int x3), (4, .int x4), (5, .int x5), (6, .int x6)] 6 [] := by
  intro n
  induction n with
  | zero => intro x1 x2 x3 x4 x5 x6 hf; exact absurd (show none = some _ from hf) (fun q => by cases q)
  | succ n ih => intro x1 x2 x3 x4 x5 x6 hf; exact v_B_costOver_6 M this h (f_B_costOver_6 this h n)  ih _ _ _ _ _ _ hf
def f_B_costOver (this : Nat) (h : Hp) (x1 : Int32) (x2 : Int32) (x3 : Int32) (x4 : Int32) : Option (Int32) :=
  if isO h this 0 = true then
  f_B_costOver_6 this h FU x1 x2 x3 x4 (0 : Int32) (0 : Int32)
  else none
theorem o_B_costOver {this : Nat} {h : Hp} {x1 : Int32} {x2 : Int32} {x3 : Int32} {x4 : Int32} {r0 : Int32} (hf : f_B_costOver this h x1 x2 x3 x4 = some r0) : isO h this 0 = true := by
  unfold f_B_costOver at hf
  exact (z_gd hf).1
set_option maxRecDepth 100000 in
set_option maxHeartbeats 4000000 in
theorem c_B_costOver {l : Launch} {N0 : Nat} {D : va_G} {cs : Nat → ClassId} {this : Nat} {h : Hp} {x1 : Int32} {x2 : Int32} {x3 : Int32} {x4 : Int32} {r0 : Int32} (hf : f_B_costOver this h x1 x2 x3 x4 = some r0) : Fn l N0 D cs y_B_costOver b_B_costOver 9 (some .int) 2 0 0 [.ref this, .int x1, .int x2, .int x3, .int x4] h (some (.int r0)) h := by
  refine z_start (by decide) (Nat.le_of_ble_eq_true rfl) ?_
  intro p e s m args below meth c M hH hS ls hl
  unfold f_B_costOver at hf
  obtain ⟨hO, hf⟩ := z_gd hf
  have hl : lv_has ls 9 [(0, .ref this), (1, .int x1), (2, .int x2), (3, .int x3), (4, .int x4)] := hl
  obtain ⟨H, hHe⟩ : ∃ H, H = s.heap := ⟨_, rfl⟩
  obtain ⟨locs, hLe⟩ : ∃ locs : List Loc, locs = [] := ⟨_, rfl⟩
  have hS : va_S (zA N0) s.heap H locs := by rw [hHe, hLe]; exact hS
  have hH : HH N0 D cs h H := by rw [hHe]; exact hH
  suffices hg : W p l e (zrm 2 0 0) s m args below meth c H locs 0 0 (MQ below (zQ N0 D cs (some (.int r0)) h) args s 0 0 (zA N0)) (F0 m 0 ls []) by rw [hHe, hLe] at hg; exact hg
  clear hHe hLe
  refine lv_iconst (v := (0 : Int32)) M.x M.b d_B_costOver_0 rfl ?_
  refine lv_istore (lv' := [(5, .int (0 : Int32)), (0, .ref this), (1, .int x1), (2, .int x2), (3, .int x3), (4, .int x4)]) M.x M.b d_B_costOver_1 hl (by decide) rfl (fun ls hl => ?_)
  refine lv_iconst (v := (0 : Int32)) M.x M.b d_B_costOver_3 rfl ?_
  refine lv_istore (lv' := [(6, .int (0 : Int32)), (5, .int (0 : Int32)), (0, .ref this), (1, .int x1), (2, .int x2), (3, .int x3), (4, .int x4)]) M.x M.b d_B_costOver_4 hl (by decide) rfl (fun ls hl => ?_)
  exact w_B_costOver_6 M this h FU _ _ _ _ _ _ hf H locs ls hH hS (lv_sub hl [2, 3, 4, 5, 6, 1, 0] rfl)
def f_B_pricesOver_44 (this : Nat) (h : Hp) (k5 : Int32 → Int32 → Int32 → Int32 → Option (Int32)) (x1 : Int32) (x2 : Int32) (x3 : Int32) (x4 : Int32) : Option (Int32) :=
  k5 x1 x2 x3 (x4 + (1 : Int32))
set_option maxRecDepth 100000 in
set_option maxHeartbeats 4000000 in
theorem w_B_pricesOver_44 {p : Program} {l : Launch} {e : Env} {s : State} {m : MethodId} {args : Array Value} {below : List Frame} {meth : Method} {c : Code} {N0 : Nat} {D : va_G} {cs : Nat → ClassId} (M : ZC p s m args meth c "YearBaskets$Books" "pricesOver" b_B_pricesOver 6 (some .int) N0 D cs) (this : Nat) (h : Hp) (k5 : Int32 → Int32 → Int32 → Int32 → Option (Int32)) {r0 : Int32} (hk5 : ∀ (x1 : Int32) (x2 : Int32) (x3 : Int32) (x4 : Int32), k5 x1 x2 x3 x4 = some r0 → ZG p l e (zrm 2 0 0) s m args below meth c N0 D cs (some (.int r0)) h h 6 [(0, .ref this), (1, .int x1), (2, .int x2), (3, .int x3), (4, .int x4)] 5 []) (x1 : Int32) (x2 : Int32) (x3 : Int32) (x4 : Int32) (hf : f_B_pricesOver_44 this h k5 x1 x2 x3 x4 = some r0) : ZG p l e (zrm 2 0 0) s m args below meth c N0 D cs (some (.int r0)) h h 6 [(0, .ref this), (1, .int x1), (2, .int x2), (3, .int x3), (4, .int x4)] 44 [] := by
  intro H locs ls hH hS hl
  unfold f_B_pricesOver_44 at hf
  refine lv_iinc (v := (x4 + (1 : Int32))) (lv' := [(4, .int (x4 + (1 : Int32))), (0, .ref this), (1, .int x1), (2, .int x2), (3, .int x3)]) M.x M.b d_B_pricesOver_44 hl (k := 4) rfl rfl (by decide) rfl (fun ls hl => ?_)
  refine lv_goto (tgt := 5) M.x M.b d_B_pricesOver_47 (by decide) ?_
  exact hk5 _ _ _ _ hf H locs ls hH hS (lv_sub hl [1, 2, 3, 4, 0] rfl)
def t_B_pricesOver_5 (this : Nat) (h : Hp) (k5 : Int32 → Int32 → Int32 → Int32 → Option (Int32)) (x1 : Int32) (x2 : Int32) (x3 : Int32) (x4 : Int32) : Option (Int32) :=
  if (5 : Int32) ≤ x4 then
    some x3
  else
  if ((x1 >>> (x4 &&& 31)) &&& (1 : Int32)) = 0 then
    f_B_pricesOver_44 this h k5 x1 x2 x3 x4
  else
  (f_B_priceOf this h x2 x4).bind fun i2 =>
  if i2 = 0 then
    some (-1 : Int32)
  else
  f_B_pricesOver_44 this h k5 x1 x2 (x3 + i2) x4
set_option maxRecDepth 100000 in
set_option maxHeartbeats 4000000 in
theorem v_B_pricesOver_5 {p : Program} {l : Launch} {e : Env} {s : State} {m : MethodId} {args : Array Value} {below : List Frame} {meth : Method} {c : Code} {N0 : Nat} {D : va_G} {cs : Nat → ClassId} (M : ZC p s m args meth c "YearBaskets$Books" "pricesOver" b_B_pricesOver 6 (some .int) N0 D cs) (this : Nat) (h : Hp) (k5 : Int32 → Int32 → Int32 → Int32 → Option (Int32)) {r0 : Int32} (hk5 : ∀ (x1 : Int32) (x2 : Int32) (x3 : Int32) (x4 : Int32), k5 x1 x2 x3 x4 = some r0 → ZG p l e (zrm 2 0 0) s m args below meth c N0 D cs (some (.int r0)) h h 6 [(0, .ref this), (1, .int x1), (2, .int x2), (3, .int x3), (4, .int x4)] 5 []) (x1 : Int32) (x2 : Int32) (x3 : Int32) (x4 : Int32) (hf : t_B_pricesOver_5 this h k5 x1 x2 x3 x4 = some r0) : ZG p l e (zrm 2 0 0) s m args below meth c N0 D cs (some (.int r0)) h h 6 [(0, .ref this), (1, .int x1), (2, .int x2), (3, .int x3), (4, .int x4)] 5 [] := by
  intro H locs ls hH hS hl
  unfold t_B_pricesOver_5 at hf
  refine lv_iload M.x M.b d_B_pricesOver_5 (lv_at hl 4 rfl) ?_
  refine lv_iconst (v := (5 : Int32)) M.x M.b d_B_pricesOver_7 rfl ?_
  refine lv_icmp_ge (tgt := 50) M.x M.b d_B_pricesOver_8 (by decide) (fun c5 => ?_) (fun c5 => ?_)
  · replace hf := z_t c5 hf
    refine lv_iload_n M.x M.b d_B_pricesOver_50 rfl (lv_at hl 3 rfl) ?_
    obtain rfl := z_r1 hf
    exact z_iret M hH hS d_B_pricesOver_51
  · replace hf := z_f c5 hf
    refine lv_iload_n M.x M.b d_B_pricesOver_11 rfl (lv_at hl 1 rfl) ?_
    refine lv_iload M.x M.b d_B_pricesOver_12 (lv_at hl 4 rfl) ?_
    refine lv_ishr M.x M.b d_B_pricesOver_14 ?_
    refine lv_iconst (v := (1 : Int32)) M.x M.b d_B_pricesOver_15 rfl ?_
    refine lv_iand M.x M.b d_B_pricesOver_16 ?_
    refine lv_if_ne (tgt := 23) M.x M.b d_B_pricesOver_17 (by decide) (fun c4 => ?_) (fun c4 => ?_)
    · replace hf := z_f c4 hf
      refine lv_aload_n M.x M.b d_B_pricesOver_23 rfl (lv_at hl 0 rfl) ?_
      refine lv_iload_n M.x M.b d_B_pricesOver_24 rfl (lv_at hl 2 rfl) ?_
      refine lv_iload M.x M.b d_B_pricesOver_25 (lv_at hl 4 rfl) ?_
      replace hf := z_bind hf; obtain ⟨i2, e1, hf⟩ := hf
      refine zk_V (ci := 0) (st1 := [.int i2]) M hH hS (c_B_priceOf e1) rfl (o_B_priceOf e1) w_B_priceOf q_64 [] rfl ⟨Nat.le_of_ble_eq_true rfl, Nat.le_of_ble_eq_true rfl⟩ hl.1 rfl rfl (Nat.le_of_ble_eq_true rfl) d_B_pricesOver_27 (fun H locs hH hS => ?_)
      refine lv_istore (lv' := [(5, .int i2), (0, .ref this), (1, .int x1), (2, .int x2), (3, .int x3), (4, .int x4)]) M.x M.b d_B_pricesOver_30 hl (by decide) rfl (fun ls hl => ?_)
      refine lv_iload M.x M.b d_B_pricesOver_32 (lv_at hl 0 rfl) ?_
      refine lv_if_ne (tgt := 39) M.x M.b d_B_pricesOver_34 (by decide) (fun c3 => ?_) (fun c3 => ?_)
      · replace hf := z_f c3 hf
        refine lv_iload_n M.x M.b d_B_pricesOver_39 rfl (lv_at hl 4 rfl) ?_
        refine lv_iload M.x M.b d_B_pricesOver_40 (lv_at hl 0 rfl) ?_
        refine lv_iadd M.x M.b d_B_pricesOver_42 ?_
        refine lv_istore_n (lv' := [(3, .int (x3 + i2)), (5, .int i2), (0, .ref this), (1, .int x1), (2, .int x2), (4, .int x4)]) M.x M.b d_B_pricesOver_43 rfl hl (by decide) rfl (fun ls hl => ?_)
        exact w_B_pricesOver_44 M this h k5 hk5 _ _ _ _ hf H locs ls hH hS (lv_sub hl [2, 3, 4, 0, 5] rfl)
      · replace hf := z_t c3 hf
        refine lv_iconst (v := (-1 : Int32)) M.x M.b d_B_pricesOver_37 rfl ?_
        obtain rfl := z_r1 hf
        exact z_iret M hH hS d_B_pricesOver_38
    · replace hf := z_t c4 hf
      refine lv_goto (tgt := 44) M.x M.b d_B_pricesOver_20 (by decide) ?_
      exact w_B_pricesOver_44 M this h k5 hk5 _ _ _ _ hf H locs ls hH hS (lv_sub hl [0, 1, 2, 3, 4] rfl)
def f_B_pricesOver_5 (this : Nat) (h : Hp) : Nat → Int32 → Int32 → Int32 → Int32 → Option (Int32)
  | 0, _, _, _, _ => none
  | n + 1, x1, x2, x3, x4 => t_B_pricesOver_5 this h (f_B_pricesOver_5 this h n) x1 x2 x3 x4
theorem w_B_pricesOver_5 {p : Program} {l : Launch} {e : Env} {s : State} {m : MethodId} {args : Array Value} {below : List Frame} {meth : Method} {c : Code} {N0 : Nat} {D : va_G} {cs : Nat → ClassId} (M : ZC p s m args meth c "YearBaskets$Books" "pricesOver" b_B_pricesOver 6 (some .int) N0 D cs) (this : Nat) (h : Hp)  {r0 : Int32}  : ∀ (n : Nat) (x1 : Int32) (x2 : Int32) (x3 : Int32) (x4 : Int32), f_B_pricesOver_5 this h n x1 x2 x3 x4 = some r0 → ZG p l e (zrm 2 0 0) s m args below meth c N0 D cs (some (.int r0)) h h 6 [(0, .ref this), (1, .int x1), (2, .int x2), (3, .int x3), (4, .int x4)] 5 [] := by
  intro n
  induction n with
  | zero => intro x1 x2 x3 x4 hf; exact absurd (show none = some _ from hf) (fun q => by cases q)
  | succ n ih => intro x1 x2 x3 x4 hf; exact v_B_pricesOver_5 M this h (f_B_pricesOver_5 this h n)  ih _ _ _ _ hf
def f_B_pricesOver (this : Nat) (h : Hp) (x1 : Int32) (x2 : Int32) : Option (Int32) :=
  if isO h this 0 = true then
  f_B_pricesOver_5 this h FU x1 x2 (0 : Int32) (0 : Int32)
  else none
theorem o_B_pricesOver {this : Nat} {h : Hp} {x1 : Int32} {x2 : Int32} {r0 : Int32} (hf : f_B_pricesOver this h x1 x2 = some r0) : isO h this 0 = true := by
  unfold f_B_pricesOver at hf
  exact (z_gd hf).1
set_option maxRecDepth 100000 in
set_option maxHeartbeats 4000000 in
theorem c_B_pricesOver {l : Launch} {N0 : Nat} {D : va_G} {cs : Nat → ClassId} {this : Nat} {h : Hp} {x1 : Int32} {x2 : Int32} {r0 : Int32} (hf : f_B_pricesOver this h x1 x2 = some r0) : Fn l N0 D cs y_B_pricesOver b_B_pricesOver 6 (some .int) 2 0 0 [.ref this, .int x1, .int x2] h (some (.int r0)) h := by
  refine z_start (by decide) (Nat.le_of_ble_eq_true rfl) ?_
  intro p e s m args below meth c M hH hS ls hl
  unfold f_B_pricesOver at hf
  obtain ⟨hO, hf⟩ := z_gd hf
  have hl : lv_has ls 6 [(0, .ref this), (1, .int x1), (2, .int x2)] := hl
  obtain ⟨H, hHe⟩ : ∃ H, H = s.heap := ⟨_, rfl⟩
  obtain ⟨locs, hLe⟩ : ∃ locs : List Loc, locs = [] := ⟨_, rfl⟩
  have hS : va_S (zA N0) s.heap H locs := by rw [hHe, hLe]; exact hS
  have hH : HH N0 D cs h H := by rw [hHe]; exact hH
  suffices hg : W p l e (zrm 2 0 0) s m args below meth c H locs 0 0 (MQ below (zQ N0 D cs (some (.int r0)) h) args s 0 0 (zA N0)) (F0 m 0 ls []) by rw [hHe, hLe] at hg; exact hg
  clear hHe hLe
  refine lv_iconst (v := (0 : Int32)) M.x M.b d_B_pricesOver_0 rfl ?_
  refine lv_istore_n (lv' := [(3, .int (0 : Int32)), (0, .ref this), (1, .int x1), (2, .int x2)]) M.x M.b d_B_pricesOver_1 rfl hl (by decide) rfl (fun ls hl => ?_)
  refine lv_iconst (v := (0 : Int32)) M.x M.b d_B_pricesOver_2 rfl ?_
  refine lv_istore (lv' := [(4, .int (0 : Int32)), (3, .int (0 : Int32)), (0, .ref this), (1, .int x1), (2, .int x2)]) M.x M.b d_B_pricesOver_3 hl (by decide) rfl (fun ls hl => ?_)
  exact w_B_pricesOver_5 M this h FU _ _ _ _ hf H locs ls hH hS (lv_sub hl [2, 3, 4, 1, 0] rfl)
