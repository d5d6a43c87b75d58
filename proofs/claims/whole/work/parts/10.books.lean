/-! ===== Books: printed by wip/whole/drive.py out of the bytecode ===== -/
theorem q_0 : (Jvm.Cond.instanceMethod ({ cls := "YearBaskets$Books", name := "priceOf", desc := "(II)I" } : Jvm.MethodName)) ∈ zG := zt_2 (List.mem_of_getElem? (i := 12) rfl) rfl
theorem q_1 : (Jvm.Cond.selects "YearBaskets$Books" ({ cls := "YearBaskets$Books", name := "priceOf", desc := "(II)I" } : Jvm.MethodName) ({ cls := "YearBaskets$Books", name := "priceOf", desc := "(II)I" } : Jvm.MethodName)) ∈ zG := zt_2 (List.mem_of_getElem? (i := 13) rfl) rfl
theorem q_2 : (Jvm.Cond.code ({ cls := "YearBaskets$Books", name := "priceOf", desc := "(II)I" } : Jvm.MethodName) prog_2_method_3_code (4 : Nat) (Option.some Jvm.ClassFile.FieldType.int)) ∈ zG := zt_2 (List.mem_of_getElem? (i := 14) rfl) rfl
theorem q_3 : (Jvm.Cond.initialized "YearBaskets$Books") ∈ zG := zt_1 (List.mem_of_getElem? (i := 2) rfl) rfl
theorem q_4 : (Jvm.Cond.fieldLink "YearBaskets$Books" (9 : Nat) "YearBaskets$Books" "prices" "[I") ∈ zG := zt_1 (List.mem_of_getElem? (i := 31) rfl) rfl
theorem q_5 : (Jvm.Cond.instanceMethod ({ cls := "YearBaskets$Books", name := "setPrice", desc := "(III)V" } : Jvm.MethodName)) ∈ zG := zt_2 (List.mem_of_getElem? (i := 16) rfl) rfl
theorem q_6 : (Jvm.Cond.selects "YearBaskets$Books" ({ cls := "YearBaskets$Books", name := "setPrice", desc := "(III)V" } : Jvm.MethodName) ({ cls := "YearBaskets$Books", name := "setPrice", desc := "(III)V" } : Jvm.MethodName)) ∈ zG := zt_2 (List.mem_of_getElem? (i := 17) rfl) rfl
theorem q_7 : (Jvm.Cond.code ({ cls := "YearBaskets$Books", name := "setPrice", desc := "(III)V" } : Jvm.MethodName) prog_2_method_4_code (5 : Nat) (Option.none : Option Jvm.ClassFile.FieldType)) ∈ zG := zt_2 (List.mem_of_getElem? (i := 18) rfl) rfl
theorem q_8 : (Jvm.Cond.instanceMethod ({ cls := "YearBaskets$Books", name := "amountOf", desc := "(III)I" } : Jvm.MethodName)) ∈ zG := zt_2 (List.mem_of_getElem? (i := 31) rfl) rfl
theorem q_9 : (Jvm.Cond.selects "YearBaskets$Books" ({ cls := "YearBaskets$Books", name := "amountOf", desc := "(III)I" } : Jvm.MethodName) ({ cls := "YearBaskets$Books", name := "amountOf", desc := "(III)I" } : Jvm.MethodName)) ∈ zG := zt_2 (List.mem_of_getElem? (i := 32) rfl) rfl
theorem q_10 : (Jvm.Cond.code ({ cls := "YearBaskets$Books", name := "amountOf", desc := "(III)I" } : Jvm.MethodName) prog_2_method_5_code (5 : Nat) (Option.some Jvm.ClassFile.FieldType.int)) ∈ zG := zt_2 (List.mem_of_getElem? (i := 33) rfl) rfl
theorem q_11 : (Jvm.Cond.fieldLink "YearBaskets$Books" (15 : Nat) "YearBaskets$Books" "amounts" "[I") ∈ zG := zt_1 (List.mem_of_getElem? (i := 32) rfl) rfl
theorem q_12 : (Jvm.Cond.instanceMethod ({ cls := "YearBaskets$Books", name := "setAmount", desc := "(IIII)V" } : Jvm.MethodName)) ∈ zG := zt_2 (List.mem_of_getElem? (i := 35) rfl) rfl
theorem q_13 : (Jvm.Cond.selects "YearBaskets$Books" ({ cls := "YearBaskets$Books", name := "setAmount", desc := "(IIII)V" } : Jvm.MethodName) ({ cls := "YearBaskets$Books", name := "setAmount", desc := "(IIII)V" } : Jvm.MethodName)) ∈ zG := zt_2 (List.mem_of_getElem? (i := 36) rfl) rfl
theorem q_14 : (Jvm.Cond.code ({ cls := "YearBaskets$Books", name := "setAmount", desc := "(IIII)V" } : Jvm.MethodName) prog_2_method_6_code (6 : Nat) (Option.none : Option Jvm.ClassFile.FieldType)) ∈ zG := zt_2 (List.mem_of_getElem? (i := 37) rfl) rfl
theorem q_15 : (Jvm.Cond.instanceMethod ({ cls := "YearBaskets$Books", name := "copyYear", desc := "(II)V" } : Jvm.MethodName)) ∈ zG := zt_3 (List.mem_of_getElem? (i := 142) rfl) rfl
theorem q_16 : (Jvm.Cond.selects "YearBaskets$Books" ({ cls := "YearBaskets$Books", name := "copyYear", desc := "(II)V" } : Jvm.MethodName) ({ cls := "YearBaskets$Books", name := "copyYear", desc := "(II)V" } : Jvm.MethodName)) ∈ zG := zt_3 (List.mem_of_getElem? (i := 143) rfl) rfl
theorem q_17 : (Jvm.Cond.code ({ cls := "YearBaskets$Books", name := "copyYear", desc := "(II)V" } : Jvm.MethodName) prog_2_method_7_code (4 : Nat) (Option.none : Option Jvm.ClassFile.FieldType)) ∈ zG := zt_3 (List.mem_of_getElem? (i := 144) rfl) rfl
theorem q_18 : (Jvm.Cond.methodLink "YearBaskets$Books" (28 : Nat) ({ cls := "YearBaskets$Books", name := "setPrice", desc := "(III)V" } : Jvm.MethodName)) ∈ zG := zt_3 (List.mem_of_getElem? (i := 145) rfl) rfl
theorem q_19 : (Jvm.Cond.methodLink "YearBaskets$Books" (24 : Nat) ({ cls := "YearBaskets$Books", name := "priceOf", desc := "(II)I" } : Jvm.MethodName)) ∈ zG := zt_2 (List.mem_of_getElem? (i := 50) rfl) rfl
theorem q_20 : (Jvm.Cond.instanceMethod ({ cls := "YearBaskets$Books", name := "goodsPricedIn", desc := "(I)I" } : Jvm.MethodName)) ∈ zG := zt_2 (List.mem_of_getElem? (i := 60) rfl) rfl
theorem q_21 : (Jvm.Cond.selects "YearBaskets$Books" ({ cls := "YearBaskets$Books", name := "goodsPricedIn", desc := "(I)I" } : Jvm.MethodName) ({ cls := "YearBaskets$Books", name := "goodsPricedIn", desc := "(I)I" } : Jvm.MethodName)) ∈ zG := zt_2 (List.mem_of_getElem? (i := 61) rfl) rfl
theorem q_22 : (Jvm.Cond.code ({ cls := "YearBaskets$Books", name := "goodsPricedIn", desc := "(I)I" } : Jvm.MethodName) prog_2_method_10_code (4 : Nat) (Option.some Jvm.ClassFile.FieldType.int)) ∈ zG := zt_2 (List.mem_of_getElem? (i := 62) rfl) rfl
abbrev b_B_priceOf : ByteArray := prog_2_method_3_code
abbrev y_B_priceOf : MethodName := ⟨"YearBaskets$Books", "priceOf", "(II)I"⟩
abbrev b_B_setPrice : ByteArray := prog_2_method_4_code
abbrev y_B_setPrice : MethodName := ⟨"YearBaskets$Books", "setPrice", "(III)V"⟩
abbrev b_B_amountOf : ByteArray := prog_2_method_5_code
abbrev y_B_amountOf : MethodName := ⟨"YearBaskets$Books", "amountOf", "(III)I"⟩
abbrev b_B_setAmount : ByteArray := prog_2_method_6_code
abbrev y_B_setAmount : MethodName := ⟨"YearBaskets$Books", "setAmount", "(IIII)V"⟩
abbrev b_B_copyYear : ByteArray := prog_2_method_7_code
abbrev y_B_copyYear : MethodName := ⟨"YearBaskets$Books", "copyYear", "(II)V"⟩
abbrev b_B_goodsPricedIn : ByteArray := prog_2_method_10_code
abbrev y_B_goodsPricedIn : MethodName := ⟨"YearBaskets$Books", "goodsPricedIn", "(I)I"⟩
theorem w_B_priceOf : Cond.code y_B_priceOf b_B_priceOf 4 (some .int) ∈ zG ∧ (Cond.instanceMethod y_B_priceOf ∈ zG ∧ Cond.selects y_B_priceOf.cls y_B_priceOf y_B_priceOf ∈ zG) ∧ Cond.initialized y_B_priceOf.cls ∈ zG ∧ zY y_B_priceOf 2 := ⟨q_2, ⟨q_0, q_1⟩, q_3, by decide +kernel⟩
theorem w_B_setPrice : Cond.code y_B_setPrice b_B_setPrice 5 (none) ∈ zG ∧ (Cond.instanceMethod y_B_setPrice ∈ zG ∧ Cond.selects y_B_setPrice.cls y_B_setPrice y_B_setPrice ∈ zG) ∧ Cond.initialized y_B_setPrice.cls ∈ zG ∧ zY y_B_setPrice 3 := ⟨q_7, ⟨q_5, q_6⟩, q_3, by decide +kernel⟩
theorem w_B_amountOf : Cond.code y_B_amountOf b_B_amountOf 5 (some .int) ∈ zG ∧ (Cond.instanceMethod y_B_amountOf ∈ zG ∧ Cond.selects y_B_amountOf.cls y_B_amountOf y_B_amountOf ∈ zG) ∧ Cond.initialized y_B_amountOf.cls ∈ zG ∧ zY y_B_amountOf 3 := ⟨q_10, ⟨q_8, q_9⟩, q_3, by decide +kernel⟩
theorem w_B_setAmount : Cond.code y_B_setAmount b_B_setAmount 6 (none) ∈ zG ∧ (Cond.instanceMethod y_B_setAmount ∈ zG ∧ Cond.selects y_B_setAmount.cls y_B_setAmount y_B_setAmount ∈ zG) ∧ Cond.initialized y_B_setAmount.cls ∈ zG ∧ zY y_B_setAmount 4 := ⟨q_14, ⟨q_12, q_13⟩, q_3, by decide +kernel⟩
theorem w_B_copyYear : Cond.code y_B_copyYear b_B_copyYear 4 (none) ∈ zG ∧ (Cond.instanceMethod y_B_copyYear ∈ zG ∧ Cond.selects y_B_copyYear.cls y_B_copyYear y_B_copyYear ∈ zG) ∧ Cond.initialized y_B_copyYear.cls ∈ zG ∧ zY y_B_copyYear 2 := ⟨q_17, ⟨q_15, q_16⟩, q_3, by decide +kernel⟩
theorem w_B_goodsPricedIn : Cond.code y_B_goodsPricedIn b_B_goodsPricedIn 4 (some .int) ∈ zG ∧ (Cond.instanceMethod y_B_goodsPricedIn ∈ zG ∧ Cond.selects y_B_goodsPricedIn.cls y_B_goodsPricedIn y_B_goodsPricedIn ∈ zG) ∧ Cond.initialized y_B_goodsPricedIn.cls ∈ zG ∧ zY y_B_goodsPricedIn 1 := ⟨q_22, ⟨q_20, q_21⟩, q_3, by decide +kernel⟩
theorem d_B_priceOf_0 : decode b_B_priceOf 0 = .ok (.iload_n 1, 1) := by decide +kernel
theorem d_B_priceOf_1 : decode b_B_priceOf 1 = .ok (.iconst 5, 1) := by decide +kernel
theorem d_B_priceOf_2 : decode b_B_priceOf 2 = .ok (.imul, 1) := by decide +kernel
theorem d_B_priceOf_3 : decode b_B_priceOf 3 = .ok (.iload_n 2, 1) := by decide +kernel
theorem d_B_priceOf_4 : decode b_B_priceOf 4 = .ok (.iadd, 1) := by decide +kernel
theorem d_B_priceOf_5 : decode b_B_priceOf 5 = .ok (.istore_n 3, 1) := by decide +kernel
theorem d_B_priceOf_6 : decode b_B_priceOf 6 = .ok (.iload_n 3, 1) := by decide +kernel
theorem d_B_priceOf_7 : decode b_B_priceOf 7 = .ok (.ifCond .lt 12, 3) := by decide +kernel
theorem d_B_priceOf_10 : decode b_B_priceOf 10 = .ok (.iload_n 3, 1) := by decide +kernel
theorem d_B_priceOf_11 : decode b_B_priceOf 11 = .ok (.aload_n 0, 1) := by decide +kernel
theorem d_B_priceOf_12 : decode b_B_priceOf 12 = .ok (.getfield 9, 3) := by decide +kernel
theorem d_B_priceOf_15 : decode b_B_priceOf 15 = .ok (.arraylength, 1) := by decide +kernel
theorem d_B_priceOf_16 : decode b_B_priceOf 16 = .ok (.if_icmp .lt 7, 3) := by decide +kernel
theorem d_B_priceOf_19 : decode b_B_priceOf 19 = .ok (.iconst 0, 1) := by decide +kernel
theorem d_B_priceOf_20 : decode b_B_priceOf 20 = .ok (.goto 9, 3) := by decide +kernel
theorem d_B_priceOf_23 : decode b_B_priceOf 23 = .ok (.aload_n 0, 1) := by decide +kernel
theorem d_B_priceOf_24 : decode b_B_priceOf 24 = .ok (.getfield 9, 3) := by decide +kernel
theorem d_B_priceOf_27 : decode b_B_priceOf 27 = .ok (.iload_n 3, 1) := by decide +kernel
theorem d_B_priceOf_28 : decode b_B_priceOf 28 = .ok (.iaload, 1) := by decide +kernel
theorem d_B_priceOf_29 : decode b_B_priceOf 29 = .ok (.ireturn, 1) := by decide +kernel
theorem d_B_setPrice_0 : decode b_B_setPrice 0 = .ok (.iload_n 1, 1) := by decide +kernel
theorem d_B_setPrice_1 : decode b_B_setPrice 1 = .ok (.iconst 5, 1) := by decide +kernel
theorem d_B_setPrice_2 : decode b_B_setPrice 2 = .ok (.imul, 1) := by decide +kernel
theorem d_B_setPrice_3 : decode b_B_setPrice 3 = .ok (.iload_n 2, 1) := by decide +kernel
theorem d_B_setPrice_4 : decode b_B_setPrice 4 = .ok (.iadd, 1) := by decide +kernel
theorem d_B_setPrice_5 : decode b_B_setPrice 5 = .ok (.istore 4, 2) := by decide +kernel
theorem d_B_setPrice_7 : decode b_B_setPrice 7 = .ok (.iload 4, 2) := by decide +kernel
theorem d_B_setPrice_9 : decode b_B_setPrice 9 = .ok (.ifCond .lt 21, 3) := by decide +kernel
theorem d_B_setPrice_12 : decode b_B_setPrice 12 = .ok (.iload 4, 2) := by decide +kernel
theorem d_B_setPrice_14 : decode b_B_setPrice 14 = .ok (.aload_n 0, 1) := by decide +kernel
theorem d_B_setPrice_15 : decode b_B_setPrice 15 = .ok (.getfield 9, 3) := by decide +kernel
theorem d_B_setPrice_18 : decode b_B_setPrice 18 = .ok (.arraylength, 1) := by decide +kernel
theorem d_B_setPrice_19 : decode b_B_setPrice 19 = .ok (.if_icmp .ge 11, 3) := by decide +kernel
theorem d_B_setPrice_22 : decode b_B_setPrice 22 = .ok (.aload_n 0, 1) := by decide +kernel
theorem d_B_setPrice_23 : decode b_B_setPrice 23 = .ok (.getfield 9, 3) := by decide +kernel
theorem d_B_setPrice_26 : decode b_B_setPrice 26 = .ok (.iload 4, 2) := by decide +kernel
theorem d_B_setPrice_28 : decode b_B_setPrice 28 = .ok (.iload_n 3, 1) := by decide +kernel
theorem d_B_setPrice_29 : decode b_B_setPrice 29 = .ok (.iastore, 1) := by decide +kernel
theorem d_B_setPrice_30 : decode b_B_setPrice 30 = .ok (.return_, 1) := by decide +kernel
theorem d_B_amountOf_0 : decode b_B_amountOf 0 = .ok (.iload_n 1, 1) := by decide +kernel
theorem d_B_amountOf_1 : decode b_B_amountOf 1 = .ok (.bipush 8, 2) := by decide +kernel
theorem d_B_amountOf_3 : decode b_B_amountOf 3 = .ok (.imul, 1) := by decide +kernel
theorem d_B_amountOf_4 : decode b_B_amountOf 4 = .ok (.iload_n 2, 1) := by decide +kernel
theorem d_B_amountOf_5 : decode b_B_amountOf 5 = .ok (.iadd, 1) := by decide +kernel
theorem d_B_amountOf_6 : decode b_B_amountOf 6 = .ok (.iconst 5, 1) := by decide +kernel
theorem d_B_amountOf_7 : decode b_B_amountOf 7 = .ok (.imul, 1) := by decide +kernel
theorem d_B_amountOf_8 : decode b_B_amountOf 8 = .ok (.iload_n 3, 1) := by decide +kernel
theorem d_B_amountOf_9 : decode b_B_amountOf 9 = .ok (.iadd, 1) := by decide +kernel
theorem d_B_amountOf_10 : decode b_B_amountOf 10 = .ok (.istore 4, 2) := by decide +kernel
theorem d_B_amountOf_12 : decode b_B_amountOf 12 = .ok (.iload 4, 2) := by decide +kernel
theorem d_B_amountOf_14 : decode b_B_amountOf 14 = .ok (.ifCond .lt 13, 3) := by decide +kernel
theorem d_B_amountOf_17 : decode b_B_amountOf 17 = .ok (.iload 4, 2) := by decide +kernel
theorem d_B_amountOf_19 : decode b_B_amountOf 19 = .ok (.aload_n 0, 1) := by decide +kernel
theorem d_B_amountOf_20 : decode b_B_amountOf 20 = .ok (.getfield 15, 3) := by decide +kernel
theorem d_B_amountOf_23 : decode b_B_amountOf 23 = .ok (.arraylength, 1) := by decide +kernel
theorem d_B_amountOf_24 : decode b_B_amountOf 24 = .ok (.if_icmp .lt 7, 3) := by decide +kernel
theorem d_B_amountOf_27 : decode b_B_amountOf 27 = .ok (.iconst 0, 1) := by decide +kernel
theorem d_B_amountOf_28 : decode b_B_amountOf 28 = .ok (.goto 10, 3) := by decide +kernel
theorem d_B_amountOf_31 : decode b_B_amountOf 31 = .ok (.aload_n 0, 1) := by decide +kernel
theorem d_B_amountOf_32 : decode b_B_amountOf 32 = .ok (.getfield 15, 3) := by decide +kernel
theorem d_B_amountOf_35 : decode b_B_amountOf 35 = .ok (.iload 4, 2) := by decide +kernel
theorem d_B_amountOf_37 : decode b_B_amountOf 37 = .ok (.iaload, 1) := by decide +kernel
theorem d_B_amountOf_38 : decode b_B_amountOf 38 = .ok (.ireturn, 1) := by decide +kernel
theorem d_B_setAmount_0 : decode b_B_setAmount 0 = .ok (.iload_n 1, 1) := by decide +kernel
theorem d_B_setAmount_1 : decode b_B_setAmount 1 = .ok (.bipush 8, 2) := by decide +kernel
theorem d_B_setAmount_3 : decode b_B_setAmount 3 = .ok (.imul, 1) := by decide +kernel
theorem d_B_setAmount_4 : decode b_B_setAmount 4 = .ok (.iload_n 2, 1) := by decide +kernel
theorem d_B_setAmount_5 : decode b_B_setAmount 5 = .ok (.iadd, 1) := by decide +kernel
theorem d_B_setAmount_6 : decode b_B_setAmount 6 = .ok (.iconst 5, 1) := by decide +kernel
theorem d_B_setAmount_7 : decode b_B_setAmount 7 = .ok (.imul, 1) := by decide +kernel
theorem d_B_setAmount_8 : decode b_B_setAmount 8 = .ok (.iload_n 3, 1) := by decide +kernel
theorem d_B_setAmount_9 : decode b_B_setAmount 9 = .ok (.iadd, 1) := by decide +kernel
theorem d_B_setAmount_10 : decode b_B_setAmount 10 = .ok (.istore 5, 2) := by decide +kernel
theorem d_B_setAmount_12 : decode b_B_setAmount 12 = .ok (.iload 5, 2) := by decide +kernel
theorem d_B_setAmount_14 : decode b_B_setAmount 14 = .ok (.ifCond .lt 22, 3) := by decide +kernel
theorem d_B_setAmount_17 : decode b_B_setAmount 17 = .ok (.iload 5, 2) := by decide +kernel
theorem d_B_setAmount_19 : decode b_B_setAmount 19 = .ok (.aload_n 0, 1) := by decide +kernel
theorem d_B_setAmount_20 : decode b_B_setAmount 20 = .ok (.getfield 15, 3) := by decide +kernel
theorem d_B_setAmount_23 : decode b_B_setAmount 23 = .ok (.arraylength, 1) := by decide +kernel
theorem d_B_setAmount_24 : decode b_B_setAmount 24 = .ok (.if_icmp .ge 12, 3) := by decide +kernel
theorem d_B_setAmount_27 : decode b_B_setAmount 27 = .ok (.aload_n 0, 1) := by decide +kernel
theorem d_B_setAmount_28 : decode b_B_setAmount 28 = .ok (.getfield 15, 3) := by decide +kernel
theorem d_B_setAmount_31 : decode b_B_setAmount 31 = .ok (.iload 5, 2) := by decide +kernel
theorem d_B_setAmount_33 : decode b_B_setAmount 33 = .ok (.iload 4, 2) := by decide +kernel
theorem d_B_setAmount_35 : decode b_B_setAmount 35 = .ok (.iastore, 1) := by decide +kernel
theorem d_B_setAmount_36 : decode b_B_setAmount 36 = .ok (.return_, 1) := by decide +kernel
theorem d_B_copyYear_0 : decode b_B_copyYear 0 = .ok (.iconst 0, 1) := by decide +kernel
theorem d_B_copyYear_1 : decode b_B_copyYear 1 = .ok (.istore_n 3, 1) := by decide +kernel
theorem d_B_copyYear_2 : decode b_B_copyYear 2 = .ok (.iload_n 3, 1) := by decide +kernel
theorem d_B_copyYear_3 : decode b_B_copyYear 3 = .ok (.iconst 5, 1) := by decide +kernel
theorem d_B_copyYear_4 : decode b_B_copyYear 4 = .ok (.if_icmp .ge 21, 3) := by decide +kernel
theorem d_B_copyYear_7 : decode b_B_copyYear 7 = .ok (.aload_n 0, 1) := by decide +kernel
theorem d_B_copyYear_8 : decode b_B_copyYear 8 = .ok (.iload_n 2, 1) := by decide +kernel
theorem d_B_copyYear_9 : decode b_B_copyYear 9 = .ok (.iload_n 3, 1) := by decide +kernel
theorem d_B_copyYear_10 : decode b_B_copyYear 10 = .ok (.aload_n 0, 1) := by decide +kernel
theorem d_B_copyYear_11 : decode b_B_copyYear 11 = .ok (.iload_n 1, 1) := by decide +kernel
theorem d_B_copyYear_12 : decode b_B_copyYear 12 = .ok (.iload_n 3, 1) := by decide +kernel
theorem d_B_copyYear_13 : decode b_B_copyYear 13 = .ok (.invokevirtual 24, 3) := by decide +kernel
theorem d_B_copyYear_16 : decode b_B_copyYear 16 = .ok (.invokevirtual 28, 3) := by decide +kernel
theorem d_B_copyYear_19 : decode b_B_copyYear 19 = .ok (.iinc 3 1, 3) := by decide +kernel
theorem d_B_copyYear_22 : decode b_B_copyYear 22 = .ok (.goto (-20), 3) := by decide +kernel
theorem d_B_copyYear_25 : decode b_B_copyYear 25 = .ok (.return_, 1) := by decide +kernel
theorem d_B_goodsPricedIn_0 : decode b_B_goodsPricedIn 0 = .ok (.iconst 0, 1) := by decide +kernel
theorem d_B_goodsPricedIn_1 : decode b_B_goodsPricedIn 1 = .ok (.istore_n 2, 1) := by decide +kernel
theorem d_B_goodsPricedIn_2 : decode b_B_goodsPricedIn 2 = .ok (.iconst 0, 1) := by decide +kernel
theorem d_B_goodsPricedIn_3 : decode b_B_goodsPricedIn 3 = .ok (.istore_n 3, 1) := by decide +kernel
theorem d_B_goodsPricedIn_4 : decode b_B_goodsPricedIn 4 = .ok (.iload_n 3, 1) := by decide +kernel
theorem d_B_goodsPricedIn_5 : decode b_B_goodsPricedIn 5 = .ok (.iconst 5, 1) := by decide +kernel
theorem d_B_goodsPricedIn_6 : decode b_B_goodsPricedIn 6 = .ok (.if_icmp .ge 24, 3) := by decide +kernel
theorem d_B_goodsPricedIn_9 : decode b_B_goodsPricedIn 9 = .ok (.aload_n 0, 1) := by decide +kernel
theorem d_B_goodsPricedIn_10 : decode b_B_goodsPricedIn 10 = .ok (.iload_n 1, 1) := by decide +kernel
theorem d_B_goodsPricedIn_11 : decode b_B_goodsPricedIn 11 = .ok (.iload_n 3, 1) := by decide +kernel
theorem d_B_goodsPricedIn_12 : decode b_B_goodsPricedIn 12 = .ok (.invokevirtual 24, 3) := by decide +kernel
theorem d_B_goodsPricedIn_15 : decode b_B_goodsPricedIn 15 = .ok (.ifCond .le 9, 3) := by decide +kernel
theorem d_B_goodsPricedIn_18 : decode b_B_goodsPricedIn 18 = .ok (.iload_n 2, 1) := by decide +kernel
theorem d_B_goodsPricedIn_19 : decode b_B_goodsPricedIn 19 = .ok (.iconst 1, 1) := by decide +kernel
theorem d_B_goodsPricedIn_20 : decode b_B_goodsPricedIn 20 = .ok (.iload_n 3, 1) := by decide +kernel
theorem d_B_goodsPricedIn_21 : decode b_B_goodsPricedIn 21 = .ok (.ishl, 1) := by decide +kernel
theorem d_B_goodsPricedIn_22 : decode b_B_goodsPricedIn 22 = .ok (.ior, 1) := by decide +kernel
theorem d_B_goodsPricedIn_23 : decode b_B_goodsPricedIn 23 = .ok (.istore_n 2, 1) := by decide +kernel
theorem d_B_goodsPricedIn_24 : decode b_B_goodsPricedIn 24 = .ok (.iinc 3 1, 3) := by decide +kernel
theorem d_B_goodsPricedIn_27 : decode b_B_goodsPricedIn 27 = .ok (.goto (-23), 3) := by decide +kernel
theorem d_B_goodsPricedIn_30 : decode b_B_goodsPricedIn 30 = .ok (.iload_n 2, 1) := by decide +kernel
theorem d_B_goodsPricedIn_31 : decode b_B_goodsPricedIn 31 = .ok (.ireturn, 1) := by decide +kernel
def f_B_priceOf (this : Nat) (h : Hp) (x1 : Int32) (x2 : Int32) : Option Int32 :=
  if isO h this 0 = true then
  if ((x1 * (5 : Int32)) + x2) < 0 then
    some (0 : Int32)
  else
  (gA h this 0 0).bind fun r1 =>
  (r1).bind fun a3 =>
  (aN h a3).bind fun i6 =>
  if ((x1 * (5 : Int32)) + x2) < i6 then
    (gA h this 0 0).bind fun r7 =>
    (r7).bind fun a9 =>
    (aI h 0 a9 ((x1 * (5 : Int32)) + x2)).bind fun i12 =>
    some i12
  else
  some (0 : Int32)
  else none
theorem o_B_priceOf {this : Nat} {h : Hp} {x1 : Int32} {x2 : Int32} {r0 : Int32} (hf : f_B_priceOf this h x1 x2 = some r0) : isO h this 0 = true := by
  unfold f_B_priceOf at hf
  exact (z_gd hf).1
set_option maxRecDepth 100000 in
set_option maxHeartbeats 4000000 in
theorem c_B_priceOf {l : Launch} {N0 : Nat} {D : va_G} {cs : Nat → ClassId} {this : Nat} {h : Hp} {x1 : Int32} {x2 : Int32} {r0 : Int32} (hf : f_B_priceOf this h x1 x2 = some r0) : Fn l N0 D cs y_B_priceOf b_B_priceOf 4 (some .int) 1 0 0 [.ref this, .int x1, .int x2] h (some (.int r0)) h := by
  refine z_start (by decide) (Nat.le_of_ble_eq_true rfl) ?_
  intro p e s m args below meth c M hH hS ls hl
  unfold f_B_priceOf at hf
  obtain ⟨hO, hf⟩ := z_gd hf
  have hl : lv_has ls 4 [(0, .ref this), (1, .int x1), (2, .int x2)] := hl
  obtain ⟨H, hHe⟩ : ∃ H, H = s.heap := ⟨_, rfl⟩
  obtain ⟨locs, hLe⟩ : ∃ locs : List Loc, locs = [] := ⟨_, rfl⟩
  have hS : va_S (zA N0) s.heap H locs := by rw [hHe, hLe]; exact hS
  have hH : HH N0 D cs h H := by rw [hHe]; exact hH
  suffices hg : W p l e (zrm 1 0 0) s m args below meth c H locs 0 0 (MQ below (zQ N0 D cs (some (.int r0)) h) args s 0 0 (zA N0)) (F0 m 0 ls []) by rw [hHe, hLe] at hg; exact hg
  clear hHe hLe
  refine lv_iload_n M.x M.b d_B_priceOf_0 rfl (lv_at hl 1 rfl) ?_
  refine lv_iconst (v := (5 : Int32)) M.x M.b d_B_priceOf_1 rfl ?_
  refine lv_imul M.x M.b d_B_priceOf_2 ?_
  refine lv_iload_n M.x M.b d_B_priceOf_3 rfl (lv_at hl 2 rfl) ?_
  refine lv_iadd M.x M.b d_B_priceOf_4 ?_
  refine lv_istore_n (lv' := [(3, .int ((x1 * (5 : Int32)) + x2)), (0, .ref this), (1, .int x1), (2, .int x2)]) M.x M.b d_B_priceOf_5 rfl hl (by decide) rfl (fun ls hl => ?_)
  refine lv_iload_n M.x M.b d_B_priceOf_6 rfl (lv_at hl 0 rfl) ?_
  refine lv_if_lt (tgt := 19) M.x M.b d_B_priceOf_7 (by decide) (fun c14 => ?_) (fun c14 => ?_)
  · replace hf := z_t c14 hf
    refine lv_iconst (v := (0 : Int32)) M.x M.b d_B_priceOf_19 rfl ?_
    refine lv_goto (tgt := 29) M.x M.b d_B_priceOf_20 (by decide) ?_
    cases hf
    exact z_iret M hH hS d_B_priceOf_29
  · replace hf := z_f c14 hf
    refine lv_iload_n M.x M.b d_B_priceOf_10 rfl (lv_at hl 0 rfl) ?_
    refine lv_aload_n M.x M.b d_B_priceOf_11 rfl (lv_at hl 1 rfl) ?_
    replace hf := z_bind hf; obtain ⟨r1, e2, hf⟩ := hf
    refine z_get (ci := 0) (k := 0) M hH rfl (by decide) zinB q_4 (gA_spec e2) d_B_priceOf_12 ?_
    rcases r1 with _ | a3
    · exact absurd hf z_nb0
    replace hf := z_sb hf
    replace hf := z_bind hf; obtain ⟨i6, e5, hf⟩ := hf
    refine z_alen M hH e5 d_B_priceOf_15 ?_
    refine lv_icmp_lt (tgt := 23) M.x M.b d_B_priceOf_16 (by decide) (fun c13 => ?_) (fun c13 => ?_)
    · replace hf := z_t c13 hf
      refine lv_aload_n M.x M.b d_B_priceOf_23 rfl (lv_at hl 1 rfl) ?_
      replace hf := z_bind hf; obtain ⟨r7, e8, hf⟩ := hf
      refine z_get (ci := 0) (k := 0) M hH rfl (by decide) zinB q_4 (gA_spec e8) d_B_priceOf_24 ?_
      refine lv_iload_n M.x M.b d_B_priceOf_27 rfl (lv_at hl 0 rfl) ?_
      rcases r7 with _ | a9
      · exact absurd hf z_nb0
      replace hf := z_sb hf
      replace hf := z_bind hf; obtain ⟨i12, e11, hf⟩ := hf
      refine z_iald M hH e11 d_B_priceOf_28 ?_
      cases hf
      exact z_iret M hH hS d_B_priceOf_29
    · replace hf := z_f c13 hf
      refine lv_iconst (v := (0 : Int32)) M.x M.b d_B_priceOf_19 rfl ?_
      refine lv_goto (tgt := 29) M.x M.b d_B_priceOf_20 (by decide) ?_
      cases hf
      exact z_iret M hH hS d_B_priceOf_29
def f_B_setPrice (this : Nat) (x1 : Int32) (x2 : Int32) (x3 : Int32) (h : Hp) : Option Hp :=
  if isO h this 0 = true then
  if ((x1 * (5 : Int32)) + x2) < 0 then
    some h
  else
  (gA h this 0 0).bind fun r1 =>
  (r1).bind fun a3 =>
  (aN h a3).bind fun i6 =>
  if i6 ≤ ((x1 * (5 : Int32)) + x2) then
    some h
  else
  (gA h this 0 0).bind fun r7 =>
  (r7).bind fun a9 =>
  (sI h a9 ((x1 * (5 : Int32)) + x2) x3).bind fun h12 =>
  some h12
  else none
theorem o_B_setPrice {this : Nat} {x1 : Int32} {x2 : Int32} {x3 : Int32} {h : Hp} {h0 : Hp} (hf : f_B_setPrice this x1 x2 x3 h = some h0) : isO h this 0 = true := by
  unfold f_B_setPrice at hf
  exact (z_gd hf).1
set_option maxRecDepth 100000 in
set_option maxHeartbeats 4000000 in
theorem c_B_setPrice {l : Launch} {N0 : Nat} {D : va_G} {cs : Nat → ClassId} {this : Nat} {x1 : Int32} {x2 : Int32} {x3 : Int32} {h : Hp} {h0 : Hp} (hf : f_B_setPrice this x1 x2 x3 h = some h0) : Fn l N0 D cs y_B_setPrice b_B_setPrice 5 (none) 1 0 0 [.ref this, .int x1, .int x2, .int x3] h none h0 := by
  refine z_start (by decide) (Nat.le_of_ble_eq_true rfl) ?_
  intro p e s m args below meth c M hH hS ls hl
  unfold f_B_setPrice at hf
  obtain ⟨hO, hf⟩ := z_gd hf
  have hl : lv_has ls 5 [(0, .ref this), (1, .int x1), (2, .int x2), (3, .int x3)] := hl
  obtain ⟨H, hHe⟩ : ∃ H, H = s.heap := ⟨_, rfl⟩
  obtain ⟨locs, hLe⟩ : ∃ locs : List Loc, locs = [] := ⟨_, rfl⟩
  have hS : va_S (zA N0) s.heap H locs := by rw [hHe, hLe]; exact hS
  have hH : HH N0 D cs h H := by rw [hHe]; exact hH
  suffices hg : W p l e (zrm 1 0 0) s m args below meth c H locs 0 0 (MQ below (zQ N0 D cs none h0) args s 0 0 (zA N0)) (F0 m 0 ls []) by rw [hHe, hLe] at hg; exact hg
  clear hHe hLe
  refine lv_iload_n M.x M.b d_B_setPrice_0 rfl (lv_at hl 1 rfl) ?_
  refine lv_iconst (v := (5 : Int32)) M.x M.b d_B_setPrice_1 rfl ?_
  refine lv_imul M.x M.b d_B_setPrice_2 ?_
  refine lv_iload_n M.x M.b d_B_setPrice_3 rfl (lv_at hl 2 rfl) ?_
  refine lv_iadd M.x M.b d_B_setPrice_4 ?_
  refine lv_istore (lv' := [(4, .int ((x1 * (5 : Int32)) + x2)), (0, .ref this), (1, .int x1), (2, .int x2), (3, .int x3)]) M.x M.b d_B_setPrice_5 hl (by decide) rfl (fun ls hl => ?_)
  refine lv_iload M.x M.b d_B_setPrice_7 (lv_at hl 0 rfl) ?_
  refine lv_if_lt (tgt := 30) M.x M.b d_B_setPrice_9 (by decide) (fun c14 => ?_) (fun c14 => ?_)
  · replace hf := z_t c14 hf
    cases hf
    exact z_vret M hH hS d_B_setPrice_30
  · replace hf := z_f c14 hf
    refine lv_iload M.x M.b d_B_setPrice_12 (lv_at hl 0 rfl) ?_
    refine lv_aload_n M.x M.b d_B_setPrice_14 rfl (lv_at hl 1 rfl) ?_
    replace hf := z_bind hf; obtain ⟨r1, e2, hf⟩ := hf
    refine z_get (ci := 0) (k := 0) M hH rfl (by decide) zinB q_4 (gA_spec e2) d_B_setPrice_15 ?_
    rcases r1 with _ | a3
    · exact absurd hf z_nb0
    replace hf := z_sb hf
    replace hf := z_bind hf; obtain ⟨i6, e5, hf⟩ := hf
    refine z_alen M hH e5 d_B_setPrice_18 ?_
    refine lv_icmp_ge (tgt := 30) M.x M.b d_B_setPrice_19 (by decide) (fun c13 => ?_) (fun c13 => ?_)
    · replace hf := z_t c13 hf
      cases hf
      exact z_vret M hH hS d_B_setPrice_30
    · replace hf := z_f c13 hf
      refine lv_aload_n M.x M.b d_B_setPrice_22 rfl (lv_at hl 1 rfl) ?_
      replace hf := z_bind hf; obtain ⟨r7, e8, hf⟩ := hf
      refine z_get (ci := 0) (k := 0) M hH rfl (by decide) zinB q_4 (gA_spec e8) d_B_setPrice_23 ?_
      refine lv_iload M.x M.b d_B_setPrice_26 (lv_at hl 0 rfl) ?_
      refine lv_iload_n M.x M.b d_B_setPrice_28 rfl (lv_at hl 4 rfl) ?_
      rcases r7 with _ | a9
      · exact absurd hf z_nb0
      replace hf := z_sb hf
      replace hf := z_bind hf; obtain ⟨h12, e11, hf⟩ := hf
      refine z_iast M hH hS e11 d_B_setPrice_29 (fun H locs hH hS => ?_)
      cases hf
      exact z_vret M hH hS d_B_setPrice_30
def f_B_amountOf (this : Nat) (h : Hp) (x1 : Int32) (x2 : Int32) (x3 : Int32) : Option Int32 :=
  if isO h this 0 = true then
  if ((((x1 * (8 : Int32)) + x2) * (5 : Int32)) + x3) < 0 then
    some (0 : Int32)
  else
  (gA h this 0 1).bind fun r1 =>
  (r1).bind fun a3 =>
  (aN h a3).bind fun i6 =>
  if ((((x1 * (8 : Int32)) + x2) * (5 : Int32)) + x3) < i6 then
    (gA h this 0 1).bind fun r7 =>
    (r7).bind fun a9 =>
    (aI h 0 a9 ((((x1 * (8 : Int32)) + x2) * (5 : Int32)) + x3)).bind fun i12 =>
    some i12
  else
  some (0 : Int32)
  else none
theorem o_B_amountOf {this : Nat} {h : Hp} {x1 : Int32} {x2 : Int32} {x3 : Int32} {r0 : Int32} (hf : f_B_amountOf this h x1 x2 x3 = some r0) : isO h this 0 = true := by
  unfold f_B_amountOf at hf
  exact (z_gd hf).1
set_option maxRecDepth 100000 in
set_option maxHeartbeats 4000000 in
theorem c_B_amountOf {l : Launch} {N0 : Nat} {D : va_G} {cs : Nat → ClassId} {this : Nat} {h : Hp} {x1 : Int32} {x2 : Int32} {x3 : Int32} {r0 : Int32} (hf : f_B_amountOf this h x1 x2 x3 = some r0) : Fn l N0 D cs y_B_amountOf b_B_amountOf 5 (some .int) 1 0 0 [.ref this, .int x1, .int x2, .int x3] h (some (.int r0)) h := by
  refine z_start (by decide) (Nat.le_of_ble_eq_true rfl) ?_
  intro p e s m args below meth c M hH hS ls hl
  unfold f_B_amountOf at hf
  obtain ⟨hO, hf⟩ := z_gd hf
  have hl : lv_has ls 5 [(0, .ref this), (1, .int x1), (2, .int x2), (3, .int x3)] := hl
  obtain ⟨H, hHe⟩ : ∃ H, H = s.heap := ⟨_, rfl⟩
  obtain ⟨locs, hLe⟩ : ∃ locs : List Loc, locs = [] := ⟨_, rfl⟩
  have hS : va_S (zA N0) s.heap H locs := by rw [hHe, hLe]; exact hS
  have hH : HH N0 D cs h H := by rw [hHe]; exact hH
  suffices hg : W p l e (zrm 1 0 0) s m args below meth c H locs 0 0 (MQ below (zQ N0 D cs (some (.int r0)) h) args s 0 0 (zA N0)) (F0 m 0 ls []) by rw [hHe, hLe] at hg; exact hg
  clear hHe hLe
  refine lv_iload_n M.x M.b d_B_amountOf_0 rfl (lv_at hl 1 rfl) ?_
  refine lv_bipush (v := (8 : Int32)) M.x M.b d_B_amountOf_1 rfl ?_
  refine lv_imul M.x M.b d_B_amountOf_3 ?_
  refine lv_iload_n M.x M.b d_B_amountOf_4 rfl (lv_at hl 2 rfl) ?_
  refine lv_iadd M.x M.b d_B_amountOf_5 ?_
  refine lv_iconst (v := (5 : Int32)) M.x M.b d_B_amountOf_6 rfl ?_
  refine lv_imul M.x M.b d_B_amountOf_7 ?_
  refine lv_iload_n M.x M.b d_B_amountOf_8 rfl (lv_at hl 3 rfl) ?_
  refine lv_iadd M.x M.b d_B_amountOf_9 ?_
  refine lv_istore (lv' := [(4, .int ((((x1 * (8 : Int32)) + x2) * (5 : Int32)) + x3)), (0, .ref this), (1, .int x1), (2, .int x2), (3, .int x3)]) M.x M.b d_B_amountOf_10 hl (by decide) rfl (fun ls hl => ?_)
  refine lv_iload M.x M.b d_B_amountOf_12 (lv_at hl 0 rfl) ?_
  refine lv_if_lt (tgt := 27) M.x M.b d_B_amountOf_14 (by decide) (fun c14 => ?_) (fun c14 => ?_)
  · replace hf := z_t c14 hf
    refine lv_iconst (v := (0 : Int32)) M.x M.b d_B_amountOf_27 rfl ?_
    refine lv_goto (tgt := 38) M.x M.b d_B_amountOf_28 (by decide) ?_
    cases hf
    exact z_iret M hH hS d_B_amountOf_38
  · replace hf := z_f c14 hf
    refine lv_iload M.x M.b d_B_amountOf_17 (lv_at hl 0 rfl) ?_
    refine lv_aload_n M.x M.b d_B_amountOf_19 rfl (lv_at hl 1 rfl) ?_
    replace hf := z_bind hf; obtain ⟨r1, e2, hf⟩ := hf
    refine z_get (ci := 0) (k := 1) M hH rfl (by decide) zinB q_11 (gA_spec e2) d_B_amountOf_20 ?_
    rcases r1 with _ | a3
    · exact absurd hf z_nb0
    replace hf := z_sb hf
    replace hf := z_bind hf; obtain ⟨i6, e5, hf⟩ := hf
    refine z_alen M hH e5 d_B_amountOf_23 ?_
    refine lv_icmp_lt (tgt := 31) M.x M.b d_B_amountOf_24 (by decide) (fun c13 => ?_) (fun c13 => ?_)
    · replace hf := z_t c13 hf
      refine lv_aload_n M.x M.b d_B_amountOf_31 rfl (lv_at hl 1 rfl) ?_
      replace hf := z_bind hf; obtain ⟨r7, e8, hf⟩ := hf
      refine z_get (ci := 0) (k := 1) M hH rfl (by decide) zinB q_11 (gA_spec e8) d_B_amountOf_32 ?_
      refine lv_iload M.x M.b d_B_amountOf_35 (lv_at hl 0 rfl) ?_
      rcases r7 with _ | a9
      · exact absurd hf z_nb0
      replace hf := z_sb hf
      replace hf := z_bind hf; obtain ⟨i12, e11, hf⟩ := hf
      refine z_iald M hH e11 d_B_amountOf_37 ?_
      cases hf
      exact z_iret M hH hS d_B_amountOf_38
    · replace hf := z_f c13 hf
      refine lv_iconst (v := (0 : Int32)) M.x M.b d_B_amountOf_27 rfl ?_
      refine lv_goto (tgt := 38) M.x M.b d_B_amountOf_28 (by decide) ?_
      cases hf
      exact z_iret M hH hS d_B_amountOf_38
def f_B_setAmount (this : Nat) (x1 : Int32) (x2 : Int32) (x3 : Int32) (x4 : Int32) (h : Hp) : Option Hp :=
  if isO h this 0 = true then
  if ((((x1 * (8 : Int32)) + x2) * (5 : Int32)) + x3) < 0 then
    some h
  else
  (gA h this 0 1).bind fun r1 =>
  (r1).bind fun a3 =>
  (aN h a3).bind fun i6 =>
  if i6 ≤ ((((x1 * (8 : Int32)) + x2) * (5 : Int32)) + x3) then
    some h
  else
  (gA h this 0 1).bind fun r7 =>
  (r7).bind fun a9 =>
  (sI h a9 ((((x1 * (8 : Int32)) + x2) * (5 : Int32)) + x3) x4).bind fun h12 =>
  some h12
  else none
theorem o_B_setAmount {this : Nat} {x1 : Int32} {x2 : Int32} {x3 : Int32} {x4 : Int32} {h : Hp} {h0 : Hp} (hf : f_B_setAmount this x1 x2 x3 x4 h = some h0) : isO h this 0 = true := by
  unfold f_B_setAmount at hf
  exact (z_gd hf).1
set_option maxRecDepth 100000 in
set_option maxHeartbeats 4000000 in
theorem c_B_setAmount {l : Launch} {N0 : Nat} {D : va_G} {cs : Nat → ClassId} {this : Nat} {x1 : Int32} {x2 : Int32} {x3 : Int32} {x4 : Int32} {h : Hp} {h0 : Hp} (hf : f_B_setAmount this x1 x2 x3 x4 h = some h0) : Fn l N0 D cs y_B_setAmount b_B_setAmount 6 (none) 1 0 0 [.ref this, .int x1, .int x2, .int x3, .int x4] h none h0 := by
  refine z_start (by decide) (Nat.le_of_ble_eq_true rfl) ?_
  intro p e s m args below meth c M hH hS ls hl
  unfold f_B_setAmount at hf
  obtain ⟨hO, hf⟩ := z_gd hf
  have hl : lv_has ls 6 [(0, .ref this), (1, .int x1), (2, .int x2), (3, .int x3), (4, .int x4)] := hl
  obtain ⟨H, hHe⟩ : ∃ H, H = s.heap := ⟨_, rfl⟩
  obtain ⟨locs, hLe⟩ : ∃ locs : List Loc, locs = [] := ⟨_, rfl⟩
  have hS : va_S (zA N0) s.heap H locs := by rw [hHe, hLe]; exact hS
  have hH : HH N0 D cs h H := by rw [hHe]; exact hH
  suffices hg : W p l e (zrm 1 0 0) s m args below meth c H locs 0 0 (MQ below (zQ N0 D cs none h0) args s 0 0 (zA N0)) (F0 m 0 ls []) by rw [hHe, hLe] at hg; exact hg
  clear hHe hLe
  refine lv_iload_n M.x M.b d_B_setAmount_0 rfl (lv_at hl 1 rfl) ?_
  refine lv_bipush (v := (8 : Int32)) M.x M.b d_B_setAmount_1 rfl ?_
  refine lv_imul M.x M.b d_B_setAmount_3 ?_
  refine lv_iload_n M.x M.b d_B_setAmount_4 rfl (lv_at hl 2 rfl) ?_
  refine lv_iadd M.x M.b d_B_setAmount_5 ?_
  refine lv_iconst (v := (5 : Int32)) M.x M.b d_B_setAmount_6 rfl ?_
  refine lv_imul M.x M.b d_B_setAmount_7 ?_
  refine lv_iload_n M.x M.b d_B_setAmount_8 rfl (lv_at hl 3 rfl) ?_
  refine lv_iadd M.x M.b d_B_setAmount_9 ?_
  refine lv_istore (lv' := [(5, .int ((((x1 * (8 : Int32)) + x2) * (5 : Int32)) + x3)), (0, .ref this), (1, .int x1), (2, .int x2), (3, .int x3), (4, .int x4)]) M.x M.b d_B_setAmount_10 hl (by decide) rfl (fun ls hl => ?_)
  refine lv_iload M.x M.b d_B_setAmount_12 (lv_at hl 0 rfl) ?_
  refine lv_if_lt (tgt := 36) M.x M.b d_B_setAmount_14 (by decide) (fun c14 => ?_) (fun c14 => ?_)
  · replace hf := z_t c14 hf
    cases hf
    exact z_vret M hH hS d_B_setAmount_36
  · replace hf := z_f c14 hf
    refine lv_iload M.x M.b d_B_setAmount_17 (lv_at hl 0 rfl) ?_
    refine lv_aload_n M.x M.b d_B_setAmount_19 rfl (lv_at hl 1 rfl) ?_
    replace hf := z_bind hf; obtain ⟨r1, e2, hf⟩ := hf
    refine z_get (ci := 0) (k := 1) M hH rfl (by decide) zinB q_11 (gA_spec e2) d_B_setAmount_20 ?_
    rcases r1 with _ | a3
    · exact absurd hf z_nb0
    replace hf := z_sb hf
    replace hf := z_bind hf; obtain ⟨i6, e5, hf⟩ := hf
    refine z_alen M hH e5 d_B_setAmount_23 ?_
    refine lv_icmp_ge (tgt := 36) M.x M.b d_B_setAmount_24 (by decide) (fun c13 => ?_) (fun c13 => ?_)
    · replace hf := z_t c13 hf
      cases hf
      exact z_vret M hH hS d_B_setAmount_36
    · replace hf := z_f c13 hf
      refine lv_aload_n M.x M.b d_B_setAmount_27 rfl (lv_at hl 1 rfl) ?_
      replace hf := z_bind hf; obtain ⟨r7, e8, hf⟩ := hf
      refine z_get (ci := 0) (k := 1) M hH rfl (by decide) zinB q_11 (gA_spec e8) d_B_setAmount_28 ?_
      refine lv_iload M.x M.b d_B_setAmount_31 (lv_at hl 0 rfl) ?_
      refine lv_iload M.x M.b d_B_setAmount_33 (lv_at hl 5 rfl) ?_
      rcases r7 with _ | a9
      · exact absurd hf z_nb0
      replace hf := z_sb hf
      replace hf := z_bind hf; obtain ⟨h12, e11, hf⟩ := hf
      refine z_iast M hH hS e11 d_B_setAmount_35 (fun H locs hH hS => ?_)
      cases hf
      exact z_vret M hH hS d_B_setAmount_36
def t_B_copyYear_2 (this : Nat) (k2 : Int32 → Int32 → Int32 → Hp → Option Hp) (x1 : Int32) (x2 : Int32) (x3 : Int32) (h : Hp) : Option Hp :=
  if (5 : Int32) ≤ x3 then
    some h
  else
  (f_B_priceOf this h x1 x3).bind fun i2 =>
  (f_B_setPrice this x2 x3 i2 h).bind fun h4 =>
  k2 x1 x2 (x3 + (1 : Int32)) h4
set_option maxRecDepth 100000 in
set_option maxHeartbeats 4000000 in
theorem v_B_copyYear_2 {p : Program} {l : Launch} {e : Env} {s : State} {m : MethodId} {args : Array Value} {below : List Frame} {meth : Method} {c : Code} {N0 : Nat} {D : va_G} {cs : Nat → ClassId} (M : ZC p s m args meth c "YearBaskets$Books" "copyYear" b_B_copyYear 4 (none) N0 D cs) (this : Nat) (k2 : Int32 → Int32 → Int32 → Hp → Option Hp) {h0 : Hp} (hk2 : ∀ (x1 : Int32) (x2 : Int32) (x3 : Int32) (h : Hp), k2 x1 x2 x3 h = some h0 → ZG p l e (zrm 2 0 0) s m args below meth c N0 D cs none h0 h 4 [(0, .ref this), (1, .int x1), (2, .int x2), (3, .int x3)] 2 []) (x1 : Int32) (x2 : Int32) (x3 : Int32) (h : Hp) (hf : t_B_copyYear_2 this k2 x1 x2 x3 h = some h0) : ZG p l e (zrm 2 0 0) s m args below meth c N0 D cs none h0 h 4 [(0, .ref this), (1, .int x1), (2, .int x2), (3, .int x3)] 2 [] := by
  intro H locs ls hH hS hl
  unfold t_B_copyYear_2 at hf
  refine lv_iload_n M.x M.b d_B_copyYear_2 rfl (lv_at hl 3 rfl) ?_
  refine lv_iconst (v := (5 : Int32)) M.x M.b d_B_copyYear_3 rfl ?_
  refine lv_icmp_ge (tgt := 25) M.x M.b d_B_copyYear_4 (by decide) (fun c5 => ?_) (fun c5 => ?_)
  · replace hf := z_t c5 hf
    cases hf
    exact z_vret M hH hS d_B_copyYear_25
  · replace hf := z_f c5 hf
    refine lv_aload_n M.x M.b d_B_copyYear_7 rfl (lv_at hl 0 rfl) ?_
    refine lv_iload_n M.x M.b d_B_copyYear_8 rfl (lv_at hl 2 rfl) ?_
    refine lv_iload_n M.x M.b d_B_copyYear_9 rfl (lv_at hl 3 rfl) ?_
    refine lv_aload_n M.x M.b d_B_copyYear_10 rfl (lv_at hl 0 rfl) ?_
    refine lv_iload_n M.x M.b d_B_copyYear_11 rfl (lv_at hl 1 rfl) ?_
    refine lv_iload_n M.x M.b d_B_copyYear_12 rfl (lv_at hl 3 rfl) ?_
    replace hf := z_bind hf; obtain ⟨i2, e1, hf⟩ := hf
    refine zk_V (ci := 0) (st1 := [.int i2, .int x3, .int x2, .ref this]) M hH hS (c_B_priceOf e1) rfl (o_B_priceOf e1) w_B_priceOf q_19 [.int x3, .int x2, .ref this] rfl ⟨Nat.le_of_ble_eq_true rfl, Nat.le_of_ble_eq_true rfl⟩ hl.1 rfl rfl (Nat.le_of_ble_eq_true rfl) d_B_copyYear_13 (fun H locs hH hS => ?_)
    replace hf := z_bind hf; obtain ⟨h4, e3, hf⟩ := hf
    refine zk_V (ci := 0) (st1 := []) M hH hS (c_B_setPrice e3) rfl (o_B_setPrice e3) w_B_setPrice q_18 [] rfl ⟨Nat.le_of_ble_eq_true rfl, Nat.le_of_ble_eq_true rfl⟩ hl.1 rfl rfl (Nat.le_of_ble_eq_true rfl) d_B_copyYear_16 (fun H locs hH hS => ?_)
    refine lv_iinc (v := (x3 + (1 : Int32))) (lv' := [(3, .int (x3 + (1 : Int32))), (0, .ref this), (1, .int x1), (2, .int x2)]) M.x M.b d_B_copyYear_19 hl (k := 3) rfl rfl (by decide) rfl (fun ls hl => ?_)
    refine lv_goto (tgt := 2) M.x M.b d_B_copyYear_22 (by decide) ?_
    exact hk2 _ _ _ _ hf H locs ls hH hS (lv_sub hl [1, 2, 3, 0] rfl)
def f_B_copyYear_2 (this : Nat) : Nat → Int32 → Int32 → Int32 → Hp → Option Hp
  | 0, _, _, _, _ => none
  | n + 1, x1, x2, x3, h => t_B_copyYear_2 this (f_B_copyYear_2 this n) x1 x2 x3 h
theorem w_B_copyYear_2 {p : Program} {l : Launch} {e : Env} {s : State} {m : MethodId} {args : Array Value} {below : List Frame} {meth : Method} {c : Code} {N0 : Nat} {D : va_G} {cs : Nat → ClassId} (M : ZC p s m args meth c "YearBaskets$Books" "copyYear" b_B_copyYear 4 (none) N0 D cs) (this : Nat)  {h0 : Hp}  : ∀ (n : Nat) (x1 : Int32) (x2 : Int32) (x3 : Int32) (h : Hp), f_B_copyYear_2 this n x1 x2 x3 h = some h0 → ZG p l e (zrm 2 0 0) s m args below meth c N0 D cs none h0 h 4 [(0, .ref this), (1, .int x1), (2, .int x2), (3, .int x3)] 2 [] := by
  intro n
  induction n with
  | zero => intro x1 x2 x3 h hf; exact absurd (show none = some _ from hf) (fun q => by cases q)
  | succ n ih => intro x1 x2 x3 h hf; exact v_B_copyYear_2 M this (f_B_copyYear_2 this n)  ih _ _ _ _ hf
def f_B_copyYear (this : Nat) (x1 : Int32) (x2 : Int32) (h : Hp) : Option Hp :=
  if isO h this 0 = true then
  f_B_copyYear_2 this FU x1 x2 (0 : Int32) h
  else none
theorem o_B_copyYear {this : Nat} {x1 : Int32} {x2 : Int32} {h : Hp} {h0 : Hp} (hf : f_B_copyYear this x1 x2 h = some h0) : isO h this 0 = true := by
  unfold f_B_copyYear at hf
  exact (z_gd hf).1
set_option maxRecDepth 100000 in
set_option maxHeartbeats 4000000 in
theorem c_B_copyYear {l : Launch} {N0 : Nat} {D : va_G} {cs : Nat → ClassId} {this : Nat} {x1 : Int32} {x2 : Int32} {h : Hp} {h0 : Hp} (hf : f_B_copyYear this x1 x2 h = some h0) : Fn l N0 D cs y_B_copyYear b_B_copyYear 4 (none) 2 0 0 [.ref this, .int x1, .int x2] h none h0 := by
  refine z_start (by decide) (Nat.le_of_ble_eq_true rfl) ?_
  intro p e s m args below meth c M hH hS ls hl
  unfold f_B_copyYear at hf
  obtain ⟨hO, hf⟩ := z_gd hf
  have hl : lv_has ls 4 [(0, .ref this), (1, .int x1), (2, .int x2)] := hl
  obtain ⟨H, hHe⟩ : ∃ H, H = s.heap := ⟨_, rfl⟩
  obtain ⟨locs, hLe⟩ : ∃ locs : List Loc, locs = [] := ⟨_, rfl⟩
  have hS : va_S (zA N0) s.heap H locs := by rw [hHe, hLe]; exact hS
  have hH : HH N0 D cs h H := by rw [hHe]; exact hH
  suffices hg : W p l e (zrm 2 0 0) s m args below meth c H locs 0 0 (MQ below (zQ N0 D cs none h0) args s 0 0 (zA N0)) (F0 m 0 ls []) by rw [hHe, hLe] at hg; exact hg
  clear hHe hLe
  refine lv_iconst (v := (0 : Int32)) M.x M.b d_B_copyYear_0 rfl ?_
  refine lv_istore_n (lv' := [(3, .int (0 : Int32)), (0, .ref this), (1, .int x1), (2, .int x2)]) M.x M.b d_B_copyYear_1 rfl hl (by decide) rfl (fun ls hl => ?_)
  exact w_B_copyYear_2 M this FU _ _ _ _ hf H locs ls hH hS (lv_sub hl [1, 2, 3, 0] rfl)
def f_B_goodsPricedIn_24 (this : Nat) (h : Hp) (k4 : Int32 → Int32 → Int32 → Option Int32) (x1 : Int32) (x2 : Int32) (x3 : Int32) : Option Int32 :=
  k4 x1 x2 (x3 + (1 : Int32))
set_option maxRecDepth 100000 in
set_option maxHeartbeats 4000000 in
theorem w_B_goodsPricedIn_24 {p : Program} {l : Launch} {e : Env} {s : State} {m : MethodId} {args : Array Value} {below : List Frame} {meth : Method} {c : Code} {N0 : Nat} {D : va_G} {cs : Nat → ClassId} (M : ZC p s m args meth c "YearBaskets$Books" "goodsPricedIn" b_B_goodsPricedIn 4 (some .int) N0 D cs) (this : Nat) (h : Hp) (k4 : Int32 → Int32 → Int32 → Option Int32) {r0 : Int32} (hk4 : ∀ (x1 : Int32) (x2 : Int32) (x3 : Int32), k4 x1 x2 x3 = some r0 → ZG p l e (zrm 2 0 0) s m args below meth c N0 D cs (some (.int r0)) h h 4 [(0, .ref this), (1, .int x1), (2, .int x2), (3, .int x3)] 4 []) (x1 : Int32) (x2 : Int32) (x3 : Int32) (hf : f_B_goodsPricedIn_24 this h k4 x1 x2 x3 = some r0) : ZG p l e (zrm 2 0 0) s m args below meth c N0 D cs (some (.int r0)) h h 4 [(0, .ref this), (1, .int x1), (2, .int x2), (3, .int x3)] 24 [] := by
  intro H locs ls hH hS hl
  unfold f_B_goodsPricedIn_24 at hf
  refine lv_iinc (v := (x3 + (1 : Int32))) (lv' := [(3, .int (x3 + (1 : Int32))), (0, .ref this), (1, .int x1), (2, .int x2)]) M.x M.b d_B_goodsPricedIn_24 hl (k := 3) rfl rfl (by decide) rfl (fun ls hl => ?_)
  refine lv_goto (tgt := 4) M.x M.b d_B_goodsPricedIn_27 (by decide) ?_
  exact hk4 _ _ _ hf H locs ls hH hS (lv_sub hl [1, 2, 3, 0] rfl)
def t_B_goodsPricedIn_4 (this : Nat) (h : Hp) (k4 : Int32 → Int32 → Int32 → Option Int32) (x1 : Int32) (x2 : Int32) (x3 : Int32) : Option Int32 :=
  if (5 : Int32) ≤ x3 then
    some x2
  else
  (f_B_priceOf this h x1 x3).bind fun i2 =>
  if i2 ≤ 0 then
    f_B_goodsPricedIn_24 this h k4 x1 x2 x3
  else
  f_B_goodsPricedIn_24 this h k4 x1 (x2 ||| ((1 : Int32) <<< (x3 &&& 31))) x3
set_option maxRecDepth 100000 in
set_option maxHeartbeats 4000000 in
theorem v_B_goodsPricedIn_4 {p : Program} {l : Launch} {e : Env} {s : State} {m : MethodId} {args : Array Value} {below : List Frame} {meth : Method} {c : Code} {N0 : Nat} {D : va_G} {cs : Nat → ClassId} (M : ZC p s m args meth c "YearBaskets$Books" "goodsPricedIn" b_B_goodsPricedIn 4 (some .int) N0 D cs) (this : Nat) (h : Hp) (k4 : Int32 → Int32 → Int32 → Option Int32) {r0 : Int32} (hk4 : ∀ (x1 : Int32) (x2 : Int32) (x3 : Int32), k4 x1 x2 x3 = some r0 → ZG p l e (zrm 2 0 0) s m args below meth c N0 D cs (some (.int r0)) h h 4 [(0, .ref this), (1, .int x1), (2, .int x2), (3, .int x3)] 4 []) (x1 : Int32) (x2 : Int32) (x3 : Int32) (hf : t_B_goodsPricedIn_4 this h k4 x1 x2 x3 = some r0) : ZG p l e (zrm 2 0 0) s m args below meth c N0 D cs (some (.int r0)) h h 4 [(0, .ref this), (1, .int x1), (2, .int x2), (3, .int x3)] 4 [] := by
  intro H locs ls hH hS hl
  unfold t_B_goodsPricedIn_4 at hf
  refine lv_iload_n M.x M.b d_B_goodsPricedIn_4 rfl (lv_at hl 3 rfl) ?_
  refine lv_iconst (v := (5 : Int32)) M.x M.b d_B_goodsPricedIn_5 rfl ?_
  refine lv_icmp_ge (tgt := 30) M.x M.b d_B_goodsPricedIn_6 (by decide) (fun c4 => ?_) (fun c4 => ?_)
  · replace hf := z_t c4 hf
    refine lv_iload_n M.x M.b d_B_goodsPricedIn_30 rfl (lv_at hl 2 rfl) ?_
    cases hf
    exact z_iret M hH hS d_B_goodsPricedIn_31
  · replace hf := z_f c4 hf
    refine lv_aload_n M.x M.b d_B_goodsPricedIn_9 rfl (lv_at hl 0 rfl) ?_
    refine lv_iload_n M.x M.b d_B_goodsPricedIn_10 rfl (lv_at hl 1 rfl) ?_
    refine lv_iload_n M.x M.b d_B_goodsPricedIn_11 rfl (lv_at hl 3 rfl) ?_
    replace hf := z_bind hf; obtain ⟨i2, e1, hf⟩ := hf
    refine zk_V (ci := 0) (st1 := [.int i2]) M hH hS (c_B_priceOf e1) rfl (o_B_priceOf e1) w_B_priceOf q_19 [] rfl ⟨Nat.le_of_ble_eq_true rfl, Nat.le_of_ble_eq_true rfl⟩ hl.1 rfl rfl (Nat.le_of_ble_eq_true rfl) d_B_goodsPricedIn_12 (fun H locs hH hS => ?_)
    refine lv_if_le (tgt := 24) M.x M.b d_B_goodsPricedIn_15 (by decide) (fun c3 => ?_) (fun c3 => ?_)
    · replace hf := z_t c3 hf
      exact w_B_goodsPricedIn_24 M this h k4 hk4 _ _ _ hf H locs ls hH hS (lv_sub hl [0, 1, 2, 3] rfl)
    · replace hf := z_f c3 hf
      refine lv_iload_n M.x M.b d_B_goodsPricedIn_18 rfl (lv_at hl 2 rfl) ?_
      refine lv_iconst (v := (1 : Int32)) M.x M.b d_B_goodsPricedIn_19 rfl ?_
      refine lv_iload_n M.x M.b d_B_goodsPricedIn_20 rfl (lv_at hl 3 rfl) ?_
      refine lv_ishl M.x M.b d_B_goodsPricedIn_21 ?_
      refine lv_ior M.x M.b d_B_goodsPricedIn_22 ?_
      refine lv_istore_n (lv' := [(2, .int (x2 ||| ((1 : Int32) <<< (x3 &&& 31)))), (0, .ref this), (1, .int x1), (3, .int x3)]) M.x M.b d_B_goodsPricedIn_23 rfl hl (by decide) rfl (fun ls hl => ?_)
      exact w_B_goodsPricedIn_24 M this h k4 hk4 _ _ _ hf H locs ls hH hS (lv_sub hl [1, 2, 0, 3] rfl)
def f_B_goodsPricedIn_4 (this : Nat) (h : Hp) : Nat → Int32 → Int32 → Int32 → Option Int32
  | 0, _, _, _ => none
  | n + 1, x1, x2, x3 => t_B_goodsPricedIn_4 this h (f_B_goodsPricedIn_4 this h n) x1 x2 x3
theorem w_B_goodsPricedIn_4 {p : Program} {l : Launch} {e : Env} {s : State} {m : MethodId} {args : Array Value} {below : List Frame} {meth : Method} {c : Code} {N0 : Nat} {D : va_G} {cs : Nat → ClassId} (M : ZC p s m args meth c "YearBaskets$Books" "goodsPricedIn" b_B_goodsPricedIn 4 (some .int) N0 D cs) (this : Nat) (h : Hp)  {r0 : Int32}  : ∀ (n : Nat) (x1 : Int32) (x2 : Int32) (x3 : Int32), f_B_goodsPricedIn_4 this h n x1 x2 x3 = some r0 → ZG p l e (zrm 2 0 0) s m args below meth c N0 D cs (some (.int r0)) h h 4 [(0, .ref this), (1, .int x1), (2, .int x2), (3, .int x3)] 4 [] := by
  intro n
  induction n with
  | zero => intro x1 x2 x3 hf; exact absurd (show none = some _ from hf) (fun q => by cases q)
  | succ n ih => intro x1 x2 x3 hf; exact v_B_goodsPricedIn_4 M this h (f_B_goodsPricedIn_4 this h n)  ih _ _ _ hf
def f_B_goodsPricedIn (this : Nat) (h : Hp) (x1 : Int32) : Option Int32 :=
  if isO h this 0 = true then
  f_B_goodsPricedIn_4 this h FU x1 (0 : Int32) (0 : Int32)
  else none
theorem o_B_goodsPricedIn {this : Nat} {h : Hp} {x1 : Int32} {r0 : Int32} (hf : f_B_goodsPricedIn this h x1 = some r0) : isO h this 0 = true := by
  unfold f_B_goodsPricedIn at hf
  exact (z_gd hf).1
set_option maxRecDepth 100000 in
set_option maxHeartbeats 4000000 in
theorem c_B_goodsPricedIn {l : Launch} {N0 : Nat} {D : va_G} {cs : Nat → ClassId} {this : Nat} {h : Hp} {x1 : Int32} {r0 : Int32} (hf : f_B_goodsPricedIn this h x1 = some r0) : Fn l N0 D cs y_B_goodsPricedIn b_B_goodsPricedIn 4 (some .int) 2 0 0 [.ref this, .int x1] h (some (.int r0)) h := by
  refine z_start (by decide) (Nat.le_of_ble_eq_true rfl) ?_
  intro p e s m args below meth c M hH hS ls hl
  unfold f_B_goodsPricedIn at hf
  obtain ⟨hO, hf⟩ := z_gd hf
  have hl : lv_has ls 4 [(0, .ref this), (1, .int x1)] := hl
  obtain ⟨H, hHe⟩ : ∃ H, H = s.heap := ⟨_, rfl⟩
  obtain ⟨locs, hLe⟩ : ∃ locs : List Loc, locs = [] := ⟨_, rfl⟩
  have hS : va_S (zA N0) s.heap H locs := by rw [hHe, hLe]; exact hS
  have hH : HH N0 D cs h H := by rw [hHe]; exact hH
  suffices hg : W p l e (zrm 2 0 0) s m args below meth c H locs 0 0 (MQ below (zQ N0 D cs (some (.int r0)) h) args s 0 0 (zA N0)) (F0 m 0 ls []) by rw [hHe, hLe] at hg; exact hg
  clear hHe hLe
  refine lv_iconst (v := (0 : Int32)) M.x M.b d_B_goodsPricedIn_0 rfl ?_
  refine lv_istore_n (lv' := [(2, .int (0 : Int32)), (0, .ref this), (1, .int x1)]) M.x M.b d_B_goodsPricedIn_1 rfl hl (by decide) rfl (fun ls hl => ?_)
  refine lv_iconst (v := (0 : Int32)) M.x M.b d_B_goodsPricedIn_2 rfl ?_
  refine lv_istore_n (lv' := [(3, .int (0 : Int32)), (2, .int (0 : Int32)), (0, .ref this), (1, .int x1)]) M.x M.b d_B_goodsPricedIn_3 rfl hl (by decide) rfl (fun ls hl => ?_)
  exact w_B_goodsPricedIn_4 M this h FU _ _ _ hf H locs ls hH hS (lv_sub hl [2, 3, 1, 0] rfl)
