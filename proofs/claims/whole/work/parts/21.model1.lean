/-! ===== the reference, 1: printed by wip/whole/drive.py out of the bytecode ===== -/
theorem q_650 : (Jvm.Cond.instanceMethod ({ cls := "YearBasketsModel", name := "close", desc := "(I)I" } : Jvm.MethodName)) ∈ zG := zt_5 (List.mem_of_getElem? (i := 33) rfl) rfl
theorem q_651 : (Jvm.Cond.selects "YearBasketsModel" ({ cls := "YearBasketsModel", name := "close", desc := "(I)I" } : Jvm.MethodName) ({ cls := "YearBasketsModel", name := "close", desc := "(I)I" } : Jvm.MethodName)) ∈ zG := zG_s (List.mem_of_getElem? (i := 41) rfl) rfl
theorem q_652 : (Jvm.Cond.code ({ cls := "YearBasketsModel", name := "close", desc := "(I)I" } : Jvm.MethodName) prog_10_method_25_code (5 : Nat) (Option.some Jvm.ClassFile.FieldType.int)) ∈ zG := zt_5 (List.mem_of_getElem? (i := 34) rfl) rfl
theorem q_653 : (Jvm.Cond.instanceMethod ({ cls := "YearBasketsModel", name := "number", desc := "()I" } : Jvm.MethodName)) ∈ zG := zt_4 (List.mem_of_getElem? (i := 231) rfl) rfl
theorem q_654 : (Jvm.Cond.selects "YearBasketsModel" ({ cls := "YearBasketsModel", name := "number", desc := "()I" } : Jvm.MethodName) ({ cls := "YearBasketsModel", name := "number", desc := "()I" } : Jvm.MethodName)) ∈ zG := zt_4 (List.mem_of_getElem? (i := 232) rfl) rfl
theorem q_655 : (Jvm.Cond.code ({ cls := "YearBasketsModel", name := "number", desc := "()I" } : Jvm.MethodName) prog_10_method_26_code (5 : Nat) (Option.some Jvm.ClassFile.FieldType.int)) ∈ zG := zt_4 (List.mem_of_getElem? (i := 233) rfl) rfl
theorem q_656 : (Jvm.Cond.methodLink "YearBasketsModel" (194 : Nat) ({ cls := "YearBasketsModel", name := "close", desc := "(I)I" } : Jvm.MethodName)) ∈ zG := zt_5 (List.mem_of_getElem? (i := 31) rfl) rfl
theorem q_657 : (Jvm.Cond.methodLink "YearBasketsModel" (191 : Nat) ({ cls := "YearBasketsModel", name := "readNode", desc := "(I)I" } : Jvm.MethodName)) ∈ zG := zt_4 (List.mem_of_getElem? (i := 234) rfl) rfl
theorem q_658 : (Jvm.Cond.instanceMethod ({ cls := "YearBasketsModel", name := "fault", desc := "()I" } : Jvm.MethodName)) ∈ zG := zt_5 (List.mem_of_getElem? (i := 36) rfl) rfl
theorem q_659 : (Jvm.Cond.selects "YearBasketsModel" ({ cls := "YearBasketsModel", name := "fault", desc := "()I" } : Jvm.MethodName) ({ cls := "YearBasketsModel", name := "fault", desc := "()I" } : Jvm.MethodName)) ∈ zG := zt_5 (List.mem_of_getElem? (i := 37) rfl) rfl
theorem q_660 : (Jvm.Cond.code ({ cls := "YearBasketsModel", name := "fault", desc := "()I" } : Jvm.MethodName) prog_10_method_27_code (1 : Nat) (Option.some Jvm.ClassFile.FieldType.int)) ∈ zG := zt_5 (List.mem_of_getElem? (i := 38) rfl) rfl
theorem q_661 : (Jvm.Cond.static ({ cls := "YearBasketsModel", name := "gcd", desc := "(JJ)J" } : Jvm.MethodName)) ∈ zG := zt_5 (List.mem_of_getElem? (i := 74) rfl) rfl
theorem q_662 : (Jvm.Cond.code ({ cls := "YearBasketsModel", name := "gcd", desc := "(JJ)J" } : Jvm.MethodName) prog_10_method_28_code (10 : Nat) (Option.some Jvm.ClassFile.FieldType.long)) ∈ zG := zt_5 (List.mem_of_getElem? (i := 75) rfl) rfl
theorem q_663 : (Jvm.Cond.instanceMethod ({ cls := "YearBasketsModel", name := "take", desc := "(JJZ)I" } : Jvm.MethodName)) ∈ zG := zt_5 (List.mem_of_getElem? (i := 71) rfl) rfl
theorem q_664 : (Jvm.Cond.selects "YearBasketsModel" ({ cls := "YearBasketsModel", name := "take", desc := "(JJZ)I" } : Jvm.MethodName) ({ cls := "YearBasketsModel", name := "take", desc := "(JJZ)I" } : Jvm.MethodName)) ∈ zG := zG_s (List.mem_of_getElem? (i := 48) rfl) rfl
theorem q_665 : (Jvm.Cond.code ({ cls := "YearBasketsModel", name := "take", desc := "(JJZ)I" } : Jvm.MethodName) prog_10_method_29_code (8 : Nat) (Option.some Jvm.ClassFile.FieldType.int)) ∈ zG := zt_5 (List.mem_of_getElem? (i := 72) rfl) rfl
theorem q_666 : (Jvm.Cond.constantLong "YearBasketsModel" (212 : Nat) (1000000000000000 : Int64)) ∈ zG := zt_5 (List.mem_of_getElem? (i := 76) rfl) rfl
theorem q_667 : (Jvm.Cond.fieldLink "YearBasketsModel" (205 : Nat) "YearBasketsModel" "low" "J") ∈ zG := zt_4 (List.mem_of_getElem? (i := 64) rfl) rfl
theorem q_668 : (Jvm.Cond.fieldLink "YearBasketsModel" (201 : Nat) "YearBasketsModel" "up" "J") ∈ zG := zt_4 (List.mem_of_getElem? (i := 63) rfl) rfl
theorem q_669 : (Jvm.Cond.fieldLink "YearBasketsModel" (208 : Nat) "YearBasketsModel" "isRoot" "Z") ∈ zG := zt_4 (List.mem_of_getElem? (i := 65) rfl) rfl
theorem q_670 : (Jvm.Cond.methodLink "YearBasketsModel" (197 : Nat) ({ cls := "YearBasketsModel", name := "gcd", desc := "(JJ)J" } : Jvm.MethodName)) ∈ zG := zt_5 (List.mem_of_getElem? (i := 73) rfl) rfl
theorem q_671 : (Jvm.Cond.instanceMethod ({ cls := "YearBasketsModel", name := "multiply", desc := "(JJJJZ)I" } : Jvm.MethodName)) ∈ zG := zt_5 (List.mem_of_getElem? (i := 87) rfl) rfl
theorem q_672 : (Jvm.Cond.selects "YearBasketsModel" ({ cls := "YearBasketsModel", name := "multiply", desc := "(JJJJZ)I" } : Jvm.MethodName) ({ cls := "YearBasketsModel", name := "multiply", desc := "(JJJJZ)I" } : Jvm.MethodName)) ∈ zG := zG_s (List.mem_of_getElem? (i := 51) rfl) rfl
theorem q_673 : (Jvm.Cond.code ({ cls := "YearBasketsModel", name := "multiply", desc := "(JJJJZ)I" } : Jvm.MethodName) prog_10_method_30_code (22 : Nat) (Option.some Jvm.ClassFile.FieldType.int)) ∈ zG := zt_5 (List.mem_of_getElem? (i := 88) rfl) rfl
theorem q_674 : (Jvm.Cond.methodLink "YearBasketsModel" (214 : Nat) ({ cls := "YearBasketsModel", name := "take", desc := "(JJZ)I" } : Jvm.MethodName)) ∈ zG := zt_5 (List.mem_of_getElem? (i := 69) rfl) rfl
theorem q_675 : (Jvm.Cond.static ({ cls := "YearBasketsModel", name := "compare", desc := "(JJJJ)I" } : Jvm.MethodName)) ∈ zG := zt_5 (List.mem_of_getElem? (i := 106) rfl) rfl
theorem q_676 : (Jvm.Cond.code ({ cls := "YearBasketsModel", name := "compare", desc := "(JJJJ)I" } : Jvm.MethodName) prog_10_method_31_code (25 : Nat) (Option.some Jvm.ClassFile.FieldType.int)) ∈ zG := zt_5 (List.mem_of_getElem? (i := 107) rfl) rfl
theorem q_677 : (Jvm.Cond.instanceMethod ({ cls := "YearBasketsModel", name := "orderOf", desc := "(JJZJJZ)I" } : Jvm.MethodName)) ∈ zG := zt_5 (List.mem_of_getElem? (i := 103) rfl) rfl
theorem q_678 : (Jvm.Cond.selects "YearBasketsModel" ({ cls := "YearBasketsModel", name := "orderOf", desc := "(JJZJJZ)I" } : Jvm.MethodName) ({ cls := "YearBasketsModel", name := "orderOf", desc := "(JJZJJZ)I" } : Jvm.MethodName)) ∈ zG := zG_s (List.mem_of_getElem? (i := 55) rfl) rfl
theorem q_679 : (Jvm.Cond.code ({ cls := "YearBasketsModel", name := "orderOf", desc := "(JJZJJZ)I" } : Jvm.MethodName) prog_10_method_32_code (20 : Nat) (Option.some Jvm.ClassFile.FieldType.int)) ∈ zG := zt_5 (List.mem_of_getElem? (i := 104) rfl) rfl
theorem q_680 : (Jvm.Cond.fieldLink "YearBasketsModel" (226 : Nat) "YearBasketsModel" "ordered" "I") ∈ zG := zt_4 (List.mem_of_getElem? (i := 66) rfl) rfl
theorem q_681 : (Jvm.Cond.methodLink "YearBasketsModel" (222 : Nat) ({ cls := "YearBasketsModel", name := "compare", desc := "(JJJJ)I" } : Jvm.MethodName)) ∈ zG := zt_5 (List.mem_of_getElem? (i := 105) rfl) rfl
theorem q_682 : (Jvm.Cond.methodLink "YearBasketsModel" (218 : Nat) ({ cls := "YearBasketsModel", name := "multiply", desc := "(JJJJZ)I" } : Jvm.MethodName)) ∈ zG := zt_5 (List.mem_of_getElem? (i := 85) rfl) rfl
theorem q_683 : (Jvm.Cond.instanceMethod ({ cls := "YearBasketsModel", name := "push", desc := "(IIII)V" } : Jvm.MethodName)) ∈ zG := zt_5 (List.mem_of_getElem? (i := 55) rfl) rfl
theorem q_684 : (Jvm.Cond.selects "YearBasketsModel" ({ cls := "YearBasketsModel", name := "push", desc := "(IIII)V" } : Jvm.MethodName) ({ cls := "YearBasketsModel", name := "push", desc := "(IIII)V" } : Jvm.MethodName)) ∈ zG := zG_s (List.mem_of_getElem? (i := 44) rfl) rfl
theorem q_685 : (Jvm.Cond.code ({ cls := "YearBasketsModel", name := "push", desc := "(IIII)V" } : Jvm.MethodName) prog_10_method_33_code (5 : Nat) (Option.none : Option Jvm.ClassFile.FieldType)) ∈ zG := zt_5 (List.mem_of_getElem? (i := 56) rfl) rfl
theorem q_686 : (Jvm.Cond.fieldLink "YearBasketsModel" (229 : Nat) "YearBasketsModel" "frames" "I") ∈ zG := zt_4 (List.mem_of_getElem? (i := 75) rfl) rfl
theorem q_687 : (Jvm.Cond.fieldLink "YearBasketsModel" (48 : Nat) "YearBasketsModel" "step" "[I") ∈ zG := zt_4 (List.mem_of_getElem? (i := 71) rfl) rfl
theorem q_688 : (Jvm.Cond.fieldLink "YearBasketsModel" (45 : Nat) "YearBasketsModel" "goodsOf" "[I") ∈ zG := zt_4 (List.mem_of_getElem? (i := 70) rfl) rfl
theorem q_689 : (Jvm.Cond.fieldLink "YearBasketsModel" (42 : Nat) "YearBasketsModel" "toYear" "[I") ∈ zG := zt_4 (List.mem_of_getElem? (i := 69) rfl) rfl
theorem q_690 : (Jvm.Cond.fieldLink "YearBasketsModel" (39 : Nat) "YearBasketsModel" "fromYear" "[I") ∈ zG := zt_4 (List.mem_of_getElem? (i := 68) rfl) rfl
theorem q_691 : (Jvm.Cond.fieldLink "YearBasketsModel" (36 : Nat) "YearBasketsModel" "node" "[I") ∈ zG := zt_4 (List.mem_of_getElem? (i := 67) rfl) rfl
theorem q_692 : (Jvm.Cond.instanceMethod ({ cls := "YearBasketsModel", name := "plain", desc := "(III)I" } : Jvm.MethodName)) ∈ zG := zt_5 (List.mem_of_getElem? (i := 67) rfl) rfl
theorem q_693 : (Jvm.Cond.selects "YearBasketsModel" ({ cls := "YearBasketsModel", name := "plain", desc := "(III)I" } : Jvm.MethodName) ({ cls := "YearBasketsModel", name := "plain", desc := "(III)I" } : Jvm.MethodName)) ∈ zG := zG_s (List.mem_of_getElem? (i := 47) rfl) rfl
theorem q_694 : (Jvm.Cond.code ({ cls := "YearBasketsModel", name := "plain", desc := "(III)I" } : Jvm.MethodName) prog_10_method_34_code (12 : Nat) (Option.some Jvm.ClassFile.FieldType.int)) ∈ zG := zt_5 (List.mem_of_getElem? (i := 68) rfl) rfl
theorem q_695 : (Jvm.Cond.instanceMethod ({ cls := "YearBasketsModel", name := "sums", desc := "(III)I" } : Jvm.MethodName)) ∈ zG := zt_5 (List.mem_of_getElem? (i := 79) rfl) rfl
theorem q_696 : (Jvm.Cond.selects "YearBasketsModel" ({ cls := "YearBasketsModel", name := "sums", desc := "(III)I" } : Jvm.MethodName) ({ cls := "YearBasketsModel", name := "sums", desc := "(III)I" } : Jvm.MethodName)) ∈ zG := zG_s (List.mem_of_getElem? (i := 49) rfl) rfl
theorem q_697 : (Jvm.Cond.code ({ cls := "YearBasketsModel", name := "sums", desc := "(III)I" } : Jvm.MethodName) prog_10_method_35_code (7 : Nat) (Option.some Jvm.ClassFile.FieldType.int)) ∈ zG := zt_5 (List.mem_of_getElem? (i := 80) rfl) rfl
theorem q_698 : (Jvm.Cond.instanceMethod ({ cls := "YearBasketsModel", name := "leaf", desc := "(IIIII)I" } : Jvm.MethodName)) ∈ zG := zt_5 (List.mem_of_getElem? (i := 63) rfl) rfl
theorem q_699 : (Jvm.Cond.selects "YearBasketsModel" ({ cls := "YearBasketsModel", name := "leaf", desc := "(IIIII)I" } : Jvm.MethodName) ({ cls := "YearBasketsModel", name := "leaf", desc := "(IIIII)I" } : Jvm.MethodName)) ∈ zG := zG_s (List.mem_of_getElem? (i := 46) rfl) rfl
theorem q_700 : (Jvm.Cond.code ({ cls := "YearBasketsModel", name := "leaf", desc := "(IIIII)I" } : Jvm.MethodName) prog_10_method_36_code (11 : Nat) (Option.some Jvm.ClassFile.FieldType.int)) ∈ zG := zt_5 (List.mem_of_getElem? (i := 64) rfl) rfl
theorem q_701 : (Jvm.Cond.methodLink "YearBasketsModel" (235 : Nat) ({ cls := "YearBasketsModel", name := "sums", desc := "(III)I" } : Jvm.MethodName)) ∈ zG := zt_5 (List.mem_of_getElem? (i := 77) rfl) rfl
theorem q_702 : (Jvm.Cond.methodLink "YearBasketsModel" (232 : Nat) ({ cls := "YearBasketsModel", name := "plain", desc := "(III)I" } : Jvm.MethodName)) ∈ zG := zt_5 (List.mem_of_getElem? (i := 65) rfl) rfl
theorem q_703 : (Jvm.Cond.instanceMethod ({ cls := "YearBasketsModel", name := "half", desc := "(JJ)I" } : Jvm.MethodName)) ∈ zG := zt_5 (List.mem_of_getElem? (i := 99) rfl) rfl
theorem q_704 : (Jvm.Cond.selects "YearBasketsModel" ({ cls := "YearBasketsModel", name := "half", desc := "(JJ)I" } : Jvm.MethodName) ({ cls := "YearBasketsModel", name := "half", desc := "(JJ)I" } : Jvm.MethodName)) ∈ zG := zG_s (List.mem_of_getElem? (i := 54) rfl) rfl
theorem q_705 : (Jvm.Cond.code ({ cls := "YearBasketsModel", name := "half", desc := "(JJ)I" } : Jvm.MethodName) prog_10_method_38_code (5 : Nat) (Option.some Jvm.ClassFile.FieldType.int)) ∈ zG := zt_5 (List.mem_of_getElem? (i := 100) rfl) rfl
abbrev b_M_close : ByteArray := prog_10_method_25_code
abbrev y_M_close : MethodName := ⟨"YearBasketsModel", "close", "(I)I"⟩
abbrev b_M_number : ByteArray := prog_10_method_26_code
abbrev y_M_number : MethodName := ⟨"YearBasketsModel", "number", "()I"⟩
abbrev b_M_fault : ByteArray := prog_10_method_27_code
abbrev y_M_fault : MethodName := ⟨"YearBasketsModel", "fault", "()I"⟩
abbrev b_M_gcd : ByteArray := prog_10_method_28_code
abbrev y_M_gcd : MethodName := ⟨"YearBasketsModel", "gcd", "(JJ)J"⟩
abbrev b_M_take : ByteArray := prog_10_method_29_code
abbrev y_M_take : MethodName := ⟨"YearBasketsModel", "take", "(JJZ)I"⟩
abbrev b_M_multiply : ByteArray := prog_10_method_30_code
abbrev y_M_multiply : MethodName := ⟨"YearBasketsModel", "multiply", "(JJJJZ)I"⟩
abbrev b_M_compare : ByteArray := prog_10_method_31_code
abbrev y_M_compare : MethodName := ⟨"YearBasketsModel", "compare", "(JJJJ)I"⟩
abbrev b_M_orderOf : ByteArray := prog_10_method_32_code
abbrev y_M_orderOf : MethodName := ⟨"YearBasketsModel", "orderOf", "(JJZJJZ)I"⟩
abbrev b_M_push : ByteArray := prog_10_method_33_code
abbrev y_M_push : MethodName := ⟨"YearBasketsModel", "push", "(IIII)V"⟩
abbrev b_M_plain : ByteArray := prog_10_method_34_code
abbrev y_M_plain : MethodName := ⟨"YearBasketsModel", "plain", "(III)I"⟩
abbrev b_M_sums : ByteArray := prog_10_method_35_code
abbrev y_M_sums : MethodName := ⟨"YearBasketsModel", "sums", "(III)I"⟩
abbrev b_M_leaf : ByteArray := prog_10_method_36_code
abbrev y_M_leaf : MethodName := ⟨"YearBasketsModel", "leaf", "(IIIII)I"⟩
abbrev b_M_half : ByteArray := prog_10_method_38_code
abbrev y_M_half : MethodName := ⟨"YearBasketsModel", "half", "(JJ)I"⟩
theorem w_M_close : Cond.code y_M_close b_M_close 5 (some .int) ∈ zG ∧ (Cond.instanceMethod y_M_close ∈ zG ∧ Cond.selects y_M_close.cls y_M_close y_M_close ∈ zG) ∧ Cond.initialized y_M_close.cls ∈ zG ∧ zY y_M_close 1 := ⟨q_652, ⟨q_650, q_651⟩, q_547, by decide +kernel⟩
theorem w_M_number : Cond.code y_M_number b_M_number 5 (some .int) ∈ zG ∧ (Cond.instanceMethod y_M_number ∈ zG ∧ Cond.selects y_M_number.cls y_M_number y_M_number ∈ zG) ∧ Cond.initialized y_M_number.cls ∈ zG ∧ zY y_M_number 0 := ⟨q_655, ⟨q_653, q_654⟩, q_547, by decide +kernel⟩
theorem w_M_fault : Cond.code y_M_fault b_M_fault 1 (some .int) ∈ zG ∧ (Cond.instanceMethod y_M_fault ∈ zG ∧ Cond.selects y_M_fault.cls y_M_fault y_M_fault ∈ zG) ∧ Cond.initialized y_M_fault.cls ∈ zG ∧ zY y_M_fault 0 := ⟨q_660, ⟨q_658, q_659⟩, q_547, by decide +kernel⟩
theorem w_M_gcd : Cond.code y_M_gcd b_M_gcd 10 (some .long) ∈ zG ∧ Cond.static y_M_gcd ∈ zG ∧ Cond.initialized y_M_gcd.cls ∈ zG ∧ zY y_M_gcd 2 := ⟨q_662, q_661, q_547, by decide +kernel⟩
theorem w_M_take : Cond.code y_M_take b_M_take 8 (some .int) ∈ zG ∧ (Cond.instanceMethod y_M_take ∈ zG ∧ Cond.selects y_M_take.cls y_M_take y_M_take ∈ zG) ∧ Cond.initialized y_M_take.cls ∈ zG ∧ zY y_M_take 3 := ⟨q_665, ⟨q_663, q_664⟩, q_547, by decide +kernel⟩
theorem w_M_multiply : Cond.code y_M_multiply b_M_multiply 22 (some .int) ∈ zG ∧ (Cond.instanceMethod y_M_multiply ∈ zG ∧ Cond.selects y_M_multiply.cls y_M_multiply y_M_multiply ∈ zG) ∧ Cond.initialized y_M_multiply.cls ∈ zG ∧ zY y_M_multiply 5 := ⟨q_673, ⟨q_671, q_672⟩, q_547, by decide +kernel⟩
theorem w_M_compare : Cond.code y_M_compare b_M_compare 25 (some .int) ∈ zG ∧ Cond.static y_M_compare ∈ zG ∧ Cond.initialized y_M_compare.cls ∈ zG ∧ zY y_M_compare 4 := ⟨q_676, q_675, q_547, by decide +kernel⟩
theorem w_M_orderOf : Cond.code y_M_orderOf b_M_orderOf 20 (some .int) ∈ zG ∧ (Cond.instanceMethod y_M_orderOf ∈ zG ∧ Cond.selects y_M_orderOf.cls y_M_orderOf y_M_orderOf ∈ zG) ∧ Cond.initialized y_M_orderOf.cls ∈ zG ∧ zY y_M_orderOf 6 := ⟨q_679, ⟨q_677, q_678⟩, q_547, by decide +kernel⟩
theorem w_M_push : Cond.code y_M_push b_M_push 5 (none) ∈ zG ∧ (Cond.instanceMethod y_M_push ∈ zG ∧ Cond.selects y_M_push.cls y_M_push y_M_push ∈ zG) ∧ Cond.initialized y_M_push.cls ∈ zG ∧ zY y_M_push 4 := ⟨q_685, ⟨q_683, q_684⟩, q_547, by decide +kernel⟩
theorem w_M_plain : Cond.code y_M_plain b_M_plain 12 (some .int) ∈ zG ∧ (Cond.instanceMethod y_M_plain ∈ zG ∧ Cond.selects y_M_plain.cls y_M_plain y_M_plain ∈ zG) ∧ Cond.initialized y_M_plain.cls ∈ zG ∧ zY y_M_plain 3 := ⟨q_694, ⟨q_692, q_693⟩, q_547, by decide +kernel⟩
theorem w_M_sums : Cond.code y_M_sums b_M_sums 7 (some .int) ∈ zG ∧ (Cond.instanceMethod y_M_sums ∈ zG ∧ Cond.selects y_M_sums.cls y_M_sums y_M_sums ∈ zG) ∧ Cond.initialized y_M_sums.cls ∈ zG ∧ zY y_M_sums 3 := ⟨q_697, ⟨q_695, q_696⟩, q_547, by decide +kernel⟩
theorem w_M_leaf : Cond.code y_M_leaf b_M_leaf 11 (some .int) ∈ zG ∧ (Cond.instanceMethod y_M_leaf ∈ zG ∧ Cond.selects y_M_leaf.cls y_M_leaf y_M_leaf ∈ zG) ∧ Cond.initialized y_M_leaf.cls ∈ zG ∧ zY y_M_leaf 5 := ⟨q_700, ⟨q_698, q_699⟩, q_547, by decide +kernel⟩
theorem w_M_half : Cond.code y_M_half b_M_half 5 (some .int) ∈ zG ∧ (Cond.instanceMethod y_M_half ∈ zG ∧ Cond.selects y_M_half.cls y_M_half y_M_half ∈ zG) ∧ Cond.initialized y_M_half.cls ∈ zG ∧ zY y_M_half 2 := ⟨q_705, ⟨q_703, q_704⟩, q_547, by decide +kernel⟩
theorem d_M_close_0 : decode b_M_close 0 = .ok (.aload_n 0, 1) := by decide +kernel
theorem d_M_close_1 : decode b_M_close 1 = .ok (.getfield 172, 3) := by decide +kernel
theorem d_M_close_4 : decode b_M_close 4 = .ok (.ifCond .le 7, 3) := by decide +kernel
theorem d_M_close_7 : decode b_M_close 7 = .ok (.iconst 1, 1) := by decide +kernel
theorem d_M_close_8 : decode b_M_close 8 = .ok (.goto 4, 3) := by decide +kernel
theorem d_M_close_11 : decode b_M_close 11 = .ok (.iconst 0, 1) := by decide +kernel
theorem d_M_close_12 : decode b_M_close 12 = .ok (.istore_n 2, 1) := by decide +kernel
theorem d_M_close_13 : decode b_M_close 13 = .ok (.iload_n 2, 1) := by decide +kernel
theorem d_M_close_14 : decode b_M_close 14 = .ok (.ifCond .eq 139, 3) := by decide +kernel
theorem d_M_close_17 : decode b_M_close 17 = .ok (.aload_n 0, 1) := by decide +kernel
theorem d_M_close_18 : decode b_M_close 18 = .ok (.getfield 16, 3) := by decide +kernel
theorem d_M_close_21 : decode b_M_close 21 = .ok (.aload_n 0, 1) := by decide +kernel
theorem d_M_close_22 : decode b_M_close 22 = .ok (.getfield 29, 3) := by decide +kernel
theorem d_M_close_25 : decode b_M_close 25 = .ok (.aload_n 0, 1) := by decide +kernel
theorem d_M_close_26 : decode b_M_close 26 = .ok (.getfield 172, 3) := by decide +kernel
theorem d_M_close_29 : decode b_M_close 29 = .ok (.iconst 1, 1) := by decide +kernel
theorem d_M_close_30 : decode b_M_close 30 = .ok (.isub, 1) := by decide +kernel
theorem d_M_close_31 : decode b_M_close 31 = .ok (.iaload, 1) := by decide +kernel
theorem d_M_close_32 : decode b_M_close 32 = .ok (.iaload, 1) := by decide +kernel
theorem d_M_close_33 : decode b_M_close 33 = .ok (.istore_n 3, 1) := by decide +kernel
theorem d_M_close_34 : decode b_M_close 34 = .ok (.iload_n 3, 1) := by decide +kernel
theorem d_M_close_35 : decode b_M_close 35 = .ok (.invokestatic 182, 3) := by decide +kernel
theorem d_M_close_38 : decode b_M_close 38 = .ok (.ifCond .eq 62, 3) := by decide +kernel
theorem d_M_close_41 : decode b_M_close 41 = .ok (.aload_n 0, 1) := by decide +kernel
theorem d_M_close_42 : decode b_M_close 42 = .ok (.getfield 32, 3) := by decide +kernel
theorem d_M_close_45 : decode b_M_close 45 = .ok (.aload_n 0, 1) := by decide +kernel
theorem d_M_close_46 : decode b_M_close 46 = .ok (.getfield 172, 3) := by decide +kernel
theorem d_M_close_49 : decode b_M_close 49 = .ok (.iconst 1, 1) := by decide +kernel
theorem d_M_close_50 : decode b_M_close 50 = .ok (.isub, 1) := by decide +kernel
theorem d_M_close_51 : decode b_M_close 51 = .ok (.baload, 1) := by decide +kernel
theorem d_M_close_52 : decode b_M_close 52 = .ok (.ifCond .ne 48, 3) := by decide +kernel
theorem d_M_close_55 : decode b_M_close 55 = .ok (.aload_n 0, 1) := by decide +kernel
theorem d_M_close_56 : decode b_M_close 56 = .ok (.bipush 44, 2) := by decide +kernel
theorem d_M_close_58 : decode b_M_close 58 = .ok (.invokevirtual 188, 3) := by decide +kernel
theorem d_M_close_61 : decode b_M_close 61 = .ok (.istore 4, 2) := by decide +kernel
theorem d_M_close_63 : decode b_M_close 63 = .ok (.aload_n 0, 1) := by decide +kernel
theorem d_M_close_64 : decode b_M_close 64 = .ok (.getfield 32, 3) := by decide +kernel
theorem d_M_close_67 : decode b_M_close 67 = .ok (.aload_n 0, 1) := by decide +kernel
theorem d_M_close_68 : decode b_M_close 68 = .ok (.getfield 172, 3) := by decide +kernel
theorem d_M_close_71 : decode b_M_close 71 = .ok (.iconst 1, 1) := by decide +kernel
theorem d_M_close_72 : decode b_M_close 72 = .ok (.isub, 1) := by decide +kernel
theorem d_M_close_73 : decode b_M_close 73 = .ok (.iconst 1, 1) := by decide +kernel
theorem d_M_close_74 : decode b_M_close 74 = .ok (.bastore, 1) := by decide +kernel
theorem d_M_close_75 : decode b_M_close 75 = .ok (.aload_n 0, 1) := by decide +kernel
theorem d_M_close_76 : decode b_M_close 76 = .ok (.getfield 19, 3) := by decide +kernel
theorem d_M_close_79 : decode b_M_close 79 = .ok (.aload_n 0, 1) := by decide +kernel
theorem d_M_close_80 : decode b_M_close 80 = .ok (.getfield 29, 3) := by decide +kernel
theorem d_M_close_83 : decode b_M_close 83 = .ok (.aload_n 0, 1) := by decide +kernel
theorem d_M_close_84 : decode b_M_close 84 = .ok (.getfield 172, 3) := by decide +kernel
theorem d_M_close_87 : decode b_M_close 87 = .ok (.iconst 1, 1) := by decide +kernel
theorem d_M_close_88 : decode b_M_close 88 = .ok (.isub, 1) := by decide +kernel
theorem d_M_close_89 : decode b_M_close 89 = .ok (.iaload, 1) := by decide +kernel
theorem d_M_close_90 : decode b_M_close 90 = .ok (.iload_n 1, 1) := by decide +kernel
theorem d_M_close_91 : decode b_M_close 91 = .ok (.aload_n 0, 1) := by decide +kernel
theorem d_M_close_92 : decode b_M_close 92 = .ok (.getfield 175, 3) := by decide +kernel
theorem d_M_close_95 : decode b_M_close 95 = .ok (.iadd, 1) := by decide +kernel
theorem d_M_close_96 : decode b_M_close 96 = .ok (.iastore, 1) := by decide +kernel
theorem d_M_close_97 : decode b_M_close 97 = .ok (.iload 4, 2) := by decide +kernel
theorem d_M_close_99 : decode b_M_close 99 = .ok (.ireturn, 1) := by decide +kernel
theorem d_M_close_100 : decode b_M_close 100 = .ok (.iload_n 3, 1) := by decide +kernel
theorem d_M_close_101 : decode b_M_close 101 = .ok (.invokestatic 182, 3) := by decide +kernel
theorem d_M_close_104 : decode b_M_close 104 = .ok (.ifCond .eq 12, 3) := by decide +kernel
theorem d_M_close_107 : decode b_M_close 107 = .ok (.aload_n 0, 1) := by decide +kernel
theorem d_M_close_108 : decode b_M_close 108 = .ok (.bipush 41, 2) := by decide +kernel
theorem d_M_close_110 : decode b_M_close 110 = .ok (.invokevirtual 188, 3) := by decide +kernel
theorem d_M_close_113 : decode b_M_close 113 = .ok (.goto 4, 3) := by decide +kernel
theorem d_M_close_116 : decode b_M_close 116 = .ok (.iconst 0, 1) := by decide +kernel
theorem d_M_close_117 : decode b_M_close 117 = .ok (.istore 4, 2) := by decide +kernel
theorem d_M_close_119 : decode b_M_close 119 = .ok (.iload 4, 2) := by decide +kernel
theorem d_M_close_121 : decode b_M_close 121 = .ok (.ifCond .le 6, 3) := by decide +kernel
theorem d_M_close_124 : decode b_M_close 124 = .ok (.iload 4, 2) := by decide +kernel
theorem d_M_close_126 : decode b_M_close 126 = .ok (.ireturn, 1) := by decide +kernel
theorem d_M_close_127 : decode b_M_close 127 = .ok (.aload_n 0, 1) := by decide +kernel
theorem d_M_close_128 : decode b_M_close 128 = .ok (.dup, 1) := by decide +kernel
theorem d_M_close_129 : decode b_M_close 129 = .ok (.getfield 172, 3) := by decide +kernel
theorem d_M_close_132 : decode b_M_close 132 = .ok (.iconst 1, 1) := by decide +kernel
theorem d_M_close_133 : decode b_M_close 133 = .ok (.isub, 1) := by decide +kernel
theorem d_M_close_134 : decode b_M_close 134 = .ok (.putfield 172, 3) := by decide +kernel
theorem d_M_close_137 : decode b_M_close 137 = .ok (.aload_n 0, 1) := by decide +kernel
theorem d_M_close_138 : decode b_M_close 138 = .ok (.getfield 172, 3) := by decide +kernel
theorem d_M_close_141 : decode b_M_close 141 = .ok (.ifCond .le 7, 3) := by decide +kernel
theorem d_M_close_144 : decode b_M_close 144 = .ok (.iconst 1, 1) := by decide +kernel
theorem d_M_close_145 : decode b_M_close 145 = .ok (.goto 4, 3) := by decide +kernel
theorem d_M_close_148 : decode b_M_close 148 = .ok (.iconst 0, 1) := by decide +kernel
theorem d_M_close_149 : decode b_M_close 149 = .ok (.istore_n 2, 1) := by decide +kernel
theorem d_M_close_150 : decode b_M_close 150 = .ok (.goto (-137), 3) := by decide +kernel
theorem d_M_close_153 : decode b_M_close 153 = .ok (.iconst 0, 1) := by decide +kernel
theorem d_M_close_154 : decode b_M_close 154 = .ok (.ireturn, 1) := by decide +kernel
theorem d_M_number_0 : decode b_M_number 0 = .ok (.aload_n 0, 1) := by decide +kernel
theorem d_M_number_1 : decode b_M_number 1 = .ok (.getfield 130, 3) := by decide +kernel
theorem d_M_number_4 : decode b_M_number 4 = .ok (.bipush 8, 2) := by decide +kernel
theorem d_M_number_6 : decode b_M_number 6 = .ok (.if_icmp .ne 7, 3) := by decide +kernel
theorem d_M_number_9 : decode b_M_number 9 = .ok (.sipush (-1004), 3) := by decide +kernel
theorem d_M_number_12 : decode b_M_number 12 = .ok (.ireturn, 1) := by decide +kernel
theorem d_M_number_13 : decode b_M_number 13 = .ok (.bipush 40, 2) := by decide +kernel
theorem d_M_number_15 : decode b_M_number 15 = .ok (.aload_n 0, 1) := by decide +kernel
theorem d_M_number_16 : decode b_M_number 16 = .ok (.getfield 130, 3) := by decide +kernel
theorem d_M_number_19 : decode b_M_number 19 = .ok (.imul, 1) := by decide +kernel
theorem d_M_number_20 : decode b_M_number 20 = .ok (.istore_n 1, 1) := by decide +kernel
theorem d_M_number_21 : decode b_M_number 21 = .ok (.aload_n 0, 1) := by decide +kernel
theorem d_M_number_22 : decode b_M_number 22 = .ok (.iconst (-1), 1) := by decide +kernel
theorem d_M_number_23 : decode b_M_number 23 = .ok (.putfield 25, 3) := by decide +kernel
theorem d_M_number_26 : decode b_M_number 26 = .ok (.aload_n 0, 1) := by decide +kernel
theorem d_M_number_27 : decode b_M_number 27 = .ok (.iconst 0, 1) := by decide +kernel
theorem d_M_number_28 : decode b_M_number 28 = .ok (.putfield 140, 3) := by decide +kernel
theorem d_M_number_31 : decode b_M_number 31 = .ok (.aload_n 0, 1) := by decide +kernel
theorem d_M_number_32 : decode b_M_number 32 = .ok (.iconst 0, 1) := by decide +kernel
theorem d_M_number_33 : decode b_M_number 33 = .ok (.putfield 172, 3) := by decide +kernel
theorem d_M_number_36 : decode b_M_number 36 = .ok (.aload_n 0, 1) := by decide +kernel
theorem d_M_number_37 : decode b_M_number 37 = .ok (.iconst 0, 1) := by decide +kernel
theorem d_M_number_38 : decode b_M_number 38 = .ok (.putfield 175, 3) := by decide +kernel
theorem d_M_number_41 : decode b_M_number 41 = .ok (.iconst 0, 1) := by decide +kernel
theorem d_M_number_42 : decode b_M_number 42 = .ok (.istore_n 2, 1) := by decide +kernel
theorem d_M_number_43 : decode b_M_number 43 = .ok (.iconst 1, 1) := by decide +kernel
theorem d_M_number_44 : decode b_M_number 44 = .ok (.istore_n 3, 1) := by decide +kernel
theorem d_M_number_45 : decode b_M_number 45 = .ok (.iload_n 3, 1) := by decide +kernel
theorem d_M_number_46 : decode b_M_number 46 = .ok (.ifCond .eq 73, 3) := by decide +kernel
theorem d_M_number_49 : decode b_M_number 49 = .ok (.aload_n 0, 1) := by decide +kernel
theorem d_M_number_50 : decode b_M_number 50 = .ok (.iload_n 1, 1) := by decide +kernel
theorem d_M_number_51 : decode b_M_number 51 = .ok (.invokevirtual 191, 3) := by decide +kernel
theorem d_M_number_54 : decode b_M_number 54 = .ok (.istore_n 2, 1) := by decide +kernel
theorem d_M_number_55 : decode b_M_number 55 = .ok (.iload_n 2, 1) := by decide +kernel
theorem d_M_number_56 : decode b_M_number 56 = .ok (.ifCond .ne 25, 3) := by decide +kernel
theorem d_M_number_59 : decode b_M_number 59 = .ok (.aload_n 0, 1) := by decide +kernel
theorem d_M_number_60 : decode b_M_number 60 = .ok (.getfield 16, 3) := by decide +kernel
theorem d_M_number_63 : decode b_M_number 63 = .ok (.iload_n 1, 1) := by decide +kernel
theorem d_M_number_64 : decode b_M_number 64 = .ok (.aload_n 0, 1) := by decide +kernel
theorem d_M_number_65 : decode b_M_number 65 = .ok (.getfield 175, 3) := by decide +kernel
theorem d_M_number_68 : decode b_M_number 68 = .ok (.iadd, 1) := by decide +kernel
theorem d_M_number_69 : decode b_M_number 69 = .ok (.iconst 1, 1) := by decide +kernel
theorem d_M_number_70 : decode b_M_number 70 = .ok (.isub, 1) := by decide +kernel
theorem d_M_number_71 : decode b_M_number 71 = .ok (.iaload, 1) := by decide +kernel
theorem d_M_number_72 : decode b_M_number 72 = .ok (.bipush 6, 2) := by decide +kernel
theorem d_M_number_74 : decode b_M_number 74 = .ok (.if_icmp .ge 7, 3) := by decide +kernel
theorem d_M_number_77 : decode b_M_number 77 = .ok (.iconst 1, 1) := by decide +kernel
theorem d_M_number_78 : decode b_M_number 78 = .ok (.goto 4, 3) := by decide +kernel
theorem d_M_number_81 : decode b_M_number 81 = .ok (.iconst 0, 1) := by decide +kernel
theorem d_M_number_82 : decode b_M_number 82 = .ok (.istore 4, 2) := by decide +kernel
theorem d_M_number_84 : decode b_M_number 84 = .ok (.iload 4, 2) := by decide +kernel
theorem d_M_number_86 : decode b_M_number 86 = .ok (.ifCond .eq 11, 3) := by decide +kernel
theorem d_M_number_89 : decode b_M_number 89 = .ok (.aload_n 0, 1) := by decide +kernel
theorem d_M_number_90 : decode b_M_number 90 = .ok (.iload_n 1, 1) := by decide +kernel
theorem d_M_number_91 : decode b_M_number 91 = .ok (.invokevirtual 194, 3) := by decide +kernel
theorem d_M_number_94 : decode b_M_number 94 = .ok (.goto 4, 3) := by decide +kernel
theorem d_M_number_97 : decode b_M_number 97 = .ok (.iload_n 2, 1) := by decide +kernel
theorem d_M_number_98 : decode b_M_number 98 = .ok (.istore_n 2, 1) := by decide +kernel
theorem d_M_number_99 : decode b_M_number 99 = .ok (.iload_n 2, 1) := by decide +kernel
theorem d_M_number_100 : decode b_M_number 100 = .ok (.ifCond .ne 14, 3) := by decide +kernel
theorem d_M_number_103 : decode b_M_number 103 = .ok (.aload_n 0, 1) := by decide +kernel
theorem d_M_number_104 : decode b_M_number 104 = .ok (.getfield 172, 3) := by decide +kernel
theorem d_M_number_107 : decode b_M_number 107 = .ok (.ifCond .le 7, 3) := by decide +kernel
theorem d_M_number_110 : decode b_M_number 110 = .ok (.iconst 1, 1) := by decide +kernel
theorem d_M_number_111 : decode b_M_number 111 = .ok (.goto 4, 3) := by decide +kernel
theorem d_M_number_114 : decode b_M_number 114 = .ok (.iconst 0, 1) := by decide +kernel
theorem d_M_number_115 : decode b_M_number 115 = .ok (.istore_n 3, 1) := by decide +kernel
theorem d_M_number_116 : decode b_M_number 116 = .ok (.goto (-71), 3) := by decide +kernel
theorem d_M_number_119 : decode b_M_number 119 = .ok (.iload_n 2, 1) := by decide +kernel
theorem d_M_number_120 : decode b_M_number 120 = .ok (.ifCond .ne 22, 3) := by decide +kernel
theorem d_M_number_123 : decode b_M_number 123 = .ok (.aload_n 0, 1) := by decide +kernel
theorem d_M_number_124 : decode b_M_number 124 = .ok (.invokevirtual 143, 3) := by decide +kernel
theorem d_M_number_127 : decode b_M_number 127 = .ok (.ifCond .lt 15, 3) := by decide +kernel
theorem d_M_number_130 : decode b_M_number 130 = .ok (.aload_n 0, 1) := by decide +kernel
theorem d_M_number_131 : decode b_M_number 131 = .ok (.iconst 1, 1) := by decide +kernel
theorem d_M_number_132 : decode b_M_number 132 = .ok (.aload_n 0, 1) := by decide +kernel
theorem d_M_number_133 : decode b_M_number 133 = .ok (.getfield 140, 3) := by decide +kernel
theorem d_M_number_136 : decode b_M_number 136 = .ok (.invokevirtual 146, 3) := by decide +kernel
theorem d_M_number_139 : decode b_M_number 139 = .ok (.goto 4, 3) := by decide +kernel
theorem d_M_number_142 : decode b_M_number 142 = .ok (.iload_n 2, 1) := by decide +kernel
theorem d_M_number_143 : decode b_M_number 143 = .ok (.istore_n 2, 1) := by decide +kernel
theorem d_M_number_144 : decode b_M_number 144 = .ok (.aload_n 0, 1) := by decide +kernel
theorem d_M_number_145 : decode b_M_number 145 = .ok (.iconst 0, 1) := by decide +kernel
theorem d_M_number_146 : decode b_M_number 146 = .ok (.putfield 133, 3) := by decide +kernel
theorem d_M_number_149 : decode b_M_number 149 = .ok (.iload_n 2, 1) := by decide +kernel
theorem d_M_number_150 : decode b_M_number 150 = .ok (.ifCond .le 8, 3) := by decide +kernel
theorem d_M_number_153 : decode b_M_number 153 = .ok (.bipush (-10), 2) := by decide +kernel
theorem d_M_number_155 : decode b_M_number 155 = .ok (.iload_n 2, 1) := by decide +kernel
theorem d_M_number_156 : decode b_M_number 156 = .ok (.isub, 1) := by decide +kernel
theorem d_M_number_157 : decode b_M_number 157 = .ok (.ireturn, 1) := by decide +kernel
theorem d_M_number_158 : decode b_M_number 158 = .ok (.aload_n 0, 1) := by decide +kernel
theorem d_M_number_159 : decode b_M_number 159 = .ok (.dup, 1) := by decide +kernel
theorem d_M_number_160 : decode b_M_number 160 = .ok (.getfield 130, 3) := by decide +kernel
theorem d_M_number_163 : decode b_M_number 163 = .ok (.iconst 1, 1) := by decide +kernel
theorem d_M_number_164 : decode b_M_number 164 = .ok (.iadd, 1) := by decide +kernel
theorem d_M_number_165 : decode b_M_number 165 = .ok (.putfield 130, 3) := by decide +kernel
theorem d_M_number_168 : decode b_M_number 168 = .ok (.aload_n 0, 1) := by decide +kernel
theorem d_M_number_169 : decode b_M_number 169 = .ok (.getfield 130, 3) := by decide +kernel
theorem d_M_number_172 : decode b_M_number 172 = .ok (.iconst 1, 1) := by decide +kernel
theorem d_M_number_173 : decode b_M_number 173 = .ok (.isub, 1) := by decide +kernel
theorem d_M_number_174 : decode b_M_number 174 = .ok (.ireturn, 1) := by decide +kernel
theorem d_M_fault_0 : decode b_M_fault 0 = .ok (.aload_n 0, 1) := by decide +kernel
theorem d_M_fault_1 : decode b_M_fault 1 = .ok (.getfield 25, 3) := by decide +kernel
theorem d_M_fault_4 : decode b_M_fault 4 = .ok (.ireturn, 1) := by decide +kernel
theorem d_M_gcd_0 : decode b_M_gcd 0 = .ok (.lload_n 0, 1) := by decide +kernel
theorem d_M_gcd_1 : decode b_M_gcd 1 = .ok (.lconst 0, 1) := by decide +kernel
theorem d_M_gcd_2 : decode b_M_gcd 2 = .ok (.lcmp, 1) := by decide +kernel
theorem d_M_gcd_3 : decode b_M_gcd 3 = .ok (.ifCond .ge 8, 3) := by decide +kernel
theorem d_M_gcd_6 : decode b_M_gcd 6 = .ok (.lload_n 0, 1) := by decide +kernel
theorem d_M_gcd_7 : decode b_M_gcd 7 = .ok (.lneg, 1) := by decide +kernel
theorem d_M_gcd_8 : decode b_M_gcd 8 = .ok (.goto 4, 3) := by decide +kernel
theorem d_M_gcd_11 : decode b_M_gcd 11 = .ok (.lload_n 0, 1) := by decide +kernel
theorem d_M_gcd_12 : decode b_M_gcd 12 = .ok (.lstore 4, 2) := by decide +kernel
theorem d_M_gcd_14 : decode b_M_gcd 14 = .ok (.lload_n 2, 1) := by decide +kernel
theorem d_M_gcd_15 : decode b_M_gcd 15 = .ok (.lstore 6, 2) := by decide +kernel
theorem d_M_gcd_17 : decode b_M_gcd 17 = .ok (.lload 6, 2) := by decide +kernel
theorem d_M_gcd_19 : decode b_M_gcd 19 = .ok (.lconst 0, 1) := by decide +kernel
theorem d_M_gcd_20 : decode b_M_gcd 20 = .ok (.lcmp, 1) := by decide +kernel
theorem d_M_gcd_21 : decode b_M_gcd 21 = .ok (.ifCond .eq 21, 3) := by decide +kernel
theorem d_M_gcd_24 : decode b_M_gcd 24 = .ok (.lload 4, 2) := by decide +kernel
theorem d_M_gcd_26 : decode b_M_gcd 26 = .ok (.lload 6, 2) := by decide +kernel
theorem d_M_gcd_28 : decode b_M_gcd 28 = .ok (.lrem, 1) := by decide +kernel
theorem d_M_gcd_29 : decode b_M_gcd 29 = .ok (.lstore 8, 2) := by decide +kernel
theorem d_M_gcd_31 : decode b_M_gcd 31 = .ok (.lload 6, 2) := by decide +kernel
theorem d_M_gcd_33 : decode b_M_gcd 33 = .ok (.lstore 4, 2) := by decide +kernel
theorem d_M_gcd_35 : decode b_M_gcd 35 = .ok (.lload 8, 2) := by decide +kernel
theorem d_M_gcd_37 : decode b_M_gcd 37 = .ok (.lstore 6, 2) := by decide +kernel
theorem d_M_gcd_39 : decode b_M_gcd 39 = .ok (.goto (-22), 3) := by decide +kernel
theorem d_M_gcd_42 : decode b_M_gcd 42 = .ok (.lload 4, 2) := by decide +kernel
theorem d_M_gcd_44 : decode b_M_gcd 44 = .ok (.lreturn, 1) := by decide +kernel
theorem d_M_take_0 : decode b_M_take 0 = .ok (.lload_n 3, 1) := by decide +kernel
theorem d_M_take_1 : decode b_M_take 1 = .ok (.lconst 0, 1) := by decide +kernel
theorem d_M_take_2 : decode b_M_take 2 = .ok (.lcmp, 1) := by decide +kernel
theorem d_M_take_3 : decode b_M_take 3 = .ok (.ifCond .ne 7, 3) := by decide +kernel
theorem d_M_take_6 : decode b_M_take 6 = .ok (.sipush (-1003), 3) := by decide +kernel
theorem d_M_take_9 : decode b_M_take 9 = .ok (.ireturn, 1) := by decide +kernel
theorem d_M_take_10 : decode b_M_take 10 = .ok (.lload_n 1, 1) := by decide +kernel
theorem d_M_take_11 : decode b_M_take 11 = .ok (.lload_n 3, 1) := by decide +kernel
theorem d_M_take_12 : decode b_M_take 12 = .ok (.invokestatic 197, 3) := by decide +kernel
theorem d_M_take_15 : decode b_M_take 15 = .ok (.lstore 6, 2) := by decide +kernel
theorem d_M_take_17 : decode b_M_take 17 = .ok (.aload_n 0, 1) := by decide +kernel
theorem d_M_take_18 : decode b_M_take 18 = .ok (.lload_n 1, 1) := by decide +kernel
theorem d_M_take_19 : decode b_M_take 19 = .ok (.lload 6, 2) := by decide +kernel
theorem d_M_take_21 : decode b_M_take 21 = .ok (.ldiv, 1) := by decide +kernel
theorem d_M_take_22 : decode b_M_take 22 = .ok (.putfield 201, 3) := by decide +kernel
theorem d_M_take_25 : decode b_M_take 25 = .ok (.aload_n 0, 1) := by decide +kernel
theorem d_M_take_26 : decode b_M_take 26 = .ok (.lload_n 3, 1) := by decide +kernel
theorem d_M_take_27 : decode b_M_take 27 = .ok (.lload 6, 2) := by decide +kernel
theorem d_M_take_29 : decode b_M_take 29 = .ok (.ldiv, 1) := by decide +kernel
theorem d_M_take_30 : decode b_M_take 30 = .ok (.putfield 205, 3) := by decide +kernel
theorem d_M_take_33 : decode b_M_take 33 = .ok (.aload_n 0, 1) := by decide +kernel
theorem d_M_take_34 : decode b_M_take 34 = .ok (.iload 5, 2) := by decide +kernel
theorem d_M_take_36 : decode b_M_take 36 = .ok (.putfield 208, 3) := by decide +kernel
theorem d_M_take_39 : decode b_M_take 39 = .ok (.aload_n 0, 1) := by decide +kernel
theorem d_M_take_40 : decode b_M_take 40 = .ok (.getfield 201, 3) := by decide +kernel
theorem d_M_take_43 : decode b_M_take 43 = .ok (.ldc2_w 212, 3) := by decide +kernel
theorem d_M_take_46 : decode b_M_take 46 = .ok (.lcmp, 1) := by decide +kernel
theorem d_M_take_47 : decode b_M_take 47 = .ok (.ifCond .gt 14, 3) := by decide +kernel
theorem d_M_take_50 : decode b_M_take 50 = .ok (.aload_n 0, 1) := by decide +kernel
theorem d_M_take_51 : decode b_M_take 51 = .ok (.getfield 205, 3) := by decide +kernel
theorem d_M_take_54 : decode b_M_take 54 = .ok (.ldc2_w 212, 3) := by decide +kernel
theorem d_M_take_57 : decode b_M_take 57 = .ok (.lcmp, 1) := by decide +kernel
theorem d_M_take_58 : decode b_M_take 58 = .ok (.ifCond .le 9, 3) := by decide +kernel
theorem d_M_take_61 : decode b_M_take 61 = .ok (.sipush (-1005), 3) := by decide +kernel
theorem d_M_take_64 : decode b_M_take 64 = .ok (.goto 4, 3) := by decide +kernel
theorem d_M_take_67 : decode b_M_take 67 = .ok (.iconst 0, 1) := by decide +kernel
theorem d_M_take_68 : decode b_M_take 68 = .ok (.ireturn, 1) := by decide +kernel
theorem d_M_multiply_0 : decode b_M_multiply 0 = .ok (.lload_n 1, 1) := by decide +kernel
theorem d_M_multiply_1 : decode b_M_multiply 1 = .ok (.lload 7, 2) := by decide +kernel
theorem d_M_multiply_3 : decode b_M_multiply 3 = .ok (.invokestatic 197, 3) := by decide +kernel
theorem d_M_multiply_6 : decode b_M_multiply 6 = .ok (.lstore 10, 2) := by decide +kernel
theorem d_M_multiply_8 : decode b_M_multiply 8 = .ok (.lload 5, 2) := by decide +kernel
theorem d_M_multiply_10 : decode b_M_multiply 10 = .ok (.lload_n 3, 1) := by decide +kernel
theorem d_M_multiply_11 : decode b_M_multiply 11 = .ok (.invokestatic 197, 3) := by decide +kernel
theorem d_M_multiply_14 : decode b_M_multiply 14 = .ok (.lstore 12, 2) := by decide +kernel
theorem d_M_multiply_16 : decode b_M_multiply 16 = .ok (.lload_n 1, 1) := by decide +kernel
theorem d_M_multiply_17 : decode b_M_multiply 17 = .ok (.lload 10, 2) := by decide +kernel
theorem d_M_multiply_19 : decode b_M_multiply 19 = .ok (.lconst 0, 1) := by decide +kernel
theorem d_M_multiply_20 : decode b_M_multiply 20 = .ok (.lcmp, 1) := by decide +kernel
theorem d_M_multiply_21 : decode b_M_multiply 21 = .ok (.ifCond .ne 7, 3) := by decide +kernel
theorem d_M_multiply_24 : decode b_M_multiply 24 = .ok (.lconst 1, 1) := by decide +kernel
theorem d_M_multiply_25 : decode b_M_multiply 25 = .ok (.goto 5, 3) := by decide +kernel
theorem d_M_multiply_28 : decode b_M_multiply 28 = .ok (.lload 10, 2) := by decide +kernel
theorem d_M_multiply_30 : decode b_M_multiply 30 = .ok (.ldiv, 1) := by decide +kernel
theorem d_M_multiply_31 : decode b_M_multiply 31 = .ok (.lstore 14, 2) := by decide +kernel
theorem d_M_multiply_33 : decode b_M_multiply 33 = .ok (.lload 5, 2) := by decide +kernel
theorem d_M_multiply_35 : decode b_M_multiply 35 = .ok (.lload 12, 2) := by decide +kernel
theorem d_M_multiply_37 : decode b_M_multiply 37 = .ok (.lconst 0, 1) := by decide +kernel
theorem d_M_multiply_38 : decode b_M_multiply 38 = .ok (.lcmp, 1) := by decide +kernel
theorem d_M_multiply_39 : decode b_M_multiply 39 = .ok (.ifCond .ne 7, 3) := by decide +kernel
theorem d_M_multiply_42 : decode b_M_multiply 42 = .ok (.lconst 1, 1) := by decide +kernel
theorem d_M_multiply_43 : decode b_M_multiply 43 = .ok (.goto 5, 3) := by decide +kernel
theorem d_M_multiply_46 : decode b_M_multiply 46 = .ok (.lload 12, 2) := by decide +kernel
theorem d_M_multiply_48 : decode b_M_multiply 48 = .ok (.ldiv, 1) := by decide +kernel
theorem d_M_multiply_49 : decode b_M_multiply 49 = .ok (.lstore 16, 2) := by decide +kernel
theorem d_M_multiply_51 : decode b_M_multiply 51 = .ok (.lload_n 3, 1) := by decide +kernel
theorem d_M_multiply_52 : decode b_M_multiply 52 = .ok (.lload 12, 2) := by decide +kernel
theorem d_M_multiply_54 : decode b_M_multiply 54 = .ok (.lconst 0, 1) := by decide +kernel
theorem d_M_multiply_55 : decode b_M_multiply 55 = .ok (.lcmp, 1) := by decide +kernel
theorem d_M_multiply_56 : decode b_M_multiply 56 = .ok (.ifCond .ne 7, 3) := by decide +kernel
theorem d_M_multiply_59 : decode b_M_multiply 59 = .ok (.lconst 1, 1) := by decide +kernel
theorem d_M_multiply_60 : decode b_M_multiply 60 = .ok (.goto 5, 3) := by decide +kernel
theorem d_M_multiply_63 : decode b_M_multiply 63 = .ok (.lload 12, 2) := by decide +kernel
theorem d_M_multiply_65 : decode b_M_multiply 65 = .ok (.ldiv, 1) := by decide +kernel
theorem d_M_multiply_66 : decode b_M_multiply 66 = .ok (.lstore 18, 2) := by decide +kernel
theorem d_M_multiply_68 : decode b_M_multiply 68 = .ok (.lload 7, 2) := by decide +kernel
theorem d_M_multiply_70 : decode b_M_multiply 70 = .ok (.lload 10, 2) := by decide +kernel
theorem d_M_multiply_72 : decode b_M_multiply 72 = .ok (.lconst 0, 1) := by decide +kernel
theorem d_M_multiply_73 : decode b_M_multiply 73 = .ok (.lcmp, 1) := by decide +kernel
theorem d_M_multiply_74 : decode b_M_multiply 74 = .ok (.ifCond .ne 7, 3) := by decide +kernel
theorem d_M_multiply_77 : decode b_M_multiply 77 = .ok (.lconst 1, 1) := by decide +kernel
theorem d_M_multiply_78 : decode b_M_multiply 78 = .ok (.goto 5, 3) := by decide +kernel
theorem d_M_multiply_81 : decode b_M_multiply 81 = .ok (.lload 10, 2) := by decide +kernel
theorem d_M_multiply_83 : decode b_M_multiply 83 = .ok (.ldiv, 1) := by decide +kernel
theorem d_M_multiply_84 : decode b_M_multiply 84 = .ok (.lstore 20, 2) := by decide +kernel
theorem d_M_multiply_86 : decode b_M_multiply 86 = .ok (.lload 16, 2) := by decide +kernel
theorem d_M_multiply_88 : decode b_M_multiply 88 = .ok (.lconst 0, 1) := by decide +kernel
theorem d_M_multiply_89 : decode b_M_multiply 89 = .ok (.lcmp, 1) := by decide +kernel
theorem d_M_multiply_90 : decode b_M_multiply 90 = .ok (.ifCond .le 15, 3) := by decide +kernel
theorem d_M_multiply_93 : decode b_M_multiply 93 = .ok (.lload 14, 2) := by decide +kernel
theorem d_M_multiply_95 : decode b_M_multiply 95 = .ok (.ldc2_w 212, 3) := by decide +kernel
theorem d_M_multiply_98 : decode b_M_multiply 98 = .ok (.lload 16, 2) := by decide +kernel
theorem d_M_multiply_100 : decode b_M_multiply 100 = .ok (.ldiv, 1) := by decide +kernel
theorem d_M_multiply_101 : decode b_M_multiply 101 = .ok (.lcmp, 1) := by decide +kernel
theorem d_M_multiply_102 : decode b_M_multiply 102 = .ok (.ifCond .gt 22, 3) := by decide +kernel
theorem d_M_multiply_105 : decode b_M_multiply 105 = .ok (.lload 20, 2) := by decide +kernel
theorem d_M_multiply_107 : decode b_M_multiply 107 = .ok (.lconst 0, 1) := by decide +kernel
theorem d_M_multiply_108 : decode b_M_multiply 108 = .ok (.lcmp, 1) := by decide +kernel
theorem d_M_multiply_109 : decode b_M_multiply 109 = .ok (.ifCond .le 19, 3) := by decide +kernel
theorem d_M_multiply_112 : decode b_M_multiply 112 = .ok (.lload 18, 2) := by decide +kernel
theorem d_M_multiply_114 : decode b_M_multiply 114 = .ok (.ldc2_w 212, 3) := by decide +kernel
theorem d_M_multiply_117 : decode b_M_multiply 117 = .ok (.lload 20, 2) := by decide +kernel
theorem d_M_multiply_119 : decode b_M_multiply 119 = .ok (.ldiv, 1) := by decide +kernel
theorem d_M_multiply_120 : decode b_M_multiply 120 = .ok (.lcmp, 1) := by decide +kernel
theorem d_M_multiply_121 : decode b_M_multiply 121 = .ok (.ifCond .le 7, 3) := by decide +kernel
theorem d_M_multiply_124 : decode b_M_multiply 124 = .ok (.sipush (-1005), 3) := by decide +kernel
theorem d_M_multiply_127 : decode b_M_multiply 127 = .ok (.ireturn, 1) := by decide +kernel
theorem d_M_multiply_128 : decode b_M_multiply 128 = .ok (.aload_n 0, 1) := by decide +kernel
theorem d_M_multiply_129 : decode b_M_multiply 129 = .ok (.lload 14, 2) := by decide +kernel
theorem d_M_multiply_131 : decode b_M_multiply 131 = .ok (.lload 16, 2) := by decide +kernel
theorem d_M_multiply_133 : decode b_M_multiply 133 = .ok (.lmul, 1) := by decide +kernel
theorem d_M_multiply_134 : decode b_M_multiply 134 = .ok (.lload 18, 2) := by decide +kernel
theorem d_M_multiply_136 : decode b_M_multiply 136 = .ok (.lload 20, 2) := by decide +kernel
theorem d_M_multiply_138 : decode b_M_multiply 138 = .ok (.lmul, 1) := by decide +kernel
theorem d_M_multiply_139 : decode b_M_multiply 139 = .ok (.iload 9, 2) := by decide +kernel
theorem d_M_multiply_141 : decode b_M_multiply 141 = .ok (.invokevirtual 214, 3) := by decide +kernel
theorem d_M_multiply_144 : decode b_M_multiply 144 = .ok (.ireturn, 1) := by decide +kernel
theorem d_M_compare_0 : decode b_M_compare 0 = .ok (.lload_n 0, 1) := by decide +kernel
theorem d_M_compare_1 : decode b_M_compare 1 = .ok (.lstore 8, 2) := by decide +kernel
theorem d_M_compare_3 : decode b_M_compare 3 = .ok (.lload_n 2, 1) := by decide +kernel
theorem d_M_compare_4 : decode b_M_compare 4 = .ok (.lstore 10, 2) := by decide +kernel
theorem d_M_compare_6 : decode b_M_compare 6 = .ok (.lload 4, 2) := by decide +kernel
theorem d_M_compare_8 : decode b_M_compare 8 = .ok (.lstore 12, 2) := by decide +kernel
theorem d_M_compare_10 : decode b_M_compare 10 = .ok (.lload 6, 2) := by decide +kernel
theorem d_M_compare_12 : decode b_M_compare 12 = .ok (.lstore 14, 2) := by decide +kernel
theorem d_M_compare_14 : decode b_M_compare 14 = .ok (.iconst 1, 1) := by decide +kernel
theorem d_M_compare_15 : decode b_M_compare 15 = .ok (.istore 16, 2) := by decide +kernel
theorem d_M_compare_17 : decode b_M_compare 17 = .ok (.lload 8, 2) := by decide +kernel
theorem d_M_compare_19 : decode b_M_compare 19 = .ok (.lload 10, 2) := by decide +kernel
theorem d_M_compare_21 : decode b_M_compare 21 = .ok (.ldiv, 1) := by decide +kernel
theorem d_M_compare_22 : decode b_M_compare 22 = .ok (.lstore 17, 2) := by decide +kernel
theorem d_M_compare_24 : decode b_M_compare 24 = .ok (.lload 12, 2) := by decide +kernel
theorem d_M_compare_26 : decode b_M_compare 26 = .ok (.lload 14, 2) := by decide +kernel
theorem d_M_compare_28 : decode b_M_compare 28 = .ok (.ldiv, 1) := by decide +kernel
theorem d_M_compare_29 : decode b_M_compare 29 = .ok (.lstore 19, 2) := by decide +kernel
theorem d_M_compare_31 : decode b_M_compare 31 = .ok (.lload 17, 2) := by decide +kernel
theorem d_M_compare_33 : decode b_M_compare 33 = .ok (.lload 19, 2) := by decide +kernel
theorem d_M_compare_35 : decode b_M_compare 35 = .ok (.lcmp, 1) := by decide +kernel
theorem d_M_compare_36 : decode b_M_compare 36 = .ok (.ifCond .eq 20, 3) := by decide +kernel
theorem d_M_compare_39 : decode b_M_compare 39 = .ok (.lload 17, 2) := by decide +kernel
theorem d_M_compare_41 : decode b_M_compare 41 = .ok (.lload 19, 2) := by decide +kernel
theorem d_M_compare_43 : decode b_M_compare 43 = .ok (.lcmp, 1) := by decide +kernel
theorem d_M_compare_44 : decode b_M_compare 44 = .ok (.ifCond .ge 9, 3) := by decide +kernel
theorem d_M_compare_47 : decode b_M_compare 47 = .ok (.iload 16, 2) := by decide +kernel
theorem d_M_compare_49 : decode b_M_compare 49 = .ok (.ineg, 1) := by decide +kernel
theorem d_M_compare_50 : decode b_M_compare 50 = .ok (.goto 5, 3) := by decide +kernel
theorem d_M_compare_53 : decode b_M_compare 53 = .ok (.iload 16, 2) := by decide +kernel
theorem d_M_compare_55 : decode b_M_compare 55 = .ok (.ireturn, 1) := by decide +kernel
theorem d_M_compare_56 : decode b_M_compare 56 = .ok (.lload 8, 2) := by decide +kernel
theorem d_M_compare_58 : decode b_M_compare 58 = .ok (.lload 10, 2) := by decide +kernel
theorem d_M_compare_60 : decode b_M_compare 60 = .ok (.lrem, 1) := by decide +kernel
theorem d_M_compare_61 : decode b_M_compare 61 = .ok (.lstore 21, 2) := by decide +kernel
theorem d_M_compare_63 : decode b_M_compare 63 = .ok (.lload 12, 2) := by decide +kernel
theorem d_M_compare_65 : decode b_M_compare 65 = .ok (.lload 14, 2) := by decide +kernel
theorem d_M_compare_67 : decode b_M_compare 67 = .ok (.lrem, 1) := by decide +kernel
theorem d_M_compare_68 : decode b_M_compare 68 = .ok (.lstore 23, 2) := by decide +kernel
theorem d_M_compare_70 : decode b_M_compare 70 = .ok (.lload 21, 2) := by decide +kernel
theorem d_M_compare_72 : decode b_M_compare 72 = .ok (.lconst 0, 1) := by decide +kernel
theorem d_M_compare_73 : decode b_M_compare 73 = .ok (.lcmp, 1) := by decide +kernel
theorem d_M_compare_74 : decode b_M_compare 74 = .ok (.ifCond .eq 10, 3) := by decide +kernel
theorem d_M_compare_77 : decode b_M_compare 77 = .ok (.lload 23, 2) := by decide +kernel
theorem d_M_compare_79 : decode b_M_compare 79 = .ok (.lconst 0, 1) := by decide +kernel
theorem d_M_compare_80 : decode b_M_compare 80 = .ok (.lcmp, 1) := by decide +kernel
theorem d_M_compare_81 : decode b_M_compare 81 = .ok (.ifCond .ne 31, 3) := by decide +kernel
theorem d_M_compare_84 : decode b_M_compare 84 = .ok (.lload 21, 2) := by decide +kernel
theorem d_M_compare_86 : decode b_M_compare 86 = .ok (.lload 23, 2) := by decide +kernel
theorem d_M_compare_88 : decode b_M_compare 88 = .ok (.lcmp, 1) := by decide +kernel
theorem d_M_compare_89 : decode b_M_compare 89 = .ok (.ifCond .ne 7, 3) := by decide +kernel
theorem d_M_compare_92 : decode b_M_compare 92 = .ok (.iconst 0, 1) := by decide +kernel
theorem d_M_compare_93 : decode b_M_compare 93 = .ok (.goto 18, 3) := by decide +kernel
theorem d_M_compare_96 : decode b_M_compare 96 = .ok (.lload 21, 2) := by decide +kernel
theorem d_M_compare_98 : decode b_M_compare 98 = .ok (.lconst 0, 1) := by decide +kernel
theorem d_M_compare_99 : decode b_M_compare 99 = .ok (.lcmp, 1) := by decide +kernel
theorem d_M_compare_100 : decode b_M_compare 100 = .ok (.ifCond .ne 9, 3) := by decide +kernel
theorem d_M_compare_103 : decode b_M_compare 103 = .ok (.iload 16, 2) := by decide +kernel
theorem d_M_compare_105 : decode b_M_compare 105 = .ok (.ineg, 1) := by decide +kernel
theorem d_M_compare_106 : decode b_M_compare 106 = .ok (.goto 5, 3) := by decide +kernel
theorem d_M_compare_109 : decode b_M_compare 109 = .ok (.iload 16, 2) := by decide +kernel
theorem d_M_compare_111 : decode b_M_compare 111 = .ok (.ireturn, 1) := by decide +kernel
theorem d_M_compare_112 : decode b_M_compare 112 = .ok (.lload 10, 2) := by decide +kernel
theorem d_M_compare_114 : decode b_M_compare 114 = .ok (.lstore 8, 2) := by decide +kernel
theorem d_M_compare_116 : decode b_M_compare 116 = .ok (.lload 21, 2) := by decide +kernel
theorem d_M_compare_118 : decode b_M_compare 118 = .ok (.lstore 10, 2) := by decide +kernel
theorem d_M_compare_120 : decode b_M_compare 120 = .ok (.lload 14, 2) := by decide +kernel
theorem d_M_compare_122 : decode b_M_compare 122 = .ok (.lstore 12, 2) := by decide +kernel
theorem d_M_compare_124 : decode b_M_compare 124 = .ok (.lload 23, 2) := by decide +kernel
theorem d_M_compare_126 : decode b_M_compare 126 = .ok (.lstore 14, 2) := by decide +kernel
theorem d_M_compare_128 : decode b_M_compare 128 = .ok (.iload 16, 2) := by decide +kernel
theorem d_M_compare_130 : decode b_M_compare 130 = .ok (.ineg, 1) := by decide +kernel
theorem d_M_compare_131 : decode b_M_compare 131 = .ok (.istore 16, 2) := by decide +kernel
theorem d_M_compare_133 : decode b_M_compare 133 = .ok (.goto (-116), 3) := by decide +kernel
theorem d_M_orderOf_0 : decode b_M_orderOf 0 = .ok (.lload_n 1, 1) := by decide +kernel
theorem d_M_orderOf_1 : decode b_M_orderOf 1 = .ok (.lstore 11, 2) := by decide +kernel
theorem d_M_orderOf_3 : decode b_M_orderOf 3 = .ok (.lload_n 3, 1) := by decide +kernel
theorem d_M_orderOf_4 : decode b_M_orderOf 4 = .ok (.lstore 13, 2) := by decide +kernel
theorem d_M_orderOf_6 : decode b_M_orderOf 6 = .ok (.lload 6, 2) := by decide +kernel
theorem d_M_orderOf_8 : decode b_M_orderOf 8 = .ok (.lstore 15, 2) := by decide +kernel
theorem d_M_orderOf_10 : decode b_M_orderOf 10 = .ok (.lload 8, 2) := by decide +kernel
theorem d_M_orderOf_12 : decode b_M_orderOf 12 = .ok (.lstore 17, 2) := by decide +kernel
theorem d_M_orderOf_14 : decode b_M_orderOf 14 = .ok (.iload 5, 2) := by decide +kernel
theorem d_M_orderOf_16 : decode b_M_orderOf 16 = .ok (.ifCond .eq 43, 3) := by decide +kernel
theorem d_M_orderOf_19 : decode b_M_orderOf 19 = .ok (.iload 10, 2) := by decide +kernel
theorem d_M_orderOf_21 : decode b_M_orderOf 21 = .ok (.ifCond .ne 38, 3) := by decide +kernel
theorem d_M_orderOf_24 : decode b_M_orderOf 24 = .ok (.aload_n 0, 1) := by decide +kernel
theorem d_M_orderOf_25 : decode b_M_orderOf 25 = .ok (.lload 6, 2) := by decide +kernel
theorem d_M_orderOf_27 : decode b_M_orderOf 27 = .ok (.lload 8, 2) := by decide +kernel
theorem d_M_orderOf_29 : decode b_M_orderOf 29 = .ok (.lload 6, 2) := by decide +kernel
theorem d_M_orderOf_31 : decode b_M_orderOf 31 = .ok (.lload 8, 2) := by decide +kernel
theorem d_M_orderOf_33 : decode b_M_orderOf 33 = .ok (.iconst 0, 1) := by decide +kernel
theorem d_M_orderOf_34 : decode b_M_orderOf 34 = .ok (.invokevirtual 218, 3) := by decide +kernel
theorem d_M_orderOf_37 : decode b_M_orderOf 37 = .ok (.istore 19, 2) := by decide +kernel
theorem d_M_orderOf_39 : decode b_M_orderOf 39 = .ok (.iload 19, 2) := by decide +kernel
theorem d_M_orderOf_41 : decode b_M_orderOf 41 = .ok (.ifCond .ge 6, 3) := by decide +kernel
theorem d_M_orderOf_44 : decode b_M_orderOf 44 = .ok (.iload 19, 2) := by decide +kernel
theorem d_M_orderOf_46 : decode b_M_orderOf 46 = .ok (.ireturn, 1) := by decide +kernel
theorem d_M_orderOf_47 : decode b_M_orderOf 47 = .ok (.aload_n 0, 1) := by decide +kernel
theorem d_M_orderOf_48 : decode b_M_orderOf 48 = .ok (.getfield 201, 3) := by decide +kernel
theorem d_M_orderOf_51 : decode b_M_orderOf 51 = .ok (.lstore 15, 2) := by decide +kernel
theorem d_M_orderOf_53 : decode b_M_orderOf 53 = .ok (.aload_n 0, 1) := by decide +kernel
theorem d_M_orderOf_54 : decode b_M_orderOf 54 = .ok (.getfield 205, 3) := by decide +kernel
theorem d_M_orderOf_57 : decode b_M_orderOf 57 = .ok (.lstore 17, 2) := by decide +kernel
theorem d_M_orderOf_59 : decode b_M_orderOf 59 = .ok (.iload 10, 2) := by decide +kernel
theorem d_M_orderOf_61 : decode b_M_orderOf 61 = .ok (.ifCond .eq 39, 3) := by decide +kernel
theorem d_M_orderOf_64 : decode b_M_orderOf 64 = .ok (.iload 5, 2) := by decide +kernel
theorem d_M_orderOf_66 : decode b_M_orderOf 66 = .ok (.ifCond .ne 34, 3) := by decide +kernel
theorem d_M_orderOf_69 : decode b_M_orderOf 69 = .ok (.aload_n 0, 1) := by decide +kernel
theorem d_M_orderOf_70 : decode b_M_orderOf 70 = .ok (.lload_n 1, 1) := by decide +kernel
theorem d_M_orderOf_71 : decode b_M_orderOf 71 = .ok (.lload_n 3, 1) := by decide +kernel
theorem d_M_orderOf_72 : decode b_M_orderOf 72 = .ok (.lload_n 1, 1) := by decide +kernel
theorem d_M_orderOf_73 : decode b_M_orderOf 73 = .ok (.lload_n 3, 1) := by decide +kernel
theorem d_M_orderOf_74 : decode b_M_orderOf 74 = .ok (.iconst 0, 1) := by decide +kernel
theorem d_M_orderOf_75 : decode b_M_orderOf 75 = .ok (.invokevirtual 218, 3) := by decide +kernel
theorem d_M_orderOf_78 : decode b_M_orderOf 78 = .ok (.istore 19, 2) := by decide +kernel
theorem d_M_orderOf_80 : decode b_M_orderOf 80 = .ok (.iload 19, 2) := by decide +kernel
theorem d_M_orderOf_82 : decode b_M_orderOf 82 = .ok (.ifCond .ge 6, 3) := by decide +kernel
theorem d_M_orderOf_85 : decode b_M_orderOf 85 = .ok (.iload 19, 2) := by decide +kernel
theorem d_M_orderOf_87 : decode b_M_orderOf 87 = .ok (.ireturn, 1) := by decide +kernel
theorem d_M_orderOf_88 : decode b_M_orderOf 88 = .ok (.aload_n 0, 1) := by decide +kernel
theorem d_M_orderOf_89 : decode b_M_orderOf 89 = .ok (.getfield 201, 3) := by decide +kernel
theorem d_M_orderOf_92 : decode b_M_orderOf 92 = .ok (.lstore 11, 2) := by decide +kernel
theorem d_M_orderOf_94 : decode b_M_orderOf 94 = .ok (.aload_n 0, 1) := by decide +kernel
theorem d_M_orderOf_95 : decode b_M_orderOf 95 = .ok (.getfield 205, 3) := by decide +kernel
theorem d_M_orderOf_98 : decode b_M_orderOf 98 = .ok (.lstore 13, 2) := by decide +kernel
theorem d_M_orderOf_100 : decode b_M_orderOf 100 = .ok (.aload_n 0, 1) := by decide +kernel
theorem d_M_orderOf_101 : decode b_M_orderOf 101 = .ok (.lload 11, 2) := by decide +kernel
theorem d_M_orderOf_103 : decode b_M_orderOf 103 = .ok (.lload 13, 2) := by decide +kernel
theorem d_M_orderOf_105 : decode b_M_orderOf 105 = .ok (.lload 15, 2) := by decide +kernel
theorem d_M_orderOf_107 : decode b_M_orderOf 107 = .ok (.lload 17, 2) := by decide +kernel
theorem d_M_orderOf_109 : decode b_M_orderOf 109 = .ok (.invokestatic 222, 3) := by decide +kernel
theorem d_M_orderOf_112 : decode b_M_orderOf 112 = .ok (.putfield 226, 3) := by decide +kernel
theorem d_M_orderOf_115 : decode b_M_orderOf 115 = .ok (.iconst 0, 1) := by decide +kernel
theorem d_M_orderOf_116 : decode b_M_orderOf 116 = .ok (.ireturn, 1) := by decide +kernel
theorem d_M_push_0 : decode b_M_push 0 = .ok (.aload_n 0, 1) := by decide +kernel
theorem d_M_push_1 : decode b_M_push 1 = .ok (.getfield 36, 3) := by decide +kernel
theorem d_M_push_4 : decode b_M_push 4 = .ok (.aload_n 0, 1) := by decide +kernel
theorem d_M_push_5 : decode b_M_push 5 = .ok (.getfield 229, 3) := by decide +kernel
theorem d_M_push_8 : decode b_M_push 8 = .ok (.iload_n 1, 1) := by decide +kernel
theorem d_M_push_9 : decode b_M_push 9 = .ok (.iastore, 1) := by decide +kernel
theorem d_M_push_10 : decode b_M_push 10 = .ok (.aload_n 0, 1) := by decide +kernel
theorem d_M_push_11 : decode b_M_push 11 = .ok (.getfield 39, 3) := by decide +kernel
theorem d_M_push_14 : decode b_M_push 14 = .ok (.aload_n 0, 1) := by decide +kernel
theorem d_M_push_15 : decode b_M_push 15 = .ok (.getfield 229, 3) := by decide +kernel
theorem d_M_push_18 : decode b_M_push 18 = .ok (.iload_n 2, 1) := by decide +kernel
theorem d_M_push_19 : decode b_M_push 19 = .ok (.iastore, 1) := by decide +kernel
theorem d_M_push_20 : decode b_M_push 20 = .ok (.aload_n 0, 1) := by decide +kernel
theorem d_M_push_21 : decode b_M_push 21 = .ok (.getfield 42, 3) := by decide +kernel
theorem d_M_push_24 : decode b_M_push 24 = .ok (.aload_n 0, 1) := by decide +kernel
theorem d_M_push_25 : decode b_M_push 25 = .ok (.getfield 229, 3) := by decide +kernel
theorem d_M_push_28 : decode b_M_push 28 = .ok (.iload_n 3, 1) := by decide +kernel
theorem d_M_push_29 : decode b_M_push 29 = .ok (.iastore, 1) := by decide +kernel
theorem d_M_push_30 : decode b_M_push 30 = .ok (.aload_n 0, 1) := by decide +kernel
theorem d_M_push_31 : decode b_M_push 31 = .ok (.getfield 45, 3) := by decide +kernel
theorem d_M_push_34 : decode b_M_push 34 = .ok (.aload_n 0, 1) := by decide +kernel
theorem d_M_push_35 : decode b_M_push 35 = .ok (.getfield 229, 3) := by decide +kernel
theorem d_M_push_38 : decode b_M_push 38 = .ok (.iload 4, 2) := by decide +kernel
theorem d_M_push_40 : decode b_M_push 40 = .ok (.iastore, 1) := by decide +kernel
theorem d_M_push_41 : decode b_M_push 41 = .ok (.aload_n 0, 1) := by decide +kernel
theorem d_M_push_42 : decode b_M_push 42 = .ok (.getfield 48, 3) := by decide +kernel
theorem d_M_push_45 : decode b_M_push 45 = .ok (.aload_n 0, 1) := by decide +kernel
theorem d_M_push_46 : decode b_M_push 46 = .ok (.getfield 229, 3) := by decide +kernel
theorem d_M_push_49 : decode b_M_push 49 = .ok (.aload_n 0, 1) := by decide +kernel
theorem d_M_push_50 : decode b_M_push 50 = .ok (.getfield 16, 3) := by decide +kernel
theorem d_M_push_53 : decode b_M_push 53 = .ok (.iload_n 1, 1) := by decide +kernel
theorem d_M_push_54 : decode b_M_push 54 = .ok (.iaload, 1) := by decide +kernel
theorem d_M_push_55 : decode b_M_push 55 = .ok (.bipush 11, 2) := by decide +kernel
theorem d_M_push_57 : decode b_M_push 57 = .ok (.if_icmp .ne 7, 3) := by decide +kernel
theorem d_M_push_60 : decode b_M_push 60 = .ok (.iload_n 2, 1) := by decide +kernel
theorem d_M_push_61 : decode b_M_push 61 = .ok (.goto 4, 3) := by decide +kernel
theorem d_M_push_64 : decode b_M_push 64 = .ok (.iconst 0, 1) := by decide +kernel
theorem d_M_push_65 : decode b_M_push 65 = .ok (.iastore, 1) := by decide +kernel
theorem d_M_push_66 : decode b_M_push 66 = .ok (.aload_n 0, 1) := by decide +kernel
theorem d_M_push_67 : decode b_M_push 67 = .ok (.dup, 1) := by decide +kernel
theorem d_M_push_68 : decode b_M_push 68 = .ok (.getfield 229, 3) := by decide +kernel
theorem d_M_push_71 : decode b_M_push 71 = .ok (.iconst 1, 1) := by decide +kernel
theorem d_M_push_72 : decode b_M_push 72 = .ok (.iadd, 1) := by decide +kernel
theorem d_M_push_73 : decode b_M_push 73 = .ok (.putfield 229, 3) := by decide +kernel
theorem d_M_push_76 : decode b_M_push 76 = .ok (.return_, 1) := by decide +kernel
theorem d_M_plain_0 : decode b_M_plain 0 = .ok (.lconst 0, 1) := by decide +kernel
theorem d_M_plain_1 : decode b_M_plain 1 = .ok (.lstore 4, 2) := by decide +kernel
theorem d_M_plain_3 : decode b_M_plain 3 = .ok (.lconst 1, 1) := by decide +kernel
theorem d_M_plain_4 : decode b_M_plain 4 = .ok (.lstore 6, 2) := by decide +kernel
theorem d_M_plain_6 : decode b_M_plain 6 = .ok (.iconst 0, 1) := by decide +kernel
theorem d_M_plain_7 : decode b_M_plain 7 = .ok (.istore 8, 2) := by decide +kernel
theorem d_M_plain_9 : decode b_M_plain 9 = .ok (.iconst 0, 1) := by decide +kernel
theorem d_M_plain_10 : decode b_M_plain 10 = .ok (.istore 9, 2) := by decide +kernel
theorem d_M_plain_12 : decode b_M_plain 12 = .ok (.iload 9, 2) := by decide +kernel
theorem d_M_plain_14 : decode b_M_plain 14 = .ok (.iconst 5, 1) := by decide +kernel
theorem d_M_plain_15 : decode b_M_plain 15 = .ok (.if_icmp .ge 85, 3) := by decide +kernel
theorem d_M_plain_18 : decode b_M_plain 18 = .ok (.iload_n 3, 1) := by decide +kernel
theorem d_M_plain_19 : decode b_M_plain 19 = .ok (.iload 9, 2) := by decide +kernel
theorem d_M_plain_21 : decode b_M_plain 21 = .ok (.ishr, 1) := by decide +kernel
theorem d_M_plain_22 : decode b_M_plain 22 = .ok (.iconst 1, 1) := by decide +kernel
theorem d_M_plain_23 : decode b_M_plain 23 = .ok (.iand, 1) := by decide +kernel
theorem d_M_plain_24 : decode b_M_plain 24 = .ok (.iconst 1, 1) := by decide +kernel
theorem d_M_plain_25 : decode b_M_plain 25 = .ok (.if_icmp .ne 69, 3) := by decide +kernel
theorem d_M_plain_28 : decode b_M_plain 28 = .ok (.aload_n 0, 1) := by decide +kernel
theorem d_M_plain_29 : decode b_M_plain 29 = .ok (.getfield 7, 3) := by decide +kernel
theorem d_M_plain_32 : decode b_M_plain 32 = .ok (.iconst 5, 1) := by decide +kernel
theorem d_M_plain_33 : decode b_M_plain 33 = .ok (.iload_n 1, 1) := by decide +kernel
theorem d_M_plain_34 : decode b_M_plain 34 = .ok (.imul, 1) := by decide +kernel
theorem d_M_plain_35 : decode b_M_plain 35 = .ok (.iload 9, 2) := by decide +kernel
theorem d_M_plain_37 : decode b_M_plain 37 = .ok (.iadd, 1) := by decide +kernel
theorem d_M_plain_38 : decode b_M_plain 38 = .ok (.iaload, 1) := by decide +kernel
theorem d_M_plain_39 : decode b_M_plain 39 = .ok (.istore 10, 2) := by decide +kernel
theorem d_M_plain_41 : decode b_M_plain 41 = .ok (.aload_n 0, 1) := by decide +kernel
theorem d_M_plain_42 : decode b_M_plain 42 = .ok (.getfield 7, 3) := by decide +kernel
theorem d_M_plain_45 : decode b_M_plain 45 = .ok (.iconst 5, 1) := by decide +kernel
theorem d_M_plain_46 : decode b_M_plain 46 = .ok (.iload_n 2, 1) := by decide +kernel
theorem d_M_plain_47 : decode b_M_plain 47 = .ok (.imul, 1) := by decide +kernel
theorem d_M_plain_48 : decode b_M_plain 48 = .ok (.iload 9, 2) := by decide +kernel
theorem d_M_plain_50 : decode b_M_plain 50 = .ok (.iadd, 1) := by decide +kernel
theorem d_M_plain_51 : decode b_M_plain 51 = .ok (.iaload, 1) := by decide +kernel
theorem d_M_plain_52 : decode b_M_plain 52 = .ok (.istore 11, 2) := by decide +kernel
theorem d_M_plain_54 : decode b_M_plain 54 = .ok (.iload 10, 2) := by decide +kernel
theorem d_M_plain_56 : decode b_M_plain 56 = .ok (.ifCond .eq 8, 3) := by decide +kernel
theorem d_M_plain_59 : decode b_M_plain 59 = .ok (.iload 11, 2) := by decide +kernel
theorem d_M_plain_61 : decode b_M_plain 61 = .ok (.ifCond .ne 7, 3) := by decide +kernel
theorem d_M_plain_64 : decode b_M_plain 64 = .ok (.sipush (-1003), 3) := by decide +kernel
theorem d_M_plain_67 : decode b_M_plain 67 = .ok (.ireturn, 1) := by decide +kernel
theorem d_M_plain_68 : decode b_M_plain 68 = .ok (.lload 4, 2) := by decide +kernel
theorem d_M_plain_70 : decode b_M_plain 70 = .ok (.iload 10, 2) := by decide +kernel
theorem d_M_plain_72 : decode b_M_plain 72 = .ok (.i2l, 1) := by decide +kernel
theorem d_M_plain_73 : decode b_M_plain 73 = .ok (.lmul, 1) := by decide +kernel
theorem d_M_plain_74 : decode b_M_plain 74 = .ok (.iload 11, 2) := by decide +kernel
theorem d_M_plain_76 : decode b_M_plain 76 = .ok (.i2l, 1) := by decide +kernel
theorem d_M_plain_77 : decode b_M_plain 77 = .ok (.lload 6, 2) := by decide +kernel
theorem d_M_plain_79 : decode b_M_plain 79 = .ok (.lmul, 1) := by decide +kernel
theorem d_M_plain_80 : decode b_M_plain 80 = .ok (.ladd, 1) := by decide +kernel
theorem d_M_plain_81 : decode b_M_plain 81 = .ok (.lstore 4, 2) := by decide +kernel
theorem d_M_plain_83 : decode b_M_plain 83 = .ok (.lload 6, 2) := by decide +kernel
theorem d_M_plain_85 : decode b_M_plain 85 = .ok (.iload 10, 2) := by decide +kernel
theorem d_M_plain_87 : decode b_M_plain 87 = .ok (.i2l, 1) := by decide +kernel
theorem d_M_plain_88 : decode b_M_plain 88 = .ok (.lmul, 1) := by decide +kernel
theorem d_M_plain_89 : decode b_M_plain 89 = .ok (.lstore 6, 2) := by decide +kernel
theorem d_M_plain_91 : decode b_M_plain 91 = .ok (.iinc 8 1, 3) := by decide +kernel
theorem d_M_plain_94 : decode b_M_plain 94 = .ok (.iinc 9 1, 3) := by decide +kernel
theorem d_M_plain_97 : decode b_M_plain 97 = .ok (.goto (-85), 3) := by decide +kernel
theorem d_M_plain_100 : decode b_M_plain 100 = .ok (.iload 8, 2) := by decide +kernel
theorem d_M_plain_102 : decode b_M_plain 102 = .ok (.ifCond .ne 9, 3) := by decide +kernel
theorem d_M_plain_105 : decode b_M_plain 105 = .ok (.sipush (-1003), 3) := by decide +kernel
theorem d_M_plain_108 : decode b_M_plain 108 = .ok (.goto 16, 3) := by decide +kernel
theorem d_M_plain_111 : decode b_M_plain 111 = .ok (.aload_n 0, 1) := by decide +kernel
theorem d_M_plain_112 : decode b_M_plain 112 = .ok (.lload 4, 2) := by decide +kernel
theorem d_M_plain_114 : decode b_M_plain 114 = .ok (.lload 6, 2) := by decide +kernel
theorem d_M_plain_116 : decode b_M_plain 116 = .ok (.iload 8, 2) := by decide +kernel
theorem d_M_plain_118 : decode b_M_plain 118 = .ok (.i2l, 1) := by decide +kernel
theorem d_M_plain_119 : decode b_M_plain 119 = .ok (.lmul, 1) := by decide +kernel
theorem d_M_plain_120 : decode b_M_plain 120 = .ok (.iconst 0, 1) := by decide +kernel
theorem d_M_plain_121 : decode b_M_plain 121 = .ok (.invokevirtual 214, 3) := by decide +kernel
theorem d_M_plain_124 : decode b_M_plain 124 = .ok (.ireturn, 1) := by decide +kernel
theorem d_M_sums_0 : decode b_M_sums 0 = .ok (.iconst 0, 1) := by decide +kernel
theorem d_M_sums_1 : decode b_M_sums 1 = .ok (.istore 4, 2) := by decide +kernel
theorem d_M_sums_3 : decode b_M_sums 3 = .ok (.iconst 0, 1) := by decide +kernel
theorem d_M_sums_4 : decode b_M_sums 4 = .ok (.istore 5, 2) := by decide +kernel
theorem d_M_sums_6 : decode b_M_sums 6 = .ok (.iconst 0, 1) := by decide +kernel
theorem d_M_sums_7 : decode b_M_sums 7 = .ok (.istore 6, 2) := by decide +kernel
theorem d_M_sums_9 : decode b_M_sums 9 = .ok (.iload 6, 2) := by decide +kernel
theorem d_M_sums_11 : decode b_M_sums 11 = .ok (.iconst 5, 1) := by decide +kernel
theorem d_M_sums_12 : decode b_M_sums 12 = .ok (.if_icmp .ge 83, 3) := by decide +kernel
theorem d_M_sums_15 : decode b_M_sums 15 = .ok (.iload_n 3, 1) := by decide +kernel
theorem d_M_sums_16 : decode b_M_sums 16 = .ok (.iload 6, 2) := by decide +kernel
theorem d_M_sums_18 : decode b_M_sums 18 = .ok (.ishr, 1) := by decide +kernel
theorem d_M_sums_19 : decode b_M_sums 19 = .ok (.iconst 1, 1) := by decide +kernel
theorem d_M_sums_20 : decode b_M_sums 20 = .ok (.iand, 1) := by decide +kernel
theorem d_M_sums_21 : decode b_M_sums 21 = .ok (.iconst 1, 1) := by decide +kernel
theorem d_M_sums_22 : decode b_M_sums 22 = .ok (.if_icmp .ne 67, 3) := by decide +kernel
theorem d_M_sums_25 : decode b_M_sums 25 = .ok (.aload_n 0, 1) := by decide +kernel
theorem d_M_sums_26 : decode b_M_sums 26 = .ok (.getfield 7, 3) := by decide +kernel
theorem d_M_sums_29 : decode b_M_sums 29 = .ok (.iconst 5, 1) := by decide +kernel
theorem d_M_sums_30 : decode b_M_sums 30 = .ok (.iload_n 1, 1) := by decide +kernel
theorem d_M_sums_31 : decode b_M_sums 31 = .ok (.imul, 1) := by decide +kernel
theorem d_M_sums_32 : decode b_M_sums 32 = .ok (.iload 6, 2) := by decide +kernel
theorem d_M_sums_34 : decode b_M_sums 34 = .ok (.iadd, 1) := by decide +kernel
theorem d_M_sums_35 : decode b_M_sums 35 = .ok (.iaload, 1) := by decide +kernel
theorem d_M_sums_36 : decode b_M_sums 36 = .ok (.ifCond .eq 17, 3) := by decide +kernel
theorem d_M_sums_39 : decode b_M_sums 39 = .ok (.aload_n 0, 1) := by decide +kernel
theorem d_M_sums_40 : decode b_M_sums 40 = .ok (.getfield 7, 3) := by decide +kernel
theorem d_M_sums_43 : decode b_M_sums 43 = .ok (.iconst 5, 1) := by decide +kernel
theorem d_M_sums_44 : decode b_M_sums 44 = .ok (.iload_n 2, 1) := by decide +kernel
theorem d_M_sums_45 : decode b_M_sums 45 = .ok (.imul, 1) := by decide +kernel
theorem d_M_sums_46 : decode b_M_sums 46 = .ok (.iload 6, 2) := by decide +kernel
theorem d_M_sums_48 : decode b_M_sums 48 = .ok (.iadd, 1) := by decide +kernel
theorem d_M_sums_49 : decode b_M_sums 49 = .ok (.iaload, 1) := by decide +kernel
theorem d_M_sums_50 : decode b_M_sums 50 = .ok (.ifCond .ne 7, 3) := by decide +kernel
theorem d_M_sums_53 : decode b_M_sums 53 = .ok (.sipush (-1003), 3) := by decide +kernel
theorem d_M_sums_56 : decode b_M_sums 56 = .ok (.ireturn, 1) := by decide +kernel
theorem d_M_sums_57 : decode b_M_sums 57 = .ok (.iload 4, 2) := by decide +kernel
theorem d_M_sums_59 : decode b_M_sums 59 = .ok (.aload_n 0, 1) := by decide +kernel
theorem d_M_sums_60 : decode b_M_sums 60 = .ok (.getfield 7, 3) := by decide +kernel
theorem d_M_sums_63 : decode b_M_sums 63 = .ok (.iconst 5, 1) := by decide +kernel
theorem d_M_sums_64 : decode b_M_sums 64 = .ok (.iload_n 1, 1) := by decide +kernel
theorem d_M_sums_65 : decode b_M_sums 65 = .ok (.imul, 1) := by decide +kernel
theorem d_M_sums_66 : decode b_M_sums 66 = .ok (.iload 6, 2) := by decide +kernel
theorem d_M_sums_68 : decode b_M_sums 68 = .ok (.iadd, 1) := by decide +kernel
theorem d_M_sums_69 : decode b_M_sums 69 = .ok (.iaload, 1) := by decide +kernel
theorem d_M_sums_70 : decode b_M_sums 70 = .ok (.iadd, 1) := by decide +kernel
theorem d_M_sums_71 : decode b_M_sums 71 = .ok (.istore 4, 2) := by decide +kernel
theorem d_M_sums_73 : decode b_M_sums 73 = .ok (.iload 5, 2) := by decide +kernel
theorem d_M_sums_75 : decode b_M_sums 75 = .ok (.aload_n 0, 1) := by decide +kernel
theorem d_M_sums_76 : decode b_M_sums 76 = .ok (.getfield 7, 3) := by decide +kernel
theorem d_M_sums_79 : decode b_M_sums 79 = .ok (.iconst 5, 1) := by decide +kernel
theorem d_M_sums_80 : decode b_M_sums 80 = .ok (.iload_n 2, 1) := by decide +kernel
theorem d_M_sums_81 : decode b_M_sums 81 = .ok (.imul, 1) := by decide +kernel
theorem d_M_sums_82 : decode b_M_sums 82 = .ok (.iload 6, 2) := by decide +kernel
theorem d_M_sums_84 : decode b_M_sums 84 = .ok (.iadd, 1) := by decide +kernel
theorem d_M_sums_85 : decode b_M_sums 85 = .ok (.iaload, 1) := by decide +kernel
theorem d_M_sums_86 : decode b_M_sums 86 = .ok (.iadd, 1) := by decide +kernel
theorem d_M_sums_87 : decode b_M_sums 87 = .ok (.istore 5, 2) := by decide +kernel
theorem d_M_sums_89 : decode b_M_sums 89 = .ok (.iinc 6 1, 3) := by decide +kernel
theorem d_M_sums_92 : decode b_M_sums 92 = .ok (.goto (-83), 3) := by decide +kernel
theorem d_M_sums_95 : decode b_M_sums 95 = .ok (.aload_n 0, 1) := by decide +kernel
theorem d_M_sums_96 : decode b_M_sums 96 = .ok (.iload 5, 2) := by decide +kernel
theorem d_M_sums_98 : decode b_M_sums 98 = .ok (.i2l, 1) := by decide +kernel
theorem d_M_sums_99 : decode b_M_sums 99 = .ok (.iload 4, 2) := by decide +kernel
theorem d_M_sums_101 : decode b_M_sums 101 = .ok (.i2l, 1) := by decide +kernel
theorem d_M_sums_102 : decode b_M_sums 102 = .ok (.iconst 0, 1) := by decide +kernel
theorem d_M_sums_103 : decode b_M_sums 103 = .ok (.invokevirtual 214, 3) := by decide +kernel
theorem d_M_sums_106 : decode b_M_sums 106 = .ok (.ireturn, 1) := by decide +kernel
theorem d_M_leaf_0 : decode b_M_leaf 0 = .ok (.aload_n 0, 1) := by decide +kernel
theorem d_M_leaf_1 : decode b_M_leaf 1 = .ok (.getfield 16, 3) := by decide +kernel
theorem d_M_leaf_4 : decode b_M_leaf 4 = .ok (.iload_n 1, 1) := by decide +kernel
theorem d_M_leaf_5 : decode b_M_leaf 5 = .ok (.iaload, 1) := by decide +kernel
theorem d_M_leaf_6 : decode b_M_leaf 6 = .ok (.iconst 4, 1) := by decide +kernel
theorem d_M_leaf_7 : decode b_M_leaf 7 = .ok (.if_icmp .ne 13, 3) := by decide +kernel
theorem d_M_leaf_10 : decode b_M_leaf 10 = .ok (.aload_n 0, 1) := by decide +kernel
theorem d_M_leaf_11 : decode b_M_leaf 11 = .ok (.iload_n 3, 1) := by decide +kernel
theorem d_M_leaf_12 : decode b_M_leaf 12 = .ok (.iload 4, 2) := by decide +kernel
theorem d_M_leaf_14 : decode b_M_leaf 14 = .ok (.iload 5, 2) := by decide +kernel
theorem d_M_leaf_16 : decode b_M_leaf 16 = .ok (.invokevirtual 232, 3) := by decide +kernel
theorem d_M_leaf_19 : decode b_M_leaf 19 = .ok (.ireturn, 1) := by decide +kernel
theorem d_M_leaf_20 : decode b_M_leaf 20 = .ok (.aload_n 0, 1) := by decide +kernel
theorem d_M_leaf_21 : decode b_M_leaf 21 = .ok (.getfield 16, 3) := by decide +kernel
theorem d_M_leaf_24 : decode b_M_leaf 24 = .ok (.iload_n 1, 1) := by decide +kernel
theorem d_M_leaf_25 : decode b_M_leaf 25 = .ok (.iaload, 1) := by decide +kernel
theorem d_M_leaf_26 : decode b_M_leaf 26 = .ok (.iconst 5, 1) := by decide +kernel
theorem d_M_leaf_27 : decode b_M_leaf 27 = .ok (.if_icmp .ne 13, 3) := by decide +kernel
theorem d_M_leaf_30 : decode b_M_leaf 30 = .ok (.aload_n 0, 1) := by decide +kernel
theorem d_M_leaf_31 : decode b_M_leaf 31 = .ok (.iload_n 3, 1) := by decide +kernel
theorem d_M_leaf_32 : decode b_M_leaf 32 = .ok (.iload 4, 2) := by decide +kernel
theorem d_M_leaf_34 : decode b_M_leaf 34 = .ok (.iload 5, 2) := by decide +kernel
theorem d_M_leaf_36 : decode b_M_leaf 36 = .ok (.invokevirtual 235, 3) := by decide +kernel
theorem d_M_leaf_39 : decode b_M_leaf 39 = .ok (.ireturn, 1) := by decide +kernel
theorem d_M_leaf_40 : decode b_M_leaf 40 = .ok (.aload_n 0, 1) := by decide +kernel
theorem d_M_leaf_41 : decode b_M_leaf 41 = .ok (.getfield 16, 3) := by decide +kernel
theorem d_M_leaf_44 : decode b_M_leaf 44 = .ok (.iload_n 1, 1) := by decide +kernel
theorem d_M_leaf_45 : decode b_M_leaf 45 = .ok (.iaload, 1) := by decide +kernel
theorem d_M_leaf_46 : decode b_M_leaf 46 = .ok (.ifCond .eq 13, 3) := by decide +kernel
theorem d_M_leaf_49 : decode b_M_leaf 49 = .ok (.aload_n 0, 1) := by decide +kernel
theorem d_M_leaf_50 : decode b_M_leaf 50 = .ok (.getfield 16, 3) := by decide +kernel
theorem d_M_leaf_53 : decode b_M_leaf 53 = .ok (.iload_n 1, 1) := by decide +kernel
theorem d_M_leaf_54 : decode b_M_leaf 54 = .ok (.iaload, 1) := by decide +kernel
theorem d_M_leaf_55 : decode b_M_leaf 55 = .ok (.iconst 2, 1) := by decide +kernel
theorem d_M_leaf_56 : decode b_M_leaf 56 = .ok (.if_icmp .ne 7, 3) := by decide +kernel
theorem d_M_leaf_59 : decode b_M_leaf 59 = .ok (.iload_n 3, 1) := by decide +kernel
theorem d_M_leaf_60 : decode b_M_leaf 60 = .ok (.goto 24, 3) := by decide +kernel
theorem d_M_leaf_63 : decode b_M_leaf 63 = .ok (.aload_n 0, 1) := by decide +kernel
theorem d_M_leaf_64 : decode b_M_leaf 64 = .ok (.getfield 16, 3) := by decide +kernel
theorem d_M_leaf_67 : decode b_M_leaf 67 = .ok (.iload_n 1, 1) := by decide +kernel
theorem d_M_leaf_68 : decode b_M_leaf 68 = .ok (.iaload, 1) := by decide +kernel
theorem d_M_leaf_69 : decode b_M_leaf 69 = .ok (.iconst 1, 1) := by decide +kernel
theorem d_M_leaf_70 : decode b_M_leaf 70 = .ok (.if_icmp .ne 8, 3) := by decide +kernel
theorem d_M_leaf_73 : decode b_M_leaf 73 = .ok (.iload 4, 2) := by decide +kernel
theorem d_M_leaf_75 : decode b_M_leaf 75 = .ok (.goto 9, 3) := by decide +kernel
theorem d_M_leaf_78 : decode b_M_leaf 78 = .ok (.aload_n 0, 1) := by decide +kernel
theorem d_M_leaf_79 : decode b_M_leaf 79 = .ok (.getfield 19, 3) := by decide +kernel
theorem d_M_leaf_82 : decode b_M_leaf 82 = .ok (.iload_n 1, 1) := by decide +kernel
theorem d_M_leaf_83 : decode b_M_leaf 83 = .ok (.iaload, 1) := by decide +kernel
theorem d_M_leaf_84 : decode b_M_leaf 84 = .ok (.istore 6, 2) := by decide +kernel
theorem d_M_leaf_86 : decode b_M_leaf 86 = .ok (.aload_n 0, 1) := by decide +kernel
theorem d_M_leaf_87 : decode b_M_leaf 87 = .ok (.iload_n 2, 1) := by decide +kernel
theorem d_M_leaf_88 : decode b_M_leaf 88 = .ok (.iload 4, 2) := by decide +kernel
theorem d_M_leaf_90 : decode b_M_leaf 90 = .ok (.iload 6, 2) := by decide +kernel
theorem d_M_leaf_92 : decode b_M_leaf 92 = .ok (.iload 5, 2) := by decide +kernel
theorem d_M_leaf_94 : decode b_M_leaf 94 = .ok (.invokevirtual 118, 3) := by decide +kernel
theorem d_M_leaf_97 : decode b_M_leaf 97 = .ok (.istore 7, 2) := by decide +kernel
theorem d_M_leaf_99 : decode b_M_leaf 99 = .ok (.aload_n 0, 1) := by decide +kernel
theorem d_M_leaf_100 : decode b_M_leaf 100 = .ok (.iload_n 2, 1) := by decide +kernel
theorem d_M_leaf_101 : decode b_M_leaf 101 = .ok (.iload_n 3, 1) := by decide +kernel
theorem d_M_leaf_102 : decode b_M_leaf 102 = .ok (.iload 6, 2) := by decide +kernel
theorem d_M_leaf_104 : decode b_M_leaf 104 = .ok (.iload 5, 2) := by decide +kernel
theorem d_M_leaf_106 : decode b_M_leaf 106 = .ok (.invokevirtual 118, 3) := by decide +kernel
theorem d_M_leaf_109 : decode b_M_leaf 109 = .ok (.istore 8, 2) := by decide +kernel
theorem d_M_leaf_111 : decode b_M_leaf 111 = .ok (.iload 7, 2) := by decide +kernel
theorem d_M_leaf_113 : decode b_M_leaf 113 = .ok (.ifCond .lt 8, 3) := by decide +kernel
theorem d_M_leaf_116 : decode b_M_leaf 116 = .ok (.iload 8, 2) := by decide +kernel
theorem d_M_leaf_118 : decode b_M_leaf 118 = .ok (.ifCond .ge 7, 3) := by decide +kernel
theorem d_M_leaf_121 : decode b_M_leaf 121 = .ok (.sipush (-1003), 3) := by decide +kernel
theorem d_M_leaf_124 : decode b_M_leaf 124 = .ok (.ireturn, 1) := by decide +kernel
theorem d_M_leaf_125 : decode b_M_leaf 125 = .ok (.aload_n 0, 1) := by decide +kernel
theorem d_M_leaf_126 : decode b_M_leaf 126 = .ok (.getfield 16, 3) := by decide +kernel
theorem d_M_leaf_129 : decode b_M_leaf 129 = .ok (.iload_n 1, 1) := by decide +kernel
theorem d_M_leaf_130 : decode b_M_leaf 130 = .ok (.iaload, 1) := by decide +kernel
theorem d_M_leaf_131 : decode b_M_leaf 131 = .ok (.iconst 2, 1) := by decide +kernel
theorem d_M_leaf_132 : decode b_M_leaf 132 = .ok (.if_icmp .ne 56, 3) := by decide +kernel
theorem d_M_leaf_135 : decode b_M_leaf 135 = .ok (.aload_n 0, 1) := by decide +kernel
theorem d_M_leaf_136 : decode b_M_leaf 136 = .ok (.iload_n 2, 1) := by decide +kernel
theorem d_M_leaf_137 : decode b_M_leaf 137 = .ok (.iload 4, 2) := by decide +kernel
theorem d_M_leaf_139 : decode b_M_leaf 139 = .ok (.iload 4, 2) := by decide +kernel
theorem d_M_leaf_141 : decode b_M_leaf 141 = .ok (.iload 5, 2) := by decide +kernel
theorem d_M_leaf_143 : decode b_M_leaf 143 = .ok (.invokevirtual 118, 3) := by decide +kernel
theorem d_M_leaf_146 : decode b_M_leaf 146 = .ok (.istore 9, 2) := by decide +kernel
theorem d_M_leaf_148 : decode b_M_leaf 148 = .ok (.aload_n 0, 1) := by decide +kernel
theorem d_M_leaf_149 : decode b_M_leaf 149 = .ok (.iload_n 2, 1) := by decide +kernel
theorem d_M_leaf_150 : decode b_M_leaf 150 = .ok (.iload_n 3, 1) := by decide +kernel
theorem d_M_leaf_151 : decode b_M_leaf 151 = .ok (.iload 4, 2) := by decide +kernel
theorem d_M_leaf_153 : decode b_M_leaf 153 = .ok (.iload 5, 2) := by decide +kernel
theorem d_M_leaf_155 : decode b_M_leaf 155 = .ok (.invokevirtual 118, 3) := by decide +kernel
theorem d_M_leaf_158 : decode b_M_leaf 158 = .ok (.istore 10, 2) := by decide +kernel
theorem d_M_leaf_160 : decode b_M_leaf 160 = .ok (.iload 9, 2) := by decide +kernel
theorem d_M_leaf_162 : decode b_M_leaf 162 = .ok (.ifCond .lt 8, 3) := by decide +kernel
theorem d_M_leaf_165 : decode b_M_leaf 165 = .ok (.iload 10, 2) := by decide +kernel
theorem d_M_leaf_167 : decode b_M_leaf 167 = .ok (.ifCond .ge 7, 3) := by decide +kernel
theorem d_M_leaf_170 : decode b_M_leaf 170 = .ok (.sipush (-1003), 3) := by decide +kernel
theorem d_M_leaf_173 : decode b_M_leaf 173 = .ok (.ireturn, 1) := by decide +kernel
theorem d_M_leaf_174 : decode b_M_leaf 174 = .ok (.iload 7, 2) := by decide +kernel
theorem d_M_leaf_176 : decode b_M_leaf 176 = .ok (.iload 9, 2) := by decide +kernel
theorem d_M_leaf_178 : decode b_M_leaf 178 = .ok (.iadd, 1) := by decide +kernel
theorem d_M_leaf_179 : decode b_M_leaf 179 = .ok (.istore 7, 2) := by decide +kernel
theorem d_M_leaf_181 : decode b_M_leaf 181 = .ok (.iload 8, 2) := by decide +kernel
theorem d_M_leaf_183 : decode b_M_leaf 183 = .ok (.iload 10, 2) := by decide +kernel
theorem d_M_leaf_185 : decode b_M_leaf 185 = .ok (.iadd, 1) := by decide +kernel
theorem d_M_leaf_186 : decode b_M_leaf 186 = .ok (.istore 8, 2) := by decide +kernel
theorem d_M_leaf_188 : decode b_M_leaf 188 = .ok (.aload_n 0, 1) := by decide +kernel
theorem d_M_leaf_189 : decode b_M_leaf 189 = .ok (.iload 7, 2) := by decide +kernel
theorem d_M_leaf_191 : decode b_M_leaf 191 = .ok (.i2l, 1) := by decide +kernel
theorem d_M_leaf_192 : decode b_M_leaf 192 = .ok (.iload 8, 2) := by decide +kernel
theorem d_M_leaf_194 : decode b_M_leaf 194 = .ok (.i2l, 1) := by decide +kernel
theorem d_M_leaf_195 : decode b_M_leaf 195 = .ok (.iconst 0, 1) := by decide +kernel
theorem d_M_leaf_196 : decode b_M_leaf 196 = .ok (.invokevirtual 214, 3) := by decide +kernel
theorem d_M_leaf_199 : decode b_M_leaf 199 = .ok (.ireturn, 1) := by decide +kernel
theorem d_M_half_0 : decode b_M_half 0 = .ok (.lload_n 1, 1) := by decide +kernel
theorem d_M_half_1 : decode b_M_half 1 = .ok (.ldc2_w 107, 3) := by decide +kernel
theorem d_M_half_4 : decode b_M_half 4 = .ok (.lrem, 1) := by decide +kernel
theorem d_M_half_5 : decode b_M_half 5 = .ok (.lconst 0, 1) := by decide +kernel
theorem d_M_half_6 : decode b_M_half 6 = .ok (.lcmp, 1) := by decide +kernel
theorem d_M_half_7 : decode b_M_half 7 = .ok (.ifCond .ne 17, 3) := by decide +kernel
theorem d_M_half_10 : decode b_M_half 10 = .ok (.aload_n 0, 1) := by decide +kernel
theorem d_M_half_11 : decode b_M_half 11 = .ok (.lload_n 1, 1) := by decide +kernel
theorem d_M_half_12 : decode b_M_half 12 = .ok (.ldc2_w 107, 3) := by decide +kernel
theorem d_M_half_15 : decode b_M_half 15 = .ok (.ldiv, 1) := by decide +kernel
theorem d_M_half_16 : decode b_M_half 16 = .ok (.lload_n 3, 1) := by decide +kernel
theorem d_M_half_17 : decode b_M_half 17 = .ok (.iconst 0, 1) := by decide +kernel
theorem d_M_half_18 : decode b_M_half 18 = .ok (.invokevirtual 214, 3) := by decide +kernel
theorem d_M_half_21 : decode b_M_half 21 = .ok (.goto 14, 3) := by decide +kernel
theorem d_M_half_24 : decode b_M_half 24 = .ok (.aload_n 0, 1) := by decide +kernel
theorem d_M_half_25 : decode b_M_half 25 = .ok (.lload_n 1, 1) := by decide +kernel
theorem d_M_half_26 : decode b_M_half 26 = .ok (.ldc2_w 107, 3) := by decide +kernel
theorem d_M_half_29 : decode b_M_half 29 = .ok (.lload_n 3, 1) := by decide +kernel
theorem d_M_half_30 : decode b_M_half 30 = .ok (.lmul, 1) := by decide +kernel
theorem d_M_half_31 : decode b_M_half 31 = .ok (.iconst 0, 1) := by decide +kernel
theorem d_M_half_32 : decode b_M_half 32 = .ok (.invokevirtual 214, 3) := by decide +kernel
theorem d_M_half_35 : decode b_M_half 35 = .ok (.ireturn, 1) := by decide +kernel
def f_M_close_149 (this : Nat) (k13 : Int32 → Int32 → Hp → Option ((Int32 × Hp))) (s0 : Int32) (x1 : Int32) (h : Hp) : Option ((Int32 × Hp)) :=
  k13 x1 s0 h
set_option maxRecDepth 100000 in
set_option maxHeartbeats 4000000 in
theorem w_M_close_149 {p : Program} {l : Launch} {e : Env} {s : State} {m : MethodId} {args : Array Value} {below : List Frame} {meth : Method} {c : Code} {N0 : Nat} {D : va_G} {cs : Nat → ClassId} (M : ZC p s m args meth c "YearBasketsModel" "close" b_M_close 5 (some .int) N0 D cs) (this : Nat) (k13 : Int32 → Int32 → Hp → Option ((Int32 × Hp))) {r0 : Int32} {h0 : Hp} (hk13 : ∀ (x1 : Int32) (x2 : Int32) (h : Hp), k13 x1 x2 h = some (r0, h0) → ZG p l e (zrm 3 0 0) s m args below meth c N0 D cs (some (.int r0)) h0 h 5 [(0, .ref this), (1, .int x1), (2, .int x2)] 13 []) (s0 : Int32) (x1 : Int32) (h : Hp) (hf : f_M_close_149 this k13 s0 x1 h = some (r0, h0)) : ZG p l e (zrm 3 0 0) s m args below meth c N0 D cs (some (.int r0)) h0 h 5 [(0, .ref this), (1, .int x1)] 149 [.int s0] := by
  intro H locs ls hH hS hl
  unfold f_M_close_149 at hf
  refine lv_istore_n (lv' := [(2, .int s0), (0, .ref this), (1, .int x1)]) M.x M.b d_M_close_149 rfl hl (by decide) rfl (fun ls hl => ?_)
  refine lv_goto (tgt := 13) M.x M.b d_M_close_150 (by decide) ?_
  exact hk13 _ _ _ hf H locs ls hH hS (lv_sub hl [1, 2, 0] rfl)
def f_M_close_117 (this : Nat) (k13 : Int32 → Int32 → Hp → Option ((Int32 × Hp))) (s0 : Int32) (x1 : Int32) (h : Hp) : Option ((Int32 × Hp)) :=
  if s0 ≤ 0 then
    (gI h this 8 12).bind fun i1 =>
    (pV h this 8 12 (.int (i1 - (1 : Int32)))).bind fun h3 =>
    (gI h3 this 8 12).bind fun i5 =>
    if i5 ≤ 0 then
      f_M_close_149 this k13 (0 : Int32) x1 h3
    else
    f_M_close_149 this k13 (1 : Int32) x1 h3
  else
  some (s0, h)
set_option maxRecDepth 100000 in
set_option maxHeartbeats 4000000 in
theorem w_M_close_117 {p : Program} {l : Launch} {e : Env} {s : State} {m : MethodId} {args : Array Value} {below : List Frame} {meth : Method} {c : Code} {N0 : Nat} {D : va_G} {cs : Nat → ClassId} (M : ZC p s m args meth c "YearBasketsModel" "close" b_M_close 5 (some .int) N0 D cs) (this : Nat) (k13 : Int32 → Int32 → Hp → Option ((Int32 × Hp))) {r0 : Int32} {h0 : Hp} (hk13 : ∀ (x1 : Int32) (x2 : Int32) (h : Hp), k13 x1 x2 h = some (r0, h0) → ZG p l e (zrm 3 0 0) s m args below meth c N0 D cs (some (.int r0)) h0 h 5 [(0, .ref this), (1, .int x1), (2, .int x2)] 13 []) (s0 : Int32) (x1 : Int32) (h : Hp) (hf : f_M_close_117 this k13 s0 x1 h = some (r0, h0)) : ZG p l e (zrm 3 0 0) s m args below meth c N0 D cs (some (.int r0)) h0 h 5 [(0, .ref this), (1, .int x1)] 117 [.int s0] := by
  intro H locs ls hH hS hl
  unfold f_M_close_117 at hf
  refine lv_istore (lv' := [(4, .int s0), (0, .ref this), (1, .int x1)]) M.x M.b d_M_close_117 hl (by decide) rfl (fun ls hl => ?_)
  refine lv_iload M.x M.b d_M_close_119 (lv_at hl 0 rfl) ?_
  refine lv_if_le (tgt := 127) M.x M.b d_M_close_121 (by decide) (fun c8 => ?_) (fun c8 => ?_)
  · replace hf := z_t c8 hf
    refine lv_aload_n M.x M.b d_M_close_127 rfl (lv_at hl 1 rfl) ?_
    refine lv_dup M.x M.b d_M_close_128 rfl ?_
    replace hf := z_bind hf; obtain ⟨i1, e2, hf⟩ := hf
    refine z_get (ci := 8) (k := 12) M hH rfl (by decide) zinM q_640 (gI_spec e2) d_M_close_129 ?_
    refine lv_iconst (v := (1 : Int32)) M.x M.b d_M_close_132 rfl ?_
    refine lv_isub M.x M.b d_M_close_133 ?_
    replace hf := z_bind hf; obtain ⟨h3, e4, hf⟩ := hf
    refine z_put (ci := 8) (k := 12) M hH hS rfl (by decide) zinM zYM zYM_ok zNM_ok rfl q_640 rfl rfl rfl e4 d_M_close_134 (fun H locs hH hS => ?_)
    refine lv_aload_n M.x M.b d_M_close_137 rfl (lv_at hl 1 rfl) ?_
    replace hf := z_bind hf; obtain ⟨i5, e6, hf⟩ := hf
    refine z_get (ci := 8) (k := 12) M hH rfl (by decide) zinM q_640 (gI_spec e6) d_M_close_138 ?_
    refine lv_if_le (tgt := 148) M.x M.b d_M_close_141 (by decide) (fun c7 => ?_) (fun c7 => ?_)
    · replace hf := z_t c7 hf
      refine lv_iconst (v := (0 : Int32)) M.x M.b d_M_close_148 rfl ?_
      exact w_M_close_149 M this k13 hk13 _ _ _ hf H locs ls hH hS (lv_sub hl [1, 2] rfl)
    · replace hf := z_f c7 hf
      refine lv_iconst (v := (1 : Int32)) M.x M.b d_M_close_144 rfl ?_
      refine lv_goto (tgt := 149) M.x M.b d_M_close_145 (by decide) ?_
      exact w_M_close_149 M this k13 hk13 _ _ _ hf H locs ls hH hS (lv_sub hl [1, 2] rfl)
  · replace hf := z_f c8 hf
    refine lv_iload M.x M.b d_M_close_124 (lv_at hl 0 rfl) ?_
    obtain ⟨rfl, rfl⟩ := z_r2 hf
    exact z_iret M hH hS d_M_close_126
def f_M_close_100 (this : Nat) (k13 : Int32 → Int32 → Hp → Option ((Int32 × Hp))) (x1 : Int32) (x3 : Int32) (h : Hp) : Option ((Int32 × Hp)) :=
  (f_M_isTwo x3).bind fun i10 =>
  if i10 = 0 then
    f_M_close_117 this k13 (0 : Int32) x1 h
  else
  zb2 (f_M_sign this (41 : Int32) h) fun i12 h13 =>
  f_M_close_117 this k13 i12 x1 h13
set_option maxRecDepth 100000 in
set_option maxHeartbeats 4000000 in
theorem w_M_close_100 {p : Program} {l : Launch} {e : Env} {s : State} {m : MethodId} {args : Array Value} {below : List Frame} {meth : Method} {c : Code} {N0 : Nat} {D : va_G} {cs : Nat → ClassId} (M : ZC p s m args meth c "YearBasketsModel" "close" b_M_close 5 (some .int) N0 D cs) (this : Nat) (k13 : Int32 → Int32 → Hp → Option ((Int32 × Hp))) {r0 : Int32} {h0 : Hp} (hk13 : ∀ (x1 : Int32) (x2 : Int32) (h : Hp), k13 x1 x2 h = some (r0, h0) → ZG p l e (zrm 3 0 0) s m args below meth c N0 D cs (some (.int r0)) h0 h 5 [(0, .ref this), (1, .int x1), (2, .int x2)] 13 []) (x1 : Int32) (x3 : Int32) (h : Hp) (hf : f_M_close_100 this k13 x1 x3 h = some (r0, h0)) : ZG p l e (zrm 3 0 0) s m args below meth c N0 D cs (some (.int r0)) h0 h 5 [(0, .ref this), (1, .int x1), (3, .int x3)] 100 [] := by
  intro H locs ls hH hS hl
  unfold f_M_close_100 at hf
  refine lv_iload_n M.x M.b d_M_close_100 rfl (lv_at hl 2 rfl) ?_
  replace hf := z_bind hf; obtain ⟨i10, e9, hf⟩ := hf
  refine zk_S (st1 := [.int i10]) M hH hS (c_M_isTwo e9) w_M_isTwo q_639 [] rfl ⟨Nat.le_of_ble_eq_true rfl, Nat.le_of_ble_eq_true rfl⟩ hl.1 rfl rfl (Nat.le_of_ble_eq_true rfl) d_M_close_101 (fun H locs hH hS => ?_)
  refine lv_if_eq (tgt := 116) M.x M.b d_M_close_104 (by decide) (fun c14 => ?_) (fun c14 => ?_)
  · replace hf := z_t c14 hf
    refine lv_iconst (v := (0 : Int32)) M.x M.b d_M_close_116 rfl ?_
    exact w_M_close_117 M this k13 hk13 _ _ _ hf H locs ls hH hS (lv_sub hl [0, 1] rfl)
  · replace hf := z_f c14 hf
    refine lv_aload_n M.x M.b d_M_close_107 rfl (lv_at hl 0 rfl) ?_
    refine lv_bipush (v := (41 : Int32)) M.x M.b d_M_close_108 rfl ?_
    replace hf := z_bind2 hf; obtain ⟨i12, h13, e11, hf⟩ := hf
    refine zk_V (ci := 8) (st1 := [.int i12]) M hH hS (c_M_sign e11) rfl (o_M_sign e11) w_M_sign q_638 [] rfl ⟨Nat.le_of_ble_eq_true rfl, Nat.le_of_ble_eq_true rfl⟩ hl.1 rfl rfl (Nat.le_of_ble_eq_true rfl) d_M_close_110 (fun H locs hH hS => ?_)
    refine lv_goto (tgt := 117) M.x M.b d_M_close_113 (by decide) ?_
    exact w_M_close_117 M this k13 hk13 _ _ _ hf H locs ls hH hS (lv_sub hl [0, 1] rfl)
def t_M_close_13 (this : Nat) (k13 : Int32 → Int32 → Hp → Option ((Int32 × Hp))) (x1 : Int32) (x2 : Int32) (h : Hp) : Option ((Int32 × Hp)) :=
  if x2 = 0 then
    some ((0 : Int32), h)
  else
  (gA h this 8 3).bind fun r15 =>
  (gA h this 8 10).bind fun r17 =>
  (gI h this 8 12).bind fun i19 =>
  (r17).bind fun a21 =>
  (aI h 0 a21 (i19 - (1 : Int32))).bind fun i24 =>
  (r15).bind fun a25 =>
  (aI h 0 a25 i24).bind fun i28 =>
  (f_M_isTwo i28).bind fun i30 =>
  if i30 = 0 then
    f_M_close_100 this k13 x1 i28 h
  else
  (gA h this 8 11).bind fun r31 =>
  (gI h this 8 12).bind fun i33 =>
  (r31).bind fun a35 =>
  (aI h 2 a35 (i33 - (1 : Int32))).bind fun i38 =>
  if i38 = 0 then
    zb2 (f_M_sign this (44 : Int32) h) fun i40 h41 =>
    (gA h41 this 8 11).bind fun r42 =>
    (gI h41 this 8 12).bind fun i44 =>
    (r42).bind fun a46 =>
    (sZ h41 a46 (i44 - (1 : Int32)) (1 : Int32)).bind fun h49 =>
    (gA h49 this 8 4).bind fun r50 =>
    (gA h49 this 8 10).bind fun r52 =>
    (gI h49 this 8 12).bind fun i54 =>
    (r52).bind fun a56 =>
    (aI h49 0 a56 (i54 - (1 : Int32))).bind fun i59 =>
    (gI h49 this 8 13).bind fun i60 =>
    (r50).bind fun a62 =>
    (sI h49 a62 i59 (x1 + i60)).bind fun h65 =>
    some (i40, h65)
  else
  f_M_close_100 this k13 x1 i28 h
set_option maxRecDepth 100000 in
set_option maxHeartbeats 4000000 in
theorem v_M_close_13 {p : Program} {l : Launch} {e : Env} {s : State} {m : MethodId} {args : Array Value} {below : List Frame} {meth : Method} {c : Code} {N0 : Nat} {D : va_G} {cs : Nat → ClassId} (M : ZC p s m args meth c "YearBasketsModel" "close" b_M_close 5 (some .int) N0 D cs) (this : Nat) (k13 : Int32 → Int32 → Hp → Option ((Int32 × Hp))) {r0 : Int32} {h0 : Hp} (hk13 : ∀ (x1 : Int32) (x2 : Int32) (h : Hp), k13 x1 x2 h = some (r0, h0) → ZG p l e (zrm 3 0 0) s m args below meth c N0 D cs (some (.int r0)) h0 h 5 [(0, .ref this), (1, .int x1), (2, .int x2)] 13 []) (x1 : Int32) (x2 : Int32) (h : Hp) (hf : t_M_close_13 this k13 x1 x2 h = some (r0, h0)) : ZG p l e (zrm 3 0 0) s m args below meth c N0 D cs (some (.int r0)) h0 h 5 [(0, .ref this), (1, .int x1), (2, .int x2)] 13 [] := by
  intro H locs ls hH hS hl
  unfold t_M_close_13 at hf
  refine lv_iload_n M.x M.b d_M_close_13 rfl (lv_at hl 2 rfl) ?_
  refine lv_if_eq (tgt := 153) M.x M.b d_M_close_14 (by decide) (fun c68 => ?_) (fun c68 => ?_)
  · replace hf := z_t c68 hf
    refine lv_iconst (v := (0 : Int32)) M.x M.b d_M_close_153 rfl ?_
    obtain ⟨rfl, rfl⟩ := z_r2 hf
    exact z_iret M hH hS d_M_close_154
  · replace hf := z_f c68 hf
    refine lv_aload_n M.x M.b d_M_close_17 rfl (lv_at hl 0 rfl) ?_
    replace hf := z_bind hf; obtain ⟨r15, e16, hf⟩ := hf
    refine z_get (ci := 8) (k := 3) M hH rfl (by decide) zinM q_647 (gA_spec e16) d_M_close_18 ?_
    refine lv_aload_n M.x M.b d_M_close_21 rfl (lv_at hl 0 rfl) ?_
    replace hf := z_bind hf; obtain ⟨r17, e18, hf⟩ := hf
    refine z_get (ci := 8) (k := 10) M hH rfl (by decide) zinM q_642 (gA_spec e18) d_M_close_22 ?_
    refine lv_aload_n M.x M.b d_M_close_25 rfl (lv_at hl 0 rfl) ?_
    replace hf := z_bind hf; obtain ⟨i19, e20, hf⟩ := hf
    refine z_get (ci := 8) (k := 12) M hH rfl (by decide) zinM q_640 (gI_spec e20) d_M_close_26 ?_
    refine lv_iconst (v := (1 : Int32)) M.x M.b d_M_close_29 rfl ?_
    refine lv_isub M.x M.b d_M_close_30 ?_
    rcases r17 with _ | a21
    · exact absurd hf z_nb0
    replace hf := z_sb hf
    replace hf := z_bind hf; obtain ⟨i24, e23, hf⟩ := hf
    refine z_iald M hH e23 d_M_close_31 ?_
    rcases r15 with _ | a25
    · exact absurd hf z_nb0
    replace hf := z_sb hf
    replace hf := z_bind hf; obtain ⟨i28, e27, hf⟩ := hf
    refine z_iald M hH e27 d_M_close_32 ?_
    refine lv_istore_n (lv' := [(3, .int i28), (0, .ref this), (1, .int x1), (2, .int x2)]) M.x M.b d_M_close_33 rfl hl (by decide) rfl (fun ls hl => ?_)
    refine lv_iload_n M.x M.b d_M_close_34 rfl (lv_at hl 0 rfl) ?_
    replace hf := z_bind hf; obtain ⟨i30, e29, hf⟩ := hf
    refine zk_S (st1 := [.int i30]) M hH hS (c_M_isTwo e29) w_M_isTwo q_639 [] rfl ⟨Nat.le_of_ble_eq_true rfl, Nat.le_of_ble_eq_true rfl⟩ hl.1 rfl rfl (Nat.le_of_ble_eq_true rfl) d_M_close_35 (fun H locs hH hS => ?_)
    refine lv_if_eq (tgt := 100) M.x M.b d_M_close_38 (by decide) (fun c67 => ?_) (fun c67 => ?_)
    · replace hf := z_t c67 hf
      exact w_M_close_100 M this k13 hk13 _ _ _ hf H locs ls hH hS (lv_sub hl [1, 2, 0] rfl)
    · replace hf := z_f c67 hf
      refine lv_aload_n M.x M.b d_M_close_41 rfl (lv_at hl 1 rfl) ?_
      replace hf := z_bind hf; obtain ⟨r31, e32, hf⟩ := hf
      refine z_get (ci := 8) (k := 11) M hH rfl (by decide) zinM q_641 (gA_spec e32) d_M_close_42 ?_
      refine lv_aload_n M.x M.b d_M_close_45 rfl (lv_at hl 1 rfl) ?_
      replace hf := z_bind hf; obtain ⟨i33, e34, hf⟩ := hf
      refine z_get (ci := 8) (k := 12) M hH rfl (by decide) zinM q_640 (gI_spec e34) d_M_close_46 ?_
      refine lv_iconst (v := (1 : Int32)) M.x M.b d_M_close_49 rfl ?_
      refine lv_isub M.x M.b d_M_close_50 ?_
      rcases r31 with _ | a35
      · exact absurd hf z_nb0
      replace hf := z_sb hf
      replace hf := z_bind hf; obtain ⟨i38, e37, hf⟩ := hf
      refine z_zald M hH e37 d_M_close_51 ?_
      refine lv_if_ne (tgt := 100) M.x M.b d_M_close_52 (by decide) (fun c66 => ?_) (fun c66 => ?_)
      · replace hf := z_f c66 hf
        exact w_M_close_100 M this k13 hk13 _ _ _ hf H locs ls hH hS (lv_sub hl [1, 2, 0] rfl)
      · replace hf := z_t c66 hf
        refine lv_aload_n M.x M.b d_M_close_55 rfl (lv_at hl 1 rfl) ?_
        refine lv_bipush (v := (44 : Int32)) M.x M.b d_M_close_56 rfl ?_
        replace hf := z_bind2 hf; obtain ⟨i40, h41, e39, hf⟩ := hf
        refine zk_V (ci := 8) (st1 := [.int i40]) M hH hS (c_M_sign e39) rfl (o_M_sign e39) w_M_sign q_638 [] rfl ⟨Nat.le_of_ble_eq_true rfl, Nat.le_of_ble_eq_true rfl⟩ hl.1 rfl rfl (Nat.le_of_ble_eq_true rfl) d_M_close_58 (fun H locs hH hS => ?_)
        refine lv_istore (lv' := [(4, .int i40), (3, .int i28), (0, .ref this), (1, .int x1), (2, .int x2)]) M.x M.b d_M_close_61 hl (by decide) rfl (fun ls hl => ?_)
        refine lv_aload_n M.x M.b d_M_close_63 rfl (lv_at hl 2 rfl) ?_
        replace hf := z_bind hf; obtain ⟨r42, e43, hf⟩ := hf
        refine z_get (ci := 8) (k := 11) M hH rfl (by decide) zinM q_641 (gA_spec e43) d_M_close_64 ?_
        refine lv_aload_n M.x M.b d_M_close_67 rfl (lv_at hl 2 rfl) ?_
        replace hf := z_bind hf; obtain ⟨i44, e45, hf⟩ := hf
        refine z_get (ci := 8) (k := 12) M hH rfl (by decide) zinM q_640 (gI_spec e45) d_M_close_68 ?_
        refine lv_iconst (v := (1 : Int32)) M.x M.b d_M_close_71 rfl ?_
        refine lv_isub M.x M.b d_M_close_72 ?_
        refine lv_iconst (v := (1 : Int32)) M.x M.b d_M_close_73 rfl ?_
        rcases r42 with _ | a46
        · exact absurd hf z_nb0
        replace hf := z_sb hf
        replace hf := z_bind hf; obtain ⟨h49, e48, hf⟩ := hf
        refine z_zast M hH hS e48 d_M_close_74 (fun H locs hH hS => ?_)
        refine lv_aload_n M.x M.b d_M_close_75 rfl (lv_at hl 2 rfl) ?_
        replace hf := z_bind hf; obtain ⟨r50, e51, hf⟩ := hf
        refine z_get (ci := 8) (k := 4) M hH rfl (by decide) zinM q_646 (gA_spec e51) d_M_close_76 ?_
        refine lv_aload_n M.x M.b d_M_close_79 rfl (lv_at hl 2 rfl) ?_
        replace hf := z_bind hf; obtain ⟨r52, e53, hf⟩ := hf
        refine z_get (ci := 8) (k := 10) M hH rfl (by decide) zinM q_642 (gA_spec e53) d_M_close_80 ?_
        refine lv_aload_n M.x M.b d_M_close_83 rfl (lv_at hl 2 rfl) ?_
        replace hf := z_bind hf; obtain ⟨i54, e55, hf⟩ := hf
        refine z_get (ci := 8) (k := 12) M hH rfl (by decide) zinM q_640 (gI_spec e55) d_M_close_84 ?_
        refine lv_iconst (v := (1 : Int32)) M.x M.b d_M_close_87 rfl ?_
        refine lv_isub M.x M.b d_M_close_88 ?_
        rcases r52 with _ | a56
        · exact absurd hf z_nb0
        replace hf := z_sb hf
        replace hf := z_bind hf; obtain ⟨i59, e58, hf⟩ := hf
        refine z_iald M hH e58 d_M_close_89 ?_
        refine lv_iload_n M.x M.b d_M_close_90 rfl (lv_at hl 3 rfl) ?_
        refine lv_aload_n M.x M.b d_M_close_91 rfl (lv_at hl 2 rfl) ?_
        replace hf := z_bind hf; obtain ⟨i60, e61, hf⟩ := hf
        refine z_get (ci := 8) (k := 13) M hH rfl (by decide) zinM q_648 (gI_spec e61) d_M_close_92 ?_
        refine lv_iadd M.x M.b d_M_close_95 ?_
        rcases r50 with _ | a62
        · exact absurd hf z_nb0
        replace hf := z_sb hf
        replace hf := z_bind hf; obtain ⟨h65, e64, hf⟩ := hf
        refine z_iast M hH hS e64 d_M_close_96 (fun H locs hH hS => ?_)
        refine lv_iload M.x M.b d_M_close_97 (lv_at hl 0 rfl) ?_
        obtain ⟨rfl, rfl⟩ := z_r2 hf
        exact z_iret M hH hS d_M_close_99
def f_M_close_13 (this : Nat) : Nat → Int32 → Int32 → Hp → Option ((Int32 × Hp))
  | 0, _, _, _ => none
  | n + 1, x1, x2, h => t_M_close_13 this (f_M_close_13 this n) x1 x2 h
theorem w_M_close_13 {p : Program} {l : Launch} {e : Env} {s : State} {m : MethodId} {args : Array Value} {below : List Frame} {meth : Method} {c : Code} {N0 : Nat} {D : va_G} {cs : Nat → ClassId} (M : ZC p s m args meth c "YearBasketsModel" "close" b_M_close 5 (some .int) N0 D cs) (this : Nat)  {r0 : Int32} {h0 : Hp}  : ∀ (n : Nat) (x1 : Int32) (x2 : Int32) (h : Hp), f_M_close_13 this n x1 x2 h = some (r0, h0) → ZG p l e (zrm 3 0 0) s m args below meth c N0 D cs (some (.int r0)) h0 h 5 [(0, .ref this), (1, .int x1), (2, .int x2)] 13 [] := by
  intro n
  induction n with
  | zero => intro x1 x2 h hf; exact absurd (show none = some _ from hf) (fun q => by cases q)
  | succ n ih => intro x1 x2 h hf; exact v_M_close_13 M this (f_M_close_13 this n)  ih _ _ _ hf
def f_M_close_12 (this : Nat) (s0 : Int32) (x1 : Int32) (h : Hp) : Option ((Int32 × Hp)) :=
  f_M_close_13 this FU x1 s0 h
set_option maxRecDepth 100000 in
set_option maxHeartbeats 4000000 in
theorem w_M_close_12 {p : Program} {l : Launch} {e : Env} {s : State} {m : MethodId} {args : Array Value} {below : List Frame} {meth : Method} {c : Code} {N0 : Nat} {D : va_G} {cs : Nat → ClassId} (M : ZC p s m args meth c "YearBasketsModel" "close" b_M_close 5 (some .int) N0 D cs) (this : Nat)  {r0 : Int32} {h0 : Hp}  (s0 : Int32) (x1 : Int32) (h : Hp) (hf : f_M_close_12 this s0 x1 h = some (r0, h0)) : ZG p l e (zrm 3 0 0) s m args below meth c N0 D cs (some (.int r0)) h0 h 5 [(0, .ref this), (1, .int x1)] 12 [.int s0] := by
  intro H locs ls hH hS hl
  unfold f_M_close_12 at hf
  refine lv_istore_n (lv' := [(2, .int s0), (0, .ref this), (1, .int x1)]) M.x M.b d_M_close_12 rfl hl (by decide) rfl (fun ls hl => ?_)
  exact w_M_close_13 M this FU _ _ _ hf H locs ls hH hS (lv_sub hl [1, 2, 0] rfl)
def f_M_close (this : Nat) (x1 : Int32) (h : Hp) : Option ((Int32 × Hp)) :=
  if isO h this 8 = true then
  (gI h this 8 12).bind fun i69 =>
  if i69 ≤ 0 then
    f_M_close_12 this (0 : Int32) x1 h
  else
  f_M_close_12 this (1 : Int32) x1 h
  else none
theorem o_M_close {this : Nat} {x1 : Int32} {h : Hp} {r0 : Int32} {h0 : Hp} (hf : f_M_close this x1 h = some (r0, h0)) : isO h this 8 = true := by
  unfold f_M_close at hf
  exact (z_gd hf).1
set_option maxRecDepth 100000 in
set_option maxHeartbeats 4000000 in
theorem c_M_close {l : Launch} {N0 : Nat} {D : va_G} {cs : Nat → ClassId} {this : Nat} {x1 : Int32} {h : Hp} {r0 : Int32} {h0 : Hp} (hf : f_M_close this x1 h = some (r0, h0)) : Fn l N0 D cs y_M_close b_M_close 5 (some .int) 3 0 0 [.ref this, .int x1] h (some (.int r0)) h0 := by
  refine z_start (by decide) (Nat.le_of_ble_eq_true rfl) ?_
  intro p e s m args below meth c M hH hS ls hl
  unfold f_M_close at hf
  obtain ⟨hO, hf⟩ := z_gd hf
  have hl : lv_has ls 5 [(0, .ref this), (1, .int x1)] := hl
  obtain ⟨H, hHe⟩ : ∃ H, H = s.heap := ⟨_, rfl⟩
  obtain ⟨locs, hLe⟩ : ∃ locs : List Loc, locs = [] := ⟨_, rfl⟩
  have hS : va_S (zA N0) s.heap H locs := by rw [hHe, hLe]; exact hS
  have hH : HH N0 D cs h H := by rw [hHe]; exact hH
  suffices hg : W p l e (zrm 3 0 0) s m args below meth c H locs 0 0 (MQ below (zQ N0 D cs (some (.int r0)) h0) args s 0 0 (zA N0)) (F0 m 0 ls []) by rw [hHe, hLe] at hg; exact hg
  clear hHe hLe
  refine lv_aload_n M.x M.b d_M_close_0 rfl (lv_at hl 0 rfl) ?_
  replace hf := z_bind hf; obtain ⟨i69, e70, hf⟩ := hf
  refine z_get (ci := 8) (k := 12) M hH rfl (by decide) zinM q_640 (gI_spec e70) d_M_close_1 ?_
  refine lv_if_le (tgt := 11) M.x M.b d_M_close_4 (by decide) (fun c71 => ?_) (fun c71 => ?_)
  · replace hf := z_t c71 hf
    refine lv_iconst (v := (0 : Int32)) M.x M.b d_M_close_11 rfl ?_
    exact w_M_close_12 M this _ _ _ hf H locs ls hH hS (lv_sub hl [0, 1] rfl)
  · replace hf := z_f c71 hf
    refine lv_iconst (v := (1 : Int32)) M.x M.b d_M_close_7 rfl ?_
    refine lv_goto (tgt := 12) M.x M.b d_M_close_8 (by decide) ?_
    exact w_M_close_12 M this _ _ _ hf H locs ls hH hS (lv_sub hl [0, 1] rfl)
def f_M_number_143 (this : Nat) (s0 : Int32) (h : Hp) : Option ((Int32 × Hp)) :=
  (pV h this 8 6 (.int (0 : Int32))).bind fun h1 =>
  if s0 ≤ 0 then
    (gI h1 this 8 2).bind fun i3 =>
    (pV h1 this 8 2 (.int (i3 + (1 : Int32)))).bind fun h5 =>
    (gI h5 this 8 2).bind fun i7 =>
    some ((i7 - (1 : Int32)), h5)
  else
  some (((-10 : Int32) - s0), h1)
set_option maxRecDepth 100000 in
set_option maxHeartbeats 4000000 in
theorem w_M_number_143 {p : Program} {l : Launch} {e : Env} {s : State} {m : MethodId} {args : Array Value} {below : List Frame} {meth : Method} {c : Code} {N0 : Nat} {D : va_G} {cs : Nat → ClassId} (M : ZC p s m args meth c "YearBasketsModel" "number" b_M_number 5 (some .int) N0 D cs) (this : Nat)  {r0 : Int32} {h0 : Hp}  (s0 : Int32) (h : Hp) (hf : f_M_number_143 this s0 h = some (r0, h0)) : ZG p l e (zrm 4 0 0) s m args below meth c N0 D cs (some (.int r0)) h0 h 5 [(0, .ref this)] 143 [.int s0] := by
  intro H locs ls hH hS hl
  unfold f_M_number_143 at hf
  refine lv_istore_n (lv' := [(2, .int s0), (0, .ref this)]) M.x M.b d_M_number_143 rfl hl (by decide) rfl (fun ls hl => ?_)
  refine lv_aload_n M.x M.b d_M_number_144 rfl (lv_at hl 1 rfl) ?_
  refine lv_iconst (v := (0 : Int32)) M.x M.b d_M_number_145 rfl ?_
  replace hf := z_bind hf; obtain ⟨h1, e2, hf⟩ := hf
  refine z_put (ci := 8) (k := 6) M hH hS rfl (by decide) zinM zYM zYM_ok zNM_ok rfl q_598 rfl rfl rfl e2 d_M_number_146 (fun H locs hH hS => ?_)
  refine lv_iload_n M.x M.b d_M_number_149 rfl (lv_at hl 0 rfl) ?_
  refine lv_if_le (tgt := 158) M.x M.b d_M_number_150 (by decide) (fun c9 => ?_) (fun c9 => ?_)
  · replace hf := z_t c9 hf
    refine lv_aload_n M.x M.b d_M_number_158 rfl (lv_at hl 1 rfl) ?_
    refine lv_dup M.x M.b d_M_number_159 rfl ?_
    replace hf := z_bind hf; obtain ⟨i3, e4, hf⟩ := hf
    refine z_get (ci := 8) (k := 2) M hH rfl (by decide) zinM q_597 (gI_spec e4) d_M_number_160 ?_
    refine lv_iconst (v := (1 : Int32)) M.x M.b d_M_number_163 rfl ?_
    refine lv_iadd M.x M.b d_M_number_164 ?_
    replace hf := z_bind hf; obtain ⟨h5, e6, hf⟩ := hf
    refine z_put (ci := 8) (k := 2) M hH hS rfl (by decide) zinM zYM zYM_ok zNM_ok rfl q_597 rfl rfl rfl e6 d_M_number_165 (fun H locs hH hS => ?_)
    refine lv_aload_n M.x M.b d_M_number_168 rfl (lv_at hl 1 rfl) ?_
    replace hf := z_bind hf; obtain ⟨i7, e8, hf⟩ := hf
    refine z_get (ci := 8) (k := 2) M hH rfl (by decide) zinM q_597 (gI_spec e8) d_M_number_169 ?_
    refine lv_iconst (v := (1 : Int32)) M.x M.b d_M_number_172 rfl ?_
    refine lv_isub M.x M.b d_M_number_173 ?_
    obtain ⟨rfl, rfl⟩ := z_r2 hf
    exact z_iret M hH hS d_M_number_174
  · replace hf := z_f c9 hf
    refine lv_bipush (v := (-10 : Int32)) M.x M.b d_M_number_153 rfl ?_
    refine lv_iload_n M.x M.b d_M_number_155 rfl (lv_at hl 0 rfl) ?_
    refine lv_isub M.x M.b d_M_number_156 ?_
    obtain ⟨rfl, rfl⟩ := z_r2 hf
    exact z_iret M hH hS d_M_number_157
def f_M_number_142 (this : Nat) (x2 : Int32) (h : Hp) : Option ((Int32 × Hp)) :=
  f_M_number_143 this x2 h
set_option maxRecDepth 100000 in
set_option maxHeartbeats 4000000 in
theorem w_M_number_142 {p : Program} {l : Launch} {e : Env} {s : State} {m : MethodId} {args : Array Value} {below : List Frame} {meth : Method} {c : Code} {N0 : Nat} {D : va_G} {cs : Nat → ClassId} (M : ZC p s m args meth c "YearBasketsModel" "number" b_M_number 5 (some .int) N0 D cs) (this : Nat)  {r0 : Int32} {h0 : Hp}  (x2 : Int32) (h : Hp) (hf : f_M_number_142 this x2 h = some (r0, h0)) : ZG p l e (zrm 4 0 0) s m args below meth c N0 D cs (some (.int r0)) h0 h 5 [(0, .ref this), (2, .int x2)] 142 [] := by
  intro H locs ls hH hS hl
  unfold f_M_number_142 at hf
  refine lv_iload_n M.x M.b d_M_number_142 rfl (lv_at hl 1 rfl) ?_
  exact w_M_number_143 M this _ _ hf H locs ls hH hS (lv_sub hl [0] rfl)
def f_M_number_115 (this : Nat) (k45 : Int32 → Int32 → Int32 → Hp → Option ((Int32 × Hp))) (s0 : Int32) (x1 : Int32) (x2 : Int32) (h : Hp) : Option ((Int32 × Hp)) :=
  k45 x1 x2 s0 h
set_option maxRecDepth 100000 in
set_option maxHeartbeats 4000000 in
theorem w_M_number_115 {p : Program} {l : Launch} {e : Env} {s : State} {m : MethodId} {args : Array Value} {below : List Frame} {meth : Method} {c : Code} {N0 : Nat} {D : va_G} {cs : Nat → ClassId} (M : ZC p s m args meth c "YearBasketsModel" "number" b_M_number 5 (some .int) N0 D cs) (this : Nat) (k45 : Int32 → Int32 → Int32 → Hp → Option ((Int32 × Hp))) {r0 : Int32} {h0 : Hp} (hk45 : ∀ (x1 : Int32) (x2 : Int32) (x3 : Int32) (h : Hp), k45 x1 x2 x3 h = some (r0, h0) → ZG p l e (zrm 4 0 0) s m args below meth c N0 D cs (some (.int r0)) h0 h 5 [(0, .ref this), (1, .int x1), (2, .int x2), (3, .int x3)] 45 []) (s0 : Int32) (x1 : Int32) (x2 : Int32) (h : Hp) (hf : f_M_number_115 this k45 s0 x1 x2 h = some (r0, h0)) : ZG p l e (zrm 4 0 0) s m args below meth c N0 D cs (some (.int r0)) h0 h 5 [(0, .ref this), (1, .int x1), (2, .int x2)] 115 [.int s0] := by
  intro H locs ls hH hS hl
  unfold f_M_number_115 at hf
  refine lv_istore_n (lv' := [(3, .int s0), (0, .ref this), (1, .int x1), (2, .int x2)]) M.x M.b d_M_number_115 rfl hl (by decide) rfl (fun ls hl => ?_)
  refine lv_goto (tgt := 45) M.x M.b d_M_number_116 (by decide) ?_
  exact hk45 _ _ _ _ hf H locs ls hH hS (lv_sub hl [1, 2, 3, 0] rfl)
def f_M_number_114 (this : Nat) (k45 : Int32 → Int32 → Int32 → Hp → Option ((Int32 × Hp))) (x1 : Int32) (x2 : Int32) (h : Hp) : Option ((Int32 × Hp)) :=
  f_M_number_115 this k45 (0 : Int32) x1 x2 h
set_option maxRecDepth 100000 in
set_option maxHeartbeats 4000000 in
theorem w_M_number_114 {p : Program} {l : Launch} {e : Env} {s : State} {m : MethodId} {args : Array Value} {below : List Frame} {meth : Method} {c : Code} {N0 : Nat} {D : va_G} {cs : Nat → ClassId} (M : ZC p s m args meth c "YearBasketsModel" "number" b_M_number 5 (some .int) N0 D cs) (this : Nat) (k45 : Int32 → Int32 → Int32 → Hp → Option ((Int32 × Hp))) {r0 : Int32} {h0 : Hp} (hk45 : ∀ (x1 : Int32) (x2 : Int32) (x3 : Int32) (h : Hp), k45 x1 x2 x3 h = some (r0, h0) → ZG p l e (zrm 4 0 0) s m args below meth c N0 D cs (some (.int r0)) h0 h 5 [(0, .ref this), (1, .int x1), (2, .int x2), (3, .int x3)] 45 []) (x1 : Int32) (x2 : Int32) (h : Hp) (hf : f_M_number_114 this k45 x1 x2 h = some (r0, h0)) : ZG p l e (zrm 4 0 0) s m args below meth c N0 D cs (some (.int r0)) h0 h 5 [(0, .ref this), (1, .int x1), (2, .int x2)] 114 [] := by
  intro H locs ls hH hS hl
  unfold f_M_number_114 at hf
  refine lv_iconst (v := (0 : Int32)) M.x M.b d_M_number_114 rfl ?_
  exact w_M_number_115 M this k45 hk45 _ _ _ _ hf H locs ls hH hS (lv_sub hl [0, 1, 2] rfl)
def f_M_number_98 (this : Nat) (k45 : Int32 → Int32 → Int32 → Hp → Option ((Int32 × Hp))) (s0 : Int32) (x1 : Int32) (h : Hp) : Option ((Int32 × Hp)) :=
  if s0 = 0 then
    (gI h this 8 12).bind fun i10 =>
    if i10 ≤ 0 then
      f_M_number_114 this k45 x1 s0 h
    else
    f_M_number_115 this k45 (1 : Int32) x1 s0 h
  else
  f_M_number_114 this k45 x1 s0 h
set_option maxRecDepth 100000 in
set_option maxHeartbeats 4000000 in
theorem w_M_number_98 {p : Program} {l : Launch} {e : Env} {s : State} {m : MethodId} {args : Array Value} {below : List Frame} {meth : Method} {c : Code} {N0 : Nat} {D : va_G} {cs : Nat → ClassId} (M : ZC p s m args meth c "YearBasketsModel" "number" b_M_number 5 (some .int) N0 D cs) (this : Nat) (k45 : Int32 → Int32 → Int32 → Hp → Option ((Int32 × Hp))) {r0 : Int32} {h0 : Hp} (hk45 : ∀ (x1 : Int32) (x2 : Int32) (x3 : Int32) (h : Hp), k45 x1 x2 x3 h = some (r0, h0) → ZG p l e (zrm 4 0 0) s m args below meth c N0 D cs (some (.int r0)) h0 h 5 [(0, .ref this), (1, .int x1), (2, .int x2), (3, .int x3)] 45 []) (s0 : Int32) (x1 : Int32) (h : Hp) (hf : f_M_number_98 this k45 s0 x1 h = some (r0, h0)) : ZG p l e (zrm 4 0 0) s m args below meth c N0 D cs (some (.int r0)) h0 h 5 [(0, .ref this), (1, .int x1)] 98 [.int s0] := by
  intro H locs ls hH hS hl
  unfold f_M_number_98 at hf
  refine lv_istore_n (lv' := [(2, .int s0), (0, .ref this), (1, .int x1)]) M.x M.b d_M_number_98 rfl hl (by decide) rfl (fun ls hl => ?_)
  refine lv_iload_n M.x M.b d_M_number_99 rfl (lv_at hl 0 rfl) ?_
  refine lv_if_ne (tgt := 114) M.x M.b d_M_number_100 (by decide) (fun c13 => ?_) (fun c13 => ?_)
  · replace hf := z_f c13 hf
    exact w_M_number_114 M this k45 hk45 _ _ _ hf H locs ls hH hS (lv_sub hl [1, 2, 0] rfl)
  · replace hf := z_t c13 hf
    refine lv_aload_n M.x M.b d_M_number_103 rfl (lv_at hl 1 rfl) ?_
    replace hf := z_bind hf; obtain ⟨i10, e11, hf⟩ := hf
    refine z_get (ci := 8) (k := 12) M hH rfl (by decide) zinM q_640 (gI_spec e11) d_M_number_104 ?_
    refine lv_if_le (tgt := 114) M.x M.b d_M_number_107 (by decide) (fun c12 => ?_) (fun c12 => ?_)
    · replace hf := z_t c12 hf
      exact w_M_number_114 M this k45 hk45 _ _ _ hf H locs ls hH hS (lv_sub hl [1, 2, 0] rfl)
    · replace hf := z_f c12 hf
      refine lv_iconst (v := (1 : Int32)) M.x M.b d_M_number_110 rfl ?_
      refine lv_goto (tgt := 115) M.x M.b d_M_number_111 (by decide) ?_
      exact w_M_number_115 M this k45 hk45 _ _ _ _ hf H locs ls hH hS (lv_sub hl [1, 2, 0] rfl)
def f_M_number_82 (this : Nat) (k45 : Int32 → Int32 → Int32 → Hp → Option ((Int32 × Hp))) (s0 : Int32) (x1 : Int32) (x2 : Int32) (h : Hp) : Option ((Int32 × Hp)) :=
  if s0 = 0 then
    f_M_number_98 this k45 x2 x1 h
  else
  zb2 (f_M_close this x1 h) fun i15 h16 =>
  f_M_number_98 this k45 i15 x1 h16
set_option maxRecDepth 100000 in
set_option maxHeartbeats 4000000 in
theorem w_M_number_82 {p : Program} {l : Launch} {e : Env} {s : State} {m : MethodId} {args : Array Value} {below : List Frame} {meth : Method} {c : Code} {N0 : Nat} {D : va_G} {cs : Nat → ClassId} (M : ZC p s m args meth c "YearBasketsModel" "number" b_M_number 5 (some .int) N0 D cs) (this : Nat) (k45 : Int32 → Int32 → Int32 → Hp → Option ((Int32 × Hp))) {r0 : Int32} {h0 : Hp} (hk45 : ∀ (x1 : Int32) (x2 : Int32) (x3 : Int32) (h : Hp), k45 x1 x2 x3 h = some (r0, h0) → ZG p l e (zrm 4 0 0) s m args below meth c N0 D cs (some (.int r0)) h0 h 5 [(0, .ref this), (1, .int x1), (2, .int x2), (3, .int x3)] 45 []) (s0 : Int32) (x1 : Int32) (x2 : Int32) (h : Hp) (hf : f_M_number_82 this k45 s0 x1 x2 h = some (r0, h0)) : ZG p l e (zrm 4 0 0) s m args below meth c N0 D cs (some (.int r0)) h0 h 5 [(0, .ref this), (1, .int x1), (2, .int x2)] 82 [.int s0] := by
  intro H locs ls hH hS hl
  unfold f_M_number_82 at hf
  refine lv_istore (lv' := [(4, .int s0), (0, .ref this), (1, .int x1), (2, .int x2)]) M.x M.b d_M_number_82 hl (by decide) rfl (fun ls hl => ?_)
  refine lv_iload M.x M.b d_M_number_84 (lv_at hl 0 rfl) ?_
  refine lv_if_eq (tgt := 97) M.x M.b d_M_number_86 (by decide) (fun c17 => ?_) (fun c17 => ?_)
  · replace hf := z_t c17 hf
    refine lv_iload_n M.x M.b d_M_number_97 rfl (lv_at hl 3 rfl) ?_
    exact w_M_number_98 M this k45 hk45 _ _ _ hf H locs ls hH hS (lv_sub hl [1, 2] rfl)
  · replace hf := z_f c17 hf
    refine lv_aload_n M.x M.b d_M_number_89 rfl (lv_at hl 1 rfl) ?_
    refine lv_iload_n M.x M.b d_M_number_90 rfl (lv_at hl 2 rfl) ?_
    replace hf := z_bind2 hf; obtain ⟨i15, h16, e14, hf⟩ := hf
    refine zk_V (ci := 8) (st1 := [.int i15]) M hH hS (c_M_close e14) rfl (o_M_close e14) w_M_close q_656 [] rfl ⟨Nat.le_of_ble_eq_true rfl, Nat.le_of_ble_eq_true rfl⟩ hl.1 rfl rfl (Nat.le_of_ble_eq_true rfl) d_M_number_91 (fun H locs hH hS => ?_)
    refine lv_goto (tgt := 98) M.x M.b d_M_number_94 (by decide) ?_
    exact w_M_number_98 M this k45 hk45 _ _ _ hf H locs ls hH hS (lv_sub hl [1, 2] rfl)
def f_M_number_81 (this : Nat) (k45 : Int32 → Int32 → Int32 → Hp → Option ((Int32 × Hp))) (x1 : Int32) (x2 : Int32) (h : Hp) : Option ((Int32 × Hp)) :=
  f_M_number_82 this k45 (0 : Int32) x1 x2 h
set_option maxRecDepth 100000 in
set_option maxHeartbeats 4000000 in
theorem w_M_number_81 {p : Program} {l : Launch} {e : Env} {s : State} {m : MethodId} {args : Array Value} {below : List Frame} {meth : Method} {c : Code} {N0 : Nat} {D : va_G} {cs : Nat → ClassId} (M : ZC p s m args meth c "YearBasketsModel" "number" b_M_number 5 (some .int) N0 D cs) (this : Nat) (k45 : Int32 → Int32 → Int32 → Hp → Option ((Int32 × Hp))) {r0 : Int32} {h0 : Hp} (hk45 : ∀ (x1 : Int32) (x2 : Int32) (x3 : Int32) (h : Hp), k45 x1 x2 x3 h = some (r0, h0) → ZG p l e (zrm 4 0 0) s m args below meth c N0 D cs (some (.int r0)) h0 h 5 [(0, .ref this), (1, .int x1), (2, .int x2), (3, .int x3)] 45 []) (x1 : Int32) (x2 : Int32) (h : Hp) (hf : f_M_number_81 this k45 x1 x2 h = some (r0, h0)) : ZG p l e (zrm 4 0 0) s m args below meth c N0 D cs (some (.int r0)) h0 h 5 [(0, .ref this), (1, .int x1), (2, .int x2)] 81 [] := by
  intro H locs ls hH hS hl
  unfold f_M_number_81 at hf
  refine lv_iconst (v := (0 : Int32)) M.x M.b d_M_number_81 rfl ?_
  exact w_M_number_82 M this k45 hk45 _ _ _ _ hf H locs ls hH hS (lv_sub hl [0, 1, 2] rfl)
def t_M_number_45 (this : Nat) (k45 : Int32 → Int32 → Int32 → Hp → Option ((Int32 × Hp))) (x1 : Int32) (x2 : Int32) (x3 : Int32) (h : Hp) : Option ((Int32 × Hp)) :=
  if x3 = 0 then
    if x2 = 0 then
      zb2 (f_M_here this h) fun i19 h20 =>
      if i19 < 0 then
        f_M_number_142 this x2 h20
      else
      (gI h20 this 8 8).bind fun i21 =>
      zb2 (f_M_fails this (1 : Int32) i21 h20) fun i24 h25 =>
      f_M_number_143 this i24 h25
    else
    f_M_number_142 this x2 h
  else
  zb2 (f_M_readNode this x1 h) fun i29 h30 =>
  if i29 = 0 then
    (gA h30 this 8 3).bind fun r31 =>
    (gI h30 this 8 13).bind fun i33 =>
    (r31).bind fun a35 =>
    (aI h30 0 a35 ((x1 + i33) - (1 : Int32))).bind fun i38 =>
    if (6 : Int32) ≤ i38 then
      f_M_number_81 this k45 x1 i29 h30
    else
    f_M_number_82 this k45 (1 : Int32) x1 i29 h30
  else
  f_M_number_81 this k45 x1 i29 h30
set_option maxRecDepth 100000 in
set_option maxHeartbeats 4000000 in
theorem v_M_number_45 {p : Program} {l : Launch} {e : Env} {s : State} {m : MethodId} {args : Array Value} {below : List Frame} {meth : Method} {c : Code} {N0 : Nat} {D : va_G} {cs : Nat → ClassId} (M : ZC p s m args meth c "YearBasketsModel" "number" b_M_number 5 (some .int) N0 D cs) (this : Nat) (k45 : Int32 → Int32 → Int32 → Hp → Option ((Int32 × Hp))) {r0 : Int32} {h0 : Hp} (hk45 : ∀ (x1 : Int32) (x2 : Int32) (x3 : Int32) (h : Hp), k45 x1 x2 x3 h = some (r0, h0) → ZG p l e (zrm 4 0 0) s m args below meth c N0 D cs (some (.int r0)) h0 h 5 [(0, .ref this), (1, .int x1), (2, .int x2), (3, .int x3)] 45 []) (x1 : Int32) (x2 : Int32) (x3 : Int32) (h : Hp) (hf : t_M_number_45 this k45 x1 x2 x3 h = some (r0, h0)) : ZG p l e (zrm 4 0 0) s m args below meth c N0 D cs (some (.int r0)) h0 h 5 [(0, .ref this), (1, .int x1), (2, .int x2), (3, .int x3)] 45 [] := by
  intro H locs ls hH hS hl
  unfold t_M_number_45 at hf
  refine lv_iload_n M.x M.b d_M_number_45 rfl (lv_at hl 3 rfl) ?_
  refine lv_if_eq (tgt := 119) M.x M.b d_M_number_46 (by decide) (fun c41 => ?_) (fun c41 => ?_)
  · replace hf := z_t c41 hf
    refine lv_iload_n M.x M.b d_M_number_119 rfl (lv_at hl 2 rfl) ?_
    refine lv_if_ne (tgt := 142) M.x M.b d_M_number_120 (by decide) (fun c27 => ?_) (fun c27 => ?_)
    · replace hf := z_f c27 hf
      exact w_M_number_142 M this _ _ hf H locs ls hH hS (lv_sub hl [0, 2] rfl)
    · replace hf := z_t c27 hf
      refine lv_aload_n M.x M.b d_M_number_123 rfl (lv_at hl 0 rfl) ?_
      replace hf := z_bind2 hf; obtain ⟨i19, h20, e18, hf⟩ := hf
      refine zk_V (ci := 8) (st1 := [.int i19]) M hH hS (c_M_here e18) rfl (o_M_here e18) w_M_here q_617 [] rfl ⟨Nat.le_of_ble_eq_true rfl, Nat.le_of_ble_eq_true rfl⟩ hl.1 rfl rfl (Nat.le_of_ble_eq_true rfl) d_M_number_124 (fun H locs hH hS => ?_)
      refine lv_if_lt (tgt := 142) M.x M.b d_M_number_127 (by decide) (fun c26 => ?_) (fun c26 => ?_)
      · replace hf := z_t c26 hf
        exact w_M_number_142 M this _ _ hf H locs ls hH hS (lv_sub hl [0, 2] rfl)
      · replace hf := z_f c26 hf
        refine lv_aload_n M.x M.b d_M_number_130 rfl (lv_at hl 0 rfl) ?_
        refine lv_iconst (v := (1 : Int32)) M.x M.b d_M_number_131 rfl ?_
        refine lv_aload_n M.x M.b d_M_number_132 rfl (lv_at hl 0 rfl) ?_
        replace hf := z_bind hf; obtain ⟨i21, e22, hf⟩ := hf
        refine z_get (ci := 8) (k := 8) M hH rfl (by decide) zinM q_608 (gI_spec e22) d_M_number_133 ?_
        replace hf := z_bind2 hf; obtain ⟨i24, h25, e23, hf⟩ := hf
        refine zk_V (ci := 8) (st1 := [.int i24]) M hH hS (c_M_fails e23) rfl (o_M_fails e23) w_M_fails q_616 [] rfl ⟨Nat.le_of_ble_eq_true rfl, Nat.le_of_ble_eq_true rfl⟩ hl.1 rfl rfl (Nat.le_of_ble_eq_true rfl) d_M_number_136 (fun H locs hH hS => ?_)
        refine lv_goto (tgt := 143) M.x M.b d_M_number_139 (by decide) ?_
        exact w_M_number_143 M this _ _ hf H locs ls hH hS (lv_sub hl [0] rfl)
  · replace hf := z_f c41 hf
    refine lv_aload_n M.x M.b d_M_number_49 rfl (lv_at hl 0 rfl) ?_
    refine lv_iload_n M.x M.b d_M_number_50 rfl (lv_at hl 1 rfl) ?_
    replace hf := z_bind2 hf; obtain ⟨i29, h30, e28, hf⟩ := hf
    refine zk_V (ci := 8) (st1 := [.int i29]) M hH hS (c_M_readNode e28) rfl (o_M_readNode e28) w_M_readNode q_657 [] rfl ⟨Nat.le_of_ble_eq_true rfl, Nat.le_of_ble_eq_true rfl⟩ hl.1 rfl rfl (Nat.le_of_ble_eq_true rfl) d_M_number_51 (fun H locs hH hS => ?_)
    refine lv_istore_n (lv' := [(2, .int i29), (0, .ref this), (1, .int x1), (3, .int x3)]) M.x M.b d_M_number_54 rfl hl (by decide) rfl (fun ls hl => ?_)
    refine lv_iload_n M.x M.b d_M_number_55 rfl (lv_at hl 0 rfl) ?_
    refine lv_if_ne (tgt := 81) M.x M.b d_M_number_56 (by decide) (fun c40 => ?_) (fun c40 => ?_)
    · replace hf := z_f c40 hf
      exact w_M_number_81 M this k45 hk45 _ _ _ hf H locs ls hH hS (lv_sub hl [1, 2, 0] rfl)
    · replace hf := z_t c40 hf
      refine lv_aload_n M.x M.b d_M_number_59 rfl (lv_at hl 1 rfl) ?_
      replace hf := z_bind hf; obtain ⟨r31, e32, hf⟩ := hf
      refine z_get (ci := 8) (k := 3) M hH rfl (by decide) zinM q_647 (gA_spec e32) d_M_number_60 ?_
      refine lv_iload_n M.x M.b d_M_number_63 rfl (lv_at hl 2 rfl) ?_
      refine lv_aload_n M.x M.b d_M_number_64 rfl (lv_at hl 1 rfl) ?_
      replace hf := z_bind hf; obtain ⟨i33, e34, hf⟩ := hf
      refine z_get (ci := 8) (k := 13) M hH rfl (by decide) zinM q_648 (gI_spec e34) d_M_number_65 ?_
      refine lv_iadd M.x M.b d_M_number_68 ?_
      refine lv_iconst (v := (1 : Int32)) M.x M.b d_M_number_69 rfl ?_
      refine lv_isub M.x M.b d_M_number_70 ?_
      rcases r31 with _ | a35
      · exact absurd hf z_nb0
      replace hf := z_sb hf
      replace hf := z_bind hf; obtain ⟨i38, e37, hf⟩ := hf
      refine z_iald M hH e37 d_M_number_71 ?_
      refine lv_bipush (v := (6 : Int32)) M.x M.b d_M_number_72 rfl ?_
      refine lv_icmp_ge (tgt := 81) M.x M.b d_M_number_74 (by decide) (fun c39 => ?_) (fun c39 => ?_)
      · replace hf := z_t c39 hf
        exact w_M_number_81 M this k45 hk45 _ _ _ hf H locs ls hH hS (lv_sub hl [1, 2, 0] rfl)
      · replace hf := z_f c39 hf
        refine lv_iconst (v := (1 : Int32)) M.x M.b d_M_number_77 rfl ?_
        refine lv_goto (tgt := 82) M.x M.b d_M_number_78 (by decide) ?_
        exact w_M_number_82 M this k45 hk45 _ _ _ _ hf H locs ls hH hS (lv_sub hl [1, 2, 0] rfl)
def f_M_number_45 (this : Nat) : Nat → Int32 → Int32 → Int32 → Hp → Option ((Int32 × Hp))
  | 0, _, _, _, _ => none
  | n + 1, x1, x2, x3, h => t_M_number_45 this (f_M_number_45 this n) x1 x2 x3 h
theorem w_M_number_45 {p : Program} {l : Launch} {e : Env} {s : State} {m : MethodId} {args : Array Value} {below : List Frame} {meth : Method} {c : Code} {N0 : Nat} {D : va_G} {cs : Nat → ClassId} (M : ZC p s m args meth c "YearBasketsModel" "number" b_M_number 5 (some .int) N0 D cs) (this : Nat)  {r0 : Int32} {h0 : Hp}  : ∀ (n : Nat) (x1 : Int32) (x2 : Int32) (x3 : Int32) (h : Hp), f_M_number_45 this n x1 x2 x3 h = some (r0, h0) → ZG p l e (zrm 4 0 0) s m args below meth c N0 D cs (some (.int r0)) h0 h 5 [(0, .ref this), (1, .int x1), (2, .int x2), (3, .int x3)] 45 [] := by
  intro n
  induction n with
  | zero => intro x1 x2 x3 h hf; exact absurd (show none = some _ from hf) (fun q => by cases q)
  | succ n ih => intro x1 x2 x3 h hf; exact v_M_number_45 M this (f_M_number_45 this n)  ih _ _ _ _ hf
def f_M_number (this : Nat) (h : Hp) : Option ((Int32 × Hp)) :=
  if isO h this 8 = true then
  (gI h this 8 2).bind fun i42 =>
  if i42 = (8 : Int32) then
    some ((-1004 : Int32), h)
  else
  (gI h this 8 2).bind fun i44 =>
  (pV h this 8 7 (.int (-1 : Int32))).bind fun h46 =>
  (pV h46 this 8 8 (.int (0 : Int32))).bind fun h48 =>
  (pV h48 this 8 12 (.int (0 : Int32))).bind fun h50 =>
  (pV h50 this 8 13 (.int (0 : Int32))).bind fun h52 =>
  f_M_number_45 this FU ((40 : Int32) * i44) (0 : Int32) (1 : Int32) h52
  else none
theorem o_M_number {this : Nat} {h : Hp} {r0 : Int32} {h0 : Hp} (hf : f_M_number this h = some (r0, h0)) : isO h this 8 = true := by
  unfold f_M_number at hf
  exact (z_gd hf).1
set_option maxRecDepth 100000 in
set_option maxHeartbeats 4000000 in
theorem c_M_number {l : Launch} {N0 : Nat} {D : va_G} {cs : Nat → ClassId} {this : Nat} {h : Hp} {r0 : Int32} {h0 : Hp} (hf : f_M_number this h = some (r0, h0)) : Fn l N0 D cs y_M_number b_M_number 5 (some .int) 4 0 0 [.ref this] h (some (.int r0)) h0 := by
  refine z_start (by decide) (Nat.le_of_ble_eq_true rfl) ?_
  intro p e s m args below meth c M hH hS ls hl
  unfold f_M_number at hf
  obtain ⟨hO, hf⟩ := z_gd hf
  have hl : lv_has ls 5 [(0, .ref this)] := hl
  obtain ⟨H, hHe⟩ : ∃ H, H = s.heap := ⟨_, rfl⟩
  obtain ⟨locs, hLe⟩ : ∃ locs : List Loc, locs = [] := ⟨_, rfl⟩
  have hS : va_S (zA N0) s.heap H locs := by rw [hHe, hLe]; exact hS
  have hH : HH N0 D cs h H := by rw [hHe]; exact hH
  suffices hg : W p l e (zrm 4 0 0) s m args below meth c H locs 0 0 (MQ below (zQ N0 D cs (some (.int r0)) h0) args s 0 0 (zA N0)) (F0 m 0 ls []) by rw [hHe, hLe] at hg; exact hg
  clear hHe hLe
  refine lv_aload_n M.x M.b d_M_number_0 rfl (lv_at hl 0 rfl) ?_
  replace hf := z_bind hf; obtain ⟨i42, e43, hf⟩ := hf
  refine z_get (ci := 8) (k := 2) M hH rfl (by decide) zinM q_597 (gI_spec e43) d_M_number_1 ?_
  refine lv_bipush (v := (8 : Int32)) M.x M.b d_M_number_4 rfl ?_
  refine lv_icmp_ne (tgt := 13) M.x M.b d_M_number_6 (by decide) (fun c54 => ?_) (fun c54 => ?_)
  · replace hf := z_f c54 hf
    refine lv_bipush (v := (40 : Int32)) M.x M.b d_M_number_13 rfl ?_
    refine lv_aload_n M.x M.b d_M_number_15 rfl (lv_at hl 0 rfl) ?_
    replace hf := z_bind hf; obtain ⟨i44, e45, hf⟩ := hf
    refine z_get (ci := 8) (k := 2) M hH rfl (by decide) zinM q_597 (gI_spec e45) d_M_number_16 ?_
    refine lv_imul M.x M.b d_M_number_19 ?_
    refine lv_istore_n (lv' := [(1, .int ((40 : Int32) * i44)), (0, .ref this)]) M.x M.b d_M_number_20 rfl hl (by decide) rfl (fun ls hl => ?_)
    refine lv_aload_n M.x M.b d_M_number_21 rfl (lv_at hl 1 rfl) ?_
    refine lv_iconst (v := (-1 : Int32)) M.x M.b d_M_number_22 rfl ?_
    replace hf := z_bind hf; obtain ⟨h46, e47, hf⟩ := hf
    refine z_put (ci := 8) (k := 7) M hH hS rfl (by decide) zinM zYM zYM_ok zNM_ok rfl q_612 rfl rfl rfl e47 d_M_number_23 (fun H locs hH hS => ?_)
    refine lv_aload_n M.x M.b d_M_number_26 rfl (lv_at hl 1 rfl) ?_
    refine lv_iconst (v := (0 : Int32)) M.x M.b d_M_number_27 rfl ?_
    replace hf := z_bind hf; obtain ⟨h48, e49, hf⟩ := hf
    refine z_put (ci := 8) (k := 8) M hH hS rfl (by decide) zinM zYM zYM_ok zNM_ok rfl q_608 rfl rfl rfl e49 d_M_number_28 (fun H locs hH hS => ?_)
    refine lv_aload_n M.x M.b d_M_number_31 rfl (lv_at hl 1 rfl) ?_
    refine lv_iconst (v := (0 : Int32)) M.x M.b d_M_number_32 rfl ?_
    replace hf := z_bind hf; obtain ⟨h50, e51, hf⟩ := hf
    refine z_put (ci := 8) (k := 12) M hH hS rfl (by decide) zinM zYM zYM_ok zNM_ok rfl q_640 rfl rfl rfl e51 d_M_number_33 (fun H locs hH hS => ?_)
    refine lv_aload_n M.x M.b d_M_number_36 rfl (lv_at hl 1 rfl) ?_
    refine lv_iconst (v := (0 : Int32)) M.x M.b d_M_number_37 rfl ?_
    replace hf := z_bind hf; obtain ⟨h52, e53, hf⟩ := hf
    refine z_put (ci := 8) (k := 13) M hH hS rfl (by decide) zinM zYM zYM_ok zNM_ok rfl q_648 rfl rfl rfl e53 d_M_number_38 (fun H locs hH hS => ?_)
    refine lv_iconst (v := (0 : Int32)) M.x M.b d_M_number_41 rfl ?_
    refine lv_istore_n (lv' := [(2, .int (0 : Int32)), (1, .int ((40 : Int32) * i44)), (0, .ref this)]) M.x M.b d_M_number_42 rfl hl (by decide) rfl (fun ls hl => ?_)
    refine lv_iconst (v := (1 : Int32)) M.x M.b d_M_number_43 rfl ?_
    refine lv_istore_n (lv' := [(3, .int (1 : Int32)), (2, .int (0 : Int32)), (1, .int ((40 : Int32) * i44)), (0, .ref this)]) M.x M.b d_M_number_44 rfl hl (by decide) rfl (fun ls hl => ?_)
    exact w_M_number_45 M this FU _ _ _ _ hf H locs ls hH hS (lv_sub hl [3, 2, 1, 0] rfl)
  · replace hf := z_t c54 hf
    refine lv_sipush (v := (-1004 : Int32)) M.x M.b d_M_number_9 rfl ?_
    obtain ⟨rfl, rfl⟩ := z_r2 hf
    exact z_iret M hH hS d_M_number_12
def f_M_fault (this : Nat) (h : Hp) : Option (Int32) :=
  if isO h this 8 = true then
  (gI h this 8 7).bind fun i1 =>
  some i1
  else none
theorem o_M_fault {this : Nat} {h : Hp} {r0 : Int32} (hf : f_M_fault this h = some r0) : isO h this 8 = true := by
  unfold f_M_fault at hf
  exact (z_gd hf).1
set_option maxRecDepth 100000 in
set_option maxHeartbeats 4000000 in
theorem c_M_fault {l : Launch} {N0 : Nat} {D : va_G} {cs : Nat → ClassId} {this : Nat} {h : Hp} {r0 : Int32} (hf : f_M_fault this h = some r0) : Fn l N0 D cs y_M_fault b_M_fault 1 (some .int) 1 0 0 [.ref this] h (some (.int r0)) h := by
  refine z_start (by decide) (Nat.le_of_ble_eq_true rfl) ?_
  intro p e s m args below meth c M hH hS ls hl
  unfold f_M_fault at hf
  obtain ⟨hO, hf⟩ := z_gd hf
  have hl : lv_has ls 1 [(0, .ref this)] := hl
  obtain ⟨H, hHe⟩ : ∃ H, H = s.heap := ⟨_, rfl⟩
  obtain ⟨locs, hLe⟩ : ∃ locs : List Loc, locs = [] := ⟨_, rfl⟩
  have hS : va_S (zA N0) s.heap H locs := by rw [hHe, hLe]; exact hS
  have hH : HH N0 D cs h H := by rw [hHe]; exact hH
  suffices hg : W p l e (zrm 1 0 0) s m args below meth c H locs 0 0 (MQ below (zQ N0 D cs (some (.int r0)) h) args s 0 0 (zA N0)) (F0 m 0 ls []) by rw [hHe, hLe] at hg; exact hg
  clear hHe hLe
  refine lv_aload_n M.x M.b d_M_fault_0 rfl (lv_at hl 0 rfl) ?_
  replace hf := z_bind hf; obtain ⟨i1, e2, hf⟩ := hf
  refine z_get (ci := 8) (k := 7) M hH rfl (by decide) zinM q_612 (gI_spec e2) d_M_fault_1 ?_
  obtain rfl := z_r1 hf
  exact z_iret M hH hS d_M_fault_4
def t_M_gcd_17 (k17 : Int64 → Int64 → Option (Int64)) (x4 : Int64) (x6 : Int64) : Option (Int64) :=
  if x6 = (0 : Int64) then
    some x4
  else
  if x6 = 0 then none else
  k17 x6 (x4 - x4 / x6 * x6)
set_option maxRecDepth 100000 in
set_option maxHeartbeats 4000000 in
theorem v_M_gcd_17 {p : Program} {l : Launch} {e : Env} {s : State} {m : MethodId} {args : Array Value} {below : List Frame} {meth : Method} {c : Code} {N0 : Nat} {D : va_G} {cs : Nat → ClassId} (M : ZC p s m args meth c "YearBasketsModel" "gcd" b_M_gcd 10 (some .long) N0 D cs)  {h : Hp} (k17 : Int64 → Int64 → Option (Int64)) {r0 : Int64} (hk17 : ∀ (x4 : Int64) (x6 : Int64), k17 x4 x6 = some r0 → ZG p l e (zrm 1 0 0) s m args below meth c N0 D cs (some (.long r0)) h h 10 [(4, .long x4), (6, .long x6)] 17 []) (x4 : Int64) (x6 : Int64) (hf : t_M_gcd_17 k17 x4 x6 = some r0) : ZG p l e (zrm 1 0 0) s m args below meth c N0 D cs (some (.long r0)) h h 10 [(4, .long x4), (6, .long x6)] 17 [] := by
  intro H locs ls hH hS hl
  unfold t_M_gcd_17 at hf
  refine lv_lload M.x M.b d_M_gcd_17 (lv_at hl 1 rfl) ?_
  refine lv_lconst (v := (0 : Int64)) M.x M.b d_M_gcd_19 rfl ?_
  refine z_lcmp_eq (tgt := 42) M d_M_gcd_20 d_M_gcd_21 (by decide) (fun c2 => ?_) (fun c2 => ?_)
  · replace hf := z_t c2 hf
    refine lv_lload M.x M.b d_M_gcd_42 (lv_at hl 0 rfl) ?_
    obtain rfl := z_r1 hf
    exact z_lret M hH hS d_M_gcd_44
  · replace hf := z_f c2 hf
    refine lv_lload M.x M.b d_M_gcd_24 (lv_at hl 0 rfl) ?_
    refine lv_lload M.x M.b d_M_gcd_26 (lv_at hl 1 rfl) ?_
    replace hf := z_gn hf; obtain ⟨c1, hf⟩ := hf
    refine lv_lrem M.x M.b d_M_gcd_28 c1 ?_
    refine lv_lstore (lv' := [(8, .long (x4 - x4 / x6 * x6)), (4, .long x4), (6, .long x6)]) M.x M.b d_M_gcd_29 hl (by decide) rfl (fun ls hl => ?_)
    refine lv_lload M.x M.b d_M_gcd_31 (lv_at hl 2 rfl) ?_
    refine lv_lstore (lv' := [(4, .long x6), (8, .long (x4 - x4 / x6 * x6)), (6, .long x6)]) M.x M.b d_M_gcd_33 hl (by decide) rfl (fun ls hl => ?_)
    refine lv_lload M.x M.b d_M_gcd_35 (lv_at hl 1 rfl) ?_
    refine lv_lstore (lv' := [(6, .long (x4 - x4 / x6 * x6)), (4, .long x6), (8, .long (x4 - x4 / x6 * x6))]) M.x M.b d_M_gcd_37 hl (by decide) rfl (fun ls hl => ?_)
    refine lv_goto (tgt := 17) M.x M.b d_M_gcd_39 (by decide) ?_
    exact hk17 _ _ hf H locs ls hH hS (lv_sub hl [1, 0] rfl)
def f_M_gcd_17  : Nat → Int64 → Int64 → Option (Int64)
  | 0, _, _ => none
  | n + 1, x4, x6 => t_M_gcd_17 (f_M_gcd_17 n) x4 x6
theorem w_M_gcd_17 {p : Program} {l : Launch} {e : Env} {s : State} {m : MethodId} {args : Array Value} {below : List Frame} {meth : Method} {c : Code} {N0 : Nat} {D : va_G} {cs : Nat → ClassId} (M : ZC p s m args meth c "YearBasketsModel" "gcd" b_M_gcd 10 (some .long) N0 D cs)  {h : Hp}  {r0 : Int64}  : ∀ (n : Nat) (x4 : Int64) (x6 : Int64), f_M_gcd_17 n x4 x6 = some r0 → ZG p l e (zrm 1 0 0) s m args below meth c N0 D cs (some (.long r0)) h h 10 [(4, .long x4), (6, .long x6)] 17 [] := by
  intro n
  induction n with
  | zero => intro x4 x6 hf; exact absurd (show none = some _ from hf) (fun q => by cases q)
  | succ n ih => intro x4 x6 hf; exact v_M_gcd_17 M (f_M_gcd_17 n)  ih _ _ hf
def f_M_gcd_12 (s0 : Int64) (x2 : Int64) : Option (Int64) :=
  f_M_gcd_17  FU s0 x2
set_option maxRecDepth 100000 in
set_option maxHeartbeats 4000000 in
theorem w_M_gcd_12 {p : Program} {l : Launch} {e : Env} {s : State} {m : MethodId} {args : Array Value} {below : List Frame} {meth : Method} {c : Code} {N0 : Nat} {D : va_G} {cs : Nat → ClassId} (M : ZC p s m args meth c "YearBasketsModel" "gcd" b_M_gcd 10 (some .long) N0 D cs)  {h : Hp}  {r0 : Int64}  (s0 : Int64) (x2 : Int64) (hf : f_M_gcd_12 s0 x2 = some r0) : ZG p l e (zrm 1 0 0) s m args below meth c N0 D cs (some (.long r0)) h h 10 [(2, .long x2)] 12 [.long s0] := by
  intro H locs ls hH hS hl
  unfold f_M_gcd_12 at hf
  refine lv_lstore (lv' := [(4, .long s0), (2, .long x2)]) M.x M.b d_M_gcd_12 hl (by decide) rfl (fun ls hl => ?_)
  refine lv_lload_n M.x M.b d_M_gcd_14 rfl (lv_at hl 1 rfl) ?_
  refine lv_lstore (lv' := [(6, .long x2), (4, .long s0), (2, .long x2)]) M.x M.b d_M_gcd_15 hl (by decide) rfl (fun ls hl => ?_)
  exact w_M_gcd_17 M  FU _ _ hf H locs ls hH hS (lv_sub hl [1, 0] rfl)
def f_M_gcd (x0 : Int64) (x2 : Int64) : Option (Int64) :=
  if (0 : Int64) ≤ x0 then
    f_M_gcd_12  x0 x2
  else
  f_M_gcd_12  (-x0) x2
set_option maxRecDepth 100000 in
set_option maxHeartbeats 4000000 in
theorem c_M_gcd {l : Launch} {N0 : Nat} {D : va_G} {cs : Nat → ClassId} {x0 : Int64} {x2 : Int64} {r0 : Int64} {h : Hp} (hf : f_M_gcd x0 x2 = some r0) : Fn l N0 D cs y_M_gcd b_M_gcd 10 (some .long) 1 0 0 [.long x0, .long x2] h (some (.long r0)) h := by
  refine z_start (by decide) (Nat.le_of_ble_eq_true rfl) ?_
  intro p e s m args below meth c M hH hS ls hl
  unfold f_M_gcd at hf
  have hl : lv_has ls 10 [(0, .long x0), (2, .long x2)] := hl
  obtain ⟨H, hHe⟩ : ∃ H, H = s.heap := ⟨_, rfl⟩
  obtain ⟨locs, hLe⟩ : ∃ locs : List Loc, locs = [] := ⟨_, rfl⟩
  have hS : va_S (zA N0) s.heap H locs := by rw [hHe, hLe]; exact hS
  have hH : HH N0 D cs h H := by rw [hHe]; exact hH
  suffices hg : W p l e (zrm 1 0 0) s m args below meth c H locs 0 0 (MQ below (zQ N0 D cs (some (.long r0)) h) args s 0 0 (zA N0)) (F0 m 0 ls []) by rw [hHe, hLe] at hg; exact hg
  clear hHe hLe
  refine lv_lload_n M.x M.b d_M_gcd_0 rfl (lv_at hl 0 rfl) ?_
  refine lv_lconst (v := (0 : Int64)) M.x M.b d_M_gcd_1 rfl ?_
  refine z_lcmp_ge (tgt := 11) M d_M_gcd_2 d_M_gcd_3 (by decide) (fun c3 => ?_) (fun c3 => ?_)
  · replace hf := z_t c3 hf
    refine lv_lload_n M.x M.b d_M_gcd_11 rfl (lv_at hl 0 rfl) ?_
    exact w_M_gcd_12 M  _ _ hf H locs ls hH hS (lv_sub hl [1] rfl)
  · replace hf := z_f c3 hf
    refine lv_lload_n M.x M.b d_M_gcd_6 rfl (lv_at hl 0 rfl) ?_
    refine lv_lneg M.x M.b d_M_gcd_7 ?_
    refine lv_goto (tgt := 12) M.x M.b d_M_gcd_8 (by decide) ?_
    exact w_M_gcd_12 M  _ _ hf H locs ls hH hS (lv_sub hl [1] rfl)
def f_M_take (this : Nat) (x1 : Int64) (x3 : Int64) (x5 : Int32) (h : Hp) : Option ((Int32 × Hp)) :=
  if isO h this 8 = true then
  if x3 = (0 : Int64) then
    some ((-1003 : Int32), h)
  else
  (f_M_gcd x1 x3).bind fun l2 =>
  if l2 = 0 then none else
  (pV h this 8 14 (.long (x1 / l2))).bind fun h3 =>
  if l2 = 0 then none else
  (pV h3 this 8 15 (.long (x3 / l2))).bind fun h5 =>
  (zB x5).bind fun _ =>
  (pV h5 this 8 16 (.int x5)).bind fun h7 =>
  (gL h7 this 8 14).bind fun l9 =>
  if (1000000000000000 : Int64) < l9 then
    some ((-1005 : Int32), h7)
  else
  (gL h7 this 8 15).bind fun l11 =>
  if l11 ≤ (1000000000000000 : Int64) then
    some ((0 : Int32), h7)
  else
  some ((-1005 : Int32), h7)
  else none
theorem o_M_take {this : Nat} {x1 : Int64} {x3 : Int64} {x5 : Int32} {h : Hp} {r0 : Int32} {h0 : Hp} (hf : f_M_take this x1 x3 x5 h = some (r0, h0)) : isO h this 8 = true := by
  unfold f_M_take at hf
  exact (z_gd hf).1
set_option maxRecDepth 100000 in
set_option maxHeartbeats 4000000 in
theorem c_M_take {l : Launch} {N0 : Nat} {D : va_G} {cs : Nat → ClassId} {this : Nat} {x1 : Int64} {x3 : Int64} {x5 : Int32} {h : Hp} {r0 : Int32} {h0 : Hp} (hf : f_M_take this x1 x3 x5 h = some (r0, h0)) : Fn l N0 D cs y_M_take b_M_take 8 (some .int) 2 0 0 [.ref this, .long x1, .long x3, .int x5] h (some (.int r0)) h0 := by
  refine z_start (by decide) (Nat.le_of_ble_eq_true rfl) ?_
  intro p e s m args below meth c M hH hS ls hl
  unfold f_M_take at hf
  obtain ⟨hO, hf⟩ := z_gd hf
  have hl : lv_has ls 8 [(0, .ref this), (1, .long x1), (3, .long x3), (5, .int x5)] := hl
  obtain ⟨H, hHe⟩ : ∃ H, H = s.heap := ⟨_, rfl⟩
  obtain ⟨locs, hLe⟩ : ∃ locs : List Loc, locs = [] := ⟨_, rfl⟩
  have hS : va_S (zA N0) s.heap H locs := by rw [hHe, hLe]; exact hS
  have hH : HH N0 D cs h H := by rw [hHe]; exact hH
  suffices hg : W p l e (zrm 2 0 0) s m args below meth c H locs 0 0 (MQ below (zQ N0 D cs (some (.int r0)) h0) args s 0 0 (zA N0)) (F0 m 0 ls []) by rw [hHe, hLe] at hg; exact hg
  clear hHe hLe
  refine lv_lload_n M.x M.b d_M_take_0 rfl (lv_at hl 2 rfl) ?_
  refine lv_lconst (v := (0 : Int64)) M.x M.b d_M_take_1 rfl ?_
  refine z_lcmp_ne (tgt := 10) M d_M_take_2 d_M_take_3 (by decide) (fun c19 => ?_) (fun c19 => ?_)
  · replace hf := z_f c19 hf
    refine lv_lload_n M.x M.b d_M_take_10 rfl (lv_at hl 1 rfl) ?_
    refine lv_lload_n M.x M.b d_M_take_11 rfl (lv_at hl 2 rfl) ?_
    replace hf := z_bind hf; obtain ⟨l2, e1, hf⟩ := hf
    refine zk_S (st1 := [.long l2]) M hH hS (c_M_gcd e1) w_M_gcd q_670 [] rfl ⟨Nat.le_of_ble_eq_true rfl, Nat.le_of_ble_eq_true rfl⟩ hl.1 rfl rfl (Nat.le_of_ble_eq_true rfl) d_M_take_12 (fun H locs hH hS => ?_)
    refine lv_lstore (lv' := [(6, .long l2), (0, .ref this), (1, .long x1), (3, .long x3), (5, .int x5)]) M.x M.b d_M_take_15 hl (by decide) rfl (fun ls hl => ?_)
    refine lv_aload_n M.x M.b d_M_take_17 rfl (lv_at hl 1 rfl) ?_
    refine lv_lload_n M.x M.b d_M_take_18 rfl (lv_at hl 2 rfl) ?_
    refine lv_lload M.x M.b d_M_take_19 (lv_at hl 0 rfl) ?_
    replace hf := z_gn hf; obtain ⟨c18, hf⟩ := hf
    refine lv_ldiv M.x M.b d_M_take_21 c18 ?_
    replace hf := z_bind hf; obtain ⟨h3, e4, hf⟩ := hf
    refine z_put (ci := 8) (k := 14) M hH hS rfl (by decide) zinM zYM zYM_ok zNM_ok rfl q_668 rfl rfl rfl e4 d_M_take_22 (fun H locs hH hS => ?_)
    refine lv_aload_n M.x M.b d_M_take_25 rfl (lv_at hl 1 rfl) ?_
    refine lv_lload_n M.x M.b d_M_take_26 rfl (lv_at hl 3 rfl) ?_
    refine lv_lload M.x M.b d_M_take_27 (lv_at hl 0 rfl) ?_
    replace hf := z_gn hf; obtain ⟨c17, hf⟩ := hf
    refine lv_ldiv M.x M.b d_M_take_29 c17 ?_
    replace hf := z_bind hf; obtain ⟨h5, e6, hf⟩ := hf
    refine z_put (ci := 8) (k := 15) M hH hS rfl (by decide) zinM zYM zYM_ok zNM_ok rfl q_667 rfl rfl rfl e6 d_M_take_30 (fun H locs hH hS => ?_)
    refine lv_aload_n M.x M.b d_M_take_33 rfl (lv_at hl 1 rfl) ?_
    refine lv_iload M.x M.b d_M_take_34 (lv_at hl 4 rfl) ?_
    replace hf := z_bind hf; obtain ⟨_, e15, hf⟩ := hf
    have z16 := (zB_spec e15).2
    replace hf := z_bind hf; obtain ⟨h7, e8, hf⟩ := hf
    refine z_put (ci := 8) (k := 16) M hH hS rfl (by decide) zinM zYM zYM_ok zNM_ok rfl q_669 rfl (z_nb z16) (z_fb z16) e8 d_M_take_36 (fun H locs hH hS => ?_)
    refine lv_aload_n M.x M.b d_M_take_39 rfl (lv_at hl 1 rfl) ?_
    replace hf := z_bind hf; obtain ⟨l9, e10, hf⟩ := hf
    refine z_get (ci := 8) (k := 14) M hH rfl (by decide) zinM q_668 (gL_spec e10) d_M_take_40 ?_
    refine z_ldc2 (v := (1000000000000000 : Int64)) M q_666 d_M_take_43 ?_
    refine z_lcmp_gt (tgt := 61) M d_M_take_46 d_M_take_47 (by decide) (fun c14 => ?_) (fun c14 => ?_)
    · replace hf := z_t c14 hf
      refine lv_sipush (v := (-1005 : Int32)) M.x M.b d_M_take_61 rfl ?_
      refine lv_goto (tgt := 68) M.x M.b d_M_take_64 (by decide) ?_
      obtain ⟨rfl, rfl⟩ := z_r2 hf
      exact z_iret M hH hS d_M_take_68
    · replace hf := z_f c14 hf
      refine lv_aload_n M.x M.b d_M_take_50 rfl (lv_at hl 1 rfl) ?_
      replace hf := z_bind hf; obtain ⟨l11, e12, hf⟩ := hf
      refine z_get (ci := 8) (k := 15) M hH rfl (by decide) zinM q_667 (gL_spec e12) d_M_take_51 ?_
      refine z_ldc2 (v := (1000000000000000 : Int64)) M q_666 d_M_take_54 ?_
      refine z_lcmp_le (tgt := 67) M d_M_take_57 d_M_take_58 (by decide) (fun c13 => ?_) (fun c13 => ?_)
      · replace hf := z_t c13 hf
        refine lv_iconst (v := (0 : Int32)) M.x M.b d_M_take_67 rfl ?_
        obtain ⟨rfl, rfl⟩ := z_r2 hf
        exact z_iret M hH hS d_M_take_68
      · replace hf := z_f c13 hf
        refine lv_sipush (v := (-1005 : Int32)) M.x M.b d_M_take_61 rfl ?_
        refine lv_goto (tgt := 68) M.x M.b d_M_take_64 (by decide) ?_
        obtain ⟨rfl, rfl⟩ := z_r2 hf
        exact z_iret M hH hS d_M_take_68
  · replace hf := z_t c19 hf
    refine lv_sipush (v := (-1003 : Int32)) M.x M.b d_M_take_6 rfl ?_
    obtain ⟨rfl, rfl⟩ := z_r2 hf
    exact z_iret M hH hS d_M_take_9
def f_M_multiply_128 (this : Nat) (x9 : Int32) (x14 : Int64) (x16 : Int64) (x18 : Int64) (x20 : Int64) (h : Hp) : Option ((Int32 × Hp)) :=
  zb2 (f_M_take this (x14 * x16) (x18 * x20) x9 h) fun i2 h3 =>
  some (i2, h3)
set_option maxRecDepth 100000 in
set_option maxHeartbeats 4000000 in
theorem w_M_multiply_128 {p : Program} {l : Launch} {e : Env} {s : State} {m : MethodId} {args : Array Value} {below : List Frame} {meth : Method} {c : Code} {N0 : Nat} {D : va_G} {cs : Nat → ClassId} (M : ZC p s m args meth c "YearBasketsModel" "multiply" b_M_multiply 22 (some .int) N0 D cs) (this : Nat)  {r0 : Int32} {h0 : Hp}  (x9 : Int32) (x14 : Int64) (x16 : Int64) (x18 : Int64) (x20 : Int64) (h : Hp) (hf : f_M_multiply_128 this x9 x14 x16 x18 x20 h = some (r0, h0)) : ZG p l e (zrm 3 0 0) s m args below meth c N0 D cs (some (.int r0)) h0 h 22 [(0, .ref this), (9, .int x9), (14, .long x14), (16, .long x16), (18, .long x18), (20, .long x20)] 128 [] := by
  intro H locs ls hH hS hl
  unfold f_M_multiply_128 at hf
  refine lv_aload_n M.x M.b d_M_multiply_128 rfl (lv_at hl 0 rfl) ?_
  refine lv_lload M.x M.b d_M_multiply_129 (lv_at hl 2 rfl) ?_
  refine lv_lload M.x M.b d_M_multiply_131 (lv_at hl 3 rfl) ?_
  refine lv_lmul M.x M.b d_M_multiply_133 ?_
  refine lv_lload M.x M.b d_M_multiply_134 (lv_at hl 4 rfl) ?_
  refine lv_lload M.x M.b d_M_multiply_136 (lv_at hl 5 rfl) ?_
  refine lv_lmul M.x M.b d_M_multiply_138 ?_
  refine lv_iload M.x M.b d_M_multiply_139 (lv_at hl 1 rfl) ?_
  replace hf := z_bind2 hf; obtain ⟨i2, h3, e1, hf⟩ := hf
  refine zk_V (ci := 8) (st1 := [.int i2]) M hH hS (c_M_take e1) rfl (o_M_take e1) w_M_take q_674 [] rfl ⟨Nat.le_of_ble_eq_true rfl, Nat.le_of_ble_eq_true rfl⟩ hl.1 rfl rfl (Nat.le_of_ble_eq_true rfl) d_M_multiply_141 (fun H locs hH hS => ?_)
  obtain ⟨rfl, rfl⟩ := z_r2 hf
  exact z_iret M hH hS d_M_multiply_144
def f_M_multiply_105 (this : Nat) (x9 : Int32) (x14 : Int64) (x16 : Int64) (x18 : Int64) (x20 : Int64) (h : Hp) : Option ((Int32 × Hp)) :=
  if x20 ≤ (0 : Int64) then
    f_M_multiply_128 this x9 x14 x16 x18 x20 h
  else
  if x20 = 0 then none else
  if x18 ≤ ((1000000000000000 : Int64) / x20) then
    f_M_multiply_128 this x9 x14 x16 x18 x20 h
  else
  some ((-1005 : Int32), h)
set_option maxRecDepth 100000 in
set_option maxHeartbeats 4000000 in
theorem w_M_multiply_105 {p : Program} {l : Launch} {e : Env} {s : State} {m : MethodId} {args : Array Value} {below : List Frame} {meth : Method} {c : Code} {N0 : Nat} {D : va_G} {cs : Nat → ClassId} (M : ZC p s m args meth c "YearBasketsModel" "multiply" b_M_multiply 22 (some .int) N0 D cs) (this : Nat)  {r0 : Int32} {h0 : Hp}  (x9 : Int32) (x14 : Int64) (x16 : Int64) (x18 : Int64) (x20 : Int64) (h : Hp) (hf : f_M_multiply_105 this x9 x14 x16 x18 x20 h = some (r0, h0)) : ZG p l e (zrm 3 0 0) s m args below meth c N0 D cs (some (.int r0)) h0 h 22 [(0, .ref this), (9, .int x9), (14, .long x14), (16, .long x16), (18, .long x18), (20, .long x20)] 105 [] := by
  intro H locs ls hH hS hl
  unfold f_M_multiply_105 at hf
  refine lv_lload M.x M.b d_M_multiply_105 (lv_at hl 5 rfl) ?_
  refine lv_lconst (v := (0 : Int64)) M.x M.b d_M_multiply_107 rfl ?_
  refine z_lcmp_le (tgt := 128) M d_M_multiply_108 d_M_multiply_109 (by decide) (fun c6 => ?_) (fun c6 => ?_)
  · replace hf := z_t c6 hf
    exact w_M_multiply_128 M this _ _ _ _ _ _ hf H locs ls hH hS (lv_sub hl [0, 1, 2, 3, 4, 5] rfl)
  · replace hf := z_f c6 hf
    refine lv_lload M.x M.b d_M_multiply_112 (lv_at hl 4 rfl) ?_
    refine z_ldc2 (v := (1000000000000000 : Int64)) M q_666 d_M_multiply_114 ?_
    refine lv_lload M.x M.b d_M_multiply_117 (lv_at hl 5 rfl) ?_
    replace hf := z_gn hf; obtain ⟨c5, hf⟩ := hf
    refine lv_ldiv M.x M.b d_M_multiply_119 c5 ?_
    refine z_lcmp_le (tgt := 128) M d_M_multiply_120 d_M_multiply_121 (by decide) (fun c4 => ?_) (fun c4 => ?_)
    · replace hf := z_t c4 hf
      exact w_M_multiply_128 M this _ _ _ _ _ _ hf H locs ls hH hS (lv_sub hl [0, 1, 2, 3, 4, 5] rfl)
    · replace hf := z_f c4 hf
      refine lv_sipush (v := (-1005 : Int32)) M.x M.b d_M_multiply_124 rfl ?_
      obtain ⟨rfl, rfl⟩ := z_r2 hf
      exact z_iret M hH hS d_M_multiply_127
def f_M_multiply_83 (this : Nat) (s0 : Int64) (s1 : Int64) (x9 : Int32) (x14 : Int64) (x16 : Int64) (x18 : Int64) (h : Hp) : Option ((Int32 × Hp)) :=
  if s1 = 0 then none else
  if x16 ≤ (0 : Int64) then
    f_M_multiply_105 this x9 x14 x16 x18 (s0 / s1) h
  else
  if x16 = 0 then none else
  if ((1000000000000000 : Int64) / x16) < x14 then
    some ((-1005 : Int32), h)
  else
  f_M_multiply_105 this x9 x14 x16 x18 (s0 / s1) h
set_option maxRecDepth 100000 in
set_option maxHeartbeats 4000000 in
theorem w_M_multiply_83 {p : Program} {l : Launch} {e : Env} {s : State} {m : MethodId} {args : Array Value} {below : List Frame} {meth : Method} {c : Code} {N0 : Nat} {D : va_G} {cs : Nat → ClassId} (M : ZC p s m args meth c "YearBasketsModel" "multiply" b_M_multiply 22 (some .int) N0 D cs) (this : Nat)  {r0 : Int32} {h0 : Hp}  (s0 : Int64) (s1 : Int64) (x9 : Int32) (x14 : Int64) (x16 : Int64) (x18 : Int64) (h : Hp) (hf : f_M_multiply_83 this s0 s1 x9 x14 x16 x18 h = some (r0, h0)) : ZG p l e (zrm 3 0 0) s m args below meth c N0 D cs (some (.int r0)) h0 h 22 [(0, .ref this), (9, .int x9), (14, .long x14), (16, .long x16), (18, .long x18)] 83 [.long s1, .long s0] := by
  intro H locs ls hH hS hl
  unfold f_M_multiply_83 at hf
  replace hf := z_gn hf; obtain ⟨c10, hf⟩ := hf
  refine lv_ldiv M.x M.b d_M_multiply_83 c10 ?_
  refine lv_lstore (lv' := [(20, .long (s0 / s1)), (0, .ref this), (9, .int x9), (14, .long x14), (16, .long x16), (18, .long x18)]) M.x M.b d_M_multiply_84 hl (by decide) rfl (fun ls hl => ?_)
  refine lv_lload M.x M.b d_M_multiply_86 (lv_at hl 4 rfl) ?_
  refine lv_lconst (v := (0 : Int64)) M.x M.b d_M_multiply_88 rfl ?_
  refine z_lcmp_le (tgt := 105) M d_M_multiply_89 d_M_multiply_90 (by decide) (fun c9 => ?_) (fun c9 => ?_)
  · replace hf := z_t c9 hf
    exact w_M_multiply_105 M this _ _ _ _ _ _ hf H locs ls hH hS (lv_sub hl [1, 2, 3, 4, 5, 0] rfl)
  · replace hf := z_f c9 hf
    refine lv_lload M.x M.b d_M_multiply_93 (lv_at hl 3 rfl) ?_
    refine z_ldc2 (v := (1000000000000000 : Int64)) M q_666 d_M_multiply_95 ?_
    refine lv_lload M.x M.b d_M_multiply_98 (lv_at hl 4 rfl) ?_
    replace hf := z_gn hf; obtain ⟨c8, hf⟩ := hf
    refine lv_ldiv M.x M.b d_M_multiply_100 c8 ?_
    refine z_lcmp_gt (tgt := 124) M d_M_multiply_101 d_M_multiply_102 (by decide) (fun c7 => ?_) (fun c7 => ?_)
    · replace hf := z_t c7 hf
      refine lv_sipush (v := (-1005 : Int32)) M.x M.b d_M_multiply_124 rfl ?_
      obtain ⟨rfl, rfl⟩ := z_r2 hf
      exact z_iret M hH hS d_M_multiply_127
    · replace hf := z_f c7 hf
      exact w_M_multiply_105 M this _ _ _ _ _ _ hf H locs ls hH hS (lv_sub hl [1, 2, 3, 4, 5, 0] rfl)
def f_M_multiply_65 (this : Nat) (s0 : Int64) (s1 : Int64) (x7 : Int64) (x9 : Int32) (x10 : Int64) (x14 : Int64) (x16 : Int64) (h : Hp) : Option ((Int32 × Hp)) :=
  if s1 = 0 then none else
  if x10 = (0 : Int64) then
    f_M_multiply_83 this x7 (1 : Int64) x9 x14 x16 (s0 / s1) h
  else
  f_M_multiply_83 this x7 x10 x9 x14 x16 (s0 / s1) h
set_option maxRecDepth 100000 in
set_option maxHeartbeats 4000000 in
theorem w_M_multiply_65 {p : Program} {l : Launch} {e : Env} {s : State} {m : MethodId} {args : Array Value} {below : List Frame} {meth : Method} {c : Code} {N0 : Nat} {D : va_G} {cs : Nat → ClassId} (M : ZC p s m args meth c "YearBasketsModel" "multiply" b_M_multiply 22 (some .int) N0 D cs) (this : Nat)  {r0 : Int32} {h0 : Hp}  (s0 : Int64) (s1 : Int64) (x7 : Int64) (x9 : Int32) (x10 : Int64) (x14 : Int64) (x16 : Int64) (h : Hp) (hf : f_M_multiply_65 this s0 s1 x7 x9 x10 x14 x16 h = some (r0, h0)) : ZG p l e (zrm 3 0 0) s m args below meth c N0 D cs (some (.int r0)) h0 h 22 [(0, .ref this), (7, .long x7), (9, .int x9), (10, .long x10), (14, .long x14), (16, .long x16)] 65 [.long s1, .long s0] := by
  intro H locs ls hH hS hl
  unfold f_M_multiply_65 at hf
  replace hf := z_gn hf; obtain ⟨c12, hf⟩ := hf
  refine lv_ldiv M.x M.b d_M_multiply_65 c12 ?_
  refine lv_lstore (lv' := [(18, .long (s0 / s1)), (0, .ref this), (7, .long x7), (9, .int x9), (10, .long x10), (14, .long x14), (16, .long x16)]) M.x M.b d_M_multiply_66 hl (by decide) rfl (fun ls hl => ?_)
  refine lv_lload M.x M.b d_M_multiply_68 (lv_at hl 2 rfl) ?_
  refine lv_lload M.x M.b d_M_multiply_70 (lv_at hl 4 rfl) ?_
  refine lv_lconst (v := (0 : Int64)) M.x M.b d_M_multiply_72 rfl ?_
  refine z_lcmp_ne (tgt := 81) M d_M_multiply_73 d_M_multiply_74 (by decide) (fun c11 => ?_) (fun c11 => ?_)
  · replace hf := z_f c11 hf
    refine lv_lload M.x M.b d_M_multiply_81 (lv_at hl 4 rfl) ?_
    exact w_M_multiply_83 M this _ _ _ _ _ _ _ hf H locs ls hH hS (lv_sub hl [1, 3, 5, 6, 0] rfl)
  · replace hf := z_t c11 hf
    refine lv_lconst (v := (1 : Int64)) M.x M.b d_M_multiply_77 rfl ?_
    refine lv_goto (tgt := 83) M.x M.b d_M_multiply_78 (by decide) ?_
    exact w_M_multiply_83 M this _ _ _ _ _ _ _ hf H locs ls hH hS (lv_sub hl [1, 3, 5, 6, 0] rfl)
def f_M_multiply_48 (this : Nat) (s0 : Int64) (s1 : Int64) (x3 : Int64) (x7 : Int64) (x9 : Int32) (x10 : Int64) (x12 : Int64) (x14 : Int64) (h : Hp) : Option ((Int32 × Hp)) :=
  if s1 = 0 then none else
  if x12 = (0 : Int64) then
    f_M_multiply_65 this x3 (1 : Int64) x7 x9 x10 x14 (s0 / s1) h
  else
  f_M_multiply_65 this x3 x12 x7 x9 x10 x14 (s0 / s1) h
set_option maxRecDepth 100000 in
set_option maxHeartbeats 4000000 in
theorem w_M_multiply_48 {p : Program} {l : Launch} {e : Env} {s : State} {m : MethodId} {args : Array Value} {below : List Frame} {meth : Method} {c : Code} {N0 : Nat} {D : va_G} {cs : Nat → ClassId} (M : ZC p s m args meth c "YearBasketsModel" "multiply" b_M_multiply 22 (some .int) N0 D cs) (this : Nat)  {r0 : Int32} {h0 : Hp}  (s0 : Int64) (s1 : Int64) (x3 : Int64) (x7 : Int64) (x9 : Int32) (x10 : Int64) (x12 : Int64) (x14 : Int64) (h : Hp) (hf : f_M_multiply_48 this s0 s1 x3 x7 x9 x10 x12 x14 h = some (r0, h0)) : ZG p l e (zrm 3 0 0) s m args below meth c N0 D cs (some (.int r0)) h0 h 22 [(0, .ref this), (3, .long x3), (7, .long x7), (9, .int x9), (10, .long x10), (12, .long x12), (14, .long x14)] 48 [.long s1, .long s0] := by
  intro H locs ls hH hS hl
  unfold f_M_multiply_48 at hf
  replace hf := z_gn hf; obtain ⟨c14, hf⟩ := hf
  refine lv_ldiv M.x M.b d_M_multiply_48 c14 ?_
  refine lv_lstore (lv' := [(16, .long (s0 / s1)), (0, .ref this), (3, .long x3), (7, .long x7), (9, .int x9), (10, .long x10), (12, .long x12), (14, .long x14)]) M.x M.b d_M_multiply_49 hl (by decide) rfl (fun ls hl => ?_)
  refine lv_lload_n M.x M.b d_M_multiply_51 rfl (lv_at hl 2 rfl) ?_
  refine lv_lload M.x M.b d_M_multiply_52 (lv_at hl 6 rfl) ?_
  refine lv_lconst (v := (0 : Int64)) M.x M.b d_M_multiply_54 rfl ?_
  refine z_lcmp_ne (tgt := 63) M d_M_multiply_55 d_M_multiply_56 (by decide) (fun c13 => ?_) (fun c13 => ?_)
  · replace hf := z_f c13 hf
    refine lv_lload M.x M.b d_M_multiply_63 (lv_at hl 6 rfl) ?_
    exact w_M_multiply_65 M this _ _ _ _ _ _ _ _ hf H locs ls hH hS (lv_sub hl [1, 3, 4, 5, 7, 0] rfl)
  · replace hf := z_t c13 hf
    refine lv_lconst (v := (1 : Int64)) M.x M.b d_M_multiply_59 rfl ?_
    refine lv_goto (tgt := 65) M.x M.b d_M_multiply_60 (by decide) ?_
    exact w_M_multiply_65 M this _ _ _ _ _ _ _ _ hf H locs ls hH hS (lv_sub hl [1, 3, 4, 5, 7, 0] rfl)
def f_M_multiply_30 (this : Nat) (s0 : Int64) (s1 : Int64) (x3 : Int64) (x5 : Int64) (x7 : Int64) (x9 : Int32) (x10 : Int64) (x12 : Int64) (h : Hp) : Option ((Int32 × Hp)) :=
  if s1 = 0 then none else
  if x12 = (0 : Int64) then
    f_M_multiply_48 this x5 (1 : Int64) x3 x7 x9 x10 x12 (s0 / s1) h
  else
  f_M_multiply_48 this x5 x12 x3 x7 x9 x10 x12 (s0 / s1) h
set_option maxRecDepth 100000 in
set_option maxHeartbeats 4000000 in
theorem w_M_multiply_30 {p : Program} {l : Launch} {e : Env} {s : State} {m : MethodId} {args : Array Value} {below : List Frame} {meth : Method} {c : Code} {N0 : Nat} {D : va_G} {cs : Nat → ClassId} (M : ZC p s m args meth c "YearBasketsModel" "multiply" b_M_multiply 22 (some .int) N0 D cs) (this : Nat)  {r0 : Int32} {h0 : Hp}  (s0 : Int64) (s1 : Int64) (x3 : Int64) (x5 : Int64) (x7 : Int64) (x9 : Int32) (x10 : Int64) (x12 : Int64) (h : Hp) (hf : f_M_multiply_30 this s0 s1 x3 x5 x7 x9 x10 x12 h = some (r0, h0)) : ZG p l e (zrm 3 0 0) s m args below meth c N0 D cs (some (.int r0)) h0 h 22 [(0, .ref this), (3, .long x3), (5, .long x5), (7, .long x7), (9, .int x9), (10, .long x10), (12, .long x12)] 30 [.long s1, .long s0] := by
  intro H locs ls hH hS hl
  unfold f_M_multiply_30 at hf
  replace hf := z_gn hf; obtain ⟨c16, hf⟩ := hf
  refine lv_ldiv M.x M.b d_M_multiply_30 c16 ?_
  refine lv_lstore (lv' := [(14, .long (s0 / s1)), (0, .ref this), (3, .long x3), (5, .long x5), (7, .long x7), (9, .int x9), (10, .long x10), (12, .long x12)]) M.x M.b d_M_multiply_31 hl (by decide) rfl (fun ls hl => ?_)
  refine lv_lload M.x M.b d_M_multiply_33 (lv_at hl 3 rfl) ?_
  refine lv_lload M.x M.b d_M_multiply_35 (lv_at hl 7 rfl) ?_
  refine lv_lconst (v := (0 : Int64)) M.x M.b d_M_multiply_37 rfl ?_
  refine z_lcmp_ne (tgt := 46) M d_M_multiply_38 d_M_multiply_39 (by decide) (fun c15 => ?_) (fun c15 => ?_)
  · replace hf := z_f c15 hf
    refine lv_lload M.x M.b d_M_multiply_46 (lv_at hl 7 rfl) ?_
    exact w_M_multiply_48 M this _ _ _ _ _ _ _ _ _ hf H locs ls hH hS (lv_sub hl [1, 2, 4, 5, 6, 7, 0] rfl)
  · replace hf := z_t c15 hf
    refine lv_lconst (v := (1 : Int64)) M.x M.b d_M_multiply_42 rfl ?_
    refine lv_goto (tgt := 48) M.x M.b d_M_multiply_43 (by decide) ?_
    exact w_M_multiply_48 M this _ _ _ _ _ _ _ _ _ hf H locs ls hH hS (lv_sub hl [1, 2, 4, 5, 6, 7, 0] rfl)
def f_M_multiply (this : Nat) (x1 : Int64) (x3 : Int64) (x5 : Int64) (x7 : Int64) (x9 : Int32) (h : Hp) : Option ((Int32 × Hp)) :=
  if isO h this 8 = true then
  (f_M_gcd x1 x7).bind fun l18 =>
  (f_M_gcd x5 x3).bind fun l20 =>
  if l18 = (0 : Int64) then
    f_M_multiply_30 this x1 (1 : Int64) x3 x5 x7 x9 l18 l20 h
  else
  f_M_multiply_30 this x1 l18 x3 x5 x7 x9 l18 l20 h
  else none
theorem o_M_multiply {this : Nat} {x1 : Int64} {x3 : Int64} {x5 : Int64} {x7 : Int64} {x9 : Int32} {h : Hp} {r0 : Int32} {h0 : Hp} (hf : f_M_multiply this x1 x3 x5 x7 x9 h = some (r0, h0)) : isO h this 8 = true := by
  unfold f_M_multiply at hf
  exact (z_gd hf).1
set_option maxRecDepth 100000 in
set_option maxHeartbeats 4000000 in
theorem c_M_multiply {l : Launch} {N0 : Nat} {D : va_G} {cs : Nat → ClassId} {this : Nat} {x1 : Int64} {x3 : Int64} {x5 : Int64} {x7 : Int64} {x9 : Int32} {h : Hp} {r0 : Int32} {h0 : Hp} (hf : f_M_multiply this x1 x3 x5 x7 x9 h = some (r0, h0)) : Fn l N0 D cs y_M_multiply b_M_multiply 22 (some .int) 3 0 0 [.ref this, .long x1, .long x3, .long x5, .long x7, .int x9] h (some (.int r0)) h0 := by
  refine z_start (by decide) (Nat.le_of_ble_eq_true rfl) ?_
  intro p e s m args below meth c M hH hS ls hl
  unfold f_M_multiply at hf
  obtain ⟨hO, hf⟩ := z_gd hf
  have hl : lv_has ls 22 [(0, .ref this), (1, .long x1), (3, .long x3), (5, .long x5), (7, .long x7), (9, .int x9)] := hl
  obtain ⟨H, hHe⟩ : ∃ H, H = s.heap := ⟨_, rfl⟩
  obtain ⟨locs, hLe⟩ : ∃ locs : List Loc, locs = [] := ⟨_, rfl⟩
  have hS : va_S (zA N0) s.heap H locs := by rw [hHe, hLe]; exact hS
  have hH : HH N0 D cs h H := by rw [hHe]; exact hH
  suffices hg : W p l e (zrm 3 0 0) s m args below meth c H locs 0 0 (MQ below (zQ N0 D cs (some (.int r0)) h0) args s 0 0 (zA N0)) (F0 m 0 ls []) by rw [hHe, hLe] at hg; exact hg
  clear hHe hLe
  refine lv_lload_n M.x M.b d_M_multiply_0 rfl (lv_at hl 1 rfl) ?_
  refine lv_lload M.x M.b d_M_multiply_1 (lv_at hl 4 rfl) ?_
  replace hf := z_bind hf; obtain ⟨l18, e17, hf⟩ := hf
  refine zk_S (st1 := [.long l18]) M hH hS (c_M_gcd e17) w_M_gcd q_670 [] rfl ⟨Nat.le_of_ble_eq_true rfl, Nat.le_of_ble_eq_true rfl⟩ hl.1 rfl rfl (Nat.le_of_ble_eq_true rfl) d_M_multiply_3 (fun H locs hH hS => ?_)
  refine lv_lstore (lv' := [(10, .long l18), (0, .ref this), (1, .long x1), (3, .long x3), (5, .long x5), (7, .long x7), (9, .int x9)]) M.x M.b d_M_multiply_6 hl (by decide) rfl (fun ls hl => ?_)
  refine lv_lload M.x M.b d_M_multiply_8 (lv_at hl 4 rfl) ?_
  refine lv_lload_n M.x M.b d_M_multiply_10 rfl (lv_at hl 3 rfl) ?_
  replace hf := z_bind hf; obtain ⟨l20, e19, hf⟩ := hf
  refine zk_S (st1 := [.long l20]) M hH hS (c_M_gcd e19) w_M_gcd q_670 [] rfl ⟨Nat.le_of_ble_eq_true rfl, Nat.le_of_ble_eq_true rfl⟩ hl.1 rfl rfl (Nat.le_of_ble_eq_true rfl) d_M_multiply_11 (fun H locs hH hS => ?_)
  refine lv_lstore (lv' := [(12, .long l20), (10, .long l18), (0, .ref this), (1, .long x1), (3, .long x3), (5, .long x5), (7, .long x7), (9, .int x9)]) M.x M.b d_M_multiply_14 hl (by decide) rfl (fun ls hl => ?_)
  refine lv_lload_n M.x M.b d_M_multiply_16 rfl (lv_at hl 3 rfl) ?_
  refine lv_lload M.x M.b d_M_multiply_17 (lv_at hl 1 rfl) ?_
  refine lv_lconst (v := (0 : Int64)) M.x M.b d_M_multiply_19 rfl ?_
  refine z_lcmp_ne (tgt := 28) M d_M_multiply_20 d_M_multiply_21 (by decide) (fun c21 => ?_) (fun c21 => ?_)
  · replace hf := z_f c21 hf
    refine lv_lload M.x M.b d_M_multiply_28 (lv_at hl 1 rfl) ?_
    exact w_M_multiply_30 M this _ _ _ _ _ _ _ _ _ hf H locs ls hH hS (lv_sub hl [2, 4, 5, 6, 7, 1, 0] rfl)
  · replace hf := z_t c21 hf
    refine lv_lconst (v := (1 : Int64)) M.x M.b d_M_multiply_24 rfl ?_
    refine lv_goto (tgt := 30) M.x M.b d_M_multiply_25 (by decide) ?_
    exact w_M_multiply_30 M this _ _ _ _ _ _ _ _ _ hf H locs ls hH hS (lv_sub hl [2, 4, 5, 6, 7, 1, 0] rfl)
def f_M_compare_84 (x16 : Int32) (x21 : Int64) (x23 : Int64) : Option (Int32) :=
  if x21 = x23 then
    some (0 : Int32)
  else
  if x21 = (0 : Int64) then
    some (-x16)
  else
  some x16
set_option maxRecDepth 100000 in
set_option maxHeartbeats 4000000 in
theorem w_M_compare_84 {p : Program} {l : Launch} {e : Env} {s : State} {m : MethodId} {args : Array Value} {below : List Frame} {meth : Method} {c : Code} {N0 : Nat} {D : va_G} {cs : Nat → ClassId} (M : ZC p s m args meth c "YearBasketsModel" "compare" b_M_compare 25 (some .int) N0 D cs)  {h : Hp}  {r0 : Int32}  (x16 : Int32) (x21 : Int64) (x23 : Int64) (hf : f_M_compare_84 x16 x21 x23 = some r0) : ZG p l e (zrm 1 0 0) s m args below meth c N0 D cs (some (.int r0)) h h 25 [(16, .int x16), (21, .long x21), (23, .long x23)] 84 [] := by
  intro H locs ls hH hS hl
  unfold f_M_compare_84 at hf
  refine lv_lload M.x M.b d_M_compare_84 (lv_at hl 1 rfl) ?_
  refine lv_lload M.x M.b d_M_compare_86 (lv_at hl 2 rfl) ?_
  refine z_lcmp_ne (tgt := 96) M d_M_compare_88 d_M_compare_89 (by decide) (fun c2 => ?_) (fun c2 => ?_)
  · replace hf := z_f c2 hf
    refine lv_lload M.x M.b d_M_compare_96 (lv_at hl 1 rfl) ?_
    refine lv_lconst (v := (0 : Int64)) M.x M.b d_M_compare_98 rfl ?_
    refine z_lcmp_ne (tgt := 109) M d_M_compare_99 d_M_compare_100 (by decide) (fun c1 => ?_) (fun c1 => ?_)
    · replace hf := z_f c1 hf
      refine lv_iload M.x M.b d_M_compare_109 (lv_at hl 0 rfl) ?_
      obtain rfl := z_r1 hf
      exact z_iret M hH hS d_M_compare_111
    · replace hf := z_t c1 hf
      refine lv_iload M.x M.b d_M_compare_103 (lv_at hl 0 rfl) ?_
      refine lv_ineg M.x M.b d_M_compare_105 ?_
      refine lv_goto (tgt := 111) M.x M.b d_M_compare_106 (by decide) ?_
      obtain rfl := z_r1 hf
      exact z_iret M hH hS d_M_compare_111
  · replace hf := z_t c2 hf
    refine lv_iconst (v := (0 : Int32)) M.x M.b d_M_compare_92 rfl ?_
    refine lv_goto (tgt := 111) M.x M.b d_M_compare_93 (by decide) ?_
    obtain rfl := z_r1 hf
    exact z_iret M hH hS d_M_compare_111
def t_M_compare_17 (k17 : Int64 → Int64 → Int64 → Int64 → Int32 → Option (Int32)) (x8 : Int64) (x10 : Int64) (x12 : Int64) (x14 : Int64) (x16 : Int32) : Option (Int32) :=
  if x10 = 0 then none else
  if x14 = 0 then none else
  if (x8 / x10) = (x12 / x14) then
    if x10 = 0 then none else
    if x14 = 0 then none else
    if (x8 - x8 / x10 * x10) = (0 : Int64) then
      f_M_compare_84  x16 (x8 - x8 / x10 * x10) (x12 - x12 / x14 * x14)
    else
    if (x12 - x12 / x14 * x14) = (0 : Int64) then
      f_M_compare_84  x16 (x8 - x8 / x10 * x10) (x12 - x12 / x14 * x14)
    else
    k17 x10 (x8 - x8 / x10 * x10) x14 (x12 - x12 / x14 * x14) (-x16)
  else
  if (x12 / x14) ≤ (x8 / x10) then
    some x16
  else
  some (-x16)
set_option maxRecDepth 100000 in
set_option maxHeartbeats 4000000 in
theorem v_M_compare_17 {p : Program} {l : Launch} {e : Env} {s : State} {m : MethodId} {args : Array Value} {below : List Frame} {meth : Method} {c : Code} {N0 : Nat} {D : va_G} {cs : Nat → ClassId} (M : ZC p s m args meth c "YearBasketsModel" "compare" b_M_compare 25 (some .int) N0 D cs)  {h : Hp} (k17 : Int64 → Int64 → Int64 → Int64 → Int32 → Option (Int32)) {r0 : Int32} (hk17 : ∀ (x8 : Int64) (x10 : Int64) (x12 : Int64) (x14 : Int64) (x16 : Int32), k17 x8 x10 x12 x14 x16 = some r0 → ZG p l e (zrm 1 0 0) s m args below meth c N0 D cs (some (.int r0)) h h 25 [(8, .long x8), (10, .long x10), (12, .long x12), (14, .long x14), (16, .int x16)] 17 []) (x8 : Int64) (x10 : Int64) (x12 : Int64) (x14 : Int64) (x16 : Int32) (hf : t_M_compare_17 k17 x8 x10 x12 x14 x16 = some r0) : ZG p l e (zrm 1 0 0) s m args below meth c N0 D cs (some (.int r0)) h h 25 [(8, .long x8), (10, .long x10), (12, .long x12), (14, .long x14), (16, .int x16)] 17 [] := by
  intro H locs ls hH hS hl
  unfold t_M_compare_17 at hf
  refine lv_lload M.x M.b d_M_compare_17 (lv_at hl 0 rfl) ?_
  refine lv_lload M.x M.b d_M_compare_19 (lv_at hl 1 rfl) ?_
  replace hf := z_gn hf; obtain ⟨c10, hf⟩ := hf
  refine lv_ldiv M.x M.b d_M_compare_21 c10 ?_
  refine lv_lstore (lv' := [(17, .long (x8 / x10)), (8, .long x8), (10, .long x10), (12, .long x12), (14, .long x14), (16, .int x16)]) M.x M.b d_M_compare_22 hl (by decide) rfl (fun ls hl => ?_)
  refine lv_lload M.x M.b d_M_compare_24 (lv_at hl 3 rfl) ?_
  refine lv_lload M.x M.b d_M_compare_26 (lv_at hl 4 rfl) ?_
  replace hf := z_gn hf; obtain ⟨c9, hf⟩ := hf
  refine lv_ldiv M.x M.b d_M_compare_28 c9 ?_
  refine lv_lstore (lv' := [(19, .long (x12 / x14)), (17, .long (x8 / x10)), (8, .long x8), (10, .long x10), (12, .long x12), (14, .long x14), (16, .int x16)]) M.x M.b d_M_compare_29 hl (by decide) rfl (fun ls hl => ?_)
  refine lv_lload M.x M.b d_M_compare_31 (lv_at hl 1 rfl) ?_
  refine lv_lload M.x M.b d_M_compare_33 (lv_at hl 0 rfl) ?_
  refine z_lcmp_eq (tgt := 56) M d_M_compare_35 d_M_compare_36 (by decide) (fun c8 => ?_) (fun c8 => ?_)
  · replace hf := z_t c8 hf
    refine lv_lload M.x M.b d_M_compare_56 (lv_at hl 2 rfl) ?_
    refine lv_lload M.x M.b d_M_compare_58 (lv_at hl 3 rfl) ?_
    replace hf := z_gn hf; obtain ⟨c6, hf⟩ := hf
    refine lv_lrem M.x M.b d_M_compare_60 c6 ?_
    refine lv_lstore (lv' := [(21, .long (x8 - x8 / x10 * x10)), (19, .long (x12 / x14)), (17, .long (x8 / x10)), (8, .long x8), (10, .long x10), (12, .long x12), (14, .long x14), (16, .int x16)]) M.x M.b d_M_compare_61 hl (by decide) rfl (fun ls hl => ?_)
    refine lv_lload M.x M.b d_M_compare_63 (lv_at hl 5 rfl) ?_
    refine lv_lload M.x M.b d_M_compare_65 (lv_at hl 6 rfl) ?_
    replace hf := z_gn hf; obtain ⟨c5, hf⟩ := hf
    refine lv_lrem M.x M.b d_M_compare_67 c5 ?_
    refine lv_lstore (lv' := [(23, .long (x12 - x12 / x14 * x14)), (21, .long (x8 - x8 / x10 * x10)), (19, .long (x12 / x14)), (17, .long (x8 / x10)), (8, .long x8), (10, .long x10), (12, .long x12), (14, .long x14), (16, .int x16)]) M.x M.b d_M_compare_68 hl (by decide) rfl (fun ls hl => ?_)
    refine lv_lload M.x M.b d_M_compare_70 (lv_at hl 1 rfl) ?_
    refine lv_lconst (v := (0 : Int64)) M.x M.b d_M_compare_72 rfl ?_
    refine z_lcmp_eq (tgt := 84) M d_M_compare_73 d_M_compare_74 (by decide) (fun c4 => ?_) (fun c4 => ?_)
    · replace hf := z_t c4 hf
      exact w_M_compare_84 M  _ _ _ hf H locs ls hH hS (lv_sub hl [8, 1, 0] rfl)
    · replace hf := z_f c4 hf
      refine lv_lload M.x M.b d_M_compare_77 (lv_at hl 0 rfl) ?_
      refine lv_lconst (v := (0 : Int64)) M.x M.b d_M_compare_79 rfl ?_
      refine z_lcmp_ne (tgt := 112) M d_M_compare_80 d_M_compare_81 (by decide) (fun c3 => ?_) (fun c3 => ?_)
      · replace hf := z_f c3 hf
        refine lv_lload M.x M.b d_M_compare_112 (lv_at hl 5 rfl) ?_
        refine lv_lstore (lv' := [(8, .long x10), (23, .long (x12 - x12 / x14 * x14)), (21, .long (x8 - x8 / x10 * x10)), (19, .long (x12 / x14)), (17, .long (x8 / x10)), (10, .long x10), (12, .long x12), (14, .long x14), (16, .int x16)]) M.x M.b d_M_compare_114 hl (by decide) rfl (fun ls hl => ?_)
        refine lv_lload M.x M.b d_M_compare_116 (lv_at hl 2 rfl) ?_
        refine lv_lstore (lv' := [(10, .long (x8 - x8 / x10 * x10)), (8, .long x10), (23, .long (x12 - x12 / x14 * x14)), (21, .long (x8 - x8 / x10 * x10)), (19, .long (x12 / x14)), (17, .long (x8 / x10)), (12, .long x12), (14, .long x14), (16, .int x16)]) M.x M.b d_M_compare_118 hl (by decide) rfl (fun ls hl => ?_)
        refine lv_lload M.x M.b d_M_compare_120 (lv_at hl 7 rfl) ?_
        refine lv_lstore (lv' := [(12, .long x14), (10, .long (x8 - x8 / x10 * x10)), (8, .long x10), (23, .long (x12 - x12 / x14 * x14)), (21, .long (x8 - x8 / x10 * x10)), (19, .long (x12 / x14)), (17, .long (x8 / x10)), (14, .long x14), (16, .int x16)]) M.x M.b d_M_compare_122 hl (by decide) rfl (fun ls hl => ?_)
        refine lv_lload M.x M.b d_M_compare_124 (lv_at hl 3 rfl) ?_
        refine lv_lstore (lv' := [(14, .long (x12 - x12 / x14 * x14)), (12, .long x14), (10, .long (x8 - x8 / x10 * x10)), (8, .long x10), (23, .long (x12 - x12 / x14 * x14)), (21, .long (x8 - x8 / x10 * x10)), (19, .long (x12 / x14)), (17, .long (x8 / x10)), (16, .int x16)]) M.x M.b d_M_compare_126 hl (by decide) rfl (fun ls hl => ?_)
        refine lv_iload M.x M.b d_M_compare_128 (lv_at hl 8 rfl) ?_
        refine lv_ineg M.x M.b d_M_compare_130 ?_
        refine lv_istore (lv' := [(16, .int (-x16)), (14, .long (x12 - x12 / x14 * x14)), (12, .long x14), (10, .long (x8 - x8 / x10 * x10)), (8, .long x10), (23, .long (x12 - x12 / x14 * x14)), (21, .long (x8 - x8 / x10 * x10)), (19, .long (x12 / x14)), (17, .long (x8 / x10))]) M.x M.b d_M_compare_131 hl (by decide) rfl (fun ls hl => ?_)
        refine lv_goto (tgt := 17) M.x M.b d_M_compare_133 (by decide) ?_
        exact hk17 _ _ _ _ _ hf H locs ls hH hS (lv_sub hl [4, 3, 2, 1, 0] rfl)
      · replace hf := z_t c3 hf
        exact w_M_compare_84 M  _ _ _ hf H locs ls hH hS (lv_sub hl [8, 1, 0] rfl)
  · replace hf := z_f c8 hf
    refine lv_lload M.x M.b d_M_compare_39 (lv_at hl 1 rfl) ?_
    refine lv_lload M.x M.b d_M_compare_41 (lv_at hl 0 rfl) ?_
    refine z_lcmp_ge (tgt := 53) M d_M_compare_43 d_M_compare_44 (by decide) (fun c7 => ?_) (fun c7 => ?_)
    · replace hf := z_t c7 hf
      refine lv_iload M.x M.b d_M_compare_53 (lv_at hl 6 rfl) ?_
      obtain rfl := z_r1 hf
      exact z_iret M hH hS d_M_compare_55
    · replace hf := z_f c7 hf
      refine lv_iload M.x M.b d_M_compare_47 (lv_at hl 6 rfl) ?_
      refine lv_ineg M.x M.b d_M_compare_49 ?_
      refine lv_goto (tgt := 55) M.x M.b d_M_compare_50 (by decide) ?_
      obtain rfl := z_r1 hf
      exact z_iret M hH hS d_M_compare_55
def f_M_compare_17  : Nat → Int64 → Int64 → Int64 → Int64 → Int32 → Option (Int32)
  | 0, _, _, _, _, _ => none
  | n + 1, x8, x10, x12, x14, x16 => t_M_compare_17 (f_M_compare_17 n) x8 x10 x12 x14 x16
theorem w_M_compare_17 {p : Program} {l : Launch} {e : Env} {s : State} {m : MethodId} {args : Array Value} {below : List Frame} {meth : Method} {c : Code} {N0 : Nat} {D : va_G} {cs : Nat → ClassId} (M : ZC p s m args meth c "YearBasketsModel" "compare" b_M_compare 25 (some .int) N0 D cs)  {h : Hp}  {r0 : Int32}  : ∀ (n : Nat) (x8 : Int64) (x10 : Int64) (x12 : Int64) (x14 : Int64) (x16 : Int32), f_M_compare_17 n x8 x10 x12 x14 x16 = some r0 → ZG p l e (zrm 1 0 0) s m args below meth c N0 D cs (some (.int r0)) h h 25 [(8, .long x8), (10, .long x10), (12, .long x12), (14, .long x14), (16, .int x16)] 17 [] := by
  intro n
  induction n with
  | zero => intro x8 x10 x12 x14 x16 hf; exact absurd (show none = some _ from hf) (fun q => by cases q)
  | succ n ih => intro x8 x10 x12 x14 x16 hf; exact v_M_compare_17 M (f_M_compare_17 n)  ih _ _ _ _ _ hf
def f_M_compare (x0 : Int64) (x2 : Int64) (x4 : Int64) (x6 : Int64) : Option (Int32) :=
  f_M_compare_17  FU x0 x2 x4 x6 (1 : Int32)
set_option maxRecDepth 100000 in
set_option maxHeartbeats 4000000 in
theorem c_M_compare {l : Launch} {N0 : Nat} {D : va_G} {cs : Nat → ClassId} {x0 : Int64} {x2 : Int64} {x4 : Int64} {x6 : Int64} {r0 : Int32} {h : Hp} (hf : f_M_compare x0 x2 x4 x6 = some r0) : Fn l N0 D cs y_M_compare b_M_compare 25 (some .int) 1 0 0 [.long x0, .long x2, .long x4, .long x6] h (some (.int r0)) h := by
  refine z_start (by decide) (Nat.le_of_ble_eq_true rfl) ?_
  intro p e s m args below meth c M hH hS ls hl
  unfold f_M_compare at hf
  have hl : lv_has ls 25 [(0, .long x0), (2, .long x2), (4, .long x4), (6, .long x6)] := hl
  obtain ⟨H, hHe⟩ : ∃ H, H = s.heap := ⟨_, rfl⟩
  obtain ⟨locs, hLe⟩ : ∃ locs : List Loc, locs = [] := ⟨_, rfl⟩
  have hS : va_S (zA N0) s.heap H locs := by rw [hHe, hLe]; exact hS
  have hH : HH N0 D cs h H := by rw [hHe]; exact hH
  suffices hg : W p l e (zrm 1 0 0) s m args below meth c H locs 0 0 (MQ below (zQ N0 D cs (some (.int r0)) h) args s 0 0 (zA N0)) (F0 m 0 ls []) by rw [hHe, hLe] at hg; exact hg
  clear hHe hLe
  refine lv_lload_n M.x M.b d_M_compare_0 rfl (lv_at hl 0 rfl) ?_
  refine lv_lstore (lv' := [(8, .long x0), (0, .long x0), (2, .long x2), (4, .long x4), (6, .long x6)]) M.x M.b d_M_compare_1 hl (by decide) rfl (fun ls hl => ?_)
  refine lv_lload_n M.x M.b d_M_compare_3 rfl (lv_at hl 2 rfl) ?_
  refine lv_lstore (lv' := [(10, .long x2), (8, .long x0), (0, .long x0), (2, .long x2), (4, .long x4), (6, .long x6)]) M.x M.b d_M_compare_4 hl (by decide) rfl (fun ls hl => ?_)
  refine lv_lload M.x M.b d_M_compare_6 (lv_at hl 4 rfl) ?_
  refine lv_lstore (lv' := [(12, .long x4), (10, .long x2), (8, .long x0), (0, .long x0), (2, .long x2), (4, .long x4), (6, .long x6)]) M.x M.b d_M_compare_8 hl (by decide) rfl (fun ls hl => ?_)
  refine lv_lload M.x M.b d_M_compare_10 (lv_at hl 6 rfl) ?_
  refine lv_lstore (lv' := [(14, .long x6), (12, .long x4), (10, .long x2), (8, .long x0), (0, .long x0), (2, .long x2), (4, .long x4), (6, .long x6)]) M.x M.b d_M_compare_12 hl (by decide) rfl (fun ls hl => ?_)
  refine lv_iconst (v := (1 : Int32)) M.x M.b d_M_compare_14 rfl ?_
  refine lv_istore (lv' := [(16, .int (1 : Int32)), (14, .long x6), (12, .long x4), (10, .long x2), (8, .long x0), (0, .long x0), (2, .long x2), (4, .long x4), (6, .long x6)]) M.x M.b d_M_compare_15 hl (by decide) rfl (fun ls hl => ?_)
  exact w_M_compare_17 M  FU _ _ _ _ _ hf H locs ls hH hS (lv_sub hl [4, 3, 2, 1, 0] rfl)
def f_M_orderOf_100 (this : Nat) (x11 : Int64) (x13 : Int64) (x15 : Int64) (x17 : Int64) (h : Hp) : Option ((Int32 × Hp)) :=
  (f_M_compare x11 x13 x15 x17).bind fun i2 =>
  (pV h this 8 17 (.int i2)).bind fun h3 =>
  some ((0 : Int32), h3)
set_option maxRecDepth 100000 in
set_option maxHeartbeats 4000000 in
theorem w_M_orderOf_100 {p : Program} {l : Launch} {e : Env} {s : State} {m : MethodId} {args : Array Value} {below : List Frame} {meth : Method} {c : Code} {N0 : Nat} {D : va_G} {cs : Nat → ClassId} (M : ZC p s m args meth c "YearBasketsModel" "orderOf" b_M_orderOf 20 (some .int) N0 D cs) (this : Nat)  {r0 : Int32} {h0 : Hp}  (x11 : Int64) (x13 : Int64) (x15 : Int64) (x17 : Int64) (h : Hp) (hf : f_M_orderOf_100 this x11 x13 x15 x17 h = some (r0, h0)) : ZG p l e (zrm 4 0 0) s m args below meth c N0 D cs (some (.int r0)) h0 h 20 [(0, .ref this), (11, .long x11), (13, .long x13), (15, .long x15), (17, .long x17)] 100 [] := by
  intro H locs ls hH hS hl
  unfold f_M_orderOf_100 at hf
  refine lv_aload_n M.x M.b d_M_orderOf_100 rfl (lv_at hl 0 rfl) ?_
  refine lv_lload M.x M.b d_M_orderOf_101 (lv_at hl 1 rfl) ?_
  refine lv_lload M.x M.b d_M_orderOf_103 (lv_at hl 2 rfl) ?_
  refine lv_lload M.x M.b d_M_orderOf_105 (lv_at hl 3 rfl) ?_
  refine lv_lload M.x M.b d_M_orderOf_107 (lv_at hl 4 rfl) ?_
  replace hf := z_bind hf; obtain ⟨i2, e1, hf⟩ := hf
  refine zk_S (st1 := [.int i2, .ref this]) M hH hS (c_M_compare e1) w_M_compare q_681 [.ref this] rfl ⟨Nat.le_of_ble_eq_true rfl, Nat.le_of_ble_eq_true rfl⟩ hl.1 rfl rfl (Nat.le_of_ble_eq_true rfl) d_M_orderOf_109 (fun H locs hH hS => ?_)
  replace hf := z_bind hf; obtain ⟨h3, e4, hf⟩ := hf
  refine z_put (ci := 8) (k := 17) M hH hS rfl (by decide) zinM zYM zYM_ok zNM_ok rfl q_680 rfl rfl rfl e4 d_M_orderOf_112 (fun H locs hH hS => ?_)
  refine lv_iconst (v := (0 : Int32)) M.x M.b d_M_orderOf_115 rfl ?_
  obtain ⟨rfl, rfl⟩ := z_r2 hf
  exact z_iret M hH hS d_M_orderOf_116
def f_M_orderOf_59 (this : Nat) (x1 : Int64) (x3 : Int64) (x5 : Int32) (x10 : Int32) (x11 : Int64) (x13 : Int64) (x15 : Int64) (x17 : Int64) (h : Hp) : Option ((Int32 × Hp)) :=
  if x10 = 0 then
    f_M_orderOf_100 this x11 x13 x15 x17 h
  else
  if x5 = 0 then
    zb2 (f_M_multiply this x1 x3 x1 x3 (0 : Int32) h) fun i6 h7 =>
    if 0 ≤ i6 then
      (gL h7 this 8 14).bind fun l8 =>
      (gL h7 this 8 15).bind fun l10 =>
      f_M_orderOf_100 this l8 l10 x15 x17 h7
    else
    some (i6, h7)
  else
  f_M_orderOf_100 this x11 x13 x15 x17 h
set_option maxRecDepth 100000 in
set_option maxHeartbeats 4000000 in
theorem w_M_orderOf_59 {p : Program} {l : Launch} {e : Env} {s : State} {m : MethodId} {args : Array Value} {below : List Frame} {meth : Method} {c : Code} {N0 : Nat} {D : va_G} {cs : Nat → ClassId} (M : ZC p s m args meth c "YearBasketsModel" "orderOf" b_M_orderOf 20 (some .int) N0 D cs) (this : Nat)  {r0 : Int32} {h0 : Hp}  (x1 : Int64) (x3 : Int64) (x5 : Int32) (x10 : Int32) (x11 : Int64) (x13 : Int64) (x15 : Int64) (x17 : Int64) (h : Hp) (hf : f_M_orderOf_59 this x1 x3 x5 x10 x11 x13 x15 x17 h = some (r0, h0)) : ZG p l e (zrm 4 0 0) s m args below meth c N0 D cs (some (.int r0)) h0 h 20 [(0, .ref this), (1, .long x1), (3, .long x3), (5, .int x5), (10, .int x10), (11, .long x11), (13, .long x13), (15, .long x15), (17, .long x17)] 59 [] := by
  intro H locs ls hH hS hl
  unfold f_M_orderOf_59 at hf
  refine lv_iload M.x M.b d_M_orderOf_59 (lv_at hl 4 rfl) ?_
  refine lv_if_eq (tgt := 100) M.x M.b d_M_orderOf_61 (by decide) (fun c14 => ?_) (fun c14 => ?_)
  · replace hf := z_t c14 hf
    exact w_M_orderOf_100 M this _ _ _ _ _ hf H locs ls hH hS (lv_sub hl [0, 5, 6, 7, 8] rfl)
  · replace hf := z_f c14 hf
    refine lv_iload M.x M.b d_M_orderOf_64 (lv_at hl 3 rfl) ?_
    refine lv_if_ne (tgt := 100) M.x M.b d_M_orderOf_66 (by decide) (fun c13 => ?_) (fun c13 => ?_)
    · replace hf := z_f c13 hf
      exact w_M_orderOf_100 M this _ _ _ _ _ hf H locs ls hH hS (lv_sub hl [0, 5, 6, 7, 8] rfl)
    · replace hf := z_t c13 hf
      refine lv_aload_n M.x M.b d_M_orderOf_69 rfl (lv_at hl 0 rfl) ?_
      refine lv_lload_n M.x M.b d_M_orderOf_70 rfl (lv_at hl 1 rfl) ?_
      refine lv_lload_n M.x M.b d_M_orderOf_71 rfl (lv_at hl 2 rfl) ?_
      refine lv_lload_n M.x M.b d_M_orderOf_72 rfl (lv_at hl 1 rfl) ?_
      refine lv_lload_n M.x M.b d_M_orderOf_73 rfl (lv_at hl 2 rfl) ?_
      refine lv_iconst (v := (0 : Int32)) M.x M.b d_M_orderOf_74 rfl ?_
      replace hf := z_bind2 hf; obtain ⟨i6, h7, e5, hf⟩ := hf
      refine zk_V (ci := 8) (st1 := [.int i6]) M hH hS (c_M_multiply e5) rfl (o_M_multiply e5) w_M_multiply q_682 [] rfl ⟨Nat.le_of_ble_eq_true rfl, Nat.le_of_ble_eq_true rfl⟩ hl.1 rfl rfl (Nat.le_of_ble_eq_true rfl) d_M_orderOf_75 (fun H locs hH hS => ?_)
      refine lv_istore (lv' := [(19, .int i6), (0, .ref this), (1, .long x1), (3, .long x3), (5, .int x5), (10, .int x10), (11, .long x11), (13, .long x13), (15, .long x15), (17, .long x17)]) M.x M.b d_M_orderOf_78 hl (by decide) rfl (fun ls hl => ?_)
      refine lv_iload M.x M.b d_M_orderOf_80 (lv_at hl 0 rfl) ?_
      refine lv_if_ge (tgt := 88) M.x M.b d_M_orderOf_82 (by decide) (fun c12 => ?_) (fun c12 => ?_)
      · replace hf := z_t c12 hf
        refine lv_aload_n M.x M.b d_M_orderOf_88 rfl (lv_at hl 1 rfl) ?_
        replace hf := z_bind hf; obtain ⟨l8, e9, hf⟩ := hf
        refine z_get (ci := 8) (k := 14) M hH rfl (by decide) zinM q_668 (gL_spec e9) d_M_orderOf_89 ?_
        refine lv_lstore (lv' := [(11, .long l8), (19, .int i6), (0, .ref this), (1, .long x1), (3, .long x3), (5, .int x5), (10, .int x10), (13, .long x13), (15, .long x15), (17, .long x17)]) M.x M.b d_M_orderOf_92 hl (by decide) rfl (fun ls hl => ?_)
        refine lv_aload_n M.x M.b d_M_orderOf_94 rfl (lv_at hl 2 rfl) ?_
        replace hf := z_bind hf; obtain ⟨l10, e11, hf⟩ := hf
        refine z_get (ci := 8) (k := 15) M hH rfl (by decide) zinM q_667 (gL_spec e11) d_M_orderOf_95 ?_
        refine lv_lstore (lv' := [(13, .long l10), (11, .long l8), (19, .int i6), (0, .ref this), (1, .long x1), (3, .long x3), (5, .int x5), (10, .int x10), (15, .long x15), (17, .long x17)]) M.x M.b d_M_orderOf_98 hl (by decide) rfl (fun ls hl => ?_)
        exact w_M_orderOf_100 M this _ _ _ _ _ hf H locs ls hH hS (lv_sub hl [3, 1, 0, 8, 9] rfl)
      · replace hf := z_f c12 hf
        refine lv_iload M.x M.b d_M_orderOf_85 (lv_at hl 0 rfl) ?_
        obtain ⟨rfl, rfl⟩ := z_r2 hf
        exact z_iret M hH hS d_M_orderOf_87
def f_M_orderOf (this : Nat) (x1 : Int64) (x3 : Int64) (x5 : Int32) (x6 : Int64) (x8 : Int64) (x10 : Int32) (h : Hp) : Option ((Int32 × Hp)) :=
  if isO h this 8 = true then
  if x5 = 0 then
    f_M_orderOf_59 this x1 x3 x5 x10 x1 x3 x6 x8 h
  else
  if x10 = 0 then
    zb2 (f_M_multiply this x6 x8 x6 x8 (0 : Int32) h) fun i16 h17 =>
    if 0 ≤ i16 then
      (gL h17 this 8 14).bind fun l18 =>
      (gL h17 this 8 15).bind fun l20 =>
      f_M_orderOf_59 this x1 x3 x5 x10 x1 x3 l18 l20 h17
    else
    some (i16, h17)
  else
  f_M_orderOf_59 this x1 x3 x5 x10 x1 x3 x6 x8 h
  else none
theorem o_M_orderOf {this : Nat} {x1 : Int64} {x3 : Int64} {x5 : Int32} {x6 : Int64} {x8 : Int64} {x10 : Int32} {h : Hp} {r0 : Int32} {h0 : Hp} (hf : f_M_orderOf this x1 x3 x5 x6 x8 x10 h = some (r0, h0)) : isO h this 8 = true := by
  unfold f_M_orderOf at hf
  exact (z_gd hf).1
set_option maxRecDepth 100000 in
set_option maxHeartbeats 4000000 in
theorem c_M_orderOf {l : Launch} {N0 : Nat} {D : va_G} {cs : Nat → ClassId} {this : Nat} {x1 : Int64} {x3 : Int64} {x5 : Int32} {x6 : Int64} {x8 : Int64} {x10 : Int32} {h : Hp} {r0 : Int32} {h0 : Hp} (hf : f_M_orderOf this x1 x3 x5 x6 x8 x10 h = some (r0, h0)) : Fn l N0 D cs y_M_orderOf b_M_orderOf 20 (some .int) 4 0 0 [.ref this, .long x1, .long x3, .int x5, .long x6, .long x8, .int x10] h (some (.int r0)) h0 := by
  refine z_start (by decide) (Nat.le_of_ble_eq_true rfl) ?_
  intro p e s m args below meth c M hH hS ls hl
  unfold f_M_orderOf at hf
  obtain ⟨hO, hf⟩ := z_gd hf
  have hl : lv_has ls 20 [(0, .ref this), (1, .long x1), (3, .long x3), (5, .int x5), (6, .long x6), (8, .long x8), (10, .int x10)] := hl
  obtain ⟨H, hHe⟩ : ∃ H, H = s.heap := ⟨_, rfl⟩
  obtain ⟨locs, hLe⟩ : ∃ locs : List Loc, locs = [] := ⟨_, rfl⟩
  have hS : va_S (zA N0) s.heap H locs := by rw [hHe, hLe]; exact hS
  have hH : HH N0 D cs h H := by rw [hHe]; exact hH
  suffices hg : W p l e (zrm 4 0 0) s m args below meth c H locs 0 0 (MQ below (zQ N0 D cs (some (.int r0)) h0) args s 0 0 (zA N0)) (F0 m 0 ls []) by rw [hHe, hLe] at hg; exact hg
  clear hHe hLe
  refine lv_lload_n M.x M.b d_M_orderOf_0 rfl (lv_at hl 1 rfl) ?_
  refine lv_lstore (lv' := [(11, .long x1), (0, .ref this), (1, .long x1), (3, .long x3), (5, .int x5), (6, .long x6), (8, .long x8), (10, .int x10)]) M.x M.b d_M_orderOf_1 hl (by decide) rfl (fun ls hl => ?_)
  refine lv_lload_n M.x M.b d_M_orderOf_3 rfl (lv_at hl 3 rfl) ?_
  refine lv_lstore (lv' := [(13, .long x3), (11, .long x1), (0, .ref this), (1, .long x1), (3, .long x3), (5, .int x5), (6, .long x6), (8, .long x8), (10, .int x10)]) M.x M.b d_M_orderOf_4 hl (by decide) rfl (fun ls hl => ?_)
  refine lv_lload M.x M.b d_M_orderOf_6 (lv_at hl 6 rfl) ?_
  refine lv_lstore (lv' := [(15, .long x6), (13, .long x3), (11, .long x1), (0, .ref this), (1, .long x1), (3, .long x3), (5, .int x5), (6, .long x6), (8, .long x8), (10, .int x10)]) M.x M.b d_M_orderOf_8 hl (by decide) rfl (fun ls hl => ?_)
  refine lv_lload M.x M.b d_M_orderOf_10 (lv_at hl 8 rfl) ?_
  refine lv_lstore (lv' := [(17, .long x8), (15, .long x6), (13, .long x3), (11, .long x1), (0, .ref this), (1, .long x1), (3, .long x3), (5, .int x5), (6, .long x6), (8, .long x8), (10, .int x10)]) M.x M.b d_M_orderOf_12 hl (by decide) rfl (fun ls hl => ?_)
  refine lv_iload M.x M.b d_M_orderOf_14 (lv_at hl 7 rfl) ?_
  refine lv_if_eq (tgt := 59) M.x M.b d_M_orderOf_16 (by decide) (fun c24 => ?_) (fun c24 => ?_)
  · replace hf := z_t c24 hf
    exact w_M_orderOf_59 M this _ _ _ _ _ _ _ _ _ hf H locs ls hH hS (lv_sub hl [4, 5, 6, 7, 10, 3, 2, 1, 0] rfl)
  · replace hf := z_f c24 hf
    refine lv_iload M.x M.b d_M_orderOf_19 (lv_at hl 10 rfl) ?_
    refine lv_if_ne (tgt := 59) M.x M.b d_M_orderOf_21 (by decide) (fun c23 => ?_) (fun c23 => ?_)
    · replace hf := z_f c23 hf
      exact w_M_orderOf_59 M this _ _ _ _ _ _ _ _ _ hf H locs ls hH hS (lv_sub hl [4, 5, 6, 7, 10, 3, 2, 1, 0] rfl)
    · replace hf := z_t c23 hf
      refine lv_aload_n M.x M.b d_M_orderOf_24 rfl (lv_at hl 4 rfl) ?_
      refine lv_lload M.x M.b d_M_orderOf_25 (lv_at hl 8 rfl) ?_
      refine lv_lload M.x M.b d_M_orderOf_27 (lv_at hl 9 rfl) ?_
      refine lv_lload M.x M.b d_M_orderOf_29 (lv_at hl 8 rfl) ?_
      refine lv_lload M.x M.b d_M_orderOf_31 (lv_at hl 9 rfl) ?_
      refine lv_iconst (v := (0 : Int32)) M.x M.b d_M_orderOf_33 rfl ?_
      replace hf := z_bind2 hf; obtain ⟨i16, h17, e15, hf⟩ := hf
      refine zk_V (ci := 8) (st1 := [.int i16]) M hH hS (c_M_multiply e15) rfl (o_M_multiply e15) w_M_multiply q_682 [] rfl ⟨Nat.le_of_ble_eq_true rfl, Nat.le_of_ble_eq_true rfl⟩ hl.1 rfl rfl (Nat.le_of_ble_eq_true rfl) d_M_orderOf_34 (fun H locs hH hS => ?_)
      refine lv_istore (lv' := [(19, .int i16), (17, .long x8), (15, .long x6), (13, .long x3), (11, .long x1), (0, .ref this), (1, .long x1), (3, .long x3), (5, .int x5), (6, .long x6), (8, .long x8), (10, .int x10)]) M.x M.b d_M_orderOf_37 hl (by decide) rfl (fun ls hl => ?_)
      refine lv_iload M.x M.b d_M_orderOf_39 (lv_at hl 0 rfl) ?_
      refine lv_if_ge (tgt := 47) M.x M.b d_M_orderOf_41 (by decide) (fun c22 => ?_) (fun c22 => ?_)
      · replace hf := z_t c22 hf
        refine lv_aload_n M.x M.b d_M_orderOf_47 rfl (lv_at hl 5 rfl) ?_
        replace hf := z_bind hf; obtain ⟨l18, e19, hf⟩ := hf
        refine z_get (ci := 8) (k := 14) M hH rfl (by decide) zinM q_668 (gL_spec e19) d_M_orderOf_48 ?_
        refine lv_lstore (lv' := [(15, .long l18), (19, .int i16), (17, .long x8), (13, .long x3), (11, .long x1), (0, .ref this), (1, .long x1), (3, .long x3), (5, .int x5), (6, .long x6), (8, .long x8), (10, .int x10)]) M.x M.b d_M_orderOf_51 hl (by decide) rfl (fun ls hl => ?_)
        refine lv_aload_n M.x M.b d_M_orderOf_53 rfl (lv_at hl 5 rfl) ?_
        replace hf := z_bind hf; obtain ⟨l20, e21, hf⟩ := hf
        refine z_get (ci := 8) (k := 15) M hH rfl (by decide) zinM q_667 (gL_spec e21) d_M_orderOf_54 ?_
        refine lv_lstore (lv' := [(17, .long l20), (15, .long l18), (19, .int i16), (13, .long x3), (11, .long x1), (0, .ref this), (1, .long x1), (3, .long x3), (5, .int x5), (6, .long x6), (8, .long x8), (10, .int x10)]) M.x M.b d_M_orderOf_57 hl (by decide) rfl (fun ls hl => ?_)
        exact w_M_orderOf_59 M this _ _ _ _ _ _ _ _ _ hf H locs ls hH hS (lv_sub hl [5, 6, 7, 8, 11, 4, 3, 1, 0] rfl)
      · replace hf := z_f c22 hf
        refine lv_iload M.x M.b d_M_orderOf_44 (lv_at hl 0 rfl) ?_
        obtain ⟨rfl, rfl⟩ := z_r2 hf
        exact z_iret M hH hS d_M_orderOf_46
def f_M_push_65 (this : Nat) (s0 : Nat) (s1 : Int32) (s2 : Int32) (h : Hp) : Option (Hp) :=
  (sI h s0 s1 s2).bind fun h2 =>
  (gI h2 this 8 26).bind fun i3 =>
  (pV h2 this 8 26 (.int (i3 + (1 : Int32)))).bind fun h5 =>
  some h5
set_option maxRecDepth 100000 in
set_option maxHeartbeats 4000000 in
theorem w_M_push_65 {p : Program} {l : Launch} {e : Env} {s : State} {m : MethodId} {args : Array Value} {below : List Frame} {meth : Method} {c : Code} {N0 : Nat} {D : va_G} {cs : Nat → ClassId} (M : ZC p s m args meth c "YearBasketsModel" "push" b_M_push 5 (none) N0 D cs) (this : Nat)  {h0 : Hp}  (s0 : Nat) (s1 : Int32) (s2 : Int32) (h : Hp) (hf : f_M_push_65 this s0 s1 s2 h = some h0) : ZG p l e (zrm 1 0 0) s m args below meth c N0 D cs none h0 h 5 [(0, .ref this)] 65 [.int s2, .int s1, .ref s0] := by
  intro H locs ls hH hS hl
  unfold f_M_push_65 at hf
  replace hf := z_bind hf; obtain ⟨h2, e1, hf⟩ := hf
  refine z_iast M hH hS e1 d_M_push_65 (fun H locs hH hS => ?_)
  refine lv_aload_n M.x M.b d_M_push_66 rfl (lv_at hl 0 rfl) ?_
  refine lv_dup M.x M.b d_M_push_67 rfl ?_
  replace hf := z_bind hf; obtain ⟨i3, e4, hf⟩ := hf
  refine z_get (ci := 8) (k := 26) M hH rfl (by decide) zinM q_686 (gI_spec e4) d_M_push_68 ?_
  refine lv_iconst (v := (1 : Int32)) M.x M.b d_M_push_71 rfl ?_
  refine lv_iadd M.x M.b d_M_push_72 ?_
  replace hf := z_bind hf; obtain ⟨h5, e6, hf⟩ := hf
  refine z_put (ci := 8) (k := 26) M hH hS rfl (by decide) zinM zYM zYM_ok zNM_ok rfl q_686 rfl rfl rfl e6 d_M_push_73 (fun H locs hH hS => ?_)
  obtain rfl := z_r1 hf
  exact z_vret M hH hS d_M_push_76
def f_M_push (this : Nat) (x1 : Int32) (x2 : Int32) (x3 : Int32) (x4 : Int32) (h : Hp) : Option (Hp) :=
  if isO h this 8 = true then
  (gA h this 8 18).bind fun r7 =>
  (gI h this 8 26).bind fun i9 =>
  (r7).bind fun a11 =>
  (sI h a11 i9 x1).bind fun h14 =>
  (gA h14 this 8 19).bind fun r15 =>
  (gI h14 this 8 26).bind fun i17 =>
  (r15).bind fun a19 =>
  (sI h14 a19 i17 x2).bind fun h22 =>
  (gA h22 this 8 20).bind fun r23 =>
  (gI h22 this 8 26).bind fun i25 =>
  (r23).bind fun a27 =>
  (sI h22 a27 i25 x3).bind fun h30 =>
  (gA h30 this 8 21).bind fun r31 =>
  (gI h30 this 8 26).bind fun i33 =>
  (r31).bind fun a35 =>
  (sI h30 a35 i33 x4).bind fun h38 =>
  (gA h38 this 8 22).bind fun r39 =>
  (gI h38 this 8 26).bind fun i41 =>
  (gA h38 this 8 3).bind fun r43 =>
  (r43).bind fun a45 =>
  (aI h38 0 a45 x1).bind fun i48 =>
  if i48 = (11 : Int32) then
    (r39).bind fun a51 =>
    f_M_push_65 this a51 i41 x2 h38
  else
  (r39).bind fun a49 =>
  f_M_push_65 this a49 i41 (0 : Int32) h38
  else none
theorem o_M_push {this : Nat} {x1 : Int32} {x2 : Int32} {x3 : Int32} {x4 : Int32} {h : Hp} {h0 : Hp} (hf : f_M_push this x1 x2 x3 x4 h = some h0) : isO h this 8 = true := by
  unfold f_M_push at hf
  exact (z_gd hf).1
set_option maxRecDepth 100000 in
set_option maxHeartbeats 4000000 in
theorem c_M_push {l : Launch} {N0 : Nat} {D : va_G} {cs : Nat → ClassId} {this : Nat} {x1 : Int32} {x2 : Int32} {x3 : Int32} {x4 : Int32} {h : Hp} {h0 : Hp} (hf : f_M_push this x1 x2 x3 x4 h = some h0) : Fn l N0 D cs y_M_push b_M_push 5 (none) 1 0 0 [.ref this, .int x1, .int x2, .int x3, .int x4] h none h0 := by
  refine z_start (by decide) (Nat.le_of_ble_eq_true rfl) ?_
  intro p e s m args below meth c M hH hS ls hl
  unfold f_M_push at hf
  obtain ⟨hO, hf⟩ := z_gd hf
  have hl : lv_has ls 5 [(0, .ref this), (1, .int x1), (2, .int x2), (3, .int x3), (4, .int x4)] := hl
  obtain ⟨H, hHe⟩ : ∃ H, H = s.heap := ⟨_, rfl⟩
  obtain ⟨locs, hLe⟩ : ∃ locs : List Loc, locs = [] := ⟨_, rfl⟩
  have hS : va_S (zA N0) s.heap H locs := by rw [hHe, hLe]; exact hS
  have hH : HH N0 D cs h H := by rw [hHe]; exact hH
  suffices hg : W p l e (zrm 1 0 0) s m args below meth c H locs 0 0 (MQ below (zQ N0 D cs none h0) args s 0 0 (zA N0)) (F0 m 0 ls []) by rw [hHe, hLe] at hg; exact hg
  clear hHe hLe
  refine lv_aload_n M.x M.b d_M_push_0 rfl (lv_at hl 0 rfl) ?_
  replace hf := z_bind hf; obtain ⟨r7, e8, hf⟩ := hf
  refine z_get (ci := 8) (k := 18) M hH rfl (by decide) zinM q_691 (gA_spec e8) d_M_push_1 ?_
  refine lv_aload_n M.x M.b d_M_push_4 rfl (lv_at hl 0 rfl) ?_
  replace hf := z_bind hf; obtain ⟨i9, e10, hf⟩ := hf
  refine z_get (ci := 8) (k := 26) M hH rfl (by decide) zinM q_686 (gI_spec e10) d_M_push_5 ?_
  refine lv_iload_n M.x M.b d_M_push_8 rfl (lv_at hl 1 rfl) ?_
  rcases r7 with _ | a11
  · exact absurd hf z_nb0
  replace hf := z_sb hf
  replace hf := z_bind hf; obtain ⟨h14, e13, hf⟩ := hf
  refine z_iast M hH hS e13 d_M_push_9 (fun H locs hH hS => ?_)
  refine lv_aload_n M.x M.b d_M_push_10 rfl (lv_at hl 0 rfl) ?_
  replace hf := z_bind hf; obtain ⟨r15, e16, hf⟩ := hf
  refine z_get (ci := 8) (k := 19) M hH rfl (by decide) zinM q_690 (gA_spec e16) d_M_push_11 ?_
  refine lv_aload_n M.x M.b d_M_push_14 rfl (lv_at hl 0 rfl) ?_
  replace hf := z_bind hf; obtain ⟨i17, e18, hf⟩ := hf
  refine z_get (ci := 8) (k := 26) M hH rfl (by decide) zinM q_686 (gI_spec e18) d_M_push_15 ?_
  refine lv_iload_n M.x M.b d_M_push_18 rfl (lv_at hl 2 rfl) ?_
  rcases r15 with _ | a19
  · exact absurd hf z_nb0
  replace hf := z_sb hf
  replace hf := z_bind hf; obtain ⟨h22, e21, hf⟩ := hf
  refine z_iast M hH hS e21 d_M_push_19 (fun H locs hH hS => ?_)
  refine lv_aload_n M.x M.b d_M_push_20 rfl (lv_at hl 0 rfl) ?_
  replace hf := z_bind hf; obtain ⟨r23, e24, hf⟩ := hf
  refine z_get (ci := 8) (k := 20) M hH rfl (by decide) zinM q_689 (gA_spec e24) d_M_push_21 ?_
  refine lv_aload_n M.x M.b d_M_push_24 rfl (lv_at hl 0 rfl) ?_
  replace hf := z_bind hf; obtain ⟨i25, e26, hf⟩ := hf
  refine z_get (ci := 8) (k := 26) M hH rfl (by decide) zinM q_686 (gI_spec e26) d_M_push_25 ?_
  refine lv_iload_n M.x M.b d_M_push_28 rfl (lv_at hl 3 rfl) ?_
  rcases r23 with _ | a27
  · exact absurd hf z_nb0
  replace hf := z_sb hf
  replace hf := z_bind hf; obtain ⟨h30, e29, hf⟩ := hf
  refine z_iast M hH hS e29 d_M_push_29 (fun H locs hH hS => ?_)
  refine lv_aload_n M.x M.b d_M_push_30 rfl (lv_at hl 0 rfl) ?_
  replace hf := z_bind hf; obtain ⟨r31, e32, hf⟩ := hf
  refine z_get (ci := 8) (k := 21) M hH rfl (by decide) zinM q_688 (gA_spec e32) d_M_push_31 ?_
  refine lv_aload_n M.x M.b d_M_push_34 rfl (lv_at hl 0 rfl) ?_
  replace hf := z_bind hf; obtain ⟨i33, e34, hf⟩ := hf
  refine z_get (ci := 8) (k := 26) M hH rfl (by decide) zinM q_686 (gI_spec e34) d_M_push_35 ?_
  refine lv_iload M.x M.b d_M_push_38 (lv_at hl 4 rfl) ?_
  rcases r31 with _ | a35
  · exact absurd hf z_nb0
  replace hf := z_sb hf
  replace hf := z_bind hf; obtain ⟨h38, e37, hf⟩ := hf
  refine z_iast M hH hS e37 d_M_push_40 (fun H locs hH hS => ?_)
  refine lv_aload_n M.x M.b d_M_push_41 rfl (lv_at hl 0 rfl) ?_
  replace hf := z_bind hf; obtain ⟨r39, e40, hf⟩ := hf
  refine z_get (ci := 8) (k := 22) M hH rfl (by decide) zinM q_687 (gA_spec e40) d_M_push_42 ?_
  refine lv_aload_n M.x M.b d_M_push_45 rfl (lv_at hl 0 rfl) ?_
  replace hf := z_bind hf; obtain ⟨i41, e42, hf⟩ := hf
  refine z_get (ci := 8) (k := 26) M hH rfl (by decide) zinM q_686 (gI_spec e42) d_M_push_46 ?_
  refine lv_aload_n M.x M.b d_M_push_49 rfl (lv_at hl 0 rfl) ?_
  replace hf := z_bind hf; obtain ⟨r43, e44, hf⟩ := hf
  refine z_get (ci := 8) (k := 3) M hH rfl (by decide) zinM q_647 (gA_spec e44) d_M_push_50 ?_
  refine lv_iload_n M.x M.b d_M_push_53 rfl (lv_at hl 1 rfl) ?_
  rcases r43 with _ | a45
  · exact absurd hf z_nb0
  replace hf := z_sb hf
  replace hf := z_bind hf; obtain ⟨i48, e47, hf⟩ := hf
  refine z_iald M hH e47 d_M_push_54 ?_
  refine lv_bipush (v := (11 : Int32)) M.x M.b d_M_push_55 rfl ?_
  refine lv_icmp_ne (tgt := 64) M.x M.b d_M_push_57 (by decide) (fun c53 => ?_) (fun c53 => ?_)
  · replace hf := z_f c53 hf
    refine lv_iconst (v := (0 : Int32)) M.x M.b d_M_push_64 rfl ?_
    rcases r39 with _ | a49
    · exact absurd hf z_nb0
    replace hf := z_sb hf
    exact w_M_push_65 M this _ _ _ _ hf H locs ls hH hS (lv_sub hl [0] rfl)
  · replace hf := z_t c53 hf
    refine lv_iload_n M.x M.b d_M_push_60 rfl (lv_at hl 2 rfl) ?_
    refine lv_goto (tgt := 65) M.x M.b d_M_push_61 (by decide) ?_
    rcases r39 with _ | a51
    · exact absurd hf z_nb0
    replace hf := z_sb hf
    exact w_M_push_65 M this _ _ _ _ hf H locs ls hH hS (lv_sub hl [0] rfl)
def f_M_plain_94 (this : Nat) (k12 : Int32 → Int32 → Int32 → Int64 → Int64 → Int32 → Int32 → Hp → Option ((Int32 × Hp))) (x1 : Int32) (x2 : Int32) (x3 : Int32) (x4 : Int64) (x6 : Int64) (x8 : Int32) (x9 : Int32) (h : Hp) : Option ((Int32 × Hp)) :=
  k12 x1 x2 x3 x4 x6 x8 (x9 + (1 : Int32)) h
set_option maxRecDepth 100000 in
set_option maxHeartbeats 4000000 in
theorem w_M_plain_94 {p : Program} {l : Launch} {e : Env} {s : State} {m : MethodId} {args : Array Value} {below : List Frame} {meth : Method} {c : Code} {N0 : Nat} {D : va_G} {cs : Nat → ClassId} (M : ZC p s m args meth c "YearBasketsModel" "plain" b_M_plain 12 (some .int) N0 D cs) (this : Nat) (k12 : Int32 → Int32 → Int32 → Int64 → Int64 → Int32 → Int32 → Hp → Option ((Int32 × Hp))) {r0 : Int32} {h0 : Hp} (hk12 : ∀ (x1 : Int32) (x2 : Int32) (x3 : Int32) (x4 : Int64) (x6 : Int64) (x8 : Int32) (x9 : Int32) (h : Hp), k12 x1 x2 x3 x4 x6 x8 x9 h = some (r0, h0) → ZG p l e (zrm 3 0 0) s m args below meth c N0 D cs (some (.int r0)) h0 h 12 [(0, .ref this), (1, .int x1), (2, .int x2), (3, .int x3), (4, .long x4), (6, .long x6), (8, .int x8), (9, .int x9)] 12 []) (x1 : Int32) (x2 : Int32) (x3 : Int32) (x4 : Int64) (x6 : Int64) (x8 : Int32) (x9 : Int32) (h : Hp) (hf : f_M_plain_94 this k12 x1 x2 x3 x4 x6 x8 x9 h = some (r0, h0)) : ZG p l e (zrm 3 0 0) s m args below meth c N0 D cs (some (.int r0)) h0 h 12 [(0, .ref this), (1, .int x1), (2, .int x2), (3, .int x3), (4, .long x4), (6, .long x6), (8, .int x8), (9, .int x9)] 94 [] := by
  intro H locs ls hH hS hl
  unfold f_M_plain_94 at hf
  refine lv_iinc (v := (x9 + (1 : Int32))) (lv' := [(9, .int (x9 + (1 : Int32))), (0, .ref this), (1, .int x1), (2, .int x2), (3, .int x3), (4, .long x4), (6, .long x6), (8, .int x8)]) M.x M.b d_M_plain_94 hl (k := 7) rfl rfl (by decide) rfl (fun ls hl => ?_)
  refine lv_goto (tgt := 12) M.x M.b d_M_plain_97 (by decide) ?_
  exact hk12 _ _ _ _ _ _ _ _ hf H locs ls hH hS (lv_sub hl [1, 2, 3, 4, 5, 6, 7, 0] rfl)
def t_M_plain_12 (this : Nat) (k12 : Int32 → Int32 → Int32 → Int64 → Int64 → Int32 → Int32 → Hp → Option ((Int32 × Hp))) (x1 : Int32) (x2 : Int32) (x3 : Int32) (x4 : Int64) (x6 : Int64) (x8 : Int32) (x9 : Int32) (h : Hp) : Option ((Int32 × Hp)) :=
  if (5 : Int32) ≤ x9 then
    if x8 = 0 then
      some ((-1003 : Int32), h)
    else
    zb2 (f_M_take this x4 (x6 * (x8).toInt64) (0 : Int32) h) fun i2 h3 =>
    some (i2, h3)
  else
  if ((x3 >>> (x9 &&& 31)) &&& (1 : Int32)) = (1 : Int32) then
    (gA h this 8 0).bind fun r5 =>
    (r5).bind fun a7 =>
    (aI h 0 a7 (((5 : Int32) * x1) + x9)).bind fun i10 =>
    (gA h this 8 0).bind fun r11 =>
    (r11).bind fun a13 =>
    (aI h 0 a13 (((5 : Int32) * x2) + x9)).bind fun i16 =>
    if i10 = 0 then
      some ((-1003 : Int32), h)
    else
    if i16 = 0 then
      some ((-1003 : Int32), h)
    else
    f_M_plain_94 this k12 x1 x2 x3 ((x4 * (i10).toInt64) + ((i16).toInt64 * x6)) (x6 * (i10).toInt64) (x8 + (1 : Int32)) x9 h
  else
  f_M_plain_94 this k12 x1 x2 x3 x4 x6 x8 x9 h
set_option maxRecDepth 100000 in
set_option maxHeartbeats 4000000 in
theorem v_M_plain_12 {p : Program} {l : Launch} {e : Env} {s : State} {m : MethodId} {args : Array Value} {below : List Frame} {meth : Method} {c : Code} {N0 : Nat} {D : va_G} {cs : Nat → ClassId} (M : ZC p s m args meth c "YearBasketsModel" "plain" b_M_plain 12 (some .int) N0 D cs) (this : Nat) (k12 : Int32 → Int32 → Int32 → Int64 → Int64 → Int32 → Int32 → Hp → Option ((Int32 × Hp))) {r0 : Int32} {h0 : Hp} (hk12 : ∀ (x1 : Int32) (x2 : Int32) (x3 : Int32) (x4 : Int64) (x6 : Int64) (x8 : Int32) (x9 : Int32) (h : Hp), k12 x1 x2 x3 x4 x6 x8 x9 h = some (r0, h0) → ZG p l e (zrm 3 0 0) s m args below meth c N0 D cs (some (.int r0)) h0 h 12 [(0, .ref this), (1, .int x1), (2, .int x2), (3, .int x3), (4, .long x4), (6, .long x6), (8, .int x8), (9, .int x9)] 12 []) (x1 : Int32) (x2 : Int32) (x3 : Int32) (x4 : Int64) (x6 : Int64) (x8 : Int32) (x9 : Int32) (h : Hp) (hf : t_M_plain_12 this k12 x1 x2 x3 x4 x6 x8 x9 h = some (r0, h0)) : ZG p l e (zrm 3 0 0) s m args below meth c N0 D cs (some (.int r0)) h0 h 12 [(0, .ref this), (1, .int x1), (2, .int x2), (3, .int x3), (4, .long x4), (6, .long x6), (8, .int x8), (9, .int x9)] 12 [] := by
  intro H locs ls hH hS hl
  unfold t_M_plain_12 at hf
  refine lv_iload M.x M.b d_M_plain_12 (lv_at hl 7 rfl) ?_
  refine lv_iconst (v := (5 : Int32)) M.x M.b d_M_plain_14 rfl ?_
  refine lv_icmp_ge (tgt := 100) M.x M.b d_M_plain_15 (by decide) (fun c20 => ?_) (fun c20 => ?_)
  · replace hf := z_t c20 hf
    refine lv_iload M.x M.b d_M_plain_100 (lv_at hl 6 rfl) ?_
    refine lv_if_ne (tgt := 111) M.x M.b d_M_plain_102 (by decide) (fun c4 => ?_) (fun c4 => ?_)
    · replace hf := z_f c4 hf
      refine lv_aload_n M.x M.b d_M_plain_111 rfl (lv_at hl 0 rfl) ?_
      refine lv_lload M.x M.b d_M_plain_112 (lv_at hl 4 rfl) ?_
      refine lv_lload M.x M.b d_M_plain_114 (lv_at hl 5 rfl) ?_
      refine lv_iload M.x M.b d_M_plain_116 (lv_at hl 6 rfl) ?_
      refine lv_i2l M.x M.b d_M_plain_118 rfl ?_
      refine lv_lmul M.x M.b d_M_plain_119 ?_
      refine lv_iconst (v := (0 : Int32)) M.x M.b d_M_plain_120 rfl ?_
      replace hf := z_bind2 hf; obtain ⟨i2, h3, e1, hf⟩ := hf
      refine zk_V (ci := 8) (st1 := [.int i2]) M hH hS (c_M_take e1) rfl (o_M_take e1) w_M_take q_674 [] rfl ⟨Nat.le_of_ble_eq_true rfl, Nat.le_of_ble_eq_true rfl⟩ hl.1 rfl rfl (Nat.le_of_ble_eq_true rfl) d_M_plain_121 (fun H locs hH hS => ?_)
      obtain ⟨rfl, rfl⟩ := z_r2 hf
      exact z_iret M hH hS d_M_plain_124
    · replace hf := z_t c4 hf
      refine lv_sipush (v := (-1003 : Int32)) M.x M.b d_M_plain_105 rfl ?_
      refine lv_goto (tgt := 124) M.x M.b d_M_plain_108 (by decide) ?_
      obtain ⟨rfl, rfl⟩ := z_r2 hf
      exact z_iret M hH hS d_M_plain_124
  · replace hf := z_f c20 hf
    refine lv_iload_n M.x M.b d_M_plain_18 rfl (lv_at hl 3 rfl) ?_
    refine lv_iload M.x M.b d_M_plain_19 (lv_at hl 7 rfl) ?_
    refine lv_ishr M.x M.b d_M_plain_21 ?_
    refine lv_iconst (v := (1 : Int32)) M.x M.b d_M_plain_22 rfl ?_
    refine lv_iand M.x M.b d_M_plain_23 ?_
    refine lv_iconst (v := (1 : Int32)) M.x M.b d_M_plain_24 rfl ?_
    refine lv_icmp_ne (tgt := 94) M.x M.b d_M_plain_25 (by decide) (fun c19 => ?_) (fun c19 => ?_)
    · replace hf := z_f c19 hf
      exact w_M_plain_94 M this k12 hk12 _ _ _ _ _ _ _ _ hf H locs ls hH hS (lv_sub hl [0, 1, 2, 3, 4, 5, 6, 7] rfl)
    · replace hf := z_t c19 hf
      refine lv_aload_n M.x M.b d_M_plain_28 rfl (lv_at hl 0 rfl) ?_
      replace hf := z_bind hf; obtain ⟨r5, e6, hf⟩ := hf
      refine z_get (ci := 8) (k := 0) M hH rfl (by decide) zinM q_562 (gA_spec e6) d_M_plain_29 ?_
      refine lv_iconst (v := (5 : Int32)) M.x M.b d_M_plain_32 rfl ?_
      refine lv_iload_n M.x M.b d_M_plain_33 rfl (lv_at hl 1 rfl) ?_
      refine lv_imul M.x M.b d_M_plain_34 ?_
      refine lv_iload M.x M.b d_M_plain_35 (lv_at hl 7 rfl) ?_
      refine lv_iadd M.x M.b d_M_plain_37 ?_
      rcases r5 with _ | a7
      · exact absurd hf z_nb0
      replace hf := z_sb hf
      replace hf := z_bind hf; obtain ⟨i10, e9, hf⟩ := hf
      refine z_iald M hH e9 d_M_plain_38 ?_
      refine lv_istore (lv' := [(10, .int i10), (0, .ref this), (1, .int x1), (2, .int x2), (3, .int x3), (4, .long x4), (6, .long x6), (8, .int x8), (9, .int x9)]) M.x M.b d_M_plain_39 hl (by decide) rfl (fun ls hl => ?_)
      refine lv_aload_n M.x M.b d_M_plain_41 rfl (lv_at hl 1 rfl) ?_
      replace hf := z_bind hf; obtain ⟨r11, e12, hf⟩ := hf
      refine z_get (ci := 8) (k := 0) M hH rfl (by decide) zinM q_562 (gA_spec e12) d_M_plain_42 ?_
      refine lv_iconst (v := (5 : Int32)) M.x M.b d_M_plain_45 rfl ?_
      refine lv_iload_n M.x M.b d_M_plain_46 rfl (lv_at hl 3 rfl) ?_
      refine lv_imul M.x M.b d_M_plain_47 ?_
      refine lv_iload M.x M.b d_M_plain_48 (lv_at hl 8 rfl) ?_
      refine lv_iadd M.x M.b d_M_plain_50 ?_
      rcases r11 with _ | a13
      · exact absurd hf z_nb0
      replace hf := z_sb hf
      replace hf := z_bind hf; obtain ⟨i16, e15, hf⟩ := hf
      refine z_iald M hH e15 d_M_plain_51 ?_
      refine lv_istore (lv' := [(11, .int i16), (10, .int i10), (0, .ref this), (1, .int x1), (2, .int x2), (3, .int x3), (4, .long x4), (6, .long x6), (8, .int x8), (9, .int x9)]) M.x M.b d_M_plain_52 hl (by decide) rfl (fun ls hl => ?_)
      refine lv_iload M.x M.b d_M_plain_54 (lv_at hl 1 rfl) ?_
      refine lv_if_eq (tgt := 64) M.x M.b d_M_plain_56 (by decide) (fun c18 => ?_) (fun c18 => ?_)
      · replace hf := z_t c18 hf
        refine lv_sipush (v := (-1003 : Int32)) M.x M.b d_M_plain_64 rfl ?_
        obtain ⟨rfl, rfl⟩ := z_r2 hf
        exact z_iret M hH hS d_M_plain_67
      · replace hf := z_f c18 hf
        refine lv_iload M.x M.b d_M_plain_59 (lv_at hl 0 rfl) ?_
        refine lv_if_ne (tgt := 68) M.x M.b d_M_plain_61 (by decide) (fun c17 => ?_) (fun c17 => ?_)
        · replace hf := z_f c17 hf
          refine lv_lload M.x M.b d_M_plain_68 (lv_at hl 6 rfl) ?_
          refine lv_iload M.x M.b d_M_plain_70 (lv_at hl 1 rfl) ?_
          refine lv_i2l M.x M.b d_M_plain_72 rfl ?_
          refine lv_lmul M.x M.b d_M_plain_73 ?_
          refine lv_iload M.x M.b d_M_plain_74 (lv_at hl 0 rfl) ?_
          refine lv_i2l M.x M.b d_M_plain_76 rfl ?_
          refine lv_lload M.x M.b d_M_plain_77 (lv_at hl 7 rfl) ?_
          refine lv_lmul M.x M.b d_M_plain_79 ?_
          refine lv_ladd M.x M.b d_M_plain_80 ?_
          refine lv_lstore (lv' := [(4, .long ((x4 * (i10).toInt64) + ((i16).toInt64 * x6))), (11, .int i16), (10, .int i10), (0, .ref this), (1, .int x1), (2, .int x2), (3, .int x3), (6, .long x6), (8, .int x8), (9, .int x9)]) M.x M.b d_M_plain_81 hl (by decide) rfl (fun ls hl => ?_)
          refine lv_lload M.x M.b d_M_plain_83 (lv_at hl 7 rfl) ?_
          refine lv_iload M.x M.b d_M_plain_85 (lv_at hl 2 rfl) ?_
          refine lv_i2l M.x M.b d_M_plain_87 rfl ?_
          refine lv_lmul M.x M.b d_M_plain_88 ?_
          refine lv_lstore (lv' := [(6, .long (x6 * (i10).toInt64)), (4, .long ((x4 * (i10).toInt64) + ((i16).toInt64 * x6))), (11, .int i16), (10, .int i10), (0, .ref this), (1, .int x1), (2, .int x2), (3, .int x3), (8, .int x8), (9, .int x9)]) M.x M.b d_M_plain_89 hl (by decide) rfl (fun ls hl => ?_)
          refine lv_iinc (v := (x8 + (1 : Int32))) (lv' := [(8, .int (x8 + (1 : Int32))), (6, .long (x6 * (i10).toInt64)), (4, .long ((x4 * (i10).toInt64) + ((i16).toInt64 * x6))), (11, .int i16), (10, .int i10), (0, .ref this), (1, .int x1), (2, .int x2), (3, .int x3), (9, .int x9)]) M.x M.b d_M_plain_91 hl (k := 8) rfl rfl (by decide) rfl (fun ls hl => ?_)
          exact w_M_plain_94 M this k12 hk12 _ _ _ _ _ _ _ _ hf H locs ls hH hS (lv_sub hl [5, 6, 7, 8, 2, 1, 0, 9] rfl)
        · replace hf := z_t c17 hf
          refine lv_sipush (v := (-1003 : Int32)) M.x M.b d_M_plain_64 rfl ?_
          obtain ⟨rfl, rfl⟩ := z_r2 hf
          exact z_iret M hH hS d_M_plain_67
def f_M_plain_12 (this : Nat) : Nat → Int32 → Int32 → Int32 → Int64 → Int64 → Int32 → Int32 → Hp → Option ((Int32 × Hp))
  | 0, _, _, _, _, _, _, _, _ => none
  | n + 1, x1, x2, x3, x4, x6, x8, x9, h => t_M_plain_12 this (f_M_plain_12 this n) x1 x2 x3 x4 x6 x8 x9 h
theorem w_M_plain_12 {p : Program} {l : Launch} {e : Env} {s : State} {m : MethodId} {args : Array Value} {below : List Frame} {meth : Method} {c : Code} {N0 : Nat} {D : va_G} {cs : Nat → ClassId} (M : ZC p s m args meth c "YearBasketsModel" "plain" b_M_plain 12 (some .int) N0 D cs) (this : Nat)  {r0 : Int32} {h0 : Hp}  : ∀ (n : Nat) (x1 : Int32) (x2 : Int32) (x3 : Int32) (x4 : Int64) (x6 : Int64) (x8 : Int32) (x9 : Int32) (h : Hp), f_M_plain_12 this n x1 x2 x3 x4 x6 x8 x9 h = some (r0, h0) → ZG p l e (zrm 3 0 0) s m args below meth c N0 D cs (some (.int r0)) h0 h 12 [(0, .ref this), (1, .int x1), (2, .int x2), (3, .int x3), (4, .long x4), (6, .long x6), (8, .int x8), (9, .int x9)] 12 [] := by
  intro n
  induction n with
  | zero => intro x1 x2 x3 x4 x6 x8 x9 h hf; exact absurd (show none = some _ from hf) (fun q => by cases q)
  | succ n ih => intro x1 x2 x3 x4 x6 x8 x9 h hf; exact v_M_plain_12 M this (f_M_plain_12 this n)  ih _ _ _ _ _ _ _ _ hf
def f_M_plain (this : Nat) (x1 : Int32) (x2 : Int32) (x3 : Int32) (h : Hp) : Option ((Int32 × Hp)) :=
  if isO h this 8 = true then
  f_M_plain_12 this FU x1 x2 x3 (0 : Int64) (1 : Int64) (0 : Int32) (0 : Int32) h
  else none
theorem o_M_plain {this : Nat} {x1 : Int32} {x2 : Int32} {x3 : Int32} {h : Hp} {r0 : Int32} {h0 : Hp} (hf : f_M_plain this x1 x2 x3 h = some (r0, h0)) : isO h this 8 = true := by
  unfold f_M_plain at hf
  exact (z_gd hf).1
set_option maxRecDepth 100000 in
set_option maxHeartbeats 4000000 in
theorem c_M_plain {l : Launch} {N0 : Nat} {D : va_G} {cs : Nat → ClassId} {this : Nat} {x1 : Int32} {x2 : Int32} {x3 : Int32} {h : Hp} {r0 : Int32} {h0 : Hp} (hf : f_M_plain this x1 x2 x3 h = some (r0, h0)) : Fn l N0 D cs y_M_plain b_M_plain 12 (some .int) 3 0 0 [.ref this, .int x1, .int x2, .int x3] h (some (.int r0)) h0 := by
  refine z_start (by decide) (Nat.le_of_ble_eq_true rfl) ?_
  intro p e s m args below meth c M hH hS ls hl
  unfold f_M_plain at hf
  obtain ⟨hO, hf⟩ := z_gd hf
  have hl : lv_has ls 12 [(0, .ref this), (1, .int x1), (2, .int x2), (3, .int x3)] := hl
  obtain ⟨H, hHe⟩ : ∃ H, H = s.heap := ⟨_, rfl⟩
  obtain ⟨locs, hLe⟩ : ∃ locs : List Loc, locs = [] := ⟨_, rfl⟩
  have hS : va_S (zA N0) s.heap H locs := by rw [hHe, hLe]; exact hS
  have hH : HH N0 D cs h H := by rw [hHe]; exact hH
  suffices hg : W p l e (zrm 3 0 0) s m args below meth c H locs 0 0 (MQ below (zQ N0 D cs (some (.int r0)) h0) args s 0 0 (zA N0)) (F0 m 0 ls []) by rw [hHe, hLe] at hg; exact hg
  clear hHe hLe
  refine lv_lconst (v := (0 : Int64)) M.x M.b d_M_plain_0 rfl ?_
  refine lv_lstore (lv' := [(4, .long (0 : Int64)), (0, .ref this), (1, .int x1), (2, .int x2), (3, .int x3)]) M.x M.b d_M_plain_1 hl (by decide) rfl (fun ls hl => ?_)
  refine lv_lconst (v := (1 : Int64)) M.x M.b d_M_plain_3 rfl ?_
  refine lv_lstore (lv' := [(6, .long (1 : Int64)), (4, .long (0 : Int64)), (0, .ref this), (1, .int x1), (2, .int x2), (3, .int x3)]) M.x M.b d_M_plain_4 hl (by decide) rfl (fun ls hl => ?_)
  refine lv_iconst (v := (0 : Int32)) M.x M.b d_M_plain_6 rfl ?_
  refine lv_istore (lv' := [(8, .int (0 : Int32)), (6, .long (1 : Int64)), (4, .long (0 : Int64)), (0, .ref this), (1, .int x1), (2, .int x2), (3, .int x3)]) M.x M.b d_M_plain_7 hl (by decide) rfl (fun ls hl => ?_)
  refine lv_iconst (v := (0 : Int32)) M.x M.b d_M_plain_9 rfl ?_
  refine lv_istore (lv' := [(9, .int (0 : Int32)), (8, .int (0 : Int32)), (6, .long (1 : Int64)), (4, .long (0 : Int64)), (0, .ref this), (1, .int x1), (2, .int x2), (3, .int x3)]) M.x M.b d_M_plain_10 hl (by decide) rfl (fun ls hl => ?_)
  exact w_M_plain_12 M this FU _ _ _ _ _ _ _ _ hf H locs ls hH hS (lv_sub hl [4, 5, 6, 7, 3, 2, 1, 0] rfl)
def f_M_sums_89 (this : Nat) (k9 : Int32 → Int32 → Int32 → Int32 → Int32 → Int32 → Hp → Option ((Int32 × Hp))) (x1 : Int32) (x2 : Int32) (x3 : Int32) (x4 : Int32) (x5 : Int32) (x6 : Int32) (h : Hp) : Option ((Int32 × Hp)) :=
  k9 x1 x2 x3 x4 x5 (x6 + (1 : Int32)) h
set_option maxRecDepth 100000 in
set_option maxHeartbeats 4000000 in
theorem w_M_sums_89 {p : Program} {l : Launch} {e : Env} {s : State} {m : MethodId} {args : Array Value} {below : List Frame} {meth : Method} {c : Code} {N0 : Nat} {D : va_G} {cs : Nat → ClassId} (M : ZC p s m args meth c "YearBasketsModel" "sums" b_M_sums 7 (some .int) N0 D cs) (this : Nat) (k9 : Int32 → Int32 → Int32 → Int32 → Int32 → Int32 → Hp → Option ((Int32 × Hp))) {r0 : Int32} {h0 : Hp} (hk9 : ∀ (x1 : Int32) (x2 : Int32) (x3 : Int32) (x4 : Int32) (x5 : Int32) (x6 : Int32) (h : Hp), k9 x1 x2 x3 x4 x5 x6 h = some (r0, h0) → ZG p l e (zrm 3 0 0) s m args below meth c N0 D cs (some (.int r0)) h0 h 7 [(0, .ref this), (1, .int x1), (2, .int x2), (3, .int x3), (4, .int x4), (5, .int x5), (6, .int x6)] 9 []) (x1 : Int32) (x2 : Int32) (x3 : Int32) (x4 : Int32) (x5 : Int32) (x6 : Int32) (h : Hp) (hf : f_M_sums_89 this k9 x1 x2 x3 x4 x5 x6 h = some (r0, h0)) : ZG p l e (zrm 3 0 0) s m args below meth c N0 D cs (some (.int r0)) h0 h 7 [(0, .ref this), (1, .int x1), (2, .int x2), (3, .int x3), (4, .int x4), (5, .int x5), (6, .int x6)] 89 [] := by
  intro H locs ls hH hS hl
  unfold f_M_sums_89 at hf
  refine lv_iinc (v := (x6 + (1 : Int32))) (lv' := [(6, .int (x6 + (1 : Int32))), (0, .ref this), (1, .int x1), (2, .int x2), (3, .int x3), (4, .int x4), (5, .int x5)]) M.x M.b d_M_sums_89 hl (k := 6) rfl rfl (by decide) rfl (fun ls hl => ?_)
  refine lv_goto (tgt := 9) M.x M.b d_M_sums_92 (by decide) ?_
  exact hk9 _ _ _ _ _ _ _ hf H locs ls hH hS (lv_sub hl [1, 2, 3, 4, 5, 6, 0] rfl)
def t_M_sums_9 (this : Nat) (k9 : Int32 → Int32 → Int32 → Int32 → Int32 → Int32 → Hp → Option ((Int32 × Hp))) (x1 : Int32) (x2 : Int32) (x3 : Int32) (x4 : Int32) (x5 : Int32) (x6 : Int32) (h : Hp) : Option ((Int32 × Hp)) :=
  if (5 : Int32) ≤ x6 then
    zb2 (f_M_take this (x5).toInt64 (x4).toInt64 (0 : Int32) h) fun i2 h3 =>
    some (i2, h3)
  else
  if ((x3 >>> (x6 &&& 31)) &&& (1 : Int32)) = (1 : Int32) then
    (gA h this 8 0).bind fun r4 =>
    (r4).bind fun a6 =>
    (aI h 0 a6 (((5 : Int32) * x1) + x6)).bind fun i9 =>
    if i9 = 0 then
      some ((-1003 : Int32), h)
    else
    (gA h this 8 0).bind fun r10 =>
    (r10).bind fun a12 =>
    (aI h 0 a12 (((5 : Int32) * x2) + x6)).bind fun i15 =>
    if i15 = 0 then
      some ((-1003 : Int32), h)
    else
    (gA h this 8 0).bind fun r16 =>
    (r16).bind fun a18 =>
    (aI h 0 a18 (((5 : Int32) * x1) + x6)).bind fun i21 =>
    (gA h this 8 0).bind fun r22 =>
    (r22).bind fun a24 =>
    (aI h 0 a24 (((5 : Int32) * x2) + x6)).bind fun i27 =>
    f_M_sums_89 this k9 x1 x2 x3 (x4 + i21) (x5 + i27) x6 h
  else
  f_M_sums_89 this k9 x1 x2 x3 x4 x5 x6 h
set_option maxRecDepth 100000 in
set_option maxHeartbeats 4000000 in
theorem v_M_sums_9 {p : Program} {l : Launch} {e : Env} {s : State} {m : MethodId} {args : Array Value} {below : List Frame} {meth : Method} {c : Code} {N0 : Nat} {D : va_G} {cs : Nat → ClassId} (M : ZC p s m args meth c "YearBasketsModel" "sums" b_M_sums 7 (some .int) N0 D cs) (this : Nat) (k9 : Int32 → Int32 → Int32 → Int32 → Int32 → Int32 → Hp → Option ((Int32 × Hp))) {r0 : Int32} {h0 : Hp} (hk9 : ∀ (x1 : Int32) (x2 : Int32) (x3 : Int32) (x4 : Int32) (x5 : Int32) (x6 : Int32) (h : Hp), k9 x1 x2 x3 x4 x5 x6 h = some (r0, h0) → ZG p l e (zrm 3 0 0) s m args below meth c N0 D cs (some (.int r0)) h0 h 7 [(0, .ref this), (1, .int x1), (2, .int x2), (3, .int x3), (4, .int x4), (5, .int x5), (6, .int x6)] 9 []) (x1 : Int32) (x2 : Int32) (x3 : Int32) (x4 : Int32) (x5 : Int32) (x6 : Int32) (h : Hp) (hf : t_M_sums_9 this k9 x1 x2 x3 x4 x5 x6 h = some (r0, h0)) : ZG p l e (zrm 3 0 0) s m args below meth c N0 D cs (some (.int r0)) h0 h 7 [(0, .ref this), (1, .int x1), (2, .int x2), (3, .int x3), (4, .int x4), (5, .int x5), (6, .int x6)] 9 [] := by
  intro H locs ls hH hS hl
  unfold t_M_sums_9 at hf
  refine lv_iload M.x M.b d_M_sums_9 (lv_at hl 6 rfl) ?_
  refine lv_iconst (v := (5 : Int32)) M.x M.b d_M_sums_11 rfl ?_
  refine lv_icmp_ge (tgt := 95) M.x M.b d_M_sums_12 (by decide) (fun c31 => ?_) (fun c31 => ?_)
  · replace hf := z_t c31 hf
    refine lv_aload_n M.x M.b d_M_sums_95 rfl (lv_at hl 0 rfl) ?_
    refine lv_iload M.x M.b d_M_sums_96 (lv_at hl 5 rfl) ?_
    refine lv_i2l M.x M.b d_M_sums_98 rfl ?_
    refine lv_iload M.x M.b d_M_sums_99 (lv_at hl 4 rfl) ?_
    refine lv_i2l M.x M.b d_M_sums_101 rfl ?_
    refine lv_iconst (v := (0 : Int32)) M.x M.b d_M_sums_102 rfl ?_
    replace hf := z_bind2 hf; obtain ⟨i2, h3, e1, hf⟩ := hf
    refine zk_V (ci := 8) (st1 := [.int i2]) M hH hS (c_M_take e1) rfl (o_M_take e1) w_M_take q_674 [] rfl ⟨Nat.le_of_ble_eq_true rfl, Nat.le_of_ble_eq_true rfl⟩ hl.1 rfl rfl (Nat.le_of_ble_eq_true rfl) d_M_sums_103 (fun H locs hH hS => ?_)
    obtain ⟨rfl, rfl⟩ := z_r2 hf
    exact z_iret M hH hS d_M_sums_106
  · replace hf := z_f c31 hf
    refine lv_iload_n M.x M.b d_M_sums_15 rfl (lv_at hl 3 rfl) ?_
    refine lv_iload M.x M.b d_M_sums_16 (lv_at hl 6 rfl) ?_
    refine lv_ishr M.x M.b d_M_sums_18 ?_
    refine lv_iconst (v := (1 : Int32)) M.x M.b d_M_sums_19 rfl ?_
    refine lv_iand M.x M.b d_M_sums_20 ?_
    refine lv_iconst (v := (1 : Int32)) M.x M.b d_M_sums_21 rfl ?_
    refine lv_icmp_ne (tgt := 89) M.x M.b d_M_sums_22 (by decide) (fun c30 => ?_) (fun c30 => ?_)
    · replace hf := z_f c30 hf
      exact w_M_sums_89 M this k9 hk9 _ _ _ _ _ _ _ hf H locs ls hH hS (lv_sub hl [0, 1, 2, 3, 4, 5, 6] rfl)
    · replace hf := z_t c30 hf
      refine lv_aload_n M.x M.b d_M_sums_25 rfl (lv_at hl 0 rfl) ?_
      replace hf := z_bind hf; obtain ⟨r4, e5, hf⟩ := hf
      refine z_get (ci := 8) (k := 0) M hH rfl (by decide) zinM q_562 (gA_spec e5) d_M_sums_26 ?_
      refine lv_iconst (v := (5 : Int32)) M.x M.b d_M_sums_29 rfl ?_
      refine lv_iload_n M.x M.b d_M_sums_30 rfl (lv_at hl 1 rfl) ?_
      refine lv_imul M.x M.b d_M_sums_31 ?_
      refine lv_iload M.x M.b d_M_sums_32 (lv_at hl 6 rfl) ?_
      refine lv_iadd M.x M.b d_M_sums_34 ?_
      rcases r4 with _ | a6
      · exact absurd hf z_nb0
      replace hf := z_sb hf
      replace hf := z_bind hf; obtain ⟨i9, e8, hf⟩ := hf
      refine z_iald M hH e8 d_M_sums_35 ?_
      refine lv_if_eq (tgt := 53) M.x M.b d_M_sums_36 (by decide) (fun c29 => ?_) (fun c29 => ?_)
      · replace hf := z_t c29 hf
        refine lv_sipush (v := (-1003 : Int32)) M.x M.b d_M_sums_53 rfl ?_
        obtain ⟨rfl, rfl⟩ := z_r2 hf
        exact z_iret M hH hS d_M_sums_56
      · replace hf := z_f c29 hf
        refine lv_aload_n M.x M.b d_M_sums_39 rfl (lv_at hl 0 rfl) ?_
        replace hf := z_bind hf; obtain ⟨r10, e11, hf⟩ := hf
        refine z_get (ci := 8) (k := 0) M hH rfl (by decide) zinM q_562 (gA_spec e11) d_M_sums_40 ?_
        refine lv_iconst (v := (5 : Int32)) M.x M.b d_M_sums_43 rfl ?_
        refine lv_iload_n M.x M.b d_M_sums_44 rfl (lv_at hl 2 rfl) ?_
        refine lv_imul M.x M.b d_M_sums_45 ?_
        refine lv_iload M.x M.b d_M_sums_46 (lv_at hl 6 rfl) ?_
        refine lv_iadd M.x M.b d_M_sums_48 ?_
        rcases r10 with _ | a12
        · exact absurd hf z_nb0
        replace hf := z_sb hf
        replace hf := z_bind hf; obtain ⟨i15, e14, hf⟩ := hf
        refine z_iald M hH e14 d_M_sums_49 ?_
        refine lv_if_ne (tgt := 57) M.x M.b d_M_sums_50 (by decide) (fun c28 => ?_) (fun c28 => ?_)
        · replace hf := z_f c28 hf
          refine lv_iload M.x M.b d_M_sums_57 (lv_at hl 4 rfl) ?_
          refine lv_aload_n M.x M.b d_M_sums_59 rfl (lv_at hl 0 rfl) ?_
          replace hf := z_bind hf; obtain ⟨r16, e17, hf⟩ := hf
          refine z_get (ci := 8) (k := 0) M hH rfl (by decide) zinM q_562 (gA_spec e17) d_M_sums_60 ?_
          refine lv_iconst (v := (5 : Int32)) M.x M.b d_M_sums_63 rfl ?_
          refine lv_iload_n M.x M.b d_M_sums_64 rfl (lv_at hl 1 rfl) ?_
          refine lv_imul M.x M.b d_M_sums_65 ?_
          refine lv_iload M.x M.b d_M_sums_66 (lv_at hl 6 rfl) ?_
          refine lv_iadd M.x M.b d_M_sums_68 ?_
          rcases r16 with _ | a18
          · exact absurd hf z_nb0
          replace hf := z_sb hf
          replace hf := z_bind hf; obtain ⟨i21, e20, hf⟩ := hf
          refine z_iald M hH e20 d_M_sums_69 ?_
          refine lv_iadd M.x M.b d_M_sums_70 ?_
          refine lv_istore (lv' := [(4, .int (x4 + i21)), (0, .ref this), (1, .int x1), (2, .int x2), (3, .int x3), (5, .int x5), (6, .int x6)]) M.x M.b d_M_sums_71 hl (by decide) rfl (fun ls hl => ?_)
          refine lv_iload M.x M.b d_M_sums_73 (lv_at hl 5 rfl) ?_
          refine lv_aload_n M.x M.b d_M_sums_75 rfl (lv_at hl 1 rfl) ?_
          replace hf := z_bind hf; obtain ⟨r22, e23, hf⟩ := hf
          refine z_get (ci := 8) (k := 0) M hH rfl (by decide) zinM q_562 (gA_spec e23) d_M_sums_76 ?_
          refine lv_iconst (v := (5 : Int32)) M.x M.b d_M_sums_79 rfl ?_
          refine lv_iload_n M.x M.b d_M_sums_80 rfl (lv_at hl 3 rfl) ?_
          refine lv_imul M.x M.b d_M_sums_81 ?_
          refine lv_iload M.x M.b d_M_sums_82 (lv_at hl 6 rfl) ?_
          refine lv_iadd M.x M.b d_M_sums_84 ?_
          rcases r22 with _ | a24
          · exact absurd hf z_nb0
          replace hf := z_sb hf
          replace hf := z_bind hf; obtain ⟨i27, e26, hf⟩ := hf
          refine z_iald M hH e26 d_M_sums_85 ?_
          refine lv_iadd M.x M.b d_M_sums_86 ?_
          refine lv_istore (lv' := [(5, .int (x5 + i27)), (4, .int (x4 + i21)), (0, .ref this), (1, .int x1), (2, .int x2), (3, .int x3), (6, .int x6)]) M.x M.b d_M_sums_87 hl (by decide) rfl (fun ls hl => ?_)
          exact w_M_sums_89 M this k9 hk9 _ _ _ _ _ _ _ hf H locs ls hH hS (lv_sub hl [2, 3, 4, 5, 1, 0, 6] rfl)
        · replace hf := z_t c28 hf
          refine lv_sipush (v := (-1003 : Int32)) M.x M.b d_M_sums_53 rfl ?_
          obtain ⟨rfl, rfl⟩ := z_r2 hf
          exact z_iret M hH hS d_M_sums_56
def f_M_sums_9 (this : Nat) : Nat → Int32 → Int32 → Int32 → Int32 → Int32 → Int32 → Hp → Option ((Int32 × Hp))
  | 0, _, _, _, _, _, _, _ => none
  | n + 1, x1, x2, x3, x4, x5, x6, h => t_M_sums_9 this (f_M_sums_9 this n) x1 x2 x3 x4 x5 x6 h
theorem w_M_sums_9 {p : Program} {l : Launch} {e : Env} {s : State} {m : MethodId} {args : Array Value} {below : List Frame} {meth : Method} {c : Code} {N0 : Nat} {D : va_G} {cs : Nat → ClassId} (M : ZC p s m args meth c "YearBasketsModel" "sums" b_M_sums 7 (some .int) N0 D cs) (this : Nat)  {r0 : Int32} {h0 : Hp}  : ∀ (n : Nat) (x1 : Int32) (x2 : Int32) (x3 : Int32) (x4 : Int32) (x5 : Int32) (x6 : Int32) (h : Hp), f_M_sums_9 this n x1 x2 x3 x4 x5 x6 h = some (r0, h0) → ZG p l e (zrm 3 0 0) s m args below meth c N0 D cs (some (.int r0)) h0 h 7 [(0, .ref this), (1, .int x1), (2, .int x2), (3, .int x3), (4, .int x4), (5, .int x5), (6, .int x6)] 9 [] := by
  intro n
  induction n with
  | zero => intro x1 x2 x3 x4 x5 x6 h hf; exact absurd (show none = some _ from hf) (fun q => by cases q)
  | succ n ih => intro x1 x2 x3 x4 x5 x6 h hf; exact v_M_sums_9 M this (f_M_sums_9 this n)  ih _ _ _ _ _ _ _ hf
def f_M_sums (this : Nat) (x1 : Int32) (x2 : Int32) (x3 : Int32) (h : Hp) : Option ((Int32 × Hp)) :=
  if isO h this 8 = true then
  f_M_sums_9 this FU x1 x2 x3 (0 : Int32) (0 : Int32) (0 : Int32) h
  else none
theorem o_M_sums {this : Nat} {x1 : Int32} {x2 : Int32} {x3 : Int32} {h : Hp} {r0 : Int32} {h0 : Hp} (hf : f_M_sums this x1 x2 x3 h = some (r0, h0)) : isO h this 8 = true := by
  unfold f_M_sums at hf
  exact (z_gd hf).1
set_option maxRecDepth 100000 in
set_option maxHeartbeats 4000000 in
theorem c_M_sums {l : Launch} {N0 : Nat} {D : va_G} {cs : Nat → ClassId} {this : Nat} {x1 : Int32} {x2 : Int32} {x3 : Int32} {h : Hp} {r0 : Int32} {h0 : Hp} (hf : f_M_sums this x1 x2 x3 h = some (r0, h0)) : Fn l N0 D cs y_M_sums b_M_sums 7 (some .int) 3 0 0 [.ref this, .int x1, .int x2, .int x3] h (some (.int r0)) h0 := by
  refine z_start (by decide) (Nat.le_of_ble_eq_true rfl) ?_
  intro p e s m args below meth c M hH hS ls hl
  unfold f_M_sums at hf
  obtain ⟨hO, hf⟩ := z_gd hf
  have hl : lv_has ls 7 [(0, .ref this), (1, .int x1), (2, .int x2), (3, .int x3)] := hl
  obtain ⟨H, hHe⟩ : ∃ H, H = s.heap := ⟨_, rfl⟩
  obtain ⟨locs, hLe⟩ : ∃ locs : List Loc, locs = [] := ⟨_, rfl⟩
  have hS : va_S (zA N0) s.heap H locs := by rw [hHe, hLe]; exact hS
  have hH : HH N0 D cs h H := by rw [hHe]; exact hH
  suffices hg : W p l e (zrm 3 0 0) s m args below meth c H locs 0 0 (MQ below (zQ N0 D cs (some (.int r0)) h0) args s 0 0 (zA N0)) (F0 m 0 ls []) by rw [hHe, hLe] at hg; exact hg
  clear hHe hLe
  refine lv_iconst (v := (0 : Int32)) M.x M.b d_M_sums_0 rfl ?_
  refine lv_istore (lv' := [(4, .int (0 : Int32)), (0, .ref this), (1, .int x1), (2, .int x2), (3, .int x3)]) M.x M.b d_M_sums_1 hl (by decide) rfl (fun ls hl => ?_)
  refine lv_iconst (v := (0 : Int32)) M.x M.b d_M_sums_3 rfl ?_
  refine lv_istore (lv' := [(5, .int (0 : Int32)), (4, .int (0 : Int32)), (0, .ref this), (1, .int x1), (2, .int x2), (3, .int x3)]) M.x M.b d_M_sums_4 hl (by decide) rfl (fun ls hl => ?_)
  refine lv_iconst (v := (0 : Int32)) M.x M.b d_M_sums_6 rfl ?_
  refine lv_istore (lv' := [(6, .int (0 : Int32)), (5, .int (0 : Int32)), (4, .int (0 : Int32)), (0, .ref this), (1, .int x1), (2, .int x2), (3, .int x3)]) M.x M.b d_M_sums_7 hl (by decide) rfl (fun ls hl => ?_)
  exact w_M_sums_9 M this FU _ _ _ _ _ _ _ hf H locs ls hH hS (lv_sub hl [3, 4, 5, 6, 2, 1, 0] rfl)
def f_M_leaf_188 (this : Nat) (x7 : Int32) (x8 : Int32) (h : Hp) : Option ((Int32 × Hp)) :=
  zb2 (f_M_take this (x7).toInt64 (x8).toInt64 (0 : Int32) h) fun i2 h3 =>
  some (i2, h3)
set_option maxRecDepth 100000 in
set_option maxHeartbeats 4000000 in
theorem w_M_leaf_188 {p : Program} {l : Launch} {e : Env} {s : State} {m : MethodId} {args : Array Value} {below : List Frame} {meth : Method} {c : Code} {N0 : Nat} {D : va_G} {cs : Nat → ClassId} (M : ZC p s m args meth c "YearBasketsModel" "leaf" b_M_leaf 11 (some .int) N0 D cs) (this : Nat)  {r0 : Int32} {h0 : Hp}  (x7 : Int32) (x8 : Int32) (h : Hp) (hf : f_M_leaf_188 this x7 x8 h = some (r0, h0)) : ZG p l e (zrm 4 0 0) s m args below meth c N0 D cs (some (.int r0)) h0 h 11 [(0, .ref this), (7, .int x7), (8, .int x8)] 188 [] := by
  intro H locs ls hH hS hl
  unfold f_M_leaf_188 at hf
  refine lv_aload_n M.x M.b d_M_leaf_188 rfl (lv_at hl 0 rfl) ?_
  refine lv_iload M.x M.b d_M_leaf_189 (lv_at hl 1 rfl) ?_
  refine lv_i2l M.x M.b d_M_leaf_191 rfl ?_
  refine lv_iload M.x M.b d_M_leaf_192 (lv_at hl 2 rfl) ?_
  refine lv_i2l M.x M.b d_M_leaf_194 rfl ?_
  refine lv_iconst (v := (0 : Int32)) M.x M.b d_M_leaf_195 rfl ?_
  replace hf := z_bind2 hf; obtain ⟨i2, h3, e1, hf⟩ := hf
  refine zk_V (ci := 8) (st1 := [.int i2]) M hH hS (c_M_take e1) rfl (o_M_take e1) w_M_take q_674 [] rfl ⟨Nat.le_of_ble_eq_true rfl, Nat.le_of_ble_eq_true rfl⟩ hl.1 rfl rfl (Nat.le_of_ble_eq_true rfl) d_M_leaf_196 (fun H locs hH hS => ?_)
  obtain ⟨rfl, rfl⟩ := z_r2 hf
  exact z_iret M hH hS d_M_leaf_199
def f_M_leaf_84 (this : Nat) (s0 : Int32) (x1 : Int32) (x2 : Int32) (x3 : Int32) (x4 : Int32) (x5 : Int32) (h : Hp) : Option ((Int32 × Hp)) :=
  (f_M_costOf this h x2 x4 s0 x5).bind fun i5 =>
  (f_M_costOf this h x2 x3 s0 x5).bind fun i7 =>
  if i5 < 0 then
    some ((-1003 : Int32), h)
  else
  if 0 ≤ i7 then
    (gA h this 8 3).bind fun r8 =>
    (r8).bind fun a10 =>
    (aI h 0 a10 x1).bind fun i13 =>
    if i13 = (2 : Int32) then
      (f_M_costOf this h x2 x4 x4 x5).bind fun i15 =>
      (f_M_costOf this h x2 x3 x4 x5).bind fun i17 =>
      if i15 < 0 then
        some ((-1003 : Int32), h)
      else
      if 0 ≤ i17 then
        f_M_leaf_188 this (i5 + i15) (i7 + i17) h
      else
      some ((-1003 : Int32), h)
    else
    f_M_leaf_188 this i5 i7 h
  else
  some ((-1003 : Int32), h)
set_option maxRecDepth 100000 in
set_option maxHeartbeats 4000000 in
theorem w_M_leaf_84 {p : Program} {l : Launch} {e : Env} {s : State} {m : MethodId} {args : Array Value} {below : List Frame} {meth : Method} {c : Code} {N0 : Nat} {D : va_G} {cs : Nat → ClassId} (M : ZC p s m args meth c "YearBasketsModel" "leaf" b_M_leaf 11 (some .int) N0 D cs) (this : Nat)  {r0 : Int32} {h0 : Hp}  (s0 : Int32) (x1 : Int32) (x2 : Int32) (x3 : Int32) (x4 : Int32) (x5 : Int32) (h : Hp) (hf : f_M_leaf_84 this s0 x1 x2 x3 x4 x5 h = some (r0, h0)) : ZG p l e (zrm 4 0 0) s m args below meth c N0 D cs (some (.int r0)) h0 h 11 [(0, .ref this), (1, .int x1), (2, .int x2), (3, .int x3), (4, .int x4), (5, .int x5)] 84 [.int s0] := by
  intro H locs ls hH hS hl
  unfold f_M_leaf_84 at hf
  refine lv_istore (lv' := [(6, .int s0), (0, .ref this), (1, .int x1), (2, .int x2), (3, .int x3), (4, .int x4), (5, .int x5)]) M.x M.b d_M_leaf_84 hl (by decide) rfl (fun ls hl => ?_)
  refine lv_aload_n M.x M.b d_M_leaf_86 rfl (lv_at hl 1 rfl) ?_
  refine lv_iload_n M.x M.b d_M_leaf_87 rfl (lv_at hl 3 rfl) ?_
  refine lv_iload M.x M.b d_M_leaf_88 (lv_at hl 5 rfl) ?_
  refine lv_iload M.x M.b d_M_leaf_90 (lv_at hl 0 rfl) ?_
  refine lv_iload M.x M.b d_M_leaf_92 (lv_at hl 6 rfl) ?_
  replace hf := z_bind hf; obtain ⟨i5, e4, hf⟩ := hf
  refine zk_V (ci := 8) (st1 := [.int i5]) M hH hS (c_M_costOf e4) rfl (o_M_costOf e4) w_M_costOf q_581 [] rfl ⟨Nat.le_of_ble_eq_true rfl, Nat.le_of_ble_eq_true rfl⟩ hl.1 rfl rfl (Nat.le_of_ble_eq_true rfl) d_M_leaf_94 (fun H locs hH hS => ?_)
  refine lv_istore (lv' := [(7, .int i5), (6, .int s0), (0, .ref this), (1, .int x1), (2, .int x2), (3, .int x3), (4, .int x4), (5, .int x5)]) M.x M.b d_M_leaf_97 hl (by decide) rfl (fun ls hl => ?_)
  refine lv_aload_n M.x M.b d_M_leaf_99 rfl (lv_at hl 2 rfl) ?_
  refine lv_iload_n M.x M.b d_M_leaf_100 rfl (lv_at hl 4 rfl) ?_
  refine lv_iload_n M.x M.b d_M_leaf_101 rfl (lv_at hl 5 rfl) ?_
  refine lv_iload M.x M.b d_M_leaf_102 (lv_at hl 1 rfl) ?_
  refine lv_iload M.x M.b d_M_leaf_104 (lv_at hl 7 rfl) ?_
  replace hf := z_bind hf; obtain ⟨i7, e6, hf⟩ := hf
  refine zk_V (ci := 8) (st1 := [.int i7]) M hH hS (c_M_costOf e6) rfl (o_M_costOf e6) w_M_costOf q_581 [] rfl ⟨Nat.le_of_ble_eq_true rfl, Nat.le_of_ble_eq_true rfl⟩ hl.1 rfl rfl (Nat.le_of_ble_eq_true rfl) d_M_leaf_106 (fun H locs hH hS => ?_)
  refine lv_istore (lv' := [(8, .int i7), (7, .int i5), (6, .int s0), (0, .ref this), (1, .int x1), (2, .int x2), (3, .int x3), (4, .int x4), (5, .int x5)]) M.x M.b d_M_leaf_109 hl (by decide) rfl (fun ls hl => ?_)
  refine lv_iload M.x M.b d_M_leaf_111 (lv_at hl 1 rfl) ?_
  refine lv_if_lt (tgt := 121) M.x M.b d_M_leaf_113 (by decide) (fun c22 => ?_) (fun c22 => ?_)
  · replace hf := z_t c22 hf
    refine lv_sipush (v := (-1003 : Int32)) M.x M.b d_M_leaf_121 rfl ?_
    obtain ⟨rfl, rfl⟩ := z_r2 hf
    exact z_iret M hH hS d_M_leaf_124
  · replace hf := z_f c22 hf
    refine lv_iload M.x M.b d_M_leaf_116 (lv_at hl 0 rfl) ?_
    refine lv_if_ge (tgt := 125) M.x M.b d_M_leaf_118 (by decide) (fun c21 => ?_) (fun c21 => ?_)
    · replace hf := z_t c21 hf
      refine lv_aload_n M.x M.b d_M_leaf_125 rfl (lv_at hl 3 rfl) ?_
      replace hf := z_bind hf; obtain ⟨r8, e9, hf⟩ := hf
      refine z_get (ci := 8) (k := 3) M hH rfl (by decide) zinM q_647 (gA_spec e9) d_M_leaf_126 ?_
      refine lv_iload_n M.x M.b d_M_leaf_129 rfl (lv_at hl 4 rfl) ?_
      rcases r8 with _ | a10
      · exact absurd hf z_nb0
      replace hf := z_sb hf
      replace hf := z_bind hf; obtain ⟨i13, e12, hf⟩ := hf
      refine z_iald M hH e12 d_M_leaf_130 ?_
      refine lv_iconst (v := (2 : Int32)) M.x M.b d_M_leaf_131 rfl ?_
      refine lv_icmp_ne (tgt := 188) M.x M.b d_M_leaf_132 (by decide) (fun c20 => ?_) (fun c20 => ?_)
      · replace hf := z_f c20 hf
        exact w_M_leaf_188 M this _ _ _ hf H locs ls hH hS (lv_sub hl [3, 1, 0] rfl)
      · replace hf := z_t c20 hf
        refine lv_aload_n M.x M.b d_M_leaf_135 rfl (lv_at hl 3 rfl) ?_
        refine lv_iload_n M.x M.b d_M_leaf_136 rfl (lv_at hl 5 rfl) ?_
        refine lv_iload M.x M.b d_M_leaf_137 (lv_at hl 7 rfl) ?_
        refine lv_iload M.x M.b d_M_leaf_139 (lv_at hl 7 rfl) ?_
        refine lv_iload M.x M.b d_M_leaf_141 (lv_at hl 8 rfl) ?_
        replace hf := z_bind hf; obtain ⟨i15, e14, hf⟩ := hf
        refine zk_V (ci := 8) (st1 := [.int i15]) M hH hS (c_M_costOf e14) rfl (o_M_costOf e14) w_M_costOf q_581 [] rfl ⟨Nat.le_of_ble_eq_true rfl, Nat.le_of_ble_eq_true rfl⟩ hl.1 rfl rfl (Nat.le_of_ble_eq_true rfl) d_M_leaf_143 (fun H locs hH hS => ?_)
        refine lv_istore (lv' := [(9, .int i15), (8, .int i7), (7, .int i5), (6, .int s0), (0, .ref this), (1, .int x1), (2, .int x2), (3, .int x3), (4, .int x4), (5, .int x5)]) M.x M.b d_M_leaf_146 hl (by decide) rfl (fun ls hl => ?_)
        refine lv_aload_n M.x M.b d_M_leaf_148 rfl (lv_at hl 4 rfl) ?_
        refine lv_iload_n M.x M.b d_M_leaf_149 rfl (lv_at hl 6 rfl) ?_
        refine lv_iload_n M.x M.b d_M_leaf_150 rfl (lv_at hl 7 rfl) ?_
        refine lv_iload M.x M.b d_M_leaf_151 (lv_at hl 8 rfl) ?_
        refine lv_iload M.x M.b d_M_leaf_153 (lv_at hl 9 rfl) ?_
        replace hf := z_bind hf; obtain ⟨i17, e16, hf⟩ := hf
        refine zk_V (ci := 8) (st1 := [.int i17]) M hH hS (c_M_costOf e16) rfl (o_M_costOf e16) w_M_costOf q_581 [] rfl ⟨Nat.le_of_ble_eq_true rfl, Nat.le_of_ble_eq_true rfl⟩ hl.1 rfl rfl (Nat.le_of_ble_eq_true rfl) d_M_leaf_155 (fun H locs hH hS => ?_)
        refine lv_istore (lv' := [(10, .int i17), (9, .int i15), (8, .int i7), (7, .int i5), (6, .int s0), (0, .ref this), (1, .int x1), (2, .int x2), (3, .int x3), (4, .int x4), (5, .int x5)]) M.x M.b d_M_leaf_158 hl (by decide) rfl (fun ls hl => ?_)
        refine lv_iload M.x M.b d_M_leaf_160 (lv_at hl 1 rfl) ?_
        refine lv_if_lt (tgt := 170) M.x M.b d_M_leaf_162 (by decide) (fun c19 => ?_) (fun c19 => ?_)
        · replace hf := z_t c19 hf
          refine lv_sipush (v := (-1003 : Int32)) M.x M.b d_M_leaf_170 rfl ?_
          obtain ⟨rfl, rfl⟩ := z_r2 hf
          exact z_iret M hH hS d_M_leaf_173
        · replace hf := z_f c19 hf
          refine lv_iload M.x M.b d_M_leaf_165 (lv_at hl 0 rfl) ?_
          refine lv_if_ge (tgt := 174) M.x M.b d_M_leaf_167 (by decide) (fun c18 => ?_) (fun c18 => ?_)
          · replace hf := z_t c18 hf
            refine lv_iload M.x M.b d_M_leaf_174 (lv_at hl 3 rfl) ?_
            refine lv_iload M.x M.b d_M_leaf_176 (lv_at hl 1 rfl) ?_
            refine lv_iadd M.x M.b d_M_leaf_178 ?_
            refine lv_istore (lv' := [(7, .int (i5 + i15)), (10, .int i17), (9, .int i15), (8, .int i7), (6, .int s0), (0, .ref this), (1, .int x1), (2, .int x2), (3, .int x3), (4, .int x4), (5, .int x5)]) M.x M.b d_M_leaf_179 hl (by decide) rfl (fun ls hl => ?_)
            refine lv_iload M.x M.b d_M_leaf_181 (lv_at hl 3 rfl) ?_
            refine lv_iload M.x M.b d_M_leaf_183 (lv_at hl 1 rfl) ?_
            refine lv_iadd M.x M.b d_M_leaf_185 ?_
            refine lv_istore (lv' := [(8, .int (i7 + i17)), (7, .int (i5 + i15)), (10, .int i17), (9, .int i15), (6, .int s0), (0, .ref this), (1, .int x1), (2, .int x2), (3, .int x3), (4, .int x4), (5, .int x5)]) M.x M.b d_M_leaf_186 hl (by decide) rfl (fun ls hl => ?_)
            exact w_M_leaf_188 M this _ _ _ hf H locs ls hH hS (lv_sub hl [5, 1, 0] rfl)
          · replace hf := z_f c18 hf
            refine lv_sipush (v := (-1003 : Int32)) M.x M.b d_M_leaf_170 rfl ?_
            obtain ⟨rfl, rfl⟩ := z_r2 hf
            exact z_iret M hH hS d_M_leaf_173
    · replace hf := z_f c21 hf
      refine lv_sipush (v := (-1003 : Int32)) M.x M.b d_M_leaf_121 rfl ?_
      obtain ⟨rfl, rfl⟩ := z_r2 hf
      exact z_iret M hH hS d_M_leaf_124
def f_M_leaf_59 (this : Nat) (x1 : Int32) (x2 : Int32) (x3 : Int32) (x4 : Int32) (x5 : Int32) (h : Hp) : Option ((Int32 × Hp)) :=
  f_M_leaf_84 this x3 x1 x2 x3 x4 x5 h
set_option maxRecDepth 100000 in
set_option maxHeartbeats 4000000 in
theorem w_M_leaf_59 {p : Program} {l : Launch} {e : Env} {s : State} {m : MethodId} {args : Array Value} {below : List Frame} {meth : Method} {c : Code} {N0 : Nat} {D : va_G} {cs : Nat → ClassId} (M : ZC p s m args meth c "YearBasketsModel" "leaf" b_M_leaf 11 (some .int) N0 D cs) (this : Nat)  {r0 : Int32} {h0 : Hp}  (x1 : Int32) (x2 : Int32) (x3 : Int32) (x4 : Int32) (x5 : Int32) (h : Hp) (hf : f_M_leaf_59 this x1 x2 x3 x4 x5 h = some (r0, h0)) : ZG p l e (zrm 4 0 0) s m args below meth c N0 D cs (some (.int r0)) h0 h 11 [(0, .ref this), (1, .int x1), (2, .int x2), (3, .int x3), (4, .int x4), (5, .int x5)] 59 [] := by
  intro H locs ls hH hS hl
  unfold f_M_leaf_59 at hf
  refine lv_iload_n M.x M.b d_M_leaf_59 rfl (lv_at hl 3 rfl) ?_
  refine lv_goto (tgt := 84) M.x M.b d_M_leaf_60 (by decide) ?_
  exact w_M_leaf_84 M this _ _ _ _ _ _ _ hf H locs ls hH hS (lv_sub hl [0, 1, 2, 3, 4, 5] rfl)
def f_M_leaf (this : Nat) (x1 : Int32) (x2 : Int32) (x3 : Int32) (x4 : Int32) (x5 : Int32) (h : Hp) : Option ((Int32 × Hp)) :=
  if isO h this 8 = true then
  (gA h this 8 3).bind fun r23 =>
  (r23).bind fun a25 =>
  (aI h 0 a25 x1).bind fun i28 =>
  if i28 = (4 : Int32) then
    zb2 (f_M_plain this x3 x4 x5 h) fun i67 h68 =>
    some (i67, h68)
  else
  (gA h this 8 3).bind fun r29 =>
  (r29).bind fun a31 =>
  (aI h 0 a31 x1).bind fun i34 =>
  if i34 = (5 : Int32) then
    zb2 (f_M_sums this x3 x4 x5 h) fun i63 h64 =>
    some (i63, h64)
  else
  (gA h this 8 3).bind fun r35 =>
  (r35).bind fun a37 =>
  (aI h 0 a37 x1).bind fun i40 =>
  if i40 = 0 then
    f_M_leaf_59 this x1 x2 x3 x4 x5 h
  else
  (gA h this 8 3).bind fun r41 =>
  (r41).bind fun a43 =>
  (aI h 0 a43 x1).bind fun i46 =>
  if i46 = (2 : Int32) then
    f_M_leaf_59 this x1 x2 x3 x4 x5 h
  else
  (gA h this 8 3).bind fun r47 =>
  (r47).bind fun a49 =>
  (aI h 0 a49 x1).bind fun i52 =>
  if i52 = (1 : Int32) then
    f_M_leaf_84 this x4 x1 x2 x3 x4 x5 h
  else
  (gA h this 8 4).bind fun r53 =>
  (r53).bind fun a55 =>
  (aI h 0 a55 x1).bind fun i58 =>
  f_M_leaf_84 this i58 x1 x2 x3 x4 x5 h
  else none
theorem o_M_leaf {this : Nat} {x1 : Int32} {x2 : Int32} {x3 : Int32} {x4 : Int32} {x5 : Int32} {h : Hp} {r0 : Int32} {h0 : Hp} (hf : f_M_leaf this x1 x2 x3 x4 x5 h = some (r0, h0)) : isO h this 8 = true := by
  unfold f_M_leaf at hf
  exact (z_gd hf).1
set_option maxRecDepth 100000 in
set_option maxHeartbeats 4000000 in
theorem c_M_leaf {l : Launch} {N0 : Nat} {D : va_G} {cs : Nat → ClassId} {this : Nat} {x1 : Int32} {x2 : Int32} {x3 : Int32} {x4 : Int32} {x5 : Int32} {h : Hp} {r0 : Int32} {h0 : Hp} (hf : f_M_leaf this x1 x2 x3 x4 x5 h = some (r0, h0)) : Fn l N0 D cs y_M_leaf b_M_leaf 11 (some .int) 4 0 0 [.ref this, .int x1, .int x2, .int x3, .int x4, .int x5] h (some (.int r0)) h0 := by
  refine z_start (by decide) (Nat.le_of_ble_eq_true rfl) ?_
  intro p e s m args below meth c M hH hS ls hl
  unfold f_M_leaf at hf
  obtain ⟨hO, hf⟩ := z_gd hf
  have hl : lv_has ls 11 [(0, .ref this), (1, .int x1), (2, .int x2), (3, .int x3), (4, .int x4), (5, .int x5)] := hl
  obtain ⟨H, hHe⟩ : ∃ H, H = s.heap := ⟨_, rfl⟩
  obtain ⟨locs, hLe⟩ : ∃ locs : List Loc, locs = [] := ⟨_, rfl⟩
  have hS : va_S (zA N0) s.heap H locs := by rw [hHe, hLe]; exact hS
  have hH : HH N0 D cs h H := by rw [hHe]; exact hH
  suffices hg : W p l e (zrm 4 0 0) s m args below meth c H locs 0 0 (MQ below (zQ N0 D cs (some (.int r0)) h0) args s 0 0 (zA N0)) (F0 m 0 ls []) by rw [hHe, hLe] at hg; exact hg
  clear hHe hLe
  refine lv_aload_n M.x M.b d_M_leaf_0 rfl (lv_at hl 0 rfl) ?_
  replace hf := z_bind hf; obtain ⟨r23, e24, hf⟩ := hf
  refine z_get (ci := 8) (k := 3) M hH rfl (by decide) zinM q_647 (gA_spec e24) d_M_leaf_1 ?_
  refine lv_iload_n M.x M.b d_M_leaf_4 rfl (lv_at hl 1 rfl) ?_
  rcases r23 with _ | a25
  · exact absurd hf z_nb0
  replace hf := z_sb hf
  replace hf := z_bind hf; obtain ⟨i28, e27, hf⟩ := hf
  refine z_iald M hH e27 d_M_leaf_5 ?_
  refine lv_iconst (v := (4 : Int32)) M.x M.b d_M_leaf_6 rfl ?_
  refine lv_icmp_ne (tgt := 20) M.x M.b d_M_leaf_7 (by decide) (fun c69 => ?_) (fun c69 => ?_)
  · replace hf := z_f c69 hf
    refine lv_aload_n M.x M.b d_M_leaf_20 rfl (lv_at hl 0 rfl) ?_
    replace hf := z_bind hf; obtain ⟨r29, e30, hf⟩ := hf
    refine z_get (ci := 8) (k := 3) M hH rfl (by decide) zinM q_647 (gA_spec e30) d_M_leaf_21 ?_
    refine lv_iload_n M.x M.b d_M_leaf_24 rfl (lv_at hl 1 rfl) ?_
    rcases r29 with _ | a31
    · exact absurd hf z_nb0
    replace hf := z_sb hf
    replace hf := z_bind hf; obtain ⟨i34, e33, hf⟩ := hf
    refine z_iald M hH e33 d_M_leaf_25 ?_
    refine lv_iconst (v := (5 : Int32)) M.x M.b d_M_leaf_26 rfl ?_
    refine lv_icmp_ne (tgt := 40) M.x M.b d_M_leaf_27 (by decide) (fun c65 => ?_) (fun c65 => ?_)
    · replace hf := z_f c65 hf
      refine lv_aload_n M.x M.b d_M_leaf_40 rfl (lv_at hl 0 rfl) ?_
      replace hf := z_bind hf; obtain ⟨r35, e36, hf⟩ := hf
      refine z_get (ci := 8) (k := 3) M hH rfl (by decide) zinM q_647 (gA_spec e36) d_M_leaf_41 ?_
      refine lv_iload_n M.x M.b d_M_leaf_44 rfl (lv_at hl 1 rfl) ?_
      rcases r35 with _ | a37
      · exact absurd hf z_nb0
      replace hf := z_sb hf
      replace hf := z_bind hf; obtain ⟨i40, e39, hf⟩ := hf
      refine z_iald M hH e39 d_M_leaf_45 ?_
      refine lv_if_eq (tgt := 59) M.x M.b d_M_leaf_46 (by decide) (fun c61 => ?_) (fun c61 => ?_)
      · replace hf := z_t c61 hf
        exact w_M_leaf_59 M this _ _ _ _ _ _ hf H locs ls hH hS (lv_sub hl [0, 1, 2, 3, 4, 5] rfl)
      · replace hf := z_f c61 hf
        refine lv_aload_n M.x M.b d_M_leaf_49 rfl (lv_at hl 0 rfl) ?_
        replace hf := z_bind hf; obtain ⟨r41, e42, hf⟩ := hf
        refine z_get (ci := 8) (k := 3) M hH rfl (by decide) zinM q_647 (gA_spec e42) d_M_leaf_50 ?_
        refine lv_iload_n M.x M.b d_M_leaf_53 rfl (lv_at hl 1 rfl) ?_
        rcases r41 with _ | a43
        · exact absurd hf z_nb0
        replace hf := z_sb hf
        replace hf := z_bind hf; obtain ⟨i46, e45, hf⟩ := hf
        refine z_iald M hH e45 d_M_leaf_54 ?_
        refine lv_iconst (v := (2 : Int32)) M.x M.b d_M_leaf_55 rfl ?_
        refine lv_icmp_ne (tgt := 63) M.x M.b d_M_leaf_56 (by decide) (fun c60 => ?_) (fun c60 => ?_)
        · replace hf := z_f c60 hf
          refine lv_aload_n M.x M.b d_M_leaf_63 rfl (lv_at hl 0 rfl) ?_
          replace hf := z_bind hf; obtain ⟨r47, e48, hf⟩ := hf
          refine z_get (ci := 8) (k := 3) M hH rfl (by decide) zinM q_647 (gA_spec e48) d_M_leaf_64 ?_
          refine lv_iload_n M.x M.b d_M_leaf_67 rfl (lv_at hl 1 rfl) ?_
          rcases r47 with _ | a49
          · exact absurd hf z_nb0
          replace hf := z_sb hf
          replace hf := z_bind hf; obtain ⟨i52, e51, hf⟩ := hf
          refine z_iald M hH e51 d_M_leaf_68 ?_
          refine lv_iconst (v := (1 : Int32)) M.x M.b d_M_leaf_69 rfl ?_
          refine lv_icmp_ne (tgt := 78) M.x M.b d_M_leaf_70 (by decide) (fun c59 => ?_) (fun c59 => ?_)
          · replace hf := z_f c59 hf
            refine lv_aload_n M.x M.b d_M_leaf_78 rfl (lv_at hl 0 rfl) ?_
            replace hf := z_bind hf; obtain ⟨r53, e54, hf⟩ := hf
            refine z_get (ci := 8) (k := 4) M hH rfl (by decide) zinM q_646 (gA_spec e54) d_M_leaf_79 ?_
            refine lv_iload_n M.x M.b d_M_leaf_82 rfl (lv_at hl 1 rfl) ?_
            rcases r53 with _ | a55
            · exact absurd hf z_nb0
            replace hf := z_sb hf
            replace hf := z_bind hf; obtain ⟨i58, e57, hf⟩ := hf
            refine z_iald M hH e57 d_M_leaf_83 ?_
            exact w_M_leaf_84 M this _ _ _ _ _ _ _ hf H locs ls hH hS (lv_sub hl [0, 1, 2, 3, 4, 5] rfl)
          · replace hf := z_t c59 hf
            refine lv_iload M.x M.b d_M_leaf_73 (lv_at hl 4 rfl) ?_
            refine lv_goto (tgt := 84) M.x M.b d_M_leaf_75 (by decide) ?_
            exact w_M_leaf_84 M this _ _ _ _ _ _ _ hf H locs ls hH hS (lv_sub hl [0, 1, 2, 3, 4, 5] rfl)
        · replace hf := z_t c60 hf
          exact w_M_leaf_59 M this _ _ _ _ _ _ hf H locs ls hH hS (lv_sub hl [0, 1, 2, 3, 4, 5] rfl)
    · replace hf := z_t c65 hf
      refine lv_aload_n M.x M.b d_M_leaf_30 rfl (lv_at hl 0 rfl) ?_
      refine lv_iload_n M.x M.b d_M_leaf_31 rfl (lv_at hl 3 rfl) ?_
      refine lv_iload M.x M.b d_M_leaf_32 (lv_at hl 4 rfl) ?_
      refine lv_iload M.x M.b d_M_leaf_34 (lv_at hl 5 rfl) ?_
      replace hf := z_bind2 hf; obtain ⟨i63, h64, e62, hf⟩ := hf
      refine zk_V (ci := 8) (st1 := [.int i63]) M hH hS (c_M_sums e62) rfl (o_M_sums e62) w_M_sums q_701 [] rfl ⟨Nat.le_of_ble_eq_true rfl, Nat.le_of_ble_eq_true rfl⟩ hl.1 rfl rfl (Nat.le_of_ble_eq_true rfl) d_M_leaf_36 (fun H locs hH hS => ?_)
      obtain ⟨rfl, rfl⟩ := z_r2 hf
      exact z_iret M hH hS d_M_leaf_39
  · replace hf := z_t c69 hf
    refine lv_aload_n M.x M.b d_M_leaf_10 rfl (lv_at hl 0 rfl) ?_
    refine lv_iload_n M.x M.b d_M_leaf_11 rfl (lv_at hl 3 rfl) ?_
    refine lv_iload M.x M.b d_M_leaf_12 (lv_at hl 4 rfl) ?_
    refine lv_iload M.x M.b d_M_leaf_14 (lv_at hl 5 rfl) ?_
    replace hf := z_bind2 hf; obtain ⟨i67, h68, e66, hf⟩ := hf
    refine zk_V (ci := 8) (st1 := [.int i67]) M hH hS (c_M_plain e66) rfl (o_M_plain e66) w_M_plain q_702 [] rfl ⟨Nat.le_of_ble_eq_true rfl, Nat.le_of_ble_eq_true rfl⟩ hl.1 rfl rfl (Nat.le_of_ble_eq_true rfl) d_M_leaf_16 (fun H locs hH hS => ?_)
    obtain ⟨rfl, rfl⟩ := z_r2 hf
    exact z_iret M hH hS d_M_leaf_19
def f_M_half (this : Nat) (x1 : Int64) (x3 : Int64) (h : Hp) : Option ((Int32 × Hp)) :=
  if isO h this 8 = true then
  if (x1 - x1 / (2 : Int64) * (2 : Int64)) = (0 : Int64) then
    zb2 (f_M_take this (x1 / (2 : Int64)) x3 (0 : Int32) h) fun i5 h6 =>
    some (i5, h6)
  else
  zb2 (f_M_take this x1 ((2 : Int64) * x3) (0 : Int32) h) fun i2 h3 =>
  some (i2, h3)
  else none
theorem o_M_half {this : Nat} {x1 : Int64} {x3 : Int64} {h : Hp} {r0 : Int32} {h0 : Hp} (hf : f_M_half this x1 x3 h = some (r0, h0)) : isO h this 8 = true := by
  unfold f_M_half at hf
  exact (z_gd hf).1
set_option maxRecDepth 100000 in
set_option maxHeartbeats 4000000 in
theorem c_M_half {l : Launch} {N0 : Nat} {D : va_G} {cs : Nat → ClassId} {this : Nat} {x1 : Int64} {x3 : Int64} {h : Hp} {r0 : Int32} {h0 : Hp} (hf : f_M_half this x1 x3 h = some (r0, h0)) : Fn l N0 D cs y_M_half b_M_half 5 (some .int) 3 0 0 [.ref this, .long x1, .long x3] h (some (.int r0)) h0 := by
  refine z_start (by decide) (Nat.le_of_ble_eq_true rfl) ?_
  intro p e s m args below meth c M hH hS ls hl
  unfold f_M_half at hf
  obtain ⟨hO, hf⟩ := z_gd hf
  have hl : lv_has ls 5 [(0, .ref this), (1, .long x1), (3, .long x3)] := hl
  obtain ⟨H, hHe⟩ : ∃ H, H = s.heap := ⟨_, rfl⟩
  obtain ⟨locs, hLe⟩ : ∃ locs : List Loc, locs = [] := ⟨_, rfl⟩
  have hS : va_S (zA N0) s.heap H locs := by rw [hHe, hLe]; exact hS
  have hH : HH N0 D cs h H := by rw [hHe]; exact hH
  suffices hg : W p l e (zrm 3 0 0) s m args below meth c H locs 0 0 (MQ below (zQ N0 D cs (some (.int r0)) h0) args s 0 0 (zA N0)) (F0 m 0 ls []) by rw [hHe, hLe] at hg; exact hg
  clear hHe hLe
  refine lv_lload_n M.x M.b d_M_half_0 rfl (lv_at hl 1 rfl) ?_
  refine z_ldc2 (v := (2 : Int64)) M q_568 d_M_half_1 ?_
  refine lv_lrem M.x M.b d_M_half_4 (by decide) ?_
  refine lv_lconst (v := (0 : Int64)) M.x M.b d_M_half_5 rfl ?_
  refine z_lcmp_ne (tgt := 24) M d_M_half_6 d_M_half_7 (by decide) (fun c7 => ?_) (fun c7 => ?_)
  · replace hf := z_f c7 hf
    refine lv_aload_n M.x M.b d_M_half_24 rfl (lv_at hl 0 rfl) ?_
    refine lv_lload_n M.x M.b d_M_half_25 rfl (lv_at hl 1 rfl) ?_
    refine z_ldc2 (v := (2 : Int64)) M q_568 d_M_half_26 ?_
    refine lv_lload_n M.x M.b d_M_half_29 rfl (lv_at hl 2 rfl) ?_
    refine lv_lmul M.x M.b d_M_half_30 ?_
    refine lv_iconst (v := (0 : Int32)) M.x M.b d_M_half_31 rfl ?_
    replace hf := z_bind2 hf; obtain ⟨i2, h3, e1, hf⟩ := hf
    refine zk_V (ci := 8) (st1 := [.int i2]) M hH hS (c_M_take e1) rfl (o_M_take e1) w_M_take q_674 [] rfl ⟨Nat.le_of_ble_eq_true rfl, Nat.le_of_ble_eq_true rfl⟩ hl.1 rfl rfl (Nat.le_of_ble_eq_true rfl) d_M_half_32 (fun H locs hH hS => ?_)
    obtain ⟨rfl, rfl⟩ := z_r2 hf
    exact z_iret M hH hS d_M_half_35
  · replace hf := z_t c7 hf
    refine lv_aload_n M.x M.b d_M_half_10 rfl (lv_at hl 0 rfl) ?_
    refine lv_lload_n M.x M.b d_M_half_11 rfl (lv_at hl 1 rfl) ?_
    refine z_ldc2 (v := (2 : Int64)) M q_568 d_M_half_12 ?_
    refine lv_ldiv M.x M.b d_M_half_15 (by decide) ?_
    refine lv_lload_n M.x M.b d_M_half_16 rfl (lv_at hl 2 rfl) ?_
    refine lv_iconst (v := (0 : Int32)) M.x M.b d_M_half_17 rfl ?_
    replace hf := z_bind2 hf; obtain ⟨i5, h6, e4, hf⟩ := hf
    refine zk_V (ci := 8) (st1 := [.int i5]) M hH hS (c_M_take e4) rfl (o_M_take e4) w_M_take q_674 [] rfl ⟨Nat.le_of_ble_eq_true rfl, Nat.le_of_ble_eq_true rfl⟩ hl.1 rfl rfl (Nat.le_of_ble_eq_true rfl) d_M_half_18 (fun H locs hH hS => ?_)
    refine lv_goto (tgt := 35) M.x M.b d_M_half_21 (by decide) ?_
    obtain ⟨rfl, rfl⟩ := z_r2 hf
    exact z_iret M hH hS d_M_half_35
