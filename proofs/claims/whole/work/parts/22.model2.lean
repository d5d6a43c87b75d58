/-! ===== the reference, 2: printed by wip/whole/drive.py out of the bytecode ===== -/
theorem q_706 : (Jvm.Cond.instanceMethod ({ cls := "YearBasketsModel", name := "join", desc := "(I)I" } : Jvm.MethodName)) ∈ zG := zt_5 (List.mem_of_getElem? (i := 95) rfl) rfl
theorem q_707 : (Jvm.Cond.selects "YearBasketsModel" ({ cls := "YearBasketsModel", name := "join", desc := "(I)I" } : Jvm.MethodName) ({ cls := "YearBasketsModel", name := "join", desc := "(I)I" } : Jvm.MethodName)) ∈ zG := zG_s (List.mem_of_getElem? (i := 53) rfl) rfl
theorem q_708 : (Jvm.Cond.code ({ cls := "YearBasketsModel", name := "join", desc := "(I)I" } : Jvm.MethodName) prog_10_method_37_code (14 : Nat) (Option.some Jvm.ClassFile.FieldType.int)) ∈ zG := zt_5 (List.mem_of_getElem? (i := 96) rfl) rfl
theorem q_709 : (Jvm.Cond.fieldLink "YearBasketsModel" (58 : Nat) "YearBasketsModel" "hasRoot" "[Z") ∈ zG := zt_4 (List.mem_of_getElem? (i := 74) rfl) rfl
theorem q_710 : (Jvm.Cond.methodLink "YearBasketsModel" (238 : Nat) ({ cls := "YearBasketsModel", name := "half", desc := "(JJ)I" } : Jvm.MethodName)) ∈ zG := zt_5 (List.mem_of_getElem? (i := 97) rfl) rfl
theorem q_711 : (Jvm.Cond.methodLink "YearBasketsModel" (242 : Nat) ({ cls := "YearBasketsModel", name := "orderOf", desc := "(JJZJJZ)I" } : Jvm.MethodName)) ∈ zG := zt_5 (List.mem_of_getElem? (i := 101) rfl) rfl
theorem q_712 : (Jvm.Cond.fieldLink "YearBasketsModel" (55 : Nat) "YearBasketsModel" "hasLow" "[J") ∈ zG := zt_4 (List.mem_of_getElem? (i := 73) rfl) rfl
theorem q_713 : (Jvm.Cond.fieldLink "YearBasketsModel" (51 : Nat) "YearBasketsModel" "hasUp" "[J") ∈ zG := zt_4 (List.mem_of_getElem? (i := 72) rfl) rfl
theorem q_714 : (Jvm.Cond.instanceMethod ({ cls := "YearBasketsModel", name := "hold", desc := "(I)V" } : Jvm.MethodName)) ∈ zG := zt_5 (List.mem_of_getElem? (i := 91) rfl) rfl
theorem q_715 : (Jvm.Cond.selects "YearBasketsModel" ({ cls := "YearBasketsModel", name := "hold", desc := "(I)V" } : Jvm.MethodName) ({ cls := "YearBasketsModel", name := "hold", desc := "(I)V" } : Jvm.MethodName)) ∈ zG := zG_s (List.mem_of_getElem? (i := 52) rfl) rfl
theorem q_716 : (Jvm.Cond.code ({ cls := "YearBasketsModel", name := "hold", desc := "(I)V" } : Jvm.MethodName) prog_10_method_40_code (2 : Nat) (Option.none : Option Jvm.ClassFile.FieldType)) ∈ zG := zt_5 (List.mem_of_getElem? (i := 92) rfl) rfl
theorem q_717 : (Jvm.Cond.instanceMethod ({ cls := "YearBasketsModel", name := "chain", desc := "(IZ)I" } : Jvm.MethodName)) ∈ zG := zt_5 (List.mem_of_getElem? (i := 83) rfl) rfl
theorem q_718 : (Jvm.Cond.selects "YearBasketsModel" ({ cls := "YearBasketsModel", name := "chain", desc := "(IZ)I" } : Jvm.MethodName) ({ cls := "YearBasketsModel", name := "chain", desc := "(IZ)I" } : Jvm.MethodName)) ∈ zG := zG_s (List.mem_of_getElem? (i := 50) rfl) rfl
theorem q_719 : (Jvm.Cond.code ({ cls := "YearBasketsModel", name := "chain", desc := "(IZ)I" } : Jvm.MethodName) prog_10_method_39_code (5 : Nat) (Option.some Jvm.ClassFile.FieldType.int)) ∈ zG := zt_5 (List.mem_of_getElem? (i := 84) rfl) rfl
theorem q_720 : (Jvm.Cond.methodLink "YearBasketsModel" (246 : Nat) ({ cls := "YearBasketsModel", name := "hold", desc := "(I)V" } : Jvm.MethodName)) ∈ zG := zt_5 (List.mem_of_getElem? (i := 89) rfl) rfl
theorem q_721 : (Jvm.Cond.instanceMethod ({ cls := "YearBasketsModel", name := "work", desc := "(IZ)I" } : Jvm.MethodName)) ∈ zG := zt_5 (List.mem_of_getElem? (i := 59) rfl) rfl
theorem q_722 : (Jvm.Cond.selects "YearBasketsModel" ({ cls := "YearBasketsModel", name := "work", desc := "(IZ)I" } : Jvm.MethodName) ({ cls := "YearBasketsModel", name := "work", desc := "(IZ)I" } : Jvm.MethodName)) ∈ zG := zG_s (List.mem_of_getElem? (i := 45) rfl) rfl
theorem q_723 : (Jvm.Cond.code ({ cls := "YearBasketsModel", name := "work", desc := "(IZ)I" } : Jvm.MethodName) prog_10_method_41_code (9 : Nat) (Option.some Jvm.ClassFile.FieldType.int)) ∈ zG := zt_5 (List.mem_of_getElem? (i := 60) rfl) rfl
theorem q_724 : (Jvm.Cond.methodLink "YearBasketsModel" (261 : Nat) ({ cls := "YearBasketsModel", name := "push", desc := "(IIII)V" } : Jvm.MethodName)) ∈ zG := zt_5 (List.mem_of_getElem? (i := 53) rfl) rfl
theorem q_725 : (Jvm.Cond.methodLink "YearBasketsModel" (265 : Nat) ({ cls := "YearBasketsModel", name := "join", desc := "(I)I" } : Jvm.MethodName)) ∈ zG := zt_5 (List.mem_of_getElem? (i := 93) rfl) rfl
theorem q_726 : (Jvm.Cond.fieldLink "YearBasketsModel" (250 : Nat) "YearBasketsModel" "isDone" "Z") ∈ zG := zt_4 (List.mem_of_getElem? (i := 76) rfl) rfl
theorem q_727 : (Jvm.Cond.methodLink "YearBasketsModel" (257 : Nat) ({ cls := "YearBasketsModel", name := "chain", desc := "(IZ)I" } : Jvm.MethodName)) ∈ zG := zt_5 (List.mem_of_getElem? (i := 81) rfl) rfl
theorem q_728 : (Jvm.Cond.methodLink "YearBasketsModel" (253 : Nat) ({ cls := "YearBasketsModel", name := "leaf", desc := "(IIIII)I" } : Jvm.MethodName)) ∈ zG := zt_5 (List.mem_of_getElem? (i := 61) rfl) rfl
theorem q_729 : (Jvm.Cond.instanceMethod ({ cls := "YearBasketsModel", name := "find", desc := "(IIII)I" } : Jvm.MethodName)) ∈ zG := zt_5 (List.mem_of_getElem? (i := 51) rfl) rfl
theorem q_730 : (Jvm.Cond.selects "YearBasketsModel" ({ cls := "YearBasketsModel", name := "find", desc := "(IIII)I" } : Jvm.MethodName) ({ cls := "YearBasketsModel", name := "find", desc := "(IIII)I" } : Jvm.MethodName)) ∈ zG := zG_s (List.mem_of_getElem? (i := 43) rfl) rfl
theorem q_731 : (Jvm.Cond.code ({ cls := "YearBasketsModel", name := "find", desc := "(IIII)I" } : Jvm.MethodName) prog_10_method_42_code (7 : Nat) (Option.some Jvm.ClassFile.FieldType.int)) ∈ zG := zt_5 (List.mem_of_getElem? (i := 52) rfl) rfl
theorem q_732 : (Jvm.Cond.methodLink "YearBasketsModel" (268 : Nat) ({ cls := "YearBasketsModel", name := "work", desc := "(IZ)I" } : Jvm.MethodName)) ∈ zG := zt_5 (List.mem_of_getElem? (i := 57) rfl) rfl
theorem q_733 : (Jvm.Cond.instanceMethod ({ cls := "YearBasketsModel", name := "isNumber", desc := "(I)Z" } : Jvm.MethodName)) ∈ zG := zt_5 (List.mem_of_getElem? (i := 45) rfl) rfl
theorem q_734 : (Jvm.Cond.selects "YearBasketsModel" ({ cls := "YearBasketsModel", name := "isNumber", desc := "(I)Z" } : Jvm.MethodName) ({ cls := "YearBasketsModel", name := "isNumber", desc := "(I)Z" } : Jvm.MethodName)) ∈ zG := zG_s (List.mem_of_getElem? (i := 42) rfl) rfl
theorem q_735 : (Jvm.Cond.code ({ cls := "YearBasketsModel", name := "isNumber", desc := "(I)Z" } : Jvm.MethodName) prog_10_method_43_code (2 : Nat) (Option.some Jvm.ClassFile.FieldType.boolean)) ∈ zG := zt_5 (List.mem_of_getElem? (i := 46) rfl) rfl
theorem q_736 : (Jvm.Cond.instanceMethod ({ cls := "YearBasketsModel", name := "worth", desc := "(IIIII)J" } : Jvm.MethodName)) ∈ zG := zt_5 (List.mem_of_getElem? (i := 40) rfl) rfl
theorem q_737 : (Jvm.Cond.selects "YearBasketsModel" ({ cls := "YearBasketsModel", name := "worth", desc := "(IIIII)J" } : Jvm.MethodName) ({ cls := "YearBasketsModel", name := "worth", desc := "(IIIII)J" } : Jvm.MethodName)) ∈ zG := zt_5 (List.mem_of_getElem? (i := 41) rfl) rfl
theorem q_738 : (Jvm.Cond.code ({ cls := "YearBasketsModel", name := "worth", desc := "(IIIII)J" } : Jvm.MethodName) prog_10_method_44_code (7 : Nat) (Option.some Jvm.ClassFile.FieldType.long)) ∈ zG := zt_5 (List.mem_of_getElem? (i := 42) rfl) rfl
theorem q_739 : (Jvm.Cond.constantLong "YearBasketsModel" (274 : Nat) (-1001 : Int64)) ∈ zG := zt_5 (List.mem_of_getElem? (i := 47) rfl) rfl
theorem q_740 : (Jvm.Cond.methodLink "YearBasketsModel" (278 : Nat) ({ cls := "YearBasketsModel", name := "find", desc := "(IIII)I" } : Jvm.MethodName)) ∈ zG := zt_5 (List.mem_of_getElem? (i := 49) rfl) rfl
theorem q_741 : (Jvm.Cond.constantLong "YearBasketsModel" (276 : Nat) (-1002 : Int64)) ∈ zG := zt_5 (List.mem_of_getElem? (i := 48) rfl) rfl
theorem q_742 : (Jvm.Cond.methodLink "YearBasketsModel" (271 : Nat) ({ cls := "YearBasketsModel", name := "isNumber", desc := "(I)Z" } : Jvm.MethodName)) ∈ zG := zt_5 (List.mem_of_getElem? (i := 43) rfl) rfl
theorem q_743 : (Jvm.Cond.instanceMethod ({ cls := "YearBasketsModel", name := "keep", desc := "(I)V" } : Jvm.MethodName)) ∈ zG := zt_5 (List.mem_of_getElem? (i := 118) rfl) rfl
theorem q_744 : (Jvm.Cond.selects "YearBasketsModel" ({ cls := "YearBasketsModel", name := "keep", desc := "(I)V" } : Jvm.MethodName) ({ cls := "YearBasketsModel", name := "keep", desc := "(I)V" } : Jvm.MethodName)) ∈ zG := zG_s (List.mem_of_getElem? (i := 57) rfl) rfl
theorem q_745 : (Jvm.Cond.code ({ cls := "YearBasketsModel", name := "keep", desc := "(I)V" } : Jvm.MethodName) prog_10_method_45_code (2 : Nat) (Option.none : Option Jvm.ClassFile.FieldType)) ∈ zG := zt_5 (List.mem_of_getElem? (i := 119) rfl) rfl
theorem q_746 : (Jvm.Cond.fieldLink "YearBasketsModel" (67 : Nat) "YearBasketsModel" "keptRoot" "[Z") ∈ zG := zt_4 (List.mem_of_getElem? (i := 79) rfl) rfl
theorem q_747 : (Jvm.Cond.fieldLink "YearBasketsModel" (64 : Nat) "YearBasketsModel" "keptLow" "[J") ∈ zG := zt_4 (List.mem_of_getElem? (i := 78) rfl) rfl
theorem q_748 : (Jvm.Cond.fieldLink "YearBasketsModel" (61 : Nat) "YearBasketsModel" "keptUp" "[J") ∈ zG := zt_4 (List.mem_of_getElem? (i := 77) rfl) rfl
theorem q_749 : (Jvm.Cond.instanceMethod ({ cls := "YearBasketsModel", name := "findKept", desc := "(IIIII)I" } : Jvm.MethodName)) ∈ zG := zt_5 (List.mem_of_getElem? (i := 114) rfl) rfl
theorem q_750 : (Jvm.Cond.selects "YearBasketsModel" ({ cls := "YearBasketsModel", name := "findKept", desc := "(IIIII)I" } : Jvm.MethodName) ({ cls := "YearBasketsModel", name := "findKept", desc := "(IIIII)I" } : Jvm.MethodName)) ∈ zG := zG_s (List.mem_of_getElem? (i := 56) rfl) rfl
theorem q_751 : (Jvm.Cond.code ({ cls := "YearBasketsModel", name := "findKept", desc := "(IIIII)I" } : Jvm.MethodName) prog_10_method_46_code (7 : Nat) (Option.some Jvm.ClassFile.FieldType.int)) ∈ zG := zt_5 (List.mem_of_getElem? (i := 115) rfl) rfl
theorem q_752 : (Jvm.Cond.methodLink "YearBasketsModel" (281 : Nat) ({ cls := "YearBasketsModel", name := "keep", desc := "(I)V" } : Jvm.MethodName)) ∈ zG := zt_5 (List.mem_of_getElem? (i := 116) rfl) rfl
theorem q_753 : (Jvm.Cond.instanceMethod ({ cls := "YearBasketsModel", name := "orderKept", desc := "(II)I" } : Jvm.MethodName)) ∈ zG := zt_5 (List.mem_of_getElem? (i := 122) rfl) rfl
theorem q_754 : (Jvm.Cond.selects "YearBasketsModel" ({ cls := "YearBasketsModel", name := "orderKept", desc := "(II)I" } : Jvm.MethodName) ({ cls := "YearBasketsModel", name := "orderKept", desc := "(II)I" } : Jvm.MethodName)) ∈ zG := zG_s (List.mem_of_getElem? (i := 58) rfl) rfl
theorem q_755 : (Jvm.Cond.code ({ cls := "YearBasketsModel", name := "orderKept", desc := "(II)I" } : Jvm.MethodName) prog_10_method_47_code (3 : Nat) (Option.some Jvm.ClassFile.FieldType.int)) ∈ zG := zt_5 (List.mem_of_getElem? (i := 123) rfl) rfl
theorem q_756 : (Jvm.Cond.instanceMethod ({ cls := "YearBasketsModel", name := "order", desc := "(IIIII)I" } : Jvm.MethodName)) ∈ zG := zt_5 (List.mem_of_getElem? (i := 109) rfl) rfl
theorem q_757 : (Jvm.Cond.selects "YearBasketsModel" ({ cls := "YearBasketsModel", name := "order", desc := "(IIIII)I" } : Jvm.MethodName) ({ cls := "YearBasketsModel", name := "order", desc := "(IIIII)I" } : Jvm.MethodName)) ∈ zG := zt_5 (List.mem_of_getElem? (i := 110) rfl) rfl
theorem q_758 : (Jvm.Cond.code ({ cls := "YearBasketsModel", name := "order", desc := "(IIIII)I" } : Jvm.MethodName) prog_10_method_48_code (7 : Nat) (Option.some Jvm.ClassFile.FieldType.int)) ∈ zG := zt_5 (List.mem_of_getElem? (i := 111) rfl) rfl
theorem q_759 : (Jvm.Cond.methodLink "YearBasketsModel" (287 : Nat) ({ cls := "YearBasketsModel", name := "orderKept", desc := "(II)I" } : Jvm.MethodName)) ∈ zG := zt_5 (List.mem_of_getElem? (i := 120) rfl) rfl
theorem q_760 : (Jvm.Cond.methodLink "YearBasketsModel" (284 : Nat) ({ cls := "YearBasketsModel", name := "findKept", desc := "(IIIII)I" } : Jvm.MethodName)) ∈ zG := zt_5 (List.mem_of_getElem? (i := 112) rfl) rfl
theorem q_761 : (Jvm.Cond.instanceMethod ({ cls := "YearBasketsModel", name := "holdBooks", desc := "()V" } : Jvm.MethodName)) ∈ zG := zt_5 (List.mem_of_getElem? (i := 146) rfl) rfl
theorem q_762 : (Jvm.Cond.selects "YearBasketsModel" ({ cls := "YearBasketsModel", name := "holdBooks", desc := "()V" } : Jvm.MethodName) ({ cls := "YearBasketsModel", name := "holdBooks", desc := "()V" } : Jvm.MethodName)) ∈ zG := zG_s (List.mem_of_getElem? (i := 62) rfl) rfl
theorem q_763 : (Jvm.Cond.code ({ cls := "YearBasketsModel", name := "holdBooks", desc := "()V" } : Jvm.MethodName) prog_10_method_49_code (2 : Nat) (Option.none : Option Jvm.ClassFile.FieldType)) ∈ zG := zt_5 (List.mem_of_getElem? (i := 147) rfl) rfl
theorem q_764 : (Jvm.Cond.fieldLink "YearBasketsModel" (73 : Nat) "YearBasketsModel" "wasBuys" "[I") ∈ zG := zt_4 (List.mem_of_getElem? (i := 81) rfl) rfl
theorem q_765 : (Jvm.Cond.fieldLink "YearBasketsModel" (70 : Nat) "YearBasketsModel" "wasPrices" "[I") ∈ zG := zt_4 (List.mem_of_getElem? (i := 80) rfl) rfl
theorem q_766 : (Jvm.Cond.instanceMethod ({ cls := "YearBasketsModel", name := "putBooks", desc := "()V" } : Jvm.MethodName)) ∈ zG := zt_5 (List.mem_of_getElem? (i := 150) rfl) rfl
theorem q_767 : (Jvm.Cond.selects "YearBasketsModel" ({ cls := "YearBasketsModel", name := "putBooks", desc := "()V" } : Jvm.MethodName) ({ cls := "YearBasketsModel", name := "putBooks", desc := "()V" } : Jvm.MethodName)) ∈ zG := zG_s (List.mem_of_getElem? (i := 63) rfl) rfl
theorem q_768 : (Jvm.Cond.code ({ cls := "YearBasketsModel", name := "putBooks", desc := "()V" } : Jvm.MethodName) prog_10_method_50_code (2 : Nat) (Option.none : Option Jvm.ClassFile.FieldType)) ∈ zG := zt_5 (List.mem_of_getElem? (i := 151) rfl) rfl
theorem q_769 : (Jvm.Cond.instanceMethod ({ cls := "YearBasketsModel", name := "product", desc := "(II)I" } : Jvm.MethodName)) ∈ zG := zt_5 (List.mem_of_getElem? (i := 162) rfl) rfl
theorem q_770 : (Jvm.Cond.selects "YearBasketsModel" ({ cls := "YearBasketsModel", name := "product", desc := "(II)I" } : Jvm.MethodName) ({ cls := "YearBasketsModel", name := "product", desc := "(II)I" } : Jvm.MethodName)) ∈ zG := zG_s (List.mem_of_getElem? (i := 66) rfl) rfl
theorem q_771 : (Jvm.Cond.code ({ cls := "YearBasketsModel", name := "product", desc := "(II)I" } : Jvm.MethodName) prog_10_method_51_code (4 : Nat) (Option.some Jvm.ClassFile.FieldType.int)) ∈ zG := zt_5 (List.mem_of_getElem? (i := 163) rfl) rfl
theorem q_772 : (Jvm.Cond.instanceMethod ({ cls := "YearBasketsModel", name := "isOneKept", desc := "(I)I" } : Jvm.MethodName)) ∈ zG := zt_5 (List.mem_of_getElem? (i := 154) rfl) rfl
theorem q_773 : (Jvm.Cond.selects "YearBasketsModel" ({ cls := "YearBasketsModel", name := "isOneKept", desc := "(I)I" } : Jvm.MethodName) ({ cls := "YearBasketsModel", name := "isOneKept", desc := "(I)I" } : Jvm.MethodName)) ∈ zG := zG_s (List.mem_of_getElem? (i := 64) rfl) rfl
theorem q_774 : (Jvm.Cond.code ({ cls := "YearBasketsModel", name := "isOneKept", desc := "(I)I" } : Jvm.MethodName) prog_10_method_52_code (2 : Nat) (Option.some Jvm.ClassFile.FieldType.int)) ∈ zG := zt_5 (List.mem_of_getElem? (i := 155) rfl) rfl
theorem q_775 : (Jvm.Cond.instanceMethod ({ cls := "YearBasketsModel", name := "sameLaw", desc := "(IIII)I" } : Jvm.MethodName)) ∈ zG := zt_5 (List.mem_of_getElem? (i := 142) rfl) rfl
theorem q_776 : (Jvm.Cond.selects "YearBasketsModel" ({ cls := "YearBasketsModel", name := "sameLaw", desc := "(IIII)I" } : Jvm.MethodName) ({ cls := "YearBasketsModel", name := "sameLaw", desc := "(IIII)I" } : Jvm.MethodName)) ∈ zG := zG_s (List.mem_of_getElem? (i := 61) rfl) rfl
theorem q_777 : (Jvm.Cond.code ({ cls := "YearBasketsModel", name := "sameLaw", desc := "(IIII)I" } : Jvm.MethodName) prog_10_method_53_code (6 : Nat) (Option.some Jvm.ClassFile.FieldType.int)) ∈ zG := zt_5 (List.mem_of_getElem? (i := 143) rfl) rfl
theorem q_778 : (Jvm.Cond.methodLink "YearBasketsModel" (296 : Nat) ({ cls := "YearBasketsModel", name := "isOneKept", desc := "(I)I" } : Jvm.MethodName)) ∈ zG := zt_5 (List.mem_of_getElem? (i := 152) rfl) rfl
theorem q_779 : (Jvm.Cond.methodLink "YearBasketsModel" (293 : Nat) ({ cls := "YearBasketsModel", name := "putBooks", desc := "()V" } : Jvm.MethodName)) ∈ zG := zt_5 (List.mem_of_getElem? (i := 148) rfl) rfl
theorem q_780 : (Jvm.Cond.methodLink "YearBasketsModel" (290 : Nat) ({ cls := "YearBasketsModel", name := "holdBooks", desc := "()V" } : Jvm.MethodName)) ∈ zG := zt_5 (List.mem_of_getElem? (i := 144) rfl) rfl
theorem q_781 : (Jvm.Cond.instanceMethod ({ cls := "YearBasketsModel", name := "backLaw", desc := "(IIII)I" } : Jvm.MethodName)) ∈ zG := zt_5 (List.mem_of_getElem? (i := 158) rfl) rfl
theorem q_782 : (Jvm.Cond.selects "YearBasketsModel" ({ cls := "YearBasketsModel", name := "backLaw", desc := "(IIII)I" } : Jvm.MethodName) ({ cls := "YearBasketsModel", name := "backLaw", desc := "(IIII)I" } : Jvm.MethodName)) ∈ zG := zG_s (List.mem_of_getElem? (i := 65) rfl) rfl
theorem q_783 : (Jvm.Cond.code ({ cls := "YearBasketsModel", name := "backLaw", desc := "(IIII)I" } : Jvm.MethodName) prog_10_method_54_code (6 : Nat) (Option.some Jvm.ClassFile.FieldType.int)) ∈ zG := zt_5 (List.mem_of_getElem? (i := 159) rfl) rfl
theorem q_784 : (Jvm.Cond.methodLink "YearBasketsModel" (299 : Nat) ({ cls := "YearBasketsModel", name := "product", desc := "(II)I" } : Jvm.MethodName)) ∈ zG := zt_5 (List.mem_of_getElem? (i := 160) rfl) rfl
abbrev b_M_join : ByteArray := prog_10_method_37_code
abbrev y_M_join : MethodName := ⟨"YearBasketsModel", "join", "(I)I"⟩
abbrev b_M_hold : ByteArray := prog_10_method_40_code
abbrev y_M_hold : MethodName := ⟨"YearBasketsModel", "hold", "(I)V"⟩
abbrev b_M_chain : ByteArray := prog_10_method_39_code
abbrev y_M_chain : MethodName := ⟨"YearBasketsModel", "chain", "(IZ)I"⟩
abbrev b_M_work : ByteArray := prog_10_method_41_code
abbrev y_M_work : MethodName := ⟨"YearBasketsModel", "work", "(IZ)I"⟩
abbrev b_M_find : ByteArray := prog_10_method_42_code
abbrev y_M_find : MethodName := ⟨"YearBasketsModel", "find", "(IIII)I"⟩
abbrev b_M_isNumber : ByteArray := prog_10_method_43_code
abbrev y_M_isNumber : MethodName := ⟨"YearBasketsModel", "isNumber", "(I)Z"⟩
abbrev b_M_worth : ByteArray := prog_10_method_44_code
abbrev y_M_worth : MethodName := ⟨"YearBasketsModel", "worth", "(IIIII)J"⟩
abbrev b_M_keep : ByteArray := prog_10_method_45_code
abbrev y_M_keep : MethodName := ⟨"YearBasketsModel", "keep", "(I)V"⟩
abbrev b_M_findKept : ByteArray := prog_10_method_46_code
abbrev y_M_findKept : MethodName := ⟨"YearBasketsModel", "findKept", "(IIIII)I"⟩
abbrev b_M_orderKept : ByteArray := prog_10_method_47_code
abbrev y_M_orderKept : MethodName := ⟨"YearBasketsModel", "orderKept", "(II)I"⟩
abbrev b_M_order : ByteArray := prog_10_method_48_code
abbrev y_M_order : MethodName := ⟨"YearBasketsModel", "order", "(IIIII)I"⟩
abbrev b_M_holdBooks : ByteArray := prog_10_method_49_code
abbrev y_M_holdBooks : MethodName := ⟨"YearBasketsModel", "holdBooks", "()V"⟩
abbrev b_M_putBooks : ByteArray := prog_10_method_50_code
abbrev y_M_putBooks : MethodName := ⟨"YearBasketsModel", "putBooks", "()V"⟩
abbrev b_M_product : ByteArray := prog_10_method_51_code
abbrev y_M_product : MethodName := ⟨"YearBasketsModel", "product", "(II)I"⟩
abbrev b_M_isOneKept : ByteArray := prog_10_method_52_code
abbrev y_M_isOneKept : MethodName := ⟨"YearBasketsModel", "isOneKept", "(I)I"⟩
abbrev b_M_sameLaw : ByteArray := prog_10_method_53_code
abbrev y_M_sameLaw : MethodName := ⟨"YearBasketsModel", "sameLaw", "(IIII)I"⟩
abbrev b_M_backLaw : ByteArray := prog_10_method_54_code
abbrev y_M_backLaw : MethodName := ⟨"YearBasketsModel", "backLaw", "(IIII)I"⟩
theorem w_M_join : Cond.code y_M_join b_M_join 14 (some .int) ∈ zG ∧ (Cond.instanceMethod y_M_join ∈ zG ∧ Cond.selects y_M_join.cls y_M_join y_M_join ∈ zG) ∧ Cond.initialized y_M_join.cls ∈ zG ∧ zY y_M_join 1 := ⟨q_708, ⟨q_706, q_707⟩, q_547, by decide +kernel⟩
theorem w_M_hold : Cond.code y_M_hold b_M_hold 2 (none) ∈ zG ∧ (Cond.instanceMethod y_M_hold ∈ zG ∧ Cond.selects y_M_hold.cls y_M_hold y_M_hold ∈ zG) ∧ Cond.initialized y_M_hold.cls ∈ zG ∧ zY y_M_hold 1 := ⟨q_716, ⟨q_714, q_715⟩, q_547, by decide +kernel⟩
theorem w_M_chain : Cond.code y_M_chain b_M_chain 5 (some .int) ∈ zG ∧ (Cond.instanceMethod y_M_chain ∈ zG ∧ Cond.selects y_M_chain.cls y_M_chain y_M_chain ∈ zG) ∧ Cond.initialized y_M_chain.cls ∈ zG ∧ zY y_M_chain 2 := ⟨q_719, ⟨q_717, q_718⟩, q_547, by decide +kernel⟩
theorem w_M_work : Cond.code y_M_work b_M_work 9 (some .int) ∈ zG ∧ (Cond.instanceMethod y_M_work ∈ zG ∧ Cond.selects y_M_work.cls y_M_work y_M_work ∈ zG) ∧ Cond.initialized y_M_work.cls ∈ zG ∧ zY y_M_work 2 := ⟨q_723, ⟨q_721, q_722⟩, q_547, by decide +kernel⟩
theorem w_M_find : Cond.code y_M_find b_M_find 7 (some .int) ∈ zG ∧ (Cond.instanceMethod y_M_find ∈ zG ∧ Cond.selects y_M_find.cls y_M_find y_M_find ∈ zG) ∧ Cond.initialized y_M_find.cls ∈ zG ∧ zY y_M_find 4 := ⟨q_731, ⟨q_729, q_730⟩, q_547, by decide +kernel⟩
theorem w_M_isNumber : Cond.code y_M_isNumber b_M_isNumber 2 (some .boolean) ∈ zG ∧ (Cond.instanceMethod y_M_isNumber ∈ zG ∧ Cond.selects y_M_isNumber.cls y_M_isNumber y_M_isNumber ∈ zG) ∧ Cond.initialized y_M_isNumber.cls ∈ zG ∧ zY y_M_isNumber 1 := ⟨q_735, ⟨q_733, q_734⟩, q_547, by decide +kernel⟩
theorem w_M_worth : Cond.code y_M_worth b_M_worth 7 (some .long) ∈ zG ∧ (Cond.instanceMethod y_M_worth ∈ zG ∧ Cond.selects y_M_worth.cls y_M_worth y_M_worth ∈ zG) ∧ Cond.initialized y_M_worth.cls ∈ zG ∧ zY y_M_worth 5 := ⟨q_738, ⟨q_736, q_737⟩, q_547, by decide +kernel⟩
theorem w_M_keep : Cond.code y_M_keep b_M_keep 2 (none) ∈ zG ∧ (Cond.instanceMethod y_M_keep ∈ zG ∧ Cond.selects y_M_keep.cls y_M_keep y_M_keep ∈ zG) ∧ Cond.initialized y_M_keep.cls ∈ zG ∧ zY y_M_keep 1 := ⟨q_745, ⟨q_743, q_744⟩, q_547, by decide +kernel⟩
theorem w_M_findKept : Cond.code y_M_findKept b_M_findKept 7 (some .int) ∈ zG ∧ (Cond.instanceMethod y_M_findKept ∈ zG ∧ Cond.selects y_M_findKept.cls y_M_findKept y_M_findKept ∈ zG) ∧ Cond.initialized y_M_findKept.cls ∈ zG ∧ zY y_M_findKept 5 := ⟨q_751, ⟨q_749, q_750⟩, q_547, by decide +kernel⟩
theorem w_M_orderKept : Cond.code y_M_orderKept b_M_orderKept 3 (some .int) ∈ zG ∧ (Cond.instanceMethod y_M_orderKept ∈ zG ∧ Cond.selects y_M_orderKept.cls y_M_orderKept y_M_orderKept ∈ zG) ∧ Cond.initialized y_M_orderKept.cls ∈ zG ∧ zY y_M_orderKept 2 := ⟨q_755, ⟨q_753, q_754⟩, q_547, by decide +kernel⟩
theorem w_M_order : Cond.code y_M_order b_M_order 7 (some .int) ∈ zG ∧ (Cond.instanceMethod y_M_order ∈ zG ∧ Cond.selects y_M_order.cls y_M_order y_M_order ∈ zG) ∧ Cond.initialized y_M_order.cls ∈ zG ∧ zY y_M_order 5 := ⟨q_758, ⟨q_756, q_757⟩, q_547, by decide +kernel⟩
theorem w_M_holdBooks : Cond.code y_M_holdBooks b_M_holdBooks 2 (none) ∈ zG ∧ (Cond.instanceMethod y_M_holdBooks ∈ zG ∧ Cond.selects y_M_holdBooks.cls y_M_holdBooks y_M_holdBooks ∈ zG) ∧ Cond.initialized y_M_holdBooks.cls ∈ zG ∧ zY y_M_holdBooks 0 := ⟨q_763, ⟨q_761, q_762⟩, q_547, by decide +kernel⟩
theorem w_M_putBooks : Cond.code y_M_putBooks b_M_putBooks 2 (none) ∈ zG ∧ (Cond.instanceMethod y_M_putBooks ∈ zG ∧ Cond.selects y_M_putBooks.cls y_M_putBooks y_M_putBooks ∈ zG) ∧ Cond.initialized y_M_putBooks.cls ∈ zG ∧ zY y_M_putBooks 0 := ⟨q_768, ⟨q_766, q_767⟩, q_547, by decide +kernel⟩
theorem w_M_product : Cond.code y_M_product b_M_product 4 (some .int) ∈ zG ∧ (Cond.instanceMethod y_M_product ∈ zG ∧ Cond.selects y_M_product.cls y_M_product y_M_product ∈ zG) ∧ Cond.initialized y_M_product.cls ∈ zG ∧ zY y_M_product 2 := ⟨q_771, ⟨q_769, q_770⟩, q_547, by decide +kernel⟩
theorem w_M_isOneKept : Cond.code y_M_isOneKept b_M_isOneKept 2 (some .int) ∈ zG ∧ (Cond.instanceMethod y_M_isOneKept ∈ zG ∧ Cond.selects y_M_isOneKept.cls y_M_isOneKept y_M_isOneKept ∈ zG) ∧ Cond.initialized y_M_isOneKept.cls ∈ zG ∧ zY y_M_isOneKept 1 := ⟨q_774, ⟨q_772, q_773⟩, q_547, by decide +kernel⟩
theorem w_M_sameLaw : Cond.code y_M_sameLaw b_M_sameLaw 6 (some .int) ∈ zG ∧ (Cond.instanceMethod y_M_sameLaw ∈ zG ∧ Cond.selects y_M_sameLaw.cls y_M_sameLaw y_M_sameLaw ∈ zG) ∧ Cond.initialized y_M_sameLaw.cls ∈ zG ∧ zY y_M_sameLaw 4 := ⟨q_777, ⟨q_775, q_776⟩, q_547, by decide +kernel⟩
theorem w_M_backLaw : Cond.code y_M_backLaw b_M_backLaw 6 (some .int) ∈ zG ∧ (Cond.instanceMethod y_M_backLaw ∈ zG ∧ Cond.selects y_M_backLaw.cls y_M_backLaw y_M_backLaw ∈ zG) ∧ Cond.initialized y_M_backLaw.cls ∈ zG ∧ zY y_M_backLaw 4 := ⟨q_783, ⟨q_781, q_782⟩, q_547, by decide +kernel⟩
theorem d_M_join_0 : decode b_M_join 0 = .ok (.aload_n 0, 1) := by decide +kernel
theorem d_M_join_1 : decode b_M_join 1 = .ok (.getfield 51, 3) := by decide +kernel
theorem d_M_join_4 : decode b_M_join 4 = .ok (.iload_n 1, 1) := by decide +kernel
theorem d_M_join_5 : decode b_M_join 5 = .ok (.laload, 1) := by decide +kernel
theorem d_M_join_6 : decode b_M_join 6 = .ok (.lstore_n 2, 1) := by decide +kernel
theorem d_M_join_7 : decode b_M_join 7 = .ok (.aload_n 0, 1) := by decide +kernel
theorem d_M_join_8 : decode b_M_join 8 = .ok (.getfield 55, 3) := by decide +kernel
theorem d_M_join_11 : decode b_M_join 11 = .ok (.iload_n 1, 1) := by decide +kernel
theorem d_M_join_12 : decode b_M_join 12 = .ok (.laload, 1) := by decide +kernel
theorem d_M_join_13 : decode b_M_join 13 = .ok (.lstore 4, 2) := by decide +kernel
theorem d_M_join_15 : decode b_M_join 15 = .ok (.aload_n 0, 1) := by decide +kernel
theorem d_M_join_16 : decode b_M_join 16 = .ok (.getfield 16, 3) := by decide +kernel
theorem d_M_join_19 : decode b_M_join 19 = .ok (.aload_n 0, 1) := by decide +kernel
theorem d_M_join_20 : decode b_M_join 20 = .ok (.getfield 36, 3) := by decide +kernel
theorem d_M_join_23 : decode b_M_join 23 = .ok (.iload_n 1, 1) := by decide +kernel
theorem d_M_join_24 : decode b_M_join 24 = .ok (.iaload, 1) := by decide +kernel
theorem d_M_join_25 : decode b_M_join 25 = .ok (.iaload, 1) := by decide +kernel
theorem d_M_join_26 : decode b_M_join 26 = .ok (.istore 6, 2) := by decide +kernel
theorem d_M_join_28 : decode b_M_join 28 = .ok (.iload 6, 2) := by decide +kernel
theorem d_M_join_30 : decode b_M_join 30 = .ok (.bipush 6, 2) := by decide +kernel
theorem d_M_join_32 : decode b_M_join 32 = .ok (.if_icmp .eq 10, 3) := by decide +kernel
theorem d_M_join_35 : decode b_M_join 35 = .ok (.iload 6, 2) := by decide +kernel
theorem d_M_join_37 : decode b_M_join 37 = .ok (.bipush 7, 2) := by decide +kernel
theorem d_M_join_39 : decode b_M_join 39 = .ok (.if_icmp .ne 137, 3) := by decide +kernel
theorem d_M_join_42 : decode b_M_join 42 = .ok (.aload_n 0, 1) := by decide +kernel
theorem d_M_join_43 : decode b_M_join 43 = .ok (.getfield 58, 3) := by decide +kernel
theorem d_M_join_46 : decode b_M_join 46 = .ok (.iload_n 1, 1) := by decide +kernel
theorem d_M_join_47 : decode b_M_join 47 = .ok (.baload, 1) := by decide +kernel
theorem d_M_join_48 : decode b_M_join 48 = .ok (.ifCond .ne 10, 3) := by decide +kernel
theorem d_M_join_51 : decode b_M_join 51 = .ok (.aload_n 0, 1) := by decide +kernel
theorem d_M_join_52 : decode b_M_join 52 = .ok (.getfield 208, 3) := by decide +kernel
theorem d_M_join_55 : decode b_M_join 55 = .ok (.ifCond .eq 7, 3) := by decide +kernel
theorem d_M_join_58 : decode b_M_join 58 = .ok (.sipush (-1003), 3) := by decide +kernel
theorem d_M_join_61 : decode b_M_join 61 = .ok (.ireturn, 1) := by decide +kernel
theorem d_M_join_62 : decode b_M_join 62 = .ok (.iload 6, 2) := by decide +kernel
theorem d_M_join_64 : decode b_M_join 64 = .ok (.bipush 6, 2) := by decide +kernel
theorem d_M_join_66 : decode b_M_join 66 = .ok (.if_icmp .ne 20, 3) := by decide +kernel
theorem d_M_join_69 : decode b_M_join 69 = .ok (.aload_n 0, 1) := by decide +kernel
theorem d_M_join_70 : decode b_M_join 70 = .ok (.lload_n 2, 1) := by decide +kernel
theorem d_M_join_71 : decode b_M_join 71 = .ok (.lload 4, 2) := by decide +kernel
theorem d_M_join_73 : decode b_M_join 73 = .ok (.aload_n 0, 1) := by decide +kernel
theorem d_M_join_74 : decode b_M_join 74 = .ok (.getfield 201, 3) := by decide +kernel
theorem d_M_join_77 : decode b_M_join 77 = .ok (.aload_n 0, 1) := by decide +kernel
theorem d_M_join_78 : decode b_M_join 78 = .ok (.getfield 205, 3) := by decide +kernel
theorem d_M_join_81 : decode b_M_join 81 = .ok (.iconst 1, 1) := by decide +kernel
theorem d_M_join_82 : decode b_M_join 82 = .ok (.invokevirtual 218, 3) := by decide +kernel
theorem d_M_join_85 : decode b_M_join 85 = .ok (.ireturn, 1) := by decide +kernel
theorem d_M_join_86 : decode b_M_join 86 = .ok (.lload 4, 2) := by decide +kernel
theorem d_M_join_88 : decode b_M_join 88 = .ok (.aload_n 0, 1) := by decide +kernel
theorem d_M_join_89 : decode b_M_join 89 = .ok (.getfield 205, 3) := by decide +kernel
theorem d_M_join_92 : decode b_M_join 92 = .ok (.invokestatic 197, 3) := by decide +kernel
theorem d_M_join_95 : decode b_M_join 95 = .ok (.lstore 7, 2) := by decide +kernel
theorem d_M_join_97 : decode b_M_join 97 = .ok (.aload_n 0, 1) := by decide +kernel
theorem d_M_join_98 : decode b_M_join 98 = .ok (.getfield 205, 3) := by decide +kernel
theorem d_M_join_101 : decode b_M_join 101 = .ok (.lload 7, 2) := by decide +kernel
theorem d_M_join_103 : decode b_M_join 103 = .ok (.ldiv, 1) := by decide +kernel
theorem d_M_join_104 : decode b_M_join 104 = .ok (.lstore 9, 2) := by decide +kernel
theorem d_M_join_106 : decode b_M_join 106 = .ok (.lload 4, 2) := by decide +kernel
theorem d_M_join_108 : decode b_M_join 108 = .ok (.lload 7, 2) := by decide +kernel
theorem d_M_join_110 : decode b_M_join 110 = .ok (.ldiv, 1) := by decide +kernel
theorem d_M_join_111 : decode b_M_join 111 = .ok (.lstore 11, 2) := by decide +kernel
theorem d_M_join_113 : decode b_M_join 113 = .ok (.lload 4, 2) := by decide +kernel
theorem d_M_join_115 : decode b_M_join 115 = .ok (.ldc2_w 212, 3) := by decide +kernel
theorem d_M_join_118 : decode b_M_join 118 = .ok (.lload 9, 2) := by decide +kernel
theorem d_M_join_120 : decode b_M_join 120 = .ok (.ldiv, 1) := by decide +kernel
theorem d_M_join_121 : decode b_M_join 121 = .ok (.lcmp, 1) := by decide +kernel
theorem d_M_join_122 : decode b_M_join 122 = .ok (.ifCond .gt 28, 3) := by decide +kernel
theorem d_M_join_125 : decode b_M_join 125 = .ok (.lload_n 2, 1) := by decide +kernel
theorem d_M_join_126 : decode b_M_join 126 = .ok (.ldc2_w 212, 3) := by decide +kernel
theorem d_M_join_129 : decode b_M_join 129 = .ok (.lload 9, 2) := by decide +kernel
theorem d_M_join_131 : decode b_M_join 131 = .ok (.ldiv, 1) := by decide +kernel
theorem d_M_join_132 : decode b_M_join 132 = .ok (.lcmp, 1) := by decide +kernel
theorem d_M_join_133 : decode b_M_join 133 = .ok (.ifCond .gt 17, 3) := by decide +kernel
theorem d_M_join_136 : decode b_M_join 136 = .ok (.aload_n 0, 1) := by decide +kernel
theorem d_M_join_137 : decode b_M_join 137 = .ok (.getfield 201, 3) := by decide +kernel
theorem d_M_join_140 : decode b_M_join 140 = .ok (.ldc2_w 212, 3) := by decide +kernel
theorem d_M_join_143 : decode b_M_join 143 = .ok (.lload 11, 2) := by decide +kernel
theorem d_M_join_145 : decode b_M_join 145 = .ok (.ldiv, 1) := by decide +kernel
theorem d_M_join_146 : decode b_M_join 146 = .ok (.lcmp, 1) := by decide +kernel
theorem d_M_join_147 : decode b_M_join 147 = .ok (.ifCond .le 7, 3) := by decide +kernel
theorem d_M_join_150 : decode b_M_join 150 = .ok (.sipush (-1005), 3) := by decide +kernel
theorem d_M_join_153 : decode b_M_join 153 = .ok (.ireturn, 1) := by decide +kernel
theorem d_M_join_154 : decode b_M_join 154 = .ok (.aload_n 0, 1) := by decide +kernel
theorem d_M_join_155 : decode b_M_join 155 = .ok (.lload_n 2, 1) := by decide +kernel
theorem d_M_join_156 : decode b_M_join 156 = .ok (.lload 9, 2) := by decide +kernel
theorem d_M_join_158 : decode b_M_join 158 = .ok (.lmul, 1) := by decide +kernel
theorem d_M_join_159 : decode b_M_join 159 = .ok (.aload_n 0, 1) := by decide +kernel
theorem d_M_join_160 : decode b_M_join 160 = .ok (.getfield 201, 3) := by decide +kernel
theorem d_M_join_163 : decode b_M_join 163 = .ok (.lload 11, 2) := by decide +kernel
theorem d_M_join_165 : decode b_M_join 165 = .ok (.lmul, 1) := by decide +kernel
theorem d_M_join_166 : decode b_M_join 166 = .ok (.ladd, 1) := by decide +kernel
theorem d_M_join_167 : decode b_M_join 167 = .ok (.lload 4, 2) := by decide +kernel
theorem d_M_join_169 : decode b_M_join 169 = .ok (.lload 9, 2) := by decide +kernel
theorem d_M_join_171 : decode b_M_join 171 = .ok (.lmul, 1) := by decide +kernel
theorem d_M_join_172 : decode b_M_join 172 = .ok (.invokevirtual 238, 3) := by decide +kernel
theorem d_M_join_175 : decode b_M_join 175 = .ok (.ireturn, 1) := by decide +kernel
theorem d_M_join_176 : decode b_M_join 176 = .ok (.aload_n 0, 1) := by decide +kernel
theorem d_M_join_177 : decode b_M_join 177 = .ok (.getfield 201, 3) := by decide +kernel
theorem d_M_join_180 : decode b_M_join 180 = .ok (.lstore 7, 2) := by decide +kernel
theorem d_M_join_182 : decode b_M_join 182 = .ok (.aload_n 0, 1) := by decide +kernel
theorem d_M_join_183 : decode b_M_join 183 = .ok (.getfield 205, 3) := by decide +kernel
theorem d_M_join_186 : decode b_M_join 186 = .ok (.lstore 9, 2) := by decide +kernel
theorem d_M_join_188 : decode b_M_join 188 = .ok (.aload_n 0, 1) := by decide +kernel
theorem d_M_join_189 : decode b_M_join 189 = .ok (.getfield 208, 3) := by decide +kernel
theorem d_M_join_192 : decode b_M_join 192 = .ok (.istore 11, 2) := by decide +kernel
theorem d_M_join_194 : decode b_M_join 194 = .ok (.aload_n 0, 1) := by decide +kernel
theorem d_M_join_195 : decode b_M_join 195 = .ok (.lload_n 2, 1) := by decide +kernel
theorem d_M_join_196 : decode b_M_join 196 = .ok (.lload 4, 2) := by decide +kernel
theorem d_M_join_198 : decode b_M_join 198 = .ok (.aload_n 0, 1) := by decide +kernel
theorem d_M_join_199 : decode b_M_join 199 = .ok (.getfield 58, 3) := by decide +kernel
theorem d_M_join_202 : decode b_M_join 202 = .ok (.iload_n 1, 1) := by decide +kernel
theorem d_M_join_203 : decode b_M_join 203 = .ok (.baload, 1) := by decide +kernel
theorem d_M_join_204 : decode b_M_join 204 = .ok (.lload 7, 2) := by decide +kernel
theorem d_M_join_206 : decode b_M_join 206 = .ok (.lload 9, 2) := by decide +kernel
theorem d_M_join_208 : decode b_M_join 208 = .ok (.iload 11, 2) := by decide +kernel
theorem d_M_join_210 : decode b_M_join 210 = .ok (.invokevirtual 242, 3) := by decide +kernel
theorem d_M_join_213 : decode b_M_join 213 = .ok (.istore 12, 2) := by decide +kernel
theorem d_M_join_215 : decode b_M_join 215 = .ok (.iload 12, 2) := by decide +kernel
theorem d_M_join_217 : decode b_M_join 217 = .ok (.ifCond .ge 6, 3) := by decide +kernel
theorem d_M_join_220 : decode b_M_join 220 = .ok (.iload 12, 2) := by decide +kernel
theorem d_M_join_222 : decode b_M_join 222 = .ok (.ireturn, 1) := by decide +kernel
theorem d_M_join_223 : decode b_M_join 223 = .ok (.iload 6, 2) := by decide +kernel
theorem d_M_join_225 : decode b_M_join 225 = .ok (.bipush 8, 2) := by decide +kernel
theorem d_M_join_227 : decode b_M_join 227 = .ok (.if_icmp .ne 18, 3) := by decide +kernel
theorem d_M_join_230 : decode b_M_join 230 = .ok (.aload_n 0, 1) := by decide +kernel
theorem d_M_join_231 : decode b_M_join 231 = .ok (.getfield 226, 3) := by decide +kernel
theorem d_M_join_234 : decode b_M_join 234 = .ok (.ifCond .gt 7, 3) := by decide +kernel
theorem d_M_join_237 : decode b_M_join 237 = .ok (.iconst 1, 1) := by decide +kernel
theorem d_M_join_238 : decode b_M_join 238 = .ok (.goto 19, 3) := by decide +kernel
theorem d_M_join_241 : decode b_M_join 241 = .ok (.iconst 0, 1) := by decide +kernel
theorem d_M_join_242 : decode b_M_join 242 = .ok (.goto 15, 3) := by decide +kernel
theorem d_M_join_245 : decode b_M_join 245 = .ok (.aload_n 0, 1) := by decide +kernel
theorem d_M_join_246 : decode b_M_join 246 = .ok (.getfield 226, 3) := by decide +kernel
theorem d_M_join_249 : decode b_M_join 249 = .ok (.ifCond .lt 7, 3) := by decide +kernel
theorem d_M_join_252 : decode b_M_join 252 = .ok (.iconst 1, 1) := by decide +kernel
theorem d_M_join_253 : decode b_M_join 253 = .ok (.goto 4, 3) := by decide +kernel
theorem d_M_join_256 : decode b_M_join 256 = .ok (.iconst 0, 1) := by decide +kernel
theorem d_M_join_257 : decode b_M_join 257 = .ok (.istore 13, 2) := by decide +kernel
theorem d_M_join_259 : decode b_M_join 259 = .ok (.iload 13, 2) := by decide +kernel
theorem d_M_join_261 : decode b_M_join 261 = .ok (.ifCond .eq 19, 3) := by decide +kernel
theorem d_M_join_264 : decode b_M_join 264 = .ok (.aload_n 0, 1) := by decide +kernel
theorem d_M_join_265 : decode b_M_join 265 = .ok (.lload_n 2, 1) := by decide +kernel
theorem d_M_join_266 : decode b_M_join 266 = .ok (.lload 4, 2) := by decide +kernel
theorem d_M_join_268 : decode b_M_join 268 = .ok (.aload_n 0, 1) := by decide +kernel
theorem d_M_join_269 : decode b_M_join 269 = .ok (.getfield 58, 3) := by decide +kernel
theorem d_M_join_272 : decode b_M_join 272 = .ok (.iload_n 1, 1) := by decide +kernel
theorem d_M_join_273 : decode b_M_join 273 = .ok (.baload, 1) := by decide +kernel
theorem d_M_join_274 : decode b_M_join 274 = .ok (.invokevirtual 214, 3) := by decide +kernel
theorem d_M_join_277 : decode b_M_join 277 = .ok (.goto 13, 3) := by decide +kernel
theorem d_M_join_280 : decode b_M_join 280 = .ok (.aload_n 0, 1) := by decide +kernel
theorem d_M_join_281 : decode b_M_join 281 = .ok (.lload 7, 2) := by decide +kernel
theorem d_M_join_283 : decode b_M_join 283 = .ok (.lload 9, 2) := by decide +kernel
theorem d_M_join_285 : decode b_M_join 285 = .ok (.iload 11, 2) := by decide +kernel
theorem d_M_join_287 : decode b_M_join 287 = .ok (.invokevirtual 214, 3) := by decide +kernel
theorem d_M_join_290 : decode b_M_join 290 = .ok (.ireturn, 1) := by decide +kernel
theorem d_M_hold_0 : decode b_M_hold 0 = .ok (.aload_n 0, 1) := by decide +kernel
theorem d_M_hold_1 : decode b_M_hold 1 = .ok (.getfield 51, 3) := by decide +kernel
theorem d_M_hold_4 : decode b_M_hold 4 = .ok (.iload_n 1, 1) := by decide +kernel
theorem d_M_hold_5 : decode b_M_hold 5 = .ok (.aload_n 0, 1) := by decide +kernel
theorem d_M_hold_6 : decode b_M_hold 6 = .ok (.getfield 201, 3) := by decide +kernel
theorem d_M_hold_9 : decode b_M_hold 9 = .ok (.lastore, 1) := by decide +kernel
theorem d_M_hold_10 : decode b_M_hold 10 = .ok (.aload_n 0, 1) := by decide +kernel
theorem d_M_hold_11 : decode b_M_hold 11 = .ok (.getfield 55, 3) := by decide +kernel
theorem d_M_hold_14 : decode b_M_hold 14 = .ok (.iload_n 1, 1) := by decide +kernel
theorem d_M_hold_15 : decode b_M_hold 15 = .ok (.aload_n 0, 1) := by decide +kernel
theorem d_M_hold_16 : decode b_M_hold 16 = .ok (.getfield 205, 3) := by decide +kernel
theorem d_M_hold_19 : decode b_M_hold 19 = .ok (.lastore, 1) := by decide +kernel
theorem d_M_hold_20 : decode b_M_hold 20 = .ok (.aload_n 0, 1) := by decide +kernel
theorem d_M_hold_21 : decode b_M_hold 21 = .ok (.getfield 58, 3) := by decide +kernel
theorem d_M_hold_24 : decode b_M_hold 24 = .ok (.iload_n 1, 1) := by decide +kernel
theorem d_M_hold_25 : decode b_M_hold 25 = .ok (.aload_n 0, 1) := by decide +kernel
theorem d_M_hold_26 : decode b_M_hold 26 = .ok (.getfield 208, 3) := by decide +kernel
theorem d_M_hold_29 : decode b_M_hold 29 = .ok (.bastore, 1) := by decide +kernel
theorem d_M_hold_30 : decode b_M_hold 30 = .ok (.return_, 1) := by decide +kernel
theorem d_M_chain_0 : decode b_M_chain 0 = .ok (.aload_n 0, 1) := by decide +kernel
theorem d_M_chain_1 : decode b_M_chain 1 = .ok (.getfield 208, 3) := by decide +kernel
theorem d_M_chain_4 : decode b_M_chain 4 = .ok (.istore_n 3, 1) := by decide +kernel
theorem d_M_chain_5 : decode b_M_chain 5 = .ok (.iload_n 2, 1) := by decide +kernel
theorem d_M_chain_6 : decode b_M_chain 6 = .ok (.ifCond .eq 7, 3) := by decide +kernel
theorem d_M_chain_9 : decode b_M_chain 9 = .ok (.iconst 0, 1) := by decide +kernel
theorem d_M_chain_10 : decode b_M_chain 10 = .ok (.goto 44, 3) := by decide +kernel
theorem d_M_chain_13 : decode b_M_chain 13 = .ok (.iload_n 3, 1) := by decide +kernel
theorem d_M_chain_14 : decode b_M_chain 14 = .ok (.aload_n 0, 1) := by decide +kernel
theorem d_M_chain_15 : decode b_M_chain 15 = .ok (.getfield 58, 3) := by decide +kernel
theorem d_M_chain_18 : decode b_M_chain 18 = .ok (.iload_n 1, 1) := by decide +kernel
theorem d_M_chain_19 : decode b_M_chain 19 = .ok (.baload, 1) := by decide +kernel
theorem d_M_chain_20 : decode b_M_chain 20 = .ok (.if_icmp .eq 9, 3) := by decide +kernel
theorem d_M_chain_23 : decode b_M_chain 23 = .ok (.sipush (-1003), 3) := by decide +kernel
theorem d_M_chain_26 : decode b_M_chain 26 = .ok (.goto 28, 3) := by decide +kernel
theorem d_M_chain_29 : decode b_M_chain 29 = .ok (.aload_n 0, 1) := by decide +kernel
theorem d_M_chain_30 : decode b_M_chain 30 = .ok (.aload_n 0, 1) := by decide +kernel
theorem d_M_chain_31 : decode b_M_chain 31 = .ok (.getfield 51, 3) := by decide +kernel
theorem d_M_chain_34 : decode b_M_chain 34 = .ok (.iload_n 1, 1) := by decide +kernel
theorem d_M_chain_35 : decode b_M_chain 35 = .ok (.laload, 1) := by decide +kernel
theorem d_M_chain_36 : decode b_M_chain 36 = .ok (.aload_n 0, 1) := by decide +kernel
theorem d_M_chain_37 : decode b_M_chain 37 = .ok (.getfield 55, 3) := by decide +kernel
theorem d_M_chain_40 : decode b_M_chain 40 = .ok (.iload_n 1, 1) := by decide +kernel
theorem d_M_chain_41 : decode b_M_chain 41 = .ok (.laload, 1) := by decide +kernel
theorem d_M_chain_42 : decode b_M_chain 42 = .ok (.aload_n 0, 1) := by decide +kernel
theorem d_M_chain_43 : decode b_M_chain 43 = .ok (.getfield 201, 3) := by decide +kernel
theorem d_M_chain_46 : decode b_M_chain 46 = .ok (.aload_n 0, 1) := by decide +kernel
theorem d_M_chain_47 : decode b_M_chain 47 = .ok (.getfield 205, 3) := by decide +kernel
theorem d_M_chain_50 : decode b_M_chain 50 = .ok (.iload_n 3, 1) := by decide +kernel
theorem d_M_chain_51 : decode b_M_chain 51 = .ok (.invokevirtual 218, 3) := by decide +kernel
theorem d_M_chain_54 : decode b_M_chain 54 = .ok (.istore 4, 2) := by decide +kernel
theorem d_M_chain_56 : decode b_M_chain 56 = .ok (.aload_n 0, 1) := by decide +kernel
theorem d_M_chain_57 : decode b_M_chain 57 = .ok (.iload_n 1, 1) := by decide +kernel
theorem d_M_chain_58 : decode b_M_chain 58 = .ok (.invokevirtual 246, 3) := by decide +kernel
theorem d_M_chain_61 : decode b_M_chain 61 = .ok (.aload_n 0, 1) := by decide +kernel
theorem d_M_chain_62 : decode b_M_chain 62 = .ok (.getfield 48, 3) := by decide +kernel
theorem d_M_chain_65 : decode b_M_chain 65 = .ok (.iload_n 1, 1) := by decide +kernel
theorem d_M_chain_66 : decode b_M_chain 66 = .ok (.dup2, 1) := by decide +kernel
theorem d_M_chain_67 : decode b_M_chain 67 = .ok (.iaload, 1) := by decide +kernel
theorem d_M_chain_68 : decode b_M_chain 68 = .ok (.aload_n 0, 1) := by decide +kernel
theorem d_M_chain_69 : decode b_M_chain 69 = .ok (.getfield 42, 3) := by decide +kernel
theorem d_M_chain_72 : decode b_M_chain 72 = .ok (.iload_n 1, 1) := by decide +kernel
theorem d_M_chain_73 : decode b_M_chain 73 = .ok (.iaload, 1) := by decide +kernel
theorem d_M_chain_74 : decode b_M_chain 74 = .ok (.aload_n 0, 1) := by decide +kernel
theorem d_M_chain_75 : decode b_M_chain 75 = .ok (.getfield 48, 3) := by decide +kernel
theorem d_M_chain_78 : decode b_M_chain 78 = .ok (.iload_n 1, 1) := by decide +kernel
theorem d_M_chain_79 : decode b_M_chain 79 = .ok (.iaload, 1) := by decide +kernel
theorem d_M_chain_80 : decode b_M_chain 80 = .ok (.if_icmp .le 7, 3) := by decide +kernel
theorem d_M_chain_83 : decode b_M_chain 83 = .ok (.iconst 1, 1) := by decide +kernel
theorem d_M_chain_84 : decode b_M_chain 84 = .ok (.goto 4, 3) := by decide +kernel
theorem d_M_chain_87 : decode b_M_chain 87 = .ok (.iconst (-1), 1) := by decide +kernel
theorem d_M_chain_88 : decode b_M_chain 88 = .ok (.iadd, 1) := by decide +kernel
theorem d_M_chain_89 : decode b_M_chain 89 = .ok (.iastore, 1) := by decide +kernel
theorem d_M_chain_90 : decode b_M_chain 90 = .ok (.iload 4, 2) := by decide +kernel
theorem d_M_chain_92 : decode b_M_chain 92 = .ok (.ireturn, 1) := by decide +kernel
theorem d_M_work_0 : decode b_M_work 0 = .ok (.aload_n 0, 1) := by decide +kernel
theorem d_M_work_1 : decode b_M_work 1 = .ok (.getfield 229, 3) := by decide +kernel
theorem d_M_work_4 : decode b_M_work 4 = .ok (.iconst 1, 1) := by decide +kernel
theorem d_M_work_5 : decode b_M_work 5 = .ok (.isub, 1) := by decide +kernel
theorem d_M_work_6 : decode b_M_work 6 = .ok (.istore_n 3, 1) := by decide +kernel
theorem d_M_work_7 : decode b_M_work 7 = .ok (.aload_n 0, 1) := by decide +kernel
theorem d_M_work_8 : decode b_M_work 8 = .ok (.getfield 36, 3) := by decide +kernel
theorem d_M_work_11 : decode b_M_work 11 = .ok (.iload_n 3, 1) := by decide +kernel
theorem d_M_work_12 : decode b_M_work 12 = .ok (.iaload, 1) := by decide +kernel
theorem d_M_work_13 : decode b_M_work 13 = .ok (.istore 4, 2) := by decide +kernel
theorem d_M_work_15 : decode b_M_work 15 = .ok (.aload_n 0, 1) := by decide +kernel
theorem d_M_work_16 : decode b_M_work 16 = .ok (.getfield 39, 3) := by decide +kernel
theorem d_M_work_19 : decode b_M_work 19 = .ok (.iload_n 3, 1) := by decide +kernel
theorem d_M_work_20 : decode b_M_work 20 = .ok (.iaload, 1) := by decide +kernel
theorem d_M_work_21 : decode b_M_work 21 = .ok (.istore 5, 2) := by decide +kernel
theorem d_M_work_23 : decode b_M_work 23 = .ok (.aload_n 0, 1) := by decide +kernel
theorem d_M_work_24 : decode b_M_work 24 = .ok (.getfield 42, 3) := by decide +kernel
theorem d_M_work_27 : decode b_M_work 27 = .ok (.iload_n 3, 1) := by decide +kernel
theorem d_M_work_28 : decode b_M_work 28 = .ok (.iaload, 1) := by decide +kernel
theorem d_M_work_29 : decode b_M_work 29 = .ok (.istore 6, 2) := by decide +kernel
theorem d_M_work_31 : decode b_M_work 31 = .ok (.aload_n 0, 1) := by decide +kernel
theorem d_M_work_32 : decode b_M_work 32 = .ok (.getfield 16, 3) := by decide +kernel
theorem d_M_work_35 : decode b_M_work 35 = .ok (.iload 4, 2) := by decide +kernel
theorem d_M_work_37 : decode b_M_work 37 = .ok (.iaload, 1) := by decide +kernel
theorem d_M_work_38 : decode b_M_work 38 = .ok (.istore 7, 2) := by decide +kernel
theorem d_M_work_40 : decode b_M_work 40 = .ok (.iload 7, 2) := by decide +kernel
theorem d_M_work_42 : decode b_M_work 42 = .ok (.bipush 6, 2) := by decide +kernel
theorem d_M_work_44 : decode b_M_work 44 = .ok (.if_icmp .ge 36, 3) := by decide +kernel
theorem d_M_work_47 : decode b_M_work 47 = .ok (.aload_n 0, 1) := by decide +kernel
theorem d_M_work_48 : decode b_M_work 48 = .ok (.dup, 1) := by decide +kernel
theorem d_M_work_49 : decode b_M_work 49 = .ok (.getfield 229, 3) := by decide +kernel
theorem d_M_work_52 : decode b_M_work 52 = .ok (.iconst 1, 1) := by decide +kernel
theorem d_M_work_53 : decode b_M_work 53 = .ok (.isub, 1) := by decide +kernel
theorem d_M_work_54 : decode b_M_work 54 = .ok (.putfield 229, 3) := by decide +kernel
theorem d_M_work_57 : decode b_M_work 57 = .ok (.aload_n 0, 1) := by decide +kernel
theorem d_M_work_58 : decode b_M_work 58 = .ok (.iconst 1, 1) := by decide +kernel
theorem d_M_work_59 : decode b_M_work 59 = .ok (.putfield 250, 3) := by decide +kernel
theorem d_M_work_62 : decode b_M_work 62 = .ok (.aload_n 0, 1) := by decide +kernel
theorem d_M_work_63 : decode b_M_work 63 = .ok (.iload 4, 2) := by decide +kernel
theorem d_M_work_65 : decode b_M_work 65 = .ok (.iload_n 1, 1) := by decide +kernel
theorem d_M_work_66 : decode b_M_work 66 = .ok (.iload 5, 2) := by decide +kernel
theorem d_M_work_68 : decode b_M_work 68 = .ok (.iload 6, 2) := by decide +kernel
theorem d_M_work_70 : decode b_M_work 70 = .ok (.aload_n 0, 1) := by decide +kernel
theorem d_M_work_71 : decode b_M_work 71 = .ok (.getfield 45, 3) := by decide +kernel
theorem d_M_work_74 : decode b_M_work 74 = .ok (.iload_n 3, 1) := by decide +kernel
theorem d_M_work_75 : decode b_M_work 75 = .ok (.iaload, 1) := by decide +kernel
theorem d_M_work_76 : decode b_M_work 76 = .ok (.invokevirtual 253, 3) := by decide +kernel
theorem d_M_work_79 : decode b_M_work 79 = .ok (.ireturn, 1) := by decide +kernel
theorem d_M_work_80 : decode b_M_work 80 = .ok (.iload 7, 2) := by decide +kernel
theorem d_M_work_82 : decode b_M_work 82 = .ok (.bipush 11, 2) := by decide +kernel
theorem d_M_work_84 : decode b_M_work 84 = .ok (.if_icmp .ne 164, 3) := by decide +kernel
theorem d_M_work_87 : decode b_M_work 87 = .ok (.iload_n 2, 1) := by decide +kernel
theorem d_M_work_88 : decode b_M_work 88 = .ok (.ifCond .eq 27, 3) := by decide +kernel
theorem d_M_work_91 : decode b_M_work 91 = .ok (.aload_n 0, 1) := by decide +kernel
theorem d_M_work_92 : decode b_M_work 92 = .ok (.iload_n 3, 1) := by decide +kernel
theorem d_M_work_93 : decode b_M_work 93 = .ok (.aload_n 0, 1) := by decide +kernel
theorem d_M_work_94 : decode b_M_work 94 = .ok (.getfield 48, 3) := by decide +kernel
theorem d_M_work_97 : decode b_M_work 97 = .ok (.iload_n 3, 1) := by decide +kernel
theorem d_M_work_98 : decode b_M_work 98 = .ok (.iaload, 1) := by decide +kernel
theorem d_M_work_99 : decode b_M_work 99 = .ok (.iload 5, 2) := by decide +kernel
theorem d_M_work_101 : decode b_M_work 101 = .ok (.if_icmp .ne 7, 3) := by decide +kernel
theorem d_M_work_104 : decode b_M_work 104 = .ok (.iconst 1, 1) := by decide +kernel
theorem d_M_work_105 : decode b_M_work 105 = .ok (.goto 4, 3) := by decide +kernel
theorem d_M_work_108 : decode b_M_work 108 = .ok (.iconst 0, 1) := by decide +kernel
theorem d_M_work_109 : decode b_M_work 109 = .ok (.invokevirtual 257, 3) := by decide +kernel
theorem d_M_work_112 : decode b_M_work 112 = .ok (.goto 4, 3) := by decide +kernel
theorem d_M_work_115 : decode b_M_work 115 = .ok (.iconst 0, 1) := by decide +kernel
theorem d_M_work_116 : decode b_M_work 116 = .ok (.istore 8, 2) := by decide +kernel
theorem d_M_work_118 : decode b_M_work 118 = .ok (.iload 8, 2) := by decide +kernel
theorem d_M_work_120 : decode b_M_work 120 = .ok (.ifCond .ge 6, 3) := by decide +kernel
theorem d_M_work_123 : decode b_M_work 123 = .ok (.iload 8, 2) := by decide +kernel
theorem d_M_work_125 : decode b_M_work 125 = .ok (.ireturn, 1) := by decide +kernel
theorem d_M_work_126 : decode b_M_work 126 = .ok (.aload_n 0, 1) := by decide +kernel
theorem d_M_work_127 : decode b_M_work 127 = .ok (.aload_n 0, 1) := by decide +kernel
theorem d_M_work_128 : decode b_M_work 128 = .ok (.getfield 48, 3) := by decide +kernel
theorem d_M_work_131 : decode b_M_work 131 = .ok (.iload_n 3, 1) := by decide +kernel
theorem d_M_work_132 : decode b_M_work 132 = .ok (.iaload, 1) := by decide +kernel
theorem d_M_work_133 : decode b_M_work 133 = .ok (.iload 6, 2) := by decide +kernel
theorem d_M_work_135 : decode b_M_work 135 = .ok (.if_icmp .ne 7, 3) := by decide +kernel
theorem d_M_work_138 : decode b_M_work 138 = .ok (.iconst 1, 1) := by decide +kernel
theorem d_M_work_139 : decode b_M_work 139 = .ok (.goto 4, 3) := by decide +kernel
theorem d_M_work_142 : decode b_M_work 142 = .ok (.iconst 0, 1) := by decide +kernel
theorem d_M_work_143 : decode b_M_work 143 = .ok (.putfield 250, 3) := by decide +kernel
theorem d_M_work_146 : decode b_M_work 146 = .ok (.aload_n 0, 1) := by decide +kernel
theorem d_M_work_147 : decode b_M_work 147 = .ok (.getfield 250, 3) := by decide +kernel
theorem d_M_work_150 : decode b_M_work 150 = .ok (.ifCond .eq 53, 3) := by decide +kernel
theorem d_M_work_153 : decode b_M_work 153 = .ok (.aload_n 0, 1) := by decide +kernel
theorem d_M_work_154 : decode b_M_work 154 = .ok (.dup, 1) := by decide +kernel
theorem d_M_work_155 : decode b_M_work 155 = .ok (.getfield 229, 3) := by decide +kernel
theorem d_M_work_158 : decode b_M_work 158 = .ok (.iconst 1, 1) := by decide +kernel
theorem d_M_work_159 : decode b_M_work 159 = .ok (.isub, 1) := by decide +kernel
theorem d_M_work_160 : decode b_M_work 160 = .ok (.putfield 229, 3) := by decide +kernel
theorem d_M_work_163 : decode b_M_work 163 = .ok (.iload 5, 2) := by decide +kernel
theorem d_M_work_165 : decode b_M_work 165 = .ok (.iload 6, 2) := by decide +kernel
theorem d_M_work_167 : decode b_M_work 167 = .ok (.if_icmp .ne 13, 3) := by decide +kernel
theorem d_M_work_170 : decode b_M_work 170 = .ok (.aload_n 0, 1) := by decide +kernel
theorem d_M_work_171 : decode b_M_work 171 = .ok (.lconst 1, 1) := by decide +kernel
theorem d_M_work_172 : decode b_M_work 172 = .ok (.lconst 1, 1) := by decide +kernel
theorem d_M_work_173 : decode b_M_work 173 = .ok (.iconst 0, 1) := by decide +kernel
theorem d_M_work_174 : decode b_M_work 174 = .ok (.invokevirtual 214, 3) := by decide +kernel
theorem d_M_work_177 : decode b_M_work 177 = .ok (.goto 25, 3) := by decide +kernel
theorem d_M_work_180 : decode b_M_work 180 = .ok (.aload_n 0, 1) := by decide +kernel
theorem d_M_work_181 : decode b_M_work 181 = .ok (.aload_n 0, 1) := by decide +kernel
theorem d_M_work_182 : decode b_M_work 182 = .ok (.getfield 51, 3) := by decide +kernel
theorem d_M_work_185 : decode b_M_work 185 = .ok (.iload_n 3, 1) := by decide +kernel
theorem d_M_work_186 : decode b_M_work 186 = .ok (.laload, 1) := by decide +kernel
theorem d_M_work_187 : decode b_M_work 187 = .ok (.aload_n 0, 1) := by decide +kernel
theorem d_M_work_188 : decode b_M_work 188 = .ok (.getfield 55, 3) := by decide +kernel
theorem d_M_work_191 : decode b_M_work 191 = .ok (.iload_n 3, 1) := by decide +kernel
theorem d_M_work_192 : decode b_M_work 192 = .ok (.laload, 1) := by decide +kernel
theorem d_M_work_193 : decode b_M_work 193 = .ok (.aload_n 0, 1) := by decide +kernel
theorem d_M_work_194 : decode b_M_work 194 = .ok (.getfield 58, 3) := by decide +kernel
theorem d_M_work_197 : decode b_M_work 197 = .ok (.iload_n 3, 1) := by decide +kernel
theorem d_M_work_198 : decode b_M_work 198 = .ok (.baload, 1) := by decide +kernel
theorem d_M_work_199 : decode b_M_work 199 = .ok (.invokevirtual 214, 3) := by decide +kernel
theorem d_M_work_202 : decode b_M_work 202 = .ok (.ireturn, 1) := by decide +kernel
theorem d_M_work_203 : decode b_M_work 203 = .ok (.aload_n 0, 1) := by decide +kernel
theorem d_M_work_204 : decode b_M_work 204 = .ok (.iload 4, 2) := by decide +kernel
theorem d_M_work_206 : decode b_M_work 206 = .ok (.iconst 1, 1) := by decide +kernel
theorem d_M_work_207 : decode b_M_work 207 = .ok (.iadd, 1) := by decide +kernel
theorem d_M_work_208 : decode b_M_work 208 = .ok (.aload_n 0, 1) := by decide +kernel
theorem d_M_work_209 : decode b_M_work 209 = .ok (.getfield 48, 3) := by decide +kernel
theorem d_M_work_212 : decode b_M_work 212 = .ok (.iload_n 3, 1) := by decide +kernel
theorem d_M_work_213 : decode b_M_work 213 = .ok (.iaload, 1) := by decide +kernel
theorem d_M_work_214 : decode b_M_work 214 = .ok (.aload_n 0, 1) := by decide +kernel
theorem d_M_work_215 : decode b_M_work 215 = .ok (.getfield 48, 3) := by decide +kernel
theorem d_M_work_218 : decode b_M_work 218 = .ok (.iload_n 3, 1) := by decide +kernel
theorem d_M_work_219 : decode b_M_work 219 = .ok (.iaload, 1) := by decide +kernel
theorem d_M_work_220 : decode b_M_work 220 = .ok (.iload 6, 2) := by decide +kernel
theorem d_M_work_222 : decode b_M_work 222 = .ok (.aload_n 0, 1) := by decide +kernel
theorem d_M_work_223 : decode b_M_work 223 = .ok (.getfield 48, 3) := by decide +kernel
theorem d_M_work_226 : decode b_M_work 226 = .ok (.iload_n 3, 1) := by decide +kernel
theorem d_M_work_227 : decode b_M_work 227 = .ok (.iaload, 1) := by decide +kernel
theorem d_M_work_228 : decode b_M_work 228 = .ok (.if_icmp .le 7, 3) := by decide +kernel
theorem d_M_work_231 : decode b_M_work 231 = .ok (.iconst 1, 1) := by decide +kernel
theorem d_M_work_232 : decode b_M_work 232 = .ok (.goto 4, 3) := by decide +kernel
theorem d_M_work_235 : decode b_M_work 235 = .ok (.iconst (-1), 1) := by decide +kernel
theorem d_M_work_236 : decode b_M_work 236 = .ok (.iadd, 1) := by decide +kernel
theorem d_M_work_237 : decode b_M_work 237 = .ok (.aload_n 0, 1) := by decide +kernel
theorem d_M_work_238 : decode b_M_work 238 = .ok (.getfield 45, 3) := by decide +kernel
theorem d_M_work_241 : decode b_M_work 241 = .ok (.iload_n 3, 1) := by decide +kernel
theorem d_M_work_242 : decode b_M_work 242 = .ok (.iaload, 1) := by decide +kernel
theorem d_M_work_243 : decode b_M_work 243 = .ok (.invokevirtual 261, 3) := by decide +kernel
theorem d_M_work_246 : decode b_M_work 246 = .ok (.iconst 0, 1) := by decide +kernel
theorem d_M_work_247 : decode b_M_work 247 = .ok (.ireturn, 1) := by decide +kernel
theorem d_M_work_248 : decode b_M_work 248 = .ok (.aload_n 0, 1) := by decide +kernel
theorem d_M_work_249 : decode b_M_work 249 = .ok (.iload_n 2, 1) := by decide +kernel
theorem d_M_work_250 : decode b_M_work 250 = .ok (.ifCond .eq 25, 3) := by decide +kernel
theorem d_M_work_253 : decode b_M_work 253 = .ok (.iload 7, 2) := by decide +kernel
theorem d_M_work_255 : decode b_M_work 255 = .ok (.invokestatic 185, 3) := by decide +kernel
theorem d_M_work_258 : decode b_M_work 258 = .ok (.ifCond .ne 13, 3) := by decide +kernel
theorem d_M_work_261 : decode b_M_work 261 = .ok (.aload_n 0, 1) := by decide +kernel
theorem d_M_work_262 : decode b_M_work 262 = .ok (.getfield 48, 3) := by decide +kernel
theorem d_M_work_265 : decode b_M_work 265 = .ok (.iload_n 3, 1) := by decide +kernel
theorem d_M_work_266 : decode b_M_work 266 = .ok (.iaload, 1) := by decide +kernel
theorem d_M_work_267 : decode b_M_work 267 = .ok (.iconst 1, 1) := by decide +kernel
theorem d_M_work_268 : decode b_M_work 268 = .ok (.if_icmp .ne 7, 3) := by decide +kernel
theorem d_M_work_271 : decode b_M_work 271 = .ok (.iconst 1, 1) := by decide +kernel
theorem d_M_work_272 : decode b_M_work 272 = .ok (.goto 4, 3) := by decide +kernel
theorem d_M_work_275 : decode b_M_work 275 = .ok (.iconst 0, 1) := by decide +kernel
theorem d_M_work_276 : decode b_M_work 276 = .ok (.putfield 250, 3) := by decide +kernel
theorem d_M_work_279 : decode b_M_work 279 = .ok (.aload_n 0, 1) := by decide +kernel
theorem d_M_work_280 : decode b_M_work 280 = .ok (.getfield 250, 3) := by decide +kernel
theorem d_M_work_283 : decode b_M_work 283 = .ok (.ifCond .eq 56, 3) := by decide +kernel
theorem d_M_work_286 : decode b_M_work 286 = .ok (.aload_n 0, 1) := by decide +kernel
theorem d_M_work_287 : decode b_M_work 287 = .ok (.dup, 1) := by decide +kernel
theorem d_M_work_288 : decode b_M_work 288 = .ok (.getfield 229, 3) := by decide +kernel
theorem d_M_work_291 : decode b_M_work 291 = .ok (.iconst 1, 1) := by decide +kernel
theorem d_M_work_292 : decode b_M_work 292 = .ok (.isub, 1) := by decide +kernel
theorem d_M_work_293 : decode b_M_work 293 = .ok (.putfield 229, 3) := by decide +kernel
theorem d_M_work_296 : decode b_M_work 296 = .ok (.iload 7, 2) := by decide +kernel
theorem d_M_work_298 : decode b_M_work 298 = .ok (.bipush 12, 2) := by decide +kernel
theorem d_M_work_300 : decode b_M_work 300 = .ok (.if_icmp .ne 7, 3) := by decide +kernel
theorem d_M_work_303 : decode b_M_work 303 = .ok (.iconst 0, 1) := by decide +kernel
theorem d_M_work_304 : decode b_M_work 304 = .ok (.goto 34, 3) := by decide +kernel
theorem d_M_work_307 : decode b_M_work 307 = .ok (.iload 7, 2) := by decide +kernel
theorem d_M_work_309 : decode b_M_work 309 = .ok (.bipush 10, 2) := by decide +kernel
theorem d_M_work_311 : decode b_M_work 311 = .ok (.if_icmp .ne 22, 3) := by decide +kernel
theorem d_M_work_314 : decode b_M_work 314 = .ok (.aload_n 0, 1) := by decide +kernel
theorem d_M_work_315 : decode b_M_work 315 = .ok (.aload_n 0, 1) := by decide +kernel
theorem d_M_work_316 : decode b_M_work 316 = .ok (.getfield 205, 3) := by decide +kernel
theorem d_M_work_319 : decode b_M_work 319 = .ok (.aload_n 0, 1) := by decide +kernel
theorem d_M_work_320 : decode b_M_work 320 = .ok (.getfield 201, 3) := by decide +kernel
theorem d_M_work_323 : decode b_M_work 323 = .ok (.aload_n 0, 1) := by decide +kernel
theorem d_M_work_324 : decode b_M_work 324 = .ok (.getfield 208, 3) := by decide +kernel
theorem d_M_work_327 : decode b_M_work 327 = .ok (.invokevirtual 214, 3) := by decide +kernel
theorem d_M_work_330 : decode b_M_work 330 = .ok (.goto 8, 3) := by decide +kernel
theorem d_M_work_333 : decode b_M_work 333 = .ok (.aload_n 0, 1) := by decide +kernel
theorem d_M_work_334 : decode b_M_work 334 = .ok (.iload_n 3, 1) := by decide +kernel
theorem d_M_work_335 : decode b_M_work 335 = .ok (.invokevirtual 265, 3) := by decide +kernel
theorem d_M_work_338 : decode b_M_work 338 = .ok (.ireturn, 1) := by decide +kernel
theorem d_M_work_339 : decode b_M_work 339 = .ok (.iload 7, 2) := by decide +kernel
theorem d_M_work_341 : decode b_M_work 341 = .ok (.invokestatic 185, 3) := by decide +kernel
theorem d_M_work_344 : decode b_M_work 344 = .ok (.ifCond .eq 81, 3) := by decide +kernel
theorem d_M_work_347 : decode b_M_work 347 = .ok (.iload 7, 2) := by decide +kernel
theorem d_M_work_349 : decode b_M_work 349 = .ok (.bipush 12, 2) := by decide +kernel
theorem d_M_work_351 : decode b_M_work 351 = .ok (.if_icmp .ne 26, 3) := by decide +kernel
theorem d_M_work_354 : decode b_M_work 354 = .ok (.aload_n 0, 1) := by decide +kernel
theorem d_M_work_355 : decode b_M_work 355 = .ok (.getfield 45, 3) := by decide +kernel
theorem d_M_work_358 : decode b_M_work 358 = .ok (.iload_n 3, 1) := by decide +kernel
theorem d_M_work_359 : decode b_M_work 359 = .ok (.iaload, 1) := by decide +kernel
theorem d_M_work_360 : decode b_M_work 360 = .ok (.aload_n 0, 1) := by decide +kernel
theorem d_M_work_361 : decode b_M_work 361 = .ok (.iload 5, 2) := by decide +kernel
theorem d_M_work_363 : decode b_M_work 363 = .ok (.invokevirtual 122, 3) := by decide +kernel
theorem d_M_work_366 : decode b_M_work 366 = .ok (.iand, 1) := by decide +kernel
theorem d_M_work_367 : decode b_M_work 367 = .ok (.aload_n 0, 1) := by decide +kernel
theorem d_M_work_368 : decode b_M_work 368 = .ok (.iload 6, 2) := by decide +kernel
theorem d_M_work_370 : decode b_M_work 370 = .ok (.invokevirtual 122, 3) := by decide +kernel
theorem d_M_work_373 : decode b_M_work 373 = .ok (.iand, 1) := by decide +kernel
theorem d_M_work_374 : decode b_M_work 374 = .ok (.goto 9, 3) := by decide +kernel
theorem d_M_work_377 : decode b_M_work 377 = .ok (.aload_n 0, 1) := by decide +kernel
theorem d_M_work_378 : decode b_M_work 378 = .ok (.getfield 45, 3) := by decide +kernel
theorem d_M_work_381 : decode b_M_work 381 = .ok (.iload_n 3, 1) := by decide +kernel
theorem d_M_work_382 : decode b_M_work 382 = .ok (.iaload, 1) := by decide +kernel
theorem d_M_work_383 : decode b_M_work 383 = .ok (.istore 8, 2) := by decide +kernel
theorem d_M_work_385 : decode b_M_work 385 = .ok (.aload_n 0, 1) := by decide +kernel
theorem d_M_work_386 : decode b_M_work 386 = .ok (.iload 4, 2) := by decide +kernel
theorem d_M_work_388 : decode b_M_work 388 = .ok (.iconst 1, 1) := by decide +kernel
theorem d_M_work_389 : decode b_M_work 389 = .ok (.iadd, 1) := by decide +kernel
theorem d_M_work_390 : decode b_M_work 390 = .ok (.iload 7, 2) := by decide +kernel
theorem d_M_work_392 : decode b_M_work 392 = .ok (.bipush 10, 2) := by decide +kernel
theorem d_M_work_394 : decode b_M_work 394 = .ok (.if_icmp .ne 8, 3) := by decide +kernel
theorem d_M_work_397 : decode b_M_work 397 = .ok (.iload 6, 2) := by decide +kernel
theorem d_M_work_399 : decode b_M_work 399 = .ok (.goto 5, 3) := by decide +kernel
theorem d_M_work_402 : decode b_M_work 402 = .ok (.iload 5, 2) := by decide +kernel
theorem d_M_work_404 : decode b_M_work 404 = .ok (.iload 7, 2) := by decide +kernel
theorem d_M_work_406 : decode b_M_work 406 = .ok (.bipush 10, 2) := by decide +kernel
theorem d_M_work_408 : decode b_M_work 408 = .ok (.if_icmp .ne 8, 3) := by decide +kernel
theorem d_M_work_411 : decode b_M_work 411 = .ok (.iload 5, 2) := by decide +kernel
theorem d_M_work_413 : decode b_M_work 413 = .ok (.goto 5, 3) := by decide +kernel
theorem d_M_work_416 : decode b_M_work 416 = .ok (.iload 6, 2) := by decide +kernel
theorem d_M_work_418 : decode b_M_work 418 = .ok (.iload 8, 2) := by decide +kernel
theorem d_M_work_420 : decode b_M_work 420 = .ok (.invokevirtual 261, 3) := by decide +kernel
theorem d_M_work_423 : decode b_M_work 423 = .ok (.iconst 0, 1) := by decide +kernel
theorem d_M_work_424 : decode b_M_work 424 = .ok (.ireturn, 1) := by decide +kernel
theorem d_M_work_425 : decode b_M_work 425 = .ok (.iload_n 2, 1) := by decide +kernel
theorem d_M_work_426 : decode b_M_work 426 = .ok (.ifCond .eq 15, 3) := by decide +kernel
theorem d_M_work_429 : decode b_M_work 429 = .ok (.aload_n 0, 1) := by decide +kernel
theorem d_M_work_430 : decode b_M_work 430 = .ok (.iload_n 3, 1) := by decide +kernel
theorem d_M_work_431 : decode b_M_work 431 = .ok (.invokevirtual 246, 3) := by decide +kernel
theorem d_M_work_434 : decode b_M_work 434 = .ok (.aload_n 0, 1) := by decide +kernel
theorem d_M_work_435 : decode b_M_work 435 = .ok (.getfield 48, 3) := by decide +kernel
theorem d_M_work_438 : decode b_M_work 438 = .ok (.iload_n 3, 1) := by decide +kernel
theorem d_M_work_439 : decode b_M_work 439 = .ok (.iconst 1, 1) := by decide +kernel
theorem d_M_work_440 : decode b_M_work 440 = .ok (.iastore, 1) := by decide +kernel
theorem d_M_work_441 : decode b_M_work 441 = .ok (.aload_n 0, 1) := by decide +kernel
theorem d_M_work_442 : decode b_M_work 442 = .ok (.iload_n 2, 1) := by decide +kernel
theorem d_M_work_443 : decode b_M_work 443 = .ok (.ifCond .eq 13, 3) := by decide +kernel
theorem d_M_work_446 : decode b_M_work 446 = .ok (.aload_n 0, 1) := by decide +kernel
theorem d_M_work_447 : decode b_M_work 447 = .ok (.getfield 19, 3) := by decide +kernel
theorem d_M_work_450 : decode b_M_work 450 = .ok (.iload 4, 2) := by decide +kernel
theorem d_M_work_452 : decode b_M_work 452 = .ok (.iaload, 1) := by decide +kernel
theorem d_M_work_453 : decode b_M_work 453 = .ok (.goto 7, 3) := by decide +kernel
theorem d_M_work_456 : decode b_M_work 456 = .ok (.iload 4, 2) := by decide +kernel
theorem d_M_work_458 : decode b_M_work 458 = .ok (.iconst 1, 1) := by decide +kernel
theorem d_M_work_459 : decode b_M_work 459 = .ok (.iadd, 1) := by decide +kernel
theorem d_M_work_460 : decode b_M_work 460 = .ok (.iload 5, 2) := by decide +kernel
theorem d_M_work_462 : decode b_M_work 462 = .ok (.iload 6, 2) := by decide +kernel
theorem d_M_work_464 : decode b_M_work 464 = .ok (.aload_n 0, 1) := by decide +kernel
theorem d_M_work_465 : decode b_M_work 465 = .ok (.getfield 45, 3) := by decide +kernel
theorem d_M_work_468 : decode b_M_work 468 = .ok (.iload_n 3, 1) := by decide +kernel
theorem d_M_work_469 : decode b_M_work 469 = .ok (.iaload, 1) := by decide +kernel
theorem d_M_work_470 : decode b_M_work 470 = .ok (.invokevirtual 261, 3) := by decide +kernel
theorem d_M_work_473 : decode b_M_work 473 = .ok (.iconst 0, 1) := by decide +kernel
theorem d_M_work_474 : decode b_M_work 474 = .ok (.ireturn, 1) := by decide +kernel
theorem d_M_find_0 : decode b_M_find 0 = .ok (.aload_n 0, 1) := by decide +kernel
theorem d_M_find_1 : decode b_M_find 1 = .ok (.iconst 0, 1) := by decide +kernel
theorem d_M_find_2 : decode b_M_find 2 = .ok (.putfield 229, 3) := by decide +kernel
theorem d_M_find_5 : decode b_M_find 5 = .ok (.aload_n 0, 1) := by decide +kernel
theorem d_M_find_6 : decode b_M_find 6 = .ok (.iload_n 1, 1) := by decide +kernel
theorem d_M_find_7 : decode b_M_find 7 = .ok (.iload_n 3, 1) := by decide +kernel
theorem d_M_find_8 : decode b_M_find 8 = .ok (.iload 4, 2) := by decide +kernel
theorem d_M_find_10 : decode b_M_find 10 = .ok (.aload_n 0, 1) := by decide +kernel
theorem d_M_find_11 : decode b_M_find 11 = .ok (.invokevirtual 126, 3) := by decide +kernel
theorem d_M_find_14 : decode b_M_find 14 = .ok (.invokevirtual 261, 3) := by decide +kernel
theorem d_M_find_17 : decode b_M_find 17 = .ok (.iconst 0, 1) := by decide +kernel
theorem d_M_find_18 : decode b_M_find 18 = .ok (.istore 5, 2) := by decide +kernel
theorem d_M_find_20 : decode b_M_find 20 = .ok (.aload_n 0, 1) := by decide +kernel
theorem d_M_find_21 : decode b_M_find 21 = .ok (.getfield 229, 3) := by decide +kernel
theorem d_M_find_24 : decode b_M_find 24 = .ok (.ifCond .le 29, 3) := by decide +kernel
theorem d_M_find_27 : decode b_M_find 27 = .ok (.aload_n 0, 1) := by decide +kernel
theorem d_M_find_28 : decode b_M_find 28 = .ok (.iload_n 2, 1) := by decide +kernel
theorem d_M_find_29 : decode b_M_find 29 = .ok (.iload 5, 2) := by decide +kernel
theorem d_M_find_31 : decode b_M_find 31 = .ok (.invokevirtual 268, 3) := by decide +kernel
theorem d_M_find_34 : decode b_M_find 34 = .ok (.istore 6, 2) := by decide +kernel
theorem d_M_find_36 : decode b_M_find 36 = .ok (.iload 6, 2) := by decide +kernel
theorem d_M_find_38 : decode b_M_find 38 = .ok (.ifCond .ge 6, 3) := by decide +kernel
theorem d_M_find_41 : decode b_M_find 41 = .ok (.iload 6, 2) := by decide +kernel
theorem d_M_find_43 : decode b_M_find 43 = .ok (.ireturn, 1) := by decide +kernel
theorem d_M_find_44 : decode b_M_find 44 = .ok (.aload_n 0, 1) := by decide +kernel
theorem d_M_find_45 : decode b_M_find 45 = .ok (.getfield 250, 3) := by decide +kernel
theorem d_M_find_48 : decode b_M_find 48 = .ok (.istore 5, 2) := by decide +kernel
theorem d_M_find_50 : decode b_M_find 50 = .ok (.goto (-30), 3) := by decide +kernel
theorem d_M_find_53 : decode b_M_find 53 = .ok (.iconst 0, 1) := by decide +kernel
theorem d_M_find_54 : decode b_M_find 54 = .ok (.ireturn, 1) := by decide +kernel
theorem d_M_isNumber_0 : decode b_M_isNumber 0 = .ok (.iload_n 1, 1) := by decide +kernel
theorem d_M_isNumber_1 : decode b_M_isNumber 1 = .ok (.i2l, 1) := by decide +kernel
theorem d_M_isNumber_2 : decode b_M_isNumber 2 = .ok (.lconst 0, 1) := by decide +kernel
theorem d_M_isNumber_3 : decode b_M_isNumber 3 = .ok (.aload_n 0, 1) := by decide +kernel
theorem d_M_isNumber_4 : decode b_M_isNumber 4 = .ok (.getfield 130, 3) := by decide +kernel
theorem d_M_isNumber_7 : decode b_M_isNumber 7 = .ok (.iconst 1, 1) := by decide +kernel
theorem d_M_isNumber_8 : decode b_M_isNumber 8 = .ok (.isub, 1) := by decide +kernel
theorem d_M_isNumber_9 : decode b_M_isNumber 9 = .ok (.i2l, 1) := by decide +kernel
theorem d_M_isNumber_10 : decode b_M_isNumber 10 = .ok (.invokestatic 90, 3) := by decide +kernel
theorem d_M_isNumber_13 : decode b_M_isNumber 13 = .ok (.ireturn, 1) := by decide +kernel
theorem d_M_worth_0 : decode b_M_worth 0 = .ok (.aload_n 0, 1) := by decide +kernel
theorem d_M_worth_1 : decode b_M_worth 1 = .ok (.iload_n 1, 1) := by decide +kernel
theorem d_M_worth_2 : decode b_M_worth 2 = .ok (.invokevirtual 271, 3) := by decide +kernel
theorem d_M_worth_5 : decode b_M_worth 5 = .ok (.ifCond .eq 25, 3) := by decide +kernel
theorem d_M_worth_8 : decode b_M_worth 8 = .ok (.iload_n 2, 1) := by decide +kernel
theorem d_M_worth_9 : decode b_M_worth 9 = .ok (.invokestatic 115, 3) := by decide +kernel
theorem d_M_worth_12 : decode b_M_worth 12 = .ok (.ifCond .eq 18, 3) := by decide +kernel
theorem d_M_worth_15 : decode b_M_worth 15 = .ok (.iload_n 3, 1) := by decide +kernel
theorem d_M_worth_16 : decode b_M_worth 16 = .ok (.invokestatic 98, 3) := by decide +kernel
theorem d_M_worth_19 : decode b_M_worth 19 = .ok (.ifCond .eq 11, 3) := by decide +kernel
theorem d_M_worth_22 : decode b_M_worth 22 = .ok (.iload 4, 2) := by decide +kernel
theorem d_M_worth_24 : decode b_M_worth 24 = .ok (.invokestatic 98, 3) := by decide +kernel
theorem d_M_worth_27 : decode b_M_worth 27 = .ok (.ifCond .ne 7, 3) := by decide +kernel
theorem d_M_worth_30 : decode b_M_worth 30 = .ok (.ldc2_w 274, 3) := by decide +kernel
theorem d_M_worth_33 : decode b_M_worth 33 = .ok (.lreturn, 1) := by decide +kernel
theorem d_M_worth_34 : decode b_M_worth 34 = .ok (.iload 5, 2) := by decide +kernel
theorem d_M_worth_36 : decode b_M_worth 36 = .ok (.i2l, 1) := by decide +kernel
theorem d_M_worth_37 : decode b_M_worth 37 = .ok (.lconst 0, 1) := by decide +kernel
theorem d_M_worth_38 : decode b_M_worth 38 = .ok (.ldc2_w 107, 3) := by decide +kernel
theorem d_M_worth_41 : decode b_M_worth 41 = .ok (.invokestatic 90, 3) := by decide +kernel
theorem d_M_worth_44 : decode b_M_worth 44 = .ok (.ifCond .ne 7, 3) := by decide +kernel
theorem d_M_worth_47 : decode b_M_worth 47 = .ok (.ldc2_w 276, 3) := by decide +kernel
theorem d_M_worth_50 : decode b_M_worth 50 = .ok (.lreturn, 1) := by decide +kernel
theorem d_M_worth_51 : decode b_M_worth 51 = .ok (.aload_n 0, 1) := by decide +kernel
theorem d_M_worth_52 : decode b_M_worth 52 = .ok (.bipush 40, 2) := by decide +kernel
theorem d_M_worth_54 : decode b_M_worth 54 = .ok (.iload_n 1, 1) := by decide +kernel
theorem d_M_worth_55 : decode b_M_worth 55 = .ok (.imul, 1) := by decide +kernel
theorem d_M_worth_56 : decode b_M_worth 56 = .ok (.iload_n 2, 1) := by decide +kernel
theorem d_M_worth_57 : decode b_M_worth 57 = .ok (.iload_n 3, 1) := by decide +kernel
theorem d_M_worth_58 : decode b_M_worth 58 = .ok (.iload 4, 2) := by decide +kernel
theorem d_M_worth_60 : decode b_M_worth 60 = .ok (.invokevirtual 278, 3) := by decide +kernel
theorem d_M_worth_63 : decode b_M_worth 63 = .ok (.istore 6, 2) := by decide +kernel
theorem d_M_worth_65 : decode b_M_worth 65 = .ok (.iload 6, 2) := by decide +kernel
theorem d_M_worth_67 : decode b_M_worth 67 = .ok (.ifCond .ge 9, 3) := by decide +kernel
theorem d_M_worth_70 : decode b_M_worth 70 = .ok (.iload 6, 2) := by decide +kernel
theorem d_M_worth_72 : decode b_M_worth 72 = .ok (.i2l, 1) := by decide +kernel
theorem d_M_worth_73 : decode b_M_worth 73 = .ok (.goto 40, 3) := by decide +kernel
theorem d_M_worth_76 : decode b_M_worth 76 = .ok (.iload 5, 2) := by decide +kernel
theorem d_M_worth_78 : decode b_M_worth 78 = .ok (.ifCond .ne 10, 3) := by decide +kernel
theorem d_M_worth_81 : decode b_M_worth 81 = .ok (.aload_n 0, 1) := by decide +kernel
theorem d_M_worth_82 : decode b_M_worth 82 = .ok (.getfield 201, 3) := by decide +kernel
theorem d_M_worth_85 : decode b_M_worth 85 = .ok (.goto 28, 3) := by decide +kernel
theorem d_M_worth_88 : decode b_M_worth 88 = .ok (.iload 5, 2) := by decide +kernel
theorem d_M_worth_90 : decode b_M_worth 90 = .ok (.iconst 1, 1) := by decide +kernel
theorem d_M_worth_91 : decode b_M_worth 91 = .ok (.if_icmp .ne 10, 3) := by decide +kernel
theorem d_M_worth_94 : decode b_M_worth 94 = .ok (.aload_n 0, 1) := by decide +kernel
theorem d_M_worth_95 : decode b_M_worth 95 = .ok (.getfield 205, 3) := by decide +kernel
theorem d_M_worth_98 : decode b_M_worth 98 = .ok (.goto 15, 3) := by decide +kernel
theorem d_M_worth_101 : decode b_M_worth 101 = .ok (.aload_n 0, 1) := by decide +kernel
theorem d_M_worth_102 : decode b_M_worth 102 = .ok (.getfield 208, 3) := by decide +kernel
theorem d_M_worth_105 : decode b_M_worth 105 = .ok (.ifCond .eq 7, 3) := by decide +kernel
theorem d_M_worth_108 : decode b_M_worth 108 = .ok (.lconst 1, 1) := by decide +kernel
theorem d_M_worth_109 : decode b_M_worth 109 = .ok (.goto 4, 3) := by decide +kernel
theorem d_M_worth_112 : decode b_M_worth 112 = .ok (.lconst 0, 1) := by decide +kernel
theorem d_M_worth_113 : decode b_M_worth 113 = .ok (.lreturn, 1) := by decide +kernel
theorem d_M_keep_0 : decode b_M_keep 0 = .ok (.aload_n 0, 1) := by decide +kernel
theorem d_M_keep_1 : decode b_M_keep 1 = .ok (.getfield 61, 3) := by decide +kernel
theorem d_M_keep_4 : decode b_M_keep 4 = .ok (.iload_n 1, 1) := by decide +kernel
theorem d_M_keep_5 : decode b_M_keep 5 = .ok (.aload_n 0, 1) := by decide +kernel
theorem d_M_keep_6 : decode b_M_keep 6 = .ok (.getfield 201, 3) := by decide +kernel
theorem d_M_keep_9 : decode b_M_keep 9 = .ok (.lastore, 1) := by decide +kernel
theorem d_M_keep_10 : decode b_M_keep 10 = .ok (.aload_n 0, 1) := by decide +kernel
theorem d_M_keep_11 : decode b_M_keep 11 = .ok (.getfield 64, 3) := by decide +kernel
theorem d_M_keep_14 : decode b_M_keep 14 = .ok (.iload_n 1, 1) := by decide +kernel
theorem d_M_keep_15 : decode b_M_keep 15 = .ok (.aload_n 0, 1) := by decide +kernel
theorem d_M_keep_16 : decode b_M_keep 16 = .ok (.getfield 205, 3) := by decide +kernel
theorem d_M_keep_19 : decode b_M_keep 19 = .ok (.lastore, 1) := by decide +kernel
theorem d_M_keep_20 : decode b_M_keep 20 = .ok (.aload_n 0, 1) := by decide +kernel
theorem d_M_keep_21 : decode b_M_keep 21 = .ok (.getfield 67, 3) := by decide +kernel
theorem d_M_keep_24 : decode b_M_keep 24 = .ok (.iload_n 1, 1) := by decide +kernel
theorem d_M_keep_25 : decode b_M_keep 25 = .ok (.aload_n 0, 1) := by decide +kernel
theorem d_M_keep_26 : decode b_M_keep 26 = .ok (.getfield 208, 3) := by decide +kernel
theorem d_M_keep_29 : decode b_M_keep 29 = .ok (.bastore, 1) := by decide +kernel
theorem d_M_keep_30 : decode b_M_keep 30 = .ok (.return_, 1) := by decide +kernel
theorem d_M_findKept_0 : decode b_M_findKept 0 = .ok (.aload_n 0, 1) := by decide +kernel
theorem d_M_findKept_1 : decode b_M_findKept 1 = .ok (.bipush 40, 2) := by decide +kernel
theorem d_M_findKept_3 : decode b_M_findKept 3 = .ok (.iload_n 1, 1) := by decide +kernel
theorem d_M_findKept_4 : decode b_M_findKept 4 = .ok (.imul, 1) := by decide +kernel
theorem d_M_findKept_5 : decode b_M_findKept 5 = .ok (.iload_n 2, 1) := by decide +kernel
theorem d_M_findKept_6 : decode b_M_findKept 6 = .ok (.iload_n 3, 1) := by decide +kernel
theorem d_M_findKept_7 : decode b_M_findKept 7 = .ok (.iload 4, 2) := by decide +kernel
theorem d_M_findKept_9 : decode b_M_findKept 9 = .ok (.invokevirtual 278, 3) := by decide +kernel
theorem d_M_findKept_12 : decode b_M_findKept 12 = .ok (.istore 6, 2) := by decide +kernel
theorem d_M_findKept_14 : decode b_M_findKept 14 = .ok (.aload_n 0, 1) := by decide +kernel
theorem d_M_findKept_15 : decode b_M_findKept 15 = .ok (.iload 5, 2) := by decide +kernel
theorem d_M_findKept_17 : decode b_M_findKept 17 = .ok (.invokevirtual 281, 3) := by decide +kernel
theorem d_M_findKept_20 : decode b_M_findKept 20 = .ok (.iload 6, 2) := by decide +kernel
theorem d_M_findKept_22 : decode b_M_findKept 22 = .ok (.ireturn, 1) := by decide +kernel
theorem d_M_orderKept_0 : decode b_M_orderKept 0 = .ok (.aload_n 0, 1) := by decide +kernel
theorem d_M_orderKept_1 : decode b_M_orderKept 1 = .ok (.aload_n 0, 1) := by decide +kernel
theorem d_M_orderKept_2 : decode b_M_orderKept 2 = .ok (.getfield 61, 3) := by decide +kernel
theorem d_M_orderKept_5 : decode b_M_orderKept 5 = .ok (.iload_n 1, 1) := by decide +kernel
theorem d_M_orderKept_6 : decode b_M_orderKept 6 = .ok (.laload, 1) := by decide +kernel
theorem d_M_orderKept_7 : decode b_M_orderKept 7 = .ok (.aload_n 0, 1) := by decide +kernel
theorem d_M_orderKept_8 : decode b_M_orderKept 8 = .ok (.getfield 64, 3) := by decide +kernel
theorem d_M_orderKept_11 : decode b_M_orderKept 11 = .ok (.iload_n 1, 1) := by decide +kernel
theorem d_M_orderKept_12 : decode b_M_orderKept 12 = .ok (.laload, 1) := by decide +kernel
theorem d_M_orderKept_13 : decode b_M_orderKept 13 = .ok (.aload_n 0, 1) := by decide +kernel
theorem d_M_orderKept_14 : decode b_M_orderKept 14 = .ok (.getfield 67, 3) := by decide +kernel
theorem d_M_orderKept_17 : decode b_M_orderKept 17 = .ok (.iload_n 1, 1) := by decide +kernel
theorem d_M_orderKept_18 : decode b_M_orderKept 18 = .ok (.baload, 1) := by decide +kernel
theorem d_M_orderKept_19 : decode b_M_orderKept 19 = .ok (.aload_n 0, 1) := by decide +kernel
theorem d_M_orderKept_20 : decode b_M_orderKept 20 = .ok (.getfield 61, 3) := by decide +kernel
theorem d_M_orderKept_23 : decode b_M_orderKept 23 = .ok (.iload_n 2, 1) := by decide +kernel
theorem d_M_orderKept_24 : decode b_M_orderKept 24 = .ok (.laload, 1) := by decide +kernel
theorem d_M_orderKept_25 : decode b_M_orderKept 25 = .ok (.aload_n 0, 1) := by decide +kernel
theorem d_M_orderKept_26 : decode b_M_orderKept 26 = .ok (.getfield 64, 3) := by decide +kernel
theorem d_M_orderKept_29 : decode b_M_orderKept 29 = .ok (.iload_n 2, 1) := by decide +kernel
theorem d_M_orderKept_30 : decode b_M_orderKept 30 = .ok (.laload, 1) := by decide +kernel
theorem d_M_orderKept_31 : decode b_M_orderKept 31 = .ok (.aload_n 0, 1) := by decide +kernel
theorem d_M_orderKept_32 : decode b_M_orderKept 32 = .ok (.getfield 67, 3) := by decide +kernel
theorem d_M_orderKept_35 : decode b_M_orderKept 35 = .ok (.iload_n 2, 1) := by decide +kernel
theorem d_M_orderKept_36 : decode b_M_orderKept 36 = .ok (.baload, 1) := by decide +kernel
theorem d_M_orderKept_37 : decode b_M_orderKept 37 = .ok (.invokevirtual 242, 3) := by decide +kernel
theorem d_M_orderKept_40 : decode b_M_orderKept 40 = .ok (.ireturn, 1) := by decide +kernel
theorem d_M_order_0 : decode b_M_order 0 = .ok (.aload_n 0, 1) := by decide +kernel
theorem d_M_order_1 : decode b_M_order 1 = .ok (.iload_n 1, 1) := by decide +kernel
theorem d_M_order_2 : decode b_M_order 2 = .ok (.invokevirtual 271, 3) := by decide +kernel
theorem d_M_order_5 : decode b_M_order 5 = .ok (.ifCond .eq 34, 3) := by decide +kernel
theorem d_M_order_8 : decode b_M_order 8 = .ok (.aload_n 0, 1) := by decide +kernel
theorem d_M_order_9 : decode b_M_order 9 = .ok (.iload_n 2, 1) := by decide +kernel
theorem d_M_order_10 : decode b_M_order 10 = .ok (.invokevirtual 271, 3) := by decide +kernel
theorem d_M_order_13 : decode b_M_order 13 = .ok (.ifCond .eq 26, 3) := by decide +kernel
theorem d_M_order_16 : decode b_M_order 16 = .ok (.iload_n 3, 1) := by decide +kernel
theorem d_M_order_17 : decode b_M_order 17 = .ok (.invokestatic 115, 3) := by decide +kernel
theorem d_M_order_20 : decode b_M_order 20 = .ok (.ifCond .eq 19, 3) := by decide +kernel
theorem d_M_order_23 : decode b_M_order 23 = .ok (.iload 4, 2) := by decide +kernel
theorem d_M_order_25 : decode b_M_order 25 = .ok (.invokestatic 98, 3) := by decide +kernel
theorem d_M_order_28 : decode b_M_order 28 = .ok (.ifCond .eq 11, 3) := by decide +kernel
theorem d_M_order_31 : decode b_M_order 31 = .ok (.iload 5, 2) := by decide +kernel
theorem d_M_order_33 : decode b_M_order 33 = .ok (.invokestatic 98, 3) := by decide +kernel
theorem d_M_order_36 : decode b_M_order 36 = .ok (.ifCond .ne 7, 3) := by decide +kernel
theorem d_M_order_39 : decode b_M_order 39 = .ok (.sipush (-1001), 3) := by decide +kernel
theorem d_M_order_42 : decode b_M_order 42 = .ok (.ireturn, 1) := by decide +kernel
theorem d_M_order_43 : decode b_M_order 43 = .ok (.aload_n 0, 1) := by decide +kernel
theorem d_M_order_44 : decode b_M_order 44 = .ok (.iload_n 1, 1) := by decide +kernel
theorem d_M_order_45 : decode b_M_order 45 = .ok (.iload_n 3, 1) := by decide +kernel
theorem d_M_order_46 : decode b_M_order 46 = .ok (.iload 4, 2) := by decide +kernel
theorem d_M_order_48 : decode b_M_order 48 = .ok (.iload 5, 2) := by decide +kernel
theorem d_M_order_50 : decode b_M_order 50 = .ok (.iconst 0, 1) := by decide +kernel
theorem d_M_order_51 : decode b_M_order 51 = .ok (.invokevirtual 284, 3) := by decide +kernel
theorem d_M_order_54 : decode b_M_order 54 = .ok (.istore 6, 2) := by decide +kernel
theorem d_M_order_56 : decode b_M_order 56 = .ok (.iload 6, 2) := by decide +kernel
theorem d_M_order_58 : decode b_M_order 58 = .ok (.ifCond .ge 8, 3) := by decide +kernel
theorem d_M_order_61 : decode b_M_order 61 = .ok (.iload 6, 2) := by decide +kernel
theorem d_M_order_63 : decode b_M_order 63 = .ok (.goto 14, 3) := by decide +kernel
theorem d_M_order_66 : decode b_M_order 66 = .ok (.aload_n 0, 1) := by decide +kernel
theorem d_M_order_67 : decode b_M_order 67 = .ok (.iload_n 2, 1) := by decide +kernel
theorem d_M_order_68 : decode b_M_order 68 = .ok (.iload_n 3, 1) := by decide +kernel
theorem d_M_order_69 : decode b_M_order 69 = .ok (.iload 4, 2) := by decide +kernel
theorem d_M_order_71 : decode b_M_order 71 = .ok (.iload 5, 2) := by decide +kernel
theorem d_M_order_73 : decode b_M_order 73 = .ok (.iconst 1, 1) := by decide +kernel
theorem d_M_order_74 : decode b_M_order 74 = .ok (.invokevirtual 284, 3) := by decide +kernel
theorem d_M_order_77 : decode b_M_order 77 = .ok (.istore 6, 2) := by decide +kernel
theorem d_M_order_79 : decode b_M_order 79 = .ok (.iload 6, 2) := by decide +kernel
theorem d_M_order_81 : decode b_M_order 81 = .ok (.ifCond .ge 8, 3) := by decide +kernel
theorem d_M_order_84 : decode b_M_order 84 = .ok (.iload 6, 2) := by decide +kernel
theorem d_M_order_86 : decode b_M_order 86 = .ok (.goto 9, 3) := by decide +kernel
theorem d_M_order_89 : decode b_M_order 89 = .ok (.aload_n 0, 1) := by decide +kernel
theorem d_M_order_90 : decode b_M_order 90 = .ok (.iconst 0, 1) := by decide +kernel
theorem d_M_order_91 : decode b_M_order 91 = .ok (.iconst 1, 1) := by decide +kernel
theorem d_M_order_92 : decode b_M_order 92 = .ok (.invokevirtual 287, 3) := by decide +kernel
theorem d_M_order_95 : decode b_M_order 95 = .ok (.istore 6, 2) := by decide +kernel
theorem d_M_order_97 : decode b_M_order 97 = .ok (.iload 6, 2) := by decide +kernel
theorem d_M_order_99 : decode b_M_order 99 = .ok (.ifCond .ge 8, 3) := by decide +kernel
theorem d_M_order_102 : decode b_M_order 102 = .ok (.iload 6, 2) := by decide +kernel
theorem d_M_order_104 : decode b_M_order 104 = .ok (.goto 7, 3) := by decide +kernel
theorem d_M_order_107 : decode b_M_order 107 = .ok (.aload_n 0, 1) := by decide +kernel
theorem d_M_order_108 : decode b_M_order 108 = .ok (.getfield 226, 3) := by decide +kernel
theorem d_M_order_111 : decode b_M_order 111 = .ok (.ireturn, 1) := by decide +kernel
theorem d_M_holdBooks_0 : decode b_M_holdBooks 0 = .ok (.iconst 0, 1) := by decide +kernel
theorem d_M_holdBooks_1 : decode b_M_holdBooks 1 = .ok (.istore_n 1, 1) := by decide +kernel
theorem d_M_holdBooks_2 : decode b_M_holdBooks 2 = .ok (.iload_n 1, 1) := by decide +kernel
theorem d_M_holdBooks_3 : decode b_M_holdBooks 3 = .ok (.bipush 50, 2) := by decide +kernel
theorem d_M_holdBooks_5 : decode b_M_holdBooks 5 = .ok (.if_icmp .ge 21, 3) := by decide +kernel
theorem d_M_holdBooks_8 : decode b_M_holdBooks 8 = .ok (.aload_n 0, 1) := by decide +kernel
theorem d_M_holdBooks_9 : decode b_M_holdBooks 9 = .ok (.getfield 70, 3) := by decide +kernel
theorem d_M_holdBooks_12 : decode b_M_holdBooks 12 = .ok (.iload_n 1, 1) := by decide +kernel
theorem d_M_holdBooks_13 : decode b_M_holdBooks 13 = .ok (.aload_n 0, 1) := by decide +kernel
theorem d_M_holdBooks_14 : decode b_M_holdBooks 14 = .ok (.getfield 7, 3) := by decide +kernel
theorem d_M_holdBooks_17 : decode b_M_holdBooks 17 = .ok (.iload_n 1, 1) := by decide +kernel
theorem d_M_holdBooks_18 : decode b_M_holdBooks 18 = .ok (.iaload, 1) := by decide +kernel
theorem d_M_holdBooks_19 : decode b_M_holdBooks 19 = .ok (.iastore, 1) := by decide +kernel
theorem d_M_holdBooks_20 : decode b_M_holdBooks 20 = .ok (.iinc 1 1, 3) := by decide +kernel
theorem d_M_holdBooks_23 : decode b_M_holdBooks 23 = .ok (.goto (-21), 3) := by decide +kernel
theorem d_M_holdBooks_26 : decode b_M_holdBooks 26 = .ok (.iconst 0, 1) := by decide +kernel
theorem d_M_holdBooks_27 : decode b_M_holdBooks 27 = .ok (.istore_n 1, 1) := by decide +kernel
theorem d_M_holdBooks_28 : decode b_M_holdBooks 28 = .ok (.iload_n 1, 1) := by decide +kernel
theorem d_M_holdBooks_29 : decode b_M_holdBooks 29 = .ok (.sipush 150, 3) := by decide +kernel
theorem d_M_holdBooks_32 : decode b_M_holdBooks 32 = .ok (.if_icmp .ge 21, 3) := by decide +kernel
theorem d_M_holdBooks_35 : decode b_M_holdBooks 35 = .ok (.aload_n 0, 1) := by decide +kernel
theorem d_M_holdBooks_36 : decode b_M_holdBooks 36 = .ok (.getfield 73, 3) := by decide +kernel
theorem d_M_holdBooks_39 : decode b_M_holdBooks 39 = .ok (.iload_n 1, 1) := by decide +kernel
theorem d_M_holdBooks_40 : decode b_M_holdBooks 40 = .ok (.aload_n 0, 1) := by decide +kernel
theorem d_M_holdBooks_41 : decode b_M_holdBooks 41 = .ok (.getfield 13, 3) := by decide +kernel
theorem d_M_holdBooks_44 : decode b_M_holdBooks 44 = .ok (.iload_n 1, 1) := by decide +kernel
theorem d_M_holdBooks_45 : decode b_M_holdBooks 45 = .ok (.iaload, 1) := by decide +kernel
theorem d_M_holdBooks_46 : decode b_M_holdBooks 46 = .ok (.iastore, 1) := by decide +kernel
theorem d_M_holdBooks_47 : decode b_M_holdBooks 47 = .ok (.iinc 1 1, 3) := by decide +kernel
theorem d_M_holdBooks_50 : decode b_M_holdBooks 50 = .ok (.goto (-22), 3) := by decide +kernel
theorem d_M_holdBooks_53 : decode b_M_holdBooks 53 = .ok (.return_, 1) := by decide +kernel
theorem d_M_putBooks_0 : decode b_M_putBooks 0 = .ok (.iconst 0, 1) := by decide +kernel
theorem d_M_putBooks_1 : decode b_M_putBooks 1 = .ok (.istore_n 1, 1) := by decide +kernel
theorem d_M_putBooks_2 : decode b_M_putBooks 2 = .ok (.iload_n 1, 1) := by decide +kernel
theorem d_M_putBooks_3 : decode b_M_putBooks 3 = .ok (.bipush 50, 2) := by decide +kernel
theorem d_M_putBooks_5 : decode b_M_putBooks 5 = .ok (.if_icmp .ge 21, 3) := by decide +kernel
theorem d_M_putBooks_8 : decode b_M_putBooks 8 = .ok (.aload_n 0, 1) := by decide +kernel
theorem d_M_putBooks_9 : decode b_M_putBooks 9 = .ok (.getfield 7, 3) := by decide +kernel
theorem d_M_putBooks_12 : decode b_M_putBooks 12 = .ok (.iload_n 1, 1) := by decide +kernel
theorem d_M_putBooks_13 : decode b_M_putBooks 13 = .ok (.aload_n 0, 1) := by decide +kernel
theorem d_M_putBooks_14 : decode b_M_putBooks 14 = .ok (.getfield 70, 3) := by decide +kernel
theorem d_M_putBooks_17 : decode b_M_putBooks 17 = .ok (.iload_n 1, 1) := by decide +kernel
theorem d_M_putBooks_18 : decode b_M_putBooks 18 = .ok (.iaload, 1) := by decide +kernel
theorem d_M_putBooks_19 : decode b_M_putBooks 19 = .ok (.iastore, 1) := by decide +kernel
theorem d_M_putBooks_20 : decode b_M_putBooks 20 = .ok (.iinc 1 1, 3) := by decide +kernel
theorem d_M_putBooks_23 : decode b_M_putBooks 23 = .ok (.goto (-21), 3) := by decide +kernel
theorem d_M_putBooks_26 : decode b_M_putBooks 26 = .ok (.iconst 0, 1) := by decide +kernel
theorem d_M_putBooks_27 : decode b_M_putBooks 27 = .ok (.istore_n 1, 1) := by decide +kernel
theorem d_M_putBooks_28 : decode b_M_putBooks 28 = .ok (.iload_n 1, 1) := by decide +kernel
theorem d_M_putBooks_29 : decode b_M_putBooks 29 = .ok (.sipush 150, 3) := by decide +kernel
theorem d_M_putBooks_32 : decode b_M_putBooks 32 = .ok (.if_icmp .ge 21, 3) := by decide +kernel
theorem d_M_putBooks_35 : decode b_M_putBooks 35 = .ok (.aload_n 0, 1) := by decide +kernel
theorem d_M_putBooks_36 : decode b_M_putBooks 36 = .ok (.getfield 13, 3) := by decide +kernel
theorem d_M_putBooks_39 : decode b_M_putBooks 39 = .ok (.iload_n 1, 1) := by decide +kernel
theorem d_M_putBooks_40 : decode b_M_putBooks 40 = .ok (.aload_n 0, 1) := by decide +kernel
theorem d_M_putBooks_41 : decode b_M_putBooks 41 = .ok (.getfield 73, 3) := by decide +kernel
theorem d_M_putBooks_44 : decode b_M_putBooks 44 = .ok (.iload_n 1, 1) := by decide +kernel
theorem d_M_putBooks_45 : decode b_M_putBooks 45 = .ok (.iaload, 1) := by decide +kernel
theorem d_M_putBooks_46 : decode b_M_putBooks 46 = .ok (.iastore, 1) := by decide +kernel
theorem d_M_putBooks_47 : decode b_M_putBooks 47 = .ok (.iinc 1 1, 3) := by decide +kernel
theorem d_M_putBooks_50 : decode b_M_putBooks 50 = .ok (.goto (-22), 3) := by decide +kernel
theorem d_M_putBooks_53 : decode b_M_putBooks 53 = .ok (.return_, 1) := by decide +kernel
theorem d_M_product_0 : decode b_M_product 0 = .ok (.aload_n 0, 1) := by decide +kernel
theorem d_M_product_1 : decode b_M_product 1 = .ok (.getfield 67, 3) := by decide +kernel
theorem d_M_product_4 : decode b_M_product 4 = .ok (.iload_n 1, 1) := by decide +kernel
theorem d_M_product_5 : decode b_M_product 5 = .ok (.baload, 1) := by decide +kernel
theorem d_M_product_6 : decode b_M_product 6 = .ok (.aload_n 0, 1) := by decide +kernel
theorem d_M_product_7 : decode b_M_product 7 = .ok (.getfield 67, 3) := by decide +kernel
theorem d_M_product_10 : decode b_M_product 10 = .ok (.iload_n 2, 1) := by decide +kernel
theorem d_M_product_11 : decode b_M_product 11 = .ok (.baload, 1) := by decide +kernel
theorem d_M_product_12 : decode b_M_product 12 = .ok (.if_icmp .eq 7, 3) := by decide +kernel
theorem d_M_product_15 : decode b_M_product 15 = .ok (.sipush (-1003), 3) := by decide +kernel
theorem d_M_product_18 : decode b_M_product 18 = .ok (.ireturn, 1) := by decide +kernel
theorem d_M_product_19 : decode b_M_product 19 = .ok (.aload_n 0, 1) := by decide +kernel
theorem d_M_product_20 : decode b_M_product 20 = .ok (.aload_n 0, 1) := by decide +kernel
theorem d_M_product_21 : decode b_M_product 21 = .ok (.getfield 61, 3) := by decide +kernel
theorem d_M_product_24 : decode b_M_product 24 = .ok (.iload_n 1, 1) := by decide +kernel
theorem d_M_product_25 : decode b_M_product 25 = .ok (.laload, 1) := by decide +kernel
theorem d_M_product_26 : decode b_M_product 26 = .ok (.aload_n 0, 1) := by decide +kernel
theorem d_M_product_27 : decode b_M_product 27 = .ok (.getfield 64, 3) := by decide +kernel
theorem d_M_product_30 : decode b_M_product 30 = .ok (.iload_n 1, 1) := by decide +kernel
theorem d_M_product_31 : decode b_M_product 31 = .ok (.laload, 1) := by decide +kernel
theorem d_M_product_32 : decode b_M_product 32 = .ok (.aload_n 0, 1) := by decide +kernel
theorem d_M_product_33 : decode b_M_product 33 = .ok (.getfield 61, 3) := by decide +kernel
theorem d_M_product_36 : decode b_M_product 36 = .ok (.iload_n 2, 1) := by decide +kernel
theorem d_M_product_37 : decode b_M_product 37 = .ok (.laload, 1) := by decide +kernel
theorem d_M_product_38 : decode b_M_product 38 = .ok (.aload_n 0, 1) := by decide +kernel
theorem d_M_product_39 : decode b_M_product 39 = .ok (.getfield 64, 3) := by decide +kernel
theorem d_M_product_42 : decode b_M_product 42 = .ok (.iload_n 2, 1) := by decide +kernel
theorem d_M_product_43 : decode b_M_product 43 = .ok (.laload, 1) := by decide +kernel
theorem d_M_product_44 : decode b_M_product 44 = .ok (.aload_n 0, 1) := by decide +kernel
theorem d_M_product_45 : decode b_M_product 45 = .ok (.getfield 67, 3) := by decide +kernel
theorem d_M_product_48 : decode b_M_product 48 = .ok (.iload_n 1, 1) := by decide +kernel
theorem d_M_product_49 : decode b_M_product 49 = .ok (.baload, 1) := by decide +kernel
theorem d_M_product_50 : decode b_M_product 50 = .ok (.invokevirtual 218, 3) := by decide +kernel
theorem d_M_product_53 : decode b_M_product 53 = .ok (.istore_n 3, 1) := by decide +kernel
theorem d_M_product_54 : decode b_M_product 54 = .ok (.aload_n 0, 1) := by decide +kernel
theorem d_M_product_55 : decode b_M_product 55 = .ok (.iload_n 1, 1) := by decide +kernel
theorem d_M_product_56 : decode b_M_product 56 = .ok (.invokevirtual 281, 3) := by decide +kernel
theorem d_M_product_59 : decode b_M_product 59 = .ok (.iload_n 3, 1) := by decide +kernel
theorem d_M_product_60 : decode b_M_product 60 = .ok (.ireturn, 1) := by decide +kernel
theorem d_M_isOneKept_0 : decode b_M_isOneKept 0 = .ok (.iload_n 1, 1) := by decide +kernel
theorem d_M_isOneKept_1 : decode b_M_isOneKept 1 = .ok (.ifCond .ge 7, 3) := by decide +kernel
theorem d_M_isOneKept_4 : decode b_M_isOneKept 4 = .ok (.iload_n 1, 1) := by decide +kernel
theorem d_M_isOneKept_5 : decode b_M_isOneKept 5 = .ok (.goto 30, 3) := by decide +kernel
theorem d_M_isOneKept_8 : decode b_M_isOneKept 8 = .ok (.aload_n 0, 1) := by decide +kernel
theorem d_M_isOneKept_9 : decode b_M_isOneKept 9 = .ok (.getfield 61, 3) := by decide +kernel
theorem d_M_isOneKept_12 : decode b_M_isOneKept 12 = .ok (.iconst 0, 1) := by decide +kernel
theorem d_M_isOneKept_13 : decode b_M_isOneKept 13 = .ok (.laload, 1) := by decide +kernel
theorem d_M_isOneKept_14 : decode b_M_isOneKept 14 = .ok (.lconst 1, 1) := by decide +kernel
theorem d_M_isOneKept_15 : decode b_M_isOneKept 15 = .ok (.lcmp, 1) := by decide +kernel
theorem d_M_isOneKept_16 : decode b_M_isOneKept 16 = .ok (.ifCond .ne 18, 3) := by decide +kernel
theorem d_M_isOneKept_19 : decode b_M_isOneKept 19 = .ok (.aload_n 0, 1) := by decide +kernel
theorem d_M_isOneKept_20 : decode b_M_isOneKept 20 = .ok (.getfield 64, 3) := by decide +kernel
theorem d_M_isOneKept_23 : decode b_M_isOneKept 23 = .ok (.iconst 0, 1) := by decide +kernel
theorem d_M_isOneKept_24 : decode b_M_isOneKept 24 = .ok (.laload, 1) := by decide +kernel
theorem d_M_isOneKept_25 : decode b_M_isOneKept 25 = .ok (.lconst 1, 1) := by decide +kernel
theorem d_M_isOneKept_26 : decode b_M_isOneKept 26 = .ok (.lcmp, 1) := by decide +kernel
theorem d_M_isOneKept_27 : decode b_M_isOneKept 27 = .ok (.ifCond .ne 7, 3) := by decide +kernel
theorem d_M_isOneKept_30 : decode b_M_isOneKept 30 = .ok (.iconst 1, 1) := by decide +kernel
theorem d_M_isOneKept_31 : decode b_M_isOneKept 31 = .ok (.goto 4, 3) := by decide +kernel
theorem d_M_isOneKept_34 : decode b_M_isOneKept 34 = .ok (.iconst 0, 1) := by decide +kernel
theorem d_M_isOneKept_35 : decode b_M_isOneKept 35 = .ok (.ireturn, 1) := by decide +kernel
theorem d_M_sameLaw_0 : decode b_M_sameLaw 0 = .ok (.aload_n 0, 1) := by decide +kernel
theorem d_M_sameLaw_1 : decode b_M_sameLaw 1 = .ok (.invokevirtual 290, 3) := by decide +kernel
theorem d_M_sameLaw_4 : decode b_M_sameLaw 4 = .ok (.iconst 0, 1) := by decide +kernel
theorem d_M_sameLaw_5 : decode b_M_sameLaw 5 = .ok (.istore 5, 2) := by decide +kernel
theorem d_M_sameLaw_7 : decode b_M_sameLaw 7 = .ok (.iload 5, 2) := by decide +kernel
theorem d_M_sameLaw_9 : decode b_M_sameLaw 9 = .ok (.iconst 5, 1) := by decide +kernel
theorem d_M_sameLaw_10 : decode b_M_sameLaw 10 = .ok (.if_icmp .ge 32, 3) := by decide +kernel
theorem d_M_sameLaw_13 : decode b_M_sameLaw 13 = .ok (.aload_n 0, 1) := by decide +kernel
theorem d_M_sameLaw_14 : decode b_M_sameLaw 14 = .ok (.getfield 7, 3) := by decide +kernel
theorem d_M_sameLaw_17 : decode b_M_sameLaw 17 = .ok (.iconst 5, 1) := by decide +kernel
theorem d_M_sameLaw_18 : decode b_M_sameLaw 18 = .ok (.iload 4, 2) := by decide +kernel
theorem d_M_sameLaw_20 : decode b_M_sameLaw 20 = .ok (.imul, 1) := by decide +kernel
theorem d_M_sameLaw_21 : decode b_M_sameLaw 21 = .ok (.iload 5, 2) := by decide +kernel
theorem d_M_sameLaw_23 : decode b_M_sameLaw 23 = .ok (.iadd, 1) := by decide +kernel
theorem d_M_sameLaw_24 : decode b_M_sameLaw 24 = .ok (.aload_n 0, 1) := by decide +kernel
theorem d_M_sameLaw_25 : decode b_M_sameLaw 25 = .ok (.getfield 7, 3) := by decide +kernel
theorem d_M_sameLaw_28 : decode b_M_sameLaw 28 = .ok (.iconst 5, 1) := by decide +kernel
theorem d_M_sameLaw_29 : decode b_M_sameLaw 29 = .ok (.iload_n 3, 1) := by decide +kernel
theorem d_M_sameLaw_30 : decode b_M_sameLaw 30 = .ok (.imul, 1) := by decide +kernel
theorem d_M_sameLaw_31 : decode b_M_sameLaw 31 = .ok (.iload 5, 2) := by decide +kernel
theorem d_M_sameLaw_33 : decode b_M_sameLaw 33 = .ok (.iadd, 1) := by decide +kernel
theorem d_M_sameLaw_34 : decode b_M_sameLaw 34 = .ok (.iaload, 1) := by decide +kernel
theorem d_M_sameLaw_35 : decode b_M_sameLaw 35 = .ok (.iastore, 1) := by decide +kernel
theorem d_M_sameLaw_36 : decode b_M_sameLaw 36 = .ok (.iinc 5 1, 3) := by decide +kernel
theorem d_M_sameLaw_39 : decode b_M_sameLaw 39 = .ok (.goto (-32), 3) := by decide +kernel
theorem d_M_sameLaw_42 : decode b_M_sameLaw 42 = .ok (.aload_n 0, 1) := by decide +kernel
theorem d_M_sameLaw_43 : decode b_M_sameLaw 43 = .ok (.iload_n 1, 1) := by decide +kernel
theorem d_M_sameLaw_44 : decode b_M_sameLaw 44 = .ok (.iload_n 2, 1) := by decide +kernel
theorem d_M_sameLaw_45 : decode b_M_sameLaw 45 = .ok (.iload_n 3, 1) := by decide +kernel
theorem d_M_sameLaw_46 : decode b_M_sameLaw 46 = .ok (.iload 4, 2) := by decide +kernel
theorem d_M_sameLaw_48 : decode b_M_sameLaw 48 = .ok (.iconst 0, 1) := by decide +kernel
theorem d_M_sameLaw_49 : decode b_M_sameLaw 49 = .ok (.invokevirtual 284, 3) := by decide +kernel
theorem d_M_sameLaw_52 : decode b_M_sameLaw 52 = .ok (.istore 5, 2) := by decide +kernel
theorem d_M_sameLaw_54 : decode b_M_sameLaw 54 = .ok (.aload_n 0, 1) := by decide +kernel
theorem d_M_sameLaw_55 : decode b_M_sameLaw 55 = .ok (.invokevirtual 293, 3) := by decide +kernel
theorem d_M_sameLaw_58 : decode b_M_sameLaw 58 = .ok (.aload_n 0, 1) := by decide +kernel
theorem d_M_sameLaw_59 : decode b_M_sameLaw 59 = .ok (.iload 5, 2) := by decide +kernel
theorem d_M_sameLaw_61 : decode b_M_sameLaw 61 = .ok (.invokevirtual 296, 3) := by decide +kernel
theorem d_M_sameLaw_64 : decode b_M_sameLaw 64 = .ok (.ireturn, 1) := by decide +kernel
theorem d_M_backLaw_0 : decode b_M_backLaw 0 = .ok (.aload_n 0, 1) := by decide +kernel
theorem d_M_backLaw_1 : decode b_M_backLaw 1 = .ok (.iload_n 1, 1) := by decide +kernel
theorem d_M_backLaw_2 : decode b_M_backLaw 2 = .ok (.iload_n 2, 1) := by decide +kernel
theorem d_M_backLaw_3 : decode b_M_backLaw 3 = .ok (.iload_n 3, 1) := by decide +kernel
theorem d_M_backLaw_4 : decode b_M_backLaw 4 = .ok (.iload 4, 2) := by decide +kernel
theorem d_M_backLaw_6 : decode b_M_backLaw 6 = .ok (.iconst 0, 1) := by decide +kernel
theorem d_M_backLaw_7 : decode b_M_backLaw 7 = .ok (.invokevirtual 284, 3) := by decide +kernel
theorem d_M_backLaw_10 : decode b_M_backLaw 10 = .ok (.istore 5, 2) := by decide +kernel
theorem d_M_backLaw_12 : decode b_M_backLaw 12 = .ok (.iload 5, 2) := by decide +kernel
theorem d_M_backLaw_14 : decode b_M_backLaw 14 = .ok (.ifCond .ge 8, 3) := by decide +kernel
theorem d_M_backLaw_17 : decode b_M_backLaw 17 = .ok (.iload 5, 2) := by decide +kernel
theorem d_M_backLaw_19 : decode b_M_backLaw 19 = .ok (.goto 13, 3) := by decide +kernel
theorem d_M_backLaw_22 : decode b_M_backLaw 22 = .ok (.aload_n 0, 1) := by decide +kernel
theorem d_M_backLaw_23 : decode b_M_backLaw 23 = .ok (.iload_n 1, 1) := by decide +kernel
theorem d_M_backLaw_24 : decode b_M_backLaw 24 = .ok (.iload_n 2, 1) := by decide +kernel
theorem d_M_backLaw_25 : decode b_M_backLaw 25 = .ok (.iload 4, 2) := by decide +kernel
theorem d_M_backLaw_27 : decode b_M_backLaw 27 = .ok (.iload_n 3, 1) := by decide +kernel
theorem d_M_backLaw_28 : decode b_M_backLaw 28 = .ok (.iconst 1, 1) := by decide +kernel
theorem d_M_backLaw_29 : decode b_M_backLaw 29 = .ok (.invokevirtual 284, 3) := by decide +kernel
theorem d_M_backLaw_32 : decode b_M_backLaw 32 = .ok (.istore 5, 2) := by decide +kernel
theorem d_M_backLaw_34 : decode b_M_backLaw 34 = .ok (.iload 5, 2) := by decide +kernel
theorem d_M_backLaw_36 : decode b_M_backLaw 36 = .ok (.ifCond .ge 8, 3) := by decide +kernel
theorem d_M_backLaw_39 : decode b_M_backLaw 39 = .ok (.iload 5, 2) := by decide +kernel
theorem d_M_backLaw_41 : decode b_M_backLaw 41 = .ok (.goto 9, 3) := by decide +kernel
theorem d_M_backLaw_44 : decode b_M_backLaw 44 = .ok (.aload_n 0, 1) := by decide +kernel
theorem d_M_backLaw_45 : decode b_M_backLaw 45 = .ok (.iconst 0, 1) := by decide +kernel
theorem d_M_backLaw_46 : decode b_M_backLaw 46 = .ok (.iconst 1, 1) := by decide +kernel
theorem d_M_backLaw_47 : decode b_M_backLaw 47 = .ok (.invokevirtual 299, 3) := by decide +kernel
theorem d_M_backLaw_50 : decode b_M_backLaw 50 = .ok (.istore 5, 2) := by decide +kernel
theorem d_M_backLaw_52 : decode b_M_backLaw 52 = .ok (.aload_n 0, 1) := by decide +kernel
theorem d_M_backLaw_53 : decode b_M_backLaw 53 = .ok (.iload 5, 2) := by decide +kernel
theorem d_M_backLaw_55 : decode b_M_backLaw 55 = .ok (.invokevirtual 296, 3) := by decide +kernel
theorem d_M_backLaw_58 : decode b_M_backLaw 58 = .ok (.ireturn, 1) := by decide +kernel
def f_M_join_257 (this : Nat) (s0 : Int32) (x1 : Int32) (x2 : Int64) (x4 : Int64) (x7 : Int64) (x9 : Int64) (x11 : Int32) (h : Hp) : Option ((Int32 × Hp)) :=
  if s0 = 0 then
    zb2 (f_M_take this x7 x9 x11 h) fun i2 h3 =>
    some (i2, h3)
  else
  (gA h this 8 25).bind fun r4 =>
  (r4).bind fun a6 =>
  (aI h 2 a6 x1).bind fun i9 =>
  zb2 (f_M_take this x2 x4 i9 h) fun i11 h12 =>
  some (i11, h12)
set_option maxRecDepth 100000 in
set_option maxHeartbeats 4000000 in
theorem w_M_join_257 {p : Program} {l : Launch} {e : Env} {s : State} {m : MethodId} {args : Array Value} {below : List Frame} {meth : Method} {c : Code} {N0 : Nat} {D : va_G} {cs : Nat → ClassId} (M : ZC p s m args meth c "YearBasketsModel" "join" b_M_join 14 (some .int) N0 D cs) (this : Nat)  {r0 : Int32} {h0 : Hp}  (s0 : Int32) (x1 : Int32) (x2 : Int64) (x4 : Int64) (x7 : Int64) (x9 : Int64) (x11 : Int32) (h : Hp) (hf : f_M_join_257 this s0 x1 x2 x4 x7 x9 x11 h = some (r0, h0)) : ZG p l e (zrm 5 0 0) s m args below meth c N0 D cs (some (.int r0)) h0 h 14 [(0, .ref this), (1, .int x1), (2, .long x2), (4, .long x4), (7, .long x7), (9, .long x9), (11, .int x11)] 257 [.int s0] := by
  intro H locs ls hH hS hl
  unfold f_M_join_257 at hf
  refine lv_istore (lv' := [(13, .int s0), (0, .ref this), (1, .int x1), (2, .long x2), (4, .long x4), (7, .long x7), (9, .long x9), (11, .int x11)]) M.x M.b d_M_join_257 hl (by decide) rfl (fun ls hl => ?_)
  refine lv_iload M.x M.b d_M_join_259 (lv_at hl 0 rfl) ?_
  refine lv_if_eq (tgt := 280) M.x M.b d_M_join_261 (by decide) (fun c13 => ?_) (fun c13 => ?_)
  · replace hf := z_t c13 hf
    refine lv_aload_n M.x M.b d_M_join_280 rfl (lv_at hl 1 rfl) ?_
    refine lv_lload M.x M.b d_M_join_281 (lv_at hl 5 rfl) ?_
    refine lv_lload M.x M.b d_M_join_283 (lv_at hl 6 rfl) ?_
    refine lv_iload M.x M.b d_M_join_285 (lv_at hl 7 rfl) ?_
    replace hf := z_bind2 hf; obtain ⟨i2, h3, e1, hf⟩ := hf
    refine zk_V (ci := 8) (st1 := [.int i2]) M hH hS (c_M_take e1) rfl (o_M_take e1) w_M_take q_674 [] rfl ⟨Nat.le_of_ble_eq_true rfl, Nat.le_of_ble_eq_true rfl⟩ hl.1 rfl rfl (Nat.le_of_ble_eq_true rfl) d_M_join_287 (fun H locs hH hS => ?_)
    obtain ⟨rfl, rfl⟩ := z_r2 hf
    exact z_iret M hH hS d_M_join_290
  · replace hf := z_f c13 hf
    refine lv_aload_n M.x M.b d_M_join_264 rfl (lv_at hl 1 rfl) ?_
    refine lv_lload_n M.x M.b d_M_join_265 rfl (lv_at hl 3 rfl) ?_
    refine lv_lload M.x M.b d_M_join_266 (lv_at hl 4 rfl) ?_
    refine lv_aload_n M.x M.b d_M_join_268 rfl (lv_at hl 1 rfl) ?_
    replace hf := z_bind hf; obtain ⟨r4, e5, hf⟩ := hf
    refine z_get (ci := 8) (k := 25) M hH rfl (by decide) zinM q_709 (gA_spec e5) d_M_join_269 ?_
    refine lv_iload_n M.x M.b d_M_join_272 rfl (lv_at hl 2 rfl) ?_
    rcases r4 with _ | a6
    · exact absurd hf z_nb0
    replace hf := z_sb hf
    replace hf := z_bind hf; obtain ⟨i9, e8, hf⟩ := hf
    refine z_zald M hH e8 d_M_join_273 ?_
    replace hf := z_bind2 hf; obtain ⟨i11, h12, e10, hf⟩ := hf
    refine zk_V (ci := 8) (st1 := [.int i11]) M hH hS (c_M_take e10) rfl (o_M_take e10) w_M_take q_674 [] rfl ⟨Nat.le_of_ble_eq_true rfl, Nat.le_of_ble_eq_true rfl⟩ hl.1 rfl rfl (Nat.le_of_ble_eq_true rfl) d_M_join_274 (fun H locs hH hS => ?_)
    refine lv_goto (tgt := 290) M.x M.b d_M_join_277 (by decide) ?_
    obtain ⟨rfl, rfl⟩ := z_r2 hf
    exact z_iret M hH hS d_M_join_290
def f_M_join_42 (this : Nat) (x1 : Int32) (x2 : Int64) (x4 : Int64) (x6 : Int32) (h : Hp) : Option ((Int32 × Hp)) :=
  (gA h this 8 25).bind fun r14 =>
  (r14).bind fun a16 =>
  (aI h 2 a16 x1).bind fun i19 =>
  if i19 = 0 then
    (gI h this 8 16).bind fun i20 =>
    if i20 = 0 then
      if x6 = (6 : Int32) then
        (gL h this 8 14).bind fun l43 =>
        (gL h this 8 15).bind fun l45 =>
        zb2 (f_M_multiply this x2 x4 l43 l45 (1 : Int32) h) fun i48 h49 =>
        some (i48, h49)
      else
      (gL h this 8 15).bind fun l22 =>
      (f_M_gcd x4 l22).bind fun l25 =>
      (gL h this 8 15).bind fun l26 =>
      if l25 = 0 then none else
      if l25 = 0 then none else
      if (l26 / l25) = 0 then none else
      if ((1000000000000000 : Int64) / (l26 / l25)) < x4 then
        some ((-1005 : Int32), h)
      else
      if (l26 / l25) = 0 then none else
      if ((1000000000000000 : Int64) / (l26 / l25)) < x2 then
        some ((-1005 : Int32), h)
      else
      (gL h this 8 14).bind fun l28 =>
      if (x4 / l25) = 0 then none else
      if l28 ≤ ((1000000000000000 : Int64) / (x4 / l25)) then
        (gL h this 8 14).bind fun l30 =>
        zb2 (f_M_half this ((x2 * (l26 / l25)) + (l30 * (x4 / l25))) (x4 * (l26 / l25)) h) fun i33 h34 =>
        some (i33, h34)
      else
      some ((-1005 : Int32), h)
    else
    some ((-1003 : Int32), h)
  else
  some ((-1003 : Int32), h)
set_option maxRecDepth 100000 in
set_option maxHeartbeats 4000000 in
theorem w_M_join_42 {p : Program} {l : Launch} {e : Env} {s : State} {m : MethodId} {args : Array Value} {below : List Frame} {meth : Method} {c : Code} {N0 : Nat} {D : va_G} {cs : Nat → ClassId} (M : ZC p s m args meth c "YearBasketsModel" "join" b_M_join 14 (some .int) N0 D cs) (this : Nat)  {r0 : Int32} {h0 : Hp}  (x1 : Int32) (x2 : Int64) (x4 : Int64) (x6 : Int32) (h : Hp) (hf : f_M_join_42 this x1 x2 x4 x6 h = some (r0, h0)) : ZG p l e (zrm 5 0 0) s m args below meth c N0 D cs (some (.int r0)) h0 h 14 [(0, .ref this), (1, .int x1), (2, .long x2), (4, .long x4), (6, .int x6)] 42 [] := by
  intro H locs ls hH hS hl
  unfold f_M_join_42 at hf
  refine lv_aload_n M.x M.b d_M_join_42 rfl (lv_at hl 0 rfl) ?_
  replace hf := z_bind hf; obtain ⟨r14, e15, hf⟩ := hf
  refine z_get (ci := 8) (k := 25) M hH rfl (by decide) zinM q_709 (gA_spec e15) d_M_join_43 ?_
  refine lv_iload_n M.x M.b d_M_join_46 rfl (lv_at hl 1 rfl) ?_
  rcases r14 with _ | a16
  · exact absurd hf z_nb0
  replace hf := z_sb hf
  replace hf := z_bind hf; obtain ⟨i19, e18, hf⟩ := hf
  refine z_zald M hH e18 d_M_join_47 ?_
  refine lv_if_ne (tgt := 58) M.x M.b d_M_join_48 (by decide) (fun c52 => ?_) (fun c52 => ?_)
  · replace hf := z_f c52 hf
    refine lv_sipush (v := (-1003 : Int32)) M.x M.b d_M_join_58 rfl ?_
    obtain ⟨rfl, rfl⟩ := z_r2 hf
    exact z_iret M hH hS d_M_join_61
  · replace hf := z_t c52 hf
    refine lv_aload_n M.x M.b d_M_join_51 rfl (lv_at hl 0 rfl) ?_
    replace hf := z_bind hf; obtain ⟨i20, e21, hf⟩ := hf
    refine z_get (ci := 8) (k := 16) M hH rfl (by decide) zinM q_669 (gI_spec e21) d_M_join_52 ?_
    refine lv_if_eq (tgt := 62) M.x M.b d_M_join_55 (by decide) (fun c51 => ?_) (fun c51 => ?_)
    · replace hf := z_t c51 hf
      refine lv_iload M.x M.b d_M_join_62 (lv_at hl 4 rfl) ?_
      refine lv_bipush (v := (6 : Int32)) M.x M.b d_M_join_64 rfl ?_
      refine lv_icmp_ne (tgt := 86) M.x M.b d_M_join_66 (by decide) (fun c50 => ?_) (fun c50 => ?_)
      · replace hf := z_f c50 hf
        refine lv_lload M.x M.b d_M_join_86 (lv_at hl 3 rfl) ?_
        refine lv_aload_n M.x M.b d_M_join_88 rfl (lv_at hl 0 rfl) ?_
        replace hf := z_bind hf; obtain ⟨l22, e23, hf⟩ := hf
        refine z_get (ci := 8) (k := 15) M hH rfl (by decide) zinM q_667 (gL_spec e23) d_M_join_89 ?_
        replace hf := z_bind hf; obtain ⟨l25, e24, hf⟩ := hf
        refine zk_S (st1 := [.long l25]) M hH hS (c_M_gcd e24) w_M_gcd q_670 [] rfl ⟨Nat.le_of_ble_eq_true rfl, Nat.le_of_ble_eq_true rfl⟩ hl.1 rfl rfl (Nat.le_of_ble_eq_true rfl) d_M_join_92 (fun H locs hH hS => ?_)
        refine lv_lstore (lv' := [(7, .long l25), (0, .ref this), (1, .int x1), (2, .long x2), (4, .long x4), (6, .int x6)]) M.x M.b d_M_join_95 hl (by decide) rfl (fun ls hl => ?_)
        refine lv_aload_n M.x M.b d_M_join_97 rfl (lv_at hl 1 rfl) ?_
        replace hf := z_bind hf; obtain ⟨l26, e27, hf⟩ := hf
        refine z_get (ci := 8) (k := 15) M hH rfl (by decide) zinM q_667 (gL_spec e27) d_M_join_98 ?_
        refine lv_lload M.x M.b d_M_join_101 (lv_at hl 0 rfl) ?_
        replace hf := z_gn hf; obtain ⟨c42, hf⟩ := hf
        refine lv_ldiv M.x M.b d_M_join_103 c42 ?_
        refine lv_lstore (lv' := [(9, .long (l26 / l25)), (7, .long l25), (0, .ref this), (1, .int x1), (2, .long x2), (4, .long x4), (6, .int x6)]) M.x M.b d_M_join_104 hl (by decide) rfl (fun ls hl => ?_)
        refine lv_lload M.x M.b d_M_join_106 (lv_at hl 5 rfl) ?_
        refine lv_lload M.x M.b d_M_join_108 (lv_at hl 1 rfl) ?_
        replace hf := z_gn hf; obtain ⟨c41, hf⟩ := hf
        refine lv_ldiv M.x M.b d_M_join_110 c41 ?_
        refine lv_lstore (lv' := [(11, .long (x4 / l25)), (9, .long (l26 / l25)), (7, .long l25), (0, .ref this), (1, .int x1), (2, .long x2), (4, .long x4), (6, .int x6)]) M.x M.b d_M_join_111 hl (by decide) rfl (fun ls hl => ?_)
        refine lv_lload M.x M.b d_M_join_113 (lv_at hl 6 rfl) ?_
        refine z_ldc2 (v := (1000000000000000 : Int64)) M q_666 d_M_join_115 ?_
        refine lv_lload M.x M.b d_M_join_118 (lv_at hl 1 rfl) ?_
        replace hf := z_gn hf; obtain ⟨c40, hf⟩ := hf
        refine lv_ldiv M.x M.b d_M_join_120 c40 ?_
        refine z_lcmp_gt (tgt := 150) M d_M_join_121 d_M_join_122 (by decide) (fun c39 => ?_) (fun c39 => ?_)
        · replace hf := z_t c39 hf
          refine lv_sipush (v := (-1005 : Int32)) M.x M.b d_M_join_150 rfl ?_
          obtain ⟨rfl, rfl⟩ := z_r2 hf
          exact z_iret M hH hS d_M_join_153
        · replace hf := z_f c39 hf
          refine lv_lload_n M.x M.b d_M_join_125 rfl (lv_at hl 5 rfl) ?_
          refine z_ldc2 (v := (1000000000000000 : Int64)) M q_666 d_M_join_126 ?_
          refine lv_lload M.x M.b d_M_join_129 (lv_at hl 1 rfl) ?_
          replace hf := z_gn hf; obtain ⟨c38, hf⟩ := hf
          refine lv_ldiv M.x M.b d_M_join_131 c38 ?_
          refine z_lcmp_gt (tgt := 150) M d_M_join_132 d_M_join_133 (by decide) (fun c37 => ?_) (fun c37 => ?_)
          · replace hf := z_t c37 hf
            refine lv_sipush (v := (-1005 : Int32)) M.x M.b d_M_join_150 rfl ?_
            obtain ⟨rfl, rfl⟩ := z_r2 hf
            exact z_iret M hH hS d_M_join_153
          · replace hf := z_f c37 hf
            refine lv_aload_n M.x M.b d_M_join_136 rfl (lv_at hl 3 rfl) ?_
            replace hf := z_bind hf; obtain ⟨l28, e29, hf⟩ := hf
            refine z_get (ci := 8) (k := 14) M hH rfl (by decide) zinM q_668 (gL_spec e29) d_M_join_137 ?_
            refine z_ldc2 (v := (1000000000000000 : Int64)) M q_666 d_M_join_140 ?_
            refine lv_lload M.x M.b d_M_join_143 (lv_at hl 0 rfl) ?_
            replace hf := z_gn hf; obtain ⟨c36, hf⟩ := hf
            refine lv_ldiv M.x M.b d_M_join_145 c36 ?_
            refine z_lcmp_le (tgt := 154) M d_M_join_146 d_M_join_147 (by decide) (fun c35 => ?_) (fun c35 => ?_)
            · replace hf := z_t c35 hf
              refine lv_aload_n M.x M.b d_M_join_154 rfl (lv_at hl 3 rfl) ?_
              refine lv_lload_n M.x M.b d_M_join_155 rfl (lv_at hl 5 rfl) ?_
              refine lv_lload M.x M.b d_M_join_156 (lv_at hl 1 rfl) ?_
              refine lv_lmul M.x M.b d_M_join_158 ?_
              refine lv_aload_n M.x M.b d_M_join_159 rfl (lv_at hl 3 rfl) ?_
              replace hf := z_bind hf; obtain ⟨l30, e31, hf⟩ := hf
              refine z_get (ci := 8) (k := 14) M hH rfl (by decide) zinM q_668 (gL_spec e31) d_M_join_160 ?_
              refine lv_lload M.x M.b d_M_join_163 (lv_at hl 0 rfl) ?_
              refine lv_lmul M.x M.b d_M_join_165 ?_
              refine lv_ladd M.x M.b d_M_join_166 ?_
              refine lv_lload M.x M.b d_M_join_167 (lv_at hl 6 rfl) ?_
              refine lv_lload M.x M.b d_M_join_169 (lv_at hl 1 rfl) ?_
              refine lv_lmul M.x M.b d_M_join_171 ?_
              replace hf := z_bind2 hf; obtain ⟨i33, h34, e32, hf⟩ := hf
              refine zk_V (ci := 8) (st1 := [.int i33]) M hH hS (c_M_half e32) rfl (o_M_half e32) w_M_half q_710 [] rfl ⟨Nat.le_of_ble_eq_true rfl, Nat.le_of_ble_eq_true rfl⟩ hl.1 rfl rfl (Nat.le_of_ble_eq_true rfl) d_M_join_172 (fun H locs hH hS => ?_)
              obtain ⟨rfl, rfl⟩ := z_r2 hf
              exact z_iret M hH hS d_M_join_175
            · replace hf := z_f c35 hf
              refine lv_sipush (v := (-1005 : Int32)) M.x M.b d_M_join_150 rfl ?_
              obtain ⟨rfl, rfl⟩ := z_r2 hf
              exact z_iret M hH hS d_M_join_153
      · replace hf := z_t c50 hf
        refine lv_aload_n M.x M.b d_M_join_69 rfl (lv_at hl 0 rfl) ?_
        refine lv_lload_n M.x M.b d_M_join_70 rfl (lv_at hl 2 rfl) ?_
        refine lv_lload M.x M.b d_M_join_71 (lv_at hl 3 rfl) ?_
        refine lv_aload_n M.x M.b d_M_join_73 rfl (lv_at hl 0 rfl) ?_
        replace hf := z_bind hf; obtain ⟨l43, e44, hf⟩ := hf
        refine z_get (ci := 8) (k := 14) M hH rfl (by decide) zinM q_668 (gL_spec e44) d_M_join_74 ?_
        refine lv_aload_n M.x M.b d_M_join_77 rfl (lv_at hl 0 rfl) ?_
        replace hf := z_bind hf; obtain ⟨l45, e46, hf⟩ := hf
        refine z_get (ci := 8) (k := 15) M hH rfl (by decide) zinM q_667 (gL_spec e46) d_M_join_78 ?_
        refine lv_iconst (v := (1 : Int32)) M.x M.b d_M_join_81 rfl ?_
        replace hf := z_bind2 hf; obtain ⟨i48, h49, e47, hf⟩ := hf
        refine zk_V (ci := 8) (st1 := [.int i48]) M hH hS (c_M_multiply e47) rfl (o_M_multiply e47) w_M_multiply q_682 [] rfl ⟨Nat.le_of_ble_eq_true rfl, Nat.le_of_ble_eq_true rfl⟩ hl.1 rfl rfl (Nat.le_of_ble_eq_true rfl) d_M_join_82 (fun H locs hH hS => ?_)
        obtain ⟨rfl, rfl⟩ := z_r2 hf
        exact z_iret M hH hS d_M_join_85
    · replace hf := z_f c51 hf
      refine lv_sipush (v := (-1003 : Int32)) M.x M.b d_M_join_58 rfl ?_
      obtain ⟨rfl, rfl⟩ := z_r2 hf
      exact z_iret M hH hS d_M_join_61
def f_M_join (this : Nat) (x1 : Int32) (h : Hp) : Option ((Int32 × Hp)) :=
  if isO h this 8 = true then
  (gA h this 8 23).bind fun r53 =>
  (r53).bind fun a55 =>
  (aL h a55 x1).bind fun l58 =>
  (gA h this 8 24).bind fun r59 =>
  (r59).bind fun a61 =>
  (aL h a61 x1).bind fun l64 =>
  (gA h this 8 3).bind fun r65 =>
  (gA h this 8 18).bind fun r67 =>
  (r67).bind fun a69 =>
  (aI h 0 a69 x1).bind fun i72 =>
  (r65).bind fun a73 =>
  (aI h 0 a73 i72).bind fun i76 =>
  if i76 = (6 : Int32) then
    f_M_join_42 this x1 l58 l64 i76 h
  else
  if i76 = (7 : Int32) then
    f_M_join_42 this x1 l58 l64 i76 h
  else
  (gL h this 8 14).bind fun l77 =>
  (gL h this 8 15).bind fun l79 =>
  (gI h this 8 16).bind fun i81 =>
  (gA h this 8 25).bind fun r83 =>
  (r83).bind fun a85 =>
  (aI h 2 a85 x1).bind fun i88 =>
  zb2 (f_M_orderOf this l58 l64 i88 l77 l79 i81 h) fun i90 h91 =>
  if 0 ≤ i90 then
    if i76 = (8 : Int32) then
      (gI h91 this 8 17).bind fun i95 =>
      if 0 < i95 then
        f_M_join_257 this (0 : Int32) x1 l58 l64 l77 l79 i81 h91
      else
      f_M_join_257 this (1 : Int32) x1 l58 l64 l77 l79 i81 h91
    else
    (gI h91 this 8 17).bind fun i92 =>
    if i92 < 0 then
      f_M_join_257 this (0 : Int32) x1 l58 l64 l77 l79 i81 h91
    else
    f_M_join_257 this (1 : Int32) x1 l58 l64 l77 l79 i81 h91
  else
  some (i90, h91)
  else none
theorem o_M_join {this : Nat} {x1 : Int32} {h : Hp} {r0 : Int32} {h0 : Hp} (hf : f_M_join this x1 h = some (r0, h0)) : isO h this 8 = true := by
  unfold f_M_join at hf
  exact (z_gd hf).1
set_option maxRecDepth 100000 in
set_option maxHeartbeats 4000000 in
theorem c_M_join {l : Launch} {N0 : Nat} {D : va_G} {cs : Nat → ClassId} {this : Nat} {x1 : Int32} {h : Hp} {r0 : Int32} {h0 : Hp} (hf : f_M_join this x1 h = some (r0, h0)) : Fn l N0 D cs y_M_join b_M_join 14 (some .int) 5 0 0 [.ref this, .int x1] h (some (.int r0)) h0 := by
  refine z_start (by decide) (Nat.le_of_ble_eq_true rfl) ?_
  intro p e s m args below meth c M hH hS ls hl
  unfold f_M_join at hf
  obtain ⟨hO, hf⟩ := z_gd hf
  have hl : lv_has ls 14 [(0, .ref this), (1, .int x1)] := hl
  obtain ⟨H, hHe⟩ : ∃ H, H = s.heap := ⟨_, rfl⟩
  obtain ⟨locs, hLe⟩ : ∃ locs : List Loc, locs = [] := ⟨_, rfl⟩
  have hS : va_S (zA N0) s.heap H locs := by rw [hHe, hLe]; exact hS
  have hH : HH N0 D cs h H := by rw [hHe]; exact hH
  suffices hg : W p l e (zrm 5 0 0) s m args below meth c H locs 0 0 (MQ below (zQ N0 D cs (some (.int r0)) h0) args s 0 0 (zA N0)) (F0 m 0 ls []) by rw [hHe, hLe] at hg; exact hg
  clear hHe hLe
  refine lv_aload_n M.x M.b d_M_join_0 rfl (lv_at hl 0 rfl) ?_
  replace hf := z_bind hf; obtain ⟨r53, e54, hf⟩ := hf
  refine z_get (ci := 8) (k := 23) M hH rfl (by decide) zinM q_713 (gA_spec e54) d_M_join_1 ?_
  refine lv_iload_n M.x M.b d_M_join_4 rfl (lv_at hl 1 rfl) ?_
  rcases r53 with _ | a55
  · exact absurd hf z_nb0
  replace hf := z_sb hf
  replace hf := z_bind hf; obtain ⟨l58, e57, hf⟩ := hf
  refine z_lald M hH e57 d_M_join_5 ?_
  refine lv_lstore_n (lv' := [(2, .long l58), (0, .ref this), (1, .int x1)]) M.x M.b d_M_join_6 rfl hl (by decide) rfl (fun ls hl => ?_)
  refine lv_aload_n M.x M.b d_M_join_7 rfl (lv_at hl 1 rfl) ?_
  replace hf := z_bind hf; obtain ⟨r59, e60, hf⟩ := hf
  refine z_get (ci := 8) (k := 24) M hH rfl (by decide) zinM q_712 (gA_spec e60) d_M_join_8 ?_
  refine lv_iload_n M.x M.b d_M_join_11 rfl (lv_at hl 2 rfl) ?_
  rcases r59 with _ | a61
  · exact absurd hf z_nb0
  replace hf := z_sb hf
  replace hf := z_bind hf; obtain ⟨l64, e63, hf⟩ := hf
  refine z_lald M hH e63 d_M_join_12 ?_
  refine lv_lstore (lv' := [(4, .long l64), (2, .long l58), (0, .ref this), (1, .int x1)]) M.x M.b d_M_join_13 hl (by decide) rfl (fun ls hl => ?_)
  refine lv_aload_n M.x M.b d_M_join_15 rfl (lv_at hl 2 rfl) ?_
  replace hf := z_bind hf; obtain ⟨r65, e66, hf⟩ := hf
  refine z_get (ci := 8) (k := 3) M hH rfl (by decide) zinM q_647 (gA_spec e66) d_M_join_16 ?_
  refine lv_aload_n M.x M.b d_M_join_19 rfl (lv_at hl 2 rfl) ?_
  replace hf := z_bind hf; obtain ⟨r67, e68, hf⟩ := hf
  refine z_get (ci := 8) (k := 18) M hH rfl (by decide) zinM q_691 (gA_spec e68) d_M_join_20 ?_
  refine lv_iload_n M.x M.b d_M_join_23 rfl (lv_at hl 3 rfl) ?_
  rcases r67 with _ | a69
  · exact absurd hf z_nb0
  replace hf := z_sb hf
  replace hf := z_bind hf; obtain ⟨i72, e71, hf⟩ := hf
  refine z_iald M hH e71 d_M_join_24 ?_
  rcases r65 with _ | a73
  · exact absurd hf z_nb0
  replace hf := z_sb hf
  replace hf := z_bind hf; obtain ⟨i76, e75, hf⟩ := hf
  refine z_iald M hH e75 d_M_join_25 ?_
  refine lv_istore (lv' := [(6, .int i76), (4, .long l64), (2, .long l58), (0, .ref this), (1, .int x1)]) M.x M.b d_M_join_26 hl (by decide) rfl (fun ls hl => ?_)
  refine lv_iload M.x M.b d_M_join_28 (lv_at hl 0 rfl) ?_
  refine lv_bipush (v := (6 : Int32)) M.x M.b d_M_join_30 rfl ?_
  refine lv_icmp_eq (tgt := 42) M.x M.b d_M_join_32 (by decide) (fun c101 => ?_) (fun c101 => ?_)
  · replace hf := z_t c101 hf
    exact w_M_join_42 M this _ _ _ _ _ hf H locs ls hH hS (lv_sub hl [3, 4, 2, 1, 0] rfl)
  · replace hf := z_f c101 hf
    refine lv_iload M.x M.b d_M_join_35 (lv_at hl 0 rfl) ?_
    refine lv_bipush (v := (7 : Int32)) M.x M.b d_M_join_37 rfl ?_
    refine lv_icmp_ne (tgt := 176) M.x M.b d_M_join_39 (by decide) (fun c100 => ?_) (fun c100 => ?_)
    · replace hf := z_f c100 hf
      refine lv_aload_n M.x M.b d_M_join_176 rfl (lv_at hl 3 rfl) ?_
      replace hf := z_bind hf; obtain ⟨l77, e78, hf⟩ := hf
      refine z_get (ci := 8) (k := 14) M hH rfl (by decide) zinM q_668 (gL_spec e78) d_M_join_177 ?_
      refine lv_lstore (lv' := [(7, .long l77), (6, .int i76), (4, .long l64), (2, .long l58), (0, .ref this), (1, .int x1)]) M.x M.b d_M_join_180 hl (by decide) rfl (fun ls hl => ?_)
      refine lv_aload_n M.x M.b d_M_join_182 rfl (lv_at hl 4 rfl) ?_
      replace hf := z_bind hf; obtain ⟨l79, e80, hf⟩ := hf
      refine z_get (ci := 8) (k := 15) M hH rfl (by decide) zinM q_667 (gL_spec e80) d_M_join_183 ?_
      refine lv_lstore (lv' := [(9, .long l79), (7, .long l77), (6, .int i76), (4, .long l64), (2, .long l58), (0, .ref this), (1, .int x1)]) M.x M.b d_M_join_186 hl (by decide) rfl (fun ls hl => ?_)
      refine lv_aload_n M.x M.b d_M_join_188 rfl (lv_at hl 5 rfl) ?_
      replace hf := z_bind hf; obtain ⟨i81, e82, hf⟩ := hf
      refine z_get (ci := 8) (k := 16) M hH rfl (by decide) zinM q_669 (gI_spec e82) d_M_join_189 ?_
      refine lv_istore (lv' := [(11, .int i81), (9, .long l79), (7, .long l77), (6, .int i76), (4, .long l64), (2, .long l58), (0, .ref this), (1, .int x1)]) M.x M.b d_M_join_192 hl (by decide) rfl (fun ls hl => ?_)
      refine lv_aload_n M.x M.b d_M_join_194 rfl (lv_at hl 6 rfl) ?_
      refine lv_lload_n M.x M.b d_M_join_195 rfl (lv_at hl 5 rfl) ?_
      refine lv_lload M.x M.b d_M_join_196 (lv_at hl 4 rfl) ?_
      refine lv_aload_n M.x M.b d_M_join_198 rfl (lv_at hl 6 rfl) ?_
      replace hf := z_bind hf; obtain ⟨r83, e84, hf⟩ := hf
      refine z_get (ci := 8) (k := 25) M hH rfl (by decide) zinM q_709 (gA_spec e84) d_M_join_199 ?_
      refine lv_iload_n M.x M.b d_M_join_202 rfl (lv_at hl 7 rfl) ?_
      rcases r83 with _ | a85
      · exact absurd hf z_nb0
      replace hf := z_sb hf
      replace hf := z_bind hf; obtain ⟨i88, e87, hf⟩ := hf
      refine z_zald M hH e87 d_M_join_203 ?_
      refine lv_lload M.x M.b d_M_join_204 (lv_at hl 2 rfl) ?_
      refine lv_lload M.x M.b d_M_join_206 (lv_at hl 1 rfl) ?_
      refine lv_iload M.x M.b d_M_join_208 (lv_at hl 0 rfl) ?_
      replace hf := z_bind2 hf; obtain ⟨i90, h91, e89, hf⟩ := hf
      refine zk_V (ci := 8) (st1 := [.int i90]) M hH hS (c_M_orderOf e89) rfl (o_M_orderOf e89) w_M_orderOf q_711 [] rfl ⟨Nat.le_of_ble_eq_true rfl, Nat.le_of_ble_eq_true rfl⟩ hl.1 rfl rfl (Nat.le_of_ble_eq_true rfl) d_M_join_210 (fun H locs hH hS => ?_)
      refine lv_istore (lv' := [(12, .int i90), (11, .int i81), (9, .long l79), (7, .long l77), (6, .int i76), (4, .long l64), (2, .long l58), (0, .ref this), (1, .int x1)]) M.x M.b d_M_join_213 hl (by decide) rfl (fun ls hl => ?_)
      refine lv_iload M.x M.b d_M_join_215 (lv_at hl 0 rfl) ?_
      refine lv_if_ge (tgt := 223) M.x M.b d_M_join_217 (by decide) (fun c99 => ?_) (fun c99 => ?_)
      · replace hf := z_t c99 hf
        refine lv_iload M.x M.b d_M_join_223 (lv_at hl 4 rfl) ?_
        refine lv_bipush (v := (8 : Int32)) M.x M.b d_M_join_225 rfl ?_
        refine lv_icmp_ne (tgt := 245) M.x M.b d_M_join_227 (by decide) (fun c98 => ?_) (fun c98 => ?_)
        · replace hf := z_f c98 hf
          refine lv_aload_n M.x M.b d_M_join_245 rfl (lv_at hl 7 rfl) ?_
          replace hf := z_bind hf; obtain ⟨i92, e93, hf⟩ := hf
          refine z_get (ci := 8) (k := 17) M hH rfl (by decide) zinM q_680 (gI_spec e93) d_M_join_246 ?_
          refine lv_if_lt (tgt := 256) M.x M.b d_M_join_249 (by decide) (fun c94 => ?_) (fun c94 => ?_)
          · replace hf := z_t c94 hf
            refine lv_iconst (v := (0 : Int32)) M.x M.b d_M_join_256 rfl ?_
            exact w_M_join_257 M this _ _ _ _ _ _ _ _ hf H locs ls hH hS (lv_sub hl [7, 8, 6, 5, 3, 2, 1] rfl)
          · replace hf := z_f c94 hf
            refine lv_iconst (v := (1 : Int32)) M.x M.b d_M_join_252 rfl ?_
            refine lv_goto (tgt := 257) M.x M.b d_M_join_253 (by decide) ?_
            exact w_M_join_257 M this _ _ _ _ _ _ _ _ hf H locs ls hH hS (lv_sub hl [7, 8, 6, 5, 3, 2, 1] rfl)
        · replace hf := z_t c98 hf
          refine lv_aload_n M.x M.b d_M_join_230 rfl (lv_at hl 7 rfl) ?_
          replace hf := z_bind hf; obtain ⟨i95, e96, hf⟩ := hf
          refine z_get (ci := 8) (k := 17) M hH rfl (by decide) zinM q_680 (gI_spec e96) d_M_join_231 ?_
          refine lv_if_gt (tgt := 241) M.x M.b d_M_join_234 (by decide) (fun c97 => ?_) (fun c97 => ?_)
          · replace hf := z_t c97 hf
            refine lv_iconst (v := (0 : Int32)) M.x M.b d_M_join_241 rfl ?_
            refine lv_goto (tgt := 257) M.x M.b d_M_join_242 (by decide) ?_
            exact w_M_join_257 M this _ _ _ _ _ _ _ _ hf H locs ls hH hS (lv_sub hl [7, 8, 6, 5, 3, 2, 1] rfl)
          · replace hf := z_f c97 hf
            refine lv_iconst (v := (1 : Int32)) M.x M.b d_M_join_237 rfl ?_
            refine lv_goto (tgt := 257) M.x M.b d_M_join_238 (by decide) ?_
            exact w_M_join_257 M this _ _ _ _ _ _ _ _ hf H locs ls hH hS (lv_sub hl [7, 8, 6, 5, 3, 2, 1] rfl)
      · replace hf := z_f c99 hf
        refine lv_iload M.x M.b d_M_join_220 (lv_at hl 0 rfl) ?_
        obtain ⟨rfl, rfl⟩ := z_r2 hf
        exact z_iret M hH hS d_M_join_222
    · replace hf := z_t c100 hf
      exact w_M_join_42 M this _ _ _ _ _ hf H locs ls hH hS (lv_sub hl [3, 4, 2, 1, 0] rfl)
def f_M_hold (this : Nat) (x1 : Int32) (h : Hp) : Option (Hp) :=
  if isO h this 8 = true then
  (gA h this 8 23).bind fun r1 =>
  (gL h this 8 14).bind fun l3 =>
  (r1).bind fun a5 =>
  (sL h a5 x1 l3).bind fun h8 =>
  (gA h8 this 8 24).bind fun r9 =>
  (gL h8 this 8 15).bind fun l11 =>
  (r9).bind fun a13 =>
  (sL h8 a13 x1 l11).bind fun h16 =>
  (gA h16 this 8 25).bind fun r17 =>
  (gI h16 this 8 16).bind fun i19 =>
  (r17).bind fun a21 =>
  (sZ h16 a21 x1 i19).bind fun h24 =>
  some h24
  else none
theorem o_M_hold {this : Nat} {x1 : Int32} {h : Hp} {h0 : Hp} (hf : f_M_hold this x1 h = some h0) : isO h this 8 = true := by
  unfold f_M_hold at hf
  exact (z_gd hf).1
set_option maxRecDepth 100000 in
set_option maxHeartbeats 4000000 in
theorem c_M_hold {l : Launch} {N0 : Nat} {D : va_G} {cs : Nat → ClassId} {this : Nat} {x1 : Int32} {h : Hp} {h0 : Hp} (hf : f_M_hold this x1 h = some h0) : Fn l N0 D cs y_M_hold b_M_hold 2 (none) 1 0 0 [.ref this, .int x1] h none h0 := by
  refine z_start (by decide) (Nat.le_of_ble_eq_true rfl) ?_
  intro p e s m args below meth c M hH hS ls hl
  unfold f_M_hold at hf
  obtain ⟨hO, hf⟩ := z_gd hf
  have hl : lv_has ls 2 [(0, .ref this), (1, .int x1)] := hl
  obtain ⟨H, hHe⟩ : ∃ H, H = s.heap := ⟨_, rfl⟩
  obtain ⟨locs, hLe⟩ : ∃ locs : List Loc, locs = [] := ⟨_, rfl⟩
  have hS : va_S (zA N0) s.heap H locs := by rw [hHe, hLe]; exact hS
  have hH : HH N0 D cs h H := by rw [hHe]; exact hH
  suffices hg : W p l e (zrm 1 0 0) s m args below meth c H locs 0 0 (MQ below (zQ N0 D cs none h0) args s 0 0 (zA N0)) (F0 m 0 ls []) by rw [hHe, hLe] at hg; exact hg
  clear hHe hLe
  refine lv_aload_n M.x M.b d_M_hold_0 rfl (lv_at hl 0 rfl) ?_
  replace hf := z_bind hf; obtain ⟨r1, e2, hf⟩ := hf
  refine z_get (ci := 8) (k := 23) M hH rfl (by decide) zinM q_713 (gA_spec e2) d_M_hold_1 ?_
  refine lv_iload_n M.x M.b d_M_hold_4 rfl (lv_at hl 1 rfl) ?_
  refine lv_aload_n M.x M.b d_M_hold_5 rfl (lv_at hl 0 rfl) ?_
  replace hf := z_bind hf; obtain ⟨l3, e4, hf⟩ := hf
  refine z_get (ci := 8) (k := 14) M hH rfl (by decide) zinM q_668 (gL_spec e4) d_M_hold_6 ?_
  rcases r1 with _ | a5
  · exact absurd hf z_nb0
  replace hf := z_sb hf
  replace hf := z_bind hf; obtain ⟨h8, e7, hf⟩ := hf
  refine z_last M hH hS e7 d_M_hold_9 (fun H locs hH hS => ?_)
  refine lv_aload_n M.x M.b d_M_hold_10 rfl (lv_at hl 0 rfl) ?_
  replace hf := z_bind hf; obtain ⟨r9, e10, hf⟩ := hf
  refine z_get (ci := 8) (k := 24) M hH rfl (by decide) zinM q_712 (gA_spec e10) d_M_hold_11 ?_
  refine lv_iload_n M.x M.b d_M_hold_14 rfl (lv_at hl 1 rfl) ?_
  refine lv_aload_n M.x M.b d_M_hold_15 rfl (lv_at hl 0 rfl) ?_
  replace hf := z_bind hf; obtain ⟨l11, e12, hf⟩ := hf
  refine z_get (ci := 8) (k := 15) M hH rfl (by decide) zinM q_667 (gL_spec e12) d_M_hold_16 ?_
  rcases r9 with _ | a13
  · exact absurd hf z_nb0
  replace hf := z_sb hf
  replace hf := z_bind hf; obtain ⟨h16, e15, hf⟩ := hf
  refine z_last M hH hS e15 d_M_hold_19 (fun H locs hH hS => ?_)
  refine lv_aload_n M.x M.b d_M_hold_20 rfl (lv_at hl 0 rfl) ?_
  replace hf := z_bind hf; obtain ⟨r17, e18, hf⟩ := hf
  refine z_get (ci := 8) (k := 25) M hH rfl (by decide) zinM q_709 (gA_spec e18) d_M_hold_21 ?_
  refine lv_iload_n M.x M.b d_M_hold_24 rfl (lv_at hl 1 rfl) ?_
  refine lv_aload_n M.x M.b d_M_hold_25 rfl (lv_at hl 0 rfl) ?_
  replace hf := z_bind hf; obtain ⟨i19, e20, hf⟩ := hf
  refine z_get (ci := 8) (k := 16) M hH rfl (by decide) zinM q_669 (gI_spec e20) d_M_hold_26 ?_
  rcases r17 with _ | a21
  · exact absurd hf z_nb0
  replace hf := z_sb hf
  replace hf := z_bind hf; obtain ⟨h24, e23, hf⟩ := hf
  refine z_zast M hH hS e23 d_M_hold_29 (fun H locs hH hS => ?_)
  obtain rfl := z_r1 hf
  exact z_vret M hH hS d_M_hold_30
def f_M_chain_54 (this : Nat) (s0 : Int32) (x1 : Int32) (h : Hp) : Option ((Int32 × Hp)) :=
  (f_M_hold this x1 h).bind fun h2 =>
  (gA h2 this 8 22).bind fun r3 =>
  (r3).bind fun a5 =>
  (aI h2 0 a5 x1).bind fun i8 =>
  (gA h2 this 8 20).bind fun r9 =>
  (r9).bind fun a11 =>
  (aI h2 0 a11 x1).bind fun i14 =>
  (gA h2 this 8 22).bind fun r15 =>
  (r15).bind fun a17 =>
  (aI h2 0 a17 x1).bind fun i20 =>
  if i14 ≤ i20 then
    (sI h2 a5 x1 (i8 + (-1 : Int32))).bind fun h22 =>
    some (s0, h22)
  else
  (sI h2 a5 x1 (i8 + (1 : Int32))).bind fun h24 =>
  some (s0, h24)
set_option maxRecDepth 100000 in
set_option maxHeartbeats 4000000 in
theorem w_M_chain_54 {p : Program} {l : Launch} {e : Env} {s : State} {m : MethodId} {args : Array Value} {below : List Frame} {meth : Method} {c : Code} {N0 : Nat} {D : va_G} {cs : Nat → ClassId} (M : ZC p s m args meth c "YearBasketsModel" "chain" b_M_chain 5 (some .int) N0 D cs) (this : Nat)  {r0 : Int32} {h0 : Hp}  (s0 : Int32) (x1 : Int32) (h : Hp) (hf : f_M_chain_54 this s0 x1 h = some (r0, h0)) : ZG p l e (zrm 4 0 0) s m args below meth c N0 D cs (some (.int r0)) h0 h 5 [(0, .ref this), (1, .int x1)] 54 [.int s0] := by
  intro H locs ls hH hS hl
  unfold f_M_chain_54 at hf
  refine lv_istore (lv' := [(4, .int s0), (0, .ref this), (1, .int x1)]) M.x M.b d_M_chain_54 hl (by decide) rfl (fun ls hl => ?_)
  refine lv_aload_n M.x M.b d_M_chain_56 rfl (lv_at hl 1 rfl) ?_
  refine lv_iload_n M.x M.b d_M_chain_57 rfl (lv_at hl 2 rfl) ?_
  replace hf := z_bind hf; obtain ⟨h2, e1, hf⟩ := hf
  refine zk_V (ci := 8) (st1 := []) M hH hS (c_M_hold e1) rfl (o_M_hold e1) w_M_hold q_720 [] rfl ⟨Nat.le_of_ble_eq_true rfl, Nat.le_of_ble_eq_true rfl⟩ hl.1 rfl rfl (Nat.le_of_ble_eq_true rfl) d_M_chain_58 (fun H locs hH hS => ?_)
  refine lv_aload_n M.x M.b d_M_chain_61 rfl (lv_at hl 1 rfl) ?_
  replace hf := z_bind hf; obtain ⟨r3, e4, hf⟩ := hf
  refine z_get (ci := 8) (k := 22) M hH rfl (by decide) zinM q_687 (gA_spec e4) d_M_chain_62 ?_
  refine lv_iload_n M.x M.b d_M_chain_65 rfl (lv_at hl 2 rfl) ?_
  rcases r3 with _ | a5
  · exact absurd hf z_nb0
  replace hf := z_sb hf
  refine lv_dup2_11 M.x M.b d_M_chain_66 rfl rfl ?_
  replace hf := z_bind hf; obtain ⟨i8, e7, hf⟩ := hf
  refine z_iald M hH e7 d_M_chain_67 ?_
  refine lv_aload_n M.x M.b d_M_chain_68 rfl (lv_at hl 1 rfl) ?_
  replace hf := z_bind hf; obtain ⟨r9, e10, hf⟩ := hf
  refine z_get (ci := 8) (k := 20) M hH rfl (by decide) zinM q_689 (gA_spec e10) d_M_chain_69 ?_
  refine lv_iload_n M.x M.b d_M_chain_72 rfl (lv_at hl 2 rfl) ?_
  rcases r9 with _ | a11
  · exact absurd hf z_nb0
  replace hf := z_sb hf
  replace hf := z_bind hf; obtain ⟨i14, e13, hf⟩ := hf
  refine z_iald M hH e13 d_M_chain_73 ?_
  refine lv_aload_n M.x M.b d_M_chain_74 rfl (lv_at hl 1 rfl) ?_
  replace hf := z_bind hf; obtain ⟨r15, e16, hf⟩ := hf
  refine z_get (ci := 8) (k := 22) M hH rfl (by decide) zinM q_687 (gA_spec e16) d_M_chain_75 ?_
  refine lv_iload_n M.x M.b d_M_chain_78 rfl (lv_at hl 2 rfl) ?_
  rcases r15 with _ | a17
  · exact absurd hf z_nb0
  replace hf := z_sb hf
  replace hf := z_bind hf; obtain ⟨i20, e19, hf⟩ := hf
  refine z_iald M hH e19 d_M_chain_79 ?_
  refine lv_icmp_le (tgt := 87) M.x M.b d_M_chain_80 (by decide) (fun c25 => ?_) (fun c25 => ?_)
  · replace hf := z_t c25 hf
    refine lv_iconst (v := (-1 : Int32)) M.x M.b d_M_chain_87 rfl ?_
    refine lv_iadd M.x M.b d_M_chain_88 ?_
    replace hf := z_bind hf; obtain ⟨h22, e21, hf⟩ := hf
    refine z_iast M hH hS e21 d_M_chain_89 (fun H locs hH hS => ?_)
    refine lv_iload M.x M.b d_M_chain_90 (lv_at hl 0 rfl) ?_
    obtain ⟨rfl, rfl⟩ := z_r2 hf
    exact z_iret M hH hS d_M_chain_92
  · replace hf := z_f c25 hf
    refine lv_iconst (v := (1 : Int32)) M.x M.b d_M_chain_83 rfl ?_
    refine lv_goto (tgt := 88) M.x M.b d_M_chain_84 (by decide) ?_
    refine lv_iadd M.x M.b d_M_chain_88 ?_
    replace hf := z_bind hf; obtain ⟨h24, e23, hf⟩ := hf
    refine z_iast M hH hS e23 d_M_chain_89 (fun H locs hH hS => ?_)
    refine lv_iload M.x M.b d_M_chain_90 (lv_at hl 0 rfl) ?_
    obtain ⟨rfl, rfl⟩ := z_r2 hf
    exact z_iret M hH hS d_M_chain_92
def f_M_chain (this : Nat) (x1 : Int32) (x2 : Int32) (h : Hp) : Option ((Int32 × Hp)) :=
  if isO h this 8 = true then
  (gI h this 8 16).bind fun i26 =>
  if x2 = 0 then
    (gA h this 8 25).bind fun r28 =>
    (r28).bind fun a30 =>
    (aI h 2 a30 x1).bind fun i33 =>
    if i26 = i33 then
      (gA h this 8 23).bind fun r34 =>
      (r34).bind fun a36 =>
      (aL h a36 x1).bind fun l39 =>
      (gA h this 8 24).bind fun r40 =>
      (r40).bind fun a42 =>
      (aL h a42 x1).bind fun l45 =>
      (gL h this 8 14).bind fun l46 =>
      (gL h this 8 15).bind fun l48 =>
      zb2 (f_M_multiply this l39 l45 l46 l48 i26 h) fun i51 h52 =>
      f_M_chain_54 this i51 x1 h52
    else
    f_M_chain_54 this (-1003 : Int32) x1 h
  else
  f_M_chain_54 this (0 : Int32) x1 h
  else none
theorem o_M_chain {this : Nat} {x1 : Int32} {x2 : Int32} {h : Hp} {r0 : Int32} {h0 : Hp} (hf : f_M_chain this x1 x2 h = some (r0, h0)) : isO h this 8 = true := by
  unfold f_M_chain at hf
  exact (z_gd hf).1
set_option maxRecDepth 100000 in
set_option maxHeartbeats 4000000 in
theorem c_M_chain {l : Launch} {N0 : Nat} {D : va_G} {cs : Nat → ClassId} {this : Nat} {x1 : Int32} {x2 : Int32} {h : Hp} {r0 : Int32} {h0 : Hp} (hf : f_M_chain this x1 x2 h = some (r0, h0)) : Fn l N0 D cs y_M_chain b_M_chain 5 (some .int) 4 0 0 [.ref this, .int x1, .int x2] h (some (.int r0)) h0 := by
  refine z_start (by decide) (Nat.le_of_ble_eq_true rfl) ?_
  intro p e s m args below meth c M hH hS ls hl
  unfold f_M_chain at hf
  obtain ⟨hO, hf⟩ := z_gd hf
  have hl : lv_has ls 5 [(0, .ref this), (1, .int x1), (2, .int x2)] := hl
  obtain ⟨H, hHe⟩ : ∃ H, H = s.heap := ⟨_, rfl⟩
  obtain ⟨locs, hLe⟩ : ∃ locs : List Loc, locs = [] := ⟨_, rfl⟩
  have hS : va_S (zA N0) s.heap H locs := by rw [hHe, hLe]; exact hS
  have hH : HH N0 D cs h H := by rw [hHe]; exact hH
  suffices hg : W p l e (zrm 4 0 0) s m args below meth c H locs 0 0 (MQ below (zQ N0 D cs (some (.int r0)) h0) args s 0 0 (zA N0)) (F0 m 0 ls []) by rw [hHe, hLe] at hg; exact hg
  clear hHe hLe
  refine lv_aload_n M.x M.b d_M_chain_0 rfl (lv_at hl 0 rfl) ?_
  replace hf := z_bind hf; obtain ⟨i26, e27, hf⟩ := hf
  refine z_get (ci := 8) (k := 16) M hH rfl (by decide) zinM q_669 (gI_spec e27) d_M_chain_1 ?_
  refine lv_istore_n (lv' := [(3, .int i26), (0, .ref this), (1, .int x1), (2, .int x2)]) M.x M.b d_M_chain_4 rfl hl (by decide) rfl (fun ls hl => ?_)
  refine lv_iload_n M.x M.b d_M_chain_5 rfl (lv_at hl 3 rfl) ?_
  refine lv_if_eq (tgt := 13) M.x M.b d_M_chain_6 (by decide) (fun c54 => ?_) (fun c54 => ?_)
  · replace hf := z_t c54 hf
    refine lv_iload_n M.x M.b d_M_chain_13 rfl (lv_at hl 0 rfl) ?_
    refine lv_aload_n M.x M.b d_M_chain_14 rfl (lv_at hl 1 rfl) ?_
    replace hf := z_bind hf; obtain ⟨r28, e29, hf⟩ := hf
    refine z_get (ci := 8) (k := 25) M hH rfl (by decide) zinM q_709 (gA_spec e29) d_M_chain_15 ?_
    refine lv_iload_n M.x M.b d_M_chain_18 rfl (lv_at hl 2 rfl) ?_
    rcases r28 with _ | a30
    · exact absurd hf z_nb0
    replace hf := z_sb hf
    replace hf := z_bind hf; obtain ⟨i33, e32, hf⟩ := hf
    refine z_zald M hH e32 d_M_chain_19 ?_
    refine lv_icmp_eq (tgt := 29) M.x M.b d_M_chain_20 (by decide) (fun c53 => ?_) (fun c53 => ?_)
    · replace hf := z_t c53 hf
      refine lv_aload_n M.x M.b d_M_chain_29 rfl (lv_at hl 1 rfl) ?_
      refine lv_aload_n M.x M.b d_M_chain_30 rfl (lv_at hl 1 rfl) ?_
      replace hf := z_bind hf; obtain ⟨r34, e35, hf⟩ := hf
      refine z_get (ci := 8) (k := 23) M hH rfl (by decide) zinM q_713 (gA_spec e35) d_M_chain_31 ?_
      refine lv_iload_n M.x M.b d_M_chain_34 rfl (lv_at hl 2 rfl) ?_
      rcases r34 with _ | a36
      · exact absurd hf z_nb0
      replace hf := z_sb hf
      replace hf := z_bind hf; obtain ⟨l39, e38, hf⟩ := hf
      refine z_lald M hH e38 d_M_chain_35 ?_
      refine lv_aload_n M.x M.b d_M_chain_36 rfl (lv_at hl 1 rfl) ?_
      replace hf := z_bind hf; obtain ⟨r40, e41, hf⟩ := hf
      refine z_get (ci := 8) (k := 24) M hH rfl (by decide) zinM q_712 (gA_spec e41) d_M_chain_37 ?_
      refine lv_iload_n M.x M.b d_M_chain_40 rfl (lv_at hl 2 rfl) ?_
      rcases r40 with _ | a42
      · exact absurd hf z_nb0
      replace hf := z_sb hf
      replace hf := z_bind hf; obtain ⟨l45, e44, hf⟩ := hf
      refine z_lald M hH e44 d_M_chain_41 ?_
      refine lv_aload_n M.x M.b d_M_chain_42 rfl (lv_at hl 1 rfl) ?_
      replace hf := z_bind hf; obtain ⟨l46, e47, hf⟩ := hf
      refine z_get (ci := 8) (k := 14) M hH rfl (by decide) zinM q_668 (gL_spec e47) d_M_chain_43 ?_
      refine lv_aload_n M.x M.b d_M_chain_46 rfl (lv_at hl 1 rfl) ?_
      replace hf := z_bind hf; obtain ⟨l48, e49, hf⟩ := hf
      refine z_get (ci := 8) (k := 15) M hH rfl (by decide) zinM q_667 (gL_spec e49) d_M_chain_47 ?_
      refine lv_iload_n M.x M.b d_M_chain_50 rfl (lv_at hl 0 rfl) ?_
      replace hf := z_bind2 hf; obtain ⟨i51, h52, e50, hf⟩ := hf
      refine zk_V (ci := 8) (st1 := [.int i51]) M hH hS (c_M_multiply e50) rfl (o_M_multiply e50) w_M_multiply q_682 [] rfl ⟨Nat.le_of_ble_eq_true rfl, Nat.le_of_ble_eq_true rfl⟩ hl.1 rfl rfl (Nat.le_of_ble_eq_true rfl) d_M_chain_51 (fun H locs hH hS => ?_)
      exact w_M_chain_54 M this _ _ _ hf H locs ls hH hS (lv_sub hl [1, 2] rfl)
    · replace hf := z_f c53 hf
      refine lv_sipush (v := (-1003 : Int32)) M.x M.b d_M_chain_23 rfl ?_
      refine lv_goto (tgt := 54) M.x M.b d_M_chain_26 (by decide) ?_
      exact w_M_chain_54 M this _ _ _ hf H locs ls hH hS (lv_sub hl [1, 2] rfl)
  · replace hf := z_f c54 hf
    refine lv_iconst (v := (0 : Int32)) M.x M.b d_M_chain_9 rfl ?_
    refine lv_goto (tgt := 54) M.x M.b d_M_chain_10 (by decide) ?_
    exact w_M_chain_54 M this _ _ _ hf H locs ls hH hS (lv_sub hl [1, 2] rfl)
def f_M_work_460 (this : Nat) (s1 : Int32) (x3 : Int32) (x5 : Int32) (x6 : Int32) (h : Hp) : Option ((Int32 × Hp)) :=
  (gA h this 8 21).bind fun r1 =>
  (r1).bind fun a3 =>
  (aI h 0 a3 x3).bind fun i6 =>
  (f_M_push this s1 x5 x6 i6 h).bind fun h8 =>
  some ((0 : Int32), h8)
set_option maxRecDepth 100000 in
set_option maxHeartbeats 4000000 in
theorem w_M_work_460 {p : Program} {l : Launch} {e : Env} {s : State} {m : MethodId} {args : Array Value} {below : List Frame} {meth : Method} {c : Code} {N0 : Nat} {D : va_G} {cs : Nat → ClassId} (M : ZC p s m args meth c "YearBasketsModel" "work" b_M_work 9 (some .int) N0 D cs) (this : Nat)  {r0 : Int32} {h0 : Hp}  (s1 : Int32) (x3 : Int32) (x5 : Int32) (x6 : Int32) (h : Hp) (hf : f_M_work_460 this s1 x3 x5 x6 h = some (r0, h0)) : ZG p l e (zrm 6 0 0) s m args below meth c N0 D cs (some (.int r0)) h0 h 9 [(0, .ref this), (3, .int x3), (5, .int x5), (6, .int x6)] 460 [.int s1, .ref this] := by
  intro H locs ls hH hS hl
  unfold f_M_work_460 at hf
  refine lv_iload M.x M.b d_M_work_460 (lv_at hl 2 rfl) ?_
  refine lv_iload M.x M.b d_M_work_462 (lv_at hl 3 rfl) ?_
  refine lv_aload_n M.x M.b d_M_work_464 rfl (lv_at hl 0 rfl) ?_
  replace hf := z_bind hf; obtain ⟨r1, e2, hf⟩ := hf
  refine z_get (ci := 8) (k := 21) M hH rfl (by decide) zinM q_688 (gA_spec e2) d_M_work_465 ?_
  refine lv_iload_n M.x M.b d_M_work_468 rfl (lv_at hl 1 rfl) ?_
  rcases r1 with _ | a3
  · exact absurd hf z_nb0
  replace hf := z_sb hf
  replace hf := z_bind hf; obtain ⟨i6, e5, hf⟩ := hf
  refine z_iald M hH e5 d_M_work_469 ?_
  replace hf := z_bind hf; obtain ⟨h8, e7, hf⟩ := hf
  refine zk_V (ci := 8) (st1 := []) M hH hS (c_M_push e7) rfl (o_M_push e7) w_M_push q_724 [] rfl ⟨Nat.le_of_ble_eq_true rfl, Nat.le_of_ble_eq_true rfl⟩ hl.1 rfl rfl (Nat.le_of_ble_eq_true rfl) d_M_work_470 (fun H locs hH hS => ?_)
  refine lv_iconst (v := (0 : Int32)) M.x M.b d_M_work_473 rfl ?_
  obtain ⟨rfl, rfl⟩ := z_r2 hf
  exact z_iret M hH hS d_M_work_474
def f_M_work_441 (this : Nat) (x2 : Int32) (x3 : Int32) (x4 : Int32) (x5 : Int32) (x6 : Int32) (h : Hp) : Option ((Int32 × Hp)) :=
  if x2 = 0 then
    f_M_work_460 this (x4 + (1 : Int32)) x3 x5 x6 h
  else
  (gA h this 8 4).bind fun r9 =>
  (r9).bind fun a11 =>
  (aI h 0 a11 x4).bind fun i14 =>
  f_M_work_460 this i14 x3 x5 x6 h
set_option maxRecDepth 100000 in
set_option maxHeartbeats 4000000 in
theorem w_M_work_441 {p : Program} {l : Launch} {e : Env} {s : State} {m : MethodId} {args : Array Value} {below : List Frame} {meth : Method} {c : Code} {N0 : Nat} {D : va_G} {cs : Nat → ClassId} (M : ZC p s m args meth c "YearBasketsModel" "work" b_M_work 9 (some .int) N0 D cs) (this : Nat)  {r0 : Int32} {h0 : Hp}  (x2 : Int32) (x3 : Int32) (x4 : Int32) (x5 : Int32) (x6 : Int32) (h : Hp) (hf : f_M_work_441 this x2 x3 x4 x5 x6 h = some (r0, h0)) : ZG p l e (zrm 6 0 0) s m args below meth c N0 D cs (some (.int r0)) h0 h 9 [(0, .ref this), (2, .int x2), (3, .int x3), (4, .int x4), (5, .int x5), (6, .int x6)] 441 [] := by
  intro H locs ls hH hS hl
  unfold f_M_work_441 at hf
  refine lv_aload_n M.x M.b d_M_work_441 rfl (lv_at hl 0 rfl) ?_
  refine lv_iload_n M.x M.b d_M_work_442 rfl (lv_at hl 1 rfl) ?_
  refine lv_if_eq (tgt := 456) M.x M.b d_M_work_443 (by decide) (fun c15 => ?_) (fun c15 => ?_)
  · replace hf := z_t c15 hf
    refine lv_iload M.x M.b d_M_work_456 (lv_at hl 3 rfl) ?_
    refine lv_iconst (v := (1 : Int32)) M.x M.b d_M_work_458 rfl ?_
    refine lv_iadd M.x M.b d_M_work_459 ?_
    exact w_M_work_460 M this _ _ _ _ _ hf H locs ls hH hS (lv_sub hl [0, 2, 4, 5] rfl)
  · replace hf := z_f c15 hf
    refine lv_aload_n M.x M.b d_M_work_446 rfl (lv_at hl 0 rfl) ?_
    replace hf := z_bind hf; obtain ⟨r9, e10, hf⟩ := hf
    refine z_get (ci := 8) (k := 4) M hH rfl (by decide) zinM q_646 (gA_spec e10) d_M_work_447 ?_
    refine lv_iload M.x M.b d_M_work_450 (lv_at hl 3 rfl) ?_
    rcases r9 with _ | a11
    · exact absurd hf z_nb0
    replace hf := z_sb hf
    replace hf := z_bind hf; obtain ⟨i14, e13, hf⟩ := hf
    refine z_iald M hH e13 d_M_work_452 ?_
    refine lv_goto (tgt := 460) M.x M.b d_M_work_453 (by decide) ?_
    exact w_M_work_460 M this _ _ _ _ _ hf H locs ls hH hS (lv_sub hl [0, 2, 4, 5] rfl)
def f_M_work_418 (this : Nat) (s1 : Int32) (s2 : Int32) (s3 : Int32) (x8 : Int32) (h : Hp) : Option ((Int32 × Hp)) :=
  (f_M_push this s1 s2 s3 x8 h).bind fun h17 =>
  some ((0 : Int32), h17)
set_option maxRecDepth 100000 in
set_option maxHeartbeats 4000000 in
theorem w_M_work_418 {p : Program} {l : Launch} {e : Env} {s : State} {m : MethodId} {args : Array Value} {below : List Frame} {meth : Method} {c : Code} {N0 : Nat} {D : va_G} {cs : Nat → ClassId} (M : ZC p s m args meth c "YearBasketsModel" "work" b_M_work 9 (some .int) N0 D cs) (this : Nat)  {r0 : Int32} {h0 : Hp}  (s1 : Int32) (s2 : Int32) (s3 : Int32) (x8 : Int32) (h : Hp) (hf : f_M_work_418 this s1 s2 s3 x8 h = some (r0, h0)) : ZG p l e (zrm 6 0 0) s m args below meth c N0 D cs (some (.int r0)) h0 h 9 [(8, .int x8)] 418 [.int s3, .int s2, .int s1, .ref this] := by
  intro H locs ls hH hS hl
  unfold f_M_work_418 at hf
  refine lv_iload M.x M.b d_M_work_418 (lv_at hl 0 rfl) ?_
  replace hf := z_bind hf; obtain ⟨h17, e16, hf⟩ := hf
  refine zk_V (ci := 8) (st1 := []) M hH hS (c_M_push e16) rfl (o_M_push e16) w_M_push q_724 [] rfl ⟨Nat.le_of_ble_eq_true rfl, Nat.le_of_ble_eq_true rfl⟩ hl.1 rfl rfl (Nat.le_of_ble_eq_true rfl) d_M_work_420 (fun H locs hH hS => ?_)
  refine lv_iconst (v := (0 : Int32)) M.x M.b d_M_work_423 rfl ?_
  obtain ⟨rfl, rfl⟩ := z_r2 hf
  exact z_iret M hH hS d_M_work_424
def f_M_work_404 (this : Nat) (s1 : Int32) (s2 : Int32) (x5 : Int32) (x6 : Int32) (x7 : Int32) (x8 : Int32) (h : Hp) : Option ((Int32 × Hp)) :=
  if x7 = (10 : Int32) then
    f_M_work_418 this s1 s2 x5 x8 h
  else
  f_M_work_418 this s1 s2 x6 x8 h
set_option maxRecDepth 100000 in
set_option maxHeartbeats 4000000 in
theorem w_M_work_404 {p : Program} {l : Launch} {e : Env} {s : State} {m : MethodId} {args : Array Value} {below : List Frame} {meth : Method} {c : Code} {N0 : Nat} {D : va_G} {cs : Nat → ClassId} (M : ZC p s m args meth c "YearBasketsModel" "work" b_M_work 9 (some .int) N0 D cs) (this : Nat)  {r0 : Int32} {h0 : Hp}  (s1 : Int32) (s2 : Int32) (x5 : Int32) (x6 : Int32) (x7 : Int32) (x8 : Int32) (h : Hp) (hf : f_M_work_404 this s1 s2 x5 x6 x7 x8 h = some (r0, h0)) : ZG p l e (zrm 6 0 0) s m args below meth c N0 D cs (some (.int r0)) h0 h 9 [(5, .int x5), (6, .int x6), (7, .int x7), (8, .int x8)] 404 [.int s2, .int s1, .ref this] := by
  intro H locs ls hH hS hl
  unfold f_M_work_404 at hf
  refine lv_iload M.x M.b d_M_work_404 (lv_at hl 2 rfl) ?_
  refine lv_bipush (v := (10 : Int32)) M.x M.b d_M_work_406 rfl ?_
  refine lv_icmp_ne (tgt := 416) M.x M.b d_M_work_408 (by decide) (fun c18 => ?_) (fun c18 => ?_)
  · replace hf := z_f c18 hf
    refine lv_iload M.x M.b d_M_work_416 (lv_at hl 1 rfl) ?_
    exact w_M_work_418 M this _ _ _ _ _ hf H locs ls hH hS (lv_sub hl [3] rfl)
  · replace hf := z_t c18 hf
    refine lv_iload M.x M.b d_M_work_411 (lv_at hl 0 rfl) ?_
    refine lv_goto (tgt := 418) M.x M.b d_M_work_413 (by decide) ?_
    exact w_M_work_418 M this _ _ _ _ _ hf H locs ls hH hS (lv_sub hl [3] rfl)
def f_M_work_383 (this : Nat) (s0 : Int32) (x4 : Int32) (x5 : Int32) (x6 : Int32) (x7 : Int32) (h : Hp) : Option ((Int32 × Hp)) :=
  if x7 = (10 : Int32) then
    f_M_work_404 this (x4 + (1 : Int32)) x6 x5 x6 x7 s0 h
  else
  f_M_work_404 this (x4 + (1 : Int32)) x5 x5 x6 x7 s0 h
set_option maxRecDepth 100000 in
set_option maxHeartbeats 4000000 in
theorem w_M_work_383 {p : Program} {l : Launch} {e : Env} {s : State} {m : MethodId} {args : Array Value} {below : List Frame} {meth : Method} {c : Code} {N0 : Nat} {D : va_G} {cs : Nat → ClassId} (M : ZC p s m args meth c "YearBasketsModel" "work" b_M_work 9 (some .int) N0 D cs) (this : Nat)  {r0 : Int32} {h0 : Hp}  (s0 : Int32) (x4 : Int32) (x5 : Int32) (x6 : Int32) (x7 : Int32) (h : Hp) (hf : f_M_work_383 this s0 x4 x5 x6 x7 h = some (r0, h0)) : ZG p l e (zrm 6 0 0) s m args below meth c N0 D cs (some (.int r0)) h0 h 9 [(0, .ref this), (4, .int x4), (5, .int x5), (6, .int x6), (7, .int x7)] 383 [.int s0] := by
  intro H locs ls hH hS hl
  unfold f_M_work_383 at hf
  refine lv_istore (lv' := [(8, .int s0), (0, .ref this), (4, .int x4), (5, .int x5), (6, .int x6), (7, .int x7)]) M.x M.b d_M_work_383 hl (by decide) rfl (fun ls hl => ?_)
  refine lv_aload_n M.x M.b d_M_work_385 rfl (lv_at hl 1 rfl) ?_
  refine lv_iload M.x M.b d_M_work_386 (lv_at hl 2 rfl) ?_
  refine lv_iconst (v := (1 : Int32)) M.x M.b d_M_work_388 rfl ?_
  refine lv_iadd M.x M.b d_M_work_389 ?_
  refine lv_iload M.x M.b d_M_work_390 (lv_at hl 5 rfl) ?_
  refine lv_bipush (v := (10 : Int32)) M.x M.b d_M_work_392 rfl ?_
  refine lv_icmp_ne (tgt := 402) M.x M.b d_M_work_394 (by decide) (fun c19 => ?_) (fun c19 => ?_)
  · replace hf := z_f c19 hf
    refine lv_iload M.x M.b d_M_work_402 (lv_at hl 3 rfl) ?_
    exact w_M_work_404 M this _ _ _ _ _ _ _ hf H locs ls hH hS (lv_sub hl [3, 4, 5, 0] rfl)
  · replace hf := z_t c19 hf
    refine lv_iload M.x M.b d_M_work_397 (lv_at hl 4 rfl) ?_
    refine lv_goto (tgt := 404) M.x M.b d_M_work_399 (by decide) ?_
    exact w_M_work_404 M this _ _ _ _ _ _ _ hf H locs ls hH hS (lv_sub hl [3, 4, 5, 0] rfl)
def f_M_work_276 (this : Nat) (s1 : Int32) (x2 : Int32) (x3 : Int32) (x4 : Int32) (x5 : Int32) (x6 : Int32) (x7 : Int32) (h : Hp) : Option ((Int32 × Hp)) :=
  (zB s1).bind fun _ =>
  (pV h this 8 27 (.int s1)).bind fun h20 =>
  (gI h20 this 8 27).bind fun i22 =>
  if i22 = 0 then
    (f_M_isOne x7).bind fun i25 =>
    if i25 = 0 then
      if x2 = 0 then
        f_M_work_441 this x2 x3 x4 x5 x6 h20
      else
      (f_M_hold this x3 h20).bind fun h27 =>
      (gA h27 this 8 22).bind fun r28 =>
      (r28).bind fun a30 =>
      (sI h27 a30 x3 (1 : Int32)).bind fun h33 =>
      f_M_work_441 this x2 x3 x4 x5 x6 h33
    else
    if x7 = (12 : Int32) then
      (gA h20 this 8 21).bind fun r41 =>
      (r41).bind fun a43 =>
      (aI h20 0 a43 x3).bind fun i46 =>
      (f_M_priced this h20 x5).bind fun i48 =>
      (f_M_priced this h20 x6).bind fun i50 =>
      f_M_work_383 this ((i46 &&& i48) &&& i50) x4 x5 x6 x7 h20
    else
    (gA h20 this 8 21).bind fun r35 =>
    (r35).bind fun a37 =>
    (aI h20 0 a37 x3).bind fun i40 =>
    f_M_work_383 this i40 x4 x5 x6 x7 h20
  else
  (gI h20 this 8 26).bind fun i53 =>
  (pV h20 this 8 26 (.int (i53 - (1 : Int32)))).bind fun h55 =>
  if x7 = (12 : Int32) then
    some ((0 : Int32), h55)
  else
  if x7 = (10 : Int32) then
    (gL h55 this 8 15).bind fun l60 =>
    (gL h55 this 8 14).bind fun l62 =>
    (gI h55 this 8 16).bind fun i64 =>
    zb2 (f_M_take this l60 l62 i64 h55) fun i67 h68 =>
    some (i67, h68)
  else
  zb2 (f_M_join this x3 h55) fun i58 h59 =>
  some (i58, h59)
set_option maxRecDepth 100000 in
set_option maxHeartbeats 4000000 in
theorem w_M_work_276 {p : Program} {l : Launch} {e : Env} {s : State} {m : MethodId} {args : Array Value} {below : List Frame} {meth : Method} {c : Code} {N0 : Nat} {D : va_G} {cs : Nat → ClassId} (M : ZC p s m args meth c "YearBasketsModel" "work" b_M_work 9 (some .int) N0 D cs) (this : Nat)  {r0 : Int32} {h0 : Hp}  (s1 : Int32) (x2 : Int32) (x3 : Int32) (x4 : Int32) (x5 : Int32) (x6 : Int32) (x7 : Int32) (h : Hp) (hf : f_M_work_276 this s1 x2 x3 x4 x5 x6 x7 h = some (r0, h0)) : ZG p l e (zrm 6 0 0) s m args below meth c N0 D cs (some (.int r0)) h0 h 9 [(0, .ref this), (2, .int x2), (3, .int x3), (4, .int x4), (5, .int x5), (6, .int x6), (7, .int x7)] 276 [.int s1, .ref this] := by
  intro H locs ls hH hS hl
  unfold f_M_work_276 at hf
  replace hf := z_bind hf; obtain ⟨_, e72, hf⟩ := hf
  have z73 := (zB_spec e72).2
  replace hf := z_bind hf; obtain ⟨h20, e21, hf⟩ := hf
  refine z_put (ci := 8) (k := 27) M hH hS rfl (by decide) zinM zYM zYM_ok zNM_ok rfl q_726 rfl (z_nb z73) (z_fb z73) e21 d_M_work_276 (fun H locs hH hS => ?_)
  refine lv_aload_n M.x M.b d_M_work_279 rfl (lv_at hl 0 rfl) ?_
  replace hf := z_bind hf; obtain ⟨i22, e23, hf⟩ := hf
  refine z_get (ci := 8) (k := 27) M hH rfl (by decide) zinM q_726 (gI_spec e23) d_M_work_280 ?_
  refine lv_if_eq (tgt := 339) M.x M.b d_M_work_283 (by decide) (fun c71 => ?_) (fun c71 => ?_)
  · replace hf := z_t c71 hf
    refine lv_iload M.x M.b d_M_work_339 (lv_at hl 6 rfl) ?_
    replace hf := z_bind hf; obtain ⟨i25, e24, hf⟩ := hf
    refine zk_S (st1 := [.int i25]) M hH hS (c_M_isOne e24) w_M_isOne q_643 [] rfl ⟨Nat.le_of_ble_eq_true rfl, Nat.le_of_ble_eq_true rfl⟩ hl.1 rfl rfl (Nat.le_of_ble_eq_true rfl) d_M_work_341 (fun H locs hH hS => ?_)
    refine lv_if_eq (tgt := 425) M.x M.b d_M_work_344 (by decide) (fun c52 => ?_) (fun c52 => ?_)
    · replace hf := z_t c52 hf
      refine lv_iload_n M.x M.b d_M_work_425 rfl (lv_at hl 1 rfl) ?_
      refine lv_if_eq (tgt := 441) M.x M.b d_M_work_426 (by decide) (fun c34 => ?_) (fun c34 => ?_)
      · replace hf := z_t c34 hf
        exact w_M_work_441 M this _ _ _ _ _ _ hf H locs ls hH hS (lv_sub hl [0, 1, 2, 3, 4, 5] rfl)
      · replace hf := z_f c34 hf
        refine lv_aload_n M.x M.b d_M_work_429 rfl (lv_at hl 0 rfl) ?_
        refine lv_iload_n M.x M.b d_M_work_430 rfl (lv_at hl 2 rfl) ?_
        replace hf := z_bind hf; obtain ⟨h27, e26, hf⟩ := hf
        refine zk_V (ci := 8) (st1 := []) M hH hS (c_M_hold e26) rfl (o_M_hold e26) w_M_hold q_720 [] rfl ⟨Nat.le_of_ble_eq_true rfl, Nat.le_of_ble_eq_true rfl⟩ hl.1 rfl rfl (Nat.le_of_ble_eq_true rfl) d_M_work_431 (fun H locs hH hS => ?_)
        refine lv_aload_n M.x M.b d_M_work_434 rfl (lv_at hl 0 rfl) ?_
        replace hf := z_bind hf; obtain ⟨r28, e29, hf⟩ := hf
        refine z_get (ci := 8) (k := 22) M hH rfl (by decide) zinM q_687 (gA_spec e29) d_M_work_435 ?_
        refine lv_iload_n M.x M.b d_M_work_438 rfl (lv_at hl 2 rfl) ?_
        refine lv_iconst (v := (1 : Int32)) M.x M.b d_M_work_439 rfl ?_
        rcases r28 with _ | a30
        · exact absurd hf z_nb0
        replace hf := z_sb hf
        replace hf := z_bind hf; obtain ⟨h33, e32, hf⟩ := hf
        refine z_iast M hH hS e32 d_M_work_440 (fun H locs hH hS => ?_)
        exact w_M_work_441 M this _ _ _ _ _ _ hf H locs ls hH hS (lv_sub hl [0, 1, 2, 3, 4, 5] rfl)
    · replace hf := z_f c52 hf
      refine lv_iload M.x M.b d_M_work_347 (lv_at hl 6 rfl) ?_
      refine lv_bipush (v := (12 : Int32)) M.x M.b d_M_work_349 rfl ?_
      refine lv_icmp_ne (tgt := 377) M.x M.b d_M_work_351 (by decide) (fun c51 => ?_) (fun c51 => ?_)
      · replace hf := z_f c51 hf
        refine lv_aload_n M.x M.b d_M_work_377 rfl (lv_at hl 0 rfl) ?_
        replace hf := z_bind hf; obtain ⟨r35, e36, hf⟩ := hf
        refine z_get (ci := 8) (k := 21) M hH rfl (by decide) zinM q_688 (gA_spec e36) d_M_work_378 ?_
        refine lv_iload_n M.x M.b d_M_work_381 rfl (lv_at hl 2 rfl) ?_
        rcases r35 with _ | a37
        · exact absurd hf z_nb0
        replace hf := z_sb hf
        replace hf := z_bind hf; obtain ⟨i40, e39, hf⟩ := hf
        refine z_iald M hH e39 d_M_work_382 ?_
        exact w_M_work_383 M this _ _ _ _ _ _ hf H locs ls hH hS (lv_sub hl [0, 3, 4, 5, 6] rfl)
      · replace hf := z_t c51 hf
        refine lv_aload_n M.x M.b d_M_work_354 rfl (lv_at hl 0 rfl) ?_
        replace hf := z_bind hf; obtain ⟨r41, e42, hf⟩ := hf
        refine z_get (ci := 8) (k := 21) M hH rfl (by decide) zinM q_688 (gA_spec e42) d_M_work_355 ?_
        refine lv_iload_n M.x M.b d_M_work_358 rfl (lv_at hl 2 rfl) ?_
        rcases r41 with _ | a43
        · exact absurd hf z_nb0
        replace hf := z_sb hf
        replace hf := z_bind hf; obtain ⟨i46, e45, hf⟩ := hf
        refine z_iald M hH e45 d_M_work_359 ?_
        refine lv_aload_n M.x M.b d_M_work_360 rfl (lv_at hl 0 rfl) ?_
        refine lv_iload M.x M.b d_M_work_361 (lv_at hl 4 rfl) ?_
        replace hf := z_bind hf; obtain ⟨i48, e47, hf⟩ := hf
        refine zk_V (ci := 8) (st1 := [.int i48, .int i46]) M hH hS (c_M_priced e47) rfl (o_M_priced e47) w_M_priced q_589 [.int i46] rfl ⟨Nat.le_of_ble_eq_true rfl, Nat.le_of_ble_eq_true rfl⟩ hl.1 rfl rfl (Nat.le_of_ble_eq_true rfl) d_M_work_363 (fun H locs hH hS => ?_)
        refine lv_iand M.x M.b d_M_work_366 ?_
        refine lv_aload_n M.x M.b d_M_work_367 rfl (lv_at hl 0 rfl) ?_
        refine lv_iload M.x M.b d_M_work_368 (lv_at hl 5 rfl) ?_
        replace hf := z_bind hf; obtain ⟨i50, e49, hf⟩ := hf
        refine zk_V (ci := 8) (st1 := [.int i50, .int (i46 &&& i48)]) M hH hS (c_M_priced e49) rfl (o_M_priced e49) w_M_priced q_589 [.int (i46 &&& i48)] rfl ⟨Nat.le_of_ble_eq_true rfl, Nat.le_of_ble_eq_true rfl⟩ hl.1 rfl rfl (Nat.le_of_ble_eq_true rfl) d_M_work_370 (fun H locs hH hS => ?_)
        refine lv_iand M.x M.b d_M_work_373 ?_
        refine lv_goto (tgt := 383) M.x M.b d_M_work_374 (by decide) ?_
        exact w_M_work_383 M this _ _ _ _ _ _ hf H locs ls hH hS (lv_sub hl [0, 3, 4, 5, 6] rfl)
  · replace hf := z_f c71 hf
    refine lv_aload_n M.x M.b d_M_work_286 rfl (lv_at hl 0 rfl) ?_
    refine lv_dup M.x M.b d_M_work_287 rfl ?_
    replace hf := z_bind hf; obtain ⟨i53, e54, hf⟩ := hf
    refine z_get (ci := 8) (k := 26) M hH rfl (by decide) zinM q_686 (gI_spec e54) d_M_work_288 ?_
    refine lv_iconst (v := (1 : Int32)) M.x M.b d_M_work_291 rfl ?_
    refine lv_isub M.x M.b d_M_work_292 ?_
    replace hf := z_bind hf; obtain ⟨h55, e56, hf⟩ := hf
    refine z_put (ci := 8) (k := 26) M hH hS rfl (by decide) zinM zYM zYM_ok zNM_ok rfl q_686 rfl rfl rfl e56 d_M_work_293 (fun H locs hH hS => ?_)
    refine lv_iload M.x M.b d_M_work_296 (lv_at hl 6 rfl) ?_
    refine lv_bipush (v := (12 : Int32)) M.x M.b d_M_work_298 rfl ?_
    refine lv_icmp_ne (tgt := 307) M.x M.b d_M_work_300 (by decide) (fun c70 => ?_) (fun c70 => ?_)
    · replace hf := z_f c70 hf
      refine lv_iload M.x M.b d_M_work_307 (lv_at hl 6 rfl) ?_
      refine lv_bipush (v := (10 : Int32)) M.x M.b d_M_work_309 rfl ?_
      refine lv_icmp_ne (tgt := 333) M.x M.b d_M_work_311 (by decide) (fun c69 => ?_) (fun c69 => ?_)
      · replace hf := z_f c69 hf
        refine lv_aload_n M.x M.b d_M_work_333 rfl (lv_at hl 0 rfl) ?_
        refine lv_iload_n M.x M.b d_M_work_334 rfl (lv_at hl 2 rfl) ?_
        replace hf := z_bind2 hf; obtain ⟨i58, h59, e57, hf⟩ := hf
        refine zk_V (ci := 8) (st1 := [.int i58]) M hH hS (c_M_join e57) rfl (o_M_join e57) w_M_join q_725 [] rfl ⟨Nat.le_of_ble_eq_true rfl, Nat.le_of_ble_eq_true rfl⟩ hl.1 rfl rfl (Nat.le_of_ble_eq_true rfl) d_M_work_335 (fun H locs hH hS => ?_)
        obtain ⟨rfl, rfl⟩ := z_r2 hf
        exact z_iret M hH hS d_M_work_338
      · replace hf := z_t c69 hf
        refine lv_aload_n M.x M.b d_M_work_314 rfl (lv_at hl 0 rfl) ?_
        refine lv_aload_n M.x M.b d_M_work_315 rfl (lv_at hl 0 rfl) ?_
        replace hf := z_bind hf; obtain ⟨l60, e61, hf⟩ := hf
        refine z_get (ci := 8) (k := 15) M hH rfl (by decide) zinM q_667 (gL_spec e61) d_M_work_316 ?_
        refine lv_aload_n M.x M.b d_M_work_319 rfl (lv_at hl 0 rfl) ?_
        replace hf := z_bind hf; obtain ⟨l62, e63, hf⟩ := hf
        refine z_get (ci := 8) (k := 14) M hH rfl (by decide) zinM q_668 (gL_spec e63) d_M_work_320 ?_
        refine lv_aload_n M.x M.b d_M_work_323 rfl (lv_at hl 0 rfl) ?_
        replace hf := z_bind hf; obtain ⟨i64, e65, hf⟩ := hf
        refine z_get (ci := 8) (k := 16) M hH rfl (by decide) zinM q_669 (gI_spec e65) d_M_work_324 ?_
        replace hf := z_bind2 hf; obtain ⟨i67, h68, e66, hf⟩ := hf
        refine zk_V (ci := 8) (st1 := [.int i67]) M hH hS (c_M_take e66) rfl (o_M_take e66) w_M_take q_674 [] rfl ⟨Nat.le_of_ble_eq_true rfl, Nat.le_of_ble_eq_true rfl⟩ hl.1 rfl rfl (Nat.le_of_ble_eq_true rfl) d_M_work_327 (fun H locs hH hS => ?_)
        refine lv_goto (tgt := 338) M.x M.b d_M_work_330 (by decide) ?_
        obtain ⟨rfl, rfl⟩ := z_r2 hf
        exact z_iret M hH hS d_M_work_338
    · replace hf := z_t c70 hf
      refine lv_iconst (v := (0 : Int32)) M.x M.b d_M_work_303 rfl ?_
      refine lv_goto (tgt := 338) M.x M.b d_M_work_304 (by decide) ?_
      obtain ⟨rfl, rfl⟩ := z_r2 hf
      exact z_iret M hH hS d_M_work_338
def f_M_work_275 (this : Nat) (x2 : Int32) (x3 : Int32) (x4 : Int32) (x5 : Int32) (x6 : Int32) (x7 : Int32) (h : Hp) : Option ((Int32 × Hp)) :=
  f_M_work_276 this (0 : Int32) x2 x3 x4 x5 x6 x7 h
set_option maxRecDepth 100000 in
set_option maxHeartbeats 4000000 in
theorem w_M_work_275 {p : Program} {l : Launch} {e : Env} {s : State} {m : MethodId} {args : Array Value} {below : List Frame} {meth : Method} {c : Code} {N0 : Nat} {D : va_G} {cs : Nat → ClassId} (M : ZC p s m args meth c "YearBasketsModel" "work" b_M_work 9 (some .int) N0 D cs) (this : Nat)  {r0 : Int32} {h0 : Hp}  (x2 : Int32) (x3 : Int32) (x4 : Int32) (x5 : Int32) (x6 : Int32) (x7 : Int32) (h : Hp) (hf : f_M_work_275 this x2 x3 x4 x5 x6 x7 h = some (r0, h0)) : ZG p l e (zrm 6 0 0) s m args below meth c N0 D cs (some (.int r0)) h0 h 9 [(0, .ref this), (2, .int x2), (3, .int x3), (4, .int x4), (5, .int x5), (6, .int x6), (7, .int x7)] 275 [.ref this] := by
  intro H locs ls hH hS hl
  unfold f_M_work_275 at hf
  refine lv_iconst (v := (0 : Int32)) M.x M.b d_M_work_275 rfl ?_
  exact w_M_work_276 M this _ _ _ _ _ _ _ _ hf H locs ls hH hS (lv_sub hl [0, 1, 2, 3, 4, 5, 6] rfl)
def f_M_work_271 (this : Nat) (x2 : Int32) (x3 : Int32) (x4 : Int32) (x5 : Int32) (x6 : Int32) (x7 : Int32) (h : Hp) : Option ((Int32 × Hp)) :=
  f_M_work_276 this (1 : Int32) x2 x3 x4 x5 x6 x7 h
set_option maxRecDepth 100000 in
set_option maxHeartbeats 4000000 in
theorem w_M_work_271 {p : Program} {l : Launch} {e : Env} {s : State} {m : MethodId} {args : Array Value} {below : List Frame} {meth : Method} {c : Code} {N0 : Nat} {D : va_G} {cs : Nat → ClassId} (M : ZC p s m args meth c "YearBasketsModel" "work" b_M_work 9 (some .int) N0 D cs) (this : Nat)  {r0 : Int32} {h0 : Hp}  (x2 : Int32) (x3 : Int32) (x4 : Int32) (x5 : Int32) (x6 : Int32) (x7 : Int32) (h : Hp) (hf : f_M_work_271 this x2 x3 x4 x5 x6 x7 h = some (r0, h0)) : ZG p l e (zrm 6 0 0) s m args below meth c N0 D cs (some (.int r0)) h0 h 9 [(0, .ref this), (2, .int x2), (3, .int x3), (4, .int x4), (5, .int x5), (6, .int x6), (7, .int x7)] 271 [.ref this] := by
  intro H locs ls hH hS hl
  unfold f_M_work_271 at hf
  refine lv_iconst (v := (1 : Int32)) M.x M.b d_M_work_271 rfl ?_
  refine lv_goto (tgt := 276) M.x M.b d_M_work_272 (by decide) ?_
  exact w_M_work_276 M this _ _ _ _ _ _ _ _ hf H locs ls hH hS (lv_sub hl [0, 1, 2, 3, 4, 5, 6] rfl)
def f_M_work_236 (this : Nat) (s1 : Int32) (s2 : Int32) (s3 : Int32) (s4 : Int32) (x3 : Int32) (h : Hp) : Option ((Int32 × Hp)) :=
  (gA h this 8 21).bind fun r74 =>
  (r74).bind fun a76 =>
  (aI h 0 a76 x3).bind fun i79 =>
  (f_M_push this s1 s2 (s3 + s4) i79 h).bind fun h81 =>
  some ((0 : Int32), h81)
set_option maxRecDepth 100000 in
set_option maxHeartbeats 4000000 in
theorem w_M_work_236 {p : Program} {l : Launch} {e : Env} {s : State} {m : MethodId} {args : Array Value} {below : List Frame} {meth : Method} {c : Code} {N0 : Nat} {D : va_G} {cs : Nat → ClassId} (M : ZC p s m args meth c "YearBasketsModel" "work" b_M_work 9 (some .int) N0 D cs) (this : Nat)  {r0 : Int32} {h0 : Hp}  (s1 : Int32) (s2 : Int32) (s3 : Int32) (s4 : Int32) (x3 : Int32) (h : Hp) (hf : f_M_work_236 this s1 s2 s3 s4 x3 h = some (r0, h0)) : ZG p l e (zrm 6 0 0) s m args below meth c N0 D cs (some (.int r0)) h0 h 9 [(0, .ref this), (3, .int x3)] 236 [.int s4, .int s3, .int s2, .int s1, .ref this] := by
  intro H locs ls hH hS hl
  unfold f_M_work_236 at hf
  refine lv_iadd M.x M.b d_M_work_236 ?_
  refine lv_aload_n M.x M.b d_M_work_237 rfl (lv_at hl 0 rfl) ?_
  replace hf := z_bind hf; obtain ⟨r74, e75, hf⟩ := hf
  refine z_get (ci := 8) (k := 21) M hH rfl (by decide) zinM q_688 (gA_spec e75) d_M_work_238 ?_
  refine lv_iload_n M.x M.b d_M_work_241 rfl (lv_at hl 1 rfl) ?_
  rcases r74 with _ | a76
  · exact absurd hf z_nb0
  replace hf := z_sb hf
  replace hf := z_bind hf; obtain ⟨i79, e78, hf⟩ := hf
  refine z_iald M hH e78 d_M_work_242 ?_
  replace hf := z_bind hf; obtain ⟨h81, e80, hf⟩ := hf
  refine zk_V (ci := 8) (st1 := []) M hH hS (c_M_push e80) rfl (o_M_push e80) w_M_push q_724 [] rfl ⟨Nat.le_of_ble_eq_true rfl, Nat.le_of_ble_eq_true rfl⟩ hl.1 rfl rfl (Nat.le_of_ble_eq_true rfl) d_M_work_243 (fun H locs hH hS => ?_)
  refine lv_iconst (v := (0 : Int32)) M.x M.b d_M_work_246 rfl ?_
  obtain ⟨rfl, rfl⟩ := z_r2 hf
  exact z_iret M hH hS d_M_work_247
def f_M_work_143 (this : Nat) (s1 : Int32) (x3 : Int32) (x4 : Int32) (x5 : Int32) (x6 : Int32) (h : Hp) : Option ((Int32 × Hp)) :=
  (zB s1).bind fun _ =>
  (pV h this 8 27 (.int s1)).bind fun h82 =>
  (gI h82 this 8 27).bind fun i84 =>
  if i84 = 0 then
    (gA h82 this 8 22).bind fun r86 =>
    (r86).bind fun a88 =>
    (aI h82 0 a88 x3).bind fun i91 =>
    (gA h82 this 8 22).bind fun r92 =>
    (r92).bind fun a94 =>
    (aI h82 0 a94 x3).bind fun i97 =>
    (gA h82 this 8 22).bind fun r98 =>
    (r98).bind fun a100 =>
    (aI h82 0 a100 x3).bind fun i103 =>
    if x6 ≤ i103 then
      f_M_work_236 this (x4 + (1 : Int32)) i91 i97 (-1 : Int32) x3 h82
    else
    f_M_work_236 this (x4 + (1 : Int32)) i91 i97 (1 : Int32) x3 h82
  else
  (gI h82 this 8 26).bind fun i105 =>
  (pV h82 this 8 26 (.int (i105 - (1 : Int32)))).bind fun h107 =>
  if x5 = x6 then
    zb2 (f_M_take this (1 : Int64) (1 : Int64) (0 : Int32) h107) fun i131 h132 =>
    some (i131, h132)
  else
  (gA h107 this 8 23).bind fun r109 =>
  (r109).bind fun a111 =>
  (aL h107 a111 x3).bind fun l114 =>
  (gA h107 this 8 24).bind fun r115 =>
  (r115).bind fun a117 =>
  (aL h107 a117 x3).bind fun l120 =>
  (gA h107 this 8 25).bind fun r121 =>
  (r121).bind fun a123 =>
  (aI h107 2 a123 x3).bind fun i126 =>
  zb2 (f_M_take this l114 l120 i126 h107) fun i128 h129 =>
  some (i128, h129)
set_option maxRecDepth 100000 in
set_option maxHeartbeats 4000000 in
theorem w_M_work_143 {p : Program} {l : Launch} {e : Env} {s : State} {m : MethodId} {args : Array Value} {below : List Frame} {meth : Method} {c : Code} {N0 : Nat} {D : va_G} {cs : Nat → ClassId} (M : ZC p s m args meth c "YearBasketsModel" "work" b_M_work 9 (some .int) N0 D cs) (this : Nat)  {r0 : Int32} {h0 : Hp}  (s1 : Int32) (x3 : Int32) (x4 : Int32) (x5 : Int32) (x6 : Int32) (h : Hp) (hf : f_M_work_143 this s1 x3 x4 x5 x6 h = some (r0, h0)) : ZG p l e (zrm 6 0 0) s m args below meth c N0 D cs (some (.int r0)) h0 h 9 [(0, .ref this), (3, .int x3), (4, .int x4), (5, .int x5), (6, .int x6)] 143 [.int s1, .ref this] := by
  intro H locs ls hH hS hl
  unfold f_M_work_143 at hf
  replace hf := z_bind hf; obtain ⟨_, e135, hf⟩ := hf
  have z136 := (zB_spec e135).2
  replace hf := z_bind hf; obtain ⟨h82, e83, hf⟩ := hf
  refine z_put (ci := 8) (k := 27) M hH hS rfl (by decide) zinM zYM zYM_ok zNM_ok rfl q_726 rfl (z_nb z136) (z_fb z136) e83 d_M_work_143 (fun H locs hH hS => ?_)
  refine lv_aload_n M.x M.b d_M_work_146 rfl (lv_at hl 0 rfl) ?_
  replace hf := z_bind hf; obtain ⟨i84, e85, hf⟩ := hf
  refine z_get (ci := 8) (k := 27) M hH rfl (by decide) zinM q_726 (gI_spec e85) d_M_work_147 ?_
  refine lv_if_eq (tgt := 203) M.x M.b d_M_work_150 (by decide) (fun c134 => ?_) (fun c134 => ?_)
  · replace hf := z_t c134 hf
    refine lv_aload_n M.x M.b d_M_work_203 rfl (lv_at hl 0 rfl) ?_
    refine lv_iload M.x M.b d_M_work_204 (lv_at hl 2 rfl) ?_
    refine lv_iconst (v := (1 : Int32)) M.x M.b d_M_work_206 rfl ?_
    refine lv_iadd M.x M.b d_M_work_207 ?_
    refine lv_aload_n M.x M.b d_M_work_208 rfl (lv_at hl 0 rfl) ?_
    replace hf := z_bind hf; obtain ⟨r86, e87, hf⟩ := hf
    refine z_get (ci := 8) (k := 22) M hH rfl (by decide) zinM q_687 (gA_spec e87) d_M_work_209 ?_
    refine lv_iload_n M.x M.b d_M_work_212 rfl (lv_at hl 1 rfl) ?_
    rcases r86 with _ | a88
    · exact absurd hf z_nb0
    replace hf := z_sb hf
    replace hf := z_bind hf; obtain ⟨i91, e90, hf⟩ := hf
    refine z_iald M hH e90 d_M_work_213 ?_
    refine lv_aload_n M.x M.b d_M_work_214 rfl (lv_at hl 0 rfl) ?_
    replace hf := z_bind hf; obtain ⟨r92, e93, hf⟩ := hf
    refine z_get (ci := 8) (k := 22) M hH rfl (by decide) zinM q_687 (gA_spec e93) d_M_work_215 ?_
    refine lv_iload_n M.x M.b d_M_work_218 rfl (lv_at hl 1 rfl) ?_
    rcases r92 with _ | a94
    · exact absurd hf z_nb0
    replace hf := z_sb hf
    replace hf := z_bind hf; obtain ⟨i97, e96, hf⟩ := hf
    refine z_iald M hH e96 d_M_work_219 ?_
    refine lv_iload M.x M.b d_M_work_220 (lv_at hl 4 rfl) ?_
    refine lv_aload_n M.x M.b d_M_work_222 rfl (lv_at hl 0 rfl) ?_
    replace hf := z_bind hf; obtain ⟨r98, e99, hf⟩ := hf
    refine z_get (ci := 8) (k := 22) M hH rfl (by decide) zinM q_687 (gA_spec e99) d_M_work_223 ?_
    refine lv_iload_n M.x M.b d_M_work_226 rfl (lv_at hl 1 rfl) ?_
    rcases r98 with _ | a100
    · exact absurd hf z_nb0
    replace hf := z_sb hf
    replace hf := z_bind hf; obtain ⟨i103, e102, hf⟩ := hf
    refine z_iald M hH e102 d_M_work_227 ?_
    refine lv_icmp_le (tgt := 235) M.x M.b d_M_work_228 (by decide) (fun c104 => ?_) (fun c104 => ?_)
    · replace hf := z_t c104 hf
      refine lv_iconst (v := (-1 : Int32)) M.x M.b d_M_work_235 rfl ?_
      exact w_M_work_236 M this _ _ _ _ _ _ hf H locs ls hH hS (lv_sub hl [0, 1] rfl)
    · replace hf := z_f c104 hf
      refine lv_iconst (v := (1 : Int32)) M.x M.b d_M_work_231 rfl ?_
      refine lv_goto (tgt := 236) M.x M.b d_M_work_232 (by decide) ?_
      exact w_M_work_236 M this _ _ _ _ _ _ hf H locs ls hH hS (lv_sub hl [0, 1] rfl)
  · replace hf := z_f c134 hf
    refine lv_aload_n M.x M.b d_M_work_153 rfl (lv_at hl 0 rfl) ?_
    refine lv_dup M.x M.b d_M_work_154 rfl ?_
    replace hf := z_bind hf; obtain ⟨i105, e106, hf⟩ := hf
    refine z_get (ci := 8) (k := 26) M hH rfl (by decide) zinM q_686 (gI_spec e106) d_M_work_155 ?_
    refine lv_iconst (v := (1 : Int32)) M.x M.b d_M_work_158 rfl ?_
    refine lv_isub M.x M.b d_M_work_159 ?_
    replace hf := z_bind hf; obtain ⟨h107, e108, hf⟩ := hf
    refine z_put (ci := 8) (k := 26) M hH hS rfl (by decide) zinM zYM zYM_ok zNM_ok rfl q_686 rfl rfl rfl e108 d_M_work_160 (fun H locs hH hS => ?_)
    refine lv_iload M.x M.b d_M_work_163 (lv_at hl 3 rfl) ?_
    refine lv_iload M.x M.b d_M_work_165 (lv_at hl 4 rfl) ?_
    refine lv_icmp_ne (tgt := 180) M.x M.b d_M_work_167 (by decide) (fun c133 => ?_) (fun c133 => ?_)
    · replace hf := z_f c133 hf
      refine lv_aload_n M.x M.b d_M_work_180 rfl (lv_at hl 0 rfl) ?_
      refine lv_aload_n M.x M.b d_M_work_181 rfl (lv_at hl 0 rfl) ?_
      replace hf := z_bind hf; obtain ⟨r109, e110, hf⟩ := hf
      refine z_get (ci := 8) (k := 23) M hH rfl (by decide) zinM q_713 (gA_spec e110) d_M_work_182 ?_
      refine lv_iload_n M.x M.b d_M_work_185 rfl (lv_at hl 1 rfl) ?_
      rcases r109 with _ | a111
      · exact absurd hf z_nb0
      replace hf := z_sb hf
      replace hf := z_bind hf; obtain ⟨l114, e113, hf⟩ := hf
      refine z_lald M hH e113 d_M_work_186 ?_
      refine lv_aload_n M.x M.b d_M_work_187 rfl (lv_at hl 0 rfl) ?_
      replace hf := z_bind hf; obtain ⟨r115, e116, hf⟩ := hf
      refine z_get (ci := 8) (k := 24) M hH rfl (by decide) zinM q_712 (gA_spec e116) d_M_work_188 ?_
      refine lv_iload_n M.x M.b d_M_work_191 rfl (lv_at hl 1 rfl) ?_
      rcases r115 with _ | a117
      · exact absurd hf z_nb0
      replace hf := z_sb hf
      replace hf := z_bind hf; obtain ⟨l120, e119, hf⟩ := hf
      refine z_lald M hH e119 d_M_work_192 ?_
      refine lv_aload_n M.x M.b d_M_work_193 rfl (lv_at hl 0 rfl) ?_
      replace hf := z_bind hf; obtain ⟨r121, e122, hf⟩ := hf
      refine z_get (ci := 8) (k := 25) M hH rfl (by decide) zinM q_709 (gA_spec e122) d_M_work_194 ?_
      refine lv_iload_n M.x M.b d_M_work_197 rfl (lv_at hl 1 rfl) ?_
      rcases r121 with _ | a123
      · exact absurd hf z_nb0
      replace hf := z_sb hf
      replace hf := z_bind hf; obtain ⟨i126, e125, hf⟩ := hf
      refine z_zald M hH e125 d_M_work_198 ?_
      replace hf := z_bind2 hf; obtain ⟨i128, h129, e127, hf⟩ := hf
      refine zk_V (ci := 8) (st1 := [.int i128]) M hH hS (c_M_take e127) rfl (o_M_take e127) w_M_take q_674 [] rfl ⟨Nat.le_of_ble_eq_true rfl, Nat.le_of_ble_eq_true rfl⟩ hl.1 rfl rfl (Nat.le_of_ble_eq_true rfl) d_M_work_199 (fun H locs hH hS => ?_)
      obtain ⟨rfl, rfl⟩ := z_r2 hf
      exact z_iret M hH hS d_M_work_202
    · replace hf := z_t c133 hf
      refine lv_aload_n M.x M.b d_M_work_170 rfl (lv_at hl 0 rfl) ?_
      refine lv_lconst (v := (1 : Int64)) M.x M.b d_M_work_171 rfl ?_
      refine lv_lconst (v := (1 : Int64)) M.x M.b d_M_work_172 rfl ?_
      refine lv_iconst (v := (0 : Int32)) M.x M.b d_M_work_173 rfl ?_
      replace hf := z_bind2 hf; obtain ⟨i131, h132, e130, hf⟩ := hf
      refine zk_V (ci := 8) (st1 := [.int i131]) M hH hS (c_M_take e130) rfl (o_M_take e130) w_M_take q_674 [] rfl ⟨Nat.le_of_ble_eq_true rfl, Nat.le_of_ble_eq_true rfl⟩ hl.1 rfl rfl (Nat.le_of_ble_eq_true rfl) d_M_work_174 (fun H locs hH hS => ?_)
      refine lv_goto (tgt := 202) M.x M.b d_M_work_177 (by decide) ?_
      obtain ⟨rfl, rfl⟩ := z_r2 hf
      exact z_iret M hH hS d_M_work_202
def f_M_work_116 (this : Nat) (s0 : Int32) (x3 : Int32) (x4 : Int32) (x5 : Int32) (x6 : Int32) (h : Hp) : Option ((Int32 × Hp)) :=
  if 0 ≤ s0 then
    (gA h this 8 22).bind fun r137 =>
    (r137).bind fun a139 =>
    (aI h 0 a139 x3).bind fun i142 =>
    if i142 = x6 then
      f_M_work_143 this (1 : Int32) x3 x4 x5 x6 h
    else
    f_M_work_143 this (0 : Int32) x3 x4 x5 x6 h
  else
  some (s0, h)
set_option maxRecDepth 100000 in
set_option maxHeartbeats 4000000 in
theorem w_M_work_116 {p : Program} {l : Launch} {e : Env} {s : State} {m : MethodId} {args : Array Value} {below : List Frame} {meth : Method} {c : Code} {N0 : Nat} {D : va_G} {cs : Nat → ClassId} (M : ZC p s m args meth c "YearBasketsModel" "work" b_M_work 9 (some .int) N0 D cs) (this : Nat)  {r0 : Int32} {h0 : Hp}  (s0 : Int32) (x3 : Int32) (x4 : Int32) (x5 : Int32) (x6 : Int32) (h : Hp) (hf : f_M_work_116 this s0 x3 x4 x5 x6 h = some (r0, h0)) : ZG p l e (zrm 6 0 0) s m args below meth c N0 D cs (some (.int r0)) h0 h 9 [(0, .ref this), (3, .int x3), (4, .int x4), (5, .int x5), (6, .int x6)] 116 [.int s0] := by
  intro H locs ls hH hS hl
  unfold f_M_work_116 at hf
  refine lv_istore (lv' := [(8, .int s0), (0, .ref this), (3, .int x3), (4, .int x4), (5, .int x5), (6, .int x6)]) M.x M.b d_M_work_116 hl (by decide) rfl (fun ls hl => ?_)
  refine lv_iload M.x M.b d_M_work_118 (lv_at hl 0 rfl) ?_
  refine lv_if_ge (tgt := 126) M.x M.b d_M_work_120 (by decide) (fun c144 => ?_) (fun c144 => ?_)
  · replace hf := z_t c144 hf
    refine lv_aload_n M.x M.b d_M_work_126 rfl (lv_at hl 1 rfl) ?_
    refine lv_aload_n M.x M.b d_M_work_127 rfl (lv_at hl 1 rfl) ?_
    replace hf := z_bind hf; obtain ⟨r137, e138, hf⟩ := hf
    refine z_get (ci := 8) (k := 22) M hH rfl (by decide) zinM q_687 (gA_spec e138) d_M_work_128 ?_
    refine lv_iload_n M.x M.b d_M_work_131 rfl (lv_at hl 2 rfl) ?_
    rcases r137 with _ | a139
    · exact absurd hf z_nb0
    replace hf := z_sb hf
    replace hf := z_bind hf; obtain ⟨i142, e141, hf⟩ := hf
    refine z_iald M hH e141 d_M_work_132 ?_
    refine lv_iload M.x M.b d_M_work_133 (lv_at hl 5 rfl) ?_
    refine lv_icmp_ne (tgt := 142) M.x M.b d_M_work_135 (by decide) (fun c143 => ?_) (fun c143 => ?_)
    · replace hf := z_f c143 hf
      refine lv_iconst (v := (0 : Int32)) M.x M.b d_M_work_142 rfl ?_
      exact w_M_work_143 M this _ _ _ _ _ _ hf H locs ls hH hS (lv_sub hl [1, 2, 3, 4, 5] rfl)
    · replace hf := z_t c143 hf
      refine lv_iconst (v := (1 : Int32)) M.x M.b d_M_work_138 rfl ?_
      refine lv_goto (tgt := 143) M.x M.b d_M_work_139 (by decide) ?_
      exact w_M_work_143 M this _ _ _ _ _ _ hf H locs ls hH hS (lv_sub hl [1, 2, 3, 4, 5] rfl)
  · replace hf := z_f c144 hf
    refine lv_iload M.x M.b d_M_work_123 (lv_at hl 0 rfl) ?_
    obtain ⟨rfl, rfl⟩ := z_r2 hf
    exact z_iret M hH hS d_M_work_125
def f_M_work_109 (this : Nat) (s1 : Int32) (s2 : Int32) (x3 : Int32) (x4 : Int32) (x5 : Int32) (x6 : Int32) (h : Hp) : Option ((Int32 × Hp)) :=
  zb2 (f_M_chain this s1 s2 h) fun i146 h147 =>
  f_M_work_116 this i146 x3 x4 x5 x6 h147
set_option maxRecDepth 100000 in
set_option maxHeartbeats 4000000 in
theorem w_M_work_109 {p : Program} {l : Launch} {e : Env} {s : State} {m : MethodId} {args : Array Value} {below : List Frame} {meth : Method} {c : Code} {N0 : Nat} {D : va_G} {cs : Nat → ClassId} (M : ZC p s m args meth c "YearBasketsModel" "work" b_M_work 9 (some .int) N0 D cs) (this : Nat)  {r0 : Int32} {h0 : Hp}  (s1 : Int32) (s2 : Int32) (x3 : Int32) (x4 : Int32) (x5 : Int32) (x6 : Int32) (h : Hp) (hf : f_M_work_109 this s1 s2 x3 x4 x5 x6 h = some (r0, h0)) : ZG p l e (zrm 6 0 0) s m args below meth c N0 D cs (some (.int r0)) h0 h 9 [(0, .ref this), (3, .int x3), (4, .int x4), (5, .int x5), (6, .int x6)] 109 [.int s2, .int s1, .ref this] := by
  intro H locs ls hH hS hl
  unfold f_M_work_109 at hf
  replace hf := z_bind2 hf; obtain ⟨i146, h147, e145, hf⟩ := hf
  refine zk_V (ci := 8) (st1 := [.int i146]) M hH hS (c_M_chain e145) rfl (o_M_chain e145) w_M_chain q_727 [] rfl ⟨Nat.le_of_ble_eq_true rfl, Nat.le_of_ble_eq_true rfl⟩ hl.1 rfl rfl (Nat.le_of_ble_eq_true rfl) d_M_work_109 (fun H locs hH hS => ?_)
  refine lv_goto (tgt := 116) M.x M.b d_M_work_112 (by decide) ?_
  exact w_M_work_116 M this _ _ _ _ _ _ hf H locs ls hH hS (lv_sub hl [0, 1, 2, 3, 4] rfl)
def f_M_work (this : Nat) (x1 : Int32) (x2 : Int32) (h : Hp) : Option ((Int32 × Hp)) :=
  if isO h this 8 = true then
  (gI h this 8 26).bind fun i148 =>
  (gA h this 8 18).bind fun r150 =>
  (r150).bind fun a152 =>
  (aI h 0 a152 (i148 - (1 : Int32))).bind fun i155 =>
  (gA h this 8 19).bind fun r156 =>
  (r156).bind fun a158 =>
  (aI h 0 a158 (i148 - (1 : Int32))).bind fun i161 =>
  (gA h this 8 20).bind fun r162 =>
  (r162).bind fun a164 =>
  (aI h 0 a164 (i148 - (1 : Int32))).bind fun i167 =>
  (gA h this 8 3).bind fun r168 =>
  (r168).bind fun a170 =>
  (aI h 0 a170 i155).bind fun i173 =>
  if (6 : Int32) ≤ i173 then
    if i173 = (11 : Int32) then
      if x2 = 0 then
        f_M_work_116 this (0 : Int32) (i148 - (1 : Int32)) i155 i161 i167 h
      else
      (gA h this 8 22).bind fun r185 =>
      (r185).bind fun a187 =>
      (aI h 0 a187 (i148 - (1 : Int32))).bind fun i190 =>
      if i190 = i161 then
        f_M_work_109 this (i148 - (1 : Int32)) (1 : Int32) (i148 - (1 : Int32)) i155 i161 i167 h
      else
      f_M_work_109 this (i148 - (1 : Int32)) (0 : Int32) (i148 - (1 : Int32)) i155 i161 i167 h
    else
    if x2 = 0 then
      f_M_work_275 this x2 (i148 - (1 : Int32)) i155 i161 i167 i173 h
    else
    (f_M_isOne i173).bind fun i175 =>
    if i175 = 0 then
      (gA h this 8 22).bind fun r176 =>
      (r176).bind fun a178 =>
      (aI h 0 a178 (i148 - (1 : Int32))).bind fun i181 =>
      if i181 = (1 : Int32) then
        f_M_work_271 this x2 (i148 - (1 : Int32)) i155 i161 i167 i173 h
      else
      f_M_work_275 this x2 (i148 - (1 : Int32)) i155 i161 i167 i173 h
    else
    f_M_work_271 this x2 (i148 - (1 : Int32)) i155 i161 i167 i173 h
  else
  (gI h this 8 26).bind fun i194 =>
  (pV h this 8 26 (.int (i194 - (1 : Int32)))).bind fun h196 =>
  (pV h196 this 8 27 (.int (1 : Int32))).bind fun h198 =>
  (gA h198 this 8 21).bind fun r200 =>
  (r200).bind fun a202 =>
  (aI h198 0 a202 (i148 - (1 : Int32))).bind fun i205 =>
  zb2 (f_M_leaf this i155 x1 i161 i167 i205 h198) fun i207 h208 =>
  some (i207, h208)
  else none
theorem o_M_work {this : Nat} {x1 : Int32} {x2 : Int32} {h : Hp} {r0 : Int32} {h0 : Hp} (hf : f_M_work this x1 x2 h = some (r0, h0)) : isO h this 8 = true := by
  unfold f_M_work at hf
  exact (z_gd hf).1
set_option maxRecDepth 100000 in
set_option maxHeartbeats 4000000 in
theorem c_M_work {l : Launch} {N0 : Nat} {D : va_G} {cs : Nat → ClassId} {this : Nat} {x1 : Int32} {x2 : Int32} {h : Hp} {r0 : Int32} {h0 : Hp} (hf : f_M_work this x1 x2 h = some (r0, h0)) : Fn l N0 D cs y_M_work b_M_work 9 (some .int) 6 0 0 [.ref this, .int x1, .int x2] h (some (.int r0)) h0 := by
  refine z_start (by decide) (Nat.le_of_ble_eq_true rfl) ?_
  intro p e s m args below meth c M hH hS ls hl
  unfold f_M_work at hf
  obtain ⟨hO, hf⟩ := z_gd hf
  have hl : lv_has ls 9 [(0, .ref this), (1, .int x1), (2, .int x2)] := hl
  obtain ⟨H, hHe⟩ : ∃ H, H = s.heap := ⟨_, rfl⟩
  obtain ⟨locs, hLe⟩ : ∃ locs : List Loc, locs = [] := ⟨_, rfl⟩
  have hS : va_S (zA N0) s.heap H locs := by rw [hHe, hLe]; exact hS
  have hH : HH N0 D cs h H := by rw [hHe]; exact hH
  suffices hg : W p l e (zrm 6 0 0) s m args below meth c H locs 0 0 (MQ below (zQ N0 D cs (some (.int r0)) h0) args s 0 0 (zA N0)) (F0 m 0 ls []) by rw [hHe, hLe] at hg; exact hg
  clear hHe hLe
  refine lv_aload_n M.x M.b d_M_work_0 rfl (lv_at hl 0 rfl) ?_
  replace hf := z_bind hf; obtain ⟨i148, e149, hf⟩ := hf
  refine z_get (ci := 8) (k := 26) M hH rfl (by decide) zinM q_686 (gI_spec e149) d_M_work_1 ?_
  refine lv_iconst (v := (1 : Int32)) M.x M.b d_M_work_4 rfl ?_
  refine lv_isub M.x M.b d_M_work_5 ?_
  refine lv_istore_n (lv' := [(3, .int (i148 - (1 : Int32))), (0, .ref this), (1, .int x1), (2, .int x2)]) M.x M.b d_M_work_6 rfl hl (by decide) rfl (fun ls hl => ?_)
  refine lv_aload_n M.x M.b d_M_work_7 rfl (lv_at hl 1 rfl) ?_
  replace hf := z_bind hf; obtain ⟨r150, e151, hf⟩ := hf
  refine z_get (ci := 8) (k := 18) M hH rfl (by decide) zinM q_691 (gA_spec e151) d_M_work_8 ?_
  refine lv_iload_n M.x M.b d_M_work_11 rfl (lv_at hl 0 rfl) ?_
  rcases r150 with _ | a152
  · exact absurd hf z_nb0
  replace hf := z_sb hf
  replace hf := z_bind hf; obtain ⟨i155, e154, hf⟩ := hf
  refine z_iald M hH e154 d_M_work_12 ?_
  refine lv_istore (lv' := [(4, .int i155), (3, .int (i148 - (1 : Int32))), (0, .ref this), (1, .int x1), (2, .int x2)]) M.x M.b d_M_work_13 hl (by decide) rfl (fun ls hl => ?_)
  refine lv_aload_n M.x M.b d_M_work_15 rfl (lv_at hl 2 rfl) ?_
  replace hf := z_bind hf; obtain ⟨r156, e157, hf⟩ := hf
  refine z_get (ci := 8) (k := 19) M hH rfl (by decide) zinM q_690 (gA_spec e157) d_M_work_16 ?_
  refine lv_iload_n M.x M.b d_M_work_19 rfl (lv_at hl 1 rfl) ?_
  rcases r156 with _ | a158
  · exact absurd hf z_nb0
  replace hf := z_sb hf
  replace hf := z_bind hf; obtain ⟨i161, e160, hf⟩ := hf
  refine z_iald M hH e160 d_M_work_20 ?_
  refine lv_istore (lv' := [(5, .int i161), (4, .int i155), (3, .int (i148 - (1 : Int32))), (0, .ref this), (1, .int x1), (2, .int x2)]) M.x M.b d_M_work_21 hl (by decide) rfl (fun ls hl => ?_)
  refine lv_aload_n M.x M.b d_M_work_23 rfl (lv_at hl 3 rfl) ?_
  replace hf := z_bind hf; obtain ⟨r162, e163, hf⟩ := hf
  refine z_get (ci := 8) (k := 20) M hH rfl (by decide) zinM q_689 (gA_spec e163) d_M_work_24 ?_
  refine lv_iload_n M.x M.b d_M_work_27 rfl (lv_at hl 2 rfl) ?_
  rcases r162 with _ | a164
  · exact absurd hf z_nb0
  replace hf := z_sb hf
  replace hf := z_bind hf; obtain ⟨i167, e166, hf⟩ := hf
  refine z_iald M hH e166 d_M_work_28 ?_
  refine lv_istore (lv' := [(6, .int i167), (5, .int i161), (4, .int i155), (3, .int (i148 - (1 : Int32))), (0, .ref this), (1, .int x1), (2, .int x2)]) M.x M.b d_M_work_29 hl (by decide) rfl (fun ls hl => ?_)
  refine lv_aload_n M.x M.b d_M_work_31 rfl (lv_at hl 4 rfl) ?_
  replace hf := z_bind hf; obtain ⟨r168, e169, hf⟩ := hf
  refine z_get (ci := 8) (k := 3) M hH rfl (by decide) zinM q_647 (gA_spec e169) d_M_work_32 ?_
  refine lv_iload M.x M.b d_M_work_35 (lv_at hl 2 rfl) ?_
  rcases r168 with _ | a170
  · exact absurd hf z_nb0
  replace hf := z_sb hf
  replace hf := z_bind hf; obtain ⟨i173, e172, hf⟩ := hf
  refine z_iald M hH e172 d_M_work_37 ?_
  refine lv_istore (lv' := [(7, .int i173), (6, .int i167), (5, .int i161), (4, .int i155), (3, .int (i148 - (1 : Int32))), (0, .ref this), (1, .int x1), (2, .int x2)]) M.x M.b d_M_work_38 hl (by decide) rfl (fun ls hl => ?_)
  refine lv_iload M.x M.b d_M_work_40 (lv_at hl 0 rfl) ?_
  refine lv_bipush (v := (6 : Int32)) M.x M.b d_M_work_42 rfl ?_
  refine lv_icmp_ge (tgt := 80) M.x M.b d_M_work_44 (by decide) (fun c209 => ?_) (fun c209 => ?_)
  · replace hf := z_t c209 hf
    refine lv_iload M.x M.b d_M_work_80 (lv_at hl 0 rfl) ?_
    refine lv_bipush (v := (11 : Int32)) M.x M.b d_M_work_82 rfl ?_
    refine lv_icmp_ne (tgt := 248) M.x M.b d_M_work_84 (by decide) (fun c193 => ?_) (fun c193 => ?_)
    · replace hf := z_f c193 hf
      refine lv_aload_n M.x M.b d_M_work_248 rfl (lv_at hl 5 rfl) ?_
      refine lv_iload_n M.x M.b d_M_work_249 rfl (lv_at hl 7 rfl) ?_
      refine lv_if_eq (tgt := 275) M.x M.b d_M_work_250 (by decide) (fun c184 => ?_) (fun c184 => ?_)
      · replace hf := z_t c184 hf
        exact w_M_work_275 M this _ _ _ _ _ _ _ hf H locs ls hH hS (lv_sub hl [5, 7, 4, 3, 2, 1, 0] rfl)
      · replace hf := z_f c184 hf
        refine lv_iload M.x M.b d_M_work_253 (lv_at hl 0 rfl) ?_
        replace hf := z_bind hf; obtain ⟨i175, e174, hf⟩ := hf
        refine zk_S (st1 := [.int i175, .ref this]) M hH hS (c_M_isOne e174) w_M_isOne q_643 [.ref this] rfl ⟨Nat.le_of_ble_eq_true rfl, Nat.le_of_ble_eq_true rfl⟩ hl.1 rfl rfl (Nat.le_of_ble_eq_true rfl) d_M_work_255 (fun H locs hH hS => ?_)
        refine lv_if_ne (tgt := 271) M.x M.b d_M_work_258 (by decide) (fun c183 => ?_) (fun c183 => ?_)
        · replace hf := z_f c183 hf
          exact w_M_work_271 M this _ _ _ _ _ _ _ hf H locs ls hH hS (lv_sub hl [5, 7, 4, 3, 2, 1, 0] rfl)
        · replace hf := z_t c183 hf
          refine lv_aload_n M.x M.b d_M_work_261 rfl (lv_at hl 5 rfl) ?_
          replace hf := z_bind hf; obtain ⟨r176, e177, hf⟩ := hf
          refine z_get (ci := 8) (k := 22) M hH rfl (by decide) zinM q_687 (gA_spec e177) d_M_work_262 ?_
          refine lv_iload_n M.x M.b d_M_work_265 rfl (lv_at hl 4 rfl) ?_
          rcases r176 with _ | a178
          · exact absurd hf z_nb0
          replace hf := z_sb hf
          replace hf := z_bind hf; obtain ⟨i181, e180, hf⟩ := hf
          refine z_iald M hH e180 d_M_work_266 ?_
          refine lv_iconst (v := (1 : Int32)) M.x M.b d_M_work_267 rfl ?_
          refine lv_icmp_ne (tgt := 275) M.x M.b d_M_work_268 (by decide) (fun c182 => ?_) (fun c182 => ?_)
          · replace hf := z_f c182 hf
            exact w_M_work_275 M this _ _ _ _ _ _ _ hf H locs ls hH hS (lv_sub hl [5, 7, 4, 3, 2, 1, 0] rfl)
          · replace hf := z_t c182 hf
            exact w_M_work_271 M this _ _ _ _ _ _ _ hf H locs ls hH hS (lv_sub hl [5, 7, 4, 3, 2, 1, 0] rfl)
    · replace hf := z_t c193 hf
      refine lv_iload_n M.x M.b d_M_work_87 rfl (lv_at hl 7 rfl) ?_
      refine lv_if_eq (tgt := 115) M.x M.b d_M_work_88 (by decide) (fun c192 => ?_) (fun c192 => ?_)
      · replace hf := z_t c192 hf
        refine lv_iconst (v := (0 : Int32)) M.x M.b d_M_work_115 rfl ?_
        exact w_M_work_116 M this _ _ _ _ _ _ hf H locs ls hH hS (lv_sub hl [5, 4, 3, 2, 1] rfl)
      · replace hf := z_f c192 hf
        refine lv_aload_n M.x M.b d_M_work_91 rfl (lv_at hl 5 rfl) ?_
        refine lv_iload_n M.x M.b d_M_work_92 rfl (lv_at hl 4 rfl) ?_
        refine lv_aload_n M.x M.b d_M_work_93 rfl (lv_at hl 5 rfl) ?_
        replace hf := z_bind hf; obtain ⟨r185, e186, hf⟩ := hf
        refine z_get (ci := 8) (k := 22) M hH rfl (by decide) zinM q_687 (gA_spec e186) d_M_work_94 ?_
        refine lv_iload_n M.x M.b d_M_work_97 rfl (lv_at hl 4 rfl) ?_
        rcases r185 with _ | a187
        · exact absurd hf z_nb0
        replace hf := z_sb hf
        replace hf := z_bind hf; obtain ⟨i190, e189, hf⟩ := hf
        refine z_iald M hH e189 d_M_work_98 ?_
        refine lv_iload M.x M.b d_M_work_99 (lv_at hl 2 rfl) ?_
        refine lv_icmp_ne (tgt := 108) M.x M.b d_M_work_101 (by decide) (fun c191 => ?_) (fun c191 => ?_)
        · replace hf := z_f c191 hf
          refine lv_iconst (v := (0 : Int32)) M.x M.b d_M_work_108 rfl ?_
          exact w_M_work_109 M this _ _ _ _ _ _ _ hf H locs ls hH hS (lv_sub hl [5, 4, 3, 2, 1] rfl)
        · replace hf := z_t c191 hf
          refine lv_iconst (v := (1 : Int32)) M.x M.b d_M_work_104 rfl ?_
          refine lv_goto (tgt := 109) M.x M.b d_M_work_105 (by decide) ?_
          exact w_M_work_109 M this _ _ _ _ _ _ _ hf H locs ls hH hS (lv_sub hl [5, 4, 3, 2, 1] rfl)
  · replace hf := z_f c209 hf
    refine lv_aload_n M.x M.b d_M_work_47 rfl (lv_at hl 5 rfl) ?_
    refine lv_dup M.x M.b d_M_work_48 rfl ?_
    replace hf := z_bind hf; obtain ⟨i194, e195, hf⟩ := hf
    refine z_get (ci := 8) (k := 26) M hH rfl (by decide) zinM q_686 (gI_spec e195) d_M_work_49 ?_
    refine lv_iconst (v := (1 : Int32)) M.x M.b d_M_work_52 rfl ?_
    refine lv_isub M.x M.b d_M_work_53 ?_
    replace hf := z_bind hf; obtain ⟨h196, e197, hf⟩ := hf
    refine z_put (ci := 8) (k := 26) M hH hS rfl (by decide) zinM zYM zYM_ok zNM_ok rfl q_686 rfl rfl rfl e197 d_M_work_54 (fun H locs hH hS => ?_)
    refine lv_aload_n M.x M.b d_M_work_57 rfl (lv_at hl 5 rfl) ?_
    refine lv_iconst (v := (1 : Int32)) M.x M.b d_M_work_58 rfl ?_
    replace hf := z_bind hf; obtain ⟨h198, e199, hf⟩ := hf
    refine z_put (ci := 8) (k := 27) M hH hS rfl (by decide) zinM zYM zYM_ok zNM_ok rfl q_726 rfl (z_nb (by decide)) (z_fb (by decide)) e199 d_M_work_59 (fun H locs hH hS => ?_)
    refine lv_aload_n M.x M.b d_M_work_62 rfl (lv_at hl 5 rfl) ?_
    refine lv_iload M.x M.b d_M_work_63 (lv_at hl 3 rfl) ?_
    refine lv_iload_n M.x M.b d_M_work_65 rfl (lv_at hl 6 rfl) ?_
    refine lv_iload M.x M.b d_M_work_66 (lv_at hl 2 rfl) ?_
    refine lv_iload M.x M.b d_M_work_68 (lv_at hl 1 rfl) ?_
    refine lv_aload_n M.x M.b d_M_work_70 rfl (lv_at hl 5 rfl) ?_
    replace hf := z_bind hf; obtain ⟨r200, e201, hf⟩ := hf
    refine z_get (ci := 8) (k := 21) M hH rfl (by decide) zinM q_688 (gA_spec e201) d_M_work_71 ?_
    refine lv_iload_n M.x M.b d_M_work_74 rfl (lv_at hl 4 rfl) ?_
    rcases r200 with _ | a202
    · exact absurd hf z_nb0
    replace hf := z_sb hf
    replace hf := z_bind hf; obtain ⟨i205, e204, hf⟩ := hf
    refine z_iald M hH e204 d_M_work_75 ?_
    replace hf := z_bind2 hf; obtain ⟨i207, h208, e206, hf⟩ := hf
    refine zk_V (ci := 8) (st1 := [.int i207]) M hH hS (c_M_leaf e206) rfl (o_M_leaf e206) w_M_leaf q_728 [] rfl ⟨Nat.le_of_ble_eq_true rfl, Nat.le_of_ble_eq_true rfl⟩ hl.1 rfl rfl (Nat.le_of_ble_eq_true rfl) d_M_work_76 (fun H locs hH hS => ?_)
    obtain ⟨rfl, rfl⟩ := z_r2 hf
    exact z_iret M hH hS d_M_work_79
def t_M_find_20 (this : Nat) (k20 : Int32 → Int32 → Hp → Option ((Int32 × Hp))) (x2 : Int32) (x5 : Int32) (h : Hp) : Option ((Int32 × Hp)) :=
  (gI h this 8 26).bind fun i1 =>
  if i1 ≤ 0 then
    some ((0 : Int32), h)
  else
  zb2 (f_M_work this x2 x5 h) fun i4 h5 =>
  if 0 ≤ i4 then
    (gI h5 this 8 27).bind fun i6 =>
    k20 x2 i6 h5
  else
  some (i4, h5)
set_option maxRecDepth 100000 in
set_option maxHeartbeats 4000000 in
theorem v_M_find_20 {p : Program} {l : Launch} {e : Env} {s : State} {m : MethodId} {args : Array Value} {below : List Frame} {meth : Method} {c : Code} {N0 : Nat} {D : va_G} {cs : Nat → ClassId} (M : ZC p s m args meth c "YearBasketsModel" "find" b_M_find 7 (some .int) N0 D cs) (this : Nat) (k20 : Int32 → Int32 → Hp → Option ((Int32 × Hp))) {r0 : Int32} {h0 : Hp} (hk20 : ∀ (x2 : Int32) (x5 : Int32) (h : Hp), k20 x2 x5 h = some (r0, h0) → ZG p l e (zrm 7 0 0) s m args below meth c N0 D cs (some (.int r0)) h0 h 7 [(0, .ref this), (2, .int x2), (5, .int x5)] 20 []) (x2 : Int32) (x5 : Int32) (h : Hp) (hf : t_M_find_20 this k20 x2 x5 h = some (r0, h0)) : ZG p l e (zrm 7 0 0) s m args below meth c N0 D cs (some (.int r0)) h0 h 7 [(0, .ref this), (2, .int x2), (5, .int x5)] 20 [] := by
  intro H locs ls hH hS hl
  unfold t_M_find_20 at hf
  refine lv_aload_n M.x M.b d_M_find_20 rfl (lv_at hl 0 rfl) ?_
  replace hf := z_bind hf; obtain ⟨i1, e2, hf⟩ := hf
  refine z_get (ci := 8) (k := 26) M hH rfl (by decide) zinM q_686 (gI_spec e2) d_M_find_21 ?_
  refine lv_if_le (tgt := 53) M.x M.b d_M_find_24 (by decide) (fun c9 => ?_) (fun c9 => ?_)
  · replace hf := z_t c9 hf
    refine lv_iconst (v := (0 : Int32)) M.x M.b d_M_find_53 rfl ?_
    obtain ⟨rfl, rfl⟩ := z_r2 hf
    exact z_iret M hH hS d_M_find_54
  · replace hf := z_f c9 hf
    refine lv_aload_n M.x M.b d_M_find_27 rfl (lv_at hl 0 rfl) ?_
    refine lv_iload_n M.x M.b d_M_find_28 rfl (lv_at hl 1 rfl) ?_
    refine lv_iload M.x M.b d_M_find_29 (lv_at hl 2 rfl) ?_
    replace hf := z_bind2 hf; obtain ⟨i4, h5, e3, hf⟩ := hf
    refine zk_V (ci := 8) (st1 := [.int i4]) M hH hS (c_M_work e3) rfl (o_M_work e3) w_M_work q_732 [] rfl ⟨Nat.le_of_ble_eq_true rfl, Nat.le_of_ble_eq_true rfl⟩ hl.1 rfl rfl (Nat.le_of_ble_eq_true rfl) d_M_find_31 (fun H locs hH hS => ?_)
    refine lv_istore (lv' := [(6, .int i4), (0, .ref this), (2, .int x2), (5, .int x5)]) M.x M.b d_M_find_34 hl (by decide) rfl (fun ls hl => ?_)
    refine lv_iload M.x M.b d_M_find_36 (lv_at hl 0 rfl) ?_
    refine lv_if_ge (tgt := 44) M.x M.b d_M_find_38 (by decide) (fun c8 => ?_) (fun c8 => ?_)
    · replace hf := z_t c8 hf
      refine lv_aload_n M.x M.b d_M_find_44 rfl (lv_at hl 1 rfl) ?_
      replace hf := z_bind hf; obtain ⟨i6, e7, hf⟩ := hf
      refine z_get (ci := 8) (k := 27) M hH rfl (by decide) zinM q_726 (gI_spec e7) d_M_find_45 ?_
      refine lv_istore (lv' := [(5, .int i6), (6, .int i4), (0, .ref this), (2, .int x2)]) M.x M.b d_M_find_48 hl (by decide) rfl (fun ls hl => ?_)
      refine lv_goto (tgt := 20) M.x M.b d_M_find_50 (by decide) ?_
      exact hk20 _ _ _ hf H locs ls hH hS (lv_sub hl [2, 3, 0] rfl)
    · replace hf := z_f c8 hf
      refine lv_iload M.x M.b d_M_find_41 (lv_at hl 0 rfl) ?_
      obtain ⟨rfl, rfl⟩ := z_r2 hf
      exact z_iret M hH hS d_M_find_43
def f_M_find_20 (this : Nat) : Nat → Int32 → Int32 → Hp → Option ((Int32 × Hp))
  | 0, _, _, _ => none
  | n + 1, x2, x5, h => t_M_find_20 this (f_M_find_20 this n) x2 x5 h
theorem w_M_find_20 {p : Program} {l : Launch} {e : Env} {s : State} {m : MethodId} {args : Array Value} {below : List Frame} {meth : Method} {c : Code} {N0 : Nat} {D : va_G} {cs : Nat → ClassId} (M : ZC p s m args meth c "YearBasketsModel" "find" b_M_find 7 (some .int) N0 D cs) (this : Nat)  {r0 : Int32} {h0 : Hp}  : ∀ (n : Nat) (x2 : Int32) (x5 : Int32) (h : Hp), f_M_find_20 this n x2 x5 h = some (r0, h0) → ZG p l e (zrm 7 0 0) s m args below meth c N0 D cs (some (.int r0)) h0 h 7 [(0, .ref this), (2, .int x2), (5, .int x5)] 20 [] := by
  intro n
  induction n with
  | zero => intro x2 x5 h hf; exact absurd (show none = some _ from hf) (fun q => by cases q)
  | succ n ih => intro x2 x5 h hf; exact v_M_find_20 M this (f_M_find_20 this n)  ih _ _ _ hf
def f_M_find (this : Nat) (x1 : Int32) (x2 : Int32) (x3 : Int32) (x4 : Int32) (h : Hp) : Option ((Int32 × Hp)) :=
  if isO h this 8 = true then
  (pV h this 8 26 (.int (0 : Int32))).bind fun h10 =>
  (f_M_allGoods this h10).bind fun i13 =>
  (f_M_push this x1 x3 x4 i13 h10).bind fun h15 =>
  f_M_find_20 this FU x2 (0 : Int32) h15
  else none
theorem o_M_find {this : Nat} {x1 : Int32} {x2 : Int32} {x3 : Int32} {x4 : Int32} {h : Hp} {r0 : Int32} {h0 : Hp} (hf : f_M_find this x1 x2 x3 x4 h = some (r0, h0)) : isO h this 8 = true := by
  unfold f_M_find at hf
  exact (z_gd hf).1
set_option maxRecDepth 100000 in
set_option maxHeartbeats 4000000 in
theorem c_M_find {l : Launch} {N0 : Nat} {D : va_G} {cs : Nat → ClassId} {this : Nat} {x1 : Int32} {x2 : Int32} {x3 : Int32} {x4 : Int32} {h : Hp} {r0 : Int32} {h0 : Hp} (hf : f_M_find this x1 x2 x3 x4 h = some (r0, h0)) : Fn l N0 D cs y_M_find b_M_find 7 (some .int) 7 0 0 [.ref this, .int x1, .int x2, .int x3, .int x4] h (some (.int r0)) h0 := by
  refine z_start (by decide) (Nat.le_of_ble_eq_true rfl) ?_
  intro p e s m args below meth c M hH hS ls hl
  unfold f_M_find at hf
  obtain ⟨hO, hf⟩ := z_gd hf
  have hl : lv_has ls 7 [(0, .ref this), (1, .int x1), (2, .int x2), (3, .int x3), (4, .int x4)] := hl
  obtain ⟨H, hHe⟩ : ∃ H, H = s.heap := ⟨_, rfl⟩
  obtain ⟨locs, hLe⟩ : ∃ locs : List Loc, locs = [] := ⟨_, rfl⟩
  have hS : va_S (zA N0) s.heap H locs := by rw [hHe, hLe]; exact hS
  have hH : HH N0 D cs h H := by rw [hHe]; exact hH
  suffices hg : W p l e (zrm 7 0 0) s m args below meth c H locs 0 0 (MQ below (zQ N0 D cs (some (.int r0)) h0) args s 0 0 (zA N0)) (F0 m 0 ls []) by rw [hHe, hLe] at hg; exact hg
  clear hHe hLe
  refine lv_aload_n M.x M.b d_M_find_0 rfl (lv_at hl 0 rfl) ?_
  refine lv_iconst (v := (0 : Int32)) M.x M.b d_M_find_1 rfl ?_
  replace hf := z_bind hf; obtain ⟨h10, e11, hf⟩ := hf
  refine z_put (ci := 8) (k := 26) M hH hS rfl (by decide) zinM zYM zYM_ok zNM_ok rfl q_686 rfl rfl rfl e11 d_M_find_2 (fun H locs hH hS => ?_)
  refine lv_aload_n M.x M.b d_M_find_5 rfl (lv_at hl 0 rfl) ?_
  refine lv_iload_n M.x M.b d_M_find_6 rfl (lv_at hl 1 rfl) ?_
  refine lv_iload_n M.x M.b d_M_find_7 rfl (lv_at hl 3 rfl) ?_
  refine lv_iload M.x M.b d_M_find_8 (lv_at hl 4 rfl) ?_
  refine lv_aload_n M.x M.b d_M_find_10 rfl (lv_at hl 0 rfl) ?_
  replace hf := z_bind hf; obtain ⟨i13, e12, hf⟩ := hf
  refine zk_V (ci := 8) (st1 := [.int i13, .int x4, .int x3, .int x1, .ref this]) M hH hS (c_M_allGoods e12) rfl (o_M_allGoods e12) w_M_allGoods q_593 [.int x4, .int x3, .int x1, .ref this] rfl ⟨Nat.le_of_ble_eq_true rfl, Nat.le_of_ble_eq_true rfl⟩ hl.1 rfl rfl (Nat.le_of_ble_eq_true rfl) d_M_find_11 (fun H locs hH hS => ?_)
  replace hf := z_bind hf; obtain ⟨h15, e14, hf⟩ := hf
  refine zk_V (ci := 8) (st1 := []) M hH hS (c_M_push e14) rfl (o_M_push e14) w_M_push q_724 [] rfl ⟨Nat.le_of_ble_eq_true rfl, Nat.le_of_ble_eq_true rfl⟩ hl.1 rfl rfl (Nat.le_of_ble_eq_true rfl) d_M_find_14 (fun H locs hH hS => ?_)
  refine lv_iconst (v := (0 : Int32)) M.x M.b d_M_find_17 rfl ?_
  refine lv_istore (lv' := [(5, .int (0 : Int32)), (0, .ref this), (1, .int x1), (2, .int x2), (3, .int x3), (4, .int x4)]) M.x M.b d_M_find_18 hl (by decide) rfl (fun ls hl => ?_)
  exact w_M_find_20 M this FU _ _ _ hf H locs ls hH hS (lv_sub hl [1, 3, 0] rfl)
def f_M_isNumber (this : Nat) (h : Hp) (x1 : Int32) : Option (Int32) :=
  if isO h this 8 = true then
  (gI h this 8 2).bind fun i1 =>
  (f_M_in (x1).toInt64 (0 : Int64) ((i1 - (1 : Int32))).toInt64).bind fun i4 =>
  (zB i4).bind fun _ =>
  some i4
  else none
theorem o_M_isNumber {this : Nat} {h : Hp} {x1 : Int32} {r0 : Int32} (hf : f_M_isNumber this h x1 = some r0) : isO h this 8 = true := by
  unfold f_M_isNumber at hf
  exact (z_gd hf).1
set_option maxRecDepth 100000 in
set_option maxHeartbeats 4000000 in
theorem c_M_isNumber {l : Launch} {N0 : Nat} {D : va_G} {cs : Nat → ClassId} {this : Nat} {h : Hp} {x1 : Int32} {r0 : Int32} (hf : f_M_isNumber this h x1 = some r0) : Fn l N0 D cs y_M_isNumber b_M_isNumber 2 (some .boolean) 2 0 0 [.ref this, .int x1] h (some (.int r0)) h := by
  refine z_start (by decide) (Nat.le_of_ble_eq_true rfl) ?_
  intro p e s m args below meth c M hH hS ls hl
  unfold f_M_isNumber at hf
  obtain ⟨hO, hf⟩ := z_gd hf
  have hl : lv_has ls 2 [(0, .ref this), (1, .int x1)] := hl
  obtain ⟨H, hHe⟩ : ∃ H, H = s.heap := ⟨_, rfl⟩
  obtain ⟨locs, hLe⟩ : ∃ locs : List Loc, locs = [] := ⟨_, rfl⟩
  have hS : va_S (zA N0) s.heap H locs := by rw [hHe, hLe]; exact hS
  have hH : HH N0 D cs h H := by rw [hHe]; exact hH
  suffices hg : W p l e (zrm 2 0 0) s m args below meth c H locs 0 0 (MQ below (zQ N0 D cs (some (.int r0)) h) args s 0 0 (zA N0)) (F0 m 0 ls []) by rw [hHe, hLe] at hg; exact hg
  clear hHe hLe
  refine lv_iload_n M.x M.b d_M_isNumber_0 rfl (lv_at hl 1 rfl) ?_
  refine lv_i2l M.x M.b d_M_isNumber_1 rfl ?_
  refine lv_lconst (v := (0 : Int64)) M.x M.b d_M_isNumber_2 rfl ?_
  refine lv_aload_n M.x M.b d_M_isNumber_3 rfl (lv_at hl 0 rfl) ?_
  replace hf := z_bind hf; obtain ⟨i1, e2, hf⟩ := hf
  refine z_get (ci := 8) (k := 2) M hH rfl (by decide) zinM q_597 (gI_spec e2) d_M_isNumber_4 ?_
  refine lv_iconst (v := (1 : Int32)) M.x M.b d_M_isNumber_7 rfl ?_
  refine lv_isub M.x M.b d_M_isNumber_8 ?_
  refine lv_i2l M.x M.b d_M_isNumber_9 rfl ?_
  replace hf := z_bind hf; obtain ⟨i4, e3, hf⟩ := hf
  refine zk_S (st1 := [.int i4]) M hH hS (c_M_in e3) w_M_in q_551 [] rfl ⟨Nat.le_of_ble_eq_true rfl, Nat.le_of_ble_eq_true rfl⟩ hl.1 rfl rfl (Nat.le_of_ble_eq_true rfl) d_M_isNumber_10 (fun H locs hH hS => ?_)
  replace hf := z_bind hf; obtain ⟨_, e5, hf⟩ := hf
  have z6 := (zB_spec e5).2
  obtain rfl := z_r1 hf
  exact z_zret M hH hS z6 d_M_isNumber_13
def f_M_worth (this : Nat) (x1 : Int32) (x2 : Int32) (x3 : Int32) (x4 : Int32) (x5 : Int32) (h : Hp) : Option ((Int64 × Hp)) :=
  if isO h this 8 = true then
  (f_M_isNumber this h x1).bind fun i2 =>
  if i2 = 0 then
    some ((-1001 : Int64), h)
  else
  (f_M_isWho x2).bind fun i4 =>
  if i4 = 0 then
    some ((-1001 : Int64), h)
  else
  (f_M_isYear x3).bind fun i6 =>
  if i6 = 0 then
    some ((-1001 : Int64), h)
  else
  (f_M_isYear x4).bind fun i8 =>
  if i8 = 0 then
    some ((-1001 : Int64), h)
  else
  (f_M_in (x5).toInt64 (0 : Int64) (2 : Int64)).bind fun i10 =>
  if i10 = 0 then
    some ((-1002 : Int64), h)
  else
  zb2 (f_M_find this ((40 : Int32) * x1) x2 x3 x4 h) fun i12 h13 =>
  if 0 ≤ i12 then
    if x5 = 0 then
      (gL h13 this 8 14).bind fun l20 =>
      some (l20, h13)
    else
    if x5 = (1 : Int32) then
      (gL h13 this 8 15).bind fun l17 =>
      some (l17, h13)
    else
    (gI h13 this 8 16).bind fun i14 =>
    if i14 = 0 then
      some ((0 : Int64), h13)
    else
    some ((1 : Int64), h13)
  else
  some ((i12).toInt64, h13)
  else none
theorem o_M_worth {this : Nat} {x1 : Int32} {x2 : Int32} {x3 : Int32} {x4 : Int32} {x5 : Int32} {h : Hp} {r0 : Int64} {h0 : Hp} (hf : f_M_worth this x1 x2 x3 x4 x5 h = some (r0, h0)) : isO h this 8 = true := by
  unfold f_M_worth at hf
  exact (z_gd hf).1
set_option maxRecDepth 100000 in
set_option maxHeartbeats 4000000 in
theorem c_M_worth {l : Launch} {N0 : Nat} {D : va_G} {cs : Nat → ClassId} {this : Nat} {x1 : Int32} {x2 : Int32} {x3 : Int32} {x4 : Int32} {x5 : Int32} {h : Hp} {r0 : Int64} {h0 : Hp} (hf : f_M_worth this x1 x2 x3 x4 x5 h = some (r0, h0)) : Fn l N0 D cs y_M_worth b_M_worth 7 (some .long) 8 0 0 [.ref this, .int x1, .int x2, .int x3, .int x4, .int x5] h (some (.long r0)) h0 := by
  refine z_start (by decide) (Nat.le_of_ble_eq_true rfl) ?_
  intro p e s m args below meth c M hH hS ls hl
  unfold f_M_worth at hf
  obtain ⟨hO, hf⟩ := z_gd hf
  have hl : lv_has ls 7 [(0, .ref this), (1, .int x1), (2, .int x2), (3, .int x3), (4, .int x4), (5, .int x5)] := hl
  obtain ⟨H, hHe⟩ : ∃ H, H = s.heap := ⟨_, rfl⟩
  obtain ⟨locs, hLe⟩ : ∃ locs : List Loc, locs = [] := ⟨_, rfl⟩
  have hS : va_S (zA N0) s.heap H locs := by rw [hHe, hLe]; exact hS
  have hH : HH N0 D cs h H := by rw [hHe]; exact hH
  suffices hg : W p l e (zrm 8 0 0) s m args below meth c H locs 0 0 (MQ below (zQ N0 D cs (some (.long r0)) h0) args s 0 0 (zA N0)) (F0 m 0 ls []) by rw [hHe, hLe] at hg; exact hg
  clear hHe hLe
  refine lv_aload_n M.x M.b d_M_worth_0 rfl (lv_at hl 0 rfl) ?_
  refine lv_iload_n M.x M.b d_M_worth_1 rfl (lv_at hl 1 rfl) ?_
  replace hf := z_bind hf; obtain ⟨i2, e1, hf⟩ := hf
  refine zk_V (ci := 8) (st1 := [.int i2]) M hH hS (c_M_isNumber e1) rfl (o_M_isNumber e1) w_M_isNumber q_742 [] rfl ⟨Nat.le_of_ble_eq_true rfl, Nat.le_of_ble_eq_true rfl⟩ hl.1 rfl rfl (Nat.le_of_ble_eq_true rfl) d_M_worth_2 (fun H locs hH hS => ?_)
  refine lv_if_eq (tgt := 30) M.x M.b d_M_worth_5 (by decide) (fun c28 => ?_) (fun c28 => ?_)
  · replace hf := z_t c28 hf
    refine z_ldc2 (v := (-1001 : Int64)) M q_739 d_M_worth_30 ?_
    obtain ⟨rfl, rfl⟩ := z_r2 hf
    exact z_lret M hH hS d_M_worth_33
  · replace hf := z_f c28 hf
    refine lv_iload_n M.x M.b d_M_worth_8 rfl (lv_at hl 2 rfl) ?_
    replace hf := z_bind hf; obtain ⟨i4, e3, hf⟩ := hf
    refine zk_S (st1 := [.int i4]) M hH hS (c_M_isWho e3) w_M_isWho q_582 [] rfl ⟨Nat.le_of_ble_eq_true rfl, Nat.le_of_ble_eq_true rfl⟩ hl.1 rfl rfl (Nat.le_of_ble_eq_true rfl) d_M_worth_9 (fun H locs hH hS => ?_)
    refine lv_if_eq (tgt := 30) M.x M.b d_M_worth_12 (by decide) (fun c27 => ?_) (fun c27 => ?_)
    · replace hf := z_t c27 hf
      refine z_ldc2 (v := (-1001 : Int64)) M q_739 d_M_worth_30 ?_
      obtain ⟨rfl, rfl⟩ := z_r2 hf
      exact z_lret M hH hS d_M_worth_33
    · replace hf := z_f c27 hf
      refine lv_iload_n M.x M.b d_M_worth_15 rfl (lv_at hl 3 rfl) ?_
      replace hf := z_bind hf; obtain ⟨i6, e5, hf⟩ := hf
      refine zk_S (st1 := [.int i6]) M hH hS (c_M_isYear e5) w_M_isYear q_564 [] rfl ⟨Nat.le_of_ble_eq_true rfl, Nat.le_of_ble_eq_true rfl⟩ hl.1 rfl rfl (Nat.le_of_ble_eq_true rfl) d_M_worth_16 (fun H locs hH hS => ?_)
      refine lv_if_eq (tgt := 30) M.x M.b d_M_worth_19 (by decide) (fun c26 => ?_) (fun c26 => ?_)
      · replace hf := z_t c26 hf
        refine z_ldc2 (v := (-1001 : Int64)) M q_739 d_M_worth_30 ?_
        obtain ⟨rfl, rfl⟩ := z_r2 hf
        exact z_lret M hH hS d_M_worth_33
      · replace hf := z_f c26 hf
        refine lv_iload M.x M.b d_M_worth_22 (lv_at hl 4 rfl) ?_
        replace hf := z_bind hf; obtain ⟨i8, e7, hf⟩ := hf
        refine zk_S (st1 := [.int i8]) M hH hS (c_M_isYear e7) w_M_isYear q_564 [] rfl ⟨Nat.le_of_ble_eq_true rfl, Nat.le_of_ble_eq_true rfl⟩ hl.1 rfl rfl (Nat.le_of_ble_eq_true rfl) d_M_worth_24 (fun H locs hH hS => ?_)
        refine lv_if_ne (tgt := 34) M.x M.b d_M_worth_27 (by decide) (fun c25 => ?_) (fun c25 => ?_)
        · replace hf := z_f c25 hf
          refine lv_iload M.x M.b d_M_worth_34 (lv_at hl 5 rfl) ?_
          refine lv_i2l M.x M.b d_M_worth_36 rfl ?_
          refine lv_lconst (v := (0 : Int64)) M.x M.b d_M_worth_37 rfl ?_
          refine z_ldc2 (v := (2 : Int64)) M q_568 d_M_worth_38 ?_
          replace hf := z_bind hf; obtain ⟨i10, e9, hf⟩ := hf
          refine zk_S (st1 := [.int i10]) M hH hS (c_M_in e9) w_M_in q_551 [] rfl ⟨Nat.le_of_ble_eq_true rfl, Nat.le_of_ble_eq_true rfl⟩ hl.1 rfl rfl (Nat.le_of_ble_eq_true rfl) d_M_worth_41 (fun H locs hH hS => ?_)
          refine lv_if_ne (tgt := 51) M.x M.b d_M_worth_44 (by decide) (fun c24 => ?_) (fun c24 => ?_)
          · replace hf := z_f c24 hf
            refine lv_aload_n M.x M.b d_M_worth_51 rfl (lv_at hl 0 rfl) ?_
            refine lv_bipush (v := (40 : Int32)) M.x M.b d_M_worth_52 rfl ?_
            refine lv_iload_n M.x M.b d_M_worth_54 rfl (lv_at hl 1 rfl) ?_
            refine lv_imul M.x M.b d_M_worth_55 ?_
            refine lv_iload_n M.x M.b d_M_worth_56 rfl (lv_at hl 2 rfl) ?_
            refine lv_iload_n M.x M.b d_M_worth_57 rfl (lv_at hl 3 rfl) ?_
            refine lv_iload M.x M.b d_M_worth_58 (lv_at hl 4 rfl) ?_
            replace hf := z_bind2 hf; obtain ⟨i12, h13, e11, hf⟩ := hf
            refine zk_V (ci := 8) (st1 := [.int i12]) M hH hS (c_M_find e11) rfl (o_M_find e11) w_M_find q_740 [] rfl ⟨Nat.le_of_ble_eq_true rfl, Nat.le_of_ble_eq_true rfl⟩ hl.1 rfl rfl (Nat.le_of_ble_eq_true rfl) d_M_worth_60 (fun H locs hH hS => ?_)
            refine lv_istore (lv' := [(6, .int i12), (0, .ref this), (1, .int x1), (2, .int x2), (3, .int x3), (4, .int x4), (5, .int x5)]) M.x M.b d_M_worth_63 hl (by decide) rfl (fun ls hl => ?_)
            refine lv_iload M.x M.b d_M_worth_65 (lv_at hl 0 rfl) ?_
            refine lv_if_ge (tgt := 76) M.x M.b d_M_worth_67 (by decide) (fun c23 => ?_) (fun c23 => ?_)
            · replace hf := z_t c23 hf
              refine lv_iload M.x M.b d_M_worth_76 (lv_at hl 6 rfl) ?_
              refine lv_if_ne (tgt := 88) M.x M.b d_M_worth_78 (by decide) (fun c22 => ?_) (fun c22 => ?_)
              · replace hf := z_f c22 hf
                refine lv_iload M.x M.b d_M_worth_88 (lv_at hl 6 rfl) ?_
                refine lv_iconst (v := (1 : Int32)) M.x M.b d_M_worth_90 rfl ?_
                refine lv_icmp_ne (tgt := 101) M.x M.b d_M_worth_91 (by decide) (fun c19 => ?_) (fun c19 => ?_)
                · replace hf := z_f c19 hf
                  refine lv_aload_n M.x M.b d_M_worth_101 rfl (lv_at hl 1 rfl) ?_
                  replace hf := z_bind hf; obtain ⟨i14, e15, hf⟩ := hf
                  refine z_get (ci := 8) (k := 16) M hH rfl (by decide) zinM q_669 (gI_spec e15) d_M_worth_102 ?_
                  refine lv_if_eq (tgt := 112) M.x M.b d_M_worth_105 (by decide) (fun c16 => ?_) (fun c16 => ?_)
                  · replace hf := z_t c16 hf
                    refine lv_lconst (v := (0 : Int64)) M.x M.b d_M_worth_112 rfl ?_
                    obtain ⟨rfl, rfl⟩ := z_r2 hf
                    exact z_lret M hH hS d_M_worth_113
                  · replace hf := z_f c16 hf
                    refine lv_lconst (v := (1 : Int64)) M.x M.b d_M_worth_108 rfl ?_
                    refine lv_goto (tgt := 113) M.x M.b d_M_worth_109 (by decide) ?_
                    obtain ⟨rfl, rfl⟩ := z_r2 hf
                    exact z_lret M hH hS d_M_worth_113
                · replace hf := z_t c19 hf
                  refine lv_aload_n M.x M.b d_M_worth_94 rfl (lv_at hl 1 rfl) ?_
                  replace hf := z_bind hf; obtain ⟨l17, e18, hf⟩ := hf
                  refine z_get (ci := 8) (k := 15) M hH rfl (by decide) zinM q_667 (gL_spec e18) d_M_worth_95 ?_
                  refine lv_goto (tgt := 113) M.x M.b d_M_worth_98 (by decide) ?_
                  obtain ⟨rfl, rfl⟩ := z_r2 hf
                  exact z_lret M hH hS d_M_worth_113
              · replace hf := z_t c22 hf
                refine lv_aload_n M.x M.b d_M_worth_81 rfl (lv_at hl 1 rfl) ?_
                replace hf := z_bind hf; obtain ⟨l20, e21, hf⟩ := hf
                refine z_get (ci := 8) (k := 14) M hH rfl (by decide) zinM q_668 (gL_spec e21) d_M_worth_82 ?_
                refine lv_goto (tgt := 113) M.x M.b d_M_worth_85 (by decide) ?_
                obtain ⟨rfl, rfl⟩ := z_r2 hf
                exact z_lret M hH hS d_M_worth_113
            · replace hf := z_f c23 hf
              refine lv_iload M.x M.b d_M_worth_70 (lv_at hl 0 rfl) ?_
              refine lv_i2l M.x M.b d_M_worth_72 rfl ?_
              refine lv_goto (tgt := 113) M.x M.b d_M_worth_73 (by decide) ?_
              obtain ⟨rfl, rfl⟩ := z_r2 hf
              exact z_lret M hH hS d_M_worth_113
          · replace hf := z_t c24 hf
            refine z_ldc2 (v := (-1002 : Int64)) M q_741 d_M_worth_47 ?_
            obtain ⟨rfl, rfl⟩ := z_r2 hf
            exact z_lret M hH hS d_M_worth_50
        · replace hf := z_t c25 hf
          refine z_ldc2 (v := (-1001 : Int64)) M q_739 d_M_worth_30 ?_
          obtain ⟨rfl, rfl⟩ := z_r2 hf
          exact z_lret M hH hS d_M_worth_33
def f_M_keep (this : Nat) (x1 : Int32) (h : Hp) : Option (Hp) :=
  if isO h this 8 = true then
  (gA h this 8 28).bind fun r1 =>
  (gL h this 8 14).bind fun l3 =>
  (r1).bind fun a5 =>
  (sL h a5 x1 l3).bind fun h8 =>
  (gA h8 this 8 29).bind fun r9 =>
  (gL h8 this 8 15).bind fun l11 =>
  (r9).bind fun a13 =>
  (sL h8 a13 x1 l11).bind fun h16 =>
  (gA h16 this 8 30).bind fun r17 =>
  (gI h16 this 8 16).bind fun i19 =>
  (r17).bind fun a21 =>
  (sZ h16 a21 x1 i19).bind fun h24 =>
  some h24
  else none
theorem o_M_keep {this : Nat} {x1 : Int32} {h : Hp} {h0 : Hp} (hf : f_M_keep this x1 h = some h0) : isO h this 8 = true := by
  unfold f_M_keep at hf
  exact (z_gd hf).1
set_option maxRecDepth 100000 in
set_option maxHeartbeats 4000000 in
theorem c_M_keep {l : Launch} {N0 : Nat} {D : va_G} {cs : Nat → ClassId} {this : Nat} {x1 : Int32} {h : Hp} {h0 : Hp} (hf : f_M_keep this x1 h = some h0) : Fn l N0 D cs y_M_keep b_M_keep 2 (none) 1 0 0 [.ref this, .int x1] h none h0 := by
  refine z_start (by decide) (Nat.le_of_ble_eq_true rfl) ?_
  intro p e s m args below meth c M hH hS ls hl
  unfold f_M_keep at hf
  obtain ⟨hO, hf⟩ := z_gd hf
  have hl : lv_has ls 2 [(0, .ref this), (1, .int x1)] := hl
  obtain ⟨H, hHe⟩ : ∃ H, H = s.heap := ⟨_, rfl⟩
  obtain ⟨locs, hLe⟩ : ∃ locs : List Loc, locs = [] := ⟨_, rfl⟩
  have hS : va_S (zA N0) s.heap H locs := by rw [hHe, hLe]; exact hS
  have hH : HH N0 D cs h H := by rw [hHe]; exact hH
  suffices hg : W p l e (zrm 1 0 0) s m args below meth c H locs 0 0 (MQ below (zQ N0 D cs none h0) args s 0 0 (zA N0)) (F0 m 0 ls []) by rw [hHe, hLe] at hg; exact hg
  clear hHe hLe
  refine lv_aload_n M.x M.b d_M_keep_0 rfl (lv_at hl 0 rfl) ?_
  replace hf := z_bind hf; obtain ⟨r1, e2, hf⟩ := hf
  refine z_get (ci := 8) (k := 28) M hH rfl (by decide) zinM q_748 (gA_spec e2) d_M_keep_1 ?_
  refine lv_iload_n M.x M.b d_M_keep_4 rfl (lv_at hl 1 rfl) ?_
  refine lv_aload_n M.x M.b d_M_keep_5 rfl (lv_at hl 0 rfl) ?_
  replace hf := z_bind hf; obtain ⟨l3, e4, hf⟩ := hf
  refine z_get (ci := 8) (k := 14) M hH rfl (by decide) zinM q_668 (gL_spec e4) d_M_keep_6 ?_
  rcases r1 with _ | a5
  · exact absurd hf z_nb0
  replace hf := z_sb hf
  replace hf := z_bind hf; obtain ⟨h8, e7, hf⟩ := hf
  refine z_last M hH hS e7 d_M_keep_9 (fun H locs hH hS => ?_)
  refine lv_aload_n M.x M.b d_M_keep_10 rfl (lv_at hl 0 rfl) ?_
  replace hf := z_bind hf; obtain ⟨r9, e10, hf⟩ := hf
  refine z_get (ci := 8) (k := 29) M hH rfl (by decide) zinM q_747 (gA_spec e10) d_M_keep_11 ?_
  refine lv_iload_n M.x M.b d_M_keep_14 rfl (lv_at hl 1 rfl) ?_
  refine lv_aload_n M.x M.b d_M_keep_15 rfl (lv_at hl 0 rfl) ?_
  replace hf := z_bind hf; obtain ⟨l11, e12, hf⟩ := hf
  refine z_get (ci := 8) (k := 15) M hH rfl (by decide) zinM q_667 (gL_spec e12) d_M_keep_16 ?_
  rcases r9 with _ | a13
  · exact absurd hf z_nb0
  replace hf := z_sb hf
  replace hf := z_bind hf; obtain ⟨h16, e15, hf⟩ := hf
  refine z_last M hH hS e15 d_M_keep_19 (fun H locs hH hS => ?_)
  refine lv_aload_n M.x M.b d_M_keep_20 rfl (lv_at hl 0 rfl) ?_
  replace hf := z_bind hf; obtain ⟨r17, e18, hf⟩ := hf
  refine z_get (ci := 8) (k := 30) M hH rfl (by decide) zinM q_746 (gA_spec e18) d_M_keep_21 ?_
  refine lv_iload_n M.x M.b d_M_keep_24 rfl (lv_at hl 1 rfl) ?_
  refine lv_aload_n M.x M.b d_M_keep_25 rfl (lv_at hl 0 rfl) ?_
  replace hf := z_bind hf; obtain ⟨i19, e20, hf⟩ := hf
  refine z_get (ci := 8) (k := 16) M hH rfl (by decide) zinM q_669 (gI_spec e20) d_M_keep_26 ?_
  rcases r17 with _ | a21
  · exact absurd hf z_nb0
  replace hf := z_sb hf
  replace hf := z_bind hf; obtain ⟨h24, e23, hf⟩ := hf
  refine z_zast M hH hS e23 d_M_keep_29 (fun H locs hH hS => ?_)
  obtain rfl := z_r1 hf
  exact z_vret M hH hS d_M_keep_30
def f_M_findKept (this : Nat) (x1 : Int32) (x2 : Int32) (x3 : Int32) (x4 : Int32) (x5 : Int32) (h : Hp) : Option ((Int32 × Hp)) :=
  if isO h this 8 = true then
  zb2 (f_M_find this ((40 : Int32) * x1) x2 x3 x4 h) fun i2 h3 =>
  (f_M_keep this x5 h3).bind fun h5 =>
  some (i2, h5)
  else none
theorem o_M_findKept {this : Nat} {x1 : Int32} {x2 : Int32} {x3 : Int32} {x4 : Int32} {x5 : Int32} {h : Hp} {r0 : Int32} {h0 : Hp} (hf : f_M_findKept this x1 x2 x3 x4 x5 h = some (r0, h0)) : isO h this 8 = true := by
  unfold f_M_findKept at hf
  exact (z_gd hf).1
set_option maxRecDepth 100000 in
set_option maxHeartbeats 4000000 in
theorem c_M_findKept {l : Launch} {N0 : Nat} {D : va_G} {cs : Nat → ClassId} {this : Nat} {x1 : Int32} {x2 : Int32} {x3 : Int32} {x4 : Int32} {x5 : Int32} {h : Hp} {r0 : Int32} {h0 : Hp} (hf : f_M_findKept this x1 x2 x3 x4 x5 h = some (r0, h0)) : Fn l N0 D cs y_M_findKept b_M_findKept 7 (some .int) 8 0 0 [.ref this, .int x1, .int x2, .int x3, .int x4, .int x5] h (some (.int r0)) h0 := by
  refine z_start (by decide) (Nat.le_of_ble_eq_true rfl) ?_
  intro p e s m args below meth c M hH hS ls hl
  unfold f_M_findKept at hf
  obtain ⟨hO, hf⟩ := z_gd hf
  have hl : lv_has ls 7 [(0, .ref this), (1, .int x1), (2, .int x2), (3, .int x3), (4, .int x4), (5, .int x5)] := hl
  obtain ⟨H, hHe⟩ : ∃ H, H = s.heap := ⟨_, rfl⟩
  obtain ⟨locs, hLe⟩ : ∃ locs : List Loc, locs = [] := ⟨_, rfl⟩
  have hS : va_S (zA N0) s.heap H locs := by rw [hHe, hLe]; exact hS
  have hH : HH N0 D cs h H := by rw [hHe]; exact hH
  suffices hg : W p l e (zrm 8 0 0) s m args below meth c H locs 0 0 (MQ below (zQ N0 D cs (some (.int r0)) h0) args s 0 0 (zA N0)) (F0 m 0 ls []) by rw [hHe, hLe] at hg; exact hg
  clear hHe hLe
  refine lv_aload_n M.x M.b d_M_findKept_0 rfl (lv_at hl 0 rfl) ?_
  refine lv_bipush (v := (40 : Int32)) M.x M.b d_M_findKept_1 rfl ?_
  refine lv_iload_n M.x M.b d_M_findKept_3 rfl (lv_at hl 1 rfl) ?_
  refine lv_imul M.x M.b d_M_findKept_4 ?_
  refine lv_iload_n M.x M.b d_M_findKept_5 rfl (lv_at hl 2 rfl) ?_
  refine lv_iload_n M.x M.b d_M_findKept_6 rfl (lv_at hl 3 rfl) ?_
  refine lv_iload M.x M.b d_M_findKept_7 (lv_at hl 4 rfl) ?_
  replace hf := z_bind2 hf; obtain ⟨i2, h3, e1, hf⟩ := hf
  refine zk_V (ci := 8) (st1 := [.int i2]) M hH hS (c_M_find e1) rfl (o_M_find e1) w_M_find q_740 [] rfl ⟨Nat.le_of_ble_eq_true rfl, Nat.le_of_ble_eq_true rfl⟩ hl.1 rfl rfl (Nat.le_of_ble_eq_true rfl) d_M_findKept_9 (fun H locs hH hS => ?_)
  refine lv_istore (lv' := [(6, .int i2), (0, .ref this), (1, .int x1), (2, .int x2), (3, .int x3), (4, .int x4), (5, .int x5)]) M.x M.b d_M_findKept_12 hl (by decide) rfl (fun ls hl => ?_)
  refine lv_aload_n M.x M.b d_M_findKept_14 rfl (lv_at hl 1 rfl) ?_
  refine lv_iload M.x M.b d_M_findKept_15 (lv_at hl 6 rfl) ?_
  replace hf := z_bind hf; obtain ⟨h5, e4, hf⟩ := hf
  refine zk_V (ci := 8) (st1 := []) M hH hS (c_M_keep e4) rfl (o_M_keep e4) w_M_keep q_752 [] rfl ⟨Nat.le_of_ble_eq_true rfl, Nat.le_of_ble_eq_true rfl⟩ hl.1 rfl rfl (Nat.le_of_ble_eq_true rfl) d_M_findKept_17 (fun H locs hH hS => ?_)
  refine lv_iload M.x M.b d_M_findKept_20 (lv_at hl 0 rfl) ?_
  obtain ⟨rfl, rfl⟩ := z_r2 hf
  exact z_iret M hH hS d_M_findKept_22
def f_M_orderKept (this : Nat) (x1 : Int32) (x2 : Int32) (h : Hp) : Option ((Int32 × Hp)) :=
  if isO h this 8 = true then
  (gA h this 8 28).bind fun r1 =>
  (r1).bind fun a3 =>
  (aL h a3 x1).bind fun l6 =>
  (gA h this 8 29).bind fun r7 =>
  (r7).bind fun a9 =>
  (aL h a9 x1).bind fun l12 =>
  (gA h this 8 30).bind fun r13 =>
  (r13).bind fun a15 =>
  (aI h 2 a15 x1).bind fun i18 =>
  (gA h this 8 28).bind fun r19 =>
  (r19).bind fun a21 =>
  (aL h a21 x2).bind fun l24 =>
  (gA h this 8 29).bind fun r25 =>
  (r25).bind fun a27 =>
  (aL h a27 x2).bind fun l30 =>
  (gA h this 8 30).bind fun r31 =>
  (r31).bind fun a33 =>
  (aI h 2 a33 x2).bind fun i36 =>
  zb2 (f_M_orderOf this l6 l12 i18 l24 l30 i36 h) fun i38 h39 =>
  some (i38, h39)
  else none
theorem o_M_orderKept {this : Nat} {x1 : Int32} {x2 : Int32} {h : Hp} {r0 : Int32} {h0 : Hp} (hf : f_M_orderKept this x1 x2 h = some (r0, h0)) : isO h this 8 = true := by
  unfold f_M_orderKept at hf
  exact (z_gd hf).1
set_option maxRecDepth 100000 in
set_option maxHeartbeats 4000000 in
theorem c_M_orderKept {l : Launch} {N0 : Nat} {D : va_G} {cs : Nat → ClassId} {this : Nat} {x1 : Int32} {x2 : Int32} {h : Hp} {r0 : Int32} {h0 : Hp} (hf : f_M_orderKept this x1 x2 h = some (r0, h0)) : Fn l N0 D cs y_M_orderKept b_M_orderKept 3 (some .int) 5 0 0 [.ref this, .int x1, .int x2] h (some (.int r0)) h0 := by
  refine z_start (by decide) (Nat.le_of_ble_eq_true rfl) ?_
  intro p e s m args below meth c M hH hS ls hl
  unfold f_M_orderKept at hf
  obtain ⟨hO, hf⟩ := z_gd hf
  have hl : lv_has ls 3 [(0, .ref this), (1, .int x1), (2, .int x2)] := hl
  obtain ⟨H, hHe⟩ : ∃ H, H = s.heap := ⟨_, rfl⟩
  obtain ⟨locs, hLe⟩ : ∃ locs : List Loc, locs = [] := ⟨_, rfl⟩
  have hS : va_S (zA N0) s.heap H locs := by rw [hHe, hLe]; exact hS
  have hH : HH N0 D cs h H := by rw [hHe]; exact hH
  suffices hg : W p l e (zrm 5 0 0) s m args below meth c H locs 0 0 (MQ below (zQ N0 D cs (some (.int r0)) h0) args s 0 0 (zA N0)) (F0 m 0 ls []) by rw [hHe, hLe] at hg; exact hg
  clear hHe hLe
  refine lv_aload_n M.x M.b d_M_orderKept_0 rfl (lv_at hl 0 rfl) ?_
  refine lv_aload_n M.x M.b d_M_orderKept_1 rfl (lv_at hl 0 rfl) ?_
  replace hf := z_bind hf; obtain ⟨r1, e2, hf⟩ := hf
  refine z_get (ci := 8) (k := 28) M hH rfl (by decide) zinM q_748 (gA_spec e2) d_M_orderKept_2 ?_
  refine lv_iload_n M.x M.b d_M_orderKept_5 rfl (lv_at hl 1 rfl) ?_
  rcases r1 with _ | a3
  · exact absurd hf z_nb0
  replace hf := z_sb hf
  replace hf := z_bind hf; obtain ⟨l6, e5, hf⟩ := hf
  refine z_lald M hH e5 d_M_orderKept_6 ?_
  refine lv_aload_n M.x M.b d_M_orderKept_7 rfl (lv_at hl 0 rfl) ?_
  replace hf := z_bind hf; obtain ⟨r7, e8, hf⟩ := hf
  refine z_get (ci := 8) (k := 29) M hH rfl (by decide) zinM q_747 (gA_spec e8) d_M_orderKept_8 ?_
  refine lv_iload_n M.x M.b d_M_orderKept_11 rfl (lv_at hl 1 rfl) ?_
  rcases r7 with _ | a9
  · exact absurd hf z_nb0
  replace hf := z_sb hf
  replace hf := z_bind hf; obtain ⟨l12, e11, hf⟩ := hf
  refine z_lald M hH e11 d_M_orderKept_12 ?_
  refine lv_aload_n M.x M.b d_M_orderKept_13 rfl (lv_at hl 0 rfl) ?_
  replace hf := z_bind hf; obtain ⟨r13, e14, hf⟩ := hf
  refine z_get (ci := 8) (k := 30) M hH rfl (by decide) zinM q_746 (gA_spec e14) d_M_orderKept_14 ?_
  refine lv_iload_n M.x M.b d_M_orderKept_17 rfl (lv_at hl 1 rfl) ?_
  rcases r13 with _ | a15
  · exact absurd hf z_nb0
  replace hf := z_sb hf
  replace hf := z_bind hf; obtain ⟨i18, e17, hf⟩ := hf
  refine z_zald M hH e17 d_M_orderKept_18 ?_
  refine lv_aload_n M.x M.b d_M_orderKept_19 rfl (lv_at hl 0 rfl) ?_
  replace hf := z_bind hf; obtain ⟨r19, e20, hf⟩ := hf
  refine z_get (ci := 8) (k := 28) M hH rfl (by decide) zinM q_748 (gA_spec e20) d_M_orderKept_20 ?_
  refine lv_iload_n M.x M.b d_M_orderKept_23 rfl (lv_at hl 2 rfl) ?_
  rcases r19 with _ | a21
  · exact absurd hf z_nb0
  replace hf := z_sb hf
  replace hf := z_bind hf; obtain ⟨l24, e23, hf⟩ := hf
  refine z_lald M hH e23 d_M_orderKept_24 ?_
  refine lv_aload_n M.x M.b d_M_orderKept_25 rfl (lv_at hl 0 rfl) ?_
  replace hf := z_bind hf; obtain ⟨r25, e26, hf⟩ := hf
  refine z_get (ci := 8) (k := 29) M hH rfl (by decide) zinM q_747 (gA_spec e26) d_M_orderKept_26 ?_
  refine lv_iload_n M.x M.b d_M_orderKept_29 rfl (lv_at hl 2 rfl) ?_
  rcases r25 with _ | a27
  · exact absurd hf z_nb0
  replace hf := z_sb hf
  replace hf := z_bind hf; obtain ⟨l30, e29, hf⟩ := hf
  refine z_lald M hH e29 d_M_orderKept_30 ?_
  refine lv_aload_n M.x M.b d_M_orderKept_31 rfl (lv_at hl 0 rfl) ?_
  replace hf := z_bind hf; obtain ⟨r31, e32, hf⟩ := hf
  refine z_get (ci := 8) (k := 30) M hH rfl (by decide) zinM q_746 (gA_spec e32) d_M_orderKept_32 ?_
  refine lv_iload_n M.x M.b d_M_orderKept_35 rfl (lv_at hl 2 rfl) ?_
  rcases r31 with _ | a33
  · exact absurd hf z_nb0
  replace hf := z_sb hf
  replace hf := z_bind hf; obtain ⟨i36, e35, hf⟩ := hf
  refine z_zald M hH e35 d_M_orderKept_36 ?_
  replace hf := z_bind2 hf; obtain ⟨i38, h39, e37, hf⟩ := hf
  refine zk_V (ci := 8) (st1 := [.int i38]) M hH hS (c_M_orderOf e37) rfl (o_M_orderOf e37) w_M_orderOf q_711 [] rfl ⟨Nat.le_of_ble_eq_true rfl, Nat.le_of_ble_eq_true rfl⟩ hl.1 rfl rfl (Nat.le_of_ble_eq_true rfl) d_M_orderKept_37 (fun H locs hH hS => ?_)
  obtain ⟨rfl, rfl⟩ := z_r2 hf
  exact z_iret M hH hS d_M_orderKept_40
def f_M_order_95 (this : Nat) (s0 : Int32) (h : Hp) : Option ((Int32 × Hp)) :=
  if 0 ≤ s0 then
    (gI h this 8 17).bind fun i1 =>
    some (i1, h)
  else
  some (s0, h)
set_option maxRecDepth 100000 in
set_option maxHeartbeats 4000000 in
theorem w_M_order_95 {p : Program} {l : Launch} {e : Env} {s : State} {m : MethodId} {args : Array Value} {below : List Frame} {meth : Method} {c : Code} {N0 : Nat} {D : va_G} {cs : Nat → ClassId} (M : ZC p s m args meth c "YearBasketsModel" "order" b_M_order 7 (some .int) N0 D cs) (this : Nat)  {r0 : Int32} {h0 : Hp}  (s0 : Int32) (h : Hp) (hf : f_M_order_95 this s0 h = some (r0, h0)) : ZG p l e (zrm 9 0 0) s m args below meth c N0 D cs (some (.int r0)) h0 h 7 [(0, .ref this)] 95 [.int s0] := by
  intro H locs ls hH hS hl
  unfold f_M_order_95 at hf
  refine lv_istore (lv' := [(6, .int s0), (0, .ref this)]) M.x M.b d_M_order_95 hl (by decide) rfl (fun ls hl => ?_)
  refine lv_iload M.x M.b d_M_order_97 (lv_at hl 0 rfl) ?_
  refine lv_if_ge (tgt := 107) M.x M.b d_M_order_99 (by decide) (fun c3 => ?_) (fun c3 => ?_)
  · replace hf := z_t c3 hf
    refine lv_aload_n M.x M.b d_M_order_107 rfl (lv_at hl 1 rfl) ?_
    replace hf := z_bind hf; obtain ⟨i1, e2, hf⟩ := hf
    refine z_get (ci := 8) (k := 17) M hH rfl (by decide) zinM q_680 (gI_spec e2) d_M_order_108 ?_
    obtain ⟨rfl, rfl⟩ := z_r2 hf
    exact z_iret M hH hS d_M_order_111
  · replace hf := z_f c3 hf
    refine lv_iload M.x M.b d_M_order_102 (lv_at hl 0 rfl) ?_
    refine lv_goto (tgt := 111) M.x M.b d_M_order_104 (by decide) ?_
    obtain ⟨rfl, rfl⟩ := z_r2 hf
    exact z_iret M hH hS d_M_order_111
def f_M_order_77 (this : Nat) (s0 : Int32) (h : Hp) : Option ((Int32 × Hp)) :=
  if 0 ≤ s0 then
    zb2 (f_M_orderKept this (0 : Int32) (1 : Int32) h) fun i5 h6 =>
    f_M_order_95 this i5 h6
  else
  f_M_order_95 this s0 h
set_option maxRecDepth 100000 in
set_option maxHeartbeats 4000000 in
theorem w_M_order_77 {p : Program} {l : Launch} {e : Env} {s : State} {m : MethodId} {args : Array Value} {below : List Frame} {meth : Method} {c : Code} {N0 : Nat} {D : va_G} {cs : Nat → ClassId} (M : ZC p s m args meth c "YearBasketsModel" "order" b_M_order 7 (some .int) N0 D cs) (this : Nat)  {r0 : Int32} {h0 : Hp}  (s0 : Int32) (h : Hp) (hf : f_M_order_77 this s0 h = some (r0, h0)) : ZG p l e (zrm 9 0 0) s m args below meth c N0 D cs (some (.int r0)) h0 h 7 [(0, .ref this)] 77 [.int s0] := by
  intro H locs ls hH hS hl
  unfold f_M_order_77 at hf
  refine lv_istore (lv' := [(6, .int s0), (0, .ref this)]) M.x M.b d_M_order_77 hl (by decide) rfl (fun ls hl => ?_)
  refine lv_iload M.x M.b d_M_order_79 (lv_at hl 0 rfl) ?_
  refine lv_if_ge (tgt := 89) M.x M.b d_M_order_81 (by decide) (fun c7 => ?_) (fun c7 => ?_)
  · replace hf := z_t c7 hf
    refine lv_aload_n M.x M.b d_M_order_89 rfl (lv_at hl 1 rfl) ?_
    refine lv_iconst (v := (0 : Int32)) M.x M.b d_M_order_90 rfl ?_
    refine lv_iconst (v := (1 : Int32)) M.x M.b d_M_order_91 rfl ?_
    replace hf := z_bind2 hf; obtain ⟨i5, h6, e4, hf⟩ := hf
    refine zk_V (ci := 8) (st1 := [.int i5]) M hH hS (c_M_orderKept e4) rfl (o_M_orderKept e4) w_M_orderKept q_759 [] rfl ⟨Nat.le_of_ble_eq_true rfl, Nat.le_of_ble_eq_true rfl⟩ hl.1 rfl rfl (Nat.le_of_ble_eq_true rfl) d_M_order_92 (fun H locs hH hS => ?_)
    exact w_M_order_95 M this _ _ hf H locs ls hH hS (lv_sub hl [1] rfl)
  · replace hf := z_f c7 hf
    refine lv_iload M.x M.b d_M_order_84 (lv_at hl 0 rfl) ?_
    refine lv_goto (tgt := 95) M.x M.b d_M_order_86 (by decide) ?_
    exact w_M_order_95 M this _ _ hf H locs ls hH hS (lv_sub hl [1] rfl)
def f_M_order (this : Nat) (x1 : Int32) (x2 : Int32) (x3 : Int32) (x4 : Int32) (x5 : Int32) (h : Hp) : Option ((Int32 × Hp)) :=
  if isO h this 8 = true then
  (f_M_isNumber this h x1).bind fun i9 =>
  if i9 = 0 then
    some ((-1001 : Int32), h)
  else
  (f_M_isNumber this h x2).bind fun i11 =>
  if i11 = 0 then
    some ((-1001 : Int32), h)
  else
  (f_M_isWho x3).bind fun i13 =>
  if i13 = 0 then
    some ((-1001 : Int32), h)
  else
  (f_M_isYear x4).bind fun i15 =>
  if i15 = 0 then
    some ((-1001 : Int32), h)
  else
  (f_M_isYear x5).bind fun i17 =>
  if i17 = 0 then
    some ((-1001 : Int32), h)
  else
  zb2 (f_M_findKept this x1 x3 x4 x5 (0 : Int32) h) fun i19 h20 =>
  if 0 ≤ i19 then
    zb2 (f_M_findKept this x2 x3 x4 x5 (1 : Int32) h20) fun i22 h23 =>
    f_M_order_77 this i22 h23
  else
  f_M_order_77 this i19 h20
  else none
theorem o_M_order {this : Nat} {x1 : Int32} {x2 : Int32} {x3 : Int32} {x4 : Int32} {x5 : Int32} {h : Hp} {r0 : Int32} {h0 : Hp} (hf : f_M_order this x1 x2 x3 x4 x5 h = some (r0, h0)) : isO h this 8 = true := by
  unfold f_M_order at hf
  exact (z_gd hf).1
set_option maxRecDepth 100000 in
set_option maxHeartbeats 4000000 in
theorem c_M_order {l : Launch} {N0 : Nat} {D : va_G} {cs : Nat → ClassId} {this : Nat} {x1 : Int32} {x2 : Int32} {x3 : Int32} {x4 : Int32} {x5 : Int32} {h : Hp} {r0 : Int32} {h0 : Hp} (hf : f_M_order this x1 x2 x3 x4 x5 h = some (r0, h0)) : Fn l N0 D cs y_M_order b_M_order 7 (some .int) 9 0 0 [.ref this, .int x1, .int x2, .int x3, .int x4, .int x5] h (some (.int r0)) h0 := by
  refine z_start (by decide) (Nat.le_of_ble_eq_true rfl) ?_
  intro p e s m args below meth c M hH hS ls hl
  unfold f_M_order at hf
  obtain ⟨hO, hf⟩ := z_gd hf
  have hl : lv_has ls 7 [(0, .ref this), (1, .int x1), (2, .int x2), (3, .int x3), (4, .int x4), (5, .int x5)] := hl
  obtain ⟨H, hHe⟩ : ∃ H, H = s.heap := ⟨_, rfl⟩
  obtain ⟨locs, hLe⟩ : ∃ locs : List Loc, locs = [] := ⟨_, rfl⟩
  have hS : va_S (zA N0) s.heap H locs := by rw [hHe, hLe]; exact hS
  have hH : HH N0 D cs h H := by rw [hHe]; exact hH
  suffices hg : W p l e (zrm 9 0 0) s m args below meth c H locs 0 0 (MQ below (zQ N0 D cs (some (.int r0)) h0) args s 0 0 (zA N0)) (F0 m 0 ls []) by rw [hHe, hLe] at hg; exact hg
  clear hHe hLe
  refine lv_aload_n M.x M.b d_M_order_0 rfl (lv_at hl 0 rfl) ?_
  refine lv_iload_n M.x M.b d_M_order_1 rfl (lv_at hl 1 rfl) ?_
  replace hf := z_bind hf; obtain ⟨i9, e8, hf⟩ := hf
  refine zk_V (ci := 8) (st1 := [.int i9]) M hH hS (c_M_isNumber e8) rfl (o_M_isNumber e8) w_M_isNumber q_742 [] rfl ⟨Nat.le_of_ble_eq_true rfl, Nat.le_of_ble_eq_true rfl⟩ hl.1 rfl rfl (Nat.le_of_ble_eq_true rfl) d_M_order_2 (fun H locs hH hS => ?_)
  refine lv_if_eq (tgt := 39) M.x M.b d_M_order_5 (by decide) (fun c29 => ?_) (fun c29 => ?_)
  · replace hf := z_t c29 hf
    refine lv_sipush (v := (-1001 : Int32)) M.x M.b d_M_order_39 rfl ?_
    obtain ⟨rfl, rfl⟩ := z_r2 hf
    exact z_iret M hH hS d_M_order_42
  · replace hf := z_f c29 hf
    refine lv_aload_n M.x M.b d_M_order_8 rfl (lv_at hl 0 rfl) ?_
    refine lv_iload_n M.x M.b d_M_order_9 rfl (lv_at hl 2 rfl) ?_
    replace hf := z_bind hf; obtain ⟨i11, e10, hf⟩ := hf
    refine zk_V (ci := 8) (st1 := [.int i11]) M hH hS (c_M_isNumber e10) rfl (o_M_isNumber e10) w_M_isNumber q_742 [] rfl ⟨Nat.le_of_ble_eq_true rfl, Nat.le_of_ble_eq_true rfl⟩ hl.1 rfl rfl (Nat.le_of_ble_eq_true rfl) d_M_order_10 (fun H locs hH hS => ?_)
    refine lv_if_eq (tgt := 39) M.x M.b d_M_order_13 (by decide) (fun c28 => ?_) (fun c28 => ?_)
    · replace hf := z_t c28 hf
      refine lv_sipush (v := (-1001 : Int32)) M.x M.b d_M_order_39 rfl ?_
      obtain ⟨rfl, rfl⟩ := z_r2 hf
      exact z_iret M hH hS d_M_order_42
    · replace hf := z_f c28 hf
      refine lv_iload_n M.x M.b d_M_order_16 rfl (lv_at hl 3 rfl) ?_
      replace hf := z_bind hf; obtain ⟨i13, e12, hf⟩ := hf
      refine zk_S (st1 := [.int i13]) M hH hS (c_M_isWho e12) w_M_isWho q_582 [] rfl ⟨Nat.le_of_ble_eq_true rfl, Nat.le_of_ble_eq_true rfl⟩ hl.1 rfl rfl (Nat.le_of_ble_eq_true rfl) d_M_order_17 (fun H locs hH hS => ?_)
      refine lv_if_eq (tgt := 39) M.x M.b d_M_order_20 (by decide) (fun c27 => ?_) (fun c27 => ?_)
      · replace hf := z_t c27 hf
        refine lv_sipush (v := (-1001 : Int32)) M.x M.b d_M_order_39 rfl ?_
        obtain ⟨rfl, rfl⟩ := z_r2 hf
        exact z_iret M hH hS d_M_order_42
      · replace hf := z_f c27 hf
        refine lv_iload M.x M.b d_M_order_23 (lv_at hl 4 rfl) ?_
        replace hf := z_bind hf; obtain ⟨i15, e14, hf⟩ := hf
        refine zk_S (st1 := [.int i15]) M hH hS (c_M_isYear e14) w_M_isYear q_564 [] rfl ⟨Nat.le_of_ble_eq_true rfl, Nat.le_of_ble_eq_true rfl⟩ hl.1 rfl rfl (Nat.le_of_ble_eq_true rfl) d_M_order_25 (fun H locs hH hS => ?_)
        refine lv_if_eq (tgt := 39) M.x M.b d_M_order_28 (by decide) (fun c26 => ?_) (fun c26 => ?_)
        · replace hf := z_t c26 hf
          refine lv_sipush (v := (-1001 : Int32)) M.x M.b d_M_order_39 rfl ?_
          obtain ⟨rfl, rfl⟩ := z_r2 hf
          exact z_iret M hH hS d_M_order_42
        · replace hf := z_f c26 hf
          refine lv_iload M.x M.b d_M_order_31 (lv_at hl 5 rfl) ?_
          replace hf := z_bind hf; obtain ⟨i17, e16, hf⟩ := hf
          refine zk_S (st1 := [.int i17]) M hH hS (c_M_isYear e16) w_M_isYear q_564 [] rfl ⟨Nat.le_of_ble_eq_true rfl, Nat.le_of_ble_eq_true rfl⟩ hl.1 rfl rfl (Nat.le_of_ble_eq_true rfl) d_M_order_33 (fun H locs hH hS => ?_)
          refine lv_if_ne (tgt := 43) M.x M.b d_M_order_36 (by decide) (fun c25 => ?_) (fun c25 => ?_)
          · replace hf := z_f c25 hf
            refine lv_aload_n M.x M.b d_M_order_43 rfl (lv_at hl 0 rfl) ?_
            refine lv_iload_n M.x M.b d_M_order_44 rfl (lv_at hl 1 rfl) ?_
            refine lv_iload_n M.x M.b d_M_order_45 rfl (lv_at hl 3 rfl) ?_
            refine lv_iload M.x M.b d_M_order_46 (lv_at hl 4 rfl) ?_
            refine lv_iload M.x M.b d_M_order_48 (lv_at hl 5 rfl) ?_
            refine lv_iconst (v := (0 : Int32)) M.x M.b d_M_order_50 rfl ?_
            replace hf := z_bind2 hf; obtain ⟨i19, h20, e18, hf⟩ := hf
            refine zk_V (ci := 8) (st1 := [.int i19]) M hH hS (c_M_findKept e18) rfl (o_M_findKept e18) w_M_findKept q_760 [] rfl ⟨Nat.le_of_ble_eq_true rfl, Nat.le_of_ble_eq_true rfl⟩ hl.1 rfl rfl (Nat.le_of_ble_eq_true rfl) d_M_order_51 (fun H locs hH hS => ?_)
            refine lv_istore (lv' := [(6, .int i19), (0, .ref this), (1, .int x1), (2, .int x2), (3, .int x3), (4, .int x4), (5, .int x5)]) M.x M.b d_M_order_54 hl (by decide) rfl (fun ls hl => ?_)
            refine lv_iload M.x M.b d_M_order_56 (lv_at hl 0 rfl) ?_
            refine lv_if_ge (tgt := 66) M.x M.b d_M_order_58 (by decide) (fun c24 => ?_) (fun c24 => ?_)
            · replace hf := z_t c24 hf
              refine lv_aload_n M.x M.b d_M_order_66 rfl (lv_at hl 1 rfl) ?_
              refine lv_iload_n M.x M.b d_M_order_67 rfl (lv_at hl 3 rfl) ?_
              refine lv_iload_n M.x M.b d_M_order_68 rfl (lv_at hl 4 rfl) ?_
              refine lv_iload M.x M.b d_M_order_69 (lv_at hl 5 rfl) ?_
              refine lv_iload M.x M.b d_M_order_71 (lv_at hl 6 rfl) ?_
              refine lv_iconst (v := (1 : Int32)) M.x M.b d_M_order_73 rfl ?_
              replace hf := z_bind2 hf; obtain ⟨i22, h23, e21, hf⟩ := hf
              refine zk_V (ci := 8) (st1 := [.int i22]) M hH hS (c_M_findKept e21) rfl (o_M_findKept e21) w_M_findKept q_760 [] rfl ⟨Nat.le_of_ble_eq_true rfl, Nat.le_of_ble_eq_true rfl⟩ hl.1 rfl rfl (Nat.le_of_ble_eq_true rfl) d_M_order_74 (fun H locs hH hS => ?_)
              exact w_M_order_77 M this _ _ hf H locs ls hH hS (lv_sub hl [1] rfl)
            · replace hf := z_f c24 hf
              refine lv_iload M.x M.b d_M_order_61 (lv_at hl 0 rfl) ?_
              refine lv_goto (tgt := 77) M.x M.b d_M_order_63 (by decide) ?_
              exact w_M_order_77 M this _ _ hf H locs ls hH hS (lv_sub hl [1] rfl)
          · replace hf := z_t c25 hf
            refine lv_sipush (v := (-1001 : Int32)) M.x M.b d_M_order_39 rfl ?_
            obtain ⟨rfl, rfl⟩ := z_r2 hf
            exact z_iret M hH hS d_M_order_42
def t_M_holdBooks_28 (this : Nat) (k28 : Int32 → Hp → Option (Hp)) (x1 : Int32) (h : Hp) : Option (Hp) :=
  if (150 : Int32) ≤ x1 then
    some h
  else
  (gA h this 8 32).bind fun r1 =>
  (gA h this 8 1).bind fun r3 =>
  (r3).bind fun a5 =>
  (aI h 0 a5 x1).bind fun i8 =>
  (r1).bind fun a9 =>
  (sI h a9 x1 i8).bind fun h12 =>
  k28 (x1 + (1 : Int32)) h12
set_option maxRecDepth 100000 in
set_option maxHeartbeats 4000000 in
theorem v_M_holdBooks_28 {p : Program} {l : Launch} {e : Env} {s : State} {m : MethodId} {args : Array Value} {below : List Frame} {meth : Method} {c : Code} {N0 : Nat} {D : va_G} {cs : Nat → ClassId} (M : ZC p s m args meth c "YearBasketsModel" "holdBooks" b_M_holdBooks 2 (none) N0 D cs) (this : Nat) (k28 : Int32 → Hp → Option (Hp)) {h0 : Hp} (hk28 : ∀ (x1 : Int32) (h : Hp), k28 x1 h = some h0 → ZG p l e (zrm 1 0 0) s m args below meth c N0 D cs none h0 h 2 [(0, .ref this), (1, .int x1)] 28 []) (x1 : Int32) (h : Hp) (hf : t_M_holdBooks_28 this k28 x1 h = some h0) : ZG p l e (zrm 1 0 0) s m args below meth c N0 D cs none h0 h 2 [(0, .ref this), (1, .int x1)] 28 [] := by
  intro H locs ls hH hS hl
  unfold t_M_holdBooks_28 at hf
  refine lv_iload_n M.x M.b d_M_holdBooks_28 rfl (lv_at hl 1 rfl) ?_
  refine lv_sipush (v := (150 : Int32)) M.x M.b d_M_holdBooks_29 rfl ?_
  refine lv_icmp_ge (tgt := 53) M.x M.b d_M_holdBooks_32 (by decide) (fun c13 => ?_) (fun c13 => ?_)
  · replace hf := z_t c13 hf
    obtain rfl := z_r1 hf
    exact z_vret M hH hS d_M_holdBooks_53
  · replace hf := z_f c13 hf
    refine lv_aload_n M.x M.b d_M_holdBooks_35 rfl (lv_at hl 0 rfl) ?_
    replace hf := z_bind hf; obtain ⟨r1, e2, hf⟩ := hf
    refine z_get (ci := 8) (k := 32) M hH rfl (by decide) zinM q_764 (gA_spec e2) d_M_holdBooks_36 ?_
    refine lv_iload_n M.x M.b d_M_holdBooks_39 rfl (lv_at hl 1 rfl) ?_
    refine lv_aload_n M.x M.b d_M_holdBooks_40 rfl (lv_at hl 0 rfl) ?_
    replace hf := z_bind hf; obtain ⟨r3, e4, hf⟩ := hf
    refine z_get (ci := 8) (k := 1) M hH rfl (by decide) zinM q_570 (gA_spec e4) d_M_holdBooks_41 ?_
    refine lv_iload_n M.x M.b d_M_holdBooks_44 rfl (lv_at hl 1 rfl) ?_
    rcases r3 with _ | a5
    · exact absurd hf z_nb0
    replace hf := z_sb hf
    replace hf := z_bind hf; obtain ⟨i8, e7, hf⟩ := hf
    refine z_iald M hH e7 d_M_holdBooks_45 ?_
    rcases r1 with _ | a9
    · exact absurd hf z_nb0
    replace hf := z_sb hf
    replace hf := z_bind hf; obtain ⟨h12, e11, hf⟩ := hf
    refine z_iast M hH hS e11 d_M_holdBooks_46 (fun H locs hH hS => ?_)
    refine lv_iinc (v := (x1 + (1 : Int32))) (lv' := [(1, .int (x1 + (1 : Int32))), (0, .ref this)]) M.x M.b d_M_holdBooks_47 hl (k := 1) rfl rfl (by decide) rfl (fun ls hl => ?_)
    refine lv_goto (tgt := 28) M.x M.b d_M_holdBooks_50 (by decide) ?_
    exact hk28 _ _ hf H locs ls hH hS (lv_sub hl [1, 0] rfl)
def f_M_holdBooks_28 (this : Nat) : Nat → Int32 → Hp → Option (Hp)
  | 0, _, _ => none
  | n + 1, x1, h => t_M_holdBooks_28 this (f_M_holdBooks_28 this n) x1 h
theorem w_M_holdBooks_28 {p : Program} {l : Launch} {e : Env} {s : State} {m : MethodId} {args : Array Value} {below : List Frame} {meth : Method} {c : Code} {N0 : Nat} {D : va_G} {cs : Nat → ClassId} (M : ZC p s m args meth c "YearBasketsModel" "holdBooks" b_M_holdBooks 2 (none) N0 D cs) (this : Nat)  {h0 : Hp}  : ∀ (n : Nat) (x1 : Int32) (h : Hp), f_M_holdBooks_28 this n x1 h = some h0 → ZG p l e (zrm 1 0 0) s m args below meth c N0 D cs none h0 h 2 [(0, .ref this), (1, .int x1)] 28 [] := by
  intro n
  induction n with
  | zero => intro x1 h hf; exact absurd (show none = some _ from hf) (fun q => by cases q)
  | succ n ih => intro x1 h hf; exact v_M_holdBooks_28 M this (f_M_holdBooks_28 this n)  ih _ _ hf
def t_M_holdBooks_2 (this : Nat) (k2 : Int32 → Hp → Option (Hp)) (x1 : Int32) (h : Hp) : Option (Hp) :=
  if (50 : Int32) ≤ x1 then
    f_M_holdBooks_28 this FU (0 : Int32) h
  else
  (gA h this 8 31).bind fun r14 =>
  (gA h this 8 0).bind fun r16 =>
  (r16).bind fun a18 =>
  (aI h 0 a18 x1).bind fun i21 =>
  (r14).bind fun a22 =>
  (sI h a22 x1 i21).bind fun h25 =>
  k2 (x1 + (1 : Int32)) h25
set_option maxRecDepth 100000 in
set_option maxHeartbeats 4000000 in
theorem v_M_holdBooks_2 {p : Program} {l : Launch} {e : Env} {s : State} {m : MethodId} {args : Array Value} {below : List Frame} {meth : Method} {c : Code} {N0 : Nat} {D : va_G} {cs : Nat → ClassId} (M : ZC p s m args meth c "YearBasketsModel" "holdBooks" b_M_holdBooks 2 (none) N0 D cs) (this : Nat) (k2 : Int32 → Hp → Option (Hp)) {h0 : Hp} (hk2 : ∀ (x1 : Int32) (h : Hp), k2 x1 h = some h0 → ZG p l e (zrm 1 0 0) s m args below meth c N0 D cs none h0 h 2 [(0, .ref this), (1, .int x1)] 2 []) (x1 : Int32) (h : Hp) (hf : t_M_holdBooks_2 this k2 x1 h = some h0) : ZG p l e (zrm 1 0 0) s m args below meth c N0 D cs none h0 h 2 [(0, .ref this), (1, .int x1)] 2 [] := by
  intro H locs ls hH hS hl
  unfold t_M_holdBooks_2 at hf
  refine lv_iload_n M.x M.b d_M_holdBooks_2 rfl (lv_at hl 1 rfl) ?_
  refine lv_bipush (v := (50 : Int32)) M.x M.b d_M_holdBooks_3 rfl ?_
  refine lv_icmp_ge (tgt := 26) M.x M.b d_M_holdBooks_5 (by decide) (fun c26 => ?_) (fun c26 => ?_)
  · replace hf := z_t c26 hf
    refine lv_iconst (v := (0 : Int32)) M.x M.b d_M_holdBooks_26 rfl ?_
    refine lv_istore_n (lv' := [(1, .int (0 : Int32)), (0, .ref this)]) M.x M.b d_M_holdBooks_27 rfl hl (by decide) rfl (fun ls hl => ?_)
    exact w_M_holdBooks_28 M this FU _ _ hf H locs ls hH hS (lv_sub hl [1, 0] rfl)
  · replace hf := z_f c26 hf
    refine lv_aload_n M.x M.b d_M_holdBooks_8 rfl (lv_at hl 0 rfl) ?_
    replace hf := z_bind hf; obtain ⟨r14, e15, hf⟩ := hf
    refine z_get (ci := 8) (k := 31) M hH rfl (by decide) zinM q_765 (gA_spec e15) d_M_holdBooks_9 ?_
    refine lv_iload_n M.x M.b d_M_holdBooks_12 rfl (lv_at hl 1 rfl) ?_
    refine lv_aload_n M.x M.b d_M_holdBooks_13 rfl (lv_at hl 0 rfl) ?_
    replace hf := z_bind hf; obtain ⟨r16, e17, hf⟩ := hf
    refine z_get (ci := 8) (k := 0) M hH rfl (by decide) zinM q_562 (gA_spec e17) d_M_holdBooks_14 ?_
    refine lv_iload_n M.x M.b d_M_holdBooks_17 rfl (lv_at hl 1 rfl) ?_
    rcases r16 with _ | a18
    · exact absurd hf z_nb0
    replace hf := z_sb hf
    replace hf := z_bind hf; obtain ⟨i21, e20, hf⟩ := hf
    refine z_iald M hH e20 d_M_holdBooks_18 ?_
    rcases r14 with _ | a22
    · exact absurd hf z_nb0
    replace hf := z_sb hf
    replace hf := z_bind hf; obtain ⟨h25, e24, hf⟩ := hf
    refine z_iast M hH hS e24 d_M_holdBooks_19 (fun H locs hH hS => ?_)
    refine lv_iinc (v := (x1 + (1 : Int32))) (lv' := [(1, .int (x1 + (1 : Int32))), (0, .ref this)]) M.x M.b d_M_holdBooks_20 hl (k := 1) rfl rfl (by decide) rfl (fun ls hl => ?_)
    refine lv_goto (tgt := 2) M.x M.b d_M_holdBooks_23 (by decide) ?_
    exact hk2 _ _ hf H locs ls hH hS (lv_sub hl [1, 0] rfl)
def f_M_holdBooks_2 (this : Nat) : Nat → Int32 → Hp → Option (Hp)
  | 0, _, _ => none
  | n + 1, x1, h => t_M_holdBooks_2 this (f_M_holdBooks_2 this n) x1 h
theorem w_M_holdBooks_2 {p : Program} {l : Launch} {e : Env} {s : State} {m : MethodId} {args : Array Value} {below : List Frame} {meth : Method} {c : Code} {N0 : Nat} {D : va_G} {cs : Nat → ClassId} (M : ZC p s m args meth c "YearBasketsModel" "holdBooks" b_M_holdBooks 2 (none) N0 D cs) (this : Nat)  {h0 : Hp}  : ∀ (n : Nat) (x1 : Int32) (h : Hp), f_M_holdBooks_2 this n x1 h = some h0 → ZG p l e (zrm 1 0 0) s m args below meth c N0 D cs none h0 h 2 [(0, .ref this), (1, .int x1)] 2 [] := by
  intro n
  induction n with
  | zero => intro x1 h hf; exact absurd (show none = some _ from hf) (fun q => by cases q)
  | succ n ih => intro x1 h hf; exact v_M_holdBooks_2 M this (f_M_holdBooks_2 this n)  ih _ _ hf
def f_M_holdBooks (this : Nat) (h : Hp) : Option (Hp) :=
  if isO h this 8 = true then
  f_M_holdBooks_2 this FU (0 : Int32) h
  else none
theorem o_M_holdBooks {this : Nat} {h : Hp} {h0 : Hp} (hf : f_M_holdBooks this h = some h0) : isO h this 8 = true := by
  unfold f_M_holdBooks at hf
  exact (z_gd hf).1
set_option maxRecDepth 100000 in
set_option maxHeartbeats 4000000 in
theorem c_M_holdBooks {l : Launch} {N0 : Nat} {D : va_G} {cs : Nat → ClassId} {this : Nat} {h : Hp} {h0 : Hp} (hf : f_M_holdBooks this h = some h0) : Fn l N0 D cs y_M_holdBooks b_M_holdBooks 2 (none) 1 0 0 [.ref this] h none h0 := by
  refine z_start (by decide) (Nat.le_of_ble_eq_true rfl) ?_
  intro p e s m args below meth c M hH hS ls hl
  unfold f_M_holdBooks at hf
  obtain ⟨hO, hf⟩ := z_gd hf
  have hl : lv_has ls 2 [(0, .ref this)] := hl
  obtain ⟨H, hHe⟩ : ∃ H, H = s.heap := ⟨_, rfl⟩
  obtain ⟨locs, hLe⟩ : ∃ locs : List Loc, locs = [] := ⟨_, rfl⟩
  have hS : va_S (zA N0) s.heap H locs := by rw [hHe, hLe]; exact hS
  have hH : HH N0 D cs h H := by rw [hHe]; exact hH
  suffices hg : W p l e (zrm 1 0 0) s m args below meth c H locs 0 0 (MQ below (zQ N0 D cs none h0) args s 0 0 (zA N0)) (F0 m 0 ls []) by rw [hHe, hLe] at hg; exact hg
  clear hHe hLe
  refine lv_iconst (v := (0 : Int32)) M.x M.b d_M_holdBooks_0 rfl ?_
  refine lv_istore_n (lv' := [(1, .int (0 : Int32)), (0, .ref this)]) M.x M.b d_M_holdBooks_1 rfl hl (by decide) rfl (fun ls hl => ?_)
  exact w_M_holdBooks_2 M this FU _ _ hf H locs ls hH hS (lv_sub hl [1, 0] rfl)
def t_M_putBooks_28 (this : Nat) (k28 : Int32 → Hp → Option (Hp)) (x1 : Int32) (h : Hp) : Option (Hp) :=
  if (150 : Int32) ≤ x1 then
    some h
  else
  (gA h this 8 1).bind fun r1 =>
  (gA h this 8 32).bind fun r3 =>
  (r3).bind fun a5 =>
  (aI h 0 a5 x1).bind fun i8 =>
  (r1).bind fun a9 =>
  (sI h a9 x1 i8).bind fun h12 =>
  k28 (x1 + (1 : Int32)) h12
set_option maxRecDepth 100000 in
set_option maxHeartbeats 4000000 in
theorem v_M_putBooks_28 {p : Program} {l : Launch} {e : Env} {s : State} {m : MethodId} {args : Array Value} {below : List Frame} {meth : Method} {c : Code} {N0 : Nat} {D : va_G} {cs : Nat → ClassId} (M : ZC p s m args meth c "YearBasketsModel" "putBooks" b_M_putBooks 2 (none) N0 D cs) (this : Nat) (k28 : Int32 → Hp → Option (Hp)) {h0 : Hp} (hk28 : ∀ (x1 : Int32) (h : Hp), k28 x1 h = some h0 → ZG p l e (zrm 1 0 0) s m args below meth c N0 D cs none h0 h 2 [(0, .ref this), (1, .int x1)] 28 []) (x1 : Int32) (h : Hp) (hf : t_M_putBooks_28 this k28 x1 h = some h0) : ZG p l e (zrm 1 0 0) s m args below meth c N0 D cs none h0 h 2 [(0, .ref this), (1, .int x1)] 28 [] := by
  intro H locs ls hH hS hl
  unfold t_M_putBooks_28 at hf
  refine lv_iload_n M.x M.b d_M_putBooks_28 rfl (lv_at hl 1 rfl) ?_
  refine lv_sipush (v := (150 : Int32)) M.x M.b d_M_putBooks_29 rfl ?_
  refine lv_icmp_ge (tgt := 53) M.x M.b d_M_putBooks_32 (by decide) (fun c13 => ?_) (fun c13 => ?_)
  · replace hf := z_t c13 hf
    obtain rfl := z_r1 hf
    exact z_vret M hH hS d_M_putBooks_53
  · replace hf := z_f c13 hf
    refine lv_aload_n M.x M.b d_M_putBooks_35 rfl (lv_at hl 0 rfl) ?_
    replace hf := z_bind hf; obtain ⟨r1, e2, hf⟩ := hf
    refine z_get (ci := 8) (k := 1) M hH rfl (by decide) zinM q_570 (gA_spec e2) d_M_putBooks_36 ?_
    refine lv_iload_n M.x M.b d_M_putBooks_39 rfl (lv_at hl 1 rfl) ?_
    refine lv_aload_n M.x M.b d_M_putBooks_40 rfl (lv_at hl 0 rfl) ?_
    replace hf := z_bind hf; obtain ⟨r3, e4, hf⟩ := hf
    refine z_get (ci := 8) (k := 32) M hH rfl (by decide) zinM q_764 (gA_spec e4) d_M_putBooks_41 ?_
    refine lv_iload_n M.x M.b d_M_putBooks_44 rfl (lv_at hl 1 rfl) ?_
    rcases r3 with _ | a5
    · exact absurd hf z_nb0
    replace hf := z_sb hf
    replace hf := z_bind hf; obtain ⟨i8, e7, hf⟩ := hf
    refine z_iald M hH e7 d_M_putBooks_45 ?_
    rcases r1 with _ | a9
    · exact absurd hf z_nb0
    replace hf := z_sb hf
    replace hf := z_bind hf; obtain ⟨h12, e11, hf⟩ := hf
    refine z_iast M hH hS e11 d_M_putBooks_46 (fun H locs hH hS => ?_)
    refine lv_iinc (v := (x1 + (1 : Int32))) (lv' := [(1, .int (x1 + (1 : Int32))), (0, .ref this)]) M.x M.b d_M_putBooks_47 hl (k := 1) rfl rfl (by decide) rfl (fun ls hl => ?_)
    refine lv_goto (tgt := 28) M.x M.b d_M_putBooks_50 (by decide) ?_
    exact hk28 _ _ hf H locs ls hH hS (lv_sub hl [1, 0] rfl)
def f_M_putBooks_28 (this : Nat) : Nat → Int32 → Hp → Option (Hp)
  | 0, _, _ => none
  | n + 1, x1, h => t_M_putBooks_28 this (f_M_putBooks_28 this n) x1 h
theorem w_M_putBooks_28 {p : Program} {l : Launch} {e : Env} {s : State} {m : MethodId} {args : Array Value} {below : List Frame} {meth : Method} {c : Code} {N0 : Nat} {D : va_G} {cs : Nat → ClassId} (M : ZC p s m args meth c "YearBasketsModel" "putBooks" b_M_putBooks 2 (none) N0 D cs) (this : Nat)  {h0 : Hp}  : ∀ (n : Nat) (x1 : Int32) (h : Hp), f_M_putBooks_28 this n x1 h = some h0 → ZG p l e (zrm 1 0 0) s m args below meth c N0 D cs none h0 h 2 [(0, .ref this), (1, .int x1)] 28 [] := by
  intro n
  induction n with
  | zero => intro x1 h hf; exact absurd (show none = some _ from hf) (fun q => by cases q)
  | succ n ih => intro x1 h hf; exact v_M_putBooks_28 M this (f_M_putBooks_28 this n)  ih _ _ hf
def t_M_putBooks_2 (this : Nat) (k2 : Int32 → Hp → Option (Hp)) (x1 : Int32) (h : Hp) : Option (Hp) :=
  if (50 : Int32) ≤ x1 then
    f_M_putBooks_28 this FU (0 : Int32) h
  else
  (gA h this 8 0).bind fun r14 =>
  (gA h this 8 31).bind fun r16 =>
  (r16).bind fun a18 =>
  (aI h 0 a18 x1).bind fun i21 =>
  (r14).bind fun a22 =>
  (sI h a22 x1 i21).bind fun h25 =>
  k2 (x1 + (1 : Int32)) h25
set_option maxRecDepth 100000 in
set_option maxHeartbeats 4000000 in
theorem v_M_putBooks_2 {p : Program} {l : Launch} {e : Env} {s : State} {m : MethodId} {args : Array Value} {below : List Frame} {meth : Method} {c : Code} {N0 : Nat} {D : va_G} {cs : Nat → ClassId} (M : ZC p s m args meth c "YearBasketsModel" "putBooks" b_M_putBooks 2 (none) N0 D cs) (this : Nat) (k2 : Int32 → Hp → Option (Hp)) {h0 : Hp} (hk2 : ∀ (x1 : Int32) (h : Hp), k2 x1 h = some h0 → ZG p l e (zrm 1 0 0) s m args below meth c N0 D cs none h0 h 2 [(0, .ref this), (1, .int x1)] 2 []) (x1 : Int32) (h : Hp) (hf : t_M_putBooks_2 this k2 x1 h = some h0) : ZG p l e (zrm 1 0 0) s m args below meth c N0 D cs none h0 h 2 [(0, .ref this), (1, .int x1)] 2 [] := by
  intro H locs ls hH hS hl
  unfold t_M_putBooks_2 at hf
  refine lv_iload_n M.x M.b d_M_putBooks_2 rfl (lv_at hl 1 rfl) ?_
  refine lv_bipush (v := (50 : Int32)) M.x M.b d_M_putBooks_3 rfl ?_
  refine lv_icmp_ge (tgt := 26) M.x M.b d_M_putBooks_5 (by decide) (fun c26 => ?_) (fun c26 => ?_)
  · replace hf := z_t c26 hf
    refine lv_iconst (v := (0 : Int32)) M.x M.b d_M_putBooks_26 rfl ?_
    refine lv_istore_n (lv' := [(1, .int (0 : Int32)), (0, .ref this)]) M.x M.b d_M_putBooks_27 rfl hl (by decide) rfl (fun ls hl => ?_)
    exact w_M_putBooks_28 M this FU _ _ hf H locs ls hH hS (lv_sub hl [1, 0] rfl)
  · replace hf := z_f c26 hf
    refine lv_aload_n M.x M.b d_M_putBooks_8 rfl (lv_at hl 0 rfl) ?_
    replace hf := z_bind hf; obtain ⟨r14, e15, hf⟩ := hf
    refine z_get (ci := 8) (k := 0) M hH rfl (by decide) zinM q_562 (gA_spec e15) d_M_putBooks_9 ?_
    refine lv_iload_n M.x M.b d_M_putBooks_12 rfl (lv_at hl 1 rfl) ?_
    refine lv_aload_n M.x M.b d_M_putBooks_13 rfl (lv_at hl 0 rfl) ?_
    replace hf := z_bind hf; obtain ⟨r16, e17, hf⟩ := hf
    refine z_get (ci := 8) (k := 31) M hH rfl (by decide) zinM q_765 (gA_spec e17) d_M_putBooks_14 ?_
    refine lv_iload_n M.x M.b d_M_putBooks_17 rfl (lv_at hl 1 rfl) ?_
    rcases r16 with _ | a18
    · exact absurd hf z_nb0
    replace hf := z_sb hf
    replace hf := z_bind hf; obtain ⟨i21, e20, hf⟩ := hf
    refine z_iald M hH e20 d_M_putBooks_18 ?_
    rcases r14 with _ | a22
    · exact absurd hf z_nb0
    replace hf := z_sb hf
    replace hf := z_bind hf; obtain ⟨h25, e24, hf⟩ := hf
    refine z_iast M hH hS e24 d_M_putBooks_19 (fun H locs hH hS => ?_)
    refine lv_iinc (v := (x1 + (1 : Int32))) (lv' := [(1, .int (x1 + (1 : Int32))), (0, .ref this)]) M.x M.b d_M_putBooks_20 hl (k := 1) rfl rfl (by decide) rfl (fun ls hl => ?_)
    refine lv_goto (tgt := 2) M.x M.b d_M_putBooks_23 (by decide) ?_
    exact hk2 _ _ hf H locs ls hH hS (lv_sub hl [1, 0] rfl)
def f_M_putBooks_2 (this : Nat) : Nat → Int32 → Hp → Option (Hp)
  | 0, _, _ => none
  | n + 1, x1, h => t_M_putBooks_2 this (f_M_putBooks_2 this n) x1 h
theorem w_M_putBooks_2 {p : Program} {l : Launch} {e : Env} {s : State} {m : MethodId} {args : Array Value} {below : List Frame} {meth : Method} {c : Code} {N0 : Nat} {D : va_G} {cs : Nat → ClassId} (M : ZC p s m args meth c "YearBasketsModel" "putBooks" b_M_putBooks 2 (none) N0 D cs) (this : Nat)  {h0 : Hp}  : ∀ (n : Nat) (x1 : Int32) (h : Hp), f_M_putBooks_2 this n x1 h = some h0 → ZG p l e (zrm 1 0 0) s m args below meth c N0 D cs none h0 h 2 [(0, .ref this), (1, .int x1)] 2 [] := by
  intro n
  induction n with
  | zero => intro x1 h hf; exact absurd (show none = some _ from hf) (fun q => by cases q)
  | succ n ih => intro x1 h hf; exact v_M_putBooks_2 M this (f_M_putBooks_2 this n)  ih _ _ hf
def f_M_putBooks (this : Nat) (h : Hp) : Option (Hp) :=
  if isO h this 8 = true then
  f_M_putBooks_2 this FU (0 : Int32) h
  else none
theorem o_M_putBooks {this : Nat} {h : Hp} {h0 : Hp} (hf : f_M_putBooks this h = some h0) : isO h this 8 = true := by
  unfold f_M_putBooks at hf
  exact (z_gd hf).1
set_option maxRecDepth 100000 in
set_option maxHeartbeats 4000000 in
theorem c_M_putBooks {l : Launch} {N0 : Nat} {D : va_G} {cs : Nat → ClassId} {this : Nat} {h : Hp} {h0 : Hp} (hf : f_M_putBooks this h = some h0) : Fn l N0 D cs y_M_putBooks b_M_putBooks 2 (none) 1 0 0 [.ref this] h none h0 := by
  refine z_start (by decide) (Nat.le_of_ble_eq_true rfl) ?_
  intro p e s m args below meth c M hH hS ls hl
  unfold f_M_putBooks at hf
  obtain ⟨hO, hf⟩ := z_gd hf
  have hl : lv_has ls 2 [(0, .ref this)] := hl
  obtain ⟨H, hHe⟩ : ∃ H, H = s.heap := ⟨_, rfl⟩
  obtain ⟨locs, hLe⟩ : ∃ locs : List Loc, locs = [] := ⟨_, rfl⟩
  have hS : va_S (zA N0) s.heap H locs := by rw [hHe, hLe]; exact hS
  have hH : HH N0 D cs h H := by rw [hHe]; exact hH
  suffices hg : W p l e (zrm 1 0 0) s m args below meth c H locs 0 0 (MQ below (zQ N0 D cs none h0) args s 0 0 (zA N0)) (F0 m 0 ls []) by rw [hHe, hLe] at hg; exact hg
  clear hHe hLe
  refine lv_iconst (v := (0 : Int32)) M.x M.b d_M_putBooks_0 rfl ?_
  refine lv_istore_n (lv' := [(1, .int (0 : Int32)), (0, .ref this)]) M.x M.b d_M_putBooks_1 rfl hl (by decide) rfl (fun ls hl => ?_)
  exact w_M_putBooks_2 M this FU _ _ hf H locs ls hH hS (lv_sub hl [1, 0] rfl)
def f_M_product (this : Nat) (x1 : Int32) (x2 : Int32) (h : Hp) : Option ((Int32 × Hp)) :=
  if isO h this 8 = true then
  (gA h this 8 30).bind fun r1 =>
  (r1).bind fun a3 =>
  (aI h 2 a3 x1).bind fun i6 =>
  (gA h this 8 30).bind fun r7 =>
  (r7).bind fun a9 =>
  (aI h 2 a9 x2).bind fun i12 =>
  if i6 = i12 then
    (gA h this 8 28).bind fun r13 =>
    (r13).bind fun a15 =>
    (aL h a15 x1).bind fun l18 =>
    (gA h this 8 29).bind fun r19 =>
    (r19).bind fun a21 =>
    (aL h a21 x1).bind fun l24 =>
    (gA h this 8 28).bind fun r25 =>
    (r25).bind fun a27 =>
    (aL h a27 x2).bind fun l30 =>
    (gA h this 8 29).bind fun r31 =>
    (r31).bind fun a33 =>
    (aL h a33 x2).bind fun l36 =>
    (gA h this 8 30).bind fun r37 =>
    (r37).bind fun a39 =>
    (aI h 2 a39 x1).bind fun i42 =>
    zb2 (f_M_multiply this l18 l24 l30 l36 i42 h) fun i44 h45 =>
    (f_M_keep this x1 h45).bind fun h47 =>
    some (i44, h47)
  else
  some ((-1003 : Int32), h)
  else none
theorem o_M_product {this : Nat} {x1 : Int32} {x2 : Int32} {h : Hp} {r0 : Int32} {h0 : Hp} (hf : f_M_product this x1 x2 h = some (r0, h0)) : isO h this 8 = true := by
  unfold f_M_product at hf
  exact (z_gd hf).1
set_option maxRecDepth 100000 in
set_option maxHeartbeats 4000000 in
theorem c_M_product {l : Launch} {N0 : Nat} {D : va_G} {cs : Nat → ClassId} {this : Nat} {x1 : Int32} {x2 : Int32} {h : Hp} {r0 : Int32} {h0 : Hp} (hf : f_M_product this x1 x2 h = some (r0, h0)) : Fn l N0 D cs y_M_product b_M_product 4 (some .int) 4 0 0 [.ref this, .int x1, .int x2] h (some (.int r0)) h0 := by
  refine z_start (by decide) (Nat.le_of_ble_eq_true rfl) ?_
  intro p e s m args below meth c M hH hS ls hl
  unfold f_M_product at hf
  obtain ⟨hO, hf⟩ := z_gd hf
  have hl : lv_has ls 4 [(0, .ref this), (1, .int x1), (2, .int x2)] := hl
  obtain ⟨H, hHe⟩ : ∃ H, H = s.heap := ⟨_, rfl⟩
  obtain ⟨locs, hLe⟩ : ∃ locs : List Loc, locs = [] := ⟨_, rfl⟩
  have hS : va_S (zA N0) s.heap H locs := by rw [hHe, hLe]; exact hS
  have hH : HH N0 D cs h H := by rw [hHe]; exact hH
  suffices hg : W p l e (zrm 4 0 0) s m args below meth c H locs 0 0 (MQ below (zQ N0 D cs (some (.int r0)) h0) args s 0 0 (zA N0)) (F0 m 0 ls []) by rw [hHe, hLe] at hg; exact hg
  clear hHe hLe
  refine lv_aload_n M.x M.b d_M_product_0 rfl (lv_at hl 0 rfl) ?_
  replace hf := z_bind hf; obtain ⟨r1, e2, hf⟩ := hf
  refine z_get (ci := 8) (k := 30) M hH rfl (by decide) zinM q_746 (gA_spec e2) d_M_product_1 ?_
  refine lv_iload_n M.x M.b d_M_product_4 rfl (lv_at hl 1 rfl) ?_
  rcases r1 with _ | a3
  · exact absurd hf z_nb0
  replace hf := z_sb hf
  replace hf := z_bind hf; obtain ⟨i6, e5, hf⟩ := hf
  refine z_zald M hH e5 d_M_product_5 ?_
  refine lv_aload_n M.x M.b d_M_product_6 rfl (lv_at hl 0 rfl) ?_
  replace hf := z_bind hf; obtain ⟨r7, e8, hf⟩ := hf
  refine z_get (ci := 8) (k := 30) M hH rfl (by decide) zinM q_746 (gA_spec e8) d_M_product_7 ?_
  refine lv_iload_n M.x M.b d_M_product_10 rfl (lv_at hl 2 rfl) ?_
  rcases r7 with _ | a9
  · exact absurd hf z_nb0
  replace hf := z_sb hf
  replace hf := z_bind hf; obtain ⟨i12, e11, hf⟩ := hf
  refine z_zald M hH e11 d_M_product_11 ?_
  refine lv_icmp_eq (tgt := 19) M.x M.b d_M_product_12 (by decide) (fun c48 => ?_) (fun c48 => ?_)
  · replace hf := z_t c48 hf
    refine lv_aload_n M.x M.b d_M_product_19 rfl (lv_at hl 0 rfl) ?_
    refine lv_aload_n M.x M.b d_M_product_20 rfl (lv_at hl 0 rfl) ?_
    replace hf := z_bind hf; obtain ⟨r13, e14, hf⟩ := hf
    refine z_get (ci := 8) (k := 28) M hH rfl (by decide) zinM q_748 (gA_spec e14) d_M_product_21 ?_
    refine lv_iload_n M.x M.b d_M_product_24 rfl (lv_at hl 1 rfl) ?_
    rcases r13 with _ | a15
    · exact absurd hf z_nb0
    replace hf := z_sb hf
    replace hf := z_bind hf; obtain ⟨l18, e17, hf⟩ := hf
    refine z_lald M hH e17 d_M_product_25 ?_
    refine lv_aload_n M.x M.b d_M_product_26 rfl (lv_at hl 0 rfl) ?_
    replace hf := z_bind hf; obtain ⟨r19, e20, hf⟩ := hf
    refine z_get (ci := 8) (k := 29) M hH rfl (by decide) zinM q_747 (gA_spec e20) d_M_product_27 ?_
    refine lv_iload_n M.x M.b d_M_product_30 rfl (lv_at hl 1 rfl) ?_
    rcases r19 with _ | a21
    · exact absurd hf z_nb0
    replace hf := z_sb hf
    replace hf := z_bind hf; obtain ⟨l24, e23, hf⟩ := hf
    refine z_lald M hH e23 d_M_product_31 ?_
    refine lv_aload_n M.x M.b d_M_product_32 rfl (lv_at hl 0 rfl) ?_
    replace hf := z_bind hf; obtain ⟨r25, e26, hf⟩ := hf
    refine z_get (ci := 8) (k := 28) M hH rfl (by decide) zinM q_748 (gA_spec e26) d_M_product_33 ?_
    refine lv_iload_n M.x M.b d_M_product_36 rfl (lv_at hl 2 rfl) ?_
    rcases r25 with _ | a27
    · exact absurd hf z_nb0
    replace hf := z_sb hf
    replace hf := z_bind hf; obtain ⟨l30, e29, hf⟩ := hf
    refine z_lald M hH e29 d_M_product_37 ?_
    refine lv_aload_n M.x M.b d_M_product_38 rfl (lv_at hl 0 rfl) ?_
    replace hf := z_bind hf; obtain ⟨r31, e32, hf⟩ := hf
    refine z_get (ci := 8) (k := 29) M hH rfl (by decide) zinM q_747 (gA_spec e32) d_M_product_39 ?_
    refine lv_iload_n M.x M.b d_M_product_42 rfl (lv_at hl 2 rfl) ?_
    rcases r31 with _ | a33
    · exact absurd hf z_nb0
    replace hf := z_sb hf
    replace hf := z_bind hf; obtain ⟨l36, e35, hf⟩ := hf
    refine z_lald M hH e35 d_M_product_43 ?_
    refine lv_aload_n M.x M.b d_M_product_44 rfl (lv_at hl 0 rfl) ?_
    replace hf := z_bind hf; obtain ⟨r37, e38, hf⟩ := hf
    refine z_get (ci := 8) (k := 30) M hH rfl (by decide) zinM q_746 (gA_spec e38) d_M_product_45 ?_
    refine lv_iload_n M.x M.b d_M_product_48 rfl (lv_at hl 1 rfl) ?_
    rcases r37 with _ | a39
    · exact absurd hf z_nb0
    replace hf := z_sb hf
    replace hf := z_bind hf; obtain ⟨i42, e41, hf⟩ := hf
    refine z_zald M hH e41 d_M_product_49 ?_
    replace hf := z_bind2 hf; obtain ⟨i44, h45, e43, hf⟩ := hf
    refine zk_V (ci := 8) (st1 := [.int i44]) M hH hS (c_M_multiply e43) rfl (o_M_multiply e43) w_M_multiply q_682 [] rfl ⟨Nat.le_of_ble_eq_true rfl, Nat.le_of_ble_eq_true rfl⟩ hl.1 rfl rfl (Nat.le_of_ble_eq_true rfl) d_M_product_50 (fun H locs hH hS => ?_)
    refine lv_istore_n (lv' := [(3, .int i44), (0, .ref this), (1, .int x1), (2, .int x2)]) M.x M.b d_M_product_53 rfl hl (by decide) rfl (fun ls hl => ?_)
    refine lv_aload_n M.x M.b d_M_product_54 rfl (lv_at hl 1 rfl) ?_
    refine lv_iload_n M.x M.b d_M_product_55 rfl (lv_at hl 2 rfl) ?_
    replace hf := z_bind hf; obtain ⟨h47, e46, hf⟩ := hf
    refine zk_V (ci := 8) (st1 := []) M hH hS (c_M_keep e46) rfl (o_M_keep e46) w_M_keep q_752 [] rfl ⟨Nat.le_of_ble_eq_true rfl, Nat.le_of_ble_eq_true rfl⟩ hl.1 rfl rfl (Nat.le_of_ble_eq_true rfl) d_M_product_56 (fun H locs hH hS => ?_)
    refine lv_iload_n M.x M.b d_M_product_59 rfl (lv_at hl 0 rfl) ?_
    obtain ⟨rfl, rfl⟩ := z_r2 hf
    exact z_iret M hH hS d_M_product_60
  · replace hf := z_f c48 hf
    refine lv_sipush (v := (-1003 : Int32)) M.x M.b d_M_product_15 rfl ?_
    obtain ⟨rfl, rfl⟩ := z_r2 hf
    exact z_iret M hH hS d_M_product_18
def f_M_isOneKept (this : Nat) (h : Hp) (x1 : Int32) : Option (Int32) :=
  if isO h this 8 = true then
  if 0 ≤ x1 then
    (gA h this 8 28).bind fun r1 =>
    (r1).bind fun a3 =>
    (aL h a3 (0 : Int32)).bind fun l6 =>
    if l6 = (1 : Int64) then
      (gA h this 8 29).bind fun r7 =>
      (r7).bind fun a9 =>
      (aL h a9 (0 : Int32)).bind fun l12 =>
      if l12 = (1 : Int64) then
        some (1 : Int32)
      else
      some (0 : Int32)
    else
    some (0 : Int32)
  else
  some x1
  else none
theorem o_M_isOneKept {this : Nat} {h : Hp} {x1 : Int32} {r0 : Int32} (hf : f_M_isOneKept this h x1 = some r0) : isO h this 8 = true := by
  unfold f_M_isOneKept at hf
  exact (z_gd hf).1
set_option maxRecDepth 100000 in
set_option maxHeartbeats 4000000 in
theorem c_M_isOneKept {l : Launch} {N0 : Nat} {D : va_G} {cs : Nat → ClassId} {this : Nat} {h : Hp} {x1 : Int32} {r0 : Int32} (hf : f_M_isOneKept this h x1 = some r0) : Fn l N0 D cs y_M_isOneKept b_M_isOneKept 2 (some .int) 1 0 0 [.ref this, .int x1] h (some (.int r0)) h := by
  refine z_start (by decide) (Nat.le_of_ble_eq_true rfl) ?_
  intro p e s m args below meth c M hH hS ls hl
  unfold f_M_isOneKept at hf
  obtain ⟨hO, hf⟩ := z_gd hf
  have hl : lv_has ls 2 [(0, .ref this), (1, .int x1)] := hl
  obtain ⟨H, hHe⟩ : ∃ H, H = s.heap := ⟨_, rfl⟩
  obtain ⟨locs, hLe⟩ : ∃ locs : List Loc, locs = [] := ⟨_, rfl⟩
  have hS : va_S (zA N0) s.heap H locs := by rw [hHe, hLe]; exact hS
  have hH : HH N0 D cs h H := by rw [hHe]; exact hH
  suffices hg : W p l e (zrm 1 0 0) s m args below meth c H locs 0 0 (MQ below (zQ N0 D cs (some (.int r0)) h) args s 0 0 (zA N0)) (F0 m 0 ls []) by rw [hHe, hLe] at hg; exact hg
  clear hHe hLe
  refine lv_iload_n M.x M.b d_M_isOneKept_0 rfl (lv_at hl 1 rfl) ?_
  refine lv_if_ge (tgt := 8) M.x M.b d_M_isOneKept_1 (by decide) (fun c15 => ?_) (fun c15 => ?_)
  · replace hf := z_t c15 hf
    refine lv_aload_n M.x M.b d_M_isOneKept_8 rfl (lv_at hl 0 rfl) ?_
    replace hf := z_bind hf; obtain ⟨r1, e2, hf⟩ := hf
    refine z_get (ci := 8) (k := 28) M hH rfl (by decide) zinM q_748 (gA_spec e2) d_M_isOneKept_9 ?_
    refine lv_iconst (v := (0 : Int32)) M.x M.b d_M_isOneKept_12 rfl ?_
    rcases r1 with _ | a3
    · exact absurd hf z_nb0
    replace hf := z_sb hf
    replace hf := z_bind hf; obtain ⟨l6, e5, hf⟩ := hf
    refine z_lald M hH e5 d_M_isOneKept_13 ?_
    refine lv_lconst (v := (1 : Int64)) M.x M.b d_M_isOneKept_14 rfl ?_
    refine z_lcmp_ne (tgt := 34) M d_M_isOneKept_15 d_M_isOneKept_16 (by decide) (fun c14 => ?_) (fun c14 => ?_)
    · replace hf := z_f c14 hf
      refine lv_iconst (v := (0 : Int32)) M.x M.b d_M_isOneKept_34 rfl ?_
      obtain rfl := z_r1 hf
      exact z_iret M hH hS d_M_isOneKept_35
    · replace hf := z_t c14 hf
      refine lv_aload_n M.x M.b d_M_isOneKept_19 rfl (lv_at hl 0 rfl) ?_
      replace hf := z_bind hf; obtain ⟨r7, e8, hf⟩ := hf
      refine z_get (ci := 8) (k := 29) M hH rfl (by decide) zinM q_747 (gA_spec e8) d_M_isOneKept_20 ?_
      refine lv_iconst (v := (0 : Int32)) M.x M.b d_M_isOneKept_23 rfl ?_
      rcases r7 with _ | a9
      · exact absurd hf z_nb0
      replace hf := z_sb hf
      replace hf := z_bind hf; obtain ⟨l12, e11, hf⟩ := hf
      refine z_lald M hH e11 d_M_isOneKept_24 ?_
      refine lv_lconst (v := (1 : Int64)) M.x M.b d_M_isOneKept_25 rfl ?_
      refine z_lcmp_ne (tgt := 34) M d_M_isOneKept_26 d_M_isOneKept_27 (by decide) (fun c13 => ?_) (fun c13 => ?_)
      · replace hf := z_f c13 hf
        refine lv_iconst (v := (0 : Int32)) M.x M.b d_M_isOneKept_34 rfl ?_
        obtain rfl := z_r1 hf
        exact z_iret M hH hS d_M_isOneKept_35
      · replace hf := z_t c13 hf
        refine lv_iconst (v := (1 : Int32)) M.x M.b d_M_isOneKept_30 rfl ?_
        refine lv_goto (tgt := 35) M.x M.b d_M_isOneKept_31 (by decide) ?_
        obtain rfl := z_r1 hf
        exact z_iret M hH hS d_M_isOneKept_35
  · replace hf := z_f c15 hf
    refine lv_iload_n M.x M.b d_M_isOneKept_4 rfl (lv_at hl 1 rfl) ?_
    refine lv_goto (tgt := 35) M.x M.b d_M_isOneKept_5 (by decide) ?_
    obtain rfl := z_r1 hf
    exact z_iret M hH hS d_M_isOneKept_35
def t_M_sameLaw_7 (this : Nat) (k7 : Int32 → Int32 → Int32 → Int32 → Int32 → Hp → Option ((Int32 × Hp))) (x1 : Int32) (x2 : Int32) (x3 : Int32) (x4 : Int32) (x5 : Int32) (h : Hp) : Option ((Int32 × Hp)) :=
  if (5 : Int32) ≤ x5 then
    zb2 (f_M_findKept this x1 x2 x3 x4 (0 : Int32) h) fun i2 h3 =>
    (f_M_putBooks this h3).bind fun h5 =>
    (f_M_isOneKept this h5 i2).bind fun i7 =>
    some (i7, h5)
  else
  (gA h this 8 0).bind fun r8 =>
  (gA h this 8 0).bind fun r10 =>
  (r10).bind fun a12 =>
  (aI h 0 a12 (((5 : Int32) * x3) + x5)).bind fun i15 =>
  (r8).bind fun a16 =>
  (sI h a16 (((5 : Int32) * x4) + x5) i15).bind fun h19 =>
  k7 x1 x2 x3 x4 (x5 + (1 : Int32)) h19
set_option maxRecDepth 100000 in
set_option maxHeartbeats 4000000 in
theorem v_M_sameLaw_7 {p : Program} {l : Launch} {e : Env} {s : State} {m : MethodId} {args : Array Value} {below : List Frame} {meth : Method} {c : Code} {N0 : Nat} {D : va_G} {cs : Nat → ClassId} (M : ZC p s m args meth c "YearBasketsModel" "sameLaw" b_M_sameLaw 6 (some .int) N0 D cs) (this : Nat) (k7 : Int32 → Int32 → Int32 → Int32 → Int32 → Hp → Option ((Int32 × Hp))) {r0 : Int32} {h0 : Hp} (hk7 : ∀ (x1 : Int32) (x2 : Int32) (x3 : Int32) (x4 : Int32) (x5 : Int32) (h : Hp), k7 x1 x2 x3 x4 x5 h = some (r0, h0) → ZG p l e (zrm 9 0 0) s m args below meth c N0 D cs (some (.int r0)) h0 h 6 [(0, .ref this), (1, .int x1), (2, .int x2), (3, .int x3), (4, .int x4), (5, .int x5)] 7 []) (x1 : Int32) (x2 : Int32) (x3 : Int32) (x4 : Int32) (x5 : Int32) (h : Hp) (hf : t_M_sameLaw_7 this k7 x1 x2 x3 x4 x5 h = some (r0, h0)) : ZG p l e (zrm 9 0 0) s m args below meth c N0 D cs (some (.int r0)) h0 h 6 [(0, .ref this), (1, .int x1), (2, .int x2), (3, .int x3), (4, .int x4), (5, .int x5)] 7 [] := by
  intro H locs ls hH hS hl
  unfold t_M_sameLaw_7 at hf
  refine lv_iload M.x M.b d_M_sameLaw_7 (lv_at hl 5 rfl) ?_
  refine lv_iconst (v := (5 : Int32)) M.x M.b d_M_sameLaw_9 rfl ?_
  refine lv_icmp_ge (tgt := 42) M.x M.b d_M_sameLaw_10 (by decide) (fun c20 => ?_) (fun c20 => ?_)
  · replace hf := z_t c20 hf
    refine lv_aload_n M.x M.b d_M_sameLaw_42 rfl (lv_at hl 0 rfl) ?_
    refine lv_iload_n M.x M.b d_M_sameLaw_43 rfl (lv_at hl 1 rfl) ?_
    refine lv_iload_n M.x M.b d_M_sameLaw_44 rfl (lv_at hl 2 rfl) ?_
    refine lv_iload_n M.x M.b d_M_sameLaw_45 rfl (lv_at hl 3 rfl) ?_
    refine lv_iload M.x M.b d_M_sameLaw_46 (lv_at hl 4 rfl) ?_
    refine lv_iconst (v := (0 : Int32)) M.x M.b d_M_sameLaw_48 rfl ?_
    replace hf := z_bind2 hf; obtain ⟨i2, h3, e1, hf⟩ := hf
    refine zk_V (ci := 8) (st1 := [.int i2]) M hH hS (c_M_findKept e1) rfl (o_M_findKept e1) w_M_findKept q_760 [] rfl ⟨Nat.le_of_ble_eq_true rfl, Nat.le_of_ble_eq_true rfl⟩ hl.1 rfl rfl (Nat.le_of_ble_eq_true rfl) d_M_sameLaw_49 (fun H locs hH hS => ?_)
    refine lv_istore (lv' := [(5, .int i2), (0, .ref this), (1, .int x1), (2, .int x2), (3, .int x3), (4, .int x4)]) M.x M.b d_M_sameLaw_52 hl (by decide) rfl (fun ls hl => ?_)
    refine lv_aload_n M.x M.b d_M_sameLaw_54 rfl (lv_at hl 1 rfl) ?_
    replace hf := z_bind hf; obtain ⟨h5, e4, hf⟩ := hf
    refine zk_V (ci := 8) (st1 := []) M hH hS (c_M_putBooks e4) rfl (o_M_putBooks e4) w_M_putBooks q_779 [] rfl ⟨Nat.le_of_ble_eq_true rfl, Nat.le_of_ble_eq_true rfl⟩ hl.1 rfl rfl (Nat.le_of_ble_eq_true rfl) d_M_sameLaw_55 (fun H locs hH hS => ?_)
    refine lv_aload_n M.x M.b d_M_sameLaw_58 rfl (lv_at hl 1 rfl) ?_
    refine lv_iload M.x M.b d_M_sameLaw_59 (lv_at hl 0 rfl) ?_
    replace hf := z_bind hf; obtain ⟨i7, e6, hf⟩ := hf
    refine zk_V (ci := 8) (st1 := [.int i7]) M hH hS (c_M_isOneKept e6) rfl (o_M_isOneKept e6) w_M_isOneKept q_778 [] rfl ⟨Nat.le_of_ble_eq_true rfl, Nat.le_of_ble_eq_true rfl⟩ hl.1 rfl rfl (Nat.le_of_ble_eq_true rfl) d_M_sameLaw_61 (fun H locs hH hS => ?_)
    obtain ⟨rfl, rfl⟩ := z_r2 hf
    exact z_iret M hH hS d_M_sameLaw_64
  · replace hf := z_f c20 hf
    refine lv_aload_n M.x M.b d_M_sameLaw_13 rfl (lv_at hl 0 rfl) ?_
    replace hf := z_bind hf; obtain ⟨r8, e9, hf⟩ := hf
    refine z_get (ci := 8) (k := 0) M hH rfl (by decide) zinM q_562 (gA_spec e9) d_M_sameLaw_14 ?_
    refine lv_iconst (v := (5 : Int32)) M.x M.b d_M_sameLaw_17 rfl ?_
    refine lv_iload M.x M.b d_M_sameLaw_18 (lv_at hl 4 rfl) ?_
    refine lv_imul M.x M.b d_M_sameLaw_20 ?_
    refine lv_iload M.x M.b d_M_sameLaw_21 (lv_at hl 5 rfl) ?_
    refine lv_iadd M.x M.b d_M_sameLaw_23 ?_
    refine lv_aload_n M.x M.b d_M_sameLaw_24 rfl (lv_at hl 0 rfl) ?_
    replace hf := z_bind hf; obtain ⟨r10, e11, hf⟩ := hf
    refine z_get (ci := 8) (k := 0) M hH rfl (by decide) zinM q_562 (gA_spec e11) d_M_sameLaw_25 ?_
    refine lv_iconst (v := (5 : Int32)) M.x M.b d_M_sameLaw_28 rfl ?_
    refine lv_iload_n M.x M.b d_M_sameLaw_29 rfl (lv_at hl 3 rfl) ?_
    refine lv_imul M.x M.b d_M_sameLaw_30 ?_
    refine lv_iload M.x M.b d_M_sameLaw_31 (lv_at hl 5 rfl) ?_
    refine lv_iadd M.x M.b d_M_sameLaw_33 ?_
    rcases r10 with _ | a12
    · exact absurd hf z_nb0
    replace hf := z_sb hf
    replace hf := z_bind hf; obtain ⟨i15, e14, hf⟩ := hf
    refine z_iald M hH e14 d_M_sameLaw_34 ?_
    rcases r8 with _ | a16
    · exact absurd hf z_nb0
    replace hf := z_sb hf
    replace hf := z_bind hf; obtain ⟨h19, e18, hf⟩ := hf
    refine z_iast M hH hS e18 d_M_sameLaw_35 (fun H locs hH hS => ?_)
    refine lv_iinc (v := (x5 + (1 : Int32))) (lv' := [(5, .int (x5 + (1 : Int32))), (0, .ref this), (1, .int x1), (2, .int x2), (3, .int x3), (4, .int x4)]) M.x M.b d_M_sameLaw_36 hl (k := 5) rfl rfl (by decide) rfl (fun ls hl => ?_)
    refine lv_goto (tgt := 7) M.x M.b d_M_sameLaw_39 (by decide) ?_
    exact hk7 _ _ _ _ _ _ hf H locs ls hH hS (lv_sub hl [1, 2, 3, 4, 5, 0] rfl)
def f_M_sameLaw_7 (this : Nat) : Nat → Int32 → Int32 → Int32 → Int32 → Int32 → Hp → Option ((Int32 × Hp))
  | 0, _, _, _, _, _, _ => none
  | n + 1, x1, x2, x3, x4, x5, h => t_M_sameLaw_7 this (f_M_sameLaw_7 this n) x1 x2 x3 x4 x5 h
theorem w_M_sameLaw_7 {p : Program} {l : Launch} {e : Env} {s : State} {m : MethodId} {args : Array Value} {below : List Frame} {meth : Method} {c : Code} {N0 : Nat} {D : va_G} {cs : Nat → ClassId} (M : ZC p s m args meth c "YearBasketsModel" "sameLaw" b_M_sameLaw 6 (some .int) N0 D cs) (this : Nat)  {r0 : Int32} {h0 : Hp}  : ∀ (n : Nat) (x1 : Int32) (x2 : Int32) (x3 : Int32) (x4 : Int32) (x5 : Int32) (h : Hp), f_M_sameLaw_7 this n x1 x2 x3 x4 x5 h = some (r0, h0) → ZG p l e (zrm 9 0 0) s m args below meth c N0 D cs (some (.int r0)) h0 h 6 [(0, .ref this), (1, .int x1), (2, .int x2), (3, .int x3), (4, .int x4), (5, .int x5)] 7 [] := by
  intro n
  induction n with
  | zero => intro x1 x2 x3 x4 x5 h hf; exact absurd (show none = some _ from hf) (fun q => by cases q)
  | succ n ih => intro x1 x2 x3 x4 x5 h hf; exact v_M_sameLaw_7 M this (f_M_sameLaw_7 this n)  ih _ _ _ _ _ _ hf
def f_M_sameLaw (this : Nat) (x1 : Int32) (x2 : Int32) (x3 : Int32) (x4 : Int32) (h : Hp) : Option ((Int32 × Hp)) :=
  if isO h this 8 = true then
  (f_M_holdBooks this h).bind fun h22 =>
  f_M_sameLaw_7 this FU x1 x2 x3 x4 (0 : Int32) h22
  else none
theorem o_M_sameLaw {this : Nat} {x1 : Int32} {x2 : Int32} {x3 : Int32} {x4 : Int32} {h : Hp} {r0 : Int32} {h0 : Hp} (hf : f_M_sameLaw this x1 x2 x3 x4 h = some (r0, h0)) : isO h this 8 = true := by
  unfold f_M_sameLaw at hf
  exact (z_gd hf).1
set_option maxRecDepth 100000 in
set_option maxHeartbeats 4000000 in
theorem c_M_sameLaw {l : Launch} {N0 : Nat} {D : va_G} {cs : Nat → ClassId} {this : Nat} {x1 : Int32} {x2 : Int32} {x3 : Int32} {x4 : Int32} {h : Hp} {r0 : Int32} {h0 : Hp} (hf : f_M_sameLaw this x1 x2 x3 x4 h = some (r0, h0)) : Fn l N0 D cs y_M_sameLaw b_M_sameLaw 6 (some .int) 9 0 0 [.ref this, .int x1, .int x2, .int x3, .int x4] h (some (.int r0)) h0 := by
  refine z_start (by decide) (Nat.le_of_ble_eq_true rfl) ?_
  intro p e s m args below meth c M hH hS ls hl
  unfold f_M_sameLaw at hf
  obtain ⟨hO, hf⟩ := z_gd hf
  have hl : lv_has ls 6 [(0, .ref this), (1, .int x1), (2, .int x2), (3, .int x3), (4, .int x4)] := hl
  obtain ⟨H, hHe⟩ : ∃ H, H = s.heap := ⟨_, rfl⟩
  obtain ⟨locs, hLe⟩ : ∃ locs : List Loc, locs = [] := ⟨_, rfl⟩
  have hS : va_S (zA N0) s.heap H locs := by rw [hHe, hLe]; exact hS
  have hH : HH N0 D cs h H := by rw [hHe]; exact hH
  suffices hg : W p l e (zrm 9 0 0) s m args below meth c H locs 0 0 (MQ below (zQ N0 D cs (some (.int r0)) h0) args s 0 0 (zA N0)) (F0 m 0 ls []) by rw [hHe, hLe] at hg; exact hg
  clear hHe hLe
  refine lv_aload_n M.x M.b d_M_sameLaw_0 rfl (lv_at hl 0 rfl) ?_
  replace hf := z_bind hf; obtain ⟨h22, e21, hf⟩ := hf
  refine zk_V (ci := 8) (st1 := []) M hH hS (c_M_holdBooks e21) rfl (o_M_holdBooks e21) w_M_holdBooks q_780 [] rfl ⟨Nat.le_of_ble_eq_true rfl, Nat.le_of_ble_eq_true rfl⟩ hl.1 rfl rfl (Nat.le_of_ble_eq_true rfl) d_M_sameLaw_1 (fun H locs hH hS => ?_)
  refine lv_iconst (v := (0 : Int32)) M.x M.b d_M_sameLaw_4 rfl ?_
  refine lv_istore (lv' := [(5, .int (0 : Int32)), (0, .ref this), (1, .int x1), (2, .int x2), (3, .int x3), (4, .int x4)]) M.x M.b d_M_sameLaw_5 hl (by decide) rfl (fun ls hl => ?_)
  exact w_M_sameLaw_7 M this FU _ _ _ _ _ _ hf H locs ls hH hS (lv_sub hl [1, 2, 3, 4, 5, 0] rfl)
def f_M_backLaw_50 (this : Nat) (s0 : Int32) (h : Hp) : Option ((Int32 × Hp)) :=
  (f_M_isOneKept this h s0).bind fun i2 =>
  some (i2, h)
set_option maxRecDepth 100000 in
set_option maxHeartbeats 4000000 in
theorem w_M_backLaw_50 {p : Program} {l : Launch} {e : Env} {s : State} {m : MethodId} {args : Array Value} {below : List Frame} {meth : Method} {c : Code} {N0 : Nat} {D : va_G} {cs : Nat → ClassId} (M : ZC p s m args meth c "YearBasketsModel" "backLaw" b_M_backLaw 6 (some .int) N0 D cs) (this : Nat)  {r0 : Int32} {h0 : Hp}  (s0 : Int32) (h : Hp) (hf : f_M_backLaw_50 this s0 h = some (r0, h0)) : ZG p l e (zrm 9 0 0) s m args below meth c N0 D cs (some (.int r0)) h0 h 6 [(0, .ref this)] 50 [.int s0] := by
  intro H locs ls hH hS hl
  unfold f_M_backLaw_50 at hf
  refine lv_istore (lv' := [(5, .int s0), (0, .ref this)]) M.x M.b d_M_backLaw_50 hl (by decide) rfl (fun ls hl => ?_)
  refine lv_aload_n M.x M.b d_M_backLaw_52 rfl (lv_at hl 1 rfl) ?_
  refine lv_iload M.x M.b d_M_backLaw_53 (lv_at hl 0 rfl) ?_
  replace hf := z_bind hf; obtain ⟨i2, e1, hf⟩ := hf
  refine zk_V (ci := 8) (st1 := [.int i2]) M hH hS (c_M_isOneKept e1) rfl (o_M_isOneKept e1) w_M_isOneKept q_778 [] rfl ⟨Nat.le_of_ble_eq_true rfl, Nat.le_of_ble_eq_true rfl⟩ hl.1 rfl rfl (Nat.le_of_ble_eq_true rfl) d_M_backLaw_55 (fun H locs hH hS => ?_)
  obtain ⟨rfl, rfl⟩ := z_r2 hf
  exact z_iret M hH hS d_M_backLaw_58
def f_M_backLaw_32 (this : Nat) (s0 : Int32) (h : Hp) : Option ((Int32 × Hp)) :=
  if 0 ≤ s0 then
    zb2 (f_M_product this (0 : Int32) (1 : Int32) h) fun i4 h5 =>
    f_M_backLaw_50 this i4 h5
  else
  f_M_backLaw_50 this s0 h
set_option maxRecDepth 100000 in
set_option maxHeartbeats 4000000 in
theorem w_M_backLaw_32 {p : Program} {l : Launch} {e : Env} {s : State} {m : MethodId} {args : Array Value} {below : List Frame} {meth : Method} {c : Code} {N0 : Nat} {D : va_G} {cs : Nat → ClassId} (M : ZC p s m args meth c "YearBasketsModel" "backLaw" b_M_backLaw 6 (some .int) N0 D cs) (this : Nat)  {r0 : Int32} {h0 : Hp}  (s0 : Int32) (h : Hp) (hf : f_M_backLaw_32 this s0 h = some (r0, h0)) : ZG p l e (zrm 9 0 0) s m args below meth c N0 D cs (some (.int r0)) h0 h 6 [(0, .ref this)] 32 [.int s0] := by
  intro H locs ls hH hS hl
  unfold f_M_backLaw_32 at hf
  refine lv_istore (lv' := [(5, .int s0), (0, .ref this)]) M.x M.b d_M_backLaw_32 hl (by decide) rfl (fun ls hl => ?_)
  refine lv_iload M.x M.b d_M_backLaw_34 (lv_at hl 0 rfl) ?_
  refine lv_if_ge (tgt := 44) M.x M.b d_M_backLaw_36 (by decide) (fun c6 => ?_) (fun c6 => ?_)
  · replace hf := z_t c6 hf
    refine lv_aload_n M.x M.b d_M_backLaw_44 rfl (lv_at hl 1 rfl) ?_
    refine lv_iconst (v := (0 : Int32)) M.x M.b d_M_backLaw_45 rfl ?_
    refine lv_iconst (v := (1 : Int32)) M.x M.b d_M_backLaw_46 rfl ?_
    replace hf := z_bind2 hf; obtain ⟨i4, h5, e3, hf⟩ := hf
    refine zk_V (ci := 8) (st1 := [.int i4]) M hH hS (c_M_product e3) rfl (o_M_product e3) w_M_product q_784 [] rfl ⟨Nat.le_of_ble_eq_true rfl, Nat.le_of_ble_eq_true rfl⟩ hl.1 rfl rfl (Nat.le_of_ble_eq_true rfl) d_M_backLaw_47 (fun H locs hH hS => ?_)
    exact w_M_backLaw_50 M this _ _ hf H locs ls hH hS (lv_sub hl [1] rfl)
  · replace hf := z_f c6 hf
    refine lv_iload M.x M.b d_M_backLaw_39 (lv_at hl 0 rfl) ?_
    refine lv_goto (tgt := 50) M.x M.b d_M_backLaw_41 (by decide) ?_
    exact w_M_backLaw_50 M this _ _ hf H locs ls hH hS (lv_sub hl [1] rfl)
def f_M_backLaw (this : Nat) (x1 : Int32) (x2 : Int32) (x3 : Int32) (x4 : Int32) (h : Hp) : Option ((Int32 × Hp)) :=
  if isO h this 8 = true then
  zb2 (f_M_findKept this x1 x2 x3 x4 (0 : Int32) h) fun i8 h9 =>
  if 0 ≤ i8 then
    zb2 (f_M_findKept this x1 x2 x4 x3 (1 : Int32) h9) fun i11 h12 =>
    f_M_backLaw_32 this i11 h12
  else
  f_M_backLaw_32 this i8 h9
  else none
theorem o_M_backLaw {this : Nat} {x1 : Int32} {x2 : Int32} {x3 : Int32} {x4 : Int32} {h : Hp} {r0 : Int32} {h0 : Hp} (hf : f_M_backLaw this x1 x2 x3 x4 h = some (r0, h0)) : isO h this 8 = true := by
  unfold f_M_backLaw at hf
  exact (z_gd hf).1
set_option maxRecDepth 100000 in
set_option maxHeartbeats 4000000 in
theorem c_M_backLaw {l : Launch} {N0 : Nat} {D : va_G} {cs : Nat → ClassId} {this : Nat} {x1 : Int32} {x2 : Int32} {x3 : Int32} {x4 : Int32} {h : Hp} {r0 : Int32} {h0 : Hp} (hf : f_M_backLaw this x1 x2 x3 x4 h = some (r0, h0)) : Fn l N0 D cs y_M_backLaw b_M_backLaw 6 (some .int) 9 0 0 [.ref this, .int x1, .int x2, .int x3, .int x4] h (some (.int r0)) h0 := by
  refine z_start (by decide) (Nat.le_of_ble_eq_true rfl) ?_
  intro p e s m args below meth c M hH hS ls hl
  unfold f_M_backLaw at hf
  obtain ⟨hO, hf⟩ := z_gd hf
  have hl : lv_has ls 6 [(0, .ref this), (1, .int x1), (2, .int x2), (3, .int x3), (4, .int x4)] := hl
  obtain ⟨H, hHe⟩ : ∃ H, H = s.heap := ⟨_, rfl⟩
  obtain ⟨locs, hLe⟩ : ∃ locs : List Loc, locs = [] := ⟨_, rfl⟩
  have hS : va_S (zA N0) s.heap H locs := by rw [hHe, hLe]; exact hS
  have hH : HH N0 D cs h H := by rw [hHe]; exact hH
  suffices hg : W p l e (zrm 9 0 0) s m args below meth c H locs 0 0 (MQ below (zQ N0 D cs (some (.int r0)) h0) args s 0 0 (zA N0)) (F0 m 0 ls []) by rw [hHe, hLe] at hg; exact hg
  clear hHe hLe
  refine lv_aload_n M.x M.b d_M_backLaw_0 rfl (lv_at hl 0 rfl) ?_
  refine lv_iload_n M.x M.b d_M_backLaw_1 rfl (lv_at hl 1 rfl) ?_
  refine lv_iload_n M.x M.b d_M_backLaw_2 rfl (lv_at hl 2 rfl) ?_
  refine lv_iload_n M.x M.b d_M_backLaw_3 rfl (lv_at hl 3 rfl) ?_
  refine lv_iload M.x M.b d_M_backLaw_4 (lv_at hl 4 rfl) ?_
  refine lv_iconst (v := (0 : Int32)) M.x M.b d_M_backLaw_6 rfl ?_
  replace hf := z_bind2 hf; obtain ⟨i8, h9, e7, hf⟩ := hf
  refine zk_V (ci := 8) (st1 := [.int i8]) M hH hS (c_M_findKept e7) rfl (o_M_findKept e7) w_M_findKept q_760 [] rfl ⟨Nat.le_of_ble_eq_true rfl, Nat.le_of_ble_eq_true rfl⟩ hl.1 rfl rfl (Nat.le_of_ble_eq_true rfl) d_M_backLaw_7 (fun H locs hH hS => ?_)
  refine lv_istore (lv' := [(5, .int i8), (0, .ref this), (1, .int x1), (2, .int x2), (3, .int x3), (4, .int x4)]) M.x M.b d_M_backLaw_10 hl (by decide) rfl (fun ls hl => ?_)
  refine lv_iload M.x M.b d_M_backLaw_12 (lv_at hl 0 rfl) ?_
  refine lv_if_ge (tgt := 22) M.x M.b d_M_backLaw_14 (by decide) (fun c13 => ?_) (fun c13 => ?_)
  · replace hf := z_t c13 hf
    refine lv_aload_n M.x M.b d_M_backLaw_22 rfl (lv_at hl 1 rfl) ?_
    refine lv_iload_n M.x M.b d_M_backLaw_23 rfl (lv_at hl 2 rfl) ?_
    refine lv_iload_n M.x M.b d_M_backLaw_24 rfl (lv_at hl 3 rfl) ?_
    refine lv_iload M.x M.b d_M_backLaw_25 (lv_at hl 5 rfl) ?_
    refine lv_iload_n M.x M.b d_M_backLaw_27 rfl (lv_at hl 4 rfl) ?_
    refine lv_iconst (v := (1 : Int32)) M.x M.b d_M_backLaw_28 rfl ?_
    replace hf := z_bind2 hf; obtain ⟨i11, h12, e10, hf⟩ := hf
    refine zk_V (ci := 8) (st1 := [.int i11]) M hH hS (c_M_findKept e10) rfl (o_M_findKept e10) w_M_findKept q_760 [] rfl ⟨Nat.le_of_ble_eq_true rfl, Nat.le_of_ble_eq_true rfl⟩ hl.1 rfl rfl (Nat.le_of_ble_eq_true rfl) d_M_backLaw_29 (fun H locs hH hS => ?_)
    exact w_M_backLaw_32 M this _ _ hf H locs ls hH hS (lv_sub hl [1] rfl)
  · replace hf := z_f c13 hf
    refine lv_iload M.x M.b d_M_backLaw_17 (lv_at hl 0 rfl) ?_
    refine lv_goto (tgt := 32) M.x M.b d_M_backLaw_19 (by decide) ?_
    exact w_M_backLaw_32 M this _ _ hf H locs ls hH hS (lv_sub hl [1] rfl)
