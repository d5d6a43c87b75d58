/-! ===== the reference, 3: printed by wip/whole/drive.py out of the bytecode ===== -/
theorem q_785 : (Jvm.Cond.instanceMethod ({ cls := "YearBasketsModel", name := "alikeKept", desc := "(I)I" } : Jvm.MethodName)) ∈ zG := zt_5 (List.mem_of_getElem? (i := 170) rfl) rfl
theorem q_786 : (Jvm.Cond.selects "YearBasketsModel" ({ cls := "YearBasketsModel", name := "alikeKept", desc := "(I)I" } : Jvm.MethodName) ({ cls := "YearBasketsModel", name := "alikeKept", desc := "(I)I" } : Jvm.MethodName)) ∈ zG := zG_s (List.mem_of_getElem? (i := 68) rfl) rfl
theorem q_787 : (Jvm.Cond.code ({ cls := "YearBasketsModel", name := "alikeKept", desc := "(I)I" } : Jvm.MethodName) prog_10_method_55_code (3 : Nat) (Option.some Jvm.ClassFile.FieldType.int)) ∈ zG := zt_5 (List.mem_of_getElem? (i := 171) rfl) rfl
theorem q_788 : (Jvm.Cond.instanceMethod ({ cls := "YearBasketsModel", name := "thirdLaw", desc := "(IIIII)I" } : Jvm.MethodName)) ∈ zG := zt_5 (List.mem_of_getElem? (i := 166) rfl) rfl
theorem q_789 : (Jvm.Cond.selects "YearBasketsModel" ({ cls := "YearBasketsModel", name := "thirdLaw", desc := "(IIIII)I" } : Jvm.MethodName) ({ cls := "YearBasketsModel", name := "thirdLaw", desc := "(IIIII)I" } : Jvm.MethodName)) ∈ zG := zG_s (List.mem_of_getElem? (i := 67) rfl) rfl
theorem q_790 : (Jvm.Cond.code ({ cls := "YearBasketsModel", name := "thirdLaw", desc := "(IIIII)I" } : Jvm.MethodName) prog_10_method_56_code (7 : Nat) (Option.some Jvm.ClassFile.FieldType.int)) ∈ zG := zt_5 (List.mem_of_getElem? (i := 167) rfl) rfl
theorem q_791 : (Jvm.Cond.methodLink "YearBasketsModel" (302 : Nat) ({ cls := "YearBasketsModel", name := "alikeKept", desc := "(I)I" } : Jvm.MethodName)) ∈ zG := zt_5 (List.mem_of_getElem? (i := 168) rfl) rfl
theorem q_792 : (Jvm.Cond.instanceMethod ({ cls := "YearBasketsModel", name := "twiceLaw", desc := "(IIII)I" } : Jvm.MethodName)) ∈ zG := zt_5 (List.mem_of_getElem? (i := 174) rfl) rfl
theorem q_793 : (Jvm.Cond.selects "YearBasketsModel" ({ cls := "YearBasketsModel", name := "twiceLaw", desc := "(IIII)I" } : Jvm.MethodName) ({ cls := "YearBasketsModel", name := "twiceLaw", desc := "(IIII)I" } : Jvm.MethodName)) ∈ zG := zG_s (List.mem_of_getElem? (i := 69) rfl) rfl
theorem q_794 : (Jvm.Cond.code ({ cls := "YearBasketsModel", name := "twiceLaw", desc := "(IIII)I" } : Jvm.MethodName) prog_10_method_57_code (7 : Nat) (Option.some Jvm.ClassFile.FieldType.int)) ∈ zG := zt_5 (List.mem_of_getElem? (i := 175) rfl) rfl
theorem q_795 : (Jvm.Cond.instanceMethod ({ cls := "YearBasketsModel", name := "unitsLaw", desc := "(IIIII)I" } : Jvm.MethodName)) ∈ zG := zt_5 (List.mem_of_getElem? (i := 178) rfl) rfl
theorem q_796 : (Jvm.Cond.selects "YearBasketsModel" ({ cls := "YearBasketsModel", name := "unitsLaw", desc := "(IIIII)I" } : Jvm.MethodName) ({ cls := "YearBasketsModel", name := "unitsLaw", desc := "(IIIII)I" } : Jvm.MethodName)) ∈ zG := zG_s (List.mem_of_getElem? (i := 70) rfl) rfl
theorem q_797 : (Jvm.Cond.code ({ cls := "YearBasketsModel", name := "unitsLaw", desc := "(IIIII)I" } : Jvm.MethodName) prog_10_method_58_code (8 : Nat) (Option.some Jvm.ClassFile.FieldType.int)) ∈ zG := zt_5 (List.mem_of_getElem? (i := 179) rfl) rfl
theorem q_798 : (Jvm.Cond.instanceMethod ({ cls := "YearBasketsModel", name := "upLaw", desc := "(IIIII)I" } : Jvm.MethodName)) ∈ zG := zt_5 (List.mem_of_getElem? (i := 182) rfl) rfl
theorem q_799 : (Jvm.Cond.selects "YearBasketsModel" ({ cls := "YearBasketsModel", name := "upLaw", desc := "(IIIII)I" } : Jvm.MethodName) ({ cls := "YearBasketsModel", name := "upLaw", desc := "(IIIII)I" } : Jvm.MethodName)) ∈ zG := zG_s (List.mem_of_getElem? (i := 71) rfl) rfl
theorem q_800 : (Jvm.Cond.code ({ cls := "YearBasketsModel", name := "upLaw", desc := "(IIIII)I" } : Jvm.MethodName) prog_10_method_59_code (7 : Nat) (Option.some Jvm.ClassFile.FieldType.int)) ∈ zG := zt_5 (List.mem_of_getElem? (i := 183) rfl) rfl
theorem q_801 : (Jvm.Cond.instanceMethod ({ cls := "YearBasketsModel", name := "betweenLaw", desc := "(IIII)I" } : Jvm.MethodName)) ∈ zG := zt_5 (List.mem_of_getElem? (i := 186) rfl) rfl
theorem q_802 : (Jvm.Cond.selects "YearBasketsModel" ({ cls := "YearBasketsModel", name := "betweenLaw", desc := "(IIII)I" } : Jvm.MethodName) ({ cls := "YearBasketsModel", name := "betweenLaw", desc := "(IIII)I" } : Jvm.MethodName)) ∈ zG := zG_s (List.mem_of_getElem? (i := 72) rfl) rfl
theorem q_803 : (Jvm.Cond.code ({ cls := "YearBasketsModel", name := "betweenLaw", desc := "(IIII)I" } : Jvm.MethodName) prog_10_method_60_code (11 : Nat) (Option.some Jvm.ClassFile.FieldType.int)) ∈ zG := zt_5 (List.mem_of_getElem? (i := 187) rfl) rfl
theorem q_804 : (Jvm.Cond.instanceMethod ({ cls := "YearBasketsModel", name := "law", desc := "(IIIIII)I" } : Jvm.MethodName)) ∈ zG := zt_5 (List.mem_of_getElem? (i := 138) rfl) rfl
theorem q_805 : (Jvm.Cond.selects "YearBasketsModel" ({ cls := "YearBasketsModel", name := "law", desc := "(IIIIII)I" } : Jvm.MethodName) ({ cls := "YearBasketsModel", name := "law", desc := "(IIIIII)I" } : Jvm.MethodName)) ∈ zG := zG_s (List.mem_of_getElem? (i := 60) rfl) rfl
theorem q_806 : (Jvm.Cond.code ({ cls := "YearBasketsModel", name := "law", desc := "(IIIIII)I" } : Jvm.MethodName) prog_10_method_61_code (7 : Nat) (Option.some Jvm.ClassFile.FieldType.int)) ∈ zG := zt_5 (List.mem_of_getElem? (i := 139) rfl) rfl
theorem q_807 : (Jvm.Cond.methodLink "YearBasketsModel" (305 : Nat) ({ cls := "YearBasketsModel", name := "sameLaw", desc := "(IIII)I" } : Jvm.MethodName)) ∈ zG := zt_5 (List.mem_of_getElem? (i := 140) rfl) rfl
theorem q_808 : (Jvm.Cond.methodLink "YearBasketsModel" (308 : Nat) ({ cls := "YearBasketsModel", name := "backLaw", desc := "(IIII)I" } : Jvm.MethodName)) ∈ zG := zt_5 (List.mem_of_getElem? (i := 156) rfl) rfl
theorem q_809 : (Jvm.Cond.methodLink "YearBasketsModel" (311 : Nat) ({ cls := "YearBasketsModel", name := "thirdLaw", desc := "(IIIII)I" } : Jvm.MethodName)) ∈ zG := zt_5 (List.mem_of_getElem? (i := 164) rfl) rfl
theorem q_810 : (Jvm.Cond.methodLink "YearBasketsModel" (314 : Nat) ({ cls := "YearBasketsModel", name := "twiceLaw", desc := "(IIII)I" } : Jvm.MethodName)) ∈ zG := zt_5 (List.mem_of_getElem? (i := 172) rfl) rfl
theorem q_811 : (Jvm.Cond.methodLink "YearBasketsModel" (317 : Nat) ({ cls := "YearBasketsModel", name := "unitsLaw", desc := "(IIIII)I" } : Jvm.MethodName)) ∈ zG := zt_5 (List.mem_of_getElem? (i := 176) rfl) rfl
theorem q_812 : (Jvm.Cond.methodLink "YearBasketsModel" (320 : Nat) ({ cls := "YearBasketsModel", name := "upLaw", desc := "(IIIII)I" } : Jvm.MethodName)) ∈ zG := zt_5 (List.mem_of_getElem? (i := 180) rfl) rfl
theorem q_813 : (Jvm.Cond.methodLink "YearBasketsModel" (323 : Nat) ({ cls := "YearBasketsModel", name := "betweenLaw", desc := "(IIII)I" } : Jvm.MethodName)) ∈ zG := zt_5 (List.mem_of_getElem? (i := 184) rfl) rfl
theorem q_814 : (Jvm.Cond.instanceMethod ({ cls := "YearBasketsModel", name := "isBroken", desc := "(III)Z" } : Jvm.MethodName)) ∈ zG := zt_5 (List.mem_of_getElem? (i := 134) rfl) rfl
theorem q_815 : (Jvm.Cond.selects "YearBasketsModel" ({ cls := "YearBasketsModel", name := "isBroken", desc := "(III)Z" } : Jvm.MethodName) ({ cls := "YearBasketsModel", name := "isBroken", desc := "(III)Z" } : Jvm.MethodName)) ∈ zG := zG_s (List.mem_of_getElem? (i := 59) rfl) rfl
theorem q_816 : (Jvm.Cond.code ({ cls := "YearBasketsModel", name := "isBroken", desc := "(III)Z" } : Jvm.MethodName) prog_10_method_62_code (10 : Nat) (Option.some Jvm.ClassFile.FieldType.boolean)) ∈ zG := zt_5 (List.mem_of_getElem? (i := 135) rfl) rfl
theorem q_817 : (Jvm.Cond.fieldLink "YearBasketsModel" (336 : Nat) "YearBasketsModel" "breachC" "I") ∈ zG := zt_4 (List.mem_of_getElem? (i := 84) rfl) rfl
theorem q_818 : (Jvm.Cond.fieldLink "YearBasketsModel" (333 : Nat) "YearBasketsModel" "breachB" "I") ∈ zG := zt_4 (List.mem_of_getElem? (i := 83) rfl) rfl
theorem q_819 : (Jvm.Cond.fieldLink "YearBasketsModel" (330 : Nat) "YearBasketsModel" "breachA" "I") ∈ zG := zt_4 (List.mem_of_getElem? (i := 82) rfl) rfl
theorem q_820 : (Jvm.Cond.methodLink "YearBasketsModel" (326 : Nat) ({ cls := "YearBasketsModel", name := "law", desc := "(IIIIII)I" } : Jvm.MethodName)) ∈ zG := zt_5 (List.mem_of_getElem? (i := 136) rfl) rfl
theorem q_821 : (Jvm.Cond.static ({ cls := "YearBasketsModel", name := "isLaw", desc := "(I)Z" } : Jvm.MethodName)) ∈ zG := zt_5 (List.mem_of_getElem? (i := 129) rfl) rfl
theorem q_822 : (Jvm.Cond.code ({ cls := "YearBasketsModel", name := "isLaw", desc := "(I)Z" } : Jvm.MethodName) prog_10_method_63_code (1 : Nat) (Option.some Jvm.ClassFile.FieldType.boolean)) ∈ zG := zt_5 (List.mem_of_getElem? (i := 130) rfl) rfl
theorem q_823 : (Jvm.Cond.constantLong "YearBasketsModel" (339 : Nat) (6 : Int64)) ∈ zG := zt_5 (List.mem_of_getElem? (i := 131) rfl) rfl
theorem q_824 : (Jvm.Cond.instanceMethod ({ cls := "YearBasketsModel", name := "keeps", desc := "(III)I" } : Jvm.MethodName)) ∈ zG := zt_5 (List.mem_of_getElem? (i := 125) rfl) rfl
theorem q_825 : (Jvm.Cond.selects "YearBasketsModel" ({ cls := "YearBasketsModel", name := "keeps", desc := "(III)I" } : Jvm.MethodName) ({ cls := "YearBasketsModel", name := "keeps", desc := "(III)I" } : Jvm.MethodName)) ∈ zG := zt_5 (List.mem_of_getElem? (i := 126) rfl) rfl
theorem q_826 : (Jvm.Cond.code ({ cls := "YearBasketsModel", name := "keeps", desc := "(III)I" } : Jvm.MethodName) prog_10_method_64_code (4 : Nat) (Option.some Jvm.ClassFile.FieldType.int)) ∈ zG := zt_5 (List.mem_of_getElem? (i := 127) rfl) rfl
theorem q_827 : (Jvm.Cond.methodLink "YearBasketsModel" (344 : Nat) ({ cls := "YearBasketsModel", name := "isBroken", desc := "(III)Z" } : Jvm.MethodName)) ∈ zG := zt_5 (List.mem_of_getElem? (i := 132) rfl) rfl
theorem q_828 : (Jvm.Cond.methodLink "YearBasketsModel" (341 : Nat) ({ cls := "YearBasketsModel", name := "isLaw", desc := "(I)Z" } : Jvm.MethodName)) ∈ zG := zt_5 (List.mem_of_getElem? (i := 128) rfl) rfl
theorem q_829 : (Jvm.Cond.instanceMethod ({ cls := "YearBasketsModel", name := "breach", desc := "(IIII)I" } : Jvm.MethodName)) ∈ zG := zt_5 (List.mem_of_getElem? (i := 189) rfl) rfl
theorem q_830 : (Jvm.Cond.selects "YearBasketsModel" ({ cls := "YearBasketsModel", name := "breach", desc := "(IIII)I" } : Jvm.MethodName) ({ cls := "YearBasketsModel", name := "breach", desc := "(IIII)I" } : Jvm.MethodName)) ∈ zG := zt_5 (List.mem_of_getElem? (i := 190) rfl) rfl
theorem q_831 : (Jvm.Cond.code ({ cls := "YearBasketsModel", name := "breach", desc := "(IIII)I" } : Jvm.MethodName) prog_10_method_65_code (5 : Nat) (Option.some Jvm.ClassFile.FieldType.int)) ∈ zG := zt_5 (List.mem_of_getElem? (i := 191) rfl) rfl
theorem q_832 : (Jvm.Cond.static ({ cls := "YearBasketsModel", name := "bits", desc := "(I)I" } : Jvm.MethodName)) ∈ zG := zt_5 (List.mem_of_getElem? (i := 197) rfl) rfl
theorem q_833 : (Jvm.Cond.code ({ cls := "YearBasketsModel", name := "bits", desc := "(I)I" } : Jvm.MethodName) prog_10_method_66_code (3 : Nat) (Option.some Jvm.ClassFile.FieldType.int)) ∈ zG := zt_5 (List.mem_of_getElem? (i := 198) rfl) rfl
theorem q_834 : (Jvm.Cond.instanceMethod ({ cls := "YearBasketsModel", name := "clash", desc := "(I)I" } : Jvm.MethodName)) ∈ zG := zt_5 (List.mem_of_getElem? (i := 193) rfl) rfl
theorem q_835 : (Jvm.Cond.selects "YearBasketsModel" ({ cls := "YearBasketsModel", name := "clash", desc := "(I)I" } : Jvm.MethodName) ({ cls := "YearBasketsModel", name := "clash", desc := "(I)I" } : Jvm.MethodName)) ∈ zG := zt_5 (List.mem_of_getElem? (i := 194) rfl) rfl
theorem q_836 : (Jvm.Cond.code ({ cls := "YearBasketsModel", name := "clash", desc := "(I)I" } : Jvm.MethodName) prog_10_method_67_code (6 : Nat) (Option.some Jvm.ClassFile.FieldType.int)) ∈ zG := zt_5 (List.mem_of_getElem? (i := 195) rfl) rfl
theorem q_837 : (Jvm.Cond.methodLink "YearBasketsModel" (348 : Nat) ({ cls := "YearBasketsModel", name := "bits", desc := "(I)I" } : Jvm.MethodName)) ∈ zG := zt_5 (List.mem_of_getElem? (i := 196) rfl) rfl
theorem q_838 : (Jvm.Cond.fieldLink "YearBasketsModel" (76 : Nat) "YearBasketsModel" "kept" "[I") ∈ zG := zt_4 (List.mem_of_getElem? (i := 85) rfl) rfl
abbrev b_M_alikeKept : ByteArray := prog_10_method_55_code
abbrev y_M_alikeKept : MethodName := ⟨"YearBasketsModel", "alikeKept", "(I)I"⟩
abbrev b_M_thirdLaw : ByteArray := prog_10_method_56_code
abbrev y_M_thirdLaw : MethodName := ⟨"YearBasketsModel", "thirdLaw", "(IIIII)I"⟩
abbrev b_M_twiceLaw : ByteArray := prog_10_method_57_code
abbrev y_M_twiceLaw : MethodName := ⟨"YearBasketsModel", "twiceLaw", "(IIII)I"⟩
abbrev b_M_unitsLaw : ByteArray := prog_10_method_58_code
abbrev y_M_unitsLaw : MethodName := ⟨"YearBasketsModel", "unitsLaw", "(IIIII)I"⟩
abbrev b_M_upLaw : ByteArray := prog_10_method_59_code
abbrev y_M_upLaw : MethodName := ⟨"YearBasketsModel", "upLaw", "(IIIII)I"⟩
abbrev b_M_betweenLaw : ByteArray := prog_10_method_60_code
abbrev y_M_betweenLaw : MethodName := ⟨"YearBasketsModel", "betweenLaw", "(IIII)I"⟩
abbrev b_M_law : ByteArray := prog_10_method_61_code
abbrev y_M_law : MethodName := ⟨"YearBasketsModel", "law", "(IIIIII)I"⟩
abbrev b_M_isBroken : ByteArray := prog_10_method_62_code
abbrev y_M_isBroken : MethodName := ⟨"YearBasketsModel", "isBroken", "(III)Z"⟩
abbrev b_M_isLaw : ByteArray := prog_10_method_63_code
abbrev y_M_isLaw : MethodName := ⟨"YearBasketsModel", "isLaw", "(I)Z"⟩
abbrev b_M_keeps : ByteArray := prog_10_method_64_code
abbrev y_M_keeps : MethodName := ⟨"YearBasketsModel", "keeps", "(III)I"⟩
abbrev b_M_breach : ByteArray := prog_10_method_65_code
abbrev y_M_breach : MethodName := ⟨"YearBasketsModel", "breach", "(IIII)I"⟩
abbrev b_M_bits : ByteArray := prog_10_method_66_code
abbrev y_M_bits : MethodName := ⟨"YearBasketsModel", "bits", "(I)I"⟩
abbrev b_M_clash : ByteArray := prog_10_method_67_code
abbrev y_M_clash : MethodName := ⟨"YearBasketsModel", "clash", "(I)I"⟩
theorem w_M_alikeKept : Cond.code y_M_alikeKept b_M_alikeKept 3 (some .int) ∈ zG ∧ (Cond.instanceMethod y_M_alikeKept ∈ zG ∧ Cond.selects y_M_alikeKept.cls y_M_alikeKept y_M_alikeKept ∈ zG) ∧ Cond.initialized y_M_alikeKept.cls ∈ zG ∧ zY y_M_alikeKept 1 := ⟨q_787, ⟨q_785, q_786⟩, q_547, by decide +kernel⟩
theorem w_M_thirdLaw : Cond.code y_M_thirdLaw b_M_thirdLaw 7 (some .int) ∈ zG ∧ (Cond.instanceMethod y_M_thirdLaw ∈ zG ∧ Cond.selects y_M_thirdLaw.cls y_M_thirdLaw y_M_thirdLaw ∈ zG) ∧ Cond.initialized y_M_thirdLaw.cls ∈ zG ∧ zY y_M_thirdLaw 5 := ⟨q_790, ⟨q_788, q_789⟩, q_547, by decide +kernel⟩
theorem w_M_twiceLaw : Cond.code y_M_twiceLaw b_M_twiceLaw 7 (some .int) ∈ zG ∧ (Cond.instanceMethod y_M_twiceLaw ∈ zG ∧ Cond.selects y_M_twiceLaw.cls y_M_twiceLaw y_M_twiceLaw ∈ zG) ∧ Cond.initialized y_M_twiceLaw.cls ∈ zG ∧ zY y_M_twiceLaw 4 := ⟨q_794, ⟨q_792, q_793⟩, q_547, by decide +kernel⟩
theorem w_M_unitsLaw : Cond.code y_M_unitsLaw b_M_unitsLaw 8 (some .int) ∈ zG ∧ (Cond.instanceMethod y_M_unitsLaw ∈ zG ∧ Cond.selects y_M_unitsLaw.cls y_M_unitsLaw y_M_unitsLaw ∈ zG) ∧ Cond.initialized y_M_unitsLaw.cls ∈ zG ∧ zY y_M_unitsLaw 5 := ⟨q_797, ⟨q_795, q_796⟩, q_547, by decide +kernel⟩
theorem w_M_upLaw : Cond.code y_M_upLaw b_M_upLaw 7 (some .int) ∈ zG ∧ (Cond.instanceMethod y_M_upLaw ∈ zG ∧ Cond.selects y_M_upLaw.cls y_M_upLaw y_M_upLaw ∈ zG) ∧ Cond.initialized y_M_upLaw.cls ∈ zG ∧ zY y_M_upLaw 5 := ⟨q_800, ⟨q_798, q_799⟩, q_547, by decide +kernel⟩
theorem w_M_betweenLaw : Cond.code y_M_betweenLaw b_M_betweenLaw 11 (some .int) ∈ zG ∧ (Cond.instanceMethod y_M_betweenLaw ∈ zG ∧ Cond.selects y_M_betweenLaw.cls y_M_betweenLaw y_M_betweenLaw ∈ zG) ∧ Cond.initialized y_M_betweenLaw.cls ∈ zG ∧ zY y_M_betweenLaw 4 := ⟨q_803, ⟨q_801, q_802⟩, q_547, by decide +kernel⟩
theorem w_M_law : Cond.code y_M_law b_M_law 7 (some .int) ∈ zG ∧ (Cond.instanceMethod y_M_law ∈ zG ∧ Cond.selects y_M_law.cls y_M_law y_M_law ∈ zG) ∧ Cond.initialized y_M_law.cls ∈ zG ∧ zY y_M_law 6 := ⟨q_806, ⟨q_804, q_805⟩, q_547, by decide +kernel⟩
theorem w_M_isBroken : Cond.code y_M_isBroken b_M_isBroken 10 (some .boolean) ∈ zG ∧ (Cond.instanceMethod y_M_isBroken ∈ zG ∧ Cond.selects y_M_isBroken.cls y_M_isBroken y_M_isBroken ∈ zG) ∧ Cond.initialized y_M_isBroken.cls ∈ zG ∧ zY y_M_isBroken 3 := ⟨q_816, ⟨q_814, q_815⟩, q_547, by decide +kernel⟩
theorem w_M_isLaw : Cond.code y_M_isLaw b_M_isLaw 1 (some .boolean) ∈ zG ∧ Cond.static y_M_isLaw ∈ zG ∧ Cond.initialized y_M_isLaw.cls ∈ zG ∧ zY y_M_isLaw 1 := ⟨q_822, q_821, q_547, by decide +kernel⟩
theorem w_M_keeps : Cond.code y_M_keeps b_M_keeps 4 (some .int) ∈ zG ∧ (Cond.instanceMethod y_M_keeps ∈ zG ∧ Cond.selects y_M_keeps.cls y_M_keeps y_M_keeps ∈ zG) ∧ Cond.initialized y_M_keeps.cls ∈ zG ∧ zY y_M_keeps 3 := ⟨q_826, ⟨q_824, q_825⟩, q_547, by decide +kernel⟩
theorem w_M_breach : Cond.code y_M_breach b_M_breach 5 (some .int) ∈ zG ∧ (Cond.instanceMethod y_M_breach ∈ zG ∧ Cond.selects y_M_breach.cls y_M_breach y_M_breach ∈ zG) ∧ Cond.initialized y_M_breach.cls ∈ zG ∧ zY y_M_breach 4 := ⟨q_831, ⟨q_829, q_830⟩, q_547, by decide +kernel⟩
theorem w_M_bits : Cond.code y_M_bits b_M_bits 3 (some .int) ∈ zG ∧ Cond.static y_M_bits ∈ zG ∧ Cond.initialized y_M_bits.cls ∈ zG ∧ zY y_M_bits 1 := ⟨q_833, q_832, q_547, by decide +kernel⟩
theorem w_M_clash : Cond.code y_M_clash b_M_clash 6 (some .int) ∈ zG ∧ (Cond.instanceMethod y_M_clash ∈ zG ∧ Cond.selects y_M_clash.cls y_M_clash y_M_clash ∈ zG) ∧ Cond.initialized y_M_clash.cls ∈ zG ∧ zY y_M_clash 1 := ⟨q_836, ⟨q_834, q_835⟩, q_547, by decide +kernel⟩
theorem d_M_alikeKept_0 : decode b_M_alikeKept 0 = .ok (.iload_n 1, 1) := by decide +kernel
theorem d_M_alikeKept_1 : decode b_M_alikeKept 1 = .ok (.ifCond .ge 7, 3) := by decide +kernel
theorem d_M_alikeKept_4 : decode b_M_alikeKept 4 = .ok (.iload_n 1, 1) := by decide +kernel
theorem d_M_alikeKept_5 : decode b_M_alikeKept 5 = .ok (.goto 9, 3) := by decide +kernel
theorem d_M_alikeKept_8 : decode b_M_alikeKept 8 = .ok (.aload_n 0, 1) := by decide +kernel
theorem d_M_alikeKept_9 : decode b_M_alikeKept 9 = .ok (.iconst 0, 1) := by decide +kernel
theorem d_M_alikeKept_10 : decode b_M_alikeKept 10 = .ok (.iconst 1, 1) := by decide +kernel
theorem d_M_alikeKept_11 : decode b_M_alikeKept 11 = .ok (.invokevirtual 287, 3) := by decide +kernel
theorem d_M_alikeKept_14 : decode b_M_alikeKept 14 = .ok (.istore_n 2, 1) := by decide +kernel
theorem d_M_alikeKept_15 : decode b_M_alikeKept 15 = .ok (.iload_n 2, 1) := by decide +kernel
theorem d_M_alikeKept_16 : decode b_M_alikeKept 16 = .ok (.ifCond .ge 7, 3) := by decide +kernel
theorem d_M_alikeKept_19 : decode b_M_alikeKept 19 = .ok (.iload_n 2, 1) := by decide +kernel
theorem d_M_alikeKept_20 : decode b_M_alikeKept 20 = .ok (.goto 15, 3) := by decide +kernel
theorem d_M_alikeKept_23 : decode b_M_alikeKept 23 = .ok (.aload_n 0, 1) := by decide +kernel
theorem d_M_alikeKept_24 : decode b_M_alikeKept 24 = .ok (.getfield 226, 3) := by decide +kernel
theorem d_M_alikeKept_27 : decode b_M_alikeKept 27 = .ok (.ifCond .ne 7, 3) := by decide +kernel
theorem d_M_alikeKept_30 : decode b_M_alikeKept 30 = .ok (.iconst 1, 1) := by decide +kernel
theorem d_M_alikeKept_31 : decode b_M_alikeKept 31 = .ok (.goto 4, 3) := by decide +kernel
theorem d_M_alikeKept_34 : decode b_M_alikeKept 34 = .ok (.iconst 0, 1) := by decide +kernel
theorem d_M_alikeKept_35 : decode b_M_alikeKept 35 = .ok (.ireturn, 1) := by decide +kernel
theorem d_M_thirdLaw_0 : decode b_M_thirdLaw 0 = .ok (.aload_n 0, 1) := by decide +kernel
theorem d_M_thirdLaw_1 : decode b_M_thirdLaw 1 = .ok (.iload_n 1, 1) := by decide +kernel
theorem d_M_thirdLaw_2 : decode b_M_thirdLaw 2 = .ok (.iload_n 2, 1) := by decide +kernel
theorem d_M_thirdLaw_3 : decode b_M_thirdLaw 3 = .ok (.iload_n 3, 1) := by decide +kernel
theorem d_M_thirdLaw_4 : decode b_M_thirdLaw 4 = .ok (.iload 4, 2) := by decide +kernel
theorem d_M_thirdLaw_6 : decode b_M_thirdLaw 6 = .ok (.iconst 0, 1) := by decide +kernel
theorem d_M_thirdLaw_7 : decode b_M_thirdLaw 7 = .ok (.invokevirtual 284, 3) := by decide +kernel
theorem d_M_thirdLaw_10 : decode b_M_thirdLaw 10 = .ok (.istore 6, 2) := by decide +kernel
theorem d_M_thirdLaw_12 : decode b_M_thirdLaw 12 = .ok (.iload 6, 2) := by decide +kernel
theorem d_M_thirdLaw_14 : decode b_M_thirdLaw 14 = .ok (.ifCond .ge 8, 3) := by decide +kernel
theorem d_M_thirdLaw_17 : decode b_M_thirdLaw 17 = .ok (.iload 6, 2) := by decide +kernel
theorem d_M_thirdLaw_19 : decode b_M_thirdLaw 19 = .ok (.goto 14, 3) := by decide +kernel
theorem d_M_thirdLaw_22 : decode b_M_thirdLaw 22 = .ok (.aload_n 0, 1) := by decide +kernel
theorem d_M_thirdLaw_23 : decode b_M_thirdLaw 23 = .ok (.iload_n 1, 1) := by decide +kernel
theorem d_M_thirdLaw_24 : decode b_M_thirdLaw 24 = .ok (.iload_n 2, 1) := by decide +kernel
theorem d_M_thirdLaw_25 : decode b_M_thirdLaw 25 = .ok (.iload 4, 2) := by decide +kernel
theorem d_M_thirdLaw_27 : decode b_M_thirdLaw 27 = .ok (.iload 5, 2) := by decide +kernel
theorem d_M_thirdLaw_29 : decode b_M_thirdLaw 29 = .ok (.iconst 1, 1) := by decide +kernel
theorem d_M_thirdLaw_30 : decode b_M_thirdLaw 30 = .ok (.invokevirtual 284, 3) := by decide +kernel
theorem d_M_thirdLaw_33 : decode b_M_thirdLaw 33 = .ok (.istore 6, 2) := by decide +kernel
theorem d_M_thirdLaw_35 : decode b_M_thirdLaw 35 = .ok (.iload 6, 2) := by decide +kernel
theorem d_M_thirdLaw_37 : decode b_M_thirdLaw 37 = .ok (.ifCond .ge 8, 3) := by decide +kernel
theorem d_M_thirdLaw_40 : decode b_M_thirdLaw 40 = .ok (.iload 6, 2) := by decide +kernel
theorem d_M_thirdLaw_42 : decode b_M_thirdLaw 42 = .ok (.goto 9, 3) := by decide +kernel
theorem d_M_thirdLaw_45 : decode b_M_thirdLaw 45 = .ok (.aload_n 0, 1) := by decide +kernel
theorem d_M_thirdLaw_46 : decode b_M_thirdLaw 46 = .ok (.iconst 0, 1) := by decide +kernel
theorem d_M_thirdLaw_47 : decode b_M_thirdLaw 47 = .ok (.iconst 1, 1) := by decide +kernel
theorem d_M_thirdLaw_48 : decode b_M_thirdLaw 48 = .ok (.invokevirtual 299, 3) := by decide +kernel
theorem d_M_thirdLaw_51 : decode b_M_thirdLaw 51 = .ok (.istore 6, 2) := by decide +kernel
theorem d_M_thirdLaw_53 : decode b_M_thirdLaw 53 = .ok (.iload 6, 2) := by decide +kernel
theorem d_M_thirdLaw_55 : decode b_M_thirdLaw 55 = .ok (.ifCond .ge 8, 3) := by decide +kernel
theorem d_M_thirdLaw_58 : decode b_M_thirdLaw 58 = .ok (.iload 6, 2) := by decide +kernel
theorem d_M_thirdLaw_60 : decode b_M_thirdLaw 60 = .ok (.goto 13, 3) := by decide +kernel
theorem d_M_thirdLaw_63 : decode b_M_thirdLaw 63 = .ok (.aload_n 0, 1) := by decide +kernel
theorem d_M_thirdLaw_64 : decode b_M_thirdLaw 64 = .ok (.iload_n 1, 1) := by decide +kernel
theorem d_M_thirdLaw_65 : decode b_M_thirdLaw 65 = .ok (.iload_n 2, 1) := by decide +kernel
theorem d_M_thirdLaw_66 : decode b_M_thirdLaw 66 = .ok (.iload_n 3, 1) := by decide +kernel
theorem d_M_thirdLaw_67 : decode b_M_thirdLaw 67 = .ok (.iload 5, 2) := by decide +kernel
theorem d_M_thirdLaw_69 : decode b_M_thirdLaw 69 = .ok (.iconst 1, 1) := by decide +kernel
theorem d_M_thirdLaw_70 : decode b_M_thirdLaw 70 = .ok (.invokevirtual 284, 3) := by decide +kernel
theorem d_M_thirdLaw_73 : decode b_M_thirdLaw 73 = .ok (.istore 6, 2) := by decide +kernel
theorem d_M_thirdLaw_75 : decode b_M_thirdLaw 75 = .ok (.aload_n 0, 1) := by decide +kernel
theorem d_M_thirdLaw_76 : decode b_M_thirdLaw 76 = .ok (.iload 6, 2) := by decide +kernel
theorem d_M_thirdLaw_78 : decode b_M_thirdLaw 78 = .ok (.invokevirtual 302, 3) := by decide +kernel
theorem d_M_thirdLaw_81 : decode b_M_thirdLaw 81 = .ok (.ireturn, 1) := by decide +kernel
theorem d_M_twiceLaw_0 : decode b_M_twiceLaw 0 = .ok (.aload_n 0, 1) := by decide +kernel
theorem d_M_twiceLaw_1 : decode b_M_twiceLaw 1 = .ok (.iload_n 1, 1) := by decide +kernel
theorem d_M_twiceLaw_2 : decode b_M_twiceLaw 2 = .ok (.iload_n 2, 1) := by decide +kernel
theorem d_M_twiceLaw_3 : decode b_M_twiceLaw 3 = .ok (.iload_n 3, 1) := by decide +kernel
theorem d_M_twiceLaw_4 : decode b_M_twiceLaw 4 = .ok (.iload 4, 2) := by decide +kernel
theorem d_M_twiceLaw_6 : decode b_M_twiceLaw 6 = .ok (.iconst 0, 1) := by decide +kernel
theorem d_M_twiceLaw_7 : decode b_M_twiceLaw 7 = .ok (.invokevirtual 284, 3) := by decide +kernel
theorem d_M_twiceLaw_10 : decode b_M_twiceLaw 10 = .ok (.istore 5, 2) := by decide +kernel
theorem d_M_twiceLaw_12 : decode b_M_twiceLaw 12 = .ok (.aload_n 0, 1) := by decide +kernel
theorem d_M_twiceLaw_13 : decode b_M_twiceLaw 13 = .ok (.invokevirtual 290, 3) := by decide +kernel
theorem d_M_twiceLaw_16 : decode b_M_twiceLaw 16 = .ok (.iconst 0, 1) := by decide +kernel
theorem d_M_twiceLaw_17 : decode b_M_twiceLaw 17 = .ok (.istore 6, 2) := by decide +kernel
theorem d_M_twiceLaw_19 : decode b_M_twiceLaw 19 = .ok (.iload 6, 2) := by decide +kernel
theorem d_M_twiceLaw_21 : decode b_M_twiceLaw 21 = .ok (.iconst 5, 1) := by decide +kernel
theorem d_M_twiceLaw_22 : decode b_M_twiceLaw 22 = .ok (.if_icmp .ge 25, 3) := by decide +kernel
theorem d_M_twiceLaw_25 : decode b_M_twiceLaw 25 = .ok (.aload_n 0, 1) := by decide +kernel
theorem d_M_twiceLaw_26 : decode b_M_twiceLaw 26 = .ok (.getfield 7, 3) := by decide +kernel
theorem d_M_twiceLaw_29 : decode b_M_twiceLaw 29 = .ok (.iconst 5, 1) := by decide +kernel
theorem d_M_twiceLaw_30 : decode b_M_twiceLaw 30 = .ok (.iload 4, 2) := by decide +kernel
theorem d_M_twiceLaw_32 : decode b_M_twiceLaw 32 = .ok (.imul, 1) := by decide +kernel
theorem d_M_twiceLaw_33 : decode b_M_twiceLaw 33 = .ok (.iload 6, 2) := by decide +kernel
theorem d_M_twiceLaw_35 : decode b_M_twiceLaw 35 = .ok (.iadd, 1) := by decide +kernel
theorem d_M_twiceLaw_36 : decode b_M_twiceLaw 36 = .ok (.dup2, 1) := by decide +kernel
theorem d_M_twiceLaw_37 : decode b_M_twiceLaw 37 = .ok (.iaload, 1) := by decide +kernel
theorem d_M_twiceLaw_38 : decode b_M_twiceLaw 38 = .ok (.iconst 2, 1) := by decide +kernel
theorem d_M_twiceLaw_39 : decode b_M_twiceLaw 39 = .ok (.imul, 1) := by decide +kernel
theorem d_M_twiceLaw_40 : decode b_M_twiceLaw 40 = .ok (.iastore, 1) := by decide +kernel
theorem d_M_twiceLaw_41 : decode b_M_twiceLaw 41 = .ok (.iinc 6 1, 3) := by decide +kernel
theorem d_M_twiceLaw_44 : decode b_M_twiceLaw 44 = .ok (.goto (-25), 3) := by decide +kernel
theorem d_M_twiceLaw_47 : decode b_M_twiceLaw 47 = .ok (.iload 5, 2) := by decide +kernel
theorem d_M_twiceLaw_49 : decode b_M_twiceLaw 49 = .ok (.ifCond .ge 8, 3) := by decide +kernel
theorem d_M_twiceLaw_52 : decode b_M_twiceLaw 52 = .ok (.iload 5, 2) := by decide +kernel
theorem d_M_twiceLaw_54 : decode b_M_twiceLaw 54 = .ok (.goto 13, 3) := by decide +kernel
theorem d_M_twiceLaw_57 : decode b_M_twiceLaw 57 = .ok (.aload_n 0, 1) := by decide +kernel
theorem d_M_twiceLaw_58 : decode b_M_twiceLaw 58 = .ok (.iload_n 1, 1) := by decide +kernel
theorem d_M_twiceLaw_59 : decode b_M_twiceLaw 59 = .ok (.iload_n 2, 1) := by decide +kernel
theorem d_M_twiceLaw_60 : decode b_M_twiceLaw 60 = .ok (.iload_n 3, 1) := by decide +kernel
theorem d_M_twiceLaw_61 : decode b_M_twiceLaw 61 = .ok (.iload 4, 2) := by decide +kernel
theorem d_M_twiceLaw_63 : decode b_M_twiceLaw 63 = .ok (.iconst 1, 1) := by decide +kernel
theorem d_M_twiceLaw_64 : decode b_M_twiceLaw 64 = .ok (.invokevirtual 284, 3) := by decide +kernel
theorem d_M_twiceLaw_67 : decode b_M_twiceLaw 67 = .ok (.istore 5, 2) := by decide +kernel
theorem d_M_twiceLaw_69 : decode b_M_twiceLaw 69 = .ok (.aload_n 0, 1) := by decide +kernel
theorem d_M_twiceLaw_70 : decode b_M_twiceLaw 70 = .ok (.invokevirtual 293, 3) := by decide +kernel
theorem d_M_twiceLaw_73 : decode b_M_twiceLaw 73 = .ok (.iload 5, 2) := by decide +kernel
theorem d_M_twiceLaw_75 : decode b_M_twiceLaw 75 = .ok (.ifCond .ge 8, 3) := by decide +kernel
theorem d_M_twiceLaw_78 : decode b_M_twiceLaw 78 = .ok (.iload 5, 2) := by decide +kernel
theorem d_M_twiceLaw_80 : decode b_M_twiceLaw 80 = .ok (.goto 44, 3) := by decide +kernel
theorem d_M_twiceLaw_83 : decode b_M_twiceLaw 83 = .ok (.aload_n 0, 1) := by decide +kernel
theorem d_M_twiceLaw_84 : decode b_M_twiceLaw 84 = .ok (.aload_n 0, 1) := by decide +kernel
theorem d_M_twiceLaw_85 : decode b_M_twiceLaw 85 = .ok (.getfield 61, 3) := by decide +kernel
theorem d_M_twiceLaw_88 : decode b_M_twiceLaw 88 = .ok (.iconst 0, 1) := by decide +kernel
theorem d_M_twiceLaw_89 : decode b_M_twiceLaw 89 = .ok (.laload, 1) := by decide +kernel
theorem d_M_twiceLaw_90 : decode b_M_twiceLaw 90 = .ok (.aload_n 0, 1) := by decide +kernel
theorem d_M_twiceLaw_91 : decode b_M_twiceLaw 91 = .ok (.getfield 64, 3) := by decide +kernel
theorem d_M_twiceLaw_94 : decode b_M_twiceLaw 94 = .ok (.iconst 0, 1) := by decide +kernel
theorem d_M_twiceLaw_95 : decode b_M_twiceLaw 95 = .ok (.laload, 1) := by decide +kernel
theorem d_M_twiceLaw_96 : decode b_M_twiceLaw 96 = .ok (.aload_n 0, 1) := by decide +kernel
theorem d_M_twiceLaw_97 : decode b_M_twiceLaw 97 = .ok (.getfield 67, 3) := by decide +kernel
theorem d_M_twiceLaw_100 : decode b_M_twiceLaw 100 = .ok (.iconst 0, 1) := by decide +kernel
theorem d_M_twiceLaw_101 : decode b_M_twiceLaw 101 = .ok (.baload, 1) := by decide +kernel
theorem d_M_twiceLaw_102 : decode b_M_twiceLaw 102 = .ok (.ifCond .eq 9, 3) := by decide +kernel
theorem d_M_twiceLaw_105 : decode b_M_twiceLaw 105 = .ok (.ldc2_w 94, 3) := by decide +kernel
theorem d_M_twiceLaw_108 : decode b_M_twiceLaw 108 = .ok (.goto 6, 3) := by decide +kernel
theorem d_M_twiceLaw_111 : decode b_M_twiceLaw 111 = .ok (.ldc2_w 107, 3) := by decide +kernel
theorem d_M_twiceLaw_114 : decode b_M_twiceLaw 114 = .ok (.lconst 1, 1) := by decide +kernel
theorem d_M_twiceLaw_115 : decode b_M_twiceLaw 115 = .ok (.aload_n 0, 1) := by decide +kernel
theorem d_M_twiceLaw_116 : decode b_M_twiceLaw 116 = .ok (.getfield 67, 3) := by decide +kernel
theorem d_M_twiceLaw_119 : decode b_M_twiceLaw 119 = .ok (.iconst 0, 1) := by decide +kernel
theorem d_M_twiceLaw_120 : decode b_M_twiceLaw 120 = .ok (.baload, 1) := by decide +kernel
theorem d_M_twiceLaw_121 : decode b_M_twiceLaw 121 = .ok (.invokevirtual 218, 3) := by decide +kernel
theorem d_M_twiceLaw_124 : decode b_M_twiceLaw 124 = .ok (.istore 5, 2) := by decide +kernel
theorem d_M_twiceLaw_126 : decode b_M_twiceLaw 126 = .ok (.aload_n 0, 1) := by decide +kernel
theorem d_M_twiceLaw_127 : decode b_M_twiceLaw 127 = .ok (.iconst 0, 1) := by decide +kernel
theorem d_M_twiceLaw_128 : decode b_M_twiceLaw 128 = .ok (.invokevirtual 281, 3) := by decide +kernel
theorem d_M_twiceLaw_131 : decode b_M_twiceLaw 131 = .ok (.aload_n 0, 1) := by decide +kernel
theorem d_M_twiceLaw_132 : decode b_M_twiceLaw 132 = .ok (.iload 5, 2) := by decide +kernel
theorem d_M_twiceLaw_134 : decode b_M_twiceLaw 134 = .ok (.invokevirtual 302, 3) := by decide +kernel
theorem d_M_twiceLaw_137 : decode b_M_twiceLaw 137 = .ok (.ireturn, 1) := by decide +kernel
theorem d_M_unitsLaw_0 : decode b_M_unitsLaw 0 = .ok (.aload_n 0, 1) := by decide +kernel
theorem d_M_unitsLaw_1 : decode b_M_unitsLaw 1 = .ok (.iload_n 1, 1) := by decide +kernel
theorem d_M_unitsLaw_2 : decode b_M_unitsLaw 2 = .ok (.iload_n 2, 1) := by decide +kernel
theorem d_M_unitsLaw_3 : decode b_M_unitsLaw 3 = .ok (.iload_n 3, 1) := by decide +kernel
theorem d_M_unitsLaw_4 : decode b_M_unitsLaw 4 = .ok (.iload 4, 2) := by decide +kernel
theorem d_M_unitsLaw_6 : decode b_M_unitsLaw 6 = .ok (.iconst 0, 1) := by decide +kernel
theorem d_M_unitsLaw_7 : decode b_M_unitsLaw 7 = .ok (.invokevirtual 284, 3) := by decide +kernel
theorem d_M_unitsLaw_10 : decode b_M_unitsLaw 10 = .ok (.istore 6, 2) := by decide +kernel
theorem d_M_unitsLaw_12 : decode b_M_unitsLaw 12 = .ok (.aload_n 0, 1) := by decide +kernel
theorem d_M_unitsLaw_13 : decode b_M_unitsLaw 13 = .ok (.invokevirtual 290, 3) := by decide +kernel
theorem d_M_unitsLaw_16 : decode b_M_unitsLaw 16 = .ok (.iconst 0, 1) := by decide +kernel
theorem d_M_unitsLaw_17 : decode b_M_unitsLaw 17 = .ok (.istore 7, 2) := by decide +kernel
theorem d_M_unitsLaw_19 : decode b_M_unitsLaw 19 = .ok (.iload 7, 2) := by decide +kernel
theorem d_M_unitsLaw_21 : decode b_M_unitsLaw 21 = .ok (.bipush 8, 2) := by decide +kernel
theorem d_M_unitsLaw_23 : decode b_M_unitsLaw 23 = .ok (.if_icmp .ge 25, 3) := by decide +kernel
theorem d_M_unitsLaw_26 : decode b_M_unitsLaw 26 = .ok (.aload_n 0, 1) := by decide +kernel
theorem d_M_unitsLaw_27 : decode b_M_unitsLaw 27 = .ok (.getfield 7, 3) := by decide +kernel
theorem d_M_unitsLaw_30 : decode b_M_unitsLaw 30 = .ok (.iconst 5, 1) := by decide +kernel
theorem d_M_unitsLaw_31 : decode b_M_unitsLaw 31 = .ok (.iload 7, 2) := by decide +kernel
theorem d_M_unitsLaw_33 : decode b_M_unitsLaw 33 = .ok (.imul, 1) := by decide +kernel
theorem d_M_unitsLaw_34 : decode b_M_unitsLaw 34 = .ok (.iload 5, 2) := by decide +kernel
theorem d_M_unitsLaw_36 : decode b_M_unitsLaw 36 = .ok (.iadd, 1) := by decide +kernel
theorem d_M_unitsLaw_37 : decode b_M_unitsLaw 37 = .ok (.dup2, 1) := by decide +kernel
theorem d_M_unitsLaw_38 : decode b_M_unitsLaw 38 = .ok (.iaload, 1) := by decide +kernel
theorem d_M_unitsLaw_39 : decode b_M_unitsLaw 39 = .ok (.iconst 2, 1) := by decide +kernel
theorem d_M_unitsLaw_40 : decode b_M_unitsLaw 40 = .ok (.imul, 1) := by decide +kernel
theorem d_M_unitsLaw_41 : decode b_M_unitsLaw 41 = .ok (.iastore, 1) := by decide +kernel
theorem d_M_unitsLaw_42 : decode b_M_unitsLaw 42 = .ok (.iinc 7 1, 3) := by decide +kernel
theorem d_M_unitsLaw_45 : decode b_M_unitsLaw 45 = .ok (.goto (-26), 3) := by decide +kernel
theorem d_M_unitsLaw_48 : decode b_M_unitsLaw 48 = .ok (.iconst 0, 1) := by decide +kernel
theorem d_M_unitsLaw_49 : decode b_M_unitsLaw 49 = .ok (.istore 7, 2) := by decide +kernel
theorem d_M_unitsLaw_51 : decode b_M_unitsLaw 51 = .ok (.iload 7, 2) := by decide +kernel
theorem d_M_unitsLaw_53 : decode b_M_unitsLaw 53 = .ok (.sipush 150, 3) := by decide +kernel
theorem d_M_unitsLaw_56 : decode b_M_unitsLaw 56 = .ok (.if_icmp .ge 33, 3) := by decide +kernel
theorem d_M_unitsLaw_59 : decode b_M_unitsLaw 59 = .ok (.aload_n 0, 1) := by decide +kernel
theorem d_M_unitsLaw_60 : decode b_M_unitsLaw 60 = .ok (.getfield 13, 3) := by decide +kernel
theorem d_M_unitsLaw_63 : decode b_M_unitsLaw 63 = .ok (.iload 7, 2) := by decide +kernel
theorem d_M_unitsLaw_65 : decode b_M_unitsLaw 65 = .ok (.dup2, 1) := by decide +kernel
theorem d_M_unitsLaw_66 : decode b_M_unitsLaw 66 = .ok (.iaload, 1) := by decide +kernel
theorem d_M_unitsLaw_67 : decode b_M_unitsLaw 67 = .ok (.iload 7, 2) := by decide +kernel
theorem d_M_unitsLaw_69 : decode b_M_unitsLaw 69 = .ok (.iconst 5, 1) := by decide +kernel
theorem d_M_unitsLaw_70 : decode b_M_unitsLaw 70 = .ok (.irem, 1) := by decide +kernel
theorem d_M_unitsLaw_71 : decode b_M_unitsLaw 71 = .ok (.iload 5, 2) := by decide +kernel
theorem d_M_unitsLaw_73 : decode b_M_unitsLaw 73 = .ok (.if_icmp .ne 7, 3) := by decide +kernel
theorem d_M_unitsLaw_76 : decode b_M_unitsLaw 76 = .ok (.iconst 1, 1) := by decide +kernel
theorem d_M_unitsLaw_77 : decode b_M_unitsLaw 77 = .ok (.goto 4, 3) := by decide +kernel
theorem d_M_unitsLaw_80 : decode b_M_unitsLaw 80 = .ok (.iconst 2, 1) := by decide +kernel
theorem d_M_unitsLaw_81 : decode b_M_unitsLaw 81 = .ok (.imul, 1) := by decide +kernel
theorem d_M_unitsLaw_82 : decode b_M_unitsLaw 82 = .ok (.iastore, 1) := by decide +kernel
theorem d_M_unitsLaw_83 : decode b_M_unitsLaw 83 = .ok (.iinc 7 1, 3) := by decide +kernel
theorem d_M_unitsLaw_86 : decode b_M_unitsLaw 86 = .ok (.goto (-35), 3) := by decide +kernel
theorem d_M_unitsLaw_89 : decode b_M_unitsLaw 89 = .ok (.iload 6, 2) := by decide +kernel
theorem d_M_unitsLaw_91 : decode b_M_unitsLaw 91 = .ok (.ifCond .ge 8, 3) := by decide +kernel
theorem d_M_unitsLaw_94 : decode b_M_unitsLaw 94 = .ok (.iload 6, 2) := by decide +kernel
theorem d_M_unitsLaw_96 : decode b_M_unitsLaw 96 = .ok (.goto 13, 3) := by decide +kernel
theorem d_M_unitsLaw_99 : decode b_M_unitsLaw 99 = .ok (.aload_n 0, 1) := by decide +kernel
theorem d_M_unitsLaw_100 : decode b_M_unitsLaw 100 = .ok (.iload_n 1, 1) := by decide +kernel
theorem d_M_unitsLaw_101 : decode b_M_unitsLaw 101 = .ok (.iload_n 2, 1) := by decide +kernel
theorem d_M_unitsLaw_102 : decode b_M_unitsLaw 102 = .ok (.iload_n 3, 1) := by decide +kernel
theorem d_M_unitsLaw_103 : decode b_M_unitsLaw 103 = .ok (.iload 4, 2) := by decide +kernel
theorem d_M_unitsLaw_105 : decode b_M_unitsLaw 105 = .ok (.iconst 1, 1) := by decide +kernel
theorem d_M_unitsLaw_106 : decode b_M_unitsLaw 106 = .ok (.invokevirtual 284, 3) := by decide +kernel
theorem d_M_unitsLaw_109 : decode b_M_unitsLaw 109 = .ok (.istore 6, 2) := by decide +kernel
theorem d_M_unitsLaw_111 : decode b_M_unitsLaw 111 = .ok (.aload_n 0, 1) := by decide +kernel
theorem d_M_unitsLaw_112 : decode b_M_unitsLaw 112 = .ok (.invokevirtual 293, 3) := by decide +kernel
theorem d_M_unitsLaw_115 : decode b_M_unitsLaw 115 = .ok (.aload_n 0, 1) := by decide +kernel
theorem d_M_unitsLaw_116 : decode b_M_unitsLaw 116 = .ok (.iload 6, 2) := by decide +kernel
theorem d_M_unitsLaw_118 : decode b_M_unitsLaw 118 = .ok (.invokevirtual 302, 3) := by decide +kernel
theorem d_M_unitsLaw_121 : decode b_M_unitsLaw 121 = .ok (.ireturn, 1) := by decide +kernel
theorem d_M_upLaw_0 : decode b_M_upLaw 0 = .ok (.aload_n 0, 1) := by decide +kernel
theorem d_M_upLaw_1 : decode b_M_upLaw 1 = .ok (.getfield 7, 3) := by decide +kernel
theorem d_M_upLaw_4 : decode b_M_upLaw 4 = .ok (.iconst 5, 1) := by decide +kernel
theorem d_M_upLaw_5 : decode b_M_upLaw 5 = .ok (.iload 4, 2) := by decide +kernel
theorem d_M_upLaw_7 : decode b_M_upLaw 7 = .ok (.imul, 1) := by decide +kernel
theorem d_M_upLaw_8 : decode b_M_upLaw 8 = .ok (.iload 5, 2) := by decide +kernel
theorem d_M_upLaw_10 : decode b_M_upLaw 10 = .ok (.iadd, 1) := by decide +kernel
theorem d_M_upLaw_11 : decode b_M_upLaw 11 = .ok (.iaload, 1) := by decide +kernel
theorem d_M_upLaw_12 : decode b_M_upLaw 12 = .ok (.ifCond .ne 7, 3) := by decide +kernel
theorem d_M_upLaw_15 : decode b_M_upLaw 15 = .ok (.sipush (-1003), 3) := by decide +kernel
theorem d_M_upLaw_18 : decode b_M_upLaw 18 = .ok (.ireturn, 1) := by decide +kernel
theorem d_M_upLaw_19 : decode b_M_upLaw 19 = .ok (.aload_n 0, 1) := by decide +kernel
theorem d_M_upLaw_20 : decode b_M_upLaw 20 = .ok (.iload_n 1, 1) := by decide +kernel
theorem d_M_upLaw_21 : decode b_M_upLaw 21 = .ok (.iload_n 2, 1) := by decide +kernel
theorem d_M_upLaw_22 : decode b_M_upLaw 22 = .ok (.iload_n 3, 1) := by decide +kernel
theorem d_M_upLaw_23 : decode b_M_upLaw 23 = .ok (.iload 4, 2) := by decide +kernel
theorem d_M_upLaw_25 : decode b_M_upLaw 25 = .ok (.iconst 0, 1) := by decide +kernel
theorem d_M_upLaw_26 : decode b_M_upLaw 26 = .ok (.invokevirtual 284, 3) := by decide +kernel
theorem d_M_upLaw_29 : decode b_M_upLaw 29 = .ok (.istore 6, 2) := by decide +kernel
theorem d_M_upLaw_31 : decode b_M_upLaw 31 = .ok (.aload_n 0, 1) := by decide +kernel
theorem d_M_upLaw_32 : decode b_M_upLaw 32 = .ok (.getfield 7, 3) := by decide +kernel
theorem d_M_upLaw_35 : decode b_M_upLaw 35 = .ok (.iconst 5, 1) := by decide +kernel
theorem d_M_upLaw_36 : decode b_M_upLaw 36 = .ok (.iload 4, 2) := by decide +kernel
theorem d_M_upLaw_38 : decode b_M_upLaw 38 = .ok (.imul, 1) := by decide +kernel
theorem d_M_upLaw_39 : decode b_M_upLaw 39 = .ok (.iload 5, 2) := by decide +kernel
theorem d_M_upLaw_41 : decode b_M_upLaw 41 = .ok (.iadd, 1) := by decide +kernel
theorem d_M_upLaw_42 : decode b_M_upLaw 42 = .ok (.dup2, 1) := by decide +kernel
theorem d_M_upLaw_43 : decode b_M_upLaw 43 = .ok (.iaload, 1) := by decide +kernel
theorem d_M_upLaw_44 : decode b_M_upLaw 44 = .ok (.iconst 1, 1) := by decide +kernel
theorem d_M_upLaw_45 : decode b_M_upLaw 45 = .ok (.iadd, 1) := by decide +kernel
theorem d_M_upLaw_46 : decode b_M_upLaw 46 = .ok (.iastore, 1) := by decide +kernel
theorem d_M_upLaw_47 : decode b_M_upLaw 47 = .ok (.iload 6, 2) := by decide +kernel
theorem d_M_upLaw_49 : decode b_M_upLaw 49 = .ok (.ifCond .ge 8, 3) := by decide +kernel
theorem d_M_upLaw_52 : decode b_M_upLaw 52 = .ok (.iload 6, 2) := by decide +kernel
theorem d_M_upLaw_54 : decode b_M_upLaw 54 = .ok (.goto 13, 3) := by decide +kernel
theorem d_M_upLaw_57 : decode b_M_upLaw 57 = .ok (.aload_n 0, 1) := by decide +kernel
theorem d_M_upLaw_58 : decode b_M_upLaw 58 = .ok (.iload_n 1, 1) := by decide +kernel
theorem d_M_upLaw_59 : decode b_M_upLaw 59 = .ok (.iload_n 2, 1) := by decide +kernel
theorem d_M_upLaw_60 : decode b_M_upLaw 60 = .ok (.iload_n 3, 1) := by decide +kernel
theorem d_M_upLaw_61 : decode b_M_upLaw 61 = .ok (.iload 4, 2) := by decide +kernel
theorem d_M_upLaw_63 : decode b_M_upLaw 63 = .ok (.iconst 1, 1) := by decide +kernel
theorem d_M_upLaw_64 : decode b_M_upLaw 64 = .ok (.invokevirtual 284, 3) := by decide +kernel
theorem d_M_upLaw_67 : decode b_M_upLaw 67 = .ok (.istore 6, 2) := by decide +kernel
theorem d_M_upLaw_69 : decode b_M_upLaw 69 = .ok (.aload_n 0, 1) := by decide +kernel
theorem d_M_upLaw_70 : decode b_M_upLaw 70 = .ok (.getfield 7, 3) := by decide +kernel
theorem d_M_upLaw_73 : decode b_M_upLaw 73 = .ok (.iconst 5, 1) := by decide +kernel
theorem d_M_upLaw_74 : decode b_M_upLaw 74 = .ok (.iload 4, 2) := by decide +kernel
theorem d_M_upLaw_76 : decode b_M_upLaw 76 = .ok (.imul, 1) := by decide +kernel
theorem d_M_upLaw_77 : decode b_M_upLaw 77 = .ok (.iload 5, 2) := by decide +kernel
theorem d_M_upLaw_79 : decode b_M_upLaw 79 = .ok (.iadd, 1) := by decide +kernel
theorem d_M_upLaw_80 : decode b_M_upLaw 80 = .ok (.dup2, 1) := by decide +kernel
theorem d_M_upLaw_81 : decode b_M_upLaw 81 = .ok (.iaload, 1) := by decide +kernel
theorem d_M_upLaw_82 : decode b_M_upLaw 82 = .ok (.iconst 1, 1) := by decide +kernel
theorem d_M_upLaw_83 : decode b_M_upLaw 83 = .ok (.isub, 1) := by decide +kernel
theorem d_M_upLaw_84 : decode b_M_upLaw 84 = .ok (.iastore, 1) := by decide +kernel
theorem d_M_upLaw_85 : decode b_M_upLaw 85 = .ok (.iload 6, 2) := by decide +kernel
theorem d_M_upLaw_87 : decode b_M_upLaw 87 = .ok (.ifCond .ge 8, 3) := by decide +kernel
theorem d_M_upLaw_90 : decode b_M_upLaw 90 = .ok (.iload 6, 2) := by decide +kernel
theorem d_M_upLaw_92 : decode b_M_upLaw 92 = .ok (.goto 9, 3) := by decide +kernel
theorem d_M_upLaw_95 : decode b_M_upLaw 95 = .ok (.aload_n 0, 1) := by decide +kernel
theorem d_M_upLaw_96 : decode b_M_upLaw 96 = .ok (.iconst 0, 1) := by decide +kernel
theorem d_M_upLaw_97 : decode b_M_upLaw 97 = .ok (.iconst 1, 1) := by decide +kernel
theorem d_M_upLaw_98 : decode b_M_upLaw 98 = .ok (.invokevirtual 287, 3) := by decide +kernel
theorem d_M_upLaw_101 : decode b_M_upLaw 101 = .ok (.istore 6, 2) := by decide +kernel
theorem d_M_upLaw_103 : decode b_M_upLaw 103 = .ok (.iload 6, 2) := by decide +kernel
theorem d_M_upLaw_105 : decode b_M_upLaw 105 = .ok (.ifCond .ge 8, 3) := by decide +kernel
theorem d_M_upLaw_108 : decode b_M_upLaw 108 = .ok (.iload 6, 2) := by decide +kernel
theorem d_M_upLaw_110 : decode b_M_upLaw 110 = .ok (.goto 15, 3) := by decide +kernel
theorem d_M_upLaw_113 : decode b_M_upLaw 113 = .ok (.aload_n 0, 1) := by decide +kernel
theorem d_M_upLaw_114 : decode b_M_upLaw 114 = .ok (.getfield 226, 3) := by decide +kernel
theorem d_M_upLaw_117 : decode b_M_upLaw 117 = .ok (.ifCond .gt 7, 3) := by decide +kernel
theorem d_M_upLaw_120 : decode b_M_upLaw 120 = .ok (.iconst 1, 1) := by decide +kernel
theorem d_M_upLaw_121 : decode b_M_upLaw 121 = .ok (.goto 4, 3) := by decide +kernel
theorem d_M_upLaw_124 : decode b_M_upLaw 124 = .ok (.iconst 0, 1) := by decide +kernel
theorem d_M_upLaw_125 : decode b_M_upLaw 125 = .ok (.ireturn, 1) := by decide +kernel
theorem d_M_betweenLaw_0 : decode b_M_betweenLaw 0 = .ok (.aload_n 0, 1) := by decide +kernel
theorem d_M_betweenLaw_1 : decode b_M_betweenLaw 1 = .ok (.iload_n 1, 1) := by decide +kernel
theorem d_M_betweenLaw_2 : decode b_M_betweenLaw 2 = .ok (.iload_n 2, 1) := by decide +kernel
theorem d_M_betweenLaw_3 : decode b_M_betweenLaw 3 = .ok (.iload_n 3, 1) := by decide +kernel
theorem d_M_betweenLaw_4 : decode b_M_betweenLaw 4 = .ok (.iload 4, 2) := by decide +kernel
theorem d_M_betweenLaw_6 : decode b_M_betweenLaw 6 = .ok (.iconst 0, 1) := by decide +kernel
theorem d_M_betweenLaw_7 : decode b_M_betweenLaw 7 = .ok (.invokevirtual 284, 3) := by decide +kernel
theorem d_M_betweenLaw_10 : decode b_M_betweenLaw 10 = .ok (.istore 5, 2) := by decide +kernel
theorem d_M_betweenLaw_12 : decode b_M_betweenLaw 12 = .ok (.iload 5, 2) := by decide +kernel
theorem d_M_betweenLaw_14 : decode b_M_betweenLaw 14 = .ok (.ifCond .ge 6, 3) := by decide +kernel
theorem d_M_betweenLaw_17 : decode b_M_betweenLaw 17 = .ok (.iload 5, 2) := by decide +kernel
theorem d_M_betweenLaw_19 : decode b_M_betweenLaw 19 = .ok (.ireturn, 1) := by decide +kernel
theorem d_M_betweenLaw_20 : decode b_M_betweenLaw 20 = .ok (.iconst (-1), 1) := by decide +kernel
theorem d_M_betweenLaw_21 : decode b_M_betweenLaw 21 = .ok (.istore 6, 2) := by decide +kernel
theorem d_M_betweenLaw_23 : decode b_M_betweenLaw 23 = .ok (.iconst (-1), 1) := by decide +kernel
theorem d_M_betweenLaw_24 : decode b_M_betweenLaw 24 = .ok (.istore 7, 2) := by decide +kernel
theorem d_M_betweenLaw_26 : decode b_M_betweenLaw 26 = .ok (.iconst 0, 1) := by decide +kernel
theorem d_M_betweenLaw_27 : decode b_M_betweenLaw 27 = .ok (.istore 8, 2) := by decide +kernel
theorem d_M_betweenLaw_29 : decode b_M_betweenLaw 29 = .ok (.iload 8, 2) := by decide +kernel
theorem d_M_betweenLaw_31 : decode b_M_betweenLaw 31 = .ok (.iconst 5, 1) := by decide +kernel
theorem d_M_betweenLaw_32 : decode b_M_betweenLaw 32 = .ok (.if_icmp .ge 138, 3) := by decide +kernel
theorem d_M_betweenLaw_35 : decode b_M_betweenLaw 35 = .ok (.aload_n 0, 1) := by decide +kernel
theorem d_M_betweenLaw_36 : decode b_M_betweenLaw 36 = .ok (.getfield 7, 3) := by decide +kernel
theorem d_M_betweenLaw_39 : decode b_M_betweenLaw 39 = .ok (.iconst 5, 1) := by decide +kernel
theorem d_M_betweenLaw_40 : decode b_M_betweenLaw 40 = .ok (.iload_n 3, 1) := by decide +kernel
theorem d_M_betweenLaw_41 : decode b_M_betweenLaw 41 = .ok (.imul, 1) := by decide +kernel
theorem d_M_betweenLaw_42 : decode b_M_betweenLaw 42 = .ok (.iload 8, 2) := by decide +kernel
theorem d_M_betweenLaw_44 : decode b_M_betweenLaw 44 = .ok (.iadd, 1) := by decide +kernel
theorem d_M_betweenLaw_45 : decode b_M_betweenLaw 45 = .ok (.iaload, 1) := by decide +kernel
theorem d_M_betweenLaw_46 : decode b_M_betweenLaw 46 = .ok (.istore 9, 2) := by decide +kernel
theorem d_M_betweenLaw_48 : decode b_M_betweenLaw 48 = .ok (.aload_n 0, 1) := by decide +kernel
theorem d_M_betweenLaw_49 : decode b_M_betweenLaw 49 = .ok (.getfield 7, 3) := by decide +kernel
theorem d_M_betweenLaw_52 : decode b_M_betweenLaw 52 = .ok (.iconst 5, 1) := by decide +kernel
theorem d_M_betweenLaw_53 : decode b_M_betweenLaw 53 = .ok (.iload 4, 2) := by decide +kernel
theorem d_M_betweenLaw_55 : decode b_M_betweenLaw 55 = .ok (.imul, 1) := by decide +kernel
theorem d_M_betweenLaw_56 : decode b_M_betweenLaw 56 = .ok (.iload 8, 2) := by decide +kernel
theorem d_M_betweenLaw_58 : decode b_M_betweenLaw 58 = .ok (.iadd, 1) := by decide +kernel
theorem d_M_betweenLaw_59 : decode b_M_betweenLaw 59 = .ok (.iaload, 1) := by decide +kernel
theorem d_M_betweenLaw_60 : decode b_M_betweenLaw 60 = .ok (.istore 10, 2) := by decide +kernel
theorem d_M_betweenLaw_62 : decode b_M_betweenLaw 62 = .ok (.iload 9, 2) := by decide +kernel
theorem d_M_betweenLaw_64 : decode b_M_betweenLaw 64 = .ok (.ifCond .le 100, 3) := by decide +kernel
theorem d_M_betweenLaw_67 : decode b_M_betweenLaw 67 = .ok (.iload 10, 2) := by decide +kernel
theorem d_M_betweenLaw_69 : decode b_M_betweenLaw 69 = .ok (.ifCond .le 95, 3) := by decide +kernel
theorem d_M_betweenLaw_72 : decode b_M_betweenLaw 72 = .ok (.iload 6, 2) := by decide +kernel
theorem d_M_betweenLaw_74 : decode b_M_betweenLaw 74 = .ok (.ifCond .lt 35, 3) := by decide +kernel
theorem d_M_betweenLaw_77 : decode b_M_betweenLaw 77 = .ok (.iload 10, 2) := by decide +kernel
theorem d_M_betweenLaw_79 : decode b_M_betweenLaw 79 = .ok (.aload_n 0, 1) := by decide +kernel
theorem d_M_betweenLaw_80 : decode b_M_betweenLaw 80 = .ok (.getfield 7, 3) := by decide +kernel
theorem d_M_betweenLaw_83 : decode b_M_betweenLaw 83 = .ok (.iconst 5, 1) := by decide +kernel
theorem d_M_betweenLaw_84 : decode b_M_betweenLaw 84 = .ok (.iload_n 3, 1) := by decide +kernel
theorem d_M_betweenLaw_85 : decode b_M_betweenLaw 85 = .ok (.imul, 1) := by decide +kernel
theorem d_M_betweenLaw_86 : decode b_M_betweenLaw 86 = .ok (.iload 6, 2) := by decide +kernel
theorem d_M_betweenLaw_88 : decode b_M_betweenLaw 88 = .ok (.iadd, 1) := by decide +kernel
theorem d_M_betweenLaw_89 : decode b_M_betweenLaw 89 = .ok (.iaload, 1) := by decide +kernel
theorem d_M_betweenLaw_90 : decode b_M_betweenLaw 90 = .ok (.imul, 1) := by decide +kernel
theorem d_M_betweenLaw_91 : decode b_M_betweenLaw 91 = .ok (.aload_n 0, 1) := by decide +kernel
theorem d_M_betweenLaw_92 : decode b_M_betweenLaw 92 = .ok (.getfield 7, 3) := by decide +kernel
theorem d_M_betweenLaw_95 : decode b_M_betweenLaw 95 = .ok (.iconst 5, 1) := by decide +kernel
theorem d_M_betweenLaw_96 : decode b_M_betweenLaw 96 = .ok (.iload 4, 2) := by decide +kernel
theorem d_M_betweenLaw_98 : decode b_M_betweenLaw 98 = .ok (.imul, 1) := by decide +kernel
theorem d_M_betweenLaw_99 : decode b_M_betweenLaw 99 = .ok (.iload 6, 2) := by decide +kernel
theorem d_M_betweenLaw_101 : decode b_M_betweenLaw 101 = .ok (.iadd, 1) := by decide +kernel
theorem d_M_betweenLaw_102 : decode b_M_betweenLaw 102 = .ok (.iaload, 1) := by decide +kernel
theorem d_M_betweenLaw_103 : decode b_M_betweenLaw 103 = .ok (.iload 9, 2) := by decide +kernel
theorem d_M_betweenLaw_105 : decode b_M_betweenLaw 105 = .ok (.imul, 1) := by decide +kernel
theorem d_M_betweenLaw_106 : decode b_M_betweenLaw 106 = .ok (.if_icmp .ge 8, 3) := by decide +kernel
theorem d_M_betweenLaw_109 : decode b_M_betweenLaw 109 = .ok (.iload 8, 2) := by decide +kernel
theorem d_M_betweenLaw_111 : decode b_M_betweenLaw 111 = .ok (.goto 5, 3) := by decide +kernel
theorem d_M_betweenLaw_114 : decode b_M_betweenLaw 114 = .ok (.iload 6, 2) := by decide +kernel
theorem d_M_betweenLaw_116 : decode b_M_betweenLaw 116 = .ok (.istore 6, 2) := by decide +kernel
theorem d_M_betweenLaw_118 : decode b_M_betweenLaw 118 = .ok (.iload 7, 2) := by decide +kernel
theorem d_M_betweenLaw_120 : decode b_M_betweenLaw 120 = .ok (.ifCond .lt 35, 3) := by decide +kernel
theorem d_M_betweenLaw_123 : decode b_M_betweenLaw 123 = .ok (.iload 10, 2) := by decide +kernel
theorem d_M_betweenLaw_125 : decode b_M_betweenLaw 125 = .ok (.aload_n 0, 1) := by decide +kernel
theorem d_M_betweenLaw_126 : decode b_M_betweenLaw 126 = .ok (.getfield 7, 3) := by decide +kernel
theorem d_M_betweenLaw_129 : decode b_M_betweenLaw 129 = .ok (.iconst 5, 1) := by decide +kernel
theorem d_M_betweenLaw_130 : decode b_M_betweenLaw 130 = .ok (.iload_n 3, 1) := by decide +kernel
theorem d_M_betweenLaw_131 : decode b_M_betweenLaw 131 = .ok (.imul, 1) := by decide +kernel
theorem d_M_betweenLaw_132 : decode b_M_betweenLaw 132 = .ok (.iload 7, 2) := by decide +kernel
theorem d_M_betweenLaw_134 : decode b_M_betweenLaw 134 = .ok (.iadd, 1) := by decide +kernel
theorem d_M_betweenLaw_135 : decode b_M_betweenLaw 135 = .ok (.iaload, 1) := by decide +kernel
theorem d_M_betweenLaw_136 : decode b_M_betweenLaw 136 = .ok (.imul, 1) := by decide +kernel
theorem d_M_betweenLaw_137 : decode b_M_betweenLaw 137 = .ok (.aload_n 0, 1) := by decide +kernel
theorem d_M_betweenLaw_138 : decode b_M_betweenLaw 138 = .ok (.getfield 7, 3) := by decide +kernel
theorem d_M_betweenLaw_141 : decode b_M_betweenLaw 141 = .ok (.iconst 5, 1) := by decide +kernel
theorem d_M_betweenLaw_142 : decode b_M_betweenLaw 142 = .ok (.iload 4, 2) := by decide +kernel
theorem d_M_betweenLaw_144 : decode b_M_betweenLaw 144 = .ok (.imul, 1) := by decide +kernel
theorem d_M_betweenLaw_145 : decode b_M_betweenLaw 145 = .ok (.iload 7, 2) := by decide +kernel
theorem d_M_betweenLaw_147 : decode b_M_betweenLaw 147 = .ok (.iadd, 1) := by decide +kernel
theorem d_M_betweenLaw_148 : decode b_M_betweenLaw 148 = .ok (.iaload, 1) := by decide +kernel
theorem d_M_betweenLaw_149 : decode b_M_betweenLaw 149 = .ok (.iload 9, 2) := by decide +kernel
theorem d_M_betweenLaw_151 : decode b_M_betweenLaw 151 = .ok (.imul, 1) := by decide +kernel
theorem d_M_betweenLaw_152 : decode b_M_betweenLaw 152 = .ok (.if_icmp .le 8, 3) := by decide +kernel
theorem d_M_betweenLaw_155 : decode b_M_betweenLaw 155 = .ok (.iload 8, 2) := by decide +kernel
theorem d_M_betweenLaw_157 : decode b_M_betweenLaw 157 = .ok (.goto 5, 3) := by decide +kernel
theorem d_M_betweenLaw_160 : decode b_M_betweenLaw 160 = .ok (.iload 7, 2) := by decide +kernel
theorem d_M_betweenLaw_162 : decode b_M_betweenLaw 162 = .ok (.istore 7, 2) := by decide +kernel
theorem d_M_betweenLaw_164 : decode b_M_betweenLaw 164 = .ok (.iinc 8 1, 3) := by decide +kernel
theorem d_M_betweenLaw_167 : decode b_M_betweenLaw 167 = .ok (.goto (-138), 3) := by decide +kernel
theorem d_M_betweenLaw_170 : decode b_M_betweenLaw 170 = .ok (.iload 6, 2) := by decide +kernel
theorem d_M_betweenLaw_172 : decode b_M_betweenLaw 172 = .ok (.ifCond .ge 7, 3) := by decide +kernel
theorem d_M_betweenLaw_175 : decode b_M_betweenLaw 175 = .ok (.sipush (-1003), 3) := by decide +kernel
theorem d_M_betweenLaw_178 : decode b_M_betweenLaw 178 = .ok (.ireturn, 1) := by decide +kernel
theorem d_M_betweenLaw_179 : decode b_M_betweenLaw 179 = .ok (.aload_n 0, 1) := by decide +kernel
theorem d_M_betweenLaw_180 : decode b_M_betweenLaw 180 = .ok (.aload_n 0, 1) := by decide +kernel
theorem d_M_betweenLaw_181 : decode b_M_betweenLaw 181 = .ok (.getfield 61, 3) := by decide +kernel
theorem d_M_betweenLaw_184 : decode b_M_betweenLaw 184 = .ok (.iconst 0, 1) := by decide +kernel
theorem d_M_betweenLaw_185 : decode b_M_betweenLaw 185 = .ok (.laload, 1) := by decide +kernel
theorem d_M_betweenLaw_186 : decode b_M_betweenLaw 186 = .ok (.aload_n 0, 1) := by decide +kernel
theorem d_M_betweenLaw_187 : decode b_M_betweenLaw 187 = .ok (.getfield 64, 3) := by decide +kernel
theorem d_M_betweenLaw_190 : decode b_M_betweenLaw 190 = .ok (.iconst 0, 1) := by decide +kernel
theorem d_M_betweenLaw_191 : decode b_M_betweenLaw 191 = .ok (.laload, 1) := by decide +kernel
theorem d_M_betweenLaw_192 : decode b_M_betweenLaw 192 = .ok (.aload_n 0, 1) := by decide +kernel
theorem d_M_betweenLaw_193 : decode b_M_betweenLaw 193 = .ok (.getfield 67, 3) := by decide +kernel
theorem d_M_betweenLaw_196 : decode b_M_betweenLaw 196 = .ok (.iconst 0, 1) := by decide +kernel
theorem d_M_betweenLaw_197 : decode b_M_betweenLaw 197 = .ok (.baload, 1) := by decide +kernel
theorem d_M_betweenLaw_198 : decode b_M_betweenLaw 198 = .ok (.aload_n 0, 1) := by decide +kernel
theorem d_M_betweenLaw_199 : decode b_M_betweenLaw 199 = .ok (.getfield 7, 3) := by decide +kernel
theorem d_M_betweenLaw_202 : decode b_M_betweenLaw 202 = .ok (.iconst 5, 1) := by decide +kernel
theorem d_M_betweenLaw_203 : decode b_M_betweenLaw 203 = .ok (.iload 4, 2) := by decide +kernel
theorem d_M_betweenLaw_205 : decode b_M_betweenLaw 205 = .ok (.imul, 1) := by decide +kernel
theorem d_M_betweenLaw_206 : decode b_M_betweenLaw 206 = .ok (.iload 6, 2) := by decide +kernel
theorem d_M_betweenLaw_208 : decode b_M_betweenLaw 208 = .ok (.iadd, 1) := by decide +kernel
theorem d_M_betweenLaw_209 : decode b_M_betweenLaw 209 = .ok (.iaload, 1) := by decide +kernel
theorem d_M_betweenLaw_210 : decode b_M_betweenLaw 210 = .ok (.i2l, 1) := by decide +kernel
theorem d_M_betweenLaw_211 : decode b_M_betweenLaw 211 = .ok (.aload_n 0, 1) := by decide +kernel
theorem d_M_betweenLaw_212 : decode b_M_betweenLaw 212 = .ok (.getfield 7, 3) := by decide +kernel
theorem d_M_betweenLaw_215 : decode b_M_betweenLaw 215 = .ok (.iconst 5, 1) := by decide +kernel
theorem d_M_betweenLaw_216 : decode b_M_betweenLaw 216 = .ok (.iload_n 3, 1) := by decide +kernel
theorem d_M_betweenLaw_217 : decode b_M_betweenLaw 217 = .ok (.imul, 1) := by decide +kernel
theorem d_M_betweenLaw_218 : decode b_M_betweenLaw 218 = .ok (.iload 6, 2) := by decide +kernel
theorem d_M_betweenLaw_220 : decode b_M_betweenLaw 220 = .ok (.iadd, 1) := by decide +kernel
theorem d_M_betweenLaw_221 : decode b_M_betweenLaw 221 = .ok (.iaload, 1) := by decide +kernel
theorem d_M_betweenLaw_222 : decode b_M_betweenLaw 222 = .ok (.i2l, 1) := by decide +kernel
theorem d_M_betweenLaw_223 : decode b_M_betweenLaw 223 = .ok (.iconst 0, 1) := by decide +kernel
theorem d_M_betweenLaw_224 : decode b_M_betweenLaw 224 = .ok (.invokevirtual 242, 3) := by decide +kernel
theorem d_M_betweenLaw_227 : decode b_M_betweenLaw 227 = .ok (.istore 8, 2) := by decide +kernel
theorem d_M_betweenLaw_229 : decode b_M_betweenLaw 229 = .ok (.iload 8, 2) := by decide +kernel
theorem d_M_betweenLaw_231 : decode b_M_betweenLaw 231 = .ok (.ifCond .ge 6, 3) := by decide +kernel
theorem d_M_betweenLaw_234 : decode b_M_betweenLaw 234 = .ok (.iload 8, 2) := by decide +kernel
theorem d_M_betweenLaw_236 : decode b_M_betweenLaw 236 = .ok (.ireturn, 1) := by decide +kernel
theorem d_M_betweenLaw_237 : decode b_M_betweenLaw 237 = .ok (.aload_n 0, 1) := by decide +kernel
theorem d_M_betweenLaw_238 : decode b_M_betweenLaw 238 = .ok (.getfield 226, 3) := by decide +kernel
theorem d_M_betweenLaw_241 : decode b_M_betweenLaw 241 = .ok (.ifCond .lt 7, 3) := by decide +kernel
theorem d_M_betweenLaw_244 : decode b_M_betweenLaw 244 = .ok (.iconst 1, 1) := by decide +kernel
theorem d_M_betweenLaw_245 : decode b_M_betweenLaw 245 = .ok (.goto 4, 3) := by decide +kernel
theorem d_M_betweenLaw_248 : decode b_M_betweenLaw 248 = .ok (.iconst 0, 1) := by decide +kernel
theorem d_M_betweenLaw_249 : decode b_M_betweenLaw 249 = .ok (.istore 9, 2) := by decide +kernel
theorem d_M_betweenLaw_251 : decode b_M_betweenLaw 251 = .ok (.aload_n 0, 1) := by decide +kernel
theorem d_M_betweenLaw_252 : decode b_M_betweenLaw 252 = .ok (.aload_n 0, 1) := by decide +kernel
theorem d_M_betweenLaw_253 : decode b_M_betweenLaw 253 = .ok (.getfield 61, 3) := by decide +kernel
theorem d_M_betweenLaw_256 : decode b_M_betweenLaw 256 = .ok (.iconst 0, 1) := by decide +kernel
theorem d_M_betweenLaw_257 : decode b_M_betweenLaw 257 = .ok (.laload, 1) := by decide +kernel
theorem d_M_betweenLaw_258 : decode b_M_betweenLaw 258 = .ok (.aload_n 0, 1) := by decide +kernel
theorem d_M_betweenLaw_259 : decode b_M_betweenLaw 259 = .ok (.getfield 64, 3) := by decide +kernel
theorem d_M_betweenLaw_262 : decode b_M_betweenLaw 262 = .ok (.iconst 0, 1) := by decide +kernel
theorem d_M_betweenLaw_263 : decode b_M_betweenLaw 263 = .ok (.laload, 1) := by decide +kernel
theorem d_M_betweenLaw_264 : decode b_M_betweenLaw 264 = .ok (.aload_n 0, 1) := by decide +kernel
theorem d_M_betweenLaw_265 : decode b_M_betweenLaw 265 = .ok (.getfield 67, 3) := by decide +kernel
theorem d_M_betweenLaw_268 : decode b_M_betweenLaw 268 = .ok (.iconst 0, 1) := by decide +kernel
theorem d_M_betweenLaw_269 : decode b_M_betweenLaw 269 = .ok (.baload, 1) := by decide +kernel
theorem d_M_betweenLaw_270 : decode b_M_betweenLaw 270 = .ok (.aload_n 0, 1) := by decide +kernel
theorem d_M_betweenLaw_271 : decode b_M_betweenLaw 271 = .ok (.getfield 7, 3) := by decide +kernel
theorem d_M_betweenLaw_274 : decode b_M_betweenLaw 274 = .ok (.iconst 5, 1) := by decide +kernel
theorem d_M_betweenLaw_275 : decode b_M_betweenLaw 275 = .ok (.iload 4, 2) := by decide +kernel
theorem d_M_betweenLaw_277 : decode b_M_betweenLaw 277 = .ok (.imul, 1) := by decide +kernel
theorem d_M_betweenLaw_278 : decode b_M_betweenLaw 278 = .ok (.iload 7, 2) := by decide +kernel
theorem d_M_betweenLaw_280 : decode b_M_betweenLaw 280 = .ok (.iadd, 1) := by decide +kernel
theorem d_M_betweenLaw_281 : decode b_M_betweenLaw 281 = .ok (.iaload, 1) := by decide +kernel
theorem d_M_betweenLaw_282 : decode b_M_betweenLaw 282 = .ok (.i2l, 1) := by decide +kernel
theorem d_M_betweenLaw_283 : decode b_M_betweenLaw 283 = .ok (.aload_n 0, 1) := by decide +kernel
theorem d_M_betweenLaw_284 : decode b_M_betweenLaw 284 = .ok (.getfield 7, 3) := by decide +kernel
theorem d_M_betweenLaw_287 : decode b_M_betweenLaw 287 = .ok (.iconst 5, 1) := by decide +kernel
theorem d_M_betweenLaw_288 : decode b_M_betweenLaw 288 = .ok (.iload_n 3, 1) := by decide +kernel
theorem d_M_betweenLaw_289 : decode b_M_betweenLaw 289 = .ok (.imul, 1) := by decide +kernel
theorem d_M_betweenLaw_290 : decode b_M_betweenLaw 290 = .ok (.iload 7, 2) := by decide +kernel
theorem d_M_betweenLaw_292 : decode b_M_betweenLaw 292 = .ok (.iadd, 1) := by decide +kernel
theorem d_M_betweenLaw_293 : decode b_M_betweenLaw 293 = .ok (.iaload, 1) := by decide +kernel
theorem d_M_betweenLaw_294 : decode b_M_betweenLaw 294 = .ok (.i2l, 1) := by decide +kernel
theorem d_M_betweenLaw_295 : decode b_M_betweenLaw 295 = .ok (.iconst 0, 1) := by decide +kernel
theorem d_M_betweenLaw_296 : decode b_M_betweenLaw 296 = .ok (.invokevirtual 242, 3) := by decide +kernel
theorem d_M_betweenLaw_299 : decode b_M_betweenLaw 299 = .ok (.istore 8, 2) := by decide +kernel
theorem d_M_betweenLaw_301 : decode b_M_betweenLaw 301 = .ok (.iload 8, 2) := by decide +kernel
theorem d_M_betweenLaw_303 : decode b_M_betweenLaw 303 = .ok (.ifCond .ge 8, 3) := by decide +kernel
theorem d_M_betweenLaw_306 : decode b_M_betweenLaw 306 = .ok (.iload 8, 2) := by decide +kernel
theorem d_M_betweenLaw_308 : decode b_M_betweenLaw 308 = .ok (.goto 20, 3) := by decide +kernel
theorem d_M_betweenLaw_311 : decode b_M_betweenLaw 311 = .ok (.iload 9, 2) := by decide +kernel
theorem d_M_betweenLaw_313 : decode b_M_betweenLaw 313 = .ok (.ifCond .eq 14, 3) := by decide +kernel
theorem d_M_betweenLaw_316 : decode b_M_betweenLaw 316 = .ok (.aload_n 0, 1) := by decide +kernel
theorem d_M_betweenLaw_317 : decode b_M_betweenLaw 317 = .ok (.getfield 226, 3) := by decide +kernel
theorem d_M_betweenLaw_320 : decode b_M_betweenLaw 320 = .ok (.ifCond .gt 7, 3) := by decide +kernel
theorem d_M_betweenLaw_323 : decode b_M_betweenLaw 323 = .ok (.iconst 1, 1) := by decide +kernel
theorem d_M_betweenLaw_324 : decode b_M_betweenLaw 324 = .ok (.goto 4, 3) := by decide +kernel
theorem d_M_betweenLaw_327 : decode b_M_betweenLaw 327 = .ok (.iconst 0, 1) := by decide +kernel
theorem d_M_betweenLaw_328 : decode b_M_betweenLaw 328 = .ok (.ireturn, 1) := by decide +kernel
theorem d_M_law_0 : decode b_M_law 0 = .ok (.iload_n 3, 1) := by decide +kernel
theorem d_M_law_1 : decode b_M_law 1 = .ok (.tableswitch 111 0 5 #[39, 50, 61, 74, 85, 98], 39) := by decide +kernel
theorem d_M_law_40 : decode b_M_law 40 = .ok (.aload_n 0, 1) := by decide +kernel
theorem d_M_law_41 : decode b_M_law 41 = .ok (.iload_n 1, 1) := by decide +kernel
theorem d_M_law_42 : decode b_M_law 42 = .ok (.iload_n 2, 1) := by decide +kernel
theorem d_M_law_43 : decode b_M_law 43 = .ok (.iload 4, 2) := by decide +kernel
theorem d_M_law_45 : decode b_M_law 45 = .ok (.iload 5, 2) := by decide +kernel
theorem d_M_law_47 : decode b_M_law 47 = .ok (.invokevirtual 305, 3) := by decide +kernel
theorem d_M_law_50 : decode b_M_law 50 = .ok (.ireturn, 1) := by decide +kernel
theorem d_M_law_51 : decode b_M_law 51 = .ok (.aload_n 0, 1) := by decide +kernel
theorem d_M_law_52 : decode b_M_law 52 = .ok (.iload_n 1, 1) := by decide +kernel
theorem d_M_law_53 : decode b_M_law 53 = .ok (.iload_n 2, 1) := by decide +kernel
theorem d_M_law_54 : decode b_M_law 54 = .ok (.iload 4, 2) := by decide +kernel
theorem d_M_law_56 : decode b_M_law 56 = .ok (.iload 5, 2) := by decide +kernel
theorem d_M_law_58 : decode b_M_law 58 = .ok (.invokevirtual 308, 3) := by decide +kernel
theorem d_M_law_61 : decode b_M_law 61 = .ok (.ireturn, 1) := by decide +kernel
theorem d_M_law_62 : decode b_M_law 62 = .ok (.aload_n 0, 1) := by decide +kernel
theorem d_M_law_63 : decode b_M_law 63 = .ok (.iload_n 1, 1) := by decide +kernel
theorem d_M_law_64 : decode b_M_law 64 = .ok (.iload_n 2, 1) := by decide +kernel
theorem d_M_law_65 : decode b_M_law 65 = .ok (.iload 4, 2) := by decide +kernel
theorem d_M_law_67 : decode b_M_law 67 = .ok (.iload 5, 2) := by decide +kernel
theorem d_M_law_69 : decode b_M_law 69 = .ok (.iload 6, 2) := by decide +kernel
theorem d_M_law_71 : decode b_M_law 71 = .ok (.invokevirtual 311, 3) := by decide +kernel
theorem d_M_law_74 : decode b_M_law 74 = .ok (.ireturn, 1) := by decide +kernel
theorem d_M_law_75 : decode b_M_law 75 = .ok (.aload_n 0, 1) := by decide +kernel
theorem d_M_law_76 : decode b_M_law 76 = .ok (.iload_n 1, 1) := by decide +kernel
theorem d_M_law_77 : decode b_M_law 77 = .ok (.iload_n 2, 1) := by decide +kernel
theorem d_M_law_78 : decode b_M_law 78 = .ok (.iload 4, 2) := by decide +kernel
theorem d_M_law_80 : decode b_M_law 80 = .ok (.iload 5, 2) := by decide +kernel
theorem d_M_law_82 : decode b_M_law 82 = .ok (.invokevirtual 314, 3) := by decide +kernel
theorem d_M_law_85 : decode b_M_law 85 = .ok (.ireturn, 1) := by decide +kernel
theorem d_M_law_86 : decode b_M_law 86 = .ok (.aload_n 0, 1) := by decide +kernel
theorem d_M_law_87 : decode b_M_law 87 = .ok (.iload_n 1, 1) := by decide +kernel
theorem d_M_law_88 : decode b_M_law 88 = .ok (.iload_n 2, 1) := by decide +kernel
theorem d_M_law_89 : decode b_M_law 89 = .ok (.iload 4, 2) := by decide +kernel
theorem d_M_law_91 : decode b_M_law 91 = .ok (.iload 5, 2) := by decide +kernel
theorem d_M_law_93 : decode b_M_law 93 = .ok (.iload 6, 2) := by decide +kernel
theorem d_M_law_95 : decode b_M_law 95 = .ok (.invokevirtual 317, 3) := by decide +kernel
theorem d_M_law_98 : decode b_M_law 98 = .ok (.ireturn, 1) := by decide +kernel
theorem d_M_law_99 : decode b_M_law 99 = .ok (.aload_n 0, 1) := by decide +kernel
theorem d_M_law_100 : decode b_M_law 100 = .ok (.iload_n 1, 1) := by decide +kernel
theorem d_M_law_101 : decode b_M_law 101 = .ok (.iload_n 2, 1) := by decide +kernel
theorem d_M_law_102 : decode b_M_law 102 = .ok (.iload 4, 2) := by decide +kernel
theorem d_M_law_104 : decode b_M_law 104 = .ok (.iload 5, 2) := by decide +kernel
theorem d_M_law_106 : decode b_M_law 106 = .ok (.iload 6, 2) := by decide +kernel
theorem d_M_law_108 : decode b_M_law 108 = .ok (.invokevirtual 320, 3) := by decide +kernel
theorem d_M_law_111 : decode b_M_law 111 = .ok (.ireturn, 1) := by decide +kernel
theorem d_M_law_112 : decode b_M_law 112 = .ok (.aload_n 0, 1) := by decide +kernel
theorem d_M_law_113 : decode b_M_law 113 = .ok (.iload_n 1, 1) := by decide +kernel
theorem d_M_law_114 : decode b_M_law 114 = .ok (.iload_n 2, 1) := by decide +kernel
theorem d_M_law_115 : decode b_M_law 115 = .ok (.iload 4, 2) := by decide +kernel
theorem d_M_law_117 : decode b_M_law 117 = .ok (.iload 5, 2) := by decide +kernel
theorem d_M_law_119 : decode b_M_law 119 = .ok (.invokevirtual 323, 3) := by decide +kernel
theorem d_M_law_122 : decode b_M_law 122 = .ok (.ireturn, 1) := by decide +kernel
theorem d_M_isBroken_0 : decode b_M_isBroken 0 = .ok (.aload_n 0, 1) := by decide +kernel
theorem d_M_isBroken_1 : decode b_M_isBroken 1 = .ok (.invokevirtual 126, 3) := by decide +kernel
theorem d_M_isBroken_4 : decode b_M_isBroken 4 = .ok (.istore 4, 2) := by decide +kernel
theorem d_M_isBroken_6 : decode b_M_isBroken 6 = .ok (.iconst 0, 1) := by decide +kernel
theorem d_M_isBroken_7 : decode b_M_isBroken 7 = .ok (.istore 5, 2) := by decide +kernel
theorem d_M_isBroken_9 : decode b_M_isBroken 9 = .ok (.iload 5, 2) := by decide +kernel
theorem d_M_isBroken_11 : decode b_M_isBroken 11 = .ok (.bipush 8, 2) := by decide +kernel
theorem d_M_isBroken_13 : decode b_M_isBroken 13 = .ok (.if_icmp .ge 181, 3) := by decide +kernel
theorem d_M_isBroken_16 : decode b_M_isBroken 16 = .ok (.iconst 0, 1) := by decide +kernel
theorem d_M_isBroken_17 : decode b_M_isBroken 17 = .ok (.istore 6, 2) := by decide +kernel
theorem d_M_isBroken_19 : decode b_M_isBroken 19 = .ok (.iload 6, 2) := by decide +kernel
theorem d_M_isBroken_21 : decode b_M_isBroken 21 = .ok (.bipush 8, 2) := by decide +kernel
theorem d_M_isBroken_23 : decode b_M_isBroken 23 = .ok (.if_icmp .ge 165, 3) := by decide +kernel
theorem d_M_isBroken_26 : decode b_M_isBroken 26 = .ok (.iload_n 3, 1) := by decide +kernel
theorem d_M_isBroken_27 : decode b_M_isBroken 27 = .ok (.iconst 2, 1) := by decide +kernel
theorem d_M_isBroken_28 : decode b_M_isBroken 28 = .ok (.if_icmp .ne 8, 3) := by decide +kernel
theorem d_M_isBroken_31 : decode b_M_isBroken 31 = .ok (.bipush 8, 2) := by decide +kernel
theorem d_M_isBroken_33 : decode b_M_isBroken 33 = .ok (.goto 18, 3) := by decide +kernel
theorem d_M_isBroken_36 : decode b_M_isBroken 36 = .ok (.iload_n 3, 1) := by decide +kernel
theorem d_M_isBroken_37 : decode b_M_isBroken 37 = .ok (.iconst 4, 1) := by decide +kernel
theorem d_M_isBroken_38 : decode b_M_isBroken 38 = .ok (.if_icmp .eq 8, 3) := by decide +kernel
theorem d_M_isBroken_41 : decode b_M_isBroken 41 = .ok (.iload_n 3, 1) := by decide +kernel
theorem d_M_isBroken_42 : decode b_M_isBroken 42 = .ok (.iconst 5, 1) := by decide +kernel
theorem d_M_isBroken_43 : decode b_M_isBroken 43 = .ok (.if_icmp .ne 7, 3) := by decide +kernel
theorem d_M_isBroken_46 : decode b_M_isBroken 46 = .ok (.iconst 5, 1) := by decide +kernel
theorem d_M_isBroken_47 : decode b_M_isBroken 47 = .ok (.goto 4, 3) := by decide +kernel
theorem d_M_isBroken_50 : decode b_M_isBroken 50 = .ok (.iconst 1, 1) := by decide +kernel
theorem d_M_isBroken_51 : decode b_M_isBroken 51 = .ok (.istore 7, 2) := by decide +kernel
theorem d_M_isBroken_53 : decode b_M_isBroken 53 = .ok (.iconst 0, 1) := by decide +kernel
theorem d_M_isBroken_54 : decode b_M_isBroken 54 = .ok (.istore 8, 2) := by decide +kernel
theorem d_M_isBroken_56 : decode b_M_isBroken 56 = .ok (.iload 8, 2) := by decide +kernel
theorem d_M_isBroken_58 : decode b_M_isBroken 58 = .ok (.iload 7, 2) := by decide +kernel
theorem d_M_isBroken_60 : decode b_M_isBroken 60 = .ok (.if_icmp .ge 122, 3) := by decide +kernel
theorem d_M_isBroken_63 : decode b_M_isBroken 63 = .ok (.iload 5, 2) := by decide +kernel
theorem d_M_isBroken_65 : decode b_M_isBroken 65 = .ok (.iload 6, 2) := by decide +kernel
theorem d_M_isBroken_67 : decode b_M_isBroken 67 = .ok (.if_icmp .eq 115, 3) := by decide +kernel
theorem d_M_isBroken_70 : decode b_M_isBroken 70 = .ok (.iload_n 3, 1) := by decide +kernel
theorem d_M_isBroken_71 : decode b_M_isBroken 71 = .ok (.iconst 2, 1) := by decide +kernel
theorem d_M_isBroken_72 : decode b_M_isBroken 72 = .ok (.if_icmp .ne 25, 3) := by decide +kernel
theorem d_M_isBroken_75 : decode b_M_isBroken 75 = .ok (.iload 8, 2) := by decide +kernel
theorem d_M_isBroken_77 : decode b_M_isBroken 77 = .ok (.iload 5, 2) := by decide +kernel
theorem d_M_isBroken_79 : decode b_M_isBroken 79 = .ok (.if_icmp .eq 14, 3) := by decide +kernel
theorem d_M_isBroken_82 : decode b_M_isBroken 82 = .ok (.iload 8, 2) := by decide +kernel
theorem d_M_isBroken_84 : decode b_M_isBroken 84 = .ok (.iload 6, 2) := by decide +kernel
theorem d_M_isBroken_86 : decode b_M_isBroken 86 = .ok (.if_icmp .eq 7, 3) := by decide +kernel
theorem d_M_isBroken_89 : decode b_M_isBroken 89 = .ok (.iconst 1, 1) := by decide +kernel
theorem d_M_isBroken_90 : decode b_M_isBroken 90 = .ok (.goto 33, 3) := by decide +kernel
theorem d_M_isBroken_93 : decode b_M_isBroken 93 = .ok (.iconst 0, 1) := by decide +kernel
theorem d_M_isBroken_94 : decode b_M_isBroken 94 = .ok (.goto 29, 3) := by decide +kernel
theorem d_M_isBroken_97 : decode b_M_isBroken 97 = .ok (.iload_n 3, 1) := by decide +kernel
theorem d_M_isBroken_98 : decode b_M_isBroken 98 = .ok (.iconst 4, 1) := by decide +kernel
theorem d_M_isBroken_99 : decode b_M_isBroken 99 = .ok (.if_icmp .eq 8, 3) := by decide +kernel
theorem d_M_isBroken_102 : decode b_M_isBroken 102 = .ok (.iload_n 3, 1) := by decide +kernel
theorem d_M_isBroken_103 : decode b_M_isBroken 103 = .ok (.iconst 5, 1) := by decide +kernel
theorem d_M_isBroken_104 : decode b_M_isBroken 104 = .ok (.if_icmp .ne 14, 3) := by decide +kernel
theorem d_M_isBroken_107 : decode b_M_isBroken 107 = .ok (.iload 4, 2) := by decide +kernel
theorem d_M_isBroken_109 : decode b_M_isBroken 109 = .ok (.iload 8, 2) := by decide +kernel
theorem d_M_isBroken_111 : decode b_M_isBroken 111 = .ok (.ishr, 1) := by decide +kernel
theorem d_M_isBroken_112 : decode b_M_isBroken 112 = .ok (.iconst 1, 1) := by decide +kernel
theorem d_M_isBroken_113 : decode b_M_isBroken 113 = .ok (.iand, 1) := by decide +kernel
theorem d_M_isBroken_114 : decode b_M_isBroken 114 = .ok (.iconst 1, 1) := by decide +kernel
theorem d_M_isBroken_115 : decode b_M_isBroken 115 = .ok (.if_icmp .ne 7, 3) := by decide +kernel
theorem d_M_isBroken_118 : decode b_M_isBroken 118 = .ok (.iconst 1, 1) := by decide +kernel
theorem d_M_isBroken_119 : decode b_M_isBroken 119 = .ok (.goto 4, 3) := by decide +kernel
theorem d_M_isBroken_122 : decode b_M_isBroken 122 = .ok (.iconst 0, 1) := by decide +kernel
theorem d_M_isBroken_123 : decode b_M_isBroken 123 = .ok (.istore 9, 2) := by decide +kernel
theorem d_M_isBroken_125 : decode b_M_isBroken 125 = .ok (.iload 9, 2) := by decide +kernel
theorem d_M_isBroken_127 : decode b_M_isBroken 127 = .ok (.ifCond .eq 49, 3) := by decide +kernel
theorem d_M_isBroken_130 : decode b_M_isBroken 130 = .ok (.aload_n 0, 1) := by decide +kernel
theorem d_M_isBroken_131 : decode b_M_isBroken 131 = .ok (.iload_n 1, 1) := by decide +kernel
theorem d_M_isBroken_132 : decode b_M_isBroken 132 = .ok (.iload_n 2, 1) := by decide +kernel
theorem d_M_isBroken_133 : decode b_M_isBroken 133 = .ok (.iload_n 3, 1) := by decide +kernel
theorem d_M_isBroken_134 : decode b_M_isBroken 134 = .ok (.iload 5, 2) := by decide +kernel
theorem d_M_isBroken_136 : decode b_M_isBroken 136 = .ok (.iload 6, 2) := by decide +kernel
theorem d_M_isBroken_138 : decode b_M_isBroken 138 = .ok (.iload 8, 2) := by decide +kernel
theorem d_M_isBroken_140 : decode b_M_isBroken 140 = .ok (.invokevirtual 326, 3) := by decide +kernel
theorem d_M_isBroken_143 : decode b_M_isBroken 143 = .ok (.ifCond .ne 33, 3) := by decide +kernel
theorem d_M_isBroken_146 : decode b_M_isBroken 146 = .ok (.aload_n 0, 1) := by decide +kernel
theorem d_M_isBroken_147 : decode b_M_isBroken 147 = .ok (.iload 5, 2) := by decide +kernel
theorem d_M_isBroken_149 : decode b_M_isBroken 149 = .ok (.putfield 330, 3) := by decide +kernel
theorem d_M_isBroken_152 : decode b_M_isBroken 152 = .ok (.aload_n 0, 1) := by decide +kernel
theorem d_M_isBroken_153 : decode b_M_isBroken 153 = .ok (.iload 6, 2) := by decide +kernel
theorem d_M_isBroken_155 : decode b_M_isBroken 155 = .ok (.putfield 333, 3) := by decide +kernel
theorem d_M_isBroken_158 : decode b_M_isBroken 158 = .ok (.aload_n 0, 1) := by decide +kernel
theorem d_M_isBroken_159 : decode b_M_isBroken 159 = .ok (.iload 7, 2) := by decide +kernel
theorem d_M_isBroken_161 : decode b_M_isBroken 161 = .ok (.iconst 1, 1) := by decide +kernel
theorem d_M_isBroken_162 : decode b_M_isBroken 162 = .ok (.if_icmp .ne 7, 3) := by decide +kernel
theorem d_M_isBroken_165 : decode b_M_isBroken 165 = .ok (.iconst (-1), 1) := by decide +kernel
theorem d_M_isBroken_166 : decode b_M_isBroken 166 = .ok (.goto 5, 3) := by decide +kernel
theorem d_M_isBroken_169 : decode b_M_isBroken 169 = .ok (.iload 8, 2) := by decide +kernel
theorem d_M_isBroken_171 : decode b_M_isBroken 171 = .ok (.putfield 336, 3) := by decide +kernel
theorem d_M_isBroken_174 : decode b_M_isBroken 174 = .ok (.iconst 1, 1) := by decide +kernel
theorem d_M_isBroken_175 : decode b_M_isBroken 175 = .ok (.ireturn, 1) := by decide +kernel
theorem d_M_isBroken_176 : decode b_M_isBroken 176 = .ok (.iinc 8 1, 3) := by decide +kernel
theorem d_M_isBroken_179 : decode b_M_isBroken 179 = .ok (.goto (-123), 3) := by decide +kernel
theorem d_M_isBroken_182 : decode b_M_isBroken 182 = .ok (.iinc 6 1, 3) := by decide +kernel
theorem d_M_isBroken_185 : decode b_M_isBroken 185 = .ok (.goto (-166), 3) := by decide +kernel
theorem d_M_isBroken_188 : decode b_M_isBroken 188 = .ok (.iinc 5 1, 3) := by decide +kernel
theorem d_M_isBroken_191 : decode b_M_isBroken 191 = .ok (.goto (-182), 3) := by decide +kernel
theorem d_M_isBroken_194 : decode b_M_isBroken 194 = .ok (.iconst 0, 1) := by decide +kernel
theorem d_M_isBroken_195 : decode b_M_isBroken 195 = .ok (.ireturn, 1) := by decide +kernel
theorem d_M_isLaw_0 : decode b_M_isLaw 0 = .ok (.iload_n 0, 1) := by decide +kernel
theorem d_M_isLaw_1 : decode b_M_isLaw 1 = .ok (.i2l, 1) := by decide +kernel
theorem d_M_isLaw_2 : decode b_M_isLaw 2 = .ok (.lconst 0, 1) := by decide +kernel
theorem d_M_isLaw_3 : decode b_M_isLaw 3 = .ok (.ldc2_w 339, 3) := by decide +kernel
theorem d_M_isLaw_6 : decode b_M_isLaw 6 = .ok (.invokestatic 90, 3) := by decide +kernel
theorem d_M_isLaw_9 : decode b_M_isLaw 9 = .ok (.ireturn, 1) := by decide +kernel
theorem d_M_keeps_0 : decode b_M_keeps 0 = .ok (.aload_n 0, 1) := by decide +kernel
theorem d_M_keeps_1 : decode b_M_keeps 1 = .ok (.iload_n 1, 1) := by decide +kernel
theorem d_M_keeps_2 : decode b_M_keeps 2 = .ok (.invokevirtual 271, 3) := by decide +kernel
theorem d_M_keeps_5 : decode b_M_keeps 5 = .ok (.ifCond .eq 17, 3) := by decide +kernel
theorem d_M_keeps_8 : decode b_M_keeps 8 = .ok (.iload_n 2, 1) := by decide +kernel
theorem d_M_keeps_9 : decode b_M_keeps 9 = .ok (.invokestatic 115, 3) := by decide +kernel
theorem d_M_keeps_12 : decode b_M_keeps 12 = .ok (.ifCond .eq 10, 3) := by decide +kernel
theorem d_M_keeps_15 : decode b_M_keeps 15 = .ok (.iload_n 3, 1) := by decide +kernel
theorem d_M_keeps_16 : decode b_M_keeps 16 = .ok (.invokestatic 341, 3) := by decide +kernel
theorem d_M_keeps_19 : decode b_M_keeps 19 = .ok (.ifCond .ne 7, 3) := by decide +kernel
theorem d_M_keeps_22 : decode b_M_keeps 22 = .ok (.sipush (-1001), 3) := by decide +kernel
theorem d_M_keeps_25 : decode b_M_keeps 25 = .ok (.ireturn, 1) := by decide +kernel
theorem d_M_keeps_26 : decode b_M_keeps 26 = .ok (.aload_n 0, 1) := by decide +kernel
theorem d_M_keeps_27 : decode b_M_keeps 27 = .ok (.iload_n 1, 1) := by decide +kernel
theorem d_M_keeps_28 : decode b_M_keeps 28 = .ok (.iload_n 2, 1) := by decide +kernel
theorem d_M_keeps_29 : decode b_M_keeps 29 = .ok (.iload_n 3, 1) := by decide +kernel
theorem d_M_keeps_30 : decode b_M_keeps 30 = .ok (.invokevirtual 344, 3) := by decide +kernel
theorem d_M_keeps_33 : decode b_M_keeps 33 = .ok (.ifCond .eq 7, 3) := by decide +kernel
theorem d_M_keeps_36 : decode b_M_keeps 36 = .ok (.iconst 0, 1) := by decide +kernel
theorem d_M_keeps_37 : decode b_M_keeps 37 = .ok (.goto 4, 3) := by decide +kernel
theorem d_M_keeps_40 : decode b_M_keeps 40 = .ok (.iconst 1, 1) := by decide +kernel
theorem d_M_keeps_41 : decode b_M_keeps 41 = .ok (.ireturn, 1) := by decide +kernel
theorem d_M_breach_0 : decode b_M_breach 0 = .ok (.aload_n 0, 1) := by decide +kernel
theorem d_M_breach_1 : decode b_M_breach 1 = .ok (.iload_n 1, 1) := by decide +kernel
theorem d_M_breach_2 : decode b_M_breach 2 = .ok (.invokevirtual 271, 3) := by decide +kernel
theorem d_M_breach_5 : decode b_M_breach 5 = .ok (.ifCond .eq 17, 3) := by decide +kernel
theorem d_M_breach_8 : decode b_M_breach 8 = .ok (.iload_n 2, 1) := by decide +kernel
theorem d_M_breach_9 : decode b_M_breach 9 = .ok (.invokestatic 115, 3) := by decide +kernel
theorem d_M_breach_12 : decode b_M_breach 12 = .ok (.ifCond .eq 10, 3) := by decide +kernel
theorem d_M_breach_15 : decode b_M_breach 15 = .ok (.iload_n 3, 1) := by decide +kernel
theorem d_M_breach_16 : decode b_M_breach 16 = .ok (.invokestatic 341, 3) := by decide +kernel
theorem d_M_breach_19 : decode b_M_breach 19 = .ok (.ifCond .ne 7, 3) := by decide +kernel
theorem d_M_breach_22 : decode b_M_breach 22 = .ok (.sipush (-1001), 3) := by decide +kernel
theorem d_M_breach_25 : decode b_M_breach 25 = .ok (.ireturn, 1) := by decide +kernel
theorem d_M_breach_26 : decode b_M_breach 26 = .ok (.iload 4, 2) := by decide +kernel
theorem d_M_breach_28 : decode b_M_breach 28 = .ok (.i2l, 1) := by decide +kernel
theorem d_M_breach_29 : decode b_M_breach 29 = .ok (.lconst 0, 1) := by decide +kernel
theorem d_M_breach_30 : decode b_M_breach 30 = .ok (.ldc2_w 107, 3) := by decide +kernel
theorem d_M_breach_33 : decode b_M_breach 33 = .ok (.invokestatic 90, 3) := by decide +kernel
theorem d_M_breach_36 : decode b_M_breach 36 = .ok (.ifCond .ne 7, 3) := by decide +kernel
theorem d_M_breach_39 : decode b_M_breach 39 = .ok (.sipush (-1002), 3) := by decide +kernel
theorem d_M_breach_42 : decode b_M_breach 42 = .ok (.ireturn, 1) := by decide +kernel
theorem d_M_breach_43 : decode b_M_breach 43 = .ok (.aload_n 0, 1) := by decide +kernel
theorem d_M_breach_44 : decode b_M_breach 44 = .ok (.iload_n 1, 1) := by decide +kernel
theorem d_M_breach_45 : decode b_M_breach 45 = .ok (.iload_n 2, 1) := by decide +kernel
theorem d_M_breach_46 : decode b_M_breach 46 = .ok (.iload_n 3, 1) := by decide +kernel
theorem d_M_breach_47 : decode b_M_breach 47 = .ok (.invokevirtual 344, 3) := by decide +kernel
theorem d_M_breach_50 : decode b_M_breach 50 = .ok (.ifCond .ne 5, 3) := by decide +kernel
theorem d_M_breach_53 : decode b_M_breach 53 = .ok (.iconst (-1), 1) := by decide +kernel
theorem d_M_breach_54 : decode b_M_breach 54 = .ok (.ireturn, 1) := by decide +kernel
theorem d_M_breach_55 : decode b_M_breach 55 = .ok (.iload 4, 2) := by decide +kernel
theorem d_M_breach_57 : decode b_M_breach 57 = .ok (.ifCond .ne 10, 3) := by decide +kernel
theorem d_M_breach_60 : decode b_M_breach 60 = .ok (.aload_n 0, 1) := by decide +kernel
theorem d_M_breach_61 : decode b_M_breach 61 = .ok (.getfield 330, 3) := by decide +kernel
theorem d_M_breach_64 : decode b_M_breach 64 = .ok (.goto 20, 3) := by decide +kernel
theorem d_M_breach_67 : decode b_M_breach 67 = .ok (.iload 4, 2) := by decide +kernel
theorem d_M_breach_69 : decode b_M_breach 69 = .ok (.iconst 1, 1) := by decide +kernel
theorem d_M_breach_70 : decode b_M_breach 70 = .ok (.if_icmp .ne 10, 3) := by decide +kernel
theorem d_M_breach_73 : decode b_M_breach 73 = .ok (.aload_n 0, 1) := by decide +kernel
theorem d_M_breach_74 : decode b_M_breach 74 = .ok (.getfield 333, 3) := by decide +kernel
theorem d_M_breach_77 : decode b_M_breach 77 = .ok (.goto 7, 3) := by decide +kernel
theorem d_M_breach_80 : decode b_M_breach 80 = .ok (.aload_n 0, 1) := by decide +kernel
theorem d_M_breach_81 : decode b_M_breach 81 = .ok (.getfield 336, 3) := by decide +kernel
theorem d_M_breach_84 : decode b_M_breach 84 = .ok (.ireturn, 1) := by decide +kernel
theorem d_M_bits_0 : decode b_M_bits 0 = .ok (.iconst 0, 1) := by decide +kernel
theorem d_M_bits_1 : decode b_M_bits 1 = .ok (.istore_n 1, 1) := by decide +kernel
theorem d_M_bits_2 : decode b_M_bits 2 = .ok (.iconst 0, 1) := by decide +kernel
theorem d_M_bits_3 : decode b_M_bits 3 = .ok (.istore_n 2, 1) := by decide +kernel
theorem d_M_bits_4 : decode b_M_bits 4 = .ok (.iload_n 2, 1) := by decide +kernel
theorem d_M_bits_5 : decode b_M_bits 5 = .ok (.bipush 7, 2) := by decide +kernel
theorem d_M_bits_7 : decode b_M_bits 7 = .ok (.if_icmp .ge 17, 3) := by decide +kernel
theorem d_M_bits_10 : decode b_M_bits 10 = .ok (.iload_n 1, 1) := by decide +kernel
theorem d_M_bits_11 : decode b_M_bits 11 = .ok (.iload_n 0, 1) := by decide +kernel
theorem d_M_bits_12 : decode b_M_bits 12 = .ok (.iload_n 2, 1) := by decide +kernel
theorem d_M_bits_13 : decode b_M_bits 13 = .ok (.ishr, 1) := by decide +kernel
theorem d_M_bits_14 : decode b_M_bits 14 = .ok (.iconst 1, 1) := by decide +kernel
theorem d_M_bits_15 : decode b_M_bits 15 = .ok (.iand, 1) := by decide +kernel
theorem d_M_bits_16 : decode b_M_bits 16 = .ok (.iadd, 1) := by decide +kernel
theorem d_M_bits_17 : decode b_M_bits 17 = .ok (.istore_n 1, 1) := by decide +kernel
theorem d_M_bits_18 : decode b_M_bits 18 = .ok (.iinc 2 1, 3) := by decide +kernel
theorem d_M_bits_21 : decode b_M_bits 21 = .ok (.goto (-17), 3) := by decide +kernel
theorem d_M_bits_24 : decode b_M_bits 24 = .ok (.iload_n 1, 1) := by decide +kernel
theorem d_M_bits_25 : decode b_M_bits 25 = .ok (.ireturn, 1) := by decide +kernel
theorem d_M_clash_0 : decode b_M_clash 0 = .ok (.iload_n 1, 1) := by decide +kernel
theorem d_M_clash_1 : decode b_M_clash 1 = .ok (.invokestatic 115, 3) := by decide +kernel
theorem d_M_clash_4 : decode b_M_clash 4 = .ok (.ifCond .ne 7, 3) := by decide +kernel
theorem d_M_clash_7 : decode b_M_clash 7 = .ok (.sipush (-1001), 3) := by decide +kernel
theorem d_M_clash_10 : decode b_M_clash 10 = .ok (.ireturn, 1) := by decide +kernel
theorem d_M_clash_11 : decode b_M_clash 11 = .ok (.iconst 0, 1) := by decide +kernel
theorem d_M_clash_12 : decode b_M_clash 12 = .ok (.istore_n 2, 1) := by decide +kernel
theorem d_M_clash_13 : decode b_M_clash 13 = .ok (.iload_n 2, 1) := by decide +kernel
theorem d_M_clash_14 : decode b_M_clash 14 = .ok (.aload_n 0, 1) := by decide +kernel
theorem d_M_clash_15 : decode b_M_clash 15 = .ok (.getfield 130, 3) := by decide +kernel
theorem d_M_clash_18 : decode b_M_clash 18 = .ok (.if_icmp .ge 56, 3) := by decide +kernel
theorem d_M_clash_21 : decode b_M_clash 21 = .ok (.aload_n 0, 1) := by decide +kernel
theorem d_M_clash_22 : decode b_M_clash 22 = .ok (.getfield 76, 3) := by decide +kernel
theorem d_M_clash_25 : decode b_M_clash 25 = .ok (.iload_n 2, 1) := by decide +kernel
theorem d_M_clash_26 : decode b_M_clash 26 = .ok (.iconst 0, 1) := by decide +kernel
theorem d_M_clash_27 : decode b_M_clash 27 = .ok (.iastore, 1) := by decide +kernel
theorem d_M_clash_28 : decode b_M_clash 28 = .ok (.iconst 0, 1) := by decide +kernel
theorem d_M_clash_29 : decode b_M_clash 29 = .ok (.istore_n 3, 1) := by decide +kernel
theorem d_M_clash_30 : decode b_M_clash 30 = .ok (.iload_n 3, 1) := by decide +kernel
theorem d_M_clash_31 : decode b_M_clash 31 = .ok (.bipush 7, 2) := by decide +kernel
theorem d_M_clash_33 : decode b_M_clash 33 = .ok (.if_icmp .ge 35, 3) := by decide +kernel
theorem d_M_clash_36 : decode b_M_clash 36 = .ok (.aload_n 0, 1) := by decide +kernel
theorem d_M_clash_37 : decode b_M_clash 37 = .ok (.getfield 76, 3) := by decide +kernel
theorem d_M_clash_40 : decode b_M_clash 40 = .ok (.iload_n 2, 1) := by decide +kernel
theorem d_M_clash_41 : decode b_M_clash 41 = .ok (.dup2, 1) := by decide +kernel
theorem d_M_clash_42 : decode b_M_clash 42 = .ok (.iaload, 1) := by decide +kernel
theorem d_M_clash_43 : decode b_M_clash 43 = .ok (.aload_n 0, 1) := by decide +kernel
theorem d_M_clash_44 : decode b_M_clash 44 = .ok (.iload_n 2, 1) := by decide +kernel
theorem d_M_clash_45 : decode b_M_clash 45 = .ok (.iload_n 1, 1) := by decide +kernel
theorem d_M_clash_46 : decode b_M_clash 46 = .ok (.iload_n 3, 1) := by decide +kernel
theorem d_M_clash_47 : decode b_M_clash 47 = .ok (.invokevirtual 344, 3) := by decide +kernel
theorem d_M_clash_50 : decode b_M_clash 50 = .ok (.ifCond .eq 7, 3) := by decide +kernel
theorem d_M_clash_53 : decode b_M_clash 53 = .ok (.iconst 0, 1) := by decide +kernel
theorem d_M_clash_54 : decode b_M_clash 54 = .ok (.goto 6, 3) := by decide +kernel
theorem d_M_clash_57 : decode b_M_clash 57 = .ok (.iconst 1, 1) := by decide +kernel
theorem d_M_clash_58 : decode b_M_clash 58 = .ok (.iload_n 3, 1) := by decide +kernel
theorem d_M_clash_59 : decode b_M_clash 59 = .ok (.ishl, 1) := by decide +kernel
theorem d_M_clash_60 : decode b_M_clash 60 = .ok (.ior, 1) := by decide +kernel
theorem d_M_clash_61 : decode b_M_clash 61 = .ok (.iastore, 1) := by decide +kernel
theorem d_M_clash_62 : decode b_M_clash 62 = .ok (.iinc 3 1, 3) := by decide +kernel
theorem d_M_clash_65 : decode b_M_clash 65 = .ok (.goto (-35), 3) := by decide +kernel
theorem d_M_clash_68 : decode b_M_clash 68 = .ok (.iinc 2 1, 3) := by decide +kernel
theorem d_M_clash_71 : decode b_M_clash 71 = .ok (.goto (-58), 3) := by decide +kernel
theorem d_M_clash_74 : decode b_M_clash 74 = .ok (.iconst (-1), 1) := by decide +kernel
theorem d_M_clash_75 : decode b_M_clash 75 = .ok (.istore_n 2, 1) := by decide +kernel
theorem d_M_clash_76 : decode b_M_clash 76 = .ok (.iconst 0, 1) := by decide +kernel
theorem d_M_clash_77 : decode b_M_clash 77 = .ok (.istore_n 3, 1) := by decide +kernel
theorem d_M_clash_78 : decode b_M_clash 78 = .ok (.iload_n 3, 1) := by decide +kernel
theorem d_M_clash_79 : decode b_M_clash 79 = .ok (.sipush 128, 3) := by decide +kernel
theorem d_M_clash_82 : decode b_M_clash 82 = .ok (.if_icmp .ge 82, 3) := by decide +kernel
theorem d_M_clash_85 : decode b_M_clash 85 = .ok (.iconst 0, 1) := by decide +kernel
theorem d_M_clash_86 : decode b_M_clash 86 = .ok (.istore 4, 2) := by decide +kernel
theorem d_M_clash_88 : decode b_M_clash 88 = .ok (.iconst 0, 1) := by decide +kernel
theorem d_M_clash_89 : decode b_M_clash 89 = .ok (.istore 5, 2) := by decide +kernel
theorem d_M_clash_91 : decode b_M_clash 91 = .ok (.iload 5, 2) := by decide +kernel
theorem d_M_clash_93 : decode b_M_clash 93 = .ok (.aload_n 0, 1) := by decide +kernel
theorem d_M_clash_94 : decode b_M_clash 94 = .ok (.getfield 130, 3) := by decide +kernel
theorem d_M_clash_97 : decode b_M_clash 97 = .ok (.if_icmp .ge 35, 3) := by decide +kernel
theorem d_M_clash_100 : decode b_M_clash 100 = .ok (.iload 4, 2) := by decide +kernel
theorem d_M_clash_102 : decode b_M_clash 102 = .ok (.ifCond .ne 17, 3) := by decide +kernel
theorem d_M_clash_105 : decode b_M_clash 105 = .ok (.iload_n 3, 1) := by decide +kernel
theorem d_M_clash_106 : decode b_M_clash 106 = .ok (.aload_n 0, 1) := by decide +kernel
theorem d_M_clash_107 : decode b_M_clash 107 = .ok (.getfield 76, 3) := by decide +kernel
theorem d_M_clash_110 : decode b_M_clash 110 = .ok (.iload 5, 2) := by decide +kernel
theorem d_M_clash_112 : decode b_M_clash 112 = .ok (.iaload, 1) := by decide +kernel
theorem d_M_clash_113 : decode b_M_clash 113 = .ok (.iconst (-1), 1) := by decide +kernel
theorem d_M_clash_114 : decode b_M_clash 114 = .ok (.ixor, 1) := by decide +kernel
theorem d_M_clash_115 : decode b_M_clash 115 = .ok (.iand, 1) := by decide +kernel
theorem d_M_clash_116 : decode b_M_clash 116 = .ok (.ifCond .ne 7, 3) := by decide +kernel
theorem d_M_clash_119 : decode b_M_clash 119 = .ok (.iconst 1, 1) := by decide +kernel
theorem d_M_clash_120 : decode b_M_clash 120 = .ok (.goto 4, 3) := by decide +kernel
theorem d_M_clash_123 : decode b_M_clash 123 = .ok (.iconst 0, 1) := by decide +kernel
theorem d_M_clash_124 : decode b_M_clash 124 = .ok (.istore 4, 2) := by decide +kernel
theorem d_M_clash_126 : decode b_M_clash 126 = .ok (.iinc 5 1, 3) := by decide +kernel
theorem d_M_clash_129 : decode b_M_clash 129 = .ok (.goto (-38), 3) := by decide +kernel
theorem d_M_clash_132 : decode b_M_clash 132 = .ok (.iload 4, 2) := by decide +kernel
theorem d_M_clash_134 : decode b_M_clash 134 = .ok (.ifCond .ne 22, 3) := by decide +kernel
theorem d_M_clash_137 : decode b_M_clash 137 = .ok (.iload_n 2, 1) := by decide +kernel
theorem d_M_clash_138 : decode b_M_clash 138 = .ok (.ifCond .lt 14, 3) := by decide +kernel
theorem d_M_clash_141 : decode b_M_clash 141 = .ok (.iload_n 3, 1) := by decide +kernel
theorem d_M_clash_142 : decode b_M_clash 142 = .ok (.invokestatic 348, 3) := by decide +kernel
theorem d_M_clash_145 : decode b_M_clash 145 = .ok (.iload_n 2, 1) := by decide +kernel
theorem d_M_clash_146 : decode b_M_clash 146 = .ok (.invokestatic 348, 3) := by decide +kernel
theorem d_M_clash_149 : decode b_M_clash 149 = .ok (.if_icmp .ge 7, 3) := by decide +kernel
theorem d_M_clash_152 : decode b_M_clash 152 = .ok (.iload_n 3, 1) := by decide +kernel
theorem d_M_clash_153 : decode b_M_clash 153 = .ok (.goto 4, 3) := by decide +kernel
theorem d_M_clash_156 : decode b_M_clash 156 = .ok (.iload_n 2, 1) := by decide +kernel
theorem d_M_clash_157 : decode b_M_clash 157 = .ok (.istore_n 2, 1) := by decide +kernel
theorem d_M_clash_158 : decode b_M_clash 158 = .ok (.iinc 3 1, 3) := by decide +kernel
theorem d_M_clash_161 : decode b_M_clash 161 = .ok (.goto (-83), 3) := by decide +kernel
theorem d_M_clash_164 : decode b_M_clash 164 = .ok (.iload_n 2, 1) := by decide +kernel
theorem d_M_clash_165 : decode b_M_clash 165 = .ok (.ireturn, 1) := by decide +kernel
def f_M_alikeKept_14 (this : Nat) (s0 : Int32) (h : Hp) : Option ((Int32 × Hp)) :=
  if 0 ≤ s0 then
    (gI h this 8 17).bind fun i1 =>
    if i1 = 0 then
      some ((1 : Int32), h)
    else
    some ((0 : Int32), h)
  else
  some (s0, h)
set_option maxRecDepth 100000 in
set_option maxHeartbeats 4000000 in
theorem w_M_alikeKept_14 {p : Program} {l : Launch} {e : Env} {s : State} {m : MethodId} {args : Array Value} {below : List Frame} {meth : Method} {c : Code} {N0 : Nat} {D : va_G} {cs : Nat → ClassId} (M : ZC p s m args meth c "YearBasketsModel" "alikeKept" b_M_alikeKept 3 (some .int) N0 D cs) (this : Nat)  {r0 : Int32} {h0 : Hp}  (s0 : Int32) (h : Hp) (hf : f_M_alikeKept_14 this s0 h = some (r0, h0)) : ZG p l e (zrm 6 0 0) s m args below meth c N0 D cs (some (.int r0)) h0 h 3 [(0, .ref this)] 14 [.int s0] := by
  intro H locs ls hH hS hl
  unfold f_M_alikeKept_14 at hf
  refine lv_istore_n (lv' := [(2, .int s0), (0, .ref this)]) M.x M.b d_M_alikeKept_14 rfl hl (by decide) rfl (fun ls hl => ?_)
  refine lv_iload_n M.x M.b d_M_alikeKept_15 rfl (lv_at hl 0 rfl) ?_
  refine lv_if_ge (tgt := 23) M.x M.b d_M_alikeKept_16 (by decide) (fun c4 => ?_) (fun c4 => ?_)
  · replace hf := z_t c4 hf
    refine lv_aload_n M.x M.b d_M_alikeKept_23 rfl (lv_at hl 1 rfl) ?_
    replace hf := z_bind hf; obtain ⟨i1, e2, hf⟩ := hf
    refine z_get (ci := 8) (k := 17) M hH rfl (by decide) zinM q_680 (gI_spec e2) d_M_alikeKept_24 ?_
    refine lv_if_ne (tgt := 34) M.x M.b d_M_alikeKept_27 (by decide) (fun c3 => ?_) (fun c3 => ?_)
    · replace hf := z_f c3 hf
      refine lv_iconst (v := (0 : Int32)) M.x M.b d_M_alikeKept_34 rfl ?_
      obtain ⟨rfl, rfl⟩ := z_r2 hf
      exact z_iret M hH hS d_M_alikeKept_35
    · replace hf := z_t c3 hf
      refine lv_iconst (v := (1 : Int32)) M.x M.b d_M_alikeKept_30 rfl ?_
      refine lv_goto (tgt := 35) M.x M.b d_M_alikeKept_31 (by decide) ?_
      obtain ⟨rfl, rfl⟩ := z_r2 hf
      exact z_iret M hH hS d_M_alikeKept_35
  · replace hf := z_f c4 hf
    refine lv_iload_n M.x M.b d_M_alikeKept_19 rfl (lv_at hl 0 rfl) ?_
    refine lv_goto (tgt := 35) M.x M.b d_M_alikeKept_20 (by decide) ?_
    obtain ⟨rfl, rfl⟩ := z_r2 hf
    exact z_iret M hH hS d_M_alikeKept_35
def f_M_alikeKept (this : Nat) (x1 : Int32) (h : Hp) : Option ((Int32 × Hp)) :=
  if isO h this 8 = true then
  if 0 ≤ x1 then
    zb2 (f_M_orderKept this (0 : Int32) (1 : Int32) h) fun i6 h7 =>
    f_M_alikeKept_14 this i6 h7
  else
  f_M_alikeKept_14 this x1 h
  else none
theorem o_M_alikeKept {this : Nat} {x1 : Int32} {h : Hp} {r0 : Int32} {h0 : Hp} (hf : f_M_alikeKept this x1 h = some (r0, h0)) : isO h this 8 = true := by
  unfold f_M_alikeKept at hf
  exact (z_gd hf).1
set_option maxRecDepth 100000 in
set_option maxHeartbeats 4000000 in
theorem c_M_alikeKept {l : Launch} {N0 : Nat} {D : va_G} {cs : Nat → ClassId} {this : Nat} {x1 : Int32} {h : Hp} {r0 : Int32} {h0 : Hp} (hf : f_M_alikeKept this x1 h = some (r0, h0)) : Fn l N0 D cs y_M_alikeKept b_M_alikeKept 3 (some .int) 6 0 0 [.ref this, .int x1] h (some (.int r0)) h0 := by
  refine z_start (by decide) (Nat.le_of_ble_eq_true rfl) ?_
  intro p e s m args below meth c M hH hS ls hl
  unfold f_M_alikeKept at hf
  obtain ⟨hO, hf⟩ := z_gd hf
  have hl : lv_has ls 3 [(0, .ref this), (1, .int x1)] := hl
  obtain ⟨H, hHe⟩ : ∃ H, H = s.heap := ⟨_, rfl⟩
  obtain ⟨locs, hLe⟩ : ∃ locs : List Loc, locs = [] := ⟨_, rfl⟩
  have hS : va_S (zA N0) s.heap H locs := by rw [hHe, hLe]; exact hS
  have hH : HH N0 D cs h H := by rw [hHe]; exact hH
  suffices hg : W p l e (zrm 6 0 0) s m args below meth c H locs 0 0 (MQ below (zQ N0 D cs (some (.int r0)) h0) args s 0 0 (zA N0)) (F0 m 0 ls []) by rw [hHe, hLe] at hg; exact hg
  clear hHe hLe
  refine lv_iload_n M.x M.b d_M_alikeKept_0 rfl (lv_at hl 1 rfl) ?_
  refine lv_if_ge (tgt := 8) M.x M.b d_M_alikeKept_1 (by decide) (fun c8 => ?_) (fun c8 => ?_)
  · replace hf := z_t c8 hf
    refine lv_aload_n M.x M.b d_M_alikeKept_8 rfl (lv_at hl 0 rfl) ?_
    refine lv_iconst (v := (0 : Int32)) M.x M.b d_M_alikeKept_9 rfl ?_
    refine lv_iconst (v := (1 : Int32)) M.x M.b d_M_alikeKept_10 rfl ?_
    replace hf := z_bind2 hf; obtain ⟨i6, h7, e5, hf⟩ := hf
    refine zk_V (ci := 8) (st1 := [.int i6]) M hH hS (c_M_orderKept e5) rfl (o_M_orderKept e5) w_M_orderKept q_759 [] rfl ⟨Nat.le_of_ble_eq_true rfl, Nat.le_of_ble_eq_true rfl⟩ hl.1 rfl rfl (Nat.le_of_ble_eq_true rfl) d_M_alikeKept_11 (fun H locs hH hS => ?_)
    exact w_M_alikeKept_14 M this _ _ hf H locs ls hH hS (lv_sub hl [0] rfl)
  · replace hf := z_f c8 hf
    refine lv_iload_n M.x M.b d_M_alikeKept_4 rfl (lv_at hl 1 rfl) ?_
    refine lv_goto (tgt := 14) M.x M.b d_M_alikeKept_5 (by decide) ?_
    exact w_M_alikeKept_14 M this _ _ hf H locs ls hH hS (lv_sub hl [0] rfl)
def f_M_thirdLaw_73 (this : Nat) (s0 : Int32) (h : Hp) : Option ((Int32 × Hp)) :=
  zb2 (f_M_alikeKept this s0 h) fun i2 h3 =>
  some (i2, h3)
set_option maxRecDepth 100000 in
set_option maxHeartbeats 4000000 in
theorem w_M_thirdLaw_73 {p : Program} {l : Launch} {e : Env} {s : State} {m : MethodId} {args : Array Value} {below : List Frame} {meth : Method} {c : Code} {N0 : Nat} {D : va_G} {cs : Nat → ClassId} (M : ZC p s m args meth c "YearBasketsModel" "thirdLaw" b_M_thirdLaw 7 (some .int) N0 D cs) (this : Nat)  {r0 : Int32} {h0 : Hp}  (s0 : Int32) (h : Hp) (hf : f_M_thirdLaw_73 this s0 h = some (r0, h0)) : ZG p l e (zrm 9 0 0) s m args below meth c N0 D cs (some (.int r0)) h0 h 7 [(0, .ref this)] 73 [.int s0] := by
  intro H locs ls hH hS hl
  unfold f_M_thirdLaw_73 at hf
  refine lv_istore (lv' := [(6, .int s0), (0, .ref this)]) M.x M.b d_M_thirdLaw_73 hl (by decide) rfl (fun ls hl => ?_)
  refine lv_aload_n M.x M.b d_M_thirdLaw_75 rfl (lv_at hl 1 rfl) ?_
  refine lv_iload M.x M.b d_M_thirdLaw_76 (lv_at hl 0 rfl) ?_
  replace hf := z_bind2 hf; obtain ⟨i2, h3, e1, hf⟩ := hf
  refine zk_V (ci := 8) (st1 := [.int i2]) M hH hS (c_M_alikeKept e1) rfl (o_M_alikeKept e1) w_M_alikeKept q_791 [] rfl ⟨Nat.le_of_ble_eq_true rfl, Nat.le_of_ble_eq_true rfl⟩ hl.1 rfl rfl (Nat.le_of_ble_eq_true rfl) d_M_thirdLaw_78 (fun H locs hH hS => ?_)
  obtain ⟨rfl, rfl⟩ := z_r2 hf
  exact z_iret M hH hS d_M_thirdLaw_81
def f_M_thirdLaw_51 (this : Nat) (s0 : Int32) (x1 : Int32) (x2 : Int32) (x3 : Int32) (x5 : Int32) (h : Hp) : Option ((Int32 × Hp)) :=
  if 0 ≤ s0 then
    zb2 (f_M_findKept this x1 x2 x3 x5 (1 : Int32) h) fun i5 h6 =>
    f_M_thirdLaw_73 this i5 h6
  else
  f_M_thirdLaw_73 this s0 h
set_option maxRecDepth 100000 in
set_option maxHeartbeats 4000000 in
theorem w_M_thirdLaw_51 {p : Program} {l : Launch} {e : Env} {s : State} {m : MethodId} {args : Array Value} {below : List Frame} {meth : Method} {c : Code} {N0 : Nat} {D : va_G} {cs : Nat → ClassId} (M : ZC p s m args meth c "YearBasketsModel" "thirdLaw" b_M_thirdLaw 7 (some .int) N0 D cs) (this : Nat)  {r0 : Int32} {h0 : Hp}  (s0 : Int32) (x1 : Int32) (x2 : Int32) (x3 : Int32) (x5 : Int32) (h : Hp) (hf : f_M_thirdLaw_51 this s0 x1 x2 x3 x5 h = some (r0, h0)) : ZG p l e (zrm 9 0 0) s m args below meth c N0 D cs (some (.int r0)) h0 h 7 [(0, .ref this), (1, .int x1), (2, .int x2), (3, .int x3), (5, .int x5)] 51 [.int s0] := by
  intro H locs ls hH hS hl
  unfold f_M_thirdLaw_51 at hf
  refine lv_istore (lv' := [(6, .int s0), (0, .ref this), (1, .int x1), (2, .int x2), (3, .int x3), (5, .int x5)]) M.x M.b d_M_thirdLaw_51 hl (by decide) rfl (fun ls hl => ?_)
  refine lv_iload M.x M.b d_M_thirdLaw_53 (lv_at hl 0 rfl) ?_
  refine lv_if_ge (tgt := 63) M.x M.b d_M_thirdLaw_55 (by decide) (fun c7 => ?_) (fun c7 => ?_)
  · replace hf := z_t c7 hf
    refine lv_aload_n M.x M.b d_M_thirdLaw_63 rfl (lv_at hl 1 rfl) ?_
    refine lv_iload_n M.x M.b d_M_thirdLaw_64 rfl (lv_at hl 2 rfl) ?_
    refine lv_iload_n M.x M.b d_M_thirdLaw_65 rfl (lv_at hl 3 rfl) ?_
    refine lv_iload_n M.x M.b d_M_thirdLaw_66 rfl (lv_at hl 4 rfl) ?_
    refine lv_iload M.x M.b d_M_thirdLaw_67 (lv_at hl 5 rfl) ?_
    refine lv_iconst (v := (1 : Int32)) M.x M.b d_M_thirdLaw_69 rfl ?_
    replace hf := z_bind2 hf; obtain ⟨i5, h6, e4, hf⟩ := hf
    refine zk_V (ci := 8) (st1 := [.int i5]) M hH hS (c_M_findKept e4) rfl (o_M_findKept e4) w_M_findKept q_760 [] rfl ⟨Nat.le_of_ble_eq_true rfl, Nat.le_of_ble_eq_true rfl⟩ hl.1 rfl rfl (Nat.le_of_ble_eq_true rfl) d_M_thirdLaw_70 (fun H locs hH hS => ?_)
    exact w_M_thirdLaw_73 M this _ _ hf H locs ls hH hS (lv_sub hl [1] rfl)
  · replace hf := z_f c7 hf
    refine lv_iload M.x M.b d_M_thirdLaw_58 (lv_at hl 0 rfl) ?_
    refine lv_goto (tgt := 73) M.x M.b d_M_thirdLaw_60 (by decide) ?_
    exact w_M_thirdLaw_73 M this _ _ hf H locs ls hH hS (lv_sub hl [1] rfl)
def f_M_thirdLaw_33 (this : Nat) (s0 : Int32) (x1 : Int32) (x2 : Int32) (x3 : Int32) (x5 : Int32) (h : Hp) : Option ((Int32 × Hp)) :=
  if 0 ≤ s0 then
    zb2 (f_M_product this (0 : Int32) (1 : Int32) h) fun i9 h10 =>
    f_M_thirdLaw_51 this i9 x1 x2 x3 x5 h10
  else
  f_M_thirdLaw_51 this s0 x1 x2 x3 x5 h
set_option maxRecDepth 100000 in
set_option maxHeartbeats 4000000 in
theorem w_M_thirdLaw_33 {p : Program} {l : Launch} {e : Env} {s : State} {m : MethodId} {args : Array Value} {below : List Frame} {meth : Method} {c : Code} {N0 : Nat} {D : va_G} {cs : Nat → ClassId} (M : ZC p s m args meth c "YearBasketsModel" "thirdLaw" b_M_thirdLaw 7 (some .int) N0 D cs) (this : Nat)  {r0 : Int32} {h0 : Hp}  (s0 : Int32) (x1 : Int32) (x2 : Int32) (x3 : Int32) (x5 : Int32) (h : Hp) (hf : f_M_thirdLaw_33 this s0 x1 x2 x3 x5 h = some (r0, h0)) : ZG p l e (zrm 9 0 0) s m args below meth c N0 D cs (some (.int r0)) h0 h 7 [(0, .ref this), (1, .int x1), (2, .int x2), (3, .int x3), (5, .int x5)] 33 [.int s0] := by
  intro H locs ls hH hS hl
  unfold f_M_thirdLaw_33 at hf
  refine lv_istore (lv' := [(6, .int s0), (0, .ref this), (1, .int x1), (2, .int x2), (3, .int x3), (5, .int x5)]) M.x M.b d_M_thirdLaw_33 hl (by decide) rfl (fun ls hl => ?_)
  refine lv_iload M.x M.b d_M_thirdLaw_35 (lv_at hl 0 rfl) ?_
  refine lv_if_ge (tgt := 45) M.x M.b d_M_thirdLaw_37 (by decide) (fun c11 => ?_) (fun c11 => ?_)
  · replace hf := z_t c11 hf
    refine lv_aload_n M.x M.b d_M_thirdLaw_45 rfl (lv_at hl 1 rfl) ?_
    refine lv_iconst (v := (0 : Int32)) M.x M.b d_M_thirdLaw_46 rfl ?_
    refine lv_iconst (v := (1 : Int32)) M.x M.b d_M_thirdLaw_47 rfl ?_
    replace hf := z_bind2 hf; obtain ⟨i9, h10, e8, hf⟩ := hf
    refine zk_V (ci := 8) (st1 := [.int i9]) M hH hS (c_M_product e8) rfl (o_M_product e8) w_M_product q_784 [] rfl ⟨Nat.le_of_ble_eq_true rfl, Nat.le_of_ble_eq_true rfl⟩ hl.1 rfl rfl (Nat.le_of_ble_eq_true rfl) d_M_thirdLaw_48 (fun H locs hH hS => ?_)
    exact w_M_thirdLaw_51 M this _ _ _ _ _ _ hf H locs ls hH hS (lv_sub hl [1, 2, 3, 4, 5] rfl)
  · replace hf := z_f c11 hf
    refine lv_iload M.x M.b d_M_thirdLaw_40 (lv_at hl 0 rfl) ?_
    refine lv_goto (tgt := 51) M.x M.b d_M_thirdLaw_42 (by decide) ?_
    exact w_M_thirdLaw_51 M this _ _ _ _ _ _ hf H locs ls hH hS (lv_sub hl [1, 2, 3, 4, 5] rfl)
def f_M_thirdLaw (this : Nat) (x1 : Int32) (x2 : Int32) (x3 : Int32) (x4 : Int32) (x5 : Int32) (h : Hp) : Option ((Int32 × Hp)) :=
  if isO h this 8 = true then
  zb2 (f_M_findKept this x1 x2 x3 x4 (0 : Int32) h) fun i13 h14 =>
  if 0 ≤ i13 then
    zb2 (f_M_findKept this x1 x2 x4 x5 (1 : Int32) h14) fun i16 h17 =>
    f_M_thirdLaw_33 this i16 x1 x2 x3 x5 h17
  else
  f_M_thirdLaw_33 this i13 x1 x2 x3 x5 h14
  else none
theorem o_M_thirdLaw {this : Nat} {x1 : Int32} {x2 : Int32} {x3 : Int32} {x4 : Int32} {x5 : Int32} {h : Hp} {r0 : Int32} {h0 : Hp} (hf : f_M_thirdLaw this x1 x2 x3 x4 x5 h = some (r0, h0)) : isO h this 8 = true := by
  unfold f_M_thirdLaw at hf
  exact (z_gd hf).1
set_option maxRecDepth 100000 in
set_option maxHeartbeats 4000000 in
theorem c_M_thirdLaw {l : Launch} {N0 : Nat} {D : va_G} {cs : Nat → ClassId} {this : Nat} {x1 : Int32} {x2 : Int32} {x3 : Int32} {x4 : Int32} {x5 : Int32} {h : Hp} {r0 : Int32} {h0 : Hp} (hf : f_M_thirdLaw this x1 x2 x3 x4 x5 h = some (r0, h0)) : Fn l N0 D cs y_M_thirdLaw b_M_thirdLaw 7 (some .int) 9 0 0 [.ref this, .int x1, .int x2, .int x3, .int x4, .int x5] h (some (.int r0)) h0 := by
  refine z_start (by decide) (Nat.le_of_ble_eq_true rfl) ?_
  intro p e s m args below meth c M hH hS ls hl
  unfold f_M_thirdLaw at hf
  obtain ⟨hO, hf⟩ := z_gd hf
  have hl : lv_has ls 7 [(0, .ref this), (1, .int x1), (2, .int x2), (3, .int x3), (4, .int x4), (5, .int x5)] := hl
  obtain ⟨H, hHe⟩ : ∃ H, H = s.heap := ⟨_, rfl⟩
  obtain ⟨locs, hLe⟩ : ∃ locs : List Loc, locs = [] := ⟨_, rfl⟩
  have hS : va_S (zA N0) s.heap H locs := by rw [hHe, hLe]; exact hS
  have hH : HH N0 D cs h H := by rw [hHe]; exact hH
  suffices hg : W p l e (zrm 9 0 0) s m args below meth c H locs 0 0 (MQ below (zQ N0 D cs (some (.int r0)) h0) args s 0 0 (zA N0)) (F0 m 0 ls []) by rw [hHe, hLe] at hg; exact hg
  clear hHe hLe
  refine lv_aload_n M.x M.b d_M_thirdLaw_0 rfl (lv_at hl 0 rfl) ?_
  refine lv_iload_n M.x M.b d_M_thirdLaw_1 rfl (lv_at hl 1 rfl) ?_
  refine lv_iload_n M.x M.b d_M_thirdLaw_2 rfl (lv_at hl 2 rfl) ?_
  refine lv_iload_n M.x M.b d_M_thirdLaw_3 rfl (lv_at hl 3 rfl) ?_
  refine lv_iload M.x M.b d_M_thirdLaw_4 (lv_at hl 4 rfl) ?_
  refine lv_iconst (v := (0 : Int32)) M.x M.b d_M_thirdLaw_6 rfl ?_
  replace hf := z_bind2 hf; obtain ⟨i13, h14, e12, hf⟩ := hf
  refine zk_V (ci := 8) (st1 := [.int i13]) M hH hS (c_M_findKept e12) rfl (o_M_findKept e12) w_M_findKept q_760 [] rfl ⟨Nat.le_of_ble_eq_true rfl, Nat.le_of_ble_eq_true rfl⟩ hl.1 rfl rfl (Nat.le_of_ble_eq_true rfl) d_M_thirdLaw_7 (fun H locs hH hS => ?_)
  refine lv_istore (lv' := [(6, .int i13), (0, .ref this), (1, .int x1), (2, .int x2), (3, .int x3), (4, .int x4), (5, .int x5)]) M.x M.b d_M_thirdLaw_10 hl (by decide) rfl (fun ls hl => ?_)
  refine lv_iload M.x M.b d_M_thirdLaw_12 (lv_at hl 0 rfl) ?_
  refine lv_if_ge (tgt := 22) M.x M.b d_M_thirdLaw_14 (by decide) (fun c18 => ?_) (fun c18 => ?_)
  · replace hf := z_t c18 hf
    refine lv_aload_n M.x M.b d_M_thirdLaw_22 rfl (lv_at hl 1 rfl) ?_
    refine lv_iload_n M.x M.b d_M_thirdLaw_23 rfl (lv_at hl 2 rfl) ?_
    refine lv_iload_n M.x M.b d_M_thirdLaw_24 rfl (lv_at hl 3 rfl) ?_
    refine lv_iload M.x M.b d_M_thirdLaw_25 (lv_at hl 5 rfl) ?_
    refine lv_iload M.x M.b d_M_thirdLaw_27 (lv_at hl 6 rfl) ?_
    refine lv_iconst (v := (1 : Int32)) M.x M.b d_M_thirdLaw_29 rfl ?_
    replace hf := z_bind2 hf; obtain ⟨i16, h17, e15, hf⟩ := hf
    refine zk_V (ci := 8) (st1 := [.int i16]) M hH hS (c_M_findKept e15) rfl (o_M_findKept e15) w_M_findKept q_760 [] rfl ⟨Nat.le_of_ble_eq_true rfl, Nat.le_of_ble_eq_true rfl⟩ hl.1 rfl rfl (Nat.le_of_ble_eq_true rfl) d_M_thirdLaw_30 (fun H locs hH hS => ?_)
    exact w_M_thirdLaw_33 M this _ _ _ _ _ _ hf H locs ls hH hS (lv_sub hl [1, 2, 3, 4, 6] rfl)
  · replace hf := z_f c18 hf
    refine lv_iload M.x M.b d_M_thirdLaw_17 (lv_at hl 0 rfl) ?_
    refine lv_goto (tgt := 33) M.x M.b d_M_thirdLaw_19 (by decide) ?_
    exact w_M_thirdLaw_33 M this _ _ _ _ _ _ hf H locs ls hH hS (lv_sub hl [1, 2, 3, 4, 6] rfl)
def f_M_twiceLaw_124 (this : Nat) (s0 : Int32) (h : Hp) : Option ((Int32 × Hp)) :=
  (f_M_keep this (0 : Int32) h).bind fun h2 =>
  zb2 (f_M_alikeKept this s0 h2) fun i4 h5 =>
  some (i4, h5)
set_option maxRecDepth 100000 in
set_option maxHeartbeats 4000000 in
theorem w_M_twiceLaw_124 {p : Program} {l : Launch} {e : Env} {s : State} {m : MethodId} {args : Array Value} {below : List Frame} {meth : Method} {c : Code} {N0 : Nat} {D : va_G} {cs : Nat → ClassId} (M : ZC p s m args meth c "YearBasketsModel" "twiceLaw" b_M_twiceLaw 7 (some .int) N0 D cs) (this : Nat)  {r0 : Int32} {h0 : Hp}  (s0 : Int32) (h : Hp) (hf : f_M_twiceLaw_124 this s0 h = some (r0, h0)) : ZG p l e (zrm 9 0 0) s m args below meth c N0 D cs (some (.int r0)) h0 h 7 [(0, .ref this)] 124 [.int s0] := by
  intro H locs ls hH hS hl
  unfold f_M_twiceLaw_124 at hf
  refine lv_istore (lv' := [(5, .int s0), (0, .ref this)]) M.x M.b d_M_twiceLaw_124 hl (by decide) rfl (fun ls hl => ?_)
  refine lv_aload_n M.x M.b d_M_twiceLaw_126 rfl (lv_at hl 1 rfl) ?_
  refine lv_iconst (v := (0 : Int32)) M.x M.b d_M_twiceLaw_127 rfl ?_
  replace hf := z_bind hf; obtain ⟨h2, e1, hf⟩ := hf
  refine zk_V (ci := 8) (st1 := []) M hH hS (c_M_keep e1) rfl (o_M_keep e1) w_M_keep q_752 [] rfl ⟨Nat.le_of_ble_eq_true rfl, Nat.le_of_ble_eq_true rfl⟩ hl.1 rfl rfl (Nat.le_of_ble_eq_true rfl) d_M_twiceLaw_128 (fun H locs hH hS => ?_)
  refine lv_aload_n M.x M.b d_M_twiceLaw_131 rfl (lv_at hl 1 rfl) ?_
  refine lv_iload M.x M.b d_M_twiceLaw_132 (lv_at hl 0 rfl) ?_
  replace hf := z_bind2 hf; obtain ⟨i4, h5, e3, hf⟩ := hf
  refine zk_V (ci := 8) (st1 := [.int i4]) M hH hS (c_M_alikeKept e3) rfl (o_M_alikeKept e3) w_M_alikeKept q_791 [] rfl ⟨Nat.le_of_ble_eq_true rfl, Nat.le_of_ble_eq_true rfl⟩ hl.1 rfl rfl (Nat.le_of_ble_eq_true rfl) d_M_twiceLaw_134 (fun H locs hH hS => ?_)
  obtain ⟨rfl, rfl⟩ := z_r2 hf
  exact z_iret M hH hS d_M_twiceLaw_137
def f_M_twiceLaw_114 (this : Nat) (s1 : Int64) (s2 : Int64) (s3 : Int64) (h : Hp) : Option ((Int32 × Hp)) :=
  (gA h this 8 30).bind fun r6 =>
  (r6).bind fun a8 =>
  (aI h 2 a8 (0 : Int32)).bind fun i11 =>
  zb2 (f_M_multiply this s1 s2 s3 (1 : Int64) i11 h) fun i13 h14 =>
  f_M_twiceLaw_124 this i13 h14
set_option maxRecDepth 100000 in
set_option maxHeartbeats 4000000 in
theorem w_M_twiceLaw_114 {p : Program} {l : Launch} {e : Env} {s : State} {m : MethodId} {args : Array Value} {below : List Frame} {meth : Method} {c : Code} {N0 : Nat} {D : va_G} {cs : Nat → ClassId} (M : ZC p s m args meth c "YearBasketsModel" "twiceLaw" b_M_twiceLaw 7 (some .int) N0 D cs) (this : Nat)  {r0 : Int32} {h0 : Hp}  (s1 : Int64) (s2 : Int64) (s3 : Int64) (h : Hp) (hf : f_M_twiceLaw_114 this s1 s2 s3 h = some (r0, h0)) : ZG p l e (zrm 9 0 0) s m args below meth c N0 D cs (some (.int r0)) h0 h 7 [(0, .ref this)] 114 [.long s3, .long s2, .long s1, .ref this] := by
  intro H locs ls hH hS hl
  unfold f_M_twiceLaw_114 at hf
  refine lv_lconst (v := (1 : Int64)) M.x M.b d_M_twiceLaw_114 rfl ?_
  refine lv_aload_n M.x M.b d_M_twiceLaw_115 rfl (lv_at hl 0 rfl) ?_
  replace hf := z_bind hf; obtain ⟨r6, e7, hf⟩ := hf
  refine z_get (ci := 8) (k := 30) M hH rfl (by decide) zinM q_746 (gA_spec e7) d_M_twiceLaw_116 ?_
  refine lv_iconst (v := (0 : Int32)) M.x M.b d_M_twiceLaw_119 rfl ?_
  rcases r6 with _ | a8
  · exact absurd hf z_nb0
  replace hf := z_sb hf
  replace hf := z_bind hf; obtain ⟨i11, e10, hf⟩ := hf
  refine z_zald M hH e10 d_M_twiceLaw_120 ?_
  replace hf := z_bind2 hf; obtain ⟨i13, h14, e12, hf⟩ := hf
  refine zk_V (ci := 8) (st1 := [.int i13]) M hH hS (c_M_multiply e12) rfl (o_M_multiply e12) w_M_multiply q_682 [] rfl ⟨Nat.le_of_ble_eq_true rfl, Nat.le_of_ble_eq_true rfl⟩ hl.1 rfl rfl (Nat.le_of_ble_eq_true rfl) d_M_twiceLaw_121 (fun H locs hH hS => ?_)
  exact w_M_twiceLaw_124 M this _ _ hf H locs ls hH hS (lv_sub hl [0] rfl)
def f_M_twiceLaw_67 (this : Nat) (s0 : Int32) (h : Hp) : Option ((Int32 × Hp)) :=
  (f_M_putBooks this h).bind fun h16 =>
  if 0 ≤ s0 then
    (gA h16 this 8 28).bind fun r17 =>
    (r17).bind fun a19 =>
    (aL h16 a19 (0 : Int32)).bind fun l22 =>
    (gA h16 this 8 29).bind fun r23 =>
    (r23).bind fun a25 =>
    (aL h16 a25 (0 : Int32)).bind fun l28 =>
    (gA h16 this 8 30).bind fun r29 =>
    (r29).bind fun a31 =>
    (aI h16 2 a31 (0 : Int32)).bind fun i34 =>
    if i34 = 0 then
      f_M_twiceLaw_114 this l22 l28 (2 : Int64) h16
    else
    f_M_twiceLaw_114 this l22 l28 (4 : Int64) h16
  else
  f_M_twiceLaw_124 this s0 h16
set_option maxRecDepth 100000 in
set_option maxHeartbeats 4000000 in
theorem w_M_twiceLaw_67 {p : Program} {l : Launch} {e : Env} {s : State} {m : MethodId} {args : Array Value} {below : List Frame} {meth : Method} {c : Code} {N0 : Nat} {D : va_G} {cs : Nat → ClassId} (M : ZC p s m args meth c "YearBasketsModel" "twiceLaw" b_M_twiceLaw 7 (some .int) N0 D cs) (this : Nat)  {r0 : Int32} {h0 : Hp}  (s0 : Int32) (h : Hp) (hf : f_M_twiceLaw_67 this s0 h = some (r0, h0)) : ZG p l e (zrm 9 0 0) s m args below meth c N0 D cs (some (.int r0)) h0 h 7 [(0, .ref this)] 67 [.int s0] := by
  intro H locs ls hH hS hl
  unfold f_M_twiceLaw_67 at hf
  refine lv_istore (lv' := [(5, .int s0), (0, .ref this)]) M.x M.b d_M_twiceLaw_67 hl (by decide) rfl (fun ls hl => ?_)
  refine lv_aload_n M.x M.b d_M_twiceLaw_69 rfl (lv_at hl 1 rfl) ?_
  replace hf := z_bind hf; obtain ⟨h16, e15, hf⟩ := hf
  refine zk_V (ci := 8) (st1 := []) M hH hS (c_M_putBooks e15) rfl (o_M_putBooks e15) w_M_putBooks q_779 [] rfl ⟨Nat.le_of_ble_eq_true rfl, Nat.le_of_ble_eq_true rfl⟩ hl.1 rfl rfl (Nat.le_of_ble_eq_true rfl) d_M_twiceLaw_70 (fun H locs hH hS => ?_)
  refine lv_iload M.x M.b d_M_twiceLaw_73 (lv_at hl 0 rfl) ?_
  refine lv_if_ge (tgt := 83) M.x M.b d_M_twiceLaw_75 (by decide) (fun c36 => ?_) (fun c36 => ?_)
  · replace hf := z_t c36 hf
    refine lv_aload_n M.x M.b d_M_twiceLaw_83 rfl (lv_at hl 1 rfl) ?_
    refine lv_aload_n M.x M.b d_M_twiceLaw_84 rfl (lv_at hl 1 rfl) ?_
    replace hf := z_bind hf; obtain ⟨r17, e18, hf⟩ := hf
    refine z_get (ci := 8) (k := 28) M hH rfl (by decide) zinM q_748 (gA_spec e18) d_M_twiceLaw_85 ?_
    refine lv_iconst (v := (0 : Int32)) M.x M.b d_M_twiceLaw_88 rfl ?_
    rcases r17 with _ | a19
    · exact absurd hf z_nb0
    replace hf := z_sb hf
    replace hf := z_bind hf; obtain ⟨l22, e21, hf⟩ := hf
    refine z_lald M hH e21 d_M_twiceLaw_89 ?_
    refine lv_aload_n M.x M.b d_M_twiceLaw_90 rfl (lv_at hl 1 rfl) ?_
    replace hf := z_bind hf; obtain ⟨r23, e24, hf⟩ := hf
    refine z_get (ci := 8) (k := 29) M hH rfl (by decide) zinM q_747 (gA_spec e24) d_M_twiceLaw_91 ?_
    refine lv_iconst (v := (0 : Int32)) M.x M.b d_M_twiceLaw_94 rfl ?_
    rcases r23 with _ | a25
    · exact absurd hf z_nb0
    replace hf := z_sb hf
    replace hf := z_bind hf; obtain ⟨l28, e27, hf⟩ := hf
    refine z_lald M hH e27 d_M_twiceLaw_95 ?_
    refine lv_aload_n M.x M.b d_M_twiceLaw_96 rfl (lv_at hl 1 rfl) ?_
    replace hf := z_bind hf; obtain ⟨r29, e30, hf⟩ := hf
    refine z_get (ci := 8) (k := 30) M hH rfl (by decide) zinM q_746 (gA_spec e30) d_M_twiceLaw_97 ?_
    refine lv_iconst (v := (0 : Int32)) M.x M.b d_M_twiceLaw_100 rfl ?_
    rcases r29 with _ | a31
    · exact absurd hf z_nb0
    replace hf := z_sb hf
    replace hf := z_bind hf; obtain ⟨i34, e33, hf⟩ := hf
    refine z_zald M hH e33 d_M_twiceLaw_101 ?_
    refine lv_if_eq (tgt := 111) M.x M.b d_M_twiceLaw_102 (by decide) (fun c35 => ?_) (fun c35 => ?_)
    · replace hf := z_t c35 hf
      refine z_ldc2 (v := (2 : Int64)) M q_568 d_M_twiceLaw_111 ?_
      exact w_M_twiceLaw_114 M this _ _ _ _ hf H locs ls hH hS (lv_sub hl [1] rfl)
    · replace hf := z_f c35 hf
      refine z_ldc2 (v := (4 : Int64)) M q_554 d_M_twiceLaw_105 ?_
      refine lv_goto (tgt := 114) M.x M.b d_M_twiceLaw_108 (by decide) ?_
      exact w_M_twiceLaw_114 M this _ _ _ _ hf H locs ls hH hS (lv_sub hl [1] rfl)
  · replace hf := z_f c36 hf
    refine lv_iload M.x M.b d_M_twiceLaw_78 (lv_at hl 0 rfl) ?_
    refine lv_goto (tgt := 124) M.x M.b d_M_twiceLaw_80 (by decide) ?_
    exact w_M_twiceLaw_124 M this _ _ hf H locs ls hH hS (lv_sub hl [1] rfl)
def t_M_twiceLaw_19 (this : Nat) (k19 : Int32 → Int32 → Int32 → Int32 → Int32 → Int32 → Hp → Option ((Int32 × Hp))) (x1 : Int32) (x2 : Int32) (x3 : Int32) (x4 : Int32) (x5 : Int32) (x6 : Int32) (h : Hp) : Option ((Int32 × Hp)) :=
  if (5 : Int32) ≤ x6 then
    if 0 ≤ x5 then
      zb2 (f_M_findKept this x1 x2 x3 x4 (1 : Int32) h) fun i38 h39 =>
      f_M_twiceLaw_67 this i38 h39
    else
    f_M_twiceLaw_67 this x5 h
  else
  (gA h this 8 0).bind fun r41 =>
  (r41).bind fun a43 =>
  (aI h 0 a43 (((5 : Int32) * x4) + x6)).bind fun i46 =>
  (sI h a43 (((5 : Int32) * x4) + x6) (i46 * (2 : Int32))).bind fun h48 =>
  k19 x1 x2 x3 x4 x5 (x6 + (1 : Int32)) h48
set_option maxRecDepth 100000 in
set_option maxHeartbeats 4000000 in
theorem v_M_twiceLaw_19 {p : Program} {l : Launch} {e : Env} {s : State} {m : MethodId} {args : Array Value} {below : List Frame} {meth : Method} {c : Code} {N0 : Nat} {D : va_G} {cs : Nat → ClassId} (M : ZC p s m args meth c "YearBasketsModel" "twiceLaw" b_M_twiceLaw 7 (some .int) N0 D cs) (this : Nat) (k19 : Int32 → Int32 → Int32 → Int32 → Int32 → Int32 → Hp → Option ((Int32 × Hp))) {r0 : Int32} {h0 : Hp} (hk19 : ∀ (x1 : Int32) (x2 : Int32) (x3 : Int32) (x4 : Int32) (x5 : Int32) (x6 : Int32) (h : Hp), k19 x1 x2 x3 x4 x5 x6 h = some (r0, h0) → ZG p l e (zrm 9 0 0) s m args below meth c N0 D cs (some (.int r0)) h0 h 7 [(0, .ref this), (1, .int x1), (2, .int x2), (3, .int x3), (4, .int x4), (5, .int x5), (6, .int x6)] 19 []) (x1 : Int32) (x2 : Int32) (x3 : Int32) (x4 : Int32) (x5 : Int32) (x6 : Int32) (h : Hp) (hf : t_M_twiceLaw_19 this k19 x1 x2 x3 x4 x5 x6 h = some (r0, h0)) : ZG p l e (zrm 9 0 0) s m args below meth c N0 D cs (some (.int r0)) h0 h 7 [(0, .ref this), (1, .int x1), (2, .int x2), (3, .int x3), (4, .int x4), (5, .int x5), (6, .int x6)] 19 [] := by
  intro H locs ls hH hS hl
  unfold t_M_twiceLaw_19 at hf
  refine lv_iload M.x M.b d_M_twiceLaw_19 (lv_at hl 6 rfl) ?_
  refine lv_iconst (v := (5 : Int32)) M.x M.b d_M_twiceLaw_21 rfl ?_
  refine lv_icmp_ge (tgt := 47) M.x M.b d_M_twiceLaw_22 (by decide) (fun c49 => ?_) (fun c49 => ?_)
  · replace hf := z_t c49 hf
    refine lv_iload M.x M.b d_M_twiceLaw_47 (lv_at hl 5 rfl) ?_
    refine lv_if_ge (tgt := 57) M.x M.b d_M_twiceLaw_49 (by decide) (fun c40 => ?_) (fun c40 => ?_)
    · replace hf := z_t c40 hf
      refine lv_aload_n M.x M.b d_M_twiceLaw_57 rfl (lv_at hl 0 rfl) ?_
      refine lv_iload_n M.x M.b d_M_twiceLaw_58 rfl (lv_at hl 1 rfl) ?_
      refine lv_iload_n M.x M.b d_M_twiceLaw_59 rfl (lv_at hl 2 rfl) ?_
      refine lv_iload_n M.x M.b d_M_twiceLaw_60 rfl (lv_at hl 3 rfl) ?_
      refine lv_iload M.x M.b d_M_twiceLaw_61 (lv_at hl 4 rfl) ?_
      refine lv_iconst (v := (1 : Int32)) M.x M.b d_M_twiceLaw_63 rfl ?_
      replace hf := z_bind2 hf; obtain ⟨i38, h39, e37, hf⟩ := hf
      refine zk_V (ci := 8) (st1 := [.int i38]) M hH hS (c_M_findKept e37) rfl (o_M_findKept e37) w_M_findKept q_760 [] rfl ⟨Nat.le_of_ble_eq_true rfl, Nat.le_of_ble_eq_true rfl⟩ hl.1 rfl rfl (Nat.le_of_ble_eq_true rfl) d_M_twiceLaw_64 (fun H locs hH hS => ?_)
      exact w_M_twiceLaw_67 M this _ _ hf H locs ls hH hS (lv_sub hl [0] rfl)
    · replace hf := z_f c40 hf
      refine lv_iload M.x M.b d_M_twiceLaw_52 (lv_at hl 5 rfl) ?_
      refine lv_goto (tgt := 67) M.x M.b d_M_twiceLaw_54 (by decide) ?_
      exact w_M_twiceLaw_67 M this _ _ hf H locs ls hH hS (lv_sub hl [0] rfl)
  · replace hf := z_f c49 hf
    refine lv_aload_n M.x M.b d_M_twiceLaw_25 rfl (lv_at hl 0 rfl) ?_
    replace hf := z_bind hf; obtain ⟨r41, e42, hf⟩ := hf
    refine z_get (ci := 8) (k := 0) M hH rfl (by decide) zinM q_562 (gA_spec e42) d_M_twiceLaw_26 ?_
    refine lv_iconst (v := (5 : Int32)) M.x M.b d_M_twiceLaw_29 rfl ?_
    refine lv_iload M.x M.b d_M_twiceLaw_30 (lv_at hl 4 rfl) ?_
    refine lv_imul M.x M.b d_M_twiceLaw_32 ?_
    refine lv_iload M.x M.b d_M_twiceLaw_33 (lv_at hl 6 rfl) ?_
    refine lv_iadd M.x M.b d_M_twiceLaw_35 ?_
    rcases r41 with _ | a43
    · exact absurd hf z_nb0
    replace hf := z_sb hf
    refine lv_dup2_11 M.x M.b d_M_twiceLaw_36 rfl rfl ?_
    replace hf := z_bind hf; obtain ⟨i46, e45, hf⟩ := hf
    refine z_iald M hH e45 d_M_twiceLaw_37 ?_
    refine lv_iconst (v := (2 : Int32)) M.x M.b d_M_twiceLaw_38 rfl ?_
    refine lv_imul M.x M.b d_M_twiceLaw_39 ?_
    replace hf := z_bind hf; obtain ⟨h48, e47, hf⟩ := hf
    refine z_iast M hH hS e47 d_M_twiceLaw_40 (fun H locs hH hS => ?_)
    refine lv_iinc (v := (x6 + (1 : Int32))) (lv' := [(6, .int (x6 + (1 : Int32))), (0, .ref this), (1, .int x1), (2, .int x2), (3, .int x3), (4, .int x4), (5, .int x5)]) M.x M.b d_M_twiceLaw_41 hl (k := 6) rfl rfl (by decide) rfl (fun ls hl => ?_)
    refine lv_goto (tgt := 19) M.x M.b d_M_twiceLaw_44 (by decide) ?_
    exact hk19 _ _ _ _ _ _ _ hf H locs ls hH hS (lv_sub hl [1, 2, 3, 4, 5, 6, 0] rfl)
def f_M_twiceLaw_19 (this : Nat) : Nat → Int32 → Int32 → Int32 → Int32 → Int32 → Int32 → Hp → Option ((Int32 × Hp))
  | 0, _, _, _, _, _, _, _ => none
  | n + 1, x1, x2, x3, x4, x5, x6, h => t_M_twiceLaw_19 this (f_M_twiceLaw_19 this n) x1 x2 x3 x4 x5 x6 h
theorem w_M_twiceLaw_19 {p : Program} {l : Launch} {e : Env} {s : State} {m : MethodId} {args : Array Value} {below : List Frame} {meth : Method} {c : Code} {N0 : Nat} {D : va_G} {cs : Nat → ClassId} (M : ZC p s m args meth c "YearBasketsModel" "twiceLaw" b_M_twiceLaw 7 (some .int) N0 D cs) (this : Nat)  {r0 : Int32} {h0 : Hp}  : ∀ (n : Nat) (x1 : Int32) (x2 : Int32) (x3 : Int32) (x4 : Int32) (x5 : Int32) (x6 : Int32) (h : Hp), f_M_twiceLaw_19 this n x1 x2 x3 x4 x5 x6 h = some (r0, h0) → ZG p l e (zrm 9 0 0) s m args below meth c N0 D cs (some (.int r0)) h0 h 7 [(0, .ref this), (1, .int x1), (2, .int x2), (3, .int x3), (4, .int x4), (5, .int x5), (6, .int x6)] 19 [] := by
  intro n
  induction n with
  | zero => intro x1 x2 x3 x4 x5 x6 h hf; exact absurd (show none = some _ from hf) (fun q => by cases q)
  | succ n ih => intro x1 x2 x3 x4 x5 x6 h hf; exact v_M_twiceLaw_19 M this (f_M_twiceLaw_19 this n)  ih _ _ _ _ _ _ _ hf
def f_M_twiceLaw (this : Nat) (x1 : Int32) (x2 : Int32) (x3 : Int32) (x4 : Int32) (h : Hp) : Option ((Int32 × Hp)) :=
  if isO h this 8 = true then
  zb2 (f_M_findKept this x1 x2 x3 x4 (0 : Int32) h) fun i51 h52 =>
  (f_M_holdBooks this h52).bind fun h54 =>
  f_M_twiceLaw_19 this FU x1 x2 x3 x4 i51 (0 : Int32) h54
  else none
theorem o_M_twiceLaw {this : Nat} {x1 : Int32} {x2 : Int32} {x3 : Int32} {x4 : Int32} {h : Hp} {r0 : Int32} {h0 : Hp} (hf : f_M_twiceLaw this x1 x2 x3 x4 h = some (r0, h0)) : isO h this 8 = true := by
  unfold f_M_twiceLaw at hf
  exact (z_gd hf).1
set_option maxRecDepth 100000 in
set_option maxHeartbeats 4000000 in
theorem c_M_twiceLaw {l : Launch} {N0 : Nat} {D : va_G} {cs : Nat → ClassId} {this : Nat} {x1 : Int32} {x2 : Int32} {x3 : Int32} {x4 : Int32} {h : Hp} {r0 : Int32} {h0 : Hp} (hf : f_M_twiceLaw this x1 x2 x3 x4 h = some (r0, h0)) : Fn l N0 D cs y_M_twiceLaw b_M_twiceLaw 7 (some .int) 9 0 0 [.ref this, .int x1, .int x2, .int x3, .int x4] h (some (.int r0)) h0 := by
  refine z_start (by decide) (Nat.le_of_ble_eq_true rfl) ?_
  intro p e s m args below meth c M hH hS ls hl
  unfold f_M_twiceLaw at hf
  obtain ⟨hO, hf⟩ := z_gd hf
  have hl : lv_has ls 7 [(0, .ref this), (1, .int x1), (2, .int x2), (3, .int x3), (4, .int x4)] := hl
  obtain ⟨H, hHe⟩ : ∃ H, H = s.heap := ⟨_, rfl⟩
  obtain ⟨locs, hLe⟩ : ∃ locs : List Loc, locs = [] := ⟨_, rfl⟩
  have hS : va_S (zA N0) s.heap H locs := by rw [hHe, hLe]; exact hS
  have hH : HH N0 D cs h H := by rw [hHe]; exact hH
  suffices hg : W p l e (zrm 9 0 0) s m args below meth c H locs 0 0 (MQ below (zQ N0 D cs (some (.int r0)) h0) args s 0 0 (zA N0)) (F0 m 0 ls []) by rw [hHe, hLe] at hg; exact hg
  clear hHe hLe
  refine lv_aload_n M.x M.b d_M_twiceLaw_0 rfl (lv_at hl 0 rfl) ?_
  refine lv_iload_n M.x M.b d_M_twiceLaw_1 rfl (lv_at hl 1 rfl) ?_
  refine lv_iload_n M.x M.b d_M_twiceLaw_2 rfl (lv_at hl 2 rfl) ?_
  refine lv_iload_n M.x M.b d_M_twiceLaw_3 rfl (lv_at hl 3 rfl) ?_
  refine lv_iload M.x M.b d_M_twiceLaw_4 (lv_at hl 4 rfl) ?_
  refine lv_iconst (v := (0 : Int32)) M.x M.b d_M_twiceLaw_6 rfl ?_
  replace hf := z_bind2 hf; obtain ⟨i51, h52, e50, hf⟩ := hf
  refine zk_V (ci := 8) (st1 := [.int i51]) M hH hS (c_M_findKept e50) rfl (o_M_findKept e50) w_M_findKept q_760 [] rfl ⟨Nat.le_of_ble_eq_true rfl, Nat.le_of_ble_eq_true rfl⟩ hl.1 rfl rfl (Nat.le_of_ble_eq_true rfl) d_M_twiceLaw_7 (fun H locs hH hS => ?_)
  refine lv_istore (lv' := [(5, .int i51), (0, .ref this), (1, .int x1), (2, .int x2), (3, .int x3), (4, .int x4)]) M.x M.b d_M_twiceLaw_10 hl (by decide) rfl (fun ls hl => ?_)
  refine lv_aload_n M.x M.b d_M_twiceLaw_12 rfl (lv_at hl 1 rfl) ?_
  replace hf := z_bind hf; obtain ⟨h54, e53, hf⟩ := hf
  refine zk_V (ci := 8) (st1 := []) M hH hS (c_M_holdBooks e53) rfl (o_M_holdBooks e53) w_M_holdBooks q_780 [] rfl ⟨Nat.le_of_ble_eq_true rfl, Nat.le_of_ble_eq_true rfl⟩ hl.1 rfl rfl (Nat.le_of_ble_eq_true rfl) d_M_twiceLaw_13 (fun H locs hH hS => ?_)
  refine lv_iconst (v := (0 : Int32)) M.x M.b d_M_twiceLaw_16 rfl ?_
  refine lv_istore (lv' := [(6, .int (0 : Int32)), (5, .int i51), (0, .ref this), (1, .int x1), (2, .int x2), (3, .int x3), (4, .int x4)]) M.x M.b d_M_twiceLaw_17 hl (by decide) rfl (fun ls hl => ?_)
  exact w_M_twiceLaw_19 M this FU _ _ _ _ _ _ _ hf H locs ls hH hS (lv_sub hl [2, 3, 4, 5, 6, 1, 0] rfl)
def f_M_unitsLaw_109 (this : Nat) (s0 : Int32) (h : Hp) : Option ((Int32 × Hp)) :=
  (f_M_putBooks this h).bind fun h2 =>
  zb2 (f_M_alikeKept this s0 h2) fun i4 h5 =>
  some (i4, h5)
set_option maxRecDepth 100000 in
set_option maxHeartbeats 4000000 in
theorem w_M_unitsLaw_109 {p : Program} {l : Launch} {e : Env} {s : State} {m : MethodId} {args : Array Value} {below : List Frame} {meth : Method} {c : Code} {N0 : Nat} {D : va_G} {cs : Nat → ClassId} (M : ZC p s m args meth c "YearBasketsModel" "unitsLaw" b_M_unitsLaw 8 (some .int) N0 D cs) (this : Nat)  {r0 : Int32} {h0 : Hp}  (s0 : Int32) (h : Hp) (hf : f_M_unitsLaw_109 this s0 h = some (r0, h0)) : ZG p l e (zrm 9 0 0) s m args below meth c N0 D cs (some (.int r0)) h0 h 8 [(0, .ref this)] 109 [.int s0] := by
  intro H locs ls hH hS hl
  unfold f_M_unitsLaw_109 at hf
  refine lv_istore (lv' := [(6, .int s0), (0, .ref this)]) M.x M.b d_M_unitsLaw_109 hl (by decide) rfl (fun ls hl => ?_)
  refine lv_aload_n M.x M.b d_M_unitsLaw_111 rfl (lv_at hl 1 rfl) ?_
  replace hf := z_bind hf; obtain ⟨h2, e1, hf⟩ := hf
  refine zk_V (ci := 8) (st1 := []) M hH hS (c_M_putBooks e1) rfl (o_M_putBooks e1) w_M_putBooks q_779 [] rfl ⟨Nat.le_of_ble_eq_true rfl, Nat.le_of_ble_eq_true rfl⟩ hl.1 rfl rfl (Nat.le_of_ble_eq_true rfl) d_M_unitsLaw_112 (fun H locs hH hS => ?_)
  refine lv_aload_n M.x M.b d_M_unitsLaw_115 rfl (lv_at hl 1 rfl) ?_
  refine lv_iload M.x M.b d_M_unitsLaw_116 (lv_at hl 0 rfl) ?_
  replace hf := z_bind2 hf; obtain ⟨i4, h5, e3, hf⟩ := hf
  refine zk_V (ci := 8) (st1 := [.int i4]) M hH hS (c_M_alikeKept e3) rfl (o_M_alikeKept e3) w_M_alikeKept q_791 [] rfl ⟨Nat.le_of_ble_eq_true rfl, Nat.le_of_ble_eq_true rfl⟩ hl.1 rfl rfl (Nat.le_of_ble_eq_true rfl) d_M_unitsLaw_118 (fun H locs hH hS => ?_)
  obtain ⟨rfl, rfl⟩ := z_r2 hf
  exact z_iret M hH hS d_M_unitsLaw_121
def f_M_unitsLaw_81 (this : Nat) (k51 : Int32 → Int32 → Int32 → Int32 → Int32 → Int32 → Int32 → Hp → Option ((Int32 × Hp))) (s0 : Nat) (s1 : Int32) (s2 : Int32) (s3 : Int32) (x1 : Int32) (x2 : Int32) (x3 : Int32) (x4 : Int32) (x5 : Int32) (x6 : Int32) (x7 : Int32) (h : Hp) : Option ((Int32 × Hp)) :=
  (sI h s0 s1 (s2 * s3)).bind fun h7 =>
  k51 x1 x2 x3 x4 x5 x6 (x7 + (1 : Int32)) h7
set_option maxRecDepth 100000 in
set_option maxHeartbeats 4000000 in
theorem w_M_unitsLaw_81 {p : Program} {l : Launch} {e : Env} {s : State} {m : MethodId} {args : Array Value} {below : List Frame} {meth : Method} {c : Code} {N0 : Nat} {D : va_G} {cs : Nat → ClassId} (M : ZC p s m args meth c "YearBasketsModel" "unitsLaw" b_M_unitsLaw 8 (some .int) N0 D cs) (this : Nat) (k51 : Int32 → Int32 → Int32 → Int32 → Int32 → Int32 → Int32 → Hp → Option ((Int32 × Hp))) {r0 : Int32} {h0 : Hp} (hk51 : ∀ (x1 : Int32) (x2 : Int32) (x3 : Int32) (x4 : Int32) (x5 : Int32) (x6 : Int32) (x7 : Int32) (h : Hp), k51 x1 x2 x3 x4 x5 x6 x7 h = some (r0, h0) → ZG p l e (zrm 9 0 0) s m args below meth c N0 D cs (some (.int r0)) h0 h 8 [(0, .ref this), (1, .int x1), (2, .int x2), (3, .int x3), (4, .int x4), (5, .int x5), (6, .int x6), (7, .int x7)] 51 []) (s0 : Nat) (s1 : Int32) (s2 : Int32) (s3 : Int32) (x1 : Int32) (x2 : Int32) (x3 : Int32) (x4 : Int32) (x5 : Int32) (x6 : Int32) (x7 : Int32) (h : Hp) (hf : f_M_unitsLaw_81 this k51 s0 s1 s2 s3 x1 x2 x3 x4 x5 x6 x7 h = some (r0, h0)) : ZG p l e (zrm 9 0 0) s m args below meth c N0 D cs (some (.int r0)) h0 h 8 [(0, .ref this), (1, .int x1), (2, .int x2), (3, .int x3), (4, .int x4), (5, .int x5), (6, .int x6), (7, .int x7)] 81 [.int s3, .int s2, .int s1, .ref s0] := by
  intro H locs ls hH hS hl
  unfold f_M_unitsLaw_81 at hf
  refine lv_imul M.x M.b d_M_unitsLaw_81 ?_
  replace hf := z_bind hf; obtain ⟨h7, e6, hf⟩ := hf
  refine z_iast M hH hS e6 d_M_unitsLaw_82 (fun H locs hH hS => ?_)
  refine lv_iinc (v := (x7 + (1 : Int32))) (lv' := [(7, .int (x7 + (1 : Int32))), (0, .ref this), (1, .int x1), (2, .int x2), (3, .int x3), (4, .int x4), (5, .int x5), (6, .int x6)]) M.x M.b d_M_unitsLaw_83 hl (k := 7) rfl rfl (by decide) rfl (fun ls hl => ?_)
  refine lv_goto (tgt := 51) M.x M.b d_M_unitsLaw_86 (by decide) ?_
  exact hk51 _ _ _ _ _ _ _ _ hf H locs ls hH hS (lv_sub hl [1, 2, 3, 4, 5, 6, 7, 0] rfl)
def t_M_unitsLaw_51 (this : Nat) (k51 : Int32 → Int32 → Int32 → Int32 → Int32 → Int32 → Int32 → Hp → Option ((Int32 × Hp))) (x1 : Int32) (x2 : Int32) (x3 : Int32) (x4 : Int32) (x5 : Int32) (x6 : Int32) (x7 : Int32) (h : Hp) : Option ((Int32 × Hp)) :=
  if (150 : Int32) ≤ x7 then
    if 0 ≤ x6 then
      zb2 (f_M_findKept this x1 x2 x3 x4 (1 : Int32) h) fun i9 h10 =>
      f_M_unitsLaw_109 this i9 h10
    else
    f_M_unitsLaw_109 this x6 h
  else
  (gA h this 8 1).bind fun r12 =>
  (r12).bind fun a14 =>
  (aI h 0 a14 x7).bind fun i17 =>
  if (x7 - x7 / (5 : Int32) * (5 : Int32)) = x5 then
    f_M_unitsLaw_81 this k51 a14 x7 i17 (1 : Int32) x1 x2 x3 x4 x5 x6 x7 h
  else
  f_M_unitsLaw_81 this k51 a14 x7 i17 (2 : Int32) x1 x2 x3 x4 x5 x6 x7 h
set_option maxRecDepth 100000 in
set_option maxHeartbeats 4000000 in
theorem v_M_unitsLaw_51 {p : Program} {l : Launch} {e : Env} {s : State} {m : MethodId} {args : Array Value} {below : List Frame} {meth : Method} {c : Code} {N0 : Nat} {D : va_G} {cs : Nat → ClassId} (M : ZC p s m args meth c "YearBasketsModel" "unitsLaw" b_M_unitsLaw 8 (some .int) N0 D cs) (this : Nat) (k51 : Int32 → Int32 → Int32 → Int32 → Int32 → Int32 → Int32 → Hp → Option ((Int32 × Hp))) {r0 : Int32} {h0 : Hp} (hk51 : ∀ (x1 : Int32) (x2 : Int32) (x3 : Int32) (x4 : Int32) (x5 : Int32) (x6 : Int32) (x7 : Int32) (h : Hp), k51 x1 x2 x3 x4 x5 x6 x7 h = some (r0, h0) → ZG p l e (zrm 9 0 0) s m args below meth c N0 D cs (some (.int r0)) h0 h 8 [(0, .ref this), (1, .int x1), (2, .int x2), (3, .int x3), (4, .int x4), (5, .int x5), (6, .int x6), (7, .int x7)] 51 []) (x1 : Int32) (x2 : Int32) (x3 : Int32) (x4 : Int32) (x5 : Int32) (x6 : Int32) (x7 : Int32) (h : Hp) (hf : t_M_unitsLaw_51 this k51 x1 x2 x3 x4 x5 x6 x7 h = some (r0, h0)) : ZG p l e (zrm 9 0 0) s m args below meth c N0 D cs (some (.int r0)) h0 h 8 [(0, .ref this), (1, .int x1), (2, .int x2), (3, .int x3), (4, .int x4), (5, .int x5), (6, .int x6), (7, .int x7)] 51 [] := by
  intro H locs ls hH hS hl
  unfold t_M_unitsLaw_51 at hf
  refine lv_iload M.x M.b d_M_unitsLaw_51 (lv_at hl 7 rfl) ?_
  refine lv_sipush (v := (150 : Int32)) M.x M.b d_M_unitsLaw_53 rfl ?_
  refine lv_icmp_ge (tgt := 89) M.x M.b d_M_unitsLaw_56 (by decide) (fun c19 => ?_) (fun c19 => ?_)
  · replace hf := z_t c19 hf
    refine lv_iload M.x M.b d_M_unitsLaw_89 (lv_at hl 6 rfl) ?_
    refine lv_if_ge (tgt := 99) M.x M.b d_M_unitsLaw_91 (by decide) (fun c11 => ?_) (fun c11 => ?_)
    · replace hf := z_t c11 hf
      refine lv_aload_n M.x M.b d_M_unitsLaw_99 rfl (lv_at hl 0 rfl) ?_
      refine lv_iload_n M.x M.b d_M_unitsLaw_100 rfl (lv_at hl 1 rfl) ?_
      refine lv_iload_n M.x M.b d_M_unitsLaw_101 rfl (lv_at hl 2 rfl) ?_
      refine lv_iload_n M.x M.b d_M_unitsLaw_102 rfl (lv_at hl 3 rfl) ?_
      refine lv_iload M.x M.b d_M_unitsLaw_103 (lv_at hl 4 rfl) ?_
      refine lv_iconst (v := (1 : Int32)) M.x M.b d_M_unitsLaw_105 rfl ?_
      replace hf := z_bind2 hf; obtain ⟨i9, h10, e8, hf⟩ := hf
      refine zk_V (ci := 8) (st1 := [.int i9]) M hH hS (c_M_findKept e8) rfl (o_M_findKept e8) w_M_findKept q_760 [] rfl ⟨Nat.le_of_ble_eq_true rfl, Nat.le_of_ble_eq_true rfl⟩ hl.1 rfl rfl (Nat.le_of_ble_eq_true rfl) d_M_unitsLaw_106 (fun H locs hH hS => ?_)
      exact w_M_unitsLaw_109 M this _ _ hf H locs ls hH hS (lv_sub hl [0] rfl)
    · replace hf := z_f c11 hf
      refine lv_iload M.x M.b d_M_unitsLaw_94 (lv_at hl 6 rfl) ?_
      refine lv_goto (tgt := 109) M.x M.b d_M_unitsLaw_96 (by decide) ?_
      exact w_M_unitsLaw_109 M this _ _ hf H locs ls hH hS (lv_sub hl [0] rfl)
  · replace hf := z_f c19 hf
    refine lv_aload_n M.x M.b d_M_unitsLaw_59 rfl (lv_at hl 0 rfl) ?_
    replace hf := z_bind hf; obtain ⟨r12, e13, hf⟩ := hf
    refine z_get (ci := 8) (k := 1) M hH rfl (by decide) zinM q_570 (gA_spec e13) d_M_unitsLaw_60 ?_
    refine lv_iload M.x M.b d_M_unitsLaw_63 (lv_at hl 7 rfl) ?_
    rcases r12 with _ | a14
    · exact absurd hf z_nb0
    replace hf := z_sb hf
    refine lv_dup2_11 M.x M.b d_M_unitsLaw_65 rfl rfl ?_
    replace hf := z_bind hf; obtain ⟨i17, e16, hf⟩ := hf
    refine z_iald M hH e16 d_M_unitsLaw_66 ?_
    refine lv_iload M.x M.b d_M_unitsLaw_67 (lv_at hl 7 rfl) ?_
    refine lv_iconst (v := (5 : Int32)) M.x M.b d_M_unitsLaw_69 rfl ?_
    refine lv_irem M.x M.b d_M_unitsLaw_70 (by decide) ?_
    refine lv_iload M.x M.b d_M_unitsLaw_71 (lv_at hl 5 rfl) ?_
    refine lv_icmp_ne (tgt := 80) M.x M.b d_M_unitsLaw_73 (by decide) (fun c18 => ?_) (fun c18 => ?_)
    · replace hf := z_f c18 hf
      refine lv_iconst (v := (2 : Int32)) M.x M.b d_M_unitsLaw_80 rfl ?_
      exact w_M_unitsLaw_81 M this k51 hk51 _ _ _ _ _ _ _ _ _ _ _ _ hf H locs ls hH hS (lv_sub hl [0, 1, 2, 3, 4, 5, 6, 7] rfl)
    · replace hf := z_t c18 hf
      refine lv_iconst (v := (1 : Int32)) M.x M.b d_M_unitsLaw_76 rfl ?_
      refine lv_goto (tgt := 81) M.x M.b d_M_unitsLaw_77 (by decide) ?_
      exact w_M_unitsLaw_81 M this k51 hk51 _ _ _ _ _ _ _ _ _ _ _ _ hf H locs ls hH hS (lv_sub hl [0, 1, 2, 3, 4, 5, 6, 7] rfl)
def f_M_unitsLaw_51 (this : Nat) : Nat → Int32 → Int32 → Int32 → Int32 → Int32 → Int32 → Int32 → Hp → Option ((Int32 × Hp))
  | 0, _, _, _, _, _, _, _, _ => none
  | n + 1, x1, x2, x3, x4, x5, x6, x7, h => t_M_unitsLaw_51 this (f_M_unitsLaw_51 this n) x1 x2 x3 x4 x5 x6 x7 h
theorem w_M_unitsLaw_51 {p : Program} {l : Launch} {e : Env} {s : State} {m : MethodId} {args : Array Value} {below : List Frame} {meth : Method} {c : Code} {N0 : Nat} {D : va_G} {cs : Nat → ClassId} (M : ZC p s m args meth c "YearBasketsModel" "unitsLaw" b_M_unitsLaw 8 (some .int) N0 D cs) (this : Nat)  {r0 : Int32} {h0 : Hp}  : ∀ (n : Nat) (x1 : Int32) (x2 : Int32) (x3 : Int32) (x4 : Int32) (x5 : Int32) (x6 : Int32) (x7 : Int32) (h : Hp), f_M_unitsLaw_51 this n x1 x2 x3 x4 x5 x6 x7 h = some (r0, h0) → ZG p l e (zrm 9 0 0) s m args below meth c N0 D cs (some (.int r0)) h0 h 8 [(0, .ref this), (1, .int x1), (2, .int x2), (3, .int x3), (4, .int x4), (5, .int x5), (6, .int x6), (7, .int x7)] 51 [] := by
  intro n
  induction n with
  | zero => intro x1 x2 x3 x4 x5 x6 x7 h hf; exact absurd (show none = some _ from hf) (fun q => by cases q)
  | succ n ih => intro x1 x2 x3 x4 x5 x6 x7 h hf; exact v_M_unitsLaw_51 M this (f_M_unitsLaw_51 this n)  ih _ _ _ _ _ _ _ _ hf
def t_M_unitsLaw_19 (this : Nat) (k19 : Int32 → Int32 → Int32 → Int32 → Int32 → Int32 → Int32 → Hp → Option ((Int32 × Hp))) (x1 : Int32) (x2 : Int32) (x3 : Int32) (x4 : Int32) (x5 : Int32) (x6 : Int32) (x7 : Int32) (h : Hp) : Option ((Int32 × Hp)) :=
  if (8 : Int32) ≤ x7 then
    f_M_unitsLaw_51 this FU x1 x2 x3 x4 x5 x6 (0 : Int32) h
  else
  (gA h this 8 0).bind fun r20 =>
  (r20).bind fun a22 =>
  (aI h 0 a22 (((5 : Int32) * x7) + x5)).bind fun i25 =>
  (sI h a22 (((5 : Int32) * x7) + x5) (i25 * (2 : Int32))).bind fun h27 =>
  k19 x1 x2 x3 x4 x5 x6 (x7 + (1 : Int32)) h27
set_option maxRecDepth 100000 in
set_option maxHeartbeats 4000000 in
theorem v_M_unitsLaw_19 {p : Program} {l : Launch} {e : Env} {s : State} {m : MethodId} {args : Array Value} {below : List Frame} {meth : Method} {c : Code} {N0 : Nat} {D : va_G} {cs : Nat → ClassId} (M : ZC p s m args meth c "YearBasketsModel" "unitsLaw" b_M_unitsLaw 8 (some .int) N0 D cs) (this : Nat) (k19 : Int32 → Int32 → Int32 → Int32 → Int32 → Int32 → Int32 → Hp → Option ((Int32 × Hp))) {r0 : Int32} {h0 : Hp} (hk19 : ∀ (x1 : Int32) (x2 : Int32) (x3 : Int32) (x4 : Int32) (x5 : Int32) (x6 : Int32) (x7 : Int32) (h : Hp), k19 x1 x2 x3 x4 x5 x6 x7 h = some (r0, h0) → ZG p l e (zrm 9 0 0) s m args below meth c N0 D cs (some (.int r0)) h0 h 8 [(0, .ref this), (1, .int x1), (2, .int x2), (3, .int x3), (4, .int x4), (5, .int x5), (6, .int x6), (7, .int x7)] 19 []) (x1 : Int32) (x2 : Int32) (x3 : Int32) (x4 : Int32) (x5 : Int32) (x6 : Int32) (x7 : Int32) (h : Hp) (hf : t_M_unitsLaw_19 this k19 x1 x2 x3 x4 x5 x6 x7 h = some (r0, h0)) : ZG p l e (zrm 9 0 0) s m args below meth c N0 D cs (some (.int r0)) h0 h 8 [(0, .ref this), (1, .int x1), (2, .int x2), (3, .int x3), (4, .int x4), (5, .int x5), (6, .int x6), (7, .int x7)] 19 [] := by
  intro H locs ls hH hS hl
  unfold t_M_unitsLaw_19 at hf
  refine lv_iload M.x M.b d_M_unitsLaw_19 (lv_at hl 7 rfl) ?_
  refine lv_bipush (v := (8 : Int32)) M.x M.b d_M_unitsLaw_21 rfl ?_
  refine lv_icmp_ge (tgt := 48) M.x M.b d_M_unitsLaw_23 (by decide) (fun c28 => ?_) (fun c28 => ?_)
  · replace hf := z_t c28 hf
    refine lv_iconst (v := (0 : Int32)) M.x M.b d_M_unitsLaw_48 rfl ?_
    refine lv_istore (lv' := [(7, .int (0 : Int32)), (0, .ref this), (1, .int x1), (2, .int x2), (3, .int x3), (4, .int x4), (5, .int x5), (6, .int x6)]) M.x M.b d_M_unitsLaw_49 hl (by decide) rfl (fun ls hl => ?_)
    exact w_M_unitsLaw_51 M this FU _ _ _ _ _ _ _ _ hf H locs ls hH hS (lv_sub hl [1, 2, 3, 4, 5, 6, 7, 0] rfl)
  · replace hf := z_f c28 hf
    refine lv_aload_n M.x M.b d_M_unitsLaw_26 rfl (lv_at hl 0 rfl) ?_
    replace hf := z_bind hf; obtain ⟨r20, e21, hf⟩ := hf
    refine z_get (ci := 8) (k := 0) M hH rfl (by decide) zinM q_562 (gA_spec e21) d_M_unitsLaw_27 ?_
    refine lv_iconst (v := (5 : Int32)) M.x M.b d_M_unitsLaw_30 rfl ?_
    refine lv_iload M.x M.b d_M_unitsLaw_31 (lv_at hl 7 rfl) ?_
    refine lv_imul M.x M.b d_M_unitsLaw_33 ?_
    refine lv_iload M.x M.b d_M_unitsLaw_34 (lv_at hl 5 rfl) ?_
    refine lv_iadd M.x M.b d_M_unitsLaw_36 ?_
    rcases r20 with _ | a22
    · exact absurd hf z_nb0
    replace hf := z_sb hf
    refine lv_dup2_11 M.x M.b d_M_unitsLaw_37 rfl rfl ?_
    replace hf := z_bind hf; obtain ⟨i25, e24, hf⟩ := hf
    refine z_iald M hH e24 d_M_unitsLaw_38 ?_
    refine lv_iconst (v := (2 : Int32)) M.x M.b d_M_unitsLaw_39 rfl ?_
    refine lv_imul M.x M.b d_M_unitsLaw_40 ?_
    replace hf := z_bind hf; obtain ⟨h27, e26, hf⟩ := hf
    refine z_iast M hH hS e26 d_M_unitsLaw_41 (fun H locs hH hS => ?_)
    refine lv_iinc (v := (x7 + (1 : Int32))) (lv' := [(7, .int (x7 + (1 : Int32))), (0, .ref this), (1, .int x1), (2, .int x2), (3, .int x3), (4, .int x4), (5, .int x5), (6, .int x6)]) M.x M.b d_M_unitsLaw_42 hl (k := 7) rfl rfl (by decide) rfl (fun ls hl => ?_)
    refine lv_goto (tgt := 19) M.x M.b d_M_unitsLaw_45 (by decide) ?_
    exact hk19 _ _ _ _ _ _ _ _ hf H locs ls hH hS (lv_sub hl [1, 2, 3, 4, 5, 6, 7, 0] rfl)
def f_M_unitsLaw_19 (this : Nat) : Nat → Int32 → Int32 → Int32 → Int32 → Int32 → Int32 → Int32 → Hp → Option ((Int32 × Hp))
  | 0, _, _, _, _, _, _, _, _ => none
  | n + 1, x1, x2, x3, x4, x5, x6, x7, h => t_M_unitsLaw_19 this (f_M_unitsLaw_19 this n) x1 x2 x3 x4 x5 x6 x7 h
theorem w_M_unitsLaw_19 {p : Program} {l : Launch} {e : Env} {s : State} {m : MethodId} {args : Array Value} {below : List Frame} {meth : Method} {c : Code} {N0 : Nat} {D : va_G} {cs : Nat → ClassId} (M : ZC p s m args meth c "YearBasketsModel" "unitsLaw" b_M_unitsLaw 8 (some .int) N0 D cs) (this : Nat)  {r0 : Int32} {h0 : Hp}  : ∀ (n : Nat) (x1 : Int32) (x2 : Int32) (x3 : Int32) (x4 : Int32) (x5 : Int32) (x6 : Int32) (x7 : Int32) (h : Hp), f_M_unitsLaw_19 this n x1 x2 x3 x4 x5 x6 x7 h = some (r0, h0) → ZG p l e (zrm 9 0 0) s m args below meth c N0 D cs (some (.int r0)) h0 h 8 [(0, .ref this), (1, .int x1), (2, .int x2), (3, .int x3), (4, .int x4), (5, .int x5), (6, .int x6), (7, .int x7)] 19 [] := by
  intro n
  induction n with
  | zero => intro x1 x2 x3 x4 x5 x6 x7 h hf; exact absurd (show none = some _ from hf) (fun q => by cases q)
  | succ n ih => intro x1 x2 x3 x4 x5 x6 x7 h hf; exact v_M_unitsLaw_19 M this (f_M_unitsLaw_19 this n)  ih _ _ _ _ _ _ _ _ hf
def f_M_unitsLaw (this : Nat) (x1 : Int32) (x2 : Int32) (x3 : Int32) (x4 : Int32) (x5 : Int32) (h : Hp) : Option ((Int32 × Hp)) :=
  if isO h this 8 = true then
  zb2 (f_M_findKept this x1 x2 x3 x4 (0 : Int32) h) fun i30 h31 =>
  (f_M_holdBooks this h31).bind fun h33 =>
  f_M_unitsLaw_19 this FU x1 x2 x3 x4 x5 i30 (0 : Int32) h33
  else none
theorem o_M_unitsLaw {this : Nat} {x1 : Int32} {x2 : Int32} {x3 : Int32} {x4 : Int32} {x5 : Int32} {h : Hp} {r0 : Int32} {h0 : Hp} (hf : f_M_unitsLaw this x1 x2 x3 x4 x5 h = some (r0, h0)) : isO h this 8 = true := by
  unfold f_M_unitsLaw at hf
  exact (z_gd hf).1
set_option maxRecDepth 100000 in
set_option maxHeartbeats 4000000 in
theorem c_M_unitsLaw {l : Launch} {N0 : Nat} {D : va_G} {cs : Nat → ClassId} {this : Nat} {x1 : Int32} {x2 : Int32} {x3 : Int32} {x4 : Int32} {x5 : Int32} {h : Hp} {r0 : Int32} {h0 : Hp} (hf : f_M_unitsLaw this x1 x2 x3 x4 x5 h = some (r0, h0)) : Fn l N0 D cs y_M_unitsLaw b_M_unitsLaw 8 (some .int) 9 0 0 [.ref this, .int x1, .int x2, .int x3, .int x4, .int x5] h (some (.int r0)) h0 := by
  refine z_start (by decide) (Nat.le_of_ble_eq_true rfl) ?_
  intro p e s m args below meth c M hH hS ls hl
  unfold f_M_unitsLaw at hf
  obtain ⟨hO, hf⟩ := z_gd hf
  have hl : lv_has ls 8 [(0, .ref this), (1, .int x1), (2, .int x2), (3, .int x3), (4, .int x4), (5, .int x5)] := hl
  obtain ⟨H, hHe⟩ : ∃ H, H = s.heap := ⟨_, rfl⟩
  obtain ⟨locs, hLe⟩ : ∃ locs : List Loc, locs = [] := ⟨_, rfl⟩
  have hS : va_S (zA N0) s.heap H locs := by rw [hHe, hLe]; exact hS
  have hH : HH N0 D cs h H := by rw [hHe]; exact hH
  suffices hg : W p l e (zrm 9 0 0) s m args below meth c H locs 0 0 (MQ below (zQ N0 D cs (some (.int r0)) h0) args s 0 0 (zA N0)) (F0 m 0 ls []) by rw [hHe, hLe] at hg; exact hg
  clear hHe hLe
  refine lv_aload_n M.x M.b d_M_unitsLaw_0 rfl (lv_at hl 0 rfl) ?_
  refine lv_iload_n M.x M.b d_M_unitsLaw_1 rfl (lv_at hl 1 rfl) ?_
  refine lv_iload_n M.x M.b d_M_unitsLaw_2 rfl (lv_at hl 2 rfl) ?_
  refine lv_iload_n M.x M.b d_M_unitsLaw_3 rfl (lv_at hl 3 rfl) ?_
  refine lv_iload M.x M.b d_M_unitsLaw_4 (lv_at hl 4 rfl) ?_
  refine lv_iconst (v := (0 : Int32)) M.x M.b d_M_unitsLaw_6 rfl ?_
  replace hf := z_bind2 hf; obtain ⟨i30, h31, e29, hf⟩ := hf
  refine zk_V (ci := 8) (st1 := [.int i30]) M hH hS (c_M_findKept e29) rfl (o_M_findKept e29) w_M_findKept q_760 [] rfl ⟨Nat.le_of_ble_eq_true rfl, Nat.le_of_ble_eq_true rfl⟩ hl.1 rfl rfl (Nat.le_of_ble_eq_true rfl) d_M_unitsLaw_7 (fun H locs hH hS => ?_)
  refine lv_istore (lv' := [(6, .int i30), (0, .ref this), (1, .int x1), (2, .int x2), (3, .int x3), (4, .int x4), (5, .int x5)]) M.x M.b d_M_unitsLaw_10 hl (by decide) rfl (fun ls hl => ?_)
  refine lv_aload_n M.x M.b d_M_unitsLaw_12 rfl (lv_at hl 1 rfl) ?_
  replace hf := z_bind hf; obtain ⟨h33, e32, hf⟩ := hf
  refine zk_V (ci := 8) (st1 := []) M hH hS (c_M_holdBooks e32) rfl (o_M_holdBooks e32) w_M_holdBooks q_780 [] rfl ⟨Nat.le_of_ble_eq_true rfl, Nat.le_of_ble_eq_true rfl⟩ hl.1 rfl rfl (Nat.le_of_ble_eq_true rfl) d_M_unitsLaw_13 (fun H locs hH hS => ?_)
  refine lv_iconst (v := (0 : Int32)) M.x M.b d_M_unitsLaw_16 rfl ?_
  refine lv_istore (lv' := [(7, .int (0 : Int32)), (6, .int i30), (0, .ref this), (1, .int x1), (2, .int x2), (3, .int x3), (4, .int x4), (5, .int x5)]) M.x M.b d_M_unitsLaw_17 hl (by decide) rfl (fun ls hl => ?_)
  exact w_M_unitsLaw_19 M this FU _ _ _ _ _ _ _ _ hf H locs ls hH hS (lv_sub hl [2, 3, 4, 5, 6, 7, 1, 0] rfl)
def f_M_upLaw_101 (this : Nat) (s0 : Int32) (h : Hp) : Option ((Int32 × Hp)) :=
  if 0 ≤ s0 then
    (gI h this 8 17).bind fun i1 =>
    if 0 < i1 then
      some ((0 : Int32), h)
    else
    some ((1 : Int32), h)
  else
  some (s0, h)
set_option maxRecDepth 100000 in
set_option maxHeartbeats 4000000 in
theorem w_M_upLaw_101 {p : Program} {l : Launch} {e : Env} {s : State} {m : MethodId} {args : Array Value} {below : List Frame} {meth : Method} {c : Code} {N0 : Nat} {D : va_G} {cs : Nat → ClassId} (M : ZC p s m args meth c "YearBasketsModel" "upLaw" b_M_upLaw 7 (some .int) N0 D cs) (this : Nat)  {r0 : Int32} {h0 : Hp}  (s0 : Int32) (h : Hp) (hf : f_M_upLaw_101 this s0 h = some (r0, h0)) : ZG p l e (zrm 9 0 0) s m args below meth c N0 D cs (some (.int r0)) h0 h 7 [(0, .ref this)] 101 [.int s0] := by
  intro H locs ls hH hS hl
  unfold f_M_upLaw_101 at hf
  refine lv_istore (lv' := [(6, .int s0), (0, .ref this)]) M.x M.b d_M_upLaw_101 hl (by decide) rfl (fun ls hl => ?_)
  refine lv_iload M.x M.b d_M_upLaw_103 (lv_at hl 0 rfl) ?_
  refine lv_if_ge (tgt := 113) M.x M.b d_M_upLaw_105 (by decide) (fun c4 => ?_) (fun c4 => ?_)
  · replace hf := z_t c4 hf
    refine lv_aload_n M.x M.b d_M_upLaw_113 rfl (lv_at hl 1 rfl) ?_
    replace hf := z_bind hf; obtain ⟨i1, e2, hf⟩ := hf
    refine z_get (ci := 8) (k := 17) M hH rfl (by decide) zinM q_680 (gI_spec e2) d_M_upLaw_114 ?_
    refine lv_if_gt (tgt := 124) M.x M.b d_M_upLaw_117 (by decide) (fun c3 => ?_) (fun c3 => ?_)
    · replace hf := z_t c3 hf
      refine lv_iconst (v := (0 : Int32)) M.x M.b d_M_upLaw_124 rfl ?_
      obtain ⟨rfl, rfl⟩ := z_r2 hf
      exact z_iret M hH hS d_M_upLaw_125
    · replace hf := z_f c3 hf
      refine lv_iconst (v := (1 : Int32)) M.x M.b d_M_upLaw_120 rfl ?_
      refine lv_goto (tgt := 125) M.x M.b d_M_upLaw_121 (by decide) ?_
      obtain ⟨rfl, rfl⟩ := z_r2 hf
      exact z_iret M hH hS d_M_upLaw_125
  · replace hf := z_f c4 hf
    refine lv_iload M.x M.b d_M_upLaw_108 (lv_at hl 0 rfl) ?_
    refine lv_goto (tgt := 125) M.x M.b d_M_upLaw_110 (by decide) ?_
    obtain ⟨rfl, rfl⟩ := z_r2 hf
    exact z_iret M hH hS d_M_upLaw_125
def f_M_upLaw_67 (this : Nat) (s0 : Int32) (x4 : Int32) (x5 : Int32) (h : Hp) : Option ((Int32 × Hp)) :=
  (gA h this 8 0).bind fun r5 =>
  (r5).bind fun a7 =>
  (aI h 0 a7 (((5 : Int32) * x4) + x5)).bind fun i10 =>
  (sI h a7 (((5 : Int32) * x4) + x5) (i10 - (1 : Int32))).bind fun h12 =>
  if 0 ≤ s0 then
    zb2 (f_M_orderKept this (0 : Int32) (1 : Int32) h12) fun i14 h15 =>
    f_M_upLaw_101 this i14 h15
  else
  f_M_upLaw_101 this s0 h12
set_option maxRecDepth 100000 in
set_option maxHeartbeats 4000000 in
theorem w_M_upLaw_67 {p : Program} {l : Launch} {e : Env} {s : State} {m : MethodId} {args : Array Value} {below : List Frame} {meth : Method} {c : Code} {N0 : Nat} {D : va_G} {cs : Nat → ClassId} (M : ZC p s m args meth c "YearBasketsModel" "upLaw" b_M_upLaw 7 (some .int) N0 D cs) (this : Nat)  {r0 : Int32} {h0 : Hp}  (s0 : Int32) (x4 : Int32) (x5 : Int32) (h : Hp) (hf : f_M_upLaw_67 this s0 x4 x5 h = some (r0, h0)) : ZG p l e (zrm 9 0 0) s m args below meth c N0 D cs (some (.int r0)) h0 h 7 [(0, .ref this), (4, .int x4), (5, .int x5)] 67 [.int s0] := by
  intro H locs ls hH hS hl
  unfold f_M_upLaw_67 at hf
  refine lv_istore (lv' := [(6, .int s0), (0, .ref this), (4, .int x4), (5, .int x5)]) M.x M.b d_M_upLaw_67 hl (by decide) rfl (fun ls hl => ?_)
  refine lv_aload_n M.x M.b d_M_upLaw_69 rfl (lv_at hl 1 rfl) ?_
  replace hf := z_bind hf; obtain ⟨r5, e6, hf⟩ := hf
  refine z_get (ci := 8) (k := 0) M hH rfl (by decide) zinM q_562 (gA_spec e6) d_M_upLaw_70 ?_
  refine lv_iconst (v := (5 : Int32)) M.x M.b d_M_upLaw_73 rfl ?_
  refine lv_iload M.x M.b d_M_upLaw_74 (lv_at hl 2 rfl) ?_
  refine lv_imul M.x M.b d_M_upLaw_76 ?_
  refine lv_iload M.x M.b d_M_upLaw_77 (lv_at hl 3 rfl) ?_
  refine lv_iadd M.x M.b d_M_upLaw_79 ?_
  rcases r5 with _ | a7
  · exact absurd hf z_nb0
  replace hf := z_sb hf
  refine lv_dup2_11 M.x M.b d_M_upLaw_80 rfl rfl ?_
  replace hf := z_bind hf; obtain ⟨i10, e9, hf⟩ := hf
  refine z_iald M hH e9 d_M_upLaw_81 ?_
  refine lv_iconst (v := (1 : Int32)) M.x M.b d_M_upLaw_82 rfl ?_
  refine lv_isub M.x M.b d_M_upLaw_83 ?_
  replace hf := z_bind hf; obtain ⟨h12, e11, hf⟩ := hf
  refine z_iast M hH hS e11 d_M_upLaw_84 (fun H locs hH hS => ?_)
  refine lv_iload M.x M.b d_M_upLaw_85 (lv_at hl 0 rfl) ?_
  refine lv_if_ge (tgt := 95) M.x M.b d_M_upLaw_87 (by decide) (fun c16 => ?_) (fun c16 => ?_)
  · replace hf := z_t c16 hf
    refine lv_aload_n M.x M.b d_M_upLaw_95 rfl (lv_at hl 1 rfl) ?_
    refine lv_iconst (v := (0 : Int32)) M.x M.b d_M_upLaw_96 rfl ?_
    refine lv_iconst (v := (1 : Int32)) M.x M.b d_M_upLaw_97 rfl ?_
    replace hf := z_bind2 hf; obtain ⟨i14, h15, e13, hf⟩ := hf
    refine zk_V (ci := 8) (st1 := [.int i14]) M hH hS (c_M_orderKept e13) rfl (o_M_orderKept e13) w_M_orderKept q_759 [] rfl ⟨Nat.le_of_ble_eq_true rfl, Nat.le_of_ble_eq_true rfl⟩ hl.1 rfl rfl (Nat.le_of_ble_eq_true rfl) d_M_upLaw_98 (fun H locs hH hS => ?_)
    exact w_M_upLaw_101 M this _ _ hf H locs ls hH hS (lv_sub hl [1] rfl)
  · replace hf := z_f c16 hf
    refine lv_iload M.x M.b d_M_upLaw_90 (lv_at hl 0 rfl) ?_
    refine lv_goto (tgt := 101) M.x M.b d_M_upLaw_92 (by decide) ?_
    exact w_M_upLaw_101 M this _ _ hf H locs ls hH hS (lv_sub hl [1] rfl)
def f_M_upLaw (this : Nat) (x1 : Int32) (x2 : Int32) (x3 : Int32) (x4 : Int32) (x5 : Int32) (h : Hp) : Option ((Int32 × Hp)) :=
  if isO h this 8 = true then
  (gA h this 8 0).bind fun r17 =>
  (r17).bind fun a19 =>
  (aI h 0 a19 (((5 : Int32) * x4) + x5)).bind fun i22 =>
  if i22 = 0 then
    some ((-1003 : Int32), h)
  else
  zb2 (f_M_findKept this x1 x2 x3 x4 (0 : Int32) h) fun i24 h25 =>
  (gA h25 this 8 0).bind fun r26 =>
  (r26).bind fun a28 =>
  (aI h25 0 a28 (((5 : Int32) * x4) + x5)).bind fun i31 =>
  (sI h25 a28 (((5 : Int32) * x4) + x5) (i31 + (1 : Int32))).bind fun h33 =>
  if 0 ≤ i24 then
    zb2 (f_M_findKept this x1 x2 x3 x4 (1 : Int32) h33) fun i35 h36 =>
    f_M_upLaw_67 this i35 x4 x5 h36
  else
  f_M_upLaw_67 this i24 x4 x5 h33
  else none
theorem o_M_upLaw {this : Nat} {x1 : Int32} {x2 : Int32} {x3 : Int32} {x4 : Int32} {x5 : Int32} {h : Hp} {r0 : Int32} {h0 : Hp} (hf : f_M_upLaw this x1 x2 x3 x4 x5 h = some (r0, h0)) : isO h this 8 = true := by
  unfold f_M_upLaw at hf
  exact (z_gd hf).1
set_option maxRecDepth 100000 in
set_option maxHeartbeats 4000000 in
theorem c_M_upLaw {l : Launch} {N0 : Nat} {D : va_G} {cs : Nat → ClassId} {this : Nat} {x1 : Int32} {x2 : Int32} {x3 : Int32} {x4 : Int32} {x5 : Int32} {h : Hp} {r0 : Int32} {h0 : Hp} (hf : f_M_upLaw this x1 x2 x3 x4 x5 h = some (r0, h0)) : Fn l N0 D cs y_M_upLaw b_M_upLaw 7 (some .int) 9 0 0 [.ref this, .int x1, .int x2, .int x3, .int x4, .int x5] h (some (.int r0)) h0 := by
  refine z_start (by decide) (Nat.le_of_ble_eq_true rfl) ?_
  intro p e s m args below meth c M hH hS ls hl
  unfold f_M_upLaw at hf
  obtain ⟨hO, hf⟩ := z_gd hf
  have hl : lv_has ls 7 [(0, .ref this), (1, .int x1), (2, .int x2), (3, .int x3), (4, .int x4), (5, .int x5)] := hl
  obtain ⟨H, hHe⟩ : ∃ H, H = s.heap := ⟨_, rfl⟩
  obtain ⟨locs, hLe⟩ : ∃ locs : List Loc, locs = [] := ⟨_, rfl⟩
  have hS : va_S (zA N0) s.heap H locs := by rw [hHe, hLe]; exact hS
  have hH : HH N0 D cs h H := by rw [hHe]; exact hH
  suffices hg : W p l e (zrm 9 0 0) s m args below meth c H locs 0 0 (MQ below (zQ N0 D cs (some (.int r0)) h0) args s 0 0 (zA N0)) (F0 m 0 ls []) by rw [hHe, hLe] at hg; exact hg
  clear hHe hLe
  refine lv_aload_n M.x M.b d_M_upLaw_0 rfl (lv_at hl 0 rfl) ?_
  replace hf := z_bind hf; obtain ⟨r17, e18, hf⟩ := hf
  refine z_get (ci := 8) (k := 0) M hH rfl (by decide) zinM q_562 (gA_spec e18) d_M_upLaw_1 ?_
  refine lv_iconst (v := (5 : Int32)) M.x M.b d_M_upLaw_4 rfl ?_
  refine lv_iload M.x M.b d_M_upLaw_5 (lv_at hl 4 rfl) ?_
  refine lv_imul M.x M.b d_M_upLaw_7 ?_
  refine lv_iload M.x M.b d_M_upLaw_8 (lv_at hl 5 rfl) ?_
  refine lv_iadd M.x M.b d_M_upLaw_10 ?_
  rcases r17 with _ | a19
  · exact absurd hf z_nb0
  replace hf := z_sb hf
  replace hf := z_bind hf; obtain ⟨i22, e21, hf⟩ := hf
  refine z_iald M hH e21 d_M_upLaw_11 ?_
  refine lv_if_ne (tgt := 19) M.x M.b d_M_upLaw_12 (by decide) (fun c38 => ?_) (fun c38 => ?_)
  · replace hf := z_f c38 hf
    refine lv_aload_n M.x M.b d_M_upLaw_19 rfl (lv_at hl 0 rfl) ?_
    refine lv_iload_n M.x M.b d_M_upLaw_20 rfl (lv_at hl 1 rfl) ?_
    refine lv_iload_n M.x M.b d_M_upLaw_21 rfl (lv_at hl 2 rfl) ?_
    refine lv_iload_n M.x M.b d_M_upLaw_22 rfl (lv_at hl 3 rfl) ?_
    refine lv_iload M.x M.b d_M_upLaw_23 (lv_at hl 4 rfl) ?_
    refine lv_iconst (v := (0 : Int32)) M.x M.b d_M_upLaw_25 rfl ?_
    replace hf := z_bind2 hf; obtain ⟨i24, h25, e23, hf⟩ := hf
    refine zk_V (ci := 8) (st1 := [.int i24]) M hH hS (c_M_findKept e23) rfl (o_M_findKept e23) w_M_findKept q_760 [] rfl ⟨Nat.le_of_ble_eq_true rfl, Nat.le_of_ble_eq_true rfl⟩ hl.1 rfl rfl (Nat.le_of_ble_eq_true rfl) d_M_upLaw_26 (fun H locs hH hS => ?_)
    refine lv_istore (lv' := [(6, .int i24), (0, .ref this), (1, .int x1), (2, .int x2), (3, .int x3), (4, .int x4), (5, .int x5)]) M.x M.b d_M_upLaw_29 hl (by decide) rfl (fun ls hl => ?_)
    refine lv_aload_n M.x M.b d_M_upLaw_31 rfl (lv_at hl 1 rfl) ?_
    replace hf := z_bind hf; obtain ⟨r26, e27, hf⟩ := hf
    refine z_get (ci := 8) (k := 0) M hH rfl (by decide) zinM q_562 (gA_spec e27) d_M_upLaw_32 ?_
    refine lv_iconst (v := (5 : Int32)) M.x M.b d_M_upLaw_35 rfl ?_
    refine lv_iload M.x M.b d_M_upLaw_36 (lv_at hl 5 rfl) ?_
    refine lv_imul M.x M.b d_M_upLaw_38 ?_
    refine lv_iload M.x M.b d_M_upLaw_39 (lv_at hl 6 rfl) ?_
    refine lv_iadd M.x M.b d_M_upLaw_41 ?_
    rcases r26 with _ | a28
    · exact absurd hf z_nb0
    replace hf := z_sb hf
    refine lv_dup2_11 M.x M.b d_M_upLaw_42 rfl rfl ?_
    replace hf := z_bind hf; obtain ⟨i31, e30, hf⟩ := hf
    refine z_iald M hH e30 d_M_upLaw_43 ?_
    refine lv_iconst (v := (1 : Int32)) M.x M.b d_M_upLaw_44 rfl ?_
    refine lv_iadd M.x M.b d_M_upLaw_45 ?_
    replace hf := z_bind hf; obtain ⟨h33, e32, hf⟩ := hf
    refine z_iast M hH hS e32 d_M_upLaw_46 (fun H locs hH hS => ?_)
    refine lv_iload M.x M.b d_M_upLaw_47 (lv_at hl 0 rfl) ?_
    refine lv_if_ge (tgt := 57) M.x M.b d_M_upLaw_49 (by decide) (fun c37 => ?_) (fun c37 => ?_)
    · replace hf := z_t c37 hf
      refine lv_aload_n M.x M.b d_M_upLaw_57 rfl (lv_at hl 1 rfl) ?_
      refine lv_iload_n M.x M.b d_M_upLaw_58 rfl (lv_at hl 2 rfl) ?_
      refine lv_iload_n M.x M.b d_M_upLaw_59 rfl (lv_at hl 3 rfl) ?_
      refine lv_iload_n M.x M.b d_M_upLaw_60 rfl (lv_at hl 4 rfl) ?_
      refine lv_iload M.x M.b d_M_upLaw_61 (lv_at hl 5 rfl) ?_
      refine lv_iconst (v := (1 : Int32)) M.x M.b d_M_upLaw_63 rfl ?_
      replace hf := z_bind2 hf; obtain ⟨i35, h36, e34, hf⟩ := hf
      refine zk_V (ci := 8) (st1 := [.int i35]) M hH hS (c_M_findKept e34) rfl (o_M_findKept e34) w_M_findKept q_760 [] rfl ⟨Nat.le_of_ble_eq_true rfl, Nat.le_of_ble_eq_true rfl⟩ hl.1 rfl rfl (Nat.le_of_ble_eq_true rfl) d_M_upLaw_64 (fun H locs hH hS => ?_)
      exact w_M_upLaw_67 M this _ _ _ _ hf H locs ls hH hS (lv_sub hl [1, 5, 6] rfl)
    · replace hf := z_f c37 hf
      refine lv_iload M.x M.b d_M_upLaw_52 (lv_at hl 0 rfl) ?_
      refine lv_goto (tgt := 67) M.x M.b d_M_upLaw_54 (by decide) ?_
      exact w_M_upLaw_67 M this _ _ _ _ hf H locs ls hH hS (lv_sub hl [1, 5, 6] rfl)
  · replace hf := z_t c38 hf
    refine lv_sipush (v := (-1003 : Int32)) M.x M.b d_M_upLaw_15 rfl ?_
    obtain ⟨rfl, rfl⟩ := z_r2 hf
    exact z_iret M hH hS d_M_upLaw_18
def f_M_betweenLaw_249 (this : Nat) (s0 : Int32) (x3 : Int32) (x4 : Int32) (x7 : Int32) (h : Hp) : Option ((Int32 × Hp)) :=
  (gA h this 8 28).bind fun r1 =>
  (r1).bind fun a3 =>
  (aL h a3 (0 : Int32)).bind fun l6 =>
  (gA h this 8 29).bind fun r7 =>
  (r7).bind fun a9 =>
  (aL h a9 (0 : Int32)).bind fun l12 =>
  (gA h this 8 30).bind fun r13 =>
  (r13).bind fun a15 =>
  (aI h 2 a15 (0 : Int32)).bind fun i18 =>
  (gA h this 8 0).bind fun r19 =>
  (r19).bind fun a21 =>
  (aI h 0 a21 (((5 : Int32) * x4) + x7)).bind fun i24 =>
  (gA h this 8 0).bind fun r25 =>
  (r25).bind fun a27 =>
  (aI h 0 a27 (((5 : Int32) * x3) + x7)).bind fun i30 =>
  zb2 (f_M_orderOf this l6 l12 i18 (i24).toInt64 (i30).toInt64 (0 : Int32) h) fun i32 h33 =>
  if 0 ≤ i32 then
    if s0 = 0 then
      some ((0 : Int32), h33)
    else
    (gI h33 this 8 17).bind fun i34 =>
    if 0 < i34 then
      some ((0 : Int32), h33)
    else
    some ((1 : Int32), h33)
  else
  some (i32, h33)
set_option maxRecDepth 100000 in
set_option maxHeartbeats 4000000 in
theorem w_M_betweenLaw_249 {p : Program} {l : Launch} {e : Env} {s : State} {m : MethodId} {args : Array Value} {below : List Frame} {meth : Method} {c : Code} {N0 : Nat} {D : va_G} {cs : Nat → ClassId} (M : ZC p s m args meth c "YearBasketsModel" "betweenLaw" b_M_betweenLaw 11 (some .int) N0 D cs) (this : Nat)  {r0 : Int32} {h0 : Hp}  (s0 : Int32) (x3 : Int32) (x4 : Int32) (x7 : Int32) (h : Hp) (hf : f_M_betweenLaw_249 this s0 x3 x4 x7 h = some (r0, h0)) : ZG p l e (zrm 9 0 0) s m args below meth c N0 D cs (some (.int r0)) h0 h 11 [(0, .ref this), (3, .int x3), (4, .int x4), (7, .int x7)] 249 [.int s0] := by
  intro H locs ls hH hS hl
  unfold f_M_betweenLaw_249 at hf
  refine lv_istore (lv' := [(9, .int s0), (0, .ref this), (3, .int x3), (4, .int x4), (7, .int x7)]) M.x M.b d_M_betweenLaw_249 hl (by decide) rfl (fun ls hl => ?_)
  refine lv_aload_n M.x M.b d_M_betweenLaw_251 rfl (lv_at hl 1 rfl) ?_
  refine lv_aload_n M.x M.b d_M_betweenLaw_252 rfl (lv_at hl 1 rfl) ?_
  replace hf := z_bind hf; obtain ⟨r1, e2, hf⟩ := hf
  refine z_get (ci := 8) (k := 28) M hH rfl (by decide) zinM q_748 (gA_spec e2) d_M_betweenLaw_253 ?_
  refine lv_iconst (v := (0 : Int32)) M.x M.b d_M_betweenLaw_256 rfl ?_
  rcases r1 with _ | a3
  · exact absurd hf z_nb0
  replace hf := z_sb hf
  replace hf := z_bind hf; obtain ⟨l6, e5, hf⟩ := hf
  refine z_lald M hH e5 d_M_betweenLaw_257 ?_
  refine lv_aload_n M.x M.b d_M_betweenLaw_258 rfl (lv_at hl 1 rfl) ?_
  replace hf := z_bind hf; obtain ⟨r7, e8, hf⟩ := hf
  refine z_get (ci := 8) (k := 29) M hH rfl (by decide) zinM q_747 (gA_spec e8) d_M_betweenLaw_259 ?_
  refine lv_iconst (v := (0 : Int32)) M.x M.b d_M_betweenLaw_262 rfl ?_
  rcases r7 with _ | a9
  · exact absurd hf z_nb0
  replace hf := z_sb hf
  replace hf := z_bind hf; obtain ⟨l12, e11, hf⟩ := hf
  refine z_lald M hH e11 d_M_betweenLaw_263 ?_
  refine lv_aload_n M.x M.b d_M_betweenLaw_264 rfl (lv_at hl 1 rfl) ?_
  replace hf := z_bind hf; obtain ⟨r13, e14, hf⟩ := hf
  refine z_get (ci := 8) (k := 30) M hH rfl (by decide) zinM q_746 (gA_spec e14) d_M_betweenLaw_265 ?_
  refine lv_iconst (v := (0 : Int32)) M.x M.b d_M_betweenLaw_268 rfl ?_
  rcases r13 with _ | a15
  · exact absurd hf z_nb0
  replace hf := z_sb hf
  replace hf := z_bind hf; obtain ⟨i18, e17, hf⟩ := hf
  refine z_zald M hH e17 d_M_betweenLaw_269 ?_
  refine lv_aload_n M.x M.b d_M_betweenLaw_270 rfl (lv_at hl 1 rfl) ?_
  replace hf := z_bind hf; obtain ⟨r19, e20, hf⟩ := hf
  refine z_get (ci := 8) (k := 0) M hH rfl (by decide) zinM q_562 (gA_spec e20) d_M_betweenLaw_271 ?_
  refine lv_iconst (v := (5 : Int32)) M.x M.b d_M_betweenLaw_274 rfl ?_
  refine lv_iload M.x M.b d_M_betweenLaw_275 (lv_at hl 3 rfl) ?_
  refine lv_imul M.x M.b d_M_betweenLaw_277 ?_
  refine lv_iload M.x M.b d_M_betweenLaw_278 (lv_at hl 4 rfl) ?_
  refine lv_iadd M.x M.b d_M_betweenLaw_280 ?_
  rcases r19 with _ | a21
  · exact absurd hf z_nb0
  replace hf := z_sb hf
  replace hf := z_bind hf; obtain ⟨i24, e23, hf⟩ := hf
  refine z_iald M hH e23 d_M_betweenLaw_281 ?_
  refine lv_i2l M.x M.b d_M_betweenLaw_282 rfl ?_
  refine lv_aload_n M.x M.b d_M_betweenLaw_283 rfl (lv_at hl 1 rfl) ?_
  replace hf := z_bind hf; obtain ⟨r25, e26, hf⟩ := hf
  refine z_get (ci := 8) (k := 0) M hH rfl (by decide) zinM q_562 (gA_spec e26) d_M_betweenLaw_284 ?_
  refine lv_iconst (v := (5 : Int32)) M.x M.b d_M_betweenLaw_287 rfl ?_
  refine lv_iload_n M.x M.b d_M_betweenLaw_288 rfl (lv_at hl 2 rfl) ?_
  refine lv_imul M.x M.b d_M_betweenLaw_289 ?_
  refine lv_iload M.x M.b d_M_betweenLaw_290 (lv_at hl 4 rfl) ?_
  refine lv_iadd M.x M.b d_M_betweenLaw_292 ?_
  rcases r25 with _ | a27
  · exact absurd hf z_nb0
  replace hf := z_sb hf
  replace hf := z_bind hf; obtain ⟨i30, e29, hf⟩ := hf
  refine z_iald M hH e29 d_M_betweenLaw_293 ?_
  refine lv_i2l M.x M.b d_M_betweenLaw_294 rfl ?_
  refine lv_iconst (v := (0 : Int32)) M.x M.b d_M_betweenLaw_295 rfl ?_
  replace hf := z_bind2 hf; obtain ⟨i32, h33, e31, hf⟩ := hf
  refine zk_V (ci := 8) (st1 := [.int i32]) M hH hS (c_M_orderOf e31) rfl (o_M_orderOf e31) w_M_orderOf q_711 [] rfl ⟨Nat.le_of_ble_eq_true rfl, Nat.le_of_ble_eq_true rfl⟩ hl.1 rfl rfl (Nat.le_of_ble_eq_true rfl) d_M_betweenLaw_296 (fun H locs hH hS => ?_)
  refine lv_istore (lv' := [(8, .int i32), (9, .int s0), (0, .ref this), (3, .int x3), (4, .int x4), (7, .int x7)]) M.x M.b d_M_betweenLaw_299 hl (by decide) rfl (fun ls hl => ?_)
  refine lv_iload M.x M.b d_M_betweenLaw_301 (lv_at hl 0 rfl) ?_
  refine lv_if_ge (tgt := 311) M.x M.b d_M_betweenLaw_303 (by decide) (fun c38 => ?_) (fun c38 => ?_)
  · replace hf := z_t c38 hf
    refine lv_iload M.x M.b d_M_betweenLaw_311 (lv_at hl 1 rfl) ?_
    refine lv_if_eq (tgt := 327) M.x M.b d_M_betweenLaw_313 (by decide) (fun c37 => ?_) (fun c37 => ?_)
    · replace hf := z_t c37 hf
      refine lv_iconst (v := (0 : Int32)) M.x M.b d_M_betweenLaw_327 rfl ?_
      obtain ⟨rfl, rfl⟩ := z_r2 hf
      exact z_iret M hH hS d_M_betweenLaw_328
    · replace hf := z_f c37 hf
      refine lv_aload_n M.x M.b d_M_betweenLaw_316 rfl (lv_at hl 2 rfl) ?_
      replace hf := z_bind hf; obtain ⟨i34, e35, hf⟩ := hf
      refine z_get (ci := 8) (k := 17) M hH rfl (by decide) zinM q_680 (gI_spec e35) d_M_betweenLaw_317 ?_
      refine lv_if_gt (tgt := 327) M.x M.b d_M_betweenLaw_320 (by decide) (fun c36 => ?_) (fun c36 => ?_)
      · replace hf := z_t c36 hf
        refine lv_iconst (v := (0 : Int32)) M.x M.b d_M_betweenLaw_327 rfl ?_
        obtain ⟨rfl, rfl⟩ := z_r2 hf
        exact z_iret M hH hS d_M_betweenLaw_328
      · replace hf := z_f c36 hf
        refine lv_iconst (v := (1 : Int32)) M.x M.b d_M_betweenLaw_323 rfl ?_
        refine lv_goto (tgt := 328) M.x M.b d_M_betweenLaw_324 (by decide) ?_
        obtain ⟨rfl, rfl⟩ := z_r2 hf
        exact z_iret M hH hS d_M_betweenLaw_328
  · replace hf := z_f c38 hf
    refine lv_iload M.x M.b d_M_betweenLaw_306 (lv_at hl 0 rfl) ?_
    refine lv_goto (tgt := 328) M.x M.b d_M_betweenLaw_308 (by decide) ?_
    obtain ⟨rfl, rfl⟩ := z_r2 hf
    exact z_iret M hH hS d_M_betweenLaw_328
def f_M_betweenLaw_164 (this : Nat) (k29 : Int32 → Int32 → Int32 → Int32 → Int32 → Hp → Option ((Int32 × Hp))) (x3 : Int32) (x4 : Int32) (x6 : Int32) (x7 : Int32) (x8 : Int32) (h : Hp) : Option ((Int32 × Hp)) :=
  k29 x3 x4 x6 x7 (x8 + (1 : Int32)) h
set_option maxRecDepth 100000 in
set_option maxHeartbeats 4000000 in
theorem w_M_betweenLaw_164 {p : Program} {l : Launch} {e : Env} {s : State} {m : MethodId} {args : Array Value} {below : List Frame} {meth : Method} {c : Code} {N0 : Nat} {D : va_G} {cs : Nat → ClassId} (M : ZC p s m args meth c "YearBasketsModel" "betweenLaw" b_M_betweenLaw 11 (some .int) N0 D cs) (this : Nat) (k29 : Int32 → Int32 → Int32 → Int32 → Int32 → Hp → Option ((Int32 × Hp))) {r0 : Int32} {h0 : Hp} (hk29 : ∀ (x3 : Int32) (x4 : Int32) (x6 : Int32) (x7 : Int32) (x8 : Int32) (h : Hp), k29 x3 x4 x6 x7 x8 h = some (r0, h0) → ZG p l e (zrm 9 0 0) s m args below meth c N0 D cs (some (.int r0)) h0 h 11 [(0, .ref this), (3, .int x3), (4, .int x4), (6, .int x6), (7, .int x7), (8, .int x8)] 29 []) (x3 : Int32) (x4 : Int32) (x6 : Int32) (x7 : Int32) (x8 : Int32) (h : Hp) (hf : f_M_betweenLaw_164 this k29 x3 x4 x6 x7 x8 h = some (r0, h0)) : ZG p l e (zrm 9 0 0) s m args below meth c N0 D cs (some (.int r0)) h0 h 11 [(0, .ref this), (3, .int x3), (4, .int x4), (6, .int x6), (7, .int x7), (8, .int x8)] 164 [] := by
  intro H locs ls hH hS hl
  unfold f_M_betweenLaw_164 at hf
  refine lv_iinc (v := (x8 + (1 : Int32))) (lv' := [(8, .int (x8 + (1 : Int32))), (0, .ref this), (3, .int x3), (4, .int x4), (6, .int x6), (7, .int x7)]) M.x M.b d_M_betweenLaw_164 hl (k := 5) rfl rfl (by decide) rfl (fun ls hl => ?_)
  refine lv_goto (tgt := 29) M.x M.b d_M_betweenLaw_167 (by decide) ?_
  exact hk29 _ _ _ _ _ _ hf H locs ls hH hS (lv_sub hl [1, 2, 3, 4, 5, 0] rfl)
def f_M_betweenLaw_162 (this : Nat) (k29 : Int32 → Int32 → Int32 → Int32 → Int32 → Hp → Option ((Int32 × Hp))) (s0 : Int32) (x3 : Int32) (x4 : Int32) (x6 : Int32) (x8 : Int32) (h : Hp) : Option ((Int32 × Hp)) :=
  f_M_betweenLaw_164 this k29 x3 x4 x6 s0 x8 h
set_option maxRecDepth 100000 in
set_option maxHeartbeats 4000000 in
theorem w_M_betweenLaw_162 {p : Program} {l : Launch} {e : Env} {s : State} {m : MethodId} {args : Array Value} {below : List Frame} {meth : Method} {c : Code} {N0 : Nat} {D : va_G} {cs : Nat → ClassId} (M : ZC p s m args meth c "YearBasketsModel" "betweenLaw" b_M_betweenLaw 11 (some .int) N0 D cs) (this : Nat) (k29 : Int32 → Int32 → Int32 → Int32 → Int32 → Hp → Option ((Int32 × Hp))) {r0 : Int32} {h0 : Hp} (hk29 : ∀ (x3 : Int32) (x4 : Int32) (x6 : Int32) (x7 : Int32) (x8 : Int32) (h : Hp), k29 x3 x4 x6 x7 x8 h = some (r0, h0) → ZG p l e (zrm 9 0 0) s m args below meth c N0 D cs (some (.int r0)) h0 h 11 [(0, .ref this), (3, .int x3), (4, .int x4), (6, .int x6), (7, .int x7), (8, .int x8)] 29 []) (s0 : Int32) (x3 : Int32) (x4 : Int32) (x6 : Int32) (x8 : Int32) (h : Hp) (hf : f_M_betweenLaw_162 this k29 s0 x3 x4 x6 x8 h = some (r0, h0)) : ZG p l e (zrm 9 0 0) s m args below meth c N0 D cs (some (.int r0)) h0 h 11 [(0, .ref this), (3, .int x3), (4, .int x4), (6, .int x6), (8, .int x8)] 162 [.int s0] := by
  intro H locs ls hH hS hl
  unfold f_M_betweenLaw_162 at hf
  refine lv_istore (lv' := [(7, .int s0), (0, .ref this), (3, .int x3), (4, .int x4), (6, .int x6), (8, .int x8)]) M.x M.b d_M_betweenLaw_162 hl (by decide) rfl (fun ls hl => ?_)
  exact w_M_betweenLaw_164 M this k29 hk29 _ _ _ _ _ _ hf H locs ls hH hS (lv_sub hl [1, 2, 3, 4, 0, 5] rfl)
def f_M_betweenLaw_155 (this : Nat) (k29 : Int32 → Int32 → Int32 → Int32 → Int32 → Hp → Option ((Int32 × Hp))) (x3 : Int32) (x4 : Int32) (x6 : Int32) (x8 : Int32) (h : Hp) : Option ((Int32 × Hp)) :=
  f_M_betweenLaw_162 this k29 x8 x3 x4 x6 x8 h
set_option maxRecDepth 100000 in
set_option maxHeartbeats 4000000 in
theorem w_M_betweenLaw_155 {p : Program} {l : Launch} {e : Env} {s : State} {m : MethodId} {args : Array Value} {below : List Frame} {meth : Method} {c : Code} {N0 : Nat} {D : va_G} {cs : Nat → ClassId} (M : ZC p s m args meth c "YearBasketsModel" "betweenLaw" b_M_betweenLaw 11 (some .int) N0 D cs) (this : Nat) (k29 : Int32 → Int32 → Int32 → Int32 → Int32 → Hp → Option ((Int32 × Hp))) {r0 : Int32} {h0 : Hp} (hk29 : ∀ (x3 : Int32) (x4 : Int32) (x6 : Int32) (x7 : Int32) (x8 : Int32) (h : Hp), k29 x3 x4 x6 x7 x8 h = some (r0, h0) → ZG p l e (zrm 9 0 0) s m args below meth c N0 D cs (some (.int r0)) h0 h 11 [(0, .ref this), (3, .int x3), (4, .int x4), (6, .int x6), (7, .int x7), (8, .int x8)] 29 []) (x3 : Int32) (x4 : Int32) (x6 : Int32) (x8 : Int32) (h : Hp) (hf : f_M_betweenLaw_155 this k29 x3 x4 x6 x8 h = some (r0, h0)) : ZG p l e (zrm 9 0 0) s m args below meth c N0 D cs (some (.int r0)) h0 h 11 [(0, .ref this), (3, .int x3), (4, .int x4), (6, .int x6), (8, .int x8)] 155 [] := by
  intro H locs ls hH hS hl
  unfold f_M_betweenLaw_155 at hf
  refine lv_iload M.x M.b d_M_betweenLaw_155 (lv_at hl 4 rfl) ?_
  refine lv_goto (tgt := 162) M.x M.b d_M_betweenLaw_157 (by decide) ?_
  exact w_M_betweenLaw_162 M this k29 hk29 _ _ _ _ _ _ hf H locs ls hH hS (lv_sub hl [0, 1, 2, 3, 4] rfl)
def f_M_betweenLaw_116 (this : Nat) (k29 : Int32 → Int32 → Int32 → Int32 → Int32 → Hp → Option ((Int32 × Hp))) (s0 : Int32) (x3 : Int32) (x4 : Int32) (x7 : Int32) (x8 : Int32) (x9 : Int32) (x10 : Int32) (h : Hp) : Option ((Int32 × Hp)) :=
  if x7 < 0 then
    f_M_betweenLaw_155 this k29 x3 x4 s0 x8 h
  else
  (gA h this 8 0).bind fun r39 =>
  (r39).bind fun a41 =>
  (aI h 0 a41 (((5 : Int32) * x3) + x7)).bind fun i44 =>
  (gA h this 8 0).bind fun r45 =>
  (r45).bind fun a47 =>
  (aI h 0 a47 (((5 : Int32) * x4) + x7)).bind fun i50 =>
  if (x10 * i44) ≤ (i50 * x9) then
    f_M_betweenLaw_162 this k29 x7 x3 x4 s0 x8 h
  else
  f_M_betweenLaw_155 this k29 x3 x4 s0 x8 h
set_option maxRecDepth 100000 in
set_option maxHeartbeats 4000000 in
theorem w_M_betweenLaw_116 {p : Program} {l : Launch} {e : Env} {s : State} {m : MethodId} {args : Array Value} {below : List Frame} {meth : Method} {c : Code} {N0 : Nat} {D : va_G} {cs : Nat → ClassId} (M : ZC p s m args meth c "YearBasketsModel" "betweenLaw" b_M_betweenLaw 11 (some .int) N0 D cs) (this : Nat) (k29 : Int32 → Int32 → Int32 → Int32 → Int32 → Hp → Option ((Int32 × Hp))) {r0 : Int32} {h0 : Hp} (hk29 : ∀ (x3 : Int32) (x4 : Int32) (x6 : Int32) (x7 : Int32) (x8 : Int32) (h : Hp), k29 x3 x4 x6 x7 x8 h = some (r0, h0) → ZG p l e (zrm 9 0 0) s m args below meth c N0 D cs (some (.int r0)) h0 h 11 [(0, .ref this), (3, .int x3), (4, .int x4), (6, .int x6), (7, .int x7), (8, .int x8)] 29 []) (s0 : Int32) (x3 : Int32) (x4 : Int32) (x7 : Int32) (x8 : Int32) (x9 : Int32) (x10 : Int32) (h : Hp) (hf : f_M_betweenLaw_116 this k29 s0 x3 x4 x7 x8 x9 x10 h = some (r0, h0)) : ZG p l e (zrm 9 0 0) s m args below meth c N0 D cs (some (.int r0)) h0 h 11 [(0, .ref this), (3, .int x3), (4, .int x4), (7, .int x7), (8, .int x8), (9, .int x9), (10, .int x10)] 116 [.int s0] := by
  intro H locs ls hH hS hl
  unfold f_M_betweenLaw_116 at hf
  refine lv_istore (lv' := [(6, .int s0), (0, .ref this), (3, .int x3), (4, .int x4), (7, .int x7), (8, .int x8), (9, .int x9), (10, .int x10)]) M.x M.b d_M_betweenLaw_116 hl (by decide) rfl (fun ls hl => ?_)
  refine lv_iload M.x M.b d_M_betweenLaw_118 (lv_at hl 4 rfl) ?_
  refine lv_if_lt (tgt := 155) M.x M.b d_M_betweenLaw_120 (by decide) (fun c52 => ?_) (fun c52 => ?_)
  · replace hf := z_t c52 hf
    exact w_M_betweenLaw_155 M this k29 hk29 _ _ _ _ _ hf H locs ls hH hS (lv_sub hl [1, 2, 3, 0, 5] rfl)
  · replace hf := z_f c52 hf
    refine lv_iload M.x M.b d_M_betweenLaw_123 (lv_at hl 7 rfl) ?_
    refine lv_aload_n M.x M.b d_M_betweenLaw_125 rfl (lv_at hl 1 rfl) ?_
    replace hf := z_bind hf; obtain ⟨r39, e40, hf⟩ := hf
    refine z_get (ci := 8) (k := 0) M hH rfl (by decide) zinM q_562 (gA_spec e40) d_M_betweenLaw_126 ?_
    refine lv_iconst (v := (5 : Int32)) M.x M.b d_M_betweenLaw_129 rfl ?_
    refine lv_iload_n M.x M.b d_M_betweenLaw_130 rfl (lv_at hl 2 rfl) ?_
    refine lv_imul M.x M.b d_M_betweenLaw_131 ?_
    refine lv_iload M.x M.b d_M_betweenLaw_132 (lv_at hl 4 rfl) ?_
    refine lv_iadd M.x M.b d_M_betweenLaw_134 ?_
    rcases r39 with _ | a41
    · exact absurd hf z_nb0
    replace hf := z_sb hf
    replace hf := z_bind hf; obtain ⟨i44, e43, hf⟩ := hf
    refine z_iald M hH e43 d_M_betweenLaw_135 ?_
    refine lv_imul M.x M.b d_M_betweenLaw_136 ?_
    refine lv_aload_n M.x M.b d_M_betweenLaw_137 rfl (lv_at hl 1 rfl) ?_
    replace hf := z_bind hf; obtain ⟨r45, e46, hf⟩ := hf
    refine z_get (ci := 8) (k := 0) M hH rfl (by decide) zinM q_562 (gA_spec e46) d_M_betweenLaw_138 ?_
    refine lv_iconst (v := (5 : Int32)) M.x M.b d_M_betweenLaw_141 rfl ?_
    refine lv_iload M.x M.b d_M_betweenLaw_142 (lv_at hl 3 rfl) ?_
    refine lv_imul M.x M.b d_M_betweenLaw_144 ?_
    refine lv_iload M.x M.b d_M_betweenLaw_145 (lv_at hl 4 rfl) ?_
    refine lv_iadd M.x M.b d_M_betweenLaw_147 ?_
    rcases r45 with _ | a47
    · exact absurd hf z_nb0
    replace hf := z_sb hf
    replace hf := z_bind hf; obtain ⟨i50, e49, hf⟩ := hf
    refine z_iald M hH e49 d_M_betweenLaw_148 ?_
    refine lv_iload M.x M.b d_M_betweenLaw_149 (lv_at hl 6 rfl) ?_
    refine lv_imul M.x M.b d_M_betweenLaw_151 ?_
    refine lv_icmp_le (tgt := 160) M.x M.b d_M_betweenLaw_152 (by decide) (fun c51 => ?_) (fun c51 => ?_)
    · replace hf := z_t c51 hf
      refine lv_iload M.x M.b d_M_betweenLaw_160 (lv_at hl 4 rfl) ?_
      exact w_M_betweenLaw_162 M this k29 hk29 _ _ _ _ _ _ hf H locs ls hH hS (lv_sub hl [1, 2, 3, 0, 5] rfl)
    · replace hf := z_f c51 hf
      exact w_M_betweenLaw_155 M this k29 hk29 _ _ _ _ _ hf H locs ls hH hS (lv_sub hl [1, 2, 3, 0, 5] rfl)
def f_M_betweenLaw_109 (this : Nat) (k29 : Int32 → Int32 → Int32 → Int32 → Int32 → Hp → Option ((Int32 × Hp))) (x3 : Int32) (x4 : Int32) (x7 : Int32) (x8 : Int32) (x9 : Int32) (x10 : Int32) (h : Hp) : Option ((Int32 × Hp)) :=
  f_M_betweenLaw_116 this k29 x8 x3 x4 x7 x8 x9 x10 h
set_option maxRecDepth 100000 in
set_option maxHeartbeats 4000000 in
theorem w_M_betweenLaw_109 {p : Program} {l : Launch} {e : Env} {s : State} {m : MethodId} {args : Array Value} {below : List Frame} {meth : Method} {c : Code} {N0 : Nat} {D : va_G} {cs : Nat → ClassId} (M : ZC p s m args meth c "YearBasketsModel" "betweenLaw" b_M_betweenLaw 11 (some .int) N0 D cs) (this : Nat) (k29 : Int32 → Int32 → Int32 → Int32 → Int32 → Hp → Option ((Int32 × Hp))) {r0 : Int32} {h0 : Hp} (hk29 : ∀ (x3 : Int32) (x4 : Int32) (x6 : Int32) (x7 : Int32) (x8 : Int32) (h : Hp), k29 x3 x4 x6 x7 x8 h = some (r0, h0) → ZG p l e (zrm 9 0 0) s m args below meth c N0 D cs (some (.int r0)) h0 h 11 [(0, .ref this), (3, .int x3), (4, .int x4), (6, .int x6), (7, .int x7), (8, .int x8)] 29 []) (x3 : Int32) (x4 : Int32) (x7 : Int32) (x8 : Int32) (x9 : Int32) (x10 : Int32) (h : Hp) (hf : f_M_betweenLaw_109 this k29 x3 x4 x7 x8 x9 x10 h = some (r0, h0)) : ZG p l e (zrm 9 0 0) s m args below meth c N0 D cs (some (.int r0)) h0 h 11 [(0, .ref this), (3, .int x3), (4, .int x4), (7, .int x7), (8, .int x8), (9, .int x9), (10, .int x10)] 109 [] := by
  intro H locs ls hH hS hl
  unfold f_M_betweenLaw_109 at hf
  refine lv_iload M.x M.b d_M_betweenLaw_109 (lv_at hl 4 rfl) ?_
  refine lv_goto (tgt := 116) M.x M.b d_M_betweenLaw_111 (by decide) ?_
  exact w_M_betweenLaw_116 M this k29 hk29 _ _ _ _ _ _ _ _ hf H locs ls hH hS (lv_sub hl [0, 1, 2, 3, 4, 5, 6] rfl)
def t_M_betweenLaw_29 (this : Nat) (k29 : Int32 → Int32 → Int32 → Int32 → Int32 → Hp → Option ((Int32 × Hp))) (x3 : Int32) (x4 : Int32) (x6 : Int32) (x7 : Int32) (x8 : Int32) (h : Hp) : Option ((Int32 × Hp)) :=
  if (5 : Int32) ≤ x8 then
    if 0 ≤ x6 then
      (gA h this 8 28).bind fun r53 =>
      (r53).bind fun a55 =>
      (aL h a55 (0 : Int32)).bind fun l58 =>
      (gA h this 8 29).bind fun r59 =>
      (r59).bind fun a61 =>
      (aL h a61 (0 : Int32)).bind fun l64 =>
      (gA h this 8 30).bind fun r65 =>
      (r65).bind fun a67 =>
      (aI h 2 a67 (0 : Int32)).bind fun i70 =>
      (gA h this 8 0).bind fun r71 =>
      (r71).bind fun a73 =>
      (aI h 0 a73 (((5 : Int32) * x4) + x6)).bind fun i76 =>
      (gA h this 8 0).bind fun r77 =>
      (r77).bind fun a79 =>
      (aI h 0 a79 (((5 : Int32) * x3) + x6)).bind fun i82 =>
      zb2 (f_M_orderOf this l58 l64 i70 (i76).toInt64 (i82).toInt64 (0 : Int32) h) fun i84 h85 =>
      if 0 ≤ i84 then
        (gI h85 this 8 17).bind fun i86 =>
        if i86 < 0 then
          f_M_betweenLaw_249 this (0 : Int32) x3 x4 x7 h85
        else
        f_M_betweenLaw_249 this (1 : Int32) x3 x4 x7 h85
      else
      some (i84, h85)
    else
    some ((-1003 : Int32), h)
  else
  (gA h this 8 0).bind fun r91 =>
  (r91).bind fun a93 =>
  (aI h 0 a93 (((5 : Int32) * x3) + x8)).bind fun i96 =>
  (gA h this 8 0).bind fun r97 =>
  (r97).bind fun a99 =>
  (aI h 0 a99 (((5 : Int32) * x4) + x8)).bind fun i102 =>
  if i96 ≤ 0 then
    f_M_betweenLaw_164 this k29 x3 x4 x6 x7 x8 h
  else
  if i102 ≤ 0 then
    f_M_betweenLaw_164 this k29 x3 x4 x6 x7 x8 h
  else
  if x6 < 0 then
    f_M_betweenLaw_109 this k29 x3 x4 x7 x8 i96 i102 h
  else
  (gA h this 8 0).bind fun r103 =>
  (r103).bind fun a105 =>
  (aI h 0 a105 (((5 : Int32) * x3) + x6)).bind fun i108 =>
  (gA h this 8 0).bind fun r109 =>
  (r109).bind fun a111 =>
  (aI h 0 a111 (((5 : Int32) * x4) + x6)).bind fun i114 =>
  if (i114 * i96) ≤ (i102 * i108) then
    f_M_betweenLaw_116 this k29 x6 x3 x4 x7 x8 i96 i102 h
  else
  f_M_betweenLaw_109 this k29 x3 x4 x7 x8 i96 i102 h
set_option maxRecDepth 100000 in
set_option maxHeartbeats 4000000 in
theorem v_M_betweenLaw_29 {p : Program} {l : Launch} {e : Env} {s : State} {m : MethodId} {args : Array Value} {below : List Frame} {meth : Method} {c : Code} {N0 : Nat} {D : va_G} {cs : Nat → ClassId} (M : ZC p s m args meth c "YearBasketsModel" "betweenLaw" b_M_betweenLaw 11 (some .int) N0 D cs) (this : Nat) (k29 : Int32 → Int32 → Int32 → Int32 → Int32 → Hp → Option ((Int32 × Hp))) {r0 : Int32} {h0 : Hp} (hk29 : ∀ (x3 : Int32) (x4 : Int32) (x6 : Int32) (x7 : Int32) (x8 : Int32) (h : Hp), k29 x3 x4 x6 x7 x8 h = some (r0, h0) → ZG p l e (zrm 9 0 0) s m args below meth c N0 D cs (some (.int r0)) h0 h 11 [(0, .ref this), (3, .int x3), (4, .int x4), (6, .int x6), (7, .int x7), (8, .int x8)] 29 []) (x3 : Int32) (x4 : Int32) (x6 : Int32) (x7 : Int32) (x8 : Int32) (h : Hp) (hf : t_M_betweenLaw_29 this k29 x3 x4 x6 x7 x8 h = some (r0, h0)) : ZG p l e (zrm 9 0 0) s m args below meth c N0 D cs (some (.int r0)) h0 h 11 [(0, .ref this), (3, .int x3), (4, .int x4), (6, .int x6), (7, .int x7), (8, .int x8)] 29 [] := by
  intro H locs ls hH hS hl
  unfold t_M_betweenLaw_29 at hf
  refine lv_iload M.x M.b d_M_betweenLaw_29 (lv_at hl 5 rfl) ?_
  refine lv_iconst (v := (5 : Int32)) M.x M.b d_M_betweenLaw_31 rfl ?_
  refine lv_icmp_ge (tgt := 170) M.x M.b d_M_betweenLaw_32 (by decide) (fun c119 => ?_) (fun c119 => ?_)
  · replace hf := z_t c119 hf
    refine lv_iload M.x M.b d_M_betweenLaw_170 (lv_at hl 3 rfl) ?_
    refine lv_if_ge (tgt := 179) M.x M.b d_M_betweenLaw_172 (by decide) (fun c90 => ?_) (fun c90 => ?_)
    · replace hf := z_t c90 hf
      refine lv_aload_n M.x M.b d_M_betweenLaw_179 rfl (lv_at hl 0 rfl) ?_
      refine lv_aload_n M.x M.b d_M_betweenLaw_180 rfl (lv_at hl 0 rfl) ?_
      replace hf := z_bind hf; obtain ⟨r53, e54, hf⟩ := hf
      refine z_get (ci := 8) (k := 28) M hH rfl (by decide) zinM q_748 (gA_spec e54) d_M_betweenLaw_181 ?_
      refine lv_iconst (v := (0 : Int32)) M.x M.b d_M_betweenLaw_184 rfl ?_
      rcases r53 with _ | a55
      · exact absurd hf z_nb0
      replace hf := z_sb hf
      replace hf := z_bind hf; obtain ⟨l58, e57, hf⟩ := hf
      refine z_lald M hH e57 d_M_betweenLaw_185 ?_
      refine lv_aload_n M.x M.b d_M_betweenLaw_186 rfl (lv_at hl 0 rfl) ?_
      replace hf := z_bind hf; obtain ⟨r59, e60, hf⟩ := hf
      refine z_get (ci := 8) (k := 29) M hH rfl (by decide) zinM q_747 (gA_spec e60) d_M_betweenLaw_187 ?_
      refine lv_iconst (v := (0 : Int32)) M.x M.b d_M_betweenLaw_190 rfl ?_
      rcases r59 with _ | a61
      · exact absurd hf z_nb0
      replace hf := z_sb hf
      replace hf := z_bind hf; obtain ⟨l64, e63, hf⟩ := hf
      refine z_lald M hH e63 d_M_betweenLaw_191 ?_
      refine lv_aload_n M.x M.b d_M_betweenLaw_192 rfl (lv_at hl 0 rfl) ?_
      replace hf := z_bind hf; obtain ⟨r65, e66, hf⟩ := hf
      refine z_get (ci := 8) (k := 30) M hH rfl (by decide) zinM q_746 (gA_spec e66) d_M_betweenLaw_193 ?_
      refine lv_iconst (v := (0 : Int32)) M.x M.b d_M_betweenLaw_196 rfl ?_
      rcases r65 with _ | a67
      · exact absurd hf z_nb0
      replace hf := z_sb hf
      replace hf := z_bind hf; obtain ⟨i70, e69, hf⟩ := hf
      refine z_zald M hH e69 d_M_betweenLaw_197 ?_
      refine lv_aload_n M.x M.b d_M_betweenLaw_198 rfl (lv_at hl 0 rfl) ?_
      replace hf := z_bind hf; obtain ⟨r71, e72, hf⟩ := hf
      refine z_get (ci := 8) (k := 0) M hH rfl (by decide) zinM q_562 (gA_spec e72) d_M_betweenLaw_199 ?_
      refine lv_iconst (v := (5 : Int32)) M.x M.b d_M_betweenLaw_202 rfl ?_
      refine lv_iload M.x M.b d_M_betweenLaw_203 (lv_at hl 2 rfl) ?_
      refine lv_imul M.x M.b d_M_betweenLaw_205 ?_
      refine lv_iload M.x M.b d_M_betweenLaw_206 (lv_at hl 3 rfl) ?_
      refine lv_iadd M.x M.b d_M_betweenLaw_208 ?_
      rcases r71 with _ | a73
      · exact absurd hf z_nb0
      replace hf := z_sb hf
      replace hf := z_bind hf; obtain ⟨i76, e75, hf⟩ := hf
      refine z_iald M hH e75 d_M_betweenLaw_209 ?_
      refine lv_i2l M.x M.b d_M_betweenLaw_210 rfl ?_
      refine lv_aload_n M.x M.b d_M_betweenLaw_211 rfl (lv_at hl 0 rfl) ?_
      replace hf := z_bind hf; obtain ⟨r77, e78, hf⟩ := hf
      refine z_get (ci := 8) (k := 0) M hH rfl (by decide) zinM q_562 (gA_spec e78) d_M_betweenLaw_212 ?_
      refine lv_iconst (v := (5 : Int32)) M.x M.b d_M_betweenLaw_215 rfl ?_
      refine lv_iload_n M.x M.b d_M_betweenLaw_216 rfl (lv_at hl 1 rfl) ?_
      refine lv_imul M.x M.b d_M_betweenLaw_217 ?_
      refine lv_iload M.x M.b d_M_betweenLaw_218 (lv_at hl 3 rfl) ?_
      refine lv_iadd M.x M.b d_M_betweenLaw_220 ?_
      rcases r77 with _ | a79
      · exact absurd hf z_nb0
      replace hf := z_sb hf
      replace hf := z_bind hf; obtain ⟨i82, e81, hf⟩ := hf
      refine z_iald M hH e81 d_M_betweenLaw_221 ?_
      refine lv_i2l M.x M.b d_M_betweenLaw_222 rfl ?_
      refine lv_iconst (v := (0 : Int32)) M.x M.b d_M_betweenLaw_223 rfl ?_
      replace hf := z_bind2 hf; obtain ⟨i84, h85, e83, hf⟩ := hf
      refine zk_V (ci := 8) (st1 := [.int i84]) M hH hS (c_M_orderOf e83) rfl (o_M_orderOf e83) w_M_orderOf q_711 [] rfl ⟨Nat.le_of_ble_eq_true rfl, Nat.le_of_ble_eq_true rfl⟩ hl.1 rfl rfl (Nat.le_of_ble_eq_true rfl) d_M_betweenLaw_224 (fun H locs hH hS => ?_)
      refine lv_istore (lv' := [(8, .int i84), (0, .ref this), (3, .int x3), (4, .int x4), (6, .int x6), (7, .int x7)]) M.x M.b d_M_betweenLaw_227 hl (by decide) rfl (fun ls hl => ?_)
      refine lv_iload M.x M.b d_M_betweenLaw_229 (lv_at hl 0 rfl) ?_
      refine lv_if_ge (tgt := 237) M.x M.b d_M_betweenLaw_231 (by decide) (fun c89 => ?_) (fun c89 => ?_)
      · replace hf := z_t c89 hf
        refine lv_aload_n M.x M.b d_M_betweenLaw_237 rfl (lv_at hl 1 rfl) ?_
        replace hf := z_bind hf; obtain ⟨i86, e87, hf⟩ := hf
        refine z_get (ci := 8) (k := 17) M hH rfl (by decide) zinM q_680 (gI_spec e87) d_M_betweenLaw_238 ?_
        refine lv_if_lt (tgt := 248) M.x M.b d_M_betweenLaw_241 (by decide) (fun c88 => ?_) (fun c88 => ?_)
        · replace hf := z_t c88 hf
          refine lv_iconst (v := (0 : Int32)) M.x M.b d_M_betweenLaw_248 rfl ?_
          exact w_M_betweenLaw_249 M this _ _ _ _ _ hf H locs ls hH hS (lv_sub hl [1, 2, 3, 5] rfl)
        · replace hf := z_f c88 hf
          refine lv_iconst (v := (1 : Int32)) M.x M.b d_M_betweenLaw_244 rfl ?_
          refine lv_goto (tgt := 249) M.x M.b d_M_betweenLaw_245 (by decide) ?_
          exact w_M_betweenLaw_249 M this _ _ _ _ _ hf H locs ls hH hS (lv_sub hl [1, 2, 3, 5] rfl)
      · replace hf := z_f c89 hf
        refine lv_iload M.x M.b d_M_betweenLaw_234 (lv_at hl 0 rfl) ?_
        obtain ⟨rfl, rfl⟩ := z_r2 hf
        exact z_iret M hH hS d_M_betweenLaw_236
    · replace hf := z_f c90 hf
      refine lv_sipush (v := (-1003 : Int32)) M.x M.b d_M_betweenLaw_175 rfl ?_
      obtain ⟨rfl, rfl⟩ := z_r2 hf
      exact z_iret M hH hS d_M_betweenLaw_178
  · replace hf := z_f c119 hf
    refine lv_aload_n M.x M.b d_M_betweenLaw_35 rfl (lv_at hl 0 rfl) ?_
    replace hf := z_bind hf; obtain ⟨r91, e92, hf⟩ := hf
    refine z_get (ci := 8) (k := 0) M hH rfl (by decide) zinM q_562 (gA_spec e92) d_M_betweenLaw_36 ?_
    refine lv_iconst (v := (5 : Int32)) M.x M.b d_M_betweenLaw_39 rfl ?_
    refine lv_iload_n M.x M.b d_M_betweenLaw_40 rfl (lv_at hl 1 rfl) ?_
    refine lv_imul M.x M.b d_M_betweenLaw_41 ?_
    refine lv_iload M.x M.b d_M_betweenLaw_42 (lv_at hl 5 rfl) ?_
    refine lv_iadd M.x M.b d_M_betweenLaw_44 ?_
    rcases r91 with _ | a93
    · exact absurd hf z_nb0
    replace hf := z_sb hf
    replace hf := z_bind hf; obtain ⟨i96, e95, hf⟩ := hf
    refine z_iald M hH e95 d_M_betweenLaw_45 ?_
    refine lv_istore (lv' := [(9, .int i96), (0, .ref this), (3, .int x3), (4, .int x4), (6, .int x6), (7, .int x7), (8, .int x8)]) M.x M.b d_M_betweenLaw_46 hl (by decide) rfl (fun ls hl => ?_)
    refine lv_aload_n M.x M.b d_M_betweenLaw_48 rfl (lv_at hl 1 rfl) ?_
    replace hf := z_bind hf; obtain ⟨r97, e98, hf⟩ := hf
    refine z_get (ci := 8) (k := 0) M hH rfl (by decide) zinM q_562 (gA_spec e98) d_M_betweenLaw_49 ?_
    refine lv_iconst (v := (5 : Int32)) M.x M.b d_M_betweenLaw_52 rfl ?_
    refine lv_iload M.x M.b d_M_betweenLaw_53 (lv_at hl 3 rfl) ?_
    refine lv_imul M.x M.b d_M_betweenLaw_55 ?_
    refine lv_iload M.x M.b d_M_betweenLaw_56 (lv_at hl 6 rfl) ?_
    refine lv_iadd M.x M.b d_M_betweenLaw_58 ?_
    rcases r97 with _ | a99
    · exact absurd hf z_nb0
    replace hf := z_sb hf
    replace hf := z_bind hf; obtain ⟨i102, e101, hf⟩ := hf
    refine z_iald M hH e101 d_M_betweenLaw_59 ?_
    refine lv_istore (lv' := [(10, .int i102), (9, .int i96), (0, .ref this), (3, .int x3), (4, .int x4), (6, .int x6), (7, .int x7), (8, .int x8)]) M.x M.b d_M_betweenLaw_60 hl (by decide) rfl (fun ls hl => ?_)
    refine lv_iload M.x M.b d_M_betweenLaw_62 (lv_at hl 1 rfl) ?_
    refine lv_if_le (tgt := 164) M.x M.b d_M_betweenLaw_64 (by decide) (fun c118 => ?_) (fun c118 => ?_)
    · replace hf := z_t c118 hf
      exact w_M_betweenLaw_164 M this k29 hk29 _ _ _ _ _ _ hf H locs ls hH hS (lv_sub hl [2, 3, 4, 5, 6, 7] rfl)
    · replace hf := z_f c118 hf
      refine lv_iload M.x M.b d_M_betweenLaw_67 (lv_at hl 0 rfl) ?_
      refine lv_if_le (tgt := 164) M.x M.b d_M_betweenLaw_69 (by decide) (fun c117 => ?_) (fun c117 => ?_)
      · replace hf := z_t c117 hf
        exact w_M_betweenLaw_164 M this k29 hk29 _ _ _ _ _ _ hf H locs ls hH hS (lv_sub hl [2, 3, 4, 5, 6, 7] rfl)
      · replace hf := z_f c117 hf
        refine lv_iload M.x M.b d_M_betweenLaw_72 (lv_at hl 5 rfl) ?_
        refine lv_if_lt (tgt := 109) M.x M.b d_M_betweenLaw_74 (by decide) (fun c116 => ?_) (fun c116 => ?_)
        · replace hf := z_t c116 hf
          exact w_M_betweenLaw_109 M this k29 hk29 _ _ _ _ _ _ _ hf H locs ls hH hS (lv_sub hl [2, 3, 4, 6, 7, 1, 0] rfl)
        · replace hf := z_f c116 hf
          refine lv_iload M.x M.b d_M_betweenLaw_77 (lv_at hl 0 rfl) ?_
          refine lv_aload_n M.x M.b d_M_betweenLaw_79 rfl (lv_at hl 2 rfl) ?_
          replace hf := z_bind hf; obtain ⟨r103, e104, hf⟩ := hf
          refine z_get (ci := 8) (k := 0) M hH rfl (by decide) zinM q_562 (gA_spec e104) d_M_betweenLaw_80 ?_
          refine lv_iconst (v := (5 : Int32)) M.x M.b d_M_betweenLaw_83 rfl ?_
          refine lv_iload_n M.x M.b d_M_betweenLaw_84 rfl (lv_at hl 3 rfl) ?_
          refine lv_imul M.x M.b d_M_betweenLaw_85 ?_
          refine lv_iload M.x M.b d_M_betweenLaw_86 (lv_at hl 5 rfl) ?_
          refine lv_iadd M.x M.b d_M_betweenLaw_88 ?_
          rcases r103 with _ | a105
          · exact absurd hf z_nb0
          replace hf := z_sb hf
          replace hf := z_bind hf; obtain ⟨i108, e107, hf⟩ := hf
          refine z_iald M hH e107 d_M_betweenLaw_89 ?_
          refine lv_imul M.x M.b d_M_betweenLaw_90 ?_
          refine lv_aload_n M.x M.b d_M_betweenLaw_91 rfl (lv_at hl 2 rfl) ?_
          replace hf := z_bind hf; obtain ⟨r109, e110, hf⟩ := hf
          refine z_get (ci := 8) (k := 0) M hH rfl (by decide) zinM q_562 (gA_spec e110) d_M_betweenLaw_92 ?_
          refine lv_iconst (v := (5 : Int32)) M.x M.b d_M_betweenLaw_95 rfl ?_
          refine lv_iload M.x M.b d_M_betweenLaw_96 (lv_at hl 4 rfl) ?_
          refine lv_imul M.x M.b d_M_betweenLaw_98 ?_
          refine lv_iload M.x M.b d_M_betweenLaw_99 (lv_at hl 5 rfl) ?_
          refine lv_iadd M.x M.b d_M_betweenLaw_101 ?_
          rcases r109 with _ | a111
          · exact absurd hf z_nb0
          replace hf := z_sb hf
          replace hf := z_bind hf; obtain ⟨i114, e113, hf⟩ := hf
          refine z_iald M hH e113 d_M_betweenLaw_102 ?_
          refine lv_iload M.x M.b d_M_betweenLaw_103 (lv_at hl 1 rfl) ?_
          refine lv_imul M.x M.b d_M_betweenLaw_105 ?_
          refine lv_icmp_ge (tgt := 114) M.x M.b d_M_betweenLaw_106 (by decide) (fun c115 => ?_) (fun c115 => ?_)
          · replace hf := z_t c115 hf
            refine lv_iload M.x M.b d_M_betweenLaw_114 (lv_at hl 5 rfl) ?_
            exact w_M_betweenLaw_116 M this k29 hk29 _ _ _ _ _ _ _ _ hf H locs ls hH hS (lv_sub hl [2, 3, 4, 6, 7, 1, 0] rfl)
          · replace hf := z_f c115 hf
            exact w_M_betweenLaw_109 M this k29 hk29 _ _ _ _ _ _ _ hf H locs ls hH hS (lv_sub hl [2, 3, 4, 6, 7, 1, 0] rfl)
def f_M_betweenLaw_29 (this : Nat) : Nat → Int32 → Int32 → Int32 → Int32 → Int32 → Hp → Option ((Int32 × Hp))
  | 0, _, _, _, _, _, _ => none
  | n + 1, x3, x4, x6, x7, x8, h => t_M_betweenLaw_29 this (f_M_betweenLaw_29 this n) x3 x4 x6 x7 x8 h
theorem w_M_betweenLaw_29 {p : Program} {l : Launch} {e : Env} {s : State} {m : MethodId} {args : Array Value} {below : List Frame} {meth : Method} {c : Code} {N0 : Nat} {D : va_G} {cs : Nat → ClassId} (M : ZC p s m args meth c "YearBasketsModel" "betweenLaw" b_M_betweenLaw 11 (some .int) N0 D cs) (this : Nat)  {r0 : Int32} {h0 : Hp}  : ∀ (n : Nat) (x3 : Int32) (x4 : Int32) (x6 : Int32) (x7 : Int32) (x8 : Int32) (h : Hp), f_M_betweenLaw_29 this n x3 x4 x6 x7 x8 h = some (r0, h0) → ZG p l e (zrm 9 0 0) s m args below meth c N0 D cs (some (.int r0)) h0 h 11 [(0, .ref this), (3, .int x3), (4, .int x4), (6, .int x6), (7, .int x7), (8, .int x8)] 29 [] := by
  intro n
  induction n with
  | zero => intro x3 x4 x6 x7 x8 h hf; exact absurd (show none = some _ from hf) (fun q => by cases q)
  | succ n ih => intro x3 x4 x6 x7 x8 h hf; exact v_M_betweenLaw_29 M this (f_M_betweenLaw_29 this n)  ih _ _ _ _ _ _ hf
def f_M_betweenLaw (this : Nat) (x1 : Int32) (x2 : Int32) (x3 : Int32) (x4 : Int32) (h : Hp) : Option ((Int32 × Hp)) :=
  if isO h this 8 = true then
  zb2 (f_M_findKept this x1 x2 x3 x4 (0 : Int32) h) fun i121 h122 =>
  if 0 ≤ i121 then
    f_M_betweenLaw_29 this FU x3 x4 (-1 : Int32) (-1 : Int32) (0 : Int32) h122
  else
  some (i121, h122)
  else none
theorem o_M_betweenLaw {this : Nat} {x1 : Int32} {x2 : Int32} {x3 : Int32} {x4 : Int32} {h : Hp} {r0 : Int32} {h0 : Hp} (hf : f_M_betweenLaw this x1 x2 x3 x4 h = some (r0, h0)) : isO h this 8 = true := by
  unfold f_M_betweenLaw at hf
  exact (z_gd hf).1
set_option maxRecDepth 100000 in
set_option maxHeartbeats 4000000 in
theorem c_M_betweenLaw {l : Launch} {N0 : Nat} {D : va_G} {cs : Nat → ClassId} {this : Nat} {x1 : Int32} {x2 : Int32} {x3 : Int32} {x4 : Int32} {h : Hp} {r0 : Int32} {h0 : Hp} (hf : f_M_betweenLaw this x1 x2 x3 x4 h = some (r0, h0)) : Fn l N0 D cs y_M_betweenLaw b_M_betweenLaw 11 (some .int) 9 0 0 [.ref this, .int x1, .int x2, .int x3, .int x4] h (some (.int r0)) h0 := by
  refine z_start (by decide) (Nat.le_of_ble_eq_true rfl) ?_
  intro p e s m args below meth c M hH hS ls hl
  unfold f_M_betweenLaw at hf
  obtain ⟨hO, hf⟩ := z_gd hf
  have hl : lv_has ls 11 [(0, .ref this), (1, .int x1), (2, .int x2), (3, .int x3), (4, .int x4)] := hl
  obtain ⟨H, hHe⟩ : ∃ H, H = s.heap := ⟨_, rfl⟩
  obtain ⟨locs, hLe⟩ : ∃ locs : List Loc, locs = [] := ⟨_, rfl⟩
  have hS : va_S (zA N0) s.heap H locs := by rw [hHe, hLe]; exact hS
  have hH : HH N0 D cs h H := by rw [hHe]; exact hH
  suffices hg : W p l e (zrm 9 0 0) s m args below meth c H locs 0 0 (MQ below (zQ N0 D cs (some (.int r0)) h0) args s 0 0 (zA N0)) (F0 m 0 ls []) by rw [hHe, hLe] at hg; exact hg
  clear hHe hLe
  refine lv_aload_n M.x M.b d_M_betweenLaw_0 rfl (lv_at hl 0 rfl) ?_
  refine lv_iload_n M.x M.b d_M_betweenLaw_1 rfl (lv_at hl 1 rfl) ?_
  refine lv_iload_n M.x M.b d_M_betweenLaw_2 rfl (lv_at hl 2 rfl) ?_
  refine lv_iload_n M.x M.b d_M_betweenLaw_3 rfl (lv_at hl 3 rfl) ?_
  refine lv_iload M.x M.b d_M_betweenLaw_4 (lv_at hl 4 rfl) ?_
  refine lv_iconst (v := (0 : Int32)) M.x M.b d_M_betweenLaw_6 rfl ?_
  replace hf := z_bind2 hf; obtain ⟨i121, h122, e120, hf⟩ := hf
  refine zk_V (ci := 8) (st1 := [.int i121]) M hH hS (c_M_findKept e120) rfl (o_M_findKept e120) w_M_findKept q_760 [] rfl ⟨Nat.le_of_ble_eq_true rfl, Nat.le_of_ble_eq_true rfl⟩ hl.1 rfl rfl (Nat.le_of_ble_eq_true rfl) d_M_betweenLaw_7 (fun H locs hH hS => ?_)
  refine lv_istore (lv' := [(5, .int i121), (0, .ref this), (1, .int x1), (2, .int x2), (3, .int x3), (4, .int x4)]) M.x M.b d_M_betweenLaw_10 hl (by decide) rfl (fun ls hl => ?_)
  refine lv_iload M.x M.b d_M_betweenLaw_12 (lv_at hl 0 rfl) ?_
  refine lv_if_ge (tgt := 20) M.x M.b d_M_betweenLaw_14 (by decide) (fun c123 => ?_) (fun c123 => ?_)
  · replace hf := z_t c123 hf
    refine lv_iconst (v := (-1 : Int32)) M.x M.b d_M_betweenLaw_20 rfl ?_
    refine lv_istore (lv' := [(6, .int (-1 : Int32)), (5, .int i121), (0, .ref this), (1, .int x1), (2, .int x2), (3, .int x3), (4, .int x4)]) M.x M.b d_M_betweenLaw_21 hl (by decide) rfl (fun ls hl => ?_)
    refine lv_iconst (v := (-1 : Int32)) M.x M.b d_M_betweenLaw_23 rfl ?_
    refine lv_istore (lv' := [(7, .int (-1 : Int32)), (6, .int (-1 : Int32)), (5, .int i121), (0, .ref this), (1, .int x1), (2, .int x2), (3, .int x3), (4, .int x4)]) M.x M.b d_M_betweenLaw_24 hl (by decide) rfl (fun ls hl => ?_)
    refine lv_iconst (v := (0 : Int32)) M.x M.b d_M_betweenLaw_26 rfl ?_
    refine lv_istore (lv' := [(8, .int (0 : Int32)), (7, .int (-1 : Int32)), (6, .int (-1 : Int32)), (5, .int i121), (0, .ref this), (1, .int x1), (2, .int x2), (3, .int x3), (4, .int x4)]) M.x M.b d_M_betweenLaw_27 hl (by decide) rfl (fun ls hl => ?_)
    exact w_M_betweenLaw_29 M this FU _ _ _ _ _ _ hf H locs ls hH hS (lv_sub hl [4, 7, 8, 2, 1, 0] rfl)
  · replace hf := z_f c123 hf
    refine lv_iload M.x M.b d_M_betweenLaw_17 (lv_at hl 0 rfl) ?_
    obtain ⟨rfl, rfl⟩ := z_r2 hf
    exact z_iret M hH hS d_M_betweenLaw_19
def f_M_law (this : Nat) (x1 : Int32) (x2 : Int32) (x3 : Int32) (x4 : Int32) (x5 : Int32) (x6 : Int32) (h : Hp) : Option ((Int32 × Hp)) :=
  if isO h this 8 = true then
  if x3 = (0 : Int32) then
    zb2 (f_M_sameLaw this x1 x2 x4 x5 h) fun i3 h4 =>
    some (i3, h4)
  else
  if x3 = (1 : Int32) then
    zb2 (f_M_backLaw this x1 x2 x4 x5 h) fun i7 h8 =>
    some (i7, h8)
  else
  if x3 = (2 : Int32) then
    zb2 (f_M_thirdLaw this x1 x2 x4 x5 x6 h) fun i11 h12 =>
    some (i11, h12)
  else
  if x3 = (3 : Int32) then
    zb2 (f_M_twiceLaw this x1 x2 x4 x5 h) fun i15 h16 =>
    some (i15, h16)
  else
  if x3 = (4 : Int32) then
    zb2 (f_M_unitsLaw this x1 x2 x4 x5 x6 h) fun i19 h20 =>
    some (i19, h20)
  else
  if x3 = (5 : Int32) then
    zb2 (f_M_upLaw this x1 x2 x4 x5 x6 h) fun i23 h24 =>
    some (i23, h24)
  else
  zb2 (f_M_betweenLaw this x1 x2 x4 x5 h) fun i26 h27 =>
  some (i26, h27)
  else none
theorem o_M_law {this : Nat} {x1 : Int32} {x2 : Int32} {x3 : Int32} {x4 : Int32} {x5 : Int32} {x6 : Int32} {h : Hp} {r0 : Int32} {h0 : Hp} (hf : f_M_law this x1 x2 x3 x4 x5 x6 h = some (r0, h0)) : isO h this 8 = true := by
  unfold f_M_law at hf
  exact (z_gd hf).1
set_option maxRecDepth 100000 in
set_option maxHeartbeats 4000000 in
theorem c_M_law {l : Launch} {N0 : Nat} {D : va_G} {cs : Nat → ClassId} {this : Nat} {x1 : Int32} {x2 : Int32} {x3 : Int32} {x4 : Int32} {x5 : Int32} {x6 : Int32} {h : Hp} {r0 : Int32} {h0 : Hp} (hf : f_M_law this x1 x2 x3 x4 x5 x6 h = some (r0, h0)) : Fn l N0 D cs y_M_law b_M_law 7 (some .int) 10 0 0 [.ref this, .int x1, .int x2, .int x3, .int x4, .int x5, .int x6] h (some (.int r0)) h0 := by
  refine z_start (by decide) (Nat.le_of_ble_eq_true rfl) ?_
  intro p e s m args below meth c M hH hS ls hl
  unfold f_M_law at hf
  obtain ⟨hO, hf⟩ := z_gd hf
  have hl : lv_has ls 7 [(0, .ref this), (1, .int x1), (2, .int x2), (3, .int x3), (4, .int x4), (5, .int x5), (6, .int x6)] := hl
  obtain ⟨H, hHe⟩ : ∃ H, H = s.heap := ⟨_, rfl⟩
  obtain ⟨locs, hLe⟩ : ∃ locs : List Loc, locs = [] := ⟨_, rfl⟩
  have hS : va_S (zA N0) s.heap H locs := by rw [hHe, hLe]; exact hS
  have hH : HH N0 D cs h H := by rw [hHe]; exact hH
  suffices hg : W p l e (zrm 10 0 0) s m args below meth c H locs 0 0 (MQ below (zQ N0 D cs (some (.int r0)) h0) args s 0 0 (zA N0)) (F0 m 0 ls []) by rw [hHe, hLe] at hg; exact hg
  clear hHe hLe
  refine lv_iload_n M.x M.b d_M_law_0 rfl (lv_at hl 3 rfl) ?_
  by_cases c1 : x3 = (0 : Int32)
  · replace hf := z_t c1 hf
    refine lv_tableIn (tgt := 40) (off := 39) M.x M.b d_M_law_1 (by rw [c1]; decide) (by rw [c1]; decide) (by rw [c1]; rfl) (by decide) ?_
    refine lv_aload_n M.x M.b d_M_law_40 rfl (lv_at hl 0 rfl) ?_
    refine lv_iload_n M.x M.b d_M_law_41 rfl (lv_at hl 1 rfl) ?_
    refine lv_iload_n M.x M.b d_M_law_42 rfl (lv_at hl 2 rfl) ?_
    refine lv_iload M.x M.b d_M_law_43 (lv_at hl 4 rfl) ?_
    refine lv_iload M.x M.b d_M_law_45 (lv_at hl 5 rfl) ?_
    replace hf := z_bind2 hf; obtain ⟨i3, h4, e2, hf⟩ := hf
    refine zk_V (ci := 8) (st1 := [.int i3]) M hH hS (c_M_sameLaw e2) rfl (o_M_sameLaw e2) w_M_sameLaw q_807 [] rfl ⟨Nat.le_of_ble_eq_true rfl, Nat.le_of_ble_eq_true rfl⟩ hl.1 rfl rfl (Nat.le_of_ble_eq_true rfl) d_M_law_47 (fun H locs hH hS => ?_)
    obtain ⟨rfl, rfl⟩ := z_r2 hf
    exact z_iret M hH hS d_M_law_50
  replace hf := z_f c1 hf
  by_cases c5 : x3 = (1 : Int32)
  · replace hf := z_t c5 hf
    refine lv_tableIn (tgt := 51) (off := 50) M.x M.b d_M_law_1 (by rw [c5]; decide) (by rw [c5]; decide) (by rw [c5]; rfl) (by decide) ?_
    refine lv_aload_n M.x M.b d_M_law_51 rfl (lv_at hl 0 rfl) ?_
    refine lv_iload_n M.x M.b d_M_law_52 rfl (lv_at hl 1 rfl) ?_
    refine lv_iload_n M.x M.b d_M_law_53 rfl (lv_at hl 2 rfl) ?_
    refine lv_iload M.x M.b d_M_law_54 (lv_at hl 4 rfl) ?_
    refine lv_iload M.x M.b d_M_law_56 (lv_at hl 5 rfl) ?_
    replace hf := z_bind2 hf; obtain ⟨i7, h8, e6, hf⟩ := hf
    refine zk_V (ci := 8) (st1 := [.int i7]) M hH hS (c_M_backLaw e6) rfl (o_M_backLaw e6) w_M_backLaw q_808 [] rfl ⟨Nat.le_of_ble_eq_true rfl, Nat.le_of_ble_eq_true rfl⟩ hl.1 rfl rfl (Nat.le_of_ble_eq_true rfl) d_M_law_58 (fun H locs hH hS => ?_)
    obtain ⟨rfl, rfl⟩ := z_r2 hf
    exact z_iret M hH hS d_M_law_61
  replace hf := z_f c5 hf
  by_cases c9 : x3 = (2 : Int32)
  · replace hf := z_t c9 hf
    refine lv_tableIn (tgt := 62) (off := 61) M.x M.b d_M_law_1 (by rw [c9]; decide) (by rw [c9]; decide) (by rw [c9]; rfl) (by decide) ?_
    refine lv_aload_n M.x M.b d_M_law_62 rfl (lv_at hl 0 rfl) ?_
    refine lv_iload_n M.x M.b d_M_law_63 rfl (lv_at hl 1 rfl) ?_
    refine lv_iload_n M.x M.b d_M_law_64 rfl (lv_at hl 2 rfl) ?_
    refine lv_iload M.x M.b d_M_law_65 (lv_at hl 4 rfl) ?_
    refine lv_iload M.x M.b d_M_law_67 (lv_at hl 5 rfl) ?_
    refine lv_iload M.x M.b d_M_law_69 (lv_at hl 6 rfl) ?_
    replace hf := z_bind2 hf; obtain ⟨i11, h12, e10, hf⟩ := hf
    refine zk_V (ci := 8) (st1 := [.int i11]) M hH hS (c_M_thirdLaw e10) rfl (o_M_thirdLaw e10) w_M_thirdLaw q_809 [] rfl ⟨Nat.le_of_ble_eq_true rfl, Nat.le_of_ble_eq_true rfl⟩ hl.1 rfl rfl (Nat.le_of_ble_eq_true rfl) d_M_law_71 (fun H locs hH hS => ?_)
    obtain ⟨rfl, rfl⟩ := z_r2 hf
    exact z_iret M hH hS d_M_law_74
  replace hf := z_f c9 hf
  by_cases c13 : x3 = (3 : Int32)
  · replace hf := z_t c13 hf
    refine lv_tableIn (tgt := 75) (off := 74) M.x M.b d_M_law_1 (by rw [c13]; decide) (by rw [c13]; decide) (by rw [c13]; rfl) (by decide) ?_
    refine lv_aload_n M.x M.b d_M_law_75 rfl (lv_at hl 0 rfl) ?_
    refine lv_iload_n M.x M.b d_M_law_76 rfl (lv_at hl 1 rfl) ?_
    refine lv_iload_n M.x M.b d_M_law_77 rfl (lv_at hl 2 rfl) ?_
    refine lv_iload M.x M.b d_M_law_78 (lv_at hl 4 rfl) ?_
    refine lv_iload M.x M.b d_M_law_80 (lv_at hl 5 rfl) ?_
    replace hf := z_bind2 hf; obtain ⟨i15, h16, e14, hf⟩ := hf
    refine zk_V (ci := 8) (st1 := [.int i15]) M hH hS (c_M_twiceLaw e14) rfl (o_M_twiceLaw e14) w_M_twiceLaw q_810 [] rfl ⟨Nat.le_of_ble_eq_true rfl, Nat.le_of_ble_eq_true rfl⟩ hl.1 rfl rfl (Nat.le_of_ble_eq_true rfl) d_M_law_82 (fun H locs hH hS => ?_)
    obtain ⟨rfl, rfl⟩ := z_r2 hf
    exact z_iret M hH hS d_M_law_85
  replace hf := z_f c13 hf
  by_cases c17 : x3 = (4 : Int32)
  · replace hf := z_t c17 hf
    refine lv_tableIn (tgt := 86) (off := 85) M.x M.b d_M_law_1 (by rw [c17]; decide) (by rw [c17]; decide) (by rw [c17]; rfl) (by decide) ?_
    refine lv_aload_n M.x M.b d_M_law_86 rfl (lv_at hl 0 rfl) ?_
    refine lv_iload_n M.x M.b d_M_law_87 rfl (lv_at hl 1 rfl) ?_
    refine lv_iload_n M.x M.b d_M_law_88 rfl (lv_at hl 2 rfl) ?_
    refine lv_iload M.x M.b d_M_law_89 (lv_at hl 4 rfl) ?_
    refine lv_iload M.x M.b d_M_law_91 (lv_at hl 5 rfl) ?_
    refine lv_iload M.x M.b d_M_law_93 (lv_at hl 6 rfl) ?_
    replace hf := z_bind2 hf; obtain ⟨i19, h20, e18, hf⟩ := hf
    refine zk_V (ci := 8) (st1 := [.int i19]) M hH hS (c_M_unitsLaw e18) rfl (o_M_unitsLaw e18) w_M_unitsLaw q_811 [] rfl ⟨Nat.le_of_ble_eq_true rfl, Nat.le_of_ble_eq_true rfl⟩ hl.1 rfl rfl (Nat.le_of_ble_eq_true rfl) d_M_law_95 (fun H locs hH hS => ?_)
    obtain ⟨rfl, rfl⟩ := z_r2 hf
    exact z_iret M hH hS d_M_law_98
  replace hf := z_f c17 hf
  by_cases c21 : x3 = (5 : Int32)
  · replace hf := z_t c21 hf
    refine lv_tableIn (tgt := 99) (off := 98) M.x M.b d_M_law_1 (by rw [c21]; decide) (by rw [c21]; decide) (by rw [c21]; rfl) (by decide) ?_
    refine lv_aload_n M.x M.b d_M_law_99 rfl (lv_at hl 0 rfl) ?_
    refine lv_iload_n M.x M.b d_M_law_100 rfl (lv_at hl 1 rfl) ?_
    refine lv_iload_n M.x M.b d_M_law_101 rfl (lv_at hl 2 rfl) ?_
    refine lv_iload M.x M.b d_M_law_102 (lv_at hl 4 rfl) ?_
    refine lv_iload M.x M.b d_M_law_104 (lv_at hl 5 rfl) ?_
    refine lv_iload M.x M.b d_M_law_106 (lv_at hl 6 rfl) ?_
    replace hf := z_bind2 hf; obtain ⟨i23, h24, e22, hf⟩ := hf
    refine zk_V (ci := 8) (st1 := [.int i23]) M hH hS (c_M_upLaw e22) rfl (o_M_upLaw e22) w_M_upLaw q_812 [] rfl ⟨Nat.le_of_ble_eq_true rfl, Nat.le_of_ble_eq_true rfl⟩ hl.1 rfl rfl (Nat.le_of_ble_eq_true rfl) d_M_law_108 (fun H locs hH hS => ?_)
    obtain ⟨rfl, rfl⟩ := z_r2 hf
    exact z_iret M hH hS d_M_law_111
  replace hf := z_f c21 hf
  refine lv_tableOut (tgt := 112) M.x M.b d_M_law_1 (by have tc1 := lv_neT (a := 0) c1 (by decide); have tc5 := lv_neT (a := 1) c5 (by decide); have tc9 := lv_neT (a := 2) c9 (by decide); have tc13 := lv_neT (a := 3) c13 (by decide); have tc17 := lv_neT (a := 4) c17 (by decide); have tc21 := lv_neT (a := 5) c21 (by decide); omega) (by decide) ?_
  refine lv_aload_n M.x M.b d_M_law_112 rfl (lv_at hl 0 rfl) ?_
  refine lv_iload_n M.x M.b d_M_law_113 rfl (lv_at hl 1 rfl) ?_
  refine lv_iload_n M.x M.b d_M_law_114 rfl (lv_at hl 2 rfl) ?_
  refine lv_iload M.x M.b d_M_law_115 (lv_at hl 4 rfl) ?_
  refine lv_iload M.x M.b d_M_law_117 (lv_at hl 5 rfl) ?_
  replace hf := z_bind2 hf; obtain ⟨i26, h27, e25, hf⟩ := hf
  refine zk_V (ci := 8) (st1 := [.int i26]) M hH hS (c_M_betweenLaw e25) rfl (o_M_betweenLaw e25) w_M_betweenLaw q_813 [] rfl ⟨Nat.le_of_ble_eq_true rfl, Nat.le_of_ble_eq_true rfl⟩ hl.1 rfl rfl (Nat.le_of_ble_eq_true rfl) d_M_law_119 (fun H locs hH hS => ?_)
  obtain ⟨rfl, rfl⟩ := z_r2 hf
  exact z_iret M hH hS d_M_law_122
def f_M_isBroken_182 (this : Nat) (k9 : Int32 → Int32 → Int32 → Int32 → Int32 → Hp → Option ((Int32 × Hp))) (k19 : Int32 → Int32 → Int32 → Int32 → Int32 → Int32 → Hp → Option ((Int32 × Hp))) (x1 : Int32) (x2 : Int32) (x3 : Int32) (x4 : Int32) (x5 : Int32) (x6 : Int32) (h : Hp) : Option ((Int32 × Hp)) :=
  k19 x1 x2 x3 x4 x5 (x6 + (1 : Int32)) h
set_option maxRecDepth 100000 in
set_option maxHeartbeats 4000000 in
theorem w_M_isBroken_182 {p : Program} {l : Launch} {e : Env} {s : State} {m : MethodId} {args : Array Value} {below : List Frame} {meth : Method} {c : Code} {N0 : Nat} {D : va_G} {cs : Nat → ClassId} (M : ZC p s m args meth c "YearBasketsModel" "isBroken" b_M_isBroken 10 (some .boolean) N0 D cs) (this : Nat) (k9 : Int32 → Int32 → Int32 → Int32 → Int32 → Hp → Option ((Int32 × Hp))) (k19 : Int32 → Int32 → Int32 → Int32 → Int32 → Int32 → Hp → Option ((Int32 × Hp))) {r0 : Int32} {h0 : Hp} (hk9 : ∀ (x1 : Int32) (x2 : Int32) (x3 : Int32) (x4 : Int32) (x5 : Int32) (h : Hp), k9 x1 x2 x3 x4 x5 h = some (r0, h0) → ZG p l e (zrm 11 0 0) s m args below meth c N0 D cs (some (.int r0)) h0 h 10 [(0, .ref this), (1, .int x1), (2, .int x2), (3, .int x3), (4, .int x4), (5, .int x5)] 9 []) (hk19 : ∀ (x1 : Int32) (x2 : Int32) (x3 : Int32) (x4 : Int32) (x5 : Int32) (x6 : Int32) (h : Hp), k19 x1 x2 x3 x4 x5 x6 h = some (r0, h0) → ZG p l e (zrm 11 0 0) s m args below meth c N0 D cs (some (.int r0)) h0 h 10 [(0, .ref this), (1, .int x1), (2, .int x2), (3, .int x3), (4, .int x4), (5, .int x5), (6, .int x6)] 19 []) (x1 : Int32) (x2 : Int32) (x3 : Int32) (x4 : Int32) (x5 : Int32) (x6 : Int32) (h : Hp) (hf : f_M_isBroken_182 this k9 k19 x1 x2 x3 x4 x5 x6 h = some (r0, h0)) : ZG p l e (zrm 11 0 0) s m args below meth c N0 D cs (some (.int r0)) h0 h 10 [(0, .ref this), (1, .int x1), (2, .int x2), (3, .int x3), (4, .int x4), (5, .int x5), (6, .int x6)] 182 [] := by
  intro H locs ls hH hS hl
  unfold f_M_isBroken_182 at hf
  refine lv_iinc (v := (x6 + (1 : Int32))) (lv' := [(6, .int (x6 + (1 : Int32))), (0, .ref this), (1, .int x1), (2, .int x2), (3, .int x3), (4, .int x4), (5, .int x5)]) M.x M.b d_M_isBroken_182 hl (k := 6) rfl rfl (by decide) rfl (fun ls hl => ?_)
  refine lv_goto (tgt := 19) M.x M.b d_M_isBroken_185 (by decide) ?_
  exact hk19 _ _ _ _ _ _ _ hf H locs ls hH hS (lv_sub hl [1, 2, 3, 4, 5, 6, 0] rfl)
def f_M_isBroken_176 (this : Nat) (k9 : Int32 → Int32 → Int32 → Int32 → Int32 → Hp → Option ((Int32 × Hp))) (k19 : Int32 → Int32 → Int32 → Int32 → Int32 → Int32 → Hp → Option ((Int32 × Hp))) (k56 : Int32 → Int32 → Int32 → Int32 → Int32 → Int32 → Int32 → Int32 → Hp → Option ((Int32 × Hp))) (x1 : Int32) (x2 : Int32) (x3 : Int32) (x4 : Int32) (x5 : Int32) (x6 : Int32) (x7 : Int32) (x8 : Int32) (h : Hp) : Option ((Int32 × Hp)) :=
  k56 x1 x2 x3 x4 x5 x6 x7 (x8 + (1 : Int32)) h
set_option maxRecDepth 100000 in
set_option maxHeartbeats 4000000 in
theorem w_M_isBroken_176 {p : Program} {l : Launch} {e : Env} {s : State} {m : MethodId} {args : Array Value} {below : List Frame} {meth : Method} {c : Code} {N0 : Nat} {D : va_G} {cs : Nat → ClassId} (M : ZC p s m args meth c "YearBasketsModel" "isBroken" b_M_isBroken 10 (some .boolean) N0 D cs) (this : Nat) (k9 : Int32 → Int32 → Int32 → Int32 → Int32 → Hp → Option ((Int32 × Hp))) (k19 : Int32 → Int32 → Int32 → Int32 → Int32 → Int32 → Hp → Option ((Int32 × Hp))) (k56 : Int32 → Int32 → Int32 → Int32 → Int32 → Int32 → Int32 → Int32 → Hp → Option ((Int32 × Hp))) {r0 : Int32} {h0 : Hp} (hk9 : ∀ (x1 : Int32) (x2 : Int32) (x3 : Int32) (x4 : Int32) (x5 : Int32) (h : Hp), k9 x1 x2 x3 x4 x5 h = some (r0, h0) → ZG p l e (zrm 11 0 0) s m args below meth c N0 D cs (some (.int r0)) h0 h 10 [(0, .ref this), (1, .int x1), (2, .int x2), (3, .int x3), (4, .int x4), (5, .int x5)] 9 []) (hk19 : ∀ (x1 : Int32) (x2 : Int32) (x3 : Int32) (x4 : Int32) (x5 : Int32) (x6 : Int32) (h : Hp), k19 x1 x2 x3 x4 x5 x6 h = some (r0, h0) → ZG p l e (zrm 11 0 0) s m args below meth c N0 D cs (some (.int r0)) h0 h 10 [(0, .ref this), (1, .int x1), (2, .int x2), (3, .int x3), (4, .int x4), (5, .int x5), (6, .int x6)] 19 []) (hk56 : ∀ (x1 : Int32) (x2 : Int32) (x3 : Int32) (x4 : Int32) (x5 : Int32) (x6 : Int32) (x7 : Int32) (x8 : Int32) (h : Hp), k56 x1 x2 x3 x4 x5 x6 x7 x8 h = some (r0, h0) → ZG p l e (zrm 11 0 0) s m args below meth c N0 D cs (some (.int r0)) h0 h 10 [(0, .ref this), (1, .int x1), (2, .int x2), (3, .int x3), (4, .int x4), (5, .int x5), (6, .int x6), (7, .int x7), (8, .int x8)] 56 []) (x1 : Int32) (x2 : Int32) (x3 : Int32) (x4 : Int32) (x5 : Int32) (x6 : Int32) (x7 : Int32) (x8 : Int32) (h : Hp) (hf : f_M_isBroken_176 this k9 k19 k56 x1 x2 x3 x4 x5 x6 x7 x8 h = some (r0, h0)) : ZG p l e (zrm 11 0 0) s m args below meth c N0 D cs (some (.int r0)) h0 h 10 [(0, .ref this), (1, .int x1), (2, .int x2), (3, .int x3), (4, .int x4), (5, .int x5), (6, .int x6), (7, .int x7), (8, .int x8)] 176 [] := by
  intro H locs ls hH hS hl
  unfold f_M_isBroken_176 at hf
  refine lv_iinc (v := (x8 + (1 : Int32))) (lv' := [(8, .int (x8 + (1 : Int32))), (0, .ref this), (1, .int x1), (2, .int x2), (3, .int x3), (4, .int x4), (5, .int x5), (6, .int x6), (7, .int x7)]) M.x M.b d_M_isBroken_176 hl (k := 8) rfl rfl (by decide) rfl (fun ls hl => ?_)
  refine lv_goto (tgt := 56) M.x M.b d_M_isBroken_179 (by decide) ?_
  exact hk56 _ _ _ _ _ _ _ _ _ hf H locs ls hH hS (lv_sub hl [1, 2, 3, 4, 5, 6, 7, 8, 0] rfl)
def f_M_isBroken_171 (this : Nat) (s1 : Int32) (h : Hp) : Option ((Int32 × Hp)) :=
  (pV h this 8 35 (.int s1)).bind fun h1 =>
  some ((1 : Int32), h1)
set_option maxRecDepth 100000 in
set_option maxHeartbeats 4000000 in
theorem w_M_isBroken_171 {p : Program} {l : Launch} {e : Env} {s : State} {m : MethodId} {args : Array Value} {below : List Frame} {meth : Method} {c : Code} {N0 : Nat} {D : va_G} {cs : Nat → ClassId} (M : ZC p s m args meth c "YearBasketsModel" "isBroken" b_M_isBroken 10 (some .boolean) N0 D cs) (this : Nat)  {r0 : Int32} {h0 : Hp}  (s1 : Int32) (h : Hp) (hf : f_M_isBroken_171 this s1 h = some (r0, h0)) : ZG p l e (zrm 11 0 0) s m args below meth c N0 D cs (some (.int r0)) h0 h 10 [] 171 [.int s1, .ref this] := by
  intro H locs ls hH hS hl
  unfold f_M_isBroken_171 at hf
  replace hf := z_bind hf; obtain ⟨h1, e2, hf⟩ := hf
  refine z_put (ci := 8) (k := 35) M hH hS rfl (by decide) zinM zYM zYM_ok zNM_ok rfl q_817 rfl rfl rfl e2 d_M_isBroken_171 (fun H locs hH hS => ?_)
  refine lv_iconst (v := (1 : Int32)) M.x M.b d_M_isBroken_174 rfl ?_
  obtain ⟨rfl, rfl⟩ := z_r2 hf
  exact z_zret M hH hS (by decide) d_M_isBroken_175
def f_M_isBroken_123 (this : Nat) (k9 : Int32 → Int32 → Int32 → Int32 → Int32 → Hp → Option ((Int32 × Hp))) (k19 : Int32 → Int32 → Int32 → Int32 → Int32 → Int32 → Hp → Option ((Int32 × Hp))) (k56 : Int32 → Int32 → Int32 → Int32 → Int32 → Int32 → Int32 → Int32 → Hp → Option ((Int32 × Hp))) (s0 : Int32) (x1 : Int32) (x2 : Int32) (x3 : Int32) (x4 : Int32) (x5 : Int32) (x6 : Int32) (x7 : Int32) (x8 : Int32) (h : Hp) : Option ((Int32 × Hp)) :=
  if s0 = 0 then
    f_M_isBroken_176 this k9 k19 k56 x1 x2 x3 x4 x5 x6 x7 x8 h
  else
  zb2 (f_M_law this x1 x2 x3 x5 x6 x8 h) fun i4 h5 =>
  if i4 = 0 then
    (pV h5 this 8 33 (.int x5)).bind fun h6 =>
    (pV h6 this 8 34 (.int x6)).bind fun h8 =>
    if x7 = (1 : Int32) then
      f_M_isBroken_171 this (-1 : Int32) h8
    else
    f_M_isBroken_171 this x8 h8
  else
  f_M_isBroken_176 this k9 k19 k56 x1 x2 x3 x4 x5 x6 x7 x8 h5
set_option maxRecDepth 100000 in
set_option maxHeartbeats 4000000 in
theorem w_M_isBroken_123 {p : Program} {l : Launch} {e : Env} {s : State} {m : MethodId} {args : Array Value} {below : List Frame} {meth : Method} {c : Code} {N0 : Nat} {D : va_G} {cs : Nat → ClassId} (M : ZC p s m args meth c "YearBasketsModel" "isBroken" b_M_isBroken 10 (some .boolean) N0 D cs) (this : Nat) (k9 : Int32 → Int32 → Int32 → Int32 → Int32 → Hp → Option ((Int32 × Hp))) (k19 : Int32 → Int32 → Int32 → Int32 → Int32 → Int32 → Hp → Option ((Int32 × Hp))) (k56 : Int32 → Int32 → Int32 → Int32 → Int32 → Int32 → Int32 → Int32 → Hp → Option ((Int32 × Hp))) {r0 : Int32} {h0 : Hp} (hk9 : ∀ (x1 : Int32) (x2 : Int32) (x3 : Int32) (x4 : Int32) (x5 : Int32) (h : Hp), k9 x1 x2 x3 x4 x5 h = some (r0, h0) → ZG p l e (zrm 11 0 0) s m args below meth c N0 D cs (some (.int r0)) h0 h 10 [(0, .ref this), (1, .int x1), (2, .int x2), (3, .int x3), (4, .int x4), (5, .int x5)] 9 []) (hk19 : ∀ (x1 : Int32) (x2 : Int32) (x3 : Int32) (x4 : Int32) (x5 : Int32) (x6 : Int32) (h : Hp), k19 x1 x2 x3 x4 x5 x6 h = some (r0, h0) → ZG p l e (zrm 11 0 0) s m args below meth c N0 D cs (some (.int r0)) h0 h 10 [(0, .ref this), (1, .int x1), (2, .int x2), (3, .int x3), (4, .int x4), (5, .int x5), (6, .int x6)] 19 []) (hk56 : ∀ (x1 : Int32) (x2 : Int32) (x3 : Int32) (x4 : Int32) (x5 : Int32) (x6 : Int32) (x7 : Int32) (x8 : Int32) (h : Hp), k56 x1 x2 x3 x4 x5 x6 x7 x8 h = some (r0, h0) → ZG p l e (zrm 11 0 0) s m args below meth c N0 D cs (some (.int r0)) h0 h 10 [(0, .ref this), (1, .int x1), (2, .int x2), (3, .int x3), (4, .int x4), (5, .int x5), (6, .int x6), (7, .int x7), (8, .int x8)] 56 []) (s0 : Int32) (x1 : Int32) (x2 : Int32) (x3 : Int32) (x4 : Int32) (x5 : Int32) (x6 : Int32) (x7 : Int32) (x8 : Int32) (h : Hp) (hf : f_M_isBroken_123 this k9 k19 k56 s0 x1 x2 x3 x4 x5 x6 x7 x8 h = some (r0, h0)) : ZG p l e (zrm 11 0 0) s m args below meth c N0 D cs (some (.int r0)) h0 h 10 [(0, .ref this), (1, .int x1), (2, .int x2), (3, .int x3), (4, .int x4), (5, .int x5), (6, .int x6), (7, .int x7), (8, .int x8)] 123 [.int s0] := by
  intro H locs ls hH hS hl
  unfold f_M_isBroken_123 at hf
  refine lv_istore (lv' := [(9, .int s0), (0, .ref this), (1, .int x1), (2, .int x2), (3, .int x3), (4, .int x4), (5, .int x5), (6, .int x6), (7, .int x7), (8, .int x8)]) M.x M.b d_M_isBroken_123 hl (by decide) rfl (fun ls hl => ?_)
  refine lv_iload M.x M.b d_M_isBroken_125 (lv_at hl 0 rfl) ?_
  refine lv_if_eq (tgt := 176) M.x M.b d_M_isBroken_127 (by decide) (fun c12 => ?_) (fun c12 => ?_)
  · replace hf := z_t c12 hf
    exact w_M_isBroken_176 M this k9 k19 k56 hk9 hk19 hk56 _ _ _ _ _ _ _ _ _ hf H locs ls hH hS (lv_sub hl [1, 2, 3, 4, 5, 6, 7, 8, 9] rfl)
  · replace hf := z_f c12 hf
    refine lv_aload_n M.x M.b d_M_isBroken_130 rfl (lv_at hl 1 rfl) ?_
    refine lv_iload_n M.x M.b d_M_isBroken_131 rfl (lv_at hl 2 rfl) ?_
    refine lv_iload_n M.x M.b d_M_isBroken_132 rfl (lv_at hl 3 rfl) ?_
    refine lv_iload_n M.x M.b d_M_isBroken_133 rfl (lv_at hl 4 rfl) ?_
    refine lv_iload M.x M.b d_M_isBroken_134 (lv_at hl 6 rfl) ?_
    refine lv_iload M.x M.b d_M_isBroken_136 (lv_at hl 7 rfl) ?_
    refine lv_iload M.x M.b d_M_isBroken_138 (lv_at hl 9 rfl) ?_
    replace hf := z_bind2 hf; obtain ⟨i4, h5, e3, hf⟩ := hf
    refine zk_V (ci := 8) (st1 := [.int i4]) M hH hS (c_M_law e3) rfl (o_M_law e3) w_M_law q_820 [] rfl ⟨Nat.le_of_ble_eq_true rfl, Nat.le_of_ble_eq_true rfl⟩ hl.1 rfl rfl (Nat.le_of_ble_eq_true rfl) d_M_isBroken_140 (fun H locs hH hS => ?_)
    refine lv_if_ne (tgt := 176) M.x M.b d_M_isBroken_143 (by decide) (fun c11 => ?_) (fun c11 => ?_)
    · replace hf := z_f c11 hf
      exact w_M_isBroken_176 M this k9 k19 k56 hk9 hk19 hk56 _ _ _ _ _ _ _ _ _ hf H locs ls hH hS (lv_sub hl [1, 2, 3, 4, 5, 6, 7, 8, 9] rfl)
    · replace hf := z_t c11 hf
      refine lv_aload_n M.x M.b d_M_isBroken_146 rfl (lv_at hl 1 rfl) ?_
      refine lv_iload M.x M.b d_M_isBroken_147 (lv_at hl 6 rfl) ?_
      replace hf := z_bind hf; obtain ⟨h6, e7, hf⟩ := hf
      refine z_put (ci := 8) (k := 33) M hH hS rfl (by decide) zinM zYM zYM_ok zNM_ok rfl q_819 rfl rfl rfl e7 d_M_isBroken_149 (fun H locs hH hS => ?_)
      refine lv_aload_n M.x M.b d_M_isBroken_152 rfl (lv_at hl 1 rfl) ?_
      refine lv_iload M.x M.b d_M_isBroken_153 (lv_at hl 7 rfl) ?_
      replace hf := z_bind hf; obtain ⟨h8, e9, hf⟩ := hf
      refine z_put (ci := 8) (k := 34) M hH hS rfl (by decide) zinM zYM zYM_ok zNM_ok rfl q_818 rfl rfl rfl e9 d_M_isBroken_155 (fun H locs hH hS => ?_)
      refine lv_aload_n M.x M.b d_M_isBroken_158 rfl (lv_at hl 1 rfl) ?_
      refine lv_iload M.x M.b d_M_isBroken_159 (lv_at hl 8 rfl) ?_
      refine lv_iconst (v := (1 : Int32)) M.x M.b d_M_isBroken_161 rfl ?_
      refine lv_icmp_ne (tgt := 169) M.x M.b d_M_isBroken_162 (by decide) (fun c10 => ?_) (fun c10 => ?_)
      · replace hf := z_f c10 hf
        refine lv_iload M.x M.b d_M_isBroken_169 (lv_at hl 9 rfl) ?_
        exact w_M_isBroken_171 M this _ _ hf H locs ls hH hS (lv_sub hl [] rfl)
      · replace hf := z_t c10 hf
        refine lv_iconst (v := (-1 : Int32)) M.x M.b d_M_isBroken_165 rfl ?_
        refine lv_goto (tgt := 171) M.x M.b d_M_isBroken_166 (by decide) ?_
        exact w_M_isBroken_171 M this _ _ hf H locs ls hH hS (lv_sub hl [] rfl)
def f_M_isBroken_118 (this : Nat) (k9 : Int32 → Int32 → Int32 → Int32 → Int32 → Hp → Option ((Int32 × Hp))) (k19 : Int32 → Int32 → Int32 → Int32 → Int32 → Int32 → Hp → Option ((Int32 × Hp))) (k56 : Int32 → Int32 → Int32 → Int32 → Int32 → Int32 → Int32 → Int32 → Hp → Option ((Int32 × Hp))) (x1 : Int32) (x2 : Int32) (x3 : Int32) (x4 : Int32) (x5 : Int32) (x6 : Int32) (x7 : Int32) (x8 : Int32) (h : Hp) : Option ((Int32 × Hp)) :=
  f_M_isBroken_123 this k9 k19 k56 (1 : Int32) x1 x2 x3 x4 x5 x6 x7 x8 h
set_option maxRecDepth 100000 in
set_option maxHeartbeats 4000000 in
theorem w_M_isBroken_118 {p : Program} {l : Launch} {e : Env} {s : State} {m : MethodId} {args : Array Value} {below : List Frame} {meth : Method} {c : Code} {N0 : Nat} {D : va_G} {cs : Nat → ClassId} (M : ZC p s m args meth c "YearBasketsModel" "isBroken" b_M_isBroken 10 (some .boolean) N0 D cs) (this : Nat) (k9 : Int32 → Int32 → Int32 → Int32 → Int32 → Hp → Option ((Int32 × Hp))) (k19 : Int32 → Int32 → Int32 → Int32 → Int32 → Int32 → Hp → Option ((Int32 × Hp))) (k56 : Int32 → Int32 → Int32 → Int32 → Int32 → Int32 → Int32 → Int32 → Hp → Option ((Int32 × Hp))) {r0 : Int32} {h0 : Hp} (hk9 : ∀ (x1 : Int32) (x2 : Int32) (x3 : Int32) (x4 : Int32) (x5 : Int32) (h : Hp), k9 x1 x2 x3 x4 x5 h = some (r0, h0) → ZG p l e (zrm 11 0 0) s m args below meth c N0 D cs (some (.int r0)) h0 h 10 [(0, .ref this), (1, .int x1), (2, .int x2), (3, .int x3), (4, .int x4), (5, .int x5)] 9 []) (hk19 : ∀ (x1 : Int32) (x2 : Int32) (x3 : Int32) (x4 : Int32) (x5 : Int32) (x6 : Int32) (h : Hp), k19 x1 x2 x3 x4 x5 x6 h = some (r0, h0) → ZG p l e (zrm 11 0 0) s m args below meth c N0 D cs (some (.int r0)) h0 h 10 [(0, .ref this), (1, .int x1), (2, .int x2), (3, .int x3), (4, .int x4), (5, .int x5), (6, .int x6)] 19 []) (hk56 : ∀ (x1 : Int32) (x2 : Int32) (x3 : Int32) (x4 : Int32) (x5 : Int32) (x6 : Int32) (x7 : Int32) (x8 : Int32) (h : Hp), k56 x1 x2 x3 x4 x5 x6 x7 x8 h = some (r0, h0) → ZG p l e (zrm 11 0 0) s m args below meth c N0 D cs (some (.int r0)) h0 h 10 [(0, .ref this), (1, .int x1), (2, .int x2), (3, .int x3), (4, .int x4), (5, .int x5), (6, .int x6), (7, .int x7), (8, .int x8)] 56 []) (x1 : Int32) (x2 : Int32) (x3 : Int32) (x4 : Int32) (x5 : Int32) (x6 : Int32) (x7 : Int32) (x8 : Int32) (h : Hp) (hf : f_M_isBroken_118 this k9 k19 k56 x1 x2 x3 x4 x5 x6 x7 x8 h = some (r0, h0)) : ZG p l e (zrm 11 0 0) s m args below meth c N0 D cs (some (.int r0)) h0 h 10 [(0, .ref this), (1, .int x1), (2, .int x2), (3, .int x3), (4, .int x4), (5, .int x5), (6, .int x6), (7, .int x7), (8, .int x8)] 118 [] := by
  intro H locs ls hH hS hl
  unfold f_M_isBroken_118 at hf
  refine lv_iconst (v := (1 : Int32)) M.x M.b d_M_isBroken_118 rfl ?_
  refine lv_goto (tgt := 123) M.x M.b d_M_isBroken_119 (by decide) ?_
  exact w_M_isBroken_123 M this k9 k19 k56 hk9 hk19 hk56 _ _ _ _ _ _ _ _ _ _ hf H locs ls hH hS (lv_sub hl [0, 1, 2, 3, 4, 5, 6, 7, 8] rfl)
def f_M_isBroken_107 (this : Nat) (k9 : Int32 → Int32 → Int32 → Int32 → Int32 → Hp → Option ((Int32 × Hp))) (k19 : Int32 → Int32 → Int32 → Int32 → Int32 → Int32 → Hp → Option ((Int32 × Hp))) (k56 : Int32 → Int32 → Int32 → Int32 → Int32 → Int32 → Int32 → Int32 → Hp → Option ((Int32 × Hp))) (x1 : Int32) (x2 : Int32) (x3 : Int32) (x4 : Int32) (x5 : Int32) (x6 : Int32) (x7 : Int32) (x8 : Int32) (h : Hp) : Option ((Int32 × Hp)) :=
  if ((x4 >>> (x8 &&& 31)) &&& (1 : Int32)) = (1 : Int32) then
    f_M_isBroken_118 this k9 k19 k56 x1 x2 x3 x4 x5 x6 x7 x8 h
  else
  f_M_isBroken_123 this k9 k19 k56 (0 : Int32) x1 x2 x3 x4 x5 x6 x7 x8 h
set_option maxRecDepth 100000 in
set_option maxHeartbeats 4000000 in
theorem w_M_isBroken_107 {p : Program} {l : Launch} {e : Env} {s : State} {m : MethodId} {args : Array Value} {below : List Frame} {meth : Method} {c : Code} {N0 : Nat} {D : va_G} {cs : Nat → ClassId} (M : ZC p s m args meth c "YearBasketsModel" "isBroken" b_M_isBroken 10 (some .boolean) N0 D cs) (this : Nat) (k9 : Int32 → Int32 → Int32 → Int32 → Int32 → Hp → Option ((Int32 × Hp))) (k19 : Int32 → Int32 → Int32 → Int32 → Int32 → Int32 → Hp → Option ((Int32 × Hp))) (k56 : Int32 → Int32 → Int32 → Int32 → Int32 → Int32 → Int32 → Int32 → Hp → Option ((Int32 × Hp))) {r0 : Int32} {h0 : Hp} (hk9 : ∀ (x1 : Int32) (x2 : Int32) (x3 : Int32) (x4 : Int32) (x5 : Int32) (h : Hp), k9 x1 x2 x3 x4 x5 h = some (r0, h0) → ZG p l e (zrm 11 0 0) s m args below meth c N0 D cs (some (.int r0)) h0 h 10 [(0, .ref this), (1, .int x1), (2, .int x2), (3, .int x3), (4, .int x4), (5, .int x5)] 9 []) (hk19 : ∀ (x1 : Int32) (x2 : Int32) (x3 : Int32) (x4 : Int32) (x5 : Int32) (x6 : Int32) (h : Hp), k19 x1 x2 x3 x4 x5 x6 h = some (r0, h0) → ZG p l e (zrm 11 0 0) s m args below meth c N0 D cs (some (.int r0)) h0 h 10 [(0, .ref this), (1, .int x1), (2, .int x2), (3, .int x3), (4, .int x4), (5, .int x5), (6, .int x6)] 19 []) (hk56 : ∀ (x1 : Int32) (x2 : Int32) (x3 : Int32) (x4 : Int32) (x5 : Int32) (x6 : Int32) (x7 : Int32) (x8 : Int32) (h : Hp), k56 x1 x2 x3 x4 x5 x6 x7 x8 h = some (r0, h0) → ZG p l e (zrm 11 0 0) s m args below meth c N0 D cs (some (.int r0)) h0 h 10 [(0, .ref this), (1, .int x1), (2, .int x2), (3, .int x3), (4, .int x4), (5, .int x5), (6, .int x6), (7, .int x7), (8, .int x8)] 56 []) (x1 : Int32) (x2 : Int32) (x3 : Int32) (x4 : Int32) (x5 : Int32) (x6 : Int32) (x7 : Int32) (x8 : Int32) (h : Hp) (hf : f_M_isBroken_107 this k9 k19 k56 x1 x2 x3 x4 x5 x6 x7 x8 h = some (r0, h0)) : ZG p l e (zrm 11 0 0) s m args below meth c N0 D cs (some (.int r0)) h0 h 10 [(0, .ref this), (1, .int x1), (2, .int x2), (3, .int x3), (4, .int x4), (5, .int x5), (6, .int x6), (7, .int x7), (8, .int x8)] 107 [] := by
  intro H locs ls hH hS hl
  unfold f_M_isBroken_107 at hf
  refine lv_iload M.x M.b d_M_isBroken_107 (lv_at hl 4 rfl) ?_
  refine lv_iload M.x M.b d_M_isBroken_109 (lv_at hl 8 rfl) ?_
  refine lv_ishr M.x M.b d_M_isBroken_111 ?_
  refine lv_iconst (v := (1 : Int32)) M.x M.b d_M_isBroken_112 rfl ?_
  refine lv_iand M.x M.b d_M_isBroken_113 ?_
  refine lv_iconst (v := (1 : Int32)) M.x M.b d_M_isBroken_114 rfl ?_
  refine lv_icmp_ne (tgt := 122) M.x M.b d_M_isBroken_115 (by decide) (fun c13 => ?_) (fun c13 => ?_)
  · replace hf := z_f c13 hf
    refine lv_iconst (v := (0 : Int32)) M.x M.b d_M_isBroken_122 rfl ?_
    exact w_M_isBroken_123 M this k9 k19 k56 hk9 hk19 hk56 _ _ _ _ _ _ _ _ _ _ hf H locs ls hH hS (lv_sub hl [0, 1, 2, 3, 4, 5, 6, 7, 8] rfl)
  · replace hf := z_t c13 hf
    exact w_M_isBroken_118 M this k9 k19 k56 hk9 hk19 hk56 _ _ _ _ _ _ _ _ _ hf H locs ls hH hS (lv_sub hl [0, 1, 2, 3, 4, 5, 6, 7, 8] rfl)
def f_M_isBroken_93 (this : Nat) (k9 : Int32 → Int32 → Int32 → Int32 → Int32 → Hp → Option ((Int32 × Hp))) (k19 : Int32 → Int32 → Int32 → Int32 → Int32 → Int32 → Hp → Option ((Int32 × Hp))) (k56 : Int32 → Int32 → Int32 → Int32 → Int32 → Int32 → Int32 → Int32 → Hp → Option ((Int32 × Hp))) (x1 : Int32) (x2 : Int32) (x3 : Int32) (x4 : Int32) (x5 : Int32) (x6 : Int32) (x7 : Int32) (x8 : Int32) (h : Hp) : Option ((Int32 × Hp)) :=
  f_M_isBroken_123 this k9 k19 k56 (0 : Int32) x1 x2 x3 x4 x5 x6 x7 x8 h
set_option maxRecDepth 100000 in
set_option maxHeartbeats 4000000 in
theorem w_M_isBroken_93 {p : Program} {l : Launch} {e : Env} {s : State} {m : MethodId} {args : Array Value} {below : List Frame} {meth : Method} {c : Code} {N0 : Nat} {D : va_G} {cs : Nat → ClassId} (M : ZC p s m args meth c "YearBasketsModel" "isBroken" b_M_isBroken 10 (some .boolean) N0 D cs) (this : Nat) (k9 : Int32 → Int32 → Int32 → Int32 → Int32 → Hp → Option ((Int32 × Hp))) (k19 : Int32 → Int32 → Int32 → Int32 → Int32 → Int32 → Hp → Option ((Int32 × Hp))) (k56 : Int32 → Int32 → Int32 → Int32 → Int32 → Int32 → Int32 → Int32 → Hp → Option ((Int32 × Hp))) {r0 : Int32} {h0 : Hp} (hk9 : ∀ (x1 : Int32) (x2 : Int32) (x3 : Int32) (x4 : Int32) (x5 : Int32) (h : Hp), k9 x1 x2 x3 x4 x5 h = some (r0, h0) → ZG p l e (zrm 11 0 0) s m args below meth c N0 D cs (some (.int r0)) h0 h 10 [(0, .ref this), (1, .int x1), (2, .int x2), (3, .int x3), (4, .int x4), (5, .int x5)] 9 []) (hk19 : ∀ (x1 : Int32) (x2 : Int32) (x3 : Int32) (x4 : Int32) (x5 : Int32) (x6 : Int32) (h : Hp), k19 x1 x2 x3 x4 x5 x6 h = some (r0, h0) → ZG p l e (zrm 11 0 0) s m args below meth c N0 D cs (some (.int r0)) h0 h 10 [(0, .ref this), (1, .int x1), (2, .int x2), (3, .int x3), (4, .int x4), (5, .int x5), (6, .int x6)] 19 []) (hk56 : ∀ (x1 : Int32) (x2 : Int32) (x3 : Int32) (x4 : Int32) (x5 : Int32) (x6 : Int32) (x7 : Int32) (x8 : Int32) (h : Hp), k56 x1 x2 x3 x4 x5 x6 x7 x8 h = some (r0, h0) → ZG p l e (zrm 11 0 0) s m args below meth c N0 D cs (some (.int r0)) h0 h 10 [(0, .ref this), (1, .int x1), (2, .int x2), (3, .int x3), (4, .int x4), (5, .int x5), (6, .int x6), (7, .int x7), (8, .int x8)] 56 []) (x1 : Int32) (x2 : Int32) (x3 : Int32) (x4 : Int32) (x5 : Int32) (x6 : Int32) (x7 : Int32) (x8 : Int32) (h : Hp) (hf : f_M_isBroken_93 this k9 k19 k56 x1 x2 x3 x4 x5 x6 x7 x8 h = some (r0, h0)) : ZG p l e (zrm 11 0 0) s m args below meth c N0 D cs (some (.int r0)) h0 h 10 [(0, .ref this), (1, .int x1), (2, .int x2), (3, .int x3), (4, .int x4), (5, .int x5), (6, .int x6), (7, .int x7), (8, .int x8)] 93 [] := by
  intro H locs ls hH hS hl
  unfold f_M_isBroken_93 at hf
  refine lv_iconst (v := (0 : Int32)) M.x M.b d_M_isBroken_93 rfl ?_
  refine lv_goto (tgt := 123) M.x M.b d_M_isBroken_94 (by decide) ?_
  exact w_M_isBroken_123 M this k9 k19 k56 hk9 hk19 hk56 _ _ _ _ _ _ _ _ _ _ hf H locs ls hH hS (lv_sub hl [0, 1, 2, 3, 4, 5, 6, 7, 8] rfl)
def t_M_isBroken_56 (this : Nat) (k9 : Int32 → Int32 → Int32 → Int32 → Int32 → Hp → Option ((Int32 × Hp))) (k19 : Int32 → Int32 → Int32 → Int32 → Int32 → Int32 → Hp → Option ((Int32 × Hp))) (k56 : Int32 → Int32 → Int32 → Int32 → Int32 → Int32 → Int32 → Int32 → Hp → Option ((Int32 × Hp))) (x1 : Int32) (x2 : Int32) (x3 : Int32) (x4 : Int32) (x5 : Int32) (x6 : Int32) (x7 : Int32) (x8 : Int32) (h : Hp) : Option ((Int32 × Hp)) :=
  if x7 ≤ x8 then
    f_M_isBroken_182 this k9 k19 x1 x2 x3 x4 x5 x6 h
  else
  if x5 = x6 then
    f_M_isBroken_182 this k9 k19 x1 x2 x3 x4 x5 x6 h
  else
  if x3 = (2 : Int32) then
    if x8 = x5 then
      f_M_isBroken_93 this k9 k19 k56 x1 x2 x3 x4 x5 x6 x7 x8 h
    else
    if x8 = x6 then
      f_M_isBroken_93 this k9 k19 k56 x1 x2 x3 x4 x5 x6 x7 x8 h
    else
    f_M_isBroken_123 this k9 k19 k56 (1 : Int32) x1 x2 x3 x4 x5 x6 x7 x8 h
  else
  if x3 = (4 : Int32) then
    f_M_isBroken_107 this k9 k19 k56 x1 x2 x3 x4 x5 x6 x7 x8 h
  else
  if x3 = (5 : Int32) then
    f_M_isBroken_107 this k9 k19 k56 x1 x2 x3 x4 x5 x6 x7 x8 h
  else
  f_M_isBroken_118 this k9 k19 k56 x1 x2 x3 x4 x5 x6 x7 x8 h
set_option maxRecDepth 100000 in
set_option maxHeartbeats 4000000 in
theorem v_M_isBroken_56 {p : Program} {l : Launch} {e : Env} {s : State} {m : MethodId} {args : Array Value} {below : List Frame} {meth : Method} {c : Code} {N0 : Nat} {D : va_G} {cs : Nat → ClassId} (M : ZC p s m args meth c "YearBasketsModel" "isBroken" b_M_isBroken 10 (some .boolean) N0 D cs) (this : Nat) (k9 : Int32 → Int32 → Int32 → Int32 → Int32 → Hp → Option ((Int32 × Hp))) (k19 : Int32 → Int32 → Int32 → Int32 → Int32 → Int32 → Hp → Option ((Int32 × Hp))) (k56 : Int32 → Int32 → Int32 → Int32 → Int32 → Int32 → Int32 → Int32 → Hp → Option ((Int32 × Hp))) {r0 : Int32} {h0 : Hp} (hk9 : ∀ (x1 : Int32) (x2 : Int32) (x3 : Int32) (x4 : Int32) (x5 : Int32) (h : Hp), k9 x1 x2 x3 x4 x5 h = some (r0, h0) → ZG p l e (zrm 11 0 0) s m args below meth c N0 D cs (some (.int r0)) h0 h 10 [(0, .ref this), (1, .int x1), (2, .int x2), (3, .int x3), (4, .int x4), (5, .int x5)] 9 []) (hk19 : ∀ (x1 : Int32) (x2 : Int32) (x3 : Int32) (x4 : Int32) (x5 : Int32) (x6 : Int32) (h : Hp), k19 x1 x2 x3 x4 x5 x6 h = some (r0, h0) → ZG p l e (zrm 11 0 0) s m args below meth c N0 D cs (some (.int r0)) h0 h 10 [(0, .ref this), (1, .int x1), (2, .int x2), (3, .int x3), (4, .int x4), (5, .int x5), (6, .int x6)] 19 []) (hk56 : ∀ (x1 : Int32) (x2 : Int32) (x3 : Int32) (x4 : Int32) (x5 : Int32) (x6 : Int32) (x7 : Int32) (x8 : Int32) (h : Hp), k56 x1 x2 x3 x4 x5 x6 x7 x8 h = some (r0, h0) → ZG p l e (zrm 11 0 0) s m args below meth c N0 D cs (some (.int r0)) h0 h 10 [(0, .ref this), (1, .int x1), (2, .int x2), (3, .int x3), (4, .int x4), (5, .int x5), (6, .int x6), (7, .int x7), (8, .int x8)] 56 []) (x1 : Int32) (x2 : Int32) (x3 : Int32) (x4 : Int32) (x5 : Int32) (x6 : Int32) (x7 : Int32) (x8 : Int32) (h : Hp) (hf : t_M_isBroken_56 this k9 k19 k56 x1 x2 x3 x4 x5 x6 x7 x8 h = some (r0, h0)) : ZG p l e (zrm 11 0 0) s m args below meth c N0 D cs (some (.int r0)) h0 h 10 [(0, .ref this), (1, .int x1), (2, .int x2), (3, .int x3), (4, .int x4), (5, .int x5), (6, .int x6), (7, .int x7), (8, .int x8)] 56 [] := by
  intro H locs ls hH hS hl
  unfold t_M_isBroken_56 at hf
  refine lv_iload M.x M.b d_M_isBroken_56 (lv_at hl 8 rfl) ?_
  refine lv_iload M.x M.b d_M_isBroken_58 (lv_at hl 7 rfl) ?_
  refine lv_icmp_ge (tgt := 182) M.x M.b d_M_isBroken_60 (by decide) (fun c20 => ?_) (fun c20 => ?_)
  · replace hf := z_t c20 hf
    exact w_M_isBroken_182 M this k9 k19 hk9 hk19 _ _ _ _ _ _ _ hf H locs ls hH hS (lv_sub hl [0, 1, 2, 3, 4, 5, 6] rfl)
  · replace hf := z_f c20 hf
    refine lv_iload M.x M.b d_M_isBroken_63 (lv_at hl 5 rfl) ?_
    refine lv_iload M.x M.b d_M_isBroken_65 (lv_at hl 6 rfl) ?_
    refine lv_icmp_eq (tgt := 182) M.x M.b d_M_isBroken_67 (by decide) (fun c19 => ?_) (fun c19 => ?_)
    · replace hf := z_t c19 hf
      exact w_M_isBroken_182 M this k9 k19 hk9 hk19 _ _ _ _ _ _ _ hf H locs ls hH hS (lv_sub hl [0, 1, 2, 3, 4, 5, 6] rfl)
    · replace hf := z_f c19 hf
      refine lv_iload_n M.x M.b d_M_isBroken_70 rfl (lv_at hl 3 rfl) ?_
      refine lv_iconst (v := (2 : Int32)) M.x M.b d_M_isBroken_71 rfl ?_
      refine lv_icmp_ne (tgt := 97) M.x M.b d_M_isBroken_72 (by decide) (fun c18 => ?_) (fun c18 => ?_)
      · replace hf := z_f c18 hf
        refine lv_iload_n M.x M.b d_M_isBroken_97 rfl (lv_at hl 3 rfl) ?_
        refine lv_iconst (v := (4 : Int32)) M.x M.b d_M_isBroken_98 rfl ?_
        refine lv_icmp_eq (tgt := 107) M.x M.b d_M_isBroken_99 (by decide) (fun c15 => ?_) (fun c15 => ?_)
        · replace hf := z_t c15 hf
          exact w_M_isBroken_107 M this k9 k19 k56 hk9 hk19 hk56 _ _ _ _ _ _ _ _ _ hf H locs ls hH hS (lv_sub hl [0, 1, 2, 3, 4, 5, 6, 7, 8] rfl)
        · replace hf := z_f c15 hf
          refine lv_iload_n M.x M.b d_M_isBroken_102 rfl (lv_at hl 3 rfl) ?_
          refine lv_iconst (v := (5 : Int32)) M.x M.b d_M_isBroken_103 rfl ?_
          refine lv_icmp_ne (tgt := 118) M.x M.b d_M_isBroken_104 (by decide) (fun c14 => ?_) (fun c14 => ?_)
          · replace hf := z_f c14 hf
            exact w_M_isBroken_118 M this k9 k19 k56 hk9 hk19 hk56 _ _ _ _ _ _ _ _ _ hf H locs ls hH hS (lv_sub hl [0, 1, 2, 3, 4, 5, 6, 7, 8] rfl)
          · replace hf := z_t c14 hf
            exact w_M_isBroken_107 M this k9 k19 k56 hk9 hk19 hk56 _ _ _ _ _ _ _ _ _ hf H locs ls hH hS (lv_sub hl [0, 1, 2, 3, 4, 5, 6, 7, 8] rfl)
      · replace hf := z_t c18 hf
        refine lv_iload M.x M.b d_M_isBroken_75 (lv_at hl 8 rfl) ?_
        refine lv_iload M.x M.b d_M_isBroken_77 (lv_at hl 5 rfl) ?_
        refine lv_icmp_eq (tgt := 93) M.x M.b d_M_isBroken_79 (by decide) (fun c17 => ?_) (fun c17 => ?_)
        · replace hf := z_t c17 hf
          exact w_M_isBroken_93 M this k9 k19 k56 hk9 hk19 hk56 _ _ _ _ _ _ _ _ _ hf H locs ls hH hS (lv_sub hl [0, 1, 2, 3, 4, 5, 6, 7, 8] rfl)
        · replace hf := z_f c17 hf
          refine lv_iload M.x M.b d_M_isBroken_82 (lv_at hl 8 rfl) ?_
          refine lv_iload M.x M.b d_M_isBroken_84 (lv_at hl 6 rfl) ?_
          refine lv_icmp_eq (tgt := 93) M.x M.b d_M_isBroken_86 (by decide) (fun c16 => ?_) (fun c16 => ?_)
          · replace hf := z_t c16 hf
            exact w_M_isBroken_93 M this k9 k19 k56 hk9 hk19 hk56 _ _ _ _ _ _ _ _ _ hf H locs ls hH hS (lv_sub hl [0, 1, 2, 3, 4, 5, 6, 7, 8] rfl)
          · replace hf := z_f c16 hf
            refine lv_iconst (v := (1 : Int32)) M.x M.b d_M_isBroken_89 rfl ?_
            refine lv_goto (tgt := 123) M.x M.b d_M_isBroken_90 (by decide) ?_
            exact w_M_isBroken_123 M this k9 k19 k56 hk9 hk19 hk56 _ _ _ _ _ _ _ _ _ _ hf H locs ls hH hS (lv_sub hl [0, 1, 2, 3, 4, 5, 6, 7, 8] rfl)
def f_M_isBroken_56 (this : Nat) (k9 : Int32 → Int32 → Int32 → Int32 → Int32 → Hp → Option ((Int32 × Hp))) (k19 : Int32 → Int32 → Int32 → Int32 → Int32 → Int32 → Hp → Option ((Int32 × Hp))) : Nat → Int32 → Int32 → Int32 → Int32 → Int32 → Int32 → Int32 → Int32 → Hp → Option ((Int32 × Hp))
  | 0, _, _, _, _, _, _, _, _, _ => none
  | n + 1, x1, x2, x3, x4, x5, x6, x7, x8, h => t_M_isBroken_56 this k9 k19 (f_M_isBroken_56 this k9 k19 n) x1 x2 x3 x4 x5 x6 x7 x8 h
theorem w_M_isBroken_56 {p : Program} {l : Launch} {e : Env} {s : State} {m : MethodId} {args : Array Value} {below : List Frame} {meth : Method} {c : Code} {N0 : Nat} {D : va_G} {cs : Nat → ClassId} (M : ZC p s m args meth c "YearBasketsModel" "isBroken" b_M_isBroken 10 (some .boolean) N0 D cs) (this : Nat) (k9 : Int32 → Int32 → Int32 → Int32 → Int32 → Hp → Option ((Int32 × Hp))) (k19 : Int32 → Int32 → Int32 → Int32 → Int32 → Int32 → Hp → Option ((Int32 × Hp))) {r0 : Int32} {h0 : Hp} (hk9 : ∀ (x1 : Int32) (x2 : Int32) (x3 : Int32) (x4 : Int32) (x5 : Int32) (h : Hp), k9 x1 x2 x3 x4 x5 h = some (r0, h0) → ZG p l e (zrm 11 0 0) s m args below meth c N0 D cs (some (.int r0)) h0 h 10 [(0, .ref this), (1, .int x1), (2, .int x2), (3, .int x3), (4, .int x4), (5, .int x5)] 9 []) (hk19 : ∀ (x1 : Int32) (x2 : Int32) (x3 : Int32) (x4 : Int32) (x5 : Int32) (x6 : Int32) (h : Hp), k19 x1 x2 x3 x4 x5 x6 h = some (r0, h0) → ZG p l e (zrm 11 0 0) s m args below meth c N0 D cs (some (.int r0)) h0 h 10 [(0, .ref this), (1, .int x1), (2, .int x2), (3, .int x3), (4, .int x4), (5, .int x5), (6, .int x6)] 19 []) : ∀ (n : Nat) (x1 : Int32) (x2 : Int32) (x3 : Int32) (x4 : Int32) (x5 : Int32) (x6 : Int32) (x7 : Int32) (x8 : Int32) (h : Hp), f_M_isBroken_56 this k9 k19 n x1 x2 x3 x4 x5 x6 x7 x8 h = some (r0, h0) → ZG p l e (zrm 11 0 0) s m args below meth c N0 D cs (some (.int r0)) h0 h 10 [(0, .ref this), (1, .int x1), (2, .int x2), (3, .int x3), (4, .int x4), (5, .int x5), (6, .int x6), (7, .int x7), (8, .int x8)] 56 [] := by
  intro n
  induction n with
  | zero => intro x1 x2 x3 x4 x5 x6 x7 x8 h hf; exact absurd (show none = some _ from hf) (fun q => by cases q)
  | succ n ih => intro x1 x2 x3 x4 x5 x6 x7 x8 h hf; exact v_M_isBroken_56 M this k9 k19 (f_M_isBroken_56 this k9 k19 n) hk9 hk19 ih _ _ _ _ _ _ _ _ _ hf
def f_M_isBroken_51 (this : Nat) (k9 : Int32 → Int32 → Int32 → Int32 → Int32 → Hp → Option ((Int32 × Hp))) (k19 : Int32 → Int32 → Int32 → Int32 → Int32 → Int32 → Hp → Option ((Int32 × Hp))) (s0 : Int32) (x1 : Int32) (x2 : Int32) (x3 : Int32) (x4 : Int32) (x5 : Int32) (x6 : Int32) (h : Hp) : Option ((Int32 × Hp)) :=
  f_M_isBroken_56 this k9 k19 FU x1 x2 x3 x4 x5 x6 s0 (0 : Int32) h
set_option maxRecDepth 100000 in
set_option maxHeartbeats 4000000 in
theorem w_M_isBroken_51 {p : Program} {l : Launch} {e : Env} {s : State} {m : MethodId} {args : Array Value} {below : List Frame} {meth : Method} {c : Code} {N0 : Nat} {D : va_G} {cs : Nat → ClassId} (M : ZC p s m args meth c "YearBasketsModel" "isBroken" b_M_isBroken 10 (some .boolean) N0 D cs) (this : Nat) (k9 : Int32 → Int32 → Int32 → Int32 → Int32 → Hp → Option ((Int32 × Hp))) (k19 : Int32 → Int32 → Int32 → Int32 → Int32 → Int32 → Hp → Option ((Int32 × Hp))) {r0 : Int32} {h0 : Hp} (hk9 : ∀ (x1 : Int32) (x2 : Int32) (x3 : Int32) (x4 : Int32) (x5 : Int32) (h : Hp), k9 x1 x2 x3 x4 x5 h = some (r0, h0) → ZG p l e (zrm 11 0 0) s m args below meth c N0 D cs (some (.int r0)) h0 h 10 [(0, .ref this), (1, .int x1), (2, .int x2), (3, .int x3), (4, .int x4), (5, .int x5)] 9 []) (hk19 : ∀ (x1 : Int32) (x2 : Int32) (x3 : Int32) (x4 : Int32) (x5 : Int32) (x6 : Int32) (h : Hp), k19 x1 x2 x3 x4 x5 x6 h = some (r0, h0) → ZG p l e (zrm 11 0 0) s m args below meth c N0 D cs (some (.int r0)) h0 h 10 [(0, .ref this), (1, .int x1), (2, .int x2), (3, .int x3), (4, .int x4), (5, .int x5), (6, .int x6)] 19 []) (s0 : Int32) (x1 : Int32) (x2 : Int32) (x3 : Int32) (x4 : Int32) (x5 : Int32) (x6 : Int32) (h : Hp) (hf : f_M_isBroken_51 this k9 k19 s0 x1 x2 x3 x4 x5 x6 h = some (r0, h0)) : ZG p l e (zrm 11 0 0) s m args below meth c N0 D cs (some (.int r0)) h0 h 10 [(0, .ref this), (1, .int x1), (2, .int x2), (3, .int x3), (4, .int x4), (5, .int x5), (6, .int x6)] 51 [.int s0] := by
  intro H locs ls hH hS hl
  unfold f_M_isBroken_51 at hf
  refine lv_istore (lv' := [(7, .int s0), (0, .ref this), (1, .int x1), (2, .int x2), (3, .int x3), (4, .int x4), (5, .int x5), (6, .int x6)]) M.x M.b d_M_isBroken_51 hl (by decide) rfl (fun ls hl => ?_)
  refine lv_iconst (v := (0 : Int32)) M.x M.b d_M_isBroken_53 rfl ?_
  refine lv_istore (lv' := [(8, .int (0 : Int32)), (7, .int s0), (0, .ref this), (1, .int x1), (2, .int x2), (3, .int x3), (4, .int x4), (5, .int x5), (6, .int x6)]) M.x M.b d_M_isBroken_54 hl (by decide) rfl (fun ls hl => ?_)
  exact w_M_isBroken_56 M this k9 k19 hk9 hk19 FU _ _ _ _ _ _ _ _ _ hf H locs ls hH hS (lv_sub hl [2, 3, 4, 5, 6, 7, 8, 1, 0] rfl)
def f_M_isBroken_46 (this : Nat) (k9 : Int32 → Int32 → Int32 → Int32 → Int32 → Hp → Option ((Int32 × Hp))) (k19 : Int32 → Int32 → Int32 → Int32 → Int32 → Int32 → Hp → Option ((Int32 × Hp))) (x1 : Int32) (x2 : Int32) (x3 : Int32) (x4 : Int32) (x5 : Int32) (x6 : Int32) (h : Hp) : Option ((Int32 × Hp)) :=
  f_M_isBroken_51 this k9 k19 (5 : Int32) x1 x2 x3 x4 x5 x6 h
set_option maxRecDepth 100000 in
set_option maxHeartbeats 4000000 in
theorem w_M_isBroken_46 {p : Program} {l : Launch} {e : Env} {s : State} {m : MethodId} {args : Array Value} {below : List Frame} {meth : Method} {c : Code} {N0 : Nat} {D : va_G} {cs : Nat → ClassId} (M : ZC p s m args meth c "YearBasketsModel" "isBroken" b_M_isBroken 10 (some .boolean) N0 D cs) (this : Nat) (k9 : Int32 → Int32 → Int32 → Int32 → Int32 → Hp → Option ((Int32 × Hp))) (k19 : Int32 → Int32 → Int32 → Int32 → Int32 → Int32 → Hp → Option ((Int32 × Hp))) {r0 : Int32} {h0 : Hp} (hk9 : ∀ (x1 : Int32) (x2 : Int32) (x3 : Int32) (x4 : Int32) (x5 : Int32) (h : Hp), k9 x1 x2 x3 x4 x5 h = some (r0, h0) → ZG p l e (zrm 11 0 0) s m args below meth c N0 D cs (some (.int r0)) h0 h 10 [(0, .ref this), (1, .int x1), (2, .int x2), (3, .int x3), (4, .int x4), (5, .int x5)] 9 []) (hk19 : ∀ (x1 : Int32) (x2 : Int32) (x3 : Int32) (x4 : Int32) (x5 : Int32) (x6 : Int32) (h : Hp), k19 x1 x2 x3 x4 x5 x6 h = some (r0, h0) → ZG p l e (zrm 11 0 0) s m args below meth c N0 D cs (some (.int r0)) h0 h 10 [(0, .ref this), (1, .int x1), (2, .int x2), (3, .int x3), (4, .int x4), (5, .int x5), (6, .int x6)] 19 []) (x1 : Int32) (x2 : Int32) (x3 : Int32) (x4 : Int32) (x5 : Int32) (x6 : Int32) (h : Hp) (hf : f_M_isBroken_46 this k9 k19 x1 x2 x3 x4 x5 x6 h = some (r0, h0)) : ZG p l e (zrm 11 0 0) s m args below meth c N0 D cs (some (.int r0)) h0 h 10 [(0, .ref this), (1, .int x1), (2, .int x2), (3, .int x3), (4, .int x4), (5, .int x5), (6, .int x6)] 46 [] := by
  intro H locs ls hH hS hl
  unfold f_M_isBroken_46 at hf
  refine lv_iconst (v := (5 : Int32)) M.x M.b d_M_isBroken_46 rfl ?_
  refine lv_goto (tgt := 51) M.x M.b d_M_isBroken_47 (by decide) ?_
  exact w_M_isBroken_51 M this k9 k19 hk9 hk19 _ _ _ _ _ _ _ _ hf H locs ls hH hS (lv_sub hl [0, 1, 2, 3, 4, 5, 6] rfl)
def t_M_isBroken_19 (this : Nat) (k9 : Int32 → Int32 → Int32 → Int32 → Int32 → Hp → Option ((Int32 × Hp))) (k19 : Int32 → Int32 → Int32 → Int32 → Int32 → Int32 → Hp → Option ((Int32 × Hp))) (x1 : Int32) (x2 : Int32) (x3 : Int32) (x4 : Int32) (x5 : Int32) (x6 : Int32) (h : Hp) : Option ((Int32 × Hp)) :=
  if (8 : Int32) ≤ x6 then
    k9 x1 x2 x3 x4 (x5 + (1 : Int32)) h
  else
  if x3 = (2 : Int32) then
    f_M_isBroken_51 this k9 k19 (8 : Int32) x1 x2 x3 x4 x5 x6 h
  else
  if x3 = (4 : Int32) then
    f_M_isBroken_46 this k9 k19 x1 x2 x3 x4 x5 x6 h
  else
  if x3 = (5 : Int32) then
    f_M_isBroken_46 this k9 k19 x1 x2 x3 x4 x5 x6 h
  else
  f_M_isBroken_51 this k9 k19 (1 : Int32) x1 x2 x3 x4 x5 x6 h
set_option maxRecDepth 100000 in
set_option maxHeartbeats 4000000 in
theorem v_M_isBroken_19 {p : Program} {l : Launch} {e : Env} {s : State} {m : MethodId} {args : Array Value} {below : List Frame} {meth : Method} {c : Code} {N0 : Nat} {D : va_G} {cs : Nat → ClassId} (M : ZC p s m args meth c "YearBasketsModel" "isBroken" b_M_isBroken 10 (some .boolean) N0 D cs) (this : Nat) (k9 : Int32 → Int32 → Int32 → Int32 → Int32 → Hp → Option ((Int32 × Hp))) (k19 : Int32 → Int32 → Int32 → Int32 → Int32 → Int32 → Hp → Option ((Int32 × Hp))) {r0 : Int32} {h0 : Hp} (hk9 : ∀ (x1 : Int32) (x2 : Int32) (x3 : Int32) (x4 : Int32) (x5 : Int32) (h : Hp), k9 x1 x2 x3 x4 x5 h = some (r0, h0) → ZG p l e (zrm 11 0 0) s m args below meth c N0 D cs (some (.int r0)) h0 h 10 [(0, .ref this), (1, .int x1), (2, .int x2), (3, .int x3), (4, .int x4), (5, .int x5)] 9 []) (hk19 : ∀ (x1 : Int32) (x2 : Int32) (x3 : Int32) (x4 : Int32) (x5 : Int32) (x6 : Int32) (h : Hp), k19 x1 x2 x3 x4 x5 x6 h = some (r0, h0) → ZG p l e (zrm 11 0 0) s m args below meth c N0 D cs (some (.int r0)) h0 h 10 [(0, .ref this), (1, .int x1), (2, .int x2), (3, .int x3), (4, .int x4), (5, .int x5), (6, .int x6)] 19 []) (x1 : Int32) (x2 : Int32) (x3 : Int32) (x4 : Int32) (x5 : Int32) (x6 : Int32) (h : Hp) (hf : t_M_isBroken_19 this k9 k19 x1 x2 x3 x4 x5 x6 h = some (r0, h0)) : ZG p l e (zrm 11 0 0) s m args below meth c N0 D cs (some (.int r0)) h0 h 10 [(0, .ref this), (1, .int x1), (2, .int x2), (3, .int x3), (4, .int x4), (5, .int x5), (6, .int x6)] 19 [] := by
  intro H locs ls hH hS hl
  unfold t_M_isBroken_19 at hf
  refine lv_iload M.x M.b d_M_isBroken_19 (lv_at hl 6 rfl) ?_
  refine lv_bipush (v := (8 : Int32)) M.x M.b d_M_isBroken_21 rfl ?_
  refine lv_icmp_ge (tgt := 188) M.x M.b d_M_isBroken_23 (by decide) (fun c24 => ?_) (fun c24 => ?_)
  · replace hf := z_t c24 hf
    refine lv_iinc (v := (x5 + (1 : Int32))) (lv' := [(5, .int (x5 + (1 : Int32))), (0, .ref this), (1, .int x1), (2, .int x2), (3, .int x3), (4, .int x4), (6, .int x6)]) M.x M.b d_M_isBroken_188 hl (k := 5) rfl rfl (by decide) rfl (fun ls hl => ?_)
    refine lv_goto (tgt := 9) M.x M.b d_M_isBroken_191 (by decide) ?_
    exact hk9 _ _ _ _ _ _ hf H locs ls hH hS (lv_sub hl [1, 2, 3, 4, 5, 0] rfl)
  · replace hf := z_f c24 hf
    refine lv_iload_n M.x M.b d_M_isBroken_26 rfl (lv_at hl 3 rfl) ?_
    refine lv_iconst (v := (2 : Int32)) M.x M.b d_M_isBroken_27 rfl ?_
    refine lv_icmp_ne (tgt := 36) M.x M.b d_M_isBroken_28 (by decide) (fun c23 => ?_) (fun c23 => ?_)
    · replace hf := z_f c23 hf
      refine lv_iload_n M.x M.b d_M_isBroken_36 rfl (lv_at hl 3 rfl) ?_
      refine lv_iconst (v := (4 : Int32)) M.x M.b d_M_isBroken_37 rfl ?_
      refine lv_icmp_eq (tgt := 46) M.x M.b d_M_isBroken_38 (by decide) (fun c22 => ?_) (fun c22 => ?_)
      · replace hf := z_t c22 hf
        exact w_M_isBroken_46 M this k9 k19 hk9 hk19 _ _ _ _ _ _ _ hf H locs ls hH hS (lv_sub hl [0, 1, 2, 3, 4, 5, 6] rfl)
      · replace hf := z_f c22 hf
        refine lv_iload_n M.x M.b d_M_isBroken_41 rfl (lv_at hl 3 rfl) ?_
        refine lv_iconst (v := (5 : Int32)) M.x M.b d_M_isBroken_42 rfl ?_
        refine lv_icmp_ne (tgt := 50) M.x M.b d_M_isBroken_43 (by decide) (fun c21 => ?_) (fun c21 => ?_)
        · replace hf := z_f c21 hf
          refine lv_iconst (v := (1 : Int32)) M.x M.b d_M_isBroken_50 rfl ?_
          exact w_M_isBroken_51 M this k9 k19 hk9 hk19 _ _ _ _ _ _ _ _ hf H locs ls hH hS (lv_sub hl [0, 1, 2, 3, 4, 5, 6] rfl)
        · replace hf := z_t c21 hf
          exact w_M_isBroken_46 M this k9 k19 hk9 hk19 _ _ _ _ _ _ _ hf H locs ls hH hS (lv_sub hl [0, 1, 2, 3, 4, 5, 6] rfl)
    · replace hf := z_t c23 hf
      refine lv_bipush (v := (8 : Int32)) M.x M.b d_M_isBroken_31 rfl ?_
      refine lv_goto (tgt := 51) M.x M.b d_M_isBroken_33 (by decide) ?_
      exact w_M_isBroken_51 M this k9 k19 hk9 hk19 _ _ _ _ _ _ _ _ hf H locs ls hH hS (lv_sub hl [0, 1, 2, 3, 4, 5, 6] rfl)
def f_M_isBroken_19 (this : Nat) (k9 : Int32 → Int32 → Int32 → Int32 → Int32 → Hp → Option ((Int32 × Hp))) : Nat → Int32 → Int32 → Int32 → Int32 → Int32 → Int32 → Hp → Option ((Int32 × Hp))
  | 0, _, _, _, _, _, _, _ => none
  | n + 1, x1, x2, x3, x4, x5, x6, h => t_M_isBroken_19 this k9 (f_M_isBroken_19 this k9 n) x1 x2 x3 x4 x5 x6 h
theorem w_M_isBroken_19 {p : Program} {l : Launch} {e : Env} {s : State} {m : MethodId} {args : Array Value} {below : List Frame} {meth : Method} {c : Code} {N0 : Nat} {D : va_G} {cs : Nat → ClassId} (M : ZC p s m args meth c "YearBasketsModel" "isBroken" b_M_isBroken 10 (some .boolean) N0 D cs) (this : Nat) (k9 : Int32 → Int32 → Int32 → Int32 → Int32 → Hp → Option ((Int32 × Hp))) {r0 : Int32} {h0 : Hp} (hk9 : ∀ (x1 : Int32) (x2 : Int32) (x3 : Int32) (x4 : Int32) (x5 : Int32) (h : Hp), k9 x1 x2 x3 x4 x5 h = some (r0, h0) → ZG p l e (zrm 11 0 0) s m args below meth c N0 D cs (some (.int r0)) h0 h 10 [(0, .ref this), (1, .int x1), (2, .int x2), (3, .int x3), (4, .int x4), (5, .int x5)] 9 []) : ∀ (n : Nat) (x1 : Int32) (x2 : Int32) (x3 : Int32) (x4 : Int32) (x5 : Int32) (x6 : Int32) (h : Hp), f_M_isBroken_19 this k9 n x1 x2 x3 x4 x5 x6 h = some (r0, h0) → ZG p l e (zrm 11 0 0) s m args below meth c N0 D cs (some (.int r0)) h0 h 10 [(0, .ref this), (1, .int x1), (2, .int x2), (3, .int x3), (4, .int x4), (5, .int x5), (6, .int x6)] 19 [] := by
  intro n
  induction n with
  | zero => intro x1 x2 x3 x4 x5 x6 h hf; exact absurd (show none = some _ from hf) (fun q => by cases q)
  | succ n ih => intro x1 x2 x3 x4 x5 x6 h hf; exact v_M_isBroken_19 M this k9 (f_M_isBroken_19 this k9 n) hk9 ih _ _ _ _ _ _ _ hf
def t_M_isBroken_9 (this : Nat) (k9 : Int32 → Int32 → Int32 → Int32 → Int32 → Hp → Option ((Int32 × Hp))) (x1 : Int32) (x2 : Int32) (x3 : Int32) (x4 : Int32) (x5 : Int32) (h : Hp) : Option ((Int32 × Hp)) :=
  if (8 : Int32) ≤ x5 then
    some ((0 : Int32), h)
  else
  f_M_isBroken_19 this k9 FU x1 x2 x3 x4 x5 (0 : Int32) h
set_option maxRecDepth 100000 in
set_option maxHeartbeats 4000000 in
theorem v_M_isBroken_9 {p : Program} {l : Launch} {e : Env} {s : State} {m : MethodId} {args : Array Value} {below : List Frame} {meth : Method} {c : Code} {N0 : Nat} {D : va_G} {cs : Nat → ClassId} (M : ZC p s m args meth c "YearBasketsModel" "isBroken" b_M_isBroken 10 (some .boolean) N0 D cs) (this : Nat) (k9 : Int32 → Int32 → Int32 → Int32 → Int32 → Hp → Option ((Int32 × Hp))) {r0 : Int32} {h0 : Hp} (hk9 : ∀ (x1 : Int32) (x2 : Int32) (x3 : Int32) (x4 : Int32) (x5 : Int32) (h : Hp), k9 x1 x2 x3 x4 x5 h = some (r0, h0) → ZG p l e (zrm 11 0 0) s m args below meth c N0 D cs (some (.int r0)) h0 h 10 [(0, .ref this), (1, .int x1), (2, .int x2), (3, .int x3), (4, .int x4), (5, .int x5)] 9 []) (x1 : Int32) (x2 : Int32) (x3 : Int32) (x4 : Int32) (x5 : Int32) (h : Hp) (hf : t_M_isBroken_9 this k9 x1 x2 x3 x4 x5 h = some (r0, h0)) : ZG p l e (zrm 11 0 0) s m args below meth c N0 D cs (some (.int r0)) h0 h 10 [(0, .ref this), (1, .int x1), (2, .int x2), (3, .int x3), (4, .int x4), (5, .int x5)] 9 [] := by
  intro H locs ls hH hS hl
  unfold t_M_isBroken_9 at hf
  refine lv_iload M.x M.b d_M_isBroken_9 (lv_at hl 5 rfl) ?_
  refine lv_bipush (v := (8 : Int32)) M.x M.b d_M_isBroken_11 rfl ?_
  refine lv_icmp_ge (tgt := 194) M.x M.b d_M_isBroken_13 (by decide) (fun c25 => ?_) (fun c25 => ?_)
  · replace hf := z_t c25 hf
    refine lv_iconst (v := (0 : Int32)) M.x M.b d_M_isBroken_194 rfl ?_
    obtain ⟨rfl, rfl⟩ := z_r2 hf
    exact z_zret M hH hS (by decide) d_M_isBroken_195
  · replace hf := z_f c25 hf
    refine lv_iconst (v := (0 : Int32)) M.x M.b d_M_isBroken_16 rfl ?_
    refine lv_istore (lv' := [(6, .int (0 : Int32)), (0, .ref this), (1, .int x1), (2, .int x2), (3, .int x3), (4, .int x4), (5, .int x5)]) M.x M.b d_M_isBroken_17 hl (by decide) rfl (fun ls hl => ?_)
    exact w_M_isBroken_19 M this k9 hk9 FU _ _ _ _ _ _ _ hf H locs ls hH hS (lv_sub hl [1, 2, 3, 4, 5, 6, 0] rfl)
def f_M_isBroken_9 (this : Nat) : Nat → Int32 → Int32 → Int32 → Int32 → Int32 → Hp → Option ((Int32 × Hp))
  | 0, _, _, _, _, _, _ => none
  | n + 1, x1, x2, x3, x4, x5, h => t_M_isBroken_9 this (f_M_isBroken_9 this n) x1 x2 x3 x4 x5 h
theorem w_M_isBroken_9 {p : Program} {l : Launch} {e : Env} {s : State} {m : MethodId} {args : Array Value} {below : List Frame} {meth : Method} {c : Code} {N0 : Nat} {D : va_G} {cs : Nat → ClassId} (M : ZC p s m args meth c "YearBasketsModel" "isBroken" b_M_isBroken 10 (some .boolean) N0 D cs) (this : Nat)  {r0 : Int32} {h0 : Hp}  : ∀ (n : Nat) (x1 : Int32) (x2 : Int32) (x3 : Int32) (x4 : Int32) (x5 : Int32) (h : Hp), f_M_isBroken_9 this n x1 x2 x3 x4 x5 h = some (r0, h0) → ZG p l e (zrm 11 0 0) s m args below meth c N0 D cs (some (.int r0)) h0 h 10 [(0, .ref this), (1, .int x1), (2, .int x2), (3, .int x3), (4, .int x4), (5, .int x5)] 9 [] := by
  intro n
  induction n with
  | zero => intro x1 x2 x3 x4 x5 h hf; exact absurd (show none = some _ from hf) (fun q => by cases q)
  | succ n ih => intro x1 x2 x3 x4 x5 h hf; exact v_M_isBroken_9 M this (f_M_isBroken_9 this n)  ih _ _ _ _ _ _ hf
def f_M_isBroken (this : Nat) (x1 : Int32) (x2 : Int32) (x3 : Int32) (h : Hp) : Option ((Int32 × Hp)) :=
  if isO h this 8 = true then
  (f_M_allGoods this h).bind fun i27 =>
  f_M_isBroken_9 this FU x1 x2 x3 i27 (0 : Int32) h
  else none
theorem o_M_isBroken {this : Nat} {x1 : Int32} {x2 : Int32} {x3 : Int32} {h : Hp} {r0 : Int32} {h0 : Hp} (hf : f_M_isBroken this x1 x2 x3 h = some (r0, h0)) : isO h this 8 = true := by
  unfold f_M_isBroken at hf
  exact (z_gd hf).1
set_option maxRecDepth 100000 in
set_option maxHeartbeats 4000000 in
theorem c_M_isBroken {l : Launch} {N0 : Nat} {D : va_G} {cs : Nat → ClassId} {this : Nat} {x1 : Int32} {x2 : Int32} {x3 : Int32} {h : Hp} {r0 : Int32} {h0 : Hp} (hf : f_M_isBroken this x1 x2 x3 h = some (r0, h0)) : Fn l N0 D cs y_M_isBroken b_M_isBroken 10 (some .boolean) 11 0 0 [.ref this, .int x1, .int x2, .int x3] h (some (.int r0)) h0 := by
  refine z_start (by decide) (Nat.le_of_ble_eq_true rfl) ?_
  intro p e s m args below meth c M hH hS ls hl
  unfold f_M_isBroken at hf
  obtain ⟨hO, hf⟩ := z_gd hf
  have hl : lv_has ls 10 [(0, .ref this), (1, .int x1), (2, .int x2), (3, .int x3)] := hl
  obtain ⟨H, hHe⟩ : ∃ H, H = s.heap := ⟨_, rfl⟩
  obtain ⟨locs, hLe⟩ : ∃ locs : List Loc, locs = [] := ⟨_, rfl⟩
  have hS : va_S (zA N0) s.heap H locs := by rw [hHe, hLe]; exact hS
  have hH : HH N0 D cs h H := by rw [hHe]; exact hH
  suffices hg : W p l e (zrm 11 0 0) s m args below meth c H locs 0 0 (MQ below (zQ N0 D cs (some (.int r0)) h0) args s 0 0 (zA N0)) (F0 m 0 ls []) by rw [hHe, hLe] at hg; exact hg
  clear hHe hLe
  refine lv_aload_n M.x M.b d_M_isBroken_0 rfl (lv_at hl 0 rfl) ?_
  replace hf := z_bind hf; obtain ⟨i27, e26, hf⟩ := hf
  refine zk_V (ci := 8) (st1 := [.int i27]) M hH hS (c_M_allGoods e26) rfl (o_M_allGoods e26) w_M_allGoods q_593 [] rfl ⟨Nat.le_of_ble_eq_true rfl, Nat.le_of_ble_eq_true rfl⟩ hl.1 rfl rfl (Nat.le_of_ble_eq_true rfl) d_M_isBroken_1 (fun H locs hH hS => ?_)
  refine lv_istore (lv' := [(4, .int i27), (0, .ref this), (1, .int x1), (2, .int x2), (3, .int x3)]) M.x M.b d_M_isBroken_4 hl (by decide) rfl (fun ls hl => ?_)
  refine lv_iconst (v := (0 : Int32)) M.x M.b d_M_isBroken_6 rfl ?_
  refine lv_istore (lv' := [(5, .int (0 : Int32)), (4, .int i27), (0, .ref this), (1, .int x1), (2, .int x2), (3, .int x3)]) M.x M.b d_M_isBroken_7 hl (by decide) rfl (fun ls hl => ?_)
  exact w_M_isBroken_9 M this FU _ _ _ _ _ _ hf H locs ls hH hS (lv_sub hl [2, 3, 4, 5, 1, 0] rfl)
def f_M_isLaw (x0 : Int32) : Option (Int32) :=
  (f_M_in (x0).toInt64 (0 : Int64) (6 : Int64)).bind fun i2 =>
  (zB i2).bind fun _ =>
  some i2
set_option maxRecDepth 100000 in
set_option maxHeartbeats 4000000 in
theorem c_M_isLaw {l : Launch} {N0 : Nat} {D : va_G} {cs : Nat → ClassId} {x0 : Int32} {r0 : Int32} {h : Hp} (hf : f_M_isLaw x0 = some r0) : Fn l N0 D cs y_M_isLaw b_M_isLaw 1 (some .boolean) 2 0 0 [.int x0] h (some (.int r0)) h := by
  refine z_start (by decide) (Nat.le_of_ble_eq_true rfl) ?_
  intro p e s m args below meth c M hH hS ls hl
  unfold f_M_isLaw at hf
  have hl : lv_has ls 1 [(0, .int x0)] := hl
  obtain ⟨H, hHe⟩ : ∃ H, H = s.heap := ⟨_, rfl⟩
  obtain ⟨locs, hLe⟩ : ∃ locs : List Loc, locs = [] := ⟨_, rfl⟩
  have hS : va_S (zA N0) s.heap H locs := by rw [hHe, hLe]; exact hS
  have hH : HH N0 D cs h H := by rw [hHe]; exact hH
  suffices hg : W p l e (zrm 2 0 0) s m args below meth c H locs 0 0 (MQ below (zQ N0 D cs (some (.int r0)) h) args s 0 0 (zA N0)) (F0 m 0 ls []) by rw [hHe, hLe] at hg; exact hg
  clear hHe hLe
  refine lv_iload_n M.x M.b d_M_isLaw_0 rfl (lv_at hl 0 rfl) ?_
  refine lv_i2l M.x M.b d_M_isLaw_1 rfl ?_
  refine lv_lconst (v := (0 : Int64)) M.x M.b d_M_isLaw_2 rfl ?_
  refine z_ldc2 (v := (6 : Int64)) M q_823 d_M_isLaw_3 ?_
  replace hf := z_bind hf; obtain ⟨i2, e1, hf⟩ := hf
  refine zk_S (st1 := [.int i2]) M hH hS (c_M_in e1) w_M_in q_551 [] rfl ⟨Nat.le_of_ble_eq_true rfl, Nat.le_of_ble_eq_true rfl⟩ hl.1 rfl rfl (Nat.le_of_ble_eq_true rfl) d_M_isLaw_6 (fun H locs hH hS => ?_)
  replace hf := z_bind hf; obtain ⟨_, e3, hf⟩ := hf
  have z4 := (zB_spec e3).2
  obtain rfl := z_r1 hf
  exact z_zret M hH hS z4 d_M_isLaw_9
def f_M_keeps (this : Nat) (x1 : Int32) (x2 : Int32) (x3 : Int32) (h : Hp) : Option ((Int32 × Hp)) :=
  if isO h this 8 = true then
  (f_M_isNumber this h x1).bind fun i2 =>
  if i2 = 0 then
    some ((-1001 : Int32), h)
  else
  (f_M_isWho x2).bind fun i4 =>
  if i4 = 0 then
    some ((-1001 : Int32), h)
  else
  (f_M_isLaw x3).bind fun i6 =>
  if i6 = 0 then
    some ((-1001 : Int32), h)
  else
  zb2 (f_M_isBroken this x1 x2 x3 h) fun i8 h9 =>
  if i8 = 0 then
    some ((1 : Int32), h9)
  else
  some ((0 : Int32), h9)
  else none
theorem o_M_keeps {this : Nat} {x1 : Int32} {x2 : Int32} {x3 : Int32} {h : Hp} {r0 : Int32} {h0 : Hp} (hf : f_M_keeps this x1 x2 x3 h = some (r0, h0)) : isO h this 8 = true := by
  unfold f_M_keeps at hf
  exact (z_gd hf).1
set_option maxRecDepth 100000 in
set_option maxHeartbeats 4000000 in
theorem c_M_keeps {l : Launch} {N0 : Nat} {D : va_G} {cs : Nat → ClassId} {this : Nat} {x1 : Int32} {x2 : Int32} {x3 : Int32} {h : Hp} {r0 : Int32} {h0 : Hp} (hf : f_M_keeps this x1 x2 x3 h = some (r0, h0)) : Fn l N0 D cs y_M_keeps b_M_keeps 4 (some .int) 12 0 0 [.ref this, .int x1, .int x2, .int x3] h (some (.int r0)) h0 := by
  refine z_start (by decide) (Nat.le_of_ble_eq_true rfl) ?_
  intro p e s m args below meth c M hH hS ls hl
  unfold f_M_keeps at hf
  obtain ⟨hO, hf⟩ := z_gd hf
  have hl : lv_has ls 4 [(0, .ref this), (1, .int x1), (2, .int x2), (3, .int x3)] := hl
  obtain ⟨H, hHe⟩ : ∃ H, H = s.heap := ⟨_, rfl⟩
  obtain ⟨locs, hLe⟩ : ∃ locs : List Loc, locs = [] := ⟨_, rfl⟩
  have hS : va_S (zA N0) s.heap H locs := by rw [hHe, hLe]; exact hS
  have hH : HH N0 D cs h H := by rw [hHe]; exact hH
  suffices hg : W p l e (zrm 12 0 0) s m args below meth c H locs 0 0 (MQ below (zQ N0 D cs (some (.int r0)) h0) args s 0 0 (zA N0)) (F0 m 0 ls []) by rw [hHe, hLe] at hg; exact hg
  clear hHe hLe
  refine lv_aload_n M.x M.b d_M_keeps_0 rfl (lv_at hl 0 rfl) ?_
  refine lv_iload_n M.x M.b d_M_keeps_1 rfl (lv_at hl 1 rfl) ?_
  replace hf := z_bind hf; obtain ⟨i2, e1, hf⟩ := hf
  refine zk_V (ci := 8) (st1 := [.int i2]) M hH hS (c_M_isNumber e1) rfl (o_M_isNumber e1) w_M_isNumber q_742 [] rfl ⟨Nat.le_of_ble_eq_true rfl, Nat.le_of_ble_eq_true rfl⟩ hl.1 rfl rfl (Nat.le_of_ble_eq_true rfl) d_M_keeps_2 (fun H locs hH hS => ?_)
  refine lv_if_eq (tgt := 22) M.x M.b d_M_keeps_5 (by decide) (fun c13 => ?_) (fun c13 => ?_)
  · replace hf := z_t c13 hf
    refine lv_sipush (v := (-1001 : Int32)) M.x M.b d_M_keeps_22 rfl ?_
    obtain ⟨rfl, rfl⟩ := z_r2 hf
    exact z_iret M hH hS d_M_keeps_25
  · replace hf := z_f c13 hf
    refine lv_iload_n M.x M.b d_M_keeps_8 rfl (lv_at hl 2 rfl) ?_
    replace hf := z_bind hf; obtain ⟨i4, e3, hf⟩ := hf
    refine zk_S (st1 := [.int i4]) M hH hS (c_M_isWho e3) w_M_isWho q_582 [] rfl ⟨Nat.le_of_ble_eq_true rfl, Nat.le_of_ble_eq_true rfl⟩ hl.1 rfl rfl (Nat.le_of_ble_eq_true rfl) d_M_keeps_9 (fun H locs hH hS => ?_)
    refine lv_if_eq (tgt := 22) M.x M.b d_M_keeps_12 (by decide) (fun c12 => ?_) (fun c12 => ?_)
    · replace hf := z_t c12 hf
      refine lv_sipush (v := (-1001 : Int32)) M.x M.b d_M_keeps_22 rfl ?_
      obtain ⟨rfl, rfl⟩ := z_r2 hf
      exact z_iret M hH hS d_M_keeps_25
    · replace hf := z_f c12 hf
      refine lv_iload_n M.x M.b d_M_keeps_15 rfl (lv_at hl 3 rfl) ?_
      replace hf := z_bind hf; obtain ⟨i6, e5, hf⟩ := hf
      refine zk_S (st1 := [.int i6]) M hH hS (c_M_isLaw e5) w_M_isLaw q_828 [] rfl ⟨Nat.le_of_ble_eq_true rfl, Nat.le_of_ble_eq_true rfl⟩ hl.1 rfl rfl (Nat.le_of_ble_eq_true rfl) d_M_keeps_16 (fun H locs hH hS => ?_)
      refine lv_if_ne (tgt := 26) M.x M.b d_M_keeps_19 (by decide) (fun c11 => ?_) (fun c11 => ?_)
      · replace hf := z_f c11 hf
        refine lv_aload_n M.x M.b d_M_keeps_26 rfl (lv_at hl 0 rfl) ?_
        refine lv_iload_n M.x M.b d_M_keeps_27 rfl (lv_at hl 1 rfl) ?_
        refine lv_iload_n M.x M.b d_M_keeps_28 rfl (lv_at hl 2 rfl) ?_
        refine lv_iload_n M.x M.b d_M_keeps_29 rfl (lv_at hl 3 rfl) ?_
        replace hf := z_bind2 hf; obtain ⟨i8, h9, e7, hf⟩ := hf
        refine zk_V (ci := 8) (st1 := [.int i8]) M hH hS (c_M_isBroken e7) rfl (o_M_isBroken e7) w_M_isBroken q_827 [] rfl ⟨Nat.le_of_ble_eq_true rfl, Nat.le_of_ble_eq_true rfl⟩ hl.1 rfl rfl (Nat.le_of_ble_eq_true rfl) d_M_keeps_30 (fun H locs hH hS => ?_)
        refine lv_if_eq (tgt := 40) M.x M.b d_M_keeps_33 (by decide) (fun c10 => ?_) (fun c10 => ?_)
        · replace hf := z_t c10 hf
          refine lv_iconst (v := (1 : Int32)) M.x M.b d_M_keeps_40 rfl ?_
          obtain ⟨rfl, rfl⟩ := z_r2 hf
          exact z_iret M hH hS d_M_keeps_41
        · replace hf := z_f c10 hf
          refine lv_iconst (v := (0 : Int32)) M.x M.b d_M_keeps_36 rfl ?_
          refine lv_goto (tgt := 41) M.x M.b d_M_keeps_37 (by decide) ?_
          obtain ⟨rfl, rfl⟩ := z_r2 hf
          exact z_iret M hH hS d_M_keeps_41
      · replace hf := z_t c11 hf
        refine lv_sipush (v := (-1001 : Int32)) M.x M.b d_M_keeps_22 rfl ?_
        obtain ⟨rfl, rfl⟩ := z_r2 hf
        exact z_iret M hH hS d_M_keeps_25
def f_M_breach (this : Nat) (x1 : Int32) (x2 : Int32) (x3 : Int32) (x4 : Int32) (h : Hp) : Option ((Int32 × Hp)) :=
  if isO h this 8 = true then
  (f_M_isNumber this h x1).bind fun i2 =>
  if i2 = 0 then
    some ((-1001 : Int32), h)
  else
  (f_M_isWho x2).bind fun i4 =>
  if i4 = 0 then
    some ((-1001 : Int32), h)
  else
  (f_M_isLaw x3).bind fun i6 =>
  if i6 = 0 then
    some ((-1001 : Int32), h)
  else
  (f_M_in (x4).toInt64 (0 : Int64) (2 : Int64)).bind fun i8 =>
  if i8 = 0 then
    some ((-1002 : Int32), h)
  else
  zb2 (f_M_isBroken this x1 x2 x3 h) fun i10 h11 =>
  if i10 = 0 then
    some ((-1 : Int32), h11)
  else
  if x4 = 0 then
    (gI h11 this 8 33).bind fun i17 =>
    some (i17, h11)
  else
  if x4 = (1 : Int32) then
    (gI h11 this 8 34).bind fun i14 =>
    some (i14, h11)
  else
  (gI h11 this 8 35).bind fun i12 =>
  some (i12, h11)
  else none
theorem o_M_breach {this : Nat} {x1 : Int32} {x2 : Int32} {x3 : Int32} {x4 : Int32} {h : Hp} {r0 : Int32} {h0 : Hp} (hf : f_M_breach this x1 x2 x3 x4 h = some (r0, h0)) : isO h this 8 = true := by
  unfold f_M_breach at hf
  exact (z_gd hf).1
set_option maxRecDepth 100000 in
set_option maxHeartbeats 4000000 in
theorem c_M_breach {l : Launch} {N0 : Nat} {D : va_G} {cs : Nat → ClassId} {this : Nat} {x1 : Int32} {x2 : Int32} {x3 : Int32} {x4 : Int32} {h : Hp} {r0 : Int32} {h0 : Hp} (hf : f_M_breach this x1 x2 x3 x4 h = some (r0, h0)) : Fn l N0 D cs y_M_breach b_M_breach 5 (some .int) 12 0 0 [.ref this, .int x1, .int x2, .int x3, .int x4] h (some (.int r0)) h0 := by
  refine z_start (by decide) (Nat.le_of_ble_eq_true rfl) ?_
  intro p e s m args below meth c M hH hS ls hl
  unfold f_M_breach at hf
  obtain ⟨hO, hf⟩ := z_gd hf
  have hl : lv_has ls 5 [(0, .ref this), (1, .int x1), (2, .int x2), (3, .int x3), (4, .int x4)] := hl
  obtain ⟨H, hHe⟩ : ∃ H, H = s.heap := ⟨_, rfl⟩
  obtain ⟨locs, hLe⟩ : ∃ locs : List Loc, locs = [] := ⟨_, rfl⟩
  have hS : va_S (zA N0) s.heap H locs := by rw [hHe, hLe]; exact hS
  have hH : HH N0 D cs h H := by rw [hHe]; exact hH
  suffices hg : W p l e (zrm 12 0 0) s m args below meth c H locs 0 0 (MQ below (zQ N0 D cs (some (.int r0)) h0) args s 0 0 (zA N0)) (F0 m 0 ls []) by rw [hHe, hLe] at hg; exact hg
  clear hHe hLe
  refine lv_aload_n M.x M.b d_M_breach_0 rfl (lv_at hl 0 rfl) ?_
  refine lv_iload_n M.x M.b d_M_breach_1 rfl (lv_at hl 1 rfl) ?_
  replace hf := z_bind hf; obtain ⟨i2, e1, hf⟩ := hf
  refine zk_V (ci := 8) (st1 := [.int i2]) M hH hS (c_M_isNumber e1) rfl (o_M_isNumber e1) w_M_isNumber q_742 [] rfl ⟨Nat.le_of_ble_eq_true rfl, Nat.le_of_ble_eq_true rfl⟩ hl.1 rfl rfl (Nat.le_of_ble_eq_true rfl) d_M_breach_2 (fun H locs hH hS => ?_)
  refine lv_if_eq (tgt := 22) M.x M.b d_M_breach_5 (by decide) (fun c24 => ?_) (fun c24 => ?_)
  · replace hf := z_t c24 hf
    refine lv_sipush (v := (-1001 : Int32)) M.x M.b d_M_breach_22 rfl ?_
    obtain ⟨rfl, rfl⟩ := z_r2 hf
    exact z_iret M hH hS d_M_breach_25
  · replace hf := z_f c24 hf
    refine lv_iload_n M.x M.b d_M_breach_8 rfl (lv_at hl 2 rfl) ?_
    replace hf := z_bind hf; obtain ⟨i4, e3, hf⟩ := hf
    refine zk_S (st1 := [.int i4]) M hH hS (c_M_isWho e3) w_M_isWho q_582 [] rfl ⟨Nat.le_of_ble_eq_true rfl, Nat.le_of_ble_eq_true rfl⟩ hl.1 rfl rfl (Nat.le_of_ble_eq_true rfl) d_M_breach_9 (fun H locs hH hS => ?_)
    refine lv_if_eq (tgt := 22) M.x M.b d_M_breach_12 (by decide) (fun c23 => ?_) (fun c23 => ?_)
    · replace hf := z_t c23 hf
      refine lv_sipush (v := (-1001 : Int32)) M.x M.b d_M_breach_22 rfl ?_
      obtain ⟨rfl, rfl⟩ := z_r2 hf
      exact z_iret M hH hS d_M_breach_25
    · replace hf := z_f c23 hf
      refine lv_iload_n M.x M.b d_M_breach_15 rfl (lv_at hl 3 rfl) ?_
      replace hf := z_bind hf; obtain ⟨i6, e5, hf⟩ := hf
      refine zk_S (st1 := [.int i6]) M hH hS (c_M_isLaw e5) w_M_isLaw q_828 [] rfl ⟨Nat.le_of_ble_eq_true rfl, Nat.le_of_ble_eq_true rfl⟩ hl.1 rfl rfl (Nat.le_of_ble_eq_true rfl) d_M_breach_16 (fun H locs hH hS => ?_)
      refine lv_if_ne (tgt := 26) M.x M.b d_M_breach_19 (by decide) (fun c22 => ?_) (fun c22 => ?_)
      · replace hf := z_f c22 hf
        refine lv_iload M.x M.b d_M_breach_26 (lv_at hl 4 rfl) ?_
        refine lv_i2l M.x M.b d_M_breach_28 rfl ?_
        refine lv_lconst (v := (0 : Int64)) M.x M.b d_M_breach_29 rfl ?_
        refine z_ldc2 (v := (2 : Int64)) M q_568 d_M_breach_30 ?_
        replace hf := z_bind hf; obtain ⟨i8, e7, hf⟩ := hf
        refine zk_S (st1 := [.int i8]) M hH hS (c_M_in e7) w_M_in q_551 [] rfl ⟨Nat.le_of_ble_eq_true rfl, Nat.le_of_ble_eq_true rfl⟩ hl.1 rfl rfl (Nat.le_of_ble_eq_true rfl) d_M_breach_33 (fun H locs hH hS => ?_)
        refine lv_if_ne (tgt := 43) M.x M.b d_M_breach_36 (by decide) (fun c21 => ?_) (fun c21 => ?_)
        · replace hf := z_f c21 hf
          refine lv_aload_n M.x M.b d_M_breach_43 rfl (lv_at hl 0 rfl) ?_
          refine lv_iload_n M.x M.b d_M_breach_44 rfl (lv_at hl 1 rfl) ?_
          refine lv_iload_n M.x M.b d_M_breach_45 rfl (lv_at hl 2 rfl) ?_
          refine lv_iload_n M.x M.b d_M_breach_46 rfl (lv_at hl 3 rfl) ?_
          replace hf := z_bind2 hf; obtain ⟨i10, h11, e9, hf⟩ := hf
          refine zk_V (ci := 8) (st1 := [.int i10]) M hH hS (c_M_isBroken e9) rfl (o_M_isBroken e9) w_M_isBroken q_827 [] rfl ⟨Nat.le_of_ble_eq_true rfl, Nat.le_of_ble_eq_true rfl⟩ hl.1 rfl rfl (Nat.le_of_ble_eq_true rfl) d_M_breach_47 (fun H locs hH hS => ?_)
          refine lv_if_ne (tgt := 55) M.x M.b d_M_breach_50 (by decide) (fun c20 => ?_) (fun c20 => ?_)
          · replace hf := z_f c20 hf
            refine lv_iload M.x M.b d_M_breach_55 (lv_at hl 4 rfl) ?_
            refine lv_if_ne (tgt := 67) M.x M.b d_M_breach_57 (by decide) (fun c19 => ?_) (fun c19 => ?_)
            · replace hf := z_f c19 hf
              refine lv_iload M.x M.b d_M_breach_67 (lv_at hl 4 rfl) ?_
              refine lv_iconst (v := (1 : Int32)) M.x M.b d_M_breach_69 rfl ?_
              refine lv_icmp_ne (tgt := 80) M.x M.b d_M_breach_70 (by decide) (fun c16 => ?_) (fun c16 => ?_)
              · replace hf := z_f c16 hf
                refine lv_aload_n M.x M.b d_M_breach_80 rfl (lv_at hl 0 rfl) ?_
                replace hf := z_bind hf; obtain ⟨i12, e13, hf⟩ := hf
                refine z_get (ci := 8) (k := 35) M hH rfl (by decide) zinM q_817 (gI_spec e13) d_M_breach_81 ?_
                obtain ⟨rfl, rfl⟩ := z_r2 hf
                exact z_iret M hH hS d_M_breach_84
              · replace hf := z_t c16 hf
                refine lv_aload_n M.x M.b d_M_breach_73 rfl (lv_at hl 0 rfl) ?_
                replace hf := z_bind hf; obtain ⟨i14, e15, hf⟩ := hf
                refine z_get (ci := 8) (k := 34) M hH rfl (by decide) zinM q_818 (gI_spec e15) d_M_breach_74 ?_
                refine lv_goto (tgt := 84) M.x M.b d_M_breach_77 (by decide) ?_
                obtain ⟨rfl, rfl⟩ := z_r2 hf
                exact z_iret M hH hS d_M_breach_84
            · replace hf := z_t c19 hf
              refine lv_aload_n M.x M.b d_M_breach_60 rfl (lv_at hl 0 rfl) ?_
              replace hf := z_bind hf; obtain ⟨i17, e18, hf⟩ := hf
              refine z_get (ci := 8) (k := 33) M hH rfl (by decide) zinM q_819 (gI_spec e18) d_M_breach_61 ?_
              refine lv_goto (tgt := 84) M.x M.b d_M_breach_64 (by decide) ?_
              obtain ⟨rfl, rfl⟩ := z_r2 hf
              exact z_iret M hH hS d_M_breach_84
          · replace hf := z_t c20 hf
            refine lv_iconst (v := (-1 : Int32)) M.x M.b d_M_breach_53 rfl ?_
            obtain ⟨rfl, rfl⟩ := z_r2 hf
            exact z_iret M hH hS d_M_breach_54
        · replace hf := z_t c21 hf
          refine lv_sipush (v := (-1002 : Int32)) M.x M.b d_M_breach_39 rfl ?_
          obtain ⟨rfl, rfl⟩ := z_r2 hf
          exact z_iret M hH hS d_M_breach_42
      · replace hf := z_t c22 hf
        refine lv_sipush (v := (-1001 : Int32)) M.x M.b d_M_breach_22 rfl ?_
        obtain ⟨rfl, rfl⟩ := z_r2 hf
        exact z_iret M hH hS d_M_breach_25
def t_M_bits_4 (k4 : Int32 → Int32 → Int32 → Option (Int32)) (x0 : Int32) (x1 : Int32) (x2 : Int32) : Option (Int32) :=
  if (7 : Int32) ≤ x2 then
    some x1
  else
  k4 x0 (x1 + ((x0 >>> (x2 &&& 31)) &&& (1 : Int32))) (x2 + (1 : Int32))
set_option maxRecDepth 100000 in
set_option maxHeartbeats 4000000 in
theorem v_M_bits_4 {p : Program} {l : Launch} {e : Env} {s : State} {m : MethodId} {args : Array Value} {below : List Frame} {meth : Method} {c : Code} {N0 : Nat} {D : va_G} {cs : Nat → ClassId} (M : ZC p s m args meth c "YearBasketsModel" "bits" b_M_bits 3 (some .int) N0 D cs)  {h : Hp} (k4 : Int32 → Int32 → Int32 → Option (Int32)) {r0 : Int32} (hk4 : ∀ (x0 : Int32) (x1 : Int32) (x2 : Int32), k4 x0 x1 x2 = some r0 → ZG p l e (zrm 1 0 0) s m args below meth c N0 D cs (some (.int r0)) h h 3 [(0, .int x0), (1, .int x1), (2, .int x2)] 4 []) (x0 : Int32) (x1 : Int32) (x2 : Int32) (hf : t_M_bits_4 k4 x0 x1 x2 = some r0) : ZG p l e (zrm 1 0 0) s m args below meth c N0 D cs (some (.int r0)) h h 3 [(0, .int x0), (1, .int x1), (2, .int x2)] 4 [] := by
  intro H locs ls hH hS hl
  unfold t_M_bits_4 at hf
  refine lv_iload_n M.x M.b d_M_bits_4 rfl (lv_at hl 2 rfl) ?_
  refine lv_bipush (v := (7 : Int32)) M.x M.b d_M_bits_5 rfl ?_
  refine lv_icmp_ge (tgt := 24) M.x M.b d_M_bits_7 (by decide) (fun c1 => ?_) (fun c1 => ?_)
  · replace hf := z_t c1 hf
    refine lv_iload_n M.x M.b d_M_bits_24 rfl (lv_at hl 1 rfl) ?_
    obtain rfl := z_r1 hf
    exact z_iret M hH hS d_M_bits_25
  · replace hf := z_f c1 hf
    refine lv_iload_n M.x M.b d_M_bits_10 rfl (lv_at hl 1 rfl) ?_
    refine lv_iload_n M.x M.b d_M_bits_11 rfl (lv_at hl 0 rfl) ?_
    refine lv_iload_n M.x M.b d_M_bits_12 rfl (lv_at hl 2 rfl) ?_
    refine lv_ishr M.x M.b d_M_bits_13 ?_
    refine lv_iconst (v := (1 : Int32)) M.x M.b d_M_bits_14 rfl ?_
    refine lv_iand M.x M.b d_M_bits_15 ?_
    refine lv_iadd M.x M.b d_M_bits_16 ?_
    refine lv_istore_n (lv' := [(1, .int (x1 + ((x0 >>> (x2 &&& 31)) &&& (1 : Int32)))), (0, .int x0), (2, .int x2)]) M.x M.b d_M_bits_17 rfl hl (by decide) rfl (fun ls hl => ?_)
    refine lv_iinc (v := (x2 + (1 : Int32))) (lv' := [(2, .int (x2 + (1 : Int32))), (1, .int (x1 + ((x0 >>> (x2 &&& 31)) &&& (1 : Int32)))), (0, .int x0)]) M.x M.b d_M_bits_18 hl (k := 2) rfl rfl (by decide) rfl (fun ls hl => ?_)
    refine lv_goto (tgt := 4) M.x M.b d_M_bits_21 (by decide) ?_
    exact hk4 _ _ _ hf H locs ls hH hS (lv_sub hl [2, 1, 0] rfl)
def f_M_bits_4  : Nat → Int32 → Int32 → Int32 → Option (Int32)
  | 0, _, _, _ => none
  | n + 1, x0, x1, x2 => t_M_bits_4 (f_M_bits_4 n) x0 x1 x2
theorem w_M_bits_4 {p : Program} {l : Launch} {e : Env} {s : State} {m : MethodId} {args : Array Value} {below : List Frame} {meth : Method} {c : Code} {N0 : Nat} {D : va_G} {cs : Nat → ClassId} (M : ZC p s m args meth c "YearBasketsModel" "bits" b_M_bits 3 (some .int) N0 D cs)  {h : Hp}  {r0 : Int32}  : ∀ (n : Nat) (x0 : Int32) (x1 : Int32) (x2 : Int32), f_M_bits_4 n x0 x1 x2 = some r0 → ZG p l e (zrm 1 0 0) s m args below meth c N0 D cs (some (.int r0)) h h 3 [(0, .int x0), (1, .int x1), (2, .int x2)] 4 [] := by
  intro n
  induction n with
  | zero => intro x0 x1 x2 hf; exact absurd (show none = some _ from hf) (fun q => by cases q)
  | succ n ih => intro x0 x1 x2 hf; exact v_M_bits_4 M (f_M_bits_4 n)  ih _ _ _ hf
def f_M_bits (x0 : Int32) : Option (Int32) :=
  f_M_bits_4  FU x0 (0 : Int32) (0 : Int32)
set_option maxRecDepth 100000 in
set_option maxHeartbeats 4000000 in
theorem c_M_bits {l : Launch} {N0 : Nat} {D : va_G} {cs : Nat → ClassId} {x0 : Int32} {r0 : Int32} {h : Hp} (hf : f_M_bits x0 = some r0) : Fn l N0 D cs y_M_bits b_M_bits 3 (some .int) 1 0 0 [.int x0] h (some (.int r0)) h := by
  refine z_start (by decide) (Nat.le_of_ble_eq_true rfl) ?_
  intro p e s m args below meth c M hH hS ls hl
  unfold f_M_bits at hf
  have hl : lv_has ls 3 [(0, .int x0)] := hl
  obtain ⟨H, hHe⟩ : ∃ H, H = s.heap := ⟨_, rfl⟩
  obtain ⟨locs, hLe⟩ : ∃ locs : List Loc, locs = [] := ⟨_, rfl⟩
  have hS : va_S (zA N0) s.heap H locs := by rw [hHe, hLe]; exact hS
  have hH : HH N0 D cs h H := by rw [hHe]; exact hH
  suffices hg : W p l e (zrm 1 0 0) s m args below meth c H locs 0 0 (MQ below (zQ N0 D cs (some (.int r0)) h) args s 0 0 (zA N0)) (F0 m 0 ls []) by rw [hHe, hLe] at hg; exact hg
  clear hHe hLe
  refine lv_iconst (v := (0 : Int32)) M.x M.b d_M_bits_0 rfl ?_
  refine lv_istore_n (lv' := [(1, .int (0 : Int32)), (0, .int x0)]) M.x M.b d_M_bits_1 rfl hl (by decide) rfl (fun ls hl => ?_)
  refine lv_iconst (v := (0 : Int32)) M.x M.b d_M_bits_2 rfl ?_
  refine lv_istore_n (lv' := [(2, .int (0 : Int32)), (1, .int (0 : Int32)), (0, .int x0)]) M.x M.b d_M_bits_3 rfl hl (by decide) rfl (fun ls hl => ?_)
  exact w_M_bits_4 M  FU _ _ _ hf H locs ls hH hS (lv_sub hl [2, 1, 0] rfl)
def f_M_clash_157 (this : Nat) (k78 : Int32 → Int32 → Hp → Option ((Int32 × Hp))) (s0 : Int32) (x3 : Int32) (h : Hp) : Option ((Int32 × Hp)) :=
  k78 s0 (x3 + (1 : Int32)) h
set_option maxRecDepth 100000 in
set_option maxHeartbeats 4000000 in
theorem w_M_clash_157 {p : Program} {l : Launch} {e : Env} {s : State} {m : MethodId} {args : Array Value} {below : List Frame} {meth : Method} {c : Code} {N0 : Nat} {D : va_G} {cs : Nat → ClassId} (M : ZC p s m args meth c "YearBasketsModel" "clash" b_M_clash 6 (some .int) N0 D cs) (this : Nat) (k78 : Int32 → Int32 → Hp → Option ((Int32 × Hp))) {r0 : Int32} {h0 : Hp} (hk78 : ∀ (x2 : Int32) (x3 : Int32) (h : Hp), k78 x2 x3 h = some (r0, h0) → ZG p l e (zrm 12 0 0) s m args below meth c N0 D cs (some (.int r0)) h0 h 6 [(0, .ref this), (2, .int x2), (3, .int x3)] 78 []) (s0 : Int32) (x3 : Int32) (h : Hp) (hf : f_M_clash_157 this k78 s0 x3 h = some (r0, h0)) : ZG p l e (zrm 12 0 0) s m args below meth c N0 D cs (some (.int r0)) h0 h 6 [(0, .ref this), (3, .int x3)] 157 [.int s0] := by
  intro H locs ls hH hS hl
  unfold f_M_clash_157 at hf
  refine lv_istore_n (lv' := [(2, .int s0), (0, .ref this), (3, .int x3)]) M.x M.b d_M_clash_157 rfl hl (by decide) rfl (fun ls hl => ?_)
  refine lv_iinc (v := (x3 + (1 : Int32))) (lv' := [(3, .int (x3 + (1 : Int32))), (2, .int s0), (0, .ref this)]) M.x M.b d_M_clash_158 hl (k := 2) rfl rfl (by decide) rfl (fun ls hl => ?_)
  refine lv_goto (tgt := 78) M.x M.b d_M_clash_161 (by decide) ?_
  exact hk78 _ _ _ hf H locs ls hH hS (lv_sub hl [2, 1, 0] rfl)
def f_M_clash_156 (this : Nat) (k78 : Int32 → Int32 → Hp → Option ((Int32 × Hp))) (x2 : Int32) (x3 : Int32) (h : Hp) : Option ((Int32 × Hp)) :=
  f_M_clash_157 this k78 x2 x3 h
set_option maxRecDepth 100000 in
set_option maxHeartbeats 4000000 in
theorem w_M_clash_156 {p : Program} {l : Launch} {e : Env} {s : State} {m : MethodId} {args : Array Value} {below : List Frame} {meth : Method} {c : Code} {N0 : Nat} {D : va_G} {cs : Nat → ClassId} (M : ZC p s m args meth c "YearBasketsModel" "clash" b_M_clash 6 (some .int) N0 D cs) (this : Nat) (k78 : Int32 → Int32 → Hp → Option ((Int32 × Hp))) {r0 : Int32} {h0 : Hp} (hk78 : ∀ (x2 : Int32) (x3 : Int32) (h : Hp), k78 x2 x3 h = some (r0, h0) → ZG p l e (zrm 12 0 0) s m args below meth c N0 D cs (some (.int r0)) h0 h 6 [(0, .ref this), (2, .int x2), (3, .int x3)] 78 []) (x2 : Int32) (x3 : Int32) (h : Hp) (hf : f_M_clash_156 this k78 x2 x3 h = some (r0, h0)) : ZG p l e (zrm 12 0 0) s m args below meth c N0 D cs (some (.int r0)) h0 h 6 [(0, .ref this), (2, .int x2), (3, .int x3)] 156 [] := by
  intro H locs ls hH hS hl
  unfold f_M_clash_156 at hf
  refine lv_iload_n M.x M.b d_M_clash_156 rfl (lv_at hl 1 rfl) ?_
  exact w_M_clash_157 M this k78 hk78 _ _ _ hf H locs ls hH hS (lv_sub hl [0, 2] rfl)
def f_M_clash_152 (this : Nat) (k78 : Int32 → Int32 → Hp → Option ((Int32 × Hp))) (x3 : Int32) (h : Hp) : Option ((Int32 × Hp)) :=
  f_M_clash_157 this k78 x3 x3 h
set_option maxRecDepth 100000 in
set_option maxHeartbeats 4000000 in
theorem w_M_clash_152 {p : Program} {l : Launch} {e : Env} {s : State} {m : MethodId} {args : Array Value} {below : List Frame} {meth : Method} {c : Code} {N0 : Nat} {D : va_G} {cs : Nat → ClassId} (M : ZC p s m args meth c "YearBasketsModel" "clash" b_M_clash 6 (some .int) N0 D cs) (this : Nat) (k78 : Int32 → Int32 → Hp → Option ((Int32 × Hp))) {r0 : Int32} {h0 : Hp} (hk78 : ∀ (x2 : Int32) (x3 : Int32) (h : Hp), k78 x2 x3 h = some (r0, h0) → ZG p l e (zrm 12 0 0) s m args below meth c N0 D cs (some (.int r0)) h0 h 6 [(0, .ref this), (2, .int x2), (3, .int x3)] 78 []) (x3 : Int32) (h : Hp) (hf : f_M_clash_152 this k78 x3 h = some (r0, h0)) : ZG p l e (zrm 12 0 0) s m args below meth c N0 D cs (some (.int r0)) h0 h 6 [(0, .ref this), (3, .int x3)] 152 [] := by
  intro H locs ls hH hS hl
  unfold f_M_clash_152 at hf
  refine lv_iload_n M.x M.b d_M_clash_152 rfl (lv_at hl 1 rfl) ?_
  refine lv_goto (tgt := 157) M.x M.b d_M_clash_153 (by decide) ?_
  exact w_M_clash_157 M this k78 hk78 _ _ _ hf H locs ls hH hS (lv_sub hl [0, 1] rfl)
def f_M_clash_124 (this : Nat) (k78 : Int32 → Int32 → Hp → Option ((Int32 × Hp))) (k91 : Int32 → Int32 → Int32 → Int32 → Hp → Option ((Int32 × Hp))) (s0 : Int32) (x2 : Int32) (x3 : Int32) (x5 : Int32) (h : Hp) : Option ((Int32 × Hp)) :=
  k91 x2 x3 s0 (x5 + (1 : Int32)) h
set_option maxRecDepth 100000 in
set_option maxHeartbeats 4000000 in
theorem w_M_clash_124 {p : Program} {l : Launch} {e : Env} {s : State} {m : MethodId} {args : Array Value} {below : List Frame} {meth : Method} {c : Code} {N0 : Nat} {D : va_G} {cs : Nat → ClassId} (M : ZC p s m args meth c "YearBasketsModel" "clash" b_M_clash 6 (some .int) N0 D cs) (this : Nat) (k78 : Int32 → Int32 → Hp → Option ((Int32 × Hp))) (k91 : Int32 → Int32 → Int32 → Int32 → Hp → Option ((Int32 × Hp))) {r0 : Int32} {h0 : Hp} (hk78 : ∀ (x2 : Int32) (x3 : Int32) (h : Hp), k78 x2 x3 h = some (r0, h0) → ZG p l e (zrm 12 0 0) s m args below meth c N0 D cs (some (.int r0)) h0 h 6 [(0, .ref this), (2, .int x2), (3, .int x3)] 78 []) (hk91 : ∀ (x2 : Int32) (x3 : Int32) (x4 : Int32) (x5 : Int32) (h : Hp), k91 x2 x3 x4 x5 h = some (r0, h0) → ZG p l e (zrm 12 0 0) s m args below meth c N0 D cs (some (.int r0)) h0 h 6 [(0, .ref this), (2, .int x2), (3, .int x3), (4, .int x4), (5, .int x5)] 91 []) (s0 : Int32) (x2 : Int32) (x3 : Int32) (x5 : Int32) (h : Hp) (hf : f_M_clash_124 this k78 k91 s0 x2 x3 x5 h = some (r0, h0)) : ZG p l e (zrm 12 0 0) s m args below meth c N0 D cs (some (.int r0)) h0 h 6 [(0, .ref this), (2, .int x2), (3, .int x3), (5, .int x5)] 124 [.int s0] := by
  intro H locs ls hH hS hl
  unfold f_M_clash_124 at hf
  refine lv_istore (lv' := [(4, .int s0), (0, .ref this), (2, .int x2), (3, .int x3), (5, .int x5)]) M.x M.b d_M_clash_124 hl (by decide) rfl (fun ls hl => ?_)
  refine lv_iinc (v := (x5 + (1 : Int32))) (lv' := [(5, .int (x5 + (1 : Int32))), (4, .int s0), (0, .ref this), (2, .int x2), (3, .int x3)]) M.x M.b d_M_clash_126 hl (k := 4) rfl rfl (by decide) rfl (fun ls hl => ?_)
  refine lv_goto (tgt := 91) M.x M.b d_M_clash_129 (by decide) ?_
  exact hk91 _ _ _ _ _ hf H locs ls hH hS (lv_sub hl [2, 3, 4, 1, 0] rfl)
def f_M_clash_119 (this : Nat) (k78 : Int32 → Int32 → Hp → Option ((Int32 × Hp))) (k91 : Int32 → Int32 → Int32 → Int32 → Hp → Option ((Int32 × Hp))) (x2 : Int32) (x3 : Int32) (x5 : Int32) (h : Hp) : Option ((Int32 × Hp)) :=
  f_M_clash_124 this k78 k91 (1 : Int32) x2 x3 x5 h
set_option maxRecDepth 100000 in
set_option maxHeartbeats 4000000 in
theorem w_M_clash_119 {p : Program} {l : Launch} {e : Env} {s : State} {m : MethodId} {args : Array Value} {below : List Frame} {meth : Method} {c : Code} {N0 : Nat} {D : va_G} {cs : Nat → ClassId} (M : ZC p s m args meth c "YearBasketsModel" "clash" b_M_clash 6 (some .int) N0 D cs) (this : Nat) (k78 : Int32 → Int32 → Hp → Option ((Int32 × Hp))) (k91 : Int32 → Int32 → Int32 → Int32 → Hp → Option ((Int32 × Hp))) {r0 : Int32} {h0 : Hp} (hk78 : ∀ (x2 : Int32) (x3 : Int32) (h : Hp), k78 x2 x3 h = some (r0, h0) → ZG p l e (zrm 12 0 0) s m args below meth c N0 D cs (some (.int r0)) h0 h 6 [(0, .ref this), (2, .int x2), (3, .int x3)] 78 []) (hk91 : ∀ (x2 : Int32) (x3 : Int32) (x4 : Int32) (x5 : Int32) (h : Hp), k91 x2 x3 x4 x5 h = some (r0, h0) → ZG p l e (zrm 12 0 0) s m args below meth c N0 D cs (some (.int r0)) h0 h 6 [(0, .ref this), (2, .int x2), (3, .int x3), (4, .int x4), (5, .int x5)] 91 []) (x2 : Int32) (x3 : Int32) (x5 : Int32) (h : Hp) (hf : f_M_clash_119 this k78 k91 x2 x3 x5 h = some (r0, h0)) : ZG p l e (zrm 12 0 0) s m args below meth c N0 D cs (some (.int r0)) h0 h 6 [(0, .ref this), (2, .int x2), (3, .int x3), (5, .int x5)] 119 [] := by
  intro H locs ls hH hS hl
  unfold f_M_clash_119 at hf
  refine lv_iconst (v := (1 : Int32)) M.x M.b d_M_clash_119 rfl ?_
  refine lv_goto (tgt := 124) M.x M.b d_M_clash_120 (by decide) ?_
  exact w_M_clash_124 M this k78 k91 hk78 hk91 _ _ _ _ _ hf H locs ls hH hS (lv_sub hl [0, 1, 2, 3] rfl)
def t_M_clash_91 (this : Nat) (k78 : Int32 → Int32 → Hp → Option ((Int32 × Hp))) (k91 : Int32 → Int32 → Int32 → Int32 → Hp → Option ((Int32 × Hp))) (x2 : Int32) (x3 : Int32) (x4 : Int32) (x5 : Int32) (h : Hp) : Option ((Int32 × Hp)) :=
  (gI h this 8 2).bind fun i1 =>
  if i1 ≤ x5 then
    if x4 = 0 then
      if x2 < 0 then
        f_M_clash_152 this k78 x3 h
      else
      (f_M_bits x3).bind fun i4 =>
      (f_M_bits x2).bind fun i6 =>
      if i6 ≤ i4 then
        f_M_clash_156 this k78 x2 x3 h
      else
      f_M_clash_152 this k78 x3 h
    else
    f_M_clash_156 this k78 x2 x3 h
  else
  if x4 = 0 then
    (gA h this 8 36).bind fun r10 =>
    (r10).bind fun a12 =>
    (aI h 0 a12 x5).bind fun i15 =>
    if (x3 &&& (i15 ^^^ (-1 : Int32))) = 0 then
      f_M_clash_119 this k78 k91 x2 x3 x5 h
    else
    f_M_clash_124 this k78 k91 (0 : Int32) x2 x3 x5 h
  else
  f_M_clash_119 this k78 k91 x2 x3 x5 h
set_option maxRecDepth 100000 in
set_option maxHeartbeats 4000000 in
theorem v_M_clash_91 {p : Program} {l : Launch} {e : Env} {s : State} {m : MethodId} {args : Array Value} {below : List Frame} {meth : Method} {c : Code} {N0 : Nat} {D : va_G} {cs : Nat → ClassId} (M : ZC p s m args meth c "YearBasketsModel" "clash" b_M_clash 6 (some .int) N0 D cs) (this : Nat) (k78 : Int32 → Int32 → Hp → Option ((Int32 × Hp))) (k91 : Int32 → Int32 → Int32 → Int32 → Hp → Option ((Int32 × Hp))) {r0 : Int32} {h0 : Hp} (hk78 : ∀ (x2 : Int32) (x3 : Int32) (h : Hp), k78 x2 x3 h = some (r0, h0) → ZG p l e (zrm 12 0 0) s m args below meth c N0 D cs (some (.int r0)) h0 h 6 [(0, .ref this), (2, .int x2), (3, .int x3)] 78 []) (hk91 : ∀ (x2 : Int32) (x3 : Int32) (x4 : Int32) (x5 : Int32) (h : Hp), k91 x2 x3 x4 x5 h = some (r0, h0) → ZG p l e (zrm 12 0 0) s m args below meth c N0 D cs (some (.int r0)) h0 h 6 [(0, .ref this), (2, .int x2), (3, .int x3), (4, .int x4), (5, .int x5)] 91 []) (x2 : Int32) (x3 : Int32) (x4 : Int32) (x5 : Int32) (h : Hp) (hf : t_M_clash_91 this k78 k91 x2 x3 x4 x5 h = some (r0, h0)) : ZG p l e (zrm 12 0 0) s m args below meth c N0 D cs (some (.int r0)) h0 h 6 [(0, .ref this), (2, .int x2), (3, .int x3), (4, .int x4), (5, .int x5)] 91 [] := by
  intro H locs ls hH hS hl
  unfold t_M_clash_91 at hf
  refine lv_iload M.x M.b d_M_clash_91 (lv_at hl 4 rfl) ?_
  refine lv_aload_n M.x M.b d_M_clash_93 rfl (lv_at hl 0 rfl) ?_
  replace hf := z_bind hf; obtain ⟨i1, e2, hf⟩ := hf
  refine z_get (ci := 8) (k := 2) M hH rfl (by decide) zinM q_597 (gI_spec e2) d_M_clash_94 ?_
  refine lv_icmp_ge (tgt := 132) M.x M.b d_M_clash_97 (by decide) (fun c18 => ?_) (fun c18 => ?_)
  · replace hf := z_t c18 hf
    refine lv_iload M.x M.b d_M_clash_132 (lv_at hl 3 rfl) ?_
    refine lv_if_ne (tgt := 156) M.x M.b d_M_clash_134 (by decide) (fun c9 => ?_) (fun c9 => ?_)
    · replace hf := z_f c9 hf
      exact w_M_clash_156 M this k78 hk78 _ _ _ hf H locs ls hH hS (lv_sub hl [0, 1, 2] rfl)
    · replace hf := z_t c9 hf
      refine lv_iload_n M.x M.b d_M_clash_137 rfl (lv_at hl 1 rfl) ?_
      refine lv_if_lt (tgt := 152) M.x M.b d_M_clash_138 (by decide) (fun c8 => ?_) (fun c8 => ?_)
      · replace hf := z_t c8 hf
        exact w_M_clash_152 M this k78 hk78 _ _ hf H locs ls hH hS (lv_sub hl [0, 2] rfl)
      · replace hf := z_f c8 hf
        refine lv_iload_n M.x M.b d_M_clash_141 rfl (lv_at hl 2 rfl) ?_
        replace hf := z_bind hf; obtain ⟨i4, e3, hf⟩ := hf
        refine zk_S (st1 := [.int i4]) M hH hS (c_M_bits e3) w_M_bits q_837 [] rfl ⟨Nat.le_of_ble_eq_true rfl, Nat.le_of_ble_eq_true rfl⟩ hl.1 rfl rfl (Nat.le_of_ble_eq_true rfl) d_M_clash_142 (fun H locs hH hS => ?_)
        refine lv_iload_n M.x M.b d_M_clash_145 rfl (lv_at hl 1 rfl) ?_
        replace hf := z_bind hf; obtain ⟨i6, e5, hf⟩ := hf
        refine zk_S (st1 := [.int i6, .int i4]) M hH hS (c_M_bits e5) w_M_bits q_837 [.int i4] rfl ⟨Nat.le_of_ble_eq_true rfl, Nat.le_of_ble_eq_true rfl⟩ hl.1 rfl rfl (Nat.le_of_ble_eq_true rfl) d_M_clash_146 (fun H locs hH hS => ?_)
        refine lv_icmp_ge (tgt := 156) M.x M.b d_M_clash_149 (by decide) (fun c7 => ?_) (fun c7 => ?_)
        · replace hf := z_t c7 hf
          exact w_M_clash_156 M this k78 hk78 _ _ _ hf H locs ls hH hS (lv_sub hl [0, 1, 2] rfl)
        · replace hf := z_f c7 hf
          exact w_M_clash_152 M this k78 hk78 _ _ hf H locs ls hH hS (lv_sub hl [0, 2] rfl)
  · replace hf := z_f c18 hf
    refine lv_iload M.x M.b d_M_clash_100 (lv_at hl 3 rfl) ?_
    refine lv_if_ne (tgt := 119) M.x M.b d_M_clash_102 (by decide) (fun c17 => ?_) (fun c17 => ?_)
    · replace hf := z_f c17 hf
      exact w_M_clash_119 M this k78 k91 hk78 hk91 _ _ _ _ hf H locs ls hH hS (lv_sub hl [0, 1, 2, 4] rfl)
    · replace hf := z_t c17 hf
      refine lv_iload_n M.x M.b d_M_clash_105 rfl (lv_at hl 2 rfl) ?_
      refine lv_aload_n M.x M.b d_M_clash_106 rfl (lv_at hl 0 rfl) ?_
      replace hf := z_bind hf; obtain ⟨r10, e11, hf⟩ := hf
      refine z_get (ci := 8) (k := 36) M hH rfl (by decide) zinM q_838 (gA_spec e11) d_M_clash_107 ?_
      refine lv_iload M.x M.b d_M_clash_110 (lv_at hl 4 rfl) ?_
      rcases r10 with _ | a12
      · exact absurd hf z_nb0
      replace hf := z_sb hf
      replace hf := z_bind hf; obtain ⟨i15, e14, hf⟩ := hf
      refine z_iald M hH e14 d_M_clash_112 ?_
      refine lv_iconst (v := (-1 : Int32)) M.x M.b d_M_clash_113 rfl ?_
      refine lv_ixor M.x M.b d_M_clash_114 ?_
      refine lv_iand M.x M.b d_M_clash_115 ?_
      refine lv_if_ne (tgt := 123) M.x M.b d_M_clash_116 (by decide) (fun c16 => ?_) (fun c16 => ?_)
      · replace hf := z_f c16 hf
        refine lv_iconst (v := (0 : Int32)) M.x M.b d_M_clash_123 rfl ?_
        exact w_M_clash_124 M this k78 k91 hk78 hk91 _ _ _ _ _ hf H locs ls hH hS (lv_sub hl [0, 1, 2, 4] rfl)
      · replace hf := z_t c16 hf
        exact w_M_clash_119 M this k78 k91 hk78 hk91 _ _ _ _ hf H locs ls hH hS (lv_sub hl [0, 1, 2, 4] rfl)
def f_M_clash_91 (this : Nat) (k78 : Int32 → Int32 → Hp → Option ((Int32 × Hp))) : Nat → Int32 → Int32 → Int32 → Int32 → Hp → Option ((Int32 × Hp))
  | 0, _, _, _, _, _ => none
  | n + 1, x2, x3, x4, x5, h => t_M_clash_91 this k78 (f_M_clash_91 this k78 n) x2 x3 x4 x5 h
theorem w_M_clash_91 {p : Program} {l : Launch} {e : Env} {s : State} {m : MethodId} {args : Array Value} {below : List Frame} {meth : Method} {c : Code} {N0 : Nat} {D : va_G} {cs : Nat → ClassId} (M : ZC p s m args meth c "YearBasketsModel" "clash" b_M_clash 6 (some .int) N0 D cs) (this : Nat) (k78 : Int32 → Int32 → Hp → Option ((Int32 × Hp))) {r0 : Int32} {h0 : Hp} (hk78 : ∀ (x2 : Int32) (x3 : Int32) (h : Hp), k78 x2 x3 h = some (r0, h0) → ZG p l e (zrm 12 0 0) s m args below meth c N0 D cs (some (.int r0)) h0 h 6 [(0, .ref this), (2, .int x2), (3, .int x3)] 78 []) : ∀ (n : Nat) (x2 : Int32) (x3 : Int32) (x4 : Int32) (x5 : Int32) (h : Hp), f_M_clash_91 this k78 n x2 x3 x4 x5 h = some (r0, h0) → ZG p l e (zrm 12 0 0) s m args below meth c N0 D cs (some (.int r0)) h0 h 6 [(0, .ref this), (2, .int x2), (3, .int x3), (4, .int x4), (5, .int x5)] 91 [] := by
  intro n
  induction n with
  | zero => intro x2 x3 x4 x5 h hf; exact absurd (show none = some _ from hf) (fun q => by cases q)
  | succ n ih => intro x2 x3 x4 x5 h hf; exact v_M_clash_91 M this k78 (f_M_clash_91 this k78 n) hk78 ih _ _ _ _ _ hf
def t_M_clash_78 (this : Nat) (k78 : Int32 → Int32 → Hp → Option ((Int32 × Hp))) (x2 : Int32) (x3 : Int32) (h : Hp) : Option ((Int32 × Hp)) :=
  if (128 : Int32) ≤ x3 then
    some (x2, h)
  else
  f_M_clash_91 this k78 FU x2 x3 (0 : Int32) (0 : Int32) h
set_option maxRecDepth 100000 in
set_option maxHeartbeats 4000000 in
theorem v_M_clash_78 {p : Program} {l : Launch} {e : Env} {s : State} {m : MethodId} {args : Array Value} {below : List Frame} {meth : Method} {c : Code} {N0 : Nat} {D : va_G} {cs : Nat → ClassId} (M : ZC p s m args meth c "YearBasketsModel" "clash" b_M_clash 6 (some .int) N0 D cs) (this : Nat) (k78 : Int32 → Int32 → Hp → Option ((Int32 × Hp))) {r0 : Int32} {h0 : Hp} (hk78 : ∀ (x2 : Int32) (x3 : Int32) (h : Hp), k78 x2 x3 h = some (r0, h0) → ZG p l e (zrm 12 0 0) s m args below meth c N0 D cs (some (.int r0)) h0 h 6 [(0, .ref this), (2, .int x2), (3, .int x3)] 78 []) (x2 : Int32) (x3 : Int32) (h : Hp) (hf : t_M_clash_78 this k78 x2 x3 h = some (r0, h0)) : ZG p l e (zrm 12 0 0) s m args below meth c N0 D cs (some (.int r0)) h0 h 6 [(0, .ref this), (2, .int x2), (3, .int x3)] 78 [] := by
  intro H locs ls hH hS hl
  unfold t_M_clash_78 at hf
  refine lv_iload_n M.x M.b d_M_clash_78 rfl (lv_at hl 2 rfl) ?_
  refine lv_sipush (v := (128 : Int32)) M.x M.b d_M_clash_79 rfl ?_
  refine lv_icmp_ge (tgt := 164) M.x M.b d_M_clash_82 (by decide) (fun c19 => ?_) (fun c19 => ?_)
  · replace hf := z_t c19 hf
    refine lv_iload_n M.x M.b d_M_clash_164 rfl (lv_at hl 1 rfl) ?_
    obtain ⟨rfl, rfl⟩ := z_r2 hf
    exact z_iret M hH hS d_M_clash_165
  · replace hf := z_f c19 hf
    refine lv_iconst (v := (0 : Int32)) M.x M.b d_M_clash_85 rfl ?_
    refine lv_istore (lv' := [(4, .int (0 : Int32)), (0, .ref this), (2, .int x2), (3, .int x3)]) M.x M.b d_M_clash_86 hl (by decide) rfl (fun ls hl => ?_)
    refine lv_iconst (v := (0 : Int32)) M.x M.b d_M_clash_88 rfl ?_
    refine lv_istore (lv' := [(5, .int (0 : Int32)), (4, .int (0 : Int32)), (0, .ref this), (2, .int x2), (3, .int x3)]) M.x M.b d_M_clash_89 hl (by decide) rfl (fun ls hl => ?_)
    exact w_M_clash_91 M this k78 hk78 FU _ _ _ _ _ hf H locs ls hH hS (lv_sub hl [2, 3, 4, 1, 0] rfl)
def f_M_clash_78 (this : Nat) : Nat → Int32 → Int32 → Hp → Option ((Int32 × Hp))
  | 0, _, _, _ => none
  | n + 1, x2, x3, h => t_M_clash_78 this (f_M_clash_78 this n) x2 x3 h
theorem w_M_clash_78 {p : Program} {l : Launch} {e : Env} {s : State} {m : MethodId} {args : Array Value} {below : List Frame} {meth : Method} {c : Code} {N0 : Nat} {D : va_G} {cs : Nat → ClassId} (M : ZC p s m args meth c "YearBasketsModel" "clash" b_M_clash 6 (some .int) N0 D cs) (this : Nat)  {r0 : Int32} {h0 : Hp}  : ∀ (n : Nat) (x2 : Int32) (x3 : Int32) (h : Hp), f_M_clash_78 this n x2 x3 h = some (r0, h0) → ZG p l e (zrm 12 0 0) s m args below meth c N0 D cs (some (.int r0)) h0 h 6 [(0, .ref this), (2, .int x2), (3, .int x3)] 78 [] := by
  intro n
  induction n with
  | zero => intro x2 x3 h hf; exact absurd (show none = some _ from hf) (fun q => by cases q)
  | succ n ih => intro x2 x3 h hf; exact v_M_clash_78 M this (f_M_clash_78 this n)  ih _ _ _ hf
def f_M_clash_60 (this : Nat) (k13 : Int32 → Int32 → Hp → Option ((Int32 × Hp))) (k30 : Int32 → Int32 → Int32 → Hp → Option ((Int32 × Hp))) (s0 : Nat) (s1 : Int32) (s2 : Int32) (s3 : Int32) (x1 : Int32) (x2 : Int32) (x3 : Int32) (h : Hp) : Option ((Int32 × Hp)) :=
  (sI h s0 s1 (s2 ||| s3)).bind fun h21 =>
  k30 x1 x2 (x3 + (1 : Int32)) h21
set_option maxRecDepth 100000 in
set_option maxHeartbeats 4000000 in
theorem w_M_clash_60 {p : Program} {l : Launch} {e : Env} {s : State} {m : MethodId} {args : Array Value} {below : List Frame} {meth : Method} {c : Code} {N0 : Nat} {D : va_G} {cs : Nat → ClassId} (M : ZC p s m args meth c "YearBasketsModel" "clash" b_M_clash 6 (some .int) N0 D cs) (this : Nat) (k13 : Int32 → Int32 → Hp → Option ((Int32 × Hp))) (k30 : Int32 → Int32 → Int32 → Hp → Option ((Int32 × Hp))) {r0 : Int32} {h0 : Hp} (hk13 : ∀ (x1 : Int32) (x2 : Int32) (h : Hp), k13 x1 x2 h = some (r0, h0) → ZG p l e (zrm 12 0 0) s m args below meth c N0 D cs (some (.int r0)) h0 h 6 [(0, .ref this), (1, .int x1), (2, .int x2)] 13 []) (hk30 : ∀ (x1 : Int32) (x2 : Int32) (x3 : Int32) (h : Hp), k30 x1 x2 x3 h = some (r0, h0) → ZG p l e (zrm 12 0 0) s m args below meth c N0 D cs (some (.int r0)) h0 h 6 [(0, .ref this), (1, .int x1), (2, .int x2), (3, .int x3)] 30 []) (s0 : Nat) (s1 : Int32) (s2 : Int32) (s3 : Int32) (x1 : Int32) (x2 : Int32) (x3 : Int32) (h : Hp) (hf : f_M_clash_60 this k13 k30 s0 s1 s2 s3 x1 x2 x3 h = some (r0, h0)) : ZG p l e (zrm 12 0 0) s m args below meth c N0 D cs (some (.int r0)) h0 h 6 [(0, .ref this), (1, .int x1), (2, .int x2), (3, .int x3)] 60 [.int s3, .int s2, .int s1, .ref s0] := by
  intro H locs ls hH hS hl
  unfold f_M_clash_60 at hf
  refine lv_ior M.x M.b d_M_clash_60 ?_
  replace hf := z_bind hf; obtain ⟨h21, e20, hf⟩ := hf
  refine z_iast M hH hS e20 d_M_clash_61 (fun H locs hH hS => ?_)
  refine lv_iinc (v := (x3 + (1 : Int32))) (lv' := [(3, .int (x3 + (1 : Int32))), (0, .ref this), (1, .int x1), (2, .int x2)]) M.x M.b d_M_clash_62 hl (k := 3) rfl rfl (by decide) rfl (fun ls hl => ?_)
  refine lv_goto (tgt := 30) M.x M.b d_M_clash_65 (by decide) ?_
  exact hk30 _ _ _ _ hf H locs ls hH hS (lv_sub hl [1, 2, 3, 0] rfl)
def t_M_clash_30 (this : Nat) (k13 : Int32 → Int32 → Hp → Option ((Int32 × Hp))) (k30 : Int32 → Int32 → Int32 → Hp → Option ((Int32 × Hp))) (x1 : Int32) (x2 : Int32) (x3 : Int32) (h : Hp) : Option ((Int32 × Hp)) :=
  if (7 : Int32) ≤ x3 then
    k13 x1 (x2 + (1 : Int32)) h
  else
  (gA h this 8 36).bind fun r22 =>
  (r22).bind fun a24 =>
  (aI h 0 a24 x2).bind fun i27 =>
  zb2 (f_M_isBroken this x2 x1 x3 h) fun i29 h30 =>
  if i29 = 0 then
    f_M_clash_60 this k13 k30 a24 x2 i27 ((1 : Int32) <<< (x3 &&& 31)) x1 x2 x3 h30
  else
  f_M_clash_60 this k13 k30 a24 x2 i27 (0 : Int32) x1 x2 x3 h30
set_option maxRecDepth 100000 in
set_option maxHeartbeats 4000000 in
theorem v_M_clash_30 {p : Program} {l : Launch} {e : Env} {s : State} {m : MethodId} {args : Array Value} {below : List Frame} {meth : Method} {c : Code} {N0 : Nat} {D : va_G} {cs : Nat → ClassId} (M : ZC p s m args meth c "YearBasketsModel" "clash" b_M_clash 6 (some .int) N0 D cs) (this : Nat) (k13 : Int32 → Int32 → Hp → Option ((Int32 × Hp))) (k30 : Int32 → Int32 → Int32 → Hp → Option ((Int32 × Hp))) {r0 : Int32} {h0 : Hp} (hk13 : ∀ (x1 : Int32) (x2 : Int32) (h : Hp), k13 x1 x2 h = some (r0, h0) → ZG p l e (zrm 12 0 0) s m args below meth c N0 D cs (some (.int r0)) h0 h 6 [(0, .ref this), (1, .int x1), (2, .int x2)] 13 []) (hk30 : ∀ (x1 : Int32) (x2 : Int32) (x3 : Int32) (h : Hp), k30 x1 x2 x3 h = some (r0, h0) → ZG p l e (zrm 12 0 0) s m args below meth c N0 D cs (some (.int r0)) h0 h 6 [(0, .ref this), (1, .int x1), (2, .int x2), (3, .int x3)] 30 []) (x1 : Int32) (x2 : Int32) (x3 : Int32) (h : Hp) (hf : t_M_clash_30 this k13 k30 x1 x2 x3 h = some (r0, h0)) : ZG p l e (zrm 12 0 0) s m args below meth c N0 D cs (some (.int r0)) h0 h 6 [(0, .ref this), (1, .int x1), (2, .int x2), (3, .int x3)] 30 [] := by
  intro H locs ls hH hS hl
  unfold t_M_clash_30 at hf
  refine lv_iload_n M.x M.b d_M_clash_30 rfl (lv_at hl 3 rfl) ?_
  refine lv_bipush (v := (7 : Int32)) M.x M.b d_M_clash_31 rfl ?_
  refine lv_icmp_ge (tgt := 68) M.x M.b d_M_clash_33 (by decide) (fun c32 => ?_) (fun c32 => ?_)
  · replace hf := z_t c32 hf
    refine lv_iinc (v := (x2 + (1 : Int32))) (lv' := [(2, .int (x2 + (1 : Int32))), (0, .ref this), (1, .int x1), (3, .int x3)]) M.x M.b d_M_clash_68 hl (k := 2) rfl rfl (by decide) rfl (fun ls hl => ?_)
    refine lv_goto (tgt := 13) M.x M.b d_M_clash_71 (by decide) ?_
    exact hk13 _ _ _ hf H locs ls hH hS (lv_sub hl [1, 2, 0] rfl)
  · replace hf := z_f c32 hf
    refine lv_aload_n M.x M.b d_M_clash_36 rfl (lv_at hl 0 rfl) ?_
    replace hf := z_bind hf; obtain ⟨r22, e23, hf⟩ := hf
    refine z_get (ci := 8) (k := 36) M hH rfl (by decide) zinM q_838 (gA_spec e23) d_M_clash_37 ?_
    refine lv_iload_n M.x M.b d_M_clash_40 rfl (lv_at hl 2 rfl) ?_
    rcases r22 with _ | a24
    · exact absurd hf z_nb0
    replace hf := z_sb hf
    refine lv_dup2_11 M.x M.b d_M_clash_41 rfl rfl ?_
    replace hf := z_bind hf; obtain ⟨i27, e26, hf⟩ := hf
    refine z_iald M hH e26 d_M_clash_42 ?_
    refine lv_aload_n M.x M.b d_M_clash_43 rfl (lv_at hl 0 rfl) ?_
    refine lv_iload_n M.x M.b d_M_clash_44 rfl (lv_at hl 2 rfl) ?_
    refine lv_iload_n M.x M.b d_M_clash_45 rfl (lv_at hl 1 rfl) ?_
    refine lv_iload_n M.x M.b d_M_clash_46 rfl (lv_at hl 3 rfl) ?_
    replace hf := z_bind2 hf; obtain ⟨i29, h30, e28, hf⟩ := hf
    refine zk_V (ci := 8) (st1 := [.int i29, .int i27, .int x2, .ref a24]) M hH hS (c_M_isBroken e28) rfl (o_M_isBroken e28) w_M_isBroken q_827 [.int i27, .int x2, .ref a24] rfl ⟨Nat.le_of_ble_eq_true rfl, Nat.le_of_ble_eq_true rfl⟩ hl.1 rfl rfl (Nat.le_of_ble_eq_true rfl) d_M_clash_47 (fun H locs hH hS => ?_)
    refine lv_if_eq (tgt := 57) M.x M.b d_M_clash_50 (by decide) (fun c31 => ?_) (fun c31 => ?_)
    · replace hf := z_t c31 hf
      refine lv_iconst (v := (1 : Int32)) M.x M.b d_M_clash_57 rfl ?_
      refine lv_iload_n M.x M.b d_M_clash_58 rfl (lv_at hl 3 rfl) ?_
      refine lv_ishl M.x M.b d_M_clash_59 ?_
      exact w_M_clash_60 M this k13 k30 hk13 hk30 _ _ _ _ _ _ _ _ hf H locs ls hH hS (lv_sub hl [0, 1, 2, 3] rfl)
    · replace hf := z_f c31 hf
      refine lv_iconst (v := (0 : Int32)) M.x M.b d_M_clash_53 rfl ?_
      refine lv_goto (tgt := 60) M.x M.b d_M_clash_54 (by decide) ?_
      exact w_M_clash_60 M this k13 k30 hk13 hk30 _ _ _ _ _ _ _ _ hf H locs ls hH hS (lv_sub hl [0, 1, 2, 3] rfl)
def f_M_clash_30 (this : Nat) (k13 : Int32 → Int32 → Hp → Option ((Int32 × Hp))) : Nat → Int32 → Int32 → Int32 → Hp → Option ((Int32 × Hp))
  | 0, _, _, _, _ => none
  | n + 1, x1, x2, x3, h => t_M_clash_30 this k13 (f_M_clash_30 this k13 n) x1 x2 x3 h
theorem w_M_clash_30 {p : Program} {l : Launch} {e : Env} {s : State} {m : MethodId} {args : Array Value} {below : List Frame} {meth : Method} {c : Code} {N0 : Nat} {D : va_G} {cs : Nat → ClassId} (M : ZC p s m args meth c "YearBasketsModel" "clash" b_M_clash 6 (some .int) N0 D cs) (this : Nat) (k13 : Int32 → Int32 → Hp → Option ((Int32 × Hp))) {r0 : Int32} {h0 : Hp} (hk13 : ∀ (x1 : Int32) (x2 : Int32) (h : Hp), k13 x1 x2 h = some (r0, h0) → ZG p l e (zrm 12 0 0) s m args below meth c N0 D cs (some (.int r0)) h0 h 6 [(0, .ref this), (1, .int x1), (2, .int x2)] 13 []) : ∀ (n : Nat) (x1 : Int32) (x2 : Int32) (x3 : Int32) (h : Hp), f_M_clash_30 this k13 n x1 x2 x3 h = some (r0, h0) → ZG p l e (zrm 12 0 0) s m args below meth c N0 D cs (some (.int r0)) h0 h 6 [(0, .ref this), (1, .int x1), (2, .int x2), (3, .int x3)] 30 [] := by
  intro n
  induction n with
  | zero => intro x1 x2 x3 h hf; exact absurd (show none = some _ from hf) (fun q => by cases q)
  | succ n ih => intro x1 x2 x3 h hf; exact v_M_clash_30 M this k13 (f_M_clash_30 this k13 n) hk13 ih _ _ _ _ hf
def t_M_clash_13 (this : Nat) (k13 : Int32 → Int32 → Hp → Option ((Int32 × Hp))) (x1 : Int32) (x2 : Int32) (h : Hp) : Option ((Int32 × Hp)) :=
  (gI h this 8 2).bind fun i33 =>
  if i33 ≤ x2 then
    f_M_clash_78 this FU (-1 : Int32) (0 : Int32) h
  else
  (gA h this 8 36).bind fun r35 =>
  (r35).bind fun a37 =>
  (sI h a37 x2 (0 : Int32)).bind fun h40 =>
  f_M_clash_30 this k13 FU x1 x2 (0 : Int32) h40
set_option maxRecDepth 100000 in
set_option maxHeartbeats 4000000 in
theorem v_M_clash_13 {p : Program} {l : Launch} {e : Env} {s : State} {m : MethodId} {args : Array Value} {below : List Frame} {meth : Method} {c : Code} {N0 : Nat} {D : va_G} {cs : Nat → ClassId} (M : ZC p s m args meth c "YearBasketsModel" "clash" b_M_clash 6 (some .int) N0 D cs) (this : Nat) (k13 : Int32 → Int32 → Hp → Option ((Int32 × Hp))) {r0 : Int32} {h0 : Hp} (hk13 : ∀ (x1 : Int32) (x2 : Int32) (h : Hp), k13 x1 x2 h = some (r0, h0) → ZG p l e (zrm 12 0 0) s m args below meth c N0 D cs (some (.int r0)) h0 h 6 [(0, .ref this), (1, .int x1), (2, .int x2)] 13 []) (x1 : Int32) (x2 : Int32) (h : Hp) (hf : t_M_clash_13 this k13 x1 x2 h = some (r0, h0)) : ZG p l e (zrm 12 0 0) s m args below meth c N0 D cs (some (.int r0)) h0 h 6 [(0, .ref this), (1, .int x1), (2, .int x2)] 13 [] := by
  intro H locs ls hH hS hl
  unfold t_M_clash_13 at hf
  refine lv_iload_n M.x M.b d_M_clash_13 rfl (lv_at hl 2 rfl) ?_
  refine lv_aload_n M.x M.b d_M_clash_14 rfl (lv_at hl 0 rfl) ?_
  replace hf := z_bind hf; obtain ⟨i33, e34, hf⟩ := hf
  refine z_get (ci := 8) (k := 2) M hH rfl (by decide) zinM q_597 (gI_spec e34) d_M_clash_15 ?_
  refine lv_icmp_ge (tgt := 74) M.x M.b d_M_clash_18 (by decide) (fun c41 => ?_) (fun c41 => ?_)
  · replace hf := z_t c41 hf
    refine lv_iconst (v := (-1 : Int32)) M.x M.b d_M_clash_74 rfl ?_
    refine lv_istore_n (lv' := [(2, .int (-1 : Int32)), (0, .ref this), (1, .int x1)]) M.x M.b d_M_clash_75 rfl hl (by decide) rfl (fun ls hl => ?_)
    refine lv_iconst (v := (0 : Int32)) M.x M.b d_M_clash_76 rfl ?_
    refine lv_istore_n (lv' := [(3, .int (0 : Int32)), (2, .int (-1 : Int32)), (0, .ref this), (1, .int x1)]) M.x M.b d_M_clash_77 rfl hl (by decide) rfl (fun ls hl => ?_)
    exact w_M_clash_78 M this FU _ _ _ hf H locs ls hH hS (lv_sub hl [2, 1, 0] rfl)
  · replace hf := z_f c41 hf
    refine lv_aload_n M.x M.b d_M_clash_21 rfl (lv_at hl 0 rfl) ?_
    replace hf := z_bind hf; obtain ⟨r35, e36, hf⟩ := hf
    refine z_get (ci := 8) (k := 36) M hH rfl (by decide) zinM q_838 (gA_spec e36) d_M_clash_22 ?_
    refine lv_iload_n M.x M.b d_M_clash_25 rfl (lv_at hl 2 rfl) ?_
    refine lv_iconst (v := (0 : Int32)) M.x M.b d_M_clash_26 rfl ?_
    rcases r35 with _ | a37
    · exact absurd hf z_nb0
    replace hf := z_sb hf
    replace hf := z_bind hf; obtain ⟨h40, e39, hf⟩ := hf
    refine z_iast M hH hS e39 d_M_clash_27 (fun H locs hH hS => ?_)
    refine lv_iconst (v := (0 : Int32)) M.x M.b d_M_clash_28 rfl ?_
    refine lv_istore_n (lv' := [(3, .int (0 : Int32)), (0, .ref this), (1, .int x1), (2, .int x2)]) M.x M.b d_M_clash_29 rfl hl (by decide) rfl (fun ls hl => ?_)
    exact w_M_clash_30 M this k13 hk13 FU _ _ _ _ hf H locs ls hH hS (lv_sub hl [1, 2, 3, 0] rfl)
def f_M_clash_13 (this : Nat) : Nat → Int32 → Int32 → Hp → Option ((Int32 × Hp))
  | 0, _, _, _ => none
  | n + 1, x1, x2, h => t_M_clash_13 this (f_M_clash_13 this n) x1 x2 h
theorem w_M_clash_13 {p : Program} {l : Launch} {e : Env} {s : State} {m : MethodId} {args : Array Value} {below : List Frame} {meth : Method} {c : Code} {N0 : Nat} {D : va_G} {cs : Nat → ClassId} (M : ZC p s m args meth c "YearBasketsModel" "clash" b_M_clash 6 (some .int) N0 D cs) (this : Nat)  {r0 : Int32} {h0 : Hp}  : ∀ (n : Nat) (x1 : Int32) (x2 : Int32) (h : Hp), f_M_clash_13 this n x1 x2 h = some (r0, h0) → ZG p l e (zrm 12 0 0) s m args below meth c N0 D cs (some (.int r0)) h0 h 6 [(0, .ref this), (1, .int x1), (2, .int x2)] 13 [] := by
  intro n
  induction n with
  | zero => intro x1 x2 h hf; exact absurd (show none = some _ from hf) (fun q => by cases q)
  | succ n ih => intro x1 x2 h hf; exact v_M_clash_13 M this (f_M_clash_13 this n)  ih _ _ _ hf
def f_M_clash (this : Nat) (x1 : Int32) (h : Hp) : Option ((Int32 × Hp)) :=
  if isO h this 8 = true then
  (f_M_isWho x1).bind fun i43 =>
  if i43 = 0 then
    some ((-1001 : Int32), h)
  else
  f_M_clash_13 this FU x1 (0 : Int32) h
  else none
theorem o_M_clash {this : Nat} {x1 : Int32} {h : Hp} {r0 : Int32} {h0 : Hp} (hf : f_M_clash this x1 h = some (r0, h0)) : isO h this 8 = true := by
  unfold f_M_clash at hf
  exact (z_gd hf).1
set_option maxRecDepth 100000 in
set_option maxHeartbeats 4000000 in
theorem c_M_clash {l : Launch} {N0 : Nat} {D : va_G} {cs : Nat → ClassId} {this : Nat} {x1 : Int32} {h : Hp} {r0 : Int32} {h0 : Hp} (hf : f_M_clash this x1 h = some (r0, h0)) : Fn l N0 D cs y_M_clash b_M_clash 6 (some .int) 12 0 0 [.ref this, .int x1] h (some (.int r0)) h0 := by
  refine z_start (by decide) (Nat.le_of_ble_eq_true rfl) ?_
  intro p e s m args below meth c M hH hS ls hl
  unfold f_M_clash at hf
  obtain ⟨hO, hf⟩ := z_gd hf
  have hl : lv_has ls 6 [(0, .ref this), (1, .int x1)] := hl
  obtain ⟨H, hHe⟩ : ∃ H, H = s.heap := ⟨_, rfl⟩
  obtain ⟨locs, hLe⟩ : ∃ locs : List Loc, locs = [] := ⟨_, rfl⟩
  have hS : va_S (zA N0) s.heap H locs := by rw [hHe, hLe]; exact hS
  have hH : HH N0 D cs h H := by rw [hHe]; exact hH
  suffices hg : W p l e (zrm 12 0 0) s m args below meth c H locs 0 0 (MQ below (zQ N0 D cs (some (.int r0)) h0) args s 0 0 (zA N0)) (F0 m 0 ls []) by rw [hHe, hLe] at hg; exact hg
  clear hHe hLe
  refine lv_iload_n M.x M.b d_M_clash_0 rfl (lv_at hl 1 rfl) ?_
  replace hf := z_bind hf; obtain ⟨i43, e42, hf⟩ := hf
  refine zk_S (st1 := [.int i43]) M hH hS (c_M_isWho e42) w_M_isWho q_582 [] rfl ⟨Nat.le_of_ble_eq_true rfl, Nat.le_of_ble_eq_true rfl⟩ hl.1 rfl rfl (Nat.le_of_ble_eq_true rfl) d_M_clash_1 (fun H locs hH hS => ?_)
  refine lv_if_ne (tgt := 11) M.x M.b d_M_clash_4 (by decide) (fun c44 => ?_) (fun c44 => ?_)
  · replace hf := z_f c44 hf
    refine lv_iconst (v := (0 : Int32)) M.x M.b d_M_clash_11 rfl ?_
    refine lv_istore_n (lv' := [(2, .int (0 : Int32)), (0, .ref this), (1, .int x1)]) M.x M.b d_M_clash_12 rfl hl (by decide) rfl (fun ls hl => ?_)
    exact w_M_clash_13 M this FU _ _ _ hf H locs ls hH hS (lv_sub hl [1, 2, 0] rfl)
  · replace hf := z_t c44 hf
    refine lv_sipush (v := (-1001 : Int32)) M.x M.b d_M_clash_7 rfl ?_
    obtain ⟨rfl, rfl⟩ := z_r2 hf
    exact z_iret M hH hS d_M_clash_10
